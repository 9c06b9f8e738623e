section BLKC
variable {sh : List xSh} {I : Nat → Nat → Int32} {R : Nat → Nat → Option Nat}
theorem bX9_feed_0 {v1 : Int32} {mc ms : Nat} {Q : Int32 → xHp → Prop} (hW : xLay sh R) 
    (k : ((v1 < 0 → Q (-1) (sh, I, R)) ∧ (¬ v1 < 0 → ((v1 ≤ (nI 127) → CI mX4_put [.ref 2, .int v1] (sh, I, R) (fun w h1 => Ex mX9_feed 20 [.ref 0, xU] (.int w :: []) h1 mc ms (xqI Q))) ∧ (¬ v1 ≤ (nI 127) → Q (-1) (sh, I, R)))))) :
    Ex mX9_feed 0 [.ref 0, .int v1] [] (sh, I, R) mc ms (xqI Q) := by
  refine xw_iload_n dX9_feed_0 rfl rfl ?_
  refine xw_iflt (tgt := 10) dX9_feed_1 (by decide) (fun c => ?_) (fun c => ?_)
  · replace k := k.1 c
    refine xw_iconst (v := (-1)) dX9_feed_10 rfl ?_
    exact yw_iret dX9_feed_11 rfl k
  · replace k := k.2 c
    refine xw_iload_n dX9_feed_4 rfl rfl ?_
    refine xw_bipush (v := nI 127) dX9_feed_5 (by decide) ?_
    refine xw_icle (tgt := 12) dX9_feed_7 (by decide) (fun c => ?_) (fun c => ?_)
    · replace k := k.1 c
      refine xw_aload_n dX9_feed_12 rfl rfl ?_
      refine yw_getR (r := 2) dX9_feed_13 fX9_21 rfl (la_0 hW) (lr_0_1 hW) ?_
      refine xw_iload_n dX9_feed_16 rfl rfl ?_
      refine yw_sub (lv' := [.ref 0, xU]) ⟨Or.inr rfl, Or.inl rfl, trivial⟩ ?_
      exact yw_cV (As := [.int v1]) (b := 2) (st := []) dX9_feed_17 lX9_79 kiX4_put kvX4_put rfl rfl rfl (la_2 hW) rfl (Nat.le_of_ble_eq_true rfl) rfl (xk_I k)
    · replace k := k.2 c
      refine xw_iconst (v := (-1)) dX9_feed_10 rfl ?_
      exact yw_iret dX9_feed_11 rfl k
theorem bX9_feed_20 {s0 : Int32} {mc ms : Nat} {Q : Int32 → xHp → Prop} (hW : xLay sh R) 
    (k : ((s0 = 0 → Q (-3) (sh, I, R)) ∧ (¬ s0 = 0 → Q (I 2 1) (sh, I, R)))) :
    Ex mX9_feed 20 [.ref 0, xU] [.int s0] (sh, I, R) mc ms (xqI Q) := by
  refine xw_ifeq (tgt := 33) dX9_feed_20 (by decide) (fun c => ?_) (fun c => ?_)
  · replace k := k.1 c
    refine xw_bipush (v := (-3)) dX9_feed_33 (by decide) ?_
    exact yw_iret dX9_feed_35 rfl k
  · replace k := k.2 c
    refine xw_aload_n dX9_feed_23 rfl rfl ?_
    refine yw_getR (r := 2) dX9_feed_24 fX9_21 rfl (la_0 hW) (lr_0_1 hW) ?_
    refine yw_getI (v := I 2 1) dX9_feed_27 fX9_83 rfl (la_2 hW) rfl ?_
    refine xw_goto (tgt := 35) dX9_feed_30 (by decide) ?_
    exact yw_iret dX9_feed_35 rfl k
theorem eX9_feed {v1 : Int32} {h : xHp} {Q : Int32 → xHp → Prop} (k : Ex mX9_feed 0 [.ref 0, .int v1] [] h 0 0 (xqI Q)) : CI mX9_feed [.ref 0, .int v1] h Q := k
theorem bX9_end_0 {v1 : Int32} {mc ms : Nat} {Q : Int32 → xHp → Prop} (hW : xLay sh R) 
    (k : ((v1 < 0 → Q (-1) (sh, I, R)) ∧ (¬ v1 < 0 → ((v1 ≤ (I 2 1) → Q (I 2 1) (sh, (xi I 2 1 v1), R)) ∧ (¬ v1 ≤ (I 2 1) → Q (-1) (sh, I, R)))))) :
    Ex mX9_end 0 [.ref 0, .int v1, xU] [] (sh, I, R) mc ms (xqI Q) := by
  refine xw_aload_n dX9_end_0 rfl rfl ?_
  refine yw_getR (r := 2) dX9_end_1 fX9_21 rfl (la_0 hW) (lr_0_1 hW) ?_
  refine yw_getI (v := I 2 1) dX9_end_4 fX9_83 rfl (la_2 hW) rfl ?_
  refine yw_istore_n (lv' := [.ref 0, .int v1, .int (I 2 1)]) dX9_end_7 rfl rfl rfl rfl ?_
  refine xw_iload_n dX9_end_8 rfl rfl ?_
  refine xw_iflt (tgt := 17) dX9_end_9 (by decide) (fun c => ?_) (fun c => ?_)
  · replace k := k.1 c
    refine xw_iconst (v := (-1)) dX9_end_17 rfl ?_
    exact yw_iret dX9_end_18 rfl k
  · replace k := k.2 c
    refine xw_iload_n dX9_end_12 rfl rfl ?_
    refine xw_iload_n dX9_end_13 rfl rfl ?_
    refine xw_icle (tgt := 19) dX9_end_14 (by decide) (fun c => ?_) (fun c => ?_)
    · replace k := k.1 c
      refine xw_aload_n dX9_end_19 rfl rfl ?_
      refine yw_getR (r := 2) dX9_end_20 fX9_21 rfl (la_0 hW) (lr_0_1 hW) ?_
      refine xw_iload_n dX9_end_23 rfl rfl ?_
      refine yw_putI dX9_end_24 fX9_83 (fun r h => by cases h; exact Or.inl rfl) rfl (la_2 hW) ?_
      refine xw_iload_n dX9_end_27 rfl rfl ?_
      exact yw_iret dX9_end_28 rfl k
    · replace k := k.2 c
      refine xw_iconst (v := (-1)) dX9_end_17 rfl ?_
      exact yw_iret dX9_end_18 rfl k
theorem eX9_end {v1 : Int32} {h : xHp} {Q : Int32 → xHp → Prop} (k : Ex mX9_end 0 [.ref 0, .int v1, xU] [] h 0 0 (xqI Q)) : CI mX9_end [.ref 0, .int v1] h Q := k
theorem bX9_changed_0 {mc ms : Nat} {Q : xHp → Prop} (hW : xLay sh R) 
    (k : CV mX8_renew [.ref 9] (sh, (xi I 0 11 (nI 0)), R) (fun h1 => Ex mX9_changed 12 [xU] [] h1 mc ms (xqV Q))) :
    Ex mX9_changed 0 [.ref 0] [] (sh, I, R) mc ms (xqV Q) := by
  refine xw_aload_n dX9_changed_0 rfl rfl ?_
  refine xw_iconst (v := nI 0) dX9_changed_1 rfl ?_
  refine yw_putZ dX9_changed_2 fX9_315 (fun r h => by cases h; exact Or.inl rfl) rfl (Or.inl rfl) (la_0 hW) ?_
  refine xw_aload_n dX9_changed_5 rfl rfl ?_
  refine yw_getR (r := 9) dX9_changed_6 fX9_28 rfl (la_0 hW) (lr_0_2 hW) ?_
  refine yw_sub (lv' := [xU]) ⟨Or.inl rfl, trivial⟩ ?_
  exact yw_cV (As := []) (b := 9) (st := []) dX9_changed_9 lX9_353 kiX8_renew kvX8_renew rfl rfl rfl hW.2.2.1.1 rfl (Nat.le_of_ble_eq_true rfl) rfl (xk_V k)
theorem bX9_changed_12 {mc ms : Nat} {Q : xHp → Prop} (hW : xLay sh R) 
    (k : Q (sh, I, R)) :
    Ex mX9_changed 12 [xU] [] (sh, I, R) mc ms (xqV Q) := by
  exact yw_vret dX9_changed_12 rfl k
theorem eX9_changed {h : xHp} {Q : xHp → Prop} (k : Ex mX9_changed 0 [.ref 0] [] h 0 0 (xqV Q)) : CV mX9_changed [.ref 0] h Q := k
theorem bX9_text_0 {mc ms : Nat} {Q : Int32 → xHp → Prop} (hW : xLay sh R) 
    (k : CI mX4_readAll [.ref 2] (sh, I, R) (fun w h1 => Ex mX9_text 7 [.ref 0, xU, xU] (.int w :: []) h1 mc ms (xqI Q))) :
    Ex mX9_text 0 [.ref 0, xU, xU] [] (sh, I, R) mc ms (xqI Q) := by
  refine xw_aload_n dX9_text_0 rfl rfl ?_
  refine yw_getR (r := 2) dX9_text_1 fX9_21 rfl (la_0 hW) (lr_0_1 hW) ?_
  exact yw_cV (As := []) (b := 2) (st := []) dX9_text_4 lX9_87 kiX4_readAll kvX4_readAll rfl rfl rfl (la_2 hW) rfl (Nat.le_of_ble_eq_true rfl) rfl (xk_I k)
theorem bX9_text_7 {s0 : Int32} {mc ms : Nat} {Q : Int32 → xHp → Prop} (hW : xLay sh R) 
    (k : (((I 2 13) = 0 → CV mX5_become [.ref 1, .int (I 2 10), .int (I 2 11)] (sh, (xi (xi I 2 1 (nI 0)) 0 14 (I 2 13)), R) (fun h1 => Ex mX9_text 66 [.ref 0, .int s0, xU] [] h1 mc ms (xqI Q))) ∧ (¬ (I 2 13) = 0 → Q ((-10) - (I 2 14)) (sh, (xi (xi I 2 1 (nI 0)) 0 14 (I 2 13)), R)))) :
    Ex mX9_text 7 [.ref 0, xU, xU] [.int s0] (sh, I, R) mc ms (xqI Q) := by
  refine yw_istore_n (lv' := [.ref 0, .int s0, xU]) dX9_text_7 rfl rfl rfl rfl ?_
  refine xw_aload_n dX9_text_8 rfl rfl ?_
  refine yw_getR (r := 2) dX9_text_9 fX9_21 rfl (la_0 hW) (lr_0_1 hW) ?_
  refine xw_iconst (v := nI 0) dX9_text_12 rfl ?_
  refine yw_putI dX9_text_13 fX9_83 (fun r h => by cases h; exact Or.inl rfl) rfl (la_2 hW) ?_
  refine xw_aload_n dX9_text_16 rfl rfl ?_
  refine xw_aload_n dX9_text_17 rfl rfl ?_
  refine yw_getR (r := 2) dX9_text_18 fX9_21 rfl (la_0 hW) (lr_0_1 hW) ?_
  refine yw_getI (v := I 2 13) dX9_text_21 fX9_91 rfl (la_2 hW) (xi_s (j := 13) (k := 1) (by decide)) ?_
  refine yw_putI dX9_text_24 fX9_94 (fun r h => by cases h; exact Or.inl rfl) rfl (la_0 hW) ?_
  refine xw_aload_n dX9_text_27 rfl rfl ?_
  refine yw_getI (v := I 2 13) dX9_text_28 fX9_94 rfl (la_0 hW) (xi_e) ?_
  refine xw_ifeq (tgt := 45) dX9_text_31 (by decide) (fun c => ?_) (fun c => ?_)
  · replace k := k.1 c
    refine xw_aload_n dX9_text_45 rfl rfl ?_
    refine yw_getR (r := 1) dX9_text_46 fX9_10 rfl (la_0 hW) (lr_0_0 hW) ?_
    refine xw_aload_n dX9_text_49 rfl rfl ?_
    refine yw_getR (r := 2) dX9_text_50 fX9_21 rfl (la_0 hW) (lr_0_1 hW) ?_
    refine yw_getI (v := I 2 10) dX9_text_53 fX9_100 rfl (la_2 hW) ((xi_p (a := 2) (q := 0) (by decide)).trans (xi_s (j := 10) (k := 1) (by decide))) ?_
    refine xw_aload_n dX9_text_56 rfl rfl ?_
    refine yw_getR (r := 2) dX9_text_57 fX9_21 rfl (la_0 hW) (lr_0_1 hW) ?_
    refine yw_getI (v := I 2 11) dX9_text_60 fX9_103 rfl (la_2 hW) ((xi_p (a := 2) (q := 0) (by decide)).trans (xi_s (j := 11) (k := 1) (by decide))) ?_
    exact yw_cV (As := [.int (I 2 10), .int (I 2 11)]) (b := 1) (st := []) dX9_text_63 lX9_106 kiX5_become kvX5_become rfl rfl rfl (la_1 hW) rfl (Nat.le_of_ble_eq_true rfl) rfl (xk_V k)
  · replace k := k.2 c
    refine xw_bipush (v := (-10)) dX9_text_34 (by decide) ?_
    refine xw_aload_n dX9_text_36 rfl rfl ?_
    refine yw_getR (r := 2) dX9_text_37 fX9_21 rfl (la_0 hW) (lr_0_1 hW) ?_
    refine yw_getI (v := I 2 14) dX9_text_40 fX9_97 rfl (la_2 hW) ((xi_p (a := 2) (q := 0) (by decide)).trans (xi_s (j := 14) (k := 1) (by decide))) ?_
    refine xw_isub dX9_text_43 ?_
    exact yw_iret dX9_text_44 rfl k
theorem bX9_text_66 {v1 : Int32} {mc ms : Nat} {Q : Int32 → xHp → Prop} (hW : xLay sh R) 
    (k : CV mX4_hand [.ref 2, .ref 12] (sh, I, R) (fun h1 => Ex mX9_text 80 [.ref 0, .int v1, xU] [] h1 mc ms (xqI Q))) :
    Ex mX9_text 66 [.ref 0, .int v1, xU] [] (sh, I, R) mc ms (xqI Q) := by
  refine xw_aload_n dX9_text_66 rfl rfl ?_
  refine yw_getR (r := 2) dX9_text_67 fX9_21 rfl (la_0 hW) (lr_0_1 hW) ?_
  refine xw_aload_n dX9_text_70 rfl rfl ?_
  refine yw_getR (r := 9) dX9_text_71 fX9_28 rfl (la_0 hW) (lr_0_2 hW) ?_
  refine yw_getR (r := 12) dX9_text_74 fX9_110 rfl hW.2.2.1.1 hW.2.2.1.2.2.2.2.2.2.1 ?_
  exact yw_cV (As := [.ref 12]) (b := 2) (st := []) dX9_text_77 lX9_113 kiX4_hand kvX4_hand rfl rfl rfl (la_2 hW) rfl (Nat.le_of_ble_eq_true rfl) rfl (xk_V k)
theorem bX9_text_80 {v1 : Int32} {mc ms : Nat} {Q : Int32 → xHp → Prop} (hW : xLay sh R) 
    (k : CV mX9_changed [.ref 0] (sh, I, R) (fun h1 => Ex mX9_text 84 [.ref 0, .int v1, xU] [] h1 mc ms (xqI Q))) :
    Ex mX9_text 80 [.ref 0, .int v1, xU] [] (sh, I, R) mc ms (xqI Q) := by
  refine xw_aload_n dX9_text_80 rfl rfl ?_
  exact yw_cV (As := []) (b := 0) (st := []) dX9_text_81 lX9_117 kiX9_changed kvX9_changed rfl rfl rfl (la_0 hW) rfl (Nat.le_of_ble_eq_true rfl) rfl (xk_V k)
theorem bX9_text_84 {v1 : Int32} {mc ms : Nat} {Q : Int32 → xHp → Prop} (hW : xLay sh R) 
    (k : Ex mX9_text 96 [.ref 0, .int v1, .int (nI 0)] [] (sh, (xi (xi I 0 12 (nI 0)) 0 13 (nI 0)), R) mc ms (xqI Q)) :
    Ex mX9_text 84 [.ref 0, .int v1, xU] [] (sh, I, R) mc ms (xqI Q) := by
  refine xw_aload_n dX9_text_84 rfl rfl ?_
  refine xw_iconst (v := nI 0) dX9_text_85 rfl ?_
  refine yw_putI dX9_text_86 fX9_120 (fun r h => by cases h; exact Or.inl rfl) rfl (la_0 hW) ?_
  refine xw_aload_n dX9_text_89 rfl rfl ?_
  refine xw_iconst (v := nI 0) dX9_text_90 rfl ?_
  refine yw_putI dX9_text_91 fX9_123 (fun r h => by cases h; exact Or.inl rfl) rfl (la_0 hW) ?_
  refine xw_iconst (v := nI 0) dX9_text_94 rfl ?_
  refine yw_istore_n (lv' := [.ref 0, .int v1, .int (nI 0)]) dX9_text_95 rfl rfl rfl rfl ?_
  exact k
theorem bX9_text_96 {v1 v2 : Int32} {mc ms : Nat} {Q : Int32 → xHp → Prop} (hW : xLay sh R) 
    (k : (((nI 2) ≤ v2 → Ex mX9_text 116 [.ref 0, .int v1, .int (nI 0)] [] (sh, I, R) mc ms (xqI Q)) ∧ (¬ (nI 2) ≤ v2 → vp_in v2 2 ∧ Ex mX9_text 96 [.ref 0, .int v1, .int (v2 + nI 1)] [] (sh, (xi I 21 v2.toNatClampNeg (vp_nar .boolean (nI 0))), R) mc ms (xqI Q)))) :
    Ex mX9_text 96 [.ref 0, .int v1, .int v2] [] (sh, I, R) mc ms (xqI Q) := by
  refine xw_iload_n dX9_text_96 rfl rfl ?_
  refine xw_iconst (v := nI 2) dX9_text_97 rfl ?_
  refine xw_icge (tgt := 114) dX9_text_98 (by decide) (fun c => ?_) (fun c => ?_)
  · replace k := k.1 c
    refine xw_iconst (v := nI 0) dX9_text_114 rfl ?_
    refine yw_istore_n (lv' := [.ref 0, .int v1, .int (nI 0)]) dX9_text_115 rfl rfl rfl rfl ?_
    exact k
  · replace k := k.2 c
    refine xw_aload_n dX9_text_101 rfl rfl ?_
    refine yw_getR (r := 21) dX9_text_102 fX9_36 rfl (la_0 hW) (lr_0_4 hW) ?_
    refine xw_iload_n dX9_text_105 rfl rfl ?_
    refine xw_iconst (v := nI 0) dX9_text_106 rfl ?_
    obtain ⟨k0, k⟩ := k
    refine yw_zastore dX9_text_107 (la_21 hW) k0 ?_
    refine yw_iinc (lv' := [.ref 0, .int v1, .int (v2 + nI 1)]) (v := nI 1) dX9_text_108 rfl rfl rfl rfl rfl ?_
    refine xw_goto (tgt := 96) dX9_text_111 (by decide) ?_
    exact k
theorem bX9_text_116 {v1 v2 : Int32} {mc ms : Nat} {Q : Int32 → xHp → Prop} (hW : xLay sh R) 
    (k : (((nI 3) ≤ v2 → Q v1 (sh, I, R)) ∧ (¬ (nI 3) ≤ v2 → vp_in v2 3 ∧ CV mX6_vanish [.ref (200 + 3 * v2.toNatClampNeg)] (sh, I, R) (fun h1 => Ex mX9_text 130 [.ref 0, .int v1, .int v2] [] h1 mc ms (xqI Q))))) :
    Ex mX9_text 116 [.ref 0, .int v1, .int v2] [] (sh, I, R) mc ms (xqI Q) := by
  refine xw_iload_n dX9_text_116 rfl rfl ?_
  refine xw_iconst (v := nI 3) dX9_text_117 rfl ?_
  refine xw_icge (tgt := 136) dX9_text_118 (by decide) (fun c => ?_) (fun c => ?_)
  · replace k := k.1 c
    refine xw_iload_n dX9_text_136 rfl rfl ?_
    exact yw_iret dX9_text_137 rfl k
  · replace k := k.2 c
    refine xw_aload_n dX9_text_121 rfl rfl ?_
    refine yw_getR (r := 22) dX9_text_122 fX9_42 rfl (la_0 hW) (lr_0_5 hW) ?_
    refine xw_iload_n dX9_text_125 rfl rfl ?_
    obtain ⟨kk1, k⟩ := k
    refine yw_aaload (r := (200 + 3 * v2.toNatClampNeg)) dX9_text_126 (la_22 hW) (by decide) kk1 (la_shf hW (vp_lt kk1)) ?_
    exact yw_cV (As := []) (b := (200 + 3 * v2.toNatClampNeg)) (st := []) dX9_text_127 lX9_126 kiX6_vanish kvX6_vanish rfl rfl rfl (hW.2.2.2.2.2.2.1 _ (vp_lt kk1)).1 rfl (Nat.le_of_ble_eq_true rfl) rfl (xk_V k)
theorem bX9_text_130 {v1 v2 : Int32} {mc ms : Nat} {Q : Int32 → xHp → Prop} (hW : xLay sh R) 
    (k : Ex mX9_text 116 [.ref 0, .int v1, .int (v2 + nI 1)] [] (sh, I, R) mc ms (xqI Q)) :
    Ex mX9_text 130 [.ref 0, .int v1, .int v2] [] (sh, I, R) mc ms (xqI Q) := by
  refine yw_iinc (lv' := [.ref 0, .int v1, .int (v2 + nI 1)]) (v := nI 1) dX9_text_130 rfl rfl rfl rfl rfl ?_
  refine xw_goto (tgt := 116) dX9_text_133 (by decide) ?_
  exact k
theorem eX9_text {h : xHp} {Q : Int32 → xHp → Prop} (k : Ex mX9_text 0 [.ref 0, xU, xU] [] h 0 0 (xqI Q)) : CI mX9_text [.ref 0] h Q := k
theorem bX9_fault_0 {mc ms : Nat} {Q : Int32 → xHp → Prop} (hW : xLay sh R) 
    (k : Q (I 0 14) (sh, I, R)) :
    Ex mX9_fault 0 [.ref 0] [] (sh, I, R) mc ms (xqI Q) := by
  refine xw_aload_n dX9_fault_0 rfl rfl ?_
  refine yw_getI (v := I 0 14) dX9_fault_1 fX9_94 rfl (la_0 hW) rfl ?_
  exact yw_iret dX9_fault_4 rfl k
theorem eX9_fault {h : xHp} {Q : Int32 → xHp → Prop} (k : Ex mX9_fault 0 [.ref 0] [] h 0 0 (xqI Q)) : CI mX9_fault [.ref 0] h Q := k
theorem bX9_leastMachine_0 {mc ms : Nat} {Q : Option Nat → xHp → Prop} (hW : xLay sh R) 
    (k : ((¬ (I 0 11) = 0 → Q (some 173) (sh, I, R)) ∧ ((I 0 11) = 0 → CV mX0_seeAllEndings [.ref 23, .ref 12] (sh, I, R) (fun h1 => Ex mX9_leastMachine 21 [.ref 0] [] h1 mc ms (xqR Q))))) :
    Ex mX9_leastMachine 0 [.ref 0] [] (sh, I, R) mc ms (xqR Q) := by
  refine xw_aload_n dX9_leastMachine_0 rfl rfl ?_
  refine yw_getI (v := I 0 11) dX9_leastMachine_1 fX9_315 rfl (la_0 hW) rfl ?_
  refine xw_ifne (tgt := 68) dX9_leastMachine_4 (by decide) (fun c => ?_) (fun c => ?_)
  · replace k := k.1 c
    refine xw_aload_n dX9_leastMachine_68 rfl rfl ?_
    refine yw_getR (r := 173) dX9_leastMachine_69 fX9_71 rfl (la_0 hW) (lr_0_9 hW) ?_
    exact yw_aretR dX9_leastMachine_72 rfl k
  · replace k := k.2 c
    refine xw_aload_n dX9_leastMachine_7 rfl rfl ?_
    refine yw_getR (r := 23) dX9_leastMachine_8 fX9_49 rfl (la_0 hW) (lr_0_6 hW) ?_
    refine xw_aload_n dX9_leastMachine_11 rfl rfl ?_
    refine yw_getR (r := 9) dX9_leastMachine_12 fX9_28 rfl (la_0 hW) (lr_0_2 hW) ?_
    refine yw_getR (r := 12) dX9_leastMachine_15 fX9_110 rfl hW.2.2.1.1 hW.2.2.1.2.2.2.2.2.2.1 ?_
    exact yw_cV (As := [.ref 12]) (b := 23) (st := []) dX9_leastMachine_18 lX9_211 kiX0_seeAllEndings kvX0_seeAllEndings rfl rfl rfl (la_23 hW) rfl (Nat.le_of_ble_eq_true rfl) rfl (xk_V k)
theorem bX9_leastMachine_21 {mc ms : Nat} {Q : Option Nat → xHp → Prop} (hW : xLay sh R) 
    (k : CI mX0_widen [.ref 23] (sh, I, R) (fun w h1 => Ex mX9_leastMachine 28 [.ref 0] (.int w :: []) h1 mc ms (xqR Q))) :
    Ex mX9_leastMachine 21 [.ref 0] [] (sh, I, R) mc ms (xqR Q) := by
  refine xw_aload_n dX9_leastMachine_21 rfl rfl ?_
  refine yw_getR (r := 23) dX9_leastMachine_22 fX9_49 rfl (la_0 hW) (lr_0_6 hW) ?_
  exact yw_cV (As := []) (b := 23) (st := []) dX9_leastMachine_25 lX9_205 kiX0_widen kvX0_widen rfl rfl rfl (la_23 hW) rfl (Nat.le_of_ble_eq_true rfl) rfl (xk_I k)
theorem bX9_leastMachine_28 {s0 : Int32} {mc ms : Nat} {Q : Option Nat → xHp → Prop} (hW : xLay sh R) 
    (k : CV mX0_build [.ref 23, .ref 173] (sh, I, R) (fun h1 => Ex mX9_leastMachine 40 [.ref 0] [] h1 mc ms (xqR Q))) :
    Ex mX9_leastMachine 28 [.ref 0] [.int s0] (sh, I, R) mc ms (xqR Q) := by
  refine xw_pop dX9_leastMachine_28 rfl ?_
  refine xw_aload_n dX9_leastMachine_29 rfl rfl ?_
  refine yw_getR (r := 23) dX9_leastMachine_30 fX9_49 rfl (la_0 hW) (lr_0_6 hW) ?_
  refine xw_aload_n dX9_leastMachine_33 rfl rfl ?_
  refine yw_getR (r := 173) dX9_leastMachine_34 fX9_71 rfl (la_0 hW) (lr_0_9 hW) ?_
  exact yw_cV (As := [.ref 173]) (b := 23) (st := []) dX9_leastMachine_37 lX9_265 kiX0_build kvX0_build rfl rfl rfl (la_23 hW) rfl (Nat.le_of_ble_eq_true rfl) rfl (xk_V k)
theorem bX9_leastMachine_40 {mc ms : Nat} {Q : Option Nat → xHp → Prop} (hW : xLay sh R) 
    (k : ((¬ (nI 0) < 0 ∧ ¬ (nI 0) < 0 ∧ ¬ (I 173 2) < 0) ∧ (nI 0).toNatClampNeg + (I 173 2).toNatClampNeg ≤ 8 ∧ (nI 0).toNatClampNeg + (I 173 2).toNatClampNeg ≤ 4) ∧ Q (some 173) (sh, (xi (xa I 177 (va_cpy (I 24) (I 177) (nI 0).toNatClampNeg (nI 0).toNatClampNeg (I 173 2).toNatClampNeg)) 0 11 (nI 1)), R)) :
    Ex mX9_leastMachine 40 [.ref 0] [] (sh, I, R) mc ms (xqR Q) := by
  refine xw_aload_n dX9_leastMachine_40 rfl rfl ?_
  refine yw_getR (r := 23) dX9_leastMachine_41 fX9_49 rfl (la_0 hW) (lr_0_6 hW) ?_
  refine yw_getR (r := 24) dX9_leastMachine_44 fX9_344 rfl (la_23 hW) (lr_23_3 hW) ?_
  refine xw_iconst (v := nI 0) dX9_leastMachine_47 rfl ?_
  refine xw_aload_n dX9_leastMachine_48 rfl rfl ?_
  refine yw_getR (r := 177) dX9_leastMachine_49 fX9_74 rfl (la_0 hW) (lr_0_10 hW) ?_
  refine xw_iconst (v := nI 0) dX9_leastMachine_52 rfl ?_
  refine xw_aload_n dX9_leastMachine_53 rfl rfl ?_
  refine yw_getR (r := 173) dX9_leastMachine_54 fX9_71 rfl (la_0 hW) (lr_0_9 hW) ?_
  refine yw_getI (v := I 173 2) dX9_leastMachine_57 fX9_131 rfl hW.2.2.2.2.2.2.2.2.2.2.1.1 rfl ?_
  obtain ⟨k0, k⟩ := k
  refine yw_acopy dX9_leastMachine_60 lX9_347 (la_24 hW) (la_177 hW) rfl rfl (Nat.le_of_ble_eq_true rfl) k0 ?_
  refine xw_aload_n dX9_leastMachine_63 rfl rfl ?_
  refine xw_iconst (v := nI 1) dX9_leastMachine_64 rfl ?_
  refine yw_putZ dX9_leastMachine_65 fX9_315 (fun r h => by cases h; exact Or.inl rfl) rfl (Or.inr rfl) (la_0 hW) ?_
  refine xw_aload_n dX9_leastMachine_68 rfl rfl ?_
  refine yw_getR (r := 173) dX9_leastMachine_69 fX9_71 rfl (la_0 hW) (lr_0_9 hW) ?_
  exact yw_aretR dX9_leastMachine_72 rfl k
theorem eX9_leastMachine {h : xHp} {Q : Option Nat → xHp → Prop} (k : Ex mX9_leastMachine 0 [.ref 0] [] h 0 0 (xqR Q)) : CR mX9_leastMachine [.ref 0] h Q := k
theorem bX9_layTable_0 {mc ms : Nat} {Q : xHp → Prop} (hW : xLay sh R) 
    (k : CV mX0_open [.ref 23, .ref 12] (sh, I, R) (fun h1 => Ex mX9_layTable 14 [.ref 0, xU] [] h1 mc ms (xqV Q))) :
    Ex mX9_layTable 0 [.ref 0, xU] [] (sh, I, R) mc ms (xqV Q) := by
  refine xw_aload_n dX9_layTable_0 rfl rfl ?_
  refine yw_getR (r := 23) dX9_layTable_1 fX9_49 rfl (la_0 hW) (lr_0_6 hW) ?_
  refine xw_aload_n dX9_layTable_4 rfl rfl ?_
  refine yw_getR (r := 9) dX9_layTable_5 fX9_28 rfl (la_0 hW) (lr_0_2 hW) ?_
  refine yw_getR (r := 12) dX9_layTable_8 fX9_110 rfl hW.2.2.1.1 hW.2.2.1.2.2.2.2.2.2.1 ?_
  exact yw_cV (As := [.ref 12]) (b := 23) (st := []) dX9_layTable_11 lX9_356 kiX0_open kvX0_open rfl rfl rfl (la_23 hW) rfl (Nat.le_of_ble_eq_true rfl) rfl (xk_V k)
theorem bX9_layTable_14 {mc ms : Nat} {Q : xHp → Prop} (hW : xLay sh R) 
    (k : Ex mX9_layTable 16 [.ref 0, .int (nI 0)] [] (sh, I, R) mc ms (xqV Q)) :
    Ex mX9_layTable 14 [.ref 0, xU] [] (sh, I, R) mc ms (xqV Q) := by
  refine xw_iconst (v := nI 0) dX9_layTable_14 rfl ?_
  refine yw_istore_n (lv' := [.ref 0, .int (nI 0)]) dX9_layTable_15 rfl rfl rfl rfl ?_
  exact k
theorem bX9_layTable_16 {v1 : Int32} {mc ms : Nat} {Q : xHp → Prop} (hW : xLay sh R) 
    (k : (((I 9 6) ≤ v1 → CV mX0_shut [.ref 23] (sh, I, R) (fun h1 => Ex mX9_layTable 56 [.ref 0, xU] [] h1 mc ms (xqV Q))) ∧ (¬ (I 9 6) ≤ v1 → vp_in v1 48 ∧ CV mX0_seeEnding [.ref 23, .int (I 11 v1.toNatClampNeg)] (sh, I, R) (fun h1 => Ex mX9_layTable 43 [.ref 0, .int v1] [] h1 mc ms (xqV Q))))) :
    Ex mX9_layTable 16 [.ref 0, .int v1] [] (sh, I, R) mc ms (xqV Q) := by
  refine xw_iload_n dX9_layTable_16 rfl rfl ?_
  refine xw_aload_n dX9_layTable_17 rfl rfl ?_
  refine yw_getR (r := 9) dX9_layTable_18 fX9_28 rfl (la_0 hW) (lr_0_2 hW) ?_
  refine yw_getI (v := I 9 6) dX9_layTable_21 fX9_148 rfl hW.2.2.1.1 rfl ?_
  refine xw_icge (tgt := 49) dX9_layTable_24 (by decide) (fun c => ?_) (fun c => ?_)
  · replace k := k.1 c
    refine xw_aload_n dX9_layTable_49 rfl rfl ?_
    refine yw_getR (r := 23) dX9_layTable_50 fX9_49 rfl (la_0 hW) (lr_0_6 hW) ?_
    refine yw_sub (lv' := [.ref 0, xU]) ⟨Or.inr rfl, Or.inl rfl, trivial⟩ ?_
    exact yw_cV (As := []) (b := 23) (st := []) dX9_layTable_53 lX9_362 kiX0_shut kvX0_shut rfl rfl rfl (la_23 hW) rfl (Nat.le_of_ble_eq_true rfl) rfl (xk_V k)
  · replace k := k.2 c
    refine xw_aload_n dX9_layTable_27 rfl rfl ?_
    refine yw_getR (r := 23) dX9_layTable_28 fX9_49 rfl (la_0 hW) (lr_0_6 hW) ?_
    refine xw_aload_n dX9_layTable_31 rfl rfl ?_
    refine yw_getR (r := 9) dX9_layTable_32 fX9_28 rfl (la_0 hW) (lr_0_2 hW) ?_
    refine yw_getR (r := 11) dX9_layTable_35 fX9_237 rfl hW.2.2.1.1 hW.2.2.1.2.2.2.2.2.1 ?_
    refine xw_iload_n dX9_layTable_38 rfl rfl ?_
    obtain ⟨k0, k⟩ := k
    refine yw_iaload (v := I 11 v1.toNatClampNeg) dX9_layTable_39 hW.2.2.1.2.2.1 k0 rfl ?_
    exact yw_cV (As := [.int (I 11 v1.toNatClampNeg)]) (b := 23) (st := []) dX9_layTable_40 lX9_359 kiX0_seeEnding kvX0_seeEnding rfl rfl rfl (la_23 hW) rfl (Nat.le_of_ble_eq_true rfl) rfl (xk_V k)
theorem bX9_layTable_56 {mc ms : Nat} {Q : xHp → Prop} (hW : xLay sh R) 
    (k : Ex mX9_layTable 58 [.ref 0, .int (nI 0)] [] (sh, I, R) mc ms (xqV Q)) :
    Ex mX9_layTable 56 [.ref 0, xU] [] (sh, I, R) mc ms (xqV Q) := by
  refine xw_iconst (v := nI 0) dX9_layTable_56 rfl ?_
  refine yw_istore_n (lv' := [.ref 0, .int (nI 0)]) dX9_layTable_57 rfl rfl rfl rfl ?_
  exact k
theorem bX9_layTable_58 {v1 : Int32} {mc ms : Nat} {Q : xHp → Prop} (hW : xLay sh R) 
    (k : (((I 9 5) ≤ v1 → Q (sh, I, R)) ∧ (¬ (I 9 5) ≤ v1 → vp_in v1 4 ∧ CV mX0_offer [.ref 23, .int (I 10 v1.toNatClampNeg)] (sh, I, R) (fun h1 => Ex mX9_layTable 85 [.ref 0, .int v1] [] h1 mc ms (xqV Q))))) :
    Ex mX9_layTable 58 [.ref 0, .int v1] [] (sh, I, R) mc ms (xqV Q) := by
  refine xw_iload_n dX9_layTable_58 rfl rfl ?_
  refine xw_aload_n dX9_layTable_59 rfl rfl ?_
  refine yw_getR (r := 9) dX9_layTable_60 fX9_28 rfl (la_0 hW) (lr_0_2 hW) ?_
  refine yw_getI (v := I 9 5) dX9_layTable_63 fX9_145 rfl hW.2.2.1.1 rfl ?_
  refine xw_icge (tgt := 91) dX9_layTable_66 (by decide) (fun c => ?_) (fun c => ?_)
  · replace k := k.1 c
    exact yw_vret dX9_layTable_91 rfl k
  · replace k := k.2 c
    refine xw_aload_n dX9_layTable_69 rfl rfl ?_
    refine yw_getR (r := 23) dX9_layTable_70 fX9_49 rfl (la_0 hW) (lr_0_6 hW) ?_
    refine xw_aload_n dX9_layTable_73 rfl rfl ?_
    refine yw_getR (r := 9) dX9_layTable_74 fX9_28 rfl (la_0 hW) (lr_0_2 hW) ?_
    refine yw_getR (r := 10) dX9_layTable_77 fX9_234 rfl hW.2.2.1.1 hW.2.2.1.2.2.2.2.1 ?_
    refine xw_iload_n dX9_layTable_80 rfl rfl ?_
    obtain ⟨k0, k⟩ := k
    refine yw_iaload (v := I 10 v1.toNatClampNeg) dX9_layTable_81 hW.2.2.1.2.1 k0 rfl ?_
    exact yw_cV (As := [.int (I 10 v1.toNatClampNeg)]) (b := 23) (st := []) dX9_layTable_82 lX9_365 kiX0_offer kvX0_offer rfl rfl rfl (la_23 hW) rfl (Nat.le_of_ble_eq_true rfl) rfl (xk_V k)
theorem bX9_layTable_85 {v1 : Int32} {mc ms : Nat} {Q : xHp → Prop} (hW : xLay sh R) 
    (k : Ex mX9_layTable 58 [.ref 0, .int (v1 + nI 1)] [] (sh, I, R) mc ms (xqV Q)) :
    Ex mX9_layTable 85 [.ref 0, .int v1] [] (sh, I, R) mc ms (xqV Q) := by
  refine yw_iinc (lv' := [.ref 0, .int (v1 + nI 1)]) (v := nI 1) dX9_layTable_85 rfl rfl rfl rfl rfl ?_
  refine xw_goto (tgt := 58) dX9_layTable_88 (by decide) ?_
  exact k
theorem bX9_layTable_43 {v1 : Int32} {mc ms : Nat} {Q : xHp → Prop} (hW : xLay sh R) 
    (k : Ex mX9_layTable 16 [.ref 0, .int (v1 + nI 1)] [] (sh, I, R) mc ms (xqV Q)) :
    Ex mX9_layTable 43 [.ref 0, .int v1] [] (sh, I, R) mc ms (xqV Q) := by
  refine yw_iinc (lv' := [.ref 0, .int (v1 + nI 1)]) (v := nI 1) dX9_layTable_43 rfl rfl rfl rfl rfl ?_
  refine xw_goto (tgt := 16) dX9_layTable_46 (by decide) ?_
  exact k
theorem eX9_layTable {h : xHp} {Q : xHp → Prop} (k : Ex mX9_layTable 0 [.ref 0, xU] [] h 0 0 (xqV Q)) : CV mX9_layTable [.ref 0] h Q := k
theorem bX9_isClosed_0 {mc ms : Nat} {Q : Int32 → xHp → Prop} (hW : xLay sh R) 
    (k : CV mX9_layTable [.ref 0] (sh, I, R) (fun h1 => Ex mX9_isClosed 4 [.ref 0] [] h1 mc ms (xqI Q))) :
    Ex mX9_isClosed 0 [.ref 0] [] (sh, I, R) mc ms (xqI Q) := by
  refine xw_aload_n dX9_isClosed_0 rfl rfl ?_
  exact yw_cV (As := []) (b := 0) (st := []) dX9_isClosed_1 lX9_249 kiX9_layTable kvX9_layTable rfl rfl rfl (la_0 hW) rfl (Nat.le_of_ble_eq_true rfl) rfl (xk_V k)
theorem bX9_isClosed_4 {mc ms : Nat} {Q : Int32 → xHp → Prop} (hW : xLay sh R) 
    (k : CI mX0_widen [.ref 23] (sh, I, R) (fun w h1 => Ex mX9_isClosed 11 [xU] (.int w :: []) h1 mc ms (xqI Q))) :
    Ex mX9_isClosed 4 [.ref 0] [] (sh, I, R) mc ms (xqI Q) := by
  refine xw_aload_n dX9_isClosed_4 rfl rfl ?_
  refine yw_getR (r := 23) dX9_isClosed_5 fX9_49 rfl (la_0 hW) (lr_0_6 hW) ?_
  refine yw_sub (lv' := [xU]) ⟨Or.inl rfl, trivial⟩ ?_
  exact yw_cV (As := []) (b := 23) (st := []) dX9_isClosed_8 lX9_205 kiX0_widen kvX0_widen rfl rfl rfl (la_23 hW) rfl (Nat.le_of_ble_eq_true rfl) rfl (xk_I k)
theorem bX9_isClosed_11 {s0 : Int32} {mc ms : Nat} {Q : Int32 → xHp → Prop} (hW : xLay sh R) 
    (k : ((¬ s0 = 0 → Q (nI 0) (sh, I, R)) ∧ (s0 = 0 → Q (nI 1) (sh, I, R)))) :
    Ex mX9_isClosed 11 [xU] [.int s0] (sh, I, R) mc ms (xqI Q) := by
  refine xw_ifne (tgt := 18) dX9_isClosed_11 (by decide) (fun c => ?_) (fun c => ?_)
  · replace k := k.1 c
    refine xw_iconst (v := nI 0) dX9_isClosed_18 rfl ?_
    exact yw_zret dX9_isClosed_19 rfl (by decide) k
  · replace k := k.2 c
    refine xw_iconst (v := nI 1) dX9_isClosed_14 rfl ?_
    refine xw_goto (tgt := 19) dX9_isClosed_15 (by decide) ?_
    exact yw_zret dX9_isClosed_19 rfl (by decide) k
theorem eX9_isClosed {h : xHp} {Q : Int32 → xHp → Prop} (k : Ex mX9_isClosed 0 [.ref 0] [] h 0 0 (xqI Q)) : CI mX9_isClosed [.ref 0] h Q := k
theorem bX9_keptImages_0 {mc ms : Nat} {Q : Int32 → xHp → Prop} (hW : xLay sh R) 
    (k : Ex mX9_keptImages 4 [.ref 0, .int (nI 0), .int (nI 0)] [] (sh, I, R) mc ms (xqI Q)) :
    Ex mX9_keptImages 0 [.ref 0, xU, xU] [] (sh, I, R) mc ms (xqI Q) := by
  refine xw_iconst (v := nI 0) dX9_keptImages_0 rfl ?_
  refine yw_istore_n (lv' := [.ref 0, .int (nI 0), xU]) dX9_keptImages_1 rfl rfl rfl rfl ?_
  refine xw_iconst (v := nI 0) dX9_keptImages_2 rfl ?_
  refine yw_istore_n (lv' := [.ref 0, .int (nI 0), .int (nI 0)]) dX9_keptImages_3 rfl rfl rfl rfl ?_
  exact k
theorem bX9_keptImages_4 {v1 v2 : Int32} {mc ms : Nat} {Q : Int32 → xHp → Prop} (hW : xLay sh R) 
    (k : (((nI 2) ≤ v2 → Q v1 (sh, I, R)) ∧ (¬ (nI 2) ≤ v2 → vp_in v2 2 ∧ (((I 21 v2.toNatClampNeg) = 0 → Ex mX9_keptImages 4 [.ref 0, .int (v1 + (nI 0)), .int (v2 + nI 1)] [] (sh, I, R) mc ms (xqI Q)) ∧ (¬ (I 21 v2.toNatClampNeg) = 0 → Ex mX9_keptImages 4 [.ref 0, .int (v1 + (nI 1)), .int (v2 + nI 1)] [] (sh, I, R) mc ms (xqI Q)))))) :
    Ex mX9_keptImages 4 [.ref 0, .int v1, .int v2] [] (sh, I, R) mc ms (xqI Q) := by
  refine xw_iload_n dX9_keptImages_4 rfl rfl ?_
  refine xw_iconst (v := nI 2) dX9_keptImages_5 rfl ?_
  refine xw_icge (tgt := 32) dX9_keptImages_6 (by decide) (fun c => ?_) (fun c => ?_)
  · replace k := k.1 c
    refine xw_iload_n dX9_keptImages_32 rfl rfl ?_
    exact yw_iret dX9_keptImages_33 rfl k
  · replace k := k.2 c
    refine xw_iload_n dX9_keptImages_9 rfl rfl ?_
    refine xw_aload_n dX9_keptImages_10 rfl rfl ?_
    refine yw_getR (r := 21) dX9_keptImages_11 fX9_36 rfl (la_0 hW) (lr_0_4 hW) ?_
    refine xw_iload_n dX9_keptImages_14 rfl rfl ?_
    obtain ⟨k0, k⟩ := k
    refine yw_zaload (v := I 21 v2.toNatClampNeg) dX9_keptImages_15 (la_21 hW) k0 rfl ?_
    refine xw_ifeq (tgt := 23) dX9_keptImages_16 (by decide) (fun c => ?_) (fun c => ?_)
    · replace k := k.1 c
      refine xw_iconst (v := nI 0) dX9_keptImages_23 rfl ?_
      refine xw_iadd dX9_keptImages_24 ?_
      refine yw_istore_n (lv' := [.ref 0, .int (v1 + (nI 0)), .int v2]) dX9_keptImages_25 rfl rfl rfl rfl ?_
      refine yw_iinc (lv' := [.ref 0, .int (v1 + (nI 0)), .int (v2 + nI 1)]) (v := nI 1) dX9_keptImages_26 rfl rfl rfl rfl rfl ?_
      refine xw_goto (tgt := 4) dX9_keptImages_29 (by decide) ?_
      exact k
    · replace k := k.2 c
      refine xw_iconst (v := nI 1) dX9_keptImages_19 rfl ?_
      refine xw_goto (tgt := 24) dX9_keptImages_20 (by decide) ?_
      refine xw_iadd dX9_keptImages_24 ?_
      refine yw_istore_n (lv' := [.ref 0, .int (v1 + (nI 1)), .int v2]) dX9_keptImages_25 rfl rfl rfl rfl ?_
      refine yw_iinc (lv' := [.ref 0, .int (v1 + (nI 1)), .int (v2 + nI 1)]) (v := nI 1) dX9_keptImages_26 rfl rfl rfl rfl rfl ?_
      refine xw_goto (tgt := 4) dX9_keptImages_29 (by decide) ?_
      exact k
theorem eX9_keptImages {h : xHp} {Q : Int32 → xHp → Prop} (k : Ex mX9_keptImages 0 [.ref 0, xU, xU] [] h 0 0 (xqI Q)) : CI mX9_keptImages [.ref 0] h Q := k
theorem bX9_standingShelves_0 {mc ms : Nat} {Q : Int32 → xHp → Prop} (hW : xLay sh R) 
    (k : Ex mX9_standingShelves 4 [.ref 0, .int (nI 0), .int (nI 0)] [] (sh, I, R) mc ms (xqI Q)) :
    Ex mX9_standingShelves 0 [.ref 0, xU, xU] [] (sh, I, R) mc ms (xqI Q) := by
  refine xw_iconst (v := nI 0) dX9_standingShelves_0 rfl ?_
  refine yw_istore_n (lv' := [.ref 0, .int (nI 0), xU]) dX9_standingShelves_1 rfl rfl rfl rfl ?_
  refine xw_iconst (v := nI 0) dX9_standingShelves_2 rfl ?_
  refine yw_istore_n (lv' := [.ref 0, .int (nI 0), .int (nI 0)]) dX9_standingShelves_3 rfl rfl rfl rfl ?_
  exact k
theorem bX9_standingShelves_4 {v1 v2 : Int32} {mc ms : Nat} {Q : Int32 → xHp → Prop} (hW : xLay sh R) 
    (k : (((nI 3) ≤ v2 → Q v1 (sh, I, R)) ∧ (¬ (nI 3) ≤ v2 → vp_in v2 3 ∧ ((¬ (I (200 + 3 * v2.toNatClampNeg) 4) = (-1) → Ex mX9_standingShelves 4 [.ref 0, .int (v1 + (nI 1)), .int (v2 + nI 1)] [] (sh, I, R) mc ms (xqI Q)) ∧ ((I (200 + 3 * v2.toNatClampNeg) 4) = (-1) → Ex mX9_standingShelves 4 [.ref 0, .int (v1 + (nI 0)), .int (v2 + nI 1)] [] (sh, I, R) mc ms (xqI Q)))))) :
    Ex mX9_standingShelves 4 [.ref 0, .int v1, .int v2] [] (sh, I, R) mc ms (xqI Q) := by
  refine xw_iload_n dX9_standingShelves_4 rfl rfl ?_
  refine xw_iconst (v := nI 3) dX9_standingShelves_5 rfl ?_
  refine xw_icge (tgt := 36) dX9_standingShelves_6 (by decide) (fun c => ?_) (fun c => ?_)
  · replace k := k.1 c
    refine xw_iload_n dX9_standingShelves_36 rfl rfl ?_
    exact yw_iret dX9_standingShelves_37 rfl k
  · replace k := k.2 c
    refine xw_iload_n dX9_standingShelves_9 rfl rfl ?_
    refine xw_aload_n dX9_standingShelves_10 rfl rfl ?_
    refine yw_getR (r := 22) dX9_standingShelves_11 fX9_42 rfl (la_0 hW) (lr_0_5 hW) ?_
    refine xw_iload_n dX9_standingShelves_14 rfl rfl ?_
    obtain ⟨kk1, k⟩ := k
    refine yw_aaload (r := (200 + 3 * v2.toNatClampNeg)) dX9_standingShelves_15 (la_22 hW) (by decide) kk1 (la_shf hW (vp_lt kk1)) ?_
    refine yw_getI (v := I (200 + 3 * v2.toNatClampNeg) 4) dX9_standingShelves_16 fX9_343 rfl (hW.2.2.2.2.2.2.1 _ (vp_lt kk1)).1 rfl ?_
    refine xw_iconst (v := (-1)) dX9_standingShelves_19 rfl ?_
    refine xw_icne (tgt := 27) dX9_standingShelves_20 (by decide) (fun c => ?_) (fun c => ?_)
    · replace k := k.1 c
      refine xw_iconst (v := nI 1) dX9_standingShelves_27 rfl ?_
      refine xw_iadd dX9_standingShelves_28 ?_
      refine yw_istore_n (lv' := [.ref 0, .int (v1 + (nI 1)), .int v2]) dX9_standingShelves_29 rfl rfl rfl rfl ?_
      refine yw_iinc (lv' := [.ref 0, .int (v1 + (nI 1)), .int (v2 + nI 1)]) (v := nI 1) dX9_standingShelves_30 rfl rfl rfl rfl rfl ?_
      refine xw_goto (tgt := 4) dX9_standingShelves_33 (by decide) ?_
      exact k
    · replace k := k.2 c
      refine xw_iconst (v := nI 0) dX9_standingShelves_23 rfl ?_
      refine xw_goto (tgt := 28) dX9_standingShelves_24 (by decide) ?_
      refine xw_iadd dX9_standingShelves_28 ?_
      refine yw_istore_n (lv' := [.ref 0, .int (v1 + (nI 0)), .int v2]) dX9_standingShelves_29 rfl rfl rfl rfl ?_
      refine yw_iinc (lv' := [.ref 0, .int (v1 + (nI 0)), .int (v2 + nI 1)]) (v := nI 1) dX9_standingShelves_30 rfl rfl rfl rfl rfl ?_
      refine xw_goto (tgt := 4) dX9_standingShelves_33 (by decide) ?_
      exact k
theorem eX9_standingShelves {h : xHp} {Q : Int32 → xHp → Prop} (k : Ex mX9_standingShelves 0 [.ref 0, xU, xU] [] h 0 0 (xqI Q)) : CI mX9_standingShelves [.ref 0] h Q := k
theorem bX9_rule_0 {v1 : Int32} {mc ms : Nat} {Q : Int32 → xHp → Prop} (hW : xLay sh R) 
    (k : (((v1.toInt < 0 ∨ 12 < v1.toInt) → Ex mX9_rule 199 [xU, xU] [] (sh, I, R) mc ms (xqI Q)) ∧ (v1.toInt = 0 → Ex mX9_rule 68 [.ref 0, xU] [] (sh, I, R) mc ms (xqI Q)) ∧ (v1.toInt = 1 → Ex mX9_rule 76 [.ref 0, xU] [] (sh, I, R) mc ms (xqI Q)) ∧ (v1.toInt = 2 → Ex mX9_rule 84 [.ref 0, xU] [] (sh, I, R) mc ms (xqI Q)) ∧ (v1.toInt = 3 → Ex mX9_rule 95 [.ref 0, xU] [] (sh, I, R) mc ms (xqI Q)) ∧ (v1.toInt = 4 → Ex mX9_rule 121 [.ref 0, xU] [] (sh, I, R) mc ms (xqI Q)) ∧ (v1.toInt = 5 → Ex mX9_rule 129 [.ref 0, xU] [] (sh, I, R) mc ms (xqI Q)) ∧ (v1.toInt = 6 → Ex mX9_rule 137 [.ref 0, xU] [] (sh, I, R) mc ms (xqI Q)) ∧ (v1.toInt = 7 → Ex mX9_rule 145 [.ref 0, xU] [] (sh, I, R) mc ms (xqI Q)) ∧ (v1.toInt = 8 → Ex mX9_rule 153 [.ref 0, xU] [] (sh, I, R) mc ms (xqI Q)) ∧ (v1.toInt = 9 → Ex mX9_rule 166 [.ref 0, xU] [] (sh, I, R) mc ms (xqI Q)) ∧ (v1.toInt = 10 → Ex mX9_rule 181 [.ref 0, xU] [] (sh, I, R) mc ms (xqI Q)) ∧ (v1.toInt = 11 → Ex mX9_rule 189 [.ref 0, xU] [] (sh, I, R) mc ms (xqI Q)) ∧ (v1.toInt = 12 → Ex mX9_rule 194 [.ref 0, xU] [] (sh, I, R) mc ms (xqI Q)))) :
    Ex mX9_rule 0 [.ref 0, .int v1] [] (sh, I, R) mc ms (xqI Q) := by
  refine xw_iload_n dX9_rule_0 rfl rfl ?_
  by_cases c : v1.toInt < 0 ∨ 12 < v1.toInt
  · replace k := k.1 c
    refine xw_tableOut (tgt := 199) dX9_rule_1 c (by decide) ?_
    exact yw_sub (lv' := [xU, xU]) ⟨Or.inl rfl, Or.inl rfl, trivial⟩ k
  · replace k := k.2
    have c1 : ¬ v1.toInt < 0 := fun q => c (Or.inl q)
    have c2 : ¬ 12 < v1.toInt := fun q => c (Or.inr q)
    have cs : v1.toInt = 0 ∨ v1.toInt = 1 ∨ v1.toInt = 2 ∨ v1.toInt = 3 ∨ v1.toInt = 4 ∨ v1.toInt = 5 ∨ v1.toInt = 6 ∨ v1.toInt = 7 ∨ v1.toInt = 8 ∨ v1.toInt = 9 ∨ v1.toInt = 10 ∨ v1.toInt = 11 ∨ v1.toInt = 12 := by omega
    rcases cs with cs | cs | cs | cs | cs | cs | cs | cs | cs | cs | cs | cs | cs
    · replace k := k.1 cs
      refine xw_tableIn (tgt := 68) (off := 67) dX9_rule_1 c1 c2 (by rw [cs]; rfl) (by decide) ?_
      exact yw_sub (lv' := [.ref 0, xU]) ⟨Or.inr rfl, Or.inl rfl, trivial⟩ k
    · replace k := k.2.1 cs
      refine xw_tableIn (tgt := 76) (off := 75) dX9_rule_1 c1 c2 (by rw [cs]; rfl) (by decide) ?_
      exact yw_sub (lv' := [.ref 0, xU]) ⟨Or.inr rfl, Or.inl rfl, trivial⟩ k
    · replace k := k.2.2.1 cs
      refine xw_tableIn (tgt := 84) (off := 83) dX9_rule_1 c1 c2 (by rw [cs]; rfl) (by decide) ?_
      exact yw_sub (lv' := [.ref 0, xU]) ⟨Or.inr rfl, Or.inl rfl, trivial⟩ k
    · replace k := k.2.2.2.1 cs
      refine xw_tableIn (tgt := 95) (off := 94) dX9_rule_1 c1 c2 (by rw [cs]; rfl) (by decide) ?_
      exact yw_sub (lv' := [.ref 0, xU]) ⟨Or.inr rfl, Or.inl rfl, trivial⟩ k
    · replace k := k.2.2.2.2.1 cs
      refine xw_tableIn (tgt := 121) (off := 120) dX9_rule_1 c1 c2 (by rw [cs]; rfl) (by decide) ?_
      exact yw_sub (lv' := [.ref 0, xU]) ⟨Or.inr rfl, Or.inl rfl, trivial⟩ k
    · replace k := k.2.2.2.2.2.1 cs
      refine xw_tableIn (tgt := 129) (off := 128) dX9_rule_1 c1 c2 (by rw [cs]; rfl) (by decide) ?_
      exact yw_sub (lv' := [.ref 0, xU]) ⟨Or.inr rfl, Or.inl rfl, trivial⟩ k
    · replace k := k.2.2.2.2.2.2.1 cs
      refine xw_tableIn (tgt := 137) (off := 136) dX9_rule_1 c1 c2 (by rw [cs]; rfl) (by decide) ?_
      exact yw_sub (lv' := [.ref 0, xU]) ⟨Or.inr rfl, Or.inl rfl, trivial⟩ k
    · replace k := k.2.2.2.2.2.2.2.1 cs
      refine xw_tableIn (tgt := 145) (off := 144) dX9_rule_1 c1 c2 (by rw [cs]; rfl) (by decide) ?_
      exact yw_sub (lv' := [.ref 0, xU]) ⟨Or.inr rfl, Or.inl rfl, trivial⟩ k
    · replace k := k.2.2.2.2.2.2.2.2.1 cs
      refine xw_tableIn (tgt := 153) (off := 152) dX9_rule_1 c1 c2 (by rw [cs]; rfl) (by decide) ?_
      exact yw_sub (lv' := [.ref 0, xU]) ⟨Or.inr rfl, Or.inl rfl, trivial⟩ k
    · replace k := k.2.2.2.2.2.2.2.2.2.1 cs
      refine xw_tableIn (tgt := 166) (off := 165) dX9_rule_1 c1 c2 (by rw [cs]; rfl) (by decide) ?_
      exact yw_sub (lv' := [.ref 0, xU]) ⟨Or.inr rfl, Or.inl rfl, trivial⟩ k
    · replace k := k.2.2.2.2.2.2.2.2.2.2.1 cs
      refine xw_tableIn (tgt := 181) (off := 180) dX9_rule_1 c1 c2 (by rw [cs]; rfl) (by decide) ?_
      exact yw_sub (lv' := [.ref 0, xU]) ⟨Or.inr rfl, Or.inl rfl, trivial⟩ k
    · replace k := k.2.2.2.2.2.2.2.2.2.2.2.1 cs
      refine xw_tableIn (tgt := 189) (off := 188) dX9_rule_1 c1 c2 (by rw [cs]; rfl) (by decide) ?_
      exact yw_sub (lv' := [.ref 0, xU]) ⟨Or.inr rfl, Or.inl rfl, trivial⟩ k
    · replace k := k.2.2.2.2.2.2.2.2.2.2.2.2 cs
      refine xw_tableIn (tgt := 194) (off := 193) dX9_rule_1 c1 c2 (by rw [cs]; rfl) (by decide) ?_
      exact yw_sub (lv' := [.ref 0, xU]) ⟨Or.inr rfl, Or.inl rfl, trivial⟩ k
theorem bX9_rule_199 {mc ms : Nat} {Q : Int32 → xHp → Prop} (hW : xLay sh R) 
    (k : Q (-1) (sh, I, R)) :
    Ex mX9_rule 199 [xU, xU] [] (sh, I, R) mc ms (xqI Q) := by
  refine xw_iconst (v := (-1)) dX9_rule_199 rfl ?_
  exact yw_iret dX9_rule_200 rfl k
theorem bX9_rule_68 {mc ms : Nat} {Q : Int32 → xHp → Prop} (hW : xLay sh R) 
    (k : Q (I 1 0) (sh, I, R)) :
    Ex mX9_rule 68 [.ref 0, xU] [] (sh, I, R) mc ms (xqI Q) := by
  refine xw_aload_n dX9_rule_68 rfl rfl ?_
  refine yw_getR (r := 1) dX9_rule_69 fX9_10 rfl (la_0 hW) (lr_0_0 hW) ?_
  refine yw_getI (v := I 1 0) dX9_rule_72 fX9_129 rfl (la_1 hW) rfl ?_
  exact yw_iret dX9_rule_75 rfl k
theorem bX9_rule_76 {mc ms : Nat} {Q : Int32 → xHp → Prop} (hW : xLay sh R) 
    (k : Q (I 1 1) (sh, I, R)) :
    Ex mX9_rule 76 [.ref 0, xU] [] (sh, I, R) mc ms (xqI Q) := by
  refine xw_aload_n dX9_rule_76 rfl rfl ?_
  refine yw_getR (r := 1) dX9_rule_77 fX9_10 rfl (la_0 hW) (lr_0_0 hW) ?_
  refine yw_getI (v := I 1 1) dX9_rule_80 fX9_130 rfl (la_1 hW) rfl ?_
  exact yw_iret dX9_rule_83 rfl k
theorem bX9_rule_84 {mc ms : Nat} {Q : Int32 → xHp → Prop} (hW : xLay sh R) 
    (k : Q (I 12 2) (sh, I, R)) :
    Ex mX9_rule 84 [.ref 0, xU] [] (sh, I, R) mc ms (xqI Q) := by
  refine xw_aload_n dX9_rule_84 rfl rfl ?_
  refine yw_getR (r := 9) dX9_rule_85 fX9_28 rfl (la_0 hW) (lr_0_2 hW) ?_
  refine yw_getR (r := 12) dX9_rule_88 fX9_110 rfl hW.2.2.1.1 hW.2.2.1.2.2.2.2.2.2.1 ?_
  refine yw_getI (v := I 12 2) dX9_rule_91 fX9_131 rfl hW.2.2.1.2.2.2.2.2.2.2.2.1.1 rfl ?_
  exact yw_iret dX9_rule_94 rfl k
theorem bX9_rule_95 {mc ms : Nat} {Q : Int32 → xHp → Prop} (hW : xLay sh R) 
    (k : (((I 9 8) = 0 → Q (-4) (sh, I, R)) ∧ (¬ (I 9 8) = 0 → Q (I 16 2) (sh, I, R)))) :
    Ex mX9_rule 95 [.ref 0, xU] [] (sh, I, R) mc ms (xqI Q) := by
  refine xw_aload_n dX9_rule_95 rfl rfl ?_
  refine yw_getR (r := 9) dX9_rule_96 fX9_28 rfl (la_0 hW) (lr_0_2 hW) ?_
  refine yw_getI (v := I 9 8) dX9_rule_99 fX9_134 rfl hW.2.2.1.1 rfl ?_
  refine xw_ifeq (tgt := 118) dX9_rule_102 (by decide) (fun c => ?_) (fun c => ?_)
  · replace k := k.1 c
    refine xw_bipush (v := (-4)) dX9_rule_118 (by decide) ?_
    exact yw_iret dX9_rule_120 rfl k
  · replace k := k.2 c
    refine xw_aload_n dX9_rule_105 rfl rfl ?_
    refine yw_getR (r := 9) dX9_rule_106 fX9_28 rfl (la_0 hW) (lr_0_2 hW) ?_
    refine yw_getR (r := 16) dX9_rule_109 fX9_138 rfl hW.2.2.1.1 hW.2.2.1.2.2.2.2.2.2.2.1 ?_
    refine yw_getI (v := I 16 2) dX9_rule_112 fX9_131 rfl hW.2.2.1.2.2.2.2.2.2.2.2.2.1 rfl ?_
    refine xw_goto (tgt := 120) dX9_rule_115 (by decide) ?_
    exact yw_iret dX9_rule_120 rfl k
theorem bX9_rule_121 {mc ms : Nat} {Q : Int32 → xHp → Prop} (hW : xLay sh R) 
    (k : CR mX9_leastMachine [.ref 0] (sh, I, R) (fun r h1 => (r = none → Ex mX9_rule 125 [xU, xU] (.null :: []) h1 mc ms (xqI Q)) ∧ ∀ a, r = some a → Ex mX9_rule 125 [xU, xU] (.ref a :: []) h1 mc ms (xqI Q))) :
    Ex mX9_rule 121 [.ref 0, xU] [] (sh, I, R) mc ms (xqI Q) := by
  refine xw_aload_n dX9_rule_121 rfl rfl ?_
  refine yw_sub (lv' := [xU, xU]) ⟨Or.inl rfl, Or.inl rfl, trivial⟩ ?_
  exact yw_cV (As := []) (b := 0) (st := []) dX9_rule_122 lX9_141 kiX9_leastMachine kvX9_leastMachine rfl rfl rfl (la_0 hW) rfl (Nat.le_of_ble_eq_true rfl) rfl (xk_R k)
theorem bX9_rule_125 {b0 Mb0 : Nat} {mc ms : Nat} {Q : Int32 → xHp → Prop} (hW : xLay sh R) (hb0 : xMach sh R b0 Mb0)
    (k : Q (I b0 2) (sh, I, R)) :
    Ex mX9_rule 125 [xU, xU] [.ref b0] (sh, I, R) mc ms (xqI Q) := by
  refine yw_getI (v := I b0 2) dX9_rule_125 fX9_131 rfl hb0.1 rfl ?_
  exact yw_iret dX9_rule_128 rfl k
theorem bX9_rule_129 {mc ms : Nat} {Q : Int32 → xHp → Prop} (hW : xLay sh R) 
    (k : Q (I 9 5) (sh, I, R)) :
    Ex mX9_rule 129 [.ref 0, xU] [] (sh, I, R) mc ms (xqI Q) := by
  refine xw_aload_n dX9_rule_129 rfl rfl ?_
  refine yw_getR (r := 9) dX9_rule_130 fX9_28 rfl (la_0 hW) (lr_0_2 hW) ?_
  refine yw_getI (v := I 9 5) dX9_rule_133 fX9_145 rfl hW.2.2.1.1 rfl ?_
  exact yw_iret dX9_rule_136 rfl k
theorem bX9_rule_137 {mc ms : Nat} {Q : Int32 → xHp → Prop} (hW : xLay sh R) 
    (k : Q (I 9 6) (sh, I, R)) :
    Ex mX9_rule 137 [.ref 0, xU] [] (sh, I, R) mc ms (xqI Q) := by
  refine xw_aload_n dX9_rule_137 rfl rfl ?_
  refine yw_getR (r := 9) dX9_rule_138 fX9_28 rfl (la_0 hW) (lr_0_2 hW) ?_
  refine yw_getI (v := I 9 6) dX9_rule_141 fX9_148 rfl hW.2.2.1.1 rfl ?_
  exact yw_iret dX9_rule_144 rfl k
theorem bX9_rule_145 {mc ms : Nat} {Q : Int32 → xHp → Prop} (hW : xLay sh R) 
    (k : Q (I 9 7) (sh, I, R)) :
    Ex mX9_rule 145 [.ref 0, xU] [] (sh, I, R) mc ms (xqI Q) := by
  refine xw_aload_n dX9_rule_145 rfl rfl ?_
  refine yw_getR (r := 9) dX9_rule_146 fX9_28 rfl (la_0 hW) (lr_0_2 hW) ?_
  refine yw_getI (v := I 9 7) dX9_rule_149 fX9_151 rfl hW.2.2.1.1 rfl ?_
  exact yw_iret dX9_rule_152 rfl k
theorem bX9_rule_153 {mc ms : Nat} {Q : Int32 → xHp → Prop} (hW : xLay sh R) 
    (k : CI mX9_isClosed [.ref 0] (sh, I, R) (fun w h1 => Ex mX9_rule 157 [xU, xU] (.int w :: []) h1 mc ms (xqI Q))) :
    Ex mX9_rule 153 [.ref 0, xU] [] (sh, I, R) mc ms (xqI Q) := by
  refine xw_aload_n dX9_rule_153 rfl rfl ?_
  refine yw_sub (lv' := [xU, xU]) ⟨Or.inl rfl, Or.inl rfl, trivial⟩ ?_
  exact yw_cV (As := []) (b := 0) (st := []) dX9_rule_154 lX9_154 kiX9_isClosed kvX9_isClosed rfl rfl rfl (la_0 hW) rfl (Nat.le_of_ble_eq_true rfl) rfl (xk_I k)
theorem bX9_rule_157 {s0 : Int32} {mc ms : Nat} {Q : Int32 → xHp → Prop} (hW : xLay sh R) 
    (k : ((s0 = 0 → Q (nI 0) (sh, I, R)) ∧ (¬ s0 = 0 → Q (nI 1) (sh, I, R)))) :
    Ex mX9_rule 157 [xU, xU] [.int s0] (sh, I, R) mc ms (xqI Q) := by
  refine xw_ifeq (tgt := 164) dX9_rule_157 (by decide) (fun c => ?_) (fun c => ?_)
  · replace k := k.1 c
    refine xw_iconst (v := nI 0) dX9_rule_164 rfl ?_
    exact yw_iret dX9_rule_165 rfl k
  · replace k := k.2 c
    refine xw_iconst (v := nI 1) dX9_rule_160 rfl ?_
    refine xw_goto (tgt := 165) dX9_rule_161 (by decide) ?_
    exact yw_iret dX9_rule_165 rfl k
theorem bX9_rule_166 {mc ms : Nat} {Q : Int32 → xHp → Prop} (hW : xLay sh R) 
    (k : CI mX8_unlikeWords [.ref 9, .int (I 1 1)] (sh, I, R) (fun w h1 => Ex mX9_rule 180 [xU, xU] (.int w :: []) h1 mc ms (xqI Q))) :
    Ex mX9_rule 166 [.ref 0, xU] [] (sh, I, R) mc ms (xqI Q) := by
  refine xw_aload_n dX9_rule_166 rfl rfl ?_
  refine yw_getR (r := 9) dX9_rule_167 fX9_28 rfl (la_0 hW) (lr_0_2 hW) ?_
  refine xw_aload_n dX9_rule_170 rfl rfl ?_
  refine yw_getR (r := 1) dX9_rule_171 fX9_10 rfl (la_0 hW) (lr_0_0 hW) ?_
  refine yw_getI (v := I 1 1) dX9_rule_174 fX9_130 rfl (la_1 hW) rfl ?_
  refine yw_sub (lv' := [xU, xU]) ⟨Or.inl rfl, Or.inl rfl, trivial⟩ ?_
  exact yw_cV (As := [.int (I 1 1)]) (b := 9) (st := []) dX9_rule_177 lX9_158 kiX8_unlikeWords kvX8_unlikeWords rfl rfl rfl hW.2.2.1.1 rfl (Nat.le_of_ble_eq_true rfl) rfl (xk_I k)
theorem bX9_rule_180 {s0 : Int32} {mc ms : Nat} {Q : Int32 → xHp → Prop} (hW : xLay sh R) 
    (k : Q s0 (sh, I, R)) :
    Ex mX9_rule 180 [xU, xU] [.int s0] (sh, I, R) mc ms (xqI Q) := by
  exact yw_iret dX9_rule_180 rfl k
theorem bX9_rule_181 {mc ms : Nat} {Q : Int32 → xHp → Prop} (hW : xLay sh R) 
    (k : Q (I 2 1) (sh, I, R)) :
    Ex mX9_rule 181 [.ref 0, xU] [] (sh, I, R) mc ms (xqI Q) := by
  refine xw_aload_n dX9_rule_181 rfl rfl ?_
  refine yw_getR (r := 2) dX9_rule_182 fX9_21 rfl (la_0 hW) (lr_0_1 hW) ?_
  refine yw_getI (v := I 2 1) dX9_rule_185 fX9_83 rfl (la_2 hW) rfl ?_
  exact yw_iret dX9_rule_188 rfl k
theorem bX9_rule_189 {mc ms : Nat} {Q : Int32 → xHp → Prop} (hW : xLay sh R) 
    (k : CI mX9_keptImages [.ref 0] (sh, I, R) (fun w h1 => Ex mX9_rule 193 [xU, xU] (.int w :: []) h1 mc ms (xqI Q))) :
    Ex mX9_rule 189 [.ref 0, xU] [] (sh, I, R) mc ms (xqI Q) := by
  refine xw_aload_n dX9_rule_189 rfl rfl ?_
  refine yw_sub (lv' := [xU, xU]) ⟨Or.inl rfl, Or.inl rfl, trivial⟩ ?_
  exact yw_cV (As := []) (b := 0) (st := []) dX9_rule_190 lX9_162 kiX9_keptImages kvX9_keptImages rfl rfl rfl (la_0 hW) rfl (Nat.le_of_ble_eq_true rfl) rfl (xk_I k)
theorem bX9_rule_193 {s0 : Int32} {mc ms : Nat} {Q : Int32 → xHp → Prop} (hW : xLay sh R) 
    (k : Q s0 (sh, I, R)) :
    Ex mX9_rule 193 [xU, xU] [.int s0] (sh, I, R) mc ms (xqI Q) := by
  exact yw_iret dX9_rule_193 rfl k
theorem bX9_rule_194 {mc ms : Nat} {Q : Int32 → xHp → Prop} (hW : xLay sh R) 
    (k : CI mX9_standingShelves [.ref 0] (sh, I, R) (fun w h1 => Ex mX9_rule 198 [xU, xU] (.int w :: []) h1 mc ms (xqI Q))) :
    Ex mX9_rule 194 [.ref 0, xU] [] (sh, I, R) mc ms (xqI Q) := by
  refine xw_aload_n dX9_rule_194 rfl rfl ?_
  refine yw_sub (lv' := [xU, xU]) ⟨Or.inl rfl, Or.inl rfl, trivial⟩ ?_
  exact yw_cV (As := []) (b := 0) (st := []) dX9_rule_195 lX9_165 kiX9_standingShelves kvX9_standingShelves rfl rfl rfl (la_0 hW) rfl (Nat.le_of_ble_eq_true rfl) rfl (xk_I k)
theorem bX9_rule_198 {s0 : Int32} {mc ms : Nat} {Q : Int32 → xHp → Prop} (hW : xLay sh R) 
    (k : Q s0 (sh, I, R)) :
    Ex mX9_rule 198 [xU, xU] [.int s0] (sh, I, R) mc ms (xqI Q) := by
  exact yw_iret dX9_rule_198 rfl k
theorem eX9_rule {v1 : Int32} {h : xHp} {Q : Int32 → xHp → Prop} (k : Ex mX9_rule 0 [.ref 0, .int v1] [] h 0 0 (xqI Q)) : CI mX9_rule [.ref 0, .int v1] h Q := k
theorem bX9_isMachine_0 {v0 : Int32} {mc ms : Nat} {Q : Int32 → xHp → Prop} (hW : xLay sh R) 
    (k : ((v0 < 0 → Q (nI 0) (sh, I, R)) ∧ (¬ v0 < 0 → (((nI 2) < v0 → Q (nI 0) (sh, I, R)) ∧ (¬ (nI 2) < v0 → Q (nI 1) (sh, I, R)))))) :
    Ex mX9_isMachine 0 [.int v0] [] (sh, I, R) mc ms (xqI Q) := by
  refine xw_iload_n dX9_isMachine_0 rfl rfl ?_
  refine xw_iflt (tgt := 13) dX9_isMachine_1 (by decide) (fun c => ?_) (fun c => ?_)
  · replace k := k.1 c
    refine xw_iconst (v := nI 0) dX9_isMachine_13 rfl ?_
    exact yw_zret dX9_isMachine_14 rfl (by decide) k
  · replace k := k.2 c
    refine xw_iload_n dX9_isMachine_4 rfl rfl ?_
    refine xw_iconst (v := nI 2) dX9_isMachine_5 rfl ?_
    refine xw_icgt (tgt := 13) dX9_isMachine_6 (by decide) (fun c => ?_) (fun c => ?_)
    · replace k := k.1 c
      refine xw_iconst (v := nI 0) dX9_isMachine_13 rfl ?_
      exact yw_zret dX9_isMachine_14 rfl (by decide) k
    · replace k := k.2 c
      refine xw_iconst (v := nI 1) dX9_isMachine_9 rfl ?_
      refine xw_goto (tgt := 14) dX9_isMachine_10 (by decide) ?_
      exact yw_zret dX9_isMachine_14 rfl (by decide) k
theorem eX9_isMachine {v0 : Int32} {h : xHp} {Q : Int32 → xHp → Prop} (k : Ex mX9_isMachine 0 [.int v0] [] h 0 0 (xqI Q)) : CI mX9_isMachine [.int v0] h Q := k
theorem bX9_machineOf_0 {v1 : Int32} {mc ms : Nat} {Q : Option Nat → xHp → Prop} (hW : xLay sh R) 
    (k : ((¬ v1 = 0 → ((¬ v1 = (nI 1) → CR mX9_leastMachine [.ref 0] (sh, I, R) (fun r h1 => (r = none → Ex mX9_machineOf 43 [xU, xU] (.null :: []) h1 mc ms (xqR Q)) ∧ ∀ a, r = some a → Ex mX9_machineOf 43 [xU, xU] (.ref a :: []) h1 mc ms (xqR Q))) ∧ (v1 = (nI 1) → (((I 9 8) = 0 → Q none (sh, I, R)) ∧ (¬ (I 9 8) = 0 → Q (some 16) (sh, I, R)))))) ∧ (v1 = 0 → Q (some 12) (sh, I, R)))) :
    Ex mX9_machineOf 0 [.ref 0, .int v1] [] (sh, I, R) mc ms (xqR Q) := by
  refine xw_iload_n dX9_machineOf_0 rfl rfl ?_
  refine xw_ifne (tgt := 12) dX9_machineOf_1 (by decide) (fun c => ?_) (fun c => ?_)
  · replace k := k.1 c
    refine xw_iload_n dX9_machineOf_12 rfl rfl ?_
    refine xw_iconst (v := nI 1) dX9_machineOf_13 rfl ?_
    refine xw_icne (tgt := 39) dX9_machineOf_14 (by decide) (fun c => ?_) (fun c => ?_)
    · replace k := k.1 c
      refine xw_aload_n dX9_machineOf_39 rfl rfl ?_
      refine yw_sub (lv' := [xU, xU]) ⟨Or.inl rfl, Or.inl rfl, trivial⟩ ?_
      exact yw_cV (As := []) (b := 0) (st := []) dX9_machineOf_40 lX9_141 kiX9_leastMachine kvX9_leastMachine rfl rfl rfl (la_0 hW) rfl (Nat.le_of_ble_eq_true rfl) rfl (xk_R k)
    · replace k := k.2 c
      refine xw_aload_n dX9_machineOf_17 rfl rfl ?_
      refine yw_getR (r := 9) dX9_machineOf_18 fX9_28 rfl (la_0 hW) (lr_0_2 hW) ?_
      refine yw_getI (v := I 9 8) dX9_machineOf_21 fX9_134 rfl hW.2.2.1.1 rfl ?_
      refine xw_ifeq (tgt := 37) dX9_machineOf_24 (by decide) (fun c => ?_) (fun c => ?_)
      · replace k := k.1 c
        refine xw_null dX9_machineOf_37 ?_
        exact yw_aretN dX9_machineOf_38 rfl k
      · replace k := k.2 c
        refine xw_aload_n dX9_machineOf_27 rfl rfl ?_
        refine yw_getR (r := 9) dX9_machineOf_28 fX9_28 rfl (la_0 hW) (lr_0_2 hW) ?_
        refine yw_getR (r := 16) dX9_machineOf_31 fX9_138 rfl hW.2.2.1.1 hW.2.2.1.2.2.2.2.2.2.2.1 ?_
        refine xw_goto (tgt := 38) dX9_machineOf_34 (by decide) ?_
        exact yw_aretR dX9_machineOf_38 rfl k
  · replace k := k.2 c
    refine xw_aload_n dX9_machineOf_4 rfl rfl ?_
    refine yw_getR (r := 9) dX9_machineOf_5 fX9_28 rfl (la_0 hW) (lr_0_2 hW) ?_
    refine yw_getR (r := 12) dX9_machineOf_8 fX9_110 rfl hW.2.2.1.1 hW.2.2.1.2.2.2.2.2.2.1 ?_
    exact yw_aretR dX9_machineOf_11 rfl k
theorem bX9_machineOf_43 {b0 Mb0 : Nat} {mc ms : Nat} {Q : Option Nat → xHp → Prop} (hW : xLay sh R) (hb0 : xMach sh R b0 Mb0)
    (k : Q (some b0) (sh, I, R)) :
    Ex mX9_machineOf 43 [xU, xU] [.ref b0] (sh, I, R) mc ms (xqR Q) := by
  exact yw_aretR dX9_machineOf_43 rfl k
theorem eX9_machineOf {v1 : Int32} {h : xHp} {Q : Option Nat → xHp → Prop} (k : Ex mX9_machineOf 0 [.ref 0, .int v1] [] h 0 0 (xqR Q)) : CR mX9_machineOf [.ref 0, .int v1] h Q := k
theorem bX9_start_0 {v1 v2 : Int32} {mc ms : Nat} {Q : Int32 → xHp → Prop} (hW : xLay sh R) 
    (k : CI mX9_isMachine [.int v1] (sh, I, R) (fun w h1 => Ex mX9_start 4 [.ref 0, .int v1, .int v2, xU] (.int w :: []) h1 mc ms (xqI Q))) :
    Ex mX9_start 0 [.ref 0, .int v1, .int v2, xU] [] (sh, I, R) mc ms (xqI Q) := by
  refine xw_iload_n dX9_start_0 rfl rfl ?_
  exact yw_cS (As := [.int v1]) (st := []) dX9_start_1 lX9_168 ksX9_isMachine rfl rfl rfl (Nat.le_of_ble_eq_true rfl) rfl (xk_I k)
theorem bX9_start_4 {v1 v2 s0 : Int32} {mc ms : Nat} {Q : Int32 → xHp → Prop} (hW : xLay sh R) 
    (k : ((¬ s0 = 0 → CR mX9_machineOf [.ref 0, .int v1] (sh, I, R) (fun r h1 => (r = none → Ex mX9_start 14 [xU, xU, .int v2, xU] (.null :: []) h1 mc ms (xqI Q)) ∧ ∀ a, r = some a → Ex mX9_start 14 [xU, xU, .int v2, xU] (.ref a :: []) h1 mc ms (xqI Q))) ∧ (s0 = 0 → Q (-1) (sh, I, R)))) :
    Ex mX9_start 4 [.ref 0, .int v1, .int v2, xU] [.int s0] (sh, I, R) mc ms (xqI Q) := by
  refine xw_ifne (tgt := 9) dX9_start_4 (by decide) (fun c => ?_) (fun c => ?_)
  · replace k := k.1 c
    refine xw_aload_n dX9_start_9 rfl rfl ?_
    refine xw_iload_n dX9_start_10 rfl rfl ?_
    refine yw_sub (lv' := [xU, xU, .int v2, xU]) ⟨Or.inl rfl, Or.inl rfl, Or.inr rfl, Or.inl rfl, trivial⟩ ?_
    exact yw_cV (As := [.int v1]) (b := 0) (st := []) dX9_start_11 lX9_171 kiX9_machineOf kvX9_machineOf rfl rfl rfl (la_0 hW) rfl (Nat.le_of_ble_eq_true rfl) rfl (xk_R k)
  · replace k := k.2 c
    refine xw_iconst (v := (-1)) dX9_start_7 rfl ?_
    exact yw_iret dX9_start_8 rfl k
theorem bX9_start_14 {b0 Mb0 : Nat} {v2 : Int32} {mc ms : Nat} {Q : Int32 → xHp → Prop} (hW : xLay sh R) (hb0 : xMach sh R b0 Mb0)
    (k : CI mX3_has [.ref b0, .int v2] (sh, I, R) (fun w h1 => Ex mX9_start 27 [xU, xU, .int v2, .ref b0] (.int w :: []) h1 mc ms (xqI Q))) :
    Ex mX9_start 14 [xU, xU, .int v2, xU] [.ref b0] (sh, I, R) mc ms (xqI Q) := by
  refine yw_astore_n (lv' := [xU, xU, .int v2, .ref b0]) dX9_start_14 rfl rfl rfl rfl ?_
  refine xw_aload_n dX9_start_15 rfl rfl ?_
  refine xw_ifnonnull (tgt := 22) dX9_start_16 (by decide) ?_
  refine xw_aload_n dX9_start_22 rfl rfl ?_
  refine xw_iload_n dX9_start_23 rfl rfl ?_
  exact yw_cV (As := [.int v2]) (b := b0) (st := []) dX9_start_24 lX9_175 kiX3_has kvX3_has rfl rfl rfl hb0.1 rfl (Nat.le_of_ble_eq_true rfl) rfl (xk_I k)
theorem bX9_start_27 {a3 Ma3 : Nat} {v2 s0 : Int32} {mc ms : Nat} {Q : Int32 → xHp → Prop} (hW : xLay sh R) (ha3 : xMach sh R a3 Ma3)
    (k : ((s0 = 0 → Q (-1) (sh, I, R)) ∧ (¬ s0 = 0 → vp_in v2 Ma3 ∧ Q (I (a3 + 1) v2.toNatClampNeg) (sh, I, R)))) :
    Ex mX9_start 27 [xU, xU, .int v2, .ref a3] [.int s0] (sh, I, R) mc ms (xqI Q) := by
  refine xw_ifeq (tgt := 39) dX9_start_27 (by decide) (fun c => ?_) (fun c => ?_)
  · replace k := k.1 c
    refine xw_iconst (v := (-1)) dX9_start_39 rfl ?_
    exact yw_iret dX9_start_40 rfl k
  · replace k := k.2 c
    refine xw_aload_n dX9_start_30 rfl rfl ?_
    refine yw_getR (r := (a3 + 1)) dX9_start_31 fX9_178 rfl ha3.1 ha3.2.2.2.2.2.1 ?_
    refine xw_iload_n dX9_start_34 rfl rfl ?_
    obtain ⟨k0, k⟩ := k
    refine yw_iaload (v := I (a3 + 1) v2.toNatClampNeg) dX9_start_35 ha3.2.1 k0 rfl ?_
    refine xw_goto (tgt := 40) dX9_start_36 (by decide) ?_
    exact yw_iret dX9_start_40 rfl k
theorem bX9_start_14N {v2 : Int32} {mc ms : Nat} {Q : Int32 → xHp → Prop} (hW : xLay sh R) 
    (k : Q (-2) (sh, I, R)) :
    Ex mX9_start 14 [xU, xU, .int v2, xU] [.null] (sh, I, R) mc ms (xqI Q) := by
  refine yw_astore_nN (lv' := [xU, xU, .int v2, .null]) dX9_start_14 rfl rfl rfl rfl ?_
  refine xw_aload_nN dX9_start_15 rfl rfl ?_
  refine xw_ifnonnullN dX9_start_16 ?_
  refine xw_bipush (v := (-2)) dX9_start_19 (by decide) ?_
  exact yw_iret dX9_start_21 rfl k
theorem eX9_start {v1 : Int32} {v2 : Int32} {h : xHp} {Q : Int32 → xHp → Prop} (k : Ex mX9_start 0 [.ref 0, .int v1, .int v2, xU] [] h 0 0 (xqI Q)) : CI mX9_start [.ref 0, .int v1, .int v2] h Q := k
theorem bX9_finish_0 {v1 v2 : Int32} {mc ms : Nat} {Q : Int32 → xHp → Prop} (hW : xLay sh R) 
    (k : CI mX9_isMachine [.int v1] (sh, I, R) (fun w h1 => Ex mX9_finish 4 [.ref 0, .int v1, .int v2, xU] (.int w :: []) h1 mc ms (xqI Q))) :
    Ex mX9_finish 0 [.ref 0, .int v1, .int v2, xU] [] (sh, I, R) mc ms (xqI Q) := by
  refine xw_iload_n dX9_finish_0 rfl rfl ?_
  exact yw_cS (As := [.int v1]) (st := []) dX9_finish_1 lX9_168 ksX9_isMachine rfl rfl rfl (Nat.le_of_ble_eq_true rfl) rfl (xk_I k)
theorem bX9_finish_4 {v1 v2 s0 : Int32} {mc ms : Nat} {Q : Int32 → xHp → Prop} (hW : xLay sh R) 
    (k : ((¬ s0 = 0 → CR mX9_machineOf [.ref 0, .int v1] (sh, I, R) (fun r h1 => (r = none → Ex mX9_finish 14 [xU, xU, .int v2, xU] (.null :: []) h1 mc ms (xqI Q)) ∧ ∀ a, r = some a → Ex mX9_finish 14 [xU, xU, .int v2, xU] (.ref a :: []) h1 mc ms (xqI Q))) ∧ (s0 = 0 → Q (-1) (sh, I, R)))) :
    Ex mX9_finish 4 [.ref 0, .int v1, .int v2, xU] [.int s0] (sh, I, R) mc ms (xqI Q) := by
  refine xw_ifne (tgt := 9) dX9_finish_4 (by decide) (fun c => ?_) (fun c => ?_)
  · replace k := k.1 c
    refine xw_aload_n dX9_finish_9 rfl rfl ?_
    refine xw_iload_n dX9_finish_10 rfl rfl ?_
    refine yw_sub (lv' := [xU, xU, .int v2, xU]) ⟨Or.inl rfl, Or.inl rfl, Or.inr rfl, Or.inl rfl, trivial⟩ ?_
    exact yw_cV (As := [.int v1]) (b := 0) (st := []) dX9_finish_11 lX9_171 kiX9_machineOf kvX9_machineOf rfl rfl rfl (la_0 hW) rfl (Nat.le_of_ble_eq_true rfl) rfl (xk_R k)
  · replace k := k.2 c
    refine xw_iconst (v := (-1)) dX9_finish_7 rfl ?_
    exact yw_iret dX9_finish_8 rfl k
theorem bX9_finish_14 {b0 Mb0 : Nat} {v2 : Int32} {mc ms : Nat} {Q : Int32 → xHp → Prop} (hW : xLay sh R) (hb0 : xMach sh R b0 Mb0)
    (k : CI mX3_has [.ref b0, .int v2] (sh, I, R) (fun w h1 => Ex mX9_finish 27 [xU, xU, .int v2, .ref b0] (.int w :: []) h1 mc ms (xqI Q))) :
    Ex mX9_finish 14 [xU, xU, .int v2, xU] [.ref b0] (sh, I, R) mc ms (xqI Q) := by
  refine yw_astore_n (lv' := [xU, xU, .int v2, .ref b0]) dX9_finish_14 rfl rfl rfl rfl ?_
  refine xw_aload_n dX9_finish_15 rfl rfl ?_
  refine xw_ifnonnull (tgt := 22) dX9_finish_16 (by decide) ?_
  refine xw_aload_n dX9_finish_22 rfl rfl ?_
  refine xw_iload_n dX9_finish_23 rfl rfl ?_
  exact yw_cV (As := [.int v2]) (b := b0) (st := []) dX9_finish_24 lX9_175 kiX3_has kvX3_has rfl rfl rfl hb0.1 rfl (Nat.le_of_ble_eq_true rfl) rfl (xk_I k)
theorem bX9_finish_27 {a3 Ma3 : Nat} {v2 s0 : Int32} {mc ms : Nat} {Q : Int32 → xHp → Prop} (hW : xLay sh R) (ha3 : xMach sh R a3 Ma3)
    (k : ((s0 = 0 → Q (-1) (sh, I, R)) ∧ (¬ s0 = 0 → vp_in v2 Ma3 ∧ Q (I (a3 + 2) v2.toNatClampNeg) (sh, I, R)))) :
    Ex mX9_finish 27 [xU, xU, .int v2, .ref a3] [.int s0] (sh, I, R) mc ms (xqI Q) := by
  refine xw_ifeq (tgt := 39) dX9_finish_27 (by decide) (fun c => ?_) (fun c => ?_)
  · replace k := k.1 c
    refine xw_iconst (v := (-1)) dX9_finish_39 rfl ?_
    exact yw_iret dX9_finish_40 rfl k
  · replace k := k.2 c
    refine xw_aload_n dX9_finish_30 rfl rfl ?_
    refine yw_getR (r := (a3 + 2)) dX9_finish_31 fX9_181 rfl ha3.1 ha3.2.2.2.2.2.2.1 ?_
    refine xw_iload_n dX9_finish_34 rfl rfl ?_
    obtain ⟨k0, k⟩ := k
    refine yw_iaload (v := I (a3 + 2) v2.toNatClampNeg) dX9_finish_35 ha3.2.2.1 k0 rfl ?_
    refine xw_goto (tgt := 40) dX9_finish_36 (by decide) ?_
    exact yw_iret dX9_finish_40 rfl k
theorem bX9_finish_14N {v2 : Int32} {mc ms : Nat} {Q : Int32 → xHp → Prop} (hW : xLay sh R) 
    (k : Q (-2) (sh, I, R)) :
    Ex mX9_finish 14 [xU, xU, .int v2, xU] [.null] (sh, I, R) mc ms (xqI Q) := by
  refine yw_astore_nN (lv' := [xU, xU, .int v2, .null]) dX9_finish_14 rfl rfl rfl rfl ?_
  refine xw_aload_nN dX9_finish_15 rfl rfl ?_
  refine xw_ifnonnullN dX9_finish_16 ?_
  refine xw_bipush (v := (-2)) dX9_finish_19 (by decide) ?_
  exact yw_iret dX9_finish_21 rfl k
theorem eX9_finish {v1 : Int32} {v2 : Int32} {h : xHp} {Q : Int32 → xHp → Prop} (k : Ex mX9_finish 0 [.ref 0, .int v1, .int v2, xU] [] h 0 0 (xqI Q)) : CI mX9_finish [.ref 0, .int v1, .int v2] h Q := k
theorem bX9_edge_0 {v1 v2 v3 v4 : Int32} {mc ms : Nat} {Q : Int32 → xHp → Prop} (hW : xLay sh R) 
    (k : CI mX9_isMachine [.int v1] (sh, I, R) (fun w h1 => Ex mX9_edge 4 [.ref 0, .int v1, .int v2, .int v3, .int v4, xU] (.int w :: []) h1 mc ms (xqI Q))) :
    Ex mX9_edge 0 [.ref 0, .int v1, .int v2, .int v3, .int v4, xU] [] (sh, I, R) mc ms (xqI Q) := by
  refine xw_iload_n dX9_edge_0 rfl rfl ?_
  exact yw_cS (As := [.int v1]) (st := []) dX9_edge_1 lX9_168 ksX9_isMachine rfl rfl rfl (Nat.le_of_ble_eq_true rfl) rfl (xk_I k)
theorem bX9_edge_4 {v1 v2 v3 v4 s0 : Int32} {mc ms : Nat} {Q : Int32 → xHp → Prop} (hW : xLay sh R) 
    (k : ((¬ s0 = 0 → CR mX9_machineOf [.ref 0, .int v1] (sh, I, R) (fun r h1 => (r = none → Ex mX9_edge 14 [.ref 0, xU, .int v2, .int v3, .int v4, xU] (.null :: []) h1 mc ms (xqI Q)) ∧ ∀ a, r = some a → Ex mX9_edge 14 [.ref 0, xU, .int v2, .int v3, .int v4, xU] (.ref a :: []) h1 mc ms (xqI Q))) ∧ (s0 = 0 → Q (-1) (sh, I, R)))) :
    Ex mX9_edge 4 [.ref 0, .int v1, .int v2, .int v3, .int v4, xU] [.int s0] (sh, I, R) mc ms (xqI Q) := by
  refine xw_ifne (tgt := 9) dX9_edge_4 (by decide) (fun c => ?_) (fun c => ?_)
  · replace k := k.1 c
    refine xw_aload_n dX9_edge_9 rfl rfl ?_
    refine xw_iload_n dX9_edge_10 rfl rfl ?_
    refine yw_sub (lv' := [.ref 0, xU, .int v2, .int v3, .int v4, xU]) ⟨Or.inr rfl, Or.inl rfl, Or.inr rfl, Or.inr rfl, Or.inr rfl, Or.inl rfl, trivial⟩ ?_
    exact yw_cV (As := [.int v1]) (b := 0) (st := []) dX9_edge_11 lX9_171 kiX9_machineOf kvX9_machineOf rfl rfl rfl (la_0 hW) rfl (Nat.le_of_ble_eq_true rfl) rfl (xk_R k)
  · replace k := k.2 c
    refine xw_iconst (v := (-1)) dX9_edge_7 rfl ?_
    exact yw_iret dX9_edge_8 rfl k
theorem bX9_edge_14 {b0 Mb0 : Nat} {v2 v3 v4 : Int32} {mc ms : Nat} {Q : Int32 → xHp → Prop} (hW : xLay sh R) (hb0 : xMach sh R b0 Mb0)
    (k : CI mX3_has [.ref b0, .int v2] (sh, I, R) (fun w h1 => Ex mX9_edge 30 [.ref 0, xU, .int v2, .int v3, .int v4, .ref b0] (.int w :: []) h1 mc ms (xqI Q))) :
    Ex mX9_edge 14 [.ref 0, xU, .int v2, .int v3, .int v4, xU] [.ref b0] (sh, I, R) mc ms (xqI Q) := by
  refine yw_astore (lv' := [.ref 0, xU, .int v2, .int v3, .int v4, .ref b0]) dX9_edge_14 rfl rfl rfl ?_
  refine xw_aload dX9_edge_16 rfl ?_
  refine xw_ifnonnull (tgt := 24) dX9_edge_18 (by decide) ?_
  refine xw_aload dX9_edge_24 rfl ?_
  refine xw_iload_n dX9_edge_26 rfl rfl ?_
  exact yw_cV (As := [.int v2]) (b := b0) (st := []) dX9_edge_27 lX9_175 kiX3_has kvX3_has rfl rfl rfl hb0.1 rfl (Nat.le_of_ble_eq_true rfl) rfl (xk_I k)
theorem bX9_edge_30 {a5 Ma5 : Nat} {v2 v3 v4 s0 : Int32} {mc ms : Nat} {Q : Int32 → xHp → Prop} (hW : xLay sh R) (ha5 : xMach sh R a5 Ma5)
    (k : ((s0 = 0 → Q (-1) (sh, I, R)) ∧ (¬ s0 = 0 → CI mX5_hasLetter [.ref 1, .int v3] (sh, I, R) (fun w h1 => Ex mX9_edge 41 [xU, xU, .int v2, .int v3, .int v4, .ref a5] (.int w :: []) h1 mc ms (xqI Q))))) :
    Ex mX9_edge 30 [.ref 0, xU, .int v2, .int v3, .int v4, .ref a5] [.int s0] (sh, I, R) mc ms (xqI Q) := by
  refine xw_ifeq (tgt := 54) dX9_edge_30 (by decide) (fun c => ?_) (fun c => ?_)
  · replace k := k.1 c
    refine xw_iconst (v := (-1)) dX9_edge_54 rfl ?_
    exact yw_iret dX9_edge_55 rfl k
  · replace k := k.2 c
    refine xw_aload_n dX9_edge_33 rfl rfl ?_
    refine yw_getR (r := 1) dX9_edge_34 fX9_10 rfl (la_0 hW) (lr_0_0 hW) ?_
    refine xw_iload_n dX9_edge_37 rfl rfl ?_
    refine yw_sub (lv' := [xU, xU, .int v2, .int v3, .int v4, .ref a5]) ⟨Or.inl rfl, Or.inl rfl, Or.inr rfl, Or.inr rfl, Or.inr rfl, Or.inr rfl, trivial⟩ ?_
    exact yw_cV (As := [.int v3]) (b := 1) (st := []) dX9_edge_38 lX9_184 kiX5_hasLetter kvX5_hasLetter rfl rfl rfl (la_1 hW) rfl (Nat.le_of_ble_eq_true rfl) rfl (xk_I k)
theorem bX9_edge_41 {a5 Ma5 : Nat} {v2 v3 v4 s0 : Int32} {mc ms : Nat} {Q : Int32 → xHp → Prop} (hW : xLay sh R) (ha5 : xMach sh R a5 Ma5)
    (k : ((s0 = 0 → Q (-1) (sh, I, R)) ∧ (¬ s0 = 0 → CI mX3_has [.ref a5, .int v4] (sh, I, R) (fun w h1 => Ex mX9_edge 51 [xU, xU, .int v2, .int v3, .int v4, .ref a5] (.int w :: []) h1 mc ms (xqI Q))))) :
    Ex mX9_edge 41 [xU, xU, .int v2, .int v3, .int v4, .ref a5] [.int s0] (sh, I, R) mc ms (xqI Q) := by
  refine xw_ifeq (tgt := 54) dX9_edge_41 (by decide) (fun c => ?_) (fun c => ?_)
  · replace k := k.1 c
    refine xw_iconst (v := (-1)) dX9_edge_54 rfl ?_
    exact yw_iret dX9_edge_55 rfl k
  · replace k := k.2 c
    refine xw_aload dX9_edge_44 rfl ?_
    refine xw_iload dX9_edge_46 rfl ?_
    exact yw_cV (As := [.int v4]) (b := a5) (st := []) dX9_edge_48 lX9_175 kiX3_has kvX3_has rfl rfl rfl ha5.1 rfl (Nat.le_of_ble_eq_true rfl) rfl (xk_I k)
theorem bX9_edge_51 {a5 Ma5 : Nat} {v2 v3 v4 s0 : Int32} {mc ms : Nat} {Q : Int32 → xHp → Prop} (hW : xLay sh R) (ha5 : xMach sh R a5 Ma5)
    (k : ((¬ s0 = 0 → CI mX3_at [.ref a5, .int v2, .int v3, .int v4] (sh, I, R) (fun w h1 => Ex mX9_edge 70 [xU, xU, xU, xU, xU, xU] (.int w :: [.ref (a5 + 3)]) h1 mc ms (xqI Q))) ∧ (s0 = 0 → Q (-1) (sh, I, R)))) :
    Ex mX9_edge 51 [xU, xU, .int v2, .int v3, .int v4, .ref a5] [.int s0] (sh, I, R) mc ms (xqI Q) := by
  refine xw_ifne (tgt := 56) dX9_edge_51 (by decide) (fun c => ?_) (fun c => ?_)
  · replace k := k.1 c
    refine xw_aload dX9_edge_56 rfl ?_
    refine yw_getR (r := (a5 + 3)) dX9_edge_58 fX9_187 rfl ha5.1 ha5.2.2.2.2.2.2.2 ?_
    refine xw_aload dX9_edge_61 rfl ?_
    refine xw_iload_n dX9_edge_63 rfl rfl ?_
    refine xw_iload_n dX9_edge_64 rfl rfl ?_
    refine xw_iload dX9_edge_65 rfl ?_
    refine yw_sub (lv' := [xU, xU, xU, xU, xU, xU]) ⟨Or.inl rfl, Or.inl rfl, Or.inl rfl, Or.inl rfl, Or.inl rfl, Or.inl rfl, trivial⟩ ?_
    exact yw_cV (As := [.int v2, .int v3, .int v4]) (b := a5) (st := [.ref (a5 + 3)]) dX9_edge_67 lX9_190 kiX3_at kvX3_at rfl rfl rfl ha5.1 rfl (Nat.le_of_ble_eq_true rfl) rfl (xk_I k)
  · replace k := k.2 c
    refine xw_iconst (v := (-1)) dX9_edge_54 rfl ?_
    exact yw_iret dX9_edge_55 rfl k
theorem bX9_edge_70 {b0 nb0 : Nat} {s1 : Int32} {mc ms : Nat} {Q : Int32 → xHp → Prop} (hW : xLay sh R) (hb0 : sh[b0]? = some (.inr (0, nb0)))
    (k : vp_in s1 nb0 ∧ Q (I b0 s1.toNatClampNeg) (sh, I, R)) :
    Ex mX9_edge 70 [xU, xU, xU, xU, xU, xU] [.int s1, .ref b0] (sh, I, R) mc ms (xqI Q) := by
  obtain ⟨k0, k⟩ := k
  refine yw_iaload (v := I b0 s1.toNatClampNeg) dX9_edge_70 hb0 k0 rfl ?_
  exact yw_iret dX9_edge_71 rfl k
theorem bX9_edge_14N {v2 v3 v4 : Int32} {mc ms : Nat} {Q : Int32 → xHp → Prop} (hW : xLay sh R) 
    (k : Q (-2) (sh, I, R)) :
    Ex mX9_edge 14 [.ref 0, xU, .int v2, .int v3, .int v4, xU] [.null] (sh, I, R) mc ms (xqI Q) := by
  refine yw_astoreN (lv' := [.ref 0, xU, .int v2, .int v3, .int v4, .null]) dX9_edge_14 rfl rfl rfl ?_
  refine xw_aloadN dX9_edge_16 rfl ?_
  refine xw_ifnonnullN dX9_edge_18 ?_
  refine xw_bipush (v := (-2)) dX9_edge_21 (by decide) ?_
  exact yw_iret dX9_edge_23 rfl k
theorem eX9_edge {v1 : Int32} {v2 : Int32} {v3 : Int32} {v4 : Int32} {h : xHp} {Q : Int32 → xHp → Prop} (k : Ex mX9_edge 0 [.ref 0, .int v1, .int v2, .int v3, .int v4, xU] [] h 0 0 (xqI Q)) : CI mX9_edge [.ref 0, .int v1, .int v2, .int v3, .int v4] h Q := k
theorem bX9_letter_0 {v1 : Int32} {mc ms : Nat} {Q : Int32 → xHp → Prop} (hW : xLay sh R) 
    (k : CI mX5_hasLetter [.ref 1, .int v1] (sh, I, R) (fun w h1 => Ex mX9_letter 8 [.ref 0, .int v1] (.int w :: []) h1 mc ms (xqI Q))) :
    Ex mX9_letter 0 [.ref 0, .int v1] [] (sh, I, R) mc ms (xqI Q) := by
  refine xw_aload_n dX9_letter_0 rfl rfl ?_
  refine yw_getR (r := 1) dX9_letter_1 fX9_10 rfl (la_0 hW) (lr_0_0 hW) ?_
  refine xw_iload_n dX9_letter_4 rfl rfl ?_
  exact yw_cV (As := [.int v1]) (b := 1) (st := []) dX9_letter_5 lX9_184 kiX5_hasLetter kvX5_hasLetter rfl rfl rfl (la_1 hW) rfl (Nat.le_of_ble_eq_true rfl) rfl (xk_I k)
theorem bX9_letter_8 {v1 s0 : Int32} {mc ms : Nat} {Q : Int32 → xHp → Prop} (hW : xLay sh R) 
    (k : ((¬ s0 = 0 → (((I 0 13) < (nI 12) → CI mX5_withLetter [.ref 1, .int (I 0 12), .int v1] (sh, I, R) (fun w h1 => Ex mX9_letter 38 [.ref 0, xU] (.int w :: [.ref 0]) h1 mc ms (xqI Q))) ∧ (¬ (I 0 13) < (nI 12) → Q (-3) (sh, I, R)))) ∧ (s0 = 0 → Q (-1) (sh, I, R)))) :
    Ex mX9_letter 8 [.ref 0, .int v1] [.int s0] (sh, I, R) mc ms (xqI Q) := by
  refine xw_ifne (tgt := 13) dX9_letter_8 (by decide) (fun c => ?_) (fun c => ?_)
  · replace k := k.1 c
    refine xw_aload_n dX9_letter_13 rfl rfl ?_
    refine yw_getI (v := I 0 13) dX9_letter_14 fX9_123 rfl (la_0 hW) rfl ?_
    refine xw_bipush (v := nI 12) dX9_letter_17 (by decide) ?_
    refine xw_iclt (tgt := 25) dX9_letter_19 (by decide) (fun c => ?_) (fun c => ?_)
    · replace k := k.1 c
      refine xw_aload_n dX9_letter_25 rfl rfl ?_
      refine xw_aload_n dX9_letter_26 rfl rfl ?_
      refine yw_getR (r := 1) dX9_letter_27 fX9_10 rfl (la_0 hW) (lr_0_0 hW) ?_
      refine xw_aload_n dX9_letter_30 rfl rfl ?_
      refine yw_getI (v := I 0 12) dX9_letter_31 fX9_120 rfl (la_0 hW) rfl ?_
      refine xw_iload_n dX9_letter_34 rfl rfl ?_
      refine yw_sub (lv' := [.ref 0, xU]) ⟨Or.inr rfl, Or.inl rfl, trivial⟩ ?_
      exact yw_cV (As := [.int (I 0 12), .int v1]) (b := 1) (st := [.ref 0]) dX9_letter_35 lX9_194 kiX5_withLetter kvX5_withLetter rfl rfl rfl (la_1 hW) rfl (Nat.le_of_ble_eq_true rfl) rfl (xk_I k)
    · replace k := k.2 c
      refine xw_bipush (v := (-3)) dX9_letter_22 (by decide) ?_
      exact yw_iret dX9_letter_24 rfl k
  · replace k := k.2 c
    refine xw_iconst (v := (-1)) dX9_letter_11 rfl ?_
    exact yw_iret dX9_letter_12 rfl k
theorem bX9_letter_38 {s1 : Int32} {mc ms : Nat} {Q : Int32 → xHp → Prop} (hW : xLay sh R) 
    (k : Q ((I 0 13) + (nI 1)) (sh, (xi (xi I 0 12 s1) 0 13 ((I 0 13) + (nI 1))), R)) :
    Ex mX9_letter 38 [.ref 0, xU] [.int s1, .ref 0] (sh, I, R) mc ms (xqI Q) := by
  refine yw_putI dX9_letter_38 fX9_120 (fun r h => by cases h; exact Or.inl rfl) rfl (la_0 hW) ?_
  refine xw_aload_n dX9_letter_41 rfl rfl ?_
  refine xw_dup dX9_letter_42 rfl ?_
  refine yw_getI (v := I 0 13) dX9_letter_43 fX9_123 rfl (la_0 hW) (xi_s (j := 13) (k := 12) (by decide)) ?_
  refine xw_iconst (v := nI 1) dX9_letter_46 rfl ?_
  refine xw_iadd dX9_letter_47 ?_
  refine yw_putI dX9_letter_48 fX9_123 (fun r h => by cases h; exact Or.inl rfl) rfl (la_0 hW) ?_
  refine xw_aload_n dX9_letter_51 rfl rfl ?_
  refine yw_getI (v := (I 0 13) + (nI 1)) dX9_letter_52 fX9_123 rfl (la_0 hW) (xi_e) ?_
  exact yw_iret dX9_letter_55 rfl k
theorem eX9_letter {v1 : Int32} {h : xHp} {Q : Int32 → xHp → Prop} (k : Ex mX9_letter 0 [.ref 0, .int v1] [] h 0 0 (xqI Q)) : CI mX9_letter [.ref 0, .int v1] h Q := k
theorem bX9_wipe_0 {mc ms : Nat} {Q : Int32 → xHp → Prop} (hW : xLay sh R) 
    (k : Q (I 0 13) (sh, (xi (xi I 0 12 (nI 0)) 0 13 (nI 0)), R)) :
    Ex mX9_wipe 0 [.ref 0, xU] [] (sh, I, R) mc ms (xqI Q) := by
  refine xw_aload_n dX9_wipe_0 rfl rfl ?_
  refine yw_getI (v := I 0 13) dX9_wipe_1 fX9_123 rfl (la_0 hW) rfl ?_
  refine yw_istore_n (lv' := [.ref 0, .int (I 0 13)]) dX9_wipe_4 rfl rfl rfl rfl ?_
  refine xw_aload_n dX9_wipe_5 rfl rfl ?_
  refine xw_iconst (v := nI 0) dX9_wipe_6 rfl ?_
  refine yw_putI dX9_wipe_7 fX9_120 (fun r h => by cases h; exact Or.inl rfl) rfl (la_0 hW) ?_
  refine xw_aload_n dX9_wipe_10 rfl rfl ?_
  refine xw_iconst (v := nI 0) dX9_wipe_11 rfl ?_
  refine yw_putI dX9_wipe_12 fX9_123 (fun r h => by cases h; exact Or.inl rfl) rfl (la_0 hW) ?_
  refine xw_iload_n dX9_wipe_15 rfl rfl ?_
  exact yw_iret dX9_wipe_16 rfl k
theorem eX9_wipe {h : xHp} {Q : Int32 → xHp → Prop} (k : Ex mX9_wipe 0 [.ref 0, xU] [] h 0 0 (xqI Q)) : CI mX9_wipe [.ref 0] h Q := k
theorem bX9_value_0 {v1 : Int32} {mc ms : Nat} {Q : Int32 → xHp → Prop} (hW : xLay sh R) 
    (k : CI mX9_isMachine [.int v1] (sh, I, R) (fun w h1 => Ex mX9_value 4 [.ref 0, .int v1, xU] (.int w :: []) h1 mc ms (xqI Q))) :
    Ex mX9_value 0 [.ref 0, .int v1, xU] [] (sh, I, R) mc ms (xqI Q) := by
  refine xw_iload_n dX9_value_0 rfl rfl ?_
  exact yw_cS (As := [.int v1]) (st := []) dX9_value_1 lX9_168 ksX9_isMachine rfl rfl rfl (Nat.le_of_ble_eq_true rfl) rfl (xk_I k)
theorem bX9_value_4 {v1 s0 : Int32} {mc ms : Nat} {Q : Int32 → xHp → Prop} (hW : xLay sh R) 
    (k : ((¬ s0 = 0 → CR mX9_machineOf [.ref 0, .int v1] (sh, I, R) (fun r h1 => (r = none → Ex mX9_value 14 [.ref 0, xU, xU] (.null :: []) h1 mc ms (xqI Q)) ∧ ∀ a, r = some a → Ex mX9_value 14 [.ref 0, xU, xU] (.ref a :: []) h1 mc ms (xqI Q))) ∧ (s0 = 0 → Q (-1) (sh, I, R)))) :
    Ex mX9_value 4 [.ref 0, .int v1, xU] [.int s0] (sh, I, R) mc ms (xqI Q) := by
  refine xw_ifne (tgt := 9) dX9_value_4 (by decide) (fun c => ?_) (fun c => ?_)
  · replace k := k.1 c
    refine xw_aload_n dX9_value_9 rfl rfl ?_
    refine xw_iload_n dX9_value_10 rfl rfl ?_
    refine yw_sub (lv' := [.ref 0, xU, xU]) ⟨Or.inr rfl, Or.inl rfl, Or.inl rfl, trivial⟩ ?_
    exact yw_cV (As := [.int v1]) (b := 0) (st := []) dX9_value_11 lX9_171 kiX9_machineOf kvX9_machineOf rfl rfl rfl (la_0 hW) rfl (Nat.le_of_ble_eq_true rfl) rfl (xk_R k)
  · replace k := k.2 c
    refine xw_iconst (v := (-1)) dX9_value_7 rfl ?_
    exact yw_iret dX9_value_8 rfl k
theorem bX9_value_14 {b0 Mb0 : Nat} {mc ms : Nat} {Q : Int32 → xHp → Prop} (hW : xLay sh R) (hb0 : xMach sh R b0 Mb0)
    (k : CI mX0_valueOf [.ref 23, .ref b0, .int (I 0 12)] (sh, I, R) (fun w h1 => Ex mX9_value 36 [xU, xU, xU] (.int w :: []) h1 mc ms (xqI Q))) :
    Ex mX9_value 14 [.ref 0, xU, xU] [.ref b0] (sh, I, R) mc ms (xqI Q) := by
  refine yw_astore_n (lv' := [.ref 0, xU, .ref b0]) dX9_value_14 rfl rfl rfl rfl ?_
  refine xw_aload_n dX9_value_15 rfl rfl ?_
  refine xw_ifnonnull (tgt := 24) dX9_value_16 (by decide) ?_
  refine xw_aload_n dX9_value_24 rfl rfl ?_
  refine yw_getR (r := 23) dX9_value_25 fX9_49 rfl (la_0 hW) (lr_0_6 hW) ?_
  refine xw_aload_n dX9_value_28 rfl rfl ?_
  refine xw_aload_n dX9_value_29 rfl rfl ?_
  refine yw_getI (v := I 0 12) dX9_value_30 fX9_120 rfl (la_0 hW) rfl ?_
  refine yw_sub (lv' := [xU, xU, xU]) ⟨Or.inl rfl, Or.inl rfl, Or.inl rfl, trivial⟩ ?_
  exact yw_cV (As := [.ref b0, .int (I 0 12)]) (b := 23) (st := []) dX9_value_33 lX9_198 kiX0_valueOf kvX0_valueOf rfl rfl rfl (la_23 hW) rfl (Nat.le_of_ble_eq_true rfl) rfl (xk_I k)
theorem bX9_value_36 {s0 : Int32} {mc ms : Nat} {Q : Int32 → xHp → Prop} (hW : xLay sh R) 
    (k : Q s0 (sh, I, R)) :
    Ex mX9_value 36 [xU, xU, xU] [.int s0] (sh, I, R) mc ms (xqI Q) := by
  exact yw_iret dX9_value_36 rfl k
theorem bX9_value_14N {mc ms : Nat} {Q : Int32 → xHp → Prop} (hW : xLay sh R) 
    (k : Q (-2) (sh, I, R)) :
    Ex mX9_value 14 [.ref 0, xU, xU] [.null] (sh, I, R) mc ms (xqI Q) := by
  refine yw_astore_nN (lv' := [.ref 0, xU, .null]) dX9_value_14 rfl rfl rfl rfl ?_
  refine xw_aload_nN dX9_value_15 rfl rfl ?_
  refine xw_ifnonnullN dX9_value_16 ?_
  refine xw_bipush (v := (-2)) dX9_value_19 (by decide) ?_
  refine xw_goto (tgt := 36) dX9_value_21 (by decide) ?_
  exact yw_iret dX9_value_36 rfl k
theorem eX9_value {v1 : Int32} {h : xHp} {Q : Int32 → xHp → Prop} (k : Ex mX9_value 0 [.ref 0, .int v1, xU] [] h 0 0 (xqI Q)) : CI mX9_value [.ref 0, .int v1] h Q := k
theorem bX9_space_0 {v1 v2 : Int32} {mc ms : Nat} {Q : Int32 → xHp → Prop} (hW : xLay sh R) 
    (k : CI mX9_isMachine [.int v1] (sh, I, R) (fun w h1 => Ex mX9_space 4 [.ref 0, .int v1, .int v2, xU] (.int w :: []) h1 mc ms (xqI Q))) :
    Ex mX9_space 0 [.ref 0, .int v1, .int v2, xU] [] (sh, I, R) mc ms (xqI Q) := by
  refine xw_iload_n dX9_space_0 rfl rfl ?_
  exact yw_cS (As := [.int v1]) (st := []) dX9_space_1 lX9_168 ksX9_isMachine rfl rfl rfl (Nat.le_of_ble_eq_true rfl) rfl (xk_I k)
theorem bX9_space_4 {v1 v2 s0 : Int32} {mc ms : Nat} {Q : Int32 → xHp → Prop} (hW : xLay sh R) 
    (k : ((s0 = 0 → Q (-1) (sh, I, R)) ∧ (¬ s0 = 0 → ((v2 < 0 → Q (-1) (sh, I, R)) ∧ (¬ v2 < 0 → ((v2 ≤ (nI 2) → CR mX9_machineOf [.ref 0, .int v1] (sh, I, R) (fun r h1 => (r = none → Ex mX9_space 23 [.ref 0, xU, .int v2, xU] (.null :: []) h1 mc ms (xqI Q)) ∧ ∀ a, r = some a → Ex mX9_space 23 [.ref 0, xU, .int v2, xU] (.ref a :: []) h1 mc ms (xqI Q))) ∧ (¬ v2 ≤ (nI 2) → Q (-1) (sh, I, R)))))))) :
    Ex mX9_space 4 [.ref 0, .int v1, .int v2, xU] [.int s0] (sh, I, R) mc ms (xqI Q) := by
  refine xw_ifeq (tgt := 16) dX9_space_4 (by decide) (fun c => ?_) (fun c => ?_)
  · replace k := k.1 c
    refine xw_iconst (v := (-1)) dX9_space_16 rfl ?_
    exact yw_iret dX9_space_17 rfl k
  · replace k := k.2 c
    refine xw_iload_n dX9_space_7 rfl rfl ?_
    refine xw_iflt (tgt := 16) dX9_space_8 (by decide) (fun c => ?_) (fun c => ?_)
    · replace k := k.1 c
      refine xw_iconst (v := (-1)) dX9_space_16 rfl ?_
      exact yw_iret dX9_space_17 rfl k
    · replace k := k.2 c
      refine xw_iload_n dX9_space_11 rfl rfl ?_
      refine xw_iconst (v := nI 2) dX9_space_12 rfl ?_
      refine xw_icle (tgt := 18) dX9_space_13 (by decide) (fun c => ?_) (fun c => ?_)
      · replace k := k.1 c
        refine xw_aload_n dX9_space_18 rfl rfl ?_
        refine xw_iload_n dX9_space_19 rfl rfl ?_
        refine yw_sub (lv' := [.ref 0, xU, .int v2, xU]) ⟨Or.inr rfl, Or.inl rfl, Or.inr rfl, Or.inl rfl, trivial⟩ ?_
        exact yw_cV (As := [.int v1]) (b := 0) (st := []) dX9_space_20 lX9_171 kiX9_machineOf kvX9_machineOf rfl rfl rfl (la_0 hW) rfl (Nat.le_of_ble_eq_true rfl) rfl (xk_R k)
      · replace k := k.2 c
        refine xw_iconst (v := (-1)) dX9_space_16 rfl ?_
        exact yw_iret dX9_space_17 rfl k
theorem bX9_space_23 {b0 Mb0 : Nat} {v2 : Int32} {mc ms : Nat} {Q : Int32 → xHp → Prop} (hW : xLay sh R) (hb0 : xMach sh R b0 Mb0)
    (k : ((¬ v2 = 0 → CV mX0_seeAllEndings [.ref 23, .ref b0] (sh, I, R) (fun h1 => Ex mX9_space 67 [.ref 0, xU, .int v2, xU] [] h1 mc ms (xqI Q))) ∧ (v2 = 0 → CV mX0_seeStates [.ref 23, .ref b0] (sh, I, R) (fun h1 => Ex mX9_space 43 [.ref 0, xU, xU, xU] [] h1 mc ms (xqI Q))))) :
    Ex mX9_space 23 [.ref 0, xU, .int v2, xU] [.ref b0] (sh, I, R) mc ms (xqI Q) := by
  refine yw_astore_n (lv' := [.ref 0, xU, .int v2, .ref b0]) dX9_space_23 rfl rfl rfl rfl ?_
  refine xw_aload_n dX9_space_24 rfl rfl ?_
  refine xw_ifnonnull (tgt := 31) dX9_space_25 (by decide) ?_
  refine xw_iload_n dX9_space_31 rfl rfl ?_
  refine xw_ifne (tgt := 59) dX9_space_32 (by decide) (fun c => ?_) (fun c => ?_)
  · replace k := k.1 c
    refine xw_aload_n dX9_space_59 rfl rfl ?_
    refine yw_getR (r := 23) dX9_space_60 fX9_49 rfl (la_0 hW) (lr_0_6 hW) ?_
    refine xw_aload_n dX9_space_63 rfl rfl ?_
    refine yw_sub (lv' := [.ref 0, xU, .int v2, xU]) ⟨Or.inr rfl, Or.inl rfl, Or.inr rfl, Or.inl rfl, trivial⟩ ?_
    exact yw_cV (As := [.ref b0]) (b := 23) (st := []) dX9_space_64 lX9_211 kiX0_seeAllEndings kvX0_seeAllEndings rfl rfl rfl (la_23 hW) rfl (Nat.le_of_ble_eq_true rfl) rfl (xk_V k)
  · replace k := k.2 c
    refine xw_aload_n dX9_space_35 rfl rfl ?_
    refine yw_getR (r := 23) dX9_space_36 fX9_49 rfl (la_0 hW) (lr_0_6 hW) ?_
    refine xw_aload_n dX9_space_39 rfl rfl ?_
    refine yw_sub (lv' := [.ref 0, xU, xU, xU]) ⟨Or.inr rfl, Or.inl rfl, Or.inl rfl, Or.inl rfl, trivial⟩ ?_
    exact yw_cV (As := [.ref b0]) (b := 23) (st := []) dX9_space_40 lX9_202 kiX0_seeStates kvX0_seeStates rfl rfl rfl (la_23 hW) rfl (Nat.le_of_ble_eq_true rfl) rfl (xk_V k)
theorem bX9_space_67 {v2 : Int32} {mc ms : Nat} {Q : Int32 → xHp → Prop} (hW : xLay sh R) 
    (k : ((¬ v2 = (nI 1) → CI mX0_widen [.ref 23] (sh, I, R) (fun w h1 => Ex mX9_space 90 [.ref 0, xU, xU, xU] (.int w :: []) h1 mc ms (xqI Q))) ∧ (v2 = (nI 1) → Q (I 38 8) (sh, I, R)))) :
    Ex mX9_space 67 [.ref 0, xU, .int v2, xU] [] (sh, I, R) mc ms (xqI Q) := by
  refine xw_iload_n dX9_space_67 rfl rfl ?_
  refine xw_iconst (v := nI 1) dX9_space_68 rfl ?_
  refine xw_icne (tgt := 83) dX9_space_69 (by decide) (fun c => ?_) (fun c => ?_)
  · replace k := k.1 c
    refine xw_aload_n dX9_space_83 rfl rfl ?_
    refine yw_getR (r := 23) dX9_space_84 fX9_49 rfl (la_0 hW) (lr_0_6 hW) ?_
    refine yw_sub (lv' := [.ref 0, xU, xU, xU]) ⟨Or.inr rfl, Or.inl rfl, Or.inl rfl, Or.inl rfl, trivial⟩ ?_
    exact yw_cV (As := []) (b := 23) (st := []) dX9_space_87 lX9_205 kiX0_widen kvX0_widen rfl rfl rfl (la_23 hW) rfl (Nat.le_of_ble_eq_true rfl) rfl (xk_I k)
  · replace k := k.2 c
    refine xw_aload_n dX9_space_72 rfl rfl ?_
    refine yw_getR (r := 23) dX9_space_73 fX9_49 rfl (la_0 hW) (lr_0_6 hW) ?_
    refine yw_getR (r := 38) dX9_space_76 fX9_214 rfl (la_23 hW) (lr_23_1 hW) ?_
    refine yw_getI (v := I 38 8) dX9_space_79 fX9_218 rfl hW.2.2.2.2.1.1 rfl ?_
    exact yw_iret dX9_space_82 rfl k
theorem bX9_space_90 {s0 : Int32} {mc ms : Nat} {Q : Int32 → xHp → Prop} (hW : xLay sh R) 
    (k : Q (I 23 10) (sh, I, R)) :
    Ex mX9_space 90 [.ref 0, xU, xU, xU] [.int s0] (sh, I, R) mc ms (xqI Q) := by
  refine xw_pop dX9_space_90 rfl ?_
  refine xw_aload_n dX9_space_91 rfl rfl ?_
  refine yw_getR (r := 23) dX9_space_92 fX9_49 rfl (la_0 hW) (lr_0_6 hW) ?_
  refine yw_getI (v := I 23 10) dX9_space_95 fX9_208 rfl (la_23 hW) rfl ?_
  exact yw_iret dX9_space_98 rfl k
theorem bX9_space_43 {mc ms : Nat} {Q : Int32 → xHp → Prop} (hW : xLay sh R) 
    (k : CI mX0_widen [.ref 23] (sh, I, R) (fun w h1 => Ex mX9_space 50 [.ref 0, xU, xU, xU] (.int w :: []) h1 mc ms (xqI Q))) :
    Ex mX9_space 43 [.ref 0, xU, xU, xU] [] (sh, I, R) mc ms (xqI Q) := by
  refine xw_aload_n dX9_space_43 rfl rfl ?_
  refine yw_getR (r := 23) dX9_space_44 fX9_49 rfl (la_0 hW) (lr_0_6 hW) ?_
  exact yw_cV (As := []) (b := 23) (st := []) dX9_space_47 lX9_205 kiX0_widen kvX0_widen rfl rfl rfl (la_23 hW) rfl (Nat.le_of_ble_eq_true rfl) rfl (xk_I k)
theorem bX9_space_50 {s0 : Int32} {mc ms : Nat} {Q : Int32 → xHp → Prop} (hW : xLay sh R) 
    (k : Q (I 23 10) (sh, I, R)) :
    Ex mX9_space 50 [.ref 0, xU, xU, xU] [.int s0] (sh, I, R) mc ms (xqI Q) := by
  refine xw_pop dX9_space_50 rfl ?_
  refine xw_aload_n dX9_space_51 rfl rfl ?_
  refine yw_getR (r := 23) dX9_space_52 fX9_49 rfl (la_0 hW) (lr_0_6 hW) ?_
  refine yw_getI (v := I 23 10) dX9_space_55 fX9_208 rfl (la_23 hW) rfl ?_
  exact yw_iret dX9_space_58 rfl k
theorem bX9_space_23N {v2 : Int32} {mc ms : Nat} {Q : Int32 → xHp → Prop} (hW : xLay sh R) 
    (k : Q (-2) (sh, I, R)) :
    Ex mX9_space 23 [.ref 0, xU, .int v2, xU] [.null] (sh, I, R) mc ms (xqI Q) := by
  refine yw_astore_nN (lv' := [.ref 0, xU, .int v2, .null]) dX9_space_23 rfl rfl rfl rfl ?_
  refine xw_aload_nN dX9_space_24 rfl rfl ?_
  refine xw_ifnonnullN dX9_space_25 ?_
  refine xw_bipush (v := (-2)) dX9_space_28 (by decide) ?_
  exact yw_iret dX9_space_30 rfl k
theorem eX9_space {v1 : Int32} {v2 : Int32} {h : xHp} {Q : Int32 → xHp → Prop} (k : Ex mX9_space 0 [.ref 0, .int v1, .int v2, xU] [] h 0 0 (xqI Q)) : CI mX9_space [.ref 0, .int v1, .int v2] h Q := k
theorem bX9_share_0 {v1 v2 : Int32} {mc ms : Nat} {Q : Int32 → xHp → Prop} (hW : xLay sh R) 
    (k : CI mX9_isMachine [.int v1] (sh, I, R) (fun w h1 => Ex mX9_share 4 [.ref 0, .int v1, .int v2, xU] (.int w :: []) h1 mc ms (xqI Q))) :
    Ex mX9_share 0 [.ref 0, .int v1, .int v2, xU] [] (sh, I, R) mc ms (xqI Q) := by
  refine xw_iload_n dX9_share_0 rfl rfl ?_
  exact yw_cS (As := [.int v1]) (st := []) dX9_share_1 lX9_168 ksX9_isMachine rfl rfl rfl (Nat.le_of_ble_eq_true rfl) rfl (xk_I k)
theorem bX9_share_4 {v1 v2 s0 : Int32} {mc ms : Nat} {Q : Int32 → xHp → Prop} (hW : xLay sh R) 
    (k : ((s0 = 0 → Q (-1) (sh, I, R)) ∧ (¬ s0 = 0 → ((v2 < 0 → Q (-1) (sh, I, R)) ∧ (¬ v2 < 0 → ((v2 ≤ (nI 6) → CR mX9_machineOf [.ref 0, .int v1] (sh, I, R) (fun r h1 => (r = none → Ex mX9_share 24 [.ref 0, xU, .int v2, xU] (.null :: []) h1 mc ms (xqI Q)) ∧ ∀ a, r = some a → Ex mX9_share 24 [.ref 0, xU, .int v2, xU] (.ref a :: []) h1 mc ms (xqI Q))) ∧ (¬ v2 ≤ (nI 6) → Q (-1) (sh, I, R)))))))) :
    Ex mX9_share 4 [.ref 0, .int v1, .int v2, xU] [.int s0] (sh, I, R) mc ms (xqI Q) := by
  refine xw_ifeq (tgt := 17) dX9_share_4 (by decide) (fun c => ?_) (fun c => ?_)
  · replace k := k.1 c
    refine xw_iconst (v := (-1)) dX9_share_17 rfl ?_
    exact yw_iret dX9_share_18 rfl k
  · replace k := k.2 c
    refine xw_iload_n dX9_share_7 rfl rfl ?_
    refine xw_iflt (tgt := 17) dX9_share_8 (by decide) (fun c => ?_) (fun c => ?_)
    · replace k := k.1 c
      refine xw_iconst (v := (-1)) dX9_share_17 rfl ?_
      exact yw_iret dX9_share_18 rfl k
    · replace k := k.2 c
      refine xw_iload_n dX9_share_11 rfl rfl ?_
      refine xw_bipush (v := nI 6) dX9_share_12 (by decide) ?_
      refine xw_icle (tgt := 19) dX9_share_14 (by decide) (fun c => ?_) (fun c => ?_)
      · replace k := k.1 c
        refine xw_aload_n dX9_share_19 rfl rfl ?_
        refine xw_iload_n dX9_share_20 rfl rfl ?_
        refine yw_sub (lv' := [.ref 0, xU, .int v2, xU]) ⟨Or.inr rfl, Or.inl rfl, Or.inr rfl, Or.inl rfl, trivial⟩ ?_
        exact yw_cV (As := [.int v1]) (b := 0) (st := []) dX9_share_21 lX9_171 kiX9_machineOf kvX9_machineOf rfl rfl rfl (la_0 hW) rfl (Nat.le_of_ble_eq_true rfl) rfl (xk_R k)
      · replace k := k.2 c
        refine xw_iconst (v := (-1)) dX9_share_17 rfl ?_
        exact yw_iret dX9_share_18 rfl k
theorem bX9_share_24 {b0 Mb0 : Nat} {v2 : Int32} {mc ms : Nat} {Q : Int32 → xHp → Prop} (hW : xLay sh R) (hb0 : xMach sh R b0 Mb0)
    (k : CV mX1_count [.ref 86, .ref b0, .int v2] (sh, I, R) (fun h1 => Ex mX9_share 41 [.ref 0, xU, xU, xU] [] h1 mc ms (xqI Q))) :
    Ex mX9_share 24 [.ref 0, xU, .int v2, xU] [.ref b0] (sh, I, R) mc ms (xqI Q) := by
  refine yw_astore_n (lv' := [.ref 0, xU, .int v2, .ref b0]) dX9_share_24 rfl rfl rfl rfl ?_
  refine xw_aload_n dX9_share_25 rfl rfl ?_
  refine xw_ifnonnull (tgt := 32) dX9_share_26 (by decide) ?_
  refine xw_aload_n dX9_share_32 rfl rfl ?_
  refine yw_getR (r := 86) dX9_share_33 fX9_56 rfl (la_0 hW) (lr_0_7 hW) ?_
  refine xw_aload_n dX9_share_36 rfl rfl ?_
  refine xw_iload_n dX9_share_37 rfl rfl ?_
  refine yw_sub (lv' := [.ref 0, xU, xU, xU]) ⟨Or.inr rfl, Or.inl rfl, Or.inl rfl, Or.inl rfl, trivial⟩ ?_
  exact yw_cV (As := [.ref b0, .int v2]) (b := 86) (st := []) dX9_share_38 lX9_219 kiX1_count kvX1_count rfl rfl rfl (la_86 hW) rfl (Nat.le_of_ble_eq_true rfl) rfl (xk_V k)
theorem bX9_share_41 {mc ms : Nat} {Q : Int32 → xHp → Prop} (hW : xLay sh R) 
    (k : CI mX1_shareBits [.ref 86] (sh, I, R) (fun w h1 => Ex mX9_share 48 [xU, xU, xU, xU] (.int w :: []) h1 mc ms (xqI Q))) :
    Ex mX9_share 41 [.ref 0, xU, xU, xU] [] (sh, I, R) mc ms (xqI Q) := by
  refine xw_aload_n dX9_share_41 rfl rfl ?_
  refine yw_getR (r := 86) dX9_share_42 fX9_56 rfl (la_0 hW) (lr_0_7 hW) ?_
  refine yw_sub (lv' := [xU, xU, xU, xU]) ⟨Or.inl rfl, Or.inl rfl, Or.inl rfl, Or.inl rfl, trivial⟩ ?_
  exact yw_cV (As := []) (b := 86) (st := []) dX9_share_45 lX9_223 kiX1_shareBits kvX1_shareBits rfl rfl rfl (la_86 hW) rfl (Nat.le_of_ble_eq_true rfl) rfl (xk_I k)
theorem bX9_share_48 {s0 : Int32} {mc ms : Nat} {Q : Int32 → xHp → Prop} (hW : xLay sh R) 
    (k : Q s0 (sh, I, R)) :
    Ex mX9_share 48 [xU, xU, xU, xU] [.int s0] (sh, I, R) mc ms (xqI Q) := by
  exact yw_iret dX9_share_48 rfl k
theorem bX9_share_24N {v2 : Int32} {mc ms : Nat} {Q : Int32 → xHp → Prop} (hW : xLay sh R) 
    (k : Q (-2) (sh, I, R)) :
    Ex mX9_share 24 [.ref 0, xU, .int v2, xU] [.null] (sh, I, R) mc ms (xqI Q) := by
  refine yw_astore_nN (lv' := [.ref 0, xU, .int v2, .null]) dX9_share_24 rfl rfl rfl rfl ?_
  refine xw_aload_nN dX9_share_25 rfl rfl ?_
  refine xw_ifnonnullN dX9_share_26 ?_
  refine xw_bipush (v := (-2)) dX9_share_29 (by decide) ?_
  exact yw_iret dX9_share_31 rfl k
theorem eX9_share {v1 : Int32} {v2 : Int32} {h : xHp} {Q : Int32 → xHp → Prop} (k : Ex mX9_share 0 [.ref 0, .int v1, .int v2, xU] [] h 0 0 (xqI Q)) : CI mX9_share [.ref 0, .int v1, .int v2] h Q := k
theorem bX9_mean_0 {v1 v2 : Int32} {mc ms : Nat} {Q : Int64 → xHp → Prop} (hW : xLay sh R) 
    (k : CI mX9_isMachine [.int v1] (sh, I, R) (fun w h1 => Ex mX9_mean 4 [.ref 0, .int v1, .int v2, xU] (.int w :: []) h1 mc ms (xqJ Q))) :
    Ex mX9_mean 0 [.ref 0, .int v1, .int v2, xU] [] (sh, I, R) mc ms (xqJ Q) := by
  refine xw_iload_n dX9_mean_0 rfl rfl ?_
  exact yw_cS (As := [.int v1]) (st := []) dX9_mean_1 lX9_168 ksX9_isMachine rfl rfl rfl (Nat.le_of_ble_eq_true rfl) rfl (xk_I k)
theorem bX9_mean_4 {v1 v2 s0 : Int32} {mc ms : Nat} {Q : Int64 → xHp → Prop} (hW : xLay sh R) 
    (k : ((s0 = 0 → Q (-1 : Int64) (sh, I, R)) ∧ (¬ s0 = 0 → ((v2 < 0 → Q (-1 : Int64) (sh, I, R)) ∧ (¬ v2 < 0 → ((v2 ≤ (nI 6) → CR mX9_machineOf [.ref 0, .int v1] (sh, I, R) (fun r h1 => (r = none → Ex mX9_mean 26 [.ref 0, xU, .int v2, xU] (.null :: []) h1 mc ms (xqJ Q)) ∧ ∀ a, r = some a → Ex mX9_mean 26 [.ref 0, xU, .int v2, xU] (.ref a :: []) h1 mc ms (xqJ Q))) ∧ (¬ v2 ≤ (nI 6) → Q (-1 : Int64) (sh, I, R)))))))) :
    Ex mX9_mean 4 [.ref 0, .int v1, .int v2, xU] [.int s0] (sh, I, R) mc ms (xqJ Q) := by
  refine xw_ifeq (tgt := 17) dX9_mean_4 (by decide) (fun c => ?_) (fun c => ?_)
  · replace k := k.1 c
    refine xw_ldcL dX9_mean_17 cX9_226 ?_
    exact yw_lret dX9_mean_20 rfl k
  · replace k := k.2 c
    refine xw_iload_n dX9_mean_7 rfl rfl ?_
    refine xw_iflt (tgt := 17) dX9_mean_8 (by decide) (fun c => ?_) (fun c => ?_)
    · replace k := k.1 c
      refine xw_ldcL dX9_mean_17 cX9_226 ?_
      exact yw_lret dX9_mean_20 rfl k
    · replace k := k.2 c
      refine xw_iload_n dX9_mean_11 rfl rfl ?_
      refine xw_bipush (v := nI 6) dX9_mean_12 (by decide) ?_
      refine xw_icle (tgt := 21) dX9_mean_14 (by decide) (fun c => ?_) (fun c => ?_)
      · replace k := k.1 c
        refine xw_aload_n dX9_mean_21 rfl rfl ?_
        refine xw_iload_n dX9_mean_22 rfl rfl ?_
        refine yw_sub (lv' := [.ref 0, xU, .int v2, xU]) ⟨Or.inr rfl, Or.inl rfl, Or.inr rfl, Or.inl rfl, trivial⟩ ?_
        exact yw_cV (As := [.int v1]) (b := 0) (st := []) dX9_mean_23 lX9_171 kiX9_machineOf kvX9_machineOf rfl rfl rfl (la_0 hW) rfl (Nat.le_of_ble_eq_true rfl) rfl (xk_R k)
      · replace k := k.2 c
        refine xw_ldcL dX9_mean_17 cX9_226 ?_
        exact yw_lret dX9_mean_20 rfl k
theorem bX9_mean_26 {b0 Mb0 : Nat} {v2 : Int32} {mc ms : Nat} {Q : Int64 → xHp → Prop} (hW : xLay sh R) (hb0 : xMach sh R b0 Mb0)
    (k : CV mX1_count [.ref 86, .ref b0, .int v2] (sh, I, R) (fun h1 => Ex mX9_mean 44 [.ref 0, xU, xU, xU] [] h1 mc ms (xqJ Q))) :
    Ex mX9_mean 26 [.ref 0, xU, .int v2, xU] [.ref b0] (sh, I, R) mc ms (xqJ Q) := by
  refine yw_astore_n (lv' := [.ref 0, xU, .int v2, .ref b0]) dX9_mean_26 rfl rfl rfl rfl ?_
  refine xw_aload_n dX9_mean_27 rfl rfl ?_
  refine xw_ifnonnull (tgt := 35) dX9_mean_28 (by decide) ?_
  refine xw_aload_n dX9_mean_35 rfl rfl ?_
  refine yw_getR (r := 86) dX9_mean_36 fX9_56 rfl (la_0 hW) (lr_0_7 hW) ?_
  refine xw_aload_n dX9_mean_39 rfl rfl ?_
  refine xw_iload_n dX9_mean_40 rfl rfl ?_
  refine yw_sub (lv' := [.ref 0, xU, xU, xU]) ⟨Or.inr rfl, Or.inl rfl, Or.inl rfl, Or.inl rfl, trivial⟩ ?_
  exact yw_cV (As := [.ref b0, .int v2]) (b := 86) (st := []) dX9_mean_41 lX9_219 kiX1_count kvX1_count rfl rfl rfl (la_86 hW) rfl (Nat.le_of_ble_eq_true rfl) rfl (xk_V k)
theorem bX9_mean_44 {mc ms : Nat} {Q : Int64 → xHp → Prop} (hW : xLay sh R) 
    (k : CJ mX1_meanBits [.ref 86] (sh, I, R) (fun w h1 => Ex mX9_mean 51 [xU, xU, xU, xU] (.long w :: []) h1 mc ms (xqJ Q))) :
    Ex mX9_mean 44 [.ref 0, xU, xU, xU] [] (sh, I, R) mc ms (xqJ Q) := by
  refine xw_aload_n dX9_mean_44 rfl rfl ?_
  refine yw_getR (r := 86) dX9_mean_45 fX9_56 rfl (la_0 hW) (lr_0_7 hW) ?_
  refine yw_sub (lv' := [xU, xU, xU, xU]) ⟨Or.inl rfl, Or.inl rfl, Or.inl rfl, Or.inl rfl, trivial⟩ ?_
  exact yw_cV (As := []) (b := 86) (st := []) dX9_mean_48 lX9_230 kiX1_meanBits kvX1_meanBits rfl rfl rfl (la_86 hW) rfl (Nat.le_of_ble_eq_true rfl) rfl (xk_J k)
theorem bX9_mean_51 {s0 : Int64} {mc ms : Nat} {Q : Int64 → xHp → Prop} (hW : xLay sh R) 
    (k : Q s0 (sh, I, R)) :
    Ex mX9_mean 51 [xU, xU, xU, xU] [.long s0] (sh, I, R) mc ms (xqJ Q) := by
  exact yw_lret dX9_mean_51 rfl k
theorem bX9_mean_26N {v2 : Int32} {mc ms : Nat} {Q : Int64 → xHp → Prop} (hW : xLay sh R) 
    (k : Q (-2 : Int64) (sh, I, R)) :
    Ex mX9_mean 26 [.ref 0, xU, .int v2, xU] [.null] (sh, I, R) mc ms (xqJ Q) := by
  refine yw_astore_nN (lv' := [.ref 0, xU, .int v2, .null]) dX9_mean_26 rfl rfl rfl rfl ?_
  refine xw_aload_nN dX9_mean_27 rfl rfl ?_
  refine xw_ifnonnullN dX9_mean_28 ?_
  refine xw_ldcL dX9_mean_31 cX9_228 ?_
  exact yw_lret dX9_mean_34 rfl k
theorem eX9_mean {v1 : Int32} {v2 : Int32} {h : xHp} {Q : Int64 → xHp → Prop} (k : Ex mX9_mean 0 [.ref 0, .int v1, .int v2, xU] [] h 0 0 (xqJ Q)) : CJ mX9_mean [.ref 0, .int v1, .int v2] h Q := k
theorem bX9_prefix_0 {v1 : Int32} {mc ms : Nat} {Q : Int32 → xHp → Prop} (hW : xLay sh R) 
    (k : ((0 ≤ v1 → (((I 9 5) ≤ v1 → Q (-4) (sh, I, R)) ∧ (¬ (I 9 5) ≤ v1 → vp_in v1 4 ∧ Q (I 10 v1.toNatClampNeg) (sh, I, R)))) ∧ (¬ 0 ≤ v1 → Q (-1) (sh, I, R)))) :
    Ex mX9_prefix 0 [.ref 0, .int v1] [] (sh, I, R) mc ms (xqI Q) := by
  refine xw_iload_n dX9_prefix_0 rfl rfl ?_
  refine xw_ifge (tgt := 6) dX9_prefix_1 (by decide) (fun c => ?_) (fun c => ?_)
  · replace k := k.1 c
    refine xw_iload_n dX9_prefix_6 rfl rfl ?_
    refine xw_aload_n dX9_prefix_7 rfl rfl ?_
    refine yw_getR (r := 9) dX9_prefix_8 fX9_28 rfl (la_0 hW) (lr_0_2 hW) ?_
    refine yw_getI (v := I 9 5) dX9_prefix_11 fX9_145 rfl hW.2.2.1.1 rfl ?_
    refine xw_icge (tgt := 29) dX9_prefix_14 (by decide) (fun c => ?_) (fun c => ?_)
    · replace k := k.1 c
      refine xw_bipush (v := (-4)) dX9_prefix_29 (by decide) ?_
      exact yw_iret dX9_prefix_31 rfl k
    · replace k := k.2 c
      refine xw_aload_n dX9_prefix_17 rfl rfl ?_
      refine yw_getR (r := 9) dX9_prefix_18 fX9_28 rfl (la_0 hW) (lr_0_2 hW) ?_
      refine yw_getR (r := 10) dX9_prefix_21 fX9_234 rfl hW.2.2.1.1 hW.2.2.1.2.2.2.2.1 ?_
      refine xw_iload_n dX9_prefix_24 rfl rfl ?_
      obtain ⟨k0, k⟩ := k
      refine yw_iaload (v := I 10 v1.toNatClampNeg) dX9_prefix_25 hW.2.2.1.2.1 k0 rfl ?_
      refine xw_goto (tgt := 31) dX9_prefix_26 (by decide) ?_
      exact yw_iret dX9_prefix_31 rfl k
  · replace k := k.2 c
    refine xw_iconst (v := (-1)) dX9_prefix_4 rfl ?_
    exact yw_iret dX9_prefix_5 rfl k
theorem eX9_prefix {v1 : Int32} {h : xHp} {Q : Int32 → xHp → Prop} (k : Ex mX9_prefix 0 [.ref 0, .int v1] [] h 0 0 (xqI Q)) : CI mX9_prefix [.ref 0, .int v1] h Q := k
theorem bX9_suffix_0 {v1 : Int32} {mc ms : Nat} {Q : Int32 → xHp → Prop} (hW : xLay sh R) 
    (k : ((0 ≤ v1 → (((I 9 6) ≤ v1 → Q (-4) (sh, I, R)) ∧ (¬ (I 9 6) ≤ v1 → vp_in v1 48 ∧ Q (I 11 v1.toNatClampNeg) (sh, I, R)))) ∧ (¬ 0 ≤ v1 → Q (-1) (sh, I, R)))) :
    Ex mX9_suffix 0 [.ref 0, .int v1] [] (sh, I, R) mc ms (xqI Q) := by
  refine xw_iload_n dX9_suffix_0 rfl rfl ?_
  refine xw_ifge (tgt := 6) dX9_suffix_1 (by decide) (fun c => ?_) (fun c => ?_)
  · replace k := k.1 c
    refine xw_iload_n dX9_suffix_6 rfl rfl ?_
    refine xw_aload_n dX9_suffix_7 rfl rfl ?_
    refine yw_getR (r := 9) dX9_suffix_8 fX9_28 rfl (la_0 hW) (lr_0_2 hW) ?_
    refine yw_getI (v := I 9 6) dX9_suffix_11 fX9_148 rfl hW.2.2.1.1 rfl ?_
    refine xw_icge (tgt := 29) dX9_suffix_14 (by decide) (fun c => ?_) (fun c => ?_)
    · replace k := k.1 c
      refine xw_bipush (v := (-4)) dX9_suffix_29 (by decide) ?_
      exact yw_iret dX9_suffix_31 rfl k
    · replace k := k.2 c
      refine xw_aload_n dX9_suffix_17 rfl rfl ?_
      refine yw_getR (r := 9) dX9_suffix_18 fX9_28 rfl (la_0 hW) (lr_0_2 hW) ?_
      refine yw_getR (r := 11) dX9_suffix_21 fX9_237 rfl hW.2.2.1.1 hW.2.2.1.2.2.2.2.2.1 ?_
      refine xw_iload_n dX9_suffix_24 rfl rfl ?_
      obtain ⟨k0, k⟩ := k
      refine yw_iaload (v := I 11 v1.toNatClampNeg) dX9_suffix_25 hW.2.2.1.2.2.1 k0 rfl ?_
      refine xw_goto (tgt := 31) dX9_suffix_26 (by decide) ?_
      exact yw_iret dX9_suffix_31 rfl k
  · replace k := k.2 c
    refine xw_iconst (v := (-1)) dX9_suffix_4 rfl ?_
    exact yw_iret dX9_suffix_5 rfl k
theorem eX9_suffix {v1 : Int32} {h : xHp} {Q : Int32 → xHp → Prop} (k : Ex mX9_suffix 0 [.ref 0, .int v1] [] h 0 0 (xqI Q)) : CI mX9_suffix [.ref 0, .int v1] h Q := k
theorem bX9_isRow_0 {v1 : Int32} {mc ms : Nat} {Q : Int32 → xHp → Prop} (hW : xLay sh R) 
    (k : ((v1 < 0 → Q (nI 0) (sh, I, R)) ∧ (¬ v1 < 0 → ((((I 9 5) * ((nI 1) + (I 1 1))) ≤ v1 → Q (nI 0) (sh, I, R)) ∧ (¬ ((I 9 5) * ((nI 1) + (I 1 1))) ≤ v1 → Q (nI 1) (sh, I, R)))))) :
    Ex mX9_isRow 0 [.ref 0, .int v1] [] (sh, I, R) mc ms (xqI Q) := by
  refine xw_iload_n dX9_isRow_0 rfl rfl ?_
  refine xw_iflt (tgt := 29) dX9_isRow_1 (by decide) (fun c => ?_) (fun c => ?_)
  · replace k := k.1 c
    refine xw_iconst (v := nI 0) dX9_isRow_29 rfl ?_
    exact yw_zret dX9_isRow_30 rfl (by decide) k
  · replace k := k.2 c
    refine xw_iload_n dX9_isRow_4 rfl rfl ?_
    refine xw_aload_n dX9_isRow_5 rfl rfl ?_
    refine yw_getR (r := 9) dX9_isRow_6 fX9_28 rfl (la_0 hW) (lr_0_2 hW) ?_
    refine yw_getI (v := I 9 5) dX9_isRow_9 fX9_145 rfl hW.2.2.1.1 rfl ?_
    refine xw_iconst (v := nI 1) dX9_isRow_12 rfl ?_
    refine xw_aload_n dX9_isRow_13 rfl rfl ?_
    refine yw_getR (r := 1) dX9_isRow_14 fX9_10 rfl (la_0 hW) (lr_0_0 hW) ?_
    refine yw_getI (v := I 1 1) dX9_isRow_17 fX9_130 rfl (la_1 hW) rfl ?_
    refine xw_iadd dX9_isRow_20 ?_
    refine xw_imul dX9_isRow_21 ?_
    refine xw_icge (tgt := 29) dX9_isRow_22 (by decide) (fun c => ?_) (fun c => ?_)
    · replace k := k.1 c
      refine xw_iconst (v := nI 0) dX9_isRow_29 rfl ?_
      exact yw_zret dX9_isRow_30 rfl (by decide) k
    · replace k := k.2 c
      refine xw_iconst (v := nI 1) dX9_isRow_25 rfl ?_
      refine xw_goto (tgt := 30) dX9_isRow_26 (by decide) ?_
      exact yw_zret dX9_isRow_30 rfl (by decide) k
theorem eX9_isRow {v1 : Int32} {h : xHp} {Q : Int32 → xHp → Prop} (k : Ex mX9_isRow 0 [.ref 0, .int v1] [] h 0 0 (xqI Q)) : CI mX9_isRow [.ref 0, .int v1] h Q := k
theorem bX9_wordOfRow_0 {v1 : Int32} {mc ms : Nat} {Q : Int32 → xHp → Prop} (hW : xLay sh R) 
    (k : (((I 9 5) ≤ v1 → ¬ I 1 1 = 0 ∧ vp_in ((v1 - (I 9 5)) / (I 1 1)) 4 ∧ ¬ I 1 1 = 0 ∧ CI mX5_withLetter [.ref 1, .int (I 10 (((v1 - (I 9 5)) / (I 1 1)).toNatClampNeg)), .int (xrem (v1 - (I 9 5)) (I 1 1))] (sh, I, R) (fun w h1 => Ex mX9_wordOfRow 64 [xU, xU, xU] (.int w :: []) h1 mc ms (xqI Q))) ∧ (¬ (I 9 5) ≤ v1 → vp_in v1 4 ∧ Q (I 10 v1.toNatClampNeg) (sh, I, R)))) :
    Ex mX9_wordOfRow 0 [.ref 0, .int v1, xU] [] (sh, I, R) mc ms (xqI Q) := by
  refine xw_iload_n dX9_wordOfRow_0 rfl rfl ?_
  refine xw_aload_n dX9_wordOfRow_1 rfl rfl ?_
  refine yw_getR (r := 9) dX9_wordOfRow_2 fX9_28 rfl (la_0 hW) (lr_0_2 hW) ?_
  refine yw_getI (v := I 9 5) dX9_wordOfRow_5 fX9_145 rfl hW.2.2.1.1 rfl ?_
  refine xw_icge (tgt := 21) dX9_wordOfRow_8 (by decide) (fun c => ?_) (fun c => ?_)
  · replace k := k.1 c
    refine xw_iload_n dX9_wordOfRow_21 rfl rfl ?_
    refine xw_aload_n dX9_wordOfRow_22 rfl rfl ?_
    refine yw_getR (r := 9) dX9_wordOfRow_23 fX9_28 rfl (la_0 hW) (lr_0_2 hW) ?_
    refine yw_getI (v := I 9 5) dX9_wordOfRow_26 fX9_145 rfl hW.2.2.1.1 rfl ?_
    refine xw_isub dX9_wordOfRow_29 ?_
    refine yw_istore_n (lv' := [.ref 0, .int v1, .int (v1 - (I 9 5))]) dX9_wordOfRow_30 rfl rfl rfl rfl ?_
    refine xw_aload_n dX9_wordOfRow_31 rfl rfl ?_
    refine yw_getR (r := 1) dX9_wordOfRow_32 fX9_10 rfl (la_0 hW) (lr_0_0 hW) ?_
    refine xw_aload_n dX9_wordOfRow_35 rfl rfl ?_
    refine yw_getR (r := 9) dX9_wordOfRow_36 fX9_28 rfl (la_0 hW) (lr_0_2 hW) ?_
    refine yw_getR (r := 10) dX9_wordOfRow_39 fX9_234 rfl hW.2.2.1.1 hW.2.2.1.2.2.2.2.1 ?_
    refine xw_iload_n dX9_wordOfRow_42 rfl rfl ?_
    refine xw_aload_n dX9_wordOfRow_43 rfl rfl ?_
    refine yw_getR (r := 1) dX9_wordOfRow_44 fX9_10 rfl (la_0 hW) (lr_0_0 hW) ?_
    refine yw_getI (v := I 1 1) dX9_wordOfRow_47 fX9_130 rfl (la_1 hW) rfl ?_
    obtain ⟨k0, k⟩ := k
    refine xw_idiv dX9_wordOfRow_50 k0 ?_
    obtain ⟨k0, k⟩ := k
    refine yw_iaload (v := I 10 (((v1 - (I 9 5)) / (I 1 1)).toNatClampNeg)) dX9_wordOfRow_51 hW.2.2.1.2.1 k0 rfl ?_
    refine xw_iload_n dX9_wordOfRow_52 rfl rfl ?_
    refine xw_aload_n dX9_wordOfRow_53 rfl rfl ?_
    refine yw_getR (r := 1) dX9_wordOfRow_54 fX9_10 rfl (la_0 hW) (lr_0_0 hW) ?_
    refine yw_getI (v := I 1 1) dX9_wordOfRow_57 fX9_130 rfl (la_1 hW) rfl ?_
    obtain ⟨k0, k⟩ := k
    refine yw_irem dX9_wordOfRow_60 k0 ?_
    refine yw_sub (lv' := [xU, xU, xU]) ⟨Or.inl rfl, Or.inl rfl, Or.inl rfl, trivial⟩ ?_
    exact yw_cV (As := [.int (I 10 (((v1 - (I 9 5)) / (I 1 1)).toNatClampNeg)), .int (xrem (v1 - (I 9 5)) (I 1 1))]) (b := 1) (st := []) dX9_wordOfRow_61 lX9_194 kiX5_withLetter kvX5_withLetter rfl rfl rfl (la_1 hW) rfl (Nat.le_of_ble_eq_true rfl) rfl (xk_I k)
  · replace k := k.2 c
    refine xw_aload_n dX9_wordOfRow_11 rfl rfl ?_
    refine yw_getR (r := 9) dX9_wordOfRow_12 fX9_28 rfl (la_0 hW) (lr_0_2 hW) ?_
    refine yw_getR (r := 10) dX9_wordOfRow_15 fX9_234 rfl hW.2.2.1.1 hW.2.2.1.2.2.2.2.1 ?_
    refine xw_iload_n dX9_wordOfRow_18 rfl rfl ?_
    obtain ⟨k0, k⟩ := k
    refine yw_iaload (v := I 10 v1.toNatClampNeg) dX9_wordOfRow_19 hW.2.2.1.2.1 k0 rfl ?_
    exact yw_iret dX9_wordOfRow_20 rfl k
theorem bX9_wordOfRow_64 {s0 : Int32} {mc ms : Nat} {Q : Int32 → xHp → Prop} (hW : xLay sh R) 
    (k : Q s0 (sh, I, R)) :
    Ex mX9_wordOfRow 64 [xU, xU, xU] [.int s0] (sh, I, R) mc ms (xqI Q) := by
  exact yw_iret dX9_wordOfRow_64 rfl k
theorem eX9_wordOfRow {v1 : Int32} {h : xHp} {Q : Int32 → xHp → Prop} (k : Ex mX9_wordOfRow 0 [.ref 0, .int v1, xU] [] h 0 0 (xqI Q)) : CI mX9_wordOfRow [.ref 0, .int v1] h Q := k
theorem bX9_cell_0 {v1 v2 : Int32} {mc ms : Nat} {Q : Int32 → xHp → Prop} (hW : xLay sh R) 
    (k : CI mX9_isRow [.ref 0, .int v1] (sh, I, R) (fun w h1 => Ex mX9_cell 5 [.ref 0, .int v1, .int v2] (.int w :: []) h1 mc ms (xqI Q))) :
    Ex mX9_cell 0 [.ref 0, .int v1, .int v2] [] (sh, I, R) mc ms (xqI Q) := by
  refine xw_aload_n dX9_cell_0 rfl rfl ?_
  refine xw_iload_n dX9_cell_1 rfl rfl ?_
  exact yw_cV (As := [.int v1]) (b := 0) (st := []) dX9_cell_2 lX9_240 kiX9_isRow kvX9_isRow rfl rfl rfl (la_0 hW) rfl (Nat.le_of_ble_eq_true rfl) rfl (xk_I k)
theorem bX9_cell_5 {v1 v2 s0 : Int32} {mc ms : Nat} {Q : Int32 → xHp → Prop} (hW : xLay sh R) 
    (k : ((s0 = 0 → Q (-1) (sh, I, R)) ∧ (¬ s0 = 0 → ((v2 < 0 → Q (-1) (sh, I, R)) ∧ (¬ v2 < 0 → ((v2 < (I 9 6) → CI mX9_wordOfRow [.ref 0, .int v1] (sh, I, R) (fun w h1 => Ex mX9_cell 45 [.ref 0, xU, .int v2] (.int w :: [.ref 1, .ref 12, .ref 23]) h1 mc ms (xqI Q))) ∧ (¬ v2 < (I 9 6) → Q (-1) (sh, I, R)))))))) :
    Ex mX9_cell 5 [.ref 0, .int v1, .int v2] [.int s0] (sh, I, R) mc ms (xqI Q) := by
  refine xw_ifeq (tgt := 23) dX9_cell_5 (by decide) (fun c => ?_) (fun c => ?_)
  · replace k := k.1 c
    refine xw_iconst (v := (-1)) dX9_cell_23 rfl ?_
    exact yw_iret dX9_cell_24 rfl k
  · replace k := k.2 c
    refine xw_iload_n dX9_cell_8 rfl rfl ?_
    refine xw_iflt (tgt := 23) dX9_cell_9 (by decide) (fun c => ?_) (fun c => ?_)
    · replace k := k.1 c
      refine xw_iconst (v := (-1)) dX9_cell_23 rfl ?_
      exact yw_iret dX9_cell_24 rfl k
    · replace k := k.2 c
      refine xw_iload_n dX9_cell_12 rfl rfl ?_
      refine xw_aload_n dX9_cell_13 rfl rfl ?_
      refine yw_getR (r := 9) dX9_cell_14 fX9_28 rfl (la_0 hW) (lr_0_2 hW) ?_
      refine yw_getI (v := I 9 6) dX9_cell_17 fX9_148 rfl hW.2.2.1.1 rfl ?_
      refine xw_iclt (tgt := 25) dX9_cell_20 (by decide) (fun c => ?_) (fun c => ?_)
      · replace k := k.1 c
        refine xw_aload_n dX9_cell_25 rfl rfl ?_
        refine yw_getR (r := 23) dX9_cell_26 fX9_49 rfl (la_0 hW) (lr_0_6 hW) ?_
        refine xw_aload_n dX9_cell_29 rfl rfl ?_
        refine yw_getR (r := 9) dX9_cell_30 fX9_28 rfl (la_0 hW) (lr_0_2 hW) ?_
        refine yw_getR (r := 12) dX9_cell_33 fX9_110 rfl hW.2.2.1.1 hW.2.2.1.2.2.2.2.2.2.1 ?_
        refine xw_aload_n dX9_cell_36 rfl rfl ?_
        refine yw_getR (r := 1) dX9_cell_37 fX9_10 rfl (la_0 hW) (lr_0_0 hW) ?_
        refine xw_aload_n dX9_cell_40 rfl rfl ?_
        refine xw_iload_n dX9_cell_41 rfl rfl ?_
        refine yw_sub (lv' := [.ref 0, xU, .int v2]) ⟨Or.inr rfl, Or.inl rfl, Or.inr rfl, trivial⟩ ?_
        exact yw_cV (As := [.int v1]) (b := 0) (st := [.ref 1, .ref 12, .ref 23]) dX9_cell_42 lX9_243 kiX9_wordOfRow kvX9_wordOfRow rfl rfl rfl (la_0 hW) rfl (Nat.le_of_ble_eq_true rfl) rfl (xk_I k)
      · replace k := k.2 c
        refine xw_iconst (v := (-1)) dX9_cell_23 rfl ?_
        exact yw_iret dX9_cell_24 rfl k
theorem bX9_cell_45 {v2 s3 : Int32} {mc ms : Nat} {Q : Int32 → xHp → Prop} (hW : xLay sh R) 
    (k : vp_in v2 48 ∧ CI mX5_withWord [.ref 1, .int s3, .int (I 11 v2.toNatClampNeg)] (sh, I, R) (fun w h1 => Ex mX9_cell 57 [xU, xU, xU] (.int w :: [.ref 12, .ref 23]) h1 mc ms (xqI Q))) :
    Ex mX9_cell 45 [.ref 0, xU, .int v2] [.int s3, .ref 1, .ref 12, .ref 23] (sh, I, R) mc ms (xqI Q) := by
  refine xw_aload_n dX9_cell_45 rfl rfl ?_
  refine yw_getR (r := 9) dX9_cell_46 fX9_28 rfl (la_0 hW) (lr_0_2 hW) ?_
  refine yw_getR (r := 11) dX9_cell_49 fX9_237 rfl hW.2.2.1.1 hW.2.2.1.2.2.2.2.2.1 ?_
  refine xw_iload_n dX9_cell_52 rfl rfl ?_
  obtain ⟨k0, k⟩ := k
  refine yw_iaload (v := I 11 v2.toNatClampNeg) dX9_cell_53 hW.2.2.1.2.2.1 k0 rfl ?_
  refine yw_sub (lv' := [xU, xU, xU]) ⟨Or.inl rfl, Or.inl rfl, Or.inl rfl, trivial⟩ ?_
  exact yw_cV (As := [.int s3, .int (I 11 v2.toNatClampNeg)]) (b := 1) (st := [.ref 12, .ref 23]) dX9_cell_54 lX9_246 kiX5_withWord kvX5_withWord rfl rfl rfl (la_1 hW) rfl (Nat.le_of_ble_eq_true rfl) rfl (xk_I k)
theorem bX9_cell_57 {s2 : Int32} {mc ms : Nat} {Q : Int32 → xHp → Prop} (hW : xLay sh R) 
    (k : CI mX0_valueOf [.ref 23, .ref 12, .int s2] (sh, I, R) (fun w h1 => Ex mX9_cell 60 [xU, xU, xU] (.int w :: []) h1 mc ms (xqI Q))) :
    Ex mX9_cell 57 [xU, xU, xU] [.int s2, .ref 12, .ref 23] (sh, I, R) mc ms (xqI Q) := by
  exact yw_cV (As := [.ref 12, .int s2]) (b := 23) (st := []) dX9_cell_57 lX9_198 kiX0_valueOf kvX0_valueOf rfl rfl rfl (la_23 hW) rfl (Nat.le_of_ble_eq_true rfl) rfl (xk_I k)
theorem bX9_cell_60 {s0 : Int32} {mc ms : Nat} {Q : Int32 → xHp → Prop} (hW : xLay sh R) 
    (k : Q s0 (sh, I, R)) :
    Ex mX9_cell 60 [xU, xU, xU] [.int s0] (sh, I, R) mc ms (xqI Q) := by
  exact yw_iret dX9_cell_60 rfl k
theorem eX9_cell {v1 : Int32} {v2 : Int32} {h : xHp} {Q : Int32 → xHp → Prop} (k : Ex mX9_cell 0 [.ref 0, .int v1, .int v2] [] h 0 0 (xqI Q)) : CI mX9_cell [.ref 0, .int v1, .int v2] h Q := k
theorem bX9_part_0 {v1 v2 : Int32} {mc ms : Nat} {Q : Int32 → xHp → Prop} (hW : xLay sh R) 
    (k : CI mX9_isRow [.ref 0, .int v1] (sh, I, R) (fun w h1 => Ex mX9_part 5 [.ref 0, .int v1, .int v2] (.int w :: []) h1 mc ms (xqI Q))) :
    Ex mX9_part 0 [.ref 0, .int v1, .int v2] [] (sh, I, R) mc ms (xqI Q) := by
  refine xw_aload_n dX9_part_0 rfl rfl ?_
  refine xw_iload_n dX9_part_1 rfl rfl ?_
  exact yw_cV (As := [.int v1]) (b := 0) (st := []) dX9_part_2 lX9_240 kiX9_isRow kvX9_isRow rfl rfl rfl (la_0 hW) rfl (Nat.le_of_ble_eq_true rfl) rfl (xk_I k)
theorem bX9_part_5 {v1 v2 s0 : Int32} {mc ms : Nat} {Q : Int32 → xHp → Prop} (hW : xLay sh R) 
    (k : ((s0 = 0 → Q (-1) (sh, I, R)) ∧ (¬ s0 = 0 → ((v2 < 0 → Q (-1) (sh, I, R)) ∧ (¬ v2 < 0 → ((v2 < (I 9 5) → CV mX9_layTable [.ref 0] (sh, I, R) (fun h1 => Ex mX9_part 29 [.ref 0, .int v1, .int v2] [] h1 mc ms (xqI Q))) ∧ (¬ v2 < (I 9 5) → Q (-1) (sh, I, R)))))))) :
    Ex mX9_part 5 [.ref 0, .int v1, .int v2] [.int s0] (sh, I, R) mc ms (xqI Q) := by
  refine xw_ifeq (tgt := 23) dX9_part_5 (by decide) (fun c => ?_) (fun c => ?_)
  · replace k := k.1 c
    refine xw_iconst (v := (-1)) dX9_part_23 rfl ?_
    exact yw_iret dX9_part_24 rfl k
  · replace k := k.2 c
    refine xw_iload_n dX9_part_8 rfl rfl ?_
    refine xw_iflt (tgt := 23) dX9_part_9 (by decide) (fun c => ?_) (fun c => ?_)
    · replace k := k.1 c
      refine xw_iconst (v := (-1)) dX9_part_23 rfl ?_
      exact yw_iret dX9_part_24 rfl k
    · replace k := k.2 c
      refine xw_iload_n dX9_part_12 rfl rfl ?_
      refine xw_aload_n dX9_part_13 rfl rfl ?_
      refine yw_getR (r := 9) dX9_part_14 fX9_28 rfl (la_0 hW) (lr_0_2 hW) ?_
      refine yw_getI (v := I 9 5) dX9_part_17 fX9_145 rfl hW.2.2.1.1 rfl ?_
      refine xw_iclt (tgt := 25) dX9_part_20 (by decide) (fun c => ?_) (fun c => ?_)
      · replace k := k.1 c
        refine xw_aload_n dX9_part_25 rfl rfl ?_
        exact yw_cV (As := []) (b := 0) (st := []) dX9_part_26 lX9_249 kiX9_layTable kvX9_layTable rfl rfl rfl (la_0 hW) rfl (Nat.le_of_ble_eq_true rfl) rfl (xk_V k)
      · replace k := k.2 c
        refine xw_iconst (v := (-1)) dX9_part_23 rfl ?_
        exact yw_iret dX9_part_24 rfl k
theorem bX9_part_29 {v1 v2 : Int32} {mc ms : Nat} {Q : Int32 → xHp → Prop} (hW : xLay sh R) 
    (k : CI mX9_wordOfRow [.ref 0, .int v1] (sh, I, R) (fun w h1 => Ex mX9_part 38 [.ref 0, xU, .int v2] (.int w :: [.ref 23]) h1 mc ms (xqI Q))) :
    Ex mX9_part 29 [.ref 0, .int v1, .int v2] [] (sh, I, R) mc ms (xqI Q) := by
  refine xw_aload_n dX9_part_29 rfl rfl ?_
  refine yw_getR (r := 23) dX9_part_30 fX9_49 rfl (la_0 hW) (lr_0_6 hW) ?_
  refine xw_aload_n dX9_part_33 rfl rfl ?_
  refine xw_iload_n dX9_part_34 rfl rfl ?_
  refine yw_sub (lv' := [.ref 0, xU, .int v2]) ⟨Or.inr rfl, Or.inl rfl, Or.inr rfl, trivial⟩ ?_
  exact yw_cV (As := [.int v1]) (b := 0) (st := [.ref 23]) dX9_part_35 lX9_243 kiX9_wordOfRow kvX9_wordOfRow rfl rfl rfl (la_0 hW) rfl (Nat.le_of_ble_eq_true rfl) rfl (xk_I k)
theorem bX9_part_38 {v2 s1 : Int32} {mc ms : Nat} {Q : Int32 → xHp → Prop} (hW : xLay sh R) 
    (k : CI mX0_combines [.ref 23, .int s1] (sh, I, R) (fun w h1 => Ex mX9_part 41 [.ref 0, xU, .int v2] (.int w :: []) h1 mc ms (xqI Q))) :
    Ex mX9_part 38 [.ref 0, xU, .int v2] [.int s1, .ref 23] (sh, I, R) mc ms (xqI Q) := by
  exact yw_cV (As := [.int s1]) (b := 23) (st := []) dX9_part_38 lX9_252 kiX0_combines kvX0_combines rfl rfl rfl (la_23 hW) rfl (Nat.le_of_ble_eq_true rfl) rfl (xk_I k)
theorem bX9_part_41 {v2 s0 : Int32} {mc ms : Nat} {Q : Int32 → xHp → Prop} (hW : xLay sh R) 
    (k : ((s0 = 0 → Q (-4) (sh, I, R)) ∧ (¬ s0 = 0 → vp_in v2 8 ∧ Q (I 81 v2.toNatClampNeg) (sh, I, R)))) :
    Ex mX9_part 41 [.ref 0, xU, .int v2] [.int s0] (sh, I, R) mc ms (xqI Q) := by
  refine xw_ifeq (tgt := 59) dX9_part_41 (by decide) (fun c => ?_) (fun c => ?_)
  · replace k := k.1 c
    refine xw_bipush (v := (-4)) dX9_part_59 (by decide) ?_
    exact yw_iret dX9_part_61 rfl k
  · replace k := k.2 c
    refine xw_aload_n dX9_part_44 rfl rfl ?_
    refine yw_getR (r := 23) dX9_part_45 fX9_49 rfl (la_0 hW) (lr_0_6 hW) ?_
    refine yw_getR (r := 60) dX9_part_48 fX9_255 rfl (la_23 hW) (lr_23_2 hW) ?_
    refine yw_getR (r := 81) dX9_part_51 fX9_258 rfl hW.2.2.2.2.2.1.1 hW.2.2.2.2.2.1.2.2.2.2.2.2.1 ?_
    refine xw_iload_n dX9_part_54 rfl rfl ?_
    obtain ⟨k0, k⟩ := k
    refine yw_iaload (v := I 81 v2.toNatClampNeg) dX9_part_55 hW.2.2.2.2.2.1.2.2.2.2.2.2.2.2.2.1 k0 rfl ?_
    refine xw_goto (tgt := 61) dX9_part_56 (by decide) ?_
    exact yw_iret dX9_part_61 rfl k
theorem eX9_part {v1 : Int32} {v2 : Int32} {h : xHp} {Q : Int32 → xHp → Prop} (k : Ex mX9_part 0 [.ref 0, .int v1, .int v2] [] h 0 0 (xqI Q)) : CI mX9_part [.ref 0, .int v1, .int v2] h Q := k
theorem bX9_close_0 {mc ms : Nat} {Q : Int32 → xHp → Prop} (hW : xLay sh R) 
    (k : CV mX9_layTable [.ref 0] (sh, I, R) (fun h1 => Ex mX9_close 4 [.ref 0, xU] [] h1 mc ms (xqI Q))) :
    Ex mX9_close 0 [.ref 0, xU] [] (sh, I, R) mc ms (xqI Q) := by
  refine xw_aload_n dX9_close_0 rfl rfl ?_
  exact yw_cV (As := []) (b := 0) (st := []) dX9_close_1 lX9_249 kiX9_layTable kvX9_layTable rfl rfl rfl (la_0 hW) rfl (Nat.le_of_ble_eq_true rfl) rfl (xk_V k)
theorem bX9_close_4 {mc ms : Nat} {Q : Int32 → xHp → Prop} (hW : xLay sh R) 
    (k : CI mX0_widen [.ref 23] (sh, I, R) (fun w h1 => Ex mX9_close 11 [.ref 0, xU] (.int w :: []) h1 mc ms (xqI Q))) :
    Ex mX9_close 4 [.ref 0, xU] [] (sh, I, R) mc ms (xqI Q) := by
  refine xw_aload_n dX9_close_4 rfl rfl ?_
  refine yw_getR (r := 23) dX9_close_5 fX9_49 rfl (la_0 hW) (lr_0_6 hW) ?_
  exact yw_cV (As := []) (b := 23) (st := []) dX9_close_8 lX9_205 kiX0_widen kvX0_widen rfl rfl rfl (la_23 hW) rfl (Nat.le_of_ble_eq_true rfl) rfl (xk_I k)
theorem bX9_close_11 {s0 : Int32} {mc ms : Nat} {Q : Int32 → xHp → Prop} (hW : xLay sh R) 
    (k : CV mX8_takePrefixes [.ref 9, .ref 23] (sh, I, R) (fun h1 => Ex mX9_close 23 [xU, .int s0] [] h1 mc ms (xqI Q))) :
    Ex mX9_close 11 [.ref 0, xU] [.int s0] (sh, I, R) mc ms (xqI Q) := by
  refine yw_istore_n (lv' := [.ref 0, .int s0]) dX9_close_11 rfl rfl rfl rfl ?_
  refine xw_aload_n dX9_close_12 rfl rfl ?_
  refine yw_getR (r := 9) dX9_close_13 fX9_28 rfl (la_0 hW) (lr_0_2 hW) ?_
  refine xw_aload_n dX9_close_16 rfl rfl ?_
  refine yw_getR (r := 23) dX9_close_17 fX9_49 rfl (la_0 hW) (lr_0_6 hW) ?_
  refine yw_sub (lv' := [xU, .int s0]) ⟨Or.inl rfl, Or.inr rfl, trivial⟩ ?_
  exact yw_cV (As := [.ref 23]) (b := 9) (st := []) dX9_close_20 lX9_261 kiX8_takePrefixes kvX8_takePrefixes rfl rfl rfl hW.2.2.1.1 rfl (Nat.le_of_ble_eq_true rfl) rfl (xk_V k)
theorem bX9_close_23 {v1 : Int32} {mc ms : Nat} {Q : Int32 → xHp → Prop} (hW : xLay sh R) 
    (k : Q v1 (sh, I, R)) :
    Ex mX9_close 23 [xU, .int v1] [] (sh, I, R) mc ms (xqI Q) := by
  refine xw_iload_n dX9_close_23 rfl rfl ?_
  exact yw_iret dX9_close_24 rfl k
theorem eX9_close {h : xHp} {Q : Int32 → xHp → Prop} (k : Ex mX9_close 0 [.ref 0, xU] [] h 0 0 (xqI Q)) : CI mX9_close [.ref 0] h Q := k
theorem bX9_firstDifference_0 {a1 Ma1 : Nat} {mc ms : Nat} {Q : Int32 → xHp → Prop} (hW : xLay sh R) (ha1 : xMach sh R a1 Ma1)
    (k : CV mX3_become [.ref 169, .int (nI 0)] (sh, I, R) (fun h1 => Ex mX9_firstDifference 8 [.ref 0, .ref a1] [] h1 mc ms (xqI Q))) :
    Ex mX9_firstDifference 0 [.ref 0, .ref a1] [] (sh, I, R) mc ms (xqI Q) := by
  refine xw_aload_n dX9_firstDifference_0 rfl rfl ?_
  refine yw_getR (r := 169) dX9_firstDifference_1 fX9_67 rfl (la_0 hW) (lr_0_8 hW) ?_
  refine xw_iconst (v := nI 0) dX9_firstDifference_4 rfl ?_
  exact yw_cV (As := [.int (nI 0)]) (b := 169) (st := []) dX9_firstDifference_5 lX9_307 kiX3_become kvX3_become rfl rfl rfl hW.2.2.2.2.2.2.2.2.2.1.1 rfl (Nat.le_of_ble_eq_true rfl) rfl (xk_V k)
theorem bX9_firstDifference_8 {a1 Ma1 : Nat} {mc ms : Nat} {Q : Int32 → xHp → Prop} (hW : xLay sh R) (ha1 : xMach sh R a1 Ma1)
    (k : CV mX3_append [.ref 169, .ref 12, .int (nI 1)] (sh, I, R) (fun h1 => Ex mX9_firstDifference 23 [.ref 0, .ref a1] [] h1 mc ms (xqI Q))) :
    Ex mX9_firstDifference 8 [.ref 0, .ref a1] [] (sh, I, R) mc ms (xqI Q) := by
  refine xw_aload_n dX9_firstDifference_8 rfl rfl ?_
  refine yw_getR (r := 169) dX9_firstDifference_9 fX9_67 rfl (la_0 hW) (lr_0_8 hW) ?_
  refine xw_aload_n dX9_firstDifference_12 rfl rfl ?_
  refine yw_getR (r := 9) dX9_firstDifference_13 fX9_28 rfl (la_0 hW) (lr_0_2 hW) ?_
  refine yw_getR (r := 12) dX9_firstDifference_16 fX9_110 rfl hW.2.2.1.1 hW.2.2.1.2.2.2.2.2.2.1 ?_
  refine xw_iconst (v := nI 1) dX9_firstDifference_19 rfl ?_
  exact yw_cV (As := [.ref 12, .int (nI 1)]) (b := 169) (st := []) dX9_firstDifference_20 lX9_300 kiX3_append kvX3_append rfl rfl rfl hW.2.2.2.2.2.2.2.2.2.1.1 rfl (Nat.le_of_ble_eq_true rfl) rfl (xk_V k)
theorem bX9_firstDifference_23 {a1 Ma1 : Nat} {mc ms : Nat} {Q : Int32 → xHp → Prop} (hW : xLay sh R) (ha1 : xMach sh R a1 Ma1)
    (k : CV mX3_append [.ref 169, .ref a1, .int ((I 1 0) - (nI 1))] (sh, I, R) (fun h1 => Ex mX9_firstDifference 40 [.ref 0, xU] [] h1 mc ms (xqI Q))) :
    Ex mX9_firstDifference 23 [.ref 0, .ref a1] [] (sh, I, R) mc ms (xqI Q) := by
  refine xw_aload_n dX9_firstDifference_23 rfl rfl ?_
  refine yw_getR (r := 169) dX9_firstDifference_24 fX9_67 rfl (la_0 hW) (lr_0_8 hW) ?_
  refine xw_aload_n dX9_firstDifference_27 rfl rfl ?_
  refine xw_aload_n dX9_firstDifference_28 rfl rfl ?_
  refine yw_getR (r := 1) dX9_firstDifference_29 fX9_10 rfl (la_0 hW) (lr_0_0 hW) ?_
  refine yw_getI (v := I 1 0) dX9_firstDifference_32 fX9_129 rfl (la_1 hW) rfl ?_
  refine xw_iconst (v := nI 1) dX9_firstDifference_35 rfl ?_
  refine xw_isub dX9_firstDifference_36 ?_
  refine yw_sub (lv' := [.ref 0, xU]) ⟨Or.inr rfl, Or.inl rfl, trivial⟩ ?_
  exact yw_cV (As := [.ref a1, .int ((I 1 0) - (nI 1))]) (b := 169) (st := []) dX9_firstDifference_37 lX9_300 kiX3_append kvX3_append rfl rfl rfl hW.2.2.2.2.2.2.2.2.2.1.1 rfl (Nat.le_of_ble_eq_true rfl) rfl (xk_V k)
theorem bX9_firstDifference_40 {mc ms : Nat} {Q : Int32 → xHp → Prop} (hW : xLay sh R) 
    (k : CI mX0_firstOfSomeValue [.ref 23, .ref 169] (sh, I, R) (fun w h1 => Ex mX9_firstDifference 51 [xU, xU] (.int w :: []) h1 mc ms (xqI Q))) :
    Ex mX9_firstDifference 40 [.ref 0, xU] [] (sh, I, R) mc ms (xqI Q) := by
  refine xw_aload_n dX9_firstDifference_40 rfl rfl ?_
  refine yw_getR (r := 23) dX9_firstDifference_41 fX9_49 rfl (la_0 hW) (lr_0_6 hW) ?_
  refine xw_aload_n dX9_firstDifference_44 rfl rfl ?_
  refine yw_getR (r := 169) dX9_firstDifference_45 fX9_67 rfl (la_0 hW) (lr_0_8 hW) ?_
  refine yw_sub (lv' := [xU, xU]) ⟨Or.inl rfl, Or.inl rfl, trivial⟩ ?_
  exact yw_cV (As := [.ref 169]) (b := 23) (st := []) dX9_firstDifference_48 lX9_368 kiX0_firstOfSomeValue kvX0_firstOfSomeValue rfl rfl rfl (la_23 hW) rfl (Nat.le_of_ble_eq_true rfl) rfl (xk_I k)
theorem bX9_firstDifference_51 {s0 : Int32} {mc ms : Nat} {Q : Int32 → xHp → Prop} (hW : xLay sh R) 
    (k : Q s0 (sh, I, R)) :
    Ex mX9_firstDifference 51 [xU, xU] [.int s0] (sh, I, R) mc ms (xqI Q) := by
  exact yw_iret dX9_firstDifference_51 rfl k
theorem eX9_firstDifference {a1 : Nat} {h : xHp} {Q : Int32 → xHp → Prop} (k : Ex mX9_firstDifference 0 [.ref 0, .ref a1] [] h 0 0 (xqI Q)) : CI mX9_firstDifference [.ref 0, .ref a1] h Q := k
theorem bX9_learn_0 {mc ms : Nat} {Q : Int32 → xHp → Prop} (hW : xLay sh R) 
    (k : CV mX9_layTable [.ref 0] (sh, (xi I 9 7 ((I 9 7) + (nI 1))), R) (fun h1 => Ex mX9_learn 17 [.ref 0, xU] [] h1 mc ms (xqI Q))) :
    Ex mX9_learn 0 [.ref 0, xU] [] (sh, I, R) mc ms (xqI Q) := by
  refine xw_aload_n dX9_learn_0 rfl rfl ?_
  refine yw_getR (r := 9) dX9_learn_1 fX9_28 rfl (la_0 hW) (lr_0_2 hW) ?_
  refine xw_dup dX9_learn_4 rfl ?_
  refine yw_getI (v := I 9 7) dX9_learn_5 fX9_151 rfl hW.2.2.1.1 rfl ?_
  refine xw_iconst (v := nI 1) dX9_learn_8 rfl ?_
  refine xw_iadd dX9_learn_9 ?_
  refine yw_putI dX9_learn_10 fX9_151 (fun r h => by cases h; exact Or.inl rfl) rfl hW.2.2.1.1 ?_
  refine xw_aload_n dX9_learn_13 rfl rfl ?_
  exact yw_cV (As := []) (b := 0) (st := []) dX9_learn_14 lX9_249 kiX9_layTable kvX9_layTable rfl rfl rfl (la_0 hW) rfl (Nat.le_of_ble_eq_true rfl) rfl (xk_V k)
theorem bX9_learn_17 {mc ms : Nat} {Q : Int32 → xHp → Prop} (hW : xLay sh R) 
    (k : CI mX0_widen [.ref 23] (sh, I, R) (fun w h1 => Ex mX9_learn 24 [.ref 0, xU] (.int w :: []) h1 mc ms (xqI Q))) :
    Ex mX9_learn 17 [.ref 0, xU] [] (sh, I, R) mc ms (xqI Q) := by
  refine xw_aload_n dX9_learn_17 rfl rfl ?_
  refine yw_getR (r := 23) dX9_learn_18 fX9_49 rfl (la_0 hW) (lr_0_6 hW) ?_
  exact yw_cV (As := []) (b := 23) (st := []) dX9_learn_21 lX9_205 kiX0_widen kvX0_widen rfl rfl rfl (la_23 hW) rfl (Nat.le_of_ble_eq_true rfl) rfl (xk_I k)
theorem bX9_learn_24 {s0 : Int32} {mc ms : Nat} {Q : Int32 → xHp → Prop} (hW : xLay sh R) 
    (k : CV mX8_takePrefixes [.ref 9, .ref 23] (sh, I, R) (fun h1 => Ex mX9_learn 36 [.ref 0, xU] [] h1 mc ms (xqI Q))) :
    Ex mX9_learn 24 [.ref 0, xU] [.int s0] (sh, I, R) mc ms (xqI Q) := by
  refine xw_pop dX9_learn_24 rfl ?_
  refine xw_aload_n dX9_learn_25 rfl rfl ?_
  refine yw_getR (r := 9) dX9_learn_26 fX9_28 rfl (la_0 hW) (lr_0_2 hW) ?_
  refine xw_aload_n dX9_learn_29 rfl rfl ?_
  refine yw_getR (r := 23) dX9_learn_30 fX9_49 rfl (la_0 hW) (lr_0_6 hW) ?_
  exact yw_cV (As := [.ref 23]) (b := 9) (st := []) dX9_learn_33 lX9_261 kiX8_takePrefixes kvX8_takePrefixes rfl rfl rfl hW.2.2.1.1 rfl (Nat.le_of_ble_eq_true rfl) rfl (xk_V k)
theorem bX9_learn_36 {mc ms : Nat} {Q : Int32 → xHp → Prop} (hW : xLay sh R) 
    (k : CV mX0_build [.ref 23, .ref 16] (sh, I, R) (fun h1 => Ex mX9_learn 50 [.ref 0, xU] [] h1 mc ms (xqI Q))) :
    Ex mX9_learn 36 [.ref 0, xU] [] (sh, I, R) mc ms (xqI Q) := by
  refine xw_aload_n dX9_learn_36 rfl rfl ?_
  refine yw_getR (r := 23) dX9_learn_37 fX9_49 rfl (la_0 hW) (lr_0_6 hW) ?_
  refine xw_aload_n dX9_learn_40 rfl rfl ?_
  refine yw_getR (r := 9) dX9_learn_41 fX9_28 rfl (la_0 hW) (lr_0_2 hW) ?_
  refine yw_getR (r := 16) dX9_learn_44 fX9_138 rfl hW.2.2.1.1 hW.2.2.1.2.2.2.2.2.2.2.1 ?_
  exact yw_cV (As := [.ref 16]) (b := 23) (st := []) dX9_learn_47 lX9_265 kiX0_build kvX0_build rfl rfl rfl (la_23 hW) rfl (Nat.le_of_ble_eq_true rfl) rfl (xk_V k)
theorem bX9_learn_50 {mc ms : Nat} {Q : Int32 → xHp → Prop} (hW : xLay sh R) 
    (k : CI mX9_firstDifference [.ref 0, .ref 16] (sh, (xi I 9 8 (nI 1)), R) (fun w h1 => Ex mX9_learn 69 [.ref 0, xU] (.int w :: []) h1 mc ms (xqI Q))) :
    Ex mX9_learn 50 [.ref 0, xU] [] (sh, I, R) mc ms (xqI Q) := by
  refine xw_aload_n dX9_learn_50 rfl rfl ?_
  refine yw_getR (r := 9) dX9_learn_51 fX9_28 rfl (la_0 hW) (lr_0_2 hW) ?_
  refine xw_iconst (v := nI 1) dX9_learn_54 rfl ?_
  refine yw_putZ dX9_learn_55 fX9_134 (fun r h => by cases h; exact Or.inl rfl) rfl (Or.inr rfl) hW.2.2.1.1 ?_
  refine xw_aload_n dX9_learn_58 rfl rfl ?_
  refine xw_aload_n dX9_learn_59 rfl rfl ?_
  refine yw_getR (r := 9) dX9_learn_60 fX9_28 rfl (la_0 hW) (lr_0_2 hW) ?_
  refine yw_getR (r := 16) dX9_learn_63 fX9_138 rfl hW.2.2.1.1 hW.2.2.1.2.2.2.2.2.2.2.1 ?_
  exact yw_cV (As := [.ref 16]) (b := 0) (st := []) dX9_learn_66 lX9_268 kiX9_firstDifference kvX9_firstDifference rfl rfl rfl (la_0 hW) rfl (Nat.le_of_ble_eq_true rfl) rfl (xk_I k)
theorem bX9_learn_69 {s0 : Int32} {mc ms : Nat} {Q : Int32 → xHp → Prop} (hW : xLay sh R) 
    (k : ((s0 = (-4) → Q s0 (sh, I, R)) ∧ (¬ s0 = (-4) → CV mX8_addEndings [.ref 9, .int s0] (sh, I, R) (fun h1 => Ex mX9_learn 84 [xU, .int s0] [] h1 mc ms (xqI Q))))) :
    Ex mX9_learn 69 [.ref 0, xU] [.int s0] (sh, I, R) mc ms (xqI Q) := by
  refine yw_istore_n (lv' := [.ref 0, .int s0]) dX9_learn_69 rfl rfl rfl rfl ?_
  refine xw_iload_n dX9_learn_70 rfl rfl ?_
  refine xw_bipush (v := (-4)) dX9_learn_71 (by decide) ?_
  refine xw_iceq (tgt := 84) dX9_learn_73 (by decide) (fun c => ?_) (fun c => ?_)
  · replace k := k.1 c
    refine xw_iload_n dX9_learn_84 rfl rfl ?_
    exact yw_iret dX9_learn_85 rfl k
  · replace k := k.2 c
    refine xw_aload_n dX9_learn_76 rfl rfl ?_
    refine yw_getR (r := 9) dX9_learn_77 fX9_28 rfl (la_0 hW) (lr_0_2 hW) ?_
    refine xw_iload_n dX9_learn_80 rfl rfl ?_
    refine yw_sub (lv' := [xU, .int s0]) ⟨Or.inl rfl, Or.inr rfl, trivial⟩ ?_
    exact yw_cV (As := [.int s0]) (b := 9) (st := []) dX9_learn_81 lX9_272 kiX8_addEndings kvX8_addEndings rfl rfl rfl hW.2.2.1.1 rfl (Nat.le_of_ble_eq_true rfl) rfl (xk_V k)
theorem bX9_learn_84 {v1 : Int32} {mc ms : Nat} {Q : Int32 → xHp → Prop} (hW : xLay sh R) 
    (k : Q v1 (sh, I, R)) :
    Ex mX9_learn 84 [xU, .int v1] [] (sh, I, R) mc ms (xqI Q) := by
  refine xw_iload_n dX9_learn_84 rfl rfl ?_
  exact yw_iret dX9_learn_85 rfl k
theorem eX9_learn {h : xHp} {Q : Int32 → xHp → Prop} (k : Ex mX9_learn 0 [.ref 0, xU] [] h 0 0 (xqI Q)) : CI mX9_learn [.ref 0] h Q := k
theorem bX9_counter_0 {mc ms : Nat} {Q : Int32 → xHp → Prop} (hW : xLay sh R) 
    (k : (((I 9 8) = 0 → Q (-2) (sh, I, R)) ∧ (¬ (I 9 8) = 0 → CI mX9_firstDifference [.ref 0, .ref 16] (sh, I, R) (fun w h1 => Ex mX9_counter 21 [xU] (.int w :: []) h1 mc ms (xqI Q))))) :
    Ex mX9_counter 0 [.ref 0] [] (sh, I, R) mc ms (xqI Q) := by
  refine xw_aload_n dX9_counter_0 rfl rfl ?_
  refine yw_getR (r := 9) dX9_counter_1 fX9_28 rfl (la_0 hW) (lr_0_2 hW) ?_
  refine yw_getI (v := I 9 8) dX9_counter_4 fX9_134 rfl hW.2.2.1.1 rfl ?_
  refine xw_ifeq (tgt := 24) dX9_counter_7 (by decide) (fun c => ?_) (fun c => ?_)
  · replace k := k.1 c
    refine xw_bipush (v := (-2)) dX9_counter_24 (by decide) ?_
    exact yw_iret dX9_counter_26 rfl k
  · replace k := k.2 c
    refine xw_aload_n dX9_counter_10 rfl rfl ?_
    refine xw_aload_n dX9_counter_11 rfl rfl ?_
    refine yw_getR (r := 9) dX9_counter_12 fX9_28 rfl (la_0 hW) (lr_0_2 hW) ?_
    refine yw_getR (r := 16) dX9_counter_15 fX9_138 rfl hW.2.2.1.1 hW.2.2.1.2.2.2.2.2.2.2.1 ?_
    refine yw_sub (lv' := [xU]) ⟨Or.inl rfl, trivial⟩ ?_
    exact yw_cV (As := [.ref 16]) (b := 0) (st := []) dX9_counter_18 lX9_268 kiX9_firstDifference kvX9_firstDifference rfl rfl rfl (la_0 hW) rfl (Nat.le_of_ble_eq_true rfl) rfl (xk_I k)
theorem bX9_counter_21 {s0 : Int32} {mc ms : Nat} {Q : Int32 → xHp → Prop} (hW : xLay sh R) 
    (k : Q s0 (sh, I, R)) :
    Ex mX9_counter 21 [xU] [.int s0] (sh, I, R) mc ms (xqI Q) := by
  refine xw_goto (tgt := 26) dX9_counter_21 (by decide) ?_
  exact yw_iret dX9_counter_26 rfl k
theorem eX9_counter {h : xHp} {Q : Int32 → xHp → Prop} (k : Ex mX9_counter 0 [.ref 0] [] h 0 0 (xqI Q)) : CI mX9_counter [.ref 0] h Q := k
theorem bX9_ask_0 {v1 : Int32} {mc ms : Nat} {Q : Int32 → xHp → Prop} (hW : xLay sh R) 
    (k : ((v1 < 0 → Q (-1) (sh, I, R)) ∧ (¬ v1 < 0 → CI mX5_firstOfLength [.ref 1, .int (nI 6)] (sh, I, R) (fun w h1 => Ex mX9_ask 14 [.ref 0, .int v1] (.int w :: [.int v1]) h1 mc ms (xqI Q))))) :
    Ex mX9_ask 0 [.ref 0, .int v1] [] (sh, I, R) mc ms (xqI Q) := by
  refine xw_iload_n dX9_ask_0 rfl rfl ?_
  refine xw_iflt (tgt := 17) dX9_ask_1 (by decide) (fun c => ?_) (fun c => ?_)
  · replace k := k.1 c
    refine xw_iconst (v := (-1)) dX9_ask_17 rfl ?_
    exact yw_iret dX9_ask_18 rfl k
  · replace k := k.2 c
    refine xw_iload_n dX9_ask_4 rfl rfl ?_
    refine xw_aload_n dX9_ask_5 rfl rfl ?_
    refine yw_getR (r := 1) dX9_ask_6 fX9_10 rfl (la_0 hW) (lr_0_0 hW) ?_
    refine xw_bipush (v := nI 6) dX9_ask_9 (by decide) ?_
    exact yw_cV (As := [.int (nI 6)]) (b := 1) (st := [.int v1]) dX9_ask_11 lX9_276 kiX5_firstOfLength kvX5_firstOfLength rfl rfl rfl (la_1 hW) rfl (Nat.le_of_ble_eq_true rfl) rfl (xk_I k)
theorem bX9_ask_14 {v1 s1 s0 : Int32} {mc ms : Nat} {Q : Int32 → xHp → Prop} (hW : xLay sh R) 
    (k : ((s0 < s1 → CI mX8_newEndings [.ref 9, .int v1] (sh, I, R) (fun w h1 => Ex mX9_ask 34 [.ref 0, .int v1] (.int w :: [.int (I 9 6)]) h1 mc ms (xqI Q))) ∧ (¬ s0 < s1 → Q (-1) (sh, I, R)))) :
    Ex mX9_ask 14 [.ref 0, .int v1] [.int s1, .int s0] (sh, I, R) mc ms (xqI Q) := by
  refine xw_iclt (tgt := 19) dX9_ask_14 (by decide) (fun c => ?_) (fun c => ?_)
  · replace k := k.1 c
    refine xw_aload_n dX9_ask_19 rfl rfl ?_
    refine yw_getR (r := 9) dX9_ask_20 fX9_28 rfl (la_0 hW) (lr_0_2 hW) ?_
    refine yw_getI (v := I 9 6) dX9_ask_23 fX9_148 rfl hW.2.2.1.1 rfl ?_
    refine xw_aload_n dX9_ask_26 rfl rfl ?_
    refine yw_getR (r := 9) dX9_ask_27 fX9_28 rfl (la_0 hW) (lr_0_2 hW) ?_
    refine xw_iload_n dX9_ask_30 rfl rfl ?_
    exact yw_cV (As := [.int v1]) (b := 9) (st := [.int (I 9 6)]) dX9_ask_31 lX9_279 kiX8_newEndings kvX8_newEndings rfl rfl rfl hW.2.2.1.1 rfl (Nat.le_of_ble_eq_true rfl) rfl (xk_I k)
  · replace k := k.2 c
    refine xw_iconst (v := (-1)) dX9_ask_17 rfl ?_
    exact yw_iret dX9_ask_18 rfl k
theorem bX9_ask_34 {v1 s1 s0 : Int32} {mc ms : Nat} {Q : Int32 → xHp → Prop} (hW : xLay sh R) 
    (k : (((s0 + s1) ≤ (nI 24) → CV mX8_addEndings [.ref 9, .int v1] (sh, I, R) (fun h1 => Ex mX9_ask 51 [.ref 0, xU] [] h1 mc ms (xqI Q))) ∧ (¬ (s0 + s1) ≤ (nI 24) → Q (-3) (sh, I, R)))) :
    Ex mX9_ask 34 [.ref 0, .int v1] [.int s1, .int s0] (sh, I, R) mc ms (xqI Q) := by
  refine xw_iadd dX9_ask_34 ?_
  refine xw_bipush (v := nI 24) dX9_ask_35 (by decide) ?_
  refine xw_icle (tgt := 43) dX9_ask_37 (by decide) (fun c => ?_) (fun c => ?_)
  · replace k := k.1 c
    refine xw_aload_n dX9_ask_43 rfl rfl ?_
    refine yw_getR (r := 9) dX9_ask_44 fX9_28 rfl (la_0 hW) (lr_0_2 hW) ?_
    refine xw_iload_n dX9_ask_47 rfl rfl ?_
    refine yw_sub (lv' := [.ref 0, xU]) ⟨Or.inr rfl, Or.inl rfl, trivial⟩ ?_
    exact yw_cV (As := [.int v1]) (b := 9) (st := []) dX9_ask_48 lX9_272 kiX8_addEndings kvX8_addEndings rfl rfl rfl hW.2.2.1.1 rfl (Nat.le_of_ble_eq_true rfl) rfl (xk_V k)
  · replace k := k.2 c
    refine xw_bipush (v := (-3)) dX9_ask_40 (by decide) ?_
    exact yw_iret dX9_ask_42 rfl k
theorem bX9_ask_51 {mc ms : Nat} {Q : Int32 → xHp → Prop} (hW : xLay sh R) 
    (k : Q (I 9 6) (sh, I, R)) :
    Ex mX9_ask 51 [.ref 0, xU] [] (sh, I, R) mc ms (xqI Q) := by
  refine xw_aload_n dX9_ask_51 rfl rfl ?_
  refine yw_getR (r := 9) dX9_ask_52 fX9_28 rfl (la_0 hW) (lr_0_2 hW) ?_
  refine yw_getI (v := I 9 6) dX9_ask_55 fX9_148 rfl hW.2.2.1.1 rfl ?_
  exact yw_iret dX9_ask_58 rfl k
theorem eX9_ask {v1 : Int32} {h : xHp} {Q : Int32 → xHp → Prop} (k : Ex mX9_ask 0 [.ref 0, .int v1] [] h 0 0 (xqI Q)) : CI mX9_ask [.ref 0, .int v1] h Q := k
theorem bX9_basis_0 {v1 : Int32} {mc ms : Nat} {Q : Int32 → xHp → Prop} (hW : xLay sh R) 
    (k : ((0 ≤ v1 → CR mX9_leastMachine [.ref 0] (sh, I, R) (fun r h1 => (r = none → Ex mX9_basis 11 [.ref 0, .int v1] (.null :: [.int v1]) h1 mc ms (xqI Q)) ∧ ∀ a, r = some a → Ex mX9_basis 11 [.ref 0, .int v1] (.ref a :: [.int v1]) h1 mc ms (xqI Q))) ∧ (¬ 0 ≤ v1 → Q (-1) (sh, I, R)))) :
    Ex mX9_basis 0 [.ref 0, .int v1] [] (sh, I, R) mc ms (xqI Q) := by
  refine xw_iload_n dX9_basis_0 rfl rfl ?_
  refine xw_ifge (tgt := 6) dX9_basis_1 (by decide) (fun c => ?_) (fun c => ?_)
  · replace k := k.1 c
    refine xw_iload_n dX9_basis_6 rfl rfl ?_
    refine xw_aload_n dX9_basis_7 rfl rfl ?_
    exact yw_cV (As := []) (b := 0) (st := [.int v1]) dX9_basis_8 lX9_141 kiX9_leastMachine kvX9_leastMachine rfl rfl rfl (la_0 hW) rfl (Nat.le_of_ble_eq_true rfl) rfl (xk_R k)
  · replace k := k.2 c
    refine xw_iconst (v := (-1)) dX9_basis_4 rfl ?_
    exact yw_iret dX9_basis_5 rfl k
theorem bX9_basis_11 {b1 Mb1 : Nat} {v1 s0 : Int32} {mc ms : Nat} {Q : Int32 → xHp → Prop} (hW : xLay sh R) (hb1 : xMach sh R b1 Mb1)
    (k : (((I b1 2) ≤ s0 → Q (-4) (sh, I, R)) ∧ (¬ (I b1 2) ≤ s0 → vp_in v1 4 ∧ Q (I 177 v1.toNatClampNeg) (sh, I, R)))) :
    Ex mX9_basis 11 [.ref 0, .int v1] [.ref b1, .int s0] (sh, I, R) mc ms (xqI Q) := by
  refine yw_getI (v := I b1 2) dX9_basis_11 fX9_131 rfl hb1.1 rfl ?_
  refine xw_icge (tgt := 26) dX9_basis_14 (by decide) (fun c => ?_) (fun c => ?_)
  · replace k := k.1 c
    refine xw_bipush (v := (-4)) dX9_basis_26 (by decide) ?_
    exact yw_iret dX9_basis_28 rfl k
  · replace k := k.2 c
    refine xw_aload_n dX9_basis_17 rfl rfl ?_
    refine yw_getR (r := 177) dX9_basis_18 fX9_74 rfl (la_0 hW) (lr_0_10 hW) ?_
    refine xw_iload_n dX9_basis_21 rfl rfl ?_
    obtain ⟨k0, k⟩ := k
    refine yw_iaload (v := I 177 v1.toNatClampNeg) dX9_basis_22 (la_177 hW) k0 rfl ?_
    refine xw_goto (tgt := 28) dX9_basis_23 (by decide) ?_
    exact yw_iret dX9_basis_28 rfl k
theorem eX9_basis {v1 : Int32} {h : xHp} {Q : Int32 → xHp → Prop} (k : Ex mX9_basis 0 [.ref 0, .int v1] [] h 0 0 (xqI Q)) : CI mX9_basis [.ref 0, .int v1] h Q := k
theorem bX9_begins_0 {v1 v2 : Int32} {mc ms : Nat} {Q : Int32 → xHp → Prop} (hW : xLay sh R) 
    (k : CI mX3_has [.ref 12, .int v1] (sh, I, R) (fun w h1 => Ex mX9_begins 11 [.ref 0, .int v1, .int v2, xU] (.int w :: []) h1 mc ms (xqI Q))) :
    Ex mX9_begins 0 [.ref 0, .int v1, .int v2, xU] [] (sh, I, R) mc ms (xqI Q) := by
  refine xw_aload_n dX9_begins_0 rfl rfl ?_
  refine yw_getR (r := 9) dX9_begins_1 fX9_28 rfl (la_0 hW) (lr_0_2 hW) ?_
  refine yw_getR (r := 12) dX9_begins_4 fX9_110 rfl hW.2.2.1.1 hW.2.2.1.2.2.2.2.2.2.1 ?_
  refine xw_iload_n dX9_begins_7 rfl rfl ?_
  exact yw_cV (As := [.int v1]) (b := 12) (st := []) dX9_begins_8 lX9_175 kiX3_has kvX3_has rfl rfl rfl hW.2.2.1.2.2.2.2.2.2.2.2.1.1 rfl (Nat.le_of_ble_eq_true rfl) rfl (xk_I k)
theorem bX9_begins_11 {v1 v2 s0 : Int32} {mc ms : Nat} {Q : Int32 → xHp → Prop} (hW : xLay sh R) 
    (k : ((s0 = 0 → Q (-1) (sh, I, R)) ∧ (¬ s0 = 0 → CI mX5_hasResidue [.ref 1, .int v2] (sh, I, R) (fun w h1 => Ex mX9_begins 22 [.ref 0, .int v1, .int v2, xU] (.int w :: []) h1 mc ms (xqI Q))))) :
    Ex mX9_begins 11 [.ref 0, .int v1, .int v2, xU] [.int s0] (sh, I, R) mc ms (xqI Q) := by
  refine xw_ifeq (tgt := 25) dX9_begins_11 (by decide) (fun c => ?_) (fun c => ?_)
  · replace k := k.1 c
    refine xw_iconst (v := (-1)) dX9_begins_25 rfl ?_
    exact yw_iret dX9_begins_26 rfl k
  · replace k := k.2 c
    refine xw_aload_n dX9_begins_14 rfl rfl ?_
    refine yw_getR (r := 1) dX9_begins_15 fX9_10 rfl (la_0 hW) (lr_0_0 hW) ?_
    refine xw_iload_n dX9_begins_18 rfl rfl ?_
    exact yw_cV (As := [.int v2]) (b := 1) (st := []) dX9_begins_19 lX9_282 kiX5_hasResidue kvX5_hasResidue rfl rfl rfl (la_1 hW) rfl (Nat.le_of_ble_eq_true rfl) rfl (xk_I k)
theorem bX9_begins_22 {v1 v2 s0 : Int32} {mc ms : Nat} {Q : Int32 → xHp → Prop} (hW : xLay sh R) 
    (k : ((¬ s0 = 0 → vp_in v1 4 ∧ vp_in v1 4 ∧ CV mX9_changed [.ref 0] (sh, (xi I 13 v1.toNatClampNeg v2), R) (fun h1 => Ex mX9_begins 57 [xU, xU, xU, .int (I 13 v1.toNatClampNeg)] [] h1 mc ms (xqI Q))) ∧ (s0 = 0 → Q (-1) (sh, I, R)))) :
    Ex mX9_begins 22 [.ref 0, .int v1, .int v2, xU] [.int s0] (sh, I, R) mc ms (xqI Q) := by
  refine xw_ifne (tgt := 27) dX9_begins_22 (by decide) (fun c => ?_) (fun c => ?_)
  · replace k := k.1 c
    refine xw_aload_n dX9_begins_27 rfl rfl ?_
    refine yw_getR (r := 9) dX9_begins_28 fX9_28 rfl (la_0 hW) (lr_0_2 hW) ?_
    refine yw_getR (r := 12) dX9_begins_31 fX9_110 rfl hW.2.2.1.1 hW.2.2.1.2.2.2.2.2.2.1 ?_
    refine yw_getR (r := 13) dX9_begins_34 fX9_178 rfl hW.2.2.1.2.2.2.2.2.2.2.2.1.1 hW.2.2.1.2.2.2.2.2.2.2.2.1.2.2.2.2.2.1 ?_
    refine xw_iload_n dX9_begins_37 rfl rfl ?_
    obtain ⟨k0, k⟩ := k
    refine yw_iaload (v := I 13 v1.toNatClampNeg) dX9_begins_38 hW.2.2.1.2.2.2.2.2.2.2.2.1.2.1 k0 rfl ?_
    refine yw_istore_n (lv' := [.ref 0, .int v1, .int v2, .int (I 13 v1.toNatClampNeg)]) dX9_begins_39 rfl rfl rfl rfl ?_
    refine xw_aload_n dX9_begins_40 rfl rfl ?_
    refine yw_getR (r := 9) dX9_begins_41 fX9_28 rfl (la_0 hW) (lr_0_2 hW) ?_
    refine yw_getR (r := 12) dX9_begins_44 fX9_110 rfl hW.2.2.1.1 hW.2.2.1.2.2.2.2.2.2.1 ?_
    refine yw_getR (r := 13) dX9_begins_47 fX9_178 rfl hW.2.2.1.2.2.2.2.2.2.2.2.1.1 hW.2.2.1.2.2.2.2.2.2.2.2.1.2.2.2.2.2.1 ?_
    refine xw_iload_n dX9_begins_50 rfl rfl ?_
    refine xw_iload_n dX9_begins_51 rfl rfl ?_
    obtain ⟨k0, k⟩ := k
    refine yw_iastore dX9_begins_52 hW.2.2.1.2.2.2.2.2.2.2.2.1.2.1 k0 ?_
    refine xw_aload_n dX9_begins_53 rfl rfl ?_
    refine yw_sub (lv' := [xU, xU, xU, .int (I 13 v1.toNatClampNeg)]) ⟨Or.inl rfl, Or.inl rfl, Or.inl rfl, Or.inr rfl, trivial⟩ ?_
    exact yw_cV (As := []) (b := 0) (st := []) dX9_begins_54 lX9_117 kiX9_changed kvX9_changed rfl rfl rfl (la_0 hW) rfl (Nat.le_of_ble_eq_true rfl) rfl (xk_V k)
  · replace k := k.2 c
    refine xw_iconst (v := (-1)) dX9_begins_25 rfl ?_
    exact yw_iret dX9_begins_26 rfl k
theorem bX9_begins_57 {v3 : Int32} {mc ms : Nat} {Q : Int32 → xHp → Prop} (hW : xLay sh R) 
    (k : Q v3 (sh, I, R)) :
    Ex mX9_begins 57 [xU, xU, xU, .int v3] [] (sh, I, R) mc ms (xqI Q) := by
  refine xw_iload_n dX9_begins_57 rfl rfl ?_
  exact yw_iret dX9_begins_58 rfl k
theorem eX9_begins {v1 : Int32} {v2 : Int32} {h : xHp} {Q : Int32 → xHp → Prop} (k : Ex mX9_begins 0 [.ref 0, .int v1, .int v2, xU] [] h 0 0 (xqI Q)) : CI mX9_begins [.ref 0, .int v1, .int v2] h Q := k
theorem bX9_ends_0 {v1 v2 : Int32} {mc ms : Nat} {Q : Int32 → xHp → Prop} (hW : xLay sh R) 
    (k : CI mX3_has [.ref 12, .int v1] (sh, I, R) (fun w h1 => Ex mX9_ends 11 [.ref 0, .int v1, .int v2, xU] (.int w :: []) h1 mc ms (xqI Q))) :
    Ex mX9_ends 0 [.ref 0, .int v1, .int v2, xU] [] (sh, I, R) mc ms (xqI Q) := by
  refine xw_aload_n dX9_ends_0 rfl rfl ?_
  refine yw_getR (r := 9) dX9_ends_1 fX9_28 rfl (la_0 hW) (lr_0_2 hW) ?_
  refine yw_getR (r := 12) dX9_ends_4 fX9_110 rfl hW.2.2.1.1 hW.2.2.1.2.2.2.2.2.2.1 ?_
  refine xw_iload_n dX9_ends_7 rfl rfl ?_
  exact yw_cV (As := [.int v1]) (b := 12) (st := []) dX9_ends_8 lX9_175 kiX3_has kvX3_has rfl rfl rfl hW.2.2.1.2.2.2.2.2.2.2.2.1.1 rfl (Nat.le_of_ble_eq_true rfl) rfl (xk_I k)
theorem bX9_ends_11 {v1 v2 s0 : Int32} {mc ms : Nat} {Q : Int32 → xHp → Prop} (hW : xLay sh R) 
    (k : ((s0 = 0 → Q (-1) (sh, I, R)) ∧ (¬ s0 = 0 → CI mX5_hasResidue [.ref 1, .int v2] (sh, I, R) (fun w h1 => Ex mX9_ends 22 [.ref 0, .int v1, .int v2, xU] (.int w :: []) h1 mc ms (xqI Q))))) :
    Ex mX9_ends 11 [.ref 0, .int v1, .int v2, xU] [.int s0] (sh, I, R) mc ms (xqI Q) := by
  refine xw_ifeq (tgt := 25) dX9_ends_11 (by decide) (fun c => ?_) (fun c => ?_)
  · replace k := k.1 c
    refine xw_iconst (v := (-1)) dX9_ends_25 rfl ?_
    exact yw_iret dX9_ends_26 rfl k
  · replace k := k.2 c
    refine xw_aload_n dX9_ends_14 rfl rfl ?_
    refine yw_getR (r := 1) dX9_ends_15 fX9_10 rfl (la_0 hW) (lr_0_0 hW) ?_
    refine xw_iload_n dX9_ends_18 rfl rfl ?_
    exact yw_cV (As := [.int v2]) (b := 1) (st := []) dX9_ends_19 lX9_282 kiX5_hasResidue kvX5_hasResidue rfl rfl rfl (la_1 hW) rfl (Nat.le_of_ble_eq_true rfl) rfl (xk_I k)
theorem bX9_ends_22 {v1 v2 s0 : Int32} {mc ms : Nat} {Q : Int32 → xHp → Prop} (hW : xLay sh R) 
    (k : ((¬ s0 = 0 → vp_in v1 4 ∧ vp_in v1 4 ∧ CV mX9_changed [.ref 0] (sh, (xi I 14 v1.toNatClampNeg v2), R) (fun h1 => Ex mX9_ends 57 [xU, xU, xU, .int (I 14 v1.toNatClampNeg)] [] h1 mc ms (xqI Q))) ∧ (s0 = 0 → Q (-1) (sh, I, R)))) :
    Ex mX9_ends 22 [.ref 0, .int v1, .int v2, xU] [.int s0] (sh, I, R) mc ms (xqI Q) := by
  refine xw_ifne (tgt := 27) dX9_ends_22 (by decide) (fun c => ?_) (fun c => ?_)
  · replace k := k.1 c
    refine xw_aload_n dX9_ends_27 rfl rfl ?_
    refine yw_getR (r := 9) dX9_ends_28 fX9_28 rfl (la_0 hW) (lr_0_2 hW) ?_
    refine yw_getR (r := 12) dX9_ends_31 fX9_110 rfl hW.2.2.1.1 hW.2.2.1.2.2.2.2.2.2.1 ?_
    refine yw_getR (r := 14) dX9_ends_34 fX9_181 rfl hW.2.2.1.2.2.2.2.2.2.2.2.1.1 hW.2.2.1.2.2.2.2.2.2.2.2.1.2.2.2.2.2.2.1 ?_
    refine xw_iload_n dX9_ends_37 rfl rfl ?_
    obtain ⟨k0, k⟩ := k
    refine yw_iaload (v := I 14 v1.toNatClampNeg) dX9_ends_38 hW.2.2.1.2.2.2.2.2.2.2.2.1.2.2.1 k0 rfl ?_
    refine yw_istore_n (lv' := [.ref 0, .int v1, .int v2, .int (I 14 v1.toNatClampNeg)]) dX9_ends_39 rfl rfl rfl rfl ?_
    refine xw_aload_n dX9_ends_40 rfl rfl ?_
    refine yw_getR (r := 9) dX9_ends_41 fX9_28 rfl (la_0 hW) (lr_0_2 hW) ?_
    refine yw_getR (r := 12) dX9_ends_44 fX9_110 rfl hW.2.2.1.1 hW.2.2.1.2.2.2.2.2.2.1 ?_
    refine yw_getR (r := 14) dX9_ends_47 fX9_181 rfl hW.2.2.1.2.2.2.2.2.2.2.2.1.1 hW.2.2.1.2.2.2.2.2.2.2.2.1.2.2.2.2.2.2.1 ?_
    refine xw_iload_n dX9_ends_50 rfl rfl ?_
    refine xw_iload_n dX9_ends_51 rfl rfl ?_
    obtain ⟨k0, k⟩ := k
    refine yw_iastore dX9_ends_52 hW.2.2.1.2.2.2.2.2.2.2.2.1.2.2.1 k0 ?_
    refine xw_aload_n dX9_ends_53 rfl rfl ?_
    refine yw_sub (lv' := [xU, xU, xU, .int (I 14 v1.toNatClampNeg)]) ⟨Or.inl rfl, Or.inl rfl, Or.inl rfl, Or.inr rfl, trivial⟩ ?_
    exact yw_cV (As := []) (b := 0) (st := []) dX9_ends_54 lX9_117 kiX9_changed kvX9_changed rfl rfl rfl (la_0 hW) rfl (Nat.le_of_ble_eq_true rfl) rfl (xk_V k)
  · replace k := k.2 c
    refine xw_iconst (v := (-1)) dX9_ends_25 rfl ?_
    exact yw_iret dX9_ends_26 rfl k
theorem bX9_ends_57 {v3 : Int32} {mc ms : Nat} {Q : Int32 → xHp → Prop} (hW : xLay sh R) 
    (k : Q v3 (sh, I, R)) :
    Ex mX9_ends 57 [xU, xU, xU, .int v3] [] (sh, I, R) mc ms (xqI Q) := by
  refine xw_iload_n dX9_ends_57 rfl rfl ?_
  exact yw_iret dX9_ends_58 rfl k
theorem eX9_ends {v1 : Int32} {v2 : Int32} {h : xHp} {Q : Int32 → xHp → Prop} (k : Ex mX9_ends 0 [.ref 0, .int v1, .int v2, xU] [] h 0 0 (xqI Q)) : CI mX9_ends [.ref 0, .int v1, .int v2] h Q := k
theorem bX9_leads_0 {v1 v2 v3 v4 : Int32} {mc ms : Nat} {Q : Int32 → xHp → Prop} (hW : xLay sh R) 
    (k : CI mX3_has [.ref 12, .int v1] (sh, I, R) (fun w h1 => Ex mX9_leads 15 [.ref 0, .int v1, .int v2, .int v3, .int v4, .ref 12, xU, xU] (.int w :: []) h1 mc ms (xqI Q))) :
    Ex mX9_leads 0 [.ref 0, .int v1, .int v2, .int v3, .int v4, xU, xU, xU] [] (sh, I, R) mc ms (xqI Q) := by
  refine xw_aload_n dX9_leads_0 rfl rfl ?_
  refine yw_getR (r := 9) dX9_leads_1 fX9_28 rfl (la_0 hW) (lr_0_2 hW) ?_
  refine yw_getR (r := 12) dX9_leads_4 fX9_110 rfl hW.2.2.1.1 hW.2.2.1.2.2.2.2.2.2.1 ?_
  refine yw_astore (lv' := [.ref 0, .int v1, .int v2, .int v3, .int v4, .ref 12, xU, xU]) dX9_leads_7 rfl rfl rfl ?_
  refine xw_aload dX9_leads_9 rfl ?_
  refine xw_iload_n dX9_leads_11 rfl rfl ?_
  exact yw_cV (As := [.int v1]) (b := 12) (st := []) dX9_leads_12 lX9_175 kiX3_has kvX3_has rfl rfl rfl hW.2.2.1.2.2.2.2.2.2.2.2.1.1 rfl (Nat.le_of_ble_eq_true rfl) rfl (xk_I k)
theorem bX9_leads_15 {v1 v2 v3 v4 s0 : Int32} {mc ms : Nat} {Q : Int32 → xHp → Prop} (hW : xLay sh R) 
    (k : ((s0 = 0 → Q (-1) (sh, I, R)) ∧ (¬ s0 = 0 → CI mX5_hasLetter [.ref 1, .int v2] (sh, I, R) (fun w h1 => Ex mX9_leads 26 [.ref 0, .int v1, .int v2, .int v3, .int v4, .ref 12, xU, xU] (.int w :: []) h1 mc ms (xqI Q))))) :
    Ex mX9_leads 15 [.ref 0, .int v1, .int v2, .int v3, .int v4, .ref 12, xU, xU] [.int s0] (sh, I, R) mc ms (xqI Q) := by
  refine xw_ifeq (tgt := 50) dX9_leads_15 (by decide) (fun c => ?_) (fun c => ?_)
  · replace k := k.1 c
    refine xw_iconst (v := (-1)) dX9_leads_50 rfl ?_
    exact yw_iret dX9_leads_51 rfl k
  · replace k := k.2 c
    refine xw_aload_n dX9_leads_18 rfl rfl ?_
    refine yw_getR (r := 1) dX9_leads_19 fX9_10 rfl (la_0 hW) (lr_0_0 hW) ?_
    refine xw_iload_n dX9_leads_22 rfl rfl ?_
    exact yw_cV (As := [.int v2]) (b := 1) (st := []) dX9_leads_23 lX9_184 kiX5_hasLetter kvX5_hasLetter rfl rfl rfl (la_1 hW) rfl (Nat.le_of_ble_eq_true rfl) rfl (xk_I k)
theorem bX9_leads_26 {v1 v2 v3 v4 s0 : Int32} {mc ms : Nat} {Q : Int32 → xHp → Prop} (hW : xLay sh R) 
    (k : ((s0 = 0 → Q (-1) (sh, I, R)) ∧ (¬ s0 = 0 → CI mX3_has [.ref 12, .int v3] (sh, I, R) (fun w h1 => Ex mX9_leads 35 [.ref 0, .int v1, .int v2, .int v3, .int v4, .ref 12, xU, xU] (.int w :: []) h1 mc ms (xqI Q))))) :
    Ex mX9_leads 26 [.ref 0, .int v1, .int v2, .int v3, .int v4, .ref 12, xU, xU] [.int s0] (sh, I, R) mc ms (xqI Q) := by
  refine xw_ifeq (tgt := 50) dX9_leads_26 (by decide) (fun c => ?_) (fun c => ?_)
  · replace k := k.1 c
    refine xw_iconst (v := (-1)) dX9_leads_50 rfl ?_
    exact yw_iret dX9_leads_51 rfl k
  · replace k := k.2 c
    refine xw_aload dX9_leads_29 rfl ?_
    refine xw_iload_n dX9_leads_31 rfl rfl ?_
    exact yw_cV (As := [.int v3]) (b := 12) (st := []) dX9_leads_32 lX9_175 kiX3_has kvX3_has rfl rfl rfl hW.2.2.1.2.2.2.2.2.2.2.2.1.1 rfl (Nat.le_of_ble_eq_true rfl) rfl (xk_I k)
theorem bX9_leads_35 {v1 v2 v3 v4 s0 : Int32} {mc ms : Nat} {Q : Int32 → xHp → Prop} (hW : xLay sh R) 
    (k : ((s0 = 0 → Q (-1) (sh, I, R)) ∧ (¬ s0 = 0 → CI mX5_hasResidue [.ref 1, .int v4] (sh, I, R) (fun w h1 => Ex mX9_leads 47 [.ref 0, .int v1, .int v2, .int v3, .int v4, .ref 12, xU, xU] (.int w :: []) h1 mc ms (xqI Q))))) :
    Ex mX9_leads 35 [.ref 0, .int v1, .int v2, .int v3, .int v4, .ref 12, xU, xU] [.int s0] (sh, I, R) mc ms (xqI Q) := by
  refine xw_ifeq (tgt := 50) dX9_leads_35 (by decide) (fun c => ?_) (fun c => ?_)
  · replace k := k.1 c
    refine xw_iconst (v := (-1)) dX9_leads_50 rfl ?_
    exact yw_iret dX9_leads_51 rfl k
  · replace k := k.2 c
    refine xw_aload_n dX9_leads_38 rfl rfl ?_
    refine yw_getR (r := 1) dX9_leads_39 fX9_10 rfl (la_0 hW) (lr_0_0 hW) ?_
    refine xw_iload dX9_leads_42 rfl ?_
    exact yw_cV (As := [.int v4]) (b := 1) (st := []) dX9_leads_44 lX9_282 kiX5_hasResidue kvX5_hasResidue rfl rfl rfl (la_1 hW) rfl (Nat.le_of_ble_eq_true rfl) rfl (xk_I k)
theorem bX9_leads_47 {v1 v2 v3 v4 s0 : Int32} {mc ms : Nat} {Q : Int32 → xHp → Prop} (hW : xLay sh R) 
    (k : ((¬ s0 = 0 → CI mX3_at [.ref 12, .int v1, .int v2, .int v3] (sh, I, R) (fun w h1 => Ex mX9_leads 60 [.ref 0, xU, xU, xU, .int v4, .ref 12, xU, xU] (.int w :: []) h1 mc ms (xqI Q))) ∧ (s0 = 0 → Q (-1) (sh, I, R)))) :
    Ex mX9_leads 47 [.ref 0, .int v1, .int v2, .int v3, .int v4, .ref 12, xU, xU] [.int s0] (sh, I, R) mc ms (xqI Q) := by
  refine xw_ifne (tgt := 52) dX9_leads_47 (by decide) (fun c => ?_) (fun c => ?_)
  · replace k := k.1 c
    refine xw_aload dX9_leads_52 rfl ?_
    refine xw_iload_n dX9_leads_54 rfl rfl ?_
    refine xw_iload_n dX9_leads_55 rfl rfl ?_
    refine xw_iload_n dX9_leads_56 rfl rfl ?_
    refine yw_sub (lv' := [.ref 0, xU, xU, xU, .int v4, .ref 12, xU, xU]) ⟨Or.inr rfl, Or.inl rfl, Or.inl rfl, Or.inl rfl, Or.inr rfl, Or.inr rfl, Or.inl rfl, Or.inl rfl, trivial⟩ ?_
    exact yw_cV (As := [.int v1, .int v2, .int v3]) (b := 12) (st := []) dX9_leads_57 lX9_190 kiX3_at kvX3_at rfl rfl rfl hW.2.2.1.2.2.2.2.2.2.2.2.1.1 rfl (Nat.le_of_ble_eq_true rfl) rfl (xk_I k)
  · replace k := k.2 c
    refine xw_iconst (v := (-1)) dX9_leads_50 rfl ?_
    exact yw_iret dX9_leads_51 rfl k
theorem bX9_leads_60 {v4 s0 : Int32} {mc ms : Nat} {Q : Int32 → xHp → Prop} (hW : xLay sh R) 
    (k : vp_in s0 48 ∧ vp_in s0 48 ∧ CV mX9_changed [.ref 0] (sh, (xi I 15 s0.toNatClampNeg v4), R) (fun h1 => Ex mX9_leads 86 [xU, xU, xU, xU, xU, xU, xU, .int (I 15 s0.toNatClampNeg)] [] h1 mc ms (xqI Q))) :
    Ex mX9_leads 60 [.ref 0, xU, xU, xU, .int v4, .ref 12, xU, xU] [.int s0] (sh, I, R) mc ms (xqI Q) := by
  refine yw_istore (lv' := [.ref 0, xU, xU, xU, .int v4, .ref 12, .int s0, xU]) dX9_leads_60 rfl rfl rfl ?_
  refine xw_aload dX9_leads_62 rfl ?_
  refine yw_getR (r := 15) dX9_leads_64 fX9_187 rfl hW.2.2.1.2.2.2.2.2.2.2.2.1.1 hW.2.2.1.2.2.2.2.2.2.2.2.1.2.2.2.2.2.2.2 ?_
  refine xw_iload dX9_leads_67 rfl ?_
  obtain ⟨k0, k⟩ := k
  refine yw_iaload (v := I 15 s0.toNatClampNeg) dX9_leads_69 hW.2.2.1.2.2.2.2.2.2.2.2.1.2.2.2.1 k0 rfl ?_
  refine yw_istore (lv' := [.ref 0, xU, xU, xU, .int v4, .ref 12, .int s0, .int (I 15 s0.toNatClampNeg)]) dX9_leads_70 rfl rfl rfl ?_
  refine xw_aload dX9_leads_72 rfl ?_
  refine yw_getR (r := 15) dX9_leads_74 fX9_187 rfl hW.2.2.1.2.2.2.2.2.2.2.2.1.1 hW.2.2.1.2.2.2.2.2.2.2.2.1.2.2.2.2.2.2.2 ?_
  refine xw_iload dX9_leads_77 rfl ?_
  refine xw_iload dX9_leads_79 rfl ?_
  obtain ⟨k0, k⟩ := k
  refine yw_iastore dX9_leads_81 hW.2.2.1.2.2.2.2.2.2.2.2.1.2.2.2.1 k0 ?_
  refine xw_aload_n dX9_leads_82 rfl rfl ?_
  refine yw_sub (lv' := [xU, xU, xU, xU, xU, xU, xU, .int (I 15 s0.toNatClampNeg)]) ⟨Or.inl rfl, Or.inl rfl, Or.inl rfl, Or.inl rfl, Or.inl rfl, Or.inl rfl, Or.inl rfl, Or.inr rfl, trivial⟩ ?_
  exact yw_cV (As := []) (b := 0) (st := []) dX9_leads_83 lX9_117 kiX9_changed kvX9_changed rfl rfl rfl (la_0 hW) rfl (Nat.le_of_ble_eq_true rfl) rfl (xk_V k)
theorem bX9_leads_86 {v7 : Int32} {mc ms : Nat} {Q : Int32 → xHp → Prop} (hW : xLay sh R) 
    (k : Q v7 (sh, I, R)) :
    Ex mX9_leads 86 [xU, xU, xU, xU, xU, xU, xU, .int v7] [] (sh, I, R) mc ms (xqI Q) := by
  refine xw_iload dX9_leads_86 rfl ?_
  exact yw_iret dX9_leads_88 rfl k
theorem eX9_leads {v1 : Int32} {v2 : Int32} {v3 : Int32} {v4 : Int32} {h : xHp} {Q : Int32 → xHp → Prop} (k : Ex mX9_leads 0 [.ref 0, .int v1, .int v2, .int v3, .int v4, xU, xU, xU] [] h 0 0 (xqI Q)) : CI mX9_leads [.ref 0, .int v1, .int v2, .int v3, .int v4] h Q := k
theorem bX9_grow_0 {mc ms : Nat} {Q : Int32 → xHp → Prop} (hW : xLay sh R) 
    (k : (((I 12 2) < (nI 4) → CV mX9_changed [.ref 0] (sh, (xi I 12 2 ((I 12 2) + (nI 1))), R) (fun h1 => Ex mX9_grow 37 [.ref 0] [] h1 mc ms (xqI Q))) ∧ (¬ (I 12 2) < (nI 4) → Q (-3) (sh, I, R)))) :
    Ex mX9_grow 0 [.ref 0] [] (sh, I, R) mc ms (xqI Q) := by
  refine xw_aload_n dX9_grow_0 rfl rfl ?_
  refine yw_getR (r := 9) dX9_grow_1 fX9_28 rfl (la_0 hW) (lr_0_2 hW) ?_
  refine yw_getR (r := 12) dX9_grow_4 fX9_110 rfl hW.2.2.1.1 hW.2.2.1.2.2.2.2.2.2.1 ?_
  refine yw_getI (v := I 12 2) dX9_grow_7 fX9_131 rfl hW.2.2.1.2.2.2.2.2.2.2.2.1.1 rfl ?_
  refine xw_iconst (v := nI 4) dX9_grow_10 rfl ?_
  refine xw_iclt (tgt := 17) dX9_grow_11 (by decide) (fun c => ?_) (fun c => ?_)
  · replace k := k.1 c
    refine xw_aload_n dX9_grow_17 rfl rfl ?_
    refine yw_getR (r := 9) dX9_grow_18 fX9_28 rfl (la_0 hW) (lr_0_2 hW) ?_
    refine yw_getR (r := 12) dX9_grow_21 fX9_110 rfl hW.2.2.1.1 hW.2.2.1.2.2.2.2.2.2.1 ?_
    refine xw_dup dX9_grow_24 rfl ?_
    refine yw_getI (v := I 12 2) dX9_grow_25 fX9_131 rfl hW.2.2.1.2.2.2.2.2.2.2.2.1.1 rfl ?_
    refine xw_iconst (v := nI 1) dX9_grow_28 rfl ?_
    refine xw_iadd dX9_grow_29 ?_
    refine yw_putI dX9_grow_30 fX9_131 (fun r h => by cases h; exact Or.inl rfl) rfl hW.2.2.1.2.2.2.2.2.2.2.2.1.1 ?_
    refine xw_aload_n dX9_grow_33 rfl rfl ?_
    exact yw_cV (As := []) (b := 0) (st := []) dX9_grow_34 lX9_117 kiX9_changed kvX9_changed rfl rfl rfl (la_0 hW) rfl (Nat.le_of_ble_eq_true rfl) rfl (xk_V k)
  · replace k := k.2 c
    refine xw_bipush (v := (-3)) dX9_grow_14 (by decide) ?_
    exact yw_iret dX9_grow_16 rfl k
theorem bX9_grow_37 {mc ms : Nat} {Q : Int32 → xHp → Prop} (hW : xLay sh R) 
    (k : Q (I 12 2) (sh, I, R)) :
    Ex mX9_grow 37 [.ref 0] [] (sh, I, R) mc ms (xqI Q) := by
  refine xw_aload_n dX9_grow_37 rfl rfl ?_
  refine yw_getR (r := 9) dX9_grow_38 fX9_28 rfl (la_0 hW) (lr_0_2 hW) ?_
  refine yw_getR (r := 12) dX9_grow_41 fX9_110 rfl hW.2.2.1.1 hW.2.2.1.2.2.2.2.2.2.1 ?_
  refine yw_getI (v := I 12 2) dX9_grow_44 fX9_131 rfl hW.2.2.1.2.2.2.2.2.2.2.2.1.1 rfl ?_
  exact yw_iret dX9_grow_47 rfl k
theorem eX9_grow {h : xHp} {Q : Int32 → xHp → Prop} (k : Ex mX9_grow 0 [.ref 0] [] h 0 0 (xqI Q)) : CI mX9_grow [.ref 0] h Q := k
theorem bX9_drop_0 {v1 : Int32} {mc ms : Nat} {Q : Int32 → xHp → Prop} (hW : xLay sh R) 
    (k : CI mX3_has [.ref 12, .int v1] (sh, I, R) (fun w h1 => Ex mX9_drop 11 [.ref 0, .int v1] (.int w :: []) h1 mc ms (xqI Q))) :
    Ex mX9_drop 0 [.ref 0, .int v1] [] (sh, I, R) mc ms (xqI Q) := by
  refine xw_aload_n dX9_drop_0 rfl rfl ?_
  refine yw_getR (r := 9) dX9_drop_1 fX9_28 rfl (la_0 hW) (lr_0_2 hW) ?_
  refine yw_getR (r := 12) dX9_drop_4 fX9_110 rfl hW.2.2.1.1 hW.2.2.1.2.2.2.2.2.2.1 ?_
  refine xw_iload_n dX9_drop_7 rfl rfl ?_
  exact yw_cV (As := [.int v1]) (b := 12) (st := []) dX9_drop_8 lX9_175 kiX3_has kvX3_has rfl rfl rfl hW.2.2.1.2.2.2.2.2.2.2.2.1.1 rfl (Nat.le_of_ble_eq_true rfl) rfl (xk_I k)
theorem bX9_drop_11 {v1 s0 : Int32} {mc ms : Nat} {Q : Int32 → xHp → Prop} (hW : xLay sh R) 
    (k : ((¬ s0 = 0 → CV mX3_omit [.ref 12, .int v1] (sh, I, R) (fun h1 => Ex mX9_drop 27 [.ref 0, xU] [] h1 mc ms (xqI Q))) ∧ (s0 = 0 → Q (-1) (sh, I, R)))) :
    Ex mX9_drop 11 [.ref 0, .int v1] [.int s0] (sh, I, R) mc ms (xqI Q) := by
  refine xw_ifne (tgt := 16) dX9_drop_11 (by decide) (fun c => ?_) (fun c => ?_)
  · replace k := k.1 c
    refine xw_aload_n dX9_drop_16 rfl rfl ?_
    refine yw_getR (r := 9) dX9_drop_17 fX9_28 rfl (la_0 hW) (lr_0_2 hW) ?_
    refine yw_getR (r := 12) dX9_drop_20 fX9_110 rfl hW.2.2.1.1 hW.2.2.1.2.2.2.2.2.2.1 ?_
    refine xw_iload_n dX9_drop_23 rfl rfl ?_
    refine yw_sub (lv' := [.ref 0, xU]) ⟨Or.inr rfl, Or.inl rfl, trivial⟩ ?_
    exact yw_cV (As := [.int v1]) (b := 12) (st := []) dX9_drop_24 lX9_285 kiX3_omit kvX3_omit rfl rfl rfl hW.2.2.1.2.2.2.2.2.2.2.2.1.1 rfl (Nat.le_of_ble_eq_true rfl) rfl (xk_V k)
  · replace k := k.2 c
    refine xw_iconst (v := (-1)) dX9_drop_14 rfl ?_
    exact yw_iret dX9_drop_15 rfl k
theorem bX9_drop_27 {mc ms : Nat} {Q : Int32 → xHp → Prop} (hW : xLay sh R) 
    (k : CV mX9_changed [.ref 0] (sh, I, R) (fun h1 => Ex mX9_drop 31 [.ref 0, xU] [] h1 mc ms (xqI Q))) :
    Ex mX9_drop 27 [.ref 0, xU] [] (sh, I, R) mc ms (xqI Q) := by
  refine xw_aload_n dX9_drop_27 rfl rfl ?_
  exact yw_cV (As := []) (b := 0) (st := []) dX9_drop_28 lX9_117 kiX9_changed kvX9_changed rfl rfl rfl (la_0 hW) rfl (Nat.le_of_ble_eq_true rfl) rfl (xk_V k)
theorem bX9_drop_31 {mc ms : Nat} {Q : Int32 → xHp → Prop} (hW : xLay sh R) 
    (k : Q (I 12 2) (sh, I, R)) :
    Ex mX9_drop 31 [.ref 0, xU] [] (sh, I, R) mc ms (xqI Q) := by
  refine xw_aload_n dX9_drop_31 rfl rfl ?_
  refine yw_getR (r := 9) dX9_drop_32 fX9_28 rfl (la_0 hW) (lr_0_2 hW) ?_
  refine yw_getR (r := 12) dX9_drop_35 fX9_110 rfl hW.2.2.1.1 hW.2.2.1.2.2.2.2.2.2.1 ?_
  refine yw_getI (v := I 12 2) dX9_drop_38 fX9_131 rfl hW.2.2.1.2.2.2.2.2.2.2.2.1.1 rfl ?_
  exact yw_iret dX9_drop_41 rfl k
theorem eX9_drop {v1 : Int32} {h : xHp} {Q : Int32 → xHp → Prop} (k : Ex mX9_drop 0 [.ref 0, .int v1] [] h 0 0 (xqI Q)) : CI mX9_drop [.ref 0, .int v1] h Q := k
theorem bX9_turn_0 {mc ms : Nat} {Q : Int32 → xHp → Prop} (hW : xLay sh R) 
    (k : CV mX3_reverse [.ref 12] (sh, I, R) (fun h1 => Ex mX9_turn 10 [.ref 0] [] h1 mc ms (xqI Q))) :
    Ex mX9_turn 0 [.ref 0] [] (sh, I, R) mc ms (xqI Q) := by
  refine xw_aload_n dX9_turn_0 rfl rfl ?_
  refine yw_getR (r := 9) dX9_turn_1 fX9_28 rfl (la_0 hW) (lr_0_2 hW) ?_
  refine yw_getR (r := 12) dX9_turn_4 fX9_110 rfl hW.2.2.1.1 hW.2.2.1.2.2.2.2.2.2.1 ?_
  exact yw_cV (As := []) (b := 12) (st := []) dX9_turn_7 lX9_288 kiX3_reverse kvX3_reverse rfl rfl rfl hW.2.2.1.2.2.2.2.2.2.2.2.1.1 rfl (Nat.le_of_ble_eq_true rfl) rfl (xk_V k)
theorem bX9_turn_10 {mc ms : Nat} {Q : Int32 → xHp → Prop} (hW : xLay sh R) 
    (k : CV mX9_changed [.ref 0] (sh, I, R) (fun h1 => Ex mX9_turn 14 [.ref 0] [] h1 mc ms (xqI Q))) :
    Ex mX9_turn 10 [.ref 0] [] (sh, I, R) mc ms (xqI Q) := by
  refine xw_aload_n dX9_turn_10 rfl rfl ?_
  exact yw_cV (As := []) (b := 0) (st := []) dX9_turn_11 lX9_117 kiX9_changed kvX9_changed rfl rfl rfl (la_0 hW) rfl (Nat.le_of_ble_eq_true rfl) rfl (xk_V k)
theorem bX9_turn_14 {mc ms : Nat} {Q : Int32 → xHp → Prop} (hW : xLay sh R) 
    (k : Q (I 12 2) (sh, I, R)) :
    Ex mX9_turn 14 [.ref 0] [] (sh, I, R) mc ms (xqI Q) := by
  refine xw_aload_n dX9_turn_14 rfl rfl ?_
  refine yw_getR (r := 9) dX9_turn_15 fX9_28 rfl (la_0 hW) (lr_0_2 hW) ?_
  refine yw_getR (r := 12) dX9_turn_18 fX9_110 rfl hW.2.2.1.1 hW.2.2.1.2.2.2.2.2.2.1 ?_
  refine yw_getI (v := I 12 2) dX9_turn_21 fX9_131 rfl hW.2.2.1.2.2.2.2.2.2.2.2.1.1 rfl ?_
  exact yw_iret dX9_turn_24 rfl k
theorem eX9_turn {h : xHp} {Q : Int32 → xHp → Prop} (k : Ex mX9_turn 0 [.ref 0] [] h 0 0 (xqI Q)) : CI mX9_turn [.ref 0] h Q := k
theorem bX9_scale_0 {v1 : Int32} {mc ms : Nat} {Q : Int32 → xHp → Prop} (hW : xLay sh R) 
    (k : CI mX5_hasResidue [.ref 1, .int v1] (sh, I, R) (fun w h1 => Ex mX9_scale 8 [.ref 0, .int v1] (.int w :: []) h1 mc ms (xqI Q))) :
    Ex mX9_scale 0 [.ref 0, .int v1] [] (sh, I, R) mc ms (xqI Q) := by
  refine xw_aload_n dX9_scale_0 rfl rfl ?_
  refine yw_getR (r := 1) dX9_scale_1 fX9_10 rfl (la_0 hW) (lr_0_0 hW) ?_
  refine xw_iload_n dX9_scale_4 rfl rfl ?_
  exact yw_cV (As := [.int v1]) (b := 1) (st := []) dX9_scale_5 lX9_282 kiX5_hasResidue kvX5_hasResidue rfl rfl rfl (la_1 hW) rfl (Nat.le_of_ble_eq_true rfl) rfl (xk_I k)
theorem bX9_scale_8 {v1 s0 : Int32} {mc ms : Nat} {Q : Int32 → xHp → Prop} (hW : xLay sh R) 
    (k : ((¬ s0 = 0 → CV mX3_multiplyStarts [.ref 12, .int v1] (sh, I, R) (fun h1 => Ex mX9_scale 24 [.ref 0, xU] [] h1 mc ms (xqI Q))) ∧ (s0 = 0 → Q (-1) (sh, I, R)))) :
    Ex mX9_scale 8 [.ref 0, .int v1] [.int s0] (sh, I, R) mc ms (xqI Q) := by
  refine xw_ifne (tgt := 13) dX9_scale_8 (by decide) (fun c => ?_) (fun c => ?_)
  · replace k := k.1 c
    refine xw_aload_n dX9_scale_13 rfl rfl ?_
    refine yw_getR (r := 9) dX9_scale_14 fX9_28 rfl (la_0 hW) (lr_0_2 hW) ?_
    refine yw_getR (r := 12) dX9_scale_17 fX9_110 rfl hW.2.2.1.1 hW.2.2.1.2.2.2.2.2.2.1 ?_
    refine xw_iload_n dX9_scale_20 rfl rfl ?_
    refine yw_sub (lv' := [.ref 0, xU]) ⟨Or.inr rfl, Or.inl rfl, trivial⟩ ?_
    exact yw_cV (As := [.int v1]) (b := 12) (st := []) dX9_scale_21 lX9_291 kiX3_multiplyStarts kvX3_multiplyStarts rfl rfl rfl hW.2.2.1.2.2.2.2.2.2.2.2.1.1 rfl (Nat.le_of_ble_eq_true rfl) rfl (xk_V k)
  · replace k := k.2 c
    refine xw_iconst (v := (-1)) dX9_scale_11 rfl ?_
    exact yw_iret dX9_scale_12 rfl k
theorem bX9_scale_24 {mc ms : Nat} {Q : Int32 → xHp → Prop} (hW : xLay sh R) 
    (k : CV mX9_changed [.ref 0] (sh, I, R) (fun h1 => Ex mX9_scale 28 [.ref 0, xU] [] h1 mc ms (xqI Q))) :
    Ex mX9_scale 24 [.ref 0, xU] [] (sh, I, R) mc ms (xqI Q) := by
  refine xw_aload_n dX9_scale_24 rfl rfl ?_
  exact yw_cV (As := []) (b := 0) (st := []) dX9_scale_25 lX9_117 kiX9_changed kvX9_changed rfl rfl rfl (la_0 hW) rfl (Nat.le_of_ble_eq_true rfl) rfl (xk_V k)
theorem bX9_scale_28 {mc ms : Nat} {Q : Int32 → xHp → Prop} (hW : xLay sh R) 
    (k : Q (I 12 2) (sh, I, R)) :
    Ex mX9_scale 28 [.ref 0, xU] [] (sh, I, R) mc ms (xqI Q) := by
  refine xw_aload_n dX9_scale_28 rfl rfl ?_
  refine yw_getR (r := 9) dX9_scale_29 fX9_28 rfl (la_0 hW) (lr_0_2 hW) ?_
  refine yw_getR (r := 12) dX9_scale_32 fX9_110 rfl hW.2.2.1.1 hW.2.2.1.2.2.2.2.2.2.1 ?_
  refine yw_getI (v := I 12 2) dX9_scale_35 fX9_131 rfl hW.2.2.1.2.2.2.2.2.2.2.2.1.1 rfl ?_
  exact yw_iret dX9_scale_38 rfl k
theorem eX9_scale {v1 : Int32} {h : xHp} {Q : Int32 → xHp → Prop} (k : Ex mX9_scale 0 [.ref 0, .int v1] [] h 0 0 (xqI Q)) : CI mX9_scale [.ref 0, .int v1] h Q := k
theorem bX9_shrink_0 {mc ms : Nat} {Q : Int32 → xHp → Prop} (hW : xLay sh R) 
    (k : CR mX9_leastMachine [.ref 0] (sh, I, R) (fun r h1 => (r = none → Ex mX9_shrink 11 [.ref 0] (.null :: [.ref 12]) h1 mc ms (xqI Q)) ∧ ∀ a, r = some a → Ex mX9_shrink 11 [.ref 0] (.ref a :: [.ref 12]) h1 mc ms (xqI Q))) :
    Ex mX9_shrink 0 [.ref 0] [] (sh, I, R) mc ms (xqI Q) := by
  refine xw_aload_n dX9_shrink_0 rfl rfl ?_
  refine yw_getR (r := 9) dX9_shrink_1 fX9_28 rfl (la_0 hW) (lr_0_2 hW) ?_
  refine yw_getR (r := 12) dX9_shrink_4 fX9_110 rfl hW.2.2.1.1 hW.2.2.1.2.2.2.2.2.2.1 ?_
  refine xw_aload_n dX9_shrink_7 rfl rfl ?_
  exact yw_cV (As := []) (b := 0) (st := [.ref 12]) dX9_shrink_8 lX9_141 kiX9_leastMachine kvX9_leastMachine rfl rfl rfl (la_0 hW) rfl (Nat.le_of_ble_eq_true rfl) rfl (xk_R k)
theorem bX9_shrink_11 {b1 Mb1 : Nat} {mc ms : Nat} {Q : Int32 → xHp → Prop} (hW : xLay sh R) (hb1 : xMach sh R b1 Mb1)
    (k : CV mX3_copy [.ref 12, .ref b1] (sh, I, R) (fun h1 => Ex mX9_shrink 14 [.ref 0] [] h1 mc ms (xqI Q))) :
    Ex mX9_shrink 11 [.ref 0] [.ref b1, .ref 12] (sh, I, R) mc ms (xqI Q) := by
  exact yw_cV (As := [.ref b1]) (b := 12) (st := []) dX9_shrink_11 lX9_294 kiX3_copy kvX3_copy rfl rfl rfl hW.2.2.1.2.2.2.2.2.2.2.2.1.1 rfl (Nat.le_of_ble_eq_true rfl) rfl (xk_V k)
theorem bX9_shrink_14 {mc ms : Nat} {Q : Int32 → xHp → Prop} (hW : xLay sh R) 
    (k : CV mX9_changed [.ref 0] (sh, I, R) (fun h1 => Ex mX9_shrink 18 [.ref 0] [] h1 mc ms (xqI Q))) :
    Ex mX9_shrink 14 [.ref 0] [] (sh, I, R) mc ms (xqI Q) := by
  refine xw_aload_n dX9_shrink_14 rfl rfl ?_
  exact yw_cV (As := []) (b := 0) (st := []) dX9_shrink_15 lX9_117 kiX9_changed kvX9_changed rfl rfl rfl (la_0 hW) rfl (Nat.le_of_ble_eq_true rfl) rfl (xk_V k)
theorem bX9_shrink_18 {mc ms : Nat} {Q : Int32 → xHp → Prop} (hW : xLay sh R) 
    (k : Q (I 12 2) (sh, I, R)) :
    Ex mX9_shrink 18 [.ref 0] [] (sh, I, R) mc ms (xqI Q) := by
  refine xw_aload_n dX9_shrink_18 rfl rfl ?_
  refine yw_getR (r := 9) dX9_shrink_19 fX9_28 rfl (la_0 hW) (lr_0_2 hW) ?_
  refine yw_getR (r := 12) dX9_shrink_22 fX9_110 rfl hW.2.2.1.1 hW.2.2.1.2.2.2.2.2.2.1 ?_
  refine yw_getI (v := I 12 2) dX9_shrink_25 fX9_131 rfl hW.2.2.1.2.2.2.2.2.2.2.2.1.1 rfl ?_
  exact yw_iret dX9_shrink_28 rfl k
theorem eX9_shrink {h : xHp} {Q : Int32 → xHp → Prop} (k : Ex mX9_shrink 0 [.ref 0] [] h 0 0 (xqI Q)) : CI mX9_shrink [.ref 0] h Q := k
theorem bX9_isImage_0 {v0 : Int32} {mc ms : Nat} {Q : Int32 → xHp → Prop} (hW : xLay sh R) 
    (k : ((v0 < 0 → Q (nI 0) (sh, I, R)) ∧ (¬ v0 < 0 → (((nI 2) ≤ v0 → Q (nI 0) (sh, I, R)) ∧ (¬ (nI 2) ≤ v0 → Q (nI 1) (sh, I, R)))))) :
    Ex mX9_isImage 0 [.int v0] [] (sh, I, R) mc ms (xqI Q) := by
  refine xw_iload_n dX9_isImage_0 rfl rfl ?_
  refine xw_iflt (tgt := 13) dX9_isImage_1 (by decide) (fun c => ?_) (fun c => ?_)
  · replace k := k.1 c
    refine xw_iconst (v := nI 0) dX9_isImage_13 rfl ?_
    exact yw_zret dX9_isImage_14 rfl (by decide) k
  · replace k := k.2 c
    refine xw_iload_n dX9_isImage_4 rfl rfl ?_
    refine xw_iconst (v := nI 2) dX9_isImage_5 rfl ?_
    refine xw_icge (tgt := 13) dX9_isImage_6 (by decide) (fun c => ?_) (fun c => ?_)
    · replace k := k.1 c
      refine xw_iconst (v := nI 0) dX9_isImage_13 rfl ?_
      exact yw_zret dX9_isImage_14 rfl (by decide) k
    · replace k := k.2 c
      refine xw_iconst (v := nI 1) dX9_isImage_9 rfl ?_
      refine xw_goto (tgt := 14) dX9_isImage_10 (by decide) ?_
      exact yw_zret dX9_isImage_14 rfl (by decide) k
theorem eX9_isImage {v0 : Int32} {h : xHp} {Q : Int32 → xHp → Prop} (k : Ex mX9_isImage 0 [.int v0] [] h 0 0 (xqI Q)) : CI mX9_isImage [.int v0] h Q := k
theorem bX9_join_0 {v1 : Int32} {mc ms : Nat} {Q : Int32 → xHp → Prop} (hW : xLay sh R) 
    (k : CI mX9_isImage [.int v1] (sh, I, R) (fun w h1 => Ex mX9_join 4 [.ref 0, .int v1, xU] (.int w :: []) h1 mc ms (xqI Q))) :
    Ex mX9_join 0 [.ref 0, .int v1, xU] [] (sh, I, R) mc ms (xqI Q) := by
  refine xw_iload_n dX9_join_0 rfl rfl ?_
  exact yw_cS (As := [.int v1]) (st := []) dX9_join_1 lX9_297 ksX9_isImage rfl rfl rfl (Nat.le_of_ble_eq_true rfl) rfl (xk_I k)
theorem bX9_join_4 {v1 s0 : Int32} {mc ms : Nat} {Q : Int32 → xHp → Prop} (hW : xLay sh R) 
    (k : ((¬ s0 = 0 → vp_in v1 2 ∧ ((¬ (I 21 v1.toNatClampNeg) = 0 → vp_in v1 2 ∧ ((((I 12 2) + (I ((178 + 11 * v1.toNatClampNeg) + 3) 2)) ≤ (nI 4) → CV mX3_append [.ref 12, .ref ((178 + 11 * v1.toNatClampNeg) + 3), .int (nI 1)] (sh, I, R) (fun h1 => Ex mX9_join 65 [.ref 0, xU, xU] [] h1 mc ms (xqI Q))) ∧ (¬ ((I 12 2) + (I ((178 + 11 * v1.toNatClampNeg) + 3) 2)) ≤ (nI 4) → Q (-3) (sh, I, R)))) ∧ ((I 21 v1.toNatClampNeg) = 0 → Q (-2) (sh, I, R)))) ∧ (s0 = 0 → Q (-1) (sh, I, R)))) :
    Ex mX9_join 4 [.ref 0, .int v1, xU] [.int s0] (sh, I, R) mc ms (xqI Q) := by
  refine xw_ifne (tgt := 9) dX9_join_4 (by decide) (fun c => ?_) (fun c => ?_)
  · replace k := k.1 c
    refine xw_aload_n dX9_join_9 rfl rfl ?_
    refine yw_getR (r := 21) dX9_join_10 fX9_36 rfl (la_0 hW) (lr_0_4 hW) ?_
    refine xw_iload_n dX9_join_13 rfl rfl ?_
    obtain ⟨k0, k⟩ := k
    refine yw_zaload (v := I 21 v1.toNatClampNeg) dX9_join_14 (la_21 hW) k0 rfl ?_
    refine xw_ifne (tgt := 21) dX9_join_15 (by decide) (fun c => ?_) (fun c => ?_)
    · replace k := k.1 c
      refine xw_aload_n dX9_join_21 rfl rfl ?_
      refine yw_getR (r := 20) dX9_join_22 fX9_32 rfl (la_0 hW) (lr_0_3 hW) ?_
      refine xw_iload_n dX9_join_25 rfl rfl ?_
      obtain ⟨kk1, k⟩ := k
      refine yw_aaload (r := (178 + 11 * v1.toNatClampNeg)) dX9_join_26 (la_20 hW) (by decide) kk1 (la_img hW (vp_lt kk1)) ?_
      refine yw_getR (r := ((178 + 11 * v1.toNatClampNeg) + 3)) dX9_join_27 fX9_110 rfl (hW.2.2.2.1 _ (vp_lt kk1)).1 (hW.2.2.2.1 _ (vp_lt kk1)).2.2.2.2.2.2.1 ?_
      refine yw_astore_n (lv' := [.ref 0, .int v1, .ref ((178 + 11 * v1.toNatClampNeg) + 3)]) dX9_join_30 rfl rfl rfl rfl ?_
      refine xw_aload_n dX9_join_31 rfl rfl ?_
      refine yw_getR (r := 9) dX9_join_32 fX9_28 rfl (la_0 hW) (lr_0_2 hW) ?_
      refine yw_getR (r := 12) dX9_join_35 fX9_110 rfl hW.2.2.1.1 hW.2.2.1.2.2.2.2.2.2.1 ?_
      refine yw_getI (v := I 12 2) dX9_join_38 fX9_131 rfl hW.2.2.1.2.2.2.2.2.2.2.2.1.1 rfl ?_
      refine xw_aload_n dX9_join_41 rfl rfl ?_
      refine yw_getI (v := I ((178 + 11 * v1.toNatClampNeg) + 3) 2) dX9_join_42 fX9_131 rfl (hW.2.2.2.1 _ (vp_lt kk1)).2.2.2.2.2.2.2.2.1.1 rfl ?_
      refine xw_iadd dX9_join_45 ?_
      refine xw_iconst (v := nI 4) dX9_join_46 rfl ?_
      refine xw_icle (tgt := 53) dX9_join_47 (by decide) (fun c => ?_) (fun c => ?_)
      · replace k := k.1 c
        refine xw_aload_n dX9_join_53 rfl rfl ?_
        refine yw_getR (r := 9) dX9_join_54 fX9_28 rfl (la_0 hW) (lr_0_2 hW) ?_
        refine yw_getR (r := 12) dX9_join_57 fX9_110 rfl hW.2.2.1.1 hW.2.2.1.2.2.2.2.2.2.1 ?_
        refine xw_aload_n dX9_join_60 rfl rfl ?_
        refine xw_iconst (v := nI 1) dX9_join_61 rfl ?_
        refine yw_sub (lv' := [.ref 0, xU, xU]) ⟨Or.inr rfl, Or.inl rfl, Or.inl rfl, trivial⟩ ?_
        exact yw_cV (As := [.ref ((178 + 11 * v1.toNatClampNeg) + 3), .int (nI 1)]) (b := 12) (st := []) dX9_join_62 lX9_300 kiX3_append kvX3_append rfl rfl rfl hW.2.2.1.2.2.2.2.2.2.2.2.1.1 rfl (Nat.le_of_ble_eq_true rfl) rfl (xk_V k)
      · replace k := k.2 c
        refine xw_bipush (v := (-3)) dX9_join_50 (by decide) ?_
        exact yw_iret dX9_join_52 rfl k
    · replace k := k.2 c
      refine xw_bipush (v := (-2)) dX9_join_18 (by decide) ?_
      exact yw_iret dX9_join_20 rfl k
  · replace k := k.2 c
    refine xw_iconst (v := (-1)) dX9_join_7 rfl ?_
    exact yw_iret dX9_join_8 rfl k
theorem bX9_join_65 {mc ms : Nat} {Q : Int32 → xHp → Prop} (hW : xLay sh R) 
    (k : CV mX9_changed [.ref 0] (sh, I, R) (fun h1 => Ex mX9_join 69 [.ref 0, xU, xU] [] h1 mc ms (xqI Q))) :
    Ex mX9_join 65 [.ref 0, xU, xU] [] (sh, I, R) mc ms (xqI Q) := by
  refine xw_aload_n dX9_join_65 rfl rfl ?_
  exact yw_cV (As := []) (b := 0) (st := []) dX9_join_66 lX9_117 kiX9_changed kvX9_changed rfl rfl rfl (la_0 hW) rfl (Nat.le_of_ble_eq_true rfl) rfl (xk_V k)
theorem bX9_join_69 {mc ms : Nat} {Q : Int32 → xHp → Prop} (hW : xLay sh R) 
    (k : Q (I 12 2) (sh, I, R)) :
    Ex mX9_join 69 [.ref 0, xU, xU] [] (sh, I, R) mc ms (xqI Q) := by
  refine xw_aload_n dX9_join_69 rfl rfl ?_
  refine yw_getR (r := 9) dX9_join_70 fX9_28 rfl (la_0 hW) (lr_0_2 hW) ?_
  refine yw_getR (r := 12) dX9_join_73 fX9_110 rfl hW.2.2.1.1 hW.2.2.1.2.2.2.2.2.2.1 ?_
  refine yw_getI (v := I 12 2) dX9_join_76 fX9_131 rfl hW.2.2.1.2.2.2.2.2.2.2.2.1.1 rfl ?_
  exact yw_iret dX9_join_79 rfl k
theorem eX9_join {v1 : Int32} {h : xHp} {Q : Int32 → xHp → Prop} (k : Ex mX9_join 0 [.ref 0, .int v1, xU] [] h 0 0 (xqI Q)) : CI mX9_join [.ref 0, .int v1] h Q := k
theorem bX9_keep_0 {v1 : Int32} {mc ms : Nat} {Q : Int32 → xHp → Prop} (hW : xLay sh R) 
    (k : CI mX9_isImage [.int v1] (sh, I, R) (fun w h1 => Ex mX9_keep 4 [.ref 0, .int v1, xU] (.int w :: []) h1 mc ms (xqI Q))) :
    Ex mX9_keep 0 [.ref 0, .int v1, xU] [] (sh, I, R) mc ms (xqI Q) := by
  refine xw_iload_n dX9_keep_0 rfl rfl ?_
  exact yw_cS (As := [.int v1]) (st := []) dX9_keep_1 lX9_297 ksX9_isImage rfl rfl rfl (Nat.le_of_ble_eq_true rfl) rfl (xk_I k)
theorem bX9_keep_4 {v1 s0 : Int32} {mc ms : Nat} {Q : Int32 → xHp → Prop} (hW : xLay sh R) 
    (k : ((¬ s0 = 0 → vp_in v1 2 ∧ (((I 21 v1.toNatClampNeg) = 0 → vp_in v1 2 ∧ CV mX8_copy [.ref (178 + 11 * v1.toNatClampNeg), .ref 9] (sh, I, R) (fun h1 => Ex mX9_keep 37 [.ref 0, .int v1, .int (nI 0)] [] h1 mc ms (xqI Q))) ∧ (¬ (I 21 v1.toNatClampNeg) = 0 → vp_in v1 2 ∧ CV mX8_copy [.ref (178 + 11 * v1.toNatClampNeg), .ref 9] (sh, I, R) (fun h1 => Ex mX9_keep 37 [.ref 0, .int v1, .int (nI 1)] [] h1 mc ms (xqI Q))))) ∧ (s0 = 0 → Q (-1) (sh, I, R)))) :
    Ex mX9_keep 4 [.ref 0, .int v1, xU] [.int s0] (sh, I, R) mc ms (xqI Q) := by
  refine xw_ifne (tgt := 9) dX9_keep_4 (by decide) (fun c => ?_) (fun c => ?_)
  · replace k := k.1 c
    refine xw_aload_n dX9_keep_9 rfl rfl ?_
    refine yw_getR (r := 21) dX9_keep_10 fX9_36 rfl (la_0 hW) (lr_0_4 hW) ?_
    refine xw_iload_n dX9_keep_13 rfl rfl ?_
    obtain ⟨k0, k⟩ := k
    refine yw_zaload (v := I 21 v1.toNatClampNeg) dX9_keep_14 (la_21 hW) k0 rfl ?_
    refine xw_ifeq (tgt := 22) dX9_keep_15 (by decide) (fun c => ?_) (fun c => ?_)
    · replace k := k.1 c
      refine xw_iconst (v := nI 0) dX9_keep_22 rfl ?_
      refine yw_istore_n (lv' := [.ref 0, .int v1, .int (nI 0)]) dX9_keep_23 rfl rfl rfl rfl ?_
      refine xw_aload_n dX9_keep_24 rfl rfl ?_
      refine yw_getR (r := 20) dX9_keep_25 fX9_32 rfl (la_0 hW) (lr_0_3 hW) ?_
      refine xw_iload_n dX9_keep_28 rfl rfl ?_
      obtain ⟨kk1, k⟩ := k
      refine yw_aaload (r := (178 + 11 * v1.toNatClampNeg)) dX9_keep_29 (la_20 hW) (by decide) kk1 (la_img hW (vp_lt kk1)) ?_
      refine xw_aload_n dX9_keep_30 rfl rfl ?_
      refine yw_getR (r := 9) dX9_keep_31 fX9_28 rfl (la_0 hW) (lr_0_2 hW) ?_
      exact yw_cV (As := [.ref 9]) (b := (178 + 11 * v1.toNatClampNeg)) (st := []) dX9_keep_34 lX9_312 kiX8_copy kvX8_copy rfl rfl rfl (hW.2.2.2.1 _ (vp_lt kk1)).1 rfl (Nat.le_of_ble_eq_true rfl) rfl (xk_V k)
    · replace k := k.2 c
      refine xw_iconst (v := nI 1) dX9_keep_18 rfl ?_
      refine xw_goto (tgt := 23) dX9_keep_19 (by decide) ?_
      refine yw_istore_n (lv' := [.ref 0, .int v1, .int (nI 1)]) dX9_keep_23 rfl rfl rfl rfl ?_
      refine xw_aload_n dX9_keep_24 rfl rfl ?_
      refine yw_getR (r := 20) dX9_keep_25 fX9_32 rfl (la_0 hW) (lr_0_3 hW) ?_
      refine xw_iload_n dX9_keep_28 rfl rfl ?_
      obtain ⟨kk2, k⟩ := k
      refine yw_aaload (r := (178 + 11 * v1.toNatClampNeg)) dX9_keep_29 (la_20 hW) (by decide) kk2 (la_img hW (vp_lt kk2)) ?_
      refine xw_aload_n dX9_keep_30 rfl rfl ?_
      refine yw_getR (r := 9) dX9_keep_31 fX9_28 rfl (la_0 hW) (lr_0_2 hW) ?_
      exact yw_cV (As := [.ref 9]) (b := (178 + 11 * v1.toNatClampNeg)) (st := []) dX9_keep_34 lX9_312 kiX8_copy kvX8_copy rfl rfl rfl (hW.2.2.2.1 _ (vp_lt kk2)).1 rfl (Nat.le_of_ble_eq_true rfl) rfl (xk_V k)
  · replace k := k.2 c
    refine xw_iconst (v := (-1)) dX9_keep_7 rfl ?_
    exact yw_iret dX9_keep_8 rfl k
theorem bX9_keep_37 {v1 v2 : Int32} {mc ms : Nat} {Q : Int32 → xHp → Prop} (hW : xLay sh R) 
    (k : vp_in v1 2 ∧ Q v2 (sh, (xi I 21 v1.toNatClampNeg (vp_nar .boolean (nI 1))), R)) :
    Ex mX9_keep 37 [.ref 0, .int v1, .int v2] [] (sh, I, R) mc ms (xqI Q) := by
  refine xw_aload_n dX9_keep_37 rfl rfl ?_
  refine yw_getR (r := 21) dX9_keep_38 fX9_36 rfl (la_0 hW) (lr_0_4 hW) ?_
  refine xw_iload_n dX9_keep_41 rfl rfl ?_
  refine xw_iconst (v := nI 1) dX9_keep_42 rfl ?_
  obtain ⟨k0, k⟩ := k
  refine yw_zastore dX9_keep_43 (la_21 hW) k0 ?_
  refine xw_iload_n dX9_keep_44 rfl rfl ?_
  exact yw_iret dX9_keep_45 rfl k
theorem eX9_keep {v1 : Int32} {h : xHp} {Q : Int32 → xHp → Prop} (k : Ex mX9_keep 0 [.ref 0, .int v1, xU] [] h 0 0 (xqI Q)) : CI mX9_keep [.ref 0, .int v1] h Q := k
theorem bX9_back_0 {v1 : Int32} {mc ms : Nat} {Q : Int32 → xHp → Prop} (hW : xLay sh R) 
    (k : CI mX9_isImage [.int v1] (sh, I, R) (fun w h1 => Ex mX9_back 4 [.ref 0, .int v1] (.int w :: []) h1 mc ms (xqI Q))) :
    Ex mX9_back 0 [.ref 0, .int v1] [] (sh, I, R) mc ms (xqI Q) := by
  refine xw_iload_n dX9_back_0 rfl rfl ?_
  exact yw_cS (As := [.int v1]) (st := []) dX9_back_1 lX9_297 ksX9_isImage rfl rfl rfl (Nat.le_of_ble_eq_true rfl) rfl (xk_I k)
theorem bX9_back_4 {v1 s0 : Int32} {mc ms : Nat} {Q : Int32 → xHp → Prop} (hW : xLay sh R) 
    (k : ((¬ s0 = 0 → vp_in v1 2 ∧ ((¬ (I 21 v1.toNatClampNeg) = 0 → vp_in v1 2 ∧ CV mX8_copy [.ref 9, .ref (178 + 11 * v1.toNatClampNeg)] (sh, I, R) (fun h1 => Ex mX9_back 34 [.ref 0, xU] [] h1 mc ms (xqI Q))) ∧ ((I 21 v1.toNatClampNeg) = 0 → Q (-2) (sh, I, R)))) ∧ (s0 = 0 → Q (-1) (sh, I, R)))) :
    Ex mX9_back 4 [.ref 0, .int v1] [.int s0] (sh, I, R) mc ms (xqI Q) := by
  refine xw_ifne (tgt := 9) dX9_back_4 (by decide) (fun c => ?_) (fun c => ?_)
  · replace k := k.1 c
    refine xw_aload_n dX9_back_9 rfl rfl ?_
    refine yw_getR (r := 21) dX9_back_10 fX9_36 rfl (la_0 hW) (lr_0_4 hW) ?_
    refine xw_iload_n dX9_back_13 rfl rfl ?_
    obtain ⟨k0, k⟩ := k
    refine yw_zaload (v := I 21 v1.toNatClampNeg) dX9_back_14 (la_21 hW) k0 rfl ?_
    refine xw_ifne (tgt := 21) dX9_back_15 (by decide) (fun c => ?_) (fun c => ?_)
    · replace k := k.1 c
      refine xw_aload_n dX9_back_21 rfl rfl ?_
      refine yw_getR (r := 9) dX9_back_22 fX9_28 rfl (la_0 hW) (lr_0_2 hW) ?_
      refine xw_aload_n dX9_back_25 rfl rfl ?_
      refine yw_getR (r := 20) dX9_back_26 fX9_32 rfl (la_0 hW) (lr_0_3 hW) ?_
      refine xw_iload_n dX9_back_29 rfl rfl ?_
      obtain ⟨kk1, k⟩ := k
      refine yw_aaload (r := (178 + 11 * v1.toNatClampNeg)) dX9_back_30 (la_20 hW) (by decide) kk1 (la_img hW (vp_lt kk1)) ?_
      refine yw_sub (lv' := [.ref 0, xU]) ⟨Or.inr rfl, Or.inl rfl, trivial⟩ ?_
      exact yw_cV (As := [.ref (178 + 11 * v1.toNatClampNeg)]) (b := 9) (st := []) dX9_back_31 lX9_312 kiX8_copy kvX8_copy rfl rfl rfl hW.2.2.1.1 rfl (Nat.le_of_ble_eq_true rfl) rfl (xk_V k)
    · replace k := k.2 c
      refine xw_bipush (v := (-2)) dX9_back_18 (by decide) ?_
      exact yw_iret dX9_back_20 rfl k
  · replace k := k.2 c
    refine xw_iconst (v := (-1)) dX9_back_7 rfl ?_
    exact yw_iret dX9_back_8 rfl k
theorem bX9_back_34 {mc ms : Nat} {Q : Int32 → xHp → Prop} (hW : xLay sh R) 
    (k : Q (I 12 2) (sh, (xi I 0 11 (nI 0)), R)) :
    Ex mX9_back 34 [.ref 0, xU] [] (sh, I, R) mc ms (xqI Q) := by
  refine xw_aload_n dX9_back_34 rfl rfl ?_
  refine xw_iconst (v := nI 0) dX9_back_35 rfl ?_
  refine yw_putZ dX9_back_36 fX9_315 (fun r h => by cases h; exact Or.inl rfl) rfl (Or.inl rfl) (la_0 hW) ?_
  refine xw_aload_n dX9_back_39 rfl rfl ?_
  refine yw_getR (r := 9) dX9_back_40 fX9_28 rfl (la_0 hW) (lr_0_2 hW) ?_
  refine yw_getR (r := 12) dX9_back_43 fX9_110 rfl hW.2.2.1.1 hW.2.2.1.2.2.2.2.2.2.1 ?_
  refine yw_getI (v := I 12 2) dX9_back_46 fX9_131 rfl hW.2.2.1.2.2.2.2.2.2.2.2.1.1 (xi_p (a := 12) (q := 0) (by decide)) ?_
  exact yw_iret dX9_back_49 rfl k
theorem eX9_back {v1 : Int32} {h : xHp} {Q : Int32 → xHp → Prop} (k : Ex mX9_back 0 [.ref 0, .int v1] [] h 0 0 (xqI Q)) : CI mX9_back [.ref 0, .int v1] h Q := k
theorem bX9_differ_0 {v1 : Int32} {mc ms : Nat} {Q : Int32 → xHp → Prop} (hW : xLay sh R) 
    (k : CI mX9_isImage [.int v1] (sh, I, R) (fun w h1 => Ex mX9_differ 4 [.ref 0, .int v1] (.int w :: []) h1 mc ms (xqI Q))) :
    Ex mX9_differ 0 [.ref 0, .int v1] [] (sh, I, R) mc ms (xqI Q) := by
  refine xw_iload_n dX9_differ_0 rfl rfl ?_
  exact yw_cS (As := [.int v1]) (st := []) dX9_differ_1 lX9_297 ksX9_isImage rfl rfl rfl (Nat.le_of_ble_eq_true rfl) rfl (xk_I k)
theorem bX9_differ_4 {v1 s0 : Int32} {mc ms : Nat} {Q : Int32 → xHp → Prop} (hW : xLay sh R) 
    (k : ((¬ s0 = 0 → vp_in v1 2 ∧ (((I 21 v1.toNatClampNeg) = 0 → Q (-2) (sh, I, R)) ∧ (¬ (I 21 v1.toNatClampNeg) = 0 → vp_in v1 2 ∧ CI mX9_firstDifference [.ref 0, .ref ((178 + 11 * v1.toNatClampNeg) + 3)] (sh, I, R) (fun w h1 => Ex mX9_differ 31 [xU, xU] (.int w :: []) h1 mc ms (xqI Q))))) ∧ (s0 = 0 → Q (-1) (sh, I, R)))) :
    Ex mX9_differ 4 [.ref 0, .int v1] [.int s0] (sh, I, R) mc ms (xqI Q) := by
  refine xw_ifne (tgt := 9) dX9_differ_4 (by decide) (fun c => ?_) (fun c => ?_)
  · replace k := k.1 c
    refine xw_aload_n dX9_differ_9 rfl rfl ?_
    refine yw_getR (r := 21) dX9_differ_10 fX9_36 rfl (la_0 hW) (lr_0_4 hW) ?_
    refine xw_iload_n dX9_differ_13 rfl rfl ?_
    obtain ⟨k0, k⟩ := k
    refine yw_zaload (v := I 21 v1.toNatClampNeg) dX9_differ_14 (la_21 hW) k0 rfl ?_
    refine xw_ifeq (tgt := 34) dX9_differ_15 (by decide) (fun c => ?_) (fun c => ?_)
    · replace k := k.1 c
      refine xw_bipush (v := (-2)) dX9_differ_34 (by decide) ?_
      exact yw_iret dX9_differ_36 rfl k
    · replace k := k.2 c
      refine xw_aload_n dX9_differ_18 rfl rfl ?_
      refine xw_aload_n dX9_differ_19 rfl rfl ?_
      refine yw_getR (r := 20) dX9_differ_20 fX9_32 rfl (la_0 hW) (lr_0_3 hW) ?_
      refine xw_iload_n dX9_differ_23 rfl rfl ?_
      obtain ⟨kk1, k⟩ := k
      refine yw_aaload (r := (178 + 11 * v1.toNatClampNeg)) dX9_differ_24 (la_20 hW) (by decide) kk1 (la_img hW (vp_lt kk1)) ?_
      refine yw_getR (r := ((178 + 11 * v1.toNatClampNeg) + 3)) dX9_differ_25 fX9_110 rfl (hW.2.2.2.1 _ (vp_lt kk1)).1 (hW.2.2.2.1 _ (vp_lt kk1)).2.2.2.2.2.2.1 ?_
      refine yw_sub (lv' := [xU, xU]) ⟨Or.inl rfl, Or.inl rfl, trivial⟩ ?_
      exact yw_cV (As := [.ref ((178 + 11 * v1.toNatClampNeg) + 3)]) (b := 0) (st := []) dX9_differ_28 lX9_268 kiX9_firstDifference kvX9_firstDifference rfl rfl rfl (la_0 hW) rfl (Nat.le_of_ble_eq_true rfl) rfl (xk_I k)
  · replace k := k.2 c
    refine xw_iconst (v := (-1)) dX9_differ_7 rfl ?_
    exact yw_iret dX9_differ_8 rfl k
theorem bX9_differ_31 {s0 : Int32} {mc ms : Nat} {Q : Int32 → xHp → Prop} (hW : xLay sh R) 
    (k : Q s0 (sh, I, R)) :
    Ex mX9_differ 31 [xU, xU] [.int s0] (sh, I, R) mc ms (xqI Q) := by
  refine xw_goto (tgt := 36) dX9_differ_31 (by decide) ?_
  exact yw_iret dX9_differ_36 rfl k
theorem eX9_differ {v1 : Int32} {h : xHp} {Q : Int32 → xHp → Prop} (k : Ex mX9_differ 0 [.ref 0, .int v1] [] h 0 0 (xqI Q)) : CI mX9_differ [.ref 0, .int v1] h Q := k
theorem bX9_isShelf_0 {v0 : Int32} {mc ms : Nat} {Q : Int32 → xHp → Prop} (hW : xLay sh R) 
    (k : ((v0 < 0 → Q (nI 0) (sh, I, R)) ∧ (¬ v0 < 0 → (((nI 3) ≤ v0 → Q (nI 0) (sh, I, R)) ∧ (¬ (nI 3) ≤ v0 → Q (nI 1) (sh, I, R)))))) :
    Ex mX9_isShelf 0 [.int v0] [] (sh, I, R) mc ms (xqI Q) := by
  refine xw_iload_n dX9_isShelf_0 rfl rfl ?_
  refine xw_iflt (tgt := 13) dX9_isShelf_1 (by decide) (fun c => ?_) (fun c => ?_)
  · replace k := k.1 c
    refine xw_iconst (v := nI 0) dX9_isShelf_13 rfl ?_
    exact yw_zret dX9_isShelf_14 rfl (by decide) k
  · replace k := k.2 c
    refine xw_iload_n dX9_isShelf_4 rfl rfl ?_
    refine xw_iconst (v := nI 3) dX9_isShelf_5 rfl ?_
    refine xw_icge (tgt := 13) dX9_isShelf_6 (by decide) (fun c => ?_) (fun c => ?_)
    · replace k := k.1 c
      refine xw_iconst (v := nI 0) dX9_isShelf_13 rfl ?_
      exact yw_zret dX9_isShelf_14 rfl (by decide) k
    · replace k := k.2 c
      refine xw_iconst (v := nI 1) dX9_isShelf_9 rfl ?_
      refine xw_goto (tgt := 14) dX9_isShelf_10 (by decide) ?_
      exact yw_zret dX9_isShelf_14 rfl (by decide) k
theorem eX9_isShelf {v0 : Int32} {h : xHp} {Q : Int32 → xHp → Prop} (k : Ex mX9_isShelf 0 [.int v0] [] h 0 0 (xqI Q)) : CI mX9_isShelf [.int v0] h Q := k
theorem bX9_isLane_0 {v0 : Int32} {mc ms : Nat} {Q : Int32 → xHp → Prop} (hW : xLay sh R) 
    (k : ((v0 < 0 → Q (nI 0) (sh, I, R)) ∧ (¬ v0 < 0 → (((nI 2) < v0 → Q (nI 0) (sh, I, R)) ∧ (¬ (nI 2) < v0 → Q (nI 1) (sh, I, R)))))) :
    Ex mX9_isLane 0 [.int v0] [] (sh, I, R) mc ms (xqI Q) := by
  refine xw_iload_n dX9_isLane_0 rfl rfl ?_
  refine xw_iflt (tgt := 13) dX9_isLane_1 (by decide) (fun c => ?_) (fun c => ?_)
  · replace k := k.1 c
    refine xw_iconst (v := nI 0) dX9_isLane_13 rfl ?_
    exact yw_zret dX9_isLane_14 rfl (by decide) k
  · replace k := k.2 c
    refine xw_iload_n dX9_isLane_4 rfl rfl ?_
    refine xw_iconst (v := nI 2) dX9_isLane_5 rfl ?_
    refine xw_icgt (tgt := 13) dX9_isLane_6 (by decide) (fun c => ?_) (fun c => ?_)
    · replace k := k.1 c
      refine xw_iconst (v := nI 0) dX9_isLane_13 rfl ?_
      exact yw_zret dX9_isLane_14 rfl (by decide) k
    · replace k := k.2 c
      refine xw_iconst (v := nI 1) dX9_isLane_9 rfl ?_
      refine xw_goto (tgt := 14) dX9_isLane_10 (by decide) ?_
      exact yw_zret dX9_isLane_14 rfl (by decide) k
theorem eX9_isLane {v0 : Int32} {h : xHp} {Q : Int32 → xHp → Prop} (k : Ex mX9_isLane 0 [.int v0] [] h 0 0 (xqI Q)) : CI mX9_isLane [.int v0] h Q := k
theorem bX9_shelf_0 {v1 v2 v3 : Int32} {mc ms : Nat} {Q : Int32 → xHp → Prop} (hW : xLay sh R) 
    (k : CI mX9_isShelf [.int v1] (sh, I, R) (fun w h1 => Ex mX9_shelf 4 [.ref 0, .int v1, .int v2, .int v3] (.int w :: []) h1 mc ms (xqI Q))) :
    Ex mX9_shelf 0 [.ref 0, .int v1, .int v2, .int v3] [] (sh, I, R) mc ms (xqI Q) := by
  refine xw_iload_n dX9_shelf_0 rfl rfl ?_
  exact yw_cS (As := [.int v1]) (st := []) dX9_shelf_1 lX9_318 ksX9_isShelf rfl rfl rfl (Nat.le_of_ble_eq_true rfl) rfl (xk_I k)
theorem bX9_shelf_4 {v1 v2 v3 s0 : Int32} {mc ms : Nat} {Q : Int32 → xHp → Prop} (hW : xLay sh R) 
    (k : ((s0 = 0 → Q (-1) (sh, I, R)) ∧ (¬ s0 = 0 → CI mX9_isLane [.int v2] (sh, I, R) (fun w h1 => Ex mX9_shelf 11 [.ref 0, .int v1, .int v2, .int v3] (.int w :: []) h1 mc ms (xqI Q))))) :
    Ex mX9_shelf 4 [.ref 0, .int v1, .int v2, .int v3] [.int s0] (sh, I, R) mc ms (xqI Q) := by
  refine xw_ifeq (tgt := 20) dX9_shelf_4 (by decide) (fun c => ?_) (fun c => ?_)
  · replace k := k.1 c
    refine xw_iconst (v := (-1)) dX9_shelf_20 rfl ?_
    exact yw_iret dX9_shelf_21 rfl k
  · replace k := k.2 c
    refine xw_iload_n dX9_shelf_7 rfl rfl ?_
    exact yw_cS (As := [.int v2]) (st := []) dX9_shelf_8 lX9_321 ksX9_isLane rfl rfl rfl (Nat.le_of_ble_eq_true rfl) rfl (xk_I k)
theorem bX9_shelf_11 {v1 v2 v3 s0 : Int32} {mc ms : Nat} {Q : Int32 → xHp → Prop} (hW : xLay sh R) 
    (k : ((s0 = 0 → Q (-1) (sh, I, R)) ∧ (¬ s0 = 0 → ((v3 ≤ (nI 8) → ((0 ≤ v3 → vp_in v1 3 ∧ CV mX6_stand [.ref (200 + 3 * v1.toNatClampNeg), .int v2, .int v3] (sh, I, R) (fun h1 => Ex mX9_shelf 40 [xU, xU, xU, xU] [] h1 mc ms (xqI Q))) ∧ (¬ 0 ≤ v3 → Q (-16) (sh, I, R)))) ∧ (¬ v3 ≤ (nI 8) → Q (-1) (sh, I, R)))))) :
    Ex mX9_shelf 11 [.ref 0, .int v1, .int v2, .int v3] [.int s0] (sh, I, R) mc ms (xqI Q) := by
  refine xw_ifeq (tgt := 20) dX9_shelf_11 (by decide) (fun c => ?_) (fun c => ?_)
  · replace k := k.1 c
    refine xw_iconst (v := (-1)) dX9_shelf_20 rfl ?_
    exact yw_iret dX9_shelf_21 rfl k
  · replace k := k.2 c
    refine xw_iload_n dX9_shelf_14 rfl rfl ?_
    refine xw_bipush (v := nI 8) dX9_shelf_15 (by decide) ?_
    refine xw_icle (tgt := 22) dX9_shelf_17 (by decide) (fun c => ?_) (fun c => ?_)
    · replace k := k.1 c
      refine xw_iload_n dX9_shelf_22 rfl rfl ?_
      refine xw_ifge (tgt := 29) dX9_shelf_23 (by decide) (fun c => ?_) (fun c => ?_)
      · replace k := k.1 c
        refine xw_aload_n dX9_shelf_29 rfl rfl ?_
        refine yw_getR (r := 22) dX9_shelf_30 fX9_42 rfl (la_0 hW) (lr_0_5 hW) ?_
        refine xw_iload_n dX9_shelf_33 rfl rfl ?_
        obtain ⟨kk1, k⟩ := k
        refine yw_aaload (r := (200 + 3 * v1.toNatClampNeg)) dX9_shelf_34 (la_22 hW) (by decide) kk1 (la_shf hW (vp_lt kk1)) ?_
        refine xw_iload_n dX9_shelf_35 rfl rfl ?_
        refine xw_iload_n dX9_shelf_36 rfl rfl ?_
        refine yw_sub (lv' := [xU, xU, xU, xU]) ⟨Or.inl rfl, Or.inl rfl, Or.inl rfl, Or.inl rfl, trivial⟩ ?_
        exact yw_cV (As := [.int v2, .int v3]) (b := (200 + 3 * v1.toNatClampNeg)) (st := []) dX9_shelf_37 lX9_324 kiX6_stand kvX6_stand rfl rfl rfl (hW.2.2.2.2.2.2.1 _ (vp_lt kk1)).1 rfl (Nat.le_of_ble_eq_true rfl) rfl (xk_V k)
      · replace k := k.2 c
        refine xw_bipush (v := (-16)) dX9_shelf_26 (by decide) ?_
        exact yw_iret dX9_shelf_28 rfl k
    · replace k := k.2 c
      refine xw_iconst (v := (-1)) dX9_shelf_20 rfl ?_
      exact yw_iret dX9_shelf_21 rfl k
theorem bX9_shelf_40 {mc ms : Nat} {Q : Int32 → xHp → Prop} (hW : xLay sh R) 
    (k : Q (nI 1) (sh, I, R)) :
    Ex mX9_shelf 40 [xU, xU, xU, xU] [] (sh, I, R) mc ms (xqI Q) := by
  refine xw_iconst (v := nI 1) dX9_shelf_40 rfl ?_
  exact yw_iret dX9_shelf_41 rfl k
theorem eX9_shelf {v1 : Int32} {v2 : Int32} {v3 : Int32} {h : xHp} {Q : Int32 → xHp → Prop} (k : Ex mX9_shelf 0 [.ref 0, .int v1, .int v2, .int v3] [] h 0 0 (xqI Q)) : CI mX9_shelf [.ref 0, .int v1, .int v2, .int v3] h Q := k
theorem bX9_take_0 {v1 v2 v3 : Int32} {mc ms : Nat} {Q : Int32 → xHp → Prop} (hW : xLay sh R) 
    (k : CI mX9_isShelf [.int v1] (sh, I, R) (fun w h1 => Ex mX9_take 4 [.ref 0, .int v1, .int v2, .int v3, xU] (.int w :: []) h1 mc ms (xqI Q))) :
    Ex mX9_take 0 [.ref 0, .int v1, .int v2, .int v3, xU] [] (sh, I, R) mc ms (xqI Q) := by
  refine xw_iload_n dX9_take_0 rfl rfl ?_
  exact yw_cS (As := [.int v1]) (st := []) dX9_take_1 lX9_318 ksX9_isShelf rfl rfl rfl (Nat.le_of_ble_eq_true rfl) rfl (xk_I k)
theorem bX9_take_4 {v1 v2 v3 s0 : Int32} {mc ms : Nat} {Q : Int32 → xHp → Prop} (hW : xLay sh R) 
    (k : ((s0 = 0 → Q (-1) (sh, I, R)) ∧ (¬ s0 = 0 → CI mX9_isLane [.int v2] (sh, I, R) (fun w h1 => Ex mX9_take 11 [.ref 0, .int v1, .int v2, .int v3, xU] (.int w :: []) h1 mc ms (xqI Q))))) :
    Ex mX9_take 4 [.ref 0, .int v1, .int v2, .int v3, xU] [.int s0] (sh, I, R) mc ms (xqI Q) := by
  refine xw_ifeq (tgt := 14) dX9_take_4 (by decide) (fun c => ?_) (fun c => ?_)
  · replace k := k.1 c
    refine xw_iconst (v := (-1)) dX9_take_14 rfl ?_
    exact yw_iret dX9_take_15 rfl k
  · replace k := k.2 c
    refine xw_iload_n dX9_take_7 rfl rfl ?_
    exact yw_cS (As := [.int v2]) (st := []) dX9_take_8 lX9_321 ksX9_isLane rfl rfl rfl (Nat.le_of_ble_eq_true rfl) rfl (xk_I k)
theorem bX9_take_11 {v1 v2 v3 s0 : Int32} {mc ms : Nat} {Q : Int32 → xHp → Prop} (hW : xLay sh R) 
    (k : ((¬ s0 = 0 → vp_in v1 3 ∧ CI mX6_faultOfTaking [.ref (200 + 3 * v1.toNatClampNeg), .int v2, .int v3] (sh, I, R) (fun w h1 => Ex mX9_take 27 [.ref 0, .int v1, xU, .int v3, xU] (.int w :: []) h1 mc ms (xqI Q))) ∧ (s0 = 0 → Q (-1) (sh, I, R)))) :
    Ex mX9_take 11 [.ref 0, .int v1, .int v2, .int v3, xU] [.int s0] (sh, I, R) mc ms (xqI Q) := by
  refine xw_ifne (tgt := 16) dX9_take_11 (by decide) (fun c => ?_) (fun c => ?_)
  · replace k := k.1 c
    refine xw_aload_n dX9_take_16 rfl rfl ?_
    refine yw_getR (r := 22) dX9_take_17 fX9_42 rfl (la_0 hW) (lr_0_5 hW) ?_
    refine xw_iload_n dX9_take_20 rfl rfl ?_
    obtain ⟨kk1, k⟩ := k
    refine yw_aaload (r := (200 + 3 * v1.toNatClampNeg)) dX9_take_21 (la_22 hW) (by decide) kk1 (la_shf hW (vp_lt kk1)) ?_
    refine xw_iload_n dX9_take_22 rfl rfl ?_
    refine xw_iload_n dX9_take_23 rfl rfl ?_
    refine yw_sub (lv' := [.ref 0, .int v1, xU, .int v3, xU]) ⟨Or.inr rfl, Or.inr rfl, Or.inl rfl, Or.inr rfl, Or.inl rfl, trivial⟩ ?_
    exact yw_cV (As := [.int v2, .int v3]) (b := (200 + 3 * v1.toNatClampNeg)) (st := []) dX9_take_24 lX9_333 kiX6_faultOfTaking kvX6_faultOfTaking rfl rfl rfl (hW.2.2.2.2.2.2.1 _ (vp_lt kk1)).1 rfl (Nat.le_of_ble_eq_true rfl) rfl (xk_I k)
  · replace k := k.2 c
    refine xw_iconst (v := (-1)) dX9_take_14 rfl ?_
    exact yw_iret dX9_take_15 rfl k
theorem bX9_take_27 {v1 v3 s0 : Int32} {mc ms : Nat} {Q : Int32 → xHp → Prop} (hW : xLay sh R) 
    (k : ((s0 = 0 → vp_in v1 3 ∧ vp_in v3 8 ∧ ((R ((200 + 3 * v1.toNatClampNeg) + 1) v3.toNatClampNeg = none → CV mX3_copy [.ref 12, .null] (sh, I, R) (fun h1 => Ex mX9_take 61 [.ref 0, xU, xU, xU, xU] [] h1 mc ms (xqI Q))) ∧ (∀ r2, R ((200 + 3 * v1.toNatClampNeg) + 1) v3.toNatClampNeg = some r2 → xMach sh R r2 4 ∧ CV mX3_copy [.ref 12, .ref r2] (sh, I, R) (fun h1 => Ex mX9_take 61 [.ref 0, xU, xU, xU, xU] [] h1 mc ms (xqI Q))))) ∧ (¬ s0 = 0 → Q ((-10) - s0) (sh, I, R)))) :
    Ex mX9_take 27 [.ref 0, .int v1, xU, .int v3, xU] [.int s0] (sh, I, R) mc ms (xqI Q) := by
  refine yw_istore (lv' := [.ref 0, .int v1, xU, .int v3, .int s0]) dX9_take_27 rfl rfl rfl ?_
  refine xw_iload dX9_take_29 rfl ?_
  refine xw_ifeq (tgt := 40) dX9_take_31 (by decide) (fun c => ?_) (fun c => ?_)
  · replace k := k.1 c
    refine xw_aload_n dX9_take_40 rfl rfl ?_
    refine yw_getR (r := 9) dX9_take_41 fX9_28 rfl (la_0 hW) (lr_0_2 hW) ?_
    refine yw_getR (r := 12) dX9_take_44 fX9_110 rfl hW.2.2.1.1 hW.2.2.1.2.2.2.2.2.2.1 ?_
    refine xw_aload_n dX9_take_47 rfl rfl ?_
    refine yw_getR (r := 22) dX9_take_48 fX9_42 rfl (la_0 hW) (lr_0_5 hW) ?_
    refine xw_iload_n dX9_take_51 rfl rfl ?_
    obtain ⟨kk1, k⟩ := k
    refine yw_aaload (r := (200 + 3 * v1.toNatClampNeg)) dX9_take_52 (la_22 hW) (by decide) kk1 (la_shf hW (vp_lt kk1)) ?_
    refine yw_getR (r := ((200 + 3 * v1.toNatClampNeg) + 1)) dX9_take_53 fX9_336 rfl (hW.2.2.2.2.2.2.1 _ (vp_lt kk1)).1 (hW.2.2.2.2.2.2.1 _ (vp_lt kk1)).2.2.2.2.1 ?_
    refine xw_iload_n dX9_take_56 rfl rfl ?_
    obtain ⟨k0, k⟩ := k
    cases e0 : R ((200 + 3 * v1.toNatClampNeg) + 1) v3.toNatClampNeg with
    | none =>
      replace k := k.1 e0
      refine yw_aaloadN dX9_take_57 (hW.2.2.2.2.2.2.1 _ (vp_lt kk1)).2.1 (by decide) k0 e0 ?_
      refine yw_sub (lv' := [.ref 0, xU, xU, xU, xU]) ⟨Or.inr rfl, Or.inl rfl, Or.inl rfl, Or.inl rfl, Or.inl rfl, trivial⟩ ?_
      exact yw_cV (As := [.null]) (b := 12) (st := []) dX9_take_58 lX9_294 kiX3_copy kvX3_copy rfl rfl rfl hW.2.2.1.2.2.2.2.2.2.2.2.1.1 rfl (Nat.le_of_ble_eq_true rfl) rfl (xk_V k)
    | some r2 =>
      obtain ⟨hr2, k⟩ := k.2 r2 e0
      refine yw_aaload (r := r2) dX9_take_57 (hW.2.2.2.2.2.2.1 _ (vp_lt kk1)).2.1 (by decide) k0 e0 ?_
      refine yw_sub (lv' := [.ref 0, xU, xU, xU, xU]) ⟨Or.inr rfl, Or.inl rfl, Or.inl rfl, Or.inl rfl, Or.inl rfl, trivial⟩ ?_
      exact yw_cV (As := [.ref r2]) (b := 12) (st := []) dX9_take_58 lX9_294 kiX3_copy kvX3_copy rfl rfl rfl hW.2.2.1.2.2.2.2.2.2.2.2.1.1 rfl (Nat.le_of_ble_eq_true rfl) rfl (xk_V k)
  · replace k := k.2 c
    refine xw_bipush (v := (-10)) dX9_take_34 (by decide) ?_
    refine xw_iload dX9_take_36 rfl ?_
    refine xw_isub dX9_take_38 ?_
    exact yw_iret dX9_take_39 rfl k
theorem bX9_take_61 {mc ms : Nat} {Q : Int32 → xHp → Prop} (hW : xLay sh R) 
    (k : CV mX9_changed [.ref 0] (sh, I, R) (fun h1 => Ex mX9_take 65 [.ref 0, xU, xU, xU, xU] [] h1 mc ms (xqI Q))) :
    Ex mX9_take 61 [.ref 0, xU, xU, xU, xU] [] (sh, I, R) mc ms (xqI Q) := by
  refine xw_aload_n dX9_take_61 rfl rfl ?_
  exact yw_cV (As := []) (b := 0) (st := []) dX9_take_62 lX9_117 kiX9_changed kvX9_changed rfl rfl rfl (la_0 hW) rfl (Nat.le_of_ble_eq_true rfl) rfl (xk_V k)
theorem bX9_take_65 {mc ms : Nat} {Q : Int32 → xHp → Prop} (hW : xLay sh R) 
    (k : Q (I 12 2) (sh, I, R)) :
    Ex mX9_take 65 [.ref 0, xU, xU, xU, xU] [] (sh, I, R) mc ms (xqI Q) := by
  refine xw_aload_n dX9_take_65 rfl rfl ?_
  refine yw_getR (r := 9) dX9_take_66 fX9_28 rfl (la_0 hW) (lr_0_2 hW) ?_
  refine yw_getR (r := 12) dX9_take_69 fX9_110 rfl hW.2.2.1.1 hW.2.2.1.2.2.2.2.2.2.1 ?_
  refine yw_getI (v := I 12 2) dX9_take_72 fX9_131 rfl hW.2.2.1.2.2.2.2.2.2.2.2.1.1 rfl ?_
  exact yw_iret dX9_take_75 rfl k
theorem eX9_take {v1 : Int32} {v2 : Int32} {v3 : Int32} {h : xHp} {Q : Int32 → xHp → Prop} (k : Ex mX9_take 0 [.ref 0, .int v1, .int v2, .int v3, xU] [] h 0 0 (xqI Q)) : CI mX9_take [.ref 0, .int v1, .int v2, .int v3] h Q := k
theorem bX9_kind_0 {v1 v2 : Int32} {mc ms : Nat} {Q : Int32 → xHp → Prop} (hW : xLay sh R) 
    (k : CI mX9_isShelf [.int v1] (sh, I, R) (fun w h1 => Ex mX9_kind 4 [.ref 0, .int v1, .int v2, xU] (.int w :: []) h1 mc ms (xqI Q))) :
    Ex mX9_kind 0 [.ref 0, .int v1, .int v2, xU] [] (sh, I, R) mc ms (xqI Q) := by
  refine xw_iload_n dX9_kind_0 rfl rfl ?_
  exact yw_cS (As := [.int v1]) (st := []) dX9_kind_1 lX9_318 ksX9_isShelf rfl rfl rfl (Nat.le_of_ble_eq_true rfl) rfl (xk_I k)
theorem bX9_kind_4 {v1 v2 s0 : Int32} {mc ms : Nat} {Q : Int32 → xHp → Prop} (hW : xLay sh R) 
    (k : ((¬ s0 = 0 → vp_in v1 3 ∧ CI mX6_faultOfTaking [.ref (200 + 3 * v1.toNatClampNeg), .int (nI 2), .int v2] (sh, I, R) (fun w h1 => Ex mX9_kind 20 [.ref 0, .int v1, .int v2, xU] (.int w :: []) h1 mc ms (xqI Q))) ∧ (s0 = 0 → Q (-1) (sh, I, R)))) :
    Ex mX9_kind 4 [.ref 0, .int v1, .int v2, xU] [.int s0] (sh, I, R) mc ms (xqI Q) := by
  refine xw_ifne (tgt := 9) dX9_kind_4 (by decide) (fun c => ?_) (fun c => ?_)
  · replace k := k.1 c
    refine xw_aload_n dX9_kind_9 rfl rfl ?_
    refine yw_getR (r := 22) dX9_kind_10 fX9_42 rfl (la_0 hW) (lr_0_5 hW) ?_
    refine xw_iload_n dX9_kind_13 rfl rfl ?_
    obtain ⟨kk1, k⟩ := k
    refine yw_aaload (r := (200 + 3 * v1.toNatClampNeg)) dX9_kind_14 (la_22 hW) (by decide) kk1 (la_shf hW (vp_lt kk1)) ?_
    refine xw_iconst (v := nI 2) dX9_kind_15 rfl ?_
    refine xw_iload_n dX9_kind_16 rfl rfl ?_
    exact yw_cV (As := [.int (nI 2), .int v2]) (b := (200 + 3 * v1.toNatClampNeg)) (st := []) dX9_kind_17 lX9_333 kiX6_faultOfTaking kvX6_faultOfTaking rfl rfl rfl (hW.2.2.2.2.2.2.1 _ (vp_lt kk1)).1 rfl (Nat.le_of_ble_eq_true rfl) rfl (xk_I k)
  · replace k := k.2 c
    refine xw_iconst (v := (-1)) dX9_kind_7 rfl ?_
    exact yw_iret dX9_kind_8 rfl k
theorem bX9_kind_20 {v1 v2 s0 : Int32} {mc ms : Nat} {Q : Int32 → xHp → Prop} (hW : xLay sh R) 
    (k : ((s0 = 0 → vp_in v1 3 ∧ vp_in v2 8 ∧ Q (I ((200 + 3 * v1.toNatClampNeg) + 2) v2.toNatClampNeg) (sh, I, R)) ∧ (¬ s0 = 0 → Q ((-10) - s0) (sh, I, R)))) :
    Ex mX9_kind 20 [.ref 0, .int v1, .int v2, xU] [.int s0] (sh, I, R) mc ms (xqI Q) := by
  refine yw_istore_n (lv' := [.ref 0, .int v1, .int v2, .int s0]) dX9_kind_20 rfl rfl rfl rfl ?_
  refine xw_iload_n dX9_kind_21 rfl rfl ?_
  refine xw_ifeq (tgt := 32) dX9_kind_22 (by decide) (fun c => ?_) (fun c => ?_)
  · replace k := k.1 c
    refine xw_aload_n dX9_kind_32 rfl rfl ?_
    refine yw_getR (r := 22) dX9_kind_33 fX9_42 rfl (la_0 hW) (lr_0_5 hW) ?_
    refine xw_iload_n dX9_kind_36 rfl rfl ?_
    obtain ⟨kk1, k⟩ := k
    refine yw_aaload (r := (200 + 3 * v1.toNatClampNeg)) dX9_kind_37 (la_22 hW) (by decide) kk1 (la_shf hW (vp_lt kk1)) ?_
    refine yw_getR (r := ((200 + 3 * v1.toNatClampNeg) + 2)) dX9_kind_38 fX9_340 rfl (hW.2.2.2.2.2.2.1 _ (vp_lt kk1)).1 (hW.2.2.2.2.2.2.1 _ (vp_lt kk1)).2.2.2.2.2 ?_
    refine xw_iload_n dX9_kind_41 rfl rfl ?_
    obtain ⟨k0, k⟩ := k
    refine yw_iaload (v := I ((200 + 3 * v1.toNatClampNeg) + 2) v2.toNatClampNeg) dX9_kind_42 (hW.2.2.2.2.2.2.1 _ (vp_lt kk1)).2.2.1 k0 rfl ?_
    exact yw_iret dX9_kind_43 rfl k
  · replace k := k.2 c
    refine xw_bipush (v := (-10)) dX9_kind_25 (by decide) ?_
    refine xw_iload_n dX9_kind_27 rfl rfl ?_
    refine xw_isub dX9_kind_28 ?_
    refine xw_goto (tgt := 43) dX9_kind_29 (by decide) ?_
    exact yw_iret dX9_kind_43 rfl k
theorem eX9_kind {v1 : Int32} {v2 : Int32} {h : xHp} {Q : Int32 → xHp → Prop} (k : Ex mX9_kind 0 [.ref 0, .int v1, .int v2, xU] [] h 0 0 (xqI Q)) : CI mX9_kind [.ref 0, .int v1, .int v2] h Q := k
end BLKC
