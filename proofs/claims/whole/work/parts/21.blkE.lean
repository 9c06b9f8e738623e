section BLKE
variable {sh : List xSh} {I : Nat → Nat → Int32} {R : Nat → Nat → Option Nat}
theorem bX10_letter_0 {v1 : Int32} {mc ms : Nat} {Q : Int32 → xHp → Prop} (hW : xLay sh R) 
    (k : CI mX10_isLetter [.ref 209, .int v1] (sh, I, R) (fun w h1 => Ex mX10_letter 5 [.ref 209, .int v1] (.int w :: []) h1 mc ms (xqI Q))) :
    Ex mX10_letter 0 [.ref 209, .int v1] [] (sh, I, R) mc ms (xqI Q) := by
  refine xw_aload_n dX10_letter_0 rfl rfl ?_
  refine xw_iload_n dX10_letter_1 rfl rfl ?_
  exact yw_cV (As := [.int v1]) (b := 209) (st := []) dX10_letter_2 lX10_294 kiX10_isLetter kvX10_isLetter rfl rfl rfl (la_209 hW) rfl (Nat.le_of_ble_eq_true rfl) rfl (xk_I k)
theorem bX10_letter_5 {v1 s0 : Int32} {mc ms : Nat} {Q : Int32 → xHp → Prop} (hW : xLay sh R) 
    (k : ((¬ s0 = 0 → ((¬ (I 209 32) = (nI 12) → vp_in (I 209 32) 12 ∧ Q ((I 209 32) + (nI 1)) (sh, (xi (xi I 223 ((I 209 32).toNatClampNeg) v1) 209 32 ((I 209 32) + (nI 1))), R)) ∧ ((I 209 32) = (nI 12) → Q (-3) (sh, I, R)))) ∧ (s0 = 0 → Q (-1) (sh, I, R)))) :
    Ex mX10_letter 5 [.ref 209, .int v1] [.int s0] (sh, I, R) mc ms (xqI Q) := by
  refine xw_ifne (tgt := 10) dX10_letter_5 (by decide) (fun c => ?_) (fun c => ?_)
  · replace k := k.1 c
    refine xw_aload_n dX10_letter_10 rfl rfl ?_
    refine yw_getI (v := I 209 32) dX10_letter_11 fX10_267 rfl (la_209 hW) rfl ?_
    refine xw_bipush (v := nI 12) dX10_letter_14 (by decide) ?_
    refine xw_icne (tgt := 22) dX10_letter_16 (by decide) (fun c => ?_) (fun c => ?_)
    · replace k := k.1 c
      refine xw_aload_n dX10_letter_22 rfl rfl ?_
      refine yw_getR (r := 223) dX10_letter_23 fX10_57 rfl (la_209 hW) (lr_209_31 hW) ?_
      refine xw_aload_n dX10_letter_26 rfl rfl ?_
      refine yw_getI (v := I 209 32) dX10_letter_27 fX10_267 rfl (la_209 hW) rfl ?_
      refine xw_iload_n dX10_letter_30 rfl rfl ?_
      obtain ⟨k0, k⟩ := k
      refine yw_iastore dX10_letter_31 (la_223 hW) k0 ?_
      refine xw_aload_n dX10_letter_32 rfl rfl ?_
      refine xw_dup dX10_letter_33 rfl ?_
      refine yw_getI (v := I 209 32) dX10_letter_34 fX10_267 rfl (la_209 hW) (xi_p (a := 209) (q := 223) (by decide)) ?_
      refine xw_iconst (v := nI 1) dX10_letter_37 rfl ?_
      refine xw_iadd dX10_letter_38 ?_
      refine yw_putI dX10_letter_39 fX10_267 (fun r h => by cases h; exact Or.inl rfl) rfl (la_209 hW) ?_
      refine xw_aload_n dX10_letter_42 rfl rfl ?_
      refine yw_getI (v := (I 209 32) + (nI 1)) dX10_letter_43 fX10_267 rfl (la_209 hW) (xi_e) ?_
      exact yw_iret dX10_letter_46 rfl k
    · replace k := k.2 c
      refine xw_bipush (v := (-3)) dX10_letter_19 (by decide) ?_
      exact yw_iret dX10_letter_21 rfl k
  · replace k := k.2 c
    refine xw_iconst (v := (-1)) dX10_letter_8 rfl ?_
    exact yw_iret dX10_letter_9 rfl k
theorem eX10_letter {v1 : Int32} {h : xHp} {Q : Int32 → xHp → Prop} (k : Ex mX10_letter 0 [.ref 209, .int v1] [] h 0 0 (xqI Q)) : CI mX10_letter [.ref 209, .int v1] h Q := k
theorem bX10_wipe_0 {mc ms : Nat} {Q : Int32 → xHp → Prop} (hW : xLay sh R) 
    (k : Q (I 209 32) (sh, (xi I 209 32 (nI 0)), R)) :
    Ex mX10_wipe 0 [.ref 209, xU] [] (sh, I, R) mc ms (xqI Q) := by
  refine xw_aload_n dX10_wipe_0 rfl rfl ?_
  refine yw_getI (v := I 209 32) dX10_wipe_1 fX10_267 rfl (la_209 hW) rfl ?_
  refine yw_istore_n (lv' := [.ref 209, .int (I 209 32)]) dX10_wipe_4 rfl rfl rfl rfl ?_
  refine xw_aload_n dX10_wipe_5 rfl rfl ?_
  refine xw_iconst (v := nI 0) dX10_wipe_6 rfl ?_
  refine yw_putI dX10_wipe_7 fX10_267 (fun r h => by cases h; exact Or.inl rfl) rfl (la_209 hW) ?_
  refine xw_iload_n dX10_wipe_10 rfl rfl ?_
  exact yw_iret dX10_wipe_11 rfl k
theorem eX10_wipe {h : xHp} {Q : Int32 → xHp → Prop} (k : Ex mX10_wipe 0 [.ref 209, xU] [] h 0 0 (xqI Q)) : CI mX10_wipe [.ref 209] h Q := k
theorem bX10_value_0 {v1 : Int32} {mc ms : Nat} {Q : Int32 → xHp → Prop} (hW : xLay sh R) 
    (k : CI mX10_wrong [.ref 209, .int v1] (sh, I, R) (fun w h1 => Ex mX10_value 5 [.ref 209, .int v1, xU, xU] (.int w :: []) h1 mc ms (xqI Q))) :
    Ex mX10_value 0 [.ref 209, .int v1, xU, xU] [] (sh, I, R) mc ms (xqI Q) := by
  refine xw_aload_n dX10_value_0 rfl rfl ?_
  refine xw_iload_n dX10_value_1 rfl rfl ?_
  exact yw_cV (As := [.int v1]) (b := 209) (st := []) dX10_value_2 lX10_288 kiX10_wrong kvX10_wrong rfl rfl rfl (la_209 hW) rfl (Nat.le_of_ble_eq_true rfl) rfl (xk_I k)
theorem bX10_value_5 {v1 s0 : Int32} {mc ms : Nat} {Q : Int32 → xHp → Prop} (hW : xLay sh R) 
    (k : ((s0 = 0 → CV mX10_goes [.ref 209, .int v1, .int (nI 0)] (sh, I, R) (fun h1 => Ex mX10_value 18 [.ref 209, .int v1, xU, xU] [] h1 mc ms (xqI Q))) ∧ (¬ s0 = 0 → Q s0 (sh, I, R)))) :
    Ex mX10_value 5 [.ref 209, .int v1, xU, xU] [.int s0] (sh, I, R) mc ms (xqI Q) := by
  refine yw_istore_n (lv' := [.ref 209, .int v1, .int s0, xU]) dX10_value_5 rfl rfl rfl rfl ?_
  refine xw_iload_n dX10_value_6 rfl rfl ?_
  refine xw_ifeq (tgt := 12) dX10_value_7 (by decide) (fun c => ?_) (fun c => ?_)
  · replace k := k.1 c
    refine xw_aload_n dX10_value_12 rfl rfl ?_
    refine xw_iload_n dX10_value_13 rfl rfl ?_
    refine xw_iconst (v := nI 0) dX10_value_14 rfl ?_
    refine yw_sub (lv' := [.ref 209, .int v1, xU, xU]) ⟨Or.inr rfl, Or.inr rfl, Or.inl rfl, Or.inl rfl, trivial⟩ ?_
    exact yw_cV (As := [.int v1, .int (nI 0)]) (b := 209) (st := []) dX10_value_15 lX10_106 kiX10_goes kvX10_goes rfl rfl rfl (la_209 hW) rfl (Nat.le_of_ble_eq_true rfl) rfl (xk_V k)
  · replace k := k.2 c
    refine xw_iload_n dX10_value_10 rfl rfl ?_
    exact yw_iret dX10_value_11 rfl k
theorem bX10_value_18 {v1 : Int32} {mc ms : Nat} {Q : Int32 → xHp → Prop} (hW : xLay sh R) 
    (k : Ex mX10_value 20 [.ref 209, .int v1, xU, .int (nI 0)] [] (sh, I, R) mc ms (xqI Q)) :
    Ex mX10_value 18 [.ref 209, .int v1, xU, xU] [] (sh, I, R) mc ms (xqI Q) := by
  refine xw_iconst (v := nI 0) dX10_value_18 rfl ?_
  refine yw_istore_n (lv' := [.ref 209, .int v1, xU, .int (nI 0)]) dX10_value_19 rfl rfl rfl rfl ?_
  exact k
theorem bX10_value_20 {v1 v3 : Int32} {mc ms : Nat} {Q : Int32 → xHp → Prop} (hW : xLay sh R) 
    (k : (((I 209 32) ≤ v3 → CI mX10_ended [.ref 209, .int v1] (sh, I, R) (fun w h1 => Ex mX10_value 50 [xU, xU, xU, xU] (.int w :: []) h1 mc ms (xqI Q))) ∧ (¬ (I 209 32) ≤ v3 → vp_in v3 12 ∧ CV mX10_steps [.ref 209, .int v1, .int (I 223 v3.toNatClampNeg)] (sh, I, R) (fun h1 => Ex mX10_value 39 [.ref 209, .int v1, xU, .int v3] [] h1 mc ms (xqI Q))))) :
    Ex mX10_value 20 [.ref 209, .int v1, xU, .int v3] [] (sh, I, R) mc ms (xqI Q) := by
  refine xw_iload_n dX10_value_20 rfl rfl ?_
  refine xw_aload_n dX10_value_21 rfl rfl ?_
  refine yw_getI (v := I 209 32) dX10_value_22 fX10_267 rfl (la_209 hW) rfl ?_
  refine xw_icge (tgt := 45) dX10_value_25 (by decide) (fun c => ?_) (fun c => ?_)
  · replace k := k.1 c
    refine xw_aload_n dX10_value_45 rfl rfl ?_
    refine xw_iload_n dX10_value_46 rfl rfl ?_
    refine yw_sub (lv' := [xU, xU, xU, xU]) ⟨Or.inl rfl, Or.inl rfl, Or.inl rfl, Or.inl rfl, trivial⟩ ?_
    exact yw_cV (As := [.int v1]) (b := 209) (st := []) dX10_value_47 lX10_109 kiX10_ended kvX10_ended rfl rfl rfl (la_209 hW) rfl (Nat.le_of_ble_eq_true rfl) rfl (xk_I k)
  · replace k := k.2 c
    refine xw_aload_n dX10_value_28 rfl rfl ?_
    refine xw_iload_n dX10_value_29 rfl rfl ?_
    refine xw_aload_n dX10_value_30 rfl rfl ?_
    refine yw_getR (r := 223) dX10_value_31 fX10_57 rfl (la_209 hW) (lr_209_31 hW) ?_
    refine xw_iload_n dX10_value_34 rfl rfl ?_
    obtain ⟨k0, k⟩ := k
    refine yw_iaload (v := I 223 v3.toNatClampNeg) dX10_value_35 (la_223 hW) k0 rfl ?_
    exact yw_cV (As := [.int v1, .int (I 223 v3.toNatClampNeg)]) (b := 209) (st := []) dX10_value_36 lX10_102 kiX10_steps kvX10_steps rfl rfl rfl (la_209 hW) rfl (Nat.le_of_ble_eq_true rfl) rfl (xk_V k)
theorem bX10_value_50 {s0 : Int32} {mc ms : Nat} {Q : Int32 → xHp → Prop} (hW : xLay sh R) 
    (k : Q s0 (sh, I, R)) :
    Ex mX10_value 50 [xU, xU, xU, xU] [.int s0] (sh, I, R) mc ms (xqI Q) := by
  exact yw_iret dX10_value_50 rfl k
theorem bX10_value_39 {v1 v3 : Int32} {mc ms : Nat} {Q : Int32 → xHp → Prop} (hW : xLay sh R) 
    (k : Ex mX10_value 20 [.ref 209, .int v1, xU, .int (v3 + nI 1)] [] (sh, I, R) mc ms (xqI Q)) :
    Ex mX10_value 39 [.ref 209, .int v1, xU, .int v3] [] (sh, I, R) mc ms (xqI Q) := by
  refine yw_iinc (lv' := [.ref 209, .int v1, xU, .int (v3 + nI 1)]) (v := nI 1) dX10_value_39 rfl rfl rfl rfl rfl ?_
  refine xw_goto (tgt := 20) dX10_value_42 (by decide) ?_
  exact k
theorem eX10_value {v1 : Int32} {h : xHp} {Q : Int32 → xHp → Prop} (k : Ex mX10_value 0 [.ref 209, .int v1, xU, xU] [] h 0 0 (xqI Q)) : CI mX10_value [.ref 209, .int v1] h Q := k
theorem bX10_stepsBack_0 {v1 v2 : Int32} {mc ms : Nat} {Q : xHp → Prop} (hW : xLay sh R) 
    (k : CI mX10_many [.ref 209, .int v1] (sh, I, R) (fun w h1 => Ex mX10_stepsBack 5 [.ref 209, .int v1, .int v2, xU, xU, xU, xU] (.int w :: []) h1 mc ms (xqV Q))) :
    Ex mX10_stepsBack 0 [.ref 209, .int v1, .int v2, xU, xU, xU, xU] [] (sh, I, R) mc ms (xqV Q) := by
  refine xw_aload_n dX10_stepsBack_0 rfl rfl ?_
  refine xw_iload_n dX10_stepsBack_1 rfl rfl ?_
  exact yw_cV (As := [.int v1]) (b := 209) (st := []) dX10_stepsBack_2 lX10_95 kiX10_many kvX10_many rfl rfl rfl (la_209 hW) rfl (Nat.le_of_ble_eq_true rfl) rfl (xk_I k)
theorem bX10_stepsBack_5 {v1 v2 s0 : Int32} {mc ms : Nat} {Q : xHp → Prop} (hW : xLay sh R) 
    (k : Ex mX10_stepsBack 9 [.ref 209, .int v1, .int v2, .int s0, .int (nI 0), xU, xU] [] (sh, I, R) mc ms (xqV Q)) :
    Ex mX10_stepsBack 5 [.ref 209, .int v1, .int v2, xU, xU, xU, xU] [.int s0] (sh, I, R) mc ms (xqV Q) := by
  refine yw_istore_n (lv' := [.ref 209, .int v1, .int v2, .int s0, xU, xU, xU]) dX10_stepsBack_5 rfl rfl rfl rfl ?_
  refine xw_iconst (v := nI 0) dX10_stepsBack_6 rfl ?_
  refine yw_istore (lv' := [.ref 209, .int v1, .int v2, .int s0, .int (nI 0), xU, xU]) dX10_stepsBack_7 rfl rfl rfl ?_
  exact k
theorem bX10_stepsBack_9 {v1 v2 v3 v4 : Int32} {mc ms : Nat} {Q : xHp → Prop} (hW : xLay sh R) 
    (k : ((v3 ≤ v4 → Ex mX10_stepsBack 79 [.ref 209, xU, xU, .int v3, .int (nI 0), xU, xU] [] (sh, I, R) mc ms (xqV Q)) ∧ (¬ v3 ≤ v4 → Ex mX10_stepsBack 21 [.ref 209, .int v1, .int v2, .int v3, .int v4, .int (nI 0), .int (nI 0)] [] (sh, I, R) mc ms (xqV Q)))) :
    Ex mX10_stepsBack 9 [.ref 209, .int v1, .int v2, .int v3, .int v4, xU, xU] [] (sh, I, R) mc ms (xqV Q) := by
  refine xw_iload dX10_stepsBack_9 rfl ?_
  refine xw_iload_n dX10_stepsBack_11 rfl rfl ?_
  refine xw_icge (tgt := 76) dX10_stepsBack_12 (by decide) (fun c => ?_) (fun c => ?_)
  · replace k := k.1 c
    refine xw_iconst (v := nI 0) dX10_stepsBack_76 rfl ?_
    refine yw_istore (lv' := [.ref 209, .int v1, .int v2, .int v3, .int (nI 0), xU, xU]) dX10_stepsBack_77 rfl rfl rfl ?_
    exact yw_sub (lv' := [.ref 209, xU, xU, .int v3, .int (nI 0), xU, xU]) ⟨Or.inr rfl, Or.inl rfl, Or.inl rfl, Or.inr rfl, Or.inr rfl, Or.inl rfl, Or.inl rfl, trivial⟩ k
  · replace k := k.2 c
    refine xw_iconst (v := nI 0) dX10_stepsBack_15 rfl ?_
    refine yw_istore (lv' := [.ref 209, .int v1, .int v2, .int v3, .int v4, .int (nI 0), xU]) dX10_stepsBack_16 rfl rfl rfl ?_
    refine xw_iconst (v := nI 0) dX10_stepsBack_18 rfl ?_
    refine yw_istore (lv' := [.ref 209, .int v1, .int v2, .int v3, .int v4, .int (nI 0), .int (nI 0)]) dX10_stepsBack_19 rfl rfl rfl ?_
    exact k
theorem bX10_stepsBack_79 {v3 v4 : Int32} {mc ms : Nat} {Q : xHp → Prop} (hW : xLay sh R) 
    (k : ((v3 ≤ v4 → Q (sh, I, R)) ∧ (¬ v3 ≤ v4 → vp_in v4 4 ∧ vp_in v4 4 ∧ Ex mX10_stepsBack 79 [.ref 209, xU, xU, .int v3, .int (v4 + nI 1), xU, xU] [] (sh, (xi I 211 v4.toNatClampNeg (I 212 v4.toNatClampNeg)), R) mc ms (xqV Q)))) :
    Ex mX10_stepsBack 79 [.ref 209, xU, xU, .int v3, .int v4, xU, xU] [] (sh, I, R) mc ms (xqV Q) := by
  refine xw_iload dX10_stepsBack_79 rfl ?_
  refine xw_iload_n dX10_stepsBack_81 rfl rfl ?_
  refine xw_icge (tgt := 105) dX10_stepsBack_82 (by decide) (fun c => ?_) (fun c => ?_)
  · replace k := k.1 c
    exact yw_vret dX10_stepsBack_105 rfl k
  · replace k := k.2 c
    refine xw_aload_n dX10_stepsBack_85 rfl rfl ?_
    refine yw_getR (r := 211) dX10_stepsBack_86 fX10_20 rfl (la_209 hW) (lr_209_4 hW) ?_
    refine xw_iload dX10_stepsBack_89 rfl ?_
    refine xw_aload_n dX10_stepsBack_91 rfl rfl ?_
    refine yw_getR (r := 212) dX10_stepsBack_92 fX10_23 rfl (la_209 hW) (lr_209_5 hW) ?_
    refine xw_iload dX10_stepsBack_95 rfl ?_
    obtain ⟨k0, k⟩ := k
    refine yw_iaload (v := I 212 v4.toNatClampNeg) dX10_stepsBack_97 (la_212 hW) k0 rfl ?_
    obtain ⟨k0, k⟩ := k
    refine yw_iastore dX10_stepsBack_98 (la_211 hW) k0 ?_
    refine yw_iinc (lv' := [.ref 209, xU, xU, .int v3, .int (v4 + nI 1), xU, xU]) (v := nI 1) dX10_stepsBack_99 rfl rfl rfl rfl rfl ?_
    refine xw_goto (tgt := 79) dX10_stepsBack_102 (by decide) ?_
    exact k
theorem bX10_stepsBack_21 {v1 v2 v3 v4 v5 v6 : Int32} {mc ms : Nat} {Q : xHp → Prop} (hW : xLay sh R) 
    (k : ((v3 ≤ v6 → ¬ I 209 1 = 0 ∧ vp_in v4 4 ∧ Ex mX10_stepsBack 9 [.ref 209, .int v1, .int v2, .int v3, .int (v4 + nI 1), xU, xU] [] (sh, (xi I 212 v4.toNatClampNeg (xrem v5 (I 209 1))), R) mc ms (xqV Q)) ∧ (¬ v3 ≤ v6 → CI mX10_weight [.ref 209, .int v1, .int v4, .int v2, .int v6] (sh, I, R) (fun w h1 => Ex mX10_stepsBack 39 [.ref 209, .int v1, .int v2, .int v3, .int v4, xU, .int v6] (.int w :: [.int v5]) h1 mc ms (xqV Q))))) :
    Ex mX10_stepsBack 21 [.ref 209, .int v1, .int v2, .int v3, .int v4, .int v5, .int v6] [] (sh, I, R) mc ms (xqV Q) := by
  refine xw_iload dX10_stepsBack_21 rfl ?_
  refine xw_iload_n dX10_stepsBack_23 rfl rfl ?_
  refine xw_icge (tgt := 56) dX10_stepsBack_24 (by decide) (fun c => ?_) (fun c => ?_)
  · replace k := k.1 c
    refine xw_aload_n dX10_stepsBack_56 rfl rfl ?_
    refine yw_getR (r := 212) dX10_stepsBack_57 fX10_23 rfl (la_209 hW) (lr_209_5 hW) ?_
    refine xw_iload dX10_stepsBack_60 rfl ?_
    refine xw_iload dX10_stepsBack_62 rfl ?_
    refine xw_aload_n dX10_stepsBack_64 rfl rfl ?_
    refine yw_getI (v := I 209 1) dX10_stepsBack_65 fX10_13 rfl (la_209 hW) rfl ?_
    obtain ⟨k0, k⟩ := k
    refine yw_irem dX10_stepsBack_68 k0 ?_
    obtain ⟨k0, k⟩ := k
    refine yw_iastore dX10_stepsBack_69 (la_212 hW) k0 ?_
    refine yw_iinc (lv' := [.ref 209, .int v1, .int v2, .int v3, .int (v4 + nI 1), .int v5, .int v6]) (v := nI 1) dX10_stepsBack_70 rfl rfl rfl rfl rfl ?_
    refine xw_goto (tgt := 9) dX10_stepsBack_73 (by decide) ?_
    exact yw_sub (lv' := [.ref 209, .int v1, .int v2, .int v3, .int (v4 + nI 1), xU, xU]) ⟨Or.inr rfl, Or.inr rfl, Or.inr rfl, Or.inr rfl, Or.inr rfl, Or.inl rfl, Or.inl rfl, trivial⟩ k
  · replace k := k.2 c
    refine xw_iload dX10_stepsBack_27 rfl ?_
    refine xw_aload_n dX10_stepsBack_29 rfl rfl ?_
    refine xw_iload_n dX10_stepsBack_30 rfl rfl ?_
    refine xw_iload dX10_stepsBack_31 rfl ?_
    refine xw_iload_n dX10_stepsBack_33 rfl rfl ?_
    refine xw_iload dX10_stepsBack_34 rfl ?_
    refine yw_sub (lv' := [.ref 209, .int v1, .int v2, .int v3, .int v4, xU, .int v6]) ⟨Or.inr rfl, Or.inr rfl, Or.inr rfl, Or.inr rfl, Or.inr rfl, Or.inl rfl, Or.inr rfl, trivial⟩ ?_
    exact yw_cV (As := [.int v1, .int v4, .int v2, .int v6]) (b := 209) (st := [.int v5]) dX10_stepsBack_36 lX10_98 kiX10_weight kvX10_weight rfl rfl rfl (la_209 hW) rfl (Nat.le_of_ble_eq_true rfl) rfl (xk_I k)
theorem bX10_stepsBack_39 {v1 v2 v3 v4 v6 s1 s0 : Int32} {mc ms : Nat} {Q : xHp → Prop} (hW : xLay sh R) 
    (k : vp_in v6 4 ∧ Ex mX10_stepsBack 21 [.ref 209, .int v1, .int v2, .int v3, .int v4, .int (s0 + (s1 * (I 211 v6.toNatClampNeg))), .int (v6 + nI 1)] [] (sh, I, R) mc ms (xqV Q)) :
    Ex mX10_stepsBack 39 [.ref 209, .int v1, .int v2, .int v3, .int v4, xU, .int v6] [.int s1, .int s0] (sh, I, R) mc ms (xqV Q) := by
  refine xw_aload_n dX10_stepsBack_39 rfl rfl ?_
  refine yw_getR (r := 211) dX10_stepsBack_40 fX10_20 rfl (la_209 hW) (lr_209_4 hW) ?_
  refine xw_iload dX10_stepsBack_43 rfl ?_
  obtain ⟨k0, k⟩ := k
  refine yw_iaload (v := I 211 v6.toNatClampNeg) dX10_stepsBack_45 (la_211 hW) k0 rfl ?_
  refine xw_imul dX10_stepsBack_46 ?_
  refine xw_iadd dX10_stepsBack_47 ?_
  refine yw_istore (lv' := [.ref 209, .int v1, .int v2, .int v3, .int v4, .int (s0 + (s1 * (I 211 v6.toNatClampNeg))), .int v6]) dX10_stepsBack_48 rfl rfl rfl ?_
  refine yw_iinc (lv' := [.ref 209, .int v1, .int v2, .int v3, .int v4, .int (s0 + (s1 * (I 211 v6.toNatClampNeg))), .int (v6 + nI 1)]) (v := nI 1) dX10_stepsBack_50 rfl rfl rfl rfl rfl ?_
  refine xw_goto (tgt := 21) dX10_stepsBack_53 (by decide) ?_
  exact k
theorem eX10_stepsBack {v1 : Int32} {v2 : Int32} {h : xHp} {Q : xHp → Prop} (k : Ex mX10_stepsBack 0 [.ref 209, .int v1, .int v2, xU, xU, xU, xU] [] h 0 0 (xqV Q)) : CV mX10_stepsBack [.ref 209, .int v1, .int v2] h Q := k
theorem bX10_comesBack_0 {v1 v2 : Int32} {mc ms : Nat} {Q : xHp → Prop} (hW : xLay sh R) 
    (k : Ex mX10_comesBack 2 [.ref 209, .int v1, .int v2, .int (nI 0), xU, xU] [] (sh, I, R) mc ms (xqV Q)) :
    Ex mX10_comesBack 0 [.ref 209, .int v1, .int v2, xU, xU, xU] [] (sh, I, R) mc ms (xqV Q) := by
  refine xw_iconst (v := nI 0) dX10_comesBack_0 rfl ?_
  refine yw_istore_n (lv' := [.ref 209, .int v1, .int v2, .int (nI 0), xU, xU]) dX10_comesBack_1 rfl rfl rfl rfl ?_
  exact k
theorem bX10_comesBack_2 {v1 v2 v3 : Int32} {mc ms : Nat} {Q : xHp → Prop} (hW : xLay sh R) 
    (k : CI mX10_many [.ref 209, .int v1] (sh, I, R) (fun w h1 => Ex mX10_comesBack 8 [.ref 209, .int v1, .int v2, .int v3, xU, xU] (.int w :: [.int v3]) h1 mc ms (xqV Q))) :
    Ex mX10_comesBack 2 [.ref 209, .int v1, .int v2, .int v3, xU, xU] [] (sh, I, R) mc ms (xqV Q) := by
  refine xw_iload_n dX10_comesBack_2 rfl rfl ?_
  refine xw_aload_n dX10_comesBack_3 rfl rfl ?_
  refine xw_iload_n dX10_comesBack_4 rfl rfl ?_
  exact yw_cV (As := [.int v1]) (b := 209) (st := [.int v3]) dX10_comesBack_5 lX10_95 kiX10_many kvX10_many rfl rfl rfl (la_209 hW) rfl (Nat.le_of_ble_eq_true rfl) rfl (xk_I k)
theorem bX10_comesBack_8 {v1 v2 v3 s1 s0 : Int32} {mc ms : Nat} {Q : xHp → Prop} (hW : xLay sh R) 
    (k : ((s1 ≤ s0 → CI mX10_lengthOf [.ref 209, .int v2] (sh, I, R) (fun w h1 => Ex mX10_comesBack 41 [.ref 209, .int v1, .int v2, xU, xU, xU] (.int w :: []) h1 mc ms (xqV Q))) ∧ (¬ s1 ≤ s0 → CI mX10_at [.ref 209, .int v1, .int ((nI 5) + v3)] (sh, I, R) (fun w h1 => Ex mX10_comesBack 28 [.ref 209, .int v1, .int v2, .int v3, xU, xU] (.int w :: [.ref 210, .int v3, .ref 211]) h1 mc ms (xqV Q))))) :
    Ex mX10_comesBack 8 [.ref 209, .int v1, .int v2, .int v3, xU, xU] [.int s1, .int s0] (sh, I, R) mc ms (xqV Q) := by
  refine xw_icge (tgt := 36) dX10_comesBack_8 (by decide) (fun c => ?_) (fun c => ?_)
  · replace k := k.1 c
    refine xw_aload_n dX10_comesBack_36 rfl rfl ?_
    refine xw_iload_n dX10_comesBack_37 rfl rfl ?_
    refine yw_sub (lv' := [.ref 209, .int v1, .int v2, xU, xU, xU]) ⟨Or.inr rfl, Or.inr rfl, Or.inr rfl, Or.inl rfl, Or.inl rfl, Or.inl rfl, trivial⟩ ?_
    exact yw_cV (As := [.int v2]) (b := 209) (st := []) dX10_comesBack_38 lX10_92 kiX10_lengthOf kvX10_lengthOf rfl rfl rfl (la_209 hW) rfl (Nat.le_of_ble_eq_true rfl) rfl (xk_I k)
  · replace k := k.2 c
    refine xw_aload_n dX10_comesBack_11 rfl rfl ?_
    refine yw_getR (r := 211) dX10_comesBack_12 fX10_20 rfl (la_209 hW) (lr_209_4 hW) ?_
    refine xw_iload_n dX10_comesBack_15 rfl rfl ?_
    refine xw_aload_n dX10_comesBack_16 rfl rfl ?_
    refine yw_getR (r := 210) dX10_comesBack_17 fX10_7 rfl (la_209 hW) (lr_209_0 hW) ?_
    refine xw_aload_n dX10_comesBack_20 rfl rfl ?_
    refine xw_iload_n dX10_comesBack_21 rfl rfl ?_
    refine xw_iconst (v := nI 5) dX10_comesBack_22 rfl ?_
    refine xw_iload_n dX10_comesBack_23 rfl rfl ?_
    refine xw_iadd dX10_comesBack_24 ?_
    exact yw_cV (As := [.int v1, .int ((nI 5) + v3)]) (b := 209) (st := [.ref 210, .int v3, .ref 211]) dX10_comesBack_25 lX10_81 kiX10_at kvX10_at rfl rfl rfl (la_209 hW) rfl (Nat.le_of_ble_eq_true rfl) rfl (xk_I k)
theorem bX10_comesBack_41 {v1 v2 s0 : Int32} {mc ms : Nat} {Q : xHp → Prop} (hW : xLay sh R) 
    (k : CI mX10_firstOf [.ref 209, .int s0] (sh, I, R) (fun w h1 => Ex mX10_comesBack 48 [.ref 209, .int v1, xU, .int s0, xU, xU] (.int w :: [.int v2]) h1 mc ms (xqV Q))) :
    Ex mX10_comesBack 41 [.ref 209, .int v1, .int v2, xU, xU, xU] [.int s0] (sh, I, R) mc ms (xqV Q) := by
  refine yw_istore_n (lv' := [.ref 209, .int v1, .int v2, .int s0, xU, xU]) dX10_comesBack_41 rfl rfl rfl rfl ?_
  refine xw_iload_n dX10_comesBack_42 rfl rfl ?_
  refine xw_aload_n dX10_comesBack_43 rfl rfl ?_
  refine xw_iload_n dX10_comesBack_44 rfl rfl ?_
  refine yw_sub (lv' := [.ref 209, .int v1, xU, .int s0, xU, xU]) ⟨Or.inr rfl, Or.inr rfl, Or.inl rfl, Or.inr rfl, Or.inl rfl, Or.inl rfl, trivial⟩ ?_
  exact yw_cV (As := [.int s0]) (b := 209) (st := [.int v2]) dX10_comesBack_45 lX10_89 kiX10_firstOf kvX10_firstOf rfl rfl rfl (la_209 hW) rfl (Nat.le_of_ble_eq_true rfl) rfl (xk_I k)
theorem bX10_comesBack_48 {v1 v3 s1 s0 : Int32} {mc ms : Nat} {Q : xHp → Prop} (hW : xLay sh R) 
    (k : Ex mX10_comesBack 54 [.ref 209, .int v1, xU, .int v3, .int (s0 - s1), .int (nI 0)] [] (sh, I, R) mc ms (xqV Q)) :
    Ex mX10_comesBack 48 [.ref 209, .int v1, xU, .int v3, xU, xU] [.int s1, .int s0] (sh, I, R) mc ms (xqV Q) := by
  refine xw_isub dX10_comesBack_48 ?_
  refine yw_istore (lv' := [.ref 209, .int v1, xU, .int v3, .int (s0 - s1), xU]) dX10_comesBack_49 rfl rfl rfl ?_
  refine xw_iconst (v := nI 0) dX10_comesBack_51 rfl ?_
  refine yw_istore (lv' := [.ref 209, .int v1, xU, .int v3, .int (s0 - s1), .int (nI 0)]) dX10_comesBack_52 rfl rfl rfl ?_
  exact k
theorem bX10_comesBack_54 {v1 v3 v4 v5 : Int32} {mc ms : Nat} {Q : xHp → Prop} (hW : xLay sh R) 
    (k : ((v3 ≤ v5 → Q (sh, I, R)) ∧ (¬ v3 ≤ v5 → ¬ I 209 2 = 0 ∧ CV mX10_stepsBack [.ref 209, .int v1, .int (xrem v4 (I 209 2))] (sh, I, R) (fun h1 => Ex mX10_comesBack 72 [.ref 209, .int v1, xU, .int v3, .int v4, .int v5] [] h1 mc ms (xqV Q))))) :
    Ex mX10_comesBack 54 [.ref 209, .int v1, xU, .int v3, .int v4, .int v5] [] (sh, I, R) mc ms (xqV Q) := by
  refine xw_iload dX10_comesBack_54 rfl ?_
  refine xw_iload_n dX10_comesBack_56 rfl rfl ?_
  refine xw_icge (tgt := 87) dX10_comesBack_57 (by decide) (fun c => ?_) (fun c => ?_)
  · replace k := k.1 c
    exact yw_vret dX10_comesBack_87 rfl k
  · replace k := k.2 c
    refine xw_aload_n dX10_comesBack_60 rfl rfl ?_
    refine xw_iload_n dX10_comesBack_61 rfl rfl ?_
    refine xw_iload dX10_comesBack_62 rfl ?_
    refine xw_aload_n dX10_comesBack_64 rfl rfl ?_
    refine yw_getI (v := I 209 2) dX10_comesBack_65 fX10_17 rfl (la_209 hW) rfl ?_
    obtain ⟨k0, k⟩ := k
    refine yw_irem dX10_comesBack_68 k0 ?_
    exact yw_cV (As := [.int v1, .int (xrem v4 (I 209 2))]) (b := 209) (st := []) dX10_comesBack_69 lX10_303 kiX10_stepsBack kvX10_stepsBack rfl rfl rfl (la_209 hW) rfl (Nat.le_of_ble_eq_true rfl) rfl (xk_V k)
theorem bX10_comesBack_72 {v1 v3 v4 v5 : Int32} {mc ms : Nat} {Q : xHp → Prop} (hW : xLay sh R) 
    (k : ¬ I 209 2 = 0 ∧ Ex mX10_comesBack 54 [.ref 209, .int v1, xU, .int v3, .int (v4 / (I 209 2)), .int (v5 + nI 1)] [] (sh, I, R) mc ms (xqV Q)) :
    Ex mX10_comesBack 72 [.ref 209, .int v1, xU, .int v3, .int v4, .int v5] [] (sh, I, R) mc ms (xqV Q) := by
  refine xw_iload dX10_comesBack_72 rfl ?_
  refine xw_aload_n dX10_comesBack_74 rfl rfl ?_
  refine yw_getI (v := I 209 2) dX10_comesBack_75 fX10_17 rfl (la_209 hW) rfl ?_
  obtain ⟨k0, k⟩ := k
  refine xw_idiv dX10_comesBack_78 k0 ?_
  refine yw_istore (lv' := [.ref 209, .int v1, xU, .int v3, .int (v4 / (I 209 2)), .int v5]) dX10_comesBack_79 rfl rfl rfl ?_
  refine yw_iinc (lv' := [.ref 209, .int v1, xU, .int v3, .int (v4 / (I 209 2)), .int (v5 + nI 1)]) (v := nI 1) dX10_comesBack_81 rfl rfl rfl rfl rfl ?_
  refine xw_goto (tgt := 54) dX10_comesBack_84 (by decide) ?_
  exact k
theorem bX10_comesBack_28 {v1 v2 v3 s3 s1 : Int32} {mc ms : Nat} {Q : xHp → Prop} (hW : xLay sh R) 
    (k : vp_in s3 1881 ∧ vp_in s1 4 ∧ Ex mX10_comesBack 2 [.ref 209, .int v1, .int v2, .int (v3 + nI 1), xU, xU] [] (sh, (xi I 211 s1.toNatClampNeg (I 210 s3.toNatClampNeg)), R) mc ms (xqV Q)) :
    Ex mX10_comesBack 28 [.ref 209, .int v1, .int v2, .int v3, xU, xU] [.int s3, .ref 210, .int s1, .ref 211] (sh, I, R) mc ms (xqV Q) := by
  obtain ⟨k0, k⟩ := k
  refine yw_iaload (v := I 210 s3.toNatClampNeg) dX10_comesBack_28 (la_210 hW) k0 rfl ?_
  obtain ⟨k0, k⟩ := k
  refine yw_iastore dX10_comesBack_29 (la_211 hW) k0 ?_
  refine yw_iinc (lv' := [.ref 209, .int v1, .int v2, .int (v3 + nI 1), xU, xU]) (v := nI 1) dX10_comesBack_30 rfl rfl rfl rfl rfl ?_
  refine xw_goto (tgt := 2) dX10_comesBack_33 (by decide) ?_
  exact k
theorem eX10_comesBack {v1 : Int32} {v2 : Int32} {h : xHp} {Q : xHp → Prop} (k : Ex mX10_comesBack 0 [.ref 209, .int v1, .int v2, xU, xU, xU] [] h 0 0 (xqV Q)) : CV mX10_comesBack [.ref 209, .int v1, .int v2] h Q := k
theorem bX10_leadOf_0 {v1 v2 : Int32} {mc ms : Nat} {Q : Int32 → xHp → Prop} (hW : xLay sh R) 
    (k : Ex mX10_leadOf 2 [.ref 209, .int v1, .int v2, .int (nI 0)] [] (sh, I, R) mc ms (xqI Q)) :
    Ex mX10_leadOf 0 [.ref 209, .int v1, .int v2, xU] [] (sh, I, R) mc ms (xqI Q) := by
  refine xw_iconst (v := nI 0) dX10_leadOf_0 rfl ?_
  refine yw_istore_n (lv' := [.ref 209, .int v1, .int v2, .int (nI 0)]) dX10_leadOf_1 rfl rfl rfl rfl ?_
  exact k
theorem bX10_leadOf_2 {v1 v2 v3 : Int32} {mc ms : Nat} {Q : Int32 → xHp → Prop} (hW : xLay sh R) 
    (k : (((v2 - (nI 1)) ≤ v3 → Q v3 (sh, I, R)) ∧ (¬ (v2 - (nI 1)) ≤ v3 → vp_in (((nI 4) * v1) + v3) 16 ∧ ((¬ (I 224 ((((nI 4) * v1) + v3).toNatClampNeg)) = 0 → Q v3 (sh, I, R)) ∧ ((I 224 ((((nI 4) * v1) + v3).toNatClampNeg)) = 0 → Ex mX10_leadOf 2 [.ref 209, .int v1, .int v2, .int (v3 + nI 1)] [] (sh, I, R) mc ms (xqI Q)))))) :
    Ex mX10_leadOf 2 [.ref 209, .int v1, .int v2, .int v3] [] (sh, I, R) mc ms (xqI Q) := by
  refine xw_iload_n dX10_leadOf_2 rfl rfl ?_
  refine xw_iload_n dX10_leadOf_3 rfl rfl ?_
  refine xw_iconst (v := nI 1) dX10_leadOf_4 rfl ?_
  refine xw_isub dX10_leadOf_5 ?_
  refine xw_icge (tgt := 28) dX10_leadOf_6 (by decide) (fun c => ?_) (fun c => ?_)
  · replace k := k.1 c
    refine xw_iload_n dX10_leadOf_28 rfl rfl ?_
    exact yw_iret dX10_leadOf_29 rfl k
  · replace k := k.2 c
    refine xw_aload_n dX10_leadOf_9 rfl rfl ?_
    refine yw_getR (r := 224) dX10_leadOf_10 fX10_60 rfl (la_209 hW) (lr_209_33 hW) ?_
    refine xw_iconst (v := nI 4) dX10_leadOf_13 rfl ?_
    refine xw_iload_n dX10_leadOf_14 rfl rfl ?_
    refine xw_imul dX10_leadOf_15 ?_
    refine xw_iload_n dX10_leadOf_16 rfl rfl ?_
    refine xw_iadd dX10_leadOf_17 ?_
    obtain ⟨k0, k⟩ := k
    refine yw_iaload (v := I 224 ((((nI 4) * v1) + v3).toNatClampNeg)) dX10_leadOf_18 (la_224 hW) k0 rfl ?_
    refine xw_ifne (tgt := 28) dX10_leadOf_19 (by decide) (fun c => ?_) (fun c => ?_)
    · replace k := k.1 c
      refine xw_iload_n dX10_leadOf_28 rfl rfl ?_
      exact yw_iret dX10_leadOf_29 rfl k
    · replace k := k.2 c
      refine yw_iinc (lv' := [.ref 209, .int v1, .int v2, .int (v3 + nI 1)]) (v := nI 1) dX10_leadOf_22 rfl rfl rfl rfl rfl ?_
      refine xw_goto (tgt := 2) dX10_leadOf_25 (by decide) ?_
      exact k
theorem eX10_leadOf {v1 : Int32} {v2 : Int32} {h : xHp} {Q : Int32 → xHp → Prop} (k : Ex mX10_leadOf 0 [.ref 209, .int v1, .int v2, xU] [] h 0 0 (xqI Q)) : CI mX10_leadOf [.ref 209, .int v1, .int v2] h Q := k
theorem bX10_spans_0 {v1 : Int32} {mc ms : Nat} {Q : xHp → Prop} (hW : xLay sh R) 
    (k : Ex mX10_spans 2 [.ref 209, .int v1, .int (nI 0), xU, xU, xU] [] (sh, I, R) mc ms (xqV Q)) :
    Ex mX10_spans 0 [.ref 209, .int v1, xU, xU, xU, xU] [] (sh, I, R) mc ms (xqV Q) := by
  refine xw_iconst (v := nI 0) dX10_spans_0 rfl ?_
  refine yw_istore_n (lv' := [.ref 209, .int v1, .int (nI 0), xU, xU, xU]) dX10_spans_1 rfl rfl rfl rfl ?_
  exact k
theorem bX10_spans_2 {v1 v2 : Int32} {mc ms : Nat} {Q : xHp → Prop} (hW : xLay sh R) 
    (k : (((I 209 34) ≤ v2 → Ex mX10_spans 87 [.ref 209, .int v1, .int (nI 0), xU, xU, xU] [] (sh, I, R) mc ms (xqV Q)) ∧ (¬ (I 209 34) ≤ v2 → CI mX10_leadOf [.ref 209, .int v2, .int v1] (sh, I, R) (fun w h1 => Ex mX10_spans 16 [.ref 209, .int v1, .int v2, xU, xU, xU] (.int w :: []) h1 mc ms (xqV Q))))) :
    Ex mX10_spans 2 [.ref 209, .int v1, .int v2, xU, xU, xU] [] (sh, I, R) mc ms (xqV Q) := by
  refine xw_iload_n dX10_spans_2 rfl rfl ?_
  refine xw_aload_n dX10_spans_3 rfl rfl ?_
  refine yw_getI (v := I 209 34) dX10_spans_4 fX10_297 rfl (la_209 hW) rfl ?_
  refine xw_icge (tgt := 85) dX10_spans_7 (by decide) (fun c => ?_) (fun c => ?_)
  · replace k := k.1 c
    refine xw_iconst (v := nI 0) dX10_spans_85 rfl ?_
    refine yw_istore_n (lv' := [.ref 209, .int v1, .int (nI 0), xU, xU, xU]) dX10_spans_86 rfl rfl rfl rfl ?_
    exact k
  · replace k := k.2 c
    refine xw_aload_n dX10_spans_10 rfl rfl ?_
    refine xw_iload_n dX10_spans_11 rfl rfl ?_
    refine xw_iload_n dX10_spans_12 rfl rfl ?_
    exact yw_cV (As := [.int v2, .int v1]) (b := 209) (st := []) dX10_spans_13 lX10_300 kiX10_leadOf kvX10_leadOf rfl rfl rfl (la_209 hW) rfl (Nat.le_of_ble_eq_true rfl) rfl (xk_I k)
theorem bX10_spans_87 {v1 v2 : Int32} {mc ms : Nat} {Q : xHp → Prop} (hW : xLay sh R) 
    (k : ((v1 ≤ v2 → ((v1 ≤ v2 → Q (sh, I, R)) ∧ (¬ v1 ≤ v2 → vp_in v2 4 ∧ CI mX10_inverse [.ref 209, .int (I 211 v2.toNatClampNeg)] (sh, I, R) (fun w h1 => Ex mX10_spans 122 [.ref 209, .int v1, xU, xU, xU, xU] (.int w :: []) h1 mc ms (xqV Q))))) ∧ (¬ v1 ≤ v2 → vp_in v2 4 ∧ ((¬ (I 211 v2.toNatClampNeg) = 0 → ((v1 ≤ v2 → Q (sh, I, R)) ∧ (¬ v1 ≤ v2 → vp_in v2 4 ∧ CI mX10_inverse [.ref 209, .int (I 211 v2.toNatClampNeg)] (sh, I, R) (fun w h1 => Ex mX10_spans 122 [.ref 209, .int v1, xU, xU, xU, xU] (.int w :: []) h1 mc ms (xqV Q))))) ∧ ((I 211 v2.toNatClampNeg) = 0 → Ex mX10_spans 87 [.ref 209, .int v1, .int (v2 + nI 1), xU, xU, xU] [] (sh, I, R) mc ms (xqV Q)))))) :
    Ex mX10_spans 87 [.ref 209, .int v1, .int v2, xU, xU, xU] [] (sh, I, R) mc ms (xqV Q) := by
  refine xw_iload_n dX10_spans_87 rfl rfl ?_
  refine xw_iload_n dX10_spans_88 rfl rfl ?_
  refine xw_icge (tgt := 107) dX10_spans_89 (by decide) (fun c => ?_) (fun c => ?_)
  · replace k := k.1 c
    refine xw_iload_n dX10_spans_107 rfl rfl ?_
    refine xw_iload_n dX10_spans_108 rfl rfl ?_
    refine xw_icge (tgt := 176) dX10_spans_109 (by decide) (fun c => ?_) (fun c => ?_)
    · replace k := k.1 c
      exact yw_vret dX10_spans_176 rfl k
    · replace k := k.2 c
      refine xw_aload_n dX10_spans_112 rfl rfl ?_
      refine xw_aload_n dX10_spans_113 rfl rfl ?_
      refine yw_getR (r := 211) dX10_spans_114 fX10_20 rfl (la_209 hW) (lr_209_4 hW) ?_
      refine xw_iload_n dX10_spans_117 rfl rfl ?_
      obtain ⟨k0, k⟩ := k
      refine yw_iaload (v := I 211 v2.toNatClampNeg) dX10_spans_118 (la_211 hW) k0 rfl ?_
      refine yw_sub (lv' := [.ref 209, .int v1, xU, xU, xU, xU]) ⟨Or.inr rfl, Or.inr rfl, Or.inl rfl, Or.inl rfl, Or.inl rfl, Or.inl rfl, trivial⟩ ?_
      exact yw_cV (As := [.int (I 211 v2.toNatClampNeg)]) (b := 209) (st := []) dX10_spans_119 lX10_119 kiX10_inverse kvX10_inverse rfl rfl rfl (la_209 hW) rfl (Nat.le_of_ble_eq_true rfl) rfl (xk_I k)
  · replace k := k.2 c
    refine xw_aload_n dX10_spans_92 rfl rfl ?_
    refine yw_getR (r := 211) dX10_spans_93 fX10_20 rfl (la_209 hW) (lr_209_4 hW) ?_
    refine xw_iload_n dX10_spans_96 rfl rfl ?_
    obtain ⟨k0, k⟩ := k
    refine yw_iaload (v := I 211 v2.toNatClampNeg) dX10_spans_97 (la_211 hW) k0 rfl ?_
    refine xw_ifne (tgt := 107) dX10_spans_98 (by decide) (fun c => ?_) (fun c => ?_)
    · replace k := k.1 c
      refine xw_iload_n dX10_spans_107 rfl rfl ?_
      refine xw_iload_n dX10_spans_108 rfl rfl ?_
      refine xw_icge (tgt := 176) dX10_spans_109 (by decide) (fun c => ?_) (fun c => ?_)
      · replace k := k.1 c
        exact yw_vret dX10_spans_176 rfl k
      · replace k := k.2 c
        refine xw_aload_n dX10_spans_112 rfl rfl ?_
        refine xw_aload_n dX10_spans_113 rfl rfl ?_
        refine yw_getR (r := 211) dX10_spans_114 fX10_20 rfl (la_209 hW) (lr_209_4 hW) ?_
        refine xw_iload_n dX10_spans_117 rfl rfl ?_
        obtain ⟨k0, k⟩ := k
        refine yw_iaload (v := I 211 v2.toNatClampNeg) dX10_spans_118 (la_211 hW) k0 rfl ?_
        refine yw_sub (lv' := [.ref 209, .int v1, xU, xU, xU, xU]) ⟨Or.inr rfl, Or.inr rfl, Or.inl rfl, Or.inl rfl, Or.inl rfl, Or.inl rfl, trivial⟩ ?_
        exact yw_cV (As := [.int (I 211 v2.toNatClampNeg)]) (b := 209) (st := []) dX10_spans_119 lX10_119 kiX10_inverse kvX10_inverse rfl rfl rfl (la_209 hW) rfl (Nat.le_of_ble_eq_true rfl) rfl (xk_I k)
    · replace k := k.2 c
      refine yw_iinc (lv' := [.ref 209, .int v1, .int (v2 + nI 1), xU, xU, xU]) (v := nI 1) dX10_spans_101 rfl rfl rfl rfl rfl ?_
      refine xw_goto (tgt := 87) dX10_spans_104 (by decide) ?_
      exact k
theorem bX10_spans_122 {v1 s0 : Int32} {mc ms : Nat} {Q : xHp → Prop} (hW : xLay sh R) 
    (k : Ex mX10_spans 126 [.ref 209, .int v1, xU, .int s0, .int (nI 0), xU] [] (sh, I, R) mc ms (xqV Q)) :
    Ex mX10_spans 122 [.ref 209, .int v1, xU, xU, xU, xU] [.int s0] (sh, I, R) mc ms (xqV Q) := by
  refine yw_istore_n (lv' := [.ref 209, .int v1, xU, .int s0, xU, xU]) dX10_spans_122 rfl rfl rfl rfl ?_
  refine xw_iconst (v := nI 0) dX10_spans_123 rfl ?_
  refine yw_istore (lv' := [.ref 209, .int v1, xU, .int s0, .int (nI 0), xU]) dX10_spans_124 rfl rfl rfl ?_
  exact k
theorem bX10_spans_126 {v1 v3 v4 : Int32} {mc ms : Nat} {Q : xHp → Prop} (hW : xLay sh R) 
    (k : ((v1 ≤ v4 → Q (sh, (xi I 209 34 ((I 209 34) + (nI 1))), R)) ∧ (¬ v1 ≤ v4 → vp_in v4 4 ∧ ¬ I 209 1 = 0 ∧ vp_in (((nI 4) * (I 209 34)) + v4) 16 ∧ Ex mX10_spans 126 [.ref 209, .int v1, xU, .int v3, .int (v4 + nI 1), xU] [] (sh, (xi I 224 ((((nI 4) * (I 209 34)) + v4).toNatClampNeg) (xrem ((I 211 v4.toNatClampNeg) * v3) (I 209 1))), R) mc ms (xqV Q)))) :
    Ex mX10_spans 126 [.ref 209, .int v1, xU, .int v3, .int v4, xU] [] (sh, I, R) mc ms (xqV Q) := by
  refine xw_iload dX10_spans_126 rfl ?_
  refine xw_iload_n dX10_spans_128 rfl rfl ?_
  refine xw_icge (tgt := 166) dX10_spans_129 (by decide) (fun c => ?_) (fun c => ?_)
  · replace k := k.1 c
    refine xw_aload_n dX10_spans_166 rfl rfl ?_
    refine xw_dup dX10_spans_167 rfl ?_
    refine yw_getI (v := I 209 34) dX10_spans_168 fX10_297 rfl (la_209 hW) rfl ?_
    refine xw_iconst (v := nI 1) dX10_spans_171 rfl ?_
    refine xw_iadd dX10_spans_172 ?_
    refine yw_putI dX10_spans_173 fX10_297 (fun r h => by cases h; exact Or.inl rfl) rfl (la_209 hW) ?_
    exact yw_vret dX10_spans_176 rfl k
  · replace k := k.2 c
    refine xw_aload_n dX10_spans_132 rfl rfl ?_
    refine yw_getR (r := 224) dX10_spans_133 fX10_60 rfl (la_209 hW) (lr_209_33 hW) ?_
    refine xw_iconst (v := nI 4) dX10_spans_136 rfl ?_
    refine xw_aload_n dX10_spans_137 rfl rfl ?_
    refine yw_getI (v := I 209 34) dX10_spans_138 fX10_297 rfl (la_209 hW) rfl ?_
    refine xw_imul dX10_spans_141 ?_
    refine xw_iload dX10_spans_142 rfl ?_
    refine xw_iadd dX10_spans_144 ?_
    refine xw_aload_n dX10_spans_145 rfl rfl ?_
    refine yw_getR (r := 211) dX10_spans_146 fX10_20 rfl (la_209 hW) (lr_209_4 hW) ?_
    refine xw_iload dX10_spans_149 rfl ?_
    obtain ⟨k0, k⟩ := k
    refine yw_iaload (v := I 211 v4.toNatClampNeg) dX10_spans_151 (la_211 hW) k0 rfl ?_
    refine xw_iload_n dX10_spans_152 rfl rfl ?_
    refine xw_imul dX10_spans_153 ?_
    refine xw_aload_n dX10_spans_154 rfl rfl ?_
    refine yw_getI (v := I 209 1) dX10_spans_155 fX10_13 rfl (la_209 hW) rfl ?_
    obtain ⟨k0, k⟩ := k
    refine yw_irem dX10_spans_158 k0 ?_
    obtain ⟨k0, k⟩ := k
    refine yw_iastore dX10_spans_159 (la_224 hW) k0 ?_
    refine yw_iinc (lv' := [.ref 209, .int v1, xU, .int v3, .int (v4 + nI 1), xU]) (v := nI 1) dX10_spans_160 rfl rfl rfl rfl rfl ?_
    refine xw_goto (tgt := 126) dX10_spans_163 (by decide) ?_
    exact k
theorem bX10_spans_16 {v1 v2 s0 : Int32} {mc ms : Nat} {Q : xHp → Prop} (hW : xLay sh R) 
    (k : vp_in s0 4 ∧ Ex mX10_spans 28 [.ref 209, .int v1, .int v2, xU, .int (I 211 s0.toNatClampNeg), .int (nI 0)] [] (sh, I, R) mc ms (xqV Q)) :
    Ex mX10_spans 16 [.ref 209, .int v1, .int v2, xU, xU, xU] [.int s0] (sh, I, R) mc ms (xqV Q) := by
  refine yw_istore_n (lv' := [.ref 209, .int v1, .int v2, .int s0, xU, xU]) dX10_spans_16 rfl rfl rfl rfl ?_
  refine xw_aload_n dX10_spans_17 rfl rfl ?_
  refine yw_getR (r := 211) dX10_spans_18 fX10_20 rfl (la_209 hW) (lr_209_4 hW) ?_
  refine xw_iload_n dX10_spans_21 rfl rfl ?_
  obtain ⟨k0, k⟩ := k
  refine yw_iaload (v := I 211 s0.toNatClampNeg) dX10_spans_22 (la_211 hW) k0 rfl ?_
  refine yw_istore (lv' := [.ref 209, .int v1, .int v2, .int s0, .int (I 211 s0.toNatClampNeg), xU]) dX10_spans_23 rfl rfl rfl ?_
  refine xw_iconst (v := nI 0) dX10_spans_25 rfl ?_
  refine yw_istore (lv' := [.ref 209, .int v1, .int v2, .int s0, .int (I 211 s0.toNatClampNeg), .int (nI 0)]) dX10_spans_26 rfl rfl rfl ?_
  exact yw_sub (lv' := [.ref 209, .int v1, .int v2, xU, .int (I 211 s0.toNatClampNeg), .int (nI 0)]) ⟨Or.inr rfl, Or.inr rfl, Or.inr rfl, Or.inl rfl, Or.inr rfl, Or.inr rfl, trivial⟩ k
theorem bX10_spans_28 {v1 v2 v4 v5 : Int32} {mc ms : Nat} {Q : xHp → Prop} (hW : xLay sh R) 
    (k : ((v1 ≤ v5 → Ex mX10_spans 2 [.ref 209, .int v1, .int (v2 + nI 1), xU, xU, xU] [] (sh, I, R) mc ms (xqV Q)) ∧ (¬ v1 ≤ v5 → vp_in v5 4 ∧ vp_in (((nI 4) * v2) + v5) 16 ∧ ¬ I 209 1 = 0 ∧ vp_in v5 4 ∧ Ex mX10_spans 28 [.ref 209, .int v1, .int v2, xU, .int v4, .int (v5 + nI 1)] [] (sh, (xi I 211 v5.toNatClampNeg (xrem ((I 211 v5.toNatClampNeg) + (((I 209 1) - v4) * (I 224 ((((nI 4) * v2) + v5).toNatClampNeg)))) (I 209 1))), R) mc ms (xqV Q)))) :
    Ex mX10_spans 28 [.ref 209, .int v1, .int v2, xU, .int v4, .int v5] [] (sh, I, R) mc ms (xqV Q) := by
  refine xw_iload dX10_spans_28 rfl ?_
  refine xw_iload_n dX10_spans_30 rfl rfl ?_
  refine xw_icge (tgt := 79) dX10_spans_31 (by decide) (fun c => ?_) (fun c => ?_)
  · replace k := k.1 c
    refine yw_iinc (lv' := [.ref 209, .int v1, .int (v2 + nI 1), xU, .int v4, .int v5]) (v := nI 1) dX10_spans_79 rfl rfl rfl rfl rfl ?_
    refine xw_goto (tgt := 2) dX10_spans_82 (by decide) ?_
    exact yw_sub (lv' := [.ref 209, .int v1, .int (v2 + nI 1), xU, xU, xU]) ⟨Or.inr rfl, Or.inr rfl, Or.inr rfl, Or.inl rfl, Or.inl rfl, Or.inl rfl, trivial⟩ k
  · replace k := k.2 c
    refine xw_aload_n dX10_spans_34 rfl rfl ?_
    refine yw_getR (r := 211) dX10_spans_35 fX10_20 rfl (la_209 hW) (lr_209_4 hW) ?_
    refine xw_iload dX10_spans_38 rfl ?_
    refine xw_aload_n dX10_spans_40 rfl rfl ?_
    refine yw_getR (r := 211) dX10_spans_41 fX10_20 rfl (la_209 hW) (lr_209_4 hW) ?_
    refine xw_iload dX10_spans_44 rfl ?_
    obtain ⟨k0, k⟩ := k
    refine yw_iaload (v := I 211 v5.toNatClampNeg) dX10_spans_46 (la_211 hW) k0 rfl ?_
    refine xw_aload_n dX10_spans_47 rfl rfl ?_
    refine yw_getI (v := I 209 1) dX10_spans_48 fX10_13 rfl (la_209 hW) rfl ?_
    refine xw_iload dX10_spans_51 rfl ?_
    refine xw_isub dX10_spans_53 ?_
    refine xw_aload_n dX10_spans_54 rfl rfl ?_
    refine yw_getR (r := 224) dX10_spans_55 fX10_60 rfl (la_209 hW) (lr_209_33 hW) ?_
    refine xw_iconst (v := nI 4) dX10_spans_58 rfl ?_
    refine xw_iload_n dX10_spans_59 rfl rfl ?_
    refine xw_imul dX10_spans_60 ?_
    refine xw_iload dX10_spans_61 rfl ?_
    refine xw_iadd dX10_spans_63 ?_
    obtain ⟨k0, k⟩ := k
    refine yw_iaload (v := I 224 ((((nI 4) * v2) + v5).toNatClampNeg)) dX10_spans_64 (la_224 hW) k0 rfl ?_
    refine xw_imul dX10_spans_65 ?_
    refine xw_iadd dX10_spans_66 ?_
    refine xw_aload_n dX10_spans_67 rfl rfl ?_
    refine yw_getI (v := I 209 1) dX10_spans_68 fX10_13 rfl (la_209 hW) rfl ?_
    obtain ⟨k0, k⟩ := k
    refine yw_irem dX10_spans_71 k0 ?_
    obtain ⟨k0, k⟩ := k
    refine yw_iastore dX10_spans_72 (la_211 hW) k0 ?_
    refine yw_iinc (lv' := [.ref 209, .int v1, .int v2, xU, .int v4, .int (v5 + nI 1)]) (v := nI 1) dX10_spans_73 rfl rfl rfl rfl rfl ?_
    refine xw_goto (tgt := 28) dX10_spans_76 (by decide) ?_
    exact k
theorem eX10_spans {v1 : Int32} {h : xHp} {Q : xHp → Prop} (k : Ex mX10_spans 0 [.ref 209, .int v1, xU, xU, xU, xU] [] h 0 0 (xqV Q)) : CV mX10_spans [.ref 209, .int v1] h Q := k
theorem bX10_dimension_0 {v1 v2 : Int32} {mc ms : Nat} {Q : Int32 → xHp → Prop} (hW : xLay sh R) 
    (k : Ex mX10_dimension 7 [.ref 209, .int v1, .int v2, .int (nI 0)] [] (sh, (xi I 209 34 (nI 0)), R) mc ms (xqI Q)) :
    Ex mX10_dimension 0 [.ref 209, .int v1, .int v2, xU] [] (sh, I, R) mc ms (xqI Q) := by
  refine xw_aload_n dX10_dimension_0 rfl rfl ?_
  refine xw_iconst (v := nI 0) dX10_dimension_1 rfl ?_
  refine yw_putI dX10_dimension_2 fX10_297 (fun r h => by cases h; exact Or.inl rfl) rfl (la_209 hW) ?_
  refine xw_iconst (v := nI 0) dX10_dimension_5 rfl ?_
  refine yw_istore_n (lv' := [.ref 209, .int v1, .int v2, .int (nI 0)]) dX10_dimension_6 rfl rfl rfl rfl ?_
  exact k
theorem bX10_dimension_7 {v1 v2 v3 : Int32} {mc ms : Nat} {Q : Int32 → xHp → Prop} (hW : xLay sh R) 
    (k : CI mX10_firstOf [.ref 209, .int (nI 4)] (sh, I, R) (fun w h1 => Ex mX10_dimension 13 [.ref 209, .int v1, .int v2, .int v3] (.int w :: [.int v3]) h1 mc ms (xqI Q))) :
    Ex mX10_dimension 7 [.ref 209, .int v1, .int v2, .int v3] [] (sh, I, R) mc ms (xqI Q) := by
  refine xw_iload_n dX10_dimension_7 rfl rfl ?_
  refine xw_aload_n dX10_dimension_8 rfl rfl ?_
  refine xw_iconst (v := nI 4) dX10_dimension_9 rfl ?_
  exact yw_cV (As := [.int (nI 4)]) (b := 209) (st := [.int v3]) dX10_dimension_10 lX10_89 kiX10_firstOf kvX10_firstOf rfl rfl rfl (la_209 hW) rfl (Nat.le_of_ble_eq_true rfl) rfl (xk_I k)
theorem bX10_dimension_13 {v1 v2 v3 s1 s0 : Int32} {mc ms : Nat} {Q : Int32 → xHp → Prop} (hW : xLay sh R) 
    (k : ((s1 ≤ s0 → Q (I 209 34) (sh, I, R)) ∧ (¬ s1 ≤ s0 → ((v2 = 0 → CV mX10_comesBack [.ref 209, .int v1, .int v3] (sh, I, R) (fun h1 => Ex mX10_dimension 35 [.ref 209, .int v1, .int v2, .int v3] [] h1 mc ms (xqI Q))) ∧ (¬ v2 = 0 → CV mX10_goes [.ref 209, .int v1, .int v3] (sh, I, R) (fun h1 => Ex mX10_dimension 26 [.ref 209, .int v1, .int v2, .int v3] [] h1 mc ms (xqI Q))))))) :
    Ex mX10_dimension 13 [.ref 209, .int v1, .int v2, .int v3] [.int s1, .int s0] (sh, I, R) mc ms (xqI Q) := by
  refine xw_icge (tgt := 50) dX10_dimension_13 (by decide) (fun c => ?_) (fun c => ?_)
  · replace k := k.1 c
    refine xw_aload_n dX10_dimension_50 rfl rfl ?_
    refine yw_getI (v := I 209 34) dX10_dimension_51 fX10_297 rfl (la_209 hW) rfl ?_
    exact yw_iret dX10_dimension_54 rfl k
  · replace k := k.2 c
    refine xw_iload_n dX10_dimension_16 rfl rfl ?_
    refine xw_ifeq (tgt := 29) dX10_dimension_17 (by decide) (fun c => ?_) (fun c => ?_)
    · replace k := k.1 c
      refine xw_aload_n dX10_dimension_29 rfl rfl ?_
      refine xw_iload_n dX10_dimension_30 rfl rfl ?_
      refine xw_iload_n dX10_dimension_31 rfl rfl ?_
      exact yw_cV (As := [.int v1, .int v3]) (b := 209) (st := []) dX10_dimension_32 lX10_306 kiX10_comesBack kvX10_comesBack rfl rfl rfl (la_209 hW) rfl (Nat.le_of_ble_eq_true rfl) rfl (xk_V k)
    · replace k := k.2 c
      refine xw_aload_n dX10_dimension_20 rfl rfl ?_
      refine xw_iload_n dX10_dimension_21 rfl rfl ?_
      refine xw_iload_n dX10_dimension_22 rfl rfl ?_
      exact yw_cV (As := [.int v1, .int v3]) (b := 209) (st := []) dX10_dimension_23 lX10_106 kiX10_goes kvX10_goes rfl rfl rfl (la_209 hW) rfl (Nat.le_of_ble_eq_true rfl) rfl (xk_V k)
theorem bX10_dimension_35 {v1 v2 v3 : Int32} {mc ms : Nat} {Q : Int32 → xHp → Prop} (hW : xLay sh R) 
    (k : CI mX10_many [.ref 209, .int v1] (sh, I, R) (fun w h1 => Ex mX10_dimension 41 [.ref 209, .int v1, .int v2, .int v3] (.int w :: [.ref 209]) h1 mc ms (xqI Q))) :
    Ex mX10_dimension 35 [.ref 209, .int v1, .int v2, .int v3] [] (sh, I, R) mc ms (xqI Q) := by
  refine xw_aload_n dX10_dimension_35 rfl rfl ?_
  refine xw_aload_n dX10_dimension_36 rfl rfl ?_
  refine xw_iload_n dX10_dimension_37 rfl rfl ?_
  exact yw_cV (As := [.int v1]) (b := 209) (st := [.ref 209]) dX10_dimension_38 lX10_95 kiX10_many kvX10_many rfl rfl rfl (la_209 hW) rfl (Nat.le_of_ble_eq_true rfl) rfl (xk_I k)
theorem bX10_dimension_41 {v1 v2 v3 s1 : Int32} {mc ms : Nat} {Q : Int32 → xHp → Prop} (hW : xLay sh R) 
    (k : CV mX10_spans [.ref 209, .int s1] (sh, I, R) (fun h1 => Ex mX10_dimension 44 [.ref 209, .int v1, .int v2, .int v3] [] h1 mc ms (xqI Q))) :
    Ex mX10_dimension 41 [.ref 209, .int v1, .int v2, .int v3] [.int s1, .ref 209] (sh, I, R) mc ms (xqI Q) := by
  exact yw_cV (As := [.int s1]) (b := 209) (st := []) dX10_dimension_41 lX10_309 kiX10_spans kvX10_spans rfl rfl rfl (la_209 hW) rfl (Nat.le_of_ble_eq_true rfl) rfl (xk_V k)
theorem bX10_dimension_44 {v1 v2 v3 : Int32} {mc ms : Nat} {Q : Int32 → xHp → Prop} (hW : xLay sh R) 
    (k : Ex mX10_dimension 7 [.ref 209, .int v1, .int v2, .int (v3 + nI 1)] [] (sh, I, R) mc ms (xqI Q)) :
    Ex mX10_dimension 44 [.ref 209, .int v1, .int v2, .int v3] [] (sh, I, R) mc ms (xqI Q) := by
  refine yw_iinc (lv' := [.ref 209, .int v1, .int v2, .int (v3 + nI 1)]) (v := nI 1) dX10_dimension_44 rfl rfl rfl rfl rfl ?_
  refine xw_goto (tgt := 7) dX10_dimension_47 (by decide) ?_
  exact k
theorem bX10_dimension_26 {v1 v2 v3 : Int32} {mc ms : Nat} {Q : Int32 → xHp → Prop} (hW : xLay sh R) 
    (k : CI mX10_many [.ref 209, .int v1] (sh, I, R) (fun w h1 => Ex mX10_dimension 41 [.ref 209, .int v1, .int v2, .int v3] (.int w :: [.ref 209]) h1 mc ms (xqI Q))) :
    Ex mX10_dimension 26 [.ref 209, .int v1, .int v2, .int v3] [] (sh, I, R) mc ms (xqI Q) := by
  refine xw_goto (tgt := 35) dX10_dimension_26 (by decide) ?_
  refine xw_aload_n dX10_dimension_35 rfl rfl ?_
  refine xw_aload_n dX10_dimension_36 rfl rfl ?_
  refine xw_iload_n dX10_dimension_37 rfl rfl ?_
  exact yw_cV (As := [.int v1]) (b := 209) (st := [.ref 209]) dX10_dimension_38 lX10_95 kiX10_many kvX10_many rfl rfl rfl (la_209 hW) rfl (Nat.le_of_ble_eq_true rfl) rfl (xk_I k)
theorem eX10_dimension {v1 : Int32} {v2 : Int32} {h : xHp} {Q : Int32 → xHp → Prop} (k : Ex mX10_dimension 0 [.ref 209, .int v1, .int v2, xU] [] h 0 0 (xqI Q)) : CI mX10_dimension [.ref 209, .int v1, .int v2] h Q := k
theorem bX10_space_0 {v1 v2 : Int32} {mc ms : Nat} {Q : Int32 → xHp → Prop} (hW : xLay sh R) 
    (k : CI mX10_in [.long v2.toInt64, .long (lN 0), .long (2 : Int64)] (sh, I, R) (fun w h1 => Ex mX10_space 9 [.ref 209, .int v1, .int v2, xU] (.int w :: []) h1 mc ms (xqI Q))) :
    Ex mX10_space 0 [.ref 209, .int v1, .int v2, xU] [] (sh, I, R) mc ms (xqI Q) := by
  refine xw_iload_n dX10_space_0 rfl rfl ?_
  refine xw_i2l dX10_space_1 ?_
  refine xw_lconst (v := lN 0) dX10_space_2 rfl ?_
  refine xw_ldcL dX10_space_3 cX10_227 ?_
  exact yw_cS (As := [.long v2.toInt64, .long (lN 0), .long (2 : Int64)]) (st := []) dX10_space_6 lX10_181 ksX10_in rfl rfl rfl (Nat.le_of_ble_eq_true rfl) rfl (xk_I k)
theorem bX10_space_9 {v1 v2 s0 : Int32} {mc ms : Nat} {Q : Int32 → xHp → Prop} (hW : xLay sh R) 
    (k : ((s0 = 0 → Q (-1) (sh, I, R)) ∧ (¬ s0 = 0 → CI mX10_wrong [.ref 209, .int v1] (sh, I, R) (fun w h1 => Ex mX10_space 17 [.ref 209, .int v1, .int v2, xU] (.int w :: []) h1 mc ms (xqI Q))))) :
    Ex mX10_space 9 [.ref 209, .int v1, .int v2, xU] [.int s0] (sh, I, R) mc ms (xqI Q) := by
  refine xw_ifeq (tgt := 20) dX10_space_9 (by decide) (fun c => ?_) (fun c => ?_)
  · replace k := k.1 c
    refine xw_iconst (v := (-1)) dX10_space_20 rfl ?_
    refine yw_istore_n (lv' := [.ref 209, .int v1, .int v2, .int (-1)]) dX10_space_21 rfl rfl rfl rfl ?_
    refine xw_iload_n dX10_space_22 rfl rfl ?_
    refine xw_ifeq (tgt := 28) dX10_space_23 (by decide) (fun c => absurd c (by decide)) (fun _ => ?_)
    refine xw_iload_n dX10_space_26 rfl rfl ?_
    exact yw_iret dX10_space_27 rfl k
  · replace k := k.2 c
    refine xw_aload_n dX10_space_12 rfl rfl ?_
    refine xw_iload_n dX10_space_13 rfl rfl ?_
    exact yw_cV (As := [.int v1]) (b := 209) (st := []) dX10_space_14 lX10_288 kiX10_wrong kvX10_wrong rfl rfl rfl (la_209 hW) rfl (Nat.le_of_ble_eq_true rfl) rfl (xk_I k)
theorem bX10_space_17 {v1 v2 s0 : Int32} {mc ms : Nat} {Q : Int32 → xHp → Prop} (hW : xLay sh R) 
    (k : ((s0 = 0 → (((nI 2) ≤ v2 → CV mX10_bases [.ref 209, .int v1] (sh, I, R) (fun h1 => Ex mX10_space 53 [.ref 209, xU, xU, xU] [] h1 mc ms (xqI Q))) ∧ (¬ (nI 2) ≤ v2 → ((¬ v2 = 0 → CI mX10_dimension [.ref 209, .int v1, .int (nI 0)] (sh, I, R) (fun w h1 => Ex mX10_space 47 [xU, xU, xU, xU] (.int w :: []) h1 mc ms (xqI Q))) ∧ (v2 = 0 → CI mX10_dimension [.ref 209, .int v1, .int (nI 1)] (sh, I, R) (fun w h1 => Ex mX10_space 47 [xU, xU, xU, xU] (.int w :: []) h1 mc ms (xqI Q))))))) ∧ (¬ s0 = 0 → Q s0 (sh, I, R)))) :
    Ex mX10_space 17 [.ref 209, .int v1, .int v2, xU] [.int s0] (sh, I, R) mc ms (xqI Q) := by
  refine xw_goto (tgt := 21) dX10_space_17 (by decide) ?_
  refine yw_istore_n (lv' := [.ref 209, .int v1, .int v2, .int s0]) dX10_space_21 rfl rfl rfl rfl ?_
  refine xw_iload_n dX10_space_22 rfl rfl ?_
  refine xw_ifeq (tgt := 28) dX10_space_23 (by decide) (fun c => ?_) (fun c => ?_)
  · replace k := k.1 c
    refine xw_iload_n dX10_space_28 rfl rfl ?_
    refine xw_iconst (v := nI 2) dX10_space_29 rfl ?_
    refine xw_icge (tgt := 48) dX10_space_30 (by decide) (fun c => ?_) (fun c => ?_)
    · replace k := k.1 c
      refine xw_aload_n dX10_space_48 rfl rfl ?_
      refine xw_iload_n dX10_space_49 rfl rfl ?_
      refine yw_sub (lv' := [.ref 209, xU, xU, xU]) ⟨Or.inr rfl, Or.inl rfl, Or.inl rfl, Or.inl rfl, trivial⟩ ?_
      exact yw_cV (As := [.int v1]) (b := 209) (st := []) dX10_space_50 lX10_176 kiX10_bases kvX10_bases rfl rfl rfl (la_209 hW) rfl (Nat.le_of_ble_eq_true rfl) rfl (xk_V k)
    · replace k := k.2 c
      refine xw_aload_n dX10_space_33 rfl rfl ?_
      refine xw_iload_n dX10_space_34 rfl rfl ?_
      refine xw_iload_n dX10_space_35 rfl rfl ?_
      refine xw_ifne (tgt := 43) dX10_space_36 (by decide) (fun c => ?_) (fun c => ?_)
      · replace k := k.1 c
        refine xw_iconst (v := nI 0) dX10_space_43 rfl ?_
        refine yw_sub (lv' := [xU, xU, xU, xU]) ⟨Or.inl rfl, Or.inl rfl, Or.inl rfl, Or.inl rfl, trivial⟩ ?_
        exact yw_cV (As := [.int v1, .int (nI 0)]) (b := 209) (st := []) dX10_space_44 lX10_311 kiX10_dimension kvX10_dimension rfl rfl rfl (la_209 hW) rfl (Nat.le_of_ble_eq_true rfl) rfl (xk_I k)
      · replace k := k.2 c
        refine xw_iconst (v := nI 1) dX10_space_39 rfl ?_
        refine xw_goto (tgt := 44) dX10_space_40 (by decide) ?_
        refine yw_sub (lv' := [xU, xU, xU, xU]) ⟨Or.inl rfl, Or.inl rfl, Or.inl rfl, Or.inl rfl, trivial⟩ ?_
        exact yw_cV (As := [.int v1, .int (nI 1)]) (b := 209) (st := []) dX10_space_44 lX10_311 kiX10_dimension kvX10_dimension rfl rfl rfl (la_209 hW) rfl (Nat.le_of_ble_eq_true rfl) rfl (xk_I k)
  · replace k := k.2 c
    refine xw_iload_n dX10_space_26 rfl rfl ?_
    exact yw_iret dX10_space_27 rfl k
theorem bX10_space_53 {mc ms : Nat} {Q : Int32 → xHp → Prop} (hW : xLay sh R) 
    (k : Q (I 209 14) (sh, I, R)) :
    Ex mX10_space 53 [.ref 209, xU, xU, xU] [] (sh, I, R) mc ms (xqI Q) := by
  refine xw_aload_n dX10_space_53 rfl rfl ?_
  refine yw_getI (v := I 209 14) dX10_space_54 fX10_170 rfl (la_209 hW) rfl ?_
  exact yw_iret dX10_space_57 rfl k
theorem bX10_space_47 {s0 : Int32} {mc ms : Nat} {Q : Int32 → xHp → Prop} (hW : xLay sh R) 
    (k : Q s0 (sh, I, R)) :
    Ex mX10_space 47 [xU, xU, xU, xU] [.int s0] (sh, I, R) mc ms (xqI Q) := by
  exact yw_iret dX10_space_47 rfl k
theorem eX10_space {v1 : Int32} {v2 : Int32} {h : xHp} {Q : Int32 → xHp → Prop} (k : Ex mX10_space 0 [.ref 209, .int v1, .int v2, xU] [] h 0 0 (xqI Q)) : CI mX10_space [.ref 209, .int v1, .int v2] h Q := k
theorem bX10_summed_0 {v1 v2 v3 : Int32} {mc ms : Nat} {Q : Int32 → xHp → Prop} (hW : xLay sh R) 
    (k : CI mX10_firstOf [.ref 209, .int v2] (sh, I, R) (fun w h1 => Ex mX10_summed 8 [.ref 209, .int v1, .int v2, .int v3, .int (nI 0), xU, xU] (.int w :: []) h1 mc ms (xqI Q))) :
    Ex mX10_summed 0 [.ref 209, .int v1, .int v2, .int v3, xU, xU, xU] [] (sh, I, R) mc ms (xqI Q) := by
  refine xw_iconst (v := nI 0) dX10_summed_0 rfl ?_
  refine yw_istore (lv' := [.ref 209, .int v1, .int v2, .int v3, .int (nI 0), xU, xU]) dX10_summed_1 rfl rfl rfl ?_
  refine xw_aload_n dX10_summed_3 rfl rfl ?_
  refine xw_iload_n dX10_summed_4 rfl rfl ?_
  exact yw_cV (As := [.int v2]) (b := 209) (st := []) dX10_summed_5 lX10_89 kiX10_firstOf kvX10_firstOf rfl rfl rfl (la_209 hW) rfl (Nat.le_of_ble_eq_true rfl) rfl (xk_I k)
theorem bX10_summed_8 {v1 v2 v3 v4 s0 : Int32} {mc ms : Nat} {Q : Int32 → xHp → Prop} (hW : xLay sh R) 
    (k : Ex mX10_summed 10 [.ref 209, .int v1, .int v2, .int v3, .int v4, .int s0, xU] [] (sh, I, R) mc ms (xqI Q)) :
    Ex mX10_summed 8 [.ref 209, .int v1, .int v2, .int v3, .int v4, xU, xU] [.int s0] (sh, I, R) mc ms (xqI Q) := by
  refine yw_istore (lv' := [.ref 209, .int v1, .int v2, .int v3, .int v4, .int s0, xU]) dX10_summed_8 rfl rfl rfl ?_
  exact k
theorem bX10_summed_10 {v1 v2 v3 v4 v5 : Int32} {mc ms : Nat} {Q : Int32 → xHp → Prop} (hW : xLay sh R) 
    (k : CI mX10_firstOf [.ref 209, .int (v2 + (nI 1))] (sh, I, R) (fun w h1 => Ex mX10_summed 19 [.ref 209, .int v1, .int v2, .int v3, .int v4, .int v5, xU] (.int w :: [.int v5]) h1 mc ms (xqI Q))) :
    Ex mX10_summed 10 [.ref 209, .int v1, .int v2, .int v3, .int v4, .int v5, xU] [] (sh, I, R) mc ms (xqI Q) := by
  refine xw_iload dX10_summed_10 rfl ?_
  refine xw_aload_n dX10_summed_12 rfl rfl ?_
  refine xw_iload_n dX10_summed_13 rfl rfl ?_
  refine xw_iconst (v := nI 1) dX10_summed_14 rfl ?_
  refine xw_iadd dX10_summed_15 ?_
  exact yw_cV (As := [.int (v2 + (nI 1))]) (b := 209) (st := [.int v5]) dX10_summed_16 lX10_89 kiX10_firstOf kvX10_firstOf rfl rfl rfl (la_209 hW) rfl (Nat.le_of_ble_eq_true rfl) rfl (xk_I k)
theorem bX10_summed_19 {v1 v2 v3 v4 v5 s1 s0 : Int32} {mc ms : Nat} {Q : Int32 → xHp → Prop} (hW : xLay sh R) 
    (k : ((s1 ≤ s0 → Q v4 (sh, I, R)) ∧ (¬ s1 ≤ s0 → CI mX10_valueOf [.ref 209, .int v1, .int v5] (sh, I, R) (fun w h1 => Ex mX10_summed 29 [.ref 209, .int v1, .int v2, .int v3, .int v4, .int v5, xU] (.int w :: []) h1 mc ms (xqI Q))))) :
    Ex mX10_summed 19 [.ref 209, .int v1, .int v2, .int v3, .int v4, .int v5, xU] [.int s1, .int s0] (sh, I, R) mc ms (xqI Q) := by
  refine xw_icge (tgt := 61) dX10_summed_19 (by decide) (fun c => ?_) (fun c => ?_)
  · replace k := k.1 c
    refine xw_iload dX10_summed_61 rfl ?_
    exact yw_iret dX10_summed_63 rfl k
  · replace k := k.2 c
    refine xw_aload_n dX10_summed_22 rfl rfl ?_
    refine xw_iload_n dX10_summed_23 rfl rfl ?_
    refine xw_iload dX10_summed_24 rfl ?_
    exact yw_cV (As := [.int v1, .int v5]) (b := 209) (st := []) dX10_summed_26 lX10_112 kiX10_valueOf kvX10_valueOf rfl rfl rfl (la_209 hW) rfl (Nat.le_of_ble_eq_true rfl) rfl (xk_I k)
theorem bX10_summed_29 {v1 v2 v3 v4 v5 s0 : Int32} {mc ms : Nat} {Q : Int32 → xHp → Prop} (hW : xLay sh R) 
    (k : ((v3 = 0 → Ex mX10_summed 10 [.ref 209, .int v1, .int v2, .int v3, .int (v4 + s0), .int (v5 + nI 1), xU] [] (sh, I, R) mc ms (xqI Q)) ∧ (¬ v3 = 0 → ((¬ s0 = 0 → Ex mX10_summed 10 [.ref 209, .int v1, .int v2, .int v3, .int (v4 + (nI 0)), .int (v5 + nI 1), xU] [] (sh, I, R) mc ms (xqI Q)) ∧ (s0 = 0 → Ex mX10_summed 10 [.ref 209, .int v1, .int v2, .int v3, .int (v4 + (nI 1)), .int (v5 + nI 1), xU] [] (sh, I, R) mc ms (xqI Q)))))) :
    Ex mX10_summed 29 [.ref 209, .int v1, .int v2, .int v3, .int v4, .int v5, xU] [.int s0] (sh, I, R) mc ms (xqI Q) := by
  refine yw_istore (lv' := [.ref 209, .int v1, .int v2, .int v3, .int v4, .int v5, .int s0]) dX10_summed_29 rfl rfl rfl ?_
  refine xw_iload dX10_summed_31 rfl ?_
  refine xw_iload_n dX10_summed_33 rfl rfl ?_
  refine xw_ifeq (tgt := 50) dX10_summed_34 (by decide) (fun c => ?_) (fun c => ?_)
  · replace k := k.1 c
    refine xw_iload dX10_summed_50 rfl ?_
    refine xw_iadd dX10_summed_52 ?_
    refine yw_istore (lv' := [.ref 209, .int v1, .int v2, .int v3, .int (v4 + s0), .int v5, .int s0]) dX10_summed_53 rfl rfl rfl ?_
    refine yw_iinc (lv' := [.ref 209, .int v1, .int v2, .int v3, .int (v4 + s0), .int (v5 + nI 1), .int s0]) (v := nI 1) dX10_summed_55 rfl rfl rfl rfl rfl ?_
    refine xw_goto (tgt := 10) dX10_summed_58 (by decide) ?_
    exact yw_sub (lv' := [.ref 209, .int v1, .int v2, .int v3, .int (v4 + s0), .int (v5 + nI 1), xU]) ⟨Or.inr rfl, Or.inr rfl, Or.inr rfl, Or.inr rfl, Or.inr rfl, Or.inr rfl, Or.inl rfl, trivial⟩ k
  · replace k := k.2 c
    refine xw_iload dX10_summed_37 rfl ?_
    refine xw_ifne (tgt := 46) dX10_summed_39 (by decide) (fun c => ?_) (fun c => ?_)
    · replace k := k.1 c
      refine xw_iconst (v := nI 0) dX10_summed_46 rfl ?_
      refine xw_goto (tgt := 52) dX10_summed_47 (by decide) ?_
      refine xw_iadd dX10_summed_52 ?_
      refine yw_istore (lv' := [.ref 209, .int v1, .int v2, .int v3, .int (v4 + (nI 0)), .int v5, .int s0]) dX10_summed_53 rfl rfl rfl ?_
      refine yw_iinc (lv' := [.ref 209, .int v1, .int v2, .int v3, .int (v4 + (nI 0)), .int (v5 + nI 1), .int s0]) (v := nI 1) dX10_summed_55 rfl rfl rfl rfl rfl ?_
      refine xw_goto (tgt := 10) dX10_summed_58 (by decide) ?_
      exact yw_sub (lv' := [.ref 209, .int v1, .int v2, .int v3, .int (v4 + (nI 0)), .int (v5 + nI 1), xU]) ⟨Or.inr rfl, Or.inr rfl, Or.inr rfl, Or.inr rfl, Or.inr rfl, Or.inr rfl, Or.inl rfl, trivial⟩ k
    · replace k := k.2 c
      refine xw_iconst (v := nI 1) dX10_summed_42 rfl ?_
      refine xw_goto (tgt := 52) dX10_summed_43 (by decide) ?_
      refine xw_iadd dX10_summed_52 ?_
      refine yw_istore (lv' := [.ref 209, .int v1, .int v2, .int v3, .int (v4 + (nI 1)), .int v5, .int s0]) dX10_summed_53 rfl rfl rfl ?_
      refine yw_iinc (lv' := [.ref 209, .int v1, .int v2, .int v3, .int (v4 + (nI 1)), .int (v5 + nI 1), .int s0]) (v := nI 1) dX10_summed_55 rfl rfl rfl rfl rfl ?_
      refine xw_goto (tgt := 10) dX10_summed_58 (by decide) ?_
      exact yw_sub (lv' := [.ref 209, .int v1, .int v2, .int v3, .int (v4 + (nI 1)), .int (v5 + nI 1), xU]) ⟨Or.inr rfl, Or.inr rfl, Or.inr rfl, Or.inr rfl, Or.inr rfl, Or.inr rfl, Or.inl rfl, trivial⟩ k
theorem eX10_summed {v1 : Int32} {v2 : Int32} {v3 : Int32} {h : xHp} {Q : Int32 → xHp → Prop} (k : Ex mX10_summed 0 [.ref 209, .int v1, .int v2, .int v3, xU, xU, xU] [] h 0 0 (xqI Q)) : CI mX10_summed [.ref 209, .int v1, .int v2, .int v3] h Q := k
theorem bX10_share_0 {v1 v2 : Int32} {mc ms : Nat} {Q : Int32 → xHp → Prop} (hW : xLay sh R) 
    (k : CI mX10_in [.long v2.toInt64, .long (lN 0), .long (6 : Int64)] (sh, I, R) (fun w h1 => Ex mX10_share 9 [.ref 209, .int v1, .int v2, xU] (.int w :: []) h1 mc ms (xqI Q))) :
    Ex mX10_share 0 [.ref 209, .int v1, .int v2, xU] [] (sh, I, R) mc ms (xqI Q) := by
  refine xw_iload_n dX10_share_0 rfl rfl ?_
  refine xw_i2l dX10_share_1 ?_
  refine xw_lconst (v := lN 0) dX10_share_2 rfl ?_
  refine xw_ldcL dX10_share_3 cX10_315 ?_
  exact yw_cS (As := [.long v2.toInt64, .long (lN 0), .long (6 : Int64)]) (st := []) dX10_share_6 lX10_181 ksX10_in rfl rfl rfl (Nat.le_of_ble_eq_true rfl) rfl (xk_I k)
theorem bX10_share_9 {v1 v2 s0 : Int32} {mc ms : Nat} {Q : Int32 → xHp → Prop} (hW : xLay sh R) 
    (k : ((s0 = 0 → Q (-1) (sh, I, R)) ∧ (¬ s0 = 0 → CI mX10_wrong [.ref 209, .int v1] (sh, I, R) (fun w h1 => Ex mX10_share 17 [.ref 209, .int v1, .int v2, xU] (.int w :: []) h1 mc ms (xqI Q))))) :
    Ex mX10_share 9 [.ref 209, .int v1, .int v2, xU] [.int s0] (sh, I, R) mc ms (xqI Q) := by
  refine xw_ifeq (tgt := 20) dX10_share_9 (by decide) (fun c => ?_) (fun c => ?_)
  · replace k := k.1 c
    refine xw_iconst (v := (-1)) dX10_share_20 rfl ?_
    refine yw_istore_n (lv' := [.ref 209, .int v1, .int v2, .int (-1)]) dX10_share_21 rfl rfl rfl rfl ?_
    refine xw_iload_n dX10_share_22 rfl rfl ?_
    refine xw_ifeq (tgt := 28) dX10_share_23 (by decide) (fun c => absurd c (by decide)) (fun _ => ?_)
    refine xw_iload_n dX10_share_26 rfl rfl ?_
    exact yw_iret dX10_share_27 rfl k
  · replace k := k.2 c
    refine xw_aload_n dX10_share_12 rfl rfl ?_
    refine xw_iload_n dX10_share_13 rfl rfl ?_
    exact yw_cV (As := [.int v1]) (b := 209) (st := []) dX10_share_14 lX10_288 kiX10_wrong kvX10_wrong rfl rfl rfl (la_209 hW) rfl (Nat.le_of_ble_eq_true rfl) rfl (xk_I k)
theorem bX10_share_17 {v1 v2 s0 : Int32} {mc ms : Nat} {Q : Int32 → xHp → Prop} (hW : xLay sh R) 
    (k : ((s0 = 0 → CI mX10_summed [.ref 209, .int v1, .int v2, .int (nI 1)] (sh, I, R) (fun w h1 => Ex mX10_share 35 [.ref 209, xU, .int v2, xU] (.int w :: []) h1 mc ms (xqI Q))) ∧ (¬ s0 = 0 → Q s0 (sh, I, R)))) :
    Ex mX10_share 17 [.ref 209, .int v1, .int v2, xU] [.int s0] (sh, I, R) mc ms (xqI Q) := by
  refine xw_goto (tgt := 21) dX10_share_17 (by decide) ?_
  refine yw_istore_n (lv' := [.ref 209, .int v1, .int v2, .int s0]) dX10_share_21 rfl rfl rfl rfl ?_
  refine xw_iload_n dX10_share_22 rfl rfl ?_
  refine xw_ifeq (tgt := 28) dX10_share_23 (by decide) (fun c => ?_) (fun c => ?_)
  · replace k := k.1 c
    refine xw_aload_n dX10_share_28 rfl rfl ?_
    refine xw_iload_n dX10_share_29 rfl rfl ?_
    refine xw_iload_n dX10_share_30 rfl rfl ?_
    refine xw_iconst (v := nI 1) dX10_share_31 rfl ?_
    refine yw_sub (lv' := [.ref 209, xU, .int v2, xU]) ⟨Or.inr rfl, Or.inl rfl, Or.inr rfl, Or.inl rfl, trivial⟩ ?_
    exact yw_cV (As := [.int v1, .int v2, .int (nI 1)]) (b := 209) (st := []) dX10_share_32 lX10_317 kiX10_summed kvX10_summed rfl rfl rfl (la_209 hW) rfl (Nat.le_of_ble_eq_true rfl) rfl (xk_I k)
  · replace k := k.2 c
    refine xw_iload_n dX10_share_26 rfl rfl ?_
    exact yw_iret dX10_share_27 rfl k
theorem bX10_share_35 {v2 s0 : Int32} {mc ms : Nat} {Q : Int32 → xHp → Prop} (hW : xLay sh R) 
    (k : CI mX10_power [.ref 209, .int v2] (sh, I, R) (fun w h1 => Ex mX10_share 41 [xU, xU, xU, xU] (.int w :: [.float (FP.i2f s0)]) h1 mc ms (xqI Q))) :
    Ex mX10_share 35 [.ref 209, xU, .int v2, xU] [.int s0] (sh, I, R) mc ms (xqI Q) := by
  refine xw_i2f dX10_share_35 ?_
  refine xw_aload_n dX10_share_36 rfl rfl ?_
  refine xw_iload_n dX10_share_37 rfl rfl ?_
  refine yw_sub (lv' := [xU, xU, xU, xU]) ⟨Or.inl rfl, Or.inl rfl, Or.inl rfl, Or.inl rfl, trivial⟩ ?_
  exact yw_cV (As := [.int v2]) (b := 209) (st := [.float (FP.i2f s0)]) dX10_share_38 lX10_85 kiX10_power kvX10_power rfl rfl rfl (la_209 hW) rfl (Nat.le_of_ble_eq_true rfl) rfl (xk_I k)
theorem bX10_share_41 {s1 : Int32} {s0 : UInt32} {mc ms : Nat} {Q : Int32 → xHp → Prop} (hW : xLay sh R) 
    (k : vf_n32 (FP.fdiv s0 (FP.i2f s1)) ∧ CI mJxf58ca_floatToIntBits_5c35a [.float (FP.fdiv s0 (FP.i2f s1))] (sh, I, R) (fun w h1 => Ex mX10_share 46 [xU, xU, xU, xU] (.int w :: []) h1 mc ms (xqI Q))) :
    Ex mX10_share 41 [xU, xU, xU, xU] [.int s1, .float s0] (sh, I, R) mc ms (xqI Q) := by
  refine xw_i2f dX10_share_41 ?_
  obtain ⟨k0, k⟩ := k
  refine xw_fdiv dX10_share_42 k0 ?_
  exact yw_cS (As := [.float (FP.fdiv s0 (FP.i2f s1))]) (st := []) dX10_share_43 lX10_321 ksJxf58ca_floatToIntBits_5c35a rfl rfl rfl (Nat.le_of_ble_eq_true rfl) rfl (xk_I k)
theorem bX10_share_46 {s0 : Int32} {mc ms : Nat} {Q : Int32 → xHp → Prop} (hW : xLay sh R) 
    (k : Q s0 (sh, I, R)) :
    Ex mX10_share 46 [xU, xU, xU, xU] [.int s0] (sh, I, R) mc ms (xqI Q) := by
  exact yw_iret dX10_share_46 rfl k
theorem eX10_share {v1 : Int32} {v2 : Int32} {h : xHp} {Q : Int32 → xHp → Prop} (k : Ex mX10_share 0 [.ref 209, .int v1, .int v2, xU] [] h 0 0 (xqI Q)) : CI mX10_share [.ref 209, .int v1, .int v2] h Q := k
theorem bX10_mean_0 {v1 v2 : Int32} {mc ms : Nat} {Q : Int64 → xHp → Prop} (hW : xLay sh R) 
    (k : CI mX10_in [.long v2.toInt64, .long (lN 0), .long (6 : Int64)] (sh, I, R) (fun w h1 => Ex mX10_mean 9 [.ref 209, .int v1, .int v2, xU] (.int w :: []) h1 mc ms (xqJ Q))) :
    Ex mX10_mean 0 [.ref 209, .int v1, .int v2, xU] [] (sh, I, R) mc ms (xqJ Q) := by
  refine xw_iload_n dX10_mean_0 rfl rfl ?_
  refine xw_i2l dX10_mean_1 ?_
  refine xw_lconst (v := lN 0) dX10_mean_2 rfl ?_
  refine xw_ldcL dX10_mean_3 cX10_315 ?_
  exact yw_cS (As := [.long v2.toInt64, .long (lN 0), .long (6 : Int64)]) (st := []) dX10_mean_6 lX10_181 ksX10_in rfl rfl rfl (Nat.le_of_ble_eq_true rfl) rfl (xk_I k)
theorem bX10_mean_9 {v1 v2 s0 : Int32} {mc ms : Nat} {Q : Int64 → xHp → Prop} (hW : xLay sh R) 
    (k : ((s0 = 0 → Q ((-1).toInt64) (sh, I, R)) ∧ (¬ s0 = 0 → CI mX10_wrong [.ref 209, .int v1] (sh, I, R) (fun w h1 => Ex mX10_mean 17 [.ref 209, .int v1, .int v2, xU] (.int w :: []) h1 mc ms (xqJ Q))))) :
    Ex mX10_mean 9 [.ref 209, .int v1, .int v2, xU] [.int s0] (sh, I, R) mc ms (xqJ Q) := by
  refine xw_ifeq (tgt := 20) dX10_mean_9 (by decide) (fun c => ?_) (fun c => ?_)
  · replace k := k.1 c
    refine xw_iconst (v := (-1)) dX10_mean_20 rfl ?_
    refine yw_istore_n (lv' := [.ref 209, .int v1, .int v2, .int (-1)]) dX10_mean_21 rfl rfl rfl rfl ?_
    refine xw_iload_n dX10_mean_22 rfl rfl ?_
    refine xw_ifeq (tgt := 29) dX10_mean_23 (by decide) (fun c => absurd c (by decide)) (fun _ => ?_)
    refine xw_iload_n dX10_mean_26 rfl rfl ?_
    refine xw_i2l dX10_mean_27 ?_
    exact yw_lret dX10_mean_28 rfl k
  · replace k := k.2 c
    refine xw_aload_n dX10_mean_12 rfl rfl ?_
    refine xw_iload_n dX10_mean_13 rfl rfl ?_
    exact yw_cV (As := [.int v1]) (b := 209) (st := []) dX10_mean_14 lX10_288 kiX10_wrong kvX10_wrong rfl rfl rfl (la_209 hW) rfl (Nat.le_of_ble_eq_true rfl) rfl (xk_I k)
theorem bX10_mean_17 {v1 v2 s0 : Int32} {mc ms : Nat} {Q : Int64 → xHp → Prop} (hW : xLay sh R) 
    (k : ((s0 = 0 → CI mX10_summed [.ref 209, .int v1, .int v2, .int (nI 0)] (sh, I, R) (fun w h1 => Ex mX10_mean 36 [.ref 209, xU, .int v2, xU] (.int w :: []) h1 mc ms (xqJ Q))) ∧ (¬ s0 = 0 → Q s0.toInt64 (sh, I, R)))) :
    Ex mX10_mean 17 [.ref 209, .int v1, .int v2, xU] [.int s0] (sh, I, R) mc ms (xqJ Q) := by
  refine xw_goto (tgt := 21) dX10_mean_17 (by decide) ?_
  refine yw_istore_n (lv' := [.ref 209, .int v1, .int v2, .int s0]) dX10_mean_21 rfl rfl rfl rfl ?_
  refine xw_iload_n dX10_mean_22 rfl rfl ?_
  refine xw_ifeq (tgt := 29) dX10_mean_23 (by decide) (fun c => ?_) (fun c => ?_)
  · replace k := k.1 c
    refine xw_aload_n dX10_mean_29 rfl rfl ?_
    refine xw_iload_n dX10_mean_30 rfl rfl ?_
    refine xw_iload_n dX10_mean_31 rfl rfl ?_
    refine xw_iconst (v := nI 0) dX10_mean_32 rfl ?_
    refine yw_sub (lv' := [.ref 209, xU, .int v2, xU]) ⟨Or.inr rfl, Or.inl rfl, Or.inr rfl, Or.inl rfl, trivial⟩ ?_
    exact yw_cV (As := [.int v1, .int v2, .int (nI 0)]) (b := 209) (st := []) dX10_mean_33 lX10_317 kiX10_summed kvX10_summed rfl rfl rfl (la_209 hW) rfl (Nat.le_of_ble_eq_true rfl) rfl (xk_I k)
  · replace k := k.2 c
    refine xw_iload_n dX10_mean_26 rfl rfl ?_
    refine xw_i2l dX10_mean_27 ?_
    exact yw_lret dX10_mean_28 rfl k
theorem bX10_mean_36 {v2 s0 : Int32} {mc ms : Nat} {Q : Int64 → xHp → Prop} (hW : xLay sh R) 
    (k : CI mX10_power [.ref 209, .int v2] (sh, I, R) (fun w h1 => Ex mX10_mean 42 [xU, xU, xU, xU] (.int w :: [.double (FP.i2d s0)]) h1 mc ms (xqJ Q))) :
    Ex mX10_mean 36 [.ref 209, xU, .int v2, xU] [.int s0] (sh, I, R) mc ms (xqJ Q) := by
  refine xw_i2d dX10_mean_36 ?_
  refine xw_aload_n dX10_mean_37 rfl rfl ?_
  refine xw_iload_n dX10_mean_38 rfl rfl ?_
  refine yw_sub (lv' := [xU, xU, xU, xU]) ⟨Or.inl rfl, Or.inl rfl, Or.inl rfl, Or.inl rfl, trivial⟩ ?_
  exact yw_cV (As := [.int v2]) (b := 209) (st := [.double (FP.i2d s0)]) dX10_mean_39 lX10_85 kiX10_power kvX10_power rfl rfl rfl (la_209 hW) rfl (Nat.le_of_ble_eq_true rfl) rfl (xk_I k)
theorem bX10_mean_42 {s1 : Int32} {s0 : UInt64} {mc ms : Nat} {Q : Int64 → xHp → Prop} (hW : xLay sh R) 
    (k : vf_n64 (FP.ddiv s0 (FP.i2d s1)) ∧ CJ mJxe99ae_doubleToLongBits_ccdee [.double (FP.ddiv s0 (FP.i2d s1))] (sh, I, R) (fun w h1 => Ex mX10_mean 47 [xU, xU, xU, xU] (.long w :: []) h1 mc ms (xqJ Q))) :
    Ex mX10_mean 42 [xU, xU, xU, xU] [.int s1, .double s0] (sh, I, R) mc ms (xqJ Q) := by
  refine xw_i2d dX10_mean_42 ?_
  obtain ⟨k0, k⟩ := k
  refine xw_ddiv dX10_mean_43 k0 ?_
  exact yw_cS (As := [.double (FP.ddiv s0 (FP.i2d s1))]) (st := []) dX10_mean_44 lX10_327 ksJxe99ae_doubleToLongBits_ccdee rfl rfl rfl (Nat.le_of_ble_eq_true rfl) rfl (xk_J k)
theorem bX10_mean_47 {s0 : Int64} {mc ms : Nat} {Q : Int64 → xHp → Prop} (hW : xLay sh R) 
    (k : Q s0 (sh, I, R)) :
    Ex mX10_mean 47 [xU, xU, xU, xU] [.long s0] (sh, I, R) mc ms (xqJ Q) := by
  exact yw_lret dX10_mean_47 rfl k
theorem eX10_mean {v1 : Int32} {v2 : Int32} {h : xHp} {Q : Int64 → xHp → Prop} (k : Ex mX10_mean 0 [.ref 209, .int v1, .int v2, xU] [] h 0 0 (xqJ Q)) : CJ mX10_mean [.ref 209, .int v1, .int v2] h Q := k
theorem bX10_prefix_0 {v1 : Int32} {mc ms : Nat} {Q : Int32 → xHp → Prop} (hW : xLay sh R) 
    (k : ((0 ≤ v1 → (((I 209 10) ≤ v1 → Q (-4) (sh, I, R)) ∧ (¬ (I 209 10) ≤ v1 → vp_in v1 5 ∧ Q (I 215 v1.toNatClampNeg) (sh, I, R)))) ∧ (¬ 0 ≤ v1 → Q (-1) (sh, I, R)))) :
    Ex mX10_prefix 0 [.ref 209, .int v1] [] (sh, I, R) mc ms (xqI Q) := by
  refine xw_iload_n dX10_prefix_0 rfl rfl ?_
  refine xw_ifge (tgt := 8) dX10_prefix_1 (by decide) (fun c => ?_) (fun c => ?_)
  · replace k := k.1 c
    refine xw_iload_n dX10_prefix_8 rfl rfl ?_
    refine xw_aload_n dX10_prefix_9 rfl rfl ?_
    refine yw_getI (v := I 209 10) dX10_prefix_10 fX10_126 rfl (la_209 hW) rfl ?_
    refine xw_icge (tgt := 25) dX10_prefix_13 (by decide) (fun c => ?_) (fun c => ?_)
    · replace k := k.1 c
      refine xw_bipush (v := (-4)) dX10_prefix_25 (by decide) ?_
      exact yw_iret dX10_prefix_27 rfl k
    · replace k := k.2 c
      refine xw_aload_n dX10_prefix_16 rfl rfl ?_
      refine yw_getR (r := 215) dX10_prefix_17 fX10_32 rfl (la_209 hW) (lr_209_8 hW) ?_
      refine xw_iload_n dX10_prefix_20 rfl rfl ?_
      obtain ⟨k0, k⟩ := k
      refine yw_iaload (v := I 215 v1.toNatClampNeg) dX10_prefix_21 (la_215 hW) k0 rfl ?_
      refine xw_goto (tgt := 27) dX10_prefix_22 (by decide) ?_
      exact yw_iret dX10_prefix_27 rfl k
  · replace k := k.2 c
    refine xw_iconst (v := (-1)) dX10_prefix_4 rfl ?_
    refine xw_goto (tgt := 27) dX10_prefix_5 (by decide) ?_
    exact yw_iret dX10_prefix_27 rfl k
theorem eX10_prefix {v1 : Int32} {h : xHp} {Q : Int32 → xHp → Prop} (k : Ex mX10_prefix 0 [.ref 209, .int v1] [] h 0 0 (xqI Q)) : CI mX10_prefix [.ref 209, .int v1] h Q := k
theorem bX10_suffix_0 {v1 : Int32} {mc ms : Nat} {Q : Int32 → xHp → Prop} (hW : xLay sh R) 
    (k : ((0 ≤ v1 → (((I 209 11) ≤ v1 → Q (-4) (sh, I, R)) ∧ (¬ (I 209 11) ≤ v1 → vp_in v1 60 ∧ Q (I 216 v1.toNatClampNeg) (sh, I, R)))) ∧ (¬ 0 ≤ v1 → Q (-1) (sh, I, R)))) :
    Ex mX10_suffix 0 [.ref 209, .int v1] [] (sh, I, R) mc ms (xqI Q) := by
  refine xw_iload_n dX10_suffix_0 rfl rfl ?_
  refine xw_ifge (tgt := 8) dX10_suffix_1 (by decide) (fun c => ?_) (fun c => ?_)
  · replace k := k.1 c
    refine xw_iload_n dX10_suffix_8 rfl rfl ?_
    refine xw_aload_n dX10_suffix_9 rfl rfl ?_
    refine yw_getI (v := I 209 11) dX10_suffix_10 fX10_129 rfl (la_209 hW) rfl ?_
    refine xw_icge (tgt := 25) dX10_suffix_13 (by decide) (fun c => ?_) (fun c => ?_)
    · replace k := k.1 c
      refine xw_bipush (v := (-4)) dX10_suffix_25 (by decide) ?_
      exact yw_iret dX10_suffix_27 rfl k
    · replace k := k.2 c
      refine xw_aload_n dX10_suffix_16 rfl rfl ?_
      refine yw_getR (r := 216) dX10_suffix_17 fX10_35 rfl (la_209 hW) (lr_209_9 hW) ?_
      refine xw_iload_n dX10_suffix_20 rfl rfl ?_
      obtain ⟨k0, k⟩ := k
      refine yw_iaload (v := I 216 v1.toNatClampNeg) dX10_suffix_21 (la_216 hW) k0 rfl ?_
      refine xw_goto (tgt := 27) dX10_suffix_22 (by decide) ?_
      exact yw_iret dX10_suffix_27 rfl k
  · replace k := k.2 c
    refine xw_iconst (v := (-1)) dX10_suffix_4 rfl ?_
    refine xw_goto (tgt := 27) dX10_suffix_5 (by decide) ?_
    exact yw_iret dX10_suffix_27 rfl k
theorem eX10_suffix {v1 : Int32} {h : xHp} {Q : Int32 → xHp → Prop} (k : Ex mX10_suffix 0 [.ref 209, .int v1] [] h 0 0 (xqI Q)) : CI mX10_suffix [.ref 209, .int v1] h Q := k
theorem bX10_isRow_0 {v1 : Int32} {mc ms : Nat} {Q : Int32 → xHp → Prop} (hW : xLay sh R) 
    (k : CI mX10_in [.long v1.toInt64, .long (lN 0), .long ((((I 209 10) * ((I 209 2) + (nI 1))) - (nI 1)).toInt64)] (sh, I, R) (fun w h1 => Ex mX10_isRow 20 [xU, xU] (.int w :: []) h1 mc ms (xqI Q))) :
    Ex mX10_isRow 0 [.ref 209, .int v1] [] (sh, I, R) mc ms (xqI Q) := by
  refine xw_iload_n dX10_isRow_0 rfl rfl ?_
  refine xw_i2l dX10_isRow_1 ?_
  refine xw_lconst (v := lN 0) dX10_isRow_2 rfl ?_
  refine xw_aload_n dX10_isRow_3 rfl rfl ?_
  refine yw_getI (v := I 209 10) dX10_isRow_4 fX10_126 rfl (la_209 hW) rfl ?_
  refine xw_aload_n dX10_isRow_7 rfl rfl ?_
  refine yw_getI (v := I 209 2) dX10_isRow_8 fX10_17 rfl (la_209 hW) rfl ?_
  refine xw_iconst (v := nI 1) dX10_isRow_11 rfl ?_
  refine xw_iadd dX10_isRow_12 ?_
  refine xw_imul dX10_isRow_13 ?_
  refine xw_iconst (v := nI 1) dX10_isRow_14 rfl ?_
  refine xw_isub dX10_isRow_15 ?_
  refine xw_i2l dX10_isRow_16 ?_
  refine yw_sub (lv' := [xU, xU]) ⟨Or.inl rfl, Or.inl rfl, trivial⟩ ?_
  exact yw_cS (As := [.long v1.toInt64, .long (lN 0), .long ((((I 209 10) * ((I 209 2) + (nI 1))) - (nI 1)).toInt64)]) (st := []) dX10_isRow_17 lX10_181 ksX10_in rfl rfl rfl (Nat.le_of_ble_eq_true rfl) rfl (xk_I k)
theorem bX10_isRow_20 {s0 : Int32} {mc ms : Nat} {Q : Int32 → xHp → Prop} (hW : xLay sh R) 
    (k : (s0 = 0 ∨ s0 = 1) ∧ Q s0 (sh, I, R)) :
    Ex mX10_isRow 20 [xU, xU] [.int s0] (sh, I, R) mc ms (xqI Q) := by
  exact yw_zret dX10_isRow_20 rfl (narrow_z _ k.1) k.2
theorem eX10_isRow {v1 : Int32} {h : xHp} {Q : Int32 → xHp → Prop} (k : Ex mX10_isRow 0 [.ref 209, .int v1] [] h 0 0 (xqI Q)) : CI mX10_isRow [.ref 209, .int v1] h Q := k
theorem bX10_rowWord_0 {v1 : Int32} {mc ms : Nat} {Q : Int32 → xHp → Prop} (hW : xLay sh R) 
    (k : ((0 ≤ (v1 - (I 209 10)) → ¬ I 209 2 = 0 ∧ vp_in ((v1 - (I 209 10)) / (I 209 2)) 5 ∧ ¬ I 209 2 = 0 ∧ CI mX10_oneOf [.int (xrem (v1 - (I 209 10)) (I 209 2))] (sh, I, R) (fun w h1 => Ex mX10_rowWord 41 [xU, xU, xU] (.int w :: [.int (I 215 (((v1 - (I 209 10)) / (I 209 2)).toNatClampNeg)), .ref 209]) h1 mc ms (xqI Q))) ∧ (¬ 0 ≤ (v1 - (I 209 10)) → vp_in v1 5 ∧ Q (I 215 v1.toNatClampNeg) (sh, I, R)))) :
    Ex mX10_rowWord 0 [.ref 209, .int v1, xU] [] (sh, I, R) mc ms (xqI Q) := by
  refine xw_iload_n dX10_rowWord_0 rfl rfl ?_
  refine xw_aload_n dX10_rowWord_1 rfl rfl ?_
  refine yw_getI (v := I 209 10) dX10_rowWord_2 fX10_126 rfl (la_209 hW) rfl ?_
  refine xw_isub dX10_rowWord_5 ?_
  refine yw_istore_n (lv' := [.ref 209, .int v1, .int (v1 - (I 209 10))]) dX10_rowWord_6 rfl rfl rfl rfl ?_
  refine xw_iload_n dX10_rowWord_7 rfl rfl ?_
  refine xw_ifge (tgt := 20) dX10_rowWord_8 (by decide) (fun c => ?_) (fun c => ?_)
  · replace k := k.1 c
    refine xw_aload_n dX10_rowWord_20 rfl rfl ?_
    refine xw_aload_n dX10_rowWord_21 rfl rfl ?_
    refine yw_getR (r := 215) dX10_rowWord_22 fX10_32 rfl (la_209 hW) (lr_209_8 hW) ?_
    refine xw_iload_n dX10_rowWord_25 rfl rfl ?_
    refine xw_aload_n dX10_rowWord_26 rfl rfl ?_
    refine yw_getI (v := I 209 2) dX10_rowWord_27 fX10_17 rfl (la_209 hW) rfl ?_
    obtain ⟨k0, k⟩ := k
    refine xw_idiv dX10_rowWord_30 k0 ?_
    obtain ⟨k0, k⟩ := k
    refine yw_iaload (v := I 215 (((v1 - (I 209 10)) / (I 209 2)).toNatClampNeg)) dX10_rowWord_31 (la_215 hW) k0 rfl ?_
    refine xw_iload_n dX10_rowWord_32 rfl rfl ?_
    refine xw_aload_n dX10_rowWord_33 rfl rfl ?_
    refine yw_getI (v := I 209 2) dX10_rowWord_34 fX10_17 rfl (la_209 hW) rfl ?_
    obtain ⟨k0, k⟩ := k
    refine yw_irem dX10_rowWord_37 k0 ?_
    refine yw_sub (lv' := [xU, xU, xU]) ⟨Or.inl rfl, Or.inl rfl, Or.inl rfl, trivial⟩ ?_
    exact yw_cS (As := [.int (xrem (v1 - (I 209 10)) (I 209 2))]) (st := [.int (I 215 (((v1 - (I 209 10)) / (I 209 2)).toNatClampNeg)), .ref 209]) dX10_rowWord_38 lX10_149 ksX10_oneOf rfl rfl rfl (Nat.le_of_ble_eq_true rfl) rfl (xk_I k)
  · replace k := k.2 c
    refine xw_aload_n dX10_rowWord_11 rfl rfl ?_
    refine yw_getR (r := 215) dX10_rowWord_12 fX10_32 rfl (la_209 hW) (lr_209_8 hW) ?_
    refine xw_iload_n dX10_rowWord_15 rfl rfl ?_
    obtain ⟨k0, k⟩ := k
    refine yw_iaload (v := I 215 v1.toNatClampNeg) dX10_rowWord_16 (la_215 hW) k0 rfl ?_
    refine xw_goto (tgt := 44) dX10_rowWord_17 (by decide) ?_
    exact yw_iret dX10_rowWord_44 rfl k
theorem bX10_rowWord_41 {s2 s1 : Int32} {mc ms : Nat} {Q : Int32 → xHp → Prop} (hW : xLay sh R) 
    (k : CI mX10_joined [.ref 209, .int s1, .int s2] (sh, I, R) (fun w h1 => Ex mX10_rowWord 44 [xU, xU, xU] (.int w :: []) h1 mc ms (xqI Q))) :
    Ex mX10_rowWord 41 [xU, xU, xU] [.int s2, .int s1, .ref 209] (sh, I, R) mc ms (xqI Q) := by
  exact yw_cV (As := [.int s1, .int s2]) (b := 209) (st := []) dX10_rowWord_41 lX10_139 kiX10_joined kvX10_joined rfl rfl rfl (la_209 hW) rfl (Nat.le_of_ble_eq_true rfl) rfl (xk_I k)
theorem bX10_rowWord_44 {s0 : Int32} {mc ms : Nat} {Q : Int32 → xHp → Prop} (hW : xLay sh R) 
    (k : Q s0 (sh, I, R)) :
    Ex mX10_rowWord 44 [xU, xU, xU] [.int s0] (sh, I, R) mc ms (xqI Q) := by
  exact yw_iret dX10_rowWord_44 rfl k
theorem eX10_rowWord {v1 : Int32} {h : xHp} {Q : Int32 → xHp → Prop} (k : Ex mX10_rowWord 0 [.ref 209, .int v1, xU] [] h 0 0 (xqI Q)) : CI mX10_rowWord [.ref 209, .int v1] h Q := k
theorem bX10_cell_0 {v1 v2 : Int32} {mc ms : Nat} {Q : Int32 → xHp → Prop} (hW : xLay sh R) 
    (k : CI mX10_isRow [.ref 209, .int v1] (sh, I, R) (fun w h1 => Ex mX10_cell 5 [.ref 209, .int v1, .int v2] (.int w :: []) h1 mc ms (xqI Q))) :
    Ex mX10_cell 0 [.ref 209, .int v1, .int v2] [] (sh, I, R) mc ms (xqI Q) := by
  refine xw_aload_n dX10_cell_0 rfl rfl ?_
  refine xw_iload_n dX10_cell_1 rfl rfl ?_
  exact yw_cV (As := [.int v1]) (b := 209) (st := []) dX10_cell_2 lX10_333 kiX10_isRow kvX10_isRow rfl rfl rfl (la_209 hW) rfl (Nat.le_of_ble_eq_true rfl) rfl (xk_I k)
theorem bX10_cell_5 {v1 v2 s0 : Int32} {mc ms : Nat} {Q : Int32 → xHp → Prop} (hW : xLay sh R) 
    (k : ((s0 = 0 → Q (-1) (sh, I, R)) ∧ (¬ s0 = 0 → CI mX10_in [.long v2.toInt64, .long (lN 0), .long (((I 209 11) - (nI 1)).toInt64)] (sh, I, R) (fun w h1 => Ex mX10_cell 21 [.ref 209, .int v1, .int v2] (.int w :: []) h1 mc ms (xqI Q))))) :
    Ex mX10_cell 5 [.ref 209, .int v1, .int v2] [.int s0] (sh, I, R) mc ms (xqI Q) := by
  refine xw_ifeq (tgt := 47) dX10_cell_5 (by decide) (fun c => ?_) (fun c => ?_)
  · replace k := k.1 c
    refine xw_iconst (v := (-1)) dX10_cell_47 rfl ?_
    exact yw_iret dX10_cell_48 rfl k
  · replace k := k.2 c
    refine xw_iload_n dX10_cell_8 rfl rfl ?_
    refine xw_i2l dX10_cell_9 ?_
    refine xw_lconst (v := lN 0) dX10_cell_10 rfl ?_
    refine xw_aload_n dX10_cell_11 rfl rfl ?_
    refine yw_getI (v := I 209 11) dX10_cell_12 fX10_129 rfl (la_209 hW) rfl ?_
    refine xw_iconst (v := nI 1) dX10_cell_15 rfl ?_
    refine xw_isub dX10_cell_16 ?_
    refine xw_i2l dX10_cell_17 ?_
    exact yw_cS (As := [.long v2.toInt64, .long (lN 0), .long (((I 209 11) - (nI 1)).toInt64)]) (st := []) dX10_cell_18 lX10_181 ksX10_in rfl rfl rfl (Nat.le_of_ble_eq_true rfl) rfl (xk_I k)
theorem bX10_cell_21 {v1 v2 s0 : Int32} {mc ms : Nat} {Q : Int32 → xHp → Prop} (hW : xLay sh R) 
    (k : ((s0 = 0 → Q (-1) (sh, I, R)) ∧ (¬ s0 = 0 → CI mX10_rowWord [.ref 209, .int v1] (sh, I, R) (fun w h1 => Ex mX10_cell 32 [.ref 209, xU, .int v2] (.int w :: [.ref 209, .int (nI 0), .ref 209]) h1 mc ms (xqI Q))))) :
    Ex mX10_cell 21 [.ref 209, .int v1, .int v2] [.int s0] (sh, I, R) mc ms (xqI Q) := by
  refine xw_ifeq (tgt := 47) dX10_cell_21 (by decide) (fun c => ?_) (fun c => ?_)
  · replace k := k.1 c
    refine xw_iconst (v := (-1)) dX10_cell_47 rfl ?_
    exact yw_iret dX10_cell_48 rfl k
  · replace k := k.2 c
    refine xw_aload_n dX10_cell_24 rfl rfl ?_
    refine xw_iconst (v := nI 0) dX10_cell_25 rfl ?_
    refine xw_aload_n dX10_cell_26 rfl rfl ?_
    refine xw_aload_n dX10_cell_27 rfl rfl ?_
    refine xw_iload_n dX10_cell_28 rfl rfl ?_
    refine yw_sub (lv' := [.ref 209, xU, .int v2]) ⟨Or.inr rfl, Or.inl rfl, Or.inr rfl, trivial⟩ ?_
    exact yw_cV (As := [.int v1]) (b := 209) (st := [.ref 209, .int (nI 0), .ref 209]) dX10_cell_29 lX10_336 kiX10_rowWord kvX10_rowWord rfl rfl rfl (la_209 hW) rfl (Nat.le_of_ble_eq_true rfl) rfl (xk_I k)
theorem bX10_cell_32 {v2 s3 s1 : Int32} {mc ms : Nat} {Q : Int32 → xHp → Prop} (hW : xLay sh R) 
    (k : vp_in v2 60 ∧ CI mX10_joined [.ref 209, .int s3, .int (I 216 v2.toNatClampNeg)] (sh, I, R) (fun w h1 => Ex mX10_cell 41 [xU, xU, xU] (.int w :: [.int s1, .ref 209]) h1 mc ms (xqI Q))) :
    Ex mX10_cell 32 [.ref 209, xU, .int v2] [.int s3, .ref 209, .int s1, .ref 209] (sh, I, R) mc ms (xqI Q) := by
  refine xw_aload_n dX10_cell_32 rfl rfl ?_
  refine yw_getR (r := 216) dX10_cell_33 fX10_35 rfl (la_209 hW) (lr_209_9 hW) ?_
  refine xw_iload_n dX10_cell_36 rfl rfl ?_
  obtain ⟨k0, k⟩ := k
  refine yw_iaload (v := I 216 v2.toNatClampNeg) dX10_cell_37 (la_216 hW) k0 rfl ?_
  refine yw_sub (lv' := [xU, xU, xU]) ⟨Or.inl rfl, Or.inl rfl, Or.inl rfl, trivial⟩ ?_
  exact yw_cV (As := [.int s3, .int (I 216 v2.toNatClampNeg)]) (b := 209) (st := [.int s1, .ref 209]) dX10_cell_38 lX10_139 kiX10_joined kvX10_joined rfl rfl rfl (la_209 hW) rfl (Nat.le_of_ble_eq_true rfl) rfl (xk_I k)
theorem bX10_cell_41 {s2 s1 : Int32} {mc ms : Nat} {Q : Int32 → xHp → Prop} (hW : xLay sh R) 
    (k : CI mX10_valueOf [.ref 209, .int s1, .int s2] (sh, I, R) (fun w h1 => Ex mX10_cell 44 [xU, xU, xU] (.int w :: []) h1 mc ms (xqI Q))) :
    Ex mX10_cell 41 [xU, xU, xU] [.int s2, .int s1, .ref 209] (sh, I, R) mc ms (xqI Q) := by
  exact yw_cV (As := [.int s1, .int s2]) (b := 209) (st := []) dX10_cell_41 lX10_112 kiX10_valueOf kvX10_valueOf rfl rfl rfl (la_209 hW) rfl (Nat.le_of_ble_eq_true rfl) rfl (xk_I k)
theorem bX10_cell_44 {s0 : Int32} {mc ms : Nat} {Q : Int32 → xHp → Prop} (hW : xLay sh R) 
    (k : Q s0 (sh, I, R)) :
    Ex mX10_cell 44 [xU, xU, xU] [.int s0] (sh, I, R) mc ms (xqI Q) := by
  refine xw_goto (tgt := 48) dX10_cell_44 (by decide) ?_
  exact yw_iret dX10_cell_48 rfl k
theorem eX10_cell {v1 : Int32} {v2 : Int32} {h : xHp} {Q : Int32 → xHp → Prop} (k : Ex mX10_cell 0 [.ref 209, .int v1, .int v2] [] h 0 0 (xqI Q)) : CI mX10_cell [.ref 209, .int v1, .int v2] h Q := k
theorem bX10_part_0 {v1 v2 : Int32} {mc ms : Nat} {Q : Int32 → xHp → Prop} (hW : xLay sh R) 
    (k : CI mX10_isRow [.ref 209, .int v1] (sh, I, R) (fun w h1 => Ex mX10_part 5 [.ref 209, .int v1, .int v2] (.int w :: []) h1 mc ms (xqI Q))) :
    Ex mX10_part 0 [.ref 209, .int v1, .int v2] [] (sh, I, R) mc ms (xqI Q) := by
  refine xw_aload_n dX10_part_0 rfl rfl ?_
  refine xw_iload_n dX10_part_1 rfl rfl ?_
  exact yw_cV (As := [.int v1]) (b := 209) (st := []) dX10_part_2 lX10_333 kiX10_isRow kvX10_isRow rfl rfl rfl (la_209 hW) rfl (Nat.le_of_ble_eq_true rfl) rfl (xk_I k)
theorem bX10_part_5 {v1 v2 s0 : Int32} {mc ms : Nat} {Q : Int32 → xHp → Prop} (hW : xLay sh R) 
    (k : ((s0 = 0 → Q (-1) (sh, I, R)) ∧ (¬ s0 = 0 → CI mX10_in [.long v2.toInt64, .long (lN 0), .long (((I 209 10) - (nI 1)).toInt64)] (sh, I, R) (fun w h1 => Ex mX10_part 21 [.ref 209, .int v1, .int v2] (.int w :: []) h1 mc ms (xqI Q))))) :
    Ex mX10_part 5 [.ref 209, .int v1, .int v2] [.int s0] (sh, I, R) mc ms (xqI Q) := by
  refine xw_ifeq (tgt := 24) dX10_part_5 (by decide) (fun c => ?_) (fun c => ?_)
  · replace k := k.1 c
    refine xw_iconst (v := (-1)) dX10_part_24 rfl ?_
    exact yw_iret dX10_part_25 rfl k
  · replace k := k.2 c
    refine xw_iload_n dX10_part_8 rfl rfl ?_
    refine xw_i2l dX10_part_9 ?_
    refine xw_lconst (v := lN 0) dX10_part_10 rfl ?_
    refine xw_aload_n dX10_part_11 rfl rfl ?_
    refine yw_getI (v := I 209 10) dX10_part_12 fX10_126 rfl (la_209 hW) rfl ?_
    refine xw_iconst (v := nI 1) dX10_part_15 rfl ?_
    refine xw_isub dX10_part_16 ?_
    refine xw_i2l dX10_part_17 ?_
    exact yw_cS (As := [.long v2.toInt64, .long (lN 0), .long (((I 209 10) - (nI 1)).toInt64)]) (st := []) dX10_part_18 lX10_181 ksX10_in rfl rfl rfl (Nat.le_of_ble_eq_true rfl) rfl (xk_I k)
theorem bX10_part_21 {v1 v2 s0 : Int32} {mc ms : Nat} {Q : Int32 → xHp → Prop} (hW : xLay sh R) 
    (k : ((¬ s0 = 0 → CI mX10_rowWord [.ref 209, .int v1] (sh, I, R) (fun w h1 => Ex mX10_part 32 [.ref 209, xU, .int v2] (.int w :: [.ref 209]) h1 mc ms (xqI Q))) ∧ (s0 = 0 → Q (-1) (sh, I, R)))) :
    Ex mX10_part 21 [.ref 209, .int v1, .int v2] [.int s0] (sh, I, R) mc ms (xqI Q) := by
  refine xw_ifne (tgt := 26) dX10_part_21 (by decide) (fun c => ?_) (fun c => ?_)
  · replace k := k.1 c
    refine xw_aload_n dX10_part_26 rfl rfl ?_
    refine xw_aload_n dX10_part_27 rfl rfl ?_
    refine xw_iload_n dX10_part_28 rfl rfl ?_
    refine yw_sub (lv' := [.ref 209, xU, .int v2]) ⟨Or.inr rfl, Or.inl rfl, Or.inr rfl, trivial⟩ ?_
    exact yw_cV (As := [.int v1]) (b := 209) (st := [.ref 209]) dX10_part_29 lX10_336 kiX10_rowWord kvX10_rowWord rfl rfl rfl (la_209 hW) rfl (Nat.le_of_ble_eq_true rfl) rfl (xk_I k)
  · replace k := k.2 c
    refine xw_iconst (v := (-1)) dX10_part_24 rfl ?_
    exact yw_iret dX10_part_25 rfl k
theorem bX10_part_32 {v2 s1 : Int32} {mc ms : Nat} {Q : Int32 → xHp → Prop} (hW : xLay sh R) 
    (k : CI mX10_isTold [.ref 209, .int s1] (sh, I, R) (fun w h1 => Ex mX10_part 35 [.ref 209, xU, .int v2] (.int w :: []) h1 mc ms (xqI Q))) :
    Ex mX10_part 32 [.ref 209, xU, .int v2] [.int s1, .ref 209] (sh, I, R) mc ms (xqI Q) := by
  exact yw_cV (As := [.int s1]) (b := 209) (st := []) dX10_part_32 lX10_146 kiX10_isTold kvX10_isTold rfl rfl rfl (la_209 hW) rfl (Nat.le_of_ble_eq_true rfl) rfl (xk_I k)
theorem bX10_part_35 {v2 s0 : Int32} {mc ms : Nat} {Q : Int32 → xHp → Prop} (hW : xLay sh R) 
    (k : ((s0 = 0 → Q (-4) (sh, I, R)) ∧ (¬ s0 = 0 → vp_in v2 4 ∧ Q (I 214 v2.toNatClampNeg) (sh, I, R)))) :
    Ex mX10_part 35 [.ref 209, xU, .int v2] [.int s0] (sh, I, R) mc ms (xqI Q) := by
  refine xw_ifeq (tgt := 47) dX10_part_35 (by decide) (fun c => ?_) (fun c => ?_)
  · replace k := k.1 c
    refine xw_bipush (v := (-4)) dX10_part_47 (by decide) ?_
    exact yw_iret dX10_part_49 rfl k
  · replace k := k.2 c
    refine xw_aload_n dX10_part_38 rfl rfl ?_
    refine yw_getR (r := 214) dX10_part_39 fX10_29 rfl (la_209 hW) (lr_209_7 hW) ?_
    refine xw_iload_n dX10_part_42 rfl rfl ?_
    obtain ⟨k0, k⟩ := k
    refine yw_iaload (v := I 214 v2.toNatClampNeg) dX10_part_43 (la_214 hW) k0 rfl ?_
    refine xw_goto (tgt := 49) dX10_part_44 (by decide) ?_
    exact yw_iret dX10_part_49 rfl k
theorem eX10_part {v1 : Int32} {v2 : Int32} {h : xHp} {Q : Int32 → xHp → Prop} (k : Ex mX10_part 0 [.ref 209, .int v1, .int v2] [] h 0 0 (xqI Q)) : CI mX10_part [.ref 209, .int v1, .int v2] h Q := k
theorem bX10_closes_0 {mc ms : Nat} {Q : Int32 → xHp → Prop} (hW : xLay sh R) 
    (k : CI mX10_lacking [.ref 209] (sh, I, R) (fun w h1 => Ex mX10_closes 6 [.ref 209, .int (nI 0), xU] (.int w :: []) h1 mc ms (xqI Q))) :
    Ex mX10_closes 0 [.ref 209, xU, xU] [] (sh, I, R) mc ms (xqI Q) := by
  refine xw_iconst (v := nI 0) dX10_closes_0 rfl ?_
  refine yw_istore_n (lv' := [.ref 209, .int (nI 0), xU]) dX10_closes_1 rfl rfl rfl rfl ?_
  refine xw_aload_n dX10_closes_2 rfl rfl ?_
  exact yw_cV (As := []) (b := 209) (st := []) dX10_closes_3 lX10_152 kiX10_lacking kvX10_lacking rfl rfl rfl (la_209 hW) rfl (Nat.le_of_ble_eq_true rfl) rfl (xk_I k)
theorem bX10_closes_6 {v1 s0 : Int32} {mc ms : Nat} {Q : Int32 → xHp → Prop} (hW : xLay sh R) 
    (k : Ex mX10_closes 7 [.ref 209, .int v1, .int s0] [] (sh, I, R) mc ms (xqI Q)) :
    Ex mX10_closes 6 [.ref 209, .int v1, xU] [.int s0] (sh, I, R) mc ms (xqI Q) := by
  refine yw_istore_n (lv' := [.ref 209, .int v1, .int s0]) dX10_closes_6 rfl rfl rfl rfl ?_
  exact k
theorem bX10_closes_7 {v1 v2 : Int32} {mc ms : Nat} {Q : Int32 → xHp → Prop} (hW : xLay sh R) 
    (k : ((v2 = (-4) → Q v1 (sh, I, R)) ∧ (¬ v2 = (-4) → vp_in (I 209 10) 5 ∧ CI mX10_lacking [.ref 209] (sh, (xi (xi I 215 ((I 209 10).toNatClampNeg) v2) 209 10 ((I 209 10) + (nI 1))), R) (fun w h1 => Ex mX10_closes 40 [.ref 209, .int (v1 + nI 1), xU] (.int w :: []) h1 mc ms (xqI Q))))) :
    Ex mX10_closes 7 [.ref 209, .int v1, .int v2] [] (sh, I, R) mc ms (xqI Q) := by
  refine xw_iload_n dX10_closes_7 rfl rfl ?_
  refine xw_bipush (v := (-4)) dX10_closes_8 (by decide) ?_
  refine xw_iceq (tgt := 44) dX10_closes_10 (by decide) (fun c => ?_) (fun c => ?_)
  · replace k := k.1 c
    refine xw_iload_n dX10_closes_44 rfl rfl ?_
    exact yw_iret dX10_closes_45 rfl k
  · replace k := k.2 c
    refine xw_aload_n dX10_closes_13 rfl rfl ?_
    refine yw_getR (r := 215) dX10_closes_14 fX10_32 rfl (la_209 hW) (lr_209_8 hW) ?_
    refine xw_aload_n dX10_closes_17 rfl rfl ?_
    refine yw_getI (v := I 209 10) dX10_closes_18 fX10_126 rfl (la_209 hW) rfl ?_
    refine xw_iload_n dX10_closes_21 rfl rfl ?_
    obtain ⟨k0, k⟩ := k
    refine yw_iastore dX10_closes_22 (la_215 hW) k0 ?_
    refine xw_aload_n dX10_closes_23 rfl rfl ?_
    refine xw_dup dX10_closes_24 rfl ?_
    refine yw_getI (v := I 209 10) dX10_closes_25 fX10_126 rfl (la_209 hW) (xi_p (a := 209) (q := 215) (by decide)) ?_
    refine xw_iconst (v := nI 1) dX10_closes_28 rfl ?_
    refine xw_iadd dX10_closes_29 ?_
    refine yw_putI dX10_closes_30 fX10_126 (fun r h => by cases h; exact Or.inl rfl) rfl (la_209 hW) ?_
    refine yw_iinc (lv' := [.ref 209, .int (v1 + nI 1), .int v2]) (v := nI 1) dX10_closes_33 rfl rfl rfl rfl rfl ?_
    refine xw_aload_n dX10_closes_36 rfl rfl ?_
    refine yw_sub (lv' := [.ref 209, .int (v1 + nI 1), xU]) ⟨Or.inr rfl, Or.inr rfl, Or.inl rfl, trivial⟩ ?_
    exact yw_cV (As := []) (b := 209) (st := []) dX10_closes_37 lX10_152 kiX10_lacking kvX10_lacking rfl rfl rfl (la_209 hW) rfl (Nat.le_of_ble_eq_true rfl) rfl (xk_I k)
theorem bX10_closes_40 {v1 s0 : Int32} {mc ms : Nat} {Q : Int32 → xHp → Prop} (hW : xLay sh R) 
    (k : Ex mX10_closes 7 [.ref 209, .int v1, .int s0] [] (sh, I, R) mc ms (xqI Q)) :
    Ex mX10_closes 40 [.ref 209, .int v1, xU] [.int s0] (sh, I, R) mc ms (xqI Q) := by
  refine yw_istore_n (lv' := [.ref 209, .int v1, .int s0]) dX10_closes_40 rfl rfl rfl rfl ?_
  refine xw_goto (tgt := 7) dX10_closes_41 (by decide) ?_
  exact k
theorem eX10_closes {h : xHp} {Q : Int32 → xHp → Prop} (k : Ex mX10_closes 0 [.ref 209, xU, xU] [] h 0 0 (xqI Q)) : CI mX10_closes [.ref 209] h Q := k
theorem bX10_close_0 {mc ms : Nat} {Q : Int32 → xHp → Prop} (hW : xLay sh R) 
    (k : CI mX10_closes [.ref 209] (sh, I, R) (fun w h1 => Ex mX10_close 4 [xU] (.int w :: []) h1 mc ms (xqI Q))) :
    Ex mX10_close 0 [.ref 209] [] (sh, I, R) mc ms (xqI Q) := by
  refine xw_aload_n dX10_close_0 rfl rfl ?_
  refine yw_sub (lv' := [xU]) ⟨Or.inl rfl, trivial⟩ ?_
  exact yw_cV (As := []) (b := 209) (st := []) dX10_close_1 lX10_339 kiX10_closes kvX10_closes rfl rfl rfl (la_209 hW) rfl (Nat.le_of_ble_eq_true rfl) rfl (xk_I k)
theorem bX10_close_4 {s0 : Int32} {mc ms : Nat} {Q : Int32 → xHp → Prop} (hW : xLay sh R) 
    (k : Q s0 (sh, I, R)) :
    Ex mX10_close 4 [xU] [.int s0] (sh, I, R) mc ms (xqI Q) := by
  exact yw_iret dX10_close_4 rfl k
theorem eX10_close {h : xHp} {Q : Int32 → xHp → Prop} (k : Ex mX10_close 0 [.ref 209] [] h 0 0 (xqI Q)) : CI mX10_close [.ref 209] h Q := k
theorem bX10_guesses_0 {mc ms : Nat} {Q : xHp → Prop} (hW : xLay sh R) 
    (k : CV mX10_empties [.ref 209, .int (nI 1)] (sh, I, R) (fun h1 => Ex mX10_guesses 5 [.ref 209, xU, xU, xU] [] h1 mc ms (xqV Q))) :
    Ex mX10_guesses 0 [.ref 209, xU, xU, xU] [] (sh, I, R) mc ms (xqV Q) := by
  refine xw_aload_n dX10_guesses_0 rfl rfl ?_
  refine xw_iconst (v := nI 1) dX10_guesses_1 rfl ?_
  exact yw_cV (As := [.int (nI 1)]) (b := 209) (st := []) dX10_guesses_2 lX10_156 kiX10_empties kvX10_empties rfl rfl rfl (la_209 hW) rfl (Nat.le_of_ble_eq_true rfl) rfl (xk_V k)
theorem bX10_guesses_5 {mc ms : Nat} {Q : xHp → Prop} (hW : xLay sh R) 
    (k : CI mX10_at [.ref 209, .int (nI 1), .int (nI 0)] (sh, I, R) (fun w h1 => Ex mX10_guesses 15 [.ref 209, xU, xU, xU] (.int w :: [.ref 210]) h1 mc ms (xqV Q))) :
    Ex mX10_guesses 5 [.ref 209, xU, xU, xU] [] (sh, I, R) mc ms (xqV Q) := by
  refine xw_aload_n dX10_guesses_5 rfl rfl ?_
  refine yw_getR (r := 210) dX10_guesses_6 fX10_7 rfl (la_209 hW) (lr_209_0 hW) ?_
  refine xw_aload_n dX10_guesses_9 rfl rfl ?_
  refine xw_iconst (v := nI 1) dX10_guesses_10 rfl ?_
  refine xw_iconst (v := nI 0) dX10_guesses_11 rfl ?_
  exact yw_cV (As := [.int (nI 1), .int (nI 0)]) (b := 209) (st := [.ref 210]) dX10_guesses_12 lX10_81 kiX10_at kvX10_at rfl rfl rfl (la_209 hW) rfl (Nat.le_of_ble_eq_true rfl) rfl (xk_I k)
theorem bX10_guesses_15 {s1 : Int32} {mc ms : Nat} {Q : xHp → Prop} (hW : xLay sh R) 
    (k : vp_in s1 1881 ∧ Ex mX10_guesses 22 [.ref 209, .int (nI 0), xU, xU] [] (sh, (xi I 210 s1.toNatClampNeg (I 209 10)), R) mc ms (xqV Q)) :
    Ex mX10_guesses 15 [.ref 209, xU, xU, xU] [.int s1, .ref 210] (sh, I, R) mc ms (xqV Q) := by
  refine xw_aload_n dX10_guesses_15 rfl rfl ?_
  refine yw_getI (v := I 209 10) dX10_guesses_16 fX10_126 rfl (la_209 hW) rfl ?_
  obtain ⟨k0, k⟩ := k
  refine yw_iastore dX10_guesses_19 (la_210 hW) k0 ?_
  refine xw_iconst (v := nI 0) dX10_guesses_20 rfl ?_
  refine yw_istore_n (lv' := [.ref 209, .int (nI 0), xU, xU]) dX10_guesses_21 rfl rfl rfl rfl ?_
  exact k
theorem bX10_guesses_22 {v1 : Int32} {mc ms : Nat} {Q : xHp → Prop} (hW : xLay sh R) 
    (k : (((I 209 10) ≤ v1 → Q (sh, (xi I 209 3 (nI 1)), R)) ∧ (¬ (I 209 10) ≤ v1 → CI mX10_at [.ref 209, .int (nI 1), .int ((nI 1) + v1)] (sh, I, R) (fun w h1 => Ex mX10_guesses 42 [.ref 209, .int v1, xU, xU] (.int w :: [.ref 210]) h1 mc ms (xqV Q))))) :
    Ex mX10_guesses 22 [.ref 209, .int v1, xU, xU] [] (sh, I, R) mc ms (xqV Q) := by
  refine xw_iload_n dX10_guesses_22 rfl rfl ?_
  refine xw_aload_n dX10_guesses_23 rfl rfl ?_
  refine yw_getI (v := I 209 10) dX10_guesses_24 fX10_126 rfl (la_209 hW) rfl ?_
  refine xw_icge (tgt := 147) dX10_guesses_27 (by decide) (fun c => ?_) (fun c => ?_)
  · replace k := k.1 c
    refine xw_aload_n dX10_guesses_147 rfl rfl ?_
    refine xw_iconst (v := nI 1) dX10_guesses_148 rfl ?_
    refine yw_putZ dX10_guesses_149 fX10_135 (fun r h => by cases h; exact Or.inl rfl) rfl (Or.inr rfl) (la_209 hW) ?_
    exact yw_vret dX10_guesses_152 rfl k
  · replace k := k.2 c
    refine xw_aload_n dX10_guesses_30 rfl rfl ?_
    refine yw_getR (r := 210) dX10_guesses_31 fX10_7 rfl (la_209 hW) (lr_209_0 hW) ?_
    refine xw_aload_n dX10_guesses_34 rfl rfl ?_
    refine xw_iconst (v := nI 1) dX10_guesses_35 rfl ?_
    refine xw_iconst (v := nI 1) dX10_guesses_36 rfl ?_
    refine xw_iload_n dX10_guesses_37 rfl rfl ?_
    refine xw_iadd dX10_guesses_38 ?_
    exact yw_cV (As := [.int (nI 1), .int ((nI 1) + v1)]) (b := 209) (st := [.ref 210]) dX10_guesses_39 lX10_81 kiX10_at kvX10_at rfl rfl rfl (la_209 hW) rfl (Nat.le_of_ble_eq_true rfl) rfl (xk_I k)
theorem bX10_guesses_42 {v1 s1 : Int32} {mc ms : Nat} {Q : xHp → Prop} (hW : xLay sh R) 
    (k : ((¬ v1 = 0 → vp_in s1 1881 ∧ CI mX10_at [.ref 209, .int (nI 1), .int ((nI 5) + v1)] (sh, (xi I 210 s1.toNatClampNeg (nI 0)), R) (fun w h1 => Ex mX10_guesses 64 [.ref 209, .int v1, xU, xU] (.int w :: [.ref 210]) h1 mc ms (xqV Q))) ∧ (v1 = 0 → vp_in s1 1881 ∧ CI mX10_at [.ref 209, .int (nI 1), .int ((nI 5) + v1)] (sh, (xi I 210 s1.toNatClampNeg (nI 1)), R) (fun w h1 => Ex mX10_guesses 64 [.ref 209, .int v1, xU, xU] (.int w :: [.ref 210]) h1 mc ms (xqV Q))))) :
    Ex mX10_guesses 42 [.ref 209, .int v1, xU, xU] [.int s1, .ref 210] (sh, I, R) mc ms (xqV Q) := by
  refine xw_iload_n dX10_guesses_42 rfl rfl ?_
  refine xw_ifne (tgt := 50) dX10_guesses_43 (by decide) (fun c => ?_) (fun c => ?_)
  · replace k := k.1 c
    refine xw_iconst (v := nI 0) dX10_guesses_50 rfl ?_
    obtain ⟨k0, k⟩ := k
    refine yw_iastore dX10_guesses_51 (la_210 hW) k0 ?_
    refine xw_aload_n dX10_guesses_52 rfl rfl ?_
    refine yw_getR (r := 210) dX10_guesses_53 fX10_7 rfl (la_209 hW) (lr_209_0 hW) ?_
    refine xw_aload_n dX10_guesses_56 rfl rfl ?_
    refine xw_iconst (v := nI 1) dX10_guesses_57 rfl ?_
    refine xw_iconst (v := nI 5) dX10_guesses_58 rfl ?_
    refine xw_iload_n dX10_guesses_59 rfl rfl ?_
    refine xw_iadd dX10_guesses_60 ?_
    exact yw_cV (As := [.int (nI 1), .int ((nI 5) + v1)]) (b := 209) (st := [.ref 210]) dX10_guesses_61 lX10_81 kiX10_at kvX10_at rfl rfl rfl (la_209 hW) rfl (Nat.le_of_ble_eq_true rfl) rfl (xk_I k)
  · replace k := k.2 c
    refine xw_iconst (v := nI 1) dX10_guesses_46 rfl ?_
    refine xw_goto (tgt := 51) dX10_guesses_47 (by decide) ?_
    obtain ⟨k0, k⟩ := k
    refine yw_iastore dX10_guesses_51 (la_210 hW) k0 ?_
    refine xw_aload_n dX10_guesses_52 rfl rfl ?_
    refine yw_getR (r := 210) dX10_guesses_53 fX10_7 rfl (la_209 hW) (lr_209_0 hW) ?_
    refine xw_aload_n dX10_guesses_56 rfl rfl ?_
    refine xw_iconst (v := nI 1) dX10_guesses_57 rfl ?_
    refine xw_iconst (v := nI 5) dX10_guesses_58 rfl ?_
    refine xw_iload_n dX10_guesses_59 rfl rfl ?_
    refine xw_iadd dX10_guesses_60 ?_
    exact yw_cV (As := [.int (nI 1), .int ((nI 5) + v1)]) (b := 209) (st := [.ref 210]) dX10_guesses_61 lX10_81 kiX10_at kvX10_at rfl rfl rfl (la_209 hW) rfl (Nat.le_of_ble_eq_true rfl) rfl (xk_I k)
theorem bX10_guesses_64 {v1 s1 : Int32} {mc ms : Nat} {Q : xHp → Prop} (hW : xLay sh R) 
    (k : vp_in v1 5 ∧ CI mX10_valueOf [.ref 209, .int (nI 0), .int (I 215 v1.toNatClampNeg)] (sh, I, R) (fun w h1 => Ex mX10_guesses 75 [.ref 209, .int v1, xU, xU] (.int w :: [.int s1, .ref 210]) h1 mc ms (xqV Q))) :
    Ex mX10_guesses 64 [.ref 209, .int v1, xU, xU] [.int s1, .ref 210] (sh, I, R) mc ms (xqV Q) := by
  refine xw_aload_n dX10_guesses_64 rfl rfl ?_
  refine xw_iconst (v := nI 0) dX10_guesses_65 rfl ?_
  refine xw_aload_n dX10_guesses_66 rfl rfl ?_
  refine yw_getR (r := 215) dX10_guesses_67 fX10_32 rfl (la_209 hW) (lr_209_8 hW) ?_
  refine xw_iload_n dX10_guesses_70 rfl rfl ?_
  obtain ⟨k0, k⟩ := k
  refine yw_iaload (v := I 215 v1.toNatClampNeg) dX10_guesses_71 (la_215 hW) k0 rfl ?_
  exact yw_cV (As := [.int (nI 0), .int (I 215 v1.toNatClampNeg)]) (b := 209) (st := [.int s1, .ref 210]) dX10_guesses_72 lX10_112 kiX10_valueOf kvX10_valueOf rfl rfl rfl (la_209 hW) rfl (Nat.le_of_ble_eq_true rfl) rfl (xk_I k)
theorem bX10_guesses_75 {v1 s2 s1 : Int32} {mc ms : Nat} {Q : xHp → Prop} (hW : xLay sh R) 
    (k : vp_in s1 1881 ∧ Ex mX10_guesses 78 [.ref 209, .int v1, .int (nI 0), xU] [] (sh, (xi I 210 s1.toNatClampNeg s2), R) mc ms (xqV Q)) :
    Ex mX10_guesses 75 [.ref 209, .int v1, xU, xU] [.int s2, .int s1, .ref 210] (sh, I, R) mc ms (xqV Q) := by
  obtain ⟨k0, k⟩ := k
  refine yw_iastore dX10_guesses_75 (la_210 hW) k0 ?_
  refine xw_iconst (v := nI 0) dX10_guesses_76 rfl ?_
  refine yw_istore_n (lv' := [.ref 209, .int v1, .int (nI 0), xU]) dX10_guesses_77 rfl rfl rfl rfl ?_
  exact k
theorem bX10_guesses_78 {v1 v2 : Int32} {mc ms : Nat} {Q : xHp → Prop} (hW : xLay sh R) 
    (k : (((I 209 2) ≤ v2 → Ex mX10_guesses 22 [.ref 209, .int (v1 + nI 1), xU, xU] [] (sh, I, R) mc ms (xqV Q)) ∧ (¬ (I 209 2) ≤ v2 → vp_in v1 5 ∧ CI mX10_oneOf [.int v2] (sh, I, R) (fun w h1 => Ex mX10_guesses 98 [.ref 209, .int v1, .int v2, xU] (.int w :: [.int (I 215 v1.toNatClampNeg), .ref 209, .ref 209]) h1 mc ms (xqV Q))))) :
    Ex mX10_guesses 78 [.ref 209, .int v1, .int v2, xU] [] (sh, I, R) mc ms (xqV Q) := by
  refine xw_iload_n dX10_guesses_78 rfl rfl ?_
  refine xw_aload_n dX10_guesses_79 rfl rfl ?_
  refine yw_getI (v := I 209 2) dX10_guesses_80 fX10_17 rfl (la_209 hW) rfl ?_
  refine xw_icge (tgt := 141) dX10_guesses_83 (by decide) (fun c => ?_) (fun c => ?_)
  · replace k := k.1 c
    refine yw_iinc (lv' := [.ref 209, .int (v1 + nI 1), .int v2, xU]) (v := nI 1) dX10_guesses_141 rfl rfl rfl rfl rfl ?_
    refine xw_goto (tgt := 22) dX10_guesses_144 (by decide) ?_
    exact yw_sub (lv' := [.ref 209, .int (v1 + nI 1), xU, xU]) ⟨Or.inr rfl, Or.inr rfl, Or.inl rfl, Or.inl rfl, trivial⟩ k
  · replace k := k.2 c
    refine xw_aload_n dX10_guesses_86 rfl rfl ?_
    refine xw_aload_n dX10_guesses_87 rfl rfl ?_
    refine xw_aload_n dX10_guesses_88 rfl rfl ?_
    refine yw_getR (r := 215) dX10_guesses_89 fX10_32 rfl (la_209 hW) (lr_209_8 hW) ?_
    refine xw_iload_n dX10_guesses_92 rfl rfl ?_
    obtain ⟨k0, k⟩ := k
    refine yw_iaload (v := I 215 v1.toNatClampNeg) dX10_guesses_93 (la_215 hW) k0 rfl ?_
    refine xw_iload_n dX10_guesses_94 rfl rfl ?_
    exact yw_cS (As := [.int v2]) (st := [.int (I 215 v1.toNatClampNeg), .ref 209, .ref 209]) dX10_guesses_95 lX10_149 ksX10_oneOf rfl rfl rfl (Nat.le_of_ble_eq_true rfl) rfl (xk_I k)
theorem bX10_guesses_98 {v1 v2 s3 s2 : Int32} {mc ms : Nat} {Q : xHp → Prop} (hW : xLay sh R) 
    (k : CI mX10_joined [.ref 209, .int s2, .int s3] (sh, I, R) (fun w h1 => Ex mX10_guesses 101 [.ref 209, .int v1, .int v2, xU] (.int w :: [.ref 209]) h1 mc ms (xqV Q))) :
    Ex mX10_guesses 98 [.ref 209, .int v1, .int v2, xU] [.int s3, .int s2, .ref 209, .ref 209] (sh, I, R) mc ms (xqV Q) := by
  exact yw_cV (As := [.int s2, .int s3]) (b := 209) (st := [.ref 209]) dX10_guesses_98 lX10_139 kiX10_joined kvX10_joined rfl rfl rfl (la_209 hW) rfl (Nat.le_of_ble_eq_true rfl) rfl (xk_I k)
theorem bX10_guesses_101 {v1 v2 s1 : Int32} {mc ms : Nat} {Q : xHp → Prop} (hW : xLay sh R) 
    (k : CI mX10_isTold [.ref 209, .int s1] (sh, I, R) (fun w h1 => Ex mX10_guesses 104 [.ref 209, .int v1, .int v2, xU] (.int w :: []) h1 mc ms (xqV Q))) :
    Ex mX10_guesses 101 [.ref 209, .int v1, .int v2, xU] [.int s1, .ref 209] (sh, I, R) mc ms (xqV Q) := by
  exact yw_cV (As := [.int s1]) (b := 209) (st := []) dX10_guesses_101 lX10_146 kiX10_isTold kvX10_isTold rfl rfl rfl (la_209 hW) rfl (Nat.le_of_ble_eq_true rfl) rfl (xk_I k)
theorem bX10_guesses_104 {v1 v2 s0 : Int32} {mc ms : Nat} {Q : xHp → Prop} (hW : xLay sh R) 
    (k : Ex mX10_guesses 107 [.ref 209, .int v1, .int v2, .int (nI 0)] [] (sh, I, R) mc ms (xqV Q)) :
    Ex mX10_guesses 104 [.ref 209, .int v1, .int v2, xU] [.int s0] (sh, I, R) mc ms (xqV Q) := by
  refine xw_pop dX10_guesses_104 rfl ?_
  refine xw_iconst (v := nI 0) dX10_guesses_105 rfl ?_
  refine yw_istore_n (lv' := [.ref 209, .int v1, .int v2, .int (nI 0)]) dX10_guesses_106 rfl rfl rfl rfl ?_
  exact k
theorem bX10_guesses_107 {v1 v2 v3 : Int32} {mc ms : Nat} {Q : xHp → Prop} (hW : xLay sh R) 
    (k : (((I 209 10) ≤ v3 → Ex mX10_guesses 78 [.ref 209, .int v1, .int (v2 + nI 1), xU] [] (sh, I, R) mc ms (xqV Q)) ∧ (¬ (I 209 10) ≤ v3 → vp_in v3 4 ∧ CV mX10_weighs [.ref 209, .int (nI 1), .int v1, .int v2, .int v3, .int (I 214 v3.toNatClampNeg)] (sh, I, R) (fun h1 => Ex mX10_guesses 129 [.ref 209, .int v1, .int v2, .int v3] [] h1 mc ms (xqV Q))))) :
    Ex mX10_guesses 107 [.ref 209, .int v1, .int v2, .int v3] [] (sh, I, R) mc ms (xqV Q) := by
  refine xw_iload_n dX10_guesses_107 rfl rfl ?_
  refine xw_aload_n dX10_guesses_108 rfl rfl ?_
  refine yw_getI (v := I 209 10) dX10_guesses_109 fX10_126 rfl (la_209 hW) rfl ?_
  refine xw_icge (tgt := 135) dX10_guesses_112 (by decide) (fun c => ?_) (fun c => ?_)
  · replace k := k.1 c
    refine yw_iinc (lv' := [.ref 209, .int v1, .int (v2 + nI 1), .int v3]) (v := nI 1) dX10_guesses_135 rfl rfl rfl rfl rfl ?_
    refine xw_goto (tgt := 78) dX10_guesses_138 (by decide) ?_
    exact yw_sub (lv' := [.ref 209, .int v1, .int (v2 + nI 1), xU]) ⟨Or.inr rfl, Or.inr rfl, Or.inr rfl, Or.inl rfl, trivial⟩ k
  · replace k := k.2 c
    refine xw_aload_n dX10_guesses_115 rfl rfl ?_
    refine xw_iconst (v := nI 1) dX10_guesses_116 rfl ?_
    refine xw_iload_n dX10_guesses_117 rfl rfl ?_
    refine xw_iload_n dX10_guesses_118 rfl rfl ?_
    refine xw_iload_n dX10_guesses_119 rfl rfl ?_
    refine xw_aload_n dX10_guesses_120 rfl rfl ?_
    refine yw_getR (r := 214) dX10_guesses_121 fX10_29 rfl (la_209 hW) (lr_209_7 hW) ?_
    refine xw_iload_n dX10_guesses_124 rfl rfl ?_
    obtain ⟨k0, k⟩ := k
    refine yw_iaload (v := I 214 v3.toNatClampNeg) dX10_guesses_125 (la_214 hW) k0 rfl ?_
    exact yw_cV (As := [.int (nI 1), .int v1, .int v2, .int v3, .int (I 214 v3.toNatClampNeg)]) (b := 209) (st := []) dX10_guesses_126 lX10_160 kiX10_weighs kvX10_weighs rfl rfl rfl (la_209 hW) rfl (Nat.le_of_ble_eq_true rfl) rfl (xk_V k)
theorem bX10_guesses_129 {v1 v2 v3 : Int32} {mc ms : Nat} {Q : xHp → Prop} (hW : xLay sh R) 
    (k : Ex mX10_guesses 107 [.ref 209, .int v1, .int v2, .int (v3 + nI 1)] [] (sh, I, R) mc ms (xqV Q)) :
    Ex mX10_guesses 129 [.ref 209, .int v1, .int v2, .int v3] [] (sh, I, R) mc ms (xqV Q) := by
  refine yw_iinc (lv' := [.ref 209, .int v1, .int v2, .int (v3 + nI 1)]) (v := nI 1) dX10_guesses_129 rfl rfl rfl rfl rfl ?_
  refine xw_goto (tgt := 107) dX10_guesses_132 (by decide) ?_
  exact k
theorem eX10_guesses {h : xHp} {Q : xHp → Prop} (k : Ex mX10_guesses 0 [.ref 209, xU, xU, xU] [] h 0 0 (xqV Q)) : CV mX10_guesses [.ref 209] h Q := k
theorem bX10_unlike_0 {v1 v2 : Int32} {mc ms : Nat} {Q : Int32 → xHp → Prop} (hW : xLay sh R) 
    (k : Ex mX10_unlike 2 [.ref 209, .int v1, .int v2, .int (nI 0)] [] (sh, I, R) mc ms (xqI Q)) :
    Ex mX10_unlike 0 [.ref 209, .int v1, .int v2, xU] [] (sh, I, R) mc ms (xqI Q) := by
  refine xw_iconst (v := nI 0) dX10_unlike_0 rfl ?_
  refine yw_istore_n (lv' := [.ref 209, .int v1, .int v2, .int (nI 0)]) dX10_unlike_1 rfl rfl rfl rfl ?_
  exact k
theorem bX10_unlike_2 {v1 v2 v3 : Int32} {mc ms : Nat} {Q : Int32 → xHp → Prop} (hW : xLay sh R) 
    (k : CI mX10_firstOf [.ref 209, .int (nI 8)] (sh, I, R) (fun w h1 => Ex mX10_unlike 9 [.ref 209, .int v1, .int v2, .int v3] (.int w :: [.int v3]) h1 mc ms (xqI Q))) :
    Ex mX10_unlike 2 [.ref 209, .int v1, .int v2, .int v3] [] (sh, I, R) mc ms (xqI Q) := by
  refine xw_iload_n dX10_unlike_2 rfl rfl ?_
  refine xw_aload_n dX10_unlike_3 rfl rfl ?_
  refine xw_bipush (v := nI 8) dX10_unlike_4 (by decide) ?_
  exact yw_cV (As := [.int (nI 8)]) (b := 209) (st := [.int v3]) dX10_unlike_6 lX10_89 kiX10_firstOf kvX10_firstOf rfl rfl rfl (la_209 hW) rfl (Nat.le_of_ble_eq_true rfl) rfl (xk_I k)
theorem bX10_unlike_9 {v1 v2 v3 s1 s0 : Int32} {mc ms : Nat} {Q : Int32 → xHp → Prop} (hW : xLay sh R) 
    (k : ((s1 ≤ s0 → Q (-4) (sh, I, R)) ∧ (¬ s1 ≤ s0 → CI mX10_valueOf [.ref 209, .int v1, .int v3] (sh, I, R) (fun w h1 => Ex mX10_unlike 18 [.ref 209, .int v1, .int v2, .int v3] (.int w :: []) h1 mc ms (xqI Q))))) :
    Ex mX10_unlike 9 [.ref 209, .int v1, .int v2, .int v3] [.int s1, .int s0] (sh, I, R) mc ms (xqI Q) := by
  refine xw_icge (tgt := 35) dX10_unlike_9 (by decide) (fun c => ?_) (fun c => ?_)
  · replace k := k.1 c
    refine xw_bipush (v := (-4)) dX10_unlike_35 (by decide) ?_
    exact yw_iret dX10_unlike_37 rfl k
  · replace k := k.2 c
    refine xw_aload_n dX10_unlike_12 rfl rfl ?_
    refine xw_iload_n dX10_unlike_13 rfl rfl ?_
    refine xw_iload_n dX10_unlike_14 rfl rfl ?_
    exact yw_cV (As := [.int v1, .int v3]) (b := 209) (st := []) dX10_unlike_15 lX10_112 kiX10_valueOf kvX10_valueOf rfl rfl rfl (la_209 hW) rfl (Nat.le_of_ble_eq_true rfl) rfl (xk_I k)
theorem bX10_unlike_18 {v1 v2 v3 s0 : Int32} {mc ms : Nat} {Q : Int32 → xHp → Prop} (hW : xLay sh R) 
    (k : CI mX10_valueOf [.ref 209, .int v2, .int v3] (sh, I, R) (fun w h1 => Ex mX10_unlike 24 [.ref 209, .int v1, .int v2, .int v3] (.int w :: [.int s0]) h1 mc ms (xqI Q))) :
    Ex mX10_unlike 18 [.ref 209, .int v1, .int v2, .int v3] [.int s0] (sh, I, R) mc ms (xqI Q) := by
  refine xw_aload_n dX10_unlike_18 rfl rfl ?_
  refine xw_iload_n dX10_unlike_19 rfl rfl ?_
  refine xw_iload_n dX10_unlike_20 rfl rfl ?_
  exact yw_cV (As := [.int v2, .int v3]) (b := 209) (st := [.int s0]) dX10_unlike_21 lX10_112 kiX10_valueOf kvX10_valueOf rfl rfl rfl (la_209 hW) rfl (Nat.le_of_ble_eq_true rfl) rfl (xk_I k)
theorem bX10_unlike_24 {v1 v2 v3 s1 s0 : Int32} {mc ms : Nat} {Q : Int32 → xHp → Prop} (hW : xLay sh R) 
    (k : ((s0 = s1 → Ex mX10_unlike 2 [.ref 209, .int v1, .int v2, .int (v3 + nI 1)] [] (sh, I, R) mc ms (xqI Q)) ∧ (¬ s0 = s1 → Q v3 (sh, I, R)))) :
    Ex mX10_unlike 24 [.ref 209, .int v1, .int v2, .int v3] [.int s1, .int s0] (sh, I, R) mc ms (xqI Q) := by
  refine xw_iceq (tgt := 29) dX10_unlike_24 (by decide) (fun c => ?_) (fun c => ?_)
  · replace k := k.1 c
    refine yw_iinc (lv' := [.ref 209, .int v1, .int v2, .int (v3 + nI 1)]) (v := nI 1) dX10_unlike_29 rfl rfl rfl rfl rfl ?_
    refine xw_goto (tgt := 2) dX10_unlike_32 (by decide) ?_
    exact k
  · replace k := k.2 c
    refine xw_iload_n dX10_unlike_27 rfl rfl ?_
    exact yw_iret dX10_unlike_28 rfl k
theorem eX10_unlike {v1 : Int32} {v2 : Int32} {h : xHp} {Q : Int32 → xHp → Prop} (k : Ex mX10_unlike 0 [.ref 209, .int v1, .int v2, xU] [] h 0 0 (xqI Q)) : CI mX10_unlike [.ref 209, .int v1, .int v2] h Q := k
theorem bX10_leftOf_0 {v1 v2 : Int32} {mc ms : Nat} {Q : Int32 → xHp → Prop} (hW : xLay sh R) 
    (k : CI mX10_lengthOf [.ref 209, .int v1] (sh, I, R) (fun w h1 => Ex mX10_leftOf 5 [.ref 209, .int v1, .int v2, xU] (.int w :: []) h1 mc ms (xqI Q))) :
    Ex mX10_leftOf 0 [.ref 209, .int v1, .int v2, xU] [] (sh, I, R) mc ms (xqI Q) := by
  refine xw_aload_n dX10_leftOf_0 rfl rfl ?_
  refine xw_iload_n dX10_leftOf_1 rfl rfl ?_
  exact yw_cV (As := [.int v1]) (b := 209) (st := []) dX10_leftOf_2 lX10_92 kiX10_lengthOf kvX10_lengthOf rfl rfl rfl (la_209 hW) rfl (Nat.le_of_ble_eq_true rfl) rfl (xk_I k)
theorem bX10_leftOf_5 {v1 v2 s0 : Int32} {mc ms : Nat} {Q : Int32 → xHp → Prop} (hW : xLay sh R) 
    (k : CI mX10_firstOf [.ref 209, .int (s0 - v2)] (sh, I, R) (fun w h1 => Ex mX10_leftOf 13 [.ref 209, .int v1, .int v2, .int s0] (.int w :: []) h1 mc ms (xqI Q))) :
    Ex mX10_leftOf 5 [.ref 209, .int v1, .int v2, xU] [.int s0] (sh, I, R) mc ms (xqI Q) := by
  refine yw_istore_n (lv' := [.ref 209, .int v1, .int v2, .int s0]) dX10_leftOf_5 rfl rfl rfl rfl ?_
  refine xw_aload_n dX10_leftOf_6 rfl rfl ?_
  refine xw_iload_n dX10_leftOf_7 rfl rfl ?_
  refine xw_iload_n dX10_leftOf_8 rfl rfl ?_
  refine xw_isub dX10_leftOf_9 ?_
  exact yw_cV (As := [.int (s0 - v2)]) (b := 209) (st := []) dX10_leftOf_10 lX10_89 kiX10_firstOf kvX10_firstOf rfl rfl rfl (la_209 hW) rfl (Nat.le_of_ble_eq_true rfl) rfl (xk_I k)
theorem bX10_leftOf_13 {v1 v2 v3 s0 : Int32} {mc ms : Nat} {Q : Int32 → xHp → Prop} (hW : xLay sh R) 
    (k : CI mX10_firstOf [.ref 209, .int v3] (sh, I, R) (fun w h1 => Ex mX10_leftOf 19 [.ref 209, xU, .int v2, .int v3] (.int w :: [.int v1, .int s0]) h1 mc ms (xqI Q))) :
    Ex mX10_leftOf 13 [.ref 209, .int v1, .int v2, .int v3] [.int s0] (sh, I, R) mc ms (xqI Q) := by
  refine xw_iload_n dX10_leftOf_13 rfl rfl ?_
  refine xw_aload_n dX10_leftOf_14 rfl rfl ?_
  refine xw_iload_n dX10_leftOf_15 rfl rfl ?_
  refine yw_sub (lv' := [.ref 209, xU, .int v2, .int v3]) ⟨Or.inr rfl, Or.inl rfl, Or.inr rfl, Or.inr rfl, trivial⟩ ?_
  exact yw_cV (As := [.int v3]) (b := 209) (st := [.int v1, .int s0]) dX10_leftOf_16 lX10_89 kiX10_firstOf kvX10_firstOf rfl rfl rfl (la_209 hW) rfl (Nat.le_of_ble_eq_true rfl) rfl (xk_I k)
theorem bX10_leftOf_19 {v2 v3 s2 s1 s0 : Int32} {mc ms : Nat} {Q : Int32 → xHp → Prop} (hW : xLay sh R) 
    (k : CI mX10_power [.ref 209, .int (v3 - v2)] (sh, I, R) (fun w h1 => Ex mX10_leftOf 27 [xU, xU, xU, xU] (.int w :: [.int (s1 - s2), .int s0]) h1 mc ms (xqI Q))) :
    Ex mX10_leftOf 19 [.ref 209, xU, .int v2, .int v3] [.int s2, .int s1, .int s0] (sh, I, R) mc ms (xqI Q) := by
  refine xw_isub dX10_leftOf_19 ?_
  refine xw_aload_n dX10_leftOf_20 rfl rfl ?_
  refine xw_iload_n dX10_leftOf_21 rfl rfl ?_
  refine xw_iload_n dX10_leftOf_22 rfl rfl ?_
  refine xw_isub dX10_leftOf_23 ?_
  refine yw_sub (lv' := [xU, xU, xU, xU]) ⟨Or.inl rfl, Or.inl rfl, Or.inl rfl, Or.inl rfl, trivial⟩ ?_
  exact yw_cV (As := [.int (v3 - v2)]) (b := 209) (st := [.int (s1 - s2), .int s0]) dX10_leftOf_24 lX10_85 kiX10_power kvX10_power rfl rfl rfl (la_209 hW) rfl (Nat.le_of_ble_eq_true rfl) rfl (xk_I k)
theorem bX10_leftOf_27 {s2 s1 s0 : Int32} {mc ms : Nat} {Q : Int32 → xHp → Prop} (hW : xLay sh R) 
    (k : ¬ s2 = 0 ∧ Q (s0 + (xrem s1 s2)) (sh, I, R)) :
    Ex mX10_leftOf 27 [xU, xU, xU, xU] [.int s2, .int s1, .int s0] (sh, I, R) mc ms (xqI Q) := by
  obtain ⟨k0, k⟩ := k
  refine yw_irem dX10_leftOf_27 k0 ?_
  refine xw_iadd dX10_leftOf_28 ?_
  exact yw_iret dX10_leftOf_29 rfl k
theorem eX10_leftOf {v1 : Int32} {v2 : Int32} {h : xHp} {Q : Int32 → xHp → Prop} (k : Ex mX10_leftOf 0 [.ref 209, .int v1, .int v2, xU] [] h 0 0 (xqI Q)) : CI mX10_leftOf [.ref 209, .int v1, .int v2] h Q := k
theorem bX10_isSuffix_0 {v1 v2 : Int32} {mc ms : Nat} {Q : Int32 → xHp → Prop} (hW : xLay sh R) 
    (k : Ex mX10_isSuffix 5 [.ref 209, .int v1, .int v2, .int (nI 0), .int (nI 0)] [] (sh, I, R) mc ms (xqI Q)) :
    Ex mX10_isSuffix 0 [.ref 209, .int v1, .int v2, xU, xU] [] (sh, I, R) mc ms (xqI Q) := by
  refine xw_iconst (v := nI 0) dX10_isSuffix_0 rfl ?_
  refine yw_istore_n (lv' := [.ref 209, .int v1, .int v2, .int (nI 0), xU]) dX10_isSuffix_1 rfl rfl rfl rfl ?_
  refine xw_iconst (v := nI 0) dX10_isSuffix_2 rfl ?_
  refine yw_istore (lv' := [.ref 209, .int v1, .int v2, .int (nI 0), .int (nI 0)]) dX10_isSuffix_3 rfl rfl rfl ?_
  exact k
theorem bX10_isSuffix_5 {v1 v2 v3 v4 : Int32} {mc ms : Nat} {Q : Int32 → xHp → Prop} (hW : xLay sh R) 
    (k : ((v2 ≤ v4 → (v3 = 0 ∨ v3 = 1) ∧ Q v3 (sh, I, R)) ∧ (¬ v2 ≤ v4 → ((¬ v3 = 0 → Ex mX10_isSuffix 5 [.ref 209, .int v1, .int v2, .int (nI 1), .int (v4 + nI 1)] [] (sh, I, R) mc ms (xqI Q)) ∧ (v3 = 0 → vp_in v4 60 ∧ ((¬ (I 216 v4.toNatClampNeg) = v1 → Ex mX10_isSuffix 5 [.ref 209, .int v1, .int v2, .int (nI 0), .int (v4 + nI 1)] [] (sh, I, R) mc ms (xqI Q)) ∧ ((I 216 v4.toNatClampNeg) = v1 → Ex mX10_isSuffix 5 [.ref 209, .int v1, .int v2, .int (nI 1), .int (v4 + nI 1)] [] (sh, I, R) mc ms (xqI Q)))))))) :
    Ex mX10_isSuffix 5 [.ref 209, .int v1, .int v2, .int v3, .int v4] [] (sh, I, R) mc ms (xqI Q) := by
  refine xw_iload dX10_isSuffix_5 rfl ?_
  refine xw_iload_n dX10_isSuffix_7 rfl rfl ?_
  refine xw_icge (tgt := 38) dX10_isSuffix_8 (by decide) (fun c => ?_) (fun c => ?_)
  · replace k := k.1 c
    refine xw_iload_n dX10_isSuffix_38 rfl rfl ?_
    exact yw_zret dX10_isSuffix_39 rfl (narrow_z _ k.1) k.2
  · replace k := k.2 c
    refine xw_iload_n dX10_isSuffix_11 rfl rfl ?_
    refine xw_ifne (tgt := 26) dX10_isSuffix_12 (by decide) (fun c => ?_) (fun c => ?_)
    · replace k := k.1 c
      refine xw_iconst (v := nI 1) dX10_isSuffix_26 rfl ?_
      refine xw_goto (tgt := 31) dX10_isSuffix_27 (by decide) ?_
      refine yw_istore_n (lv' := [.ref 209, .int v1, .int v2, .int (nI 1), .int v4]) dX10_isSuffix_31 rfl rfl rfl rfl ?_
      refine yw_iinc (lv' := [.ref 209, .int v1, .int v2, .int (nI 1), .int (v4 + nI 1)]) (v := nI 1) dX10_isSuffix_32 rfl rfl rfl rfl rfl ?_
      refine xw_goto (tgt := 5) dX10_isSuffix_35 (by decide) ?_
      exact k
    · replace k := k.2 c
      refine xw_aload_n dX10_isSuffix_15 rfl rfl ?_
      refine yw_getR (r := 216) dX10_isSuffix_16 fX10_35 rfl (la_209 hW) (lr_209_9 hW) ?_
      refine xw_iload dX10_isSuffix_19 rfl ?_
      obtain ⟨k0, k⟩ := k
      refine yw_iaload (v := I 216 v4.toNatClampNeg) dX10_isSuffix_21 (la_216 hW) k0 rfl ?_
      refine xw_iload_n dX10_isSuffix_22 rfl rfl ?_
      refine xw_icne (tgt := 30) dX10_isSuffix_23 (by decide) (fun c => ?_) (fun c => ?_)
      · replace k := k.1 c
        refine xw_iconst (v := nI 0) dX10_isSuffix_30 rfl ?_
        refine yw_istore_n (lv' := [.ref 209, .int v1, .int v2, .int (nI 0), .int v4]) dX10_isSuffix_31 rfl rfl rfl rfl ?_
        refine yw_iinc (lv' := [.ref 209, .int v1, .int v2, .int (nI 0), .int (v4 + nI 1)]) (v := nI 1) dX10_isSuffix_32 rfl rfl rfl rfl rfl ?_
        refine xw_goto (tgt := 5) dX10_isSuffix_35 (by decide) ?_
        exact k
      · replace k := k.2 c
        refine xw_iconst (v := nI 1) dX10_isSuffix_26 rfl ?_
        refine xw_goto (tgt := 31) dX10_isSuffix_27 (by decide) ?_
        refine yw_istore_n (lv' := [.ref 209, .int v1, .int v2, .int (nI 1), .int v4]) dX10_isSuffix_31 rfl rfl rfl rfl ?_
        refine yw_iinc (lv' := [.ref 209, .int v1, .int v2, .int (nI 1), .int (v4 + nI 1)]) (v := nI 1) dX10_isSuffix_32 rfl rfl rfl rfl rfl ?_
        refine xw_goto (tgt := 5) dX10_isSuffix_35 (by decide) ?_
        exact k
theorem eX10_isSuffix {v1 : Int32} {v2 : Int32} {h : xHp} {Q : Int32 → xHp → Prop} (k : Ex mX10_isSuffix 0 [.ref 209, .int v1, .int v2, xU, xU] [] h 0 0 (xqI Q)) : CI mX10_isSuffix [.ref 209, .int v1, .int v2] h Q := k
theorem bX10_endings_0 {v1 v2 : Int32} {mc ms : Nat} {Q : Int32 → xHp → Prop} (hW : xLay sh R) 
    (k : CI mX10_lengthOf [.ref 209, .int v1] (sh, I, R) (fun w h1 => Ex mX10_endings 5 [.ref 209, .int v1, .int v2, xU, xU, xU, xU] (.int w :: []) h1 mc ms (xqI Q))) :
    Ex mX10_endings 0 [.ref 209, .int v1, .int v2, xU, xU, xU, xU] [] (sh, I, R) mc ms (xqI Q) := by
  refine xw_aload_n dX10_endings_0 rfl rfl ?_
  refine xw_iload_n dX10_endings_1 rfl rfl ?_
  exact yw_cV (As := [.int v1]) (b := 209) (st := []) dX10_endings_2 lX10_92 kiX10_lengthOf kvX10_lengthOf rfl rfl rfl (la_209 hW) rfl (Nat.le_of_ble_eq_true rfl) rfl (xk_I k)
theorem bX10_endings_5 {v1 v2 s0 : Int32} {mc ms : Nat} {Q : Int32 → xHp → Prop} (hW : xLay sh R) 
    (k : Ex mX10_endings 15 [.ref 209, .int v1, .int v2, xU, .int (I 209 11), .int s0, xU] [] (sh, I, R) mc ms (xqI Q)) :
    Ex mX10_endings 5 [.ref 209, .int v1, .int v2, xU, xU, xU, xU] [.int s0] (sh, I, R) mc ms (xqI Q) := by
  refine yw_istore_n (lv' := [.ref 209, .int v1, .int v2, .int s0, xU, xU, xU]) dX10_endings_5 rfl rfl rfl rfl ?_
  refine xw_aload_n dX10_endings_6 rfl rfl ?_
  refine yw_getI (v := I 209 11) dX10_endings_7 fX10_129 rfl (la_209 hW) rfl ?_
  refine yw_istore (lv' := [.ref 209, .int v1, .int v2, .int s0, .int (I 209 11), xU, xU]) dX10_endings_10 rfl rfl rfl ?_
  refine xw_iload_n dX10_endings_12 rfl rfl ?_
  refine yw_istore (lv' := [.ref 209, .int v1, .int v2, .int s0, .int (I 209 11), .int s0, xU]) dX10_endings_13 rfl rfl rfl ?_
  exact yw_sub (lv' := [.ref 209, .int v1, .int v2, xU, .int (I 209 11), .int s0, xU]) ⟨Or.inr rfl, Or.inr rfl, Or.inr rfl, Or.inl rfl, Or.inr rfl, Or.inr rfl, Or.inl rfl, trivial⟩ k
theorem bX10_endings_15 {v1 v2 v4 v5 : Int32} {mc ms : Nat} {Q : Int32 → xHp → Prop} (hW : xLay sh R) 
    (k : ((v5 < 0 → ((v2 = 0 → Q v4 (sh, (xi I 209 11 (I 209 11)), R)) ∧ (¬ v2 = 0 → Q v4 (sh, (xi I 209 11 v4), R)))) ∧ (¬ v5 < 0 → CI mX10_leftOf [.ref 209, .int v1, .int v5] (sh, I, R) (fun w h1 => Ex mX10_endings 27 [.ref 209, .int v1, .int v2, xU, .int v4, .int v5, xU] (.int w :: []) h1 mc ms (xqI Q))))) :
    Ex mX10_endings 15 [.ref 209, .int v1, .int v2, xU, .int v4, .int v5, xU] [] (sh, I, R) mc ms (xqI Q) := by
  refine xw_iload dX10_endings_15 rfl ?_
  refine xw_iflt (tgt := 60) dX10_endings_17 (by decide) (fun c => ?_) (fun c => ?_)
  · replace k := k.1 c
    refine xw_aload_n dX10_endings_60 rfl rfl ?_
    refine xw_iload_n dX10_endings_61 rfl rfl ?_
    refine xw_ifeq (tgt := 70) dX10_endings_62 (by decide) (fun c => ?_) (fun c => ?_)
    · replace k := k.1 c
      refine xw_aload_n dX10_endings_70 rfl rfl ?_
      refine yw_getI (v := I 209 11) dX10_endings_71 fX10_129 rfl (la_209 hW) rfl ?_
      refine yw_putI dX10_endings_74 fX10_129 (fun r h => by cases h; exact Or.inl rfl) rfl (la_209 hW) ?_
      refine xw_iload dX10_endings_77 rfl ?_
      exact yw_iret dX10_endings_79 rfl k
    · replace k := k.2 c
      refine xw_iload dX10_endings_65 rfl ?_
      refine xw_goto (tgt := 74) dX10_endings_67 (by decide) ?_
      refine yw_putI dX10_endings_74 fX10_129 (fun r h => by cases h; exact Or.inl rfl) rfl (la_209 hW) ?_
      refine xw_iload dX10_endings_77 rfl ?_
      exact yw_iret dX10_endings_79 rfl k
  · replace k := k.2 c
    refine xw_aload_n dX10_endings_20 rfl rfl ?_
    refine xw_iload_n dX10_endings_21 rfl rfl ?_
    refine xw_iload dX10_endings_22 rfl ?_
    exact yw_cV (As := [.int v1, .int v5]) (b := 209) (st := []) dX10_endings_24 lX10_164 kiX10_leftOf kvX10_leftOf rfl rfl rfl (la_209 hW) rfl (Nat.le_of_ble_eq_true rfl) rfl (xk_I k)
theorem bX10_endings_27 {v1 v2 v4 v5 s0 : Int32} {mc ms : Nat} {Q : Int32 → xHp → Prop} (hW : xLay sh R) 
    (k : CI mX10_isSuffix [.ref 209, .int s0, .int (I 209 11)] (sh, I, R) (fun w h1 => Ex mX10_endings 39 [.ref 209, .int v1, .int v2, xU, .int v4, .int v5, .int s0] (.int w :: []) h1 mc ms (xqI Q))) :
    Ex mX10_endings 27 [.ref 209, .int v1, .int v2, xU, .int v4, .int v5, xU] [.int s0] (sh, I, R) mc ms (xqI Q) := by
  refine yw_istore (lv' := [.ref 209, .int v1, .int v2, xU, .int v4, .int v5, .int s0]) dX10_endings_27 rfl rfl rfl ?_
  refine xw_aload_n dX10_endings_29 rfl rfl ?_
  refine xw_iload dX10_endings_30 rfl ?_
  refine xw_aload_n dX10_endings_32 rfl rfl ?_
  refine yw_getI (v := I 209 11) dX10_endings_33 fX10_129 rfl (la_209 hW) rfl ?_
  exact yw_cV (As := [.int s0, .int (I 209 11)]) (b := 209) (st := []) dX10_endings_36 lX10_167 kiX10_isSuffix kvX10_isSuffix rfl rfl rfl (la_209 hW) rfl (Nat.le_of_ble_eq_true rfl) rfl (xk_I k)
theorem bX10_endings_39 {v1 v2 v4 v5 v6 s0 : Int32} {mc ms : Nat} {Q : Int32 → xHp → Prop} (hW : xLay sh R) 
    (k : ((¬ s0 = 0 → Ex mX10_endings 15 [.ref 209, .int v1, .int v2, xU, .int v4, .int (v5 + (-1)), xU] [] (sh, I, R) mc ms (xqI Q)) ∧ (s0 = 0 → vp_in v4 60 ∧ Ex mX10_endings 15 [.ref 209, .int v1, .int v2, xU, .int (v4 + nI 1), .int (v5 + (-1)), xU] [] (sh, (xi I 216 v4.toNatClampNeg v6), R) mc ms (xqI Q)))) :
    Ex mX10_endings 39 [.ref 209, .int v1, .int v2, xU, .int v4, .int v5, .int v6] [.int s0] (sh, I, R) mc ms (xqI Q) := by
  refine xw_ifne (tgt := 54) dX10_endings_39 (by decide) (fun c => ?_) (fun c => ?_)
  · replace k := k.1 c
    refine yw_iinc (lv' := [.ref 209, .int v1, .int v2, xU, .int v4, .int (v5 + (-1)), .int v6]) (v := (-1)) dX10_endings_54 rfl rfl rfl rfl rfl ?_
    refine xw_goto (tgt := 15) dX10_endings_57 (by decide) ?_
    exact yw_sub (lv' := [.ref 209, .int v1, .int v2, xU, .int v4, .int (v5 + (-1)), xU]) ⟨Or.inr rfl, Or.inr rfl, Or.inr rfl, Or.inl rfl, Or.inr rfl, Or.inr rfl, Or.inl rfl, trivial⟩ k
  · replace k := k.2 c
    refine xw_aload_n dX10_endings_42 rfl rfl ?_
    refine yw_getR (r := 216) dX10_endings_43 fX10_35 rfl (la_209 hW) (lr_209_9 hW) ?_
    refine xw_iload dX10_endings_46 rfl ?_
    refine xw_iload dX10_endings_48 rfl ?_
    obtain ⟨k0, k⟩ := k
    refine yw_iastore dX10_endings_50 (la_216 hW) k0 ?_
    refine yw_iinc (lv' := [.ref 209, .int v1, .int v2, xU, .int (v4 + nI 1), .int v5, .int v6]) (v := nI 1) dX10_endings_51 rfl rfl rfl rfl rfl ?_
    refine yw_iinc (lv' := [.ref 209, .int v1, .int v2, xU, .int (v4 + nI 1), .int (v5 + (-1)), .int v6]) (v := (-1)) dX10_endings_54 rfl rfl rfl rfl rfl ?_
    refine xw_goto (tgt := 15) dX10_endings_57 (by decide) ?_
    exact yw_sub (lv' := [.ref 209, .int v1, .int v2, xU, .int (v4 + nI 1), .int (v5 + (-1)), xU]) ⟨Or.inr rfl, Or.inr rfl, Or.inr rfl, Or.inl rfl, Or.inr rfl, Or.inr rfl, Or.inl rfl, trivial⟩ k
theorem eX10_endings {v1 : Int32} {v2 : Int32} {h : xHp} {Q : Int32 → xHp → Prop} (k : Ex mX10_endings 0 [.ref 209, .int v1, .int v2, xU, xU, xU, xU] [] h 0 0 (xqI Q)) : CI mX10_endings [.ref 209, .int v1, .int v2] h Q := k
theorem bX10_learn_0 {mc ms : Nat} {Q : Int32 → xHp → Prop} (hW : xLay sh R) 
    (k : CI mX10_closes [.ref 209] (sh, I, R) (fun w h1 => Ex mX10_learn 4 [.ref 209, xU] (.int w :: []) h1 mc ms (xqI Q))) :
    Ex mX10_learn 0 [.ref 209, xU] [] (sh, I, R) mc ms (xqI Q) := by
  refine xw_aload_n dX10_learn_0 rfl rfl ?_
  exact yw_cV (As := []) (b := 209) (st := []) dX10_learn_1 lX10_339 kiX10_closes kvX10_closes rfl rfl rfl (la_209 hW) rfl (Nat.le_of_ble_eq_true rfl) rfl (xk_I k)
theorem bX10_learn_4 {s0 : Int32} {mc ms : Nat} {Q : Int32 → xHp → Prop} (hW : xLay sh R) 
    (k : CV mX10_guesses [.ref 209] (sh, I, R) (fun h1 => Ex mX10_learn 9 [.ref 209, xU] [] h1 mc ms (xqI Q))) :
    Ex mX10_learn 4 [.ref 209, xU] [.int s0] (sh, I, R) mc ms (xqI Q) := by
  refine xw_pop dX10_learn_4 rfl ?_
  refine xw_aload_n dX10_learn_5 rfl rfl ?_
  exact yw_cV (As := []) (b := 209) (st := []) dX10_learn_6 lX10_342 kiX10_guesses kvX10_guesses rfl rfl rfl (la_209 hW) rfl (Nat.le_of_ble_eq_true rfl) rfl (xk_V k)
theorem bX10_learn_9 {mc ms : Nat} {Q : Int32 → xHp → Prop} (hW : xLay sh R) 
    (k : CI mX10_unlike [.ref 209, .int (nI 0), .int (nI 1)] (sh, (xi I 209 12 ((I 209 12) + (nI 1))), R) (fun w h1 => Ex mX10_learn 25 [.ref 209, xU] (.int w :: []) h1 mc ms (xqI Q))) :
    Ex mX10_learn 9 [.ref 209, xU] [] (sh, I, R) mc ms (xqI Q) := by
  refine xw_aload_n dX10_learn_9 rfl rfl ?_
  refine xw_dup dX10_learn_10 rfl ?_
  refine yw_getI (v := I 209 12) dX10_learn_11 fX10_132 rfl (la_209 hW) rfl ?_
  refine xw_iconst (v := nI 1) dX10_learn_14 rfl ?_
  refine xw_iadd dX10_learn_15 ?_
  refine yw_putI dX10_learn_16 fX10_132 (fun r h => by cases h; exact Or.inl rfl) rfl (la_209 hW) ?_
  refine xw_aload_n dX10_learn_19 rfl rfl ?_
  refine xw_iconst (v := nI 0) dX10_learn_20 rfl ?_
  refine xw_iconst (v := nI 1) dX10_learn_21 rfl ?_
  exact yw_cV (As := [.int (nI 0), .int (nI 1)]) (b := 209) (st := []) dX10_learn_22 lX10_345 kiX10_unlike kvX10_unlike rfl rfl rfl (la_209 hW) rfl (Nat.le_of_ble_eq_true rfl) rfl (xk_I k)
theorem bX10_learn_25 {s0 : Int32} {mc ms : Nat} {Q : Int32 → xHp → Prop} (hW : xLay sh R) 
    (k : ((s0 = (-4) → Q s0 (sh, I, R)) ∧ (¬ s0 = (-4) → CI mX10_endings [.ref 209, .int s0, .int (nI 1)] (sh, I, R) (fun w h1 => Ex mX10_learn 38 [xU, .int s0] (.int w :: []) h1 mc ms (xqI Q))))) :
    Ex mX10_learn 25 [.ref 209, xU] [.int s0] (sh, I, R) mc ms (xqI Q) := by
  refine yw_istore_n (lv' := [.ref 209, .int s0]) dX10_learn_25 rfl rfl rfl rfl ?_
  refine xw_iload_n dX10_learn_26 rfl rfl ?_
  refine xw_bipush (v := (-4)) dX10_learn_27 (by decide) ?_
  refine xw_iceq (tgt := 39) dX10_learn_29 (by decide) (fun c => ?_) (fun c => ?_)
  · replace k := k.1 c
    refine xw_iload_n dX10_learn_39 rfl rfl ?_
    exact yw_iret dX10_learn_40 rfl k
  · replace k := k.2 c
    refine xw_aload_n dX10_learn_32 rfl rfl ?_
    refine xw_iload_n dX10_learn_33 rfl rfl ?_
    refine xw_iconst (v := nI 1) dX10_learn_34 rfl ?_
    refine yw_sub (lv' := [xU, .int s0]) ⟨Or.inl rfl, Or.inr rfl, trivial⟩ ?_
    exact yw_cV (As := [.int s0, .int (nI 1)]) (b := 209) (st := []) dX10_learn_35 lX10_348 kiX10_endings kvX10_endings rfl rfl rfl (la_209 hW) rfl (Nat.le_of_ble_eq_true rfl) rfl (xk_I k)
theorem bX10_learn_38 {v1 s0 : Int32} {mc ms : Nat} {Q : Int32 → xHp → Prop} (hW : xLay sh R) 
    (k : Q v1 (sh, I, R)) :
    Ex mX10_learn 38 [xU, .int v1] [.int s0] (sh, I, R) mc ms (xqI Q) := by
  refine xw_pop dX10_learn_38 rfl ?_
  refine xw_iload_n dX10_learn_39 rfl rfl ?_
  exact yw_iret dX10_learn_40 rfl k
theorem eX10_learn {h : xHp} {Q : Int32 → xHp → Prop} (k : Ex mX10_learn 0 [.ref 209, xU] [] h 0 0 (xqI Q)) : CI mX10_learn [.ref 209] h Q := k
theorem bX10_counter_0 {mc ms : Nat} {Q : Int32 → xHp → Prop} (hW : xLay sh R) 
    (k : (((I 209 3) = 0 → Q (-2) (sh, I, R)) ∧ (¬ (I 209 3) = 0 → CI mX10_unlike [.ref 209, .int (nI 0), .int (nI 1)] (sh, I, R) (fun w h1 => Ex mX10_counter 13 [xU] (.int w :: []) h1 mc ms (xqI Q))))) :
    Ex mX10_counter 0 [.ref 209] [] (sh, I, R) mc ms (xqI Q) := by
  refine xw_aload_n dX10_counter_0 rfl rfl ?_
  refine yw_getI (v := I 209 3) dX10_counter_1 fX10_135 rfl (la_209 hW) rfl ?_
  refine xw_ifeq (tgt := 16) dX10_counter_4 (by decide) (fun c => ?_) (fun c => ?_)
  · replace k := k.1 c
    refine xw_bipush (v := (-2)) dX10_counter_16 (by decide) ?_
    exact yw_iret dX10_counter_18 rfl k
  · replace k := k.2 c
    refine xw_aload_n dX10_counter_7 rfl rfl ?_
    refine xw_iconst (v := nI 0) dX10_counter_8 rfl ?_
    refine xw_iconst (v := nI 1) dX10_counter_9 rfl ?_
    refine yw_sub (lv' := [xU]) ⟨Or.inl rfl, trivial⟩ ?_
    exact yw_cV (As := [.int (nI 0), .int (nI 1)]) (b := 209) (st := []) dX10_counter_10 lX10_345 kiX10_unlike kvX10_unlike rfl rfl rfl (la_209 hW) rfl (Nat.le_of_ble_eq_true rfl) rfl (xk_I k)
theorem bX10_counter_13 {s0 : Int32} {mc ms : Nat} {Q : Int32 → xHp → Prop} (hW : xLay sh R) 
    (k : Q s0 (sh, I, R)) :
    Ex mX10_counter 13 [xU] [.int s0] (sh, I, R) mc ms (xqI Q) := by
  refine xw_goto (tgt := 18) dX10_counter_13 (by decide) ?_
  exact yw_iret dX10_counter_18 rfl k
theorem eX10_counter {h : xHp} {Q : Int32 → xHp → Prop} (k : Ex mX10_counter 0 [.ref 209] [] h 0 0 (xqI Q)) : CI mX10_counter [.ref 209] h Q := k
theorem bX10_ask_0 {v1 : Int32} {mc ms : Nat} {Q : Int32 → xHp → Prop} (hW : xLay sh R) 
    (k : CI mX10_firstOf [.ref 209, .int (nI 6)] (sh, I, R) (fun w h1 => Ex mX10_ask 9 [.ref 209, .int v1] (.int w :: [.long (lN 0), .long v1.toInt64]) h1 mc ms (xqI Q))) :
    Ex mX10_ask 0 [.ref 209, .int v1] [] (sh, I, R) mc ms (xqI Q) := by
  refine xw_iload_n dX10_ask_0 rfl rfl ?_
  refine xw_i2l dX10_ask_1 ?_
  refine xw_lconst (v := lN 0) dX10_ask_2 rfl ?_
  refine xw_aload_n dX10_ask_3 rfl rfl ?_
  refine xw_bipush (v := nI 6) dX10_ask_4 (by decide) ?_
  exact yw_cV (As := [.int (nI 6)]) (b := 209) (st := [.long (lN 0), .long v1.toInt64]) dX10_ask_6 lX10_89 kiX10_firstOf kvX10_firstOf rfl rfl rfl (la_209 hW) rfl (Nat.le_of_ble_eq_true rfl) rfl (xk_I k)
theorem bX10_ask_9 {v1 s2 : Int32} {s1 s0 : Int64} {mc ms : Nat} {Q : Int32 → xHp → Prop} (hW : xLay sh R) 
    (k : CI mX10_in [.long s0, .long s1, .long ((s2 - (nI 1)).toInt64)] (sh, I, R) (fun w h1 => Ex mX10_ask 15 [.ref 209, .int v1] (.int w :: []) h1 mc ms (xqI Q))) :
    Ex mX10_ask 9 [.ref 209, .int v1] [.int s2, .long s1, .long s0] (sh, I, R) mc ms (xqI Q) := by
  refine xw_iconst (v := nI 1) dX10_ask_9 rfl ?_
  refine xw_isub dX10_ask_10 ?_
  refine xw_i2l dX10_ask_11 ?_
  exact yw_cS (As := [.long s0, .long s1, .long ((s2 - (nI 1)).toInt64)]) (st := []) dX10_ask_12 lX10_181 ksX10_in rfl rfl rfl (Nat.le_of_ble_eq_true rfl) rfl (xk_I k)
theorem bX10_ask_15 {v1 s0 : Int32} {mc ms : Nat} {Q : Int32 → xHp → Prop} (hW : xLay sh R) 
    (k : ((¬ s0 = 0 → CI mX10_endings [.ref 209, .int v1, .int (nI 0)] (sh, I, R) (fun w h1 => Ex mX10_ask 26 [.ref 209, .int v1] (.int w :: []) h1 mc ms (xqI Q))) ∧ (s0 = 0 → Q (-1) (sh, I, R)))) :
    Ex mX10_ask 15 [.ref 209, .int v1] [.int s0] (sh, I, R) mc ms (xqI Q) := by
  refine xw_ifne (tgt := 20) dX10_ask_15 (by decide) (fun c => ?_) (fun c => ?_)
  · replace k := k.1 c
    refine xw_aload_n dX10_ask_20 rfl rfl ?_
    refine xw_iload_n dX10_ask_21 rfl rfl ?_
    refine xw_iconst (v := nI 0) dX10_ask_22 rfl ?_
    exact yw_cV (As := [.int v1, .int (nI 0)]) (b := 209) (st := []) dX10_ask_23 lX10_348 kiX10_endings kvX10_endings rfl rfl rfl (la_209 hW) rfl (Nat.le_of_ble_eq_true rfl) rfl (xk_I k)
  · replace k := k.2 c
    refine xw_iconst (v := (-1)) dX10_ask_18 rfl ?_
    exact yw_iret dX10_ask_19 rfl k
theorem bX10_ask_26 {v1 s0 : Int32} {mc ms : Nat} {Q : Int32 → xHp → Prop} (hW : xLay sh R) 
    (k : ((s0 ≤ (nI 24) → CI mX10_endings [.ref 209, .int v1, .int (nI 1)] (sh, I, R) (fun w h1 => Ex mX10_ask 40 [xU, xU] (.int w :: []) h1 mc ms (xqI Q))) ∧ (¬ s0 ≤ (nI 24) → Q (-3) (sh, I, R)))) :
    Ex mX10_ask 26 [.ref 209, .int v1] [.int s0] (sh, I, R) mc ms (xqI Q) := by
  refine xw_bipush (v := nI 24) dX10_ask_26 (by decide) ?_
  refine xw_icle (tgt := 34) dX10_ask_28 (by decide) (fun c => ?_) (fun c => ?_)
  · replace k := k.1 c
    refine xw_aload_n dX10_ask_34 rfl rfl ?_
    refine xw_iload_n dX10_ask_35 rfl rfl ?_
    refine xw_iconst (v := nI 1) dX10_ask_36 rfl ?_
    refine yw_sub (lv' := [xU, xU]) ⟨Or.inl rfl, Or.inl rfl, trivial⟩ ?_
    exact yw_cV (As := [.int v1, .int (nI 1)]) (b := 209) (st := []) dX10_ask_37 lX10_348 kiX10_endings kvX10_endings rfl rfl rfl (la_209 hW) rfl (Nat.le_of_ble_eq_true rfl) rfl (xk_I k)
  · replace k := k.2 c
    refine xw_bipush (v := (-3)) dX10_ask_31 (by decide) ?_
    exact yw_iret dX10_ask_33 rfl k
theorem bX10_ask_40 {s0 : Int32} {mc ms : Nat} {Q : Int32 → xHp → Prop} (hW : xLay sh R) 
    (k : Q s0 (sh, I, R)) :
    Ex mX10_ask 40 [xU, xU] [.int s0] (sh, I, R) mc ms (xqI Q) := by
  exact yw_iret dX10_ask_40 rfl k
theorem eX10_ask {v1 : Int32} {h : xHp} {Q : Int32 → xHp → Prop} (k : Ex mX10_ask 0 [.ref 209, .int v1] [] h 0 0 (xqI Q)) : CI mX10_ask [.ref 209, .int v1] h Q := k
theorem bX10_basis_0 {v1 : Int32} {mc ms : Nat} {Q : Int32 → xHp → Prop} (hW : xLay sh R) 
    (k : ((0 ≤ v1 → CV mX10_bases [.ref 209, .int (nI 0)] (sh, I, R) (fun h1 => Ex mX10_basis 11 [.ref 209, .int v1] [] h1 mc ms (xqI Q))) ∧ (¬ 0 ≤ v1 → Q (-1) (sh, I, R)))) :
    Ex mX10_basis 0 [.ref 209, .int v1] [] (sh, I, R) mc ms (xqI Q) := by
  refine xw_iload_n dX10_basis_0 rfl rfl ?_
  refine xw_ifge (tgt := 6) dX10_basis_1 (by decide) (fun c => ?_) (fun c => ?_)
  · replace k := k.1 c
    refine xw_aload_n dX10_basis_6 rfl rfl ?_
    refine xw_iconst (v := nI 0) dX10_basis_7 rfl ?_
    exact yw_cV (As := [.int (nI 0)]) (b := 209) (st := []) dX10_basis_8 lX10_176 kiX10_bases kvX10_bases rfl rfl rfl (la_209 hW) rfl (Nat.le_of_ble_eq_true rfl) rfl (xk_V k)
  · replace k := k.2 c
    refine xw_iconst (v := (-1)) dX10_basis_4 rfl ?_
    exact yw_iret dX10_basis_5 rfl k
theorem bX10_basis_11 {v1 : Int32} {mc ms : Nat} {Q : Int32 → xHp → Prop} (hW : xLay sh R) 
    (k : (((I 209 14) ≤ v1 → Q (-4) (sh, I, R)) ∧ (¬ (I 209 14) ≤ v1 → vp_in v1 5 ∧ Q (I 217 v1.toNatClampNeg) (sh, I, R)))) :
    Ex mX10_basis 11 [.ref 209, .int v1] [] (sh, I, R) mc ms (xqI Q) := by
  refine xw_iload_n dX10_basis_11 rfl rfl ?_
  refine xw_aload_n dX10_basis_12 rfl rfl ?_
  refine yw_getI (v := I 209 14) dX10_basis_13 fX10_170 rfl (la_209 hW) rfl ?_
  refine xw_icge (tgt := 28) dX10_basis_16 (by decide) (fun c => ?_) (fun c => ?_)
  · replace k := k.1 c
    refine xw_bipush (v := (-4)) dX10_basis_28 (by decide) ?_
    exact yw_iret dX10_basis_30 rfl k
  · replace k := k.2 c
    refine xw_aload_n dX10_basis_19 rfl rfl ?_
    refine yw_getR (r := 217) dX10_basis_20 fX10_38 rfl (la_209 hW) (lr_209_13 hW) ?_
    refine xw_iload_n dX10_basis_23 rfl rfl ?_
    obtain ⟨k0, k⟩ := k
    refine yw_iaload (v := I 217 v1.toNatClampNeg) dX10_basis_24 (la_217 hW) k0 rfl ?_
    refine xw_goto (tgt := 30) dX10_basis_25 (by decide) ?_
    exact yw_iret dX10_basis_30 rfl k
theorem eX10_basis {v1 : Int32} {h : xHp} {Q : Int32 → xHp → Prop} (k : Ex mX10_basis 0 [.ref 209, .int v1] [] h 0 0 (xqI Q)) : CI mX10_basis [.ref 209, .int v1] h Q := k
theorem bX10_isResidue_0 {v1 : Int32} {mc ms : Nat} {Q : Int32 → xHp → Prop} (hW : xLay sh R) 
    (k : CI mX10_in [.long v1.toInt64, .long (lN 0), .long (((I 209 1) - (nI 1)).toInt64)] (sh, I, R) (fun w h1 => Ex mX10_isResidue 13 [xU, xU] (.int w :: []) h1 mc ms (xqI Q))) :
    Ex mX10_isResidue 0 [.ref 209, .int v1] [] (sh, I, R) mc ms (xqI Q) := by
  refine xw_iload_n dX10_isResidue_0 rfl rfl ?_
  refine xw_i2l dX10_isResidue_1 ?_
  refine xw_lconst (v := lN 0) dX10_isResidue_2 rfl ?_
  refine xw_aload_n dX10_isResidue_3 rfl rfl ?_
  refine yw_getI (v := I 209 1) dX10_isResidue_4 fX10_13 rfl (la_209 hW) rfl ?_
  refine xw_iconst (v := nI 1) dX10_isResidue_7 rfl ?_
  refine xw_isub dX10_isResidue_8 ?_
  refine xw_i2l dX10_isResidue_9 ?_
  refine yw_sub (lv' := [xU, xU]) ⟨Or.inl rfl, Or.inl rfl, trivial⟩ ?_
  exact yw_cS (As := [.long v1.toInt64, .long (lN 0), .long (((I 209 1) - (nI 1)).toInt64)]) (st := []) dX10_isResidue_10 lX10_181 ksX10_in rfl rfl rfl (Nat.le_of_ble_eq_true rfl) rfl (xk_I k)
theorem bX10_isResidue_13 {s0 : Int32} {mc ms : Nat} {Q : Int32 → xHp → Prop} (hW : xLay sh R) 
    (k : (s0 = 0 ∨ s0 = 1) ∧ Q s0 (sh, I, R)) :
    Ex mX10_isResidue 13 [xU, xU] [.int s0] (sh, I, R) mc ms (xqI Q) := by
  exact yw_zret dX10_isResidue_13 rfl (narrow_z _ k.1) k.2
theorem eX10_isResidue {v1 : Int32} {h : xHp} {Q : Int32 → xHp → Prop} (k : Ex mX10_isResidue 0 [.ref 209, .int v1] [] h 0 0 (xqI Q)) : CI mX10_isResidue [.ref 209, .int v1] h Q := k
theorem bX10_marks_0 {v1 v2 v3 : Int32} {mc ms : Nat} {Q : Int32 → xHp → Prop} (hW : xLay sh R) 
    (k : CI mX10_isState [.ref 209, .int (nI 0), .int v2] (sh, I, R) (fun w h1 => Ex mX10_marks 6 [.ref 209, .int v1, .int v2, .int v3, xU] (.int w :: []) h1 mc ms (xqI Q))) :
    Ex mX10_marks 0 [.ref 209, .int v1, .int v2, .int v3, xU] [] (sh, I, R) mc ms (xqI Q) := by
  refine xw_aload_n dX10_marks_0 rfl rfl ?_
  refine xw_iconst (v := nI 0) dX10_marks_1 rfl ?_
  refine xw_iload_n dX10_marks_2 rfl rfl ?_
  exact yw_cV (As := [.int (nI 0), .int v2]) (b := 209) (st := []) dX10_marks_3 lX10_291 kiX10_isState kvX10_isState rfl rfl rfl (la_209 hW) rfl (Nat.le_of_ble_eq_true rfl) rfl (xk_I k)
theorem bX10_marks_6 {v1 v2 v3 s0 : Int32} {mc ms : Nat} {Q : Int32 → xHp → Prop} (hW : xLay sh R) 
    (k : ((s0 = 0 → Q (-1) (sh, I, R)) ∧ (¬ s0 = 0 → CI mX10_isResidue [.ref 209, .int v3] (sh, I, R) (fun w h1 => Ex mX10_marks 14 [.ref 209, .int v1, .int v2, .int v3, xU] (.int w :: []) h1 mc ms (xqI Q))))) :
    Ex mX10_marks 6 [.ref 209, .int v1, .int v2, .int v3, xU] [.int s0] (sh, I, R) mc ms (xqI Q) := by
  refine xw_ifeq (tgt := 17) dX10_marks_6 (by decide) (fun c => ?_) (fun c => ?_)
  · replace k := k.1 c
    refine xw_iconst (v := (-1)) dX10_marks_17 rfl ?_
    exact yw_iret dX10_marks_18 rfl k
  · replace k := k.2 c
    refine xw_aload_n dX10_marks_9 rfl rfl ?_
    refine xw_iload_n dX10_marks_10 rfl rfl ?_
    exact yw_cV (As := [.int v3]) (b := 209) (st := []) dX10_marks_11 lX10_351 kiX10_isResidue kvX10_isResidue rfl rfl rfl (la_209 hW) rfl (Nat.le_of_ble_eq_true rfl) rfl (xk_I k)
theorem bX10_marks_14 {v1 v2 v3 s0 : Int32} {mc ms : Nat} {Q : Int32 → xHp → Prop} (hW : xLay sh R) 
    (k : ((¬ s0 = 0 → CI mX10_at [.ref 209, .int (nI 0), .int (v1 + v2)] (sh, I, R) (fun w h1 => Ex mX10_marks 31 [.ref 209, .int v1, .int v2, .int v3, xU] (.int w :: [.ref 210]) h1 mc ms (xqI Q))) ∧ (s0 = 0 → Q (-1) (sh, I, R)))) :
    Ex mX10_marks 14 [.ref 209, .int v1, .int v2, .int v3, xU] [.int s0] (sh, I, R) mc ms (xqI Q) := by
  refine xw_ifne (tgt := 19) dX10_marks_14 (by decide) (fun c => ?_) (fun c => ?_)
  · replace k := k.1 c
    refine xw_aload_n dX10_marks_19 rfl rfl ?_
    refine yw_getR (r := 210) dX10_marks_20 fX10_7 rfl (la_209 hW) (lr_209_0 hW) ?_
    refine xw_aload_n dX10_marks_23 rfl rfl ?_
    refine xw_iconst (v := nI 0) dX10_marks_24 rfl ?_
    refine xw_iload_n dX10_marks_25 rfl rfl ?_
    refine xw_iload_n dX10_marks_26 rfl rfl ?_
    refine xw_iadd dX10_marks_27 ?_
    exact yw_cV (As := [.int (nI 0), .int (v1 + v2)]) (b := 209) (st := [.ref 210]) dX10_marks_28 lX10_81 kiX10_at kvX10_at rfl rfl rfl (la_209 hW) rfl (Nat.le_of_ble_eq_true rfl) rfl (xk_I k)
  · replace k := k.2 c
    refine xw_iconst (v := (-1)) dX10_marks_17 rfl ?_
    exact yw_iret dX10_marks_18 rfl k
theorem bX10_marks_31 {v1 v2 v3 s1 : Int32} {mc ms : Nat} {Q : Int32 → xHp → Prop} (hW : xLay sh R) 
    (k : vp_in s1 1881 ∧ CI mX10_at [.ref 209, .int (nI 0), .int (v1 + v2)] (sh, I, R) (fun w h1 => Ex mX10_marks 46 [.ref 209, xU, xU, .int v3, .int (I 210 s1.toNatClampNeg)] (.int w :: [.ref 210]) h1 mc ms (xqI Q))) :
    Ex mX10_marks 31 [.ref 209, .int v1, .int v2, .int v3, xU] [.int s1, .ref 210] (sh, I, R) mc ms (xqI Q) := by
  obtain ⟨k0, k⟩ := k
  refine yw_iaload (v := I 210 s1.toNatClampNeg) dX10_marks_31 (la_210 hW) k0 rfl ?_
  refine yw_istore (lv' := [.ref 209, .int v1, .int v2, .int v3, .int (I 210 s1.toNatClampNeg)]) dX10_marks_32 rfl rfl rfl ?_
  refine xw_aload_n dX10_marks_34 rfl rfl ?_
  refine yw_getR (r := 210) dX10_marks_35 fX10_7 rfl (la_209 hW) (lr_209_0 hW) ?_
  refine xw_aload_n dX10_marks_38 rfl rfl ?_
  refine xw_iconst (v := nI 0) dX10_marks_39 rfl ?_
  refine xw_iload_n dX10_marks_40 rfl rfl ?_
  refine xw_iload_n dX10_marks_41 rfl rfl ?_
  refine xw_iadd dX10_marks_42 ?_
  refine yw_sub (lv' := [.ref 209, xU, xU, .int v3, .int (I 210 s1.toNatClampNeg)]) ⟨Or.inr rfl, Or.inl rfl, Or.inl rfl, Or.inr rfl, Or.inr rfl, trivial⟩ ?_
  exact yw_cV (As := [.int (nI 0), .int (v1 + v2)]) (b := 209) (st := [.ref 210]) dX10_marks_43 lX10_81 kiX10_at kvX10_at rfl rfl rfl (la_209 hW) rfl (Nat.le_of_ble_eq_true rfl) rfl (xk_I k)
theorem bX10_marks_46 {v3 v4 s1 : Int32} {mc ms : Nat} {Q : Int32 → xHp → Prop} (hW : xLay sh R) 
    (k : vp_in s1 1881 ∧ CV mX10_anew [.ref 209] (sh, (xi I 210 s1.toNatClampNeg v3), R) (fun h1 => Ex mX10_marks 52 [xU, xU, xU, xU, .int v4] [] h1 mc ms (xqI Q))) :
    Ex mX10_marks 46 [.ref 209, xU, xU, .int v3, .int v4] [.int s1, .ref 210] (sh, I, R) mc ms (xqI Q) := by
  refine xw_iload_n dX10_marks_46 rfl rfl ?_
  obtain ⟨k0, k⟩ := k
  refine yw_iastore dX10_marks_47 (la_210 hW) k0 ?_
  refine xw_aload_n dX10_marks_48 rfl rfl ?_
  refine yw_sub (lv' := [xU, xU, xU, xU, .int v4]) ⟨Or.inl rfl, Or.inl rfl, Or.inl rfl, Or.inl rfl, Or.inr rfl, trivial⟩ ?_
  exact yw_cV (As := []) (b := 209) (st := []) dX10_marks_49 lX10_78 kiX10_anew kvX10_anew rfl rfl rfl (la_209 hW) rfl (Nat.le_of_ble_eq_true rfl) rfl (xk_V k)
theorem bX10_marks_52 {v4 : Int32} {mc ms : Nat} {Q : Int32 → xHp → Prop} (hW : xLay sh R) 
    (k : Q v4 (sh, I, R)) :
    Ex mX10_marks 52 [xU, xU, xU, xU, .int v4] [] (sh, I, R) mc ms (xqI Q) := by
  refine xw_iload dX10_marks_52 rfl ?_
  exact yw_iret dX10_marks_54 rfl k
theorem eX10_marks {v1 : Int32} {v2 : Int32} {v3 : Int32} {h : xHp} {Q : Int32 → xHp → Prop} (k : Ex mX10_marks 0 [.ref 209, .int v1, .int v2, .int v3, xU] [] h 0 0 (xqI Q)) : CI mX10_marks [.ref 209, .int v1, .int v2, .int v3] h Q := k
theorem bX10_begins_0 {v1 v2 : Int32} {mc ms : Nat} {Q : Int32 → xHp → Prop} (hW : xLay sh R) 
    (k : CI mX10_marks [.ref 209, .int (nI 1), .int v1, .int v2] (sh, I, R) (fun w h1 => Ex mX10_begins 7 [xU, xU, xU] (.int w :: []) h1 mc ms (xqI Q))) :
    Ex mX10_begins 0 [.ref 209, .int v1, .int v2] [] (sh, I, R) mc ms (xqI Q) := by
  refine xw_aload_n dX10_begins_0 rfl rfl ?_
  refine xw_iconst (v := nI 1) dX10_begins_1 rfl ?_
  refine xw_iload_n dX10_begins_2 rfl rfl ?_
  refine xw_iload_n dX10_begins_3 rfl rfl ?_
  refine yw_sub (lv' := [xU, xU, xU]) ⟨Or.inl rfl, Or.inl rfl, Or.inl rfl, trivial⟩ ?_
  exact yw_cV (As := [.int (nI 1), .int v1, .int v2]) (b := 209) (st := []) dX10_begins_4 lX10_354 kiX10_marks kvX10_marks rfl rfl rfl (la_209 hW) rfl (Nat.le_of_ble_eq_true rfl) rfl (xk_I k)
theorem bX10_begins_7 {s0 : Int32} {mc ms : Nat} {Q : Int32 → xHp → Prop} (hW : xLay sh R) 
    (k : Q s0 (sh, I, R)) :
    Ex mX10_begins 7 [xU, xU, xU] [.int s0] (sh, I, R) mc ms (xqI Q) := by
  exact yw_iret dX10_begins_7 rfl k
theorem eX10_begins {v1 : Int32} {v2 : Int32} {h : xHp} {Q : Int32 → xHp → Prop} (k : Ex mX10_begins 0 [.ref 209, .int v1, .int v2] [] h 0 0 (xqI Q)) : CI mX10_begins [.ref 209, .int v1, .int v2] h Q := k
theorem bX10_ends_0 {v1 v2 : Int32} {mc ms : Nat} {Q : Int32 → xHp → Prop} (hW : xLay sh R) 
    (k : CI mX10_marks [.ref 209, .int (nI 5), .int v1, .int v2] (sh, I, R) (fun w h1 => Ex mX10_ends 7 [xU, xU, xU] (.int w :: []) h1 mc ms (xqI Q))) :
    Ex mX10_ends 0 [.ref 209, .int v1, .int v2] [] (sh, I, R) mc ms (xqI Q) := by
  refine xw_aload_n dX10_ends_0 rfl rfl ?_
  refine xw_iconst (v := nI 5) dX10_ends_1 rfl ?_
  refine xw_iload_n dX10_ends_2 rfl rfl ?_
  refine xw_iload_n dX10_ends_3 rfl rfl ?_
  refine yw_sub (lv' := [xU, xU, xU]) ⟨Or.inl rfl, Or.inl rfl, Or.inl rfl, trivial⟩ ?_
  exact yw_cV (As := [.int (nI 5), .int v1, .int v2]) (b := 209) (st := []) dX10_ends_4 lX10_354 kiX10_marks kvX10_marks rfl rfl rfl (la_209 hW) rfl (Nat.le_of_ble_eq_true rfl) rfl (xk_I k)
theorem bX10_ends_7 {s0 : Int32} {mc ms : Nat} {Q : Int32 → xHp → Prop} (hW : xLay sh R) 
    (k : Q s0 (sh, I, R)) :
    Ex mX10_ends 7 [xU, xU, xU] [.int s0] (sh, I, R) mc ms (xqI Q) := by
  exact yw_iret dX10_ends_7 rfl k
theorem eX10_ends {v1 : Int32} {v2 : Int32} {h : xHp} {Q : Int32 → xHp → Prop} (k : Ex mX10_ends 0 [.ref 209, .int v1, .int v2] [] h 0 0 (xqI Q)) : CI mX10_ends [.ref 209, .int v1, .int v2] h Q := k
theorem bX10_leads_0 {v1 v2 v3 v4 : Int32} {mc ms : Nat} {Q : Int32 → xHp → Prop} (hW : xLay sh R) 
    (k : CI mX10_isState [.ref 209, .int (nI 0), .int v1] (sh, I, R) (fun w h1 => Ex mX10_leads 6 [.ref 209, .int v1, .int v2, .int v3, .int v4, xU] (.int w :: []) h1 mc ms (xqI Q))) :
    Ex mX10_leads 0 [.ref 209, .int v1, .int v2, .int v3, .int v4, xU] [] (sh, I, R) mc ms (xqI Q) := by
  refine xw_aload_n dX10_leads_0 rfl rfl ?_
  refine xw_iconst (v := nI 0) dX10_leads_1 rfl ?_
  refine xw_iload_n dX10_leads_2 rfl rfl ?_
  exact yw_cV (As := [.int (nI 0), .int v1]) (b := 209) (st := []) dX10_leads_3 lX10_291 kiX10_isState kvX10_isState rfl rfl rfl (la_209 hW) rfl (Nat.le_of_ble_eq_true rfl) rfl (xk_I k)
theorem bX10_leads_6 {v1 v2 v3 v4 s0 : Int32} {mc ms : Nat} {Q : Int32 → xHp → Prop} (hW : xLay sh R) 
    (k : ((s0 = 0 → Q (-1) (sh, I, R)) ∧ (¬ s0 = 0 → CI mX10_isLetter [.ref 209, .int v2] (sh, I, R) (fun w h1 => Ex mX10_leads 14 [.ref 209, .int v1, .int v2, .int v3, .int v4, xU] (.int w :: []) h1 mc ms (xqI Q))))) :
    Ex mX10_leads 6 [.ref 209, .int v1, .int v2, .int v3, .int v4, xU] [.int s0] (sh, I, R) mc ms (xqI Q) := by
  refine xw_ifeq (tgt := 35) dX10_leads_6 (by decide) (fun c => ?_) (fun c => ?_)
  · replace k := k.1 c
    refine xw_iconst (v := (-1)) dX10_leads_35 rfl ?_
    exact yw_iret dX10_leads_36 rfl k
  · replace k := k.2 c
    refine xw_aload_n dX10_leads_9 rfl rfl ?_
    refine xw_iload_n dX10_leads_10 rfl rfl ?_
    exact yw_cV (As := [.int v2]) (b := 209) (st := []) dX10_leads_11 lX10_294 kiX10_isLetter kvX10_isLetter rfl rfl rfl (la_209 hW) rfl (Nat.le_of_ble_eq_true rfl) rfl (xk_I k)
theorem bX10_leads_14 {v1 v2 v3 v4 s0 : Int32} {mc ms : Nat} {Q : Int32 → xHp → Prop} (hW : xLay sh R) 
    (k : ((s0 = 0 → Q (-1) (sh, I, R)) ∧ (¬ s0 = 0 → CI mX10_isState [.ref 209, .int (nI 0), .int v3] (sh, I, R) (fun w h1 => Ex mX10_leads 23 [.ref 209, .int v1, .int v2, .int v3, .int v4, xU] (.int w :: []) h1 mc ms (xqI Q))))) :
    Ex mX10_leads 14 [.ref 209, .int v1, .int v2, .int v3, .int v4, xU] [.int s0] (sh, I, R) mc ms (xqI Q) := by
  refine xw_ifeq (tgt := 35) dX10_leads_14 (by decide) (fun c => ?_) (fun c => ?_)
  · replace k := k.1 c
    refine xw_iconst (v := (-1)) dX10_leads_35 rfl ?_
    exact yw_iret dX10_leads_36 rfl k
  · replace k := k.2 c
    refine xw_aload_n dX10_leads_17 rfl rfl ?_
    refine xw_iconst (v := nI 0) dX10_leads_18 rfl ?_
    refine xw_iload_n dX10_leads_19 rfl rfl ?_
    exact yw_cV (As := [.int (nI 0), .int v3]) (b := 209) (st := []) dX10_leads_20 lX10_291 kiX10_isState kvX10_isState rfl rfl rfl (la_209 hW) rfl (Nat.le_of_ble_eq_true rfl) rfl (xk_I k)
theorem bX10_leads_23 {v1 v2 v3 v4 s0 : Int32} {mc ms : Nat} {Q : Int32 → xHp → Prop} (hW : xLay sh R) 
    (k : ((s0 = 0 → Q (-1) (sh, I, R)) ∧ (¬ s0 = 0 → CI mX10_isResidue [.ref 209, .int v4] (sh, I, R) (fun w h1 => Ex mX10_leads 32 [.ref 209, .int v1, .int v2, .int v3, .int v4, xU] (.int w :: []) h1 mc ms (xqI Q))))) :
    Ex mX10_leads 23 [.ref 209, .int v1, .int v2, .int v3, .int v4, xU] [.int s0] (sh, I, R) mc ms (xqI Q) := by
  refine xw_ifeq (tgt := 35) dX10_leads_23 (by decide) (fun c => ?_) (fun c => ?_)
  · replace k := k.1 c
    refine xw_iconst (v := (-1)) dX10_leads_35 rfl ?_
    exact yw_iret dX10_leads_36 rfl k
  · replace k := k.2 c
    refine xw_aload_n dX10_leads_26 rfl rfl ?_
    refine xw_iload dX10_leads_27 rfl ?_
    exact yw_cV (As := [.int v4]) (b := 209) (st := []) dX10_leads_29 lX10_351 kiX10_isResidue kvX10_isResidue rfl rfl rfl (la_209 hW) rfl (Nat.le_of_ble_eq_true rfl) rfl (xk_I k)
theorem bX10_leads_32 {v1 v2 v3 v4 s0 : Int32} {mc ms : Nat} {Q : Int32 → xHp → Prop} (hW : xLay sh R) 
    (k : ((¬ s0 = 0 → CI mX10_weight [.ref 209, .int (nI 0), .int v1, .int v2, .int v3] (sh, I, R) (fun w h1 => Ex mX10_leads 45 [.ref 209, .int v1, .int v2, .int v3, .int v4, xU] (.int w :: []) h1 mc ms (xqI Q))) ∧ (s0 = 0 → Q (-1) (sh, I, R)))) :
    Ex mX10_leads 32 [.ref 209, .int v1, .int v2, .int v3, .int v4, xU] [.int s0] (sh, I, R) mc ms (xqI Q) := by
  refine xw_ifne (tgt := 37) dX10_leads_32 (by decide) (fun c => ?_) (fun c => ?_)
  · replace k := k.1 c
    refine xw_aload_n dX10_leads_37 rfl rfl ?_
    refine xw_iconst (v := nI 0) dX10_leads_38 rfl ?_
    refine xw_iload_n dX10_leads_39 rfl rfl ?_
    refine xw_iload_n dX10_leads_40 rfl rfl ?_
    refine xw_iload_n dX10_leads_41 rfl rfl ?_
    exact yw_cV (As := [.int (nI 0), .int v1, .int v2, .int v3]) (b := 209) (st := []) dX10_leads_42 lX10_98 kiX10_weight kvX10_weight rfl rfl rfl (la_209 hW) rfl (Nat.le_of_ble_eq_true rfl) rfl (xk_I k)
  · replace k := k.2 c
    refine xw_iconst (v := (-1)) dX10_leads_35 rfl ?_
    exact yw_iret dX10_leads_36 rfl k
theorem bX10_leads_45 {v1 v2 v3 v4 s0 : Int32} {mc ms : Nat} {Q : Int32 → xHp → Prop} (hW : xLay sh R) 
    (k : CV mX10_weighs [.ref 209, .int (nI 0), .int v1, .int v2, .int v3, .int v4] (sh, I, R) (fun h1 => Ex mX10_leads 57 [.ref 209, xU, xU, xU, xU, .int s0] [] h1 mc ms (xqI Q))) :
    Ex mX10_leads 45 [.ref 209, .int v1, .int v2, .int v3, .int v4, xU] [.int s0] (sh, I, R) mc ms (xqI Q) := by
  refine yw_istore (lv' := [.ref 209, .int v1, .int v2, .int v3, .int v4, .int s0]) dX10_leads_45 rfl rfl rfl ?_
  refine xw_aload_n dX10_leads_47 rfl rfl ?_
  refine xw_iconst (v := nI 0) dX10_leads_48 rfl ?_
  refine xw_iload_n dX10_leads_49 rfl rfl ?_
  refine xw_iload_n dX10_leads_50 rfl rfl ?_
  refine xw_iload_n dX10_leads_51 rfl rfl ?_
  refine xw_iload dX10_leads_52 rfl ?_
  refine yw_sub (lv' := [.ref 209, xU, xU, xU, xU, .int s0]) ⟨Or.inr rfl, Or.inl rfl, Or.inl rfl, Or.inl rfl, Or.inl rfl, Or.inr rfl, trivial⟩ ?_
  exact yw_cV (As := [.int (nI 0), .int v1, .int v2, .int v3, .int v4]) (b := 209) (st := []) dX10_leads_54 lX10_160 kiX10_weighs kvX10_weighs rfl rfl rfl (la_209 hW) rfl (Nat.le_of_ble_eq_true rfl) rfl (xk_V k)
theorem bX10_leads_57 {v5 : Int32} {mc ms : Nat} {Q : Int32 → xHp → Prop} (hW : xLay sh R) 
    (k : CV mX10_anew [.ref 209] (sh, I, R) (fun h1 => Ex mX10_leads 61 [xU, xU, xU, xU, xU, .int v5] [] h1 mc ms (xqI Q))) :
    Ex mX10_leads 57 [.ref 209, xU, xU, xU, xU, .int v5] [] (sh, I, R) mc ms (xqI Q) := by
  refine xw_aload_n dX10_leads_57 rfl rfl ?_
  refine yw_sub (lv' := [xU, xU, xU, xU, xU, .int v5]) ⟨Or.inl rfl, Or.inl rfl, Or.inl rfl, Or.inl rfl, Or.inl rfl, Or.inr rfl, trivial⟩ ?_
  exact yw_cV (As := []) (b := 209) (st := []) dX10_leads_58 lX10_78 kiX10_anew kvX10_anew rfl rfl rfl (la_209 hW) rfl (Nat.le_of_ble_eq_true rfl) rfl (xk_V k)
theorem bX10_leads_61 {v5 : Int32} {mc ms : Nat} {Q : Int32 → xHp → Prop} (hW : xLay sh R) 
    (k : Q v5 (sh, I, R)) :
    Ex mX10_leads 61 [xU, xU, xU, xU, xU, .int v5] [] (sh, I, R) mc ms (xqI Q) := by
  refine xw_iload dX10_leads_61 rfl ?_
  exact yw_iret dX10_leads_63 rfl k
theorem eX10_leads {v1 : Int32} {v2 : Int32} {v3 : Int32} {v4 : Int32} {h : xHp} {Q : Int32 → xHp → Prop} (k : Ex mX10_leads 0 [.ref 209, .int v1, .int v2, .int v3, .int v4, xU] [] h 0 0 (xqI Q)) : CI mX10_leads [.ref 209, .int v1, .int v2, .int v3, .int v4] h Q := k
theorem bX10_grow_0 {mc ms : Nat} {Q : Int32 → xHp → Prop} (hW : xLay sh R) 
    (k : CI mX10_many [.ref 209, .int (nI 0)] (sh, I, R) (fun w h1 => Ex mX10_grow 5 [.ref 209, xU, xU, xU] (.int w :: []) h1 mc ms (xqI Q))) :
    Ex mX10_grow 0 [.ref 209, xU, xU, xU] [] (sh, I, R) mc ms (xqI Q) := by
  refine xw_aload_n dX10_grow_0 rfl rfl ?_
  refine xw_iconst (v := nI 0) dX10_grow_1 rfl ?_
  exact yw_cV (As := [.int (nI 0)]) (b := 209) (st := []) dX10_grow_2 lX10_95 kiX10_many kvX10_many rfl rfl rfl (la_209 hW) rfl (Nat.le_of_ble_eq_true rfl) rfl (xk_I k)
theorem bX10_grow_5 {s0 : Int32} {mc ms : Nat} {Q : Int32 → xHp → Prop} (hW : xLay sh R) 
    (k : ((¬ s0 = (nI 4) → CI mX10_at [.ref 209, .int (nI 0), .int (nI 0)] (sh, I, R) (fun w h1 => Ex mX10_grow 24 [.ref 209, .int s0, xU, xU] (.int w :: [.ref 210]) h1 mc ms (xqI Q))) ∧ (s0 = (nI 4) → Q (-3) (sh, I, R)))) :
    Ex mX10_grow 5 [.ref 209, xU, xU, xU] [.int s0] (sh, I, R) mc ms (xqI Q) := by
  refine yw_istore_n (lv' := [.ref 209, .int s0, xU, xU]) dX10_grow_5 rfl rfl rfl rfl ?_
  refine xw_iload_n dX10_grow_6 rfl rfl ?_
  refine xw_iconst (v := nI 4) dX10_grow_7 rfl ?_
  refine xw_icne (tgt := 14) dX10_grow_8 (by decide) (fun c => ?_) (fun c => ?_)
  · replace k := k.1 c
    refine xw_aload_n dX10_grow_14 rfl rfl ?_
    refine yw_getR (r := 210) dX10_grow_15 fX10_7 rfl (la_209 hW) (lr_209_0 hW) ?_
    refine xw_aload_n dX10_grow_18 rfl rfl ?_
    refine xw_iconst (v := nI 0) dX10_grow_19 rfl ?_
    refine xw_iconst (v := nI 0) dX10_grow_20 rfl ?_
    exact yw_cV (As := [.int (nI 0), .int (nI 0)]) (b := 209) (st := [.ref 210]) dX10_grow_21 lX10_81 kiX10_at kvX10_at rfl rfl rfl (la_209 hW) rfl (Nat.le_of_ble_eq_true rfl) rfl (xk_I k)
  · replace k := k.2 c
    refine xw_bipush (v := (-3)) dX10_grow_11 (by decide) ?_
    exact yw_iret dX10_grow_13 rfl k
theorem bX10_grow_24 {v1 s1 : Int32} {mc ms : Nat} {Q : Int32 → xHp → Prop} (hW : xLay sh R) 
    (k : vp_in s1 1881 ∧ CI mX10_at [.ref 209, .int (nI 0), .int ((nI 1) + v1)] (sh, (xi I 210 s1.toNatClampNeg (v1 + (nI 1))), R) (fun w h1 => Ex mX10_grow 40 [.ref 209, .int v1, xU, xU] (.int w :: [.ref 210]) h1 mc ms (xqI Q))) :
    Ex mX10_grow 24 [.ref 209, .int v1, xU, xU] [.int s1, .ref 210] (sh, I, R) mc ms (xqI Q) := by
  refine xw_iload_n dX10_grow_24 rfl rfl ?_
  refine xw_iconst (v := nI 1) dX10_grow_25 rfl ?_
  refine xw_iadd dX10_grow_26 ?_
  obtain ⟨k0, k⟩ := k
  refine yw_iastore dX10_grow_27 (la_210 hW) k0 ?_
  refine xw_aload_n dX10_grow_28 rfl rfl ?_
  refine yw_getR (r := 210) dX10_grow_29 fX10_7 rfl (la_209 hW) (lr_209_0 hW) ?_
  refine xw_aload_n dX10_grow_32 rfl rfl ?_
  refine xw_iconst (v := nI 0) dX10_grow_33 rfl ?_
  refine xw_iconst (v := nI 1) dX10_grow_34 rfl ?_
  refine xw_iload_n dX10_grow_35 rfl rfl ?_
  refine xw_iadd dX10_grow_36 ?_
  exact yw_cV (As := [.int (nI 0), .int ((nI 1) + v1)]) (b := 209) (st := [.ref 210]) dX10_grow_37 lX10_81 kiX10_at kvX10_at rfl rfl rfl (la_209 hW) rfl (Nat.le_of_ble_eq_true rfl) rfl (xk_I k)
theorem bX10_grow_40 {v1 s1 : Int32} {mc ms : Nat} {Q : Int32 → xHp → Prop} (hW : xLay sh R) 
    (k : vp_in s1 1881 ∧ CI mX10_at [.ref 209, .int (nI 0), .int ((nI 5) + v1)] (sh, (xi I 210 s1.toNatClampNeg (nI 0)), R) (fun w h1 => Ex mX10_grow 54 [.ref 209, .int v1, xU, xU] (.int w :: [.ref 210]) h1 mc ms (xqI Q))) :
    Ex mX10_grow 40 [.ref 209, .int v1, xU, xU] [.int s1, .ref 210] (sh, I, R) mc ms (xqI Q) := by
  refine xw_iconst (v := nI 0) dX10_grow_40 rfl ?_
  obtain ⟨k0, k⟩ := k
  refine yw_iastore dX10_grow_41 (la_210 hW) k0 ?_
  refine xw_aload_n dX10_grow_42 rfl rfl ?_
  refine yw_getR (r := 210) dX10_grow_43 fX10_7 rfl (la_209 hW) (lr_209_0 hW) ?_
  refine xw_aload_n dX10_grow_46 rfl rfl ?_
  refine xw_iconst (v := nI 0) dX10_grow_47 rfl ?_
  refine xw_iconst (v := nI 5) dX10_grow_48 rfl ?_
  refine xw_iload_n dX10_grow_49 rfl rfl ?_
  refine xw_iadd dX10_grow_50 ?_
  exact yw_cV (As := [.int (nI 0), .int ((nI 5) + v1)]) (b := 209) (st := [.ref 210]) dX10_grow_51 lX10_81 kiX10_at kvX10_at rfl rfl rfl (la_209 hW) rfl (Nat.le_of_ble_eq_true rfl) rfl (xk_I k)
theorem bX10_grow_54 {v1 s1 : Int32} {mc ms : Nat} {Q : Int32 → xHp → Prop} (hW : xLay sh R) 
    (k : vp_in s1 1881 ∧ Ex mX10_grow 58 [.ref 209, .int v1, .int (nI 0), xU] [] (sh, (xi I 210 s1.toNatClampNeg (nI 0)), R) mc ms (xqI Q)) :
    Ex mX10_grow 54 [.ref 209, .int v1, xU, xU] [.int s1, .ref 210] (sh, I, R) mc ms (xqI Q) := by
  refine xw_iconst (v := nI 0) dX10_grow_54 rfl ?_
  obtain ⟨k0, k⟩ := k
  refine yw_iastore dX10_grow_55 (la_210 hW) k0 ?_
  refine xw_iconst (v := nI 0) dX10_grow_56 rfl ?_
  refine yw_istore_n (lv' := [.ref 209, .int v1, .int (nI 0), xU]) dX10_grow_57 rfl rfl rfl rfl ?_
  exact k
theorem bX10_grow_58 {v1 v2 : Int32} {mc ms : Nat} {Q : Int32 → xHp → Prop} (hW : xLay sh R) 
    (k : ((v1 < v2 → CV mX10_anew [.ref 209] (sh, I, R) (fun h1 => Ex mX10_grow 104 [xU, .int v1, xU, xU] [] h1 mc ms (xqI Q))) ∧ (¬ v1 < v2 → Ex mX10_grow 65 [.ref 209, .int v1, .int v2, .int (nI 0)] [] (sh, I, R) mc ms (xqI Q)))) :
    Ex mX10_grow 58 [.ref 209, .int v1, .int v2, xU] [] (sh, I, R) mc ms (xqI Q) := by
  refine xw_iload_n dX10_grow_58 rfl rfl ?_
  refine xw_iload_n dX10_grow_59 rfl rfl ?_
  refine xw_icgt (tgt := 100) dX10_grow_60 (by decide) (fun c => ?_) (fun c => ?_)
  · replace k := k.1 c
    refine xw_aload_n dX10_grow_100 rfl rfl ?_
    refine yw_sub (lv' := [xU, .int v1, xU, xU]) ⟨Or.inl rfl, Or.inr rfl, Or.inl rfl, Or.inl rfl, trivial⟩ ?_
    exact yw_cV (As := []) (b := 209) (st := []) dX10_grow_101 lX10_78 kiX10_anew kvX10_anew rfl rfl rfl (la_209 hW) rfl (Nat.le_of_ble_eq_true rfl) rfl (xk_V k)
  · replace k := k.2 c
    refine xw_iconst (v := nI 0) dX10_grow_63 rfl ?_
    refine yw_istore_n (lv' := [.ref 209, .int v1, .int v2, .int (nI 0)]) dX10_grow_64 rfl rfl rfl rfl ?_
    exact k
theorem bX10_grow_104 {v1 : Int32} {mc ms : Nat} {Q : Int32 → xHp → Prop} (hW : xLay sh R) 
    (k : Q (v1 + (nI 1)) (sh, I, R)) :
    Ex mX10_grow 104 [xU, .int v1, xU, xU] [] (sh, I, R) mc ms (xqI Q) := by
  refine xw_iload_n dX10_grow_104 rfl rfl ?_
  refine xw_iconst (v := nI 1) dX10_grow_105 rfl ?_
  refine xw_iadd dX10_grow_106 ?_
  exact yw_iret dX10_grow_107 rfl k
theorem bX10_grow_65 {v1 v2 v3 : Int32} {mc ms : Nat} {Q : Int32 → xHp → Prop} (hW : xLay sh R) 
    (k : (((nI 3) ≤ v3 → Ex mX10_grow 58 [.ref 209, .int v1, .int (v2 + nI 1), xU] [] (sh, I, R) mc ms (xqI Q)) ∧ (¬ (nI 3) ≤ v3 → CV mX10_weighs [.ref 209, .int (nI 0), .int v2, .int v3, .int v1, .int (nI 0)] (sh, I, R) (fun h1 => Ex mX10_grow 79 [.ref 209, .int v1, .int v2, .int v3] [] h1 mc ms (xqI Q))))) :
    Ex mX10_grow 65 [.ref 209, .int v1, .int v2, .int v3] [] (sh, I, R) mc ms (xqI Q) := by
  refine xw_iload_n dX10_grow_65 rfl rfl ?_
  refine xw_iconst (v := nI 3) dX10_grow_66 rfl ?_
  refine xw_icge (tgt := 94) dX10_grow_67 (by decide) (fun c => ?_) (fun c => ?_)
  · replace k := k.1 c
    refine yw_iinc (lv' := [.ref 209, .int v1, .int (v2 + nI 1), .int v3]) (v := nI 1) dX10_grow_94 rfl rfl rfl rfl rfl ?_
    refine xw_goto (tgt := 58) dX10_grow_97 (by decide) ?_
    exact yw_sub (lv' := [.ref 209, .int v1, .int (v2 + nI 1), xU]) ⟨Or.inr rfl, Or.inr rfl, Or.inr rfl, Or.inl rfl, trivial⟩ k
  · replace k := k.2 c
    refine xw_aload_n dX10_grow_70 rfl rfl ?_
    refine xw_iconst (v := nI 0) dX10_grow_71 rfl ?_
    refine xw_iload_n dX10_grow_72 rfl rfl ?_
    refine xw_iload_n dX10_grow_73 rfl rfl ?_
    refine xw_iload_n dX10_grow_74 rfl rfl ?_
    refine xw_iconst (v := nI 0) dX10_grow_75 rfl ?_
    exact yw_cV (As := [.int (nI 0), .int v2, .int v3, .int v1, .int (nI 0)]) (b := 209) (st := []) dX10_grow_76 lX10_160 kiX10_weighs kvX10_weighs rfl rfl rfl (la_209 hW) rfl (Nat.le_of_ble_eq_true rfl) rfl (xk_V k)
theorem bX10_grow_79 {v1 v2 v3 : Int32} {mc ms : Nat} {Q : Int32 → xHp → Prop} (hW : xLay sh R) 
    (k : CV mX10_weighs [.ref 209, .int (nI 0), .int v1, .int v3, .int v2, .int (nI 0)] (sh, I, R) (fun h1 => Ex mX10_grow 88 [.ref 209, .int v1, .int v2, .int v3] [] h1 mc ms (xqI Q))) :
    Ex mX10_grow 79 [.ref 209, .int v1, .int v2, .int v3] [] (sh, I, R) mc ms (xqI Q) := by
  refine xw_aload_n dX10_grow_79 rfl rfl ?_
  refine xw_iconst (v := nI 0) dX10_grow_80 rfl ?_
  refine xw_iload_n dX10_grow_81 rfl rfl ?_
  refine xw_iload_n dX10_grow_82 rfl rfl ?_
  refine xw_iload_n dX10_grow_83 rfl rfl ?_
  refine xw_iconst (v := nI 0) dX10_grow_84 rfl ?_
  exact yw_cV (As := [.int (nI 0), .int v1, .int v3, .int v2, .int (nI 0)]) (b := 209) (st := []) dX10_grow_85 lX10_160 kiX10_weighs kvX10_weighs rfl rfl rfl (la_209 hW) rfl (Nat.le_of_ble_eq_true rfl) rfl (xk_V k)
theorem bX10_grow_88 {v1 v2 v3 : Int32} {mc ms : Nat} {Q : Int32 → xHp → Prop} (hW : xLay sh R) 
    (k : Ex mX10_grow 65 [.ref 209, .int v1, .int v2, .int (v3 + nI 1)] [] (sh, I, R) mc ms (xqI Q)) :
    Ex mX10_grow 88 [.ref 209, .int v1, .int v2, .int v3] [] (sh, I, R) mc ms (xqI Q) := by
  refine yw_iinc (lv' := [.ref 209, .int v1, .int v2, .int (v3 + nI 1)]) (v := nI 1) dX10_grow_88 rfl rfl rfl rfl rfl ?_
  refine xw_goto (tgt := 65) dX10_grow_91 (by decide) ?_
  exact k
theorem eX10_grow {h : xHp} {Q : Int32 → xHp → Prop} (k : Ex mX10_grow 0 [.ref 209, xU, xU, xU] [] h 0 0 (xqI Q)) : CI mX10_grow [.ref 209] h Q := k
theorem bX10_cellOf_0 {v1 v2 : Int32} {mc ms : Nat} {Q : Int32 → xHp → Prop} (hW : xLay sh R) 
    (k : ((¬ v2 = (-4) → CI mX10_at [.ref 209, .int (nI 32), .int (v1 + v2)] (sh, I, R) (fun w h1 => Ex mX10_cellOf 23 [xU, xU, xU] (.int w :: [.ref 210]) h1 mc ms (xqI Q))) ∧ (v2 = (-4) → Q (nI 0) (sh, I, R)))) :
    Ex mX10_cellOf 0 [.ref 209, .int v1, .int v2] [] (sh, I, R) mc ms (xqI Q) := by
  refine xw_iload_n dX10_cellOf_0 rfl rfl ?_
  refine xw_bipush (v := (-4)) dX10_cellOf_1 (by decide) ?_
  refine xw_icne (tgt := 10) dX10_cellOf_3 (by decide) (fun c => ?_) (fun c => ?_)
  · replace k := k.1 c
    refine xw_aload_n dX10_cellOf_10 rfl rfl ?_
    refine yw_getR (r := 210) dX10_cellOf_11 fX10_7 rfl (la_209 hW) (lr_209_0 hW) ?_
    refine xw_aload_n dX10_cellOf_14 rfl rfl ?_
    refine xw_bipush (v := nI 32) dX10_cellOf_15 (by decide) ?_
    refine xw_iload_n dX10_cellOf_17 rfl rfl ?_
    refine xw_iload_n dX10_cellOf_18 rfl rfl ?_
    refine xw_iadd dX10_cellOf_19 ?_
    refine yw_sub (lv' := [xU, xU, xU]) ⟨Or.inl rfl, Or.inl rfl, Or.inl rfl, trivial⟩ ?_
    exact yw_cV (As := [.int (nI 32), .int (v1 + v2)]) (b := 209) (st := [.ref 210]) dX10_cellOf_20 lX10_81 kiX10_at kvX10_at rfl rfl rfl (la_209 hW) rfl (Nat.le_of_ble_eq_true rfl) rfl (xk_I k)
  · replace k := k.2 c
    refine xw_iconst (v := nI 0) dX10_cellOf_6 rfl ?_
    refine xw_goto (tgt := 24) dX10_cellOf_7 (by decide) ?_
    exact yw_iret dX10_cellOf_24 rfl k
theorem bX10_cellOf_23 {s1 : Int32} {mc ms : Nat} {Q : Int32 → xHp → Prop} (hW : xLay sh R) 
    (k : vp_in s1 1881 ∧ Q (I 210 s1.toNatClampNeg) (sh, I, R)) :
    Ex mX10_cellOf 23 [xU, xU, xU] [.int s1, .ref 210] (sh, I, R) mc ms (xqI Q) := by
  obtain ⟨k0, k⟩ := k
  refine yw_iaload (v := I 210 s1.toNatClampNeg) dX10_cellOf_23 (la_210 hW) k0 rfl ?_
  exact yw_iret dX10_cellOf_24 rfl k
theorem eX10_cellOf {v1 : Int32} {v2 : Int32} {h : xHp} {Q : Int32 → xHp → Prop} (k : Ex mX10_cellOf 0 [.ref 209, .int v1, .int v2] [] h 0 0 (xqI Q)) : CI mX10_cellOf [.ref 209, .int v1, .int v2] h Q := k
theorem bX10_drop_0 {v1 : Int32} {mc ms : Nat} {Q : Int32 → xHp → Prop} (hW : xLay sh R) 
    (k : CI mX10_isState [.ref 209, .int (nI 0), .int v1] (sh, I, R) (fun w h1 => Ex mX10_drop 6 [.ref 209, .int v1, xU, xU, xU, xU, xU] (.int w :: []) h1 mc ms (xqI Q))) :
    Ex mX10_drop 0 [.ref 209, .int v1, xU, xU, xU, xU, xU] [] (sh, I, R) mc ms (xqI Q) := by
  refine xw_aload_n dX10_drop_0 rfl rfl ?_
  refine xw_iconst (v := nI 0) dX10_drop_1 rfl ?_
  refine xw_iload_n dX10_drop_2 rfl rfl ?_
  exact yw_cV (As := [.int (nI 0), .int v1]) (b := 209) (st := []) dX10_drop_3 lX10_291 kiX10_isState kvX10_isState rfl rfl rfl (la_209 hW) rfl (Nat.le_of_ble_eq_true rfl) rfl (xk_I k)
theorem bX10_drop_6 {v1 s0 : Int32} {mc ms : Nat} {Q : Int32 → xHp → Prop} (hW : xLay sh R) 
    (k : ((¬ s0 = 0 → CV mX10_copies [.ref 209, .int (nI 0), .int (nI 32)] (sh, I, R) (fun h1 => Ex mX10_drop 18 [.ref 209, .int v1, xU, xU, xU, xU, xU] [] h1 mc ms (xqI Q))) ∧ (s0 = 0 → Q (-1) (sh, I, R)))) :
    Ex mX10_drop 6 [.ref 209, .int v1, xU, xU, xU, xU, xU] [.int s0] (sh, I, R) mc ms (xqI Q) := by
  refine xw_ifne (tgt := 11) dX10_drop_6 (by decide) (fun c => ?_) (fun c => ?_)
  · replace k := k.1 c
    refine xw_aload_n dX10_drop_11 rfl rfl ?_
    refine xw_iconst (v := nI 0) dX10_drop_12 rfl ?_
    refine xw_bipush (v := nI 32) dX10_drop_13 (by decide) ?_
    exact yw_cV (As := [.int (nI 0), .int (nI 32)]) (b := 209) (st := []) dX10_drop_15 lX10_264 kiX10_copies kvX10_copies rfl rfl rfl (la_209 hW) rfl (Nat.le_of_ble_eq_true rfl) rfl (xk_V k)
  · replace k := k.2 c
    refine xw_iconst (v := (-1)) dX10_drop_9 rfl ?_
    exact yw_iret dX10_drop_10 rfl k
theorem bX10_drop_18 {v1 : Int32} {mc ms : Nat} {Q : Int32 → xHp → Prop} (hW : xLay sh R) 
    (k : CI mX10_many [.ref 209, .int (nI 0)] (sh, I, R) (fun w h1 => Ex mX10_drop 23 [.ref 209, .int v1, xU, xU, xU, xU, xU] (.int w :: []) h1 mc ms (xqI Q))) :
    Ex mX10_drop 18 [.ref 209, .int v1, xU, xU, xU, xU, xU] [] (sh, I, R) mc ms (xqI Q) := by
  refine xw_aload_n dX10_drop_18 rfl rfl ?_
  refine xw_iconst (v := nI 0) dX10_drop_19 rfl ?_
  exact yw_cV (As := [.int (nI 0)]) (b := 209) (st := []) dX10_drop_20 lX10_95 kiX10_many kvX10_many rfl rfl rfl (la_209 hW) rfl (Nat.le_of_ble_eq_true rfl) rfl (xk_I k)
theorem bX10_drop_23 {v1 s0 : Int32} {mc ms : Nat} {Q : Int32 → xHp → Prop} (hW : xLay sh R) 
    (k : CI mX10_at [.ref 209, .int (nI 0), .int (nI 0)] (sh, I, R) (fun w h1 => Ex mX10_drop 36 [.ref 209, .int v1, .int (s0 - (nI 1)), xU, xU, xU, xU] (.int w :: [.ref 210]) h1 mc ms (xqI Q))) :
    Ex mX10_drop 23 [.ref 209, .int v1, xU, xU, xU, xU, xU] [.int s0] (sh, I, R) mc ms (xqI Q) := by
  refine xw_iconst (v := nI 1) dX10_drop_23 rfl ?_
  refine xw_isub dX10_drop_24 ?_
  refine yw_istore_n (lv' := [.ref 209, .int v1, .int (s0 - (nI 1)), xU, xU, xU, xU]) dX10_drop_25 rfl rfl rfl rfl ?_
  refine xw_aload_n dX10_drop_26 rfl rfl ?_
  refine yw_getR (r := 210) dX10_drop_27 fX10_7 rfl (la_209 hW) (lr_209_0 hW) ?_
  refine xw_aload_n dX10_drop_30 rfl rfl ?_
  refine xw_iconst (v := nI 0) dX10_drop_31 rfl ?_
  refine xw_iconst (v := nI 0) dX10_drop_32 rfl ?_
  exact yw_cV (As := [.int (nI 0), .int (nI 0)]) (b := 209) (st := [.ref 210]) dX10_drop_33 lX10_81 kiX10_at kvX10_at rfl rfl rfl (la_209 hW) rfl (Nat.le_of_ble_eq_true rfl) rfl (xk_I k)
theorem bX10_drop_36 {v1 v2 s1 : Int32} {mc ms : Nat} {Q : Int32 → xHp → Prop} (hW : xLay sh R) 
    (k : vp_in s1 1881 ∧ Ex mX10_drop 40 [.ref 209, .int v1, .int v2, .int (nI 0), xU, xU, xU] [] (sh, (xi I 210 s1.toNatClampNeg v2), R) mc ms (xqI Q)) :
    Ex mX10_drop 36 [.ref 209, .int v1, .int v2, xU, xU, xU, xU] [.int s1, .ref 210] (sh, I, R) mc ms (xqI Q) := by
  refine xw_iload_n dX10_drop_36 rfl rfl ?_
  obtain ⟨k0, k⟩ := k
  refine yw_iastore dX10_drop_37 (la_210 hW) k0 ?_
  refine xw_iconst (v := nI 0) dX10_drop_38 rfl ?_
  refine yw_istore_n (lv' := [.ref 209, .int v1, .int v2, .int (nI 0), xU, xU, xU]) dX10_drop_39 rfl rfl rfl rfl ?_
  exact k
theorem bX10_drop_40 {v1 v2 v3 : Int32} {mc ms : Nat} {Q : Int32 → xHp → Prop} (hW : xLay sh R) 
    (k : ((v2 ≤ v3 → CV mX10_anew [.ref 209] (sh, I, R) (fun h1 => Ex mX10_drop 174 [xU, xU, .int v2, xU, xU, xU, xU] [] h1 mc ms (xqI Q))) ∧ (¬ v2 ≤ v3 → ((v1 ≤ v3 → CI mX10_at [.ref 209, .int (nI 0), .int ((nI 1) + v3)] (sh, I, R) (fun w h1 => Ex mX10_drop 71 [.ref 209, .int v1, .int v2, .int v3, .int (v3 + (nI 1)), xU, xU] (.int w :: [.ref 210]) h1 mc ms (xqI Q))) ∧ (¬ v1 ≤ v3 → CI mX10_at [.ref 209, .int (nI 0), .int ((nI 1) + v3)] (sh, I, R) (fun w h1 => Ex mX10_drop 71 [.ref 209, .int v1, .int v2, .int v3, .int v3, xU, xU] (.int w :: [.ref 210]) h1 mc ms (xqI Q))))))) :
    Ex mX10_drop 40 [.ref 209, .int v1, .int v2, .int v3, xU, xU, xU] [] (sh, I, R) mc ms (xqI Q) := by
  refine xw_iload_n dX10_drop_40 rfl rfl ?_
  refine xw_iload_n dX10_drop_41 rfl rfl ?_
  refine xw_icge (tgt := 170) dX10_drop_42 (by decide) (fun c => ?_) (fun c => ?_)
  · replace k := k.1 c
    refine xw_aload_n dX10_drop_170 rfl rfl ?_
    refine yw_sub (lv' := [xU, xU, .int v2, xU, xU, xU, xU]) ⟨Or.inl rfl, Or.inl rfl, Or.inr rfl, Or.inl rfl, Or.inl rfl, Or.inl rfl, Or.inl rfl, trivial⟩ ?_
    exact yw_cV (As := []) (b := 209) (st := []) dX10_drop_171 lX10_78 kiX10_anew kvX10_anew rfl rfl rfl (la_209 hW) rfl (Nat.le_of_ble_eq_true rfl) rfl (xk_V k)
  · replace k := k.2 c
    refine xw_iload_n dX10_drop_45 rfl rfl ?_
    refine xw_iload_n dX10_drop_46 rfl rfl ?_
    refine xw_icge (tgt := 54) dX10_drop_47 (by decide) (fun c => ?_) (fun c => ?_)
    · replace k := k.1 c
      refine xw_iload_n dX10_drop_54 rfl rfl ?_
      refine xw_iconst (v := nI 1) dX10_drop_55 rfl ?_
      refine xw_iadd dX10_drop_56 ?_
      refine yw_istore (lv' := [.ref 209, .int v1, .int v2, .int v3, .int (v3 + (nI 1)), xU, xU]) dX10_drop_57 rfl rfl rfl ?_
      refine xw_aload_n dX10_drop_59 rfl rfl ?_
      refine yw_getR (r := 210) dX10_drop_60 fX10_7 rfl (la_209 hW) (lr_209_0 hW) ?_
      refine xw_aload_n dX10_drop_63 rfl rfl ?_
      refine xw_iconst (v := nI 0) dX10_drop_64 rfl ?_
      refine xw_iconst (v := nI 1) dX10_drop_65 rfl ?_
      refine xw_iload_n dX10_drop_66 rfl rfl ?_
      refine xw_iadd dX10_drop_67 ?_
      exact yw_cV (As := [.int (nI 0), .int ((nI 1) + v3)]) (b := 209) (st := [.ref 210]) dX10_drop_68 lX10_81 kiX10_at kvX10_at rfl rfl rfl (la_209 hW) rfl (Nat.le_of_ble_eq_true rfl) rfl (xk_I k)
    · replace k := k.2 c
      refine xw_iload_n dX10_drop_50 rfl rfl ?_
      refine xw_goto (tgt := 57) dX10_drop_51 (by decide) ?_
      refine yw_istore (lv' := [.ref 209, .int v1, .int v2, .int v3, .int v3, xU, xU]) dX10_drop_57 rfl rfl rfl ?_
      refine xw_aload_n dX10_drop_59 rfl rfl ?_
      refine yw_getR (r := 210) dX10_drop_60 fX10_7 rfl (la_209 hW) (lr_209_0 hW) ?_
      refine xw_aload_n dX10_drop_63 rfl rfl ?_
      refine xw_iconst (v := nI 0) dX10_drop_64 rfl ?_
      refine xw_iconst (v := nI 1) dX10_drop_65 rfl ?_
      refine xw_iload_n dX10_drop_66 rfl rfl ?_
      refine xw_iadd dX10_drop_67 ?_
      exact yw_cV (As := [.int (nI 0), .int ((nI 1) + v3)]) (b := 209) (st := [.ref 210]) dX10_drop_68 lX10_81 kiX10_at kvX10_at rfl rfl rfl (la_209 hW) rfl (Nat.le_of_ble_eq_true rfl) rfl (xk_I k)
theorem bX10_drop_174 {v2 : Int32} {mc ms : Nat} {Q : Int32 → xHp → Prop} (hW : xLay sh R) 
    (k : Q v2 (sh, I, R)) :
    Ex mX10_drop 174 [xU, xU, .int v2, xU, xU, xU, xU] [] (sh, I, R) mc ms (xqI Q) := by
  refine xw_iload_n dX10_drop_174 rfl rfl ?_
  exact yw_iret dX10_drop_175 rfl k
theorem bX10_drop_71 {v1 v2 v3 v4 s1 : Int32} {mc ms : Nat} {Q : Int32 → xHp → Prop} (hW : xLay sh R) 
    (k : CI mX10_cellOf [.ref 209, .int (nI 1), .int v4] (sh, I, R) (fun w h1 => Ex mX10_drop 78 [.ref 209, .int v1, .int v2, .int v3, .int v4, xU, xU] (.int w :: [.int s1, .ref 210]) h1 mc ms (xqI Q))) :
    Ex mX10_drop 71 [.ref 209, .int v1, .int v2, .int v3, .int v4, xU, xU] [.int s1, .ref 210] (sh, I, R) mc ms (xqI Q) := by
  refine xw_aload_n dX10_drop_71 rfl rfl ?_
  refine xw_iconst (v := nI 1) dX10_drop_72 rfl ?_
  refine xw_iload dX10_drop_73 rfl ?_
  exact yw_cV (As := [.int (nI 1), .int v4]) (b := 209) (st := [.int s1, .ref 210]) dX10_drop_75 lX10_358 kiX10_cellOf kvX10_cellOf rfl rfl rfl (la_209 hW) rfl (Nat.le_of_ble_eq_true rfl) rfl (xk_I k)
theorem bX10_drop_78 {v1 v2 v3 v4 s2 s1 : Int32} {mc ms : Nat} {Q : Int32 → xHp → Prop} (hW : xLay sh R) 
    (k : vp_in s1 1881 ∧ CI mX10_at [.ref 209, .int (nI 0), .int ((nI 5) + v3)] (sh, (xi I 210 s1.toNatClampNeg s2), R) (fun w h1 => Ex mX10_drop 91 [.ref 209, .int v1, .int v2, .int v3, .int v4, xU, xU] (.int w :: [.ref 210]) h1 mc ms (xqI Q))) :
    Ex mX10_drop 78 [.ref 209, .int v1, .int v2, .int v3, .int v4, xU, xU] [.int s2, .int s1, .ref 210] (sh, I, R) mc ms (xqI Q) := by
  obtain ⟨k0, k⟩ := k
  refine yw_iastore dX10_drop_78 (la_210 hW) k0 ?_
  refine xw_aload_n dX10_drop_79 rfl rfl ?_
  refine yw_getR (r := 210) dX10_drop_80 fX10_7 rfl (la_209 hW) (lr_209_0 hW) ?_
  refine xw_aload_n dX10_drop_83 rfl rfl ?_
  refine xw_iconst (v := nI 0) dX10_drop_84 rfl ?_
  refine xw_iconst (v := nI 5) dX10_drop_85 rfl ?_
  refine xw_iload_n dX10_drop_86 rfl rfl ?_
  refine xw_iadd dX10_drop_87 ?_
  exact yw_cV (As := [.int (nI 0), .int ((nI 5) + v3)]) (b := 209) (st := [.ref 210]) dX10_drop_88 lX10_81 kiX10_at kvX10_at rfl rfl rfl (la_209 hW) rfl (Nat.le_of_ble_eq_true rfl) rfl (xk_I k)
theorem bX10_drop_91 {v1 v2 v3 v4 s1 : Int32} {mc ms : Nat} {Q : Int32 → xHp → Prop} (hW : xLay sh R) 
    (k : CI mX10_cellOf [.ref 209, .int (nI 5), .int v4] (sh, I, R) (fun w h1 => Ex mX10_drop 98 [.ref 209, .int v1, .int v2, .int v3, .int v4, xU, xU] (.int w :: [.int s1, .ref 210]) h1 mc ms (xqI Q))) :
    Ex mX10_drop 91 [.ref 209, .int v1, .int v2, .int v3, .int v4, xU, xU] [.int s1, .ref 210] (sh, I, R) mc ms (xqI Q) := by
  refine xw_aload_n dX10_drop_91 rfl rfl ?_
  refine xw_iconst (v := nI 5) dX10_drop_92 rfl ?_
  refine xw_iload dX10_drop_93 rfl ?_
  exact yw_cV (As := [.int (nI 5), .int v4]) (b := 209) (st := [.int s1, .ref 210]) dX10_drop_95 lX10_358 kiX10_cellOf kvX10_cellOf rfl rfl rfl (la_209 hW) rfl (Nat.le_of_ble_eq_true rfl) rfl (xk_I k)
theorem bX10_drop_98 {v1 v2 v3 v4 s2 s1 : Int32} {mc ms : Nat} {Q : Int32 → xHp → Prop} (hW : xLay sh R) 
    (k : vp_in s1 1881 ∧ Ex mX10_drop 102 [.ref 209, .int v1, .int v2, .int v3, .int v4, .int (nI 0), xU] [] (sh, (xi I 210 s1.toNatClampNeg s2), R) mc ms (xqI Q)) :
    Ex mX10_drop 98 [.ref 209, .int v1, .int v2, .int v3, .int v4, xU, xU] [.int s2, .int s1, .ref 210] (sh, I, R) mc ms (xqI Q) := by
  obtain ⟨k0, k⟩ := k
  refine yw_iastore dX10_drop_98 (la_210 hW) k0 ?_
  refine xw_iconst (v := nI 0) dX10_drop_99 rfl ?_
  refine yw_istore (lv' := [.ref 209, .int v1, .int v2, .int v3, .int v4, .int (nI 0), xU]) dX10_drop_100 rfl rfl rfl ?_
  exact k
theorem bX10_drop_102 {v1 v2 v3 v4 v5 : Int32} {mc ms : Nat} {Q : Int32 → xHp → Prop} (hW : xLay sh R) 
    (k : (((nI 3) ≤ v5 → Ex mX10_drop 40 [.ref 209, .int v1, .int v2, .int (v3 + nI 1), xU, xU, xU] [] (sh, I, R) mc ms (xqI Q)) ∧ (¬ (nI 3) ≤ v5 → Ex mX10_drop 111 [.ref 209, .int v1, .int v2, .int v3, .int v4, .int v5, .int (nI 0)] [] (sh, I, R) mc ms (xqI Q)))) :
    Ex mX10_drop 102 [.ref 209, .int v1, .int v2, .int v3, .int v4, .int v5, xU] [] (sh, I, R) mc ms (xqI Q) := by
  refine xw_iload dX10_drop_102 rfl ?_
  refine xw_iconst (v := nI 3) dX10_drop_104 rfl ?_
  refine xw_icge (tgt := 164) dX10_drop_105 (by decide) (fun c => ?_) (fun c => ?_)
  · replace k := k.1 c
    refine yw_iinc (lv' := [.ref 209, .int v1, .int v2, .int (v3 + nI 1), .int v4, .int v5, xU]) (v := nI 1) dX10_drop_164 rfl rfl rfl rfl rfl ?_
    refine xw_goto (tgt := 40) dX10_drop_167 (by decide) ?_
    exact yw_sub (lv' := [.ref 209, .int v1, .int v2, .int (v3 + nI 1), xU, xU, xU]) ⟨Or.inr rfl, Or.inr rfl, Or.inr rfl, Or.inr rfl, Or.inl rfl, Or.inl rfl, Or.inl rfl, trivial⟩ k
  · replace k := k.2 c
    refine xw_iconst (v := nI 0) dX10_drop_108 rfl ?_
    refine yw_istore (lv' := [.ref 209, .int v1, .int v2, .int v3, .int v4, .int v5, .int (nI 0)]) dX10_drop_109 rfl rfl rfl ?_
    exact k
theorem bX10_drop_111 {v1 v2 v3 v4 v5 v6 : Int32} {mc ms : Nat} {Q : Int32 → xHp → Prop} (hW : xLay sh R) 
    (k : ((v2 ≤ v6 → Ex mX10_drop 102 [.ref 209, .int v1, .int v2, .int v3, .int v4, .int (v5 + nI 1), xU] [] (sh, I, R) mc ms (xqI Q)) ∧ (¬ v2 ≤ v6 → ((v1 ≤ v6 → CI mX10_weight [.ref 209, .int (nI 32), .int v4, .int v5, .int (v6 + (nI 1))] (sh, I, R) (fun w h1 => Ex mX10_drop 149 [.ref 209, .int v1, .int v2, .int v3, .int v4, .int v5, .int v6] (.int w :: [.int v6, .int v5, .int v3, .int (nI 0), .ref 209]) h1 mc ms (xqI Q))) ∧ (¬ v1 ≤ v6 → CI mX10_weight [.ref 209, .int (nI 32), .int v4, .int v5, .int v6] (sh, I, R) (fun w h1 => Ex mX10_drop 149 [.ref 209, .int v1, .int v2, .int v3, .int v4, .int v5, .int v6] (.int w :: [.int v6, .int v5, .int v3, .int (nI 0), .ref 209]) h1 mc ms (xqI Q))))))) :
    Ex mX10_drop 111 [.ref 209, .int v1, .int v2, .int v3, .int v4, .int v5, .int v6] [] (sh, I, R) mc ms (xqI Q) := by
  refine xw_iload dX10_drop_111 rfl ?_
  refine xw_iload_n dX10_drop_113 rfl rfl ?_
  refine xw_icge (tgt := 158) dX10_drop_114 (by decide) (fun c => ?_) (fun c => ?_)
  · replace k := k.1 c
    refine yw_iinc (lv' := [.ref 209, .int v1, .int v2, .int v3, .int v4, .int (v5 + nI 1), .int v6]) (v := nI 1) dX10_drop_158 rfl rfl rfl rfl rfl ?_
    refine xw_goto (tgt := 102) dX10_drop_161 (by decide) ?_
    exact yw_sub (lv' := [.ref 209, .int v1, .int v2, .int v3, .int v4, .int (v5 + nI 1), xU]) ⟨Or.inr rfl, Or.inr rfl, Or.inr rfl, Or.inr rfl, Or.inr rfl, Or.inr rfl, Or.inl rfl, trivial⟩ k
  · replace k := k.2 c
    refine xw_aload_n dX10_drop_117 rfl rfl ?_
    refine xw_iconst (v := nI 0) dX10_drop_118 rfl ?_
    refine xw_iload_n dX10_drop_119 rfl rfl ?_
    refine xw_iload dX10_drop_120 rfl ?_
    refine xw_iload dX10_drop_122 rfl ?_
    refine xw_aload_n dX10_drop_124 rfl rfl ?_
    refine xw_bipush (v := nI 32) dX10_drop_125 (by decide) ?_
    refine xw_iload dX10_drop_127 rfl ?_
    refine xw_iload dX10_drop_129 rfl ?_
    refine xw_iload dX10_drop_131 rfl ?_
    refine xw_iload_n dX10_drop_133 rfl rfl ?_
    refine xw_icge (tgt := 142) dX10_drop_134 (by decide) (fun c => ?_) (fun c => ?_)
    · replace k := k.1 c
      refine xw_iload dX10_drop_142 rfl ?_
      refine xw_iconst (v := nI 1) dX10_drop_144 rfl ?_
      refine xw_iadd dX10_drop_145 ?_
      exact yw_cV (As := [.int (nI 32), .int v4, .int v5, .int (v6 + (nI 1))]) (b := 209) (st := [.int v6, .int v5, .int v3, .int (nI 0), .ref 209]) dX10_drop_146 lX10_98 kiX10_weight kvX10_weight rfl rfl rfl (la_209 hW) rfl (Nat.le_of_ble_eq_true rfl) rfl (xk_I k)
    · replace k := k.2 c
      refine xw_iload dX10_drop_137 rfl ?_
      refine xw_goto (tgt := 146) dX10_drop_139 (by decide) ?_
      exact yw_cV (As := [.int (nI 32), .int v4, .int v5, .int v6]) (b := 209) (st := [.int v6, .int v5, .int v3, .int (nI 0), .ref 209]) dX10_drop_146 lX10_98 kiX10_weight kvX10_weight rfl rfl rfl (la_209 hW) rfl (Nat.le_of_ble_eq_true rfl) rfl (xk_I k)
theorem bX10_drop_149 {v1 v2 v3 v4 v5 v6 s5 s4 s3 s2 s1 : Int32} {mc ms : Nat} {Q : Int32 → xHp → Prop} (hW : xLay sh R) 
    (k : CV mX10_weighs [.ref 209, .int s1, .int s2, .int s3, .int s4, .int s5] (sh, I, R) (fun h1 => Ex mX10_drop 152 [.ref 209, .int v1, .int v2, .int v3, .int v4, .int v5, .int v6] [] h1 mc ms (xqI Q))) :
    Ex mX10_drop 149 [.ref 209, .int v1, .int v2, .int v3, .int v4, .int v5, .int v6] [.int s5, .int s4, .int s3, .int s2, .int s1, .ref 209] (sh, I, R) mc ms (xqI Q) := by
  exact yw_cV (As := [.int s1, .int s2, .int s3, .int s4, .int s5]) (b := 209) (st := []) dX10_drop_149 lX10_160 kiX10_weighs kvX10_weighs rfl rfl rfl (la_209 hW) rfl (Nat.le_of_ble_eq_true rfl) rfl (xk_V k)
theorem bX10_drop_152 {v1 v2 v3 v4 v5 v6 : Int32} {mc ms : Nat} {Q : Int32 → xHp → Prop} (hW : xLay sh R) 
    (k : Ex mX10_drop 111 [.ref 209, .int v1, .int v2, .int v3, .int v4, .int v5, .int (v6 + nI 1)] [] (sh, I, R) mc ms (xqI Q)) :
    Ex mX10_drop 152 [.ref 209, .int v1, .int v2, .int v3, .int v4, .int v5, .int v6] [] (sh, I, R) mc ms (xqI Q) := by
  refine yw_iinc (lv' := [.ref 209, .int v1, .int v2, .int v3, .int v4, .int v5, .int (v6 + nI 1)]) (v := nI 1) dX10_drop_152 rfl rfl rfl rfl rfl ?_
  refine xw_goto (tgt := 111) dX10_drop_155 (by decide) ?_
  exact k
theorem eX10_drop {v1 : Int32} {h : xHp} {Q : Int32 → xHp → Prop} (k : Ex mX10_drop 0 [.ref 209, .int v1, xU, xU, xU, xU, xU] [] h 0 0 (xqI Q)) : CI mX10_drop [.ref 209, .int v1] h Q := k
theorem bX10_turn_0 {mc ms : Nat} {Q : Int32 → xHp → Prop} (hW : xLay sh R) 
    (k : CV mX10_copies [.ref 209, .int (nI 0), .int (nI 32)] (sh, I, R) (fun h1 => Ex mX10_turn 7 [.ref 209, xU, xU, xU, xU] [] h1 mc ms (xqI Q))) :
    Ex mX10_turn 0 [.ref 209, xU, xU, xU, xU] [] (sh, I, R) mc ms (xqI Q) := by
  refine xw_aload_n dX10_turn_0 rfl rfl ?_
  refine xw_iconst (v := nI 0) dX10_turn_1 rfl ?_
  refine xw_bipush (v := nI 32) dX10_turn_2 (by decide) ?_
  exact yw_cV (As := [.int (nI 0), .int (nI 32)]) (b := 209) (st := []) dX10_turn_4 lX10_264 kiX10_copies kvX10_copies rfl rfl rfl (la_209 hW) rfl (Nat.le_of_ble_eq_true rfl) rfl (xk_V k)
theorem bX10_turn_7 {mc ms : Nat} {Q : Int32 → xHp → Prop} (hW : xLay sh R) 
    (k : CI mX10_many [.ref 209, .int (nI 0)] (sh, I, R) (fun w h1 => Ex mX10_turn 12 [.ref 209, xU, xU, xU, xU] (.int w :: []) h1 mc ms (xqI Q))) :
    Ex mX10_turn 7 [.ref 209, xU, xU, xU, xU] [] (sh, I, R) mc ms (xqI Q) := by
  refine xw_aload_n dX10_turn_7 rfl rfl ?_
  refine xw_iconst (v := nI 0) dX10_turn_8 rfl ?_
  exact yw_cV (As := [.int (nI 0)]) (b := 209) (st := []) dX10_turn_9 lX10_95 kiX10_many kvX10_many rfl rfl rfl (la_209 hW) rfl (Nat.le_of_ble_eq_true rfl) rfl (xk_I k)
theorem bX10_turn_12 {s0 : Int32} {mc ms : Nat} {Q : Int32 → xHp → Prop} (hW : xLay sh R) 
    (k : Ex mX10_turn 15 [.ref 209, .int s0, .int (nI 0), xU, xU] [] (sh, I, R) mc ms (xqI Q)) :
    Ex mX10_turn 12 [.ref 209, xU, xU, xU, xU] [.int s0] (sh, I, R) mc ms (xqI Q) := by
  refine yw_istore_n (lv' := [.ref 209, .int s0, xU, xU, xU]) dX10_turn_12 rfl rfl rfl rfl ?_
  refine xw_iconst (v := nI 0) dX10_turn_13 rfl ?_
  refine yw_istore_n (lv' := [.ref 209, .int s0, .int (nI 0), xU, xU]) dX10_turn_14 rfl rfl rfl rfl ?_
  exact k
theorem bX10_turn_15 {v1 v2 : Int32} {mc ms : Nat} {Q : Int32 → xHp → Prop} (hW : xLay sh R) 
    (k : ((v1 ≤ v2 → CV mX10_anew [.ref 209] (sh, I, R) (fun h1 => Ex mX10_turn 115 [xU, .int v1, xU, xU, xU] [] h1 mc ms (xqI Q))) ∧ (¬ v1 ≤ v2 → CI mX10_at [.ref 209, .int (nI 0), .int ((nI 1) + v2)] (sh, I, R) (fun w h1 => Ex mX10_turn 32 [.ref 209, .int v1, .int v2, xU, xU] (.int w :: [.ref 210]) h1 mc ms (xqI Q))))) :
    Ex mX10_turn 15 [.ref 209, .int v1, .int v2, xU, xU] [] (sh, I, R) mc ms (xqI Q) := by
  refine xw_iload_n dX10_turn_15 rfl rfl ?_
  refine xw_iload_n dX10_turn_16 rfl rfl ?_
  refine xw_icge (tgt := 111) dX10_turn_17 (by decide) (fun c => ?_) (fun c => ?_)
  · replace k := k.1 c
    refine xw_aload_n dX10_turn_111 rfl rfl ?_
    refine yw_sub (lv' := [xU, .int v1, xU, xU, xU]) ⟨Or.inl rfl, Or.inr rfl, Or.inl rfl, Or.inl rfl, Or.inl rfl, trivial⟩ ?_
    exact yw_cV (As := []) (b := 209) (st := []) dX10_turn_112 lX10_78 kiX10_anew kvX10_anew rfl rfl rfl (la_209 hW) rfl (Nat.le_of_ble_eq_true rfl) rfl (xk_V k)
  · replace k := k.2 c
    refine xw_aload_n dX10_turn_20 rfl rfl ?_
    refine yw_getR (r := 210) dX10_turn_21 fX10_7 rfl (la_209 hW) (lr_209_0 hW) ?_
    refine xw_aload_n dX10_turn_24 rfl rfl ?_
    refine xw_iconst (v := nI 0) dX10_turn_25 rfl ?_
    refine xw_iconst (v := nI 1) dX10_turn_26 rfl ?_
    refine xw_iload_n dX10_turn_27 rfl rfl ?_
    refine xw_iadd dX10_turn_28 ?_
    exact yw_cV (As := [.int (nI 0), .int ((nI 1) + v2)]) (b := 209) (st := [.ref 210]) dX10_turn_29 lX10_81 kiX10_at kvX10_at rfl rfl rfl (la_209 hW) rfl (Nat.le_of_ble_eq_true rfl) rfl (xk_I k)
theorem bX10_turn_115 {v1 : Int32} {mc ms : Nat} {Q : Int32 → xHp → Prop} (hW : xLay sh R) 
    (k : Q v1 (sh, I, R)) :
    Ex mX10_turn 115 [xU, .int v1, xU, xU, xU] [] (sh, I, R) mc ms (xqI Q) := by
  refine xw_iload_n dX10_turn_115 rfl rfl ?_
  exact yw_iret dX10_turn_116 rfl k
theorem bX10_turn_32 {v1 v2 s1 : Int32} {mc ms : Nat} {Q : Int32 → xHp → Prop} (hW : xLay sh R) 
    (k : CI mX10_cellOf [.ref 209, .int (nI 5), .int v2] (sh, I, R) (fun w h1 => Ex mX10_turn 38 [.ref 209, .int v1, .int v2, xU, xU] (.int w :: [.int s1, .ref 210]) h1 mc ms (xqI Q))) :
    Ex mX10_turn 32 [.ref 209, .int v1, .int v2, xU, xU] [.int s1, .ref 210] (sh, I, R) mc ms (xqI Q) := by
  refine xw_aload_n dX10_turn_32 rfl rfl ?_
  refine xw_iconst (v := nI 5) dX10_turn_33 rfl ?_
  refine xw_iload_n dX10_turn_34 rfl rfl ?_
  exact yw_cV (As := [.int (nI 5), .int v2]) (b := 209) (st := [.int s1, .ref 210]) dX10_turn_35 lX10_358 kiX10_cellOf kvX10_cellOf rfl rfl rfl (la_209 hW) rfl (Nat.le_of_ble_eq_true rfl) rfl (xk_I k)
theorem bX10_turn_38 {v1 v2 s2 s1 : Int32} {mc ms : Nat} {Q : Int32 → xHp → Prop} (hW : xLay sh R) 
    (k : vp_in s1 1881 ∧ CI mX10_at [.ref 209, .int (nI 0), .int ((nI 5) + v2)] (sh, (xi I 210 s1.toNatClampNeg s2), R) (fun w h1 => Ex mX10_turn 51 [.ref 209, .int v1, .int v2, xU, xU] (.int w :: [.ref 210]) h1 mc ms (xqI Q))) :
    Ex mX10_turn 38 [.ref 209, .int v1, .int v2, xU, xU] [.int s2, .int s1, .ref 210] (sh, I, R) mc ms (xqI Q) := by
  obtain ⟨k0, k⟩ := k
  refine yw_iastore dX10_turn_38 (la_210 hW) k0 ?_
  refine xw_aload_n dX10_turn_39 rfl rfl ?_
  refine yw_getR (r := 210) dX10_turn_40 fX10_7 rfl (la_209 hW) (lr_209_0 hW) ?_
  refine xw_aload_n dX10_turn_43 rfl rfl ?_
  refine xw_iconst (v := nI 0) dX10_turn_44 rfl ?_
  refine xw_iconst (v := nI 5) dX10_turn_45 rfl ?_
  refine xw_iload_n dX10_turn_46 rfl rfl ?_
  refine xw_iadd dX10_turn_47 ?_
  exact yw_cV (As := [.int (nI 0), .int ((nI 5) + v2)]) (b := 209) (st := [.ref 210]) dX10_turn_48 lX10_81 kiX10_at kvX10_at rfl rfl rfl (la_209 hW) rfl (Nat.le_of_ble_eq_true rfl) rfl (xk_I k)
theorem bX10_turn_51 {v1 v2 s1 : Int32} {mc ms : Nat} {Q : Int32 → xHp → Prop} (hW : xLay sh R) 
    (k : CI mX10_cellOf [.ref 209, .int (nI 1), .int v2] (sh, I, R) (fun w h1 => Ex mX10_turn 57 [.ref 209, .int v1, .int v2, xU, xU] (.int w :: [.int s1, .ref 210]) h1 mc ms (xqI Q))) :
    Ex mX10_turn 51 [.ref 209, .int v1, .int v2, xU, xU] [.int s1, .ref 210] (sh, I, R) mc ms (xqI Q) := by
  refine xw_aload_n dX10_turn_51 rfl rfl ?_
  refine xw_iconst (v := nI 1) dX10_turn_52 rfl ?_
  refine xw_iload_n dX10_turn_53 rfl rfl ?_
  exact yw_cV (As := [.int (nI 1), .int v2]) (b := 209) (st := [.int s1, .ref 210]) dX10_turn_54 lX10_358 kiX10_cellOf kvX10_cellOf rfl rfl rfl (la_209 hW) rfl (Nat.le_of_ble_eq_true rfl) rfl (xk_I k)
theorem bX10_turn_57 {v1 v2 s2 s1 : Int32} {mc ms : Nat} {Q : Int32 → xHp → Prop} (hW : xLay sh R) 
    (k : vp_in s1 1881 ∧ Ex mX10_turn 60 [.ref 209, .int v1, .int v2, .int (nI 0), xU] [] (sh, (xi I 210 s1.toNatClampNeg s2), R) mc ms (xqI Q)) :
    Ex mX10_turn 57 [.ref 209, .int v1, .int v2, xU, xU] [.int s2, .int s1, .ref 210] (sh, I, R) mc ms (xqI Q) := by
  obtain ⟨k0, k⟩ := k
  refine yw_iastore dX10_turn_57 (la_210 hW) k0 ?_
  refine xw_iconst (v := nI 0) dX10_turn_58 rfl ?_
  refine yw_istore_n (lv' := [.ref 209, .int v1, .int v2, .int (nI 0), xU]) dX10_turn_59 rfl rfl rfl rfl ?_
  exact k
theorem bX10_turn_60 {v1 v2 v3 : Int32} {mc ms : Nat} {Q : Int32 → xHp → Prop} (hW : xLay sh R) 
    (k : (((nI 3) ≤ v3 → Ex mX10_turn 15 [.ref 209, .int v1, .int (v2 + nI 1), xU, xU] [] (sh, I, R) mc ms (xqI Q)) ∧ (¬ (nI 3) ≤ v3 → Ex mX10_turn 68 [.ref 209, .int v1, .int v2, .int v3, .int (nI 0)] [] (sh, I, R) mc ms (xqI Q)))) :
    Ex mX10_turn 60 [.ref 209, .int v1, .int v2, .int v3, xU] [] (sh, I, R) mc ms (xqI Q) := by
  refine xw_iload_n dX10_turn_60 rfl rfl ?_
  refine xw_iconst (v := nI 3) dX10_turn_61 rfl ?_
  refine xw_icge (tgt := 105) dX10_turn_62 (by decide) (fun c => ?_) (fun c => ?_)
  · replace k := k.1 c
    refine yw_iinc (lv' := [.ref 209, .int v1, .int (v2 + nI 1), .int v3, xU]) (v := nI 1) dX10_turn_105 rfl rfl rfl rfl rfl ?_
    refine xw_goto (tgt := 15) dX10_turn_108 (by decide) ?_
    exact yw_sub (lv' := [.ref 209, .int v1, .int (v2 + nI 1), xU, xU]) ⟨Or.inr rfl, Or.inr rfl, Or.inr rfl, Or.inl rfl, Or.inl rfl, trivial⟩ k
  · replace k := k.2 c
    refine xw_iconst (v := nI 0) dX10_turn_65 rfl ?_
    refine yw_istore (lv' := [.ref 209, .int v1, .int v2, .int v3, .int (nI 0)]) dX10_turn_66 rfl rfl rfl ?_
    exact k
theorem bX10_turn_68 {v1 v2 v3 v4 : Int32} {mc ms : Nat} {Q : Int32 → xHp → Prop} (hW : xLay sh R) 
    (k : ((v1 ≤ v4 → Ex mX10_turn 60 [.ref 209, .int v1, .int v2, .int (v3 + nI 1), xU] [] (sh, I, R) mc ms (xqI Q)) ∧ (¬ v1 ≤ v4 → CI mX10_weight [.ref 209, .int (nI 32), .int v4, .int v3, .int v2] (sh, I, R) (fun w h1 => Ex mX10_turn 90 [.ref 209, .int v1, .int v2, .int v3, .int v4] (.int w :: [.int v4, .int v3, .int v2, .int (nI 0), .ref 209]) h1 mc ms (xqI Q))))) :
    Ex mX10_turn 68 [.ref 209, .int v1, .int v2, .int v3, .int v4] [] (sh, I, R) mc ms (xqI Q) := by
  refine xw_iload dX10_turn_68 rfl ?_
  refine xw_iload_n dX10_turn_70 rfl rfl ?_
  refine xw_icge (tgt := 99) dX10_turn_71 (by decide) (fun c => ?_) (fun c => ?_)
  · replace k := k.1 c
    refine yw_iinc (lv' := [.ref 209, .int v1, .int v2, .int (v3 + nI 1), .int v4]) (v := nI 1) dX10_turn_99 rfl rfl rfl rfl rfl ?_
    refine xw_goto (tgt := 60) dX10_turn_102 (by decide) ?_
    exact yw_sub (lv' := [.ref 209, .int v1, .int v2, .int (v3 + nI 1), xU]) ⟨Or.inr rfl, Or.inr rfl, Or.inr rfl, Or.inr rfl, Or.inl rfl, trivial⟩ k
  · replace k := k.2 c
    refine xw_aload_n dX10_turn_74 rfl rfl ?_
    refine xw_iconst (v := nI 0) dX10_turn_75 rfl ?_
    refine xw_iload_n dX10_turn_76 rfl rfl ?_
    refine xw_iload_n dX10_turn_77 rfl rfl ?_
    refine xw_iload dX10_turn_78 rfl ?_
    refine xw_aload_n dX10_turn_80 rfl rfl ?_
    refine xw_bipush (v := nI 32) dX10_turn_81 (by decide) ?_
    refine xw_iload dX10_turn_83 rfl ?_
    refine xw_iload_n dX10_turn_85 rfl rfl ?_
    refine xw_iload_n dX10_turn_86 rfl rfl ?_
    exact yw_cV (As := [.int (nI 32), .int v4, .int v3, .int v2]) (b := 209) (st := [.int v4, .int v3, .int v2, .int (nI 0), .ref 209]) dX10_turn_87 lX10_98 kiX10_weight kvX10_weight rfl rfl rfl (la_209 hW) rfl (Nat.le_of_ble_eq_true rfl) rfl (xk_I k)
theorem bX10_turn_90 {v1 v2 v3 v4 s5 s4 s3 s2 s1 : Int32} {mc ms : Nat} {Q : Int32 → xHp → Prop} (hW : xLay sh R) 
    (k : CV mX10_weighs [.ref 209, .int s1, .int s2, .int s3, .int s4, .int s5] (sh, I, R) (fun h1 => Ex mX10_turn 93 [.ref 209, .int v1, .int v2, .int v3, .int v4] [] h1 mc ms (xqI Q))) :
    Ex mX10_turn 90 [.ref 209, .int v1, .int v2, .int v3, .int v4] [.int s5, .int s4, .int s3, .int s2, .int s1, .ref 209] (sh, I, R) mc ms (xqI Q) := by
  exact yw_cV (As := [.int s1, .int s2, .int s3, .int s4, .int s5]) (b := 209) (st := []) dX10_turn_90 lX10_160 kiX10_weighs kvX10_weighs rfl rfl rfl (la_209 hW) rfl (Nat.le_of_ble_eq_true rfl) rfl (xk_V k)
theorem bX10_turn_93 {v1 v2 v3 v4 : Int32} {mc ms : Nat} {Q : Int32 → xHp → Prop} (hW : xLay sh R) 
    (k : Ex mX10_turn 68 [.ref 209, .int v1, .int v2, .int v3, .int (v4 + nI 1)] [] (sh, I, R) mc ms (xqI Q)) :
    Ex mX10_turn 93 [.ref 209, .int v1, .int v2, .int v3, .int v4] [] (sh, I, R) mc ms (xqI Q) := by
  refine yw_iinc (lv' := [.ref 209, .int v1, .int v2, .int v3, .int (v4 + nI 1)]) (v := nI 1) dX10_turn_93 rfl rfl rfl rfl rfl ?_
  refine xw_goto (tgt := 68) dX10_turn_96 (by decide) ?_
  exact k
theorem eX10_turn {h : xHp} {Q : Int32 → xHp → Prop} (k : Ex mX10_turn 0 [.ref 209, xU, xU, xU, xU] [] h 0 0 (xqI Q)) : CI mX10_turn [.ref 209] h Q := k
theorem bX10_scale_0 {v1 : Int32} {mc ms : Nat} {Q : Int32 → xHp → Prop} (hW : xLay sh R) 
    (k : CI mX10_isResidue [.ref 209, .int v1] (sh, I, R) (fun w h1 => Ex mX10_scale 5 [.ref 209, .int v1, xU] (.int w :: []) h1 mc ms (xqI Q))) :
    Ex mX10_scale 0 [.ref 209, .int v1, xU] [] (sh, I, R) mc ms (xqI Q) := by
  refine xw_aload_n dX10_scale_0 rfl rfl ?_
  refine xw_iload_n dX10_scale_1 rfl rfl ?_
  exact yw_cV (As := [.int v1]) (b := 209) (st := []) dX10_scale_2 lX10_351 kiX10_isResidue kvX10_isResidue rfl rfl rfl (la_209 hW) rfl (Nat.le_of_ble_eq_true rfl) rfl (xk_I k)
theorem bX10_scale_5 {v1 s0 : Int32} {mc ms : Nat} {Q : Int32 → xHp → Prop} (hW : xLay sh R) 
    (k : ((¬ s0 = 0 → Ex mX10_scale 12 [.ref 209, .int v1, .int (nI 0)] [] (sh, I, R) mc ms (xqI Q)) ∧ (s0 = 0 → Q (-1) (sh, I, R)))) :
    Ex mX10_scale 5 [.ref 209, .int v1, xU] [.int s0] (sh, I, R) mc ms (xqI Q) := by
  refine xw_ifne (tgt := 10) dX10_scale_5 (by decide) (fun c => ?_) (fun c => ?_)
  · replace k := k.1 c
    refine xw_iconst (v := nI 0) dX10_scale_10 rfl ?_
    refine yw_istore_n (lv' := [.ref 209, .int v1, .int (nI 0)]) dX10_scale_11 rfl rfl rfl rfl ?_
    exact k
  · replace k := k.2 c
    refine xw_iconst (v := (-1)) dX10_scale_8 rfl ?_
    exact yw_iret dX10_scale_9 rfl k
theorem bX10_scale_12 {v1 v2 : Int32} {mc ms : Nat} {Q : Int32 → xHp → Prop} (hW : xLay sh R) 
    (k : CI mX10_many [.ref 209, .int (nI 0)] (sh, I, R) (fun w h1 => Ex mX10_scale 18 [.ref 209, .int v1, .int v2] (.int w :: [.int v2]) h1 mc ms (xqI Q))) :
    Ex mX10_scale 12 [.ref 209, .int v1, .int v2] [] (sh, I, R) mc ms (xqI Q) := by
  refine xw_iload_n dX10_scale_12 rfl rfl ?_
  refine xw_aload_n dX10_scale_13 rfl rfl ?_
  refine xw_iconst (v := nI 0) dX10_scale_14 rfl ?_
  exact yw_cV (As := [.int (nI 0)]) (b := 209) (st := [.int v2]) dX10_scale_15 lX10_95 kiX10_many kvX10_many rfl rfl rfl (la_209 hW) rfl (Nat.le_of_ble_eq_true rfl) rfl (xk_I k)
theorem bX10_scale_18 {v1 v2 s1 s0 : Int32} {mc ms : Nat} {Q : Int32 → xHp → Prop} (hW : xLay sh R) 
    (k : ((s1 ≤ s0 → CV mX10_anew [.ref 209] (sh, I, R) (fun h1 => Ex mX10_scale 64 [.ref 209, xU, xU] [] h1 mc ms (xqI Q))) ∧ (¬ s1 ≤ s0 → CI mX10_at [.ref 209, .int (nI 0), .int ((nI 1) + v2)] (sh, I, R) (fun w h1 => Ex mX10_scale 33 [.ref 209, .int v1, .int v2] (.int w :: [.ref 210]) h1 mc ms (xqI Q))))) :
    Ex mX10_scale 18 [.ref 209, .int v1, .int v2] [.int s1, .int s0] (sh, I, R) mc ms (xqI Q) := by
  refine xw_icge (tgt := 60) dX10_scale_18 (by decide) (fun c => ?_) (fun c => ?_)
  · replace k := k.1 c
    refine xw_aload_n dX10_scale_60 rfl rfl ?_
    refine yw_sub (lv' := [.ref 209, xU, xU]) ⟨Or.inr rfl, Or.inl rfl, Or.inl rfl, trivial⟩ ?_
    exact yw_cV (As := []) (b := 209) (st := []) dX10_scale_61 lX10_78 kiX10_anew kvX10_anew rfl rfl rfl (la_209 hW) rfl (Nat.le_of_ble_eq_true rfl) rfl (xk_V k)
  · replace k := k.2 c
    refine xw_aload_n dX10_scale_21 rfl rfl ?_
    refine yw_getR (r := 210) dX10_scale_22 fX10_7 rfl (la_209 hW) (lr_209_0 hW) ?_
    refine xw_aload_n dX10_scale_25 rfl rfl ?_
    refine xw_iconst (v := nI 0) dX10_scale_26 rfl ?_
    refine xw_iconst (v := nI 1) dX10_scale_27 rfl ?_
    refine xw_iload_n dX10_scale_28 rfl rfl ?_
    refine xw_iadd dX10_scale_29 ?_
    exact yw_cV (As := [.int (nI 0), .int ((nI 1) + v2)]) (b := 209) (st := [.ref 210]) dX10_scale_30 lX10_81 kiX10_at kvX10_at rfl rfl rfl (la_209 hW) rfl (Nat.le_of_ble_eq_true rfl) rfl (xk_I k)
theorem bX10_scale_64 {mc ms : Nat} {Q : Int32 → xHp → Prop} (hW : xLay sh R) 
    (k : CI mX10_many [.ref 209, .int (nI 0)] (sh, I, R) (fun w h1 => Ex mX10_scale 69 [xU, xU, xU] (.int w :: []) h1 mc ms (xqI Q))) :
    Ex mX10_scale 64 [.ref 209, xU, xU] [] (sh, I, R) mc ms (xqI Q) := by
  refine xw_aload_n dX10_scale_64 rfl rfl ?_
  refine xw_iconst (v := nI 0) dX10_scale_65 rfl ?_
  refine yw_sub (lv' := [xU, xU, xU]) ⟨Or.inl rfl, Or.inl rfl, Or.inl rfl, trivial⟩ ?_
  exact yw_cV (As := [.int (nI 0)]) (b := 209) (st := []) dX10_scale_66 lX10_95 kiX10_many kvX10_many rfl rfl rfl (la_209 hW) rfl (Nat.le_of_ble_eq_true rfl) rfl (xk_I k)
theorem bX10_scale_69 {s0 : Int32} {mc ms : Nat} {Q : Int32 → xHp → Prop} (hW : xLay sh R) 
    (k : Q s0 (sh, I, R)) :
    Ex mX10_scale 69 [xU, xU, xU] [.int s0] (sh, I, R) mc ms (xqI Q) := by
  exact yw_iret dX10_scale_69 rfl k
theorem bX10_scale_33 {v1 v2 s1 : Int32} {mc ms : Nat} {Q : Int32 → xHp → Prop} (hW : xLay sh R) 
    (k : CI mX10_at [.ref 209, .int (nI 0), .int ((nI 1) + v2)] (sh, I, R) (fun w h1 => Ex mX10_scale 45 [.ref 209, .int v1, .int v2] (.int w :: [.ref 210, .int s1, .ref 210]) h1 mc ms (xqI Q))) :
    Ex mX10_scale 33 [.ref 209, .int v1, .int v2] [.int s1, .ref 210] (sh, I, R) mc ms (xqI Q) := by
  refine xw_aload_n dX10_scale_33 rfl rfl ?_
  refine yw_getR (r := 210) dX10_scale_34 fX10_7 rfl (la_209 hW) (lr_209_0 hW) ?_
  refine xw_aload_n dX10_scale_37 rfl rfl ?_
  refine xw_iconst (v := nI 0) dX10_scale_38 rfl ?_
  refine xw_iconst (v := nI 1) dX10_scale_39 rfl ?_
  refine xw_iload_n dX10_scale_40 rfl rfl ?_
  refine xw_iadd dX10_scale_41 ?_
  exact yw_cV (As := [.int (nI 0), .int ((nI 1) + v2)]) (b := 209) (st := [.ref 210, .int s1, .ref 210]) dX10_scale_42 lX10_81 kiX10_at kvX10_at rfl rfl rfl (la_209 hW) rfl (Nat.le_of_ble_eq_true rfl) rfl (xk_I k)
theorem bX10_scale_45 {v1 v2 s3 s1 : Int32} {mc ms : Nat} {Q : Int32 → xHp → Prop} (hW : xLay sh R) 
    (k : vp_in s3 1881 ∧ ¬ I 209 1 = 0 ∧ vp_in s1 1881 ∧ Ex mX10_scale 12 [.ref 209, .int v1, .int (v2 + nI 1)] [] (sh, (xi I 210 s1.toNatClampNeg (xrem ((I 210 s3.toNatClampNeg) * v1) (I 209 1))), R) mc ms (xqI Q)) :
    Ex mX10_scale 45 [.ref 209, .int v1, .int v2] [.int s3, .ref 210, .int s1, .ref 210] (sh, I, R) mc ms (xqI Q) := by
  obtain ⟨k0, k⟩ := k
  refine yw_iaload (v := I 210 s3.toNatClampNeg) dX10_scale_45 (la_210 hW) k0 rfl ?_
  refine xw_iload_n dX10_scale_46 rfl rfl ?_
  refine xw_imul dX10_scale_47 ?_
  refine xw_aload_n dX10_scale_48 rfl rfl ?_
  refine yw_getI (v := I 209 1) dX10_scale_49 fX10_13 rfl (la_209 hW) rfl ?_
  obtain ⟨k0, k⟩ := k
  refine yw_irem dX10_scale_52 k0 ?_
  obtain ⟨k0, k⟩ := k
  refine yw_iastore dX10_scale_53 (la_210 hW) k0 ?_
  refine yw_iinc (lv' := [.ref 209, .int v1, .int (v2 + nI 1)]) (v := nI 1) dX10_scale_54 rfl rfl rfl rfl rfl ?_
  refine xw_goto (tgt := 12) dX10_scale_57 (by decide) ?_
  exact k
theorem eX10_scale {v1 : Int32} {h : xHp} {Q : Int32 → xHp → Prop} (k : Ex mX10_scale 0 [.ref 209, .int v1, xU] [] h 0 0 (xqI Q)) : CI mX10_scale [.ref 209, .int v1] h Q := k
theorem bX10_shrink_0 {mc ms : Nat} {Q : Int32 → xHp → Prop} (hW : xLay sh R) 
    (k : CV mX10_lessens [.ref 209] (sh, I, R) (fun h1 => Ex mX10_shrink 4 [.ref 209] [] h1 mc ms (xqI Q))) :
    Ex mX10_shrink 0 [.ref 209] [] (sh, I, R) mc ms (xqI Q) := by
  refine xw_aload_n dX10_shrink_0 rfl rfl ?_
  exact yw_cV (As := []) (b := 209) (st := []) dX10_shrink_1 lX10_285 kiX10_lessens kvX10_lessens rfl rfl rfl (la_209 hW) rfl (Nat.le_of_ble_eq_true rfl) rfl (xk_V k)
theorem bX10_shrink_4 {mc ms : Nat} {Q : Int32 → xHp → Prop} (hW : xLay sh R) 
    (k : CV mX10_copies [.ref 209, .int (nI 2), .int (nI 0)] (sh, I, R) (fun h1 => Ex mX10_shrink 10 [.ref 209] [] h1 mc ms (xqI Q))) :
    Ex mX10_shrink 4 [.ref 209] [] (sh, I, R) mc ms (xqI Q) := by
  refine xw_aload_n dX10_shrink_4 rfl rfl ?_
  refine xw_iconst (v := nI 2) dX10_shrink_5 rfl ?_
  refine xw_iconst (v := nI 0) dX10_shrink_6 rfl ?_
  exact yw_cV (As := [.int (nI 2), .int (nI 0)]) (b := 209) (st := []) dX10_shrink_7 lX10_264 kiX10_copies kvX10_copies rfl rfl rfl (la_209 hW) rfl (Nat.le_of_ble_eq_true rfl) rfl (xk_V k)
theorem bX10_shrink_10 {mc ms : Nat} {Q : Int32 → xHp → Prop} (hW : xLay sh R) 
    (k : CV mX10_anew [.ref 209] (sh, I, R) (fun h1 => Ex mX10_shrink 14 [.ref 209] [] h1 mc ms (xqI Q))) :
    Ex mX10_shrink 10 [.ref 209] [] (sh, I, R) mc ms (xqI Q) := by
  refine xw_aload_n dX10_shrink_10 rfl rfl ?_
  exact yw_cV (As := []) (b := 209) (st := []) dX10_shrink_11 lX10_78 kiX10_anew kvX10_anew rfl rfl rfl (la_209 hW) rfl (Nat.le_of_ble_eq_true rfl) rfl (xk_V k)
theorem bX10_shrink_14 {mc ms : Nat} {Q : Int32 → xHp → Prop} (hW : xLay sh R) 
    (k : CI mX10_many [.ref 209, .int (nI 0)] (sh, I, R) (fun w h1 => Ex mX10_shrink 19 [xU] (.int w :: []) h1 mc ms (xqI Q))) :
    Ex mX10_shrink 14 [.ref 209] [] (sh, I, R) mc ms (xqI Q) := by
  refine xw_aload_n dX10_shrink_14 rfl rfl ?_
  refine xw_iconst (v := nI 0) dX10_shrink_15 rfl ?_
  refine yw_sub (lv' := [xU]) ⟨Or.inl rfl, trivial⟩ ?_
  exact yw_cV (As := [.int (nI 0)]) (b := 209) (st := []) dX10_shrink_16 lX10_95 kiX10_many kvX10_many rfl rfl rfl (la_209 hW) rfl (Nat.le_of_ble_eq_true rfl) rfl (xk_I k)
theorem bX10_shrink_19 {s0 : Int32} {mc ms : Nat} {Q : Int32 → xHp → Prop} (hW : xLay sh R) 
    (k : Q s0 (sh, I, R)) :
    Ex mX10_shrink 19 [xU] [.int s0] (sh, I, R) mc ms (xqI Q) := by
  exact yw_iret dX10_shrink_19 rfl k
theorem eX10_shrink {h : xHp} {Q : Int32 → xHp → Prop} (k : Ex mX10_shrink 0 [.ref 209] [] h 0 0 (xqI Q)) : CI mX10_shrink [.ref 209] h Q := k
theorem bX10_join_0 {v1 : Int32} {mc ms : Nat} {Q : Int32 → xHp → Prop} (hW : xLay sh R) 
    (k : CI mX10_in [.long v1.toInt64, .long (lN 0), .long (lN 1)] (sh, I, R) (fun w h1 => Ex mX10_join 7 [.ref 209, .int v1, xU, xU, xU, xU, xU] (.int w :: []) h1 mc ms (xqI Q))) :
    Ex mX10_join 0 [.ref 209, .int v1, xU, xU, xU, xU, xU] [] (sh, I, R) mc ms (xqI Q) := by
  refine xw_iload_n dX10_join_0 rfl rfl ?_
  refine xw_i2l dX10_join_1 ?_
  refine xw_lconst (v := lN 0) dX10_join_2 rfl ?_
  refine xw_lconst (v := lN 1) dX10_join_3 rfl ?_
  exact yw_cS (As := [.long v1.toInt64, .long (lN 0), .long (lN 1)]) (st := []) dX10_join_4 lX10_181 ksX10_in rfl rfl rfl (Nat.le_of_ble_eq_true rfl) rfl (xk_I k)
theorem bX10_join_7 {v1 s0 : Int32} {mc ms : Nat} {Q : Int32 → xHp → Prop} (hW : xLay sh R) 
    (k : ((¬ s0 = 0 → vp_in v1 2 ∧ ((¬ (I 225 v1.toNatClampNeg) = 0 → CI mX10_many [.ref 209, .int (nI 0)] (sh, I, R) (fun w h1 => Ex mX10_join 29 [.ref 209, .int v1, xU, xU, xU, xU, xU] (.int w :: []) h1 mc ms (xqI Q))) ∧ ((I 225 v1.toNatClampNeg) = 0 → Q (-2) (sh, I, R)))) ∧ (s0 = 0 → Q (-1) (sh, I, R)))) :
    Ex mX10_join 7 [.ref 209, .int v1, xU, xU, xU, xU, xU] [.int s0] (sh, I, R) mc ms (xqI Q) := by
  refine xw_ifne (tgt := 12) dX10_join_7 (by decide) (fun c => ?_) (fun c => ?_)
  · replace k := k.1 c
    refine xw_aload_n dX10_join_12 rfl rfl ?_
    refine yw_getR (r := 225) dX10_join_13 fX10_63 rfl (la_209 hW) (lr_209_36 hW) ?_
    refine xw_iload_n dX10_join_16 rfl rfl ?_
    obtain ⟨k0, k⟩ := k
    refine yw_zaload (v := I 225 v1.toNatClampNeg) dX10_join_17 (la_225 hW) k0 rfl ?_
    refine xw_ifne (tgt := 24) dX10_join_18 (by decide) (fun c => ?_) (fun c => ?_)
    · replace k := k.1 c
      refine xw_aload_n dX10_join_24 rfl rfl ?_
      refine xw_iconst (v := nI 0) dX10_join_25 rfl ?_
      exact yw_cV (As := [.int (nI 0)]) (b := 209) (st := []) dX10_join_26 lX10_95 kiX10_many kvX10_many rfl rfl rfl (la_209 hW) rfl (Nat.le_of_ble_eq_true rfl) rfl (xk_I k)
    · replace k := k.2 c
      refine xw_bipush (v := (-2)) dX10_join_21 (by decide) ?_
      exact yw_iret dX10_join_23 rfl k
  · replace k := k.2 c
    refine xw_iconst (v := (-1)) dX10_join_10 rfl ?_
    exact yw_iret dX10_join_11 rfl k
theorem bX10_join_29 {v1 s0 : Int32} {mc ms : Nat} {Q : Int32 → xHp → Prop} (hW : xLay sh R) 
    (k : CI mX10_many [.ref 209, .int ((nI 3) + v1)] (sh, I, R) (fun w h1 => Ex mX10_join 37 [.ref 209, .int v1, .int s0, xU, xU, xU, xU] (.int w :: []) h1 mc ms (xqI Q))) :
    Ex mX10_join 29 [.ref 209, .int v1, xU, xU, xU, xU, xU] [.int s0] (sh, I, R) mc ms (xqI Q) := by
  refine yw_istore_n (lv' := [.ref 209, .int v1, .int s0, xU, xU, xU, xU]) dX10_join_29 rfl rfl rfl rfl ?_
  refine xw_aload_n dX10_join_30 rfl rfl ?_
  refine xw_iconst (v := nI 3) dX10_join_31 rfl ?_
  refine xw_iload_n dX10_join_32 rfl rfl ?_
  refine xw_iadd dX10_join_33 ?_
  exact yw_cV (As := [.int ((nI 3) + v1)]) (b := 209) (st := []) dX10_join_34 lX10_95 kiX10_many kvX10_many rfl rfl rfl (la_209 hW) rfl (Nat.le_of_ble_eq_true rfl) rfl (xk_I k)
theorem bX10_join_37 {v1 v2 s0 : Int32} {mc ms : Nat} {Q : Int32 → xHp → Prop} (hW : xLay sh R) 
    (k : (((v2 + s0) ≤ (nI 4) → CI mX10_at [.ref 209, .int (nI 0), .int (nI 0)] (sh, I, R) (fun w h1 => Ex mX10_join 58 [.ref 209, .int v1, .int v2, .int s0, xU, xU, xU] (.int w :: [.ref 210]) h1 mc ms (xqI Q))) ∧ (¬ (v2 + s0) ≤ (nI 4) → Q (-3) (sh, I, R)))) :
    Ex mX10_join 37 [.ref 209, .int v1, .int v2, xU, xU, xU, xU] [.int s0] (sh, I, R) mc ms (xqI Q) := by
  refine yw_istore_n (lv' := [.ref 209, .int v1, .int v2, .int s0, xU, xU, xU]) dX10_join_37 rfl rfl rfl rfl ?_
  refine xw_iload_n dX10_join_38 rfl rfl ?_
  refine xw_iload_n dX10_join_39 rfl rfl ?_
  refine xw_iadd dX10_join_40 ?_
  refine xw_iconst (v := nI 4) dX10_join_41 rfl ?_
  refine xw_icle (tgt := 48) dX10_join_42 (by decide) (fun c => ?_) (fun c => ?_)
  · replace k := k.1 c
    refine xw_aload_n dX10_join_48 rfl rfl ?_
    refine yw_getR (r := 210) dX10_join_49 fX10_7 rfl (la_209 hW) (lr_209_0 hW) ?_
    refine xw_aload_n dX10_join_52 rfl rfl ?_
    refine xw_iconst (v := nI 0) dX10_join_53 rfl ?_
    refine xw_iconst (v := nI 0) dX10_join_54 rfl ?_
    exact yw_cV (As := [.int (nI 0), .int (nI 0)]) (b := 209) (st := [.ref 210]) dX10_join_55 lX10_81 kiX10_at kvX10_at rfl rfl rfl (la_209 hW) rfl (Nat.le_of_ble_eq_true rfl) rfl (xk_I k)
  · replace k := k.2 c
    refine xw_bipush (v := (-3)) dX10_join_45 (by decide) ?_
    exact yw_iret dX10_join_47 rfl k
theorem bX10_join_58 {v1 v2 v3 s1 : Int32} {mc ms : Nat} {Q : Int32 → xHp → Prop} (hW : xLay sh R) 
    (k : vp_in s1 1881 ∧ Ex mX10_join 65 [.ref 209, .int v1, .int v2, .int v3, .int (nI 0), xU, xU] [] (sh, (xi I 210 s1.toNatClampNeg (v2 + v3)), R) mc ms (xqI Q)) :
    Ex mX10_join 58 [.ref 209, .int v1, .int v2, .int v3, xU, xU, xU] [.int s1, .ref 210] (sh, I, R) mc ms (xqI Q) := by
  refine xw_iload_n dX10_join_58 rfl rfl ?_
  refine xw_iload_n dX10_join_59 rfl rfl ?_
  refine xw_iadd dX10_join_60 ?_
  obtain ⟨k0, k⟩ := k
  refine yw_iastore dX10_join_61 (la_210 hW) k0 ?_
  refine xw_iconst (v := nI 0) dX10_join_62 rfl ?_
  refine yw_istore (lv' := [.ref 209, .int v1, .int v2, .int v3, .int (nI 0), xU, xU]) dX10_join_63 rfl rfl rfl ?_
  exact k
theorem bX10_join_65 {v1 v2 v3 v4 : Int32} {mc ms : Nat} {Q : Int32 → xHp → Prop} (hW : xLay sh R) 
    (k : ((v3 ≤ v4 → CV mX10_anew [.ref 209] (sh, I, R) (fun h1 => Ex mX10_join 246 [xU, xU, .int v2, .int v3, xU, xU, xU] [] h1 mc ms (xqI Q))) ∧ (¬ v3 ≤ v4 → CI mX10_at [.ref 209, .int (nI 0), .int (((nI 1) + v2) + v4)] (sh, I, R) (fun w h1 => Ex mX10_join 86 [.ref 209, .int v1, .int v2, .int v3, .int v4, xU, xU] (.int w :: [.ref 210]) h1 mc ms (xqI Q))))) :
    Ex mX10_join 65 [.ref 209, .int v1, .int v2, .int v3, .int v4, xU, xU] [] (sh, I, R) mc ms (xqI Q) := by
  refine xw_iload dX10_join_65 rfl ?_
  refine xw_iload_n dX10_join_67 rfl rfl ?_
  refine xw_icge (tgt := 242) dX10_join_68 (by decide) (fun c => ?_) (fun c => ?_)
  · replace k := k.1 c
    refine xw_aload_n dX10_join_242 rfl rfl ?_
    refine yw_sub (lv' := [xU, xU, .int v2, .int v3, xU, xU, xU]) ⟨Or.inl rfl, Or.inl rfl, Or.inr rfl, Or.inr rfl, Or.inl rfl, Or.inl rfl, Or.inl rfl, trivial⟩ ?_
    exact yw_cV (As := []) (b := 209) (st := []) dX10_join_243 lX10_78 kiX10_anew kvX10_anew rfl rfl rfl (la_209 hW) rfl (Nat.le_of_ble_eq_true rfl) rfl (xk_V k)
  · replace k := k.2 c
    refine xw_aload_n dX10_join_71 rfl rfl ?_
    refine yw_getR (r := 210) dX10_join_72 fX10_7 rfl (la_209 hW) (lr_209_0 hW) ?_
    refine xw_aload_n dX10_join_75 rfl rfl ?_
    refine xw_iconst (v := nI 0) dX10_join_76 rfl ?_
    refine xw_iconst (v := nI 1) dX10_join_77 rfl ?_
    refine xw_iload_n dX10_join_78 rfl rfl ?_
    refine xw_iadd dX10_join_79 ?_
    refine xw_iload dX10_join_80 rfl ?_
    refine xw_iadd dX10_join_82 ?_
    exact yw_cV (As := [.int (nI 0), .int (((nI 1) + v2) + v4)]) (b := 209) (st := [.ref 210]) dX10_join_83 lX10_81 kiX10_at kvX10_at rfl rfl rfl (la_209 hW) rfl (Nat.le_of_ble_eq_true rfl) rfl (xk_I k)
theorem bX10_join_246 {v2 v3 : Int32} {mc ms : Nat} {Q : Int32 → xHp → Prop} (hW : xLay sh R) 
    (k : Q (v2 + v3) (sh, I, R)) :
    Ex mX10_join 246 [xU, xU, .int v2, .int v3, xU, xU, xU] [] (sh, I, R) mc ms (xqI Q) := by
  refine xw_iload_n dX10_join_246 rfl rfl ?_
  refine xw_iload_n dX10_join_247 rfl rfl ?_
  refine xw_iadd dX10_join_248 ?_
  exact yw_iret dX10_join_249 rfl k
theorem bX10_join_86 {v1 v2 v3 v4 s1 : Int32} {mc ms : Nat} {Q : Int32 → xHp → Prop} (hW : xLay sh R) 
    (k : CI mX10_at [.ref 209, .int ((nI 3) + v1), .int ((nI 1) + v4)] (sh, I, R) (fun w h1 => Ex mX10_join 101 [.ref 209, .int v1, .int v2, .int v3, .int v4, xU, xU] (.int w :: [.ref 210, .int s1, .ref 210]) h1 mc ms (xqI Q))) :
    Ex mX10_join 86 [.ref 209, .int v1, .int v2, .int v3, .int v4, xU, xU] [.int s1, .ref 210] (sh, I, R) mc ms (xqI Q) := by
  refine xw_aload_n dX10_join_86 rfl rfl ?_
  refine yw_getR (r := 210) dX10_join_87 fX10_7 rfl (la_209 hW) (lr_209_0 hW) ?_
  refine xw_aload_n dX10_join_90 rfl rfl ?_
  refine xw_iconst (v := nI 3) dX10_join_91 rfl ?_
  refine xw_iload_n dX10_join_92 rfl rfl ?_
  refine xw_iadd dX10_join_93 ?_
  refine xw_iconst (v := nI 1) dX10_join_94 rfl ?_
  refine xw_iload dX10_join_95 rfl ?_
  refine xw_iadd dX10_join_97 ?_
  exact yw_cV (As := [.int ((nI 3) + v1), .int ((nI 1) + v4)]) (b := 209) (st := [.ref 210, .int s1, .ref 210]) dX10_join_98 lX10_81 kiX10_at kvX10_at rfl rfl rfl (la_209 hW) rfl (Nat.le_of_ble_eq_true rfl) rfl (xk_I k)
theorem bX10_join_101 {v1 v2 v3 v4 s3 s1 : Int32} {mc ms : Nat} {Q : Int32 → xHp → Prop} (hW : xLay sh R) 
    (k : vp_in s3 1881 ∧ vp_in s1 1881 ∧ CI mX10_at [.ref 209, .int (nI 0), .int (((nI 5) + v2) + v4)] (sh, (xi I 210 s1.toNatClampNeg (I 210 s3.toNatClampNeg)), R) (fun w h1 => Ex mX10_join 118 [.ref 209, .int v1, .int v2, .int v3, .int v4, xU, xU] (.int w :: [.ref 210]) h1 mc ms (xqI Q))) :
    Ex mX10_join 101 [.ref 209, .int v1, .int v2, .int v3, .int v4, xU, xU] [.int s3, .ref 210, .int s1, .ref 210] (sh, I, R) mc ms (xqI Q) := by
  obtain ⟨k0, k⟩ := k
  refine yw_iaload (v := I 210 s3.toNatClampNeg) dX10_join_101 (la_210 hW) k0 rfl ?_
  obtain ⟨k0, k⟩ := k
  refine yw_iastore dX10_join_102 (la_210 hW) k0 ?_
  refine xw_aload_n dX10_join_103 rfl rfl ?_
  refine yw_getR (r := 210) dX10_join_104 fX10_7 rfl (la_209 hW) (lr_209_0 hW) ?_
  refine xw_aload_n dX10_join_107 rfl rfl ?_
  refine xw_iconst (v := nI 0) dX10_join_108 rfl ?_
  refine xw_iconst (v := nI 5) dX10_join_109 rfl ?_
  refine xw_iload_n dX10_join_110 rfl rfl ?_
  refine xw_iadd dX10_join_111 ?_
  refine xw_iload dX10_join_112 rfl ?_
  refine xw_iadd dX10_join_114 ?_
  exact yw_cV (As := [.int (nI 0), .int (((nI 5) + v2) + v4)]) (b := 209) (st := [.ref 210]) dX10_join_115 lX10_81 kiX10_at kvX10_at rfl rfl rfl (la_209 hW) rfl (Nat.le_of_ble_eq_true rfl) rfl (xk_I k)
theorem bX10_join_118 {v1 v2 v3 v4 s1 : Int32} {mc ms : Nat} {Q : Int32 → xHp → Prop} (hW : xLay sh R) 
    (k : CI mX10_at [.ref 209, .int ((nI 3) + v1), .int ((nI 5) + v4)] (sh, I, R) (fun w h1 => Ex mX10_join 133 [.ref 209, .int v1, .int v2, .int v3, .int v4, xU, xU] (.int w :: [.ref 210, .int s1, .ref 210]) h1 mc ms (xqI Q))) :
    Ex mX10_join 118 [.ref 209, .int v1, .int v2, .int v3, .int v4, xU, xU] [.int s1, .ref 210] (sh, I, R) mc ms (xqI Q) := by
  refine xw_aload_n dX10_join_118 rfl rfl ?_
  refine yw_getR (r := 210) dX10_join_119 fX10_7 rfl (la_209 hW) (lr_209_0 hW) ?_
  refine xw_aload_n dX10_join_122 rfl rfl ?_
  refine xw_iconst (v := nI 3) dX10_join_123 rfl ?_
  refine xw_iload_n dX10_join_124 rfl rfl ?_
  refine xw_iadd dX10_join_125 ?_
  refine xw_iconst (v := nI 5) dX10_join_126 rfl ?_
  refine xw_iload dX10_join_127 rfl ?_
  refine xw_iadd dX10_join_129 ?_
  exact yw_cV (As := [.int ((nI 3) + v1), .int ((nI 5) + v4)]) (b := 209) (st := [.ref 210, .int s1, .ref 210]) dX10_join_130 lX10_81 kiX10_at kvX10_at rfl rfl rfl (la_209 hW) rfl (Nat.le_of_ble_eq_true rfl) rfl (xk_I k)
theorem bX10_join_133 {v1 v2 v3 v4 s3 s1 : Int32} {mc ms : Nat} {Q : Int32 → xHp → Prop} (hW : xLay sh R) 
    (k : vp_in s3 1881 ∧ vp_in s1 1881 ∧ Ex mX10_join 138 [.ref 209, .int v1, .int v2, .int v3, .int v4, .int (nI 0), xU] [] (sh, (xi I 210 s1.toNatClampNeg (I 210 s3.toNatClampNeg)), R) mc ms (xqI Q)) :
    Ex mX10_join 133 [.ref 209, .int v1, .int v2, .int v3, .int v4, xU, xU] [.int s3, .ref 210, .int s1, .ref 210] (sh, I, R) mc ms (xqI Q) := by
  obtain ⟨k0, k⟩ := k
  refine yw_iaload (v := I 210 s3.toNatClampNeg) dX10_join_133 (la_210 hW) k0 rfl ?_
  obtain ⟨k0, k⟩ := k
  refine yw_iastore dX10_join_134 (la_210 hW) k0 ?_
  refine xw_iconst (v := nI 0) dX10_join_135 rfl ?_
  refine yw_istore (lv' := [.ref 209, .int v1, .int v2, .int v3, .int v4, .int (nI 0), xU]) dX10_join_136 rfl rfl rfl ?_
  exact k
theorem bX10_join_138 {v1 v2 v3 v4 v5 : Int32} {mc ms : Nat} {Q : Int32 → xHp → Prop} (hW : xLay sh R) 
    (k : (((nI 3) ≤ v5 → Ex mX10_join 65 [.ref 209, .int v1, .int v2, .int v3, .int (v4 + nI 1), xU, xU] [] (sh, I, R) mc ms (xqI Q)) ∧ (¬ (nI 3) ≤ v5 → Ex mX10_join 147 [.ref 209, .int v1, .int v2, .int v3, .int v4, .int v5, .int (nI 0)] [] (sh, I, R) mc ms (xqI Q)))) :
    Ex mX10_join 138 [.ref 209, .int v1, .int v2, .int v3, .int v4, .int v5, xU] [] (sh, I, R) mc ms (xqI Q) := by
  refine xw_iload dX10_join_138 rfl ?_
  refine xw_iconst (v := nI 3) dX10_join_140 rfl ?_
  refine xw_icge (tgt := 236) dX10_join_141 (by decide) (fun c => ?_) (fun c => ?_)
  · replace k := k.1 c
    refine yw_iinc (lv' := [.ref 209, .int v1, .int v2, .int v3, .int (v4 + nI 1), .int v5, xU]) (v := nI 1) dX10_join_236 rfl rfl rfl rfl rfl ?_
    refine xw_goto (tgt := 65) dX10_join_239 (by decide) ?_
    exact yw_sub (lv' := [.ref 209, .int v1, .int v2, .int v3, .int (v4 + nI 1), xU, xU]) ⟨Or.inr rfl, Or.inr rfl, Or.inr rfl, Or.inr rfl, Or.inr rfl, Or.inl rfl, Or.inl rfl, trivial⟩ k
  · replace k := k.2 c
    refine xw_iconst (v := nI 0) dX10_join_144 rfl ?_
    refine yw_istore (lv' := [.ref 209, .int v1, .int v2, .int v3, .int v4, .int v5, .int (nI 0)]) dX10_join_145 rfl rfl rfl ?_
    exact k
theorem bX10_join_147 {v1 v2 v3 v4 v5 v6 : Int32} {mc ms : Nat} {Q : Int32 → xHp → Prop} (hW : xLay sh R) 
    (k : ((v2 ≤ v6 → Ex mX10_join 190 [.ref 209, .int v1, .int v2, .int v3, .int v4, .int v5, .int (nI 0)] [] (sh, I, R) mc ms (xqI Q)) ∧ (¬ v2 ≤ v6 → CV mX10_weighs [.ref 209, .int (nI 0), .int (v2 + v4), .int v5, .int v6, .int (nI 0)] (sh, I, R) (fun h1 => Ex mX10_join 167 [.ref 209, .int v1, .int v2, .int v3, .int v4, .int v5, .int v6] [] h1 mc ms (xqI Q))))) :
    Ex mX10_join 147 [.ref 209, .int v1, .int v2, .int v3, .int v4, .int v5, .int v6] [] (sh, I, R) mc ms (xqI Q) := by
  refine xw_iload dX10_join_147 rfl ?_
  refine xw_iload_n dX10_join_149 rfl rfl ?_
  refine xw_icge (tgt := 187) dX10_join_150 (by decide) (fun c => ?_) (fun c => ?_)
  · replace k := k.1 c
    refine xw_iconst (v := nI 0) dX10_join_187 rfl ?_
    refine yw_istore (lv' := [.ref 209, .int v1, .int v2, .int v3, .int v4, .int v5, .int (nI 0)]) dX10_join_188 rfl rfl rfl ?_
    exact k
  · replace k := k.2 c
    refine xw_aload_n dX10_join_153 rfl rfl ?_
    refine xw_iconst (v := nI 0) dX10_join_154 rfl ?_
    refine xw_iload_n dX10_join_155 rfl rfl ?_
    refine xw_iload dX10_join_156 rfl ?_
    refine xw_iadd dX10_join_158 ?_
    refine xw_iload dX10_join_159 rfl ?_
    refine xw_iload dX10_join_161 rfl ?_
    refine xw_iconst (v := nI 0) dX10_join_163 rfl ?_
    exact yw_cV (As := [.int (nI 0), .int (v2 + v4), .int v5, .int v6, .int (nI 0)]) (b := 209) (st := []) dX10_join_164 lX10_160 kiX10_weighs kvX10_weighs rfl rfl rfl (la_209 hW) rfl (Nat.le_of_ble_eq_true rfl) rfl (xk_V k)
theorem bX10_join_190 {v1 v2 v3 v4 v5 v6 : Int32} {mc ms : Nat} {Q : Int32 → xHp → Prop} (hW : xLay sh R) 
    (k : ((v3 ≤ v6 → Ex mX10_join 138 [.ref 209, .int v1, .int v2, .int v3, .int v4, .int (v5 + nI 1), xU] [] (sh, I, R) mc ms (xqI Q)) ∧ (¬ v3 ≤ v6 → CI mX10_weight [.ref 209, .int ((nI 3) + v1), .int v4, .int v5, .int v6] (sh, I, R) (fun w h1 => Ex mX10_join 221 [.ref 209, .int v1, .int v2, .int v3, .int v4, .int v5, .int v6] (.int w :: [.int (v2 + v6), .int v5, .int (v2 + v4), .int (nI 0), .ref 209]) h1 mc ms (xqI Q))))) :
    Ex mX10_join 190 [.ref 209, .int v1, .int v2, .int v3, .int v4, .int v5, .int v6] [] (sh, I, R) mc ms (xqI Q) := by
  refine xw_iload dX10_join_190 rfl ?_
  refine xw_iload_n dX10_join_192 rfl rfl ?_
  refine xw_icge (tgt := 230) dX10_join_193 (by decide) (fun c => ?_) (fun c => ?_)
  · replace k := k.1 c
    refine yw_iinc (lv' := [.ref 209, .int v1, .int v2, .int v3, .int v4, .int (v5 + nI 1), .int v6]) (v := nI 1) dX10_join_230 rfl rfl rfl rfl rfl ?_
    refine xw_goto (tgt := 138) dX10_join_233 (by decide) ?_
    exact yw_sub (lv' := [.ref 209, .int v1, .int v2, .int v3, .int v4, .int (v5 + nI 1), xU]) ⟨Or.inr rfl, Or.inr rfl, Or.inr rfl, Or.inr rfl, Or.inr rfl, Or.inr rfl, Or.inl rfl, trivial⟩ k
  · replace k := k.2 c
    refine xw_aload_n dX10_join_196 rfl rfl ?_
    refine xw_iconst (v := nI 0) dX10_join_197 rfl ?_
    refine xw_iload_n dX10_join_198 rfl rfl ?_
    refine xw_iload dX10_join_199 rfl ?_
    refine xw_iadd dX10_join_201 ?_
    refine xw_iload dX10_join_202 rfl ?_
    refine xw_iload_n dX10_join_204 rfl rfl ?_
    refine xw_iload dX10_join_205 rfl ?_
    refine xw_iadd dX10_join_207 ?_
    refine xw_aload_n dX10_join_208 rfl rfl ?_
    refine xw_iconst (v := nI 3) dX10_join_209 rfl ?_
    refine xw_iload_n dX10_join_210 rfl rfl ?_
    refine xw_iadd dX10_join_211 ?_
    refine xw_iload dX10_join_212 rfl ?_
    refine xw_iload dX10_join_214 rfl ?_
    refine xw_iload dX10_join_216 rfl ?_
    exact yw_cV (As := [.int ((nI 3) + v1), .int v4, .int v5, .int v6]) (b := 209) (st := [.int (v2 + v6), .int v5, .int (v2 + v4), .int (nI 0), .ref 209]) dX10_join_218 lX10_98 kiX10_weight kvX10_weight rfl rfl rfl (la_209 hW) rfl (Nat.le_of_ble_eq_true rfl) rfl (xk_I k)
theorem bX10_join_221 {v1 v2 v3 v4 v5 v6 s5 s4 s3 s2 s1 : Int32} {mc ms : Nat} {Q : Int32 → xHp → Prop} (hW : xLay sh R) 
    (k : CV mX10_weighs [.ref 209, .int s1, .int s2, .int s3, .int s4, .int s5] (sh, I, R) (fun h1 => Ex mX10_join 224 [.ref 209, .int v1, .int v2, .int v3, .int v4, .int v5, .int v6] [] h1 mc ms (xqI Q))) :
    Ex mX10_join 221 [.ref 209, .int v1, .int v2, .int v3, .int v4, .int v5, .int v6] [.int s5, .int s4, .int s3, .int s2, .int s1, .ref 209] (sh, I, R) mc ms (xqI Q) := by
  exact yw_cV (As := [.int s1, .int s2, .int s3, .int s4, .int s5]) (b := 209) (st := []) dX10_join_221 lX10_160 kiX10_weighs kvX10_weighs rfl rfl rfl (la_209 hW) rfl (Nat.le_of_ble_eq_true rfl) rfl (xk_V k)
theorem bX10_join_224 {v1 v2 v3 v4 v5 v6 : Int32} {mc ms : Nat} {Q : Int32 → xHp → Prop} (hW : xLay sh R) 
    (k : Ex mX10_join 190 [.ref 209, .int v1, .int v2, .int v3, .int v4, .int v5, .int (v6 + nI 1)] [] (sh, I, R) mc ms (xqI Q)) :
    Ex mX10_join 224 [.ref 209, .int v1, .int v2, .int v3, .int v4, .int v5, .int v6] [] (sh, I, R) mc ms (xqI Q) := by
  refine yw_iinc (lv' := [.ref 209, .int v1, .int v2, .int v3, .int v4, .int v5, .int (v6 + nI 1)]) (v := nI 1) dX10_join_224 rfl rfl rfl rfl rfl ?_
  refine xw_goto (tgt := 190) dX10_join_227 (by decide) ?_
  exact k
theorem bX10_join_167 {v1 v2 v3 v4 v5 v6 : Int32} {mc ms : Nat} {Q : Int32 → xHp → Prop} (hW : xLay sh R) 
    (k : CV mX10_weighs [.ref 209, .int (nI 0), .int v6, .int v5, .int (v2 + v4), .int (nI 0)] (sh, I, R) (fun h1 => Ex mX10_join 181 [.ref 209, .int v1, .int v2, .int v3, .int v4, .int v5, .int v6] [] h1 mc ms (xqI Q))) :
    Ex mX10_join 167 [.ref 209, .int v1, .int v2, .int v3, .int v4, .int v5, .int v6] [] (sh, I, R) mc ms (xqI Q) := by
  refine xw_aload_n dX10_join_167 rfl rfl ?_
  refine xw_iconst (v := nI 0) dX10_join_168 rfl ?_
  refine xw_iload dX10_join_169 rfl ?_
  refine xw_iload dX10_join_171 rfl ?_
  refine xw_iload_n dX10_join_173 rfl rfl ?_
  refine xw_iload dX10_join_174 rfl ?_
  refine xw_iadd dX10_join_176 ?_
  refine xw_iconst (v := nI 0) dX10_join_177 rfl ?_
  exact yw_cV (As := [.int (nI 0), .int v6, .int v5, .int (v2 + v4), .int (nI 0)]) (b := 209) (st := []) dX10_join_178 lX10_160 kiX10_weighs kvX10_weighs rfl rfl rfl (la_209 hW) rfl (Nat.le_of_ble_eq_true rfl) rfl (xk_V k)
theorem bX10_join_181 {v1 v2 v3 v4 v5 v6 : Int32} {mc ms : Nat} {Q : Int32 → xHp → Prop} (hW : xLay sh R) 
    (k : Ex mX10_join 147 [.ref 209, .int v1, .int v2, .int v3, .int v4, .int v5, .int (v6 + nI 1)] [] (sh, I, R) mc ms (xqI Q)) :
    Ex mX10_join 181 [.ref 209, .int v1, .int v2, .int v3, .int v4, .int v5, .int v6] [] (sh, I, R) mc ms (xqI Q) := by
  refine yw_iinc (lv' := [.ref 209, .int v1, .int v2, .int v3, .int v4, .int v5, .int (v6 + nI 1)]) (v := nI 1) dX10_join_181 rfl rfl rfl rfl rfl ?_
  refine xw_goto (tgt := 147) dX10_join_184 (by decide) ?_
  exact k
theorem eX10_join {v1 : Int32} {h : xHp} {Q : Int32 → xHp → Prop} (k : Ex mX10_join 0 [.ref 209, .int v1, xU, xU, xU, xU, xU] [] h 0 0 (xqI Q)) : CI mX10_join [.ref 209, .int v1] h Q := k
theorem bX10_residue_0 {mc ms : Nat} {Q : Int32 → xHp → Prop} (hW : xLay sh R) 
    (k : ¬ nI 128 = 0 ∧ ¬ nI 2 = 0 ∧ ((¬ (xrem ((((((I 209 35) * (1103515245 : Int32)) + (nI 12345)) >>> ((nI 16) &&& 31)) &&& (nI 32767)) / (nI 128)) (nI 2)) = 0 → ¬ I 209 1 = 0 ∧ Q (xrem (((((I 209 35) * (1103515245 : Int32)) + (nI 12345)) >>> ((nI 16) &&& 31)) &&& (nI 32767)) (I 209 1)) (sh, (xi I 209 35 (((I 209 35) * (1103515245 : Int32)) + (nI 12345))), R)) ∧ ((xrem ((((((I 209 35) * (1103515245 : Int32)) + (nI 12345)) >>> ((nI 16) &&& 31)) &&& (nI 32767)) / (nI 128)) (nI 2)) = 0 → Q (nI 0) (sh, (xi I 209 35 (((I 209 35) * (1103515245 : Int32)) + (nI 12345))), R)))) :
    Ex mX10_residue 0 [.ref 209, xU] [] (sh, I, R) mc ms (xqI Q) := by
  refine xw_aload_n dX10_residue_0 rfl rfl ?_
  refine xw_aload_n dX10_residue_1 rfl rfl ?_
  refine yw_getI (v := I 209 35) dX10_residue_2 fX10_361 rfl (la_209 hW) rfl ?_
  refine xw_ldcwI dX10_residue_5 cX10_364 ?_
  refine xw_imul dX10_residue_8 ?_
  refine xw_sipush (v := nI 12345) dX10_residue_9 (by decide) ?_
  refine xw_iadd dX10_residue_12 ?_
  refine yw_putI dX10_residue_13 fX10_361 (fun r h => by cases h; exact Or.inl rfl) rfl (la_209 hW) ?_
  refine xw_aload_n dX10_residue_16 rfl rfl ?_
  refine yw_getI (v := ((I 209 35) * (1103515245 : Int32)) + (nI 12345)) dX10_residue_17 fX10_361 rfl (la_209 hW) (xi_e) ?_
  refine xw_bipush (v := nI 16) dX10_residue_20 (by decide) ?_
  refine xw_ishr dX10_residue_22 ?_
  refine xw_sipush (v := nI 32767) dX10_residue_23 (by decide) ?_
  refine xw_iand dX10_residue_26 ?_
  refine yw_istore_n (lv' := [.ref 209, .int (((((I 209 35) * (1103515245 : Int32)) + (nI 12345)) >>> ((nI 16) &&& 31)) &&& (nI 32767))]) dX10_residue_27 rfl rfl rfl rfl ?_
  refine xw_iload_n dX10_residue_28 rfl rfl ?_
  refine xw_sipush (v := nI 128) dX10_residue_29 (by decide) ?_
  obtain ⟨k0, k⟩ := k
  refine xw_idiv dX10_residue_32 k0 ?_
  refine xw_iconst (v := nI 2) dX10_residue_33 rfl ?_
  obtain ⟨k0, k⟩ := k
  refine yw_irem dX10_residue_34 k0 ?_
  refine xw_ifne (tgt := 42) dX10_residue_35 (by decide) (fun c => ?_) (fun c => ?_)
  · replace k := k.1 c
    refine xw_iload_n dX10_residue_42 rfl rfl ?_
    refine xw_aload_n dX10_residue_43 rfl rfl ?_
    refine yw_getI (v := I 209 1) dX10_residue_44 fX10_13 rfl (la_209 hW) (xi_s (j := 1) (k := 35) (by decide)) ?_
    obtain ⟨k0, k⟩ := k
    refine yw_irem dX10_residue_47 k0 ?_
    exact yw_iret dX10_residue_48 rfl k
  · replace k := k.2 c
    refine xw_iconst (v := nI 0) dX10_residue_38 rfl ?_
    refine xw_goto (tgt := 48) dX10_residue_39 (by decide) ?_
    exact yw_iret dX10_residue_48 rfl k
theorem eX10_residue {h : xHp} {Q : Int32 → xHp → Prop} (k : Ex mX10_residue 0 [.ref 209, xU] [] h 0 0 (xqI Q)) : CI mX10_residue [.ref 209] h Q := k
theorem bX10_draw_0 {v1 v2 : Int32} {mc ms : Nat} {Q : Int32 → xHp → Prop} (hW : xLay sh R) 
    (k : CI mX10_in [.long v2.toInt64, .long (lN 0), .long (4 : Int64)] (sh, I, R) (fun w h1 => Ex mX10_draw 9 [.ref 209, .int v1, .int v2, xU, xU, xU] (.int w :: []) h1 mc ms (xqI Q))) :
    Ex mX10_draw 0 [.ref 209, .int v1, .int v2, xU, xU, xU] [] (sh, I, R) mc ms (xqI Q) := by
  refine xw_iload_n dX10_draw_0 rfl rfl ?_
  refine xw_i2l dX10_draw_1 ?_
  refine xw_lconst (v := lN 0) dX10_draw_2 rfl ?_
  refine xw_ldcL dX10_draw_3 cX10_365 ?_
  exact yw_cS (As := [.long v2.toInt64, .long (lN 0), .long (4 : Int64)]) (st := []) dX10_draw_6 lX10_181 ksX10_in rfl rfl rfl (Nat.le_of_ble_eq_true rfl) rfl (xk_I k)
theorem bX10_draw_9 {v1 v2 s0 : Int32} {mc ms : Nat} {Q : Int32 → xHp → Prop} (hW : xLay sh R) 
    (k : ((¬ s0 = 0 → CV mX10_empties [.ref 209, .int (nI 0)] (sh, (xi I 209 35 v1), R) (fun h1 => Ex mX10_draw 24 [.ref 209, xU, .int v2, xU, xU, xU] [] h1 mc ms (xqI Q))) ∧ (s0 = 0 → Q (-1) (sh, I, R)))) :
    Ex mX10_draw 9 [.ref 209, .int v1, .int v2, xU, xU, xU] [.int s0] (sh, I, R) mc ms (xqI Q) := by
  refine xw_ifne (tgt := 14) dX10_draw_9 (by decide) (fun c => ?_) (fun c => ?_)
  · replace k := k.1 c
    refine xw_aload_n dX10_draw_14 rfl rfl ?_
    refine xw_iload_n dX10_draw_15 rfl rfl ?_
    refine yw_putI dX10_draw_16 fX10_361 (fun r h => by cases h; exact Or.inl rfl) rfl (la_209 hW) ?_
    refine xw_aload_n dX10_draw_19 rfl rfl ?_
    refine xw_iconst (v := nI 0) dX10_draw_20 rfl ?_
    refine yw_sub (lv' := [.ref 209, xU, .int v2, xU, xU, xU]) ⟨Or.inr rfl, Or.inl rfl, Or.inr rfl, Or.inl rfl, Or.inl rfl, Or.inl rfl, trivial⟩ ?_
    exact yw_cV (As := [.int (nI 0)]) (b := 209) (st := []) dX10_draw_21 lX10_156 kiX10_empties kvX10_empties rfl rfl rfl (la_209 hW) rfl (Nat.le_of_ble_eq_true rfl) rfl (xk_V k)
  · replace k := k.2 c
    refine xw_iconst (v := (-1)) dX10_draw_12 rfl ?_
    exact yw_iret dX10_draw_13 rfl k
theorem bX10_draw_24 {v2 : Int32} {mc ms : Nat} {Q : Int32 → xHp → Prop} (hW : xLay sh R) 
    (k : CI mX10_at [.ref 209, .int (nI 0), .int (nI 0)] (sh, I, R) (fun w h1 => Ex mX10_draw 34 [.ref 209, xU, .int v2, xU, xU, xU] (.int w :: [.ref 210]) h1 mc ms (xqI Q))) :
    Ex mX10_draw 24 [.ref 209, xU, .int v2, xU, xU, xU] [] (sh, I, R) mc ms (xqI Q) := by
  refine xw_aload_n dX10_draw_24 rfl rfl ?_
  refine yw_getR (r := 210) dX10_draw_25 fX10_7 rfl (la_209 hW) (lr_209_0 hW) ?_
  refine xw_aload_n dX10_draw_28 rfl rfl ?_
  refine xw_iconst (v := nI 0) dX10_draw_29 rfl ?_
  refine xw_iconst (v := nI 0) dX10_draw_30 rfl ?_
  exact yw_cV (As := [.int (nI 0), .int (nI 0)]) (b := 209) (st := [.ref 210]) dX10_draw_31 lX10_81 kiX10_at kvX10_at rfl rfl rfl (la_209 hW) rfl (Nat.le_of_ble_eq_true rfl) rfl (xk_I k)
theorem bX10_draw_34 {v2 s1 : Int32} {mc ms : Nat} {Q : Int32 → xHp → Prop} (hW : xLay sh R) 
    (k : vp_in s1 1881 ∧ Ex mX10_draw 38 [.ref 209, xU, .int v2, .int (nI 0), xU, xU] [] (sh, (xi I 210 s1.toNatClampNeg v2), R) mc ms (xqI Q)) :
    Ex mX10_draw 34 [.ref 209, xU, .int v2, xU, xU, xU] [.int s1, .ref 210] (sh, I, R) mc ms (xqI Q) := by
  refine xw_iload_n dX10_draw_34 rfl rfl ?_
  obtain ⟨k0, k⟩ := k
  refine yw_iastore dX10_draw_35 (la_210 hW) k0 ?_
  refine xw_iconst (v := nI 0) dX10_draw_36 rfl ?_
  refine yw_istore_n (lv' := [.ref 209, xU, .int v2, .int (nI 0), xU, xU]) dX10_draw_37 rfl rfl rfl rfl ?_
  exact k
theorem bX10_draw_38 {v2 v3 : Int32} {mc ms : Nat} {Q : Int32 → xHp → Prop} (hW : xLay sh R) 
    (k : ((v2 ≤ v3 → CV mX10_anew [.ref 209] (sh, I, R) (fun h1 => Ex mX10_draw 134 [xU, xU, xU, xU, xU, xU] [] h1 mc ms (xqI Q))) ∧ (¬ v2 ≤ v3 → CI mX10_at [.ref 209, .int (nI 0), .int ((nI 1) + v3)] (sh, I, R) (fun w h1 => Ex mX10_draw 55 [.ref 209, xU, .int v2, .int v3, xU, xU] (.int w :: [.ref 210]) h1 mc ms (xqI Q))))) :
    Ex mX10_draw 38 [.ref 209, xU, .int v2, .int v3, xU, xU] [] (sh, I, R) mc ms (xqI Q) := by
  refine xw_iload_n dX10_draw_38 rfl rfl ?_
  refine xw_iload_n dX10_draw_39 rfl rfl ?_
  refine xw_icge (tgt := 130) dX10_draw_40 (by decide) (fun c => ?_) (fun c => ?_)
  · replace k := k.1 c
    refine xw_aload_n dX10_draw_130 rfl rfl ?_
    refine yw_sub (lv' := [xU, xU, xU, xU, xU, xU]) ⟨Or.inl rfl, Or.inl rfl, Or.inl rfl, Or.inl rfl, Or.inl rfl, Or.inl rfl, trivial⟩ ?_
    exact yw_cV (As := []) (b := 209) (st := []) dX10_draw_131 lX10_78 kiX10_anew kvX10_anew rfl rfl rfl (la_209 hW) rfl (Nat.le_of_ble_eq_true rfl) rfl (xk_V k)
  · replace k := k.2 c
    refine xw_aload_n dX10_draw_43 rfl rfl ?_
    refine yw_getR (r := 210) dX10_draw_44 fX10_7 rfl (la_209 hW) (lr_209_0 hW) ?_
    refine xw_aload_n dX10_draw_47 rfl rfl ?_
    refine xw_iconst (v := nI 0) dX10_draw_48 rfl ?_
    refine xw_iconst (v := nI 1) dX10_draw_49 rfl ?_
    refine xw_iload_n dX10_draw_50 rfl rfl ?_
    refine xw_iadd dX10_draw_51 ?_
    exact yw_cV (As := [.int (nI 0), .int ((nI 1) + v3)]) (b := 209) (st := [.ref 210]) dX10_draw_52 lX10_81 kiX10_at kvX10_at rfl rfl rfl (la_209 hW) rfl (Nat.le_of_ble_eq_true rfl) rfl (xk_I k)
theorem bX10_draw_134 {mc ms : Nat} {Q : Int32 → xHp → Prop} (hW : xLay sh R) 
    (k : Q (nI 1) (sh, I, R)) :
    Ex mX10_draw 134 [xU, xU, xU, xU, xU, xU] [] (sh, I, R) mc ms (xqI Q) := by
  refine xw_iconst (v := nI 1) dX10_draw_134 rfl ?_
  exact yw_iret dX10_draw_135 rfl k
theorem bX10_draw_55 {v2 v3 s1 : Int32} {mc ms : Nat} {Q : Int32 → xHp → Prop} (hW : xLay sh R) 
    (k : CI mX10_residue [.ref 209] (sh, I, R) (fun w h1 => Ex mX10_draw 59 [.ref 209, xU, .int v2, .int v3, xU, xU] (.int w :: [.int s1, .ref 210]) h1 mc ms (xqI Q))) :
    Ex mX10_draw 55 [.ref 209, xU, .int v2, .int v3, xU, xU] [.int s1, .ref 210] (sh, I, R) mc ms (xqI Q) := by
  refine xw_aload_n dX10_draw_55 rfl rfl ?_
  exact yw_cV (As := []) (b := 209) (st := [.int s1, .ref 210]) dX10_draw_56 lX10_367 kiX10_residue kvX10_residue rfl rfl rfl (la_209 hW) rfl (Nat.le_of_ble_eq_true rfl) rfl (xk_I k)
theorem bX10_draw_59 {v2 v3 s2 s1 : Int32} {mc ms : Nat} {Q : Int32 → xHp → Prop} (hW : xLay sh R) 
    (k : vp_in s1 1881 ∧ CI mX10_at [.ref 209, .int (nI 0), .int ((nI 5) + v3)] (sh, (xi I 210 s1.toNatClampNeg s2), R) (fun w h1 => Ex mX10_draw 72 [.ref 209, xU, .int v2, .int v3, xU, xU] (.int w :: [.ref 210]) h1 mc ms (xqI Q))) :
    Ex mX10_draw 59 [.ref 209, xU, .int v2, .int v3, xU, xU] [.int s2, .int s1, .ref 210] (sh, I, R) mc ms (xqI Q) := by
  obtain ⟨k0, k⟩ := k
  refine yw_iastore dX10_draw_59 (la_210 hW) k0 ?_
  refine xw_aload_n dX10_draw_60 rfl rfl ?_
  refine yw_getR (r := 210) dX10_draw_61 fX10_7 rfl (la_209 hW) (lr_209_0 hW) ?_
  refine xw_aload_n dX10_draw_64 rfl rfl ?_
  refine xw_iconst (v := nI 0) dX10_draw_65 rfl ?_
  refine xw_iconst (v := nI 5) dX10_draw_66 rfl ?_
  refine xw_iload_n dX10_draw_67 rfl rfl ?_
  refine xw_iadd dX10_draw_68 ?_
  exact yw_cV (As := [.int (nI 0), .int ((nI 5) + v3)]) (b := 209) (st := [.ref 210]) dX10_draw_69 lX10_81 kiX10_at kvX10_at rfl rfl rfl (la_209 hW) rfl (Nat.le_of_ble_eq_true rfl) rfl (xk_I k)
theorem bX10_draw_72 {v2 v3 s1 : Int32} {mc ms : Nat} {Q : Int32 → xHp → Prop} (hW : xLay sh R) 
    (k : CI mX10_residue [.ref 209] (sh, I, R) (fun w h1 => Ex mX10_draw 76 [.ref 209, xU, .int v2, .int v3, xU, xU] (.int w :: [.int s1, .ref 210]) h1 mc ms (xqI Q))) :
    Ex mX10_draw 72 [.ref 209, xU, .int v2, .int v3, xU, xU] [.int s1, .ref 210] (sh, I, R) mc ms (xqI Q) := by
  refine xw_aload_n dX10_draw_72 rfl rfl ?_
  exact yw_cV (As := []) (b := 209) (st := [.int s1, .ref 210]) dX10_draw_73 lX10_367 kiX10_residue kvX10_residue rfl rfl rfl (la_209 hW) rfl (Nat.le_of_ble_eq_true rfl) rfl (xk_I k)
theorem bX10_draw_76 {v2 v3 s2 s1 : Int32} {mc ms : Nat} {Q : Int32 → xHp → Prop} (hW : xLay sh R) 
    (k : vp_in s1 1881 ∧ Ex mX10_draw 80 [.ref 209, xU, .int v2, .int v3, .int (nI 0), xU] [] (sh, (xi I 210 s1.toNatClampNeg s2), R) mc ms (xqI Q)) :
    Ex mX10_draw 76 [.ref 209, xU, .int v2, .int v3, xU, xU] [.int s2, .int s1, .ref 210] (sh, I, R) mc ms (xqI Q) := by
  obtain ⟨k0, k⟩ := k
  refine yw_iastore dX10_draw_76 (la_210 hW) k0 ?_
  refine xw_iconst (v := nI 0) dX10_draw_77 rfl ?_
  refine yw_istore (lv' := [.ref 209, xU, .int v2, .int v3, .int (nI 0), xU]) dX10_draw_78 rfl rfl rfl ?_
  exact k
theorem bX10_draw_80 {v2 v3 v4 : Int32} {mc ms : Nat} {Q : Int32 → xHp → Prop} (hW : xLay sh R) 
    (k : (((I 209 2) ≤ v4 → Ex mX10_draw 38 [.ref 209, xU, .int v2, .int (v3 + nI 1), xU, xU] [] (sh, I, R) mc ms (xqI Q)) ∧ (¬ (I 209 2) ≤ v4 → Ex mX10_draw 92 [.ref 209, xU, .int v2, .int v3, .int v4, .int (nI 0)] [] (sh, I, R) mc ms (xqI Q)))) :
    Ex mX10_draw 80 [.ref 209, xU, .int v2, .int v3, .int v4, xU] [] (sh, I, R) mc ms (xqI Q) := by
  refine xw_iload dX10_draw_80 rfl ?_
  refine xw_aload_n dX10_draw_82 rfl rfl ?_
  refine yw_getI (v := I 209 2) dX10_draw_83 fX10_17 rfl (la_209 hW) rfl ?_
  refine xw_icge (tgt := 124) dX10_draw_86 (by decide) (fun c => ?_) (fun c => ?_)
  · replace k := k.1 c
    refine yw_iinc (lv' := [.ref 209, xU, .int v2, .int (v3 + nI 1), .int v4, xU]) (v := nI 1) dX10_draw_124 rfl rfl rfl rfl rfl ?_
    refine xw_goto (tgt := 38) dX10_draw_127 (by decide) ?_
    exact yw_sub (lv' := [.ref 209, xU, .int v2, .int (v3 + nI 1), xU, xU]) ⟨Or.inr rfl, Or.inl rfl, Or.inr rfl, Or.inr rfl, Or.inl rfl, Or.inl rfl, trivial⟩ k
  · replace k := k.2 c
    refine xw_iconst (v := nI 0) dX10_draw_89 rfl ?_
    refine yw_istore (lv' := [.ref 209, xU, .int v2, .int v3, .int v4, .int (nI 0)]) dX10_draw_90 rfl rfl rfl ?_
    exact k
theorem bX10_draw_92 {v2 v3 v4 v5 : Int32} {mc ms : Nat} {Q : Int32 → xHp → Prop} (hW : xLay sh R) 
    (k : ((v2 ≤ v5 → Ex mX10_draw 80 [.ref 209, xU, .int v2, .int v3, .int (v4 + nI 1), xU] [] (sh, I, R) mc ms (xqI Q)) ∧ (¬ v2 ≤ v5 → CI mX10_residue [.ref 209] (sh, I, R) (fun w h1 => Ex mX10_draw 109 [.ref 209, xU, .int v2, .int v3, .int v4, .int v5] (.int w :: [.int v5, .int v4, .int v3, .int (nI 0), .ref 209]) h1 mc ms (xqI Q))))) :
    Ex mX10_draw 92 [.ref 209, xU, .int v2, .int v3, .int v4, .int v5] [] (sh, I, R) mc ms (xqI Q) := by
  refine xw_iload dX10_draw_92 rfl ?_
  refine xw_iload_n dX10_draw_94 rfl rfl ?_
  refine xw_icge (tgt := 118) dX10_draw_95 (by decide) (fun c => ?_) (fun c => ?_)
  · replace k := k.1 c
    refine yw_iinc (lv' := [.ref 209, xU, .int v2, .int v3, .int (v4 + nI 1), .int v5]) (v := nI 1) dX10_draw_118 rfl rfl rfl rfl rfl ?_
    refine xw_goto (tgt := 80) dX10_draw_121 (by decide) ?_
    exact yw_sub (lv' := [.ref 209, xU, .int v2, .int v3, .int (v4 + nI 1), xU]) ⟨Or.inr rfl, Or.inl rfl, Or.inr rfl, Or.inr rfl, Or.inr rfl, Or.inl rfl, trivial⟩ k
  · replace k := k.2 c
    refine xw_aload_n dX10_draw_98 rfl rfl ?_
    refine xw_iconst (v := nI 0) dX10_draw_99 rfl ?_
    refine xw_iload_n dX10_draw_100 rfl rfl ?_
    refine xw_iload dX10_draw_101 rfl ?_
    refine xw_iload dX10_draw_103 rfl ?_
    refine xw_aload_n dX10_draw_105 rfl rfl ?_
    exact yw_cV (As := []) (b := 209) (st := [.int v5, .int v4, .int v3, .int (nI 0), .ref 209]) dX10_draw_106 lX10_367 kiX10_residue kvX10_residue rfl rfl rfl (la_209 hW) rfl (Nat.le_of_ble_eq_true rfl) rfl (xk_I k)
theorem bX10_draw_109 {v2 v3 v4 v5 s5 s4 s3 s2 s1 : Int32} {mc ms : Nat} {Q : Int32 → xHp → Prop} (hW : xLay sh R) 
    (k : CV mX10_weighs [.ref 209, .int s1, .int s2, .int s3, .int s4, .int s5] (sh, I, R) (fun h1 => Ex mX10_draw 112 [.ref 209, xU, .int v2, .int v3, .int v4, .int v5] [] h1 mc ms (xqI Q))) :
    Ex mX10_draw 109 [.ref 209, xU, .int v2, .int v3, .int v4, .int v5] [.int s5, .int s4, .int s3, .int s2, .int s1, .ref 209] (sh, I, R) mc ms (xqI Q) := by
  exact yw_cV (As := [.int s1, .int s2, .int s3, .int s4, .int s5]) (b := 209) (st := []) dX10_draw_109 lX10_160 kiX10_weighs kvX10_weighs rfl rfl rfl (la_209 hW) rfl (Nat.le_of_ble_eq_true rfl) rfl (xk_V k)
theorem bX10_draw_112 {v2 v3 v4 v5 : Int32} {mc ms : Nat} {Q : Int32 → xHp → Prop} (hW : xLay sh R) 
    (k : Ex mX10_draw 92 [.ref 209, xU, .int v2, .int v3, .int v4, .int (v5 + nI 1)] [] (sh, I, R) mc ms (xqI Q)) :
    Ex mX10_draw 112 [.ref 209, xU, .int v2, .int v3, .int v4, .int v5] [] (sh, I, R) mc ms (xqI Q) := by
  refine yw_iinc (lv' := [.ref 209, xU, .int v2, .int v3, .int v4, .int (v5 + nI 1)]) (v := nI 1) dX10_draw_112 rfl rfl rfl rfl rfl ?_
  refine xw_goto (tgt := 92) dX10_draw_115 (by decide) ?_
  exact k
theorem eX10_draw {v1 : Int32} {v2 : Int32} {h : xHp} {Q : Int32 → xHp → Prop} (k : Ex mX10_draw 0 [.ref 209, .int v1, .int v2, xU, xU, xU] [] h 0 0 (xqI Q)) : CI mX10_draw [.ref 209, .int v1, .int v2] h Q := k
theorem bX10_keep_0 {v1 : Int32} {mc ms : Nat} {Q : Int32 → xHp → Prop} (hW : xLay sh R) 
    (k : CI mX10_in [.long v1.toInt64, .long (lN 0), .long (lN 1)] (sh, I, R) (fun w h1 => Ex mX10_keep 7 [.ref 209, .int v1, xU, xU, xU] (.int w :: []) h1 mc ms (xqI Q))) :
    Ex mX10_keep 0 [.ref 209, .int v1, xU, xU, xU] [] (sh, I, R) mc ms (xqI Q) := by
  refine xw_iload_n dX10_keep_0 rfl rfl ?_
  refine xw_i2l dX10_keep_1 ?_
  refine xw_lconst (v := lN 0) dX10_keep_2 rfl ?_
  refine xw_lconst (v := lN 1) dX10_keep_3 rfl ?_
  exact yw_cS (As := [.long v1.toInt64, .long (lN 0), .long (lN 1)]) (st := []) dX10_keep_4 lX10_181 ksX10_in rfl rfl rfl (Nat.le_of_ble_eq_true rfl) rfl (xk_I k)
theorem bX10_keep_7 {v1 s0 : Int32} {mc ms : Nat} {Q : Int32 → xHp → Prop} (hW : xLay sh R) 
    (k : ((¬ s0 = 0 → vp_in v1 2 ∧ (((I 225 v1.toNatClampNeg) = 0 → Ex mX10_keep 35 [.ref 209, .int v1, .int (nI 0), .int ((nI 70) * v1), .int (nI 0)] [] (sh, I, R) mc ms (xqI Q)) ∧ (¬ (I 225 v1.toNatClampNeg) = 0 → Ex mX10_keep 35 [.ref 209, .int v1, .int (nI 1), .int ((nI 70) * v1), .int (nI 0)] [] (sh, I, R) mc ms (xqI Q)))) ∧ (s0 = 0 → Q (-1) (sh, I, R)))) :
    Ex mX10_keep 7 [.ref 209, .int v1, xU, xU, xU] [.int s0] (sh, I, R) mc ms (xqI Q) := by
  refine xw_ifne (tgt := 12) dX10_keep_7 (by decide) (fun c => ?_) (fun c => ?_)
  · replace k := k.1 c
    refine xw_aload_n dX10_keep_12 rfl rfl ?_
    refine yw_getR (r := 225) dX10_keep_13 fX10_63 rfl (la_209 hW) (lr_209_36 hW) ?_
    refine xw_iload_n dX10_keep_16 rfl rfl ?_
    obtain ⟨k0, k⟩ := k
    refine yw_zaload (v := I 225 v1.toNatClampNeg) dX10_keep_17 (la_225 hW) k0 rfl ?_
    refine xw_ifeq (tgt := 25) dX10_keep_18 (by decide) (fun c => ?_) (fun c => ?_)
    · replace k := k.1 c
      refine xw_iconst (v := nI 0) dX10_keep_25 rfl ?_
      refine yw_istore_n (lv' := [.ref 209, .int v1, .int (nI 0), xU, xU]) dX10_keep_26 rfl rfl rfl rfl ?_
      refine xw_bipush (v := nI 70) dX10_keep_27 (by decide) ?_
      refine xw_iload_n dX10_keep_29 rfl rfl ?_
      refine xw_imul dX10_keep_30 ?_
      refine yw_istore_n (lv' := [.ref 209, .int v1, .int (nI 0), .int ((nI 70) * v1), xU]) dX10_keep_31 rfl rfl rfl rfl ?_
      refine xw_iconst (v := nI 0) dX10_keep_32 rfl ?_
      refine yw_istore (lv' := [.ref 209, .int v1, .int (nI 0), .int ((nI 70) * v1), .int (nI 0)]) dX10_keep_33 rfl rfl rfl ?_
      exact k
    · replace k := k.2 c
      refine xw_iconst (v := nI 1) dX10_keep_21 rfl ?_
      refine xw_goto (tgt := 26) dX10_keep_22 (by decide) ?_
      refine yw_istore_n (lv' := [.ref 209, .int v1, .int (nI 1), xU, xU]) dX10_keep_26 rfl rfl rfl rfl ?_
      refine xw_bipush (v := nI 70) dX10_keep_27 (by decide) ?_
      refine xw_iload_n dX10_keep_29 rfl rfl ?_
      refine xw_imul dX10_keep_30 ?_
      refine yw_istore_n (lv' := [.ref 209, .int v1, .int (nI 1), .int ((nI 70) * v1), xU]) dX10_keep_31 rfl rfl rfl rfl ?_
      refine xw_iconst (v := nI 0) dX10_keep_32 rfl ?_
      refine yw_istore (lv' := [.ref 209, .int v1, .int (nI 1), .int ((nI 70) * v1), .int (nI 0)]) dX10_keep_33 rfl rfl rfl ?_
      exact k
  · replace k := k.2 c
    refine xw_iconst (v := (-1)) dX10_keep_10 rfl ?_
    exact yw_iret dX10_keep_11 rfl k
theorem bX10_keep_35 {v1 v2 v3 v4 : Int32} {mc ms : Nat} {Q : Int32 → xHp → Prop} (hW : xLay sh R) 
    (k : (((nI 5) ≤ v4 → Ex mX10_keep 66 [.ref 209, .int v1, .int v2, .int v3, .int (nI 0)] [] (sh, I, R) mc ms (xqI Q)) ∧ (¬ (nI 5) ≤ v4 → vp_in v4 5 ∧ vp_in (v3 + v4) 140 ∧ Ex mX10_keep 35 [.ref 209, .int v1, .int v2, .int v3, .int (v4 + nI 1)] [] (sh, (xi I 226 ((v3 + v4).toNatClampNeg) (I 215 v4.toNatClampNeg)), R) mc ms (xqI Q)))) :
    Ex mX10_keep 35 [.ref 209, .int v1, .int v2, .int v3, .int v4] [] (sh, I, R) mc ms (xqI Q) := by
  refine xw_iload dX10_keep_35 rfl ?_
  refine xw_iconst (v := nI 5) dX10_keep_37 rfl ?_
  refine xw_icge (tgt := 63) dX10_keep_38 (by decide) (fun c => ?_) (fun c => ?_)
  · replace k := k.1 c
    refine xw_iconst (v := nI 0) dX10_keep_63 rfl ?_
    refine yw_istore (lv' := [.ref 209, .int v1, .int v2, .int v3, .int (nI 0)]) dX10_keep_64 rfl rfl rfl ?_
    exact k
  · replace k := k.2 c
    refine xw_aload_n dX10_keep_41 rfl rfl ?_
    refine yw_getR (r := 226) dX10_keep_42 fX10_66 rfl (la_209 hW) (lr_209_37 hW) ?_
    refine xw_iload_n dX10_keep_45 rfl rfl ?_
    refine xw_iload dX10_keep_46 rfl ?_
    refine xw_iadd dX10_keep_48 ?_
    refine xw_aload_n dX10_keep_49 rfl rfl ?_
    refine yw_getR (r := 215) dX10_keep_50 fX10_32 rfl (la_209 hW) (lr_209_8 hW) ?_
    refine xw_iload dX10_keep_53 rfl ?_
    obtain ⟨k0, k⟩ := k
    refine yw_iaload (v := I 215 v4.toNatClampNeg) dX10_keep_55 (la_215 hW) k0 rfl ?_
    obtain ⟨k0, k⟩ := k
    refine yw_iastore dX10_keep_56 (la_226 hW) k0 ?_
    refine yw_iinc (lv' := [.ref 209, .int v1, .int v2, .int v3, .int (v4 + nI 1)]) (v := nI 1) dX10_keep_57 rfl rfl rfl rfl rfl ?_
    refine xw_goto (tgt := 35) dX10_keep_60 (by decide) ?_
    exact k
theorem bX10_keep_66 {v1 v2 v3 v4 : Int32} {mc ms : Nat} {Q : Int32 → xHp → Prop} (hW : xLay sh R) 
    (k : (((nI 60) ≤ v4 → vp_in (v3 + (nI 65)) 140 ∧ vp_in (v3 + (nI 66)) 140 ∧ vp_in (v3 + (nI 67)) 140 ∧ (((I 209 3) = 0 → vp_in (v3 + (nI 68)) 140 ∧ CV mX10_copies [.ref 209, .int (nI 0), .int ((nI 3) + v1)] (sh, (xi (xi (xi (xi I 226 ((v3 + (nI 65)).toNatClampNeg) (I 209 10)) 226 ((v3 + (nI 66)).toNatClampNeg) (I 209 11)) 226 ((v3 + (nI 67)).toNatClampNeg) (I 209 12)) 226 ((v3 + (nI 68)).toNatClampNeg) (nI 0)), R) (fun h1 => Ex mX10_keep 165 [.ref 209, .int v1, .int v2, xU, xU] [] h1 mc ms (xqI Q))) ∧ (¬ (I 209 3) = 0 → vp_in (v3 + (nI 68)) 140 ∧ CV mX10_copies [.ref 209, .int (nI 0), .int ((nI 3) + v1)] (sh, (xi (xi (xi (xi I 226 ((v3 + (nI 65)).toNatClampNeg) (I 209 10)) 226 ((v3 + (nI 66)).toNatClampNeg) (I 209 11)) 226 ((v3 + (nI 67)).toNatClampNeg) (I 209 12)) 226 ((v3 + (nI 68)).toNatClampNeg) (nI 1)), R) (fun h1 => Ex mX10_keep 165 [.ref 209, .int v1, .int v2, xU, xU] [] h1 mc ms (xqI Q))))) ∧ (¬ (nI 60) ≤ v4 → vp_in v4 60 ∧ vp_in ((v3 + (nI 5)) + v4) 140 ∧ Ex mX10_keep 66 [.ref 209, .int v1, .int v2, .int v3, .int (v4 + nI 1)] [] (sh, (xi I 226 (((v3 + (nI 5)) + v4).toNatClampNeg) (I 216 v4.toNatClampNeg)), R) mc ms (xqI Q)))) :
    Ex mX10_keep 66 [.ref 209, .int v1, .int v2, .int v3, .int v4] [] (sh, I, R) mc ms (xqI Q) := by
  refine xw_iload dX10_keep_66 rfl ?_
  refine xw_bipush (v := nI 60) dX10_keep_68 (by decide) ?_
  refine xw_icge (tgt := 97) dX10_keep_70 (by decide) (fun c => ?_) (fun c => ?_)
  · replace k := k.1 c
    refine xw_aload_n dX10_keep_97 rfl rfl ?_
    refine yw_getR (r := 226) dX10_keep_98 fX10_66 rfl (la_209 hW) (lr_209_37 hW) ?_
    refine xw_iload_n dX10_keep_101 rfl rfl ?_
    refine xw_bipush (v := nI 65) dX10_keep_102 (by decide) ?_
    refine xw_iadd dX10_keep_104 ?_
    refine xw_aload_n dX10_keep_105 rfl rfl ?_
    refine yw_getI (v := I 209 10) dX10_keep_106 fX10_126 rfl (la_209 hW) rfl ?_
    obtain ⟨k0, k⟩ := k
    refine yw_iastore dX10_keep_109 (la_226 hW) k0 ?_
    refine xw_aload_n dX10_keep_110 rfl rfl ?_
    refine yw_getR (r := 226) dX10_keep_111 fX10_66 rfl (la_209 hW) (lr_209_37 hW) ?_
    refine xw_iload_n dX10_keep_114 rfl rfl ?_
    refine xw_bipush (v := nI 66) dX10_keep_115 (by decide) ?_
    refine xw_iadd dX10_keep_117 ?_
    refine xw_aload_n dX10_keep_118 rfl rfl ?_
    refine yw_getI (v := I 209 11) dX10_keep_119 fX10_129 rfl (la_209 hW) (xi_p (a := 209) (q := 226) (by decide)) ?_
    obtain ⟨k0, k⟩ := k
    refine yw_iastore dX10_keep_122 (la_226 hW) k0 ?_
    refine xw_aload_n dX10_keep_123 rfl rfl ?_
    refine yw_getR (r := 226) dX10_keep_124 fX10_66 rfl (la_209 hW) (lr_209_37 hW) ?_
    refine xw_iload_n dX10_keep_127 rfl rfl ?_
    refine xw_bipush (v := nI 67) dX10_keep_128 (by decide) ?_
    refine xw_iadd dX10_keep_130 ?_
    refine xw_aload_n dX10_keep_131 rfl rfl ?_
    refine yw_getI (v := I 209 12) dX10_keep_132 fX10_132 rfl (la_209 hW) ((xi_p (a := 209) (q := 226) (by decide)).trans (xi_p (a := 209) (q := 226) (by decide))) ?_
    obtain ⟨k0, k⟩ := k
    refine yw_iastore dX10_keep_135 (la_226 hW) k0 ?_
    refine xw_aload_n dX10_keep_136 rfl rfl ?_
    refine yw_getR (r := 226) dX10_keep_137 fX10_66 rfl (la_209 hW) (lr_209_37 hW) ?_
    refine xw_iload_n dX10_keep_140 rfl rfl ?_
    refine xw_bipush (v := nI 68) dX10_keep_141 (by decide) ?_
    refine xw_iadd dX10_keep_143 ?_
    refine xw_aload_n dX10_keep_144 rfl rfl ?_
    refine yw_getI (v := I 209 3) dX10_keep_145 fX10_135 rfl (la_209 hW) ((xi_p (a := 209) (q := 226) (by decide)).trans ((xi_p (a := 209) (q := 226) (by decide)).trans (xi_p (a := 209) (q := 226) (by decide)))) ?_
    refine xw_ifeq (tgt := 155) dX10_keep_148 (by decide) (fun c => ?_) (fun c => ?_)
    · replace k := k.1 c
      refine xw_iconst (v := nI 0) dX10_keep_155 rfl ?_
      obtain ⟨k0, k⟩ := k
      refine yw_iastore dX10_keep_156 (la_226 hW) k0 ?_
      refine xw_aload_n dX10_keep_157 rfl rfl ?_
      refine xw_iconst (v := nI 0) dX10_keep_158 rfl ?_
      refine xw_iconst (v := nI 3) dX10_keep_159 rfl ?_
      refine xw_iload_n dX10_keep_160 rfl rfl ?_
      refine xw_iadd dX10_keep_161 ?_
      refine yw_sub (lv' := [.ref 209, .int v1, .int v2, xU, xU]) ⟨Or.inr rfl, Or.inr rfl, Or.inr rfl, Or.inl rfl, Or.inl rfl, trivial⟩ ?_
      exact yw_cV (As := [.int (nI 0), .int ((nI 3) + v1)]) (b := 209) (st := []) dX10_keep_162 lX10_264 kiX10_copies kvX10_copies rfl rfl rfl (la_209 hW) rfl (Nat.le_of_ble_eq_true rfl) rfl (xk_V k)
    · replace k := k.2 c
      refine xw_iconst (v := nI 1) dX10_keep_151 rfl ?_
      refine xw_goto (tgt := 156) dX10_keep_152 (by decide) ?_
      obtain ⟨k0, k⟩ := k
      refine yw_iastore dX10_keep_156 (la_226 hW) k0 ?_
      refine xw_aload_n dX10_keep_157 rfl rfl ?_
      refine xw_iconst (v := nI 0) dX10_keep_158 rfl ?_
      refine xw_iconst (v := nI 3) dX10_keep_159 rfl ?_
      refine xw_iload_n dX10_keep_160 rfl rfl ?_
      refine xw_iadd dX10_keep_161 ?_
      refine yw_sub (lv' := [.ref 209, .int v1, .int v2, xU, xU]) ⟨Or.inr rfl, Or.inr rfl, Or.inr rfl, Or.inl rfl, Or.inl rfl, trivial⟩ ?_
      exact yw_cV (As := [.int (nI 0), .int ((nI 3) + v1)]) (b := 209) (st := []) dX10_keep_162 lX10_264 kiX10_copies kvX10_copies rfl rfl rfl (la_209 hW) rfl (Nat.le_of_ble_eq_true rfl) rfl (xk_V k)
  · replace k := k.2 c
    refine xw_aload_n dX10_keep_73 rfl rfl ?_
    refine yw_getR (r := 226) dX10_keep_74 fX10_66 rfl (la_209 hW) (lr_209_37 hW) ?_
    refine xw_iload_n dX10_keep_77 rfl rfl ?_
    refine xw_iconst (v := nI 5) dX10_keep_78 rfl ?_
    refine xw_iadd dX10_keep_79 ?_
    refine xw_iload dX10_keep_80 rfl ?_
    refine xw_iadd dX10_keep_82 ?_
    refine xw_aload_n dX10_keep_83 rfl rfl ?_
    refine yw_getR (r := 216) dX10_keep_84 fX10_35 rfl (la_209 hW) (lr_209_9 hW) ?_
    refine xw_iload dX10_keep_87 rfl ?_
    obtain ⟨k0, k⟩ := k
    refine yw_iaload (v := I 216 v4.toNatClampNeg) dX10_keep_89 (la_216 hW) k0 rfl ?_
    obtain ⟨k0, k⟩ := k
    refine yw_iastore dX10_keep_90 (la_226 hW) k0 ?_
    refine yw_iinc (lv' := [.ref 209, .int v1, .int v2, .int v3, .int (v4 + nI 1)]) (v := nI 1) dX10_keep_91 rfl rfl rfl rfl rfl ?_
    refine xw_goto (tgt := 66) dX10_keep_94 (by decide) ?_
    exact k
theorem bX10_keep_165 {v1 v2 : Int32} {mc ms : Nat} {Q : Int32 → xHp → Prop} (hW : xLay sh R) 
    (k : CV mX10_copies [.ref 209, .int (nI 1), .int ((nI 5) + v1)] (sh, I, R) (fun h1 => Ex mX10_keep 173 [.ref 209, .int v1, .int v2, xU, xU] [] h1 mc ms (xqI Q))) :
    Ex mX10_keep 165 [.ref 209, .int v1, .int v2, xU, xU] [] (sh, I, R) mc ms (xqI Q) := by
  refine xw_aload_n dX10_keep_165 rfl rfl ?_
  refine xw_iconst (v := nI 1) dX10_keep_166 rfl ?_
  refine xw_iconst (v := nI 5) dX10_keep_167 rfl ?_
  refine xw_iload_n dX10_keep_168 rfl rfl ?_
  refine xw_iadd dX10_keep_169 ?_
  exact yw_cV (As := [.int (nI 1), .int ((nI 5) + v1)]) (b := 209) (st := []) dX10_keep_170 lX10_264 kiX10_copies kvX10_copies rfl rfl rfl (la_209 hW) rfl (Nat.le_of_ble_eq_true rfl) rfl (xk_V k)
theorem bX10_keep_173 {v1 v2 : Int32} {mc ms : Nat} {Q : Int32 → xHp → Prop} (hW : xLay sh R) 
    (k : vp_in v1 2 ∧ Q v2 (sh, (xi I 225 v1.toNatClampNeg (vp_nar .boolean (nI 1))), R)) :
    Ex mX10_keep 173 [.ref 209, .int v1, .int v2, xU, xU] [] (sh, I, R) mc ms (xqI Q) := by
  refine xw_aload_n dX10_keep_173 rfl rfl ?_
  refine yw_getR (r := 225) dX10_keep_174 fX10_63 rfl (la_209 hW) (lr_209_36 hW) ?_
  refine xw_iload_n dX10_keep_177 rfl rfl ?_
  refine xw_iconst (v := nI 1) dX10_keep_178 rfl ?_
  obtain ⟨k0, k⟩ := k
  refine yw_zastore dX10_keep_179 (la_225 hW) k0 ?_
  refine xw_iload_n dX10_keep_180 rfl rfl ?_
  exact yw_iret dX10_keep_181 rfl k
theorem eX10_keep {v1 : Int32} {h : xHp} {Q : Int32 → xHp → Prop} (k : Ex mX10_keep 0 [.ref 209, .int v1, xU, xU, xU] [] h 0 0 (xqI Q)) : CI mX10_keep [.ref 209, .int v1] h Q := k
theorem bX10_back_0 {v1 : Int32} {mc ms : Nat} {Q : Int32 → xHp → Prop} (hW : xLay sh R) 
    (k : CI mX10_in [.long v1.toInt64, .long (lN 0), .long (lN 1)] (sh, I, R) (fun w h1 => Ex mX10_back 7 [.ref 209, .int v1, xU, xU] (.int w :: []) h1 mc ms (xqI Q))) :
    Ex mX10_back 0 [.ref 209, .int v1, xU, xU] [] (sh, I, R) mc ms (xqI Q) := by
  refine xw_iload_n dX10_back_0 rfl rfl ?_
  refine xw_i2l dX10_back_1 ?_
  refine xw_lconst (v := lN 0) dX10_back_2 rfl ?_
  refine xw_lconst (v := lN 1) dX10_back_3 rfl ?_
  exact yw_cS (As := [.long v1.toInt64, .long (lN 0), .long (lN 1)]) (st := []) dX10_back_4 lX10_181 ksX10_in rfl rfl rfl (Nat.le_of_ble_eq_true rfl) rfl (xk_I k)
theorem bX10_back_7 {v1 s0 : Int32} {mc ms : Nat} {Q : Int32 → xHp → Prop} (hW : xLay sh R) 
    (k : ((¬ s0 = 0 → vp_in v1 2 ∧ ((¬ (I 225 v1.toNatClampNeg) = 0 → Ex mX10_back 31 [.ref 209, .int v1, .int ((nI 70) * v1), .int (nI 0)] [] (sh, I, R) mc ms (xqI Q)) ∧ ((I 225 v1.toNatClampNeg) = 0 → Q (-2) (sh, I, R)))) ∧ (s0 = 0 → Q (-1) (sh, I, R)))) :
    Ex mX10_back 7 [.ref 209, .int v1, xU, xU] [.int s0] (sh, I, R) mc ms (xqI Q) := by
  refine xw_ifne (tgt := 12) dX10_back_7 (by decide) (fun c => ?_) (fun c => ?_)
  · replace k := k.1 c
    refine xw_aload_n dX10_back_12 rfl rfl ?_
    refine yw_getR (r := 225) dX10_back_13 fX10_63 rfl (la_209 hW) (lr_209_36 hW) ?_
    refine xw_iload_n dX10_back_16 rfl rfl ?_
    obtain ⟨k0, k⟩ := k
    refine yw_zaload (v := I 225 v1.toNatClampNeg) dX10_back_17 (la_225 hW) k0 rfl ?_
    refine xw_ifne (tgt := 24) dX10_back_18 (by decide) (fun c => ?_) (fun c => ?_)
    · replace k := k.1 c
      refine xw_bipush (v := nI 70) dX10_back_24 (by decide) ?_
      refine xw_iload_n dX10_back_26 rfl rfl ?_
      refine xw_imul dX10_back_27 ?_
      refine yw_istore_n (lv' := [.ref 209, .int v1, .int ((nI 70) * v1), xU]) dX10_back_28 rfl rfl rfl rfl ?_
      refine xw_iconst (v := nI 0) dX10_back_29 rfl ?_
      refine yw_istore_n (lv' := [.ref 209, .int v1, .int ((nI 70) * v1), .int (nI 0)]) dX10_back_30 rfl rfl rfl rfl ?_
      exact k
    · replace k := k.2 c
      refine xw_bipush (v := (-2)) dX10_back_21 (by decide) ?_
      exact yw_iret dX10_back_23 rfl k
  · replace k := k.2 c
    refine xw_iconst (v := (-1)) dX10_back_10 rfl ?_
    exact yw_iret dX10_back_11 rfl k
theorem bX10_back_31 {v1 v2 v3 : Int32} {mc ms : Nat} {Q : Int32 → xHp → Prop} (hW : xLay sh R) 
    (k : (((nI 5) ≤ v3 → Ex mX10_back 58 [.ref 209, .int v1, .int v2, .int (nI 0)] [] (sh, I, R) mc ms (xqI Q)) ∧ (¬ (nI 5) ≤ v3 → vp_in (v2 + v3) 140 ∧ vp_in v3 5 ∧ Ex mX10_back 31 [.ref 209, .int v1, .int v2, .int (v3 + nI 1)] [] (sh, (xi I 215 v3.toNatClampNeg (I 226 ((v2 + v3).toNatClampNeg))), R) mc ms (xqI Q)))) :
    Ex mX10_back 31 [.ref 209, .int v1, .int v2, .int v3] [] (sh, I, R) mc ms (xqI Q) := by
  refine xw_iload_n dX10_back_31 rfl rfl ?_
  refine xw_iconst (v := nI 5) dX10_back_32 rfl ?_
  refine xw_icge (tgt := 56) dX10_back_33 (by decide) (fun c => ?_) (fun c => ?_)
  · replace k := k.1 c
    refine xw_iconst (v := nI 0) dX10_back_56 rfl ?_
    refine yw_istore_n (lv' := [.ref 209, .int v1, .int v2, .int (nI 0)]) dX10_back_57 rfl rfl rfl rfl ?_
    exact k
  · replace k := k.2 c
    refine xw_aload_n dX10_back_36 rfl rfl ?_
    refine yw_getR (r := 215) dX10_back_37 fX10_32 rfl (la_209 hW) (lr_209_8 hW) ?_
    refine xw_iload_n dX10_back_40 rfl rfl ?_
    refine xw_aload_n dX10_back_41 rfl rfl ?_
    refine yw_getR (r := 226) dX10_back_42 fX10_66 rfl (la_209 hW) (lr_209_37 hW) ?_
    refine xw_iload_n dX10_back_45 rfl rfl ?_
    refine xw_iload_n dX10_back_46 rfl rfl ?_
    refine xw_iadd dX10_back_47 ?_
    obtain ⟨k0, k⟩ := k
    refine yw_iaload (v := I 226 ((v2 + v3).toNatClampNeg)) dX10_back_48 (la_226 hW) k0 rfl ?_
    obtain ⟨k0, k⟩ := k
    refine yw_iastore dX10_back_49 (la_215 hW) k0 ?_
    refine yw_iinc (lv' := [.ref 209, .int v1, .int v2, .int (v3 + nI 1)]) (v := nI 1) dX10_back_50 rfl rfl rfl rfl rfl ?_
    refine xw_goto (tgt := 31) dX10_back_53 (by decide) ?_
    exact k
theorem bX10_back_58 {v1 v2 v3 : Int32} {mc ms : Nat} {Q : Int32 → xHp → Prop} (hW : xLay sh R) 
    (k : (((nI 60) ≤ v3 → vp_in (v2 + (nI 65)) 140 ∧ vp_in (v2 + (nI 66)) 140 ∧ vp_in (v2 + (nI 67)) 140 ∧ vp_in (v2 + (nI 68)) 140 ∧ ((¬ (I 226 ((v2 + (nI 68)).toNatClampNeg)) = (nI 1) → CV mX10_copies [.ref 209, .int ((nI 3) + v1), .int (nI 0)] (sh, (xi (xi (xi (xi I 209 10 (I 226 ((v2 + (nI 65)).toNatClampNeg))) 209 11 (I 226 ((v2 + (nI 66)).toNatClampNeg))) 209 12 (I 226 ((v2 + (nI 67)).toNatClampNeg))) 209 3 (nI 0)), R) (fun h1 => Ex mX10_back 155 [.ref 209, .int v1, xU, xU] [] h1 mc ms (xqI Q))) ∧ ((I 226 ((v2 + (nI 68)).toNatClampNeg)) = (nI 1) → CV mX10_copies [.ref 209, .int ((nI 3) + v1), .int (nI 0)] (sh, (xi (xi (xi (xi I 209 10 (I 226 ((v2 + (nI 65)).toNatClampNeg))) 209 11 (I 226 ((v2 + (nI 66)).toNatClampNeg))) 209 12 (I 226 ((v2 + (nI 67)).toNatClampNeg))) 209 3 (nI 1)), R) (fun h1 => Ex mX10_back 155 [.ref 209, .int v1, xU, xU] [] h1 mc ms (xqI Q))))) ∧ (¬ (nI 60) ≤ v3 → vp_in ((v2 + (nI 5)) + v3) 140 ∧ vp_in v3 60 ∧ Ex mX10_back 58 [.ref 209, .int v1, .int v2, .int (v3 + nI 1)] [] (sh, (xi I 216 v3.toNatClampNeg (I 226 (((v2 + (nI 5)) + v3).toNatClampNeg))), R) mc ms (xqI Q)))) :
    Ex mX10_back 58 [.ref 209, .int v1, .int v2, .int v3] [] (sh, I, R) mc ms (xqI Q) := by
  refine xw_iload_n dX10_back_58 rfl rfl ?_
  refine xw_bipush (v := nI 60) dX10_back_59 (by decide) ?_
  refine xw_icge (tgt := 86) dX10_back_61 (by decide) (fun c => ?_) (fun c => ?_)
  · replace k := k.1 c
    refine xw_aload_n dX10_back_86 rfl rfl ?_
    refine xw_aload_n dX10_back_87 rfl rfl ?_
    refine yw_getR (r := 226) dX10_back_88 fX10_66 rfl (la_209 hW) (lr_209_37 hW) ?_
    refine xw_iload_n dX10_back_91 rfl rfl ?_
    refine xw_bipush (v := nI 65) dX10_back_92 (by decide) ?_
    refine xw_iadd dX10_back_94 ?_
    obtain ⟨k0, k⟩ := k
    refine yw_iaload (v := I 226 ((v2 + (nI 65)).toNatClampNeg)) dX10_back_95 (la_226 hW) k0 rfl ?_
    refine yw_putI dX10_back_96 fX10_126 (fun r h => by cases h; exact Or.inl rfl) rfl (la_209 hW) ?_
    refine xw_aload_n dX10_back_99 rfl rfl ?_
    refine xw_aload_n dX10_back_100 rfl rfl ?_
    refine yw_getR (r := 226) dX10_back_101 fX10_66 rfl (la_209 hW) (lr_209_37 hW) ?_
    refine xw_iload_n dX10_back_104 rfl rfl ?_
    refine xw_bipush (v := nI 66) dX10_back_105 (by decide) ?_
    refine xw_iadd dX10_back_107 ?_
    obtain ⟨k0, k⟩ := k
    refine yw_iaload (v := I 226 ((v2 + (nI 66)).toNatClampNeg)) dX10_back_108 (la_226 hW) k0 (xi_p (a := 226) (q := 209) (by decide)) ?_
    refine yw_putI dX10_back_109 fX10_129 (fun r h => by cases h; exact Or.inl rfl) rfl (la_209 hW) ?_
    refine xw_aload_n dX10_back_112 rfl rfl ?_
    refine xw_aload_n dX10_back_113 rfl rfl ?_
    refine yw_getR (r := 226) dX10_back_114 fX10_66 rfl (la_209 hW) (lr_209_37 hW) ?_
    refine xw_iload_n dX10_back_117 rfl rfl ?_
    refine xw_bipush (v := nI 67) dX10_back_118 (by decide) ?_
    refine xw_iadd dX10_back_120 ?_
    obtain ⟨k0, k⟩ := k
    refine yw_iaload (v := I 226 ((v2 + (nI 67)).toNatClampNeg)) dX10_back_121 (la_226 hW) k0 ((xi_p (a := 226) (q := 209) (by decide)).trans (xi_p (a := 226) (q := 209) (by decide))) ?_
    refine yw_putI dX10_back_122 fX10_132 (fun r h => by cases h; exact Or.inl rfl) rfl (la_209 hW) ?_
    refine xw_aload_n dX10_back_125 rfl rfl ?_
    refine xw_aload_n dX10_back_126 rfl rfl ?_
    refine yw_getR (r := 226) dX10_back_127 fX10_66 rfl (la_209 hW) (lr_209_37 hW) ?_
    refine xw_iload_n dX10_back_130 rfl rfl ?_
    refine xw_bipush (v := nI 68) dX10_back_131 (by decide) ?_
    refine xw_iadd dX10_back_133 ?_
    obtain ⟨k0, k⟩ := k
    refine yw_iaload (v := I 226 ((v2 + (nI 68)).toNatClampNeg)) dX10_back_134 (la_226 hW) k0 ((xi_p (a := 226) (q := 209) (by decide)).trans ((xi_p (a := 226) (q := 209) (by decide)).trans (xi_p (a := 226) (q := 209) (by decide)))) ?_
    refine xw_iconst (v := nI 1) dX10_back_135 rfl ?_
    refine xw_icne (tgt := 143) dX10_back_136 (by decide) (fun c => ?_) (fun c => ?_)
    · replace k := k.1 c
      refine xw_iconst (v := nI 0) dX10_back_143 rfl ?_
      refine yw_putZ dX10_back_144 fX10_135 (fun r h => by cases h; exact Or.inl rfl) rfl (Or.inl rfl) (la_209 hW) ?_
      refine xw_aload_n dX10_back_147 rfl rfl ?_
      refine xw_iconst (v := nI 3) dX10_back_148 rfl ?_
      refine xw_iload_n dX10_back_149 rfl rfl ?_
      refine xw_iadd dX10_back_150 ?_
      refine xw_iconst (v := nI 0) dX10_back_151 rfl ?_
      refine yw_sub (lv' := [.ref 209, .int v1, xU, xU]) ⟨Or.inr rfl, Or.inr rfl, Or.inl rfl, Or.inl rfl, trivial⟩ ?_
      exact yw_cV (As := [.int ((nI 3) + v1), .int (nI 0)]) (b := 209) (st := []) dX10_back_152 lX10_264 kiX10_copies kvX10_copies rfl rfl rfl (la_209 hW) rfl (Nat.le_of_ble_eq_true rfl) rfl (xk_V k)
    · replace k := k.2 c
      refine xw_iconst (v := nI 1) dX10_back_139 rfl ?_
      refine xw_goto (tgt := 144) dX10_back_140 (by decide) ?_
      refine yw_putZ dX10_back_144 fX10_135 (fun r h => by cases h; exact Or.inl rfl) rfl (Or.inr rfl) (la_209 hW) ?_
      refine xw_aload_n dX10_back_147 rfl rfl ?_
      refine xw_iconst (v := nI 3) dX10_back_148 rfl ?_
      refine xw_iload_n dX10_back_149 rfl rfl ?_
      refine xw_iadd dX10_back_150 ?_
      refine xw_iconst (v := nI 0) dX10_back_151 rfl ?_
      refine yw_sub (lv' := [.ref 209, .int v1, xU, xU]) ⟨Or.inr rfl, Or.inr rfl, Or.inl rfl, Or.inl rfl, trivial⟩ ?_
      exact yw_cV (As := [.int ((nI 3) + v1), .int (nI 0)]) (b := 209) (st := []) dX10_back_152 lX10_264 kiX10_copies kvX10_copies rfl rfl rfl (la_209 hW) rfl (Nat.le_of_ble_eq_true rfl) rfl (xk_V k)
  · replace k := k.2 c
    refine xw_aload_n dX10_back_64 rfl rfl ?_
    refine yw_getR (r := 216) dX10_back_65 fX10_35 rfl (la_209 hW) (lr_209_9 hW) ?_
    refine xw_iload_n dX10_back_68 rfl rfl ?_
    refine xw_aload_n dX10_back_69 rfl rfl ?_
    refine yw_getR (r := 226) dX10_back_70 fX10_66 rfl (la_209 hW) (lr_209_37 hW) ?_
    refine xw_iload_n dX10_back_73 rfl rfl ?_
    refine xw_iconst (v := nI 5) dX10_back_74 rfl ?_
    refine xw_iadd dX10_back_75 ?_
    refine xw_iload_n dX10_back_76 rfl rfl ?_
    refine xw_iadd dX10_back_77 ?_
    obtain ⟨k0, k⟩ := k
    refine yw_iaload (v := I 226 (((v2 + (nI 5)) + v3).toNatClampNeg)) dX10_back_78 (la_226 hW) k0 rfl ?_
    obtain ⟨k0, k⟩ := k
    refine yw_iastore dX10_back_79 (la_216 hW) k0 ?_
    refine yw_iinc (lv' := [.ref 209, .int v1, .int v2, .int (v3 + nI 1)]) (v := nI 1) dX10_back_80 rfl rfl rfl rfl rfl ?_
    refine xw_goto (tgt := 58) dX10_back_83 (by decide) ?_
    exact k
theorem bX10_back_155 {v1 : Int32} {mc ms : Nat} {Q : Int32 → xHp → Prop} (hW : xLay sh R) 
    (k : CV mX10_copies [.ref 209, .int ((nI 5) + v1), .int (nI 1)] (sh, I, R) (fun h1 => Ex mX10_back 163 [.ref 209, xU, xU, xU] [] h1 mc ms (xqI Q))) :
    Ex mX10_back 155 [.ref 209, .int v1, xU, xU] [] (sh, I, R) mc ms (xqI Q) := by
  refine xw_aload_n dX10_back_155 rfl rfl ?_
  refine xw_iconst (v := nI 5) dX10_back_156 rfl ?_
  refine xw_iload_n dX10_back_157 rfl rfl ?_
  refine xw_iadd dX10_back_158 ?_
  refine xw_iconst (v := nI 1) dX10_back_159 rfl ?_
  refine yw_sub (lv' := [.ref 209, xU, xU, xU]) ⟨Or.inr rfl, Or.inl rfl, Or.inl rfl, Or.inl rfl, trivial⟩ ?_
  exact yw_cV (As := [.int ((nI 5) + v1), .int (nI 1)]) (b := 209) (st := []) dX10_back_160 lX10_264 kiX10_copies kvX10_copies rfl rfl rfl (la_209 hW) rfl (Nat.le_of_ble_eq_true rfl) rfl (xk_V k)
theorem bX10_back_163 {mc ms : Nat} {Q : Int32 → xHp → Prop} (hW : xLay sh R) 
    (k : CI mX10_many [.ref 209, .int (nI 0)] (sh, I, R) (fun w h1 => Ex mX10_back 168 [xU, xU, xU, xU] (.int w :: []) h1 mc ms (xqI Q))) :
    Ex mX10_back 163 [.ref 209, xU, xU, xU] [] (sh, I, R) mc ms (xqI Q) := by
  refine xw_aload_n dX10_back_163 rfl rfl ?_
  refine xw_iconst (v := nI 0) dX10_back_164 rfl ?_
  refine yw_sub (lv' := [xU, xU, xU, xU]) ⟨Or.inl rfl, Or.inl rfl, Or.inl rfl, Or.inl rfl, trivial⟩ ?_
  exact yw_cV (As := [.int (nI 0)]) (b := 209) (st := []) dX10_back_165 lX10_95 kiX10_many kvX10_many rfl rfl rfl (la_209 hW) rfl (Nat.le_of_ble_eq_true rfl) rfl (xk_I k)
theorem bX10_back_168 {s0 : Int32} {mc ms : Nat} {Q : Int32 → xHp → Prop} (hW : xLay sh R) 
    (k : Q s0 (sh, I, R)) :
    Ex mX10_back 168 [xU, xU, xU, xU] [.int s0] (sh, I, R) mc ms (xqI Q) := by
  exact yw_iret dX10_back_168 rfl k
theorem eX10_back {v1 : Int32} {h : xHp} {Q : Int32 → xHp → Prop} (k : Ex mX10_back 0 [.ref 209, .int v1, xU, xU] [] h 0 0 (xqI Q)) : CI mX10_back [.ref 209, .int v1] h Q := k
theorem bX10_differ_0 {v1 : Int32} {mc ms : Nat} {Q : Int32 → xHp → Prop} (hW : xLay sh R) 
    (k : CI mX10_in [.long v1.toInt64, .long (lN 0), .long (lN 1)] (sh, I, R) (fun w h1 => Ex mX10_differ 7 [.ref 209, .int v1] (.int w :: []) h1 mc ms (xqI Q))) :
    Ex mX10_differ 0 [.ref 209, .int v1] [] (sh, I, R) mc ms (xqI Q) := by
  refine xw_iload_n dX10_differ_0 rfl rfl ?_
  refine xw_i2l dX10_differ_1 ?_
  refine xw_lconst (v := lN 0) dX10_differ_2 rfl ?_
  refine xw_lconst (v := lN 1) dX10_differ_3 rfl ?_
  exact yw_cS (As := [.long v1.toInt64, .long (lN 0), .long (lN 1)]) (st := []) dX10_differ_4 lX10_181 ksX10_in rfl rfl rfl (Nat.le_of_ble_eq_true rfl) rfl (xk_I k)
theorem bX10_differ_7 {v1 s0 : Int32} {mc ms : Nat} {Q : Int32 → xHp → Prop} (hW : xLay sh R) 
    (k : ((¬ s0 = 0 → vp_in v1 2 ∧ (((I 225 v1.toNatClampNeg) = 0 → Q (-2) (sh, I, R)) ∧ (¬ (I 225 v1.toNatClampNeg) = 0 → CI mX10_unlike [.ref 209, .int (nI 0), .int ((nI 3) + v1)] (sh, I, R) (fun w h1 => Ex mX10_differ 29 [xU, xU] (.int w :: []) h1 mc ms (xqI Q))))) ∧ (s0 = 0 → Q (-1) (sh, I, R)))) :
    Ex mX10_differ 7 [.ref 209, .int v1] [.int s0] (sh, I, R) mc ms (xqI Q) := by
  refine xw_ifne (tgt := 12) dX10_differ_7 (by decide) (fun c => ?_) (fun c => ?_)
  · replace k := k.1 c
    refine xw_aload_n dX10_differ_12 rfl rfl ?_
    refine yw_getR (r := 225) dX10_differ_13 fX10_63 rfl (la_209 hW) (lr_209_36 hW) ?_
    refine xw_iload_n dX10_differ_16 rfl rfl ?_
    obtain ⟨k0, k⟩ := k
    refine yw_zaload (v := I 225 v1.toNatClampNeg) dX10_differ_17 (la_225 hW) k0 rfl ?_
    refine xw_ifeq (tgt := 32) dX10_differ_18 (by decide) (fun c => ?_) (fun c => ?_)
    · replace k := k.1 c
      refine xw_bipush (v := (-2)) dX10_differ_32 (by decide) ?_
      exact yw_iret dX10_differ_34 rfl k
    · replace k := k.2 c
      refine xw_aload_n dX10_differ_21 rfl rfl ?_
      refine xw_iconst (v := nI 0) dX10_differ_22 rfl ?_
      refine xw_iconst (v := nI 3) dX10_differ_23 rfl ?_
      refine xw_iload_n dX10_differ_24 rfl rfl ?_
      refine xw_iadd dX10_differ_25 ?_
      refine yw_sub (lv' := [xU, xU]) ⟨Or.inl rfl, Or.inl rfl, trivial⟩ ?_
      exact yw_cV (As := [.int (nI 0), .int ((nI 3) + v1)]) (b := 209) (st := []) dX10_differ_26 lX10_345 kiX10_unlike kvX10_unlike rfl rfl rfl (la_209 hW) rfl (Nat.le_of_ble_eq_true rfl) rfl (xk_I k)
  · replace k := k.2 c
    refine xw_iconst (v := (-1)) dX10_differ_10 rfl ?_
    exact yw_iret dX10_differ_11 rfl k
theorem bX10_differ_29 {s0 : Int32} {mc ms : Nat} {Q : Int32 → xHp → Prop} (hW : xLay sh R) 
    (k : Q s0 (sh, I, R)) :
    Ex mX10_differ 29 [xU, xU] [.int s0] (sh, I, R) mc ms (xqI Q) := by
  refine xw_goto (tgt := 34) dX10_differ_29 (by decide) ?_
  exact yw_iret dX10_differ_34 rfl k
theorem eX10_differ {v1 : Int32} {h : xHp} {Q : Int32 → xHp → Prop} (k : Ex mX10_differ 0 [.ref 209, .int v1] [] h 0 0 (xqI Q)) : CI mX10_differ [.ref 209, .int v1] h Q := k
theorem bX10_isShelf_0 {v0 : Int32} {mc ms : Nat} {Q : Int32 → xHp → Prop} (hW : xLay sh R) 
    (k : CI mX10_in [.long v0.toInt64, .long (lN 0), .long (2 : Int64)] (sh, I, R) (fun w h1 => Ex mX10_isShelf 9 [xU] (.int w :: []) h1 mc ms (xqI Q))) :
    Ex mX10_isShelf 0 [.int v0] [] (sh, I, R) mc ms (xqI Q) := by
  refine xw_iload_n dX10_isShelf_0 rfl rfl ?_
  refine xw_i2l dX10_isShelf_1 ?_
  refine xw_lconst (v := lN 0) dX10_isShelf_2 rfl ?_
  refine xw_ldcL dX10_isShelf_3 cX10_227 ?_
  refine yw_sub (lv' := [xU]) ⟨Or.inl rfl, trivial⟩ ?_
  exact yw_cS (As := [.long v0.toInt64, .long (lN 0), .long (2 : Int64)]) (st := []) dX10_isShelf_6 lX10_181 ksX10_in rfl rfl rfl (Nat.le_of_ble_eq_true rfl) rfl (xk_I k)
theorem bX10_isShelf_9 {s0 : Int32} {mc ms : Nat} {Q : Int32 → xHp → Prop} (hW : xLay sh R) 
    (k : (s0 = 0 ∨ s0 = 1) ∧ Q s0 (sh, I, R)) :
    Ex mX10_isShelf 9 [xU] [.int s0] (sh, I, R) mc ms (xqI Q) := by
  exact yw_zret dX10_isShelf_9 rfl (narrow_z _ k.1) k.2
theorem eX10_isShelf {v0 : Int32} {h : xHp} {Q : Int32 → xHp → Prop} (k : Ex mX10_isShelf 0 [.int v0] [] h 0 0 (xqI Q)) : CI mX10_isShelf [.int v0] h Q := k
theorem bX10_shelf_0 {v1 v2 v3 : Int32} {mc ms : Nat} {Q : Int32 → xHp → Prop} (hW : xLay sh R) 
    (k : CI mX10_isShelf [.int v1] (sh, I, R) (fun w h1 => Ex mX10_shelf 4 [.ref 209, .int v1, .int v2, .int v3, xU] (.int w :: []) h1 mc ms (xqI Q))) :
    Ex mX10_shelf 0 [.ref 209, .int v1, .int v2, .int v3, xU] [] (sh, I, R) mc ms (xqI Q) := by
  refine xw_iload_n dX10_shelf_0 rfl rfl ?_
  exact yw_cS (As := [.int v1]) (st := []) dX10_shelf_1 lX10_370 ksX10_isShelf rfl rfl rfl (Nat.le_of_ble_eq_true rfl) rfl (xk_I k)
theorem bX10_shelf_4 {v1 v2 v3 s0 : Int32} {mc ms : Nat} {Q : Int32 → xHp → Prop} (hW : xLay sh R) 
    (k : ((s0 = 0 → Q (-1) (sh, I, R)) ∧ (¬ s0 = 0 → CI mX10_in [.long v2.toInt64, .long (lN 0), .long (2 : Int64)] (sh, I, R) (fun w h1 => Ex mX10_shelf 16 [.ref 209, .int v1, .int v2, .int v3, xU] (.int w :: []) h1 mc ms (xqI Q))))) :
    Ex mX10_shelf 4 [.ref 209, .int v1, .int v2, .int v3, xU] [.int s0] (sh, I, R) mc ms (xqI Q) := by
  refine xw_ifeq (tgt := 25) dX10_shelf_4 (by decide) (fun c => ?_) (fun c => ?_)
  · replace k := k.1 c
    refine xw_iconst (v := (-1)) dX10_shelf_25 rfl ?_
    exact yw_iret dX10_shelf_26 rfl k
  · replace k := k.2 c
    refine xw_iload_n dX10_shelf_7 rfl rfl ?_
    refine xw_i2l dX10_shelf_8 ?_
    refine xw_lconst (v := lN 0) dX10_shelf_9 rfl ?_
    refine xw_ldcL dX10_shelf_10 cX10_227 ?_
    exact yw_cS (As := [.long v2.toInt64, .long (lN 0), .long (2 : Int64)]) (st := []) dX10_shelf_13 lX10_181 ksX10_in rfl rfl rfl (Nat.le_of_ble_eq_true rfl) rfl (xk_I k)
theorem bX10_shelf_16 {v1 v2 v3 s0 : Int32} {mc ms : Nat} {Q : Int32 → xHp → Prop} (hW : xLay sh R) 
    (k : ((s0 = 0 → Q (-1) (sh, I, R)) ∧ (¬ s0 = 0 → ((v3 ≤ (nI 8) → ((0 ≤ v3 → vp_in v1 3 ∧ vp_in v1 3 ∧ Ex mX10_shelf 51 [.ref 209, .int v1, xU, xU, .int (nI 0)] [] (sh, (xi (xi I 227 v1.toNatClampNeg v2) 228 v1.toNatClampNeg v3), R) mc ms (xqI Q)) ∧ (¬ 0 ≤ v3 → Q (-16) (sh, I, R)))) ∧ (¬ v3 ≤ (nI 8) → Q (-1) (sh, I, R)))))) :
    Ex mX10_shelf 16 [.ref 209, .int v1, .int v2, .int v3, xU] [.int s0] (sh, I, R) mc ms (xqI Q) := by
  refine xw_ifeq (tgt := 25) dX10_shelf_16 (by decide) (fun c => ?_) (fun c => ?_)
  · replace k := k.1 c
    refine xw_iconst (v := (-1)) dX10_shelf_25 rfl ?_
    exact yw_iret dX10_shelf_26 rfl k
  · replace k := k.2 c
    refine xw_iload_n dX10_shelf_19 rfl rfl ?_
    refine xw_bipush (v := nI 8) dX10_shelf_20 (by decide) ?_
    refine xw_icle (tgt := 27) dX10_shelf_22 (by decide) (fun c => ?_) (fun c => ?_)
    · replace k := k.1 c
      refine xw_iload_n dX10_shelf_27 rfl rfl ?_
      refine xw_ifge (tgt := 34) dX10_shelf_28 (by decide) (fun c => ?_) (fun c => ?_)
      · replace k := k.1 c
        refine xw_aload_n dX10_shelf_34 rfl rfl ?_
        refine yw_getR (r := 227) dX10_shelf_35 fX10_69 rfl (la_209 hW) (lr_209_38 hW) ?_
        refine xw_iload_n dX10_shelf_38 rfl rfl ?_
        refine xw_iload_n dX10_shelf_39 rfl rfl ?_
        obtain ⟨k0, k⟩ := k
        refine yw_iastore dX10_shelf_40 (la_227 hW) k0 ?_
        refine xw_aload_n dX10_shelf_41 rfl rfl ?_
        refine yw_getR (r := 228) dX10_shelf_42 fX10_72 rfl (la_209 hW) (lr_209_39 hW) ?_
        refine xw_iload_n dX10_shelf_45 rfl rfl ?_
        refine xw_iload_n dX10_shelf_46 rfl rfl ?_
        obtain ⟨k0, k⟩ := k
        refine yw_iastore dX10_shelf_47 (la_228 hW) k0 ?_
        refine xw_iconst (v := nI 0) dX10_shelf_48 rfl ?_
        refine yw_istore (lv' := [.ref 209, .int v1, .int v2, .int v3, .int (nI 0)]) dX10_shelf_49 rfl rfl rfl ?_
        exact yw_sub (lv' := [.ref 209, .int v1, xU, xU, .int (nI 0)]) ⟨Or.inr rfl, Or.inr rfl, Or.inl rfl, Or.inl rfl, Or.inr rfl, trivial⟩ k
      · replace k := k.2 c
        refine xw_bipush (v := (-16)) dX10_shelf_31 (by decide) ?_
        exact yw_iret dX10_shelf_33 rfl k
    · replace k := k.2 c
      refine xw_iconst (v := (-1)) dX10_shelf_25 rfl ?_
      exact yw_iret dX10_shelf_26 rfl k
theorem bX10_shelf_51 {v1 v4 : Int32} {mc ms : Nat} {Q : Int32 → xHp → Prop} (hW : xLay sh R) 
    (k : (((nI 8) ≤ v4 → Q (nI 1) (sh, I, R)) ∧ (¬ (nI 8) ≤ v4 → vp_in (((nI 8) * v1) + v4) 24 ∧ Ex mX10_shelf 51 [.ref 209, .int v1, xU, xU, .int (v4 + nI 1)] [] (sh, (xi I 229 ((((nI 8) * v1) + v4).toNatClampNeg) (-4)), R) mc ms (xqI Q)))) :
    Ex mX10_shelf 51 [.ref 209, .int v1, xU, xU, .int v4] [] (sh, I, R) mc ms (xqI Q) := by
  refine xw_iload dX10_shelf_51 rfl ?_
  refine xw_bipush (v := nI 8) dX10_shelf_53 (by decide) ?_
  refine xw_icge (tgt := 78) dX10_shelf_55 (by decide) (fun c => ?_) (fun c => ?_)
  · replace k := k.1 c
    refine xw_iconst (v := nI 1) dX10_shelf_78 rfl ?_
    exact yw_iret dX10_shelf_79 rfl k
  · replace k := k.2 c
    refine xw_aload_n dX10_shelf_58 rfl rfl ?_
    refine yw_getR (r := 229) dX10_shelf_59 fX10_75 rfl (la_209 hW) (lr_209_40 hW) ?_
    refine xw_bipush (v := nI 8) dX10_shelf_62 (by decide) ?_
    refine xw_iload_n dX10_shelf_64 rfl rfl ?_
    refine xw_imul dX10_shelf_65 ?_
    refine xw_iload dX10_shelf_66 rfl ?_
    refine xw_iadd dX10_shelf_68 ?_
    refine xw_bipush (v := (-4)) dX10_shelf_69 (by decide) ?_
    obtain ⟨k0, k⟩ := k
    refine yw_iastore dX10_shelf_71 (la_229 hW) k0 ?_
    refine yw_iinc (lv' := [.ref 209, .int v1, xU, xU, .int (v4 + nI 1)]) (v := nI 1) dX10_shelf_72 rfl rfl rfl rfl rfl ?_
    refine xw_goto (tgt := 51) dX10_shelf_75 (by decide) ?_
    exact k
theorem eX10_shelf {v1 : Int32} {v2 : Int32} {v3 : Int32} {h : xHp} {Q : Int32 → xHp → Prop} (k : Ex mX10_shelf 0 [.ref 209, .int v1, .int v2, .int v3, xU] [] h 0 0 (xqI Q)) : CI mX10_shelf [.ref 209, .int v1, .int v2, .int v3] h Q := k
theorem bX10_cellFault_0 {v1 v2 v3 : Int32} {mc ms : Nat} {Q : Int32 → xHp → Prop} (hW : xLay sh R) 
    (k : vp_in v1 3 ∧ ((¬ (I 227 v1.toNatClampNeg) = (-4) → ((v2 = (nI 2) → vp_in v1 3 ∧ CI mX10_in [.long v3.toInt64, .long (lN 0), .long (((I 228 v1.toNatClampNeg) - (nI 1)).toInt64)] (sh, I, R) (fun w h1 => Ex mX10_cellFault 45 [xU, xU, xU, xU] (.int w :: []) h1 mc ms (xqI Q))) ∧ (¬ v2 = (nI 2) → vp_in v1 3 ∧ ((v2 = (I 227 v1.toNatClampNeg) → vp_in v1 3 ∧ CI mX10_in [.long v3.toInt64, .long (lN 0), .long (((I 228 v1.toNatClampNeg) - (nI 1)).toInt64)] (sh, I, R) (fun w h1 => Ex mX10_cellFault 45 [xU, xU, xU, xU] (.int w :: []) h1 mc ms (xqI Q))) ∧ (¬ v2 = (I 227 v1.toNatClampNeg) → Q (nI 2) (sh, I, R)))))) ∧ ((I 227 v1.toNatClampNeg) = (-4) → Q (nI 1) (sh, I, R)))) :
    Ex mX10_cellFault 0 [.ref 209, .int v1, .int v2, .int v3] [] (sh, I, R) mc ms (xqI Q) := by
  refine xw_aload_n dX10_cellFault_0 rfl rfl ?_
  refine yw_getR (r := 227) dX10_cellFault_1 fX10_69 rfl (la_209 hW) (lr_209_38 hW) ?_
  refine xw_iload_n dX10_cellFault_4 rfl rfl ?_
  obtain ⟨k0, k⟩ := k
  refine yw_iaload (v := I 227 v1.toNatClampNeg) dX10_cellFault_5 (la_227 hW) k0 rfl ?_
  refine xw_bipush (v := (-4)) dX10_cellFault_6 (by decide) ?_
  refine xw_icne (tgt := 13) dX10_cellFault_8 (by decide) (fun c => ?_) (fun c => ?_)
  · replace k := k.1 c
    refine xw_iload_n dX10_cellFault_13 rfl rfl ?_
    refine xw_iconst (v := nI 2) dX10_cellFault_14 rfl ?_
    refine xw_iceq (tgt := 30) dX10_cellFault_15 (by decide) (fun c => ?_) (fun c => ?_)
    · replace k := k.1 c
      refine xw_iload_n dX10_cellFault_30 rfl rfl ?_
      refine xw_i2l dX10_cellFault_31 ?_
      refine xw_lconst (v := lN 0) dX10_cellFault_32 rfl ?_
      refine xw_aload_n dX10_cellFault_33 rfl rfl ?_
      refine yw_getR (r := 228) dX10_cellFault_34 fX10_72 rfl (la_209 hW) (lr_209_39 hW) ?_
      refine xw_iload_n dX10_cellFault_37 rfl rfl ?_
      obtain ⟨k0, k⟩ := k
      refine yw_iaload (v := I 228 v1.toNatClampNeg) dX10_cellFault_38 (la_228 hW) k0 rfl ?_
      refine xw_iconst (v := nI 1) dX10_cellFault_39 rfl ?_
      refine xw_isub dX10_cellFault_40 ?_
      refine xw_i2l dX10_cellFault_41 ?_
      refine yw_sub (lv' := [xU, xU, xU, xU]) ⟨Or.inl rfl, Or.inl rfl, Or.inl rfl, Or.inl rfl, trivial⟩ ?_
      exact yw_cS (As := [.long v3.toInt64, .long (lN 0), .long (((I 228 v1.toNatClampNeg) - (nI 1)).toInt64)]) (st := []) dX10_cellFault_42 lX10_181 ksX10_in rfl rfl rfl (Nat.le_of_ble_eq_true rfl) rfl (xk_I k)
    · replace k := k.2 c
      refine xw_iload_n dX10_cellFault_18 rfl rfl ?_
      refine xw_aload_n dX10_cellFault_19 rfl rfl ?_
      refine yw_getR (r := 227) dX10_cellFault_20 fX10_69 rfl (la_209 hW) (lr_209_38 hW) ?_
      refine xw_iload_n dX10_cellFault_23 rfl rfl ?_
      obtain ⟨k0, k⟩ := k
      refine yw_iaload (v := I 227 v1.toNatClampNeg) dX10_cellFault_24 (la_227 hW) k0 rfl ?_
      refine xw_iceq (tgt := 30) dX10_cellFault_25 (by decide) (fun c => ?_) (fun c => ?_)
      · replace k := k.1 c
        refine xw_iload_n dX10_cellFault_30 rfl rfl ?_
        refine xw_i2l dX10_cellFault_31 ?_
        refine xw_lconst (v := lN 0) dX10_cellFault_32 rfl ?_
        refine xw_aload_n dX10_cellFault_33 rfl rfl ?_
        refine yw_getR (r := 228) dX10_cellFault_34 fX10_72 rfl (la_209 hW) (lr_209_39 hW) ?_
        refine xw_iload_n dX10_cellFault_37 rfl rfl ?_
        obtain ⟨k0, k⟩ := k
        refine yw_iaload (v := I 228 v1.toNatClampNeg) dX10_cellFault_38 (la_228 hW) k0 rfl ?_
        refine xw_iconst (v := nI 1) dX10_cellFault_39 rfl ?_
        refine xw_isub dX10_cellFault_40 ?_
        refine xw_i2l dX10_cellFault_41 ?_
        refine yw_sub (lv' := [xU, xU, xU, xU]) ⟨Or.inl rfl, Or.inl rfl, Or.inl rfl, Or.inl rfl, trivial⟩ ?_
        exact yw_cS (As := [.long v3.toInt64, .long (lN 0), .long (((I 228 v1.toNatClampNeg) - (nI 1)).toInt64)]) (st := []) dX10_cellFault_42 lX10_181 ksX10_in rfl rfl rfl (Nat.le_of_ble_eq_true rfl) rfl (xk_I k)
      · replace k := k.2 c
        refine xw_iconst (v := nI 2) dX10_cellFault_28 rfl ?_
        exact yw_iret dX10_cellFault_29 rfl k
  · replace k := k.2 c
    refine xw_iconst (v := nI 1) dX10_cellFault_11 rfl ?_
    exact yw_iret dX10_cellFault_12 rfl k
theorem bX10_cellFault_45 {s0 : Int32} {mc ms : Nat} {Q : Int32 → xHp → Prop} (hW : xLay sh R) 
    (k : ((s0 = 0 → Q (nI 3) (sh, I, R)) ∧ (¬ s0 = 0 → Q (nI 0) (sh, I, R)))) :
    Ex mX10_cellFault 45 [xU, xU, xU, xU] [.int s0] (sh, I, R) mc ms (xqI Q) := by
  refine xw_ifeq (tgt := 52) dX10_cellFault_45 (by decide) (fun c => ?_) (fun c => ?_)
  · replace k := k.1 c
    refine xw_iconst (v := nI 3) dX10_cellFault_52 rfl ?_
    exact yw_iret dX10_cellFault_53 rfl k
  · replace k := k.2 c
    refine xw_iconst (v := nI 0) dX10_cellFault_48 rfl ?_
    refine xw_goto (tgt := 53) dX10_cellFault_49 (by decide) ?_
    exact yw_iret dX10_cellFault_53 rfl k
theorem eX10_cellFault {v1 : Int32} {v2 : Int32} {v3 : Int32} {h : xHp} {Q : Int32 → xHp → Prop} (k : Ex mX10_cellFault 0 [.ref 209, .int v1, .int v2, .int v3] [] h 0 0 (xqI Q)) : CI mX10_cellFault [.ref 209, .int v1, .int v2, .int v3] h Q := k
theorem bX10_lay_0 {v1 v2 v3 : Int32} {mc ms : Nat} {Q : Int32 → xHp → Prop} (hW : xLay sh R) 
    (k : CI mX10_isShelf [.int v1] (sh, I, R) (fun w h1 => Ex mX10_lay 4 [.ref 209, .int v1, .int v2, .int v3, xU, xU, xU] (.int w :: []) h1 mc ms (xqI Q))) :
    Ex mX10_lay 0 [.ref 209, .int v1, .int v2, .int v3, xU, xU, xU] [] (sh, I, R) mc ms (xqI Q) := by
  refine xw_iload_n dX10_lay_0 rfl rfl ?_
  exact yw_cS (As := [.int v1]) (st := []) dX10_lay_1 lX10_370 ksX10_isShelf rfl rfl rfl (Nat.le_of_ble_eq_true rfl) rfl (xk_I k)
theorem bX10_lay_4 {v1 v2 v3 s0 : Int32} {mc ms : Nat} {Q : Int32 → xHp → Prop} (hW : xLay sh R) 
    (k : ((s0 = 0 → Q (-1) (sh, I, R)) ∧ (¬ s0 = 0 → CI mX10_wrong [.ref 209, .int v3] (sh, I, R) (fun w h1 => Ex mX10_lay 12 [.ref 209, .int v1, .int v2, .int v3, xU, xU, xU] (.int w :: []) h1 mc ms (xqI Q))))) :
    Ex mX10_lay 4 [.ref 209, .int v1, .int v2, .int v3, xU, xU, xU] [.int s0] (sh, I, R) mc ms (xqI Q) := by
  refine xw_ifeq (tgt := 15) dX10_lay_4 (by decide) (fun c => ?_) (fun c => ?_)
  · replace k := k.1 c
    refine xw_iconst (v := (-1)) dX10_lay_15 rfl ?_
    refine yw_istore (lv' := [.ref 209, .int v1, .int v2, .int v3, .int (-1), xU, xU]) dX10_lay_16 rfl rfl rfl ?_
    refine xw_iload dX10_lay_18 rfl ?_
    refine xw_ifeq (tgt := 26) dX10_lay_20 (by decide) (fun c => absurd c (by decide)) (fun _ => ?_)
    refine xw_iload dX10_lay_23 rfl ?_
    exact yw_iret dX10_lay_25 rfl k
  · replace k := k.2 c
    refine xw_aload_n dX10_lay_7 rfl rfl ?_
    refine xw_iload_n dX10_lay_8 rfl rfl ?_
    exact yw_cV (As := [.int v3]) (b := 209) (st := []) dX10_lay_9 lX10_288 kiX10_wrong kvX10_wrong rfl rfl rfl (la_209 hW) rfl (Nat.le_of_ble_eq_true rfl) rfl (xk_I k)
theorem bX10_lay_12 {v1 v2 v3 s0 : Int32} {mc ms : Nat} {Q : Int32 → xHp → Prop} (hW : xLay sh R) 
    (k : ((s0 = 0 → CI mX10_cellFault [.ref 209, .int v1, .int (nI 2), .int v2] (sh, I, R) (fun w h1 => Ex mX10_lay 33 [.ref 209, .int v1, .int v2, .int v3, xU, xU, xU] (.int w :: []) h1 mc ms (xqI Q))) ∧ (¬ s0 = 0 → Q s0 (sh, I, R)))) :
    Ex mX10_lay 12 [.ref 209, .int v1, .int v2, .int v3, xU, xU, xU] [.int s0] (sh, I, R) mc ms (xqI Q) := by
  refine xw_goto (tgt := 16) dX10_lay_12 (by decide) ?_
  refine yw_istore (lv' := [.ref 209, .int v1, .int v2, .int v3, .int s0, xU, xU]) dX10_lay_16 rfl rfl rfl ?_
  refine xw_iload dX10_lay_18 rfl ?_
  refine xw_ifeq (tgt := 26) dX10_lay_20 (by decide) (fun c => ?_) (fun c => ?_)
  · replace k := k.1 c
    refine xw_aload_n dX10_lay_26 rfl rfl ?_
    refine xw_iload_n dX10_lay_27 rfl rfl ?_
    refine xw_iconst (v := nI 2) dX10_lay_28 rfl ?_
    refine xw_iload_n dX10_lay_29 rfl rfl ?_
    refine yw_sub (lv' := [.ref 209, .int v1, .int v2, .int v3, xU, xU, xU]) ⟨Or.inr rfl, Or.inr rfl, Or.inr rfl, Or.inr rfl, Or.inl rfl, Or.inl rfl, Or.inl rfl, trivial⟩ ?_
    exact yw_cV (As := [.int v1, .int (nI 2), .int v2]) (b := 209) (st := []) dX10_lay_30 lX10_373 kiX10_cellFault kvX10_cellFault rfl rfl rfl (la_209 hW) rfl (Nat.le_of_ble_eq_true rfl) rfl (xk_I k)
  · replace k := k.2 c
    refine xw_iload dX10_lay_23 rfl ?_
    exact yw_iret dX10_lay_25 rfl k
theorem bX10_lay_33 {v1 v2 v3 s0 : Int32} {mc ms : Nat} {Q : Int32 → xHp → Prop} (hW : xLay sh R) 
    (k : ((¬ v3 = 0 → ((¬ s0 = 0 → ((s0 ≤ 0 → vp_in (((nI 8) * v1) + v2) 24 ∧ CV mX10_copies [.ref 209, .int v3, .int (((nI 7) + ((nI 8) * v1)) + v2)] (sh, (xi I 229 ((((nI 8) * v1) + v2).toNatClampNeg) (nI 1)), R) (fun h1 => Ex mX10_lay 118 [xU, xU, xU, xU, xU, xU, xU] [] h1 mc ms (xqI Q))) ∧ (¬ s0 ≤ 0 → Q ((-10) - s0) (sh, I, R)))) ∧ (s0 = 0 → vp_in v1 3 ∧ (((I 227 v1.toNatClampNeg) = (nI 2) → ((s0 ≤ 0 → vp_in (((nI 8) * v1) + v2) 24 ∧ CV mX10_copies [.ref 209, .int v3, .int (((nI 7) + ((nI 8) * v1)) + v2)] (sh, (xi I 229 ((((nI 8) * v1) + v2).toNatClampNeg) (nI 1)), R) (fun h1 => Ex mX10_lay 118 [xU, xU, xU, xU, xU, xU, xU] [] h1 mc ms (xqI Q))) ∧ (¬ s0 ≤ 0 → Q ((-10) - s0) (sh, I, R)))) ∧ (¬ (I 227 v1.toNatClampNeg) = (nI 2) → vp_in v1 3 ∧ (((I 227 v1.toNatClampNeg) = (nI 1) → ((s0 ≤ 0 → vp_in (((nI 8) * v1) + v2) 24 ∧ CV mX10_copies [.ref 209, .int v3, .int (((nI 7) + ((nI 8) * v1)) + v2)] (sh, (xi I 229 ((((nI 8) * v1) + v2).toNatClampNeg) (nI 1)), R) (fun h1 => Ex mX10_lay 118 [xU, xU, xU, xU, xU, xU, xU] [] h1 mc ms (xqI Q))) ∧ (¬ s0 ≤ 0 → Q ((-10) - s0) (sh, I, R)))) ∧ (¬ (I 227 v1.toNatClampNeg) = (nI 1) → Q ((-10) - (nI 4)) (sh, I, R)))))))) ∧ (v3 = 0 → ((¬ s0 = 0 → ((s0 ≤ 0 → vp_in (((nI 8) * v1) + v2) 24 ∧ CV mX10_copies [.ref 209, .int v3, .int (((nI 7) + ((nI 8) * v1)) + v2)] (sh, (xi I 229 ((((nI 8) * v1) + v2).toNatClampNeg) (nI 0)), R) (fun h1 => Ex mX10_lay 118 [xU, xU, xU, xU, xU, xU, xU] [] h1 mc ms (xqI Q))) ∧ (¬ s0 ≤ 0 → Q ((-10) - s0) (sh, I, R)))) ∧ (s0 = 0 → vp_in v1 3 ∧ (((I 227 v1.toNatClampNeg) = (nI 2) → ((s0 ≤ 0 → vp_in (((nI 8) * v1) + v2) 24 ∧ CV mX10_copies [.ref 209, .int v3, .int (((nI 7) + ((nI 8) * v1)) + v2)] (sh, (xi I 229 ((((nI 8) * v1) + v2).toNatClampNeg) (nI 0)), R) (fun h1 => Ex mX10_lay 118 [xU, xU, xU, xU, xU, xU, xU] [] h1 mc ms (xqI Q))) ∧ (¬ s0 ≤ 0 → Q ((-10) - s0) (sh, I, R)))) ∧ (¬ (I 227 v1.toNatClampNeg) = (nI 2) → vp_in v1 3 ∧ (((I 227 v1.toNatClampNeg) = (nI 0) → ((s0 ≤ 0 → vp_in (((nI 8) * v1) + v2) 24 ∧ CV mX10_copies [.ref 209, .int v3, .int (((nI 7) + ((nI 8) * v1)) + v2)] (sh, (xi I 229 ((((nI 8) * v1) + v2).toNatClampNeg) (nI 0)), R) (fun h1 => Ex mX10_lay 118 [xU, xU, xU, xU, xU, xU, xU] [] h1 mc ms (xqI Q))) ∧ (¬ s0 ≤ 0 → Q ((-10) - s0) (sh, I, R)))) ∧ (¬ (I 227 v1.toNatClampNeg) = (nI 0) → Q ((-10) - (nI 4)) (sh, I, R)))))))))) :
    Ex mX10_lay 33 [.ref 209, .int v1, .int v2, .int v3, xU, xU, xU] [.int s0] (sh, I, R) mc ms (xqI Q) := by
  refine yw_istore (lv' := [.ref 209, .int v1, .int v2, .int v3, xU, .int s0, xU]) dX10_lay_33 rfl rfl rfl ?_
  refine xw_iload_n dX10_lay_35 rfl rfl ?_
  refine xw_ifne (tgt := 43) dX10_lay_36 (by decide) (fun c => ?_) (fun c => ?_)
  · replace k := k.1 c
    refine xw_iconst (v := nI 1) dX10_lay_43 rfl ?_
    refine yw_istore (lv' := [.ref 209, .int v1, .int v2, .int v3, xU, .int s0, .int (nI 1)]) dX10_lay_44 rfl rfl rfl ?_
    refine xw_iload dX10_lay_46 rfl ?_
    refine xw_ifne (tgt := 76) dX10_lay_48 (by decide) (fun c => ?_) (fun c => ?_)
    · replace k := k.1 c
      refine xw_iload dX10_lay_76 rfl ?_
      refine yw_istore (lv' := [.ref 209, .int v1, .int v2, .int v3, xU, .int s0, .int (nI 1)]) dX10_lay_78 rfl rfl rfl ?_
      refine xw_iload dX10_lay_80 rfl ?_
      refine xw_ifle (tgt := 91) dX10_lay_82 (by decide) (fun c => ?_) (fun c => ?_)
      · replace k := k.1 c
        refine xw_aload_n dX10_lay_91 rfl rfl ?_
        refine yw_getR (r := 229) dX10_lay_92 fX10_75 rfl (la_209 hW) (lr_209_40 hW) ?_
        refine xw_bipush (v := nI 8) dX10_lay_95 (by decide) ?_
        refine xw_iload_n dX10_lay_97 rfl rfl ?_
        refine xw_imul dX10_lay_98 ?_
        refine xw_iload_n dX10_lay_99 rfl rfl ?_
        refine xw_iadd dX10_lay_100 ?_
        refine xw_iload dX10_lay_101 rfl ?_
        obtain ⟨k0, k⟩ := k
        refine yw_iastore dX10_lay_103 (la_229 hW) k0 ?_
        refine xw_aload_n dX10_lay_104 rfl rfl ?_
        refine xw_iload_n dX10_lay_105 rfl rfl ?_
        refine xw_bipush (v := nI 7) dX10_lay_106 (by decide) ?_
        refine xw_bipush (v := nI 8) dX10_lay_108 (by decide) ?_
        refine xw_iload_n dX10_lay_110 rfl rfl ?_
        refine xw_imul dX10_lay_111 ?_
        refine xw_iadd dX10_lay_112 ?_
        refine xw_iload_n dX10_lay_113 rfl rfl ?_
        refine xw_iadd dX10_lay_114 ?_
        refine yw_sub (lv' := [xU, xU, xU, xU, xU, xU, xU]) ⟨Or.inl rfl, Or.inl rfl, Or.inl rfl, Or.inl rfl, Or.inl rfl, Or.inl rfl, Or.inl rfl, trivial⟩ ?_
        exact yw_cV (As := [.int v3, .int (((nI 7) + ((nI 8) * v1)) + v2)]) (b := 209) (st := []) dX10_lay_115 lX10_264 kiX10_copies kvX10_copies rfl rfl rfl (la_209 hW) rfl (Nat.le_of_ble_eq_true rfl) rfl (xk_V k)
      · replace k := k.2 c
        refine xw_bipush (v := (-10)) dX10_lay_85 (by decide) ?_
        refine xw_iload dX10_lay_87 rfl ?_
        refine xw_isub dX10_lay_89 ?_
        exact yw_iret dX10_lay_90 rfl k
    · replace k := k.2 c
      refine xw_aload_n dX10_lay_51 rfl rfl ?_
      refine yw_getR (r := 227) dX10_lay_52 fX10_69 rfl (la_209 hW) (lr_209_38 hW) ?_
      refine xw_iload_n dX10_lay_55 rfl rfl ?_
      obtain ⟨k0, k⟩ := k
      refine yw_iaload (v := I 227 v1.toNatClampNeg) dX10_lay_56 (la_227 hW) k0 rfl ?_
      refine xw_iconst (v := nI 2) dX10_lay_57 rfl ?_
      refine xw_iceq (tgt := 76) dX10_lay_58 (by decide) (fun c => ?_) (fun c => ?_)
      · replace k := k.1 c
        refine xw_iload dX10_lay_76 rfl ?_
        refine yw_istore (lv' := [.ref 209, .int v1, .int v2, .int v3, xU, .int s0, .int (nI 1)]) dX10_lay_78 rfl rfl rfl ?_
        refine xw_iload dX10_lay_80 rfl ?_
        refine xw_ifle (tgt := 91) dX10_lay_82 (by decide) (fun c => ?_) (fun c => ?_)
        · replace k := k.1 c
          refine xw_aload_n dX10_lay_91 rfl rfl ?_
          refine yw_getR (r := 229) dX10_lay_92 fX10_75 rfl (la_209 hW) (lr_209_40 hW) ?_
          refine xw_bipush (v := nI 8) dX10_lay_95 (by decide) ?_
          refine xw_iload_n dX10_lay_97 rfl rfl ?_
          refine xw_imul dX10_lay_98 ?_
          refine xw_iload_n dX10_lay_99 rfl rfl ?_
          refine xw_iadd dX10_lay_100 ?_
          refine xw_iload dX10_lay_101 rfl ?_
          obtain ⟨k0, k⟩ := k
          refine yw_iastore dX10_lay_103 (la_229 hW) k0 ?_
          refine xw_aload_n dX10_lay_104 rfl rfl ?_
          refine xw_iload_n dX10_lay_105 rfl rfl ?_
          refine xw_bipush (v := nI 7) dX10_lay_106 (by decide) ?_
          refine xw_bipush (v := nI 8) dX10_lay_108 (by decide) ?_
          refine xw_iload_n dX10_lay_110 rfl rfl ?_
          refine xw_imul dX10_lay_111 ?_
          refine xw_iadd dX10_lay_112 ?_
          refine xw_iload_n dX10_lay_113 rfl rfl ?_
          refine xw_iadd dX10_lay_114 ?_
          refine yw_sub (lv' := [xU, xU, xU, xU, xU, xU, xU]) ⟨Or.inl rfl, Or.inl rfl, Or.inl rfl, Or.inl rfl, Or.inl rfl, Or.inl rfl, Or.inl rfl, trivial⟩ ?_
          exact yw_cV (As := [.int v3, .int (((nI 7) + ((nI 8) * v1)) + v2)]) (b := 209) (st := []) dX10_lay_115 lX10_264 kiX10_copies kvX10_copies rfl rfl rfl (la_209 hW) rfl (Nat.le_of_ble_eq_true rfl) rfl (xk_V k)
        · replace k := k.2 c
          refine xw_bipush (v := (-10)) dX10_lay_85 (by decide) ?_
          refine xw_iload dX10_lay_87 rfl ?_
          refine xw_isub dX10_lay_89 ?_
          exact yw_iret dX10_lay_90 rfl k
      · replace k := k.2 c
        refine xw_aload_n dX10_lay_61 rfl rfl ?_
        refine yw_getR (r := 227) dX10_lay_62 fX10_69 rfl (la_209 hW) (lr_209_38 hW) ?_
        refine xw_iload_n dX10_lay_65 rfl rfl ?_
        obtain ⟨k0, k⟩ := k
        refine yw_iaload (v := I 227 v1.toNatClampNeg) dX10_lay_66 (la_227 hW) k0 rfl ?_
        refine xw_iload dX10_lay_67 rfl ?_
        refine xw_iceq (tgt := 76) dX10_lay_69 (by decide) (fun c => ?_) (fun c => ?_)
        · replace k := k.1 c
          refine xw_iload dX10_lay_76 rfl ?_
          refine yw_istore (lv' := [.ref 209, .int v1, .int v2, .int v3, xU, .int s0, .int (nI 1)]) dX10_lay_78 rfl rfl rfl ?_
          refine xw_iload dX10_lay_80 rfl ?_
          refine xw_ifle (tgt := 91) dX10_lay_82 (by decide) (fun c => ?_) (fun c => ?_)
          · replace k := k.1 c
            refine xw_aload_n dX10_lay_91 rfl rfl ?_
            refine yw_getR (r := 229) dX10_lay_92 fX10_75 rfl (la_209 hW) (lr_209_40 hW) ?_
            refine xw_bipush (v := nI 8) dX10_lay_95 (by decide) ?_
            refine xw_iload_n dX10_lay_97 rfl rfl ?_
            refine xw_imul dX10_lay_98 ?_
            refine xw_iload_n dX10_lay_99 rfl rfl ?_
            refine xw_iadd dX10_lay_100 ?_
            refine xw_iload dX10_lay_101 rfl ?_
            obtain ⟨k0, k⟩ := k
            refine yw_iastore dX10_lay_103 (la_229 hW) k0 ?_
            refine xw_aload_n dX10_lay_104 rfl rfl ?_
            refine xw_iload_n dX10_lay_105 rfl rfl ?_
            refine xw_bipush (v := nI 7) dX10_lay_106 (by decide) ?_
            refine xw_bipush (v := nI 8) dX10_lay_108 (by decide) ?_
            refine xw_iload_n dX10_lay_110 rfl rfl ?_
            refine xw_imul dX10_lay_111 ?_
            refine xw_iadd dX10_lay_112 ?_
            refine xw_iload_n dX10_lay_113 rfl rfl ?_
            refine xw_iadd dX10_lay_114 ?_
            refine yw_sub (lv' := [xU, xU, xU, xU, xU, xU, xU]) ⟨Or.inl rfl, Or.inl rfl, Or.inl rfl, Or.inl rfl, Or.inl rfl, Or.inl rfl, Or.inl rfl, trivial⟩ ?_
            exact yw_cV (As := [.int v3, .int (((nI 7) + ((nI 8) * v1)) + v2)]) (b := 209) (st := []) dX10_lay_115 lX10_264 kiX10_copies kvX10_copies rfl rfl rfl (la_209 hW) rfl (Nat.le_of_ble_eq_true rfl) rfl (xk_V k)
          · replace k := k.2 c
            refine xw_bipush (v := (-10)) dX10_lay_85 (by decide) ?_
            refine xw_iload dX10_lay_87 rfl ?_
            refine xw_isub dX10_lay_89 ?_
            exact yw_iret dX10_lay_90 rfl k
        · replace k := k.2 c
          refine xw_iconst (v := nI 4) dX10_lay_72 rfl ?_
          refine xw_goto (tgt := 78) dX10_lay_73 (by decide) ?_
          refine yw_istore (lv' := [.ref 209, .int v1, .int v2, .int v3, xU, .int (nI 4), .int (nI 1)]) dX10_lay_78 rfl rfl rfl ?_
          refine xw_iload dX10_lay_80 rfl ?_
          refine xw_ifle (tgt := 91) dX10_lay_82 (by decide) (fun c => absurd c (by decide)) (fun _ => ?_)
          refine xw_bipush (v := (-10)) dX10_lay_85 (by decide) ?_
          refine xw_iload dX10_lay_87 rfl ?_
          refine xw_isub dX10_lay_89 ?_
          exact yw_iret dX10_lay_90 rfl k
  · replace k := k.2 c
    refine xw_iconst (v := nI 0) dX10_lay_39 rfl ?_
    refine xw_goto (tgt := 44) dX10_lay_40 (by decide) ?_
    refine yw_istore (lv' := [.ref 209, .int v1, .int v2, .int v3, xU, .int s0, .int (nI 0)]) dX10_lay_44 rfl rfl rfl ?_
    refine xw_iload dX10_lay_46 rfl ?_
    refine xw_ifne (tgt := 76) dX10_lay_48 (by decide) (fun c => ?_) (fun c => ?_)
    · replace k := k.1 c
      refine xw_iload dX10_lay_76 rfl ?_
      refine yw_istore (lv' := [.ref 209, .int v1, .int v2, .int v3, xU, .int s0, .int (nI 0)]) dX10_lay_78 rfl rfl rfl ?_
      refine xw_iload dX10_lay_80 rfl ?_
      refine xw_ifle (tgt := 91) dX10_lay_82 (by decide) (fun c => ?_) (fun c => ?_)
      · replace k := k.1 c
        refine xw_aload_n dX10_lay_91 rfl rfl ?_
        refine yw_getR (r := 229) dX10_lay_92 fX10_75 rfl (la_209 hW) (lr_209_40 hW) ?_
        refine xw_bipush (v := nI 8) dX10_lay_95 (by decide) ?_
        refine xw_iload_n dX10_lay_97 rfl rfl ?_
        refine xw_imul dX10_lay_98 ?_
        refine xw_iload_n dX10_lay_99 rfl rfl ?_
        refine xw_iadd dX10_lay_100 ?_
        refine xw_iload dX10_lay_101 rfl ?_
        obtain ⟨k0, k⟩ := k
        refine yw_iastore dX10_lay_103 (la_229 hW) k0 ?_
        refine xw_aload_n dX10_lay_104 rfl rfl ?_
        refine xw_iload_n dX10_lay_105 rfl rfl ?_
        refine xw_bipush (v := nI 7) dX10_lay_106 (by decide) ?_
        refine xw_bipush (v := nI 8) dX10_lay_108 (by decide) ?_
        refine xw_iload_n dX10_lay_110 rfl rfl ?_
        refine xw_imul dX10_lay_111 ?_
        refine xw_iadd dX10_lay_112 ?_
        refine xw_iload_n dX10_lay_113 rfl rfl ?_
        refine xw_iadd dX10_lay_114 ?_
        refine yw_sub (lv' := [xU, xU, xU, xU, xU, xU, xU]) ⟨Or.inl rfl, Or.inl rfl, Or.inl rfl, Or.inl rfl, Or.inl rfl, Or.inl rfl, Or.inl rfl, trivial⟩ ?_
        exact yw_cV (As := [.int v3, .int (((nI 7) + ((nI 8) * v1)) + v2)]) (b := 209) (st := []) dX10_lay_115 lX10_264 kiX10_copies kvX10_copies rfl rfl rfl (la_209 hW) rfl (Nat.le_of_ble_eq_true rfl) rfl (xk_V k)
      · replace k := k.2 c
        refine xw_bipush (v := (-10)) dX10_lay_85 (by decide) ?_
        refine xw_iload dX10_lay_87 rfl ?_
        refine xw_isub dX10_lay_89 ?_
        exact yw_iret dX10_lay_90 rfl k
    · replace k := k.2 c
      refine xw_aload_n dX10_lay_51 rfl rfl ?_
      refine yw_getR (r := 227) dX10_lay_52 fX10_69 rfl (la_209 hW) (lr_209_38 hW) ?_
      refine xw_iload_n dX10_lay_55 rfl rfl ?_
      obtain ⟨k0, k⟩ := k
      refine yw_iaload (v := I 227 v1.toNatClampNeg) dX10_lay_56 (la_227 hW) k0 rfl ?_
      refine xw_iconst (v := nI 2) dX10_lay_57 rfl ?_
      refine xw_iceq (tgt := 76) dX10_lay_58 (by decide) (fun c => ?_) (fun c => ?_)
      · replace k := k.1 c
        refine xw_iload dX10_lay_76 rfl ?_
        refine yw_istore (lv' := [.ref 209, .int v1, .int v2, .int v3, xU, .int s0, .int (nI 0)]) dX10_lay_78 rfl rfl rfl ?_
        refine xw_iload dX10_lay_80 rfl ?_
        refine xw_ifle (tgt := 91) dX10_lay_82 (by decide) (fun c => ?_) (fun c => ?_)
        · replace k := k.1 c
          refine xw_aload_n dX10_lay_91 rfl rfl ?_
          refine yw_getR (r := 229) dX10_lay_92 fX10_75 rfl (la_209 hW) (lr_209_40 hW) ?_
          refine xw_bipush (v := nI 8) dX10_lay_95 (by decide) ?_
          refine xw_iload_n dX10_lay_97 rfl rfl ?_
          refine xw_imul dX10_lay_98 ?_
          refine xw_iload_n dX10_lay_99 rfl rfl ?_
          refine xw_iadd dX10_lay_100 ?_
          refine xw_iload dX10_lay_101 rfl ?_
          obtain ⟨k0, k⟩ := k
          refine yw_iastore dX10_lay_103 (la_229 hW) k0 ?_
          refine xw_aload_n dX10_lay_104 rfl rfl ?_
          refine xw_iload_n dX10_lay_105 rfl rfl ?_
          refine xw_bipush (v := nI 7) dX10_lay_106 (by decide) ?_
          refine xw_bipush (v := nI 8) dX10_lay_108 (by decide) ?_
          refine xw_iload_n dX10_lay_110 rfl rfl ?_
          refine xw_imul dX10_lay_111 ?_
          refine xw_iadd dX10_lay_112 ?_
          refine xw_iload_n dX10_lay_113 rfl rfl ?_
          refine xw_iadd dX10_lay_114 ?_
          refine yw_sub (lv' := [xU, xU, xU, xU, xU, xU, xU]) ⟨Or.inl rfl, Or.inl rfl, Or.inl rfl, Or.inl rfl, Or.inl rfl, Or.inl rfl, Or.inl rfl, trivial⟩ ?_
          exact yw_cV (As := [.int v3, .int (((nI 7) + ((nI 8) * v1)) + v2)]) (b := 209) (st := []) dX10_lay_115 lX10_264 kiX10_copies kvX10_copies rfl rfl rfl (la_209 hW) rfl (Nat.le_of_ble_eq_true rfl) rfl (xk_V k)
        · replace k := k.2 c
          refine xw_bipush (v := (-10)) dX10_lay_85 (by decide) ?_
          refine xw_iload dX10_lay_87 rfl ?_
          refine xw_isub dX10_lay_89 ?_
          exact yw_iret dX10_lay_90 rfl k
      · replace k := k.2 c
        refine xw_aload_n dX10_lay_61 rfl rfl ?_
        refine yw_getR (r := 227) dX10_lay_62 fX10_69 rfl (la_209 hW) (lr_209_38 hW) ?_
        refine xw_iload_n dX10_lay_65 rfl rfl ?_
        obtain ⟨k0, k⟩ := k
        refine yw_iaload (v := I 227 v1.toNatClampNeg) dX10_lay_66 (la_227 hW) k0 rfl ?_
        refine xw_iload dX10_lay_67 rfl ?_
        refine xw_iceq (tgt := 76) dX10_lay_69 (by decide) (fun c => ?_) (fun c => ?_)
        · replace k := k.1 c
          refine xw_iload dX10_lay_76 rfl ?_
          refine yw_istore (lv' := [.ref 209, .int v1, .int v2, .int v3, xU, .int s0, .int (nI 0)]) dX10_lay_78 rfl rfl rfl ?_
          refine xw_iload dX10_lay_80 rfl ?_
          refine xw_ifle (tgt := 91) dX10_lay_82 (by decide) (fun c => ?_) (fun c => ?_)
          · replace k := k.1 c
            refine xw_aload_n dX10_lay_91 rfl rfl ?_
            refine yw_getR (r := 229) dX10_lay_92 fX10_75 rfl (la_209 hW) (lr_209_40 hW) ?_
            refine xw_bipush (v := nI 8) dX10_lay_95 (by decide) ?_
            refine xw_iload_n dX10_lay_97 rfl rfl ?_
            refine xw_imul dX10_lay_98 ?_
            refine xw_iload_n dX10_lay_99 rfl rfl ?_
            refine xw_iadd dX10_lay_100 ?_
            refine xw_iload dX10_lay_101 rfl ?_
            obtain ⟨k0, k⟩ := k
            refine yw_iastore dX10_lay_103 (la_229 hW) k0 ?_
            refine xw_aload_n dX10_lay_104 rfl rfl ?_
            refine xw_iload_n dX10_lay_105 rfl rfl ?_
            refine xw_bipush (v := nI 7) dX10_lay_106 (by decide) ?_
            refine xw_bipush (v := nI 8) dX10_lay_108 (by decide) ?_
            refine xw_iload_n dX10_lay_110 rfl rfl ?_
            refine xw_imul dX10_lay_111 ?_
            refine xw_iadd dX10_lay_112 ?_
            refine xw_iload_n dX10_lay_113 rfl rfl ?_
            refine xw_iadd dX10_lay_114 ?_
            refine yw_sub (lv' := [xU, xU, xU, xU, xU, xU, xU]) ⟨Or.inl rfl, Or.inl rfl, Or.inl rfl, Or.inl rfl, Or.inl rfl, Or.inl rfl, Or.inl rfl, trivial⟩ ?_
            exact yw_cV (As := [.int v3, .int (((nI 7) + ((nI 8) * v1)) + v2)]) (b := 209) (st := []) dX10_lay_115 lX10_264 kiX10_copies kvX10_copies rfl rfl rfl (la_209 hW) rfl (Nat.le_of_ble_eq_true rfl) rfl (xk_V k)
          · replace k := k.2 c
            refine xw_bipush (v := (-10)) dX10_lay_85 (by decide) ?_
            refine xw_iload dX10_lay_87 rfl ?_
            refine xw_isub dX10_lay_89 ?_
            exact yw_iret dX10_lay_90 rfl k
        · replace k := k.2 c
          refine xw_iconst (v := nI 4) dX10_lay_72 rfl ?_
          refine xw_goto (tgt := 78) dX10_lay_73 (by decide) ?_
          refine yw_istore (lv' := [.ref 209, .int v1, .int v2, .int v3, xU, .int (nI 4), .int (nI 0)]) dX10_lay_78 rfl rfl rfl ?_
          refine xw_iload dX10_lay_80 rfl ?_
          refine xw_ifle (tgt := 91) dX10_lay_82 (by decide) (fun c => absurd c (by decide)) (fun _ => ?_)
          refine xw_bipush (v := (-10)) dX10_lay_85 (by decide) ?_
          refine xw_iload dX10_lay_87 rfl ?_
          refine xw_isub dX10_lay_89 ?_
          exact yw_iret dX10_lay_90 rfl k
theorem bX10_lay_118 {mc ms : Nat} {Q : Int32 → xHp → Prop} (hW : xLay sh R) 
    (k : Q (nI 1) (sh, I, R)) :
    Ex mX10_lay 118 [xU, xU, xU, xU, xU, xU, xU] [] (sh, I, R) mc ms (xqI Q) := by
  refine xw_iconst (v := nI 1) dX10_lay_118 rfl ?_
  exact yw_iret dX10_lay_119 rfl k
theorem eX10_lay {v1 : Int32} {v2 : Int32} {v3 : Int32} {h : xHp} {Q : Int32 → xHp → Prop} (k : Ex mX10_lay 0 [.ref 209, .int v1, .int v2, .int v3, xU, xU, xU] [] h 0 0 (xqI Q)) : CI mX10_lay [.ref 209, .int v1, .int v2, .int v3] h Q := k
theorem bX10_foundIn_0 {v1 v2 v3 : Int32} {mc ms : Nat} {Q : Int32 → xHp → Prop} (hW : xLay sh R) 
    (k : CI mX10_cellFault [.ref 209, .int v1, .int v2, .int v3] (sh, I, R) (fun w h1 => Ex mX10_foundIn 7 [.ref 209, .int v1, xU, .int v3, xU] (.int w :: []) h1 mc ms (xqI Q))) :
    Ex mX10_foundIn 0 [.ref 209, .int v1, .int v2, .int v3, xU] [] (sh, I, R) mc ms (xqI Q) := by
  refine xw_aload_n dX10_foundIn_0 rfl rfl ?_
  refine xw_iload_n dX10_foundIn_1 rfl rfl ?_
  refine xw_iload_n dX10_foundIn_2 rfl rfl ?_
  refine xw_iload_n dX10_foundIn_3 rfl rfl ?_
  refine yw_sub (lv' := [.ref 209, .int v1, xU, .int v3, xU]) ⟨Or.inr rfl, Or.inr rfl, Or.inl rfl, Or.inr rfl, Or.inl rfl, trivial⟩ ?_
  exact yw_cV (As := [.int v1, .int v2, .int v3]) (b := 209) (st := []) dX10_foundIn_4 lX10_373 kiX10_cellFault kvX10_cellFault rfl rfl rfl (la_209 hW) rfl (Nat.le_of_ble_eq_true rfl) rfl (xk_I k)
theorem bX10_foundIn_7 {v1 v3 s0 : Int32} {mc ms : Nat} {Q : Int32 → xHp → Prop} (hW : xLay sh R) 
    (k : ((¬ s0 = 0 → Q s0 (sh, I, R)) ∧ (s0 = 0 → vp_in (((nI 8) * v1) + v3) 24 ∧ ((¬ (I 229 ((((nI 8) * v1) + v3).toNatClampNeg)) = (-4) → Q s0 (sh, I, R)) ∧ ((I 229 ((((nI 8) * v1) + v3).toNatClampNeg)) = (-4) → Q (nI 5) (sh, I, R)))))) :
    Ex mX10_foundIn 7 [.ref 209, .int v1, xU, .int v3, xU] [.int s0] (sh, I, R) mc ms (xqI Q) := by
  refine yw_istore (lv' := [.ref 209, .int v1, xU, .int v3, .int s0]) dX10_foundIn_7 rfl rfl rfl ?_
  refine xw_iload dX10_foundIn_9 rfl ?_
  refine xw_ifne (tgt := 34) dX10_foundIn_11 (by decide) (fun c => ?_) (fun c => ?_)
  · replace k := k.1 c
    refine xw_iload dX10_foundIn_34 rfl ?_
    exact yw_iret dX10_foundIn_36 rfl k
  · replace k := k.2 c
    refine xw_aload_n dX10_foundIn_14 rfl rfl ?_
    refine yw_getR (r := 229) dX10_foundIn_15 fX10_75 rfl (la_209 hW) (lr_209_40 hW) ?_
    refine xw_bipush (v := nI 8) dX10_foundIn_18 (by decide) ?_
    refine xw_iload_n dX10_foundIn_20 rfl rfl ?_
    refine xw_imul dX10_foundIn_21 ?_
    refine xw_iload_n dX10_foundIn_22 rfl rfl ?_
    refine xw_iadd dX10_foundIn_23 ?_
    obtain ⟨k0, k⟩ := k
    refine yw_iaload (v := I 229 ((((nI 8) * v1) + v3).toNatClampNeg)) dX10_foundIn_24 (la_229 hW) k0 rfl ?_
    refine xw_bipush (v := (-4)) dX10_foundIn_25 (by decide) ?_
    refine xw_icne (tgt := 34) dX10_foundIn_27 (by decide) (fun c => ?_) (fun c => ?_)
    · replace k := k.1 c
      refine xw_iload dX10_foundIn_34 rfl ?_
      exact yw_iret dX10_foundIn_36 rfl k
    · replace k := k.2 c
      refine xw_iconst (v := nI 5) dX10_foundIn_30 rfl ?_
      refine xw_goto (tgt := 36) dX10_foundIn_31 (by decide) ?_
      exact yw_iret dX10_foundIn_36 rfl k
theorem eX10_foundIn {v1 : Int32} {v2 : Int32} {v3 : Int32} {h : xHp} {Q : Int32 → xHp → Prop} (k : Ex mX10_foundIn 0 [.ref 209, .int v1, .int v2, .int v3, xU] [] h 0 0 (xqI Q)) : CI mX10_foundIn [.ref 209, .int v1, .int v2, .int v3] h Q := k
theorem bX10_take_0 {v1 v2 v3 : Int32} {mc ms : Nat} {Q : Int32 → xHp → Prop} (hW : xLay sh R) 
    (k : CI mX10_isShelf [.int v1] (sh, I, R) (fun w h1 => Ex mX10_take 4 [.ref 209, .int v1, .int v2, .int v3, xU] (.int w :: []) h1 mc ms (xqI Q))) :
    Ex mX10_take 0 [.ref 209, .int v1, .int v2, .int v3, xU] [] (sh, I, R) mc ms (xqI Q) := by
  refine xw_iload_n dX10_take_0 rfl rfl ?_
  exact yw_cS (As := [.int v1]) (st := []) dX10_take_1 lX10_370 ksX10_isShelf rfl rfl rfl (Nat.le_of_ble_eq_true rfl) rfl (xk_I k)
theorem bX10_take_4 {v1 v2 v3 s0 : Int32} {mc ms : Nat} {Q : Int32 → xHp → Prop} (hW : xLay sh R) 
    (k : ((s0 = 0 → Q (-1) (sh, I, R)) ∧ (¬ s0 = 0 → CI mX10_in [.long v2.toInt64, .long (lN 0), .long (2 : Int64)] (sh, I, R) (fun w h1 => Ex mX10_take 16 [.ref 209, .int v1, .int v2, .int v3, xU] (.int w :: []) h1 mc ms (xqI Q))))) :
    Ex mX10_take 4 [.ref 209, .int v1, .int v2, .int v3, xU] [.int s0] (sh, I, R) mc ms (xqI Q) := by
  refine xw_ifeq (tgt := 19) dX10_take_4 (by decide) (fun c => ?_) (fun c => ?_)
  · replace k := k.1 c
    refine xw_iconst (v := (-1)) dX10_take_19 rfl ?_
    exact yw_iret dX10_take_20 rfl k
  · replace k := k.2 c
    refine xw_iload_n dX10_take_7 rfl rfl ?_
    refine xw_i2l dX10_take_8 ?_
    refine xw_lconst (v := lN 0) dX10_take_9 rfl ?_
    refine xw_ldcL dX10_take_10 cX10_227 ?_
    exact yw_cS (As := [.long v2.toInt64, .long (lN 0), .long (2 : Int64)]) (st := []) dX10_take_13 lX10_181 ksX10_in rfl rfl rfl (Nat.le_of_ble_eq_true rfl) rfl (xk_I k)
theorem bX10_take_16 {v1 v2 v3 s0 : Int32} {mc ms : Nat} {Q : Int32 → xHp → Prop} (hW : xLay sh R) 
    (k : ((¬ s0 = 0 → CI mX10_foundIn [.ref 209, .int v1, .int v2, .int v3] (sh, I, R) (fun w h1 => Ex mX10_take 28 [.ref 209, .int v1, xU, .int v3, xU] (.int w :: []) h1 mc ms (xqI Q))) ∧ (s0 = 0 → Q (-1) (sh, I, R)))) :
    Ex mX10_take 16 [.ref 209, .int v1, .int v2, .int v3, xU] [.int s0] (sh, I, R) mc ms (xqI Q) := by
  refine xw_ifne (tgt := 21) dX10_take_16 (by decide) (fun c => ?_) (fun c => ?_)
  · replace k := k.1 c
    refine xw_aload_n dX10_take_21 rfl rfl ?_
    refine xw_iload_n dX10_take_22 rfl rfl ?_
    refine xw_iload_n dX10_take_23 rfl rfl ?_
    refine xw_iload_n dX10_take_24 rfl rfl ?_
    refine yw_sub (lv' := [.ref 209, .int v1, xU, .int v3, xU]) ⟨Or.inr rfl, Or.inr rfl, Or.inl rfl, Or.inr rfl, Or.inl rfl, trivial⟩ ?_
    exact yw_cV (As := [.int v1, .int v2, .int v3]) (b := 209) (st := []) dX10_take_25 lX10_376 kiX10_foundIn kvX10_foundIn rfl rfl rfl (la_209 hW) rfl (Nat.le_of_ble_eq_true rfl) rfl (xk_I k)
  · replace k := k.2 c
    refine xw_iconst (v := (-1)) dX10_take_19 rfl ?_
    exact yw_iret dX10_take_20 rfl k
theorem bX10_take_28 {v1 v3 s0 : Int32} {mc ms : Nat} {Q : Int32 → xHp → Prop} (hW : xLay sh R) 
    (k : ((s0 ≤ 0 → CV mX10_copies [.ref 209, .int (((nI 7) + ((nI 8) * v1)) + v3), .int (nI 0)] (sh, I, R) (fun h1 => Ex mX10_take 55 [.ref 209, xU, xU, xU, xU] [] h1 mc ms (xqI Q))) ∧ (¬ s0 ≤ 0 → Q ((-10) - s0) (sh, I, R)))) :
    Ex mX10_take 28 [.ref 209, .int v1, xU, .int v3, xU] [.int s0] (sh, I, R) mc ms (xqI Q) := by
  refine yw_istore (lv' := [.ref 209, .int v1, xU, .int v3, .int s0]) dX10_take_28 rfl rfl rfl ?_
  refine xw_iload dX10_take_30 rfl ?_
  refine xw_ifle (tgt := 41) dX10_take_32 (by decide) (fun c => ?_) (fun c => ?_)
  · replace k := k.1 c
    refine xw_aload_n dX10_take_41 rfl rfl ?_
    refine xw_bipush (v := nI 7) dX10_take_42 (by decide) ?_
    refine xw_bipush (v := nI 8) dX10_take_44 (by decide) ?_
    refine xw_iload_n dX10_take_46 rfl rfl ?_
    refine xw_imul dX10_take_47 ?_
    refine xw_iadd dX10_take_48 ?_
    refine xw_iload_n dX10_take_49 rfl rfl ?_
    refine xw_iadd dX10_take_50 ?_
    refine xw_iconst (v := nI 0) dX10_take_51 rfl ?_
    refine yw_sub (lv' := [.ref 209, xU, xU, xU, xU]) ⟨Or.inr rfl, Or.inl rfl, Or.inl rfl, Or.inl rfl, Or.inl rfl, trivial⟩ ?_
    exact yw_cV (As := [.int (((nI 7) + ((nI 8) * v1)) + v3), .int (nI 0)]) (b := 209) (st := []) dX10_take_52 lX10_264 kiX10_copies kvX10_copies rfl rfl rfl (la_209 hW) rfl (Nat.le_of_ble_eq_true rfl) rfl (xk_V k)
  · replace k := k.2 c
    refine xw_bipush (v := (-10)) dX10_take_35 (by decide) ?_
    refine xw_iload dX10_take_37 rfl ?_
    refine xw_isub dX10_take_39 ?_
    exact yw_iret dX10_take_40 rfl k
theorem bX10_take_55 {mc ms : Nat} {Q : Int32 → xHp → Prop} (hW : xLay sh R) 
    (k : CV mX10_anew [.ref 209] (sh, I, R) (fun h1 => Ex mX10_take 59 [.ref 209, xU, xU, xU, xU] [] h1 mc ms (xqI Q))) :
    Ex mX10_take 55 [.ref 209, xU, xU, xU, xU] [] (sh, I, R) mc ms (xqI Q) := by
  refine xw_aload_n dX10_take_55 rfl rfl ?_
  exact yw_cV (As := []) (b := 209) (st := []) dX10_take_56 lX10_78 kiX10_anew kvX10_anew rfl rfl rfl (la_209 hW) rfl (Nat.le_of_ble_eq_true rfl) rfl (xk_V k)
theorem bX10_take_59 {mc ms : Nat} {Q : Int32 → xHp → Prop} (hW : xLay sh R) 
    (k : CI mX10_many [.ref 209, .int (nI 0)] (sh, I, R) (fun w h1 => Ex mX10_take 64 [xU, xU, xU, xU, xU] (.int w :: []) h1 mc ms (xqI Q))) :
    Ex mX10_take 59 [.ref 209, xU, xU, xU, xU] [] (sh, I, R) mc ms (xqI Q) := by
  refine xw_aload_n dX10_take_59 rfl rfl ?_
  refine xw_iconst (v := nI 0) dX10_take_60 rfl ?_
  refine yw_sub (lv' := [xU, xU, xU, xU, xU]) ⟨Or.inl rfl, Or.inl rfl, Or.inl rfl, Or.inl rfl, Or.inl rfl, trivial⟩ ?_
  exact yw_cV (As := [.int (nI 0)]) (b := 209) (st := []) dX10_take_61 lX10_95 kiX10_many kvX10_many rfl rfl rfl (la_209 hW) rfl (Nat.le_of_ble_eq_true rfl) rfl (xk_I k)
theorem bX10_take_64 {s0 : Int32} {mc ms : Nat} {Q : Int32 → xHp → Prop} (hW : xLay sh R) 
    (k : Q s0 (sh, I, R)) :
    Ex mX10_take 64 [xU, xU, xU, xU, xU] [.int s0] (sh, I, R) mc ms (xqI Q) := by
  exact yw_iret dX10_take_64 rfl k
theorem eX10_take {v1 : Int32} {v2 : Int32} {v3 : Int32} {h : xHp} {Q : Int32 → xHp → Prop} (k : Ex mX10_take 0 [.ref 209, .int v1, .int v2, .int v3, xU] [] h 0 0 (xqI Q)) : CI mX10_take [.ref 209, .int v1, .int v2, .int v3] h Q := k
theorem bX10_kind_0 {v1 v2 : Int32} {mc ms : Nat} {Q : Int32 → xHp → Prop} (hW : xLay sh R) 
    (k : CI mX10_isShelf [.int v1] (sh, I, R) (fun w h1 => Ex mX10_kind 4 [.ref 209, .int v1, .int v2, xU] (.int w :: []) h1 mc ms (xqI Q))) :
    Ex mX10_kind 0 [.ref 209, .int v1, .int v2, xU] [] (sh, I, R) mc ms (xqI Q) := by
  refine xw_iload_n dX10_kind_0 rfl rfl ?_
  exact yw_cS (As := [.int v1]) (st := []) dX10_kind_1 lX10_370 ksX10_isShelf rfl rfl rfl (Nat.le_of_ble_eq_true rfl) rfl (xk_I k)
theorem bX10_kind_4 {v1 v2 s0 : Int32} {mc ms : Nat} {Q : Int32 → xHp → Prop} (hW : xLay sh R) 
    (k : ((¬ s0 = 0 → CI mX10_foundIn [.ref 209, .int v1, .int (nI 2), .int v2] (sh, I, R) (fun w h1 => Ex mX10_kind 16 [.ref 209, .int v1, .int v2, xU] (.int w :: []) h1 mc ms (xqI Q))) ∧ (s0 = 0 → Q (-1) (sh, I, R)))) :
    Ex mX10_kind 4 [.ref 209, .int v1, .int v2, xU] [.int s0] (sh, I, R) mc ms (xqI Q) := by
  refine xw_ifne (tgt := 9) dX10_kind_4 (by decide) (fun c => ?_) (fun c => ?_)
  · replace k := k.1 c
    refine xw_aload_n dX10_kind_9 rfl rfl ?_
    refine xw_iload_n dX10_kind_10 rfl rfl ?_
    refine xw_iconst (v := nI 2) dX10_kind_11 rfl ?_
    refine xw_iload_n dX10_kind_12 rfl rfl ?_
    exact yw_cV (As := [.int v1, .int (nI 2), .int v2]) (b := 209) (st := []) dX10_kind_13 lX10_376 kiX10_foundIn kvX10_foundIn rfl rfl rfl (la_209 hW) rfl (Nat.le_of_ble_eq_true rfl) rfl (xk_I k)
  · replace k := k.2 c
    refine xw_iconst (v := (-1)) dX10_kind_7 rfl ?_
    exact yw_iret dX10_kind_8 rfl k
theorem bX10_kind_16 {v1 v2 s0 : Int32} {mc ms : Nat} {Q : Int32 → xHp → Prop} (hW : xLay sh R) 
    (k : ((s0 ≤ 0 → vp_in (((nI 8) * v1) + v2) 24 ∧ Q (I 229 ((((nI 8) * v1) + v2).toNatClampNeg)) (sh, I, R)) ∧ (¬ s0 ≤ 0 → Q ((-10) - s0) (sh, I, R)))) :
    Ex mX10_kind 16 [.ref 209, .int v1, .int v2, xU] [.int s0] (sh, I, R) mc ms (xqI Q) := by
  refine yw_istore_n (lv' := [.ref 209, .int v1, .int v2, .int s0]) dX10_kind_16 rfl rfl rfl rfl ?_
  refine xw_iload_n dX10_kind_17 rfl rfl ?_
  refine xw_ifle (tgt := 28) dX10_kind_18 (by decide) (fun c => ?_) (fun c => ?_)
  · replace k := k.1 c
    refine xw_aload_n dX10_kind_28 rfl rfl ?_
    refine yw_getR (r := 229) dX10_kind_29 fX10_75 rfl (la_209 hW) (lr_209_40 hW) ?_
    refine xw_bipush (v := nI 8) dX10_kind_32 (by decide) ?_
    refine xw_iload_n dX10_kind_34 rfl rfl ?_
    refine xw_imul dX10_kind_35 ?_
    refine xw_iload_n dX10_kind_36 rfl rfl ?_
    refine xw_iadd dX10_kind_37 ?_
    obtain ⟨k0, k⟩ := k
    refine yw_iaload (v := I 229 ((((nI 8) * v1) + v2).toNatClampNeg)) dX10_kind_38 (la_229 hW) k0 rfl ?_
    exact yw_iret dX10_kind_39 rfl k
  · replace k := k.2 c
    refine xw_bipush (v := (-10)) dX10_kind_21 (by decide) ?_
    refine xw_iload_n dX10_kind_23 rfl rfl ?_
    refine xw_isub dX10_kind_24 ?_
    refine xw_goto (tgt := 39) dX10_kind_25 (by decide) ?_
    exact yw_iret dX10_kind_39 rfl k
theorem eX10_kind {v1 : Int32} {v2 : Int32} {h : xHp} {Q : Int32 → xHp → Prop} (k : Ex mX10_kind 0 [.ref 209, .int v1, .int v2, xU] [] h 0 0 (xqI Q)) : CI mX10_kind [.ref 209, .int v1, .int v2] h Q := k
end BLKE
