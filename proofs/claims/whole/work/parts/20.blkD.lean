section BLKD
variable {sh : List xSh} {I : Nat → Nat → Int32} {R : Nat → Nat → Option Nat}
theorem bX10_anew_0 {mc ms : Nat} {Q : xHp → Prop} (hW : xLay sh R) 
    (k : vp_in (nI 0) 60 ∧ Q (sh, (xi (xi (xi (xi (xi I 209 10 (nI 0)) 209 11 (nI 1)) 216 ((nI 0).toNatClampNeg) (nI 0)) 209 12 (nI 0)) 209 3 (nI 0)), R)) :
    Ex mX10_anew 0 [.ref 209] [] (sh, I, R) mc ms (xqV Q) := by
  refine xw_aload_n dX10_anew_0 rfl rfl ?_
  refine xw_iconst (v := nI 0) dX10_anew_1 rfl ?_
  refine yw_putI dX10_anew_2 fX10_126 (fun r h => by cases h; exact Or.inl rfl) rfl (la_209 hW) ?_
  refine xw_aload_n dX10_anew_5 rfl rfl ?_
  refine xw_iconst (v := nI 1) dX10_anew_6 rfl ?_
  refine yw_putI dX10_anew_7 fX10_129 (fun r h => by cases h; exact Or.inl rfl) rfl (la_209 hW) ?_
  refine xw_aload_n dX10_anew_10 rfl rfl ?_
  refine yw_getR (r := 216) dX10_anew_11 fX10_35 rfl (la_209 hW) (lr_209_9 hW) ?_
  refine xw_iconst (v := nI 0) dX10_anew_14 rfl ?_
  refine xw_iconst (v := nI 0) dX10_anew_15 rfl ?_
  obtain ⟨k0, k⟩ := k
  refine yw_iastore dX10_anew_16 (la_216 hW) k0 ?_
  refine xw_aload_n dX10_anew_17 rfl rfl ?_
  refine xw_iconst (v := nI 0) dX10_anew_18 rfl ?_
  refine yw_putI dX10_anew_19 fX10_132 (fun r h => by cases h; exact Or.inl rfl) rfl (la_209 hW) ?_
  refine xw_aload_n dX10_anew_22 rfl rfl ?_
  refine xw_iconst (v := nI 0) dX10_anew_23 rfl ?_
  refine yw_putZ dX10_anew_24 fX10_135 (fun r h => by cases h; exact Or.inl rfl) rfl (Or.inl rfl) (la_209 hW) ?_
  exact yw_vret dX10_anew_27 rfl k
theorem eX10_anew {h : xHp} {Q : xHp → Prop} (k : Ex mX10_anew 0 [.ref 209] [] h 0 0 (xqV Q)) : CV mX10_anew [.ref 209] h Q := k
theorem bX10_in_0 {v0 v2 v4 : Int64} {mc ms : Nat} {Q : Int32 → xHp → Prop} (hW : xLay sh R) 
    (k : (((lg_cmp v0 v2) < 0 → Q (nI 0) (sh, I, R)) ∧ (¬ (lg_cmp v0 v2) < 0 → ((0 < (lg_cmp v0 v4) → Q (nI 0) (sh, I, R)) ∧ (¬ 0 < (lg_cmp v0 v4) → Q (nI 1) (sh, I, R)))))) :
    Ex mX10_in 0 [.long v0, xU, .long v2, xU, .long v4, xU] [] (sh, I, R) mc ms (xqI Q) := by
  refine xw_lload_n dX10_in_0 rfl rfl ?_
  refine xw_lload_n dX10_in_1 rfl rfl ?_
  refine xw_lcmp dX10_in_2 ?_
  refine xw_iflt (tgt := 17) dX10_in_3 (by decide) (fun c => ?_) (fun c => ?_)
  · replace k := k.1 c
    refine xw_iconst (v := nI 0) dX10_in_17 rfl ?_
    exact yw_zret dX10_in_18 rfl (by decide) k
  · replace k := k.2 c
    refine xw_lload_n dX10_in_6 rfl rfl ?_
    refine xw_lload dX10_in_7 rfl ?_
    refine xw_lcmp dX10_in_9 ?_
    refine xw_ifgt (tgt := 17) dX10_in_10 (by decide) (fun c => ?_) (fun c => ?_)
    · replace k := k.1 c
      refine xw_iconst (v := nI 0) dX10_in_17 rfl ?_
      exact yw_zret dX10_in_18 rfl (by decide) k
    · replace k := k.2 c
      refine xw_iconst (v := nI 1) dX10_in_13 rfl ?_
      refine xw_goto (tgt := 18) dX10_in_14 (by decide) ?_
      exact yw_zret dX10_in_18 rfl (by decide) k
theorem eX10_in {v0 : Int64} {v2 : Int64} {v4 : Int64} {h : xHp} {Q : Int32 → xHp → Prop} (k : Ex mX10_in 0 [.long v0, xU, .long v2, xU, .long v4, xU] [] h 0 0 (xqI Q)) : CI mX10_in [.long v0, .long v2, .long v4] h Q := k
theorem bX10_feed_0 {v1 : Int32} {mc ms : Nat} {Q : Int32 → xHp → Prop} (hW : xLay sh R) 
    (k : CI mX10_in [.long v1.toInt64, .long (lN 0), .long (127 : Int64)] (sh, I, R) (fun w h1 => Ex mX10_feed 9 [.ref 209, .int v1] (.int w :: []) h1 mc ms (xqI Q))) :
    Ex mX10_feed 0 [.ref 209, .int v1] [] (sh, I, R) mc ms (xqI Q) := by
  refine xw_iload_n dX10_feed_0 rfl rfl ?_
  refine xw_i2l dX10_feed_1 ?_
  refine xw_lconst (v := lN 0) dX10_feed_2 rfl ?_
  refine xw_ldcL dX10_feed_3 cX10_179 ?_
  exact yw_cS (As := [.long v1.toInt64, .long (lN 0), .long (127 : Int64)]) (st := []) dX10_feed_6 lX10_181 ksX10_in rfl rfl rfl (Nat.le_of_ble_eq_true rfl) rfl (xk_I k)
theorem bX10_feed_9 {v1 s0 : Int32} {mc ms : Nat} {Q : Int32 → xHp → Prop} (hW : xLay sh R) 
    (k : ((¬ s0 = 0 → ((¬ (I 209 16) = (nI 200) → vp_in (I 209 16) 200 ∧ Q ((I 209 16) + (nI 1)) (sh, (xi (xi I 218 ((I 209 16).toNatClampNeg) v1) 209 16 ((I 209 16) + (nI 1))), R)) ∧ ((I 209 16) = (nI 200) → Q (-3) (sh, I, R)))) ∧ (s0 = 0 → Q (-1) (sh, I, R)))) :
    Ex mX10_feed 9 [.ref 209, .int v1] [.int s0] (sh, I, R) mc ms (xqI Q) := by
  refine xw_ifne (tgt := 14) dX10_feed_9 (by decide) (fun c => ?_) (fun c => ?_)
  · replace k := k.1 c
    refine xw_aload_n dX10_feed_14 rfl rfl ?_
    refine yw_getI (v := I 209 16) dX10_feed_15 fX10_185 rfl (la_209 hW) rfl ?_
    refine xw_sipush (v := nI 200) dX10_feed_18 (by decide) ?_
    refine xw_icne (tgt := 27) dX10_feed_21 (by decide) (fun c => ?_) (fun c => ?_)
    · replace k := k.1 c
      refine xw_aload_n dX10_feed_27 rfl rfl ?_
      refine yw_getR (r := 218) dX10_feed_28 fX10_41 rfl (la_209 hW) (lr_209_15 hW) ?_
      refine xw_aload_n dX10_feed_31 rfl rfl ?_
      refine yw_getI (v := I 209 16) dX10_feed_32 fX10_185 rfl (la_209 hW) rfl ?_
      refine xw_iload_n dX10_feed_35 rfl rfl ?_
      obtain ⟨k0, k⟩ := k
      refine yw_iastore dX10_feed_36 (la_218 hW) k0 ?_
      refine xw_aload_n dX10_feed_37 rfl rfl ?_
      refine xw_dup dX10_feed_38 rfl ?_
      refine yw_getI (v := I 209 16) dX10_feed_39 fX10_185 rfl (la_209 hW) (xi_p (a := 209) (q := 218) (by decide)) ?_
      refine xw_iconst (v := nI 1) dX10_feed_42 rfl ?_
      refine xw_iadd dX10_feed_43 ?_
      refine yw_putI dX10_feed_44 fX10_185 (fun r h => by cases h; exact Or.inl rfl) rfl (la_209 hW) ?_
      refine xw_aload_n dX10_feed_47 rfl rfl ?_
      refine yw_getI (v := (I 209 16) + (nI 1)) dX10_feed_48 fX10_185 rfl (la_209 hW) (xi_e) ?_
      exact yw_iret dX10_feed_51 rfl k
    · replace k := k.2 c
      refine xw_bipush (v := (-3)) dX10_feed_24 (by decide) ?_
      exact yw_iret dX10_feed_26 rfl k
  · replace k := k.2 c
    refine xw_iconst (v := (-1)) dX10_feed_12 rfl ?_
    exact yw_iret dX10_feed_13 rfl k
theorem eX10_feed {v1 : Int32} {h : xHp} {Q : Int32 → xHp → Prop} (k : Ex mX10_feed 0 [.ref 209, .int v1] [] h 0 0 (xqI Q)) : CI mX10_feed [.ref 209, .int v1] h Q := k
theorem bX10_end_0 {v1 : Int32} {mc ms : Nat} {Q : Int32 → xHp → Prop} (hW : xLay sh R) 
    (k : CI mX10_in [.long v1.toInt64, .long (lN 0), .long ((I 209 16).toInt64)] (sh, I, R) (fun w h1 => Ex mX10_end 11 [.ref 209, .int v1, xU] (.int w :: []) h1 mc ms (xqI Q))) :
    Ex mX10_end 0 [.ref 209, .int v1, xU] [] (sh, I, R) mc ms (xqI Q) := by
  refine xw_iload_n dX10_end_0 rfl rfl ?_
  refine xw_i2l dX10_end_1 ?_
  refine xw_lconst (v := lN 0) dX10_end_2 rfl ?_
  refine xw_aload_n dX10_end_3 rfl rfl ?_
  refine yw_getI (v := I 209 16) dX10_end_4 fX10_185 rfl (la_209 hW) rfl ?_
  refine xw_i2l dX10_end_7 ?_
  exact yw_cS (As := [.long v1.toInt64, .long (lN 0), .long ((I 209 16).toInt64)]) (st := []) dX10_end_8 lX10_181 ksX10_in rfl rfl rfl (Nat.le_of_ble_eq_true rfl) rfl (xk_I k)
theorem bX10_end_11 {v1 s0 : Int32} {mc ms : Nat} {Q : Int32 → xHp → Prop} (hW : xLay sh R) 
    (k : ((¬ s0 = 0 → Q (I 209 16) (sh, (xi I 209 16 v1), R)) ∧ (s0 = 0 → Q (-1) (sh, I, R)))) :
    Ex mX10_end 11 [.ref 209, .int v1, xU] [.int s0] (sh, I, R) mc ms (xqI Q) := by
  refine xw_ifne (tgt := 16) dX10_end_11 (by decide) (fun c => ?_) (fun c => ?_)
  · replace k := k.1 c
    refine xw_aload_n dX10_end_16 rfl rfl ?_
    refine yw_getI (v := I 209 16) dX10_end_17 fX10_185 rfl (la_209 hW) rfl ?_
    refine yw_istore_n (lv' := [.ref 209, .int v1, .int (I 209 16)]) dX10_end_20 rfl rfl rfl rfl ?_
    refine xw_aload_n dX10_end_21 rfl rfl ?_
    refine xw_iload_n dX10_end_22 rfl rfl ?_
    refine yw_putI dX10_end_23 fX10_185 (fun r h => by cases h; exact Or.inl rfl) rfl (la_209 hW) ?_
    refine xw_iload_n dX10_end_26 rfl rfl ?_
    exact yw_iret dX10_end_27 rfl k
  · replace k := k.2 c
    refine xw_iconst (v := (-1)) dX10_end_14 rfl ?_
    exact yw_iret dX10_end_15 rfl k
theorem eX10_end {v1 : Int32} {h : xHp} {Q : Int32 → xHp → Prop} (k : Ex mX10_end 0 [.ref 209, .int v1, xU] [] h 0 0 (xqI Q)) : CI mX10_end [.ref 209, .int v1] h Q := k
theorem bX10_at_0 {v1 v2 : Int32} {mc ms : Nat} {Q : Int32 → xHp → Prop} (hW : xLay sh R) 
    (k : Q (((nI 57) * v1) + v2) (sh, I, R)) :
    Ex mX10_at 0 [.ref 209, .int v1, .int v2] [] (sh, I, R) mc ms (xqI Q) := by
  refine xw_bipush (v := nI 57) dX10_at_0 (by decide) ?_
  refine xw_iload_n dX10_at_2 rfl rfl ?_
  refine xw_imul dX10_at_3 ?_
  refine xw_iload_n dX10_at_4 rfl rfl ?_
  refine xw_iadd dX10_at_5 ?_
  exact yw_iret dX10_at_6 rfl k
theorem eX10_at {v1 : Int32} {v2 : Int32} {h : xHp} {Q : Int32 → xHp → Prop} (k : Ex mX10_at 0 [.ref 209, .int v1, .int v2] [] h 0 0 (xqI Q)) : CI mX10_at [.ref 209, .int v1, .int v2] h Q := k
theorem bX10_empties_0 {v1 : Int32} {mc ms : Nat} {Q : xHp → Prop} (hW : xLay sh R) 
    (k : Ex mX10_empties 2 [.ref 209, .int v1, .int (nI 0)] [] (sh, I, R) mc ms (xqV Q)) :
    Ex mX10_empties 0 [.ref 209, .int v1, xU] [] (sh, I, R) mc ms (xqV Q) := by
  refine xw_iconst (v := nI 0) dX10_empties_0 rfl ?_
  refine yw_istore_n (lv' := [.ref 209, .int v1, .int (nI 0)]) dX10_empties_1 rfl rfl rfl rfl ?_
  exact k
theorem bX10_empties_2 {v1 v2 : Int32} {mc ms : Nat} {Q : xHp → Prop} (hW : xLay sh R) 
    (k : (((nI 57) ≤ v2 → Q (sh, I, R)) ∧ (¬ (nI 57) ≤ v2 → CI mX10_at [.ref 209, .int v1, .int v2] (sh, I, R) (fun w h1 => Ex mX10_empties 18 [.ref 209, .int v1, .int v2] (.int w :: [.ref 210]) h1 mc ms (xqV Q))))) :
    Ex mX10_empties 2 [.ref 209, .int v1, .int v2] [] (sh, I, R) mc ms (xqV Q) := by
  refine xw_iload_n dX10_empties_2 rfl rfl ?_
  refine xw_bipush (v := nI 57) dX10_empties_3 (by decide) ?_
  refine xw_icge (tgt := 26) dX10_empties_5 (by decide) (fun c => ?_) (fun c => ?_)
  · replace k := k.1 c
    exact yw_vret dX10_empties_26 rfl k
  · replace k := k.2 c
    refine xw_aload_n dX10_empties_8 rfl rfl ?_
    refine yw_getR (r := 210) dX10_empties_9 fX10_7 rfl (la_209 hW) (lr_209_0 hW) ?_
    refine xw_aload_n dX10_empties_12 rfl rfl ?_
    refine xw_iload_n dX10_empties_13 rfl rfl ?_
    refine xw_iload_n dX10_empties_14 rfl rfl ?_
    exact yw_cV (As := [.int v1, .int v2]) (b := 209) (st := [.ref 210]) dX10_empties_15 lX10_81 kiX10_at kvX10_at rfl rfl rfl (la_209 hW) rfl (Nat.le_of_ble_eq_true rfl) rfl (xk_I k)
theorem bX10_empties_18 {v1 v2 s1 : Int32} {mc ms : Nat} {Q : xHp → Prop} (hW : xLay sh R) 
    (k : vp_in s1 1881 ∧ Ex mX10_empties 2 [.ref 209, .int v1, .int (v2 + nI 1)] [] (sh, (xi I 210 s1.toNatClampNeg (nI 0)), R) mc ms (xqV Q)) :
    Ex mX10_empties 18 [.ref 209, .int v1, .int v2] [.int s1, .ref 210] (sh, I, R) mc ms (xqV Q) := by
  refine xw_iconst (v := nI 0) dX10_empties_18 rfl ?_
  obtain ⟨k0, k⟩ := k
  refine yw_iastore dX10_empties_19 (la_210 hW) k0 ?_
  refine yw_iinc (lv' := [.ref 209, .int v1, .int (v2 + nI 1)]) (v := nI 1) dX10_empties_20 rfl rfl rfl rfl rfl ?_
  refine xw_goto (tgt := 2) dX10_empties_23 (by decide) ?_
  exact k
theorem eX10_empties {v1 : Int32} {h : xHp} {Q : xHp → Prop} (k : Ex mX10_empties 0 [.ref 209, .int v1, xU] [] h 0 0 (xqV Q)) : CV mX10_empties [.ref 209, .int v1] h Q := k
theorem bX10_byteAt_0 {v1 : Int32} {mc ms : Nat} {Q : Int32 → xHp → Prop} (hW : xLay sh R) 
    (k : (((I 209 16) ≤ v1 → Q (-4) (sh, I, R)) ∧ (¬ (I 209 16) ≤ v1 → vp_in v1 200 ∧ Q (I 218 v1.toNatClampNeg) (sh, I, R)))) :
    Ex mX10_byteAt 0 [.ref 209, .int v1] [] (sh, I, R) mc ms (xqI Q) := by
  refine xw_iload_n dX10_byteAt_0 rfl rfl ?_
  refine xw_aload_n dX10_byteAt_1 rfl rfl ?_
  refine yw_getI (v := I 209 16) dX10_byteAt_2 fX10_185 rfl (la_209 hW) rfl ?_
  refine xw_icge (tgt := 17) dX10_byteAt_5 (by decide) (fun c => ?_) (fun c => ?_)
  · replace k := k.1 c
    refine xw_bipush (v := (-4)) dX10_byteAt_17 (by decide) ?_
    exact yw_iret dX10_byteAt_19 rfl k
  · replace k := k.2 c
    refine xw_aload_n dX10_byteAt_8 rfl rfl ?_
    refine yw_getR (r := 218) dX10_byteAt_9 fX10_41 rfl (la_209 hW) (lr_209_15 hW) ?_
    refine xw_iload_n dX10_byteAt_12 rfl rfl ?_
    obtain ⟨k0, k⟩ := k
    refine yw_iaload (v := I 218 v1.toNatClampNeg) dX10_byteAt_13 (la_218 hW) k0 rfl ?_
    refine xw_goto (tgt := 19) dX10_byteAt_14 (by decide) ?_
    exact yw_iret dX10_byteAt_19 rfl k
theorem eX10_byteAt {v1 : Int32} {h : xHp} {Q : Int32 → xHp → Prop} (k : Ex mX10_byteAt 0 [.ref 209, .int v1] [] h 0 0 (xqI Q)) : CI mX10_byteAt [.ref 209, .int v1] h Q := k
theorem bX10_must_0 {v1 v2 : Int32} {mc ms : Nat} {Q : Int32 → xHp → Prop} (hW : xLay sh R) 
    (k : ((¬ v1 = 0 → ((¬ (I 209 17) = 0 → Q (nI 0) (sh, I, R)) ∧ ((I 209 17) = 0 → Q (nI 1) (sh, I, R)))) ∧ (v1 = 0 → ((¬ (I 209 17) = 0 → ((¬ (I 209 17) = 0 → Q (nI 0) (sh, I, R)) ∧ ((I 209 17) = 0 → Q (nI 1) (sh, I, R)))) ∧ ((I 209 17) = 0 → ((¬ v2 = 0 → Q (nI 0) (sh, (xi (xi I 209 17 v2) 209 18 (I 209 20)), R)) ∧ (v2 = 0 → Q (nI 1) (sh, (xi (xi I 209 17 v2) 209 18 (I 209 20)), R)))))))) :
    Ex mX10_must 0 [.ref 209, .int v1, .int v2] [] (sh, I, R) mc ms (xqI Q) := by
  refine xw_iload_n dX10_must_0 rfl rfl ?_
  refine xw_ifne (tgt := 24) dX10_must_1 (by decide) (fun c => ?_) (fun c => ?_)
  · replace k := k.1 c
    refine xw_aload_n dX10_must_24 rfl rfl ?_
    refine yw_getI (v := I 209 17) dX10_must_25 fX10_188 rfl (la_209 hW) rfl ?_
    refine xw_ifne (tgt := 35) dX10_must_28 (by decide) (fun c => ?_) (fun c => ?_)
    · replace k := k.1 c
      refine xw_iconst (v := nI 0) dX10_must_35 rfl ?_
      exact yw_zret dX10_must_36 rfl (by decide) k
    · replace k := k.2 c
      refine xw_iconst (v := nI 1) dX10_must_31 rfl ?_
      refine xw_goto (tgt := 36) dX10_must_32 (by decide) ?_
      exact yw_zret dX10_must_36 rfl (by decide) k
  · replace k := k.2 c
    refine xw_aload_n dX10_must_4 rfl rfl ?_
    refine yw_getI (v := I 209 17) dX10_must_5 fX10_188 rfl (la_209 hW) rfl ?_
    refine xw_ifne (tgt := 24) dX10_must_8 (by decide) (fun c => ?_) (fun c => ?_)
    · replace k := k.1 c
      refine xw_aload_n dX10_must_24 rfl rfl ?_
      refine yw_getI (v := I 209 17) dX10_must_25 fX10_188 rfl (la_209 hW) rfl ?_
      refine xw_ifne (tgt := 35) dX10_must_28 (by decide) (fun c => ?_) (fun c => ?_)
      · replace k := k.1 c
        refine xw_iconst (v := nI 0) dX10_must_35 rfl ?_
        exact yw_zret dX10_must_36 rfl (by decide) k
      · replace k := k.2 c
        refine xw_iconst (v := nI 1) dX10_must_31 rfl ?_
        refine xw_goto (tgt := 36) dX10_must_32 (by decide) ?_
        exact yw_zret dX10_must_36 rfl (by decide) k
    · replace k := k.2 c
      refine xw_aload_n dX10_must_11 rfl rfl ?_
      refine xw_iload_n dX10_must_12 rfl rfl ?_
      refine yw_putI dX10_must_13 fX10_188 (fun r h => by cases h; exact Or.inl rfl) rfl (la_209 hW) ?_
      refine xw_aload_n dX10_must_16 rfl rfl ?_
      refine xw_aload_n dX10_must_17 rfl rfl ?_
      refine yw_getI (v := I 209 20) dX10_must_18 fX10_191 rfl (la_209 hW) (xi_s (j := 20) (k := 17) (by decide)) ?_
      refine yw_putI dX10_must_21 fX10_194 (fun r h => by cases h; exact Or.inl rfl) rfl (la_209 hW) ?_
      refine xw_aload_n dX10_must_24 rfl rfl ?_
      refine yw_getI (v := v2) dX10_must_25 fX10_188 rfl (la_209 hW) ((xi_s (j := 17) (k := 18) (by decide)).trans (xi_e)) ?_
      refine xw_ifne (tgt := 35) dX10_must_28 (by decide) (fun c => ?_) (fun c => ?_)
      · replace k := k.1 c
        refine xw_iconst (v := nI 0) dX10_must_35 rfl ?_
        exact yw_zret dX10_must_36 rfl (by decide) k
      · replace k := k.2 c
        refine xw_iconst (v := nI 1) dX10_must_31 rfl ?_
        refine xw_goto (tgt := 36) dX10_must_32 (by decide) ?_
        exact yw_zret dX10_must_36 rfl (by decide) k
theorem eX10_must {v1 : Int32} {v2 : Int32} {h : xHp} {Q : Int32 → xHp → Prop} (k : Ex mX10_must 0 [.ref 209, .int v1, .int v2] [] h 0 0 (xqI Q)) : CI mX10_must [.ref 209, .int v1, .int v2] h Q := k
theorem bX10_reads_0 {mc ms : Nat} {Q : xHp → Prop} (hW : xLay sh R) 
    (k : (((I 209 17) ≤ 0 → Ex mX10_reads 8 [.ref 209, xU] [] (sh, I, R) mc ms (xqV Q)) ∧ (¬ (I 209 17) ≤ 0 → Q (sh, I, R)))) :
    Ex mX10_reads 0 [.ref 209, xU] [] (sh, I, R) mc ms (xqV Q) := by
  refine xw_aload_n dX10_reads_0 rfl rfl ?_
  refine yw_getI (v := I 209 17) dX10_reads_1 fX10_188 rfl (la_209 hW) rfl ?_
  refine xw_ifle (tgt := 8) dX10_reads_4 (by decide) (fun c => ?_) (fun c => ?_)
  · replace k := k.1 c
    exact k
  · replace k := k.2 c
    exact yw_vret dX10_reads_7 rfl k
theorem bX10_reads_8 {mc ms : Nat} {Q : xHp → Prop} (hW : xLay sh R) 
    (k : CI mX10_byteAt [.ref 209, .int (I 209 19)] (sh, I, R) (fun w h1 => Ex mX10_reads 16 [.ref 209, xU] (.int w :: []) h1 mc ms (xqV Q))) :
    Ex mX10_reads 8 [.ref 209, xU] [] (sh, I, R) mc ms (xqV Q) := by
  refine xw_aload_n dX10_reads_8 rfl rfl ?_
  refine xw_aload_n dX10_reads_9 rfl rfl ?_
  refine yw_getI (v := I 209 19) dX10_reads_10 fX10_197 rfl (la_209 hW) rfl ?_
  exact yw_cV (As := [.int (I 209 19)]) (b := 209) (st := []) dX10_reads_13 lX10_200 kiX10_byteAt kvX10_byteAt rfl rfl rfl (la_209 hW) rfl (Nat.le_of_ble_eq_true rfl) rfl (xk_I k)
theorem bX10_reads_16 {s0 : Int32} {mc ms : Nat} {Q : xHp → Prop} (hW : xLay sh R) 
    (k : ((¬ s0 = (nI 32) → CI mX10_byteAt [.ref 209, .int (I 209 19)] (sh, (xi I 209 20 (I 209 19)), R) (fun w h1 => Ex mX10_reads 50 [.ref 209, xU] (.int w :: []) h1 mc ms (xqV Q))) ∧ (s0 = (nI 32) → Ex mX10_reads 8 [.ref 209, xU] [] (sh, (xi I 209 19 ((I 209 19) + (nI 1))), R) mc ms (xqV Q)))) :
    Ex mX10_reads 16 [.ref 209, xU] [.int s0] (sh, I, R) mc ms (xqV Q) := by
  refine xw_bipush (v := nI 32) dX10_reads_16 (by decide) ?_
  refine xw_icne (tgt := 34) dX10_reads_18 (by decide) (fun c => ?_) (fun c => ?_)
  · replace k := k.1 c
    refine xw_aload_n dX10_reads_34 rfl rfl ?_
    refine xw_aload_n dX10_reads_35 rfl rfl ?_
    refine yw_getI (v := I 209 19) dX10_reads_36 fX10_197 rfl (la_209 hW) rfl ?_
    refine yw_putI dX10_reads_39 fX10_191 (fun r h => by cases h; exact Or.inl rfl) rfl (la_209 hW) ?_
    refine xw_aload_n dX10_reads_42 rfl rfl ?_
    refine xw_aload_n dX10_reads_43 rfl rfl ?_
    refine yw_getI (v := I 209 19) dX10_reads_44 fX10_197 rfl (la_209 hW) (xi_s (j := 19) (k := 20) (by decide)) ?_
    exact yw_cV (As := [.int (I 209 19)]) (b := 209) (st := []) dX10_reads_47 lX10_200 kiX10_byteAt kvX10_byteAt rfl rfl rfl (la_209 hW) rfl (Nat.le_of_ble_eq_true rfl) rfl (xk_I k)
  · replace k := k.2 c
    refine xw_aload_n dX10_reads_21 rfl rfl ?_
    refine xw_dup dX10_reads_22 rfl ?_
    refine yw_getI (v := I 209 19) dX10_reads_23 fX10_197 rfl (la_209 hW) rfl ?_
    refine xw_iconst (v := nI 1) dX10_reads_26 rfl ?_
    refine xw_iadd dX10_reads_27 ?_
    refine yw_putI dX10_reads_28 fX10_197 (fun r h => by cases h; exact Or.inl rfl) rfl (la_209 hW) ?_
    refine xw_goto (tgt := 8) dX10_reads_31 (by decide) ?_
    exact k
theorem bX10_reads_50 {s0 : Int32} {mc ms : Nat} {Q : xHp → Prop} (hW : xLay sh R) 
    (k : ((¬ s0 = (-4) → CI mX10_in [.long s0.toInt64, .long (97 : Int64), .long (122 : Int64)] (sh, (xi I 209 22 s0), R) (fun w h1 => Ex mX10_reads 81 [.ref 209, .int s0] (.int w :: []) h1 mc ms (xqV Q))) ∧ (s0 = (-4) → Q (sh, (xi (xi I 209 22 s0) 209 21 (nI 0)), R)))) :
    Ex mX10_reads 50 [.ref 209, xU] [.int s0] (sh, I, R) mc ms (xqV Q) := by
  refine yw_istore_n (lv' := [.ref 209, .int s0]) dX10_reads_50 rfl rfl rfl rfl ?_
  refine xw_aload_n dX10_reads_51 rfl rfl ?_
  refine xw_iload_n dX10_reads_52 rfl rfl ?_
  refine yw_putI dX10_reads_53 fX10_203 (fun r h => by cases h; exact Or.inl rfl) rfl (la_209 hW) ?_
  refine xw_iload_n dX10_reads_56 rfl rfl ?_
  refine xw_bipush (v := (-4)) dX10_reads_57 (by decide) ?_
  refine xw_icne (tgt := 70) dX10_reads_59 (by decide) (fun c => ?_) (fun c => ?_)
  · replace k := k.1 c
    refine xw_iload_n dX10_reads_70 rfl rfl ?_
    refine xw_i2l dX10_reads_71 ?_
    refine xw_ldcL dX10_reads_72 cX10_209 ?_
    refine xw_ldcL dX10_reads_75 cX10_211 ?_
    exact yw_cS (As := [.long s0.toInt64, .long (97 : Int64), .long (122 : Int64)]) (st := []) dX10_reads_78 lX10_181 ksX10_in rfl rfl rfl (Nat.le_of_ble_eq_true rfl) rfl (xk_I k)
  · replace k := k.2 c
    refine xw_aload_n dX10_reads_62 rfl rfl ?_
    refine xw_iconst (v := nI 0) dX10_reads_63 rfl ?_
    refine yw_putI dX10_reads_64 fX10_206 (fun r h => by cases h; exact Or.inl rfl) rfl (la_209 hW) ?_
    refine xw_goto (tgt := 283) dX10_reads_67 (by decide) ?_
    exact yw_vret dX10_reads_283 rfl k
theorem bX10_reads_81 {v1 s0 : Int32} {mc ms : Nat} {Q : xHp → Prop} (hW : xLay sh R) 
    (k : ((s0 = 0 → CI mX10_in [.long v1.toInt64, .long (48 : Int64), .long (57 : Int64)] (sh, I, R) (fun w h1 => Ex mX10_reads 134 [.ref 209, .int v1] (.int w :: []) h1 mc ms (xqV Q))) ∧ (¬ s0 = 0 → Ex mX10_reads 89 [.ref 209, xU] [] (sh, (xi I 209 21 (nI 1)), R) mc ms (xqV Q)))) :
    Ex mX10_reads 81 [.ref 209, .int v1] [.int s0] (sh, I, R) mc ms (xqV Q) := by
  refine xw_ifeq (tgt := 123) dX10_reads_81 (by decide) (fun c => ?_) (fun c => ?_)
  · replace k := k.1 c
    refine xw_iload_n dX10_reads_123 rfl rfl ?_
    refine xw_i2l dX10_reads_124 ?_
    refine xw_ldcL dX10_reads_125 cX10_213 ?_
    refine xw_ldcL dX10_reads_128 cX10_215 ?_
    exact yw_cS (As := [.long v1.toInt64, .long (48 : Int64), .long (57 : Int64)]) (st := []) dX10_reads_131 lX10_181 ksX10_in rfl rfl rfl (Nat.le_of_ble_eq_true rfl) rfl (xk_I k)
  · replace k := k.2 c
    refine xw_aload_n dX10_reads_84 rfl rfl ?_
    refine xw_iconst (v := nI 1) dX10_reads_85 rfl ?_
    refine yw_putI dX10_reads_86 fX10_206 (fun r h => by cases h; exact Or.inl rfl) rfl (la_209 hW) ?_
    exact yw_sub (lv' := [.ref 209, xU]) ⟨Or.inr rfl, Or.inl rfl, trivial⟩ k
theorem bX10_reads_134 {v1 s0 : Int32} {mc ms : Nat} {Q : xHp → Prop} (hW : xLay sh R) 
    (k : ((s0 = 0 → ((¬ v1 = (nI 59) → CI mX10_must [.ref 209, .int (nI 0), .int (nI 1)] (sh, (xi I 209 21 (nI 3)), R) (fun w h1 => Ex mX10_reads 272 [.ref 209, xU] (.int w :: []) h1 mc ms (xqV Q))) ∧ (v1 = (nI 59) → CI mX10_must [.ref 209, .int (nI 1), .int (nI 1)] (sh, (xi I 209 21 (nI 3)), R) (fun w h1 => Ex mX10_reads 272 [.ref 209, xU] (.int w :: []) h1 mc ms (xqV Q))))) ∧ (¬ s0 = 0 → Ex mX10_reads 147 [.ref 209, xU] [] (sh, (xi (xi I 209 21 (nI 2)) 209 22 (nI 0)), R) mc ms (xqV Q)))) :
    Ex mX10_reads 134 [.ref 209, .int v1] [.int s0] (sh, I, R) mc ms (xqV Q) := by
  refine xw_ifeq (tgt := 251) dX10_reads_134 (by decide) (fun c => ?_) (fun c => ?_)
  · replace k := k.1 c
    refine xw_aload_n dX10_reads_251 rfl rfl ?_
    refine xw_iconst (v := nI 3) dX10_reads_252 rfl ?_
    refine yw_putI dX10_reads_253 fX10_206 (fun r h => by cases h; exact Or.inl rfl) rfl (la_209 hW) ?_
    refine xw_aload_n dX10_reads_256 rfl rfl ?_
    refine xw_iload_n dX10_reads_257 rfl rfl ?_
    refine xw_bipush (v := nI 59) dX10_reads_258 (by decide) ?_
    refine xw_icne (tgt := 267) dX10_reads_260 (by decide) (fun c => ?_) (fun c => ?_)
    · replace k := k.1 c
      refine xw_iconst (v := nI 0) dX10_reads_267 rfl ?_
      refine xw_iconst (v := nI 1) dX10_reads_268 rfl ?_
      refine yw_sub (lv' := [.ref 209, xU]) ⟨Or.inr rfl, Or.inl rfl, trivial⟩ ?_
      exact yw_cV (As := [.int (nI 0), .int (nI 1)]) (b := 209) (st := []) dX10_reads_269 lX10_217 kiX10_must kvX10_must rfl rfl rfl (la_209 hW) rfl (Nat.le_of_ble_eq_true rfl) rfl (xk_I k)
    · replace k := k.2 c
      refine xw_iconst (v := nI 1) dX10_reads_263 rfl ?_
      refine xw_goto (tgt := 268) dX10_reads_264 (by decide) ?_
      refine xw_iconst (v := nI 1) dX10_reads_268 rfl ?_
      refine yw_sub (lv' := [.ref 209, xU]) ⟨Or.inr rfl, Or.inl rfl, trivial⟩ ?_
      exact yw_cV (As := [.int (nI 1), .int (nI 1)]) (b := 209) (st := []) dX10_reads_269 lX10_217 kiX10_must kvX10_must rfl rfl rfl (la_209 hW) rfl (Nat.le_of_ble_eq_true rfl) rfl (xk_I k)
  · replace k := k.2 c
    refine xw_aload_n dX10_reads_137 rfl rfl ?_
    refine xw_iconst (v := nI 2) dX10_reads_138 rfl ?_
    refine yw_putI dX10_reads_139 fX10_206 (fun r h => by cases h; exact Or.inl rfl) rfl (la_209 hW) ?_
    refine xw_aload_n dX10_reads_142 rfl rfl ?_
    refine xw_iconst (v := nI 0) dX10_reads_143 rfl ?_
    refine yw_putI dX10_reads_144 fX10_203 (fun r h => by cases h; exact Or.inl rfl) rfl (la_209 hW) ?_
    exact yw_sub (lv' := [.ref 209, xU]) ⟨Or.inr rfl, Or.inl rfl, trivial⟩ k
theorem bX10_reads_272 {s0 : Int32} {mc ms : Nat} {Q : xHp → Prop} (hW : xLay sh R) 
    (k : Q (sh, (xi I 209 19 ((I 209 19) + (nI 1))), R)) :
    Ex mX10_reads 272 [.ref 209, xU] [.int s0] (sh, I, R) mc ms (xqV Q) := by
  refine xw_pop dX10_reads_272 rfl ?_
  refine xw_aload_n dX10_reads_273 rfl rfl ?_
  refine xw_dup dX10_reads_274 rfl ?_
  refine yw_getI (v := I 209 19) dX10_reads_275 fX10_197 rfl (la_209 hW) rfl ?_
  refine xw_iconst (v := nI 1) dX10_reads_278 rfl ?_
  refine xw_iadd dX10_reads_279 ?_
  refine yw_putI dX10_reads_280 fX10_197 (fun r h => by cases h; exact Or.inl rfl) rfl (la_209 hW) ?_
  exact yw_vret dX10_reads_283 rfl k
theorem bX10_reads_147 {mc ms : Nat} {Q : xHp → Prop} (hW : xLay sh R) 
    (k : CI mX10_byteAt [.ref 209, .int (I 209 19)] (sh, I, R) (fun w h1 => Ex mX10_reads 155 [.ref 209, xU] (.int w :: []) h1 mc ms (xqV Q))) :
    Ex mX10_reads 147 [.ref 209, xU] [] (sh, I, R) mc ms (xqV Q) := by
  refine xw_aload_n dX10_reads_147 rfl rfl ?_
  refine xw_aload_n dX10_reads_148 rfl rfl ?_
  refine yw_getI (v := I 209 19) dX10_reads_149 fX10_197 rfl (la_209 hW) rfl ?_
  exact yw_cV (As := [.int (I 209 19)]) (b := 209) (st := []) dX10_reads_152 lX10_200 kiX10_byteAt kvX10_byteAt rfl rfl rfl (la_209 hW) rfl (Nat.le_of_ble_eq_true rfl) rfl (xk_I k)
theorem bX10_reads_155 {s0 : Int32} {mc ms : Nat} {Q : xHp → Prop} (hW : xLay sh R) 
    (k : CI mX10_in [.long s0.toInt64, .long (48 : Int64), .long (57 : Int64)] (sh, I, R) (fun w h1 => Ex mX10_reads 165 [.ref 209, xU] (.int w :: []) h1 mc ms (xqV Q))) :
    Ex mX10_reads 155 [.ref 209, xU] [.int s0] (sh, I, R) mc ms (xqV Q) := by
  refine xw_i2l dX10_reads_155 ?_
  refine xw_ldcL dX10_reads_156 cX10_213 ?_
  refine xw_ldcL dX10_reads_159 cX10_215 ?_
  exact yw_cS (As := [.long s0.toInt64, .long (48 : Int64), .long (57 : Int64)]) (st := []) dX10_reads_162 lX10_181 ksX10_in rfl rfl rfl (Nat.le_of_ble_eq_true rfl) rfl (xk_I k)
theorem bX10_reads_165 {s0 : Int32} {mc ms : Nat} {Q : xHp → Prop} (hW : xLay sh R) 
    (k : ((s0 = 0 → (((nI 2) < ((I 209 19) - (I 209 20)) → CI mX10_must [.ref 209, .int (nI 0), .int (nI 1)] (sh, I, R) (fun w h1 => Ex mX10_reads 247 [xU, xU] (.int w :: []) h1 mc ms (xqV Q))) ∧ (¬ (nI 2) < ((I 209 19) - (I 209 20)) → CI mX10_must [.ref 209, .int (nI 1), .int (nI 1)] (sh, I, R) (fun w h1 => Ex mX10_reads 247 [xU, xU] (.int w :: []) h1 mc ms (xqV Q))))) ∧ (¬ s0 = 0 → (((nI 2) ≤ ((I 209 19) - (I 209 20)) → Ex mX10_reads 147 [.ref 209, xU] [] (sh, (xi (xi I 209 22 (I 209 22)) 209 19 ((I 209 19) + (nI 1))), R) mc ms (xqV Q)) ∧ (¬ (nI 2) ≤ ((I 209 19) - (I 209 20)) → CI mX10_byteAt [.ref 209, .int (I 209 19)] (sh, I, R) (fun w h1 => Ex mX10_reads 197 [.ref 209, xU] (.int w :: [.int ((nI 10) * (I 209 22)), .ref 209]) h1 mc ms (xqV Q))))))) :
    Ex mX10_reads 165 [.ref 209, xU] [.int s0] (sh, I, R) mc ms (xqV Q) := by
  refine xw_ifeq (tgt := 224) dX10_reads_165 (by decide) (fun c => ?_) (fun c => ?_)
  · replace k := k.1 c
    refine xw_aload_n dX10_reads_224 rfl rfl ?_
    refine xw_aload_n dX10_reads_225 rfl rfl ?_
    refine yw_getI (v := I 209 19) dX10_reads_226 fX10_197 rfl (la_209 hW) rfl ?_
    refine xw_aload_n dX10_reads_229 rfl rfl ?_
    refine yw_getI (v := I 209 20) dX10_reads_230 fX10_191 rfl (la_209 hW) rfl ?_
    refine xw_isub dX10_reads_233 ?_
    refine xw_iconst (v := nI 2) dX10_reads_234 rfl ?_
    refine xw_icgt (tgt := 242) dX10_reads_235 (by decide) (fun c => ?_) (fun c => ?_)
    · replace k := k.1 c
      refine xw_iconst (v := nI 0) dX10_reads_242 rfl ?_
      refine xw_iconst (v := nI 1) dX10_reads_243 rfl ?_
      refine yw_sub (lv' := [xU, xU]) ⟨Or.inl rfl, Or.inl rfl, trivial⟩ ?_
      exact yw_cV (As := [.int (nI 0), .int (nI 1)]) (b := 209) (st := []) dX10_reads_244 lX10_217 kiX10_must kvX10_must rfl rfl rfl (la_209 hW) rfl (Nat.le_of_ble_eq_true rfl) rfl (xk_I k)
    · replace k := k.2 c
      refine xw_iconst (v := nI 1) dX10_reads_238 rfl ?_
      refine xw_goto (tgt := 243) dX10_reads_239 (by decide) ?_
      refine xw_iconst (v := nI 1) dX10_reads_243 rfl ?_
      refine yw_sub (lv' := [xU, xU]) ⟨Or.inl rfl, Or.inl rfl, trivial⟩ ?_
      exact yw_cV (As := [.int (nI 1), .int (nI 1)]) (b := 209) (st := []) dX10_reads_244 lX10_217 kiX10_must kvX10_must rfl rfl rfl (la_209 hW) rfl (Nat.le_of_ble_eq_true rfl) rfl (xk_I k)
  · replace k := k.2 c
    refine xw_aload_n dX10_reads_168 rfl rfl ?_
    refine xw_aload_n dX10_reads_169 rfl rfl ?_
    refine yw_getI (v := I 209 19) dX10_reads_170 fX10_197 rfl (la_209 hW) rfl ?_
    refine xw_aload_n dX10_reads_173 rfl rfl ?_
    refine yw_getI (v := I 209 20) dX10_reads_174 fX10_191 rfl (la_209 hW) rfl ?_
    refine xw_isub dX10_reads_177 ?_
    refine xw_iconst (v := nI 2) dX10_reads_178 rfl ?_
    refine xw_icge (tgt := 204) dX10_reads_179 (by decide) (fun c => ?_) (fun c => ?_)
    · replace k := k.1 c
      refine xw_aload_n dX10_reads_204 rfl rfl ?_
      refine yw_getI (v := I 209 22) dX10_reads_205 fX10_203 rfl (la_209 hW) rfl ?_
      refine yw_putI dX10_reads_208 fX10_203 (fun r h => by cases h; exact Or.inl rfl) rfl (la_209 hW) ?_
      refine xw_aload_n dX10_reads_211 rfl rfl ?_
      refine xw_dup dX10_reads_212 rfl ?_
      refine yw_getI (v := I 209 19) dX10_reads_213 fX10_197 rfl (la_209 hW) (xi_s (j := 19) (k := 22) (by decide)) ?_
      refine xw_iconst (v := nI 1) dX10_reads_216 rfl ?_
      refine xw_iadd dX10_reads_217 ?_
      refine yw_putI dX10_reads_218 fX10_197 (fun r h => by cases h; exact Or.inl rfl) rfl (la_209 hW) ?_
      refine xw_goto (tgt := 147) dX10_reads_221 (by decide) ?_
      exact k
    · replace k := k.2 c
      refine xw_bipush (v := nI 10) dX10_reads_182 (by decide) ?_
      refine xw_aload_n dX10_reads_184 rfl rfl ?_
      refine yw_getI (v := I 209 22) dX10_reads_185 fX10_203 rfl (la_209 hW) rfl ?_
      refine xw_imul dX10_reads_188 ?_
      refine xw_aload_n dX10_reads_189 rfl rfl ?_
      refine xw_aload_n dX10_reads_190 rfl rfl ?_
      refine yw_getI (v := I 209 19) dX10_reads_191 fX10_197 rfl (la_209 hW) rfl ?_
      exact yw_cV (As := [.int (I 209 19)]) (b := 209) (st := [.int ((nI 10) * (I 209 22)), .ref 209]) dX10_reads_194 lX10_200 kiX10_byteAt kvX10_byteAt rfl rfl rfl (la_209 hW) rfl (Nat.le_of_ble_eq_true rfl) rfl (xk_I k)
theorem bX10_reads_247 {s0 : Int32} {mc ms : Nat} {Q : xHp → Prop} (hW : xLay sh R) 
    (k : Q (sh, I, R)) :
    Ex mX10_reads 247 [xU, xU] [.int s0] (sh, I, R) mc ms (xqV Q) := by
  refine xw_pop dX10_reads_247 rfl ?_
  refine xw_goto (tgt := 283) dX10_reads_248 (by decide) ?_
  exact yw_vret dX10_reads_283 rfl k
theorem bX10_reads_197 {s2 s1 : Int32} {mc ms : Nat} {Q : xHp → Prop} (hW : xLay sh R) 
    (k : Ex mX10_reads 147 [.ref 209, xU] [] (sh, (xi (xi I 209 22 ((s1 + s2) - (nI 48))) 209 19 ((I 209 19) + (nI 1))), R) mc ms (xqV Q)) :
    Ex mX10_reads 197 [.ref 209, xU] [.int s2, .int s1, .ref 209] (sh, I, R) mc ms (xqV Q) := by
  refine xw_iadd dX10_reads_197 ?_
  refine xw_bipush (v := nI 48) dX10_reads_198 (by decide) ?_
  refine xw_isub dX10_reads_200 ?_
  refine xw_goto (tgt := 208) dX10_reads_201 (by decide) ?_
  refine yw_putI dX10_reads_208 fX10_203 (fun r h => by cases h; exact Or.inl rfl) rfl (la_209 hW) ?_
  refine xw_aload_n dX10_reads_211 rfl rfl ?_
  refine xw_dup dX10_reads_212 rfl ?_
  refine yw_getI (v := I 209 19) dX10_reads_213 fX10_197 rfl (la_209 hW) (xi_s (j := 19) (k := 22) (by decide)) ?_
  refine xw_iconst (v := nI 1) dX10_reads_216 rfl ?_
  refine xw_iadd dX10_reads_217 ?_
  refine yw_putI dX10_reads_218 fX10_197 (fun r h => by cases h; exact Or.inl rfl) rfl (la_209 hW) ?_
  refine xw_goto (tgt := 147) dX10_reads_221 (by decide) ?_
  exact k
theorem bX10_reads_89 {mc ms : Nat} {Q : xHp → Prop} (hW : xLay sh R) 
    (k : CI mX10_byteAt [.ref 209, .int (I 209 19)] (sh, I, R) (fun w h1 => Ex mX10_reads 97 [.ref 209, xU] (.int w :: []) h1 mc ms (xqV Q))) :
    Ex mX10_reads 89 [.ref 209, xU] [] (sh, I, R) mc ms (xqV Q) := by
  refine xw_aload_n dX10_reads_89 rfl rfl ?_
  refine xw_aload_n dX10_reads_90 rfl rfl ?_
  refine yw_getI (v := I 209 19) dX10_reads_91 fX10_197 rfl (la_209 hW) rfl ?_
  exact yw_cV (As := [.int (I 209 19)]) (b := 209) (st := []) dX10_reads_94 lX10_200 kiX10_byteAt kvX10_byteAt rfl rfl rfl (la_209 hW) rfl (Nat.le_of_ble_eq_true rfl) rfl (xk_I k)
theorem bX10_reads_97 {s0 : Int32} {mc ms : Nat} {Q : xHp → Prop} (hW : xLay sh R) 
    (k : CI mX10_in [.long s0.toInt64, .long (97 : Int64), .long (122 : Int64)] (sh, I, R) (fun w h1 => Ex mX10_reads 107 [.ref 209, xU] (.int w :: []) h1 mc ms (xqV Q))) :
    Ex mX10_reads 97 [.ref 209, xU] [.int s0] (sh, I, R) mc ms (xqV Q) := by
  refine xw_i2l dX10_reads_97 ?_
  refine xw_ldcL dX10_reads_98 cX10_209 ?_
  refine xw_ldcL dX10_reads_101 cX10_211 ?_
  exact yw_cS (As := [.long s0.toInt64, .long (97 : Int64), .long (122 : Int64)]) (st := []) dX10_reads_104 lX10_181 ksX10_in rfl rfl rfl (Nat.le_of_ble_eq_true rfl) rfl (xk_I k)
theorem bX10_reads_107 {s0 : Int32} {mc ms : Nat} {Q : xHp → Prop} (hW : xLay sh R) 
    (k : ((s0 = 0 → Q (sh, I, R)) ∧ (¬ s0 = 0 → Ex mX10_reads 89 [.ref 209, xU] [] (sh, (xi I 209 19 ((I 209 19) + (nI 1))), R) mc ms (xqV Q)))) :
    Ex mX10_reads 107 [.ref 209, xU] [.int s0] (sh, I, R) mc ms (xqV Q) := by
  refine xw_ifeq (tgt := 283) dX10_reads_107 (by decide) (fun c => ?_) (fun c => ?_)
  · replace k := k.1 c
    exact yw_vret dX10_reads_283 rfl k
  · replace k := k.2 c
    refine xw_aload_n dX10_reads_110 rfl rfl ?_
    refine xw_dup dX10_reads_111 rfl ?_
    refine yw_getI (v := I 209 19) dX10_reads_112 fX10_197 rfl (la_209 hW) rfl ?_
    refine xw_iconst (v := nI 1) dX10_reads_115 rfl ?_
    refine xw_iadd dX10_reads_116 ?_
    refine yw_putI dX10_reads_117 fX10_197 (fun r h => by cases h; exact Or.inl rfl) rfl (la_209 hW) ?_
    refine xw_goto (tgt := 89) dX10_reads_120 (by decide) ?_
    exact k
theorem eX10_reads {h : xHp} {Q : xHp → Prop} (k : Ex mX10_reads 0 [.ref 209, xU] [] h 0 0 (xqV Q)) : CV mX10_reads [.ref 209] h Q := k
theorem bX10_isName_0 {v1 : Int32} {mc ms : Nat} {Q : Int32 → xHp → Prop} (hW : xLay sh R) 
    (k : ((¬ (I 209 21) = (nI 1) → vp_in v1 7 ∧ Ex mX10_isName 48 [.ref 209, .int v1, .int (nI 0), .int (I 219 v1.toNatClampNeg)] [] (sh, I, R) mc ms (xqI Q)) ∧ ((I 209 21) = (nI 1) → vp_in (v1 + (nI 1)) 7 ∧ vp_in v1 7 ∧ ((¬ ((I 209 19) - (I 209 20)) = ((I 219 ((v1 + (nI 1)).toNatClampNeg)) - (I 219 v1.toNatClampNeg)) → vp_in v1 7 ∧ Ex mX10_isName 48 [.ref 209, .int v1, .int (nI 0), .int (I 219 v1.toNatClampNeg)] [] (sh, I, R) mc ms (xqI Q)) ∧ (((I 209 19) - (I 209 20)) = ((I 219 ((v1 + (nI 1)).toNatClampNeg)) - (I 219 v1.toNatClampNeg)) → vp_in v1 7 ∧ Ex mX10_isName 48 [.ref 209, .int v1, .int (nI 1), .int (I 219 v1.toNatClampNeg)] [] (sh, I, R) mc ms (xqI Q)))))) :
    Ex mX10_isName 0 [.ref 209, .int v1, xU, xU] [] (sh, I, R) mc ms (xqI Q) := by
  refine xw_aload_n dX10_isName_0 rfl rfl ?_
  refine yw_getI (v := I 209 21) dX10_isName_1 fX10_206 rfl (la_209 hW) rfl ?_
  refine xw_iconst (v := nI 1) dX10_isName_4 rfl ?_
  refine xw_icne (tgt := 39) dX10_isName_5 (by decide) (fun c => ?_) (fun c => ?_)
  · replace k := k.1 c
    refine xw_iconst (v := nI 0) dX10_isName_39 rfl ?_
    refine yw_istore_n (lv' := [.ref 209, .int v1, .int (nI 0), xU]) dX10_isName_40 rfl rfl rfl rfl ?_
    refine xw_aload_n dX10_isName_41 rfl rfl ?_
    refine yw_getR (r := 219) dX10_isName_42 fX10_44 rfl (la_209 hW) (lr_209_23 hW) ?_
    refine xw_iload_n dX10_isName_45 rfl rfl ?_
    obtain ⟨k0, k⟩ := k
    refine yw_iaload (v := I 219 v1.toNatClampNeg) dX10_isName_46 (la_219 hW) k0 rfl ?_
    refine yw_istore_n (lv' := [.ref 209, .int v1, .int (nI 0), .int (I 219 v1.toNatClampNeg)]) dX10_isName_47 rfl rfl rfl rfl ?_
    exact k
  · replace k := k.2 c
    refine xw_aload_n dX10_isName_8 rfl rfl ?_
    refine yw_getI (v := I 209 19) dX10_isName_9 fX10_197 rfl (la_209 hW) rfl ?_
    refine xw_aload_n dX10_isName_12 rfl rfl ?_
    refine yw_getI (v := I 209 20) dX10_isName_13 fX10_191 rfl (la_209 hW) rfl ?_
    refine xw_isub dX10_isName_16 ?_
    refine xw_aload_n dX10_isName_17 rfl rfl ?_
    refine yw_getR (r := 219) dX10_isName_18 fX10_44 rfl (la_209 hW) (lr_209_23 hW) ?_
    refine xw_iload_n dX10_isName_21 rfl rfl ?_
    refine xw_iconst (v := nI 1) dX10_isName_22 rfl ?_
    refine xw_iadd dX10_isName_23 ?_
    obtain ⟨k0, k⟩ := k
    refine yw_iaload (v := I 219 ((v1 + (nI 1)).toNatClampNeg)) dX10_isName_24 (la_219 hW) k0 rfl ?_
    refine xw_aload_n dX10_isName_25 rfl rfl ?_
    refine yw_getR (r := 219) dX10_isName_26 fX10_44 rfl (la_209 hW) (lr_209_23 hW) ?_
    refine xw_iload_n dX10_isName_29 rfl rfl ?_
    obtain ⟨k0, k⟩ := k
    refine yw_iaload (v := I 219 v1.toNatClampNeg) dX10_isName_30 (la_219 hW) k0 rfl ?_
    refine xw_isub dX10_isName_31 ?_
    refine xw_icne (tgt := 39) dX10_isName_32 (by decide) (fun c => ?_) (fun c => ?_)
    · replace k := k.1 c
      refine xw_iconst (v := nI 0) dX10_isName_39 rfl ?_
      refine yw_istore_n (lv' := [.ref 209, .int v1, .int (nI 0), xU]) dX10_isName_40 rfl rfl rfl rfl ?_
      refine xw_aload_n dX10_isName_41 rfl rfl ?_
      refine yw_getR (r := 219) dX10_isName_42 fX10_44 rfl (la_209 hW) (lr_209_23 hW) ?_
      refine xw_iload_n dX10_isName_45 rfl rfl ?_
      obtain ⟨k0, k⟩ := k
      refine yw_iaload (v := I 219 v1.toNatClampNeg) dX10_isName_46 (la_219 hW) k0 rfl ?_
      refine yw_istore_n (lv' := [.ref 209, .int v1, .int (nI 0), .int (I 219 v1.toNatClampNeg)]) dX10_isName_47 rfl rfl rfl rfl ?_
      exact k
    · replace k := k.2 c
      refine xw_iconst (v := nI 1) dX10_isName_35 rfl ?_
      refine xw_goto (tgt := 40) dX10_isName_36 (by decide) ?_
      refine yw_istore_n (lv' := [.ref 209, .int v1, .int (nI 1), xU]) dX10_isName_40 rfl rfl rfl rfl ?_
      refine xw_aload_n dX10_isName_41 rfl rfl ?_
      refine yw_getR (r := 219) dX10_isName_42 fX10_44 rfl (la_209 hW) (lr_209_23 hW) ?_
      refine xw_iload_n dX10_isName_45 rfl rfl ?_
      obtain ⟨k0, k⟩ := k
      refine yw_iaload (v := I 219 v1.toNatClampNeg) dX10_isName_46 (la_219 hW) k0 rfl ?_
      refine yw_istore_n (lv' := [.ref 209, .int v1, .int (nI 1), .int (I 219 v1.toNatClampNeg)]) dX10_isName_47 rfl rfl rfl rfl ?_
      exact k
theorem bX10_isName_48 {v1 v2 v3 : Int32} {mc ms : Nat} {Q : Int32 → xHp → Prop} (hW : xLay sh R) 
    (k : vp_in (v1 + (nI 1)) 7 ∧ (((I 219 ((v1 + (nI 1)).toNatClampNeg)) ≤ v3 → (v2 = 0 ∨ v2 = 1) ∧ Q v2 (sh, I, R)) ∧ (¬ (I 219 ((v1 + (nI 1)).toNatClampNeg)) ≤ v3 → ((v2 = 0 → (v2 = 0 ∨ v2 = 1) ∧ Q v2 (sh, I, R)) ∧ (¬ v2 = 0 → vp_in v1 7 ∧ CI mX10_byteAt [.ref 209, .int (((I 209 20) + v3) - (I 219 v1.toNatClampNeg))] (sh, I, R) (fun w h1 => Ex mX10_isName 81 [.ref 209, .int v1, xU, .int v3] (.int w :: []) h1 mc ms (xqI Q))))))) :
    Ex mX10_isName 48 [.ref 209, .int v1, .int v2, .int v3] [] (sh, I, R) mc ms (xqI Q) := by
  refine xw_iload_n dX10_isName_48 rfl rfl ?_
  refine xw_aload_n dX10_isName_49 rfl rfl ?_
  refine yw_getR (r := 219) dX10_isName_50 fX10_44 rfl (la_209 hW) (lr_209_23 hW) ?_
  refine xw_iload_n dX10_isName_53 rfl rfl ?_
  refine xw_iconst (v := nI 1) dX10_isName_54 rfl ?_
  refine xw_iadd dX10_isName_55 ?_
  obtain ⟨k0, k⟩ := k
  refine yw_iaload (v := I 219 ((v1 + (nI 1)).toNatClampNeg)) dX10_isName_56 (la_219 hW) k0 rfl ?_
  refine xw_icge (tgt := 102) dX10_isName_57 (by decide) (fun c => ?_) (fun c => ?_)
  · replace k := k.1 c
    refine xw_iload_n dX10_isName_102 rfl rfl ?_
    exact yw_zret dX10_isName_103 rfl (narrow_z _ k.1) k.2
  · replace k := k.2 c
    refine xw_iload_n dX10_isName_60 rfl rfl ?_
    refine xw_ifeq (tgt := 102) dX10_isName_61 (by decide) (fun c => ?_) (fun c => ?_)
    · replace k := k.1 c
      refine xw_iload_n dX10_isName_102 rfl rfl ?_
      exact yw_zret dX10_isName_103 rfl (narrow_z _ k.1) k.2
    · replace k := k.2 c
      refine xw_aload_n dX10_isName_64 rfl rfl ?_
      refine xw_aload_n dX10_isName_65 rfl rfl ?_
      refine yw_getI (v := I 209 20) dX10_isName_66 fX10_191 rfl (la_209 hW) rfl ?_
      refine xw_iload_n dX10_isName_69 rfl rfl ?_
      refine xw_iadd dX10_isName_70 ?_
      refine xw_aload_n dX10_isName_71 rfl rfl ?_
      refine yw_getR (r := 219) dX10_isName_72 fX10_44 rfl (la_209 hW) (lr_209_23 hW) ?_
      refine xw_iload_n dX10_isName_75 rfl rfl ?_
      obtain ⟨k0, k⟩ := k
      refine yw_iaload (v := I 219 v1.toNatClampNeg) dX10_isName_76 (la_219 hW) k0 rfl ?_
      refine xw_isub dX10_isName_77 ?_
      refine yw_sub (lv' := [.ref 209, .int v1, xU, .int v3]) ⟨Or.inr rfl, Or.inr rfl, Or.inl rfl, Or.inr rfl, trivial⟩ ?_
      exact yw_cV (As := [.int (((I 209 20) + v3) - (I 219 v1.toNatClampNeg))]) (b := 209) (st := []) dX10_isName_78 lX10_200 kiX10_byteAt kvX10_byteAt rfl rfl rfl (la_209 hW) rfl (Nat.le_of_ble_eq_true rfl) rfl (xk_I k)
theorem bX10_isName_81 {v1 v3 s0 : Int32} {mc ms : Nat} {Q : Int32 → xHp → Prop} (hW : xLay sh R) 
    (k : vp_in v3 30 ∧ ((¬ s0 = (I 220 v3.toNatClampNeg) → Ex mX10_isName 48 [.ref 209, .int v1, .int (nI 0), .int (v3 + nI 1)] [] (sh, I, R) mc ms (xqI Q)) ∧ (s0 = (I 220 v3.toNatClampNeg) → Ex mX10_isName 48 [.ref 209, .int v1, .int (nI 1), .int (v3 + nI 1)] [] (sh, I, R) mc ms (xqI Q)))) :
    Ex mX10_isName 81 [.ref 209, .int v1, xU, .int v3] [.int s0] (sh, I, R) mc ms (xqI Q) := by
  refine xw_aload_n dX10_isName_81 rfl rfl ?_
  refine yw_getR (r := 220) dX10_isName_82 fX10_47 rfl (la_209 hW) (lr_209_24 hW) ?_
  refine xw_iload_n dX10_isName_85 rfl rfl ?_
  obtain ⟨k0, k⟩ := k
  refine yw_iaload (v := I 220 v3.toNatClampNeg) dX10_isName_86 (la_220 hW) k0 rfl ?_
  refine xw_icne (tgt := 94) dX10_isName_87 (by decide) (fun c => ?_) (fun c => ?_)
  · replace k := k.1 c
    refine xw_iconst (v := nI 0) dX10_isName_94 rfl ?_
    refine yw_istore_n (lv' := [.ref 209, .int v1, .int (nI 0), .int v3]) dX10_isName_95 rfl rfl rfl rfl ?_
    refine yw_iinc (lv' := [.ref 209, .int v1, .int (nI 0), .int (v3 + nI 1)]) (v := nI 1) dX10_isName_96 rfl rfl rfl rfl rfl ?_
    refine xw_goto (tgt := 48) dX10_isName_99 (by decide) ?_
    exact k
  · replace k := k.2 c
    refine xw_iconst (v := nI 1) dX10_isName_90 rfl ?_
    refine xw_goto (tgt := 95) dX10_isName_91 (by decide) ?_
    refine yw_istore_n (lv' := [.ref 209, .int v1, .int (nI 1), .int v3]) dX10_isName_95 rfl rfl rfl rfl ?_
    refine yw_iinc (lv' := [.ref 209, .int v1, .int (nI 1), .int (v3 + nI 1)]) (v := nI 1) dX10_isName_96 rfl rfl rfl rfl rfl ?_
    refine xw_goto (tgt := 48) dX10_isName_99 (by decide) ?_
    exact k
theorem eX10_isName {v1 : Int32} {h : xHp} {Q : Int32 → xHp → Prop} (k : Ex mX10_isName 0 [.ref 209, .int v1, xU, xU] [] h 0 0 (xqI Q)) : CI mX10_isName [.ref 209, .int v1] h Q := k
theorem bX10_nameNow_0 {mc ms : Nat} {Q : Int32 → xHp → Prop} (hW : xLay sh R) 
    (k : Ex mX10_nameNow 2 [.ref 209, .int (nI 0)] [] (sh, I, R) mc ms (xqI Q)) :
    Ex mX10_nameNow 0 [.ref 209, xU] [] (sh, I, R) mc ms (xqI Q) := by
  refine xw_iconst (v := nI 0) dX10_nameNow_0 rfl ?_
  refine yw_istore_n (lv' := [.ref 209, .int (nI 0)]) dX10_nameNow_1 rfl rfl rfl rfl ?_
  exact k
theorem bX10_nameNow_2 {v1 : Int32} {mc ms : Nat} {Q : Int32 → xHp → Prop} (hW : xLay sh R) 
    (k : (((nI 5) < v1 → Q (-4) (sh, I, R)) ∧ (¬ (nI 5) < v1 → CI mX10_isName [.ref 209, .int v1] (sh, I, R) (fun w h1 => Ex mX10_nameNow 12 [.ref 209, .int v1] (.int w :: []) h1 mc ms (xqI Q))))) :
    Ex mX10_nameNow 2 [.ref 209, .int v1] [] (sh, I, R) mc ms (xqI Q) := by
  refine xw_iload_n dX10_nameNow_2 rfl rfl ?_
  refine xw_iconst (v := nI 5) dX10_nameNow_3 rfl ?_
  refine xw_icgt (tgt := 23) dX10_nameNow_4 (by decide) (fun c => ?_) (fun c => ?_)
  · replace k := k.1 c
    refine xw_bipush (v := (-4)) dX10_nameNow_23 (by decide) ?_
    exact yw_iret dX10_nameNow_25 rfl k
  · replace k := k.2 c
    refine xw_aload_n dX10_nameNow_7 rfl rfl ?_
    refine xw_iload_n dX10_nameNow_8 rfl rfl ?_
    exact yw_cV (As := [.int v1]) (b := 209) (st := []) dX10_nameNow_9 lX10_221 kiX10_isName kvX10_isName rfl rfl rfl (la_209 hW) rfl (Nat.le_of_ble_eq_true rfl) rfl (xk_I k)
theorem bX10_nameNow_12 {v1 s0 : Int32} {mc ms : Nat} {Q : Int32 → xHp → Prop} (hW : xLay sh R) 
    (k : ((s0 = 0 → Ex mX10_nameNow 2 [.ref 209, .int (v1 + nI 1)] [] (sh, I, R) mc ms (xqI Q)) ∧ (¬ s0 = 0 → Q v1 (sh, I, R)))) :
    Ex mX10_nameNow 12 [.ref 209, .int v1] [.int s0] (sh, I, R) mc ms (xqI Q) := by
  refine xw_ifeq (tgt := 17) dX10_nameNow_12 (by decide) (fun c => ?_) (fun c => ?_)
  · replace k := k.1 c
    refine yw_iinc (lv' := [.ref 209, .int (v1 + nI 1)]) (v := nI 1) dX10_nameNow_17 rfl rfl rfl rfl rfl ?_
    refine xw_goto (tgt := 2) dX10_nameNow_20 (by decide) ?_
    exact k
  · replace k := k.2 c
    refine xw_iload_n dX10_nameNow_15 rfl rfl ?_
    exact yw_iret dX10_nameNow_16 rfl k
theorem eX10_nameNow {h : xHp} {Q : Int32 → xHp → Prop} (k : Ex mX10_nameNow 0 [.ref 209, xU] [] h 0 0 (xqI Q)) : CI mX10_nameNow [.ref 209] h Q := k
theorem bX10_isPrime_0 {v0 : Int32} {mc ms : Nat} {Q : Int32 → xHp → Prop} (hW : xLay sh R) 
    (k : ((v0 ≤ (nI 1) → Ex mX10_isPrime 13 [.int v0, .int (nI 0), .int (nI 2)] [] (sh, I, R) mc ms (xqI Q)) ∧ (¬ v0 ≤ (nI 1) → Ex mX10_isPrime 13 [.int v0, .int (nI 1), .int (nI 2)] [] (sh, I, R) mc ms (xqI Q)))) :
    Ex mX10_isPrime 0 [.int v0, xU, xU] [] (sh, I, R) mc ms (xqI Q) := by
  refine xw_iload_n dX10_isPrime_0 rfl rfl ?_
  refine xw_iconst (v := nI 1) dX10_isPrime_1 rfl ?_
  refine xw_icle (tgt := 9) dX10_isPrime_2 (by decide) (fun c => ?_) (fun c => ?_)
  · replace k := k.1 c
    refine xw_iconst (v := nI 0) dX10_isPrime_9 rfl ?_
    refine yw_istore_n (lv' := [.int v0, .int (nI 0), xU]) dX10_isPrime_10 rfl rfl rfl rfl ?_
    refine xw_iconst (v := nI 2) dX10_isPrime_11 rfl ?_
    refine yw_istore_n (lv' := [.int v0, .int (nI 0), .int (nI 2)]) dX10_isPrime_12 rfl rfl rfl rfl ?_
    exact k
  · replace k := k.2 c
    refine xw_iconst (v := nI 1) dX10_isPrime_5 rfl ?_
    refine xw_goto (tgt := 10) dX10_isPrime_6 (by decide) ?_
    refine yw_istore_n (lv' := [.int v0, .int (nI 1), xU]) dX10_isPrime_10 rfl rfl rfl rfl ?_
    refine xw_iconst (v := nI 2) dX10_isPrime_11 rfl ?_
    refine yw_istore_n (lv' := [.int v0, .int (nI 1), .int (nI 2)]) dX10_isPrime_12 rfl rfl rfl rfl ?_
    exact k
theorem bX10_isPrime_13 {v0 v1 v2 : Int32} {mc ms : Nat} {Q : Int32 → xHp → Prop} (hW : xLay sh R) 
    (k : ((v0 ≤ v2 → (v1 = 0 ∨ v1 = 1) ∧ Q v1 (sh, I, R)) ∧ (¬ v0 ≤ v2 → ((v1 = 0 → Ex mX10_isPrime 13 [.int v0, .int (nI 0), .int (v2 + nI 1)] [] (sh, I, R) mc ms (xqI Q)) ∧ (¬ v1 = 0 → ¬ v2 = 0 ∧ (((xrem v0 v2) = 0 → Ex mX10_isPrime 13 [.int v0, .int (nI 0), .int (v2 + nI 1)] [] (sh, I, R) mc ms (xqI Q)) ∧ (¬ (xrem v0 v2) = 0 → Ex mX10_isPrime 13 [.int v0, .int (nI 1), .int (v2 + nI 1)] [] (sh, I, R) mc ms (xqI Q)))))))) :
    Ex mX10_isPrime 13 [.int v0, .int v1, .int v2] [] (sh, I, R) mc ms (xqI Q) := by
  refine xw_iload_n dX10_isPrime_13 rfl rfl ?_
  refine xw_iload_n dX10_isPrime_14 rfl rfl ?_
  refine xw_icge (tgt := 40) dX10_isPrime_15 (by decide) (fun c => ?_) (fun c => ?_)
  · replace k := k.1 c
    refine xw_iload_n dX10_isPrime_40 rfl rfl ?_
    exact yw_zret dX10_isPrime_41 rfl (narrow_z _ k.1) k.2
  · replace k := k.2 c
    refine xw_iload_n dX10_isPrime_18 rfl rfl ?_
    refine xw_ifeq (tgt := 32) dX10_isPrime_19 (by decide) (fun c => ?_) (fun c => ?_)
    · replace k := k.1 c
      refine xw_iconst (v := nI 0) dX10_isPrime_32 rfl ?_
      refine yw_istore_n (lv' := [.int v0, .int (nI 0), .int v2]) dX10_isPrime_33 rfl rfl rfl rfl ?_
      refine yw_iinc (lv' := [.int v0, .int (nI 0), .int (v2 + nI 1)]) (v := nI 1) dX10_isPrime_34 rfl rfl rfl rfl rfl ?_
      refine xw_goto (tgt := 13) dX10_isPrime_37 (by decide) ?_
      exact k
    · replace k := k.2 c
      refine xw_iload_n dX10_isPrime_22 rfl rfl ?_
      refine xw_iload_n dX10_isPrime_23 rfl rfl ?_
      obtain ⟨k0, k⟩ := k
      refine yw_irem dX10_isPrime_24 k0 ?_
      refine xw_ifeq (tgt := 32) dX10_isPrime_25 (by decide) (fun c => ?_) (fun c => ?_)
      · replace k := k.1 c
        refine xw_iconst (v := nI 0) dX10_isPrime_32 rfl ?_
        refine yw_istore_n (lv' := [.int v0, .int (nI 0), .int v2]) dX10_isPrime_33 rfl rfl rfl rfl ?_
        refine yw_iinc (lv' := [.int v0, .int (nI 0), .int (v2 + nI 1)]) (v := nI 1) dX10_isPrime_34 rfl rfl rfl rfl rfl ?_
        refine xw_goto (tgt := 13) dX10_isPrime_37 (by decide) ?_
        exact k
      · replace k := k.2 c
        refine xw_iconst (v := nI 1) dX10_isPrime_28 rfl ?_
        refine xw_goto (tgt := 33) dX10_isPrime_29 (by decide) ?_
        refine yw_istore_n (lv' := [.int v0, .int (nI 1), .int v2]) dX10_isPrime_33 rfl rfl rfl rfl ?_
        refine yw_iinc (lv' := [.int v0, .int (nI 1), .int (v2 + nI 1)]) (v := nI 1) dX10_isPrime_34 rfl rfl rfl rfl rfl ?_
        refine xw_goto (tgt := 13) dX10_isPrime_37 (by decide) ?_
        exact k
theorem eX10_isPrime {v0 : Int32} {h : xHp} {Q : Int32 → xHp → Prop} (k : Ex mX10_isPrime 0 [.int v0, xU, xU] [] h 0 0 (xqI Q)) : CI mX10_isPrime [.int v0] h Q := k
theorem bX10_readsPrime_0 {mc ms : Nat} {Q : xHp → Prop} (hW : xLay sh R) 
    (k : ((¬ (I 209 21) = (nI 2) → CI mX10_must [.ref 209, .int (nI 0), .int (nI 2)] (sh, I, R) (fun w h1 => Ex mX10_readsPrime 18 [.ref 209] (.int w :: []) h1 mc ms (xqV Q))) ∧ ((I 209 21) = (nI 2) → CI mX10_must [.ref 209, .int (nI 1), .int (nI 2)] (sh, I, R) (fun w h1 => Ex mX10_readsPrime 18 [.ref 209] (.int w :: []) h1 mc ms (xqV Q))))) :
    Ex mX10_readsPrime 0 [.ref 209] [] (sh, I, R) mc ms (xqV Q) := by
  refine xw_aload_n dX10_readsPrime_0 rfl rfl ?_
  refine xw_aload_n dX10_readsPrime_1 rfl rfl ?_
  refine yw_getI (v := I 209 21) dX10_readsPrime_2 fX10_206 rfl (la_209 hW) rfl ?_
  refine xw_iconst (v := nI 2) dX10_readsPrime_5 rfl ?_
  refine xw_icne (tgt := 13) dX10_readsPrime_6 (by decide) (fun c => ?_) (fun c => ?_)
  · replace k := k.1 c
    refine xw_iconst (v := nI 0) dX10_readsPrime_13 rfl ?_
    refine xw_iconst (v := nI 2) dX10_readsPrime_14 rfl ?_
    exact yw_cV (As := [.int (nI 0), .int (nI 2)]) (b := 209) (st := []) dX10_readsPrime_15 lX10_217 kiX10_must kvX10_must rfl rfl rfl (la_209 hW) rfl (Nat.le_of_ble_eq_true rfl) rfl (xk_I k)
  · replace k := k.2 c
    refine xw_iconst (v := nI 1) dX10_readsPrime_9 rfl ?_
    refine xw_goto (tgt := 14) dX10_readsPrime_10 (by decide) ?_
    refine xw_iconst (v := nI 2) dX10_readsPrime_14 rfl ?_
    exact yw_cV (As := [.int (nI 1), .int (nI 2)]) (b := 209) (st := []) dX10_readsPrime_15 lX10_217 kiX10_must kvX10_must rfl rfl rfl (la_209 hW) rfl (Nat.le_of_ble_eq_true rfl) rfl (xk_I k)
theorem bX10_readsPrime_18 {s0 : Int32} {mc ms : Nat} {Q : xHp → Prop} (hW : xLay sh R) 
    (k : ((0 < (I 209 17) → CI mX10_must [.ref 209, .int (nI 1), .int (nI 3)] (sh, I, R) (fun w h1 => Ex mX10_readsPrime 63 [.ref 209] (.int w :: []) h1 mc ms (xqV Q))) ∧ (¬ 0 < (I 209 17) → CI mX10_in [.long ((I 209 22).toInt64), .long (2 : Int64), .long (97 : Int64)] (sh, I, R) (fun w h1 => Ex mX10_readsPrime 41 [.ref 209] (.int w :: [.ref 209]) h1 mc ms (xqV Q))))) :
    Ex mX10_readsPrime 18 [.ref 209] [.int s0] (sh, I, R) mc ms (xqV Q) := by
  refine xw_pop dX10_readsPrime_18 rfl ?_
  refine xw_aload_n dX10_readsPrime_19 rfl rfl ?_
  refine xw_aload_n dX10_readsPrime_20 rfl rfl ?_
  refine yw_getI (v := I 209 17) dX10_readsPrime_21 fX10_188 rfl (la_209 hW) rfl ?_
  refine xw_ifgt (tgt := 54) dX10_readsPrime_24 (by decide) (fun c => ?_) (fun c => ?_)
  · replace k := k.1 c
    refine xw_iconst (v := nI 1) dX10_readsPrime_54 rfl ?_
    refine xw_goto (tgt := 59) dX10_readsPrime_55 (by decide) ?_
    refine xw_iconst (v := nI 3) dX10_readsPrime_59 rfl ?_
    exact yw_cV (As := [.int (nI 1), .int (nI 3)]) (b := 209) (st := []) dX10_readsPrime_60 lX10_217 kiX10_must kvX10_must rfl rfl rfl (la_209 hW) rfl (Nat.le_of_ble_eq_true rfl) rfl (xk_I k)
  · replace k := k.2 c
    refine xw_aload_n dX10_readsPrime_27 rfl rfl ?_
    refine yw_getI (v := I 209 22) dX10_readsPrime_28 fX10_203 rfl (la_209 hW) rfl ?_
    refine xw_i2l dX10_readsPrime_31 ?_
    refine xw_ldcL dX10_readsPrime_32 cX10_227 ?_
    refine xw_ldcL dX10_readsPrime_35 cX10_209 ?_
    exact yw_cS (As := [.long ((I 209 22).toInt64), .long (2 : Int64), .long (97 : Int64)]) (st := [.ref 209]) dX10_readsPrime_38 lX10_181 ksX10_in rfl rfl rfl (Nat.le_of_ble_eq_true rfl) rfl (xk_I k)
theorem bX10_readsPrime_63 {s0 : Int32} {mc ms : Nat} {Q : xHp → Prop} (hW : xLay sh R) 
    (k : (((I 209 17) ≤ 0 → CV mX10_reads [.ref 209] (sh, (xi I 209 26 (I 209 22)), R) (fun h1 => Ex mX10_readsPrime 90 [xU] [] h1 mc ms (xqV Q))) ∧ (¬ (I 209 17) ≤ 0 → CV mX10_reads [.ref 209] (sh, (xi I 209 26 (I 209 26)), R) (fun h1 => Ex mX10_readsPrime 90 [xU] [] h1 mc ms (xqV Q))))) :
    Ex mX10_readsPrime 63 [.ref 209] [.int s0] (sh, I, R) mc ms (xqV Q) := by
  refine xw_pop dX10_readsPrime_63 rfl ?_
  refine xw_aload_n dX10_readsPrime_64 rfl rfl ?_
  refine xw_aload_n dX10_readsPrime_65 rfl rfl ?_
  refine yw_getI (v := I 209 17) dX10_readsPrime_66 fX10_188 rfl (la_209 hW) rfl ?_
  refine xw_ifle (tgt := 79) dX10_readsPrime_69 (by decide) (fun c => ?_) (fun c => ?_)
  · replace k := k.1 c
    refine xw_aload_n dX10_readsPrime_79 rfl rfl ?_
    refine yw_getI (v := I 209 22) dX10_readsPrime_80 fX10_203 rfl (la_209 hW) rfl ?_
    refine yw_putI dX10_readsPrime_83 fX10_232 (fun r h => by cases h; exact Or.inl rfl) rfl (la_209 hW) ?_
    refine xw_aload_n dX10_readsPrime_86 rfl rfl ?_
    refine yw_sub (lv' := [xU]) ⟨Or.inl rfl, trivial⟩ ?_
    exact yw_cV (As := []) (b := 209) (st := []) dX10_readsPrime_87 lX10_224 kiX10_reads kvX10_reads rfl rfl rfl (la_209 hW) rfl (Nat.le_of_ble_eq_true rfl) rfl (xk_V k)
  · replace k := k.2 c
    refine xw_aload_n dX10_readsPrime_72 rfl rfl ?_
    refine yw_getI (v := I 209 26) dX10_readsPrime_73 fX10_232 rfl (la_209 hW) rfl ?_
    refine xw_goto (tgt := 83) dX10_readsPrime_76 (by decide) ?_
    refine yw_putI dX10_readsPrime_83 fX10_232 (fun r h => by cases h; exact Or.inl rfl) rfl (la_209 hW) ?_
    refine xw_aload_n dX10_readsPrime_86 rfl rfl ?_
    refine yw_sub (lv' := [xU]) ⟨Or.inl rfl, trivial⟩ ?_
    exact yw_cV (As := []) (b := 209) (st := []) dX10_readsPrime_87 lX10_224 kiX10_reads kvX10_reads rfl rfl rfl (la_209 hW) rfl (Nat.le_of_ble_eq_true rfl) rfl (xk_V k)
theorem bX10_readsPrime_90 {mc ms : Nat} {Q : xHp → Prop} (hW : xLay sh R) 
    (k : Q (sh, I, R)) :
    Ex mX10_readsPrime 90 [xU] [] (sh, I, R) mc ms (xqV Q) := by
  exact yw_vret dX10_readsPrime_90 rfl k
theorem bX10_readsPrime_41 {s1 : Int32} {mc ms : Nat} {Q : xHp → Prop} (hW : xLay sh R) 
    (k : ((s1 = 0 → CI mX10_must [.ref 209, .int (nI 0), .int (nI 3)] (sh, I, R) (fun w h1 => Ex mX10_readsPrime 63 [.ref 209] (.int w :: []) h1 mc ms (xqV Q))) ∧ (¬ s1 = 0 → CI mX10_isPrime [.int (I 209 22)] (sh, I, R) (fun w h1 => Ex mX10_readsPrime 51 [.ref 209] (.int w :: [.ref 209]) h1 mc ms (xqV Q))))) :
    Ex mX10_readsPrime 41 [.ref 209] [.int s1, .ref 209] (sh, I, R) mc ms (xqV Q) := by
  refine xw_ifeq (tgt := 58) dX10_readsPrime_41 (by decide) (fun c => ?_) (fun c => ?_)
  · replace k := k.1 c
    refine xw_iconst (v := nI 0) dX10_readsPrime_58 rfl ?_
    refine xw_iconst (v := nI 3) dX10_readsPrime_59 rfl ?_
    exact yw_cV (As := [.int (nI 0), .int (nI 3)]) (b := 209) (st := []) dX10_readsPrime_60 lX10_217 kiX10_must kvX10_must rfl rfl rfl (la_209 hW) rfl (Nat.le_of_ble_eq_true rfl) rfl (xk_I k)
  · replace k := k.2 c
    refine xw_aload_n dX10_readsPrime_44 rfl rfl ?_
    refine yw_getI (v := I 209 22) dX10_readsPrime_45 fX10_203 rfl (la_209 hW) rfl ?_
    exact yw_cS (As := [.int (I 209 22)]) (st := [.ref 209]) dX10_readsPrime_48 lX10_229 ksX10_isPrime rfl rfl rfl (Nat.le_of_ble_eq_true rfl) rfl (xk_I k)
theorem bX10_readsPrime_51 {s1 : Int32} {mc ms : Nat} {Q : xHp → Prop} (hW : xLay sh R) 
    (k : ((s1 = 0 → CI mX10_must [.ref 209, .int (nI 0), .int (nI 3)] (sh, I, R) (fun w h1 => Ex mX10_readsPrime 63 [.ref 209] (.int w :: []) h1 mc ms (xqV Q))) ∧ (¬ s1 = 0 → CI mX10_must [.ref 209, .int (nI 1), .int (nI 3)] (sh, I, R) (fun w h1 => Ex mX10_readsPrime 63 [.ref 209] (.int w :: []) h1 mc ms (xqV Q))))) :
    Ex mX10_readsPrime 51 [.ref 209] [.int s1, .ref 209] (sh, I, R) mc ms (xqV Q) := by
  refine xw_ifeq (tgt := 58) dX10_readsPrime_51 (by decide) (fun c => ?_) (fun c => ?_)
  · replace k := k.1 c
    refine xw_iconst (v := nI 0) dX10_readsPrime_58 rfl ?_
    refine xw_iconst (v := nI 3) dX10_readsPrime_59 rfl ?_
    exact yw_cV (As := [.int (nI 0), .int (nI 3)]) (b := 209) (st := []) dX10_readsPrime_60 lX10_217 kiX10_must kvX10_must rfl rfl rfl (la_209 hW) rfl (Nat.le_of_ble_eq_true rfl) rfl (xk_I k)
  · replace k := k.2 c
    refine xw_iconst (v := nI 1) dX10_readsPrime_54 rfl ?_
    refine xw_goto (tgt := 59) dX10_readsPrime_55 (by decide) ?_
    refine xw_iconst (v := nI 3) dX10_readsPrime_59 rfl ?_
    exact yw_cV (As := [.int (nI 1), .int (nI 3)]) (b := 209) (st := []) dX10_readsPrime_60 lX10_217 kiX10_must kvX10_must rfl rfl rfl (la_209 hW) rfl (Nat.le_of_ble_eq_true rfl) rfl (xk_I k)
theorem eX10_readsPrime {h : xHp} {Q : xHp → Prop} (k : Ex mX10_readsPrime 0 [.ref 209] [] h 0 0 (xqV Q)) : CV mX10_readsPrime [.ref 209] h Q := k
theorem bX10_number_0 {v1 v2 : Int32} {mc ms : Nat} {Q : Int32 → xHp → Prop} (hW : xLay sh R) 
    (k : ((¬ (I 209 21) = (nI 2) → CI mX10_must [.ref 209, .int (nI 0), .int (nI 2)] (sh, I, R) (fun w h1 => Ex mX10_number 18 [.ref 209, .int v1, .int v2, xU] (.int w :: []) h1 mc ms (xqI Q))) ∧ ((I 209 21) = (nI 2) → CI mX10_must [.ref 209, .int (nI 1), .int (nI 2)] (sh, I, R) (fun w h1 => Ex mX10_number 18 [.ref 209, .int v1, .int v2, xU] (.int w :: []) h1 mc ms (xqI Q))))) :
    Ex mX10_number 0 [.ref 209, .int v1, .int v2, xU] [] (sh, I, R) mc ms (xqI Q) := by
  refine xw_aload_n dX10_number_0 rfl rfl ?_
  refine xw_aload_n dX10_number_1 rfl rfl ?_
  refine yw_getI (v := I 209 21) dX10_number_2 fX10_206 rfl (la_209 hW) rfl ?_
  refine xw_iconst (v := nI 2) dX10_number_5 rfl ?_
  refine xw_icne (tgt := 13) dX10_number_6 (by decide) (fun c => ?_) (fun c => ?_)
  · replace k := k.1 c
    refine xw_iconst (v := nI 0) dX10_number_13 rfl ?_
    refine xw_iconst (v := nI 2) dX10_number_14 rfl ?_
    exact yw_cV (As := [.int (nI 0), .int (nI 2)]) (b := 209) (st := []) dX10_number_15 lX10_217 kiX10_must kvX10_must rfl rfl rfl (la_209 hW) rfl (Nat.le_of_ble_eq_true rfl) rfl (xk_I k)
  · replace k := k.2 c
    refine xw_iconst (v := nI 1) dX10_number_9 rfl ?_
    refine xw_goto (tgt := 14) dX10_number_10 (by decide) ?_
    refine xw_iconst (v := nI 2) dX10_number_14 rfl ?_
    exact yw_cV (As := [.int (nI 1), .int (nI 2)]) (b := 209) (st := []) dX10_number_15 lX10_217 kiX10_must kvX10_must rfl rfl rfl (la_209 hW) rfl (Nat.le_of_ble_eq_true rfl) rfl (xk_I k)
theorem bX10_number_18 {v1 v2 s0 : Int32} {mc ms : Nat} {Q : Int32 → xHp → Prop} (hW : xLay sh R) 
    (k : ((0 < (I 209 17) → CI mX10_must [.ref 209, .int (nI 1), .int (nI 3)] (sh, I, R) (fun w h1 => Ex mX10_number 51 [.ref 209, xU, xU, xU] (.int w :: []) h1 mc ms (xqI Q))) ∧ (¬ 0 < (I 209 17) → CI mX10_in [.long ((I 209 22).toInt64), .long v1.toInt64, .long v2.toInt64] (sh, I, R) (fun w h1 => Ex mX10_number 39 [.ref 209, xU, xU, xU] (.int w :: [.ref 209]) h1 mc ms (xqI Q))))) :
    Ex mX10_number 18 [.ref 209, .int v1, .int v2, xU] [.int s0] (sh, I, R) mc ms (xqI Q) := by
  refine xw_pop dX10_number_18 rfl ?_
  refine xw_aload_n dX10_number_19 rfl rfl ?_
  refine xw_aload_n dX10_number_20 rfl rfl ?_
  refine yw_getI (v := I 209 17) dX10_number_21 fX10_188 rfl (la_209 hW) rfl ?_
  refine xw_ifgt (tgt := 42) dX10_number_24 (by decide) (fun c => ?_) (fun c => ?_)
  · replace k := k.1 c
    refine xw_iconst (v := nI 1) dX10_number_42 rfl ?_
    refine xw_goto (tgt := 47) dX10_number_43 (by decide) ?_
    refine xw_iconst (v := nI 3) dX10_number_47 rfl ?_
    refine yw_sub (lv' := [.ref 209, xU, xU, xU]) ⟨Or.inr rfl, Or.inl rfl, Or.inl rfl, Or.inl rfl, trivial⟩ ?_
    exact yw_cV (As := [.int (nI 1), .int (nI 3)]) (b := 209) (st := []) dX10_number_48 lX10_217 kiX10_must kvX10_must rfl rfl rfl (la_209 hW) rfl (Nat.le_of_ble_eq_true rfl) rfl (xk_I k)
  · replace k := k.2 c
    refine xw_aload_n dX10_number_27 rfl rfl ?_
    refine yw_getI (v := I 209 22) dX10_number_28 fX10_203 rfl (la_209 hW) rfl ?_
    refine xw_i2l dX10_number_31 ?_
    refine xw_iload_n dX10_number_32 rfl rfl ?_
    refine xw_i2l dX10_number_33 ?_
    refine xw_iload_n dX10_number_34 rfl rfl ?_
    refine xw_i2l dX10_number_35 ?_
    refine yw_sub (lv' := [.ref 209, xU, xU, xU]) ⟨Or.inr rfl, Or.inl rfl, Or.inl rfl, Or.inl rfl, trivial⟩ ?_
    exact yw_cS (As := [.long ((I 209 22).toInt64), .long v1.toInt64, .long v2.toInt64]) (st := [.ref 209]) dX10_number_36 lX10_181 ksX10_in rfl rfl rfl (Nat.le_of_ble_eq_true rfl) rfl (xk_I k)
theorem bX10_number_51 {s0 : Int32} {mc ms : Nat} {Q : Int32 → xHp → Prop} (hW : xLay sh R) 
    (k : (((I 209 17) ≤ 0 → CV mX10_reads [.ref 209] (sh, I, R) (fun h1 => Ex mX10_number 72 [xU, xU, xU, .int (I 209 22)] [] h1 mc ms (xqI Q))) ∧ (¬ (I 209 17) ≤ 0 → CV mX10_reads [.ref 209] (sh, I, R) (fun h1 => Ex mX10_number 72 [xU, xU, xU, .int (nI 0)] [] h1 mc ms (xqI Q))))) :
    Ex mX10_number 51 [.ref 209, xU, xU, xU] [.int s0] (sh, I, R) mc ms (xqI Q) := by
  refine xw_pop dX10_number_51 rfl ?_
  refine xw_aload_n dX10_number_52 rfl rfl ?_
  refine yw_getI (v := I 209 17) dX10_number_53 fX10_188 rfl (la_209 hW) rfl ?_
  refine xw_ifle (tgt := 63) dX10_number_56 (by decide) (fun c => ?_) (fun c => ?_)
  · replace k := k.1 c
    refine xw_aload_n dX10_number_63 rfl rfl ?_
    refine yw_getI (v := I 209 22) dX10_number_64 fX10_203 rfl (la_209 hW) rfl ?_
    refine yw_istore_n (lv' := [.ref 209, xU, xU, .int (I 209 22)]) dX10_number_67 rfl rfl rfl rfl ?_
    refine xw_aload_n dX10_number_68 rfl rfl ?_
    refine yw_sub (lv' := [xU, xU, xU, .int (I 209 22)]) ⟨Or.inl rfl, Or.inl rfl, Or.inl rfl, Or.inr rfl, trivial⟩ ?_
    exact yw_cV (As := []) (b := 209) (st := []) dX10_number_69 lX10_224 kiX10_reads kvX10_reads rfl rfl rfl (la_209 hW) rfl (Nat.le_of_ble_eq_true rfl) rfl (xk_V k)
  · replace k := k.2 c
    refine xw_iconst (v := nI 0) dX10_number_59 rfl ?_
    refine xw_goto (tgt := 67) dX10_number_60 (by decide) ?_
    refine yw_istore_n (lv' := [.ref 209, xU, xU, .int (nI 0)]) dX10_number_67 rfl rfl rfl rfl ?_
    refine xw_aload_n dX10_number_68 rfl rfl ?_
    refine yw_sub (lv' := [xU, xU, xU, .int (nI 0)]) ⟨Or.inl rfl, Or.inl rfl, Or.inl rfl, Or.inr rfl, trivial⟩ ?_
    exact yw_cV (As := []) (b := 209) (st := []) dX10_number_69 lX10_224 kiX10_reads kvX10_reads rfl rfl rfl (la_209 hW) rfl (Nat.le_of_ble_eq_true rfl) rfl (xk_V k)
theorem bX10_number_72 {v3 : Int32} {mc ms : Nat} {Q : Int32 → xHp → Prop} (hW : xLay sh R) 
    (k : Q v3 (sh, I, R)) :
    Ex mX10_number 72 [xU, xU, xU, .int v3] [] (sh, I, R) mc ms (xqI Q) := by
  refine xw_iload_n dX10_number_72 rfl rfl ?_
  exact yw_iret dX10_number_73 rfl k
theorem bX10_number_39 {s1 : Int32} {mc ms : Nat} {Q : Int32 → xHp → Prop} (hW : xLay sh R) 
    (k : ((s1 = 0 → CI mX10_must [.ref 209, .int (nI 0), .int (nI 3)] (sh, I, R) (fun w h1 => Ex mX10_number 51 [.ref 209, xU, xU, xU] (.int w :: []) h1 mc ms (xqI Q))) ∧ (¬ s1 = 0 → CI mX10_must [.ref 209, .int (nI 1), .int (nI 3)] (sh, I, R) (fun w h1 => Ex mX10_number 51 [.ref 209, xU, xU, xU] (.int w :: []) h1 mc ms (xqI Q))))) :
    Ex mX10_number 39 [.ref 209, xU, xU, xU] [.int s1, .ref 209] (sh, I, R) mc ms (xqI Q) := by
  refine xw_ifeq (tgt := 46) dX10_number_39 (by decide) (fun c => ?_) (fun c => ?_)
  · replace k := k.1 c
    refine xw_iconst (v := nI 0) dX10_number_46 rfl ?_
    refine xw_iconst (v := nI 3) dX10_number_47 rfl ?_
    exact yw_cV (As := [.int (nI 0), .int (nI 3)]) (b := 209) (st := []) dX10_number_48 lX10_217 kiX10_must kvX10_must rfl rfl rfl (la_209 hW) rfl (Nat.le_of_ble_eq_true rfl) rfl (xk_I k)
  · replace k := k.2 c
    refine xw_iconst (v := nI 1) dX10_number_42 rfl ?_
    refine xw_goto (tgt := 47) dX10_number_43 (by decide) ?_
    refine xw_iconst (v := nI 3) dX10_number_47 rfl ?_
    exact yw_cV (As := [.int (nI 1), .int (nI 3)]) (b := 209) (st := []) dX10_number_48 lX10_217 kiX10_must kvX10_must rfl rfl rfl (la_209 hW) rfl (Nat.le_of_ble_eq_true rfl) rfl (xk_I k)
theorem eX10_number {v1 : Int32} {v2 : Int32} {h : xHp} {Q : Int32 → xHp → Prop} (k : Ex mX10_number 0 [.ref 209, .int v1, .int v2, xU] [] h 0 0 (xqI Q)) : CI mX10_number [.ref 209, .int v1, .int v2] h Q := k
theorem bX10_readsState_0 {mc ms : Nat} {Q : Int32 → xHp → Prop} (hW : xLay sh R) 
    (k : CI mX10_number [.ref 209, .int (nI 0), .int (nI 3)] (sh, I, R) (fun w h1 => Ex mX10_readsState 6 [.ref 209, xU] (.int w :: []) h1 mc ms (xqI Q))) :
    Ex mX10_readsState 0 [.ref 209, xU] [] (sh, I, R) mc ms (xqI Q) := by
  refine xw_aload_n dX10_readsState_0 rfl rfl ?_
  refine xw_iconst (v := nI 0) dX10_readsState_1 rfl ?_
  refine xw_iconst (v := nI 3) dX10_readsState_2 rfl ?_
  exact yw_cV (As := [.int (nI 0), .int (nI 3)]) (b := 209) (st := []) dX10_readsState_3 lX10_235 kiX10_number kvX10_number rfl rfl rfl (la_209 hW) rfl (Nat.le_of_ble_eq_true rfl) rfl (xk_I k)
theorem bX10_readsState_6 {s0 : Int32} {mc ms : Nat} {Q : Int32 → xHp → Prop} (hW : xLay sh R) 
    (k : (((s0 + (nI 1)) ≤ (I 209 28) → Q s0 (sh, (xi I 209 28 (I 209 28)), R)) ∧ (¬ (s0 + (nI 1)) ≤ (I 209 28) → Q s0 (sh, (xi I 209 28 (s0 + (nI 1))), R)))) :
    Ex mX10_readsState 6 [.ref 209, xU] [.int s0] (sh, I, R) mc ms (xqI Q) := by
  refine yw_istore_n (lv' := [.ref 209, .int s0]) dX10_readsState_6 rfl rfl rfl rfl ?_
  refine xw_aload_n dX10_readsState_7 rfl rfl ?_
  refine xw_iload_n dX10_readsState_8 rfl rfl ?_
  refine xw_iconst (v := nI 1) dX10_readsState_9 rfl ?_
  refine xw_iadd dX10_readsState_10 ?_
  refine xw_aload_n dX10_readsState_11 rfl rfl ?_
  refine yw_getI (v := I 209 28) dX10_readsState_12 fX10_238 rfl (la_209 hW) rfl ?_
  refine xw_icle (tgt := 24) dX10_readsState_15 (by decide) (fun c => ?_) (fun c => ?_)
  · replace k := k.1 c
    refine xw_aload_n dX10_readsState_24 rfl rfl ?_
    refine yw_getI (v := I 209 28) dX10_readsState_25 fX10_238 rfl (la_209 hW) rfl ?_
    refine yw_putI dX10_readsState_28 fX10_238 (fun r h => by cases h; exact Or.inl rfl) rfl (la_209 hW) ?_
    refine xw_iload_n dX10_readsState_31 rfl rfl ?_
    exact yw_iret dX10_readsState_32 rfl k
  · replace k := k.2 c
    refine xw_iload_n dX10_readsState_18 rfl rfl ?_
    refine xw_iconst (v := nI 1) dX10_readsState_19 rfl ?_
    refine xw_iadd dX10_readsState_20 ?_
    refine xw_goto (tgt := 28) dX10_readsState_21 (by decide) ?_
    refine yw_putI dX10_readsState_28 fX10_238 (fun r h => by cases h; exact Or.inl rfl) rfl (la_209 hW) ?_
    refine xw_iload_n dX10_readsState_31 rfl rfl ?_
    exact yw_iret dX10_readsState_32 rfl k
theorem eX10_readsState {h : xHp} {Q : Int32 → xHp → Prop} (k : Ex mX10_readsState 0 [.ref 209, xU] [] h 0 0 (xqI Q)) : CI mX10_readsState [.ref 209] h Q := k
theorem bX10_weighs_0 {v1 v2 v3 v4 v5 : Int32} {mc ms : Nat} {Q : xHp → Prop} (hW : xLay sh R) 
    (k : CI mX10_at [.ref 209, .int v1, .int ((((nI 9) + ((nI 12) * v2)) + ((nI 4) * v3)) + v4)] (sh, I, R) (fun w h1 => Ex mX10_weighs 23 [xU, xU, xU, xU, xU, .int v5] (.int w :: [.ref 210]) h1 mc ms (xqV Q))) :
    Ex mX10_weighs 0 [.ref 209, .int v1, .int v2, .int v3, .int v4, .int v5] [] (sh, I, R) mc ms (xqV Q) := by
  refine xw_aload_n dX10_weighs_0 rfl rfl ?_
  refine yw_getR (r := 210) dX10_weighs_1 fX10_7 rfl (la_209 hW) (lr_209_0 hW) ?_
  refine xw_aload_n dX10_weighs_4 rfl rfl ?_
  refine xw_iload_n dX10_weighs_5 rfl rfl ?_
  refine xw_bipush (v := nI 9) dX10_weighs_6 (by decide) ?_
  refine xw_bipush (v := nI 12) dX10_weighs_8 (by decide) ?_
  refine xw_iload_n dX10_weighs_10 rfl rfl ?_
  refine xw_imul dX10_weighs_11 ?_
  refine xw_iadd dX10_weighs_12 ?_
  refine xw_iconst (v := nI 4) dX10_weighs_13 rfl ?_
  refine xw_iload_n dX10_weighs_14 rfl rfl ?_
  refine xw_imul dX10_weighs_15 ?_
  refine xw_iadd dX10_weighs_16 ?_
  refine xw_iload dX10_weighs_17 rfl ?_
  refine xw_iadd dX10_weighs_19 ?_
  refine yw_sub (lv' := [xU, xU, xU, xU, xU, .int v5]) ⟨Or.inl rfl, Or.inl rfl, Or.inl rfl, Or.inl rfl, Or.inl rfl, Or.inr rfl, trivial⟩ ?_
  exact yw_cV (As := [.int v1, .int ((((nI 9) + ((nI 12) * v2)) + ((nI 4) * v3)) + v4)]) (b := 209) (st := [.ref 210]) dX10_weighs_20 lX10_81 kiX10_at kvX10_at rfl rfl rfl (la_209 hW) rfl (Nat.le_of_ble_eq_true rfl) rfl (xk_I k)
theorem bX10_weighs_23 {v5 s1 : Int32} {mc ms : Nat} {Q : xHp → Prop} (hW : xLay sh R) 
    (k : vp_in s1 1881 ∧ Q (sh, (xi I 210 s1.toNatClampNeg v5), R)) :
    Ex mX10_weighs 23 [xU, xU, xU, xU, xU, .int v5] [.int s1, .ref 210] (sh, I, R) mc ms (xqV Q) := by
  refine xw_iload dX10_weighs_23 rfl ?_
  obtain ⟨k0, k⟩ := k
  refine yw_iastore dX10_weighs_25 (la_210 hW) k0 ?_
  exact yw_vret dX10_weighs_26 rfl k
theorem eX10_weighs {v1 : Int32} {v2 : Int32} {v3 : Int32} {v4 : Int32} {v5 : Int32} {h : xHp} {Q : xHp → Prop} (k : Ex mX10_weighs 0 [.ref 209, .int v1, .int v2, .int v3, .int v4, .int v5] [] h 0 0 (xqV Q)) : CV mX10_weighs [.ref 209, .int v1, .int v2, .int v3, .int v4, .int v5] h Q := k
theorem bX10_readsEdge_0 {mc ms : Nat} {Q : xHp → Prop} (hW : xLay sh R) 
    (k : CI mX10_readsState [.ref 209] (sh, I, R) (fun w h1 => Ex mX10_readsEdge 4 [.ref 209, xU, xU, xU, xU] (.int w :: []) h1 mc ms (xqV Q))) :
    Ex mX10_readsEdge 0 [.ref 209, xU, xU, xU, xU] [] (sh, I, R) mc ms (xqV Q) := by
  refine xw_aload_n dX10_readsEdge_0 rfl rfl ?_
  exact yw_cV (As := []) (b := 209) (st := []) dX10_readsEdge_1 lX10_241 kiX10_readsState kvX10_readsState rfl rfl rfl (la_209 hW) rfl (Nat.le_of_ble_eq_true rfl) rfl (xk_I k)
theorem bX10_readsEdge_4 {s0 : Int32} {mc ms : Nat} {Q : xHp → Prop} (hW : xLay sh R) 
    (k : ((¬ (I 209 21) = (nI 1) → CI mX10_must [.ref 209, .int (nI 0), .int (nI 2)] (sh, I, R) (fun w h1 => Ex mX10_readsEdge 53 [.ref 209, .int s0, xU, xU, xU] (.int w :: []) h1 mc ms (xqV Q))) ∧ ((I 209 21) = (nI 1) → ((¬ ((I 209 19) - (I 209 20)) = (nI 1) → CI mX10_must [.ref 209, .int (nI 0), .int (nI 2)] (sh, I, R) (fun w h1 => Ex mX10_readsEdge 53 [.ref 209, .int s0, xU, xU, xU] (.int w :: []) h1 mc ms (xqV Q))) ∧ (((I 209 19) - (I 209 20)) = (nI 1) → CI mX10_in [.long ((I 209 22).toInt64), .long (97 : Int64), .long (99 : Int64)] (sh, I, R) (fun w h1 => Ex mX10_readsEdge 41 [.ref 209, .int s0, xU, xU, xU] (.int w :: [.ref 209]) h1 mc ms (xqV Q))))))) :
    Ex mX10_readsEdge 4 [.ref 209, xU, xU, xU, xU] [.int s0] (sh, I, R) mc ms (xqV Q) := by
  refine yw_istore_n (lv' := [.ref 209, .int s0, xU, xU, xU]) dX10_readsEdge_4 rfl rfl rfl rfl ?_
  refine xw_aload_n dX10_readsEdge_5 rfl rfl ?_
  refine xw_aload_n dX10_readsEdge_6 rfl rfl ?_
  refine yw_getI (v := I 209 21) dX10_readsEdge_7 fX10_206 rfl (la_209 hW) rfl ?_
  refine xw_iconst (v := nI 1) dX10_readsEdge_10 rfl ?_
  refine xw_icne (tgt := 48) dX10_readsEdge_11 (by decide) (fun c => ?_) (fun c => ?_)
  · replace k := k.1 c
    refine xw_iconst (v := nI 0) dX10_readsEdge_48 rfl ?_
    refine xw_iconst (v := nI 2) dX10_readsEdge_49 rfl ?_
    exact yw_cV (As := [.int (nI 0), .int (nI 2)]) (b := 209) (st := []) dX10_readsEdge_50 lX10_217 kiX10_must kvX10_must rfl rfl rfl (la_209 hW) rfl (Nat.le_of_ble_eq_true rfl) rfl (xk_I k)
  · replace k := k.2 c
    refine xw_aload_n dX10_readsEdge_14 rfl rfl ?_
    refine yw_getI (v := I 209 19) dX10_readsEdge_15 fX10_197 rfl (la_209 hW) rfl ?_
    refine xw_aload_n dX10_readsEdge_18 rfl rfl ?_
    refine yw_getI (v := I 209 20) dX10_readsEdge_19 fX10_191 rfl (la_209 hW) rfl ?_
    refine xw_isub dX10_readsEdge_22 ?_
    refine xw_iconst (v := nI 1) dX10_readsEdge_23 rfl ?_
    refine xw_icne (tgt := 48) dX10_readsEdge_24 (by decide) (fun c => ?_) (fun c => ?_)
    · replace k := k.1 c
      refine xw_iconst (v := nI 0) dX10_readsEdge_48 rfl ?_
      refine xw_iconst (v := nI 2) dX10_readsEdge_49 rfl ?_
      exact yw_cV (As := [.int (nI 0), .int (nI 2)]) (b := 209) (st := []) dX10_readsEdge_50 lX10_217 kiX10_must kvX10_must rfl rfl rfl (la_209 hW) rfl (Nat.le_of_ble_eq_true rfl) rfl (xk_I k)
    · replace k := k.2 c
      refine xw_aload_n dX10_readsEdge_27 rfl rfl ?_
      refine yw_getI (v := I 209 22) dX10_readsEdge_28 fX10_203 rfl (la_209 hW) rfl ?_
      refine xw_i2l dX10_readsEdge_31 ?_
      refine xw_ldcL dX10_readsEdge_32 cX10_209 ?_
      refine xw_ldcL dX10_readsEdge_35 cX10_244 ?_
      exact yw_cS (As := [.long ((I 209 22).toInt64), .long (97 : Int64), .long (99 : Int64)]) (st := [.ref 209]) dX10_readsEdge_38 lX10_181 ksX10_in rfl rfl rfl (Nat.le_of_ble_eq_true rfl) rfl (xk_I k)
theorem bX10_readsEdge_53 {v1 s0 : Int32} {mc ms : Nat} {Q : xHp → Prop} (hW : xLay sh R) 
    (k : (((I 209 17) ≤ 0 → (((((I 209 22) - (nI 97)) + (nI 1)) ≤ (I 209 29) → CV mX10_reads [.ref 209] (sh, (xi I 209 29 (I 209 29)), R) (fun h1 => Ex mX10_readsEdge 101 [.ref 209, .int v1, .int ((I 209 22) - (nI 97)), xU, xU] [] h1 mc ms (xqV Q))) ∧ (¬ (((I 209 22) - (nI 97)) + (nI 1)) ≤ (I 209 29) → CV mX10_reads [.ref 209] (sh, (xi I 209 29 (((I 209 22) - (nI 97)) + (nI 1))), R) (fun h1 => Ex mX10_readsEdge 101 [.ref 209, .int v1, .int ((I 209 22) - (nI 97)), xU, xU] [] h1 mc ms (xqV Q))))) ∧ (¬ (I 209 17) ≤ 0 → ((((nI 0) + (nI 1)) ≤ (I 209 29) → CV mX10_reads [.ref 209] (sh, (xi I 209 29 (I 209 29)), R) (fun h1 => Ex mX10_readsEdge 101 [.ref 209, .int v1, .int (nI 0), xU, xU] [] h1 mc ms (xqV Q))) ∧ (¬ ((nI 0) + (nI 1)) ≤ (I 209 29) → CV mX10_reads [.ref 209] (sh, (xi I 209 29 ((nI 0) + (nI 1))), R) (fun h1 => Ex mX10_readsEdge 101 [.ref 209, .int v1, .int (nI 0), xU, xU] [] h1 mc ms (xqV Q))))))) :
    Ex mX10_readsEdge 53 [.ref 209, .int v1, xU, xU, xU] [.int s0] (sh, I, R) mc ms (xqV Q) := by
  refine xw_pop dX10_readsEdge_53 rfl ?_
  refine xw_aload_n dX10_readsEdge_54 rfl rfl ?_
  refine yw_getI (v := I 209 17) dX10_readsEdge_55 fX10_188 rfl (la_209 hW) rfl ?_
  refine xw_ifle (tgt := 65) dX10_readsEdge_58 (by decide) (fun c => ?_) (fun c => ?_)
  · replace k := k.1 c
    refine xw_aload_n dX10_readsEdge_65 rfl rfl ?_
    refine yw_getI (v := I 209 22) dX10_readsEdge_66 fX10_203 rfl (la_209 hW) rfl ?_
    refine xw_bipush (v := nI 97) dX10_readsEdge_69 (by decide) ?_
    refine xw_isub dX10_readsEdge_71 ?_
    refine yw_istore_n (lv' := [.ref 209, .int v1, .int ((I 209 22) - (nI 97)), xU, xU]) dX10_readsEdge_72 rfl rfl rfl rfl ?_
    refine xw_aload_n dX10_readsEdge_73 rfl rfl ?_
    refine xw_iload_n dX10_readsEdge_74 rfl rfl ?_
    refine xw_iconst (v := nI 1) dX10_readsEdge_75 rfl ?_
    refine xw_iadd dX10_readsEdge_76 ?_
    refine xw_aload_n dX10_readsEdge_77 rfl rfl ?_
    refine yw_getI (v := I 209 29) dX10_readsEdge_78 fX10_246 rfl (la_209 hW) rfl ?_
    refine xw_icle (tgt := 90) dX10_readsEdge_81 (by decide) (fun c => ?_) (fun c => ?_)
    · replace k := k.1 c
      refine xw_aload_n dX10_readsEdge_90 rfl rfl ?_
      refine yw_getI (v := I 209 29) dX10_readsEdge_91 fX10_246 rfl (la_209 hW) rfl ?_
      refine yw_putI dX10_readsEdge_94 fX10_246 (fun r h => by cases h; exact Or.inl rfl) rfl (la_209 hW) ?_
      refine xw_aload_n dX10_readsEdge_97 rfl rfl ?_
      exact yw_cV (As := []) (b := 209) (st := []) dX10_readsEdge_98 lX10_224 kiX10_reads kvX10_reads rfl rfl rfl (la_209 hW) rfl (Nat.le_of_ble_eq_true rfl) rfl (xk_V k)
    · replace k := k.2 c
      refine xw_iload_n dX10_readsEdge_84 rfl rfl ?_
      refine xw_iconst (v := nI 1) dX10_readsEdge_85 rfl ?_
      refine xw_iadd dX10_readsEdge_86 ?_
      refine xw_goto (tgt := 94) dX10_readsEdge_87 (by decide) ?_
      refine yw_putI dX10_readsEdge_94 fX10_246 (fun r h => by cases h; exact Or.inl rfl) rfl (la_209 hW) ?_
      refine xw_aload_n dX10_readsEdge_97 rfl rfl ?_
      exact yw_cV (As := []) (b := 209) (st := []) dX10_readsEdge_98 lX10_224 kiX10_reads kvX10_reads rfl rfl rfl (la_209 hW) rfl (Nat.le_of_ble_eq_true rfl) rfl (xk_V k)
  · replace k := k.2 c
    refine xw_iconst (v := nI 0) dX10_readsEdge_61 rfl ?_
    refine xw_goto (tgt := 72) dX10_readsEdge_62 (by decide) ?_
    refine yw_istore_n (lv' := [.ref 209, .int v1, .int (nI 0), xU, xU]) dX10_readsEdge_72 rfl rfl rfl rfl ?_
    refine xw_aload_n dX10_readsEdge_73 rfl rfl ?_
    refine xw_iload_n dX10_readsEdge_74 rfl rfl ?_
    refine xw_iconst (v := nI 1) dX10_readsEdge_75 rfl ?_
    refine xw_iadd dX10_readsEdge_76 ?_
    refine xw_aload_n dX10_readsEdge_77 rfl rfl ?_
    refine yw_getI (v := I 209 29) dX10_readsEdge_78 fX10_246 rfl (la_209 hW) rfl ?_
    refine xw_icle (tgt := 90) dX10_readsEdge_81 (by decide) (fun c => ?_) (fun c => ?_)
    · replace k := k.1 c
      refine xw_aload_n dX10_readsEdge_90 rfl rfl ?_
      refine yw_getI (v := I 209 29) dX10_readsEdge_91 fX10_246 rfl (la_209 hW) rfl ?_
      refine yw_putI dX10_readsEdge_94 fX10_246 (fun r h => by cases h; exact Or.inl rfl) rfl (la_209 hW) ?_
      refine xw_aload_n dX10_readsEdge_97 rfl rfl ?_
      exact yw_cV (As := []) (b := 209) (st := []) dX10_readsEdge_98 lX10_224 kiX10_reads kvX10_reads rfl rfl rfl (la_209 hW) rfl (Nat.le_of_ble_eq_true rfl) rfl (xk_V k)
    · replace k := k.2 c
      refine xw_iload_n dX10_readsEdge_84 rfl rfl ?_
      refine xw_iconst (v := nI 1) dX10_readsEdge_85 rfl ?_
      refine xw_iadd dX10_readsEdge_86 ?_
      refine xw_goto (tgt := 94) dX10_readsEdge_87 (by decide) ?_
      refine yw_putI dX10_readsEdge_94 fX10_246 (fun r h => by cases h; exact Or.inl rfl) rfl (la_209 hW) ?_
      refine xw_aload_n dX10_readsEdge_97 rfl rfl ?_
      exact yw_cV (As := []) (b := 209) (st := []) dX10_readsEdge_98 lX10_224 kiX10_reads kvX10_reads rfl rfl rfl (la_209 hW) rfl (Nat.le_of_ble_eq_true rfl) rfl (xk_V k)
theorem bX10_readsEdge_101 {v1 v2 : Int32} {mc ms : Nat} {Q : xHp → Prop} (hW : xLay sh R) 
    (k : CI mX10_readsState [.ref 209] (sh, I, R) (fun w h1 => Ex mX10_readsEdge 105 [.ref 209, .int v1, .int v2, xU, xU] (.int w :: []) h1 mc ms (xqV Q))) :
    Ex mX10_readsEdge 101 [.ref 209, .int v1, .int v2, xU, xU] [] (sh, I, R) mc ms (xqV Q) := by
  refine xw_aload_n dX10_readsEdge_101 rfl rfl ?_
  exact yw_cV (As := []) (b := 209) (st := []) dX10_readsEdge_102 lX10_241 kiX10_readsState kvX10_readsState rfl rfl rfl (la_209 hW) rfl (Nat.le_of_ble_eq_true rfl) rfl (xk_I k)
theorem bX10_readsEdge_105 {v1 v2 s0 : Int32} {mc ms : Nat} {Q : xHp → Prop} (hW : xLay sh R) 
    (k : CI mX10_number [.ref 209, .int (nI 0), .int (nI 99)] (sh, I, R) (fun w h1 => Ex mX10_readsEdge 113 [.ref 209, .int v1, .int v2, .int s0, xU] (.int w :: []) h1 mc ms (xqV Q))) :
    Ex mX10_readsEdge 105 [.ref 209, .int v1, .int v2, xU, xU] [.int s0] (sh, I, R) mc ms (xqV Q) := by
  refine yw_istore_n (lv' := [.ref 209, .int v1, .int v2, .int s0, xU]) dX10_readsEdge_105 rfl rfl rfl rfl ?_
  refine xw_aload_n dX10_readsEdge_106 rfl rfl ?_
  refine xw_iconst (v := nI 0) dX10_readsEdge_107 rfl ?_
  refine xw_bipush (v := nI 99) dX10_readsEdge_108 (by decide) ?_
  exact yw_cV (As := [.int (nI 0), .int (nI 99)]) (b := 209) (st := []) dX10_readsEdge_110 lX10_235 kiX10_number kvX10_number rfl rfl rfl (la_209 hW) rfl (Nat.le_of_ble_eq_true rfl) rfl (xk_I k)
theorem bX10_readsEdge_113 {v1 v2 v3 s0 : Int32} {mc ms : Nat} {Q : xHp → Prop} (hW : xLay sh R) 
    (k : ((¬ (I 209 17) = 0 → Q (sh, I, R)) ∧ ((I 209 17) = 0 → CV mX10_weighs [.ref 209, .int (nI 31), .int v1, .int v2, .int v3, .int s0] (sh, I, R) (fun h1 => Ex mX10_readsEdge 133 [xU, xU, xU, xU, xU] [] h1 mc ms (xqV Q))))) :
    Ex mX10_readsEdge 113 [.ref 209, .int v1, .int v2, .int v3, xU] [.int s0] (sh, I, R) mc ms (xqV Q) := by
  refine yw_istore (lv' := [.ref 209, .int v1, .int v2, .int v3, .int s0]) dX10_readsEdge_113 rfl rfl rfl ?_
  refine xw_aload_n dX10_readsEdge_115 rfl rfl ?_
  refine yw_getI (v := I 209 17) dX10_readsEdge_116 fX10_188 rfl (la_209 hW) rfl ?_
  refine xw_ifne (tgt := 133) dX10_readsEdge_119 (by decide) (fun c => ?_) (fun c => ?_)
  · replace k := k.1 c
    exact yw_vret dX10_readsEdge_133 rfl k
  · replace k := k.2 c
    refine xw_aload_n dX10_readsEdge_122 rfl rfl ?_
    refine xw_bipush (v := nI 31) dX10_readsEdge_123 (by decide) ?_
    refine xw_iload_n dX10_readsEdge_125 rfl rfl ?_
    refine xw_iload_n dX10_readsEdge_126 rfl rfl ?_
    refine xw_iload_n dX10_readsEdge_127 rfl rfl ?_
    refine xw_iload dX10_readsEdge_128 rfl ?_
    refine yw_sub (lv' := [xU, xU, xU, xU, xU]) ⟨Or.inl rfl, Or.inl rfl, Or.inl rfl, Or.inl rfl, Or.inl rfl, trivial⟩ ?_
    exact yw_cV (As := [.int (nI 31), .int v1, .int v2, .int v3, .int s0]) (b := 209) (st := []) dX10_readsEdge_130 lX10_160 kiX10_weighs kvX10_weighs rfl rfl rfl (la_209 hW) rfl (Nat.le_of_ble_eq_true rfl) rfl (xk_V k)
theorem bX10_readsEdge_133 {mc ms : Nat} {Q : xHp → Prop} (hW : xLay sh R) 
    (k : Q (sh, I, R)) :
    Ex mX10_readsEdge 133 [xU, xU, xU, xU, xU] [] (sh, I, R) mc ms (xqV Q) := by
  exact yw_vret dX10_readsEdge_133 rfl k
theorem bX10_readsEdge_41 {v1 s1 : Int32} {mc ms : Nat} {Q : xHp → Prop} (hW : xLay sh R) 
    (k : ((s1 = 0 → CI mX10_must [.ref 209, .int (nI 0), .int (nI 2)] (sh, I, R) (fun w h1 => Ex mX10_readsEdge 53 [.ref 209, .int v1, xU, xU, xU] (.int w :: []) h1 mc ms (xqV Q))) ∧ (¬ s1 = 0 → CI mX10_must [.ref 209, .int (nI 1), .int (nI 2)] (sh, I, R) (fun w h1 => Ex mX10_readsEdge 53 [.ref 209, .int v1, xU, xU, xU] (.int w :: []) h1 mc ms (xqV Q))))) :
    Ex mX10_readsEdge 41 [.ref 209, .int v1, xU, xU, xU] [.int s1, .ref 209] (sh, I, R) mc ms (xqV Q) := by
  refine xw_ifeq (tgt := 48) dX10_readsEdge_41 (by decide) (fun c => ?_) (fun c => ?_)
  · replace k := k.1 c
    refine xw_iconst (v := nI 0) dX10_readsEdge_48 rfl ?_
    refine xw_iconst (v := nI 2) dX10_readsEdge_49 rfl ?_
    exact yw_cV (As := [.int (nI 0), .int (nI 2)]) (b := 209) (st := []) dX10_readsEdge_50 lX10_217 kiX10_must kvX10_must rfl rfl rfl (la_209 hW) rfl (Nat.le_of_ble_eq_true rfl) rfl (xk_I k)
  · replace k := k.2 c
    refine xw_iconst (v := nI 1) dX10_readsEdge_44 rfl ?_
    refine xw_goto (tgt := 49) dX10_readsEdge_45 (by decide) ?_
    refine xw_iconst (v := nI 2) dX10_readsEdge_49 rfl ?_
    exact yw_cV (As := [.int (nI 1), .int (nI 2)]) (b := 209) (st := []) dX10_readsEdge_50 lX10_217 kiX10_must kvX10_must rfl rfl rfl (la_209 hW) rfl (Nat.le_of_ble_eq_true rfl) rfl (xk_I k)
theorem eX10_readsEdge {h : xHp} {Q : xHp → Prop} (k : Ex mX10_readsEdge 0 [.ref 209, xU, xU, xU, xU] [] h 0 0 (xqV Q)) : CV mX10_readsEdge [.ref 209] h Q := k
theorem bX10_readsMark_0 {v1 : Int32} {mc ms : Nat} {Q : xHp → Prop} (hW : xLay sh R) 
    (k : CI mX10_readsState [.ref 209] (sh, I, R) (fun w h1 => Ex mX10_readsMark 4 [.ref 209, .int v1, xU, xU] (.int w :: []) h1 mc ms (xqV Q))) :
    Ex mX10_readsMark 0 [.ref 209, .int v1, xU, xU] [] (sh, I, R) mc ms (xqV Q) := by
  refine xw_aload_n dX10_readsMark_0 rfl rfl ?_
  exact yw_cV (As := []) (b := 209) (st := []) dX10_readsMark_1 lX10_241 kiX10_readsState kvX10_readsState rfl rfl rfl (la_209 hW) rfl (Nat.le_of_ble_eq_true rfl) rfl (xk_I k)
theorem bX10_readsMark_4 {v1 s0 : Int32} {mc ms : Nat} {Q : xHp → Prop} (hW : xLay sh R) 
    (k : CI mX10_number [.ref 209, .int (nI 0), .int (nI 99)] (sh, I, R) (fun w h1 => Ex mX10_readsMark 12 [.ref 209, .int v1, .int s0, xU] (.int w :: []) h1 mc ms (xqV Q))) :
    Ex mX10_readsMark 4 [.ref 209, .int v1, xU, xU] [.int s0] (sh, I, R) mc ms (xqV Q) := by
  refine yw_istore_n (lv' := [.ref 209, .int v1, .int s0, xU]) dX10_readsMark_4 rfl rfl rfl rfl ?_
  refine xw_aload_n dX10_readsMark_5 rfl rfl ?_
  refine xw_iconst (v := nI 0) dX10_readsMark_6 rfl ?_
  refine xw_bipush (v := nI 99) dX10_readsMark_7 (by decide) ?_
  exact yw_cV (As := [.int (nI 0), .int (nI 99)]) (b := 209) (st := []) dX10_readsMark_9 lX10_235 kiX10_number kvX10_number rfl rfl rfl (la_209 hW) rfl (Nat.le_of_ble_eq_true rfl) rfl (xk_I k)
theorem bX10_readsMark_12 {v1 v2 s0 : Int32} {mc ms : Nat} {Q : xHp → Prop} (hW : xLay sh R) 
    (k : ((¬ (I 209 17) = 0 → Q (sh, I, R)) ∧ ((I 209 17) = 0 → CI mX10_at [.ref 209, .int (nI 31), .int (v1 + v2)] (sh, I, R) (fun w h1 => Ex mX10_readsMark 33 [xU, xU, xU, .int s0] (.int w :: [.ref 210]) h1 mc ms (xqV Q))))) :
    Ex mX10_readsMark 12 [.ref 209, .int v1, .int v2, xU] [.int s0] (sh, I, R) mc ms (xqV Q) := by
  refine yw_istore_n (lv' := [.ref 209, .int v1, .int v2, .int s0]) dX10_readsMark_12 rfl rfl rfl rfl ?_
  refine xw_aload_n dX10_readsMark_13 rfl rfl ?_
  refine yw_getI (v := I 209 17) dX10_readsMark_14 fX10_188 rfl (la_209 hW) rfl ?_
  refine xw_ifne (tgt := 35) dX10_readsMark_17 (by decide) (fun c => ?_) (fun c => ?_)
  · replace k := k.1 c
    exact yw_vret dX10_readsMark_35 rfl k
  · replace k := k.2 c
    refine xw_aload_n dX10_readsMark_20 rfl rfl ?_
    refine yw_getR (r := 210) dX10_readsMark_21 fX10_7 rfl (la_209 hW) (lr_209_0 hW) ?_
    refine xw_aload_n dX10_readsMark_24 rfl rfl ?_
    refine xw_bipush (v := nI 31) dX10_readsMark_25 (by decide) ?_
    refine xw_iload_n dX10_readsMark_27 rfl rfl ?_
    refine xw_iload_n dX10_readsMark_28 rfl rfl ?_
    refine xw_iadd dX10_readsMark_29 ?_
    refine yw_sub (lv' := [xU, xU, xU, .int s0]) ⟨Or.inl rfl, Or.inl rfl, Or.inl rfl, Or.inr rfl, trivial⟩ ?_
    exact yw_cV (As := [.int (nI 31), .int (v1 + v2)]) (b := 209) (st := [.ref 210]) dX10_readsMark_30 lX10_81 kiX10_at kvX10_at rfl rfl rfl (la_209 hW) rfl (Nat.le_of_ble_eq_true rfl) rfl (xk_I k)
theorem bX10_readsMark_33 {v3 s1 : Int32} {mc ms : Nat} {Q : xHp → Prop} (hW : xLay sh R) 
    (k : vp_in s1 1881 ∧ Q (sh, (xi I 210 s1.toNatClampNeg v3), R)) :
    Ex mX10_readsMark 33 [xU, xU, xU, .int v3] [.int s1, .ref 210] (sh, I, R) mc ms (xqV Q) := by
  refine xw_iload_n dX10_readsMark_33 rfl rfl ?_
  obtain ⟨k0, k⟩ := k
  refine yw_iastore dX10_readsMark_34 (la_210 hW) k0 ?_
  exact yw_vret dX10_readsMark_35 rfl k
theorem eX10_readsMark {v1 : Int32} {h : xHp} {Q : xHp → Prop} (k : Ex mX10_readsMark 0 [.ref 209, .int v1, xU, xU] [] h 0 0 (xqV Q)) : CV mX10_readsMark [.ref 209, .int v1] h Q := k
theorem bX10_readsLine_0 {mc ms : Nat} {Q : xHp → Prop} (hW : xLay sh R) 
    (k : CI mX10_nameNow [.ref 209] (sh, I, R) (fun w h1 => Ex mX10_readsLine 4 [.ref 209, xU] (.int w :: []) h1 mc ms (xqV Q))) :
    Ex mX10_readsLine 0 [.ref 209, xU] [] (sh, I, R) mc ms (xqV Q) := by
  refine xw_aload_n dX10_readsLine_0 rfl rfl ?_
  exact yw_cV (As := []) (b := 209) (st := []) dX10_readsLine_1 lX10_249 kiX10_nameNow kvX10_nameNow rfl rfl rfl (la_209 hW) rfl (Nat.le_of_ble_eq_true rfl) rfl (xk_I k)
theorem bX10_readsLine_4 {s0 : Int32} {mc ms : Nat} {Q : xHp → Prop} (hW : xLay sh R) 
    (k : ((s0 = (-4) → CI mX10_must [.ref 209, .int (nI 0), .int (nI 2)] (sh, I, R) (fun w h1 => Ex mX10_readsLine 21 [.ref 209, .int s0] (.int w :: []) h1 mc ms (xqV Q))) ∧ (¬ s0 = (-4) → CI mX10_must [.ref 209, .int (nI 1), .int (nI 2)] (sh, I, R) (fun w h1 => Ex mX10_readsLine 21 [.ref 209, .int s0] (.int w :: []) h1 mc ms (xqV Q))))) :
    Ex mX10_readsLine 4 [.ref 209, xU] [.int s0] (sh, I, R) mc ms (xqV Q) := by
  refine yw_istore_n (lv' := [.ref 209, .int s0]) dX10_readsLine_4 rfl rfl rfl rfl ?_
  refine xw_aload_n dX10_readsLine_5 rfl rfl ?_
  refine xw_iload_n dX10_readsLine_6 rfl rfl ?_
  refine xw_bipush (v := (-4)) dX10_readsLine_7 (by decide) ?_
  refine xw_iceq (tgt := 16) dX10_readsLine_9 (by decide) (fun c => ?_) (fun c => ?_)
  · replace k := k.1 c
    refine xw_iconst (v := nI 0) dX10_readsLine_16 rfl ?_
    refine xw_iconst (v := nI 2) dX10_readsLine_17 rfl ?_
    exact yw_cV (As := [.int (nI 0), .int (nI 2)]) (b := 209) (st := []) dX10_readsLine_18 lX10_217 kiX10_must kvX10_must rfl rfl rfl (la_209 hW) rfl (Nat.le_of_ble_eq_true rfl) rfl (xk_I k)
  · replace k := k.2 c
    refine xw_iconst (v := nI 1) dX10_readsLine_12 rfl ?_
    refine xw_goto (tgt := 17) dX10_readsLine_13 (by decide) ?_
    refine xw_iconst (v := nI 2) dX10_readsLine_17 rfl ?_
    exact yw_cV (As := [.int (nI 1), .int (nI 2)]) (b := 209) (st := []) dX10_readsLine_18 lX10_217 kiX10_must kvX10_must rfl rfl rfl (la_209 hW) rfl (Nat.le_of_ble_eq_true rfl) rfl (xk_I k)
theorem bX10_readsLine_21 {v1 s0 : Int32} {mc ms : Nat} {Q : xHp → Prop} (hW : xLay sh R) 
    (k : ((0 < (I 209 17) → CI mX10_must [.ref 209, .int (nI 1), .int (nI 4)] (sh, I, R) (fun w h1 => Ex mX10_readsLine 53 [.ref 209, .int v1] (.int w :: []) h1 mc ms (xqV Q))) ∧ (¬ 0 < (I 209 17) → (((nI 2) < v1 → CI mX10_must [.ref 209, .int (nI 1), .int (nI 4)] (sh, I, R) (fun w h1 => Ex mX10_readsLine 53 [.ref 209, .int v1] (.int w :: []) h1 mc ms (xqV Q))) ∧ (¬ (nI 2) < v1 → vp_in v1 3 ∧ ((¬ (I 221 v1.toNatClampNeg) = 0 → CI mX10_must [.ref 209, .int (nI 0), .int (nI 4)] (sh, I, R) (fun w h1 => Ex mX10_readsLine 53 [.ref 209, .int v1] (.int w :: []) h1 mc ms (xqV Q))) ∧ ((I 221 v1.toNatClampNeg) = 0 → CI mX10_must [.ref 209, .int (nI 1), .int (nI 4)] (sh, I, R) (fun w h1 => Ex mX10_readsLine 53 [.ref 209, .int v1] (.int w :: []) h1 mc ms (xqV Q))))))))) :
    Ex mX10_readsLine 21 [.ref 209, .int v1] [.int s0] (sh, I, R) mc ms (xqV Q) := by
  refine xw_pop dX10_readsLine_21 rfl ?_
  refine xw_aload_n dX10_readsLine_22 rfl rfl ?_
  refine xw_aload_n dX10_readsLine_23 rfl rfl ?_
  refine yw_getI (v := I 209 17) dX10_readsLine_24 fX10_188 rfl (la_209 hW) rfl ?_
  refine xw_ifgt (tgt := 44) dX10_readsLine_27 (by decide) (fun c => ?_) (fun c => ?_)
  · replace k := k.1 c
    refine xw_iconst (v := nI 1) dX10_readsLine_44 rfl ?_
    refine xw_goto (tgt := 49) dX10_readsLine_45 (by decide) ?_
    refine xw_iconst (v := nI 4) dX10_readsLine_49 rfl ?_
    exact yw_cV (As := [.int (nI 1), .int (nI 4)]) (b := 209) (st := []) dX10_readsLine_50 lX10_217 kiX10_must kvX10_must rfl rfl rfl (la_209 hW) rfl (Nat.le_of_ble_eq_true rfl) rfl (xk_I k)
  · replace k := k.2 c
    refine xw_iload_n dX10_readsLine_30 rfl rfl ?_
    refine xw_iconst (v := nI 2) dX10_readsLine_31 rfl ?_
    refine xw_icgt (tgt := 44) dX10_readsLine_32 (by decide) (fun c => ?_) (fun c => ?_)
    · replace k := k.1 c
      refine xw_iconst (v := nI 1) dX10_readsLine_44 rfl ?_
      refine xw_goto (tgt := 49) dX10_readsLine_45 (by decide) ?_
      refine xw_iconst (v := nI 4) dX10_readsLine_49 rfl ?_
      exact yw_cV (As := [.int (nI 1), .int (nI 4)]) (b := 209) (st := []) dX10_readsLine_50 lX10_217 kiX10_must kvX10_must rfl rfl rfl (la_209 hW) rfl (Nat.le_of_ble_eq_true rfl) rfl (xk_I k)
    · replace k := k.2 c
      refine xw_aload_n dX10_readsLine_35 rfl rfl ?_
      refine yw_getR (r := 221) dX10_readsLine_36 fX10_50 rfl (la_209 hW) (lr_209_25 hW) ?_
      refine xw_iload_n dX10_readsLine_39 rfl rfl ?_
      obtain ⟨k0, k⟩ := k
      refine yw_zaload (v := I 221 v1.toNatClampNeg) dX10_readsLine_40 (la_221 hW) k0 rfl ?_
      refine xw_ifne (tgt := 48) dX10_readsLine_41 (by decide) (fun c => ?_) (fun c => ?_)
      · replace k := k.1 c
        refine xw_iconst (v := nI 0) dX10_readsLine_48 rfl ?_
        refine xw_iconst (v := nI 4) dX10_readsLine_49 rfl ?_
        exact yw_cV (As := [.int (nI 0), .int (nI 4)]) (b := 209) (st := []) dX10_readsLine_50 lX10_217 kiX10_must kvX10_must rfl rfl rfl (la_209 hW) rfl (Nat.le_of_ble_eq_true rfl) rfl (xk_I k)
      · replace k := k.2 c
        refine xw_iconst (v := nI 1) dX10_readsLine_44 rfl ?_
        refine xw_goto (tgt := 49) dX10_readsLine_45 (by decide) ?_
        refine xw_iconst (v := nI 4) dX10_readsLine_49 rfl ?_
        exact yw_cV (As := [.int (nI 1), .int (nI 4)]) (b := 209) (st := []) dX10_readsLine_50 lX10_217 kiX10_must kvX10_must rfl rfl rfl (la_209 hW) rfl (Nat.le_of_ble_eq_true rfl) rfl (xk_I k)
theorem bX10_readsLine_53 {v1 s0 : Int32} {mc ms : Nat} {Q : xHp → Prop} (hW : xLay sh R) 
    (k : (((I 209 17) ≤ 0 → (((nI 2) < v1 → CV mX10_reads [.ref 209] (sh, I, R) (fun h1 => Ex mX10_readsLine 78 [.ref 209, .int v1] [] h1 mc ms (xqV Q))) ∧ (¬ (nI 2) < v1 → vp_in v1 3 ∧ CV mX10_reads [.ref 209] (sh, (xi I 221 v1.toNatClampNeg (vp_nar .boolean (nI 1))), R) (fun h1 => Ex mX10_readsLine 78 [.ref 209, .int v1] [] h1 mc ms (xqV Q))))) ∧ (¬ (I 209 17) ≤ 0 → Q (sh, I, R)))) :
    Ex mX10_readsLine 53 [.ref 209, .int v1] [.int s0] (sh, I, R) mc ms (xqV Q) := by
  refine xw_pop dX10_readsLine_53 rfl ?_
  refine xw_aload_n dX10_readsLine_54 rfl rfl ?_
  refine yw_getI (v := I 209 17) dX10_readsLine_55 fX10_188 rfl (la_209 hW) rfl ?_
  refine xw_ifle (tgt := 62) dX10_readsLine_58 (by decide) (fun c => ?_) (fun c => ?_)
  · replace k := k.1 c
    refine xw_iload_n dX10_readsLine_62 rfl rfl ?_
    refine xw_iconst (v := nI 2) dX10_readsLine_63 rfl ?_
    refine xw_icgt (tgt := 74) dX10_readsLine_64 (by decide) (fun c => ?_) (fun c => ?_)
    · replace k := k.1 c
      refine xw_aload_n dX10_readsLine_74 rfl rfl ?_
      exact yw_cV (As := []) (b := 209) (st := []) dX10_readsLine_75 lX10_224 kiX10_reads kvX10_reads rfl rfl rfl (la_209 hW) rfl (Nat.le_of_ble_eq_true rfl) rfl (xk_V k)
    · replace k := k.2 c
      refine xw_aload_n dX10_readsLine_67 rfl rfl ?_
      refine yw_getR (r := 221) dX10_readsLine_68 fX10_50 rfl (la_209 hW) (lr_209_25 hW) ?_
      refine xw_iload_n dX10_readsLine_71 rfl rfl ?_
      refine xw_iconst (v := nI 1) dX10_readsLine_72 rfl ?_
      obtain ⟨k0, k⟩ := k
      refine yw_zastore dX10_readsLine_73 (la_221 hW) k0 ?_
      refine xw_aload_n dX10_readsLine_74 rfl rfl ?_
      exact yw_cV (As := []) (b := 209) (st := []) dX10_readsLine_75 lX10_224 kiX10_reads kvX10_reads rfl rfl rfl (la_209 hW) rfl (Nat.le_of_ble_eq_true rfl) rfl (xk_V k)
  · replace k := k.2 c
    exact yw_vret dX10_readsLine_61 rfl k
theorem bX10_readsLine_78 {v1 : Int32} {mc ms : Nat} {Q : xHp → Prop} (hW : xLay sh R) 
    (k : ((¬ v1 = 0 → ((¬ v1 = (nI 1) → ((¬ v1 = (nI 2) → ((¬ v1 = (nI 5) → ((¬ v1 = (nI 3) → CV mX10_readsMark [.ref 209, .int (nI 5)] (sh, I, R) (fun h1 => Ex mX10_readsLine 159 [.ref 209, xU] [] h1 mc ms (xqV Q))) ∧ (v1 = (nI 3) → CV mX10_readsMark [.ref 209, .int (nI 1)] (sh, I, R) (fun h1 => Ex mX10_readsLine 159 [.ref 209, xU] [] h1 mc ms (xqV Q))))) ∧ (v1 = (nI 5) → CV mX10_readsEdge [.ref 209] (sh, I, R) (fun h1 => Ex mX10_readsLine 142 [.ref 209, xU] [] h1 mc ms (xqV Q))))) ∧ (v1 = (nI 2) → CI mX10_at [.ref 209, .int (nI 31), .int (nI 0)] (sh, I, R) (fun w h1 => Ex mX10_readsLine 123 [.ref 209, xU] (.int w :: [.ref 210]) h1 mc ms (xqV Q))))) ∧ (v1 = (nI 1) → CI mX10_number [.ref 209, .int (nI 1), .int (nI 3)] (sh, I, R) (fun w h1 => Ex mX10_readsLine 101 [.ref 209, xU] (.int w :: [.ref 209]) h1 mc ms (xqV Q))))) ∧ (v1 = 0 → CV mX10_readsPrime [.ref 209] (sh, I, R) (fun h1 => Ex mX10_readsLine 86 [.ref 209, xU] [] h1 mc ms (xqV Q))))) :
    Ex mX10_readsLine 78 [.ref 209, .int v1] [] (sh, I, R) mc ms (xqV Q) := by
  refine xw_iload_n dX10_readsLine_78 rfl rfl ?_
  refine xw_ifne (tgt := 89) dX10_readsLine_79 (by decide) (fun c => ?_) (fun c => ?_)
  · replace k := k.1 c
    refine xw_iload_n dX10_readsLine_89 rfl rfl ?_
    refine xw_iconst (v := nI 1) dX10_readsLine_90 rfl ?_
    refine xw_icne (tgt := 107) dX10_readsLine_91 (by decide) (fun c => ?_) (fun c => ?_)
    · replace k := k.1 c
      refine xw_iload_n dX10_readsLine_107 rfl rfl ?_
      refine xw_iconst (v := nI 2) dX10_readsLine_108 rfl ?_
      refine xw_icne (tgt := 133) dX10_readsLine_109 (by decide) (fun c => ?_) (fun c => ?_)
      · replace k := k.1 c
        refine xw_iload_n dX10_readsLine_133 rfl rfl ?_
        refine xw_iconst (v := nI 5) dX10_readsLine_134 rfl ?_
        refine xw_icne (tgt := 145) dX10_readsLine_135 (by decide) (fun c => ?_) (fun c => ?_)
        · replace k := k.1 c
          refine xw_aload_n dX10_readsLine_145 rfl rfl ?_
          refine xw_iload_n dX10_readsLine_146 rfl rfl ?_
          refine xw_iconst (v := nI 3) dX10_readsLine_147 rfl ?_
          refine xw_icne (tgt := 155) dX10_readsLine_148 (by decide) (fun c => ?_) (fun c => ?_)
          · replace k := k.1 c
            refine xw_iconst (v := nI 5) dX10_readsLine_155 rfl ?_
            refine yw_sub (lv' := [.ref 209, xU]) ⟨Or.inr rfl, Or.inl rfl, trivial⟩ ?_
            exact yw_cV (As := [.int (nI 5)]) (b := 209) (st := []) dX10_readsLine_156 lX10_261 kiX10_readsMark kvX10_readsMark rfl rfl rfl (la_209 hW) rfl (Nat.le_of_ble_eq_true rfl) rfl (xk_V k)
          · replace k := k.2 c
            refine xw_iconst (v := nI 1) dX10_readsLine_151 rfl ?_
            refine xw_goto (tgt := 156) dX10_readsLine_152 (by decide) ?_
            refine yw_sub (lv' := [.ref 209, xU]) ⟨Or.inr rfl, Or.inl rfl, trivial⟩ ?_
            exact yw_cV (As := [.int (nI 1)]) (b := 209) (st := []) dX10_readsLine_156 lX10_261 kiX10_readsMark kvX10_readsMark rfl rfl rfl (la_209 hW) rfl (Nat.le_of_ble_eq_true rfl) rfl (xk_V k)
        · replace k := k.2 c
          refine xw_aload_n dX10_readsLine_138 rfl rfl ?_
          refine yw_sub (lv' := [.ref 209, xU]) ⟨Or.inr rfl, Or.inl rfl, trivial⟩ ?_
          exact yw_cV (As := []) (b := 209) (st := []) dX10_readsLine_139 lX10_258 kiX10_readsEdge kvX10_readsEdge rfl rfl rfl (la_209 hW) rfl (Nat.le_of_ble_eq_true rfl) rfl (xk_V k)
      · replace k := k.2 c
        refine xw_aload_n dX10_readsLine_112 rfl rfl ?_
        refine yw_getR (r := 210) dX10_readsLine_113 fX10_7 rfl (la_209 hW) (lr_209_0 hW) ?_
        refine xw_aload_n dX10_readsLine_116 rfl rfl ?_
        refine xw_bipush (v := nI 31) dX10_readsLine_117 (by decide) ?_
        refine xw_iconst (v := nI 0) dX10_readsLine_119 rfl ?_
        refine yw_sub (lv' := [.ref 209, xU]) ⟨Or.inr rfl, Or.inl rfl, trivial⟩ ?_
        exact yw_cV (As := [.int (nI 31), .int (nI 0)]) (b := 209) (st := [.ref 210]) dX10_readsLine_120 lX10_81 kiX10_at kvX10_at rfl rfl rfl (la_209 hW) rfl (Nat.le_of_ble_eq_true rfl) rfl (xk_I k)
    · replace k := k.2 c
      refine xw_aload_n dX10_readsLine_94 rfl rfl ?_
      refine xw_aload_n dX10_readsLine_95 rfl rfl ?_
      refine xw_iconst (v := nI 1) dX10_readsLine_96 rfl ?_
      refine xw_iconst (v := nI 3) dX10_readsLine_97 rfl ?_
      refine yw_sub (lv' := [.ref 209, xU]) ⟨Or.inr rfl, Or.inl rfl, trivial⟩ ?_
      exact yw_cV (As := [.int (nI 1), .int (nI 3)]) (b := 209) (st := [.ref 209]) dX10_readsLine_98 lX10_235 kiX10_number kvX10_number rfl rfl rfl (la_209 hW) rfl (Nat.le_of_ble_eq_true rfl) rfl (xk_I k)
  · replace k := k.2 c
    refine xw_aload_n dX10_readsLine_82 rfl rfl ?_
    refine yw_sub (lv' := [.ref 209, xU]) ⟨Or.inr rfl, Or.inl rfl, trivial⟩ ?_
    exact yw_cV (As := []) (b := 209) (st := []) dX10_readsLine_83 lX10_252 kiX10_readsPrime kvX10_readsPrime rfl rfl rfl (la_209 hW) rfl (Nat.le_of_ble_eq_true rfl) rfl (xk_V k)
theorem bX10_readsLine_159 {mc ms : Nat} {Q : xHp → Prop} (hW : xLay sh R) 
    (k : ((0 < (I 209 17) → CI mX10_must [.ref 209, .int (nI 1), .int (nI 2)] (sh, I, R) (fun w h1 => Ex mX10_readsLine 184 [.ref 209, xU] (.int w :: []) h1 mc ms (xqV Q))) ∧ (¬ 0 < (I 209 17) → ((¬ (I 209 21) = (nI 3) → CI mX10_must [.ref 209, .int (nI 0), .int (nI 2)] (sh, I, R) (fun w h1 => Ex mX10_readsLine 184 [.ref 209, xU] (.int w :: []) h1 mc ms (xqV Q))) ∧ ((I 209 21) = (nI 3) → CI mX10_must [.ref 209, .int (nI 1), .int (nI 2)] (sh, I, R) (fun w h1 => Ex mX10_readsLine 184 [.ref 209, xU] (.int w :: []) h1 mc ms (xqV Q))))))) :
    Ex mX10_readsLine 159 [.ref 209, xU] [] (sh, I, R) mc ms (xqV Q) := by
  refine xw_aload_n dX10_readsLine_159 rfl rfl ?_
  refine xw_aload_n dX10_readsLine_160 rfl rfl ?_
  refine yw_getI (v := I 209 17) dX10_readsLine_161 fX10_188 rfl (la_209 hW) rfl ?_
  refine xw_ifgt (tgt := 175) dX10_readsLine_164 (by decide) (fun c => ?_) (fun c => ?_)
  · replace k := k.1 c
    refine xw_iconst (v := nI 1) dX10_readsLine_175 rfl ?_
    refine xw_goto (tgt := 180) dX10_readsLine_176 (by decide) ?_
    refine xw_iconst (v := nI 2) dX10_readsLine_180 rfl ?_
    exact yw_cV (As := [.int (nI 1), .int (nI 2)]) (b := 209) (st := []) dX10_readsLine_181 lX10_217 kiX10_must kvX10_must rfl rfl rfl (la_209 hW) rfl (Nat.le_of_ble_eq_true rfl) rfl (xk_I k)
  · replace k := k.2 c
    refine xw_aload_n dX10_readsLine_167 rfl rfl ?_
    refine yw_getI (v := I 209 21) dX10_readsLine_168 fX10_206 rfl (la_209 hW) rfl ?_
    refine xw_iconst (v := nI 3) dX10_readsLine_171 rfl ?_
    refine xw_icne (tgt := 179) dX10_readsLine_172 (by decide) (fun c => ?_) (fun c => ?_)
    · replace k := k.1 c
      refine xw_iconst (v := nI 0) dX10_readsLine_179 rfl ?_
      refine xw_iconst (v := nI 2) dX10_readsLine_180 rfl ?_
      exact yw_cV (As := [.int (nI 0), .int (nI 2)]) (b := 209) (st := []) dX10_readsLine_181 lX10_217 kiX10_must kvX10_must rfl rfl rfl (la_209 hW) rfl (Nat.le_of_ble_eq_true rfl) rfl (xk_I k)
    · replace k := k.2 c
      refine xw_iconst (v := nI 1) dX10_readsLine_175 rfl ?_
      refine xw_goto (tgt := 180) dX10_readsLine_176 (by decide) ?_
      refine xw_iconst (v := nI 2) dX10_readsLine_180 rfl ?_
      exact yw_cV (As := [.int (nI 1), .int (nI 2)]) (b := 209) (st := []) dX10_readsLine_181 lX10_217 kiX10_must kvX10_must rfl rfl rfl (la_209 hW) rfl (Nat.le_of_ble_eq_true rfl) rfl (xk_I k)
theorem bX10_readsLine_184 {s0 : Int32} {mc ms : Nat} {Q : xHp → Prop} (hW : xLay sh R) 
    (k : CV mX10_reads [.ref 209] (sh, I, R) (fun h1 => Ex mX10_readsLine 189 [xU, xU] [] h1 mc ms (xqV Q))) :
    Ex mX10_readsLine 184 [.ref 209, xU] [.int s0] (sh, I, R) mc ms (xqV Q) := by
  refine xw_pop dX10_readsLine_184 rfl ?_
  refine xw_aload_n dX10_readsLine_185 rfl rfl ?_
  refine yw_sub (lv' := [xU, xU]) ⟨Or.inl rfl, Or.inl rfl, trivial⟩ ?_
  exact yw_cV (As := []) (b := 209) (st := []) dX10_readsLine_186 lX10_224 kiX10_reads kvX10_reads rfl rfl rfl (la_209 hW) rfl (Nat.le_of_ble_eq_true rfl) rfl (xk_V k)
theorem bX10_readsLine_189 {mc ms : Nat} {Q : xHp → Prop} (hW : xLay sh R) 
    (k : Q (sh, I, R)) :
    Ex mX10_readsLine 189 [xU, xU] [] (sh, I, R) mc ms (xqV Q) := by
  exact yw_vret dX10_readsLine_189 rfl k
theorem bX10_readsLine_142 {mc ms : Nat} {Q : xHp → Prop} (hW : xLay sh R) 
    (k : ((0 < (I 209 17) → CI mX10_must [.ref 209, .int (nI 1), .int (nI 2)] (sh, I, R) (fun w h1 => Ex mX10_readsLine 184 [.ref 209, xU] (.int w :: []) h1 mc ms (xqV Q))) ∧ (¬ 0 < (I 209 17) → ((¬ (I 209 21) = (nI 3) → CI mX10_must [.ref 209, .int (nI 0), .int (nI 2)] (sh, I, R) (fun w h1 => Ex mX10_readsLine 184 [.ref 209, xU] (.int w :: []) h1 mc ms (xqV Q))) ∧ ((I 209 21) = (nI 3) → CI mX10_must [.ref 209, .int (nI 1), .int (nI 2)] (sh, I, R) (fun w h1 => Ex mX10_readsLine 184 [.ref 209, xU] (.int w :: []) h1 mc ms (xqV Q))))))) :
    Ex mX10_readsLine 142 [.ref 209, xU] [] (sh, I, R) mc ms (xqV Q) := by
  refine xw_goto (tgt := 159) dX10_readsLine_142 (by decide) ?_
  refine xw_aload_n dX10_readsLine_159 rfl rfl ?_
  refine xw_aload_n dX10_readsLine_160 rfl rfl ?_
  refine yw_getI (v := I 209 17) dX10_readsLine_161 fX10_188 rfl (la_209 hW) rfl ?_
  refine xw_ifgt (tgt := 175) dX10_readsLine_164 (by decide) (fun c => ?_) (fun c => ?_)
  · replace k := k.1 c
    refine xw_iconst (v := nI 1) dX10_readsLine_175 rfl ?_
    refine xw_goto (tgt := 180) dX10_readsLine_176 (by decide) ?_
    refine xw_iconst (v := nI 2) dX10_readsLine_180 rfl ?_
    exact yw_cV (As := [.int (nI 1), .int (nI 2)]) (b := 209) (st := []) dX10_readsLine_181 lX10_217 kiX10_must kvX10_must rfl rfl rfl (la_209 hW) rfl (Nat.le_of_ble_eq_true rfl) rfl (xk_I k)
  · replace k := k.2 c
    refine xw_aload_n dX10_readsLine_167 rfl rfl ?_
    refine yw_getI (v := I 209 21) dX10_readsLine_168 fX10_206 rfl (la_209 hW) rfl ?_
    refine xw_iconst (v := nI 3) dX10_readsLine_171 rfl ?_
    refine xw_icne (tgt := 179) dX10_readsLine_172 (by decide) (fun c => ?_) (fun c => ?_)
    · replace k := k.1 c
      refine xw_iconst (v := nI 0) dX10_readsLine_179 rfl ?_
      refine xw_iconst (v := nI 2) dX10_readsLine_180 rfl ?_
      exact yw_cV (As := [.int (nI 0), .int (nI 2)]) (b := 209) (st := []) dX10_readsLine_181 lX10_217 kiX10_must kvX10_must rfl rfl rfl (la_209 hW) rfl (Nat.le_of_ble_eq_true rfl) rfl (xk_I k)
    · replace k := k.2 c
      refine xw_iconst (v := nI 1) dX10_readsLine_175 rfl ?_
      refine xw_goto (tgt := 180) dX10_readsLine_176 (by decide) ?_
      refine xw_iconst (v := nI 2) dX10_readsLine_180 rfl ?_
      exact yw_cV (As := [.int (nI 1), .int (nI 2)]) (b := 209) (st := []) dX10_readsLine_181 lX10_217 kiX10_must kvX10_must rfl rfl rfl (la_209 hW) rfl (Nat.le_of_ble_eq_true rfl) rfl (xk_I k)
theorem bX10_readsLine_123 {s1 : Int32} {mc ms : Nat} {Q : xHp → Prop} (hW : xLay sh R) 
    (k : CI mX10_number [.ref 209, .int (nI 0), .int (nI 4)] (sh, I, R) (fun w h1 => Ex mX10_readsLine 129 [.ref 209, xU] (.int w :: [.int s1, .ref 210]) h1 mc ms (xqV Q))) :
    Ex mX10_readsLine 123 [.ref 209, xU] [.int s1, .ref 210] (sh, I, R) mc ms (xqV Q) := by
  refine xw_aload_n dX10_readsLine_123 rfl rfl ?_
  refine xw_iconst (v := nI 0) dX10_readsLine_124 rfl ?_
  refine xw_iconst (v := nI 4) dX10_readsLine_125 rfl ?_
  exact yw_cV (As := [.int (nI 0), .int (nI 4)]) (b := 209) (st := [.int s1, .ref 210]) dX10_readsLine_126 lX10_235 kiX10_number kvX10_number rfl rfl rfl (la_209 hW) rfl (Nat.le_of_ble_eq_true rfl) rfl (xk_I k)
theorem bX10_readsLine_129 {s2 s1 : Int32} {mc ms : Nat} {Q : xHp → Prop} (hW : xLay sh R) 
    (k : vp_in s1 1881 ∧ ((0 < (I 209 17) → CI mX10_must [.ref 209, .int (nI 1), .int (nI 2)] (sh, (xi I 210 s1.toNatClampNeg s2), R) (fun w h1 => Ex mX10_readsLine 184 [.ref 209, xU] (.int w :: []) h1 mc ms (xqV Q))) ∧ (¬ 0 < (I 209 17) → ((¬ (I 209 21) = (nI 3) → CI mX10_must [.ref 209, .int (nI 0), .int (nI 2)] (sh, (xi I 210 s1.toNatClampNeg s2), R) (fun w h1 => Ex mX10_readsLine 184 [.ref 209, xU] (.int w :: []) h1 mc ms (xqV Q))) ∧ ((I 209 21) = (nI 3) → CI mX10_must [.ref 209, .int (nI 1), .int (nI 2)] (sh, (xi I 210 s1.toNatClampNeg s2), R) (fun w h1 => Ex mX10_readsLine 184 [.ref 209, xU] (.int w :: []) h1 mc ms (xqV Q))))))) :
    Ex mX10_readsLine 129 [.ref 209, xU] [.int s2, .int s1, .ref 210] (sh, I, R) mc ms (xqV Q) := by
  obtain ⟨k0, k⟩ := k
  refine yw_iastore dX10_readsLine_129 (la_210 hW) k0 ?_
  refine xw_goto (tgt := 159) dX10_readsLine_130 (by decide) ?_
  refine xw_aload_n dX10_readsLine_159 rfl rfl ?_
  refine xw_aload_n dX10_readsLine_160 rfl rfl ?_
  refine yw_getI (v := I 209 17) dX10_readsLine_161 fX10_188 rfl (la_209 hW) (xi_p (a := 209) (q := 210) (by decide)) ?_
  refine xw_ifgt (tgt := 175) dX10_readsLine_164 (by decide) (fun c => ?_) (fun c => ?_)
  · replace k := k.1 c
    refine xw_iconst (v := nI 1) dX10_readsLine_175 rfl ?_
    refine xw_goto (tgt := 180) dX10_readsLine_176 (by decide) ?_
    refine xw_iconst (v := nI 2) dX10_readsLine_180 rfl ?_
    exact yw_cV (As := [.int (nI 1), .int (nI 2)]) (b := 209) (st := []) dX10_readsLine_181 lX10_217 kiX10_must kvX10_must rfl rfl rfl (la_209 hW) rfl (Nat.le_of_ble_eq_true rfl) rfl (xk_I k)
  · replace k := k.2 c
    refine xw_aload_n dX10_readsLine_167 rfl rfl ?_
    refine yw_getI (v := I 209 21) dX10_readsLine_168 fX10_206 rfl (la_209 hW) (xi_p (a := 209) (q := 210) (by decide)) ?_
    refine xw_iconst (v := nI 3) dX10_readsLine_171 rfl ?_
    refine xw_icne (tgt := 179) dX10_readsLine_172 (by decide) (fun c => ?_) (fun c => ?_)
    · replace k := k.1 c
      refine xw_iconst (v := nI 0) dX10_readsLine_179 rfl ?_
      refine xw_iconst (v := nI 2) dX10_readsLine_180 rfl ?_
      exact yw_cV (As := [.int (nI 0), .int (nI 2)]) (b := 209) (st := []) dX10_readsLine_181 lX10_217 kiX10_must kvX10_must rfl rfl rfl (la_209 hW) rfl (Nat.le_of_ble_eq_true rfl) rfl (xk_I k)
    · replace k := k.2 c
      refine xw_iconst (v := nI 1) dX10_readsLine_175 rfl ?_
      refine xw_goto (tgt := 180) dX10_readsLine_176 (by decide) ?_
      refine xw_iconst (v := nI 2) dX10_readsLine_180 rfl ?_
      exact yw_cV (As := [.int (nI 1), .int (nI 2)]) (b := 209) (st := []) dX10_readsLine_181 lX10_217 kiX10_must kvX10_must rfl rfl rfl (la_209 hW) rfl (Nat.le_of_ble_eq_true rfl) rfl (xk_I k)
theorem bX10_readsLine_101 {s1 : Int32} {mc ms : Nat} {Q : xHp → Prop} (hW : xLay sh R) 
    (k : ((0 < (I 209 17) → CI mX10_must [.ref 209, .int (nI 1), .int (nI 2)] (sh, (xi I 209 27 s1), R) (fun w h1 => Ex mX10_readsLine 184 [.ref 209, xU] (.int w :: []) h1 mc ms (xqV Q))) ∧ (¬ 0 < (I 209 17) → ((¬ (I 209 21) = (nI 3) → CI mX10_must [.ref 209, .int (nI 0), .int (nI 2)] (sh, (xi I 209 27 s1), R) (fun w h1 => Ex mX10_readsLine 184 [.ref 209, xU] (.int w :: []) h1 mc ms (xqV Q))) ∧ ((I 209 21) = (nI 3) → CI mX10_must [.ref 209, .int (nI 1), .int (nI 2)] (sh, (xi I 209 27 s1), R) (fun w h1 => Ex mX10_readsLine 184 [.ref 209, xU] (.int w :: []) h1 mc ms (xqV Q))))))) :
    Ex mX10_readsLine 101 [.ref 209, xU] [.int s1, .ref 209] (sh, I, R) mc ms (xqV Q) := by
  refine yw_putI dX10_readsLine_101 fX10_255 (fun r h => by cases h; exact Or.inl rfl) rfl (la_209 hW) ?_
  refine xw_goto (tgt := 159) dX10_readsLine_104 (by decide) ?_
  refine xw_aload_n dX10_readsLine_159 rfl rfl ?_
  refine xw_aload_n dX10_readsLine_160 rfl rfl ?_
  refine yw_getI (v := I 209 17) dX10_readsLine_161 fX10_188 rfl (la_209 hW) (xi_s (j := 17) (k := 27) (by decide)) ?_
  refine xw_ifgt (tgt := 175) dX10_readsLine_164 (by decide) (fun c => ?_) (fun c => ?_)
  · replace k := k.1 c
    refine xw_iconst (v := nI 1) dX10_readsLine_175 rfl ?_
    refine xw_goto (tgt := 180) dX10_readsLine_176 (by decide) ?_
    refine xw_iconst (v := nI 2) dX10_readsLine_180 rfl ?_
    exact yw_cV (As := [.int (nI 1), .int (nI 2)]) (b := 209) (st := []) dX10_readsLine_181 lX10_217 kiX10_must kvX10_must rfl rfl rfl (la_209 hW) rfl (Nat.le_of_ble_eq_true rfl) rfl (xk_I k)
  · replace k := k.2 c
    refine xw_aload_n dX10_readsLine_167 rfl rfl ?_
    refine yw_getI (v := I 209 21) dX10_readsLine_168 fX10_206 rfl (la_209 hW) (xi_s (j := 21) (k := 27) (by decide)) ?_
    refine xw_iconst (v := nI 3) dX10_readsLine_171 rfl ?_
    refine xw_icne (tgt := 179) dX10_readsLine_172 (by decide) (fun c => ?_) (fun c => ?_)
    · replace k := k.1 c
      refine xw_iconst (v := nI 0) dX10_readsLine_179 rfl ?_
      refine xw_iconst (v := nI 2) dX10_readsLine_180 rfl ?_
      exact yw_cV (As := [.int (nI 0), .int (nI 2)]) (b := 209) (st := []) dX10_readsLine_181 lX10_217 kiX10_must kvX10_must rfl rfl rfl (la_209 hW) rfl (Nat.le_of_ble_eq_true rfl) rfl (xk_I k)
    · replace k := k.2 c
      refine xw_iconst (v := nI 1) dX10_readsLine_175 rfl ?_
      refine xw_goto (tgt := 180) dX10_readsLine_176 (by decide) ?_
      refine xw_iconst (v := nI 2) dX10_readsLine_180 rfl ?_
      exact yw_cV (As := [.int (nI 1), .int (nI 2)]) (b := 209) (st := []) dX10_readsLine_181 lX10_217 kiX10_must kvX10_must rfl rfl rfl (la_209 hW) rfl (Nat.le_of_ble_eq_true rfl) rfl (xk_I k)
theorem bX10_readsLine_86 {mc ms : Nat} {Q : xHp → Prop} (hW : xLay sh R) 
    (k : ((0 < (I 209 17) → CI mX10_must [.ref 209, .int (nI 1), .int (nI 2)] (sh, I, R) (fun w h1 => Ex mX10_readsLine 184 [.ref 209, xU] (.int w :: []) h1 mc ms (xqV Q))) ∧ (¬ 0 < (I 209 17) → ((¬ (I 209 21) = (nI 3) → CI mX10_must [.ref 209, .int (nI 0), .int (nI 2)] (sh, I, R) (fun w h1 => Ex mX10_readsLine 184 [.ref 209, xU] (.int w :: []) h1 mc ms (xqV Q))) ∧ ((I 209 21) = (nI 3) → CI mX10_must [.ref 209, .int (nI 1), .int (nI 2)] (sh, I, R) (fun w h1 => Ex mX10_readsLine 184 [.ref 209, xU] (.int w :: []) h1 mc ms (xqV Q))))))) :
    Ex mX10_readsLine 86 [.ref 209, xU] [] (sh, I, R) mc ms (xqV Q) := by
  refine xw_goto (tgt := 159) dX10_readsLine_86 (by decide) ?_
  refine xw_aload_n dX10_readsLine_159 rfl rfl ?_
  refine xw_aload_n dX10_readsLine_160 rfl rfl ?_
  refine yw_getI (v := I 209 17) dX10_readsLine_161 fX10_188 rfl (la_209 hW) rfl ?_
  refine xw_ifgt (tgt := 175) dX10_readsLine_164 (by decide) (fun c => ?_) (fun c => ?_)
  · replace k := k.1 c
    refine xw_iconst (v := nI 1) dX10_readsLine_175 rfl ?_
    refine xw_goto (tgt := 180) dX10_readsLine_176 (by decide) ?_
    refine xw_iconst (v := nI 2) dX10_readsLine_180 rfl ?_
    exact yw_cV (As := [.int (nI 1), .int (nI 2)]) (b := 209) (st := []) dX10_readsLine_181 lX10_217 kiX10_must kvX10_must rfl rfl rfl (la_209 hW) rfl (Nat.le_of_ble_eq_true rfl) rfl (xk_I k)
  · replace k := k.2 c
    refine xw_aload_n dX10_readsLine_167 rfl rfl ?_
    refine yw_getI (v := I 209 21) dX10_readsLine_168 fX10_206 rfl (la_209 hW) rfl ?_
    refine xw_iconst (v := nI 3) dX10_readsLine_171 rfl ?_
    refine xw_icne (tgt := 179) dX10_readsLine_172 (by decide) (fun c => ?_) (fun c => ?_)
    · replace k := k.1 c
      refine xw_iconst (v := nI 0) dX10_readsLine_179 rfl ?_
      refine xw_iconst (v := nI 2) dX10_readsLine_180 rfl ?_
      exact yw_cV (As := [.int (nI 0), .int (nI 2)]) (b := 209) (st := []) dX10_readsLine_181 lX10_217 kiX10_must kvX10_must rfl rfl rfl (la_209 hW) rfl (Nat.le_of_ble_eq_true rfl) rfl (xk_I k)
    · replace k := k.2 c
      refine xw_iconst (v := nI 1) dX10_readsLine_175 rfl ?_
      refine xw_goto (tgt := 180) dX10_readsLine_176 (by decide) ?_
      refine xw_iconst (v := nI 2) dX10_readsLine_180 rfl ?_
      exact yw_cV (As := [.int (nI 1), .int (nI 2)]) (b := 209) (st := []) dX10_readsLine_181 lX10_217 kiX10_must kvX10_must rfl rfl rfl (la_209 hW) rfl (Nat.le_of_ble_eq_true rfl) rfl (xk_I k)
theorem eX10_readsLine {h : xHp} {Q : xHp → Prop} (k : Ex mX10_readsLine 0 [.ref 209, xU] [] h 0 0 (xqV Q)) : CV mX10_readsLine [.ref 209] h Q := k
theorem bX10_many_0 {v1 : Int32} {mc ms : Nat} {Q : Int32 → xHp → Prop} (hW : xLay sh R) 
    (k : vp_in ((nI 57) * v1) 1881 ∧ Q (I 210 (((nI 57) * v1).toNatClampNeg)) (sh, I, R)) :
    Ex mX10_many 0 [.ref 209, .int v1] [] (sh, I, R) mc ms (xqI Q) := by
  refine xw_aload_n dX10_many_0 rfl rfl ?_
  refine yw_getR (r := 210) dX10_many_1 fX10_7 rfl (la_209 hW) (lr_209_0 hW) ?_
  refine xw_bipush (v := nI 57) dX10_many_4 (by decide) ?_
  refine xw_iload_n dX10_many_6 rfl rfl ?_
  refine xw_imul dX10_many_7 ?_
  obtain ⟨k0, k⟩ := k
  refine yw_iaload (v := I 210 (((nI 57) * v1).toNatClampNeg)) dX10_many_8 (la_210 hW) k0 rfl ?_
  exact yw_iret dX10_many_9 rfl k
theorem eX10_many {v1 : Int32} {h : xHp} {Q : Int32 → xHp → Prop} (k : Ex mX10_many 0 [.ref 209, .int v1] [] h 0 0 (xqI Q)) : CI mX10_many [.ref 209, .int v1] h Q := k
theorem bX10_copies_0 {v1 v2 : Int32} {mc ms : Nat} {Q : xHp → Prop} (hW : xLay sh R) 
    (k : Ex mX10_copies 2 [.ref 209, .int v1, .int v2, .int (nI 0)] [] (sh, I, R) mc ms (xqV Q)) :
    Ex mX10_copies 0 [.ref 209, .int v1, .int v2, xU] [] (sh, I, R) mc ms (xqV Q) := by
  refine xw_iconst (v := nI 0) dX10_copies_0 rfl ?_
  refine yw_istore_n (lv' := [.ref 209, .int v1, .int v2, .int (nI 0)]) dX10_copies_1 rfl rfl rfl rfl ?_
  exact k
theorem bX10_copies_2 {v1 v2 v3 : Int32} {mc ms : Nat} {Q : xHp → Prop} (hW : xLay sh R) 
    (k : (((nI 57) ≤ v3 → Q (sh, I, R)) ∧ (¬ (nI 57) ≤ v3 → CI mX10_at [.ref 209, .int v2, .int v3] (sh, I, R) (fun w h1 => Ex mX10_copies 18 [.ref 209, .int v1, .int v2, .int v3] (.int w :: [.ref 210]) h1 mc ms (xqV Q))))) :
    Ex mX10_copies 2 [.ref 209, .int v1, .int v2, .int v3] [] (sh, I, R) mc ms (xqV Q) := by
  refine xw_iload_n dX10_copies_2 rfl rfl ?_
  refine xw_bipush (v := nI 57) dX10_copies_3 (by decide) ?_
  refine xw_icge (tgt := 36) dX10_copies_5 (by decide) (fun c => ?_) (fun c => ?_)
  · replace k := k.1 c
    exact yw_vret dX10_copies_36 rfl k
  · replace k := k.2 c
    refine xw_aload_n dX10_copies_8 rfl rfl ?_
    refine yw_getR (r := 210) dX10_copies_9 fX10_7 rfl (la_209 hW) (lr_209_0 hW) ?_
    refine xw_aload_n dX10_copies_12 rfl rfl ?_
    refine xw_iload_n dX10_copies_13 rfl rfl ?_
    refine xw_iload_n dX10_copies_14 rfl rfl ?_
    exact yw_cV (As := [.int v2, .int v3]) (b := 209) (st := [.ref 210]) dX10_copies_15 lX10_81 kiX10_at kvX10_at rfl rfl rfl (la_209 hW) rfl (Nat.le_of_ble_eq_true rfl) rfl (xk_I k)
theorem bX10_copies_18 {v1 v2 v3 s1 : Int32} {mc ms : Nat} {Q : xHp → Prop} (hW : xLay sh R) 
    (k : CI mX10_at [.ref 209, .int v1, .int v3] (sh, I, R) (fun w h1 => Ex mX10_copies 28 [.ref 209, .int v1, .int v2, .int v3] (.int w :: [.ref 210, .int s1, .ref 210]) h1 mc ms (xqV Q))) :
    Ex mX10_copies 18 [.ref 209, .int v1, .int v2, .int v3] [.int s1, .ref 210] (sh, I, R) mc ms (xqV Q) := by
  refine xw_aload_n dX10_copies_18 rfl rfl ?_
  refine yw_getR (r := 210) dX10_copies_19 fX10_7 rfl (la_209 hW) (lr_209_0 hW) ?_
  refine xw_aload_n dX10_copies_22 rfl rfl ?_
  refine xw_iload_n dX10_copies_23 rfl rfl ?_
  refine xw_iload_n dX10_copies_24 rfl rfl ?_
  exact yw_cV (As := [.int v1, .int v3]) (b := 209) (st := [.ref 210, .int s1, .ref 210]) dX10_copies_25 lX10_81 kiX10_at kvX10_at rfl rfl rfl (la_209 hW) rfl (Nat.le_of_ble_eq_true rfl) rfl (xk_I k)
theorem bX10_copies_28 {v1 v2 v3 s3 s1 : Int32} {mc ms : Nat} {Q : xHp → Prop} (hW : xLay sh R) 
    (k : vp_in s3 1881 ∧ vp_in s1 1881 ∧ Ex mX10_copies 2 [.ref 209, .int v1, .int v2, .int (v3 + nI 1)] [] (sh, (xi I 210 s1.toNatClampNeg (I 210 s3.toNatClampNeg)), R) mc ms (xqV Q)) :
    Ex mX10_copies 28 [.ref 209, .int v1, .int v2, .int v3] [.int s3, .ref 210, .int s1, .ref 210] (sh, I, R) mc ms (xqV Q) := by
  obtain ⟨k0, k⟩ := k
  refine yw_iaload (v := I 210 s3.toNatClampNeg) dX10_copies_28 (la_210 hW) k0 rfl ?_
  obtain ⟨k0, k⟩ := k
  refine yw_iastore dX10_copies_29 (la_210 hW) k0 ?_
  refine yw_iinc (lv' := [.ref 209, .int v1, .int v2, .int (v3 + nI 1)]) (v := nI 1) dX10_copies_30 rfl rfl rfl rfl rfl ?_
  refine xw_goto (tgt := 2) dX10_copies_33 (by decide) ?_
  exact k
theorem eX10_copies {v1 : Int32} {v2 : Int32} {h : xHp} {Q : xHp → Prop} (k : Ex mX10_copies 0 [.ref 209, .int v1, .int v2, xU] [] h 0 0 (xqV Q)) : CV mX10_copies [.ref 209, .int v1, .int v2] h Q := k
theorem bX10_takesDraft_0 {mc ms : Nat} {Q : xHp → Prop} (hW : xLay sh R) 
    (k : CV mX10_copies [.ref 209, .int (nI 31), .int (nI 0)] (sh, (xi (xi I 209 1 (I 209 26)) 209 2 (I 209 27)), R) (fun h1 => Ex mX10_takesDraft 23 [.ref 209, xU] [] h1 mc ms (xqV Q))) :
    Ex mX10_takesDraft 0 [.ref 209, xU] [] (sh, I, R) mc ms (xqV Q) := by
  refine xw_aload_n dX10_takesDraft_0 rfl rfl ?_
  refine xw_aload_n dX10_takesDraft_1 rfl rfl ?_
  refine yw_getI (v := I 209 26) dX10_takesDraft_2 fX10_232 rfl (la_209 hW) rfl ?_
  refine yw_putI dX10_takesDraft_5 fX10_13 (fun r h => by cases h; exact Or.inl rfl) rfl (la_209 hW) ?_
  refine xw_aload_n dX10_takesDraft_8 rfl rfl ?_
  refine xw_aload_n dX10_takesDraft_9 rfl rfl ?_
  refine yw_getI (v := I 209 27) dX10_takesDraft_10 fX10_255 rfl (la_209 hW) (xi_s (j := 27) (k := 1) (by decide)) ?_
  refine yw_putI dX10_takesDraft_13 fX10_17 (fun r h => by cases h; exact Or.inl rfl) rfl (la_209 hW) ?_
  refine xw_aload_n dX10_takesDraft_16 rfl rfl ?_
  refine xw_bipush (v := nI 31) dX10_takesDraft_17 (by decide) ?_
  refine xw_iconst (v := nI 0) dX10_takesDraft_19 rfl ?_
  exact yw_cV (As := [.int (nI 31), .int (nI 0)]) (b := 209) (st := []) dX10_takesDraft_20 lX10_264 kiX10_copies kvX10_copies rfl rfl rfl (la_209 hW) rfl (Nat.le_of_ble_eq_true rfl) rfl (xk_V k)
theorem bX10_takesDraft_23 {mc ms : Nat} {Q : xHp → Prop} (hW : xLay sh R) 
    (k : Ex mX10_takesDraft 25 [.ref 209, .int (nI 1)] [] (sh, I, R) mc ms (xqV Q)) :
    Ex mX10_takesDraft 23 [.ref 209, xU] [] (sh, I, R) mc ms (xqV Q) := by
  refine xw_iconst (v := nI 1) dX10_takesDraft_23 rfl ?_
  refine yw_istore_n (lv' := [.ref 209, .int (nI 1)]) dX10_takesDraft_24 rfl rfl rfl rfl ?_
  exact k
theorem bX10_takesDraft_25 {v1 : Int32} {mc ms : Nat} {Q : xHp → Prop} (hW : xLay sh R) 
    (k : (((nI 57) ≤ v1 → CV mX10_anew [.ref 209] (sh, I, R) (fun h1 => Ex mX10_takesDraft 59 [.ref 209, xU] [] h1 mc ms (xqV Q))) ∧ (¬ (nI 57) ≤ v1 → CI mX10_at [.ref 209, .int (nI 0), .int v1] (sh, I, R) (fun w h1 => Ex mX10_takesDraft 41 [.ref 209, .int v1] (.int w :: [.ref 210]) h1 mc ms (xqV Q))))) :
    Ex mX10_takesDraft 25 [.ref 209, .int v1] [] (sh, I, R) mc ms (xqV Q) := by
  refine xw_iload_n dX10_takesDraft_25 rfl rfl ?_
  refine xw_bipush (v := nI 57) dX10_takesDraft_26 (by decide) ?_
  refine xw_icge (tgt := 55) dX10_takesDraft_28 (by decide) (fun c => ?_) (fun c => ?_)
  · replace k := k.1 c
    refine xw_aload_n dX10_takesDraft_55 rfl rfl ?_
    refine yw_sub (lv' := [.ref 209, xU]) ⟨Or.inr rfl, Or.inl rfl, trivial⟩ ?_
    exact yw_cV (As := []) (b := 209) (st := []) dX10_takesDraft_56 lX10_78 kiX10_anew kvX10_anew rfl rfl rfl (la_209 hW) rfl (Nat.le_of_ble_eq_true rfl) rfl (xk_V k)
  · replace k := k.2 c
    refine xw_aload_n dX10_takesDraft_31 rfl rfl ?_
    refine yw_getR (r := 210) dX10_takesDraft_32 fX10_7 rfl (la_209 hW) (lr_209_0 hW) ?_
    refine xw_aload_n dX10_takesDraft_35 rfl rfl ?_
    refine xw_iconst (v := nI 0) dX10_takesDraft_36 rfl ?_
    refine xw_iload_n dX10_takesDraft_37 rfl rfl ?_
    exact yw_cV (As := [.int (nI 0), .int v1]) (b := 209) (st := [.ref 210]) dX10_takesDraft_38 lX10_81 kiX10_at kvX10_at rfl rfl rfl (la_209 hW) rfl (Nat.le_of_ble_eq_true rfl) rfl (xk_I k)
theorem bX10_takesDraft_59 {mc ms : Nat} {Q : xHp → Prop} (hW : xLay sh R) 
    (k : Ex mX10_takesDraft 66 [.ref 209, .int (nI 0)] [] (sh, (xi I 209 32 (nI 0)), R) mc ms (xqV Q)) :
    Ex mX10_takesDraft 59 [.ref 209, xU] [] (sh, I, R) mc ms (xqV Q) := by
  refine xw_aload_n dX10_takesDraft_59 rfl rfl ?_
  refine xw_iconst (v := nI 0) dX10_takesDraft_60 rfl ?_
  refine yw_putI dX10_takesDraft_61 fX10_267 (fun r h => by cases h; exact Or.inl rfl) rfl (la_209 hW) ?_
  refine xw_iconst (v := nI 0) dX10_takesDraft_64 rfl ?_
  refine yw_istore_n (lv' := [.ref 209, .int (nI 0)]) dX10_takesDraft_65 rfl rfl rfl rfl ?_
  exact k
theorem bX10_takesDraft_66 {v1 : Int32} {mc ms : Nat} {Q : xHp → Prop} (hW : xLay sh R) 
    (k : (((nI 2) ≤ v1 → Ex mX10_takesDraft 86 [.ref 209, .int (nI 0)] [] (sh, I, R) mc ms (xqV Q)) ∧ (¬ (nI 2) ≤ v1 → vp_in v1 2 ∧ Ex mX10_takesDraft 66 [.ref 209, .int (v1 + nI 1)] [] (sh, (xi I 225 v1.toNatClampNeg (vp_nar .boolean (nI 0))), R) mc ms (xqV Q)))) :
    Ex mX10_takesDraft 66 [.ref 209, .int v1] [] (sh, I, R) mc ms (xqV Q) := by
  refine xw_iload_n dX10_takesDraft_66 rfl rfl ?_
  refine xw_iconst (v := nI 2) dX10_takesDraft_67 rfl ?_
  refine xw_icge (tgt := 84) dX10_takesDraft_68 (by decide) (fun c => ?_) (fun c => ?_)
  · replace k := k.1 c
    refine xw_iconst (v := nI 0) dX10_takesDraft_84 rfl ?_
    refine yw_istore_n (lv' := [.ref 209, .int (nI 0)]) dX10_takesDraft_85 rfl rfl rfl rfl ?_
    exact k
  · replace k := k.2 c
    refine xw_aload_n dX10_takesDraft_71 rfl rfl ?_
    refine yw_getR (r := 225) dX10_takesDraft_72 fX10_63 rfl (la_209 hW) (lr_209_36 hW) ?_
    refine xw_iload_n dX10_takesDraft_75 rfl rfl ?_
    refine xw_iconst (v := nI 0) dX10_takesDraft_76 rfl ?_
    obtain ⟨k0, k⟩ := k
    refine yw_zastore dX10_takesDraft_77 (la_225 hW) k0 ?_
    refine yw_iinc (lv' := [.ref 209, .int (v1 + nI 1)]) (v := nI 1) dX10_takesDraft_78 rfl rfl rfl rfl rfl ?_
    refine xw_goto (tgt := 66) dX10_takesDraft_81 (by decide) ?_
    exact k
theorem bX10_takesDraft_86 {v1 : Int32} {mc ms : Nat} {Q : xHp → Prop} (hW : xLay sh R) 
    (k : (((nI 3) ≤ v1 → Q (sh, I, R)) ∧ (¬ (nI 3) ≤ v1 → vp_in v1 3 ∧ Ex mX10_takesDraft 86 [.ref 209, .int (v1 + nI 1)] [] (sh, (xi I 227 v1.toNatClampNeg (-4)), R) mc ms (xqV Q)))) :
    Ex mX10_takesDraft 86 [.ref 209, .int v1] [] (sh, I, R) mc ms (xqV Q) := by
  refine xw_iload_n dX10_takesDraft_86 rfl rfl ?_
  refine xw_iconst (v := nI 3) dX10_takesDraft_87 rfl ?_
  refine xw_icge (tgt := 105) dX10_takesDraft_88 (by decide) (fun c => ?_) (fun c => ?_)
  · replace k := k.1 c
    exact yw_vret dX10_takesDraft_105 rfl k
  · replace k := k.2 c
    refine xw_aload_n dX10_takesDraft_91 rfl rfl ?_
    refine yw_getR (r := 227) dX10_takesDraft_92 fX10_69 rfl (la_209 hW) (lr_209_38 hW) ?_
    refine xw_iload_n dX10_takesDraft_95 rfl rfl ?_
    refine xw_bipush (v := (-4)) dX10_takesDraft_96 (by decide) ?_
    obtain ⟨k0, k⟩ := k
    refine yw_iastore dX10_takesDraft_98 (la_227 hW) k0 ?_
    refine yw_iinc (lv' := [.ref 209, .int (v1 + nI 1)]) (v := nI 1) dX10_takesDraft_99 rfl rfl rfl rfl rfl ?_
    refine xw_goto (tgt := 86) dX10_takesDraft_102 (by decide) ?_
    exact k
theorem bX10_takesDraft_41 {v1 s1 : Int32} {mc ms : Nat} {Q : xHp → Prop} (hW : xLay sh R) 
    (k : vp_in s1 1881 ∧ ¬ I 209 1 = 0 ∧ vp_in s1 1881 ∧ Ex mX10_takesDraft 25 [.ref 209, .int (v1 + nI 1)] [] (sh, (xi I 210 s1.toNatClampNeg (xrem (I 210 s1.toNatClampNeg) (I 209 1))), R) mc ms (xqV Q)) :
    Ex mX10_takesDraft 41 [.ref 209, .int v1] [.int s1, .ref 210] (sh, I, R) mc ms (xqV Q) := by
  refine xw_dup2 dX10_takesDraft_41 rfl rfl ?_
  obtain ⟨k0, k⟩ := k
  refine yw_iaload (v := I 210 s1.toNatClampNeg) dX10_takesDraft_42 (la_210 hW) k0 rfl ?_
  refine xw_aload_n dX10_takesDraft_43 rfl rfl ?_
  refine yw_getI (v := I 209 1) dX10_takesDraft_44 fX10_13 rfl (la_209 hW) rfl ?_
  obtain ⟨k0, k⟩ := k
  refine yw_irem dX10_takesDraft_47 k0 ?_
  obtain ⟨k0, k⟩ := k
  refine yw_iastore dX10_takesDraft_48 (la_210 hW) k0 ?_
  refine yw_iinc (lv' := [.ref 209, .int (v1 + nI 1)]) (v := nI 1) dX10_takesDraft_49 rfl rfl rfl rfl rfl ?_
  refine xw_goto (tgt := 25) dX10_takesDraft_52 (by decide) ?_
  exact k
theorem eX10_takesDraft {h : xHp} {Q : xHp → Prop} (k : Ex mX10_takesDraft 0 [.ref 209, xU] [] h 0 0 (xqV Q)) : CV mX10_takesDraft [.ref 209] h Q := k
theorem bX10_text_0 {mc ms : Nat} {Q : Int32 → xHp → Prop} (hW : xLay sh R) 
    (k : CV mX10_empties [.ref 209, .int (nI 31)] (sh, (xi (xi I 209 17 (nI 0)) 209 19 (nI 0)), R) (fun h1 => Ex mX10_text 16 [.ref 209, xU] [] h1 mc ms (xqI Q))) :
    Ex mX10_text 0 [.ref 209, xU] [] (sh, I, R) mc ms (xqI Q) := by
  refine xw_aload_n dX10_text_0 rfl rfl ?_
  refine xw_iconst (v := nI 0) dX10_text_1 rfl ?_
  refine yw_putI dX10_text_2 fX10_188 (fun r h => by cases h; exact Or.inl rfl) rfl (la_209 hW) ?_
  refine xw_aload_n dX10_text_5 rfl rfl ?_
  refine xw_iconst (v := nI 0) dX10_text_6 rfl ?_
  refine yw_putI dX10_text_7 fX10_197 (fun r h => by cases h; exact Or.inl rfl) rfl (la_209 hW) ?_
  refine xw_aload_n dX10_text_10 rfl rfl ?_
  refine xw_bipush (v := nI 31) dX10_text_11 (by decide) ?_
  exact yw_cV (As := [.int (nI 31)]) (b := 209) (st := []) dX10_text_13 lX10_156 kiX10_empties kvX10_empties rfl rfl rfl (la_209 hW) rfl (Nat.le_of_ble_eq_true rfl) rfl (xk_V k)
theorem bX10_text_16 {mc ms : Nat} {Q : Int32 → xHp → Prop} (hW : xLay sh R) 
    (k : Ex mX10_text 39 [.ref 209, .int (nI 0)] [] (sh, (xi (xi (xi (xi I 209 26 (nI 7)) 209 27 (nI 2)) 209 28 (nI 0)) 209 29 (nI 0)), R) mc ms (xqI Q)) :
    Ex mX10_text 16 [.ref 209, xU] [] (sh, I, R) mc ms (xqI Q) := by
  refine xw_aload_n dX10_text_16 rfl rfl ?_
  refine xw_bipush (v := nI 7) dX10_text_17 (by decide) ?_
  refine yw_putI dX10_text_19 fX10_232 (fun r h => by cases h; exact Or.inl rfl) rfl (la_209 hW) ?_
  refine xw_aload_n dX10_text_22 rfl rfl ?_
  refine xw_iconst (v := nI 2) dX10_text_23 rfl ?_
  refine yw_putI dX10_text_24 fX10_255 (fun r h => by cases h; exact Or.inl rfl) rfl (la_209 hW) ?_
  refine xw_aload_n dX10_text_27 rfl rfl ?_
  refine xw_iconst (v := nI 0) dX10_text_28 rfl ?_
  refine yw_putI dX10_text_29 fX10_238 (fun r h => by cases h; exact Or.inl rfl) rfl (la_209 hW) ?_
  refine xw_aload_n dX10_text_32 rfl rfl ?_
  refine xw_iconst (v := nI 0) dX10_text_33 rfl ?_
  refine yw_putI dX10_text_34 fX10_246 (fun r h => by cases h; exact Or.inl rfl) rfl (la_209 hW) ?_
  refine xw_iconst (v := nI 0) dX10_text_37 rfl ?_
  refine yw_istore_n (lv' := [.ref 209, .int (nI 0)]) dX10_text_38 rfl rfl rfl rfl ?_
  exact k
theorem bX10_text_39 {v1 : Int32} {mc ms : Nat} {Q : Int32 → xHp → Prop} (hW : xLay sh R) 
    (k : (((nI 3) ≤ v1 → CV mX10_reads [.ref 209] (sh, I, R) (fun h1 => Ex mX10_text 63 [.ref 209, .int (nI 0)] [] h1 mc ms (xqI Q))) ∧ (¬ (nI 3) ≤ v1 → vp_in v1 3 ∧ Ex mX10_text 39 [.ref 209, .int (v1 + nI 1)] [] (sh, (xi I 221 v1.toNatClampNeg (vp_nar .boolean (nI 0))), R) mc ms (xqI Q)))) :
    Ex mX10_text 39 [.ref 209, .int v1] [] (sh, I, R) mc ms (xqI Q) := by
  refine xw_iload_n dX10_text_39 rfl rfl ?_
  refine xw_iconst (v := nI 3) dX10_text_40 rfl ?_
  refine xw_icge (tgt := 57) dX10_text_41 (by decide) (fun c => ?_) (fun c => ?_)
  · replace k := k.1 c
    refine xw_iconst (v := nI 0) dX10_text_57 rfl ?_
    refine yw_istore_n (lv' := [.ref 209, .int (nI 0)]) dX10_text_58 rfl rfl rfl rfl ?_
    refine xw_aload_n dX10_text_59 rfl rfl ?_
    exact yw_cV (As := []) (b := 209) (st := []) dX10_text_60 lX10_224 kiX10_reads kvX10_reads rfl rfl rfl (la_209 hW) rfl (Nat.le_of_ble_eq_true rfl) rfl (xk_V k)
  · replace k := k.2 c
    refine xw_aload_n dX10_text_44 rfl rfl ?_
    refine yw_getR (r := 221) dX10_text_45 fX10_50 rfl (la_209 hW) (lr_209_25 hW) ?_
    refine xw_iload_n dX10_text_48 rfl rfl ?_
    refine xw_iconst (v := nI 0) dX10_text_49 rfl ?_
    obtain ⟨k0, k⟩ := k
    refine yw_zastore dX10_text_50 (la_221 hW) k0 ?_
    refine yw_iinc (lv' := [.ref 209, .int (v1 + nI 1)]) (v := nI 1) dX10_text_51 rfl rfl rfl rfl rfl ?_
    refine xw_goto (tgt := 39) dX10_text_54 (by decide) ?_
    exact k
theorem bX10_text_63 {v1 : Int32} {mc ms : Nat} {Q : Int32 → xHp → Prop} (hW : xLay sh R) 
    (k : ((¬ (I 209 17) = 0 → ((0 < (I 209 17) → CI mX10_must [.ref 209, .int (nI 1), .int (nI 5)] (sh, I, R) (fun w h1 => Ex mX10_text 128 [.ref 209, .int v1] (.int w :: []) h1 mc ms (xqI Q))) ∧ (¬ 0 < (I 209 17) → CI mX10_many [.ref 209, .int (nI 31)] (sh, I, R) (fun w h1 => Ex mX10_text 105 [.ref 209, .int v1] (.int w :: [.int (I 209 28), .ref 209]) h1 mc ms (xqI Q))))) ∧ ((I 209 17) = 0 → (((I 209 21) = 0 → ((0 < (I 209 17) → CI mX10_must [.ref 209, .int (nI 1), .int (nI 5)] (sh, I, R) (fun w h1 => Ex mX10_text 128 [.ref 209, .int v1] (.int w :: []) h1 mc ms (xqI Q))) ∧ (¬ 0 < (I 209 17) → CI mX10_many [.ref 209, .int (nI 31)] (sh, I, R) (fun w h1 => Ex mX10_text 105 [.ref 209, .int v1] (.int w :: [.int (I 209 28), .ref 209]) h1 mc ms (xqI Q))))) ∧ (¬ (I 209 21) = 0 → CV mX10_readsLine [.ref 209] (sh, I, R) (fun h1 => Ex mX10_text 81 [.ref 209, .int v1] [] h1 mc ms (xqI Q))))))) :
    Ex mX10_text 63 [.ref 209, .int v1] [] (sh, I, R) mc ms (xqI Q) := by
  refine xw_aload_n dX10_text_63 rfl rfl ?_
  refine yw_getI (v := I 209 17) dX10_text_64 fX10_188 rfl (la_209 hW) rfl ?_
  refine xw_ifne (tgt := 87) dX10_text_67 (by decide) (fun c => ?_) (fun c => ?_)
  · replace k := k.1 c
    refine xw_aload_n dX10_text_87 rfl rfl ?_
    refine xw_aload_n dX10_text_88 rfl rfl ?_
    refine yw_getI (v := I 209 17) dX10_text_89 fX10_188 rfl (la_209 hW) rfl ?_
    refine xw_ifgt (tgt := 119) dX10_text_92 (by decide) (fun c => ?_) (fun c => ?_)
    · replace k := k.1 c
      refine xw_iconst (v := nI 1) dX10_text_119 rfl ?_
      refine xw_goto (tgt := 124) dX10_text_120 (by decide) ?_
      refine xw_iconst (v := nI 5) dX10_text_124 rfl ?_
      exact yw_cV (As := [.int (nI 1), .int (nI 5)]) (b := 209) (st := []) dX10_text_125 lX10_217 kiX10_must kvX10_must rfl rfl rfl (la_209 hW) rfl (Nat.le_of_ble_eq_true rfl) rfl (xk_I k)
    · replace k := k.2 c
      refine xw_aload_n dX10_text_95 rfl rfl ?_
      refine yw_getI (v := I 209 28) dX10_text_96 fX10_238 rfl (la_209 hW) rfl ?_
      refine xw_aload_n dX10_text_99 rfl rfl ?_
      refine xw_bipush (v := nI 31) dX10_text_100 (by decide) ?_
      exact yw_cV (As := [.int (nI 31)]) (b := 209) (st := [.int (I 209 28), .ref 209]) dX10_text_102 lX10_95 kiX10_many kvX10_many rfl rfl rfl (la_209 hW) rfl (Nat.le_of_ble_eq_true rfl) rfl (xk_I k)
  · replace k := k.2 c
    refine xw_aload_n dX10_text_70 rfl rfl ?_
    refine yw_getI (v := I 209 21) dX10_text_71 fX10_206 rfl (la_209 hW) rfl ?_
    refine xw_ifeq (tgt := 87) dX10_text_74 (by decide) (fun c => ?_) (fun c => ?_)
    · replace k := k.1 c
      refine xw_aload_n dX10_text_87 rfl rfl ?_
      refine xw_aload_n dX10_text_88 rfl rfl ?_
      refine yw_getI (v := I 209 17) dX10_text_89 fX10_188 rfl (la_209 hW) rfl ?_
      refine xw_ifgt (tgt := 119) dX10_text_92 (by decide) (fun c => ?_) (fun c => ?_)
      · replace k := k.1 c
        refine xw_iconst (v := nI 1) dX10_text_119 rfl ?_
        refine xw_goto (tgt := 124) dX10_text_120 (by decide) ?_
        refine xw_iconst (v := nI 5) dX10_text_124 rfl ?_
        exact yw_cV (As := [.int (nI 1), .int (nI 5)]) (b := 209) (st := []) dX10_text_125 lX10_217 kiX10_must kvX10_must rfl rfl rfl (la_209 hW) rfl (Nat.le_of_ble_eq_true rfl) rfl (xk_I k)
      · replace k := k.2 c
        refine xw_aload_n dX10_text_95 rfl rfl ?_
        refine yw_getI (v := I 209 28) dX10_text_96 fX10_238 rfl (la_209 hW) rfl ?_
        refine xw_aload_n dX10_text_99 rfl rfl ?_
        refine xw_bipush (v := nI 31) dX10_text_100 (by decide) ?_
        exact yw_cV (As := [.int (nI 31)]) (b := 209) (st := [.int (I 209 28), .ref 209]) dX10_text_102 lX10_95 kiX10_many kvX10_many rfl rfl rfl (la_209 hW) rfl (Nat.le_of_ble_eq_true rfl) rfl (xk_I k)
    · replace k := k.2 c
      refine xw_aload_n dX10_text_77 rfl rfl ?_
      exact yw_cV (As := []) (b := 209) (st := []) dX10_text_78 lX10_270 kiX10_readsLine kvX10_readsLine rfl rfl rfl (la_209 hW) rfl (Nat.le_of_ble_eq_true rfl) rfl (xk_V k)
theorem bX10_text_128 {v1 s0 : Int32} {mc ms : Nat} {Q : Int32 → xHp → Prop} (hW : xLay sh R) 
    (k : (((I 209 17) ≤ 0 → CV mX10_takesDraft [.ref 209] (sh, (xi I 209 16 (nI 0)), R) (fun h1 => Ex mX10_text 153 [xU, .int v1] [] h1 mc ms (xqI Q))) ∧ (¬ (I 209 17) ≤ 0 → Q ((-10) - (I 209 18)) (sh, (xi I 209 16 (nI 0)), R)))) :
    Ex mX10_text 128 [.ref 209, .int v1] [.int s0] (sh, I, R) mc ms (xqI Q) := by
  refine xw_pop dX10_text_128 rfl ?_
  refine xw_aload_n dX10_text_129 rfl rfl ?_
  refine xw_iconst (v := nI 0) dX10_text_130 rfl ?_
  refine yw_putI dX10_text_131 fX10_185 (fun r h => by cases h; exact Or.inl rfl) rfl (la_209 hW) ?_
  refine xw_aload_n dX10_text_134 rfl rfl ?_
  refine yw_getI (v := I 209 17) dX10_text_135 fX10_188 rfl (la_209 hW) (xi_s (j := 17) (k := 16) (by decide)) ?_
  refine xw_ifle (tgt := 149) dX10_text_138 (by decide) (fun c => ?_) (fun c => ?_)
  · replace k := k.1 c
    refine xw_aload_n dX10_text_149 rfl rfl ?_
    refine yw_sub (lv' := [xU, .int v1]) ⟨Or.inl rfl, Or.inr rfl, trivial⟩ ?_
    exact yw_cV (As := []) (b := 209) (st := []) dX10_text_150 lX10_273 kiX10_takesDraft kvX10_takesDraft rfl rfl rfl (la_209 hW) rfl (Nat.le_of_ble_eq_true rfl) rfl (xk_V k)
  · replace k := k.2 c
    refine xw_bipush (v := (-10)) dX10_text_141 (by decide) ?_
    refine xw_aload_n dX10_text_143 rfl rfl ?_
    refine yw_getI (v := I 209 18) dX10_text_144 fX10_194 rfl (la_209 hW) (xi_s (j := 18) (k := 16) (by decide)) ?_
    refine xw_isub dX10_text_147 ?_
    exact yw_iret dX10_text_148 rfl k
theorem bX10_text_153 {v1 : Int32} {mc ms : Nat} {Q : Int32 → xHp → Prop} (hW : xLay sh R) 
    (k : Q v1 (sh, I, R)) :
    Ex mX10_text 153 [xU, .int v1] [] (sh, I, R) mc ms (xqI Q) := by
  refine xw_iload_n dX10_text_153 rfl rfl ?_
  exact yw_iret dX10_text_154 rfl k
theorem bX10_text_105 {v1 s2 s1 : Int32} {mc ms : Nat} {Q : Int32 → xHp → Prop} (hW : xLay sh R) 
    (k : ((s2 < s1 → CI mX10_must [.ref 209, .int (nI 0), .int (nI 5)] (sh, I, R) (fun w h1 => Ex mX10_text 128 [.ref 209, .int v1] (.int w :: []) h1 mc ms (xqI Q))) ∧ (¬ s2 < s1 → (((I 209 27) < (I 209 29) → CI mX10_must [.ref 209, .int (nI 0), .int (nI 5)] (sh, I, R) (fun w h1 => Ex mX10_text 128 [.ref 209, .int v1] (.int w :: []) h1 mc ms (xqI Q))) ∧ (¬ (I 209 27) < (I 209 29) → CI mX10_must [.ref 209, .int (nI 1), .int (nI 5)] (sh, I, R) (fun w h1 => Ex mX10_text 128 [.ref 209, .int v1] (.int w :: []) h1 mc ms (xqI Q))))))) :
    Ex mX10_text 105 [.ref 209, .int v1] [.int s2, .int s1, .ref 209] (sh, I, R) mc ms (xqI Q) := by
  refine xw_icgt (tgt := 123) dX10_text_105 (by decide) (fun c => ?_) (fun c => ?_)
  · replace k := k.1 c
    refine xw_iconst (v := nI 0) dX10_text_123 rfl ?_
    refine xw_iconst (v := nI 5) dX10_text_124 rfl ?_
    exact yw_cV (As := [.int (nI 0), .int (nI 5)]) (b := 209) (st := []) dX10_text_125 lX10_217 kiX10_must kvX10_must rfl rfl rfl (la_209 hW) rfl (Nat.le_of_ble_eq_true rfl) rfl (xk_I k)
  · replace k := k.2 c
    refine xw_aload_n dX10_text_108 rfl rfl ?_
    refine yw_getI (v := I 209 29) dX10_text_109 fX10_246 rfl (la_209 hW) rfl ?_
    refine xw_aload_n dX10_text_112 rfl rfl ?_
    refine yw_getI (v := I 209 27) dX10_text_113 fX10_255 rfl (la_209 hW) rfl ?_
    refine xw_icgt (tgt := 123) dX10_text_116 (by decide) (fun c => ?_) (fun c => ?_)
    · replace k := k.1 c
      refine xw_iconst (v := nI 0) dX10_text_123 rfl ?_
      refine xw_iconst (v := nI 5) dX10_text_124 rfl ?_
      exact yw_cV (As := [.int (nI 0), .int (nI 5)]) (b := 209) (st := []) dX10_text_125 lX10_217 kiX10_must kvX10_must rfl rfl rfl (la_209 hW) rfl (Nat.le_of_ble_eq_true rfl) rfl (xk_I k)
    · replace k := k.2 c
      refine xw_iconst (v := nI 1) dX10_text_119 rfl ?_
      refine xw_goto (tgt := 124) dX10_text_120 (by decide) ?_
      refine xw_iconst (v := nI 5) dX10_text_124 rfl ?_
      exact yw_cV (As := [.int (nI 1), .int (nI 5)]) (b := 209) (st := []) dX10_text_125 lX10_217 kiX10_must kvX10_must rfl rfl rfl (la_209 hW) rfl (Nat.le_of_ble_eq_true rfl) rfl (xk_I k)
theorem bX10_text_81 {v1 : Int32} {mc ms : Nat} {Q : Int32 → xHp → Prop} (hW : xLay sh R) 
    (k : Ex mX10_text 63 [.ref 209, .int (v1 + nI 1)] [] (sh, I, R) mc ms (xqI Q)) :
    Ex mX10_text 81 [.ref 209, .int v1] [] (sh, I, R) mc ms (xqI Q) := by
  refine yw_iinc (lv' := [.ref 209, .int (v1 + nI 1)]) (v := nI 1) dX10_text_81 rfl rfl rfl rfl rfl ?_
  refine xw_goto (tgt := 63) dX10_text_84 (by decide) ?_
  exact k
theorem eX10_text {h : xHp} {Q : Int32 → xHp → Prop} (k : Ex mX10_text 0 [.ref 209, xU] [] h 0 0 (xqI Q)) : CI mX10_text [.ref 209] h Q := k
theorem bX10_fault_0 {mc ms : Nat} {Q : Int32 → xHp → Prop} (hW : xLay sh R) 
    (k : Q (I 209 17) (sh, I, R)) :
    Ex mX10_fault 0 [.ref 209] [] (sh, I, R) mc ms (xqI Q) := by
  refine xw_aload_n dX10_fault_0 rfl rfl ?_
  refine yw_getI (v := I 209 17) dX10_fault_1 fX10_188 rfl (la_209 hW) rfl ?_
  exact yw_iret dX10_fault_4 rfl k
theorem eX10_fault {h : xHp} {Q : Int32 → xHp → Prop} (k : Ex mX10_fault 0 [.ref 209] [] h 0 0 (xqI Q)) : CI mX10_fault [.ref 209] h Q := k
theorem bX10_power_0 {v1 : Int32} {mc ms : Nat} {Q : Int32 → xHp → Prop} (hW : xLay sh R) 
    (k : Ex mX10_power 4 [.ref 209, .int v1, .int (nI 1), .int (nI 0)] [] (sh, I, R) mc ms (xqI Q)) :
    Ex mX10_power 0 [.ref 209, .int v1, xU, xU] [] (sh, I, R) mc ms (xqI Q) := by
  refine xw_iconst (v := nI 1) dX10_power_0 rfl ?_
  refine yw_istore_n (lv' := [.ref 209, .int v1, .int (nI 1), xU]) dX10_power_1 rfl rfl rfl rfl ?_
  refine xw_iconst (v := nI 0) dX10_power_2 rfl ?_
  refine yw_istore_n (lv' := [.ref 209, .int v1, .int (nI 1), .int (nI 0)]) dX10_power_3 rfl rfl rfl rfl ?_
  exact k
theorem bX10_power_4 {v1 v2 v3 : Int32} {mc ms : Nat} {Q : Int32 → xHp → Prop} (hW : xLay sh R) 
    (k : ((v1 ≤ v3 → Q v2 (sh, I, R)) ∧ (¬ v1 ≤ v3 → Ex mX10_power 4 [.ref 209, .int v1, .int (v2 * (I 209 2)), .int (v3 + nI 1)] [] (sh, I, R) mc ms (xqI Q)))) :
    Ex mX10_power 4 [.ref 209, .int v1, .int v2, .int v3] [] (sh, I, R) mc ms (xqI Q) := by
  refine xw_iload_n dX10_power_4 rfl rfl ?_
  refine xw_iload_n dX10_power_5 rfl rfl ?_
  refine xw_icge (tgt := 22) dX10_power_6 (by decide) (fun c => ?_) (fun c => ?_)
  · replace k := k.1 c
    refine xw_iload_n dX10_power_22 rfl rfl ?_
    exact yw_iret dX10_power_23 rfl k
  · replace k := k.2 c
    refine xw_iload_n dX10_power_9 rfl rfl ?_
    refine xw_aload_n dX10_power_10 rfl rfl ?_
    refine yw_getI (v := I 209 2) dX10_power_11 fX10_17 rfl (la_209 hW) rfl ?_
    refine xw_imul dX10_power_14 ?_
    refine yw_istore_n (lv' := [.ref 209, .int v1, .int (v2 * (I 209 2)), .int v3]) dX10_power_15 rfl rfl rfl rfl ?_
    refine yw_iinc (lv' := [.ref 209, .int v1, .int (v2 * (I 209 2)), .int (v3 + nI 1)]) (v := nI 1) dX10_power_16 rfl rfl rfl rfl rfl ?_
    refine xw_goto (tgt := 4) dX10_power_19 (by decide) ?_
    exact k
theorem eX10_power {v1 : Int32} {h : xHp} {Q : Int32 → xHp → Prop} (k : Ex mX10_power 0 [.ref 209, .int v1, xU, xU] [] h 0 0 (xqI Q)) : CI mX10_power [.ref 209, .int v1] h Q := k
theorem bX10_firstOf_0 {v1 : Int32} {mc ms : Nat} {Q : Int32 → xHp → Prop} (hW : xLay sh R) 
    (k : Ex mX10_firstOf 4 [.ref 209, .int v1, .int (nI 0), .int (nI 0)] [] (sh, I, R) mc ms (xqI Q)) :
    Ex mX10_firstOf 0 [.ref 209, .int v1, xU, xU] [] (sh, I, R) mc ms (xqI Q) := by
  refine xw_iconst (v := nI 0) dX10_firstOf_0 rfl ?_
  refine yw_istore_n (lv' := [.ref 209, .int v1, .int (nI 0), xU]) dX10_firstOf_1 rfl rfl rfl rfl ?_
  refine xw_iconst (v := nI 0) dX10_firstOf_2 rfl ?_
  refine yw_istore_n (lv' := [.ref 209, .int v1, .int (nI 0), .int (nI 0)]) dX10_firstOf_3 rfl rfl rfl rfl ?_
  exact k
theorem bX10_firstOf_4 {v1 v2 v3 : Int32} {mc ms : Nat} {Q : Int32 → xHp → Prop} (hW : xLay sh R) 
    (k : ((v1 ≤ v3 → Q v2 (sh, I, R)) ∧ (¬ v1 ≤ v3 → CI mX10_power [.ref 209, .int v3] (sh, I, R) (fun w h1 => Ex mX10_firstOf 15 [.ref 209, .int v1, xU, .int v3] (.int w :: [.int v2]) h1 mc ms (xqI Q))))) :
    Ex mX10_firstOf 4 [.ref 209, .int v1, .int v2, .int v3] [] (sh, I, R) mc ms (xqI Q) := by
  refine xw_iload_n dX10_firstOf_4 rfl rfl ?_
  refine xw_iload_n dX10_firstOf_5 rfl rfl ?_
  refine xw_icge (tgt := 23) dX10_firstOf_6 (by decide) (fun c => ?_) (fun c => ?_)
  · replace k := k.1 c
    refine xw_iload_n dX10_firstOf_23 rfl rfl ?_
    exact yw_iret dX10_firstOf_24 rfl k
  · replace k := k.2 c
    refine xw_iload_n dX10_firstOf_9 rfl rfl ?_
    refine xw_aload_n dX10_firstOf_10 rfl rfl ?_
    refine xw_iload_n dX10_firstOf_11 rfl rfl ?_
    refine yw_sub (lv' := [.ref 209, .int v1, xU, .int v3]) ⟨Or.inr rfl, Or.inr rfl, Or.inl rfl, Or.inr rfl, trivial⟩ ?_
    exact yw_cV (As := [.int v3]) (b := 209) (st := [.int v2]) dX10_firstOf_12 lX10_85 kiX10_power kvX10_power rfl rfl rfl (la_209 hW) rfl (Nat.le_of_ble_eq_true rfl) rfl (xk_I k)
theorem bX10_firstOf_15 {v1 v3 s1 s0 : Int32} {mc ms : Nat} {Q : Int32 → xHp → Prop} (hW : xLay sh R) 
    (k : Ex mX10_firstOf 4 [.ref 209, .int v1, .int (s0 + s1), .int (v3 + nI 1)] [] (sh, I, R) mc ms (xqI Q)) :
    Ex mX10_firstOf 15 [.ref 209, .int v1, xU, .int v3] [.int s1, .int s0] (sh, I, R) mc ms (xqI Q) := by
  refine xw_iadd dX10_firstOf_15 ?_
  refine yw_istore_n (lv' := [.ref 209, .int v1, .int (s0 + s1), .int v3]) dX10_firstOf_16 rfl rfl rfl rfl ?_
  refine yw_iinc (lv' := [.ref 209, .int v1, .int (s0 + s1), .int (v3 + nI 1)]) (v := nI 1) dX10_firstOf_17 rfl rfl rfl rfl rfl ?_
  refine xw_goto (tgt := 4) dX10_firstOf_20 (by decide) ?_
  exact k
theorem eX10_firstOf {v1 : Int32} {h : xHp} {Q : Int32 → xHp → Prop} (k : Ex mX10_firstOf 0 [.ref 209, .int v1, xU, xU] [] h 0 0 (xqI Q)) : CI mX10_firstOf [.ref 209, .int v1] h Q := k
theorem bX10_lengthOf_0 {v1 : Int32} {mc ms : Nat} {Q : Int32 → xHp → Prop} (hW : xLay sh R) 
    (k : Ex mX10_lengthOf 2 [.ref 209, .int v1, .int (nI 0)] [] (sh, I, R) mc ms (xqI Q)) :
    Ex mX10_lengthOf 0 [.ref 209, .int v1, xU] [] (sh, I, R) mc ms (xqI Q) := by
  refine xw_iconst (v := nI 0) dX10_lengthOf_0 rfl ?_
  refine yw_istore_n (lv' := [.ref 209, .int v1, .int (nI 0)]) dX10_lengthOf_1 rfl rfl rfl rfl ?_
  exact k
theorem bX10_lengthOf_2 {v1 v2 : Int32} {mc ms : Nat} {Q : Int32 → xHp → Prop} (hW : xLay sh R) 
    (k : CI mX10_firstOf [.ref 209, .int (v2 + (nI 1))] (sh, I, R) (fun w h1 => Ex mX10_lengthOf 9 [.ref 209, .int v1, .int v2] (.int w :: []) h1 mc ms (xqI Q))) :
    Ex mX10_lengthOf 2 [.ref 209, .int v1, .int v2] [] (sh, I, R) mc ms (xqI Q) := by
  refine xw_aload_n dX10_lengthOf_2 rfl rfl ?_
  refine xw_iload_n dX10_lengthOf_3 rfl rfl ?_
  refine xw_iconst (v := nI 1) dX10_lengthOf_4 rfl ?_
  refine xw_iadd dX10_lengthOf_5 ?_
  exact yw_cV (As := [.int (v2 + (nI 1))]) (b := 209) (st := []) dX10_lengthOf_6 lX10_89 kiX10_firstOf kvX10_firstOf rfl rfl rfl (la_209 hW) rfl (Nat.le_of_ble_eq_true rfl) rfl (xk_I k)
theorem bX10_lengthOf_9 {v1 v2 s0 : Int32} {mc ms : Nat} {Q : Int32 → xHp → Prop} (hW : xLay sh R) 
    (k : ((v1 < s0 → Q v2 (sh, I, R)) ∧ (¬ v1 < s0 → Ex mX10_lengthOf 2 [.ref 209, .int v1, .int (v2 + nI 1)] [] (sh, I, R) mc ms (xqI Q)))) :
    Ex mX10_lengthOf 9 [.ref 209, .int v1, .int v2] [.int s0] (sh, I, R) mc ms (xqI Q) := by
  refine xw_iload_n dX10_lengthOf_9 rfl rfl ?_
  refine xw_icgt (tgt := 19) dX10_lengthOf_10 (by decide) (fun c => ?_) (fun c => ?_)
  · replace k := k.1 c
    refine xw_iload_n dX10_lengthOf_19 rfl rfl ?_
    exact yw_iret dX10_lengthOf_20 rfl k
  · replace k := k.2 c
    refine yw_iinc (lv' := [.ref 209, .int v1, .int (v2 + nI 1)]) (v := nI 1) dX10_lengthOf_13 rfl rfl rfl rfl rfl ?_
    refine xw_goto (tgt := 2) dX10_lengthOf_16 (by decide) ?_
    exact k
theorem eX10_lengthOf {v1 : Int32} {h : xHp} {Q : Int32 → xHp → Prop} (k : Ex mX10_lengthOf 0 [.ref 209, .int v1, xU] [] h 0 0 (xqI Q)) : CI mX10_lengthOf [.ref 209, .int v1] h Q := k
theorem bX10_joined_0 {v1 v2 : Int32} {mc ms : Nat} {Q : Int32 → xHp → Prop} (hW : xLay sh R) 
    (k : CI mX10_lengthOf [.ref 209, .int v1] (sh, I, R) (fun w h1 => Ex mX10_joined 5 [.ref 209, .int v1, .int v2, xU, xU] (.int w :: []) h1 mc ms (xqI Q))) :
    Ex mX10_joined 0 [.ref 209, .int v1, .int v2, xU, xU] [] (sh, I, R) mc ms (xqI Q) := by
  refine xw_aload_n dX10_joined_0 rfl rfl ?_
  refine xw_iload_n dX10_joined_1 rfl rfl ?_
  exact yw_cV (As := [.int v1]) (b := 209) (st := []) dX10_joined_2 lX10_92 kiX10_lengthOf kvX10_lengthOf rfl rfl rfl (la_209 hW) rfl (Nat.le_of_ble_eq_true rfl) rfl (xk_I k)
theorem bX10_joined_5 {v1 v2 s0 : Int32} {mc ms : Nat} {Q : Int32 → xHp → Prop} (hW : xLay sh R) 
    (k : CI mX10_lengthOf [.ref 209, .int v2] (sh, I, R) (fun w h1 => Ex mX10_joined 11 [.ref 209, .int v1, .int v2, .int s0, xU] (.int w :: []) h1 mc ms (xqI Q))) :
    Ex mX10_joined 5 [.ref 209, .int v1, .int v2, xU, xU] [.int s0] (sh, I, R) mc ms (xqI Q) := by
  refine yw_istore_n (lv' := [.ref 209, .int v1, .int v2, .int s0, xU]) dX10_joined_5 rfl rfl rfl rfl ?_
  refine xw_aload_n dX10_joined_6 rfl rfl ?_
  refine xw_iload_n dX10_joined_7 rfl rfl ?_
  exact yw_cV (As := [.int v2]) (b := 209) (st := []) dX10_joined_8 lX10_92 kiX10_lengthOf kvX10_lengthOf rfl rfl rfl (la_209 hW) rfl (Nat.le_of_ble_eq_true rfl) rfl (xk_I k)
theorem bX10_joined_11 {v1 v2 v3 s0 : Int32} {mc ms : Nat} {Q : Int32 → xHp → Prop} (hW : xLay sh R) 
    (k : CI mX10_firstOf [.ref 209, .int (v3 + s0)] (sh, I, R) (fun w h1 => Ex mX10_joined 21 [.ref 209, .int v1, .int v2, .int v3, .int s0] (.int w :: []) h1 mc ms (xqI Q))) :
    Ex mX10_joined 11 [.ref 209, .int v1, .int v2, .int v3, xU] [.int s0] (sh, I, R) mc ms (xqI Q) := by
  refine yw_istore (lv' := [.ref 209, .int v1, .int v2, .int v3, .int s0]) dX10_joined_11 rfl rfl rfl ?_
  refine xw_aload_n dX10_joined_13 rfl rfl ?_
  refine xw_iload_n dX10_joined_14 rfl rfl ?_
  refine xw_iload dX10_joined_15 rfl ?_
  refine xw_iadd dX10_joined_17 ?_
  exact yw_cV (As := [.int (v3 + s0)]) (b := 209) (st := []) dX10_joined_18 lX10_89 kiX10_firstOf kvX10_firstOf rfl rfl rfl (la_209 hW) rfl (Nat.le_of_ble_eq_true rfl) rfl (xk_I k)
theorem bX10_joined_21 {v1 v2 v3 v4 s0 : Int32} {mc ms : Nat} {Q : Int32 → xHp → Prop} (hW : xLay sh R) 
    (k : CI mX10_firstOf [.ref 209, .int v3] (sh, I, R) (fun w h1 => Ex mX10_joined 27 [.ref 209, xU, .int v2, xU, .int v4] (.int w :: [.int v1, .int s0]) h1 mc ms (xqI Q))) :
    Ex mX10_joined 21 [.ref 209, .int v1, .int v2, .int v3, .int v4] [.int s0] (sh, I, R) mc ms (xqI Q) := by
  refine xw_iload_n dX10_joined_21 rfl rfl ?_
  refine xw_aload_n dX10_joined_22 rfl rfl ?_
  refine xw_iload_n dX10_joined_23 rfl rfl ?_
  refine yw_sub (lv' := [.ref 209, xU, .int v2, xU, .int v4]) ⟨Or.inr rfl, Or.inl rfl, Or.inr rfl, Or.inl rfl, Or.inr rfl, trivial⟩ ?_
  exact yw_cV (As := [.int v3]) (b := 209) (st := [.int v1, .int s0]) dX10_joined_24 lX10_89 kiX10_firstOf kvX10_firstOf rfl rfl rfl (la_209 hW) rfl (Nat.le_of_ble_eq_true rfl) rfl (xk_I k)
theorem bX10_joined_27 {v2 v4 s2 s1 s0 : Int32} {mc ms : Nat} {Q : Int32 → xHp → Prop} (hW : xLay sh R) 
    (k : CI mX10_power [.ref 209, .int v4] (sh, I, R) (fun w h1 => Ex mX10_joined 34 [.ref 209, xU, .int v2, xU, .int v4] (.int w :: [.int (s1 - s2), .int s0]) h1 mc ms (xqI Q))) :
    Ex mX10_joined 27 [.ref 209, xU, .int v2, xU, .int v4] [.int s2, .int s1, .int s0] (sh, I, R) mc ms (xqI Q) := by
  refine xw_isub dX10_joined_27 ?_
  refine xw_aload_n dX10_joined_28 rfl rfl ?_
  refine xw_iload dX10_joined_29 rfl ?_
  exact yw_cV (As := [.int v4]) (b := 209) (st := [.int (s1 - s2), .int s0]) dX10_joined_31 lX10_85 kiX10_power kvX10_power rfl rfl rfl (la_209 hW) rfl (Nat.le_of_ble_eq_true rfl) rfl (xk_I k)
theorem bX10_joined_34 {v2 v4 s2 s1 s0 : Int32} {mc ms : Nat} {Q : Int32 → xHp → Prop} (hW : xLay sh R) 
    (k : CI mX10_firstOf [.ref 209, .int v4] (sh, I, R) (fun w h1 => Ex mX10_joined 44 [xU, xU, xU, xU, xU] (.int w :: [.int ((s0 + (s1 * s2)) + v2)]) h1 mc ms (xqI Q))) :
    Ex mX10_joined 34 [.ref 209, xU, .int v2, xU, .int v4] [.int s2, .int s1, .int s0] (sh, I, R) mc ms (xqI Q) := by
  refine xw_imul dX10_joined_34 ?_
  refine xw_iadd dX10_joined_35 ?_
  refine xw_iload_n dX10_joined_36 rfl rfl ?_
  refine xw_iadd dX10_joined_37 ?_
  refine xw_aload_n dX10_joined_38 rfl rfl ?_
  refine xw_iload dX10_joined_39 rfl ?_
  refine yw_sub (lv' := [xU, xU, xU, xU, xU]) ⟨Or.inl rfl, Or.inl rfl, Or.inl rfl, Or.inl rfl, Or.inl rfl, trivial⟩ ?_
  exact yw_cV (As := [.int v4]) (b := 209) (st := [.int ((s0 + (s1 * s2)) + v2)]) dX10_joined_41 lX10_89 kiX10_firstOf kvX10_firstOf rfl rfl rfl (la_209 hW) rfl (Nat.le_of_ble_eq_true rfl) rfl (xk_I k)
theorem bX10_joined_44 {s1 s0 : Int32} {mc ms : Nat} {Q : Int32 → xHp → Prop} (hW : xLay sh R) 
    (k : Q (s0 - s1) (sh, I, R)) :
    Ex mX10_joined 44 [xU, xU, xU, xU, xU] [.int s1, .int s0] (sh, I, R) mc ms (xqI Q) := by
  refine xw_isub dX10_joined_44 ?_
  exact yw_iret dX10_joined_45 rfl k
theorem eX10_joined {v1 : Int32} {v2 : Int32} {h : xHp} {Q : Int32 → xHp → Prop} (k : Ex mX10_joined 0 [.ref 209, .int v1, .int v2, xU, xU] [] h 0 0 (xqI Q)) : CI mX10_joined [.ref 209, .int v1, .int v2] h Q := k
theorem bX10_weight_0 {v1 v2 v3 v4 : Int32} {mc ms : Nat} {Q : Int32 → xHp → Prop} (hW : xLay sh R) 
    (k : CI mX10_at [.ref 209, .int v1, .int ((((nI 9) + ((nI 12) * v2)) + ((nI 4) * v3)) + v4)] (sh, I, R) (fun w h1 => Ex mX10_weight 23 [xU, xU, xU, xU, xU] (.int w :: [.ref 210]) h1 mc ms (xqI Q))) :
    Ex mX10_weight 0 [.ref 209, .int v1, .int v2, .int v3, .int v4] [] (sh, I, R) mc ms (xqI Q) := by
  refine xw_aload_n dX10_weight_0 rfl rfl ?_
  refine yw_getR (r := 210) dX10_weight_1 fX10_7 rfl (la_209 hW) (lr_209_0 hW) ?_
  refine xw_aload_n dX10_weight_4 rfl rfl ?_
  refine xw_iload_n dX10_weight_5 rfl rfl ?_
  refine xw_bipush (v := nI 9) dX10_weight_6 (by decide) ?_
  refine xw_bipush (v := nI 12) dX10_weight_8 (by decide) ?_
  refine xw_iload_n dX10_weight_10 rfl rfl ?_
  refine xw_imul dX10_weight_11 ?_
  refine xw_iadd dX10_weight_12 ?_
  refine xw_iconst (v := nI 4) dX10_weight_13 rfl ?_
  refine xw_iload_n dX10_weight_14 rfl rfl ?_
  refine xw_imul dX10_weight_15 ?_
  refine xw_iadd dX10_weight_16 ?_
  refine xw_iload dX10_weight_17 rfl ?_
  refine xw_iadd dX10_weight_19 ?_
  refine yw_sub (lv' := [xU, xU, xU, xU, xU]) ⟨Or.inl rfl, Or.inl rfl, Or.inl rfl, Or.inl rfl, Or.inl rfl, trivial⟩ ?_
  exact yw_cV (As := [.int v1, .int ((((nI 9) + ((nI 12) * v2)) + ((nI 4) * v3)) + v4)]) (b := 209) (st := [.ref 210]) dX10_weight_20 lX10_81 kiX10_at kvX10_at rfl rfl rfl (la_209 hW) rfl (Nat.le_of_ble_eq_true rfl) rfl (xk_I k)
theorem bX10_weight_23 {s1 : Int32} {mc ms : Nat} {Q : Int32 → xHp → Prop} (hW : xLay sh R) 
    (k : vp_in s1 1881 ∧ Q (I 210 s1.toNatClampNeg) (sh, I, R)) :
    Ex mX10_weight 23 [xU, xU, xU, xU, xU] [.int s1, .ref 210] (sh, I, R) mc ms (xqI Q) := by
  obtain ⟨k0, k⟩ := k
  refine yw_iaload (v := I 210 s1.toNatClampNeg) dX10_weight_23 (la_210 hW) k0 rfl ?_
  exact yw_iret dX10_weight_24 rfl k
theorem eX10_weight {v1 : Int32} {v2 : Int32} {v3 : Int32} {v4 : Int32} {h : xHp} {Q : Int32 → xHp → Prop} (k : Ex mX10_weight 0 [.ref 209, .int v1, .int v2, .int v3, .int v4] [] h 0 0 (xqI Q)) : CI mX10_weight [.ref 209, .int v1, .int v2, .int v3, .int v4] h Q := k
theorem bX10_steps_0 {v1 v2 : Int32} {mc ms : Nat} {Q : xHp → Prop} (hW : xLay sh R) 
    (k : CI mX10_many [.ref 209, .int v1] (sh, I, R) (fun w h1 => Ex mX10_steps 5 [.ref 209, .int v1, .int v2, xU, xU, xU, xU] (.int w :: []) h1 mc ms (xqV Q))) :
    Ex mX10_steps 0 [.ref 209, .int v1, .int v2, xU, xU, xU, xU] [] (sh, I, R) mc ms (xqV Q) := by
  refine xw_aload_n dX10_steps_0 rfl rfl ?_
  refine xw_iload_n dX10_steps_1 rfl rfl ?_
  exact yw_cV (As := [.int v1]) (b := 209) (st := []) dX10_steps_2 lX10_95 kiX10_many kvX10_many rfl rfl rfl (la_209 hW) rfl (Nat.le_of_ble_eq_true rfl) rfl (xk_I k)
theorem bX10_steps_5 {v1 v2 s0 : Int32} {mc ms : Nat} {Q : xHp → Prop} (hW : xLay sh R) 
    (k : Ex mX10_steps 9 [.ref 209, .int v1, .int v2, .int s0, .int (nI 0), xU, xU] [] (sh, I, R) mc ms (xqV Q)) :
    Ex mX10_steps 5 [.ref 209, .int v1, .int v2, xU, xU, xU, xU] [.int s0] (sh, I, R) mc ms (xqV Q) := by
  refine yw_istore_n (lv' := [.ref 209, .int v1, .int v2, .int s0, xU, xU, xU]) dX10_steps_5 rfl rfl rfl rfl ?_
  refine xw_iconst (v := nI 0) dX10_steps_6 rfl ?_
  refine yw_istore (lv' := [.ref 209, .int v1, .int v2, .int s0, .int (nI 0), xU, xU]) dX10_steps_7 rfl rfl rfl ?_
  exact k
theorem bX10_steps_9 {v1 v2 v3 v4 : Int32} {mc ms : Nat} {Q : xHp → Prop} (hW : xLay sh R) 
    (k : ((v3 ≤ v4 → Ex mX10_steps 79 [.ref 209, xU, xU, .int v3, .int (nI 0), xU, xU] [] (sh, I, R) mc ms (xqV Q)) ∧ (¬ v3 ≤ v4 → Ex mX10_steps 21 [.ref 209, .int v1, .int v2, .int v3, .int v4, .int (nI 0), .int (nI 0)] [] (sh, I, R) mc ms (xqV Q)))) :
    Ex mX10_steps 9 [.ref 209, .int v1, .int v2, .int v3, .int v4, xU, xU] [] (sh, I, R) mc ms (xqV Q) := by
  refine xw_iload dX10_steps_9 rfl ?_
  refine xw_iload_n dX10_steps_11 rfl rfl ?_
  refine xw_icge (tgt := 76) dX10_steps_12 (by decide) (fun c => ?_) (fun c => ?_)
  · replace k := k.1 c
    refine xw_iconst (v := nI 0) dX10_steps_76 rfl ?_
    refine yw_istore (lv' := [.ref 209, .int v1, .int v2, .int v3, .int (nI 0), xU, xU]) dX10_steps_77 rfl rfl rfl ?_
    exact yw_sub (lv' := [.ref 209, xU, xU, .int v3, .int (nI 0), xU, xU]) ⟨Or.inr rfl, Or.inl rfl, Or.inl rfl, Or.inr rfl, Or.inr rfl, Or.inl rfl, Or.inl rfl, trivial⟩ k
  · replace k := k.2 c
    refine xw_iconst (v := nI 0) dX10_steps_15 rfl ?_
    refine yw_istore (lv' := [.ref 209, .int v1, .int v2, .int v3, .int v4, .int (nI 0), xU]) dX10_steps_16 rfl rfl rfl ?_
    refine xw_iconst (v := nI 0) dX10_steps_18 rfl ?_
    refine yw_istore (lv' := [.ref 209, .int v1, .int v2, .int v3, .int v4, .int (nI 0), .int (nI 0)]) dX10_steps_19 rfl rfl rfl ?_
    exact k
theorem bX10_steps_79 {v3 v4 : Int32} {mc ms : Nat} {Q : xHp → Prop} (hW : xLay sh R) 
    (k : ((v3 ≤ v4 → Q (sh, I, R)) ∧ (¬ v3 ≤ v4 → vp_in v4 4 ∧ vp_in v4 4 ∧ Ex mX10_steps 79 [.ref 209, xU, xU, .int v3, .int (v4 + nI 1), xU, xU] [] (sh, (xi I 211 v4.toNatClampNeg (I 212 v4.toNatClampNeg)), R) mc ms (xqV Q)))) :
    Ex mX10_steps 79 [.ref 209, xU, xU, .int v3, .int v4, xU, xU] [] (sh, I, R) mc ms (xqV Q) := by
  refine xw_iload dX10_steps_79 rfl ?_
  refine xw_iload_n dX10_steps_81 rfl rfl ?_
  refine xw_icge (tgt := 105) dX10_steps_82 (by decide) (fun c => ?_) (fun c => ?_)
  · replace k := k.1 c
    exact yw_vret dX10_steps_105 rfl k
  · replace k := k.2 c
    refine xw_aload_n dX10_steps_85 rfl rfl ?_
    refine yw_getR (r := 211) dX10_steps_86 fX10_20 rfl (la_209 hW) (lr_209_4 hW) ?_
    refine xw_iload dX10_steps_89 rfl ?_
    refine xw_aload_n dX10_steps_91 rfl rfl ?_
    refine yw_getR (r := 212) dX10_steps_92 fX10_23 rfl (la_209 hW) (lr_209_5 hW) ?_
    refine xw_iload dX10_steps_95 rfl ?_
    obtain ⟨k0, k⟩ := k
    refine yw_iaload (v := I 212 v4.toNatClampNeg) dX10_steps_97 (la_212 hW) k0 rfl ?_
    obtain ⟨k0, k⟩ := k
    refine yw_iastore dX10_steps_98 (la_211 hW) k0 ?_
    refine yw_iinc (lv' := [.ref 209, xU, xU, .int v3, .int (v4 + nI 1), xU, xU]) (v := nI 1) dX10_steps_99 rfl rfl rfl rfl rfl ?_
    refine xw_goto (tgt := 79) dX10_steps_102 (by decide) ?_
    exact k
theorem bX10_steps_21 {v1 v2 v3 v4 v5 v6 : Int32} {mc ms : Nat} {Q : xHp → Prop} (hW : xLay sh R) 
    (k : ((v3 ≤ v6 → ¬ I 209 1 = 0 ∧ vp_in v4 4 ∧ Ex mX10_steps 9 [.ref 209, .int v1, .int v2, .int v3, .int (v4 + nI 1), xU, xU] [] (sh, (xi I 212 v4.toNatClampNeg (xrem v5 (I 209 1))), R) mc ms (xqV Q)) ∧ (¬ v3 ≤ v6 → vp_in v6 4 ∧ CI mX10_weight [.ref 209, .int v1, .int v6, .int v2, .int v4] (sh, I, R) (fun w h1 => Ex mX10_steps 46 [.ref 209, .int v1, .int v2, .int v3, .int v4, xU, .int v6] (.int w :: [.int (I 211 v6.toNatClampNeg), .int v5]) h1 mc ms (xqV Q))))) :
    Ex mX10_steps 21 [.ref 209, .int v1, .int v2, .int v3, .int v4, .int v5, .int v6] [] (sh, I, R) mc ms (xqV Q) := by
  refine xw_iload dX10_steps_21 rfl ?_
  refine xw_iload_n dX10_steps_23 rfl rfl ?_
  refine xw_icge (tgt := 56) dX10_steps_24 (by decide) (fun c => ?_) (fun c => ?_)
  · replace k := k.1 c
    refine xw_aload_n dX10_steps_56 rfl rfl ?_
    refine yw_getR (r := 212) dX10_steps_57 fX10_23 rfl (la_209 hW) (lr_209_5 hW) ?_
    refine xw_iload dX10_steps_60 rfl ?_
    refine xw_iload dX10_steps_62 rfl ?_
    refine xw_aload_n dX10_steps_64 rfl rfl ?_
    refine yw_getI (v := I 209 1) dX10_steps_65 fX10_13 rfl (la_209 hW) rfl ?_
    obtain ⟨k0, k⟩ := k
    refine yw_irem dX10_steps_68 k0 ?_
    obtain ⟨k0, k⟩ := k
    refine yw_iastore dX10_steps_69 (la_212 hW) k0 ?_
    refine yw_iinc (lv' := [.ref 209, .int v1, .int v2, .int v3, .int (v4 + nI 1), .int v5, .int v6]) (v := nI 1) dX10_steps_70 rfl rfl rfl rfl rfl ?_
    refine xw_goto (tgt := 9) dX10_steps_73 (by decide) ?_
    exact yw_sub (lv' := [.ref 209, .int v1, .int v2, .int v3, .int (v4 + nI 1), xU, xU]) ⟨Or.inr rfl, Or.inr rfl, Or.inr rfl, Or.inr rfl, Or.inr rfl, Or.inl rfl, Or.inl rfl, trivial⟩ k
  · replace k := k.2 c
    refine xw_iload dX10_steps_27 rfl ?_
    refine xw_aload_n dX10_steps_29 rfl rfl ?_
    refine yw_getR (r := 211) dX10_steps_30 fX10_20 rfl (la_209 hW) (lr_209_4 hW) ?_
    refine xw_iload dX10_steps_33 rfl ?_
    obtain ⟨k0, k⟩ := k
    refine yw_iaload (v := I 211 v6.toNatClampNeg) dX10_steps_35 (la_211 hW) k0 rfl ?_
    refine xw_aload_n dX10_steps_36 rfl rfl ?_
    refine xw_iload_n dX10_steps_37 rfl rfl ?_
    refine xw_iload dX10_steps_38 rfl ?_
    refine xw_iload_n dX10_steps_40 rfl rfl ?_
    refine xw_iload dX10_steps_41 rfl ?_
    refine yw_sub (lv' := [.ref 209, .int v1, .int v2, .int v3, .int v4, xU, .int v6]) ⟨Or.inr rfl, Or.inr rfl, Or.inr rfl, Or.inr rfl, Or.inr rfl, Or.inl rfl, Or.inr rfl, trivial⟩ ?_
    exact yw_cV (As := [.int v1, .int v6, .int v2, .int v4]) (b := 209) (st := [.int (I 211 v6.toNatClampNeg), .int v5]) dX10_steps_43 lX10_98 kiX10_weight kvX10_weight rfl rfl rfl (la_209 hW) rfl (Nat.le_of_ble_eq_true rfl) rfl (xk_I k)
theorem bX10_steps_46 {v1 v2 v3 v4 v6 s2 s1 s0 : Int32} {mc ms : Nat} {Q : xHp → Prop} (hW : xLay sh R) 
    (k : Ex mX10_steps 21 [.ref 209, .int v1, .int v2, .int v3, .int v4, .int (s0 + (s1 * s2)), .int (v6 + nI 1)] [] (sh, I, R) mc ms (xqV Q)) :
    Ex mX10_steps 46 [.ref 209, .int v1, .int v2, .int v3, .int v4, xU, .int v6] [.int s2, .int s1, .int s0] (sh, I, R) mc ms (xqV Q) := by
  refine xw_imul dX10_steps_46 ?_
  refine xw_iadd dX10_steps_47 ?_
  refine yw_istore (lv' := [.ref 209, .int v1, .int v2, .int v3, .int v4, .int (s0 + (s1 * s2)), .int v6]) dX10_steps_48 rfl rfl rfl ?_
  refine yw_iinc (lv' := [.ref 209, .int v1, .int v2, .int v3, .int v4, .int (s0 + (s1 * s2)), .int (v6 + nI 1)]) (v := nI 1) dX10_steps_50 rfl rfl rfl rfl rfl ?_
  refine xw_goto (tgt := 21) dX10_steps_53 (by decide) ?_
  exact k
theorem eX10_steps {v1 : Int32} {v2 : Int32} {h : xHp} {Q : xHp → Prop} (k : Ex mX10_steps 0 [.ref 209, .int v1, .int v2, xU, xU, xU, xU] [] h 0 0 (xqV Q)) : CV mX10_steps [.ref 209, .int v1, .int v2] h Q := k
theorem bX10_goes_0 {v1 v2 : Int32} {mc ms : Nat} {Q : xHp → Prop} (hW : xLay sh R) 
    (k : Ex mX10_goes 2 [.ref 209, .int v1, .int v2, .int (nI 0), xU, xU, xU] [] (sh, I, R) mc ms (xqV Q)) :
    Ex mX10_goes 0 [.ref 209, .int v1, .int v2, xU, xU, xU, xU] [] (sh, I, R) mc ms (xqV Q) := by
  refine xw_iconst (v := nI 0) dX10_goes_0 rfl ?_
  refine yw_istore_n (lv' := [.ref 209, .int v1, .int v2, .int (nI 0), xU, xU, xU]) dX10_goes_1 rfl rfl rfl rfl ?_
  exact k
theorem bX10_goes_2 {v1 v2 v3 : Int32} {mc ms : Nat} {Q : xHp → Prop} (hW : xLay sh R) 
    (k : CI mX10_many [.ref 209, .int v1] (sh, I, R) (fun w h1 => Ex mX10_goes 8 [.ref 209, .int v1, .int v2, .int v3, xU, xU, xU] (.int w :: [.int v3]) h1 mc ms (xqV Q))) :
    Ex mX10_goes 2 [.ref 209, .int v1, .int v2, .int v3, xU, xU, xU] [] (sh, I, R) mc ms (xqV Q) := by
  refine xw_iload_n dX10_goes_2 rfl rfl ?_
  refine xw_aload_n dX10_goes_3 rfl rfl ?_
  refine xw_iload_n dX10_goes_4 rfl rfl ?_
  exact yw_cV (As := [.int v1]) (b := 209) (st := [.int v3]) dX10_goes_5 lX10_95 kiX10_many kvX10_many rfl rfl rfl (la_209 hW) rfl (Nat.le_of_ble_eq_true rfl) rfl (xk_I k)
theorem bX10_goes_8 {v1 v2 v3 s1 s0 : Int32} {mc ms : Nat} {Q : xHp → Prop} (hW : xLay sh R) 
    (k : ((s1 ≤ s0 → CI mX10_lengthOf [.ref 209, .int v2] (sh, I, R) (fun w h1 => Ex mX10_goes 41 [.ref 209, .int v1, .int v2, xU, xU, xU, xU] (.int w :: []) h1 mc ms (xqV Q))) ∧ (¬ s1 ≤ s0 → CI mX10_at [.ref 209, .int v1, .int ((nI 1) + v3)] (sh, I, R) (fun w h1 => Ex mX10_goes 28 [.ref 209, .int v1, .int v2, .int v3, xU, xU, xU] (.int w :: [.ref 210, .int v3, .ref 211]) h1 mc ms (xqV Q))))) :
    Ex mX10_goes 8 [.ref 209, .int v1, .int v2, .int v3, xU, xU, xU] [.int s1, .int s0] (sh, I, R) mc ms (xqV Q) := by
  refine xw_icge (tgt := 36) dX10_goes_8 (by decide) (fun c => ?_) (fun c => ?_)
  · replace k := k.1 c
    refine xw_aload_n dX10_goes_36 rfl rfl ?_
    refine xw_iload_n dX10_goes_37 rfl rfl ?_
    refine yw_sub (lv' := [.ref 209, .int v1, .int v2, xU, xU, xU, xU]) ⟨Or.inr rfl, Or.inr rfl, Or.inr rfl, Or.inl rfl, Or.inl rfl, Or.inl rfl, Or.inl rfl, trivial⟩ ?_
    exact yw_cV (As := [.int v2]) (b := 209) (st := []) dX10_goes_38 lX10_92 kiX10_lengthOf kvX10_lengthOf rfl rfl rfl (la_209 hW) rfl (Nat.le_of_ble_eq_true rfl) rfl (xk_I k)
  · replace k := k.2 c
    refine xw_aload_n dX10_goes_11 rfl rfl ?_
    refine yw_getR (r := 211) dX10_goes_12 fX10_20 rfl (la_209 hW) (lr_209_4 hW) ?_
    refine xw_iload_n dX10_goes_15 rfl rfl ?_
    refine xw_aload_n dX10_goes_16 rfl rfl ?_
    refine yw_getR (r := 210) dX10_goes_17 fX10_7 rfl (la_209 hW) (lr_209_0 hW) ?_
    refine xw_aload_n dX10_goes_20 rfl rfl ?_
    refine xw_iload_n dX10_goes_21 rfl rfl ?_
    refine xw_iconst (v := nI 1) dX10_goes_22 rfl ?_
    refine xw_iload_n dX10_goes_23 rfl rfl ?_
    refine xw_iadd dX10_goes_24 ?_
    exact yw_cV (As := [.int v1, .int ((nI 1) + v3)]) (b := 209) (st := [.ref 210, .int v3, .ref 211]) dX10_goes_25 lX10_81 kiX10_at kvX10_at rfl rfl rfl (la_209 hW) rfl (Nat.le_of_ble_eq_true rfl) rfl (xk_I k)
theorem bX10_goes_41 {v1 v2 s0 : Int32} {mc ms : Nat} {Q : xHp → Prop} (hW : xLay sh R) 
    (k : CI mX10_firstOf [.ref 209, .int s0] (sh, I, R) (fun w h1 => Ex mX10_goes 48 [.ref 209, .int v1, xU, .int s0, xU, xU, xU] (.int w :: [.int v2]) h1 mc ms (xqV Q))) :
    Ex mX10_goes 41 [.ref 209, .int v1, .int v2, xU, xU, xU, xU] [.int s0] (sh, I, R) mc ms (xqV Q) := by
  refine yw_istore_n (lv' := [.ref 209, .int v1, .int v2, .int s0, xU, xU, xU]) dX10_goes_41 rfl rfl rfl rfl ?_
  refine xw_iload_n dX10_goes_42 rfl rfl ?_
  refine xw_aload_n dX10_goes_43 rfl rfl ?_
  refine xw_iload_n dX10_goes_44 rfl rfl ?_
  refine yw_sub (lv' := [.ref 209, .int v1, xU, .int s0, xU, xU, xU]) ⟨Or.inr rfl, Or.inr rfl, Or.inl rfl, Or.inr rfl, Or.inl rfl, Or.inl rfl, Or.inl rfl, trivial⟩ ?_
  exact yw_cV (As := [.int s0]) (b := 209) (st := [.int v2]) dX10_goes_45 lX10_89 kiX10_firstOf kvX10_firstOf rfl rfl rfl (la_209 hW) rfl (Nat.le_of_ble_eq_true rfl) rfl (xk_I k)
theorem bX10_goes_48 {v1 v3 s1 s0 : Int32} {mc ms : Nat} {Q : xHp → Prop} (hW : xLay sh R) 
    (k : Ex mX10_goes 56 [.ref 209, .int v1, xU, xU, .int (s0 - s1), .int (v3 - (nI 1)), xU] [] (sh, I, R) mc ms (xqV Q)) :
    Ex mX10_goes 48 [.ref 209, .int v1, xU, .int v3, xU, xU, xU] [.int s1, .int s0] (sh, I, R) mc ms (xqV Q) := by
  refine xw_isub dX10_goes_48 ?_
  refine yw_istore (lv' := [.ref 209, .int v1, xU, .int v3, .int (s0 - s1), xU, xU]) dX10_goes_49 rfl rfl rfl ?_
  refine xw_iload_n dX10_goes_51 rfl rfl ?_
  refine xw_iconst (v := nI 1) dX10_goes_52 rfl ?_
  refine xw_isub dX10_goes_53 ?_
  refine yw_istore (lv' := [.ref 209, .int v1, xU, .int v3, .int (s0 - s1), .int (v3 - (nI 1)), xU]) dX10_goes_54 rfl rfl rfl ?_
  exact yw_sub (lv' := [.ref 209, .int v1, xU, xU, .int (s0 - s1), .int (v3 - (nI 1)), xU]) ⟨Or.inr rfl, Or.inr rfl, Or.inl rfl, Or.inl rfl, Or.inr rfl, Or.inr rfl, Or.inl rfl, trivial⟩ k
theorem bX10_goes_56 {v1 v4 v5 : Int32} {mc ms : Nat} {Q : xHp → Prop} (hW : xLay sh R) 
    (k : ((v5 < 0 → Q (sh, I, R)) ∧ (¬ v5 < 0 → CI mX10_power [.ref 209, .int v5] (sh, I, R) (fun w h1 => Ex mX10_goes 67 [.ref 209, .int v1, xU, xU, .int v4, .int v5, xU] (.int w :: []) h1 mc ms (xqV Q))))) :
    Ex mX10_goes 56 [.ref 209, .int v1, xU, xU, .int v4, .int v5, xU] [] (sh, I, R) mc ms (xqV Q) := by
  refine xw_iload dX10_goes_56 rfl ?_
  refine xw_iflt (tgt := 92) dX10_goes_58 (by decide) (fun c => ?_) (fun c => ?_)
  · replace k := k.1 c
    exact yw_vret dX10_goes_92 rfl k
  · replace k := k.2 c
    refine xw_aload_n dX10_goes_61 rfl rfl ?_
    refine xw_iload dX10_goes_62 rfl ?_
    exact yw_cV (As := [.int v5]) (b := 209) (st := []) dX10_goes_64 lX10_85 kiX10_power kvX10_power rfl rfl rfl (la_209 hW) rfl (Nat.le_of_ble_eq_true rfl) rfl (xk_I k)
theorem bX10_goes_67 {v1 v4 v5 s0 : Int32} {mc ms : Nat} {Q : xHp → Prop} (hW : xLay sh R) 
    (k : ¬ s0 = 0 ∧ CV mX10_steps [.ref 209, .int v1, .int (v4 / s0)] (sh, I, R) (fun h1 => Ex mX10_goes 79 [.ref 209, .int v1, xU, xU, .int v4, .int v5, .int s0] [] h1 mc ms (xqV Q))) :
    Ex mX10_goes 67 [.ref 209, .int v1, xU, xU, .int v4, .int v5, xU] [.int s0] (sh, I, R) mc ms (xqV Q) := by
  refine yw_istore (lv' := [.ref 209, .int v1, xU, xU, .int v4, .int v5, .int s0]) dX10_goes_67 rfl rfl rfl ?_
  refine xw_aload_n dX10_goes_69 rfl rfl ?_
  refine xw_iload_n dX10_goes_70 rfl rfl ?_
  refine xw_iload dX10_goes_71 rfl ?_
  refine xw_iload dX10_goes_73 rfl ?_
  obtain ⟨k0, k⟩ := k
  refine xw_idiv dX10_goes_75 k0 ?_
  exact yw_cV (As := [.int v1, .int (v4 / s0)]) (b := 209) (st := []) dX10_goes_76 lX10_102 kiX10_steps kvX10_steps rfl rfl rfl (la_209 hW) rfl (Nat.le_of_ble_eq_true rfl) rfl (xk_V k)
theorem bX10_goes_79 {v1 v4 v5 v6 : Int32} {mc ms : Nat} {Q : xHp → Prop} (hW : xLay sh R) 
    (k : ¬ v6 = 0 ∧ Ex mX10_goes 56 [.ref 209, .int v1, xU, xU, .int (xrem v4 v6), .int (v5 + (-1)), xU] [] (sh, I, R) mc ms (xqV Q)) :
    Ex mX10_goes 79 [.ref 209, .int v1, xU, xU, .int v4, .int v5, .int v6] [] (sh, I, R) mc ms (xqV Q) := by
  refine xw_iload dX10_goes_79 rfl ?_
  refine xw_iload dX10_goes_81 rfl ?_
  obtain ⟨k0, k⟩ := k
  refine yw_irem dX10_goes_83 k0 ?_
  refine yw_istore (lv' := [.ref 209, .int v1, xU, xU, .int (xrem v4 v6), .int v5, .int v6]) dX10_goes_84 rfl rfl rfl ?_
  refine yw_iinc (lv' := [.ref 209, .int v1, xU, xU, .int (xrem v4 v6), .int (v5 + (-1)), .int v6]) (v := (-1)) dX10_goes_86 rfl rfl rfl rfl rfl ?_
  refine xw_goto (tgt := 56) dX10_goes_89 (by decide) ?_
  exact yw_sub (lv' := [.ref 209, .int v1, xU, xU, .int (xrem v4 v6), .int (v5 + (-1)), xU]) ⟨Or.inr rfl, Or.inr rfl, Or.inl rfl, Or.inl rfl, Or.inr rfl, Or.inr rfl, Or.inl rfl, trivial⟩ k
theorem bX10_goes_28 {v1 v2 v3 s3 s1 : Int32} {mc ms : Nat} {Q : xHp → Prop} (hW : xLay sh R) 
    (k : vp_in s3 1881 ∧ vp_in s1 4 ∧ Ex mX10_goes 2 [.ref 209, .int v1, .int v2, .int (v3 + nI 1), xU, xU, xU] [] (sh, (xi I 211 s1.toNatClampNeg (I 210 s3.toNatClampNeg)), R) mc ms (xqV Q)) :
    Ex mX10_goes 28 [.ref 209, .int v1, .int v2, .int v3, xU, xU, xU] [.int s3, .ref 210, .int s1, .ref 211] (sh, I, R) mc ms (xqV Q) := by
  obtain ⟨k0, k⟩ := k
  refine yw_iaload (v := I 210 s3.toNatClampNeg) dX10_goes_28 (la_210 hW) k0 rfl ?_
  obtain ⟨k0, k⟩ := k
  refine yw_iastore dX10_goes_29 (la_211 hW) k0 ?_
  refine yw_iinc (lv' := [.ref 209, .int v1, .int v2, .int (v3 + nI 1), xU, xU, xU]) (v := nI 1) dX10_goes_30 rfl rfl rfl rfl rfl ?_
  refine xw_goto (tgt := 2) dX10_goes_33 (by decide) ?_
  exact k
theorem eX10_goes {v1 : Int32} {v2 : Int32} {h : xHp} {Q : xHp → Prop} (k : Ex mX10_goes 0 [.ref 209, .int v1, .int v2, xU, xU, xU, xU] [] h 0 0 (xqV Q)) : CV mX10_goes [.ref 209, .int v1, .int v2] h Q := k
theorem bX10_ended_0 {v1 : Int32} {mc ms : Nat} {Q : Int32 → xHp → Prop} (hW : xLay sh R) 
    (k : Ex mX10_ended 4 [.ref 209, .int v1, .int (nI 0), .int (nI 0)] [] (sh, I, R) mc ms (xqI Q)) :
    Ex mX10_ended 0 [.ref 209, .int v1, xU, xU] [] (sh, I, R) mc ms (xqI Q) := by
  refine xw_iconst (v := nI 0) dX10_ended_0 rfl ?_
  refine yw_istore_n (lv' := [.ref 209, .int v1, .int (nI 0), xU]) dX10_ended_1 rfl rfl rfl rfl ?_
  refine xw_iconst (v := nI 0) dX10_ended_2 rfl ?_
  refine yw_istore_n (lv' := [.ref 209, .int v1, .int (nI 0), .int (nI 0)]) dX10_ended_3 rfl rfl rfl rfl ?_
  exact k
theorem bX10_ended_4 {v1 v2 v3 : Int32} {mc ms : Nat} {Q : Int32 → xHp → Prop} (hW : xLay sh R) 
    (k : CI mX10_many [.ref 209, .int v1] (sh, I, R) (fun w h1 => Ex mX10_ended 10 [.ref 209, .int v1, .int v2, .int v3] (.int w :: [.int v3]) h1 mc ms (xqI Q))) :
    Ex mX10_ended 4 [.ref 209, .int v1, .int v2, .int v3] [] (sh, I, R) mc ms (xqI Q) := by
  refine xw_iload_n dX10_ended_4 rfl rfl ?_
  refine xw_aload_n dX10_ended_5 rfl rfl ?_
  refine xw_iload_n dX10_ended_6 rfl rfl ?_
  exact yw_cV (As := [.int v1]) (b := 209) (st := [.int v3]) dX10_ended_7 lX10_95 kiX10_many kvX10_many rfl rfl rfl (la_209 hW) rfl (Nat.le_of_ble_eq_true rfl) rfl (xk_I k)
theorem bX10_ended_10 {v1 v2 v3 s1 s0 : Int32} {mc ms : Nat} {Q : Int32 → xHp → Prop} (hW : xLay sh R) 
    (k : ((s1 ≤ s0 → ¬ I 209 1 = 0 ∧ Q (xrem v2 (I 209 1)) (sh, I, R)) ∧ (¬ s1 ≤ s0 → vp_in v3 4 ∧ CI mX10_at [.ref 209, .int v1, .int ((nI 5) + v3)] (sh, I, R) (fun w h1 => Ex mX10_ended 32 [.ref 209, .int v1, xU, .int v3] (.int w :: [.ref 210, .int (I 211 v3.toNatClampNeg), .int v2]) h1 mc ms (xqI Q))))) :
    Ex mX10_ended 10 [.ref 209, .int v1, .int v2, .int v3] [.int s1, .int s0] (sh, I, R) mc ms (xqI Q) := by
  refine xw_icge (tgt := 42) dX10_ended_10 (by decide) (fun c => ?_) (fun c => ?_)
  · replace k := k.1 c
    refine xw_iload_n dX10_ended_42 rfl rfl ?_
    refine xw_aload_n dX10_ended_43 rfl rfl ?_
    refine yw_getI (v := I 209 1) dX10_ended_44 fX10_13 rfl (la_209 hW) rfl ?_
    obtain ⟨k0, k⟩ := k
    refine yw_irem dX10_ended_47 k0 ?_
    exact yw_iret dX10_ended_48 rfl k
  · replace k := k.2 c
    refine xw_iload_n dX10_ended_13 rfl rfl ?_
    refine xw_aload_n dX10_ended_14 rfl rfl ?_
    refine yw_getR (r := 211) dX10_ended_15 fX10_20 rfl (la_209 hW) (lr_209_4 hW) ?_
    refine xw_iload_n dX10_ended_18 rfl rfl ?_
    obtain ⟨k0, k⟩ := k
    refine yw_iaload (v := I 211 v3.toNatClampNeg) dX10_ended_19 (la_211 hW) k0 rfl ?_
    refine xw_aload_n dX10_ended_20 rfl rfl ?_
    refine yw_getR (r := 210) dX10_ended_21 fX10_7 rfl (la_209 hW) (lr_209_0 hW) ?_
    refine xw_aload_n dX10_ended_24 rfl rfl ?_
    refine xw_iload_n dX10_ended_25 rfl rfl ?_
    refine xw_iconst (v := nI 5) dX10_ended_26 rfl ?_
    refine xw_iload_n dX10_ended_27 rfl rfl ?_
    refine xw_iadd dX10_ended_28 ?_
    refine yw_sub (lv' := [.ref 209, .int v1, xU, .int v3]) ⟨Or.inr rfl, Or.inr rfl, Or.inl rfl, Or.inr rfl, trivial⟩ ?_
    exact yw_cV (As := [.int v1, .int ((nI 5) + v3)]) (b := 209) (st := [.ref 210, .int (I 211 v3.toNatClampNeg), .int v2]) dX10_ended_29 lX10_81 kiX10_at kvX10_at rfl rfl rfl (la_209 hW) rfl (Nat.le_of_ble_eq_true rfl) rfl (xk_I k)
theorem bX10_ended_32 {v1 v3 s3 s1 s0 : Int32} {mc ms : Nat} {Q : Int32 → xHp → Prop} (hW : xLay sh R) 
    (k : vp_in s3 1881 ∧ Ex mX10_ended 4 [.ref 209, .int v1, .int (s0 + (s1 * (I 210 s3.toNatClampNeg))), .int (v3 + nI 1)] [] (sh, I, R) mc ms (xqI Q)) :
    Ex mX10_ended 32 [.ref 209, .int v1, xU, .int v3] [.int s3, .ref 210, .int s1, .int s0] (sh, I, R) mc ms (xqI Q) := by
  obtain ⟨k0, k⟩ := k
  refine yw_iaload (v := I 210 s3.toNatClampNeg) dX10_ended_32 (la_210 hW) k0 rfl ?_
  refine xw_imul dX10_ended_33 ?_
  refine xw_iadd dX10_ended_34 ?_
  refine yw_istore_n (lv' := [.ref 209, .int v1, .int (s0 + (s1 * (I 210 s3.toNatClampNeg))), .int v3]) dX10_ended_35 rfl rfl rfl rfl ?_
  refine yw_iinc (lv' := [.ref 209, .int v1, .int (s0 + (s1 * (I 210 s3.toNatClampNeg))), .int (v3 + nI 1)]) (v := nI 1) dX10_ended_36 rfl rfl rfl rfl rfl ?_
  refine xw_goto (tgt := 4) dX10_ended_39 (by decide) ?_
  exact k
theorem eX10_ended {v1 : Int32} {h : xHp} {Q : Int32 → xHp → Prop} (k : Ex mX10_ended 0 [.ref 209, .int v1, xU, xU] [] h 0 0 (xqI Q)) : CI mX10_ended [.ref 209, .int v1] h Q := k
theorem bX10_valueOf_0 {v1 v2 : Int32} {mc ms : Nat} {Q : Int32 → xHp → Prop} (hW : xLay sh R) 
    (k : CV mX10_goes [.ref 209, .int v1, .int v2] (sh, I, R) (fun h1 => Ex mX10_valueOf 6 [.ref 209, .int v1, xU] [] h1 mc ms (xqI Q))) :
    Ex mX10_valueOf 0 [.ref 209, .int v1, .int v2] [] (sh, I, R) mc ms (xqI Q) := by
  refine xw_aload_n dX10_valueOf_0 rfl rfl ?_
  refine xw_iload_n dX10_valueOf_1 rfl rfl ?_
  refine xw_iload_n dX10_valueOf_2 rfl rfl ?_
  refine yw_sub (lv' := [.ref 209, .int v1, xU]) ⟨Or.inr rfl, Or.inr rfl, Or.inl rfl, trivial⟩ ?_
  exact yw_cV (As := [.int v1, .int v2]) (b := 209) (st := []) dX10_valueOf_3 lX10_106 kiX10_goes kvX10_goes rfl rfl rfl (la_209 hW) rfl (Nat.le_of_ble_eq_true rfl) rfl (xk_V k)
theorem bX10_valueOf_6 {v1 : Int32} {mc ms : Nat} {Q : Int32 → xHp → Prop} (hW : xLay sh R) 
    (k : CI mX10_ended [.ref 209, .int v1] (sh, I, R) (fun w h1 => Ex mX10_valueOf 11 [xU, xU, xU] (.int w :: []) h1 mc ms (xqI Q))) :
    Ex mX10_valueOf 6 [.ref 209, .int v1, xU] [] (sh, I, R) mc ms (xqI Q) := by
  refine xw_aload_n dX10_valueOf_6 rfl rfl ?_
  refine xw_iload_n dX10_valueOf_7 rfl rfl ?_
  refine yw_sub (lv' := [xU, xU, xU]) ⟨Or.inl rfl, Or.inl rfl, Or.inl rfl, trivial⟩ ?_
  exact yw_cV (As := [.int v1]) (b := 209) (st := []) dX10_valueOf_8 lX10_109 kiX10_ended kvX10_ended rfl rfl rfl (la_209 hW) rfl (Nat.le_of_ble_eq_true rfl) rfl (xk_I k)
theorem bX10_valueOf_11 {s0 : Int32} {mc ms : Nat} {Q : Int32 → xHp → Prop} (hW : xLay sh R) 
    (k : Q s0 (sh, I, R)) :
    Ex mX10_valueOf 11 [xU, xU, xU] [.int s0] (sh, I, R) mc ms (xqI Q) := by
  exact yw_iret dX10_valueOf_11 rfl k
theorem eX10_valueOf {v1 : Int32} {v2 : Int32} {h : xHp} {Q : Int32 → xHp → Prop} (k : Ex mX10_valueOf 0 [.ref 209, .int v1, .int v2] [] h 0 0 (xqI Q)) : CI mX10_valueOf [.ref 209, .int v1, .int v2] h Q := k
theorem bX10_swaps_0 {v1 v2 v3 : Int32} {mc ms : Nat} {Q : xHp → Prop} (hW : xLay sh R) 
    (k : Ex mX10_swaps 3 [.ref 209, .int v1, .int v2, .int v3, .int (nI 0), xU] [] (sh, I, R) mc ms (xqV Q)) :
    Ex mX10_swaps 0 [.ref 209, .int v1, .int v2, .int v3, xU, xU] [] (sh, I, R) mc ms (xqV Q) := by
  refine xw_iconst (v := nI 0) dX10_swaps_0 rfl ?_
  refine yw_istore (lv' := [.ref 209, .int v1, .int v2, .int v3, .int (nI 0), xU]) dX10_swaps_1 rfl rfl rfl ?_
  exact k
theorem bX10_swaps_3 {v1 v2 v3 v4 : Int32} {mc ms : Nat} {Q : xHp → Prop} (hW : xLay sh R) 
    (k : ((v3 < v4 → Q (sh, I, R)) ∧ (¬ v3 < v4 → vp_in (((nI 5) * v1) + v4) 300 ∧ vp_in (((nI 5) * v2) + v4) 300 ∧ vp_in (((nI 5) * v1) + v4) 300 ∧ vp_in (((nI 5) * v2) + v4) 300 ∧ Ex mX10_swaps 3 [.ref 209, .int v1, .int v2, .int v3, .int (v4 + nI 1), xU] [] (sh, (xi (xi I 213 ((((nI 5) * v1) + v4).toNatClampNeg) (I 213 ((((nI 5) * v2) + v4).toNatClampNeg))) 213 ((((nI 5) * v2) + v4).toNatClampNeg) (I 213 ((((nI 5) * v1) + v4).toNatClampNeg))), R) mc ms (xqV Q)))) :
    Ex mX10_swaps 3 [.ref 209, .int v1, .int v2, .int v3, .int v4, xU] [] (sh, I, R) mc ms (xqV Q) := by
  refine xw_iload dX10_swaps_3 rfl ?_
  refine xw_iload_n dX10_swaps_5 rfl rfl ?_
  refine xw_icgt (tgt := 63) dX10_swaps_6 (by decide) (fun c => ?_) (fun c => ?_)
  · replace k := k.1 c
    exact yw_vret dX10_swaps_63 rfl k
  · replace k := k.2 c
    refine xw_aload_n dX10_swaps_9 rfl rfl ?_
    refine yw_getR (r := 213) dX10_swaps_10 fX10_26 rfl (la_209 hW) (lr_209_6 hW) ?_
    refine xw_iconst (v := nI 5) dX10_swaps_13 rfl ?_
    refine xw_iload_n dX10_swaps_14 rfl rfl ?_
    refine xw_imul dX10_swaps_15 ?_
    refine xw_iload dX10_swaps_16 rfl ?_
    refine xw_iadd dX10_swaps_18 ?_
    obtain ⟨k0, k⟩ := k
    refine yw_iaload (v := I 213 ((((nI 5) * v1) + v4).toNatClampNeg)) dX10_swaps_19 (la_213 hW) k0 rfl ?_
    refine yw_istore (lv' := [.ref 209, .int v1, .int v2, .int v3, .int v4, .int (I 213 ((((nI 5) * v1) + v4).toNatClampNeg))]) dX10_swaps_20 rfl rfl rfl ?_
    refine xw_aload_n dX10_swaps_22 rfl rfl ?_
    refine yw_getR (r := 213) dX10_swaps_23 fX10_26 rfl (la_209 hW) (lr_209_6 hW) ?_
    refine xw_iconst (v := nI 5) dX10_swaps_26 rfl ?_
    refine xw_iload_n dX10_swaps_27 rfl rfl ?_
    refine xw_imul dX10_swaps_28 ?_
    refine xw_iload dX10_swaps_29 rfl ?_
    refine xw_iadd dX10_swaps_31 ?_
    refine xw_aload_n dX10_swaps_32 rfl rfl ?_
    refine yw_getR (r := 213) dX10_swaps_33 fX10_26 rfl (la_209 hW) (lr_209_6 hW) ?_
    refine xw_iconst (v := nI 5) dX10_swaps_36 rfl ?_
    refine xw_iload_n dX10_swaps_37 rfl rfl ?_
    refine xw_imul dX10_swaps_38 ?_
    refine xw_iload dX10_swaps_39 rfl ?_
    refine xw_iadd dX10_swaps_41 ?_
    obtain ⟨k0, k⟩ := k
    refine yw_iaload (v := I 213 ((((nI 5) * v2) + v4).toNatClampNeg)) dX10_swaps_42 (la_213 hW) k0 rfl ?_
    obtain ⟨k0, k⟩ := k
    refine yw_iastore dX10_swaps_43 (la_213 hW) k0 ?_
    refine xw_aload_n dX10_swaps_44 rfl rfl ?_
    refine yw_getR (r := 213) dX10_swaps_45 fX10_26 rfl (la_209 hW) (lr_209_6 hW) ?_
    refine xw_iconst (v := nI 5) dX10_swaps_48 rfl ?_
    refine xw_iload_n dX10_swaps_49 rfl rfl ?_
    refine xw_imul dX10_swaps_50 ?_
    refine xw_iload dX10_swaps_51 rfl ?_
    refine xw_iadd dX10_swaps_53 ?_
    refine xw_iload dX10_swaps_54 rfl ?_
    obtain ⟨k0, k⟩ := k
    refine yw_iastore dX10_swaps_56 (la_213 hW) k0 ?_
    refine yw_iinc (lv' := [.ref 209, .int v1, .int v2, .int v3, .int (v4 + nI 1), .int (I 213 ((((nI 5) * v1) + v4).toNatClampNeg))]) (v := nI 1) dX10_swaps_57 rfl rfl rfl rfl rfl ?_
    refine xw_goto (tgt := 3) dX10_swaps_60 (by decide) ?_
    exact yw_sub (lv' := [.ref 209, .int v1, .int v2, .int v3, .int (v4 + nI 1), xU]) ⟨Or.inr rfl, Or.inr rfl, Or.inr rfl, Or.inr rfl, Or.inr rfl, Or.inl rfl, trivial⟩ k
theorem eX10_swaps {v1 : Int32} {v2 : Int32} {v3 : Int32} {h : xHp} {Q : xHp → Prop} (k : Ex mX10_swaps 0 [.ref 209, .int v1, .int v2, .int v3, xU, xU] [] h 0 0 (xqV Q)) : CV mX10_swaps [.ref 209, .int v1, .int v2, .int v3] h Q := k
theorem bX10_inverse_0 {v1 : Int32} {mc ms : Nat} {Q : Int32 → xHp → Prop} (hW : xLay sh R) 
    (k : Ex mX10_inverse 2 [.ref 209, .int v1, .int (nI 1)] [] (sh, I, R) mc ms (xqI Q)) :
    Ex mX10_inverse 0 [.ref 209, .int v1, xU] [] (sh, I, R) mc ms (xqI Q) := by
  refine xw_iconst (v := nI 1) dX10_inverse_0 rfl ?_
  refine yw_istore_n (lv' := [.ref 209, .int v1, .int (nI 1)]) dX10_inverse_1 rfl rfl rfl rfl ?_
  exact k
theorem bX10_inverse_2 {v1 v2 : Int32} {mc ms : Nat} {Q : Int32 → xHp → Prop} (hW : xLay sh R) 
    (k : ¬ I 209 1 = 0 ∧ (((xrem (v2 * v1) (I 209 1)) = (nI 1) → Q v2 (sh, I, R)) ∧ (¬ (xrem (v2 * v1) (I 209 1)) = (nI 1) → Ex mX10_inverse 2 [.ref 209, .int v1, .int (v2 + nI 1)] [] (sh, I, R) mc ms (xqI Q)))) :
    Ex mX10_inverse 2 [.ref 209, .int v1, .int v2] [] (sh, I, R) mc ms (xqI Q) := by
  refine xw_iload_n dX10_inverse_2 rfl rfl ?_
  refine xw_iload_n dX10_inverse_3 rfl rfl ?_
  refine xw_imul dX10_inverse_4 ?_
  refine xw_aload_n dX10_inverse_5 rfl rfl ?_
  refine yw_getI (v := I 209 1) dX10_inverse_6 fX10_13 rfl (la_209 hW) rfl ?_
  obtain ⟨k0, k⟩ := k
  refine yw_irem dX10_inverse_9 k0 ?_
  refine xw_iconst (v := nI 1) dX10_inverse_10 rfl ?_
  refine xw_iceq (tgt := 20) dX10_inverse_11 (by decide) (fun c => ?_) (fun c => ?_)
  · replace k := k.1 c
    refine xw_iload_n dX10_inverse_20 rfl rfl ?_
    exact yw_iret dX10_inverse_21 rfl k
  · replace k := k.2 c
    refine yw_iinc (lv' := [.ref 209, .int v1, .int (v2 + nI 1)]) (v := nI 1) dX10_inverse_14 rfl rfl rfl rfl rfl ?_
    refine xw_goto (tgt := 2) dX10_inverse_17 (by decide) ?_
    exact k
theorem eX10_inverse {v1 : Int32} {h : xHp} {Q : Int32 → xHp → Prop} (k : Ex mX10_inverse 0 [.ref 209, .int v1, xU] [] h 0 0 (xqI Q)) : CI mX10_inverse [.ref 209, .int v1] h Q := k
theorem bX10_takesAway_0 {v1 v2 v3 v4 : Int32} {mc ms : Nat} {Q : xHp → Prop} (hW : xLay sh R) 
    (k : vp_in (((nI 5) * v1) + v4) 300 ∧ Ex mX10_takesAway 16 [.ref 209, .int v1, .int v2, .int v3, xU, .int (I 213 ((((nI 5) * v1) + v4).toNatClampNeg)), .int (nI 0)] [] (sh, I, R) mc ms (xqV Q)) :
    Ex mX10_takesAway 0 [.ref 209, .int v1, .int v2, .int v3, .int v4, xU, xU] [] (sh, I, R) mc ms (xqV Q) := by
  refine xw_aload_n dX10_takesAway_0 rfl rfl ?_
  refine yw_getR (r := 213) dX10_takesAway_1 fX10_26 rfl (la_209 hW) (lr_209_6 hW) ?_
  refine xw_iconst (v := nI 5) dX10_takesAway_4 rfl ?_
  refine xw_iload_n dX10_takesAway_5 rfl rfl ?_
  refine xw_imul dX10_takesAway_6 ?_
  refine xw_iload dX10_takesAway_7 rfl ?_
  refine xw_iadd dX10_takesAway_9 ?_
  obtain ⟨k0, k⟩ := k
  refine yw_iaload (v := I 213 ((((nI 5) * v1) + v4).toNatClampNeg)) dX10_takesAway_10 (la_213 hW) k0 rfl ?_
  refine yw_istore (lv' := [.ref 209, .int v1, .int v2, .int v3, .int v4, .int (I 213 ((((nI 5) * v1) + v4).toNatClampNeg)), xU]) dX10_takesAway_11 rfl rfl rfl ?_
  refine xw_iconst (v := nI 0) dX10_takesAway_13 rfl ?_
  refine yw_istore (lv' := [.ref 209, .int v1, .int v2, .int v3, .int v4, .int (I 213 ((((nI 5) * v1) + v4).toNatClampNeg)), .int (nI 0)]) dX10_takesAway_14 rfl rfl rfl ?_
  exact yw_sub (lv' := [.ref 209, .int v1, .int v2, .int v3, xU, .int (I 213 ((((nI 5) * v1) + v4).toNatClampNeg)), .int (nI 0)]) ⟨Or.inr rfl, Or.inr rfl, Or.inr rfl, Or.inr rfl, Or.inl rfl, Or.inr rfl, Or.inr rfl, trivial⟩ k
theorem bX10_takesAway_16 {v1 v2 v3 v5 v6 : Int32} {mc ms : Nat} {Q : xHp → Prop} (hW : xLay sh R) 
    (k : ((v3 < v6 → Q (sh, I, R)) ∧ (¬ v3 < v6 → vp_in (((nI 5) * v1) + v6) 300 ∧ vp_in (((nI 5) * v2) + v6) 300 ∧ ¬ I 209 1 = 0 ∧ vp_in (((nI 5) * v1) + v6) 300 ∧ Ex mX10_takesAway 16 [.ref 209, .int v1, .int v2, .int v3, xU, .int v5, .int (v6 + nI 1)] [] (sh, (xi I 213 ((((nI 5) * v1) + v6).toNatClampNeg) (xrem ((I 213 ((((nI 5) * v1) + v6).toNatClampNeg)) + (((I 209 1) - v5) * (I 213 ((((nI 5) * v2) + v6).toNatClampNeg)))) (I 209 1))), R) mc ms (xqV Q)))) :
    Ex mX10_takesAway 16 [.ref 209, .int v1, .int v2, .int v3, xU, .int v5, .int v6] [] (sh, I, R) mc ms (xqV Q) := by
  refine xw_iload dX10_takesAway_16 rfl ?_
  refine xw_iload_n dX10_takesAway_18 rfl rfl ?_
  refine xw_icgt (tgt := 75) dX10_takesAway_19 (by decide) (fun c => ?_) (fun c => ?_)
  · replace k := k.1 c
    exact yw_vret dX10_takesAway_75 rfl k
  · replace k := k.2 c
    refine xw_aload_n dX10_takesAway_22 rfl rfl ?_
    refine yw_getR (r := 213) dX10_takesAway_23 fX10_26 rfl (la_209 hW) (lr_209_6 hW) ?_
    refine xw_iconst (v := nI 5) dX10_takesAway_26 rfl ?_
    refine xw_iload_n dX10_takesAway_27 rfl rfl ?_
    refine xw_imul dX10_takesAway_28 ?_
    refine xw_iload dX10_takesAway_29 rfl ?_
    refine xw_iadd dX10_takesAway_31 ?_
    refine xw_aload_n dX10_takesAway_32 rfl rfl ?_
    refine yw_getR (r := 213) dX10_takesAway_33 fX10_26 rfl (la_209 hW) (lr_209_6 hW) ?_
    refine xw_iconst (v := nI 5) dX10_takesAway_36 rfl ?_
    refine xw_iload_n dX10_takesAway_37 rfl rfl ?_
    refine xw_imul dX10_takesAway_38 ?_
    refine xw_iload dX10_takesAway_39 rfl ?_
    refine xw_iadd dX10_takesAway_41 ?_
    obtain ⟨k0, k⟩ := k
    refine yw_iaload (v := I 213 ((((nI 5) * v1) + v6).toNatClampNeg)) dX10_takesAway_42 (la_213 hW) k0 rfl ?_
    refine xw_aload_n dX10_takesAway_43 rfl rfl ?_
    refine yw_getI (v := I 209 1) dX10_takesAway_44 fX10_13 rfl (la_209 hW) rfl ?_
    refine xw_iload dX10_takesAway_47 rfl ?_
    refine xw_isub dX10_takesAway_49 ?_
    refine xw_aload_n dX10_takesAway_50 rfl rfl ?_
    refine yw_getR (r := 213) dX10_takesAway_51 fX10_26 rfl (la_209 hW) (lr_209_6 hW) ?_
    refine xw_iconst (v := nI 5) dX10_takesAway_54 rfl ?_
    refine xw_iload_n dX10_takesAway_55 rfl rfl ?_
    refine xw_imul dX10_takesAway_56 ?_
    refine xw_iload dX10_takesAway_57 rfl ?_
    refine xw_iadd dX10_takesAway_59 ?_
    obtain ⟨k0, k⟩ := k
    refine yw_iaload (v := I 213 ((((nI 5) * v2) + v6).toNatClampNeg)) dX10_takesAway_60 (la_213 hW) k0 rfl ?_
    refine xw_imul dX10_takesAway_61 ?_
    refine xw_iadd dX10_takesAway_62 ?_
    refine xw_aload_n dX10_takesAway_63 rfl rfl ?_
    refine yw_getI (v := I 209 1) dX10_takesAway_64 fX10_13 rfl (la_209 hW) rfl ?_
    obtain ⟨k0, k⟩ := k
    refine yw_irem dX10_takesAway_67 k0 ?_
    obtain ⟨k0, k⟩ := k
    refine yw_iastore dX10_takesAway_68 (la_213 hW) k0 ?_
    refine yw_iinc (lv' := [.ref 209, .int v1, .int v2, .int v3, xU, .int v5, .int (v6 + nI 1)]) (v := nI 1) dX10_takesAway_69 rfl rfl rfl rfl rfl ?_
    refine xw_goto (tgt := 16) dX10_takesAway_72 (by decide) ?_
    exact k
theorem eX10_takesAway {v1 : Int32} {v2 : Int32} {v3 : Int32} {v4 : Int32} {h : xHp} {Q : xHp → Prop} (k : Ex mX10_takesAway 0 [.ref 209, .int v1, .int v2, .int v3, .int v4, xU, xU] [] h 0 0 (xqV Q)) : CV mX10_takesAway [.ref 209, .int v1, .int v2, .int v3, .int v4] h Q := k
theorem bX10_isSolved_0 {v1 v2 : Int32} {mc ms : Nat} {Q : Int32 → xHp → Prop} (hW : xLay sh R) 
    (k : Ex mX10_isSolved 2 [.ref 209, .int v1, .int v2, .int (nI 0), xU, xU, xU] [] (sh, I, R) mc ms (xqI Q)) :
    Ex mX10_isSolved 0 [.ref 209, .int v1, .int v2, xU, xU, xU, xU] [] (sh, I, R) mc ms (xqI Q) := by
  refine xw_iconst (v := nI 0) dX10_isSolved_0 rfl ?_
  refine yw_istore_n (lv' := [.ref 209, .int v1, .int v2, .int (nI 0), xU, xU, xU]) dX10_isSolved_1 rfl rfl rfl rfl ?_
  exact k
theorem bX10_isSolved_2 {v1 v2 v3 : Int32} {mc ms : Nat} {Q : Int32 → xHp → Prop} (hW : xLay sh R) 
    (k : ((v1 ≤ v3 → Ex mX10_isSolved 154 [.ref 209, .int v1, .int v2, .int (nI 1), .int v1, xU, xU] [] (sh, I, R) mc ms (xqI Q)) ∧ (¬ v1 ≤ v3 → Ex mX10_isSolved 10 [.ref 209, .int v1, .int v2, .int v3, .int v3, xU, xU] [] (sh, I, R) mc ms (xqI Q)))) :
    Ex mX10_isSolved 2 [.ref 209, .int v1, .int v2, .int v3, xU, xU, xU] [] (sh, I, R) mc ms (xqI Q) := by
  refine xw_iload_n dX10_isSolved_2 rfl rfl ?_
  refine xw_iload_n dX10_isSolved_3 rfl rfl ?_
  refine xw_icge (tgt := 149) dX10_isSolved_4 (by decide) (fun c => ?_) (fun c => ?_)
  · replace k := k.1 c
    refine xw_iconst (v := nI 1) dX10_isSolved_149 rfl ?_
    refine yw_istore_n (lv' := [.ref 209, .int v1, .int v2, .int (nI 1), xU, xU, xU]) dX10_isSolved_150 rfl rfl rfl rfl ?_
    refine xw_iload_n dX10_isSolved_151 rfl rfl ?_
    refine yw_istore (lv' := [.ref 209, .int v1, .int v2, .int (nI 1), .int v1, xU, xU]) dX10_isSolved_152 rfl rfl rfl ?_
    exact k
  · replace k := k.2 c
    refine xw_iload_n dX10_isSolved_7 rfl rfl ?_
    refine yw_istore (lv' := [.ref 209, .int v1, .int v2, .int v3, .int v3, xU, xU]) dX10_isSolved_8 rfl rfl rfl ?_
    exact k
theorem bX10_isSolved_154 {v1 v2 v3 v4 : Int32} {mc ms : Nat} {Q : Int32 → xHp → Prop} (hW : xLay sh R) 
    (k : ((v2 ≤ v4 → Ex mX10_isSolved 193 [.ref 209, .int v1, xU, .int v3, .int (nI 0), xU, xU] [] (sh, I, R) mc ms (xqI Q)) ∧ (¬ v2 ≤ v4 → ((v3 = 0 → Ex mX10_isSolved 154 [.ref 209, .int v1, .int v2, .int (nI 0), .int (v4 + nI 1), xU, xU] [] (sh, I, R) mc ms (xqI Q)) ∧ (¬ v3 = 0 → vp_in (((nI 5) * v4) + v1) 300 ∧ ((¬ (I 213 ((((nI 5) * v4) + v1).toNatClampNeg)) = 0 → Ex mX10_isSolved 154 [.ref 209, .int v1, .int v2, .int (nI 0), .int (v4 + nI 1), xU, xU] [] (sh, I, R) mc ms (xqI Q)) ∧ ((I 213 ((((nI 5) * v4) + v1).toNatClampNeg)) = 0 → Ex mX10_isSolved 154 [.ref 209, .int v1, .int v2, .int (nI 1), .int (v4 + nI 1), xU, xU] [] (sh, I, R) mc ms (xqI Q)))))))) :
    Ex mX10_isSolved 154 [.ref 209, .int v1, .int v2, .int v3, .int v4, xU, xU] [] (sh, I, R) mc ms (xqI Q) := by
  refine xw_iload dX10_isSolved_154 rfl ?_
  refine xw_iload_n dX10_isSolved_156 rfl rfl ?_
  refine xw_icge (tgt := 190) dX10_isSolved_157 (by decide) (fun c => ?_) (fun c => ?_)
  · replace k := k.1 c
    refine xw_iconst (v := nI 0) dX10_isSolved_190 rfl ?_
    refine yw_istore (lv' := [.ref 209, .int v1, .int v2, .int v3, .int (nI 0), xU, xU]) dX10_isSolved_191 rfl rfl rfl ?_
    exact yw_sub (lv' := [.ref 209, .int v1, xU, .int v3, .int (nI 0), xU, xU]) ⟨Or.inr rfl, Or.inr rfl, Or.inl rfl, Or.inr rfl, Or.inr rfl, Or.inl rfl, Or.inl rfl, trivial⟩ k
  · replace k := k.2 c
    refine xw_iload_n dX10_isSolved_160 rfl rfl ?_
    refine xw_ifeq (tgt := 182) dX10_isSolved_161 (by decide) (fun c => ?_) (fun c => ?_)
    · replace k := k.1 c
      refine xw_iconst (v := nI 0) dX10_isSolved_182 rfl ?_
      refine yw_istore_n (lv' := [.ref 209, .int v1, .int v2, .int (nI 0), .int v4, xU, xU]) dX10_isSolved_183 rfl rfl rfl rfl ?_
      refine yw_iinc (lv' := [.ref 209, .int v1, .int v2, .int (nI 0), .int (v4 + nI 1), xU, xU]) (v := nI 1) dX10_isSolved_184 rfl rfl rfl rfl rfl ?_
      refine xw_goto (tgt := 154) dX10_isSolved_187 (by decide) ?_
      exact k
    · replace k := k.2 c
      refine xw_aload_n dX10_isSolved_164 rfl rfl ?_
      refine yw_getR (r := 213) dX10_isSolved_165 fX10_26 rfl (la_209 hW) (lr_209_6 hW) ?_
      refine xw_iconst (v := nI 5) dX10_isSolved_168 rfl ?_
      refine xw_iload dX10_isSolved_169 rfl ?_
      refine xw_imul dX10_isSolved_171 ?_
      refine xw_iload_n dX10_isSolved_172 rfl rfl ?_
      refine xw_iadd dX10_isSolved_173 ?_
      obtain ⟨k0, k⟩ := k
      refine yw_iaload (v := I 213 ((((nI 5) * v4) + v1).toNatClampNeg)) dX10_isSolved_174 (la_213 hW) k0 rfl ?_
      refine xw_ifne (tgt := 182) dX10_isSolved_175 (by decide) (fun c => ?_) (fun c => ?_)
      · replace k := k.1 c
        refine xw_iconst (v := nI 0) dX10_isSolved_182 rfl ?_
        refine yw_istore_n (lv' := [.ref 209, .int v1, .int v2, .int (nI 0), .int v4, xU, xU]) dX10_isSolved_183 rfl rfl rfl rfl ?_
        refine yw_iinc (lv' := [.ref 209, .int v1, .int v2, .int (nI 0), .int (v4 + nI 1), xU, xU]) (v := nI 1) dX10_isSolved_184 rfl rfl rfl rfl rfl ?_
        refine xw_goto (tgt := 154) dX10_isSolved_187 (by decide) ?_
        exact k
      · replace k := k.2 c
        refine xw_iconst (v := nI 1) dX10_isSolved_178 rfl ?_
        refine xw_goto (tgt := 183) dX10_isSolved_179 (by decide) ?_
        refine yw_istore_n (lv' := [.ref 209, .int v1, .int v2, .int (nI 1), .int v4, xU, xU]) dX10_isSolved_183 rfl rfl rfl rfl ?_
        refine yw_iinc (lv' := [.ref 209, .int v1, .int v2, .int (nI 1), .int (v4 + nI 1), xU, xU]) (v := nI 1) dX10_isSolved_184 rfl rfl rfl rfl rfl ?_
        refine xw_goto (tgt := 154) dX10_isSolved_187 (by decide) ?_
        exact k
theorem bX10_isSolved_193 {v1 v3 v4 : Int32} {mc ms : Nat} {Q : Int32 → xHp → Prop} (hW : xLay sh R) 
    (k : ((v1 ≤ v4 → (v3 = 0 ∨ v3 = 1) ∧ Q v3 (sh, I, R)) ∧ (¬ v1 ≤ v4 → vp_in (((nI 5) * v4) + v1) 300 ∧ vp_in v4 4 ∧ Ex mX10_isSolved 193 [.ref 209, .int v1, xU, .int v3, .int (v4 + nI 1), xU, xU] [] (sh, (xi I 214 v4.toNatClampNeg (I 213 ((((nI 5) * v4) + v1).toNatClampNeg))), R) mc ms (xqI Q)))) :
    Ex mX10_isSolved 193 [.ref 209, .int v1, xU, .int v3, .int v4, xU, xU] [] (sh, I, R) mc ms (xqI Q) := by
  refine xw_iload dX10_isSolved_193 rfl ?_
  refine xw_iload_n dX10_isSolved_195 rfl rfl ?_
  refine xw_icge (tgt := 223) dX10_isSolved_196 (by decide) (fun c => ?_) (fun c => ?_)
  · replace k := k.1 c
    refine xw_iload_n dX10_isSolved_223 rfl rfl ?_
    exact yw_zret dX10_isSolved_224 rfl (narrow_z _ k.1) k.2
  · replace k := k.2 c
    refine xw_aload_n dX10_isSolved_199 rfl rfl ?_
    refine yw_getR (r := 214) dX10_isSolved_200 fX10_29 rfl (la_209 hW) (lr_209_7 hW) ?_
    refine xw_iload dX10_isSolved_203 rfl ?_
    refine xw_aload_n dX10_isSolved_205 rfl rfl ?_
    refine yw_getR (r := 213) dX10_isSolved_206 fX10_26 rfl (la_209 hW) (lr_209_6 hW) ?_
    refine xw_iconst (v := nI 5) dX10_isSolved_209 rfl ?_
    refine xw_iload dX10_isSolved_210 rfl ?_
    refine xw_imul dX10_isSolved_212 ?_
    refine xw_iload_n dX10_isSolved_213 rfl rfl ?_
    refine xw_iadd dX10_isSolved_214 ?_
    obtain ⟨k0, k⟩ := k
    refine yw_iaload (v := I 213 ((((nI 5) * v4) + v1).toNatClampNeg)) dX10_isSolved_215 (la_213 hW) k0 rfl ?_
    obtain ⟨k0, k⟩ := k
    refine yw_iastore dX10_isSolved_216 (la_214 hW) k0 ?_
    refine yw_iinc (lv' := [.ref 209, .int v1, xU, .int v3, .int (v4 + nI 1), xU, xU]) (v := nI 1) dX10_isSolved_217 rfl rfl rfl rfl rfl ?_
    refine xw_goto (tgt := 193) dX10_isSolved_220 (by decide) ?_
    exact k
theorem bX10_isSolved_10 {v1 v2 v3 v4 : Int32} {mc ms : Nat} {Q : Int32 → xHp → Prop} (hW : xLay sh R) 
    (k : ((v2 ≤ v4 → ((¬ v4 = v2 → CV mX10_swaps [.ref 209, .int v3, .int v4, .int v1] (sh, I, R) (fun h1 => Ex mX10_isSolved 52 [.ref 209, .int v1, .int v2, .int v3, xU, xU, xU] [] h1 mc ms (xqI Q))) ∧ (v4 = v2 → Q (nI 0) (sh, I, R)))) ∧ (¬ v2 ≤ v4 → vp_in (((nI 5) * v4) + v3) 300 ∧ ((¬ (I 213 ((((nI 5) * v4) + v3).toNatClampNeg)) = 0 → ((¬ v4 = v2 → CV mX10_swaps [.ref 209, .int v3, .int v4, .int v1] (sh, I, R) (fun h1 => Ex mX10_isSolved 52 [.ref 209, .int v1, .int v2, .int v3, xU, xU, xU] [] h1 mc ms (xqI Q))) ∧ (v4 = v2 → Q (nI 0) (sh, I, R)))) ∧ ((I 213 ((((nI 5) * v4) + v3).toNatClampNeg)) = 0 → Ex mX10_isSolved 10 [.ref 209, .int v1, .int v2, .int v3, .int (v4 + nI 1), xU, xU] [] (sh, I, R) mc ms (xqI Q)))))) :
    Ex mX10_isSolved 10 [.ref 209, .int v1, .int v2, .int v3, .int v4, xU, xU] [] (sh, I, R) mc ms (xqI Q) := by
  refine xw_iload dX10_isSolved_10 rfl ?_
  refine xw_iload_n dX10_isSolved_12 rfl rfl ?_
  refine xw_icge (tgt := 36) dX10_isSolved_13 (by decide) (fun c => ?_) (fun c => ?_)
  · replace k := k.1 c
    refine xw_iload dX10_isSolved_36 rfl ?_
    refine xw_iload_n dX10_isSolved_38 rfl rfl ?_
    refine xw_icne (tgt := 44) dX10_isSolved_39 (by decide) (fun c => ?_) (fun c => ?_)
    · replace k := k.1 c
      refine xw_aload_n dX10_isSolved_44 rfl rfl ?_
      refine xw_iload_n dX10_isSolved_45 rfl rfl ?_
      refine xw_iload dX10_isSolved_46 rfl ?_
      refine xw_iload_n dX10_isSolved_48 rfl rfl ?_
      refine yw_sub (lv' := [.ref 209, .int v1, .int v2, .int v3, xU, xU, xU]) ⟨Or.inr rfl, Or.inr rfl, Or.inr rfl, Or.inr rfl, Or.inl rfl, Or.inl rfl, Or.inl rfl, trivial⟩ ?_
      exact yw_cV (As := [.int v3, .int v4, .int v1]) (b := 209) (st := []) dX10_isSolved_49 lX10_115 kiX10_swaps kvX10_swaps rfl rfl rfl (la_209 hW) rfl (Nat.le_of_ble_eq_true rfl) rfl (xk_V k)
    · replace k := k.2 c
      refine xw_iconst (v := nI 0) dX10_isSolved_42 rfl ?_
      exact yw_zret dX10_isSolved_43 rfl (by decide) k
  · replace k := k.2 c
    refine xw_aload_n dX10_isSolved_16 rfl rfl ?_
    refine yw_getR (r := 213) dX10_isSolved_17 fX10_26 rfl (la_209 hW) (lr_209_6 hW) ?_
    refine xw_iconst (v := nI 5) dX10_isSolved_20 rfl ?_
    refine xw_iload dX10_isSolved_21 rfl ?_
    refine xw_imul dX10_isSolved_23 ?_
    refine xw_iload_n dX10_isSolved_24 rfl rfl ?_
    refine xw_iadd dX10_isSolved_25 ?_
    obtain ⟨k0, k⟩ := k
    refine yw_iaload (v := I 213 ((((nI 5) * v4) + v3).toNatClampNeg)) dX10_isSolved_26 (la_213 hW) k0 rfl ?_
    refine xw_ifne (tgt := 36) dX10_isSolved_27 (by decide) (fun c => ?_) (fun c => ?_)
    · replace k := k.1 c
      refine xw_iload dX10_isSolved_36 rfl ?_
      refine xw_iload_n dX10_isSolved_38 rfl rfl ?_
      refine xw_icne (tgt := 44) dX10_isSolved_39 (by decide) (fun c => ?_) (fun c => ?_)
      · replace k := k.1 c
        refine xw_aload_n dX10_isSolved_44 rfl rfl ?_
        refine xw_iload_n dX10_isSolved_45 rfl rfl ?_
        refine xw_iload dX10_isSolved_46 rfl ?_
        refine xw_iload_n dX10_isSolved_48 rfl rfl ?_
        refine yw_sub (lv' := [.ref 209, .int v1, .int v2, .int v3, xU, xU, xU]) ⟨Or.inr rfl, Or.inr rfl, Or.inr rfl, Or.inr rfl, Or.inl rfl, Or.inl rfl, Or.inl rfl, trivial⟩ ?_
        exact yw_cV (As := [.int v3, .int v4, .int v1]) (b := 209) (st := []) dX10_isSolved_49 lX10_115 kiX10_swaps kvX10_swaps rfl rfl rfl (la_209 hW) rfl (Nat.le_of_ble_eq_true rfl) rfl (xk_V k)
      · replace k := k.2 c
        refine xw_iconst (v := nI 0) dX10_isSolved_42 rfl ?_
        exact yw_zret dX10_isSolved_43 rfl (by decide) k
    · replace k := k.2 c
      refine yw_iinc (lv' := [.ref 209, .int v1, .int v2, .int v3, .int (v4 + nI 1), xU, xU]) (v := nI 1) dX10_isSolved_30 rfl rfl rfl rfl rfl ?_
      refine xw_goto (tgt := 10) dX10_isSolved_33 (by decide) ?_
      exact k
theorem bX10_isSolved_52 {v1 v2 v3 : Int32} {mc ms : Nat} {Q : Int32 → xHp → Prop} (hW : xLay sh R) 
    (k : vp_in (((nI 5) * v3) + v3) 300 ∧ CI mX10_inverse [.ref 209, .int (I 213 ((((nI 5) * v3) + v3).toNatClampNeg))] (sh, I, R) (fun w h1 => Ex mX10_isSolved 66 [.ref 209, .int v1, .int v2, .int v3, xU, xU, xU] (.int w :: []) h1 mc ms (xqI Q))) :
    Ex mX10_isSolved 52 [.ref 209, .int v1, .int v2, .int v3, xU, xU, xU] [] (sh, I, R) mc ms (xqI Q) := by
  refine xw_aload_n dX10_isSolved_52 rfl rfl ?_
  refine xw_aload_n dX10_isSolved_53 rfl rfl ?_
  refine yw_getR (r := 213) dX10_isSolved_54 fX10_26 rfl (la_209 hW) (lr_209_6 hW) ?_
  refine xw_iconst (v := nI 5) dX10_isSolved_57 rfl ?_
  refine xw_iload_n dX10_isSolved_58 rfl rfl ?_
  refine xw_imul dX10_isSolved_59 ?_
  refine xw_iload_n dX10_isSolved_60 rfl rfl ?_
  refine xw_iadd dX10_isSolved_61 ?_
  obtain ⟨k0, k⟩ := k
  refine yw_iaload (v := I 213 ((((nI 5) * v3) + v3).toNatClampNeg)) dX10_isSolved_62 (la_213 hW) k0 rfl ?_
  exact yw_cV (As := [.int (I 213 ((((nI 5) * v3) + v3).toNatClampNeg))]) (b := 209) (st := []) dX10_isSolved_63 lX10_119 kiX10_inverse kvX10_inverse rfl rfl rfl (la_209 hW) rfl (Nat.le_of_ble_eq_true rfl) rfl (xk_I k)
theorem bX10_isSolved_66 {v1 v2 v3 s0 : Int32} {mc ms : Nat} {Q : Int32 → xHp → Prop} (hW : xLay sh R) 
    (k : Ex mX10_isSolved 71 [.ref 209, .int v1, .int v2, .int v3, xU, .int s0, .int (nI 0)] [] (sh, I, R) mc ms (xqI Q)) :
    Ex mX10_isSolved 66 [.ref 209, .int v1, .int v2, .int v3, xU, xU, xU] [.int s0] (sh, I, R) mc ms (xqI Q) := by
  refine yw_istore (lv' := [.ref 209, .int v1, .int v2, .int v3, xU, .int s0, xU]) dX10_isSolved_66 rfl rfl rfl ?_
  refine xw_iconst (v := nI 0) dX10_isSolved_68 rfl ?_
  refine yw_istore (lv' := [.ref 209, .int v1, .int v2, .int v3, xU, .int s0, .int (nI 0)]) dX10_isSolved_69 rfl rfl rfl ?_
  exact k
theorem bX10_isSolved_71 {v1 v2 v3 v5 v6 : Int32} {mc ms : Nat} {Q : Int32 → xHp → Prop} (hW : xLay sh R) 
    (k : ((v1 < v6 → Ex mX10_isSolved 116 [.ref 209, .int v1, .int v2, .int v3, xU, xU, .int (nI 0)] [] (sh, I, R) mc ms (xqI Q)) ∧ (¬ v1 < v6 → vp_in (((nI 5) * v3) + v6) 300 ∧ ¬ I 209 1 = 0 ∧ vp_in (((nI 5) * v3) + v6) 300 ∧ Ex mX10_isSolved 71 [.ref 209, .int v1, .int v2, .int v3, xU, .int v5, .int (v6 + nI 1)] [] (sh, (xi I 213 ((((nI 5) * v3) + v6).toNatClampNeg) (xrem ((I 213 ((((nI 5) * v3) + v6).toNatClampNeg)) * v5) (I 209 1))), R) mc ms (xqI Q)))) :
    Ex mX10_isSolved 71 [.ref 209, .int v1, .int v2, .int v3, xU, .int v5, .int v6] [] (sh, I, R) mc ms (xqI Q) := by
  refine xw_iload dX10_isSolved_71 rfl ?_
  refine xw_iload_n dX10_isSolved_73 rfl rfl ?_
  refine xw_icgt (tgt := 113) dX10_isSolved_74 (by decide) (fun c => ?_) (fun c => ?_)
  · replace k := k.1 c
    refine xw_iconst (v := nI 0) dX10_isSolved_113 rfl ?_
    refine yw_istore (lv' := [.ref 209, .int v1, .int v2, .int v3, xU, .int v5, .int (nI 0)]) dX10_isSolved_114 rfl rfl rfl ?_
    exact yw_sub (lv' := [.ref 209, .int v1, .int v2, .int v3, xU, xU, .int (nI 0)]) ⟨Or.inr rfl, Or.inr rfl, Or.inr rfl, Or.inr rfl, Or.inl rfl, Or.inl rfl, Or.inr rfl, trivial⟩ k
  · replace k := k.2 c
    refine xw_aload_n dX10_isSolved_77 rfl rfl ?_
    refine yw_getR (r := 213) dX10_isSolved_78 fX10_26 rfl (la_209 hW) (lr_209_6 hW) ?_
    refine xw_iconst (v := nI 5) dX10_isSolved_81 rfl ?_
    refine xw_iload_n dX10_isSolved_82 rfl rfl ?_
    refine xw_imul dX10_isSolved_83 ?_
    refine xw_iload dX10_isSolved_84 rfl ?_
    refine xw_iadd dX10_isSolved_86 ?_
    refine xw_aload_n dX10_isSolved_87 rfl rfl ?_
    refine yw_getR (r := 213) dX10_isSolved_88 fX10_26 rfl (la_209 hW) (lr_209_6 hW) ?_
    refine xw_iconst (v := nI 5) dX10_isSolved_91 rfl ?_
    refine xw_iload_n dX10_isSolved_92 rfl rfl ?_
    refine xw_imul dX10_isSolved_93 ?_
    refine xw_iload dX10_isSolved_94 rfl ?_
    refine xw_iadd dX10_isSolved_96 ?_
    obtain ⟨k0, k⟩ := k
    refine yw_iaload (v := I 213 ((((nI 5) * v3) + v6).toNatClampNeg)) dX10_isSolved_97 (la_213 hW) k0 rfl ?_
    refine xw_iload dX10_isSolved_98 rfl ?_
    refine xw_imul dX10_isSolved_100 ?_
    refine xw_aload_n dX10_isSolved_101 rfl rfl ?_
    refine yw_getI (v := I 209 1) dX10_isSolved_102 fX10_13 rfl (la_209 hW) rfl ?_
    obtain ⟨k0, k⟩ := k
    refine yw_irem dX10_isSolved_105 k0 ?_
    obtain ⟨k0, k⟩ := k
    refine yw_iastore dX10_isSolved_106 (la_213 hW) k0 ?_
    refine yw_iinc (lv' := [.ref 209, .int v1, .int v2, .int v3, xU, .int v5, .int (v6 + nI 1)]) (v := nI 1) dX10_isSolved_107 rfl rfl rfl rfl rfl ?_
    refine xw_goto (tgt := 71) dX10_isSolved_110 (by decide) ?_
    exact k
theorem bX10_isSolved_116 {v1 v2 v3 v6 : Int32} {mc ms : Nat} {Q : Int32 → xHp → Prop} (hW : xLay sh R) 
    (k : ((v2 ≤ v6 → Ex mX10_isSolved 2 [.ref 209, .int v1, .int v2, .int (v3 + nI 1), xU, xU, xU] [] (sh, I, R) mc ms (xqI Q)) ∧ (¬ v2 ≤ v6 → ((v6 = v3 → Ex mX10_isSolved 116 [.ref 209, .int v1, .int v2, .int v3, xU, xU, .int (v6 + nI 1)] [] (sh, I, R) mc ms (xqI Q)) ∧ (¬ v6 = v3 → CV mX10_takesAway [.ref 209, .int v6, .int v3, .int v1, .int v3] (sh, I, R) (fun h1 => Ex mX10_isSolved 137 [.ref 209, .int v1, .int v2, .int v3, xU, xU, .int v6] [] h1 mc ms (xqI Q))))))) :
    Ex mX10_isSolved 116 [.ref 209, .int v1, .int v2, .int v3, xU, xU, .int v6] [] (sh, I, R) mc ms (xqI Q) := by
  refine xw_iload dX10_isSolved_116 rfl ?_
  refine xw_iload_n dX10_isSolved_118 rfl rfl ?_
  refine xw_icge (tgt := 143) dX10_isSolved_119 (by decide) (fun c => ?_) (fun c => ?_)
  · replace k := k.1 c
    refine yw_iinc (lv' := [.ref 209, .int v1, .int v2, .int (v3 + nI 1), xU, xU, .int v6]) (v := nI 1) dX10_isSolved_143 rfl rfl rfl rfl rfl ?_
    refine xw_goto (tgt := 2) dX10_isSolved_146 (by decide) ?_
    exact yw_sub (lv' := [.ref 209, .int v1, .int v2, .int (v3 + nI 1), xU, xU, xU]) ⟨Or.inr rfl, Or.inr rfl, Or.inr rfl, Or.inr rfl, Or.inl rfl, Or.inl rfl, Or.inl rfl, trivial⟩ k
  · replace k := k.2 c
    refine xw_iload dX10_isSolved_122 rfl ?_
    refine xw_iload_n dX10_isSolved_124 rfl rfl ?_
    refine xw_iceq (tgt := 137) dX10_isSolved_125 (by decide) (fun c => ?_) (fun c => ?_)
    · replace k := k.1 c
      refine yw_iinc (lv' := [.ref 209, .int v1, .int v2, .int v3, xU, xU, .int (v6 + nI 1)]) (v := nI 1) dX10_isSolved_137 rfl rfl rfl rfl rfl ?_
      refine xw_goto (tgt := 116) dX10_isSolved_140 (by decide) ?_
      exact k
    · replace k := k.2 c
      refine xw_aload_n dX10_isSolved_128 rfl rfl ?_
      refine xw_iload dX10_isSolved_129 rfl ?_
      refine xw_iload_n dX10_isSolved_131 rfl rfl ?_
      refine xw_iload_n dX10_isSolved_132 rfl rfl ?_
      refine xw_iload_n dX10_isSolved_133 rfl rfl ?_
      exact yw_cV (As := [.int v6, .int v3, .int v1, .int v3]) (b := 209) (st := []) dX10_isSolved_134 lX10_122 kiX10_takesAway kvX10_takesAway rfl rfl rfl (la_209 hW) rfl (Nat.le_of_ble_eq_true rfl) rfl (xk_V k)
theorem bX10_isSolved_137 {v1 v2 v3 v6 : Int32} {mc ms : Nat} {Q : Int32 → xHp → Prop} (hW : xLay sh R) 
    (k : Ex mX10_isSolved 116 [.ref 209, .int v1, .int v2, .int v3, xU, xU, .int (v6 + nI 1)] [] (sh, I, R) mc ms (xqI Q)) :
    Ex mX10_isSolved 137 [.ref 209, .int v1, .int v2, .int v3, xU, xU, .int v6] [] (sh, I, R) mc ms (xqI Q) := by
  refine yw_iinc (lv' := [.ref 209, .int v1, .int v2, .int v3, xU, xU, .int (v6 + nI 1)]) (v := nI 1) dX10_isSolved_137 rfl rfl rfl rfl rfl ?_
  refine xw_goto (tgt := 116) dX10_isSolved_140 (by decide) ?_
  exact k
theorem eX10_isSolved {v1 : Int32} {v2 : Int32} {h : xHp} {Q : Int32 → xHp → Prop} (k : Ex mX10_isSolved 0 [.ref 209, .int v1, .int v2, xU, xU, xU, xU] [] h 0 0 (xqI Q)) : CI mX10_isSolved [.ref 209, .int v1, .int v2] h Q := k
theorem bX10_isBased_0 {v1 v2 : Int32} {mc ms : Nat} {Q : Int32 → xHp → Prop} (hW : xLay sh R) 
    (k : CI mX10_firstOf [.ref 209, .int (nI 4)] (sh, I, R) (fun w h1 => Ex mX10_isBased 5 [.ref 209, .int v1, .int v2, xU, xU, xU] (.int w :: []) h1 mc ms (xqI Q))) :
    Ex mX10_isBased 0 [.ref 209, .int v1, .int v2, xU, xU, xU] [] (sh, I, R) mc ms (xqI Q) := by
  refine xw_aload_n dX10_isBased_0 rfl rfl ?_
  refine xw_iconst (v := nI 4) dX10_isBased_1 rfl ?_
  exact yw_cV (As := [.int (nI 4)]) (b := 209) (st := []) dX10_isBased_2 lX10_89 kiX10_firstOf kvX10_firstOf rfl rfl rfl (la_209 hW) rfl (Nat.le_of_ble_eq_true rfl) rfl (xk_I k)
theorem bX10_isBased_5 {v1 v2 s0 : Int32} {mc ms : Nat} {Q : Int32 → xHp → Prop} (hW : xLay sh R) 
    (k : Ex mX10_isBased 9 [.ref 209, .int v1, .int v2, .int s0, .int (nI 0), xU] [] (sh, I, R) mc ms (xqI Q)) :
    Ex mX10_isBased 5 [.ref 209, .int v1, .int v2, xU, xU, xU] [.int s0] (sh, I, R) mc ms (xqI Q) := by
  refine yw_istore_n (lv' := [.ref 209, .int v1, .int v2, .int s0, xU, xU]) dX10_isBased_5 rfl rfl rfl rfl ?_
  refine xw_iconst (v := nI 0) dX10_isBased_6 rfl ?_
  refine yw_istore (lv' := [.ref 209, .int v1, .int v2, .int s0, .int (nI 0), xU]) dX10_isBased_7 rfl rfl rfl ?_
  exact k
theorem bX10_isBased_9 {v1 v2 v3 v4 : Int32} {mc ms : Nat} {Q : Int32 → xHp → Prop} (hW : xLay sh R) 
    (k : ((v3 ≤ v4 → CI mX10_isSolved [.ref 209, .int (I 209 14), .int v3] (sh, I, R) (fun w h1 => Ex mX10_isBased 104 [xU, xU, xU, xU, xU, xU] (.int w :: []) h1 mc ms (xqI Q))) ∧ (¬ v3 ≤ v4 → Ex mX10_isBased 18 [.ref 209, .int v1, .int v2, .int v3, .int v4, .int (nI 0)] [] (sh, I, R) mc ms (xqI Q)))) :
    Ex mX10_isBased 9 [.ref 209, .int v1, .int v2, .int v3, .int v4, xU] [] (sh, I, R) mc ms (xqI Q) := by
  refine xw_iload dX10_isBased_9 rfl ?_
  refine xw_iload_n dX10_isBased_11 rfl rfl ?_
  refine xw_icge (tgt := 95) dX10_isBased_12 (by decide) (fun c => ?_) (fun c => ?_)
  · replace k := k.1 c
    refine xw_aload_n dX10_isBased_95 rfl rfl ?_
    refine xw_aload_n dX10_isBased_96 rfl rfl ?_
    refine yw_getI (v := I 209 14) dX10_isBased_97 fX10_170 rfl (la_209 hW) rfl ?_
    refine xw_iload_n dX10_isBased_100 rfl rfl ?_
    refine yw_sub (lv' := [xU, xU, xU, xU, xU, xU]) ⟨Or.inl rfl, Or.inl rfl, Or.inl rfl, Or.inl rfl, Or.inl rfl, Or.inl rfl, trivial⟩ ?_
    exact yw_cV (As := [.int (I 209 14), .int v3]) (b := 209) (st := []) dX10_isBased_101 lX10_142 kiX10_isSolved kvX10_isSolved rfl rfl rfl (la_209 hW) rfl (Nat.le_of_ble_eq_true rfl) rfl (xk_I k)
  · replace k := k.2 c
    refine xw_iconst (v := nI 0) dX10_isBased_15 rfl ?_
    refine yw_istore (lv' := [.ref 209, .int v1, .int v2, .int v3, .int v4, .int (nI 0)]) dX10_isBased_16 rfl rfl rfl ?_
    exact k
theorem bX10_isBased_104 {s0 : Int32} {mc ms : Nat} {Q : Int32 → xHp → Prop} (hW : xLay sh R) 
    (k : (s0 = 0 ∨ s0 = 1) ∧ Q s0 (sh, I, R)) :
    Ex mX10_isBased 104 [xU, xU, xU, xU, xU, xU] [.int s0] (sh, I, R) mc ms (xqI Q) := by
  exact yw_zret dX10_isBased_104 rfl (narrow_z _ k.1) k.2
theorem bX10_isBased_18 {v1 v2 v3 v4 v5 : Int32} {mc ms : Nat} {Q : Int32 → xHp → Prop} (hW : xLay sh R) 
    (k : (((I 209 14) ≤ v5 → CI mX10_joined [.ref 209, .int v2, .int v4] (sh, I, R) (fun w h1 => Ex mX10_isBased 85 [.ref 209, .int v1, .int v2, .int v3, .int v4, xU] (.int w :: [.int v1, .ref 209, .int (((nI 5) * v4) + (I 209 14)), .ref 213]) h1 mc ms (xqI Q))) ∧ (¬ (I 209 14) ≤ v5 → vp_in v5 5 ∧ CI mX10_joined [.ref 209, .int (I 217 v5.toNatClampNeg), .int v4] (sh, I, R) (fun w h1 => Ex mX10_isBased 53 [.ref 209, .int v1, .int v2, .int v3, .int v4, .int v5] (.int w :: [.int v1, .ref 209, .int (((nI 5) * v4) + v5), .ref 213]) h1 mc ms (xqI Q))))) :
    Ex mX10_isBased 18 [.ref 209, .int v1, .int v2, .int v3, .int v4, .int v5] [] (sh, I, R) mc ms (xqI Q) := by
  refine xw_iload dX10_isBased_18 rfl ?_
  refine xw_aload_n dX10_isBased_20 rfl rfl ?_
  refine yw_getI (v := I 209 14) dX10_isBased_21 fX10_170 rfl (la_209 hW) rfl ?_
  refine xw_icge (tgt := 63) dX10_isBased_24 (by decide) (fun c => ?_) (fun c => ?_)
  · replace k := k.1 c
    refine xw_aload_n dX10_isBased_63 rfl rfl ?_
    refine yw_getR (r := 213) dX10_isBased_64 fX10_26 rfl (la_209 hW) (lr_209_6 hW) ?_
    refine xw_iconst (v := nI 5) dX10_isBased_67 rfl ?_
    refine xw_iload dX10_isBased_68 rfl ?_
    refine xw_imul dX10_isBased_70 ?_
    refine xw_aload_n dX10_isBased_71 rfl rfl ?_
    refine yw_getI (v := I 209 14) dX10_isBased_72 fX10_170 rfl (la_209 hW) rfl ?_
    refine xw_iadd dX10_isBased_75 ?_
    refine xw_aload_n dX10_isBased_76 rfl rfl ?_
    refine xw_iload_n dX10_isBased_77 rfl rfl ?_
    refine xw_aload_n dX10_isBased_78 rfl rfl ?_
    refine xw_iload_n dX10_isBased_79 rfl rfl ?_
    refine xw_iload dX10_isBased_80 rfl ?_
    refine yw_sub (lv' := [.ref 209, .int v1, .int v2, .int v3, .int v4, xU]) ⟨Or.inr rfl, Or.inr rfl, Or.inr rfl, Or.inr rfl, Or.inr rfl, Or.inl rfl, trivial⟩ ?_
    exact yw_cV (As := [.int v2, .int v4]) (b := 209) (st := [.int v1, .ref 209, .int (((nI 5) * v4) + (I 209 14)), .ref 213]) dX10_isBased_82 lX10_139 kiX10_joined kvX10_joined rfl rfl rfl (la_209 hW) rfl (Nat.le_of_ble_eq_true rfl) rfl (xk_I k)
  · replace k := k.2 c
    refine xw_aload_n dX10_isBased_27 rfl rfl ?_
    refine yw_getR (r := 213) dX10_isBased_28 fX10_26 rfl (la_209 hW) (lr_209_6 hW) ?_
    refine xw_iconst (v := nI 5) dX10_isBased_31 rfl ?_
    refine xw_iload dX10_isBased_32 rfl ?_
    refine xw_imul dX10_isBased_34 ?_
    refine xw_iload dX10_isBased_35 rfl ?_
    refine xw_iadd dX10_isBased_37 ?_
    refine xw_aload_n dX10_isBased_38 rfl rfl ?_
    refine xw_iload_n dX10_isBased_39 rfl rfl ?_
    refine xw_aload_n dX10_isBased_40 rfl rfl ?_
    refine xw_aload_n dX10_isBased_41 rfl rfl ?_
    refine yw_getR (r := 217) dX10_isBased_42 fX10_38 rfl (la_209 hW) (lr_209_13 hW) ?_
    refine xw_iload dX10_isBased_45 rfl ?_
    obtain ⟨k0, k⟩ := k
    refine yw_iaload (v := I 217 v5.toNatClampNeg) dX10_isBased_47 (la_217 hW) k0 rfl ?_
    refine xw_iload dX10_isBased_48 rfl ?_
    exact yw_cV (As := [.int (I 217 v5.toNatClampNeg), .int v4]) (b := 209) (st := [.int v1, .ref 209, .int (((nI 5) * v4) + v5), .ref 213]) dX10_isBased_50 lX10_139 kiX10_joined kvX10_joined rfl rfl rfl (la_209 hW) rfl (Nat.le_of_ble_eq_true rfl) rfl (xk_I k)
theorem bX10_isBased_85 {v1 v2 v3 v4 s4 s3 s1 : Int32} {mc ms : Nat} {Q : Int32 → xHp → Prop} (hW : xLay sh R) 
    (k : CI mX10_valueOf [.ref 209, .int s3, .int s4] (sh, I, R) (fun w h1 => Ex mX10_isBased 88 [.ref 209, .int v1, .int v2, .int v3, .int v4, xU] (.int w :: [.int s1, .ref 213]) h1 mc ms (xqI Q))) :
    Ex mX10_isBased 85 [.ref 209, .int v1, .int v2, .int v3, .int v4, xU] [.int s4, .int s3, .ref 209, .int s1, .ref 213] (sh, I, R) mc ms (xqI Q) := by
  exact yw_cV (As := [.int s3, .int s4]) (b := 209) (st := [.int s1, .ref 213]) dX10_isBased_85 lX10_112 kiX10_valueOf kvX10_valueOf rfl rfl rfl (la_209 hW) rfl (Nat.le_of_ble_eq_true rfl) rfl (xk_I k)
theorem bX10_isBased_88 {v1 v2 v3 v4 s2 s1 : Int32} {mc ms : Nat} {Q : Int32 → xHp → Prop} (hW : xLay sh R) 
    (k : vp_in s1 300 ∧ Ex mX10_isBased 9 [.ref 209, .int v1, .int v2, .int v3, .int (v4 + nI 1), xU] [] (sh, (xi I 213 s1.toNatClampNeg s2), R) mc ms (xqI Q)) :
    Ex mX10_isBased 88 [.ref 209, .int v1, .int v2, .int v3, .int v4, xU] [.int s2, .int s1, .ref 213] (sh, I, R) mc ms (xqI Q) := by
  obtain ⟨k0, k⟩ := k
  refine yw_iastore dX10_isBased_88 (la_213 hW) k0 ?_
  refine yw_iinc (lv' := [.ref 209, .int v1, .int v2, .int v3, .int (v4 + nI 1), xU]) (v := nI 1) dX10_isBased_89 rfl rfl rfl rfl rfl ?_
  refine xw_goto (tgt := 9) dX10_isBased_92 (by decide) ?_
  exact k
theorem bX10_isBased_53 {v1 v2 v3 v4 v5 s4 s3 s1 : Int32} {mc ms : Nat} {Q : Int32 → xHp → Prop} (hW : xLay sh R) 
    (k : CI mX10_valueOf [.ref 209, .int s3, .int s4] (sh, I, R) (fun w h1 => Ex mX10_isBased 56 [.ref 209, .int v1, .int v2, .int v3, .int v4, .int v5] (.int w :: [.int s1, .ref 213]) h1 mc ms (xqI Q))) :
    Ex mX10_isBased 53 [.ref 209, .int v1, .int v2, .int v3, .int v4, .int v5] [.int s4, .int s3, .ref 209, .int s1, .ref 213] (sh, I, R) mc ms (xqI Q) := by
  exact yw_cV (As := [.int s3, .int s4]) (b := 209) (st := [.int s1, .ref 213]) dX10_isBased_53 lX10_112 kiX10_valueOf kvX10_valueOf rfl rfl rfl (la_209 hW) rfl (Nat.le_of_ble_eq_true rfl) rfl (xk_I k)
theorem bX10_isBased_56 {v1 v2 v3 v4 v5 s2 s1 : Int32} {mc ms : Nat} {Q : Int32 → xHp → Prop} (hW : xLay sh R) 
    (k : vp_in s1 300 ∧ Ex mX10_isBased 18 [.ref 209, .int v1, .int v2, .int v3, .int v4, .int (v5 + nI 1)] [] (sh, (xi I 213 s1.toNatClampNeg s2), R) mc ms (xqI Q)) :
    Ex mX10_isBased 56 [.ref 209, .int v1, .int v2, .int v3, .int v4, .int v5] [.int s2, .int s1, .ref 213] (sh, I, R) mc ms (xqI Q) := by
  obtain ⟨k0, k⟩ := k
  refine yw_iastore dX10_isBased_56 (la_213 hW) k0 ?_
  refine yw_iinc (lv' := [.ref 209, .int v1, .int v2, .int v3, .int v4, .int (v5 + nI 1)]) (v := nI 1) dX10_isBased_57 rfl rfl rfl rfl rfl ?_
  refine xw_goto (tgt := 18) dX10_isBased_60 (by decide) ?_
  exact k
theorem eX10_isBased {v1 : Int32} {v2 : Int32} {h : xHp} {Q : Int32 → xHp → Prop} (k : Ex mX10_isBased 0 [.ref 209, .int v1, .int v2, xU, xU, xU] [] h 0 0 (xqI Q)) : CI mX10_isBased [.ref 209, .int v1, .int v2] h Q := k
theorem bX10_bases_0 {v1 : Int32} {mc ms : Nat} {Q : xHp → Prop} (hW : xLay sh R) 
    (k : Ex mX10_bases 7 [.ref 209, .int v1, .int (nI 0)] [] (sh, (xi I 209 14 (nI 0)), R) mc ms (xqV Q)) :
    Ex mX10_bases 0 [.ref 209, .int v1, xU] [] (sh, I, R) mc ms (xqV Q) := by
  refine xw_aload_n dX10_bases_0 rfl rfl ?_
  refine xw_iconst (v := nI 0) dX10_bases_1 rfl ?_
  refine yw_putI dX10_bases_2 fX10_170 (fun r h => by cases h; exact Or.inl rfl) rfl (la_209 hW) ?_
  refine xw_iconst (v := nI 0) dX10_bases_5 rfl ?_
  refine yw_istore_n (lv' := [.ref 209, .int v1, .int (nI 0)]) dX10_bases_6 rfl rfl rfl rfl ?_
  exact k
theorem bX10_bases_7 {v1 v2 : Int32} {mc ms : Nat} {Q : xHp → Prop} (hW : xLay sh R) 
    (k : CI mX10_firstOf [.ref 209, .int (nI 4)] (sh, I, R) (fun w h1 => Ex mX10_bases 13 [.ref 209, .int v1, .int v2] (.int w :: [.int v2]) h1 mc ms (xqV Q))) :
    Ex mX10_bases 7 [.ref 209, .int v1, .int v2] [] (sh, I, R) mc ms (xqV Q) := by
  refine xw_iload_n dX10_bases_7 rfl rfl ?_
  refine xw_aload_n dX10_bases_8 rfl rfl ?_
  refine xw_iconst (v := nI 4) dX10_bases_9 rfl ?_
  exact yw_cV (As := [.int (nI 4)]) (b := 209) (st := [.int v2]) dX10_bases_10 lX10_89 kiX10_firstOf kvX10_firstOf rfl rfl rfl (la_209 hW) rfl (Nat.le_of_ble_eq_true rfl) rfl (xk_I k)
theorem bX10_bases_13 {v1 v2 s1 s0 : Int32} {mc ms : Nat} {Q : xHp → Prop} (hW : xLay sh R) 
    (k : ((s1 ≤ s0 → Q (sh, I, R)) ∧ (¬ s1 ≤ s0 → CI mX10_isBased [.ref 209, .int v1, .int v2] (sh, I, R) (fun w h1 => Ex mX10_bases 22 [.ref 209, .int v1, .int v2] (.int w :: []) h1 mc ms (xqV Q))))) :
    Ex mX10_bases 13 [.ref 209, .int v1, .int v2] [.int s1, .int s0] (sh, I, R) mc ms (xqV Q) := by
  refine xw_icge (tgt := 51) dX10_bases_13 (by decide) (fun c => ?_) (fun c => ?_)
  · replace k := k.1 c
    exact yw_vret dX10_bases_51 rfl k
  · replace k := k.2 c
    refine xw_aload_n dX10_bases_16 rfl rfl ?_
    refine xw_iload_n dX10_bases_17 rfl rfl ?_
    refine xw_iload_n dX10_bases_18 rfl rfl ?_
    exact yw_cV (As := [.int v1, .int v2]) (b := 209) (st := []) dX10_bases_19 lX10_173 kiX10_isBased kvX10_isBased rfl rfl rfl (la_209 hW) rfl (Nat.le_of_ble_eq_true rfl) rfl (xk_I k)
theorem bX10_bases_22 {v1 v2 s0 : Int32} {mc ms : Nat} {Q : xHp → Prop} (hW : xLay sh R) 
    (k : ((¬ s0 = 0 → Ex mX10_bases 7 [.ref 209, .int v1, .int (v2 + nI 1)] [] (sh, I, R) mc ms (xqV Q)) ∧ (s0 = 0 → vp_in (I 209 14) 5 ∧ Ex mX10_bases 7 [.ref 209, .int v1, .int (v2 + nI 1)] [] (sh, (xi (xi I 217 ((I 209 14).toNatClampNeg) v2) 209 14 ((I 209 14) + (nI 1))), R) mc ms (xqV Q)))) :
    Ex mX10_bases 22 [.ref 209, .int v1, .int v2] [.int s0] (sh, I, R) mc ms (xqV Q) := by
  refine xw_ifne (tgt := 45) dX10_bases_22 (by decide) (fun c => ?_) (fun c => ?_)
  · replace k := k.1 c
    refine yw_iinc (lv' := [.ref 209, .int v1, .int (v2 + nI 1)]) (v := nI 1) dX10_bases_45 rfl rfl rfl rfl rfl ?_
    refine xw_goto (tgt := 7) dX10_bases_48 (by decide) ?_
    exact k
  · replace k := k.2 c
    refine xw_aload_n dX10_bases_25 rfl rfl ?_
    refine yw_getR (r := 217) dX10_bases_26 fX10_38 rfl (la_209 hW) (lr_209_13 hW) ?_
    refine xw_aload_n dX10_bases_29 rfl rfl ?_
    refine yw_getI (v := I 209 14) dX10_bases_30 fX10_170 rfl (la_209 hW) rfl ?_
    refine xw_iload_n dX10_bases_33 rfl rfl ?_
    obtain ⟨k0, k⟩ := k
    refine yw_iastore dX10_bases_34 (la_217 hW) k0 ?_
    refine xw_aload_n dX10_bases_35 rfl rfl ?_
    refine xw_dup dX10_bases_36 rfl ?_
    refine yw_getI (v := I 209 14) dX10_bases_37 fX10_170 rfl (la_209 hW) (xi_p (a := 209) (q := 217) (by decide)) ?_
    refine xw_iconst (v := nI 1) dX10_bases_40 rfl ?_
    refine xw_iadd dX10_bases_41 ?_
    refine yw_putI dX10_bases_42 fX10_170 (fun r h => by cases h; exact Or.inl rfl) rfl (la_209 hW) ?_
    refine yw_iinc (lv' := [.ref 209, .int v1, .int (v2 + nI 1)]) (v := nI 1) dX10_bases_45 rfl rfl rfl rfl rfl ?_
    refine xw_goto (tgt := 7) dX10_bases_48 (by decide) ?_
    exact k
theorem eX10_bases {v1 : Int32} {h : xHp} {Q : xHp → Prop} (k : Ex mX10_bases 0 [.ref 209, .int v1, xU] [] h 0 0 (xqV Q)) : CV mX10_bases [.ref 209, .int v1] h Q := k
theorem bX10_leastMany_0 {mc ms : Nat} {Q : Int32 → xHp → Prop} (hW : xLay sh R) 
    (k : CV mX10_bases [.ref 209, .int (nI 0)] (sh, I, R) (fun h1 => Ex mX10_leastMany 5 [.ref 209] [] h1 mc ms (xqI Q))) :
    Ex mX10_leastMany 0 [.ref 209] [] (sh, I, R) mc ms (xqI Q) := by
  refine xw_aload_n dX10_leastMany_0 rfl rfl ?_
  refine xw_iconst (v := nI 0) dX10_leastMany_1 rfl ?_
  exact yw_cV (As := [.int (nI 0)]) (b := 209) (st := []) dX10_leastMany_2 lX10_176 kiX10_bases kvX10_bases rfl rfl rfl (la_209 hW) rfl (Nat.le_of_ble_eq_true rfl) rfl (xk_V k)
theorem bX10_leastMany_5 {mc ms : Nat} {Q : Int32 → xHp → Prop} (hW : xLay sh R) 
    (k : Q (I 209 14) (sh, I, R)) :
    Ex mX10_leastMany 5 [.ref 209] [] (sh, I, R) mc ms (xqI Q) := by
  refine xw_aload_n dX10_leastMany_5 rfl rfl ?_
  refine yw_getI (v := I 209 14) dX10_leastMany_6 fX10_170 rfl (la_209 hW) rfl ?_
  exact yw_iret dX10_leastMany_9 rfl k
theorem eX10_leastMany {h : xHp} {Q : Int32 → xHp → Prop} (k : Ex mX10_leastMany 0 [.ref 209] [] h 0 0 (xqI Q)) : CI mX10_leastMany [.ref 209] h Q := k
theorem bX10_isTold_0 {v1 : Int32} {mc ms : Nat} {Q : Int32 → xHp → Prop} (hW : xLay sh R) 
    (k : Ex mX10_isTold 2 [.ref 209, .int v1, .int (nI 0), xU] [] (sh, I, R) mc ms (xqI Q)) :
    Ex mX10_isTold 0 [.ref 209, .int v1, xU, xU] [] (sh, I, R) mc ms (xqI Q) := by
  refine xw_iconst (v := nI 0) dX10_isTold_0 rfl ?_
  refine yw_istore_n (lv' := [.ref 209, .int v1, .int (nI 0), xU]) dX10_isTold_1 rfl rfl rfl rfl ?_
  exact k
theorem bX10_isTold_2 {v1 v2 : Int32} {mc ms : Nat} {Q : Int32 → xHp → Prop} (hW : xLay sh R) 
    (k : (((I 209 11) ≤ v2 → CI mX10_isSolved [.ref 209, .int (I 209 10), .int (I 209 11)] (sh, I, R) (fun w h1 => Ex mX10_isTold 104 [xU, xU, xU, xU] (.int w :: []) h1 mc ms (xqI Q))) ∧ (¬ (I 209 11) ≤ v2 → Ex mX10_isTold 12 [.ref 209, .int v1, .int v2, .int (nI 0)] [] (sh, I, R) mc ms (xqI Q)))) :
    Ex mX10_isTold 2 [.ref 209, .int v1, .int v2, xU] [] (sh, I, R) mc ms (xqI Q) := by
  refine xw_iload_n dX10_isTold_2 rfl rfl ?_
  refine xw_aload_n dX10_isTold_3 rfl rfl ?_
  refine yw_getI (v := I 209 11) dX10_isTold_4 fX10_129 rfl (la_209 hW) rfl ?_
  refine xw_icge (tgt := 92) dX10_isTold_7 (by decide) (fun c => ?_) (fun c => ?_)
  · replace k := k.1 c
    refine xw_aload_n dX10_isTold_92 rfl rfl ?_
    refine xw_aload_n dX10_isTold_93 rfl rfl ?_
    refine yw_getI (v := I 209 10) dX10_isTold_94 fX10_126 rfl (la_209 hW) rfl ?_
    refine xw_aload_n dX10_isTold_97 rfl rfl ?_
    refine yw_getI (v := I 209 11) dX10_isTold_98 fX10_129 rfl (la_209 hW) rfl ?_
    refine yw_sub (lv' := [xU, xU, xU, xU]) ⟨Or.inl rfl, Or.inl rfl, Or.inl rfl, Or.inl rfl, trivial⟩ ?_
    exact yw_cV (As := [.int (I 209 10), .int (I 209 11)]) (b := 209) (st := []) dX10_isTold_101 lX10_142 kiX10_isSolved kvX10_isSolved rfl rfl rfl (la_209 hW) rfl (Nat.le_of_ble_eq_true rfl) rfl (xk_I k)
  · replace k := k.2 c
    refine xw_iconst (v := nI 0) dX10_isTold_10 rfl ?_
    refine yw_istore_n (lv' := [.ref 209, .int v1, .int v2, .int (nI 0)]) dX10_isTold_11 rfl rfl rfl rfl ?_
    exact k
theorem bX10_isTold_104 {s0 : Int32} {mc ms : Nat} {Q : Int32 → xHp → Prop} (hW : xLay sh R) 
    (k : (s0 = 0 ∨ s0 = 1) ∧ Q s0 (sh, I, R)) :
    Ex mX10_isTold 104 [xU, xU, xU, xU] [.int s0] (sh, I, R) mc ms (xqI Q) := by
  exact yw_zret dX10_isTold_104 rfl (narrow_z _ k.1) k.2
theorem bX10_isTold_12 {v1 v2 v3 : Int32} {mc ms : Nat} {Q : Int32 → xHp → Prop} (hW : xLay sh R) 
    (k : (((I 209 10) ≤ v3 → vp_in v2 60 ∧ CI mX10_joined [.ref 209, .int v1, .int (I 216 v2.toNatClampNeg)] (sh, I, R) (fun w h1 => Ex mX10_isTold 82 [.ref 209, .int v1, .int v2, xU] (.int w :: [.int (nI 0), .ref 209, .int (((nI 5) * v2) + (I 209 10)), .ref 213]) h1 mc ms (xqI Q))) ∧ (¬ (I 209 10) ≤ v3 → vp_in v3 5 ∧ vp_in v2 60 ∧ CI mX10_joined [.ref 209, .int (I 215 v3.toNatClampNeg), .int (I 216 v2.toNatClampNeg)] (sh, I, R) (fun w h1 => Ex mX10_isTold 47 [.ref 209, .int v1, .int v2, .int v3] (.int w :: [.int (nI 0), .ref 209, .int (((nI 5) * v2) + v3), .ref 213]) h1 mc ms (xqI Q))))) :
    Ex mX10_isTold 12 [.ref 209, .int v1, .int v2, .int v3] [] (sh, I, R) mc ms (xqI Q) := by
  refine xw_iload_n dX10_isTold_12 rfl rfl ?_
  refine xw_aload_n dX10_isTold_13 rfl rfl ?_
  refine yw_getI (v := I 209 10) dX10_isTold_14 fX10_126 rfl (la_209 hW) rfl ?_
  refine xw_icge (tgt := 57) dX10_isTold_17 (by decide) (fun c => ?_) (fun c => ?_)
  · replace k := k.1 c
    refine xw_aload_n dX10_isTold_57 rfl rfl ?_
    refine yw_getR (r := 213) dX10_isTold_58 fX10_26 rfl (la_209 hW) (lr_209_6 hW) ?_
    refine xw_iconst (v := nI 5) dX10_isTold_61 rfl ?_
    refine xw_iload_n dX10_isTold_62 rfl rfl ?_
    refine xw_imul dX10_isTold_63 ?_
    refine xw_aload_n dX10_isTold_64 rfl rfl ?_
    refine yw_getI (v := I 209 10) dX10_isTold_65 fX10_126 rfl (la_209 hW) rfl ?_
    refine xw_iadd dX10_isTold_68 ?_
    refine xw_aload_n dX10_isTold_69 rfl rfl ?_
    refine xw_iconst (v := nI 0) dX10_isTold_70 rfl ?_
    refine xw_aload_n dX10_isTold_71 rfl rfl ?_
    refine xw_iload_n dX10_isTold_72 rfl rfl ?_
    refine xw_aload_n dX10_isTold_73 rfl rfl ?_
    refine yw_getR (r := 216) dX10_isTold_74 fX10_35 rfl (la_209 hW) (lr_209_9 hW) ?_
    refine xw_iload_n dX10_isTold_77 rfl rfl ?_
    obtain ⟨k0, k⟩ := k
    refine yw_iaload (v := I 216 v2.toNatClampNeg) dX10_isTold_78 (la_216 hW) k0 rfl ?_
    refine yw_sub (lv' := [.ref 209, .int v1, .int v2, xU]) ⟨Or.inr rfl, Or.inr rfl, Or.inr rfl, Or.inl rfl, trivial⟩ ?_
    exact yw_cV (As := [.int v1, .int (I 216 v2.toNatClampNeg)]) (b := 209) (st := [.int (nI 0), .ref 209, .int (((nI 5) * v2) + (I 209 10)), .ref 213]) dX10_isTold_79 lX10_139 kiX10_joined kvX10_joined rfl rfl rfl (la_209 hW) rfl (Nat.le_of_ble_eq_true rfl) rfl (xk_I k)
  · replace k := k.2 c
    refine xw_aload_n dX10_isTold_20 rfl rfl ?_
    refine yw_getR (r := 213) dX10_isTold_21 fX10_26 rfl (la_209 hW) (lr_209_6 hW) ?_
    refine xw_iconst (v := nI 5) dX10_isTold_24 rfl ?_
    refine xw_iload_n dX10_isTold_25 rfl rfl ?_
    refine xw_imul dX10_isTold_26 ?_
    refine xw_iload_n dX10_isTold_27 rfl rfl ?_
    refine xw_iadd dX10_isTold_28 ?_
    refine xw_aload_n dX10_isTold_29 rfl rfl ?_
    refine xw_iconst (v := nI 0) dX10_isTold_30 rfl ?_
    refine xw_aload_n dX10_isTold_31 rfl rfl ?_
    refine xw_aload_n dX10_isTold_32 rfl rfl ?_
    refine yw_getR (r := 215) dX10_isTold_33 fX10_32 rfl (la_209 hW) (lr_209_8 hW) ?_
    refine xw_iload_n dX10_isTold_36 rfl rfl ?_
    obtain ⟨k0, k⟩ := k
    refine yw_iaload (v := I 215 v3.toNatClampNeg) dX10_isTold_37 (la_215 hW) k0 rfl ?_
    refine xw_aload_n dX10_isTold_38 rfl rfl ?_
    refine yw_getR (r := 216) dX10_isTold_39 fX10_35 rfl (la_209 hW) (lr_209_9 hW) ?_
    refine xw_iload_n dX10_isTold_42 rfl rfl ?_
    obtain ⟨k0, k⟩ := k
    refine yw_iaload (v := I 216 v2.toNatClampNeg) dX10_isTold_43 (la_216 hW) k0 rfl ?_
    exact yw_cV (As := [.int (I 215 v3.toNatClampNeg), .int (I 216 v2.toNatClampNeg)]) (b := 209) (st := [.int (nI 0), .ref 209, .int (((nI 5) * v2) + v3), .ref 213]) dX10_isTold_44 lX10_139 kiX10_joined kvX10_joined rfl rfl rfl (la_209 hW) rfl (Nat.le_of_ble_eq_true rfl) rfl (xk_I k)
theorem bX10_isTold_82 {v1 v2 s4 s3 s1 : Int32} {mc ms : Nat} {Q : Int32 → xHp → Prop} (hW : xLay sh R) 
    (k : CI mX10_valueOf [.ref 209, .int s3, .int s4] (sh, I, R) (fun w h1 => Ex mX10_isTold 85 [.ref 209, .int v1, .int v2, xU] (.int w :: [.int s1, .ref 213]) h1 mc ms (xqI Q))) :
    Ex mX10_isTold 82 [.ref 209, .int v1, .int v2, xU] [.int s4, .int s3, .ref 209, .int s1, .ref 213] (sh, I, R) mc ms (xqI Q) := by
  exact yw_cV (As := [.int s3, .int s4]) (b := 209) (st := [.int s1, .ref 213]) dX10_isTold_82 lX10_112 kiX10_valueOf kvX10_valueOf rfl rfl rfl (la_209 hW) rfl (Nat.le_of_ble_eq_true rfl) rfl (xk_I k)
theorem bX10_isTold_85 {v1 v2 s2 s1 : Int32} {mc ms : Nat} {Q : Int32 → xHp → Prop} (hW : xLay sh R) 
    (k : vp_in s1 300 ∧ Ex mX10_isTold 2 [.ref 209, .int v1, .int (v2 + nI 1), xU] [] (sh, (xi I 213 s1.toNatClampNeg s2), R) mc ms (xqI Q)) :
    Ex mX10_isTold 85 [.ref 209, .int v1, .int v2, xU] [.int s2, .int s1, .ref 213] (sh, I, R) mc ms (xqI Q) := by
  obtain ⟨k0, k⟩ := k
  refine yw_iastore dX10_isTold_85 (la_213 hW) k0 ?_
  refine yw_iinc (lv' := [.ref 209, .int v1, .int (v2 + nI 1), xU]) (v := nI 1) dX10_isTold_86 rfl rfl rfl rfl rfl ?_
  refine xw_goto (tgt := 2) dX10_isTold_89 (by decide) ?_
  exact k
theorem bX10_isTold_47 {v1 v2 v3 s4 s3 s1 : Int32} {mc ms : Nat} {Q : Int32 → xHp → Prop} (hW : xLay sh R) 
    (k : CI mX10_valueOf [.ref 209, .int s3, .int s4] (sh, I, R) (fun w h1 => Ex mX10_isTold 50 [.ref 209, .int v1, .int v2, .int v3] (.int w :: [.int s1, .ref 213]) h1 mc ms (xqI Q))) :
    Ex mX10_isTold 47 [.ref 209, .int v1, .int v2, .int v3] [.int s4, .int s3, .ref 209, .int s1, .ref 213] (sh, I, R) mc ms (xqI Q) := by
  exact yw_cV (As := [.int s3, .int s4]) (b := 209) (st := [.int s1, .ref 213]) dX10_isTold_47 lX10_112 kiX10_valueOf kvX10_valueOf rfl rfl rfl (la_209 hW) rfl (Nat.le_of_ble_eq_true rfl) rfl (xk_I k)
theorem bX10_isTold_50 {v1 v2 v3 s2 s1 : Int32} {mc ms : Nat} {Q : Int32 → xHp → Prop} (hW : xLay sh R) 
    (k : vp_in s1 300 ∧ Ex mX10_isTold 12 [.ref 209, .int v1, .int v2, .int (v3 + nI 1)] [] (sh, (xi I 213 s1.toNatClampNeg s2), R) mc ms (xqI Q)) :
    Ex mX10_isTold 50 [.ref 209, .int v1, .int v2, .int v3] [.int s2, .int s1, .ref 213] (sh, I, R) mc ms (xqI Q) := by
  obtain ⟨k0, k⟩ := k
  refine yw_iastore dX10_isTold_50 (la_213 hW) k0 ?_
  refine yw_iinc (lv' := [.ref 209, .int v1, .int v2, .int (v3 + nI 1)]) (v := nI 1) dX10_isTold_51 rfl rfl rfl rfl rfl ?_
  refine xw_goto (tgt := 12) dX10_isTold_54 (by decide) ?_
  exact k
theorem eX10_isTold {v1 : Int32} {h : xHp} {Q : Int32 → xHp → Prop} (k : Ex mX10_isTold 0 [.ref 209, .int v1, xU, xU] [] h 0 0 (xqI Q)) : CI mX10_isTold [.ref 209, .int v1] h Q := k
theorem bX10_oneOf_0 {v0 : Int32} {mc ms : Nat} {Q : Int32 → xHp → Prop} (hW : xLay sh R) 
    (k : Q ((nI 1) + v0) (sh, I, R)) :
    Ex mX10_oneOf 0 [.int v0] [] (sh, I, R) mc ms (xqI Q) := by
  refine xw_iconst (v := nI 1) dX10_oneOf_0 rfl ?_
  refine xw_iload_n dX10_oneOf_1 rfl rfl ?_
  refine xw_iadd dX10_oneOf_2 ?_
  exact yw_iret dX10_oneOf_3 rfl k
theorem eX10_oneOf {v0 : Int32} {h : xHp} {Q : Int32 → xHp → Prop} (k : Ex mX10_oneOf 0 [.int v0] [] h 0 0 (xqI Q)) : CI mX10_oneOf [.int v0] h Q := k
theorem bX10_lacking_0 {mc ms : Nat} {Q : Int32 → xHp → Prop} (hW : xLay sh R) 
    (k : ((¬ (I 209 10) = 0 → Ex mX10_lacking 24 [.ref 209, .int (nI 0), xU, xU] [] (sh, I, R) mc ms (xqI Q)) ∧ ((I 209 10) = 0 → CI mX10_isTold [.ref 209, .int (nI 0)] (sh, I, R) (fun w h1 => Ex mX10_lacking 12 [xU, xU, xU, xU] (.int w :: []) h1 mc ms (xqI Q))))) :
    Ex mX10_lacking 0 [.ref 209, xU, xU, xU] [] (sh, I, R) mc ms (xqI Q) := by
  refine xw_aload_n dX10_lacking_0 rfl rfl ?_
  refine yw_getI (v := I 209 10) dX10_lacking_1 fX10_126 rfl (la_209 hW) rfl ?_
  refine xw_ifne (tgt := 22) dX10_lacking_4 (by decide) (fun c => ?_) (fun c => ?_)
  · replace k := k.1 c
    refine xw_iconst (v := nI 0) dX10_lacking_22 rfl ?_
    refine yw_istore_n (lv' := [.ref 209, .int (nI 0), xU, xU]) dX10_lacking_23 rfl rfl rfl rfl ?_
    exact k
  · replace k := k.2 c
    refine xw_aload_n dX10_lacking_7 rfl rfl ?_
    refine xw_iconst (v := nI 0) dX10_lacking_8 rfl ?_
    refine yw_sub (lv' := [xU, xU, xU, xU]) ⟨Or.inl rfl, Or.inl rfl, Or.inl rfl, Or.inl rfl, trivial⟩ ?_
    exact yw_cV (As := [.int (nI 0)]) (b := 209) (st := []) dX10_lacking_9 lX10_146 kiX10_isTold kvX10_isTold rfl rfl rfl (la_209 hW) rfl (Nat.le_of_ble_eq_true rfl) rfl (xk_I k)
theorem bX10_lacking_24 {v1 : Int32} {mc ms : Nat} {Q : Int32 → xHp → Prop} (hW : xLay sh R) 
    (k : (((I 209 10) ≤ v1 → Q (-4) (sh, I, R)) ∧ (¬ (I 209 10) ≤ v1 → Ex mX10_lacking 34 [.ref 209, .int v1, .int (nI 0), xU] [] (sh, I, R) mc ms (xqI Q)))) :
    Ex mX10_lacking 24 [.ref 209, .int v1, xU, xU] [] (sh, I, R) mc ms (xqI Q) := by
  refine xw_iload_n dX10_lacking_24 rfl rfl ?_
  refine xw_aload_n dX10_lacking_25 rfl rfl ?_
  refine yw_getI (v := I 209 10) dX10_lacking_26 fX10_126 rfl (la_209 hW) rfl ?_
  refine xw_icge (tgt := 79) dX10_lacking_29 (by decide) (fun c => ?_) (fun c => ?_)
  · replace k := k.1 c
    refine xw_bipush (v := (-4)) dX10_lacking_79 (by decide) ?_
    exact yw_iret dX10_lacking_81 rfl k
  · replace k := k.2 c
    refine xw_iconst (v := nI 0) dX10_lacking_32 rfl ?_
    refine yw_istore_n (lv' := [.ref 209, .int v1, .int (nI 0), xU]) dX10_lacking_33 rfl rfl rfl rfl ?_
    exact k
theorem bX10_lacking_34 {v1 v2 : Int32} {mc ms : Nat} {Q : Int32 → xHp → Prop} (hW : xLay sh R) 
    (k : (((I 209 2) ≤ v2 → Ex mX10_lacking 24 [.ref 209, .int (v1 + nI 1), xU, xU] [] (sh, I, R) mc ms (xqI Q)) ∧ (¬ (I 209 2) ≤ v2 → vp_in v1 5 ∧ CI mX10_oneOf [.int v2] (sh, I, R) (fun w h1 => Ex mX10_lacking 53 [.ref 209, .int v1, .int v2, xU] (.int w :: [.int (I 215 v1.toNatClampNeg), .ref 209]) h1 mc ms (xqI Q))))) :
    Ex mX10_lacking 34 [.ref 209, .int v1, .int v2, xU] [] (sh, I, R) mc ms (xqI Q) := by
  refine xw_iload_n dX10_lacking_34 rfl rfl ?_
  refine xw_aload_n dX10_lacking_35 rfl rfl ?_
  refine yw_getI (v := I 209 2) dX10_lacking_36 fX10_17 rfl (la_209 hW) rfl ?_
  refine xw_icge (tgt := 73) dX10_lacking_39 (by decide) (fun c => ?_) (fun c => ?_)
  · replace k := k.1 c
    refine yw_iinc (lv' := [.ref 209, .int (v1 + nI 1), .int v2, xU]) (v := nI 1) dX10_lacking_73 rfl rfl rfl rfl rfl ?_
    refine xw_goto (tgt := 24) dX10_lacking_76 (by decide) ?_
    exact yw_sub (lv' := [.ref 209, .int (v1 + nI 1), xU, xU]) ⟨Or.inr rfl, Or.inr rfl, Or.inl rfl, Or.inl rfl, trivial⟩ k
  · replace k := k.2 c
    refine xw_aload_n dX10_lacking_42 rfl rfl ?_
    refine xw_aload_n dX10_lacking_43 rfl rfl ?_
    refine yw_getR (r := 215) dX10_lacking_44 fX10_32 rfl (la_209 hW) (lr_209_8 hW) ?_
    refine xw_iload_n dX10_lacking_47 rfl rfl ?_
    obtain ⟨k0, k⟩ := k
    refine yw_iaload (v := I 215 v1.toNatClampNeg) dX10_lacking_48 (la_215 hW) k0 rfl ?_
    refine xw_iload_n dX10_lacking_49 rfl rfl ?_
    exact yw_cS (As := [.int v2]) (st := [.int (I 215 v1.toNatClampNeg), .ref 209]) dX10_lacking_50 lX10_149 ksX10_oneOf rfl rfl rfl (Nat.le_of_ble_eq_true rfl) rfl (xk_I k)
theorem bX10_lacking_53 {v1 v2 s2 s1 : Int32} {mc ms : Nat} {Q : Int32 → xHp → Prop} (hW : xLay sh R) 
    (k : CI mX10_joined [.ref 209, .int s1, .int s2] (sh, I, R) (fun w h1 => Ex mX10_lacking 56 [.ref 209, .int v1, .int v2, xU] (.int w :: []) h1 mc ms (xqI Q))) :
    Ex mX10_lacking 53 [.ref 209, .int v1, .int v2, xU] [.int s2, .int s1, .ref 209] (sh, I, R) mc ms (xqI Q) := by
  exact yw_cV (As := [.int s1, .int s2]) (b := 209) (st := []) dX10_lacking_53 lX10_139 kiX10_joined kvX10_joined rfl rfl rfl (la_209 hW) rfl (Nat.le_of_ble_eq_true rfl) rfl (xk_I k)
theorem bX10_lacking_56 {v1 v2 s0 : Int32} {mc ms : Nat} {Q : Int32 → xHp → Prop} (hW : xLay sh R) 
    (k : CI mX10_isTold [.ref 209, .int s0] (sh, I, R) (fun w h1 => Ex mX10_lacking 62 [.ref 209, .int v1, .int v2, .int s0] (.int w :: []) h1 mc ms (xqI Q))) :
    Ex mX10_lacking 56 [.ref 209, .int v1, .int v2, xU] [.int s0] (sh, I, R) mc ms (xqI Q) := by
  refine yw_istore_n (lv' := [.ref 209, .int v1, .int v2, .int s0]) dX10_lacking_56 rfl rfl rfl rfl ?_
  refine xw_aload_n dX10_lacking_57 rfl rfl ?_
  refine xw_iload_n dX10_lacking_58 rfl rfl ?_
  exact yw_cV (As := [.int s0]) (b := 209) (st := []) dX10_lacking_59 lX10_146 kiX10_isTold kvX10_isTold rfl rfl rfl (la_209 hW) rfl (Nat.le_of_ble_eq_true rfl) rfl (xk_I k)
theorem bX10_lacking_62 {v1 v2 v3 s0 : Int32} {mc ms : Nat} {Q : Int32 → xHp → Prop} (hW : xLay sh R) 
    (k : ((¬ s0 = 0 → Ex mX10_lacking 34 [.ref 209, .int v1, .int (v2 + nI 1), xU] [] (sh, I, R) mc ms (xqI Q)) ∧ (s0 = 0 → Q v3 (sh, I, R)))) :
    Ex mX10_lacking 62 [.ref 209, .int v1, .int v2, .int v3] [.int s0] (sh, I, R) mc ms (xqI Q) := by
  refine xw_ifne (tgt := 67) dX10_lacking_62 (by decide) (fun c => ?_) (fun c => ?_)
  · replace k := k.1 c
    refine yw_iinc (lv' := [.ref 209, .int v1, .int (v2 + nI 1), .int v3]) (v := nI 1) dX10_lacking_67 rfl rfl rfl rfl rfl ?_
    refine xw_goto (tgt := 34) dX10_lacking_70 (by decide) ?_
    exact yw_sub (lv' := [.ref 209, .int v1, .int (v2 + nI 1), xU]) ⟨Or.inr rfl, Or.inr rfl, Or.inr rfl, Or.inl rfl, trivial⟩ k
  · replace k := k.2 c
    refine xw_iload_n dX10_lacking_65 rfl rfl ?_
    exact yw_iret dX10_lacking_66 rfl k
theorem bX10_lacking_12 {s0 : Int32} {mc ms : Nat} {Q : Int32 → xHp → Prop} (hW : xLay sh R) 
    (k : ((s0 = 0 → Q (nI 0) (sh, I, R)) ∧ (¬ s0 = 0 → Q (-4) (sh, I, R)))) :
    Ex mX10_lacking 12 [xU, xU, xU, xU] [.int s0] (sh, I, R) mc ms (xqI Q) := by
  refine xw_ifeq (tgt := 20) dX10_lacking_12 (by decide) (fun c => ?_) (fun c => ?_)
  · replace k := k.1 c
    refine xw_iconst (v := nI 0) dX10_lacking_20 rfl ?_
    exact yw_iret dX10_lacking_21 rfl k
  · replace k := k.2 c
    refine xw_bipush (v := (-4)) dX10_lacking_15 (by decide) ?_
    refine xw_goto (tgt := 21) dX10_lacking_17 (by decide) ?_
    exact yw_iret dX10_lacking_21 rfl k
theorem eX10_lacking {h : xHp} {Q : Int32 → xHp → Prop} (k : Ex mX10_lacking 0 [.ref 209, xU, xU, xU] [] h 0 0 (xqI Q)) : CI mX10_lacking [.ref 209] h Q := k
theorem bX10_wordsIn_0 {mc ms : Nat} {Q : Int32 → xHp → Prop} (hW : xLay sh R) 
    (k : Ex mX10_wordsIn 9 [.ref 209, .ref 222, .int (nI 0), .int (nI 0), xU, xU, xU, xU, xU, xU] [] (sh, I, R) mc ms (xqI Q)) :
    Ex mX10_wordsIn 0 [.ref 209, xU, xU, xU, xU, xU, xU, xU, xU, xU] [] (sh, I, R) mc ms (xqI Q) := by
  refine xw_aload_n dX10_wordsIn_0 rfl rfl ?_
  refine yw_getR (r := 222) dX10_wordsIn_1 fX10_54 rfl (la_209 hW) (lr_209_30 hW) ?_
  refine yw_astore_n (lv' := [.ref 209, .ref 222, xU, xU, xU, xU, xU, xU, xU, xU]) dX10_wordsIn_4 rfl rfl rfl rfl ?_
  refine xw_iconst (v := nI 0) dX10_wordsIn_5 rfl ?_
  refine yw_istore_n (lv' := [.ref 209, .ref 222, .int (nI 0), xU, xU, xU, xU, xU, xU, xU]) dX10_wordsIn_6 rfl rfl rfl rfl ?_
  refine xw_iconst (v := nI 0) dX10_wordsIn_7 rfl ?_
  refine yw_istore_n (lv' := [.ref 209, .ref 222, .int (nI 0), .int (nI 0), xU, xU, xU, xU, xU, xU]) dX10_wordsIn_8 rfl rfl rfl rfl ?_
  exact k
theorem bX10_wordsIn_9 {v2 v3 : Int32} {mc ms : Nat} {Q : Int32 → xHp → Prop} (hW : xLay sh R) 
    (k : (((I 209 10) ≤ v3 → Q v2 (sh, I, R)) ∧ (¬ (I 209 10) ≤ v3 → Ex mX10_wordsIn 20 [.ref 209, .ref 222, .int v2, .int v3, .int (-1), xU, xU, xU, xU, xU] [] (sh, I, R) mc ms (xqI Q)))) :
    Ex mX10_wordsIn 9 [.ref 209, .ref 222, .int v2, .int v3, xU, xU, xU, xU, xU, xU] [] (sh, I, R) mc ms (xqI Q) := by
  refine xw_iload_n dX10_wordsIn_9 rfl rfl ?_
  refine xw_aload_n dX10_wordsIn_10 rfl rfl ?_
  refine yw_getI (v := I 209 10) dX10_wordsIn_11 fX10_126 rfl (la_209 hW) rfl ?_
  refine xw_icge (tgt := 157) dX10_wordsIn_14 (by decide) (fun c => ?_) (fun c => ?_)
  · replace k := k.1 c
    refine xw_iload_n dX10_wordsIn_157 rfl rfl ?_
    exact yw_iret dX10_wordsIn_158 rfl k
  · replace k := k.2 c
    refine xw_iconst (v := (-1)) dX10_wordsIn_17 rfl ?_
    refine yw_istore (lv' := [.ref 209, .ref 222, .int v2, .int v3, .int (-1), xU, xU, xU, xU, xU]) dX10_wordsIn_18 rfl rfl rfl ?_
    exact k
theorem bX10_wordsIn_20 {v2 v3 v4 : Int32} {mc ms : Nat} {Q : Int32 → xHp → Prop} (hW : xLay sh R) 
    (k : (((I 209 2) ≤ v4 → Ex mX10_wordsIn 9 [.ref 209, .ref 222, .int v2, .int (v3 + nI 1), xU, xU, xU, xU, xU, xU] [] (sh, I, R) mc ms (xqI Q)) ∧ (¬ (I 209 2) ≤ v4 → ((0 ≤ v4 → vp_in v3 5 ∧ CI mX10_oneOf [.int v4] (sh, I, R) (fun w h1 => Ex mX10_wordsIn 55 [.ref 209, .ref 222, .int v2, .int v3, .int v4, xU, xU, xU, xU, xU] (.int w :: [.int (I 215 v3.toNatClampNeg), .ref 209]) h1 mc ms (xqI Q))) ∧ (¬ 0 ≤ v4 → vp_in v3 5 ∧ Ex mX10_wordsIn 63 [.ref 209, .ref 222, .int v2, .int v3, .int v4, .int (I 215 v3.toNatClampNeg), .int (nI 0), xU, xU, xU] [] (sh, I, R) mc ms (xqI Q)))))) :
    Ex mX10_wordsIn 20 [.ref 209, .ref 222, .int v2, .int v3, .int v4, xU, xU, xU, xU, xU] [] (sh, I, R) mc ms (xqI Q) := by
  refine xw_iload dX10_wordsIn_20 rfl ?_
  refine xw_aload_n dX10_wordsIn_22 rfl rfl ?_
  refine yw_getI (v := I 209 2) dX10_wordsIn_23 fX10_17 rfl (la_209 hW) rfl ?_
  refine xw_icge (tgt := 151) dX10_wordsIn_26 (by decide) (fun c => ?_) (fun c => ?_)
  · replace k := k.1 c
    refine yw_iinc (lv' := [.ref 209, .ref 222, .int v2, .int (v3 + nI 1), .int v4, xU, xU, xU, xU, xU]) (v := nI 1) dX10_wordsIn_151 rfl rfl rfl rfl rfl ?_
    refine xw_goto (tgt := 9) dX10_wordsIn_154 (by decide) ?_
    exact yw_sub (lv' := [.ref 209, .ref 222, .int v2, .int (v3 + nI 1), xU, xU, xU, xU, xU, xU]) ⟨Or.inr rfl, Or.inr rfl, Or.inr rfl, Or.inr rfl, Or.inl rfl, Or.inl rfl, Or.inl rfl, Or.inl rfl, Or.inl rfl, Or.inl rfl, trivial⟩ k
  · replace k := k.2 c
    refine xw_iload dX10_wordsIn_29 rfl ?_
    refine xw_ifge (tgt := 43) dX10_wordsIn_31 (by decide) (fun c => ?_) (fun c => ?_)
    · replace k := k.1 c
      refine xw_aload_n dX10_wordsIn_43 rfl rfl ?_
      refine xw_aload_n dX10_wordsIn_44 rfl rfl ?_
      refine yw_getR (r := 215) dX10_wordsIn_45 fX10_32 rfl (la_209 hW) (lr_209_8 hW) ?_
      refine xw_iload_n dX10_wordsIn_48 rfl rfl ?_
      obtain ⟨k0, k⟩ := k
      refine yw_iaload (v := I 215 v3.toNatClampNeg) dX10_wordsIn_49 (la_215 hW) k0 rfl ?_
      refine xw_iload dX10_wordsIn_50 rfl ?_
      exact yw_cS (As := [.int v4]) (st := [.int (I 215 v3.toNatClampNeg), .ref 209]) dX10_wordsIn_52 lX10_149 ksX10_oneOf rfl rfl rfl (Nat.le_of_ble_eq_true rfl) rfl (xk_I k)
    · replace k := k.2 c
      refine xw_aload_n dX10_wordsIn_34 rfl rfl ?_
      refine yw_getR (r := 215) dX10_wordsIn_35 fX10_32 rfl (la_209 hW) (lr_209_8 hW) ?_
      refine xw_iload_n dX10_wordsIn_38 rfl rfl ?_
      obtain ⟨k0, k⟩ := k
      refine yw_iaload (v := I 215 v3.toNatClampNeg) dX10_wordsIn_39 (la_215 hW) k0 rfl ?_
      refine xw_goto (tgt := 58) dX10_wordsIn_40 (by decide) ?_
      refine yw_istore (lv' := [.ref 209, .ref 222, .int v2, .int v3, .int v4, .int (I 215 v3.toNatClampNeg), xU, xU, xU, xU]) dX10_wordsIn_58 rfl rfl rfl ?_
      refine xw_iconst (v := nI 0) dX10_wordsIn_60 rfl ?_
      refine yw_istore (lv' := [.ref 209, .ref 222, .int v2, .int v3, .int v4, .int (I 215 v3.toNatClampNeg), .int (nI 0), xU, xU, xU]) dX10_wordsIn_61 rfl rfl rfl ?_
      exact k
theorem bX10_wordsIn_55 {v2 v3 v4 s2 s1 : Int32} {mc ms : Nat} {Q : Int32 → xHp → Prop} (hW : xLay sh R) 
    (k : CI mX10_joined [.ref 209, .int s1, .int s2] (sh, I, R) (fun w h1 => Ex mX10_wordsIn 58 [.ref 209, .ref 222, .int v2, .int v3, .int v4, xU, xU, xU, xU, xU] (.int w :: []) h1 mc ms (xqI Q))) :
    Ex mX10_wordsIn 55 [.ref 209, .ref 222, .int v2, .int v3, .int v4, xU, xU, xU, xU, xU] [.int s2, .int s1, .ref 209] (sh, I, R) mc ms (xqI Q) := by
  exact yw_cV (As := [.int s1, .int s2]) (b := 209) (st := []) dX10_wordsIn_55 lX10_139 kiX10_joined kvX10_joined rfl rfl rfl (la_209 hW) rfl (Nat.le_of_ble_eq_true rfl) rfl (xk_I k)
theorem bX10_wordsIn_58 {v2 v3 v4 s0 : Int32} {mc ms : Nat} {Q : Int32 → xHp → Prop} (hW : xLay sh R) 
    (k : Ex mX10_wordsIn 63 [.ref 209, .ref 222, .int v2, .int v3, .int v4, .int s0, .int (nI 0), xU, xU, xU] [] (sh, I, R) mc ms (xqI Q)) :
    Ex mX10_wordsIn 58 [.ref 209, .ref 222, .int v2, .int v3, .int v4, xU, xU, xU, xU, xU] [.int s0] (sh, I, R) mc ms (xqI Q) := by
  refine yw_istore (lv' := [.ref 209, .ref 222, .int v2, .int v3, .int v4, .int s0, xU, xU, xU, xU]) dX10_wordsIn_58 rfl rfl rfl ?_
  refine xw_iconst (v := nI 0) dX10_wordsIn_60 rfl ?_
  refine yw_istore (lv' := [.ref 209, .ref 222, .int v2, .int v3, .int v4, .int s0, .int (nI 0), xU, xU, xU]) dX10_wordsIn_61 rfl rfl rfl ?_
  exact k
theorem bX10_wordsIn_63 {v2 v3 v4 v5 v6 : Int32} {mc ms : Nat} {Q : Int32 → xHp → Prop} (hW : xLay sh R) 
    (k : (((I 209 11) ≤ v6 → Ex mX10_wordsIn 20 [.ref 209, .ref 222, .int v2, .int v3, .int (v4 + nI 1), xU, xU, xU, xU, xU] [] (sh, I, R) mc ms (xqI Q)) ∧ (¬ (I 209 11) ≤ v6 → vp_in v6 60 ∧ CI mX10_joined [.ref 209, .int v5, .int (I 216 v6.toNatClampNeg)] (sh, I, R) (fun w h1 => Ex mX10_wordsIn 85 [.ref 209, .ref 222, .int v2, .int v3, .int v4, .int v5, .int v6, xU, xU, xU] (.int w :: []) h1 mc ms (xqI Q))))) :
    Ex mX10_wordsIn 63 [.ref 209, .ref 222, .int v2, .int v3, .int v4, .int v5, .int v6, xU, xU, xU] [] (sh, I, R) mc ms (xqI Q) := by
  refine xw_iload dX10_wordsIn_63 rfl ?_
  refine xw_aload_n dX10_wordsIn_65 rfl rfl ?_
  refine yw_getI (v := I 209 11) dX10_wordsIn_66 fX10_129 rfl (la_209 hW) rfl ?_
  refine xw_icge (tgt := 145) dX10_wordsIn_69 (by decide) (fun c => ?_) (fun c => ?_)
  · replace k := k.1 c
    refine yw_iinc (lv' := [.ref 209, .ref 222, .int v2, .int v3, .int (v4 + nI 1), .int v5, .int v6, xU, xU, xU]) (v := nI 1) dX10_wordsIn_145 rfl rfl rfl rfl rfl ?_
    refine xw_goto (tgt := 20) dX10_wordsIn_148 (by decide) ?_
    exact yw_sub (lv' := [.ref 209, .ref 222, .int v2, .int v3, .int (v4 + nI 1), xU, xU, xU, xU, xU]) ⟨Or.inr rfl, Or.inr rfl, Or.inr rfl, Or.inr rfl, Or.inr rfl, Or.inl rfl, Or.inl rfl, Or.inl rfl, Or.inl rfl, Or.inl rfl, trivial⟩ k
  · replace k := k.2 c
    refine xw_aload_n dX10_wordsIn_72 rfl rfl ?_
    refine xw_iload dX10_wordsIn_73 rfl ?_
    refine xw_aload_n dX10_wordsIn_75 rfl rfl ?_
    refine yw_getR (r := 216) dX10_wordsIn_76 fX10_35 rfl (la_209 hW) (lr_209_9 hW) ?_
    refine xw_iload dX10_wordsIn_79 rfl ?_
    obtain ⟨k0, k⟩ := k
    refine yw_iaload (v := I 216 v6.toNatClampNeg) dX10_wordsIn_81 (la_216 hW) k0 rfl ?_
    exact yw_cV (As := [.int v5, .int (I 216 v6.toNatClampNeg)]) (b := 209) (st := []) dX10_wordsIn_82 lX10_139 kiX10_joined kvX10_joined rfl rfl rfl (la_209 hW) rfl (Nat.le_of_ble_eq_true rfl) rfl (xk_I k)
theorem bX10_wordsIn_85 {v2 v3 v4 v5 v6 s0 : Int32} {mc ms : Nat} {Q : Int32 → xHp → Prop} (hW : xLay sh R) 
    (k : Ex mX10_wordsIn 93 [.ref 209, .ref 222, .int v2, .int v3, .int v4, .int v5, .int v6, .int s0, .int (nI 1), .int (nI 0)] [] (sh, I, R) mc ms (xqI Q)) :
    Ex mX10_wordsIn 85 [.ref 209, .ref 222, .int v2, .int v3, .int v4, .int v5, .int v6, xU, xU, xU] [.int s0] (sh, I, R) mc ms (xqI Q) := by
  refine yw_istore (lv' := [.ref 209, .ref 222, .int v2, .int v3, .int v4, .int v5, .int v6, .int s0, xU, xU]) dX10_wordsIn_85 rfl rfl rfl ?_
  refine xw_iconst (v := nI 1) dX10_wordsIn_87 rfl ?_
  refine yw_istore (lv' := [.ref 209, .ref 222, .int v2, .int v3, .int v4, .int v5, .int v6, .int s0, .int (nI 1), xU]) dX10_wordsIn_88 rfl rfl rfl ?_
  refine xw_iconst (v := nI 0) dX10_wordsIn_90 rfl ?_
  refine yw_istore (lv' := [.ref 209, .ref 222, .int v2, .int v3, .int v4, .int v5, .int v6, .int s0, .int (nI 1), .int (nI 0)]) dX10_wordsIn_91 rfl rfl rfl ?_
  exact k
theorem bX10_wordsIn_93 {v2 v3 v4 v5 v6 v7 v8 v9 : Int32} {mc ms : Nat} {Q : Int32 → xHp → Prop} (hW : xLay sh R) 
    (k : ((v2 ≤ v9 → ((v8 = 0 → Ex mX10_wordsIn 63 [.ref 209, .ref 222, .int v2, .int v3, .int v4, .int v5, .int (v6 + nI 1), xU, xU, xU] [] (sh, I, R) mc ms (xqI Q)) ∧ (¬ v8 = 0 → vp_in v2 1000 ∧ Ex mX10_wordsIn 63 [.ref 209, .ref 222, .int (v2 + nI 1), .int v3, .int v4, .int v5, .int (v6 + nI 1), xU, xU, xU] [] (sh, (xi I 222 v2.toNatClampNeg v7), R) mc ms (xqI Q)))) ∧ (¬ v2 ≤ v9 → ((v8 = 0 → ((v8 = 0 → Ex mX10_wordsIn 63 [.ref 209, .ref 222, .int v2, .int v3, .int v4, .int v5, .int (v6 + nI 1), xU, xU, xU] [] (sh, I, R) mc ms (xqI Q)) ∧ (¬ v8 = 0 → vp_in v2 1000 ∧ Ex mX10_wordsIn 63 [.ref 209, .ref 222, .int (v2 + nI 1), .int v3, .int v4, .int v5, .int (v6 + nI 1), xU, xU, xU] [] (sh, (xi I 222 v2.toNatClampNeg v7), R) mc ms (xqI Q)))) ∧ (¬ v8 = 0 → vp_in v9 1000 ∧ (((I 222 v9.toNatClampNeg) = v7 → Ex mX10_wordsIn 93 [.ref 209, .ref 222, .int v2, .int v3, .int v4, .int v5, .int v6, .int v7, .int (nI 0), .int (v9 + nI 1)] [] (sh, I, R) mc ms (xqI Q)) ∧ (¬ (I 222 v9.toNatClampNeg) = v7 → Ex mX10_wordsIn 93 [.ref 209, .ref 222, .int v2, .int v3, .int v4, .int v5, .int v6, .int v7, .int (nI 1), .int (v9 + nI 1)] [] (sh, I, R) mc ms (xqI Q)))))))) :
    Ex mX10_wordsIn 93 [.ref 209, .ref 222, .int v2, .int v3, .int v4, .int v5, .int v6, .int v7, .int v8, .int v9] [] (sh, I, R) mc ms (xqI Q) := by
  refine xw_iload dX10_wordsIn_93 rfl ?_
  refine xw_iload_n dX10_wordsIn_95 rfl rfl ?_
  refine xw_icge (tgt := 126) dX10_wordsIn_96 (by decide) (fun c => ?_) (fun c => ?_)
  · replace k := k.1 c
    refine xw_iload dX10_wordsIn_126 rfl ?_
    refine xw_ifeq (tgt := 139) dX10_wordsIn_128 (by decide) (fun c => ?_) (fun c => ?_)
    · replace k := k.1 c
      refine yw_iinc (lv' := [.ref 209, .ref 222, .int v2, .int v3, .int v4, .int v5, .int (v6 + nI 1), .int v7, .int v8, .int v9]) (v := nI 1) dX10_wordsIn_139 rfl rfl rfl rfl rfl ?_
      refine xw_goto (tgt := 63) dX10_wordsIn_142 (by decide) ?_
      exact yw_sub (lv' := [.ref 209, .ref 222, .int v2, .int v3, .int v4, .int v5, .int (v6 + nI 1), xU, xU, xU]) ⟨Or.inr rfl, Or.inr rfl, Or.inr rfl, Or.inr rfl, Or.inr rfl, Or.inr rfl, Or.inr rfl, Or.inl rfl, Or.inl rfl, Or.inl rfl, trivial⟩ k
    · replace k := k.2 c
      refine xw_aload_n dX10_wordsIn_131 rfl rfl ?_
      refine xw_iload_n dX10_wordsIn_132 rfl rfl ?_
      refine xw_iload dX10_wordsIn_133 rfl ?_
      obtain ⟨k0, k⟩ := k
      refine yw_iastore dX10_wordsIn_135 (la_222 hW) k0 ?_
      refine yw_iinc (lv' := [.ref 209, .ref 222, .int (v2 + nI 1), .int v3, .int v4, .int v5, .int v6, .int v7, .int v8, .int v9]) (v := nI 1) dX10_wordsIn_136 rfl rfl rfl rfl rfl ?_
      refine yw_iinc (lv' := [.ref 209, .ref 222, .int (v2 + nI 1), .int v3, .int v4, .int v5, .int (v6 + nI 1), .int v7, .int v8, .int v9]) (v := nI 1) dX10_wordsIn_139 rfl rfl rfl rfl rfl ?_
      refine xw_goto (tgt := 63) dX10_wordsIn_142 (by decide) ?_
      exact yw_sub (lv' := [.ref 209, .ref 222, .int (v2 + nI 1), .int v3, .int v4, .int v5, .int (v6 + nI 1), xU, xU, xU]) ⟨Or.inr rfl, Or.inr rfl, Or.inr rfl, Or.inr rfl, Or.inr rfl, Or.inr rfl, Or.inr rfl, Or.inl rfl, Or.inl rfl, Or.inl rfl, trivial⟩ k
  · replace k := k.2 c
    refine xw_iload dX10_wordsIn_99 rfl ?_
    refine xw_ifeq (tgt := 126) dX10_wordsIn_101 (by decide) (fun c => ?_) (fun c => ?_)
    · replace k := k.1 c
      refine xw_iload dX10_wordsIn_126 rfl ?_
      refine xw_ifeq (tgt := 139) dX10_wordsIn_128 (by decide) (fun c => ?_) (fun c => ?_)
      · replace k := k.1 c
        refine yw_iinc (lv' := [.ref 209, .ref 222, .int v2, .int v3, .int v4, .int v5, .int (v6 + nI 1), .int v7, .int v8, .int v9]) (v := nI 1) dX10_wordsIn_139 rfl rfl rfl rfl rfl ?_
        refine xw_goto (tgt := 63) dX10_wordsIn_142 (by decide) ?_
        exact yw_sub (lv' := [.ref 209, .ref 222, .int v2, .int v3, .int v4, .int v5, .int (v6 + nI 1), xU, xU, xU]) ⟨Or.inr rfl, Or.inr rfl, Or.inr rfl, Or.inr rfl, Or.inr rfl, Or.inr rfl, Or.inr rfl, Or.inl rfl, Or.inl rfl, Or.inl rfl, trivial⟩ k
      · replace k := k.2 c
        refine xw_aload_n dX10_wordsIn_131 rfl rfl ?_
        refine xw_iload_n dX10_wordsIn_132 rfl rfl ?_
        refine xw_iload dX10_wordsIn_133 rfl ?_
        obtain ⟨k0, k⟩ := k
        refine yw_iastore dX10_wordsIn_135 (la_222 hW) k0 ?_
        refine yw_iinc (lv' := [.ref 209, .ref 222, .int (v2 + nI 1), .int v3, .int v4, .int v5, .int v6, .int v7, .int v8, .int v9]) (v := nI 1) dX10_wordsIn_136 rfl rfl rfl rfl rfl ?_
        refine yw_iinc (lv' := [.ref 209, .ref 222, .int (v2 + nI 1), .int v3, .int v4, .int v5, .int (v6 + nI 1), .int v7, .int v8, .int v9]) (v := nI 1) dX10_wordsIn_139 rfl rfl rfl rfl rfl ?_
        refine xw_goto (tgt := 63) dX10_wordsIn_142 (by decide) ?_
        exact yw_sub (lv' := [.ref 209, .ref 222, .int (v2 + nI 1), .int v3, .int v4, .int v5, .int (v6 + nI 1), xU, xU, xU]) ⟨Or.inr rfl, Or.inr rfl, Or.inr rfl, Or.inr rfl, Or.inr rfl, Or.inr rfl, Or.inr rfl, Or.inl rfl, Or.inl rfl, Or.inl rfl, trivial⟩ k
    · replace k := k.2 c
      refine xw_aload_n dX10_wordsIn_104 rfl rfl ?_
      refine xw_iload dX10_wordsIn_105 rfl ?_
      obtain ⟨k0, k⟩ := k
      refine yw_iaload (v := I 222 v9.toNatClampNeg) dX10_wordsIn_107 (la_222 hW) k0 rfl ?_
      refine xw_iload dX10_wordsIn_108 rfl ?_
      refine xw_iceq (tgt := 117) dX10_wordsIn_110 (by decide) (fun c => ?_) (fun c => ?_)
      · replace k := k.1 c
        refine xw_iconst (v := nI 0) dX10_wordsIn_117 rfl ?_
        refine yw_istore (lv' := [.ref 209, .ref 222, .int v2, .int v3, .int v4, .int v5, .int v6, .int v7, .int (nI 0), .int v9]) dX10_wordsIn_118 rfl rfl rfl ?_
        refine yw_iinc (lv' := [.ref 209, .ref 222, .int v2, .int v3, .int v4, .int v5, .int v6, .int v7, .int (nI 0), .int (v9 + nI 1)]) (v := nI 1) dX10_wordsIn_120 rfl rfl rfl rfl rfl ?_
        refine xw_goto (tgt := 93) dX10_wordsIn_123 (by decide) ?_
        exact k
      · replace k := k.2 c
        refine xw_iconst (v := nI 1) dX10_wordsIn_113 rfl ?_
        refine xw_goto (tgt := 118) dX10_wordsIn_114 (by decide) ?_
        refine yw_istore (lv' := [.ref 209, .ref 222, .int v2, .int v3, .int v4, .int v5, .int v6, .int v7, .int (nI 1), .int v9]) dX10_wordsIn_118 rfl rfl rfl ?_
        refine yw_iinc (lv' := [.ref 209, .ref 222, .int v2, .int v3, .int v4, .int v5, .int v6, .int v7, .int (nI 1), .int (v9 + nI 1)]) (v := nI 1) dX10_wordsIn_120 rfl rfl rfl rfl rfl ?_
        refine xw_goto (tgt := 93) dX10_wordsIn_123 (by decide) ?_
        exact k
theorem eX10_wordsIn {h : xHp} {Q : Int32 → xHp → Prop} (k : Ex mX10_wordsIn 0 [.ref 209, xU, xU, xU, xU, xU, xU, xU, xU, xU] [] h 0 0 (xqI Q)) : CI mX10_wordsIn [.ref 209] h Q := k
theorem bX10_shelvesThere_0 {mc ms : Nat} {Q : Int32 → xHp → Prop} (hW : xLay sh R) 
    (k : Ex mX10_shelvesThere 4 [.ref 209, .int (nI 0), .int (nI 0)] [] (sh, I, R) mc ms (xqI Q)) :
    Ex mX10_shelvesThere 0 [.ref 209, xU, xU] [] (sh, I, R) mc ms (xqI Q) := by
  refine xw_iconst (v := nI 0) dX10_shelvesThere_0 rfl ?_
  refine yw_istore_n (lv' := [.ref 209, .int (nI 0), xU]) dX10_shelvesThere_1 rfl rfl rfl rfl ?_
  refine xw_iconst (v := nI 0) dX10_shelvesThere_2 rfl ?_
  refine yw_istore_n (lv' := [.ref 209, .int (nI 0), .int (nI 0)]) dX10_shelvesThere_3 rfl rfl rfl rfl ?_
  exact k
theorem bX10_shelvesThere_4 {v1 v2 : Int32} {mc ms : Nat} {Q : Int32 → xHp → Prop} (hW : xLay sh R) 
    (k : (((nI 3) ≤ v2 → Q v1 (sh, I, R)) ∧ (¬ (nI 3) ≤ v2 → vp_in v2 3 ∧ ((¬ (I 227 v2.toNatClampNeg) = (-4) → Ex mX10_shelvesThere 4 [.ref 209, .int (v1 + (nI 1)), .int (v2 + nI 1)] [] (sh, I, R) mc ms (xqI Q)) ∧ ((I 227 v2.toNatClampNeg) = (-4) → Ex mX10_shelvesThere 4 [.ref 209, .int (v1 + (nI 0)), .int (v2 + nI 1)] [] (sh, I, R) mc ms (xqI Q)))))) :
    Ex mX10_shelvesThere 4 [.ref 209, .int v1, .int v2] [] (sh, I, R) mc ms (xqI Q) := by
  refine xw_iload_n dX10_shelvesThere_4 rfl rfl ?_
  refine xw_iconst (v := nI 3) dX10_shelvesThere_5 rfl ?_
  refine xw_icge (tgt := 34) dX10_shelvesThere_6 (by decide) (fun c => ?_) (fun c => ?_)
  · replace k := k.1 c
    refine xw_iload_n dX10_shelvesThere_34 rfl rfl ?_
    exact yw_iret dX10_shelvesThere_35 rfl k
  · replace k := k.2 c
    refine xw_iload_n dX10_shelvesThere_9 rfl rfl ?_
    refine xw_aload_n dX10_shelvesThere_10 rfl rfl ?_
    refine yw_getR (r := 227) dX10_shelvesThere_11 fX10_69 rfl (la_209 hW) (lr_209_38 hW) ?_
    refine xw_iload_n dX10_shelvesThere_14 rfl rfl ?_
    obtain ⟨k0, k⟩ := k
    refine yw_iaload (v := I 227 v2.toNatClampNeg) dX10_shelvesThere_15 (la_227 hW) k0 rfl ?_
    refine xw_bipush (v := (-4)) dX10_shelvesThere_16 (by decide) ?_
    refine xw_icne (tgt := 25) dX10_shelvesThere_18 (by decide) (fun c => ?_) (fun c => ?_)
    · replace k := k.1 c
      refine xw_iconst (v := nI 1) dX10_shelvesThere_25 rfl ?_
      refine xw_iadd dX10_shelvesThere_26 ?_
      refine yw_istore_n (lv' := [.ref 209, .int (v1 + (nI 1)), .int v2]) dX10_shelvesThere_27 rfl rfl rfl rfl ?_
      refine yw_iinc (lv' := [.ref 209, .int (v1 + (nI 1)), .int (v2 + nI 1)]) (v := nI 1) dX10_shelvesThere_28 rfl rfl rfl rfl rfl ?_
      refine xw_goto (tgt := 4) dX10_shelvesThere_31 (by decide) ?_
      exact k
    · replace k := k.2 c
      refine xw_iconst (v := nI 0) dX10_shelvesThere_21 rfl ?_
      refine xw_goto (tgt := 26) dX10_shelvesThere_22 (by decide) ?_
      refine xw_iadd dX10_shelvesThere_26 ?_
      refine yw_istore_n (lv' := [.ref 209, .int (v1 + (nI 0)), .int v2]) dX10_shelvesThere_27 rfl rfl rfl rfl ?_
      refine yw_iinc (lv' := [.ref 209, .int (v1 + (nI 0)), .int (v2 + nI 1)]) (v := nI 1) dX10_shelvesThere_28 rfl rfl rfl rfl rfl ?_
      refine xw_goto (tgt := 4) dX10_shelvesThere_31 (by decide) ?_
      exact k
theorem eX10_shelvesThere {h : xHp} {Q : Int32 → xHp → Prop} (k : Ex mX10_shelvesThere 0 [.ref 209, xU, xU] [] h 0 0 (xqI Q)) : CI mX10_shelvesThere [.ref 209] h Q := k
theorem bX10_rule_0 {v1 : Int32} {mc ms : Nat} {Q : Int32 → xHp → Prop} (hW : xLay sh R) 
    (k : (((v1.toInt < 0 ∨ 12 < v1.toInt) → Ex mX10_rule 182 [xU, xU] [] (sh, I, R) mc ms (xqI Q)) ∧ (v1.toInt = 0 → Ex mX10_rule 68 [.ref 209, xU] [] (sh, I, R) mc ms (xqI Q)) ∧ (v1.toInt = 1 → Ex mX10_rule 73 [.ref 209, xU] [] (sh, I, R) mc ms (xqI Q)) ∧ (v1.toInt = 2 → Ex mX10_rule 78 [.ref 209, xU] [] (sh, I, R) mc ms (xqI Q)) ∧ (v1.toInt = 3 → Ex mX10_rule 84 [.ref 209, xU] [] (sh, I, R) mc ms (xqI Q)) ∧ (v1.toInt = 4 → Ex mX10_rule 102 [.ref 209, xU] [] (sh, I, R) mc ms (xqI Q)) ∧ (v1.toInt = 5 → Ex mX10_rule 107 [.ref 209, xU] [] (sh, I, R) mc ms (xqI Q)) ∧ (v1.toInt = 6 → Ex mX10_rule 112 [.ref 209, xU] [] (sh, I, R) mc ms (xqI Q)) ∧ (v1.toInt = 7 → Ex mX10_rule 117 [.ref 209, xU] [] (sh, I, R) mc ms (xqI Q)) ∧ (v1.toInt = 8 → Ex mX10_rule 122 [.ref 209, xU] [] (sh, I, R) mc ms (xqI Q)) ∧ (v1.toInt = 9 → Ex mX10_rule 137 [.ref 209, xU] [] (sh, I, R) mc ms (xqI Q)) ∧ (v1.toInt = 10 → Ex mX10_rule 142 [.ref 209, xU] [] (sh, I, R) mc ms (xqI Q)) ∧ (v1.toInt = 11 → Ex mX10_rule 147 [.ref 209, xU] [] (sh, I, R) mc ms (xqI Q)) ∧ (v1.toInt = 12 → Ex mX10_rule 177 [.ref 209, xU] [] (sh, I, R) mc ms (xqI Q)))) :
    Ex mX10_rule 0 [.ref 209, .int v1] [] (sh, I, R) mc ms (xqI Q) := by
  refine xw_iload_n dX10_rule_0 rfl rfl ?_
  by_cases c : v1.toInt < 0 ∨ 12 < v1.toInt
  · replace k := k.1 c
    refine xw_tableOut (tgt := 182) dX10_rule_1 c (by decide) ?_
    exact yw_sub (lv' := [xU, xU]) ⟨Or.inl rfl, Or.inl rfl, trivial⟩ k
  · replace k := k.2
    have c1 : ¬ v1.toInt < 0 := fun q => c (Or.inl q)
    have c2 : ¬ 12 < v1.toInt := fun q => c (Or.inr q)
    have cs : v1.toInt = 0 ∨ v1.toInt = 1 ∨ v1.toInt = 2 ∨ v1.toInt = 3 ∨ v1.toInt = 4 ∨ v1.toInt = 5 ∨ v1.toInt = 6 ∨ v1.toInt = 7 ∨ v1.toInt = 8 ∨ v1.toInt = 9 ∨ v1.toInt = 10 ∨ v1.toInt = 11 ∨ v1.toInt = 12 := by omega
    rcases cs with cs | cs | cs | cs | cs | cs | cs | cs | cs | cs | cs | cs | cs
    · replace k := k.1 cs
      refine xw_tableIn (tgt := 68) (off := 67) dX10_rule_1 c1 c2 (by rw [cs]; rfl) (by decide) ?_
      exact yw_sub (lv' := [.ref 209, xU]) ⟨Or.inr rfl, Or.inl rfl, trivial⟩ k
    · replace k := k.2.1 cs
      refine xw_tableIn (tgt := 73) (off := 72) dX10_rule_1 c1 c2 (by rw [cs]; rfl) (by decide) ?_
      exact yw_sub (lv' := [.ref 209, xU]) ⟨Or.inr rfl, Or.inl rfl, trivial⟩ k
    · replace k := k.2.2.1 cs
      refine xw_tableIn (tgt := 78) (off := 77) dX10_rule_1 c1 c2 (by rw [cs]; rfl) (by decide) ?_
      exact yw_sub (lv' := [.ref 209, xU]) ⟨Or.inr rfl, Or.inl rfl, trivial⟩ k
    · replace k := k.2.2.2.1 cs
      refine xw_tableIn (tgt := 84) (off := 83) dX10_rule_1 c1 c2 (by rw [cs]; rfl) (by decide) ?_
      exact yw_sub (lv' := [.ref 209, xU]) ⟨Or.inr rfl, Or.inl rfl, trivial⟩ k
    · replace k := k.2.2.2.2.1 cs
      refine xw_tableIn (tgt := 102) (off := 101) dX10_rule_1 c1 c2 (by rw [cs]; rfl) (by decide) ?_
      exact yw_sub (lv' := [.ref 209, xU]) ⟨Or.inr rfl, Or.inl rfl, trivial⟩ k
    · replace k := k.2.2.2.2.2.1 cs
      refine xw_tableIn (tgt := 107) (off := 106) dX10_rule_1 c1 c2 (by rw [cs]; rfl) (by decide) ?_
      exact yw_sub (lv' := [.ref 209, xU]) ⟨Or.inr rfl, Or.inl rfl, trivial⟩ k
    · replace k := k.2.2.2.2.2.2.1 cs
      refine xw_tableIn (tgt := 112) (off := 111) dX10_rule_1 c1 c2 (by rw [cs]; rfl) (by decide) ?_
      exact yw_sub (lv' := [.ref 209, xU]) ⟨Or.inr rfl, Or.inl rfl, trivial⟩ k
    · replace k := k.2.2.2.2.2.2.2.1 cs
      refine xw_tableIn (tgt := 117) (off := 116) dX10_rule_1 c1 c2 (by rw [cs]; rfl) (by decide) ?_
      exact yw_sub (lv' := [.ref 209, xU]) ⟨Or.inr rfl, Or.inl rfl, trivial⟩ k
    · replace k := k.2.2.2.2.2.2.2.2.1 cs
      refine xw_tableIn (tgt := 122) (off := 121) dX10_rule_1 c1 c2 (by rw [cs]; rfl) (by decide) ?_
      exact yw_sub (lv' := [.ref 209, xU]) ⟨Or.inr rfl, Or.inl rfl, trivial⟩ k
    · replace k := k.2.2.2.2.2.2.2.2.2.1 cs
      refine xw_tableIn (tgt := 137) (off := 136) dX10_rule_1 c1 c2 (by rw [cs]; rfl) (by decide) ?_
      exact yw_sub (lv' := [.ref 209, xU]) ⟨Or.inr rfl, Or.inl rfl, trivial⟩ k
    · replace k := k.2.2.2.2.2.2.2.2.2.2.1 cs
      refine xw_tableIn (tgt := 142) (off := 141) dX10_rule_1 c1 c2 (by rw [cs]; rfl) (by decide) ?_
      exact yw_sub (lv' := [.ref 209, xU]) ⟨Or.inr rfl, Or.inl rfl, trivial⟩ k
    · replace k := k.2.2.2.2.2.2.2.2.2.2.2.1 cs
      refine xw_tableIn (tgt := 147) (off := 146) dX10_rule_1 c1 c2 (by rw [cs]; rfl) (by decide) ?_
      exact yw_sub (lv' := [.ref 209, xU]) ⟨Or.inr rfl, Or.inl rfl, trivial⟩ k
    · replace k := k.2.2.2.2.2.2.2.2.2.2.2.2 cs
      refine xw_tableIn (tgt := 177) (off := 176) dX10_rule_1 c1 c2 (by rw [cs]; rfl) (by decide) ?_
      exact yw_sub (lv' := [.ref 209, xU]) ⟨Or.inr rfl, Or.inl rfl, trivial⟩ k
theorem bX10_rule_182 {mc ms : Nat} {Q : Int32 → xHp → Prop} (hW : xLay sh R) 
    (k : Q (-1) (sh, I, R)) :
    Ex mX10_rule 182 [xU, xU] [] (sh, I, R) mc ms (xqI Q) := by
  refine xw_iconst (v := (-1)) dX10_rule_182 rfl ?_
  exact yw_iret dX10_rule_183 rfl k
theorem bX10_rule_68 {mc ms : Nat} {Q : Int32 → xHp → Prop} (hW : xLay sh R) 
    (k : Q (I 209 1) (sh, I, R)) :
    Ex mX10_rule 68 [.ref 209, xU] [] (sh, I, R) mc ms (xqI Q) := by
  refine xw_aload_n dX10_rule_68 rfl rfl ?_
  refine yw_getI (v := I 209 1) dX10_rule_69 fX10_13 rfl (la_209 hW) rfl ?_
  exact yw_iret dX10_rule_72 rfl k
theorem bX10_rule_73 {mc ms : Nat} {Q : Int32 → xHp → Prop} (hW : xLay sh R) 
    (k : Q (I 209 2) (sh, I, R)) :
    Ex mX10_rule 73 [.ref 209, xU] [] (sh, I, R) mc ms (xqI Q) := by
  refine xw_aload_n dX10_rule_73 rfl rfl ?_
  refine yw_getI (v := I 209 2) dX10_rule_74 fX10_17 rfl (la_209 hW) rfl ?_
  exact yw_iret dX10_rule_77 rfl k
theorem bX10_rule_78 {mc ms : Nat} {Q : Int32 → xHp → Prop} (hW : xLay sh R) 
    (k : CI mX10_many [.ref 209, .int (nI 0)] (sh, I, R) (fun w h1 => Ex mX10_rule 83 [xU, xU] (.int w :: []) h1 mc ms (xqI Q))) :
    Ex mX10_rule 78 [.ref 209, xU] [] (sh, I, R) mc ms (xqI Q) := by
  refine xw_aload_n dX10_rule_78 rfl rfl ?_
  refine xw_iconst (v := nI 0) dX10_rule_79 rfl ?_
  refine yw_sub (lv' := [xU, xU]) ⟨Or.inl rfl, Or.inl rfl, trivial⟩ ?_
  exact yw_cV (As := [.int (nI 0)]) (b := 209) (st := []) dX10_rule_80 lX10_95 kiX10_many kvX10_many rfl rfl rfl (la_209 hW) rfl (Nat.le_of_ble_eq_true rfl) rfl (xk_I k)
theorem bX10_rule_83 {s0 : Int32} {mc ms : Nat} {Q : Int32 → xHp → Prop} (hW : xLay sh R) 
    (k : Q s0 (sh, I, R)) :
    Ex mX10_rule 83 [xU, xU] [.int s0] (sh, I, R) mc ms (xqI Q) := by
  exact yw_iret dX10_rule_83 rfl k
theorem bX10_rule_84 {mc ms : Nat} {Q : Int32 → xHp → Prop} (hW : xLay sh R) 
    (k : (((I 209 3) = 0 → Q (-4) (sh, I, R)) ∧ (¬ (I 209 3) = 0 → CI mX10_many [.ref 209, .int (nI 1)] (sh, I, R) (fun w h1 => Ex mX10_rule 96 [xU, xU] (.int w :: []) h1 mc ms (xqI Q))))) :
    Ex mX10_rule 84 [.ref 209, xU] [] (sh, I, R) mc ms (xqI Q) := by
  refine xw_aload_n dX10_rule_84 rfl rfl ?_
  refine yw_getI (v := I 209 3) dX10_rule_85 fX10_135 rfl (la_209 hW) rfl ?_
  refine xw_ifeq (tgt := 99) dX10_rule_88 (by decide) (fun c => ?_) (fun c => ?_)
  · replace k := k.1 c
    refine xw_bipush (v := (-4)) dX10_rule_99 (by decide) ?_
    exact yw_iret dX10_rule_101 rfl k
  · replace k := k.2 c
    refine xw_aload_n dX10_rule_91 rfl rfl ?_
    refine xw_iconst (v := nI 1) dX10_rule_92 rfl ?_
    refine yw_sub (lv' := [xU, xU]) ⟨Or.inl rfl, Or.inl rfl, trivial⟩ ?_
    exact yw_cV (As := [.int (nI 1)]) (b := 209) (st := []) dX10_rule_93 lX10_95 kiX10_many kvX10_many rfl rfl rfl (la_209 hW) rfl (Nat.le_of_ble_eq_true rfl) rfl (xk_I k)
theorem bX10_rule_96 {s0 : Int32} {mc ms : Nat} {Q : Int32 → xHp → Prop} (hW : xLay sh R) 
    (k : Q s0 (sh, I, R)) :
    Ex mX10_rule 96 [xU, xU] [.int s0] (sh, I, R) mc ms (xqI Q) := by
  refine xw_goto (tgt := 101) dX10_rule_96 (by decide) ?_
  exact yw_iret dX10_rule_101 rfl k
theorem bX10_rule_102 {mc ms : Nat} {Q : Int32 → xHp → Prop} (hW : xLay sh R) 
    (k : CI mX10_leastMany [.ref 209] (sh, I, R) (fun w h1 => Ex mX10_rule 106 [xU, xU] (.int w :: []) h1 mc ms (xqI Q))) :
    Ex mX10_rule 102 [.ref 209, xU] [] (sh, I, R) mc ms (xqI Q) := by
  refine xw_aload_n dX10_rule_102 rfl rfl ?_
  refine yw_sub (lv' := [xU, xU]) ⟨Or.inl rfl, Or.inl rfl, trivial⟩ ?_
  exact yw_cV (As := []) (b := 209) (st := []) dX10_rule_103 lX10_276 kiX10_leastMany kvX10_leastMany rfl rfl rfl (la_209 hW) rfl (Nat.le_of_ble_eq_true rfl) rfl (xk_I k)
theorem bX10_rule_106 {s0 : Int32} {mc ms : Nat} {Q : Int32 → xHp → Prop} (hW : xLay sh R) 
    (k : Q s0 (sh, I, R)) :
    Ex mX10_rule 106 [xU, xU] [.int s0] (sh, I, R) mc ms (xqI Q) := by
  exact yw_iret dX10_rule_106 rfl k
theorem bX10_rule_107 {mc ms : Nat} {Q : Int32 → xHp → Prop} (hW : xLay sh R) 
    (k : Q (I 209 10) (sh, I, R)) :
    Ex mX10_rule 107 [.ref 209, xU] [] (sh, I, R) mc ms (xqI Q) := by
  refine xw_aload_n dX10_rule_107 rfl rfl ?_
  refine yw_getI (v := I 209 10) dX10_rule_108 fX10_126 rfl (la_209 hW) rfl ?_
  exact yw_iret dX10_rule_111 rfl k
theorem bX10_rule_112 {mc ms : Nat} {Q : Int32 → xHp → Prop} (hW : xLay sh R) 
    (k : Q (I 209 11) (sh, I, R)) :
    Ex mX10_rule 112 [.ref 209, xU] [] (sh, I, R) mc ms (xqI Q) := by
  refine xw_aload_n dX10_rule_112 rfl rfl ?_
  refine yw_getI (v := I 209 11) dX10_rule_113 fX10_129 rfl (la_209 hW) rfl ?_
  exact yw_iret dX10_rule_116 rfl k
theorem bX10_rule_117 {mc ms : Nat} {Q : Int32 → xHp → Prop} (hW : xLay sh R) 
    (k : Q (I 209 12) (sh, I, R)) :
    Ex mX10_rule 117 [.ref 209, xU] [] (sh, I, R) mc ms (xqI Q) := by
  refine xw_aload_n dX10_rule_117 rfl rfl ?_
  refine yw_getI (v := I 209 12) dX10_rule_118 fX10_132 rfl (la_209 hW) rfl ?_
  exact yw_iret dX10_rule_121 rfl k
theorem bX10_rule_122 {mc ms : Nat} {Q : Int32 → xHp → Prop} (hW : xLay sh R) 
    (k : CI mX10_lacking [.ref 209] (sh, I, R) (fun w h1 => Ex mX10_rule 126 [xU, xU] (.int w :: []) h1 mc ms (xqI Q))) :
    Ex mX10_rule 122 [.ref 209, xU] [] (sh, I, R) mc ms (xqI Q) := by
  refine xw_aload_n dX10_rule_122 rfl rfl ?_
  refine yw_sub (lv' := [xU, xU]) ⟨Or.inl rfl, Or.inl rfl, trivial⟩ ?_
  exact yw_cV (As := []) (b := 209) (st := []) dX10_rule_123 lX10_152 kiX10_lacking kvX10_lacking rfl rfl rfl (la_209 hW) rfl (Nat.le_of_ble_eq_true rfl) rfl (xk_I k)
theorem bX10_rule_126 {s0 : Int32} {mc ms : Nat} {Q : Int32 → xHp → Prop} (hW : xLay sh R) 
    (k : ((¬ s0 = (-4) → Q (nI 0) (sh, I, R)) ∧ (s0 = (-4) → Q (nI 1) (sh, I, R)))) :
    Ex mX10_rule 126 [xU, xU] [.int s0] (sh, I, R) mc ms (xqI Q) := by
  refine xw_bipush (v := (-4)) dX10_rule_126 (by decide) ?_
  refine xw_icne (tgt := 135) dX10_rule_128 (by decide) (fun c => ?_) (fun c => ?_)
  · replace k := k.1 c
    refine xw_iconst (v := nI 0) dX10_rule_135 rfl ?_
    exact yw_iret dX10_rule_136 rfl k
  · replace k := k.2 c
    refine xw_iconst (v := nI 1) dX10_rule_131 rfl ?_
    refine xw_goto (tgt := 136) dX10_rule_132 (by decide) ?_
    exact yw_iret dX10_rule_136 rfl k
theorem bX10_rule_137 {mc ms : Nat} {Q : Int32 → xHp → Prop} (hW : xLay sh R) 
    (k : CI mX10_wordsIn [.ref 209] (sh, I, R) (fun w h1 => Ex mX10_rule 141 [xU, xU] (.int w :: []) h1 mc ms (xqI Q))) :
    Ex mX10_rule 137 [.ref 209, xU] [] (sh, I, R) mc ms (xqI Q) := by
  refine xw_aload_n dX10_rule_137 rfl rfl ?_
  refine yw_sub (lv' := [xU, xU]) ⟨Or.inl rfl, Or.inl rfl, trivial⟩ ?_
  exact yw_cV (As := []) (b := 209) (st := []) dX10_rule_138 lX10_279 kiX10_wordsIn kvX10_wordsIn rfl rfl rfl (la_209 hW) rfl (Nat.le_of_ble_eq_true rfl) rfl (xk_I k)
theorem bX10_rule_141 {s0 : Int32} {mc ms : Nat} {Q : Int32 → xHp → Prop} (hW : xLay sh R) 
    (k : Q s0 (sh, I, R)) :
    Ex mX10_rule 141 [xU, xU] [.int s0] (sh, I, R) mc ms (xqI Q) := by
  exact yw_iret dX10_rule_141 rfl k
theorem bX10_rule_142 {mc ms : Nat} {Q : Int32 → xHp → Prop} (hW : xLay sh R) 
    (k : Q (I 209 16) (sh, I, R)) :
    Ex mX10_rule 142 [.ref 209, xU] [] (sh, I, R) mc ms (xqI Q) := by
  refine xw_aload_n dX10_rule_142 rfl rfl ?_
  refine yw_getI (v := I 209 16) dX10_rule_143 fX10_185 rfl (la_209 hW) rfl ?_
  exact yw_iret dX10_rule_146 rfl k
theorem bX10_rule_147 {mc ms : Nat} {Q : Int32 → xHp → Prop} (hW : xLay sh R) 
    (k : vp_in (nI 0) 2 ∧ (((I 225 ((nI 0).toNatClampNeg)) = 0 → vp_in (nI 1) 2 ∧ (((I 225 ((nI 1).toNatClampNeg)) = 0 → Q ((nI 0) + (nI 0)) (sh, I, R)) ∧ (¬ (I 225 ((nI 1).toNatClampNeg)) = 0 → Q ((nI 0) + (nI 1)) (sh, I, R)))) ∧ (¬ (I 225 ((nI 0).toNatClampNeg)) = 0 → vp_in (nI 1) 2 ∧ (((I 225 ((nI 1).toNatClampNeg)) = 0 → Q ((nI 1) + (nI 0)) (sh, I, R)) ∧ (¬ (I 225 ((nI 1).toNatClampNeg)) = 0 → Q ((nI 1) + (nI 1)) (sh, I, R)))))) :
    Ex mX10_rule 147 [.ref 209, xU] [] (sh, I, R) mc ms (xqI Q) := by
  refine xw_aload_n dX10_rule_147 rfl rfl ?_
  refine yw_getR (r := 225) dX10_rule_148 fX10_63 rfl (la_209 hW) (lr_209_36 hW) ?_
  refine xw_iconst (v := nI 0) dX10_rule_151 rfl ?_
  obtain ⟨k0, k⟩ := k
  refine yw_zaload (v := I 225 ((nI 0).toNatClampNeg)) dX10_rule_152 (la_225 hW) k0 rfl ?_
  refine xw_ifeq (tgt := 160) dX10_rule_153 (by decide) (fun c => ?_) (fun c => ?_)
  · replace k := k.1 c
    refine xw_iconst (v := nI 0) dX10_rule_160 rfl ?_
    refine xw_aload_n dX10_rule_161 rfl rfl ?_
    refine yw_getR (r := 225) dX10_rule_162 fX10_63 rfl (la_209 hW) (lr_209_36 hW) ?_
    refine xw_iconst (v := nI 1) dX10_rule_165 rfl ?_
    obtain ⟨k0, k⟩ := k
    refine yw_zaload (v := I 225 ((nI 1).toNatClampNeg)) dX10_rule_166 (la_225 hW) k0 rfl ?_
    refine xw_ifeq (tgt := 174) dX10_rule_167 (by decide) (fun c => ?_) (fun c => ?_)
    · replace k := k.1 c
      refine xw_iconst (v := nI 0) dX10_rule_174 rfl ?_
      refine xw_iadd dX10_rule_175 ?_
      exact yw_iret dX10_rule_176 rfl k
    · replace k := k.2 c
      refine xw_iconst (v := nI 1) dX10_rule_170 rfl ?_
      refine xw_goto (tgt := 175) dX10_rule_171 (by decide) ?_
      refine xw_iadd dX10_rule_175 ?_
      exact yw_iret dX10_rule_176 rfl k
  · replace k := k.2 c
    refine xw_iconst (v := nI 1) dX10_rule_156 rfl ?_
    refine xw_goto (tgt := 161) dX10_rule_157 (by decide) ?_
    refine xw_aload_n dX10_rule_161 rfl rfl ?_
    refine yw_getR (r := 225) dX10_rule_162 fX10_63 rfl (la_209 hW) (lr_209_36 hW) ?_
    refine xw_iconst (v := nI 1) dX10_rule_165 rfl ?_
    obtain ⟨k0, k⟩ := k
    refine yw_zaload (v := I 225 ((nI 1).toNatClampNeg)) dX10_rule_166 (la_225 hW) k0 rfl ?_
    refine xw_ifeq (tgt := 174) dX10_rule_167 (by decide) (fun c => ?_) (fun c => ?_)
    · replace k := k.1 c
      refine xw_iconst (v := nI 0) dX10_rule_174 rfl ?_
      refine xw_iadd dX10_rule_175 ?_
      exact yw_iret dX10_rule_176 rfl k
    · replace k := k.2 c
      refine xw_iconst (v := nI 1) dX10_rule_170 rfl ?_
      refine xw_goto (tgt := 175) dX10_rule_171 (by decide) ?_
      refine xw_iadd dX10_rule_175 ?_
      exact yw_iret dX10_rule_176 rfl k
theorem bX10_rule_177 {mc ms : Nat} {Q : Int32 → xHp → Prop} (hW : xLay sh R) 
    (k : CI mX10_shelvesThere [.ref 209] (sh, I, R) (fun w h1 => Ex mX10_rule 181 [xU, xU] (.int w :: []) h1 mc ms (xqI Q))) :
    Ex mX10_rule 177 [.ref 209, xU] [] (sh, I, R) mc ms (xqI Q) := by
  refine xw_aload_n dX10_rule_177 rfl rfl ?_
  refine yw_sub (lv' := [xU, xU]) ⟨Or.inl rfl, Or.inl rfl, trivial⟩ ?_
  exact yw_cV (As := []) (b := 209) (st := []) dX10_rule_178 lX10_282 kiX10_shelvesThere kvX10_shelvesThere rfl rfl rfl (la_209 hW) rfl (Nat.le_of_ble_eq_true rfl) rfl (xk_I k)
theorem bX10_rule_181 {s0 : Int32} {mc ms : Nat} {Q : Int32 → xHp → Prop} (hW : xLay sh R) 
    (k : Q s0 (sh, I, R)) :
    Ex mX10_rule 181 [xU, xU] [.int s0] (sh, I, R) mc ms (xqI Q) := by
  exact yw_iret dX10_rule_181 rfl k
theorem eX10_rule {v1 : Int32} {h : xHp} {Q : Int32 → xHp → Prop} (k : Ex mX10_rule 0 [.ref 209, .int v1] [] h 0 0 (xqI Q)) : CI mX10_rule [.ref 209, .int v1] h Q := k
theorem bX10_lessens_0 {mc ms : Nat} {Q : xHp → Prop} (hW : xLay sh R) 
    (k : CV mX10_bases [.ref 209, .int (nI 0)] (sh, I, R) (fun h1 => Ex mX10_lessens 5 [.ref 209, xU, xU, xU] [] h1 mc ms (xqV Q))) :
    Ex mX10_lessens 0 [.ref 209, xU, xU, xU] [] (sh, I, R) mc ms (xqV Q) := by
  refine xw_aload_n dX10_lessens_0 rfl rfl ?_
  refine xw_iconst (v := nI 0) dX10_lessens_1 rfl ?_
  exact yw_cV (As := [.int (nI 0)]) (b := 209) (st := []) dX10_lessens_2 lX10_176 kiX10_bases kvX10_bases rfl rfl rfl (la_209 hW) rfl (Nat.le_of_ble_eq_true rfl) rfl (xk_V k)
theorem bX10_lessens_5 {mc ms : Nat} {Q : xHp → Prop} (hW : xLay sh R) 
    (k : CV mX10_empties [.ref 209, .int (nI 2)] (sh, I, R) (fun h1 => Ex mX10_lessens 10 [.ref 209, xU, xU, xU] [] h1 mc ms (xqV Q))) :
    Ex mX10_lessens 5 [.ref 209, xU, xU, xU] [] (sh, I, R) mc ms (xqV Q) := by
  refine xw_aload_n dX10_lessens_5 rfl rfl ?_
  refine xw_iconst (v := nI 2) dX10_lessens_6 rfl ?_
  exact yw_cV (As := [.int (nI 2)]) (b := 209) (st := []) dX10_lessens_7 lX10_156 kiX10_empties kvX10_empties rfl rfl rfl (la_209 hW) rfl (Nat.le_of_ble_eq_true rfl) rfl (xk_V k)
theorem bX10_lessens_10 {mc ms : Nat} {Q : xHp → Prop} (hW : xLay sh R) 
    (k : CI mX10_at [.ref 209, .int (nI 2), .int (nI 0)] (sh, I, R) (fun w h1 => Ex mX10_lessens 20 [.ref 209, xU, xU, xU] (.int w :: [.ref 210]) h1 mc ms (xqV Q))) :
    Ex mX10_lessens 10 [.ref 209, xU, xU, xU] [] (sh, I, R) mc ms (xqV Q) := by
  refine xw_aload_n dX10_lessens_10 rfl rfl ?_
  refine yw_getR (r := 210) dX10_lessens_11 fX10_7 rfl (la_209 hW) (lr_209_0 hW) ?_
  refine xw_aload_n dX10_lessens_14 rfl rfl ?_
  refine xw_iconst (v := nI 2) dX10_lessens_15 rfl ?_
  refine xw_iconst (v := nI 0) dX10_lessens_16 rfl ?_
  exact yw_cV (As := [.int (nI 2), .int (nI 0)]) (b := 209) (st := [.ref 210]) dX10_lessens_17 lX10_81 kiX10_at kvX10_at rfl rfl rfl (la_209 hW) rfl (Nat.le_of_ble_eq_true rfl) rfl (xk_I k)
theorem bX10_lessens_20 {s1 : Int32} {mc ms : Nat} {Q : xHp → Prop} (hW : xLay sh R) 
    (k : vp_in s1 1881 ∧ Ex mX10_lessens 27 [.ref 209, .int (nI 0), xU, xU] [] (sh, (xi I 210 s1.toNatClampNeg (I 209 14)), R) mc ms (xqV Q)) :
    Ex mX10_lessens 20 [.ref 209, xU, xU, xU] [.int s1, .ref 210] (sh, I, R) mc ms (xqV Q) := by
  refine xw_aload_n dX10_lessens_20 rfl rfl ?_
  refine yw_getI (v := I 209 14) dX10_lessens_21 fX10_170 rfl (la_209 hW) rfl ?_
  obtain ⟨k0, k⟩ := k
  refine yw_iastore dX10_lessens_24 (la_210 hW) k0 ?_
  refine xw_iconst (v := nI 0) dX10_lessens_25 rfl ?_
  refine yw_istore_n (lv' := [.ref 209, .int (nI 0), xU, xU]) dX10_lessens_26 rfl rfl rfl rfl ?_
  exact k
theorem bX10_lessens_27 {v1 : Int32} {mc ms : Nat} {Q : xHp → Prop} (hW : xLay sh R) 
    (k : (((I 209 14) ≤ v1 → Q (sh, I, R)) ∧ (¬ (I 209 14) ≤ v1 → CI mX10_at [.ref 209, .int (nI 2), .int ((nI 1) + v1)] (sh, I, R) (fun w h1 => Ex mX10_lessens 47 [.ref 209, .int v1, xU, xU] (.int w :: [.ref 210]) h1 mc ms (xqV Q))))) :
    Ex mX10_lessens 27 [.ref 209, .int v1, xU, xU] [] (sh, I, R) mc ms (xqV Q) := by
  refine xw_iload_n dX10_lessens_27 rfl rfl ?_
  refine xw_aload_n dX10_lessens_28 rfl rfl ?_
  refine yw_getI (v := I 209 14) dX10_lessens_29 fX10_170 rfl (la_209 hW) rfl ?_
  refine xw_icge (tgt := 153) dX10_lessens_32 (by decide) (fun c => ?_) (fun c => ?_)
  · replace k := k.1 c
    exact yw_vret dX10_lessens_153 rfl k
  · replace k := k.2 c
    refine xw_aload_n dX10_lessens_35 rfl rfl ?_
    refine yw_getR (r := 210) dX10_lessens_36 fX10_7 rfl (la_209 hW) (lr_209_0 hW) ?_
    refine xw_aload_n dX10_lessens_39 rfl rfl ?_
    refine xw_iconst (v := nI 2) dX10_lessens_40 rfl ?_
    refine xw_iconst (v := nI 1) dX10_lessens_41 rfl ?_
    refine xw_iload_n dX10_lessens_42 rfl rfl ?_
    refine xw_iadd dX10_lessens_43 ?_
    exact yw_cV (As := [.int (nI 2), .int ((nI 1) + v1)]) (b := 209) (st := [.ref 210]) dX10_lessens_44 lX10_81 kiX10_at kvX10_at rfl rfl rfl (la_209 hW) rfl (Nat.le_of_ble_eq_true rfl) rfl (xk_I k)
theorem bX10_lessens_47 {v1 s1 : Int32} {mc ms : Nat} {Q : xHp → Prop} (hW : xLay sh R) 
    (k : ((¬ v1 = 0 → vp_in s1 1881 ∧ CI mX10_at [.ref 209, .int (nI 2), .int ((nI 5) + v1)] (sh, (xi I 210 s1.toNatClampNeg (nI 0)), R) (fun w h1 => Ex mX10_lessens 69 [.ref 209, .int v1, xU, xU] (.int w :: [.ref 210]) h1 mc ms (xqV Q))) ∧ (v1 = 0 → vp_in s1 1881 ∧ CI mX10_at [.ref 209, .int (nI 2), .int ((nI 5) + v1)] (sh, (xi I 210 s1.toNatClampNeg (nI 1)), R) (fun w h1 => Ex mX10_lessens 69 [.ref 209, .int v1, xU, xU] (.int w :: [.ref 210]) h1 mc ms (xqV Q))))) :
    Ex mX10_lessens 47 [.ref 209, .int v1, xU, xU] [.int s1, .ref 210] (sh, I, R) mc ms (xqV Q) := by
  refine xw_iload_n dX10_lessens_47 rfl rfl ?_
  refine xw_ifne (tgt := 55) dX10_lessens_48 (by decide) (fun c => ?_) (fun c => ?_)
  · replace k := k.1 c
    refine xw_iconst (v := nI 0) dX10_lessens_55 rfl ?_
    obtain ⟨k0, k⟩ := k
    refine yw_iastore dX10_lessens_56 (la_210 hW) k0 ?_
    refine xw_aload_n dX10_lessens_57 rfl rfl ?_
    refine yw_getR (r := 210) dX10_lessens_58 fX10_7 rfl (la_209 hW) (lr_209_0 hW) ?_
    refine xw_aload_n dX10_lessens_61 rfl rfl ?_
    refine xw_iconst (v := nI 2) dX10_lessens_62 rfl ?_
    refine xw_iconst (v := nI 5) dX10_lessens_63 rfl ?_
    refine xw_iload_n dX10_lessens_64 rfl rfl ?_
    refine xw_iadd dX10_lessens_65 ?_
    exact yw_cV (As := [.int (nI 2), .int ((nI 5) + v1)]) (b := 209) (st := [.ref 210]) dX10_lessens_66 lX10_81 kiX10_at kvX10_at rfl rfl rfl (la_209 hW) rfl (Nat.le_of_ble_eq_true rfl) rfl (xk_I k)
  · replace k := k.2 c
    refine xw_iconst (v := nI 1) dX10_lessens_51 rfl ?_
    refine xw_goto (tgt := 56) dX10_lessens_52 (by decide) ?_
    obtain ⟨k0, k⟩ := k
    refine yw_iastore dX10_lessens_56 (la_210 hW) k0 ?_
    refine xw_aload_n dX10_lessens_57 rfl rfl ?_
    refine yw_getR (r := 210) dX10_lessens_58 fX10_7 rfl (la_209 hW) (lr_209_0 hW) ?_
    refine xw_aload_n dX10_lessens_61 rfl rfl ?_
    refine xw_iconst (v := nI 2) dX10_lessens_62 rfl ?_
    refine xw_iconst (v := nI 5) dX10_lessens_63 rfl ?_
    refine xw_iload_n dX10_lessens_64 rfl rfl ?_
    refine xw_iadd dX10_lessens_65 ?_
    exact yw_cV (As := [.int (nI 2), .int ((nI 5) + v1)]) (b := 209) (st := [.ref 210]) dX10_lessens_66 lX10_81 kiX10_at kvX10_at rfl rfl rfl (la_209 hW) rfl (Nat.le_of_ble_eq_true rfl) rfl (xk_I k)
theorem bX10_lessens_69 {v1 s1 : Int32} {mc ms : Nat} {Q : xHp → Prop} (hW : xLay sh R) 
    (k : vp_in v1 5 ∧ CI mX10_valueOf [.ref 209, .int (nI 0), .int (I 217 v1.toNatClampNeg)] (sh, I, R) (fun w h1 => Ex mX10_lessens 80 [.ref 209, .int v1, xU, xU] (.int w :: [.int s1, .ref 210]) h1 mc ms (xqV Q))) :
    Ex mX10_lessens 69 [.ref 209, .int v1, xU, xU] [.int s1, .ref 210] (sh, I, R) mc ms (xqV Q) := by
  refine xw_aload_n dX10_lessens_69 rfl rfl ?_
  refine xw_iconst (v := nI 0) dX10_lessens_70 rfl ?_
  refine xw_aload_n dX10_lessens_71 rfl rfl ?_
  refine yw_getR (r := 217) dX10_lessens_72 fX10_38 rfl (la_209 hW) (lr_209_13 hW) ?_
  refine xw_iload_n dX10_lessens_75 rfl rfl ?_
  obtain ⟨k0, k⟩ := k
  refine yw_iaload (v := I 217 v1.toNatClampNeg) dX10_lessens_76 (la_217 hW) k0 rfl ?_
  exact yw_cV (As := [.int (nI 0), .int (I 217 v1.toNatClampNeg)]) (b := 209) (st := [.int s1, .ref 210]) dX10_lessens_77 lX10_112 kiX10_valueOf kvX10_valueOf rfl rfl rfl (la_209 hW) rfl (Nat.le_of_ble_eq_true rfl) rfl (xk_I k)
theorem bX10_lessens_80 {v1 s2 s1 : Int32} {mc ms : Nat} {Q : xHp → Prop} (hW : xLay sh R) 
    (k : vp_in s1 1881 ∧ Ex mX10_lessens 83 [.ref 209, .int v1, .int (nI 0), xU] [] (sh, (xi I 210 s1.toNatClampNeg s2), R) mc ms (xqV Q)) :
    Ex mX10_lessens 80 [.ref 209, .int v1, xU, xU] [.int s2, .int s1, .ref 210] (sh, I, R) mc ms (xqV Q) := by
  obtain ⟨k0, k⟩ := k
  refine yw_iastore dX10_lessens_80 (la_210 hW) k0 ?_
  refine xw_iconst (v := nI 0) dX10_lessens_81 rfl ?_
  refine yw_istore_n (lv' := [.ref 209, .int v1, .int (nI 0), xU]) dX10_lessens_82 rfl rfl rfl rfl ?_
  exact k
theorem bX10_lessens_83 {v1 v2 : Int32} {mc ms : Nat} {Q : xHp → Prop} (hW : xLay sh R) 
    (k : (((I 209 2) ≤ v2 → Ex mX10_lessens 27 [.ref 209, .int (v1 + nI 1), xU, xU] [] (sh, I, R) mc ms (xqV Q)) ∧ (¬ (I 209 2) ≤ v2 → vp_in v1 5 ∧ CI mX10_oneOf [.int v2] (sh, I, R) (fun w h1 => Ex mX10_lessens 104 [.ref 209, .int v1, .int v2, xU] (.int w :: [.int (I 217 v1.toNatClampNeg), .ref 209, .int (nI 0), .ref 209]) h1 mc ms (xqV Q))))) :
    Ex mX10_lessens 83 [.ref 209, .int v1, .int v2, xU] [] (sh, I, R) mc ms (xqV Q) := by
  refine xw_iload_n dX10_lessens_83 rfl rfl ?_
  refine xw_aload_n dX10_lessens_84 rfl rfl ?_
  refine yw_getI (v := I 209 2) dX10_lessens_85 fX10_17 rfl (la_209 hW) rfl ?_
  refine xw_icge (tgt := 147) dX10_lessens_88 (by decide) (fun c => ?_) (fun c => ?_)
  · replace k := k.1 c
    refine yw_iinc (lv' := [.ref 209, .int (v1 + nI 1), .int v2, xU]) (v := nI 1) dX10_lessens_147 rfl rfl rfl rfl rfl ?_
    refine xw_goto (tgt := 27) dX10_lessens_150 (by decide) ?_
    exact yw_sub (lv' := [.ref 209, .int (v1 + nI 1), xU, xU]) ⟨Or.inr rfl, Or.inr rfl, Or.inl rfl, Or.inl rfl, trivial⟩ k
  · replace k := k.2 c
    refine xw_aload_n dX10_lessens_91 rfl rfl ?_
    refine xw_iconst (v := nI 0) dX10_lessens_92 rfl ?_
    refine xw_aload_n dX10_lessens_93 rfl rfl ?_
    refine xw_aload_n dX10_lessens_94 rfl rfl ?_
    refine yw_getR (r := 217) dX10_lessens_95 fX10_38 rfl (la_209 hW) (lr_209_13 hW) ?_
    refine xw_iload_n dX10_lessens_98 rfl rfl ?_
    obtain ⟨k0, k⟩ := k
    refine yw_iaload (v := I 217 v1.toNatClampNeg) dX10_lessens_99 (la_217 hW) k0 rfl ?_
    refine xw_iload_n dX10_lessens_100 rfl rfl ?_
    exact yw_cS (As := [.int v2]) (st := [.int (I 217 v1.toNatClampNeg), .ref 209, .int (nI 0), .ref 209]) dX10_lessens_101 lX10_149 ksX10_oneOf rfl rfl rfl (Nat.le_of_ble_eq_true rfl) rfl (xk_I k)
theorem bX10_lessens_104 {v1 v2 s4 s3 s1 : Int32} {mc ms : Nat} {Q : xHp → Prop} (hW : xLay sh R) 
    (k : CI mX10_joined [.ref 209, .int s3, .int s4] (sh, I, R) (fun w h1 => Ex mX10_lessens 107 [.ref 209, .int v1, .int v2, xU] (.int w :: [.int s1, .ref 209]) h1 mc ms (xqV Q))) :
    Ex mX10_lessens 104 [.ref 209, .int v1, .int v2, xU] [.int s4, .int s3, .ref 209, .int s1, .ref 209] (sh, I, R) mc ms (xqV Q) := by
  exact yw_cV (As := [.int s3, .int s4]) (b := 209) (st := [.int s1, .ref 209]) dX10_lessens_104 lX10_139 kiX10_joined kvX10_joined rfl rfl rfl (la_209 hW) rfl (Nat.le_of_ble_eq_true rfl) rfl (xk_I k)
theorem bX10_lessens_107 {v1 v2 s2 s1 : Int32} {mc ms : Nat} {Q : xHp → Prop} (hW : xLay sh R) 
    (k : CI mX10_isBased [.ref 209, .int s1, .int s2] (sh, I, R) (fun w h1 => Ex mX10_lessens 110 [.ref 209, .int v1, .int v2, xU] (.int w :: []) h1 mc ms (xqV Q))) :
    Ex mX10_lessens 107 [.ref 209, .int v1, .int v2, xU] [.int s2, .int s1, .ref 209] (sh, I, R) mc ms (xqV Q) := by
  exact yw_cV (As := [.int s1, .int s2]) (b := 209) (st := []) dX10_lessens_107 lX10_173 kiX10_isBased kvX10_isBased rfl rfl rfl (la_209 hW) rfl (Nat.le_of_ble_eq_true rfl) rfl (xk_I k)
theorem bX10_lessens_110 {v1 v2 s0 : Int32} {mc ms : Nat} {Q : xHp → Prop} (hW : xLay sh R) 
    (k : Ex mX10_lessens 113 [.ref 209, .int v1, .int v2, .int (nI 0)] [] (sh, I, R) mc ms (xqV Q)) :
    Ex mX10_lessens 110 [.ref 209, .int v1, .int v2, xU] [.int s0] (sh, I, R) mc ms (xqV Q) := by
  refine xw_pop dX10_lessens_110 rfl ?_
  refine xw_iconst (v := nI 0) dX10_lessens_111 rfl ?_
  refine yw_istore_n (lv' := [.ref 209, .int v1, .int v2, .int (nI 0)]) dX10_lessens_112 rfl rfl rfl rfl ?_
  exact k
theorem bX10_lessens_113 {v1 v2 v3 : Int32} {mc ms : Nat} {Q : xHp → Prop} (hW : xLay sh R) 
    (k : (((I 209 14) ≤ v3 → Ex mX10_lessens 83 [.ref 209, .int v1, .int (v2 + nI 1), xU] [] (sh, I, R) mc ms (xqV Q)) ∧ (¬ (I 209 14) ≤ v3 → vp_in v3 4 ∧ CV mX10_weighs [.ref 209, .int (nI 2), .int v1, .int v2, .int v3, .int (I 214 v3.toNatClampNeg)] (sh, I, R) (fun h1 => Ex mX10_lessens 135 [.ref 209, .int v1, .int v2, .int v3] [] h1 mc ms (xqV Q))))) :
    Ex mX10_lessens 113 [.ref 209, .int v1, .int v2, .int v3] [] (sh, I, R) mc ms (xqV Q) := by
  refine xw_iload_n dX10_lessens_113 rfl rfl ?_
  refine xw_aload_n dX10_lessens_114 rfl rfl ?_
  refine yw_getI (v := I 209 14) dX10_lessens_115 fX10_170 rfl (la_209 hW) rfl ?_
  refine xw_icge (tgt := 141) dX10_lessens_118 (by decide) (fun c => ?_) (fun c => ?_)
  · replace k := k.1 c
    refine yw_iinc (lv' := [.ref 209, .int v1, .int (v2 + nI 1), .int v3]) (v := nI 1) dX10_lessens_141 rfl rfl rfl rfl rfl ?_
    refine xw_goto (tgt := 83) dX10_lessens_144 (by decide) ?_
    exact yw_sub (lv' := [.ref 209, .int v1, .int (v2 + nI 1), xU]) ⟨Or.inr rfl, Or.inr rfl, Or.inr rfl, Or.inl rfl, trivial⟩ k
  · replace k := k.2 c
    refine xw_aload_n dX10_lessens_121 rfl rfl ?_
    refine xw_iconst (v := nI 2) dX10_lessens_122 rfl ?_
    refine xw_iload_n dX10_lessens_123 rfl rfl ?_
    refine xw_iload_n dX10_lessens_124 rfl rfl ?_
    refine xw_iload_n dX10_lessens_125 rfl rfl ?_
    refine xw_aload_n dX10_lessens_126 rfl rfl ?_
    refine yw_getR (r := 214) dX10_lessens_127 fX10_29 rfl (la_209 hW) (lr_209_7 hW) ?_
    refine xw_iload_n dX10_lessens_130 rfl rfl ?_
    obtain ⟨k0, k⟩ := k
    refine yw_iaload (v := I 214 v3.toNatClampNeg) dX10_lessens_131 (la_214 hW) k0 rfl ?_
    exact yw_cV (As := [.int (nI 2), .int v1, .int v2, .int v3, .int (I 214 v3.toNatClampNeg)]) (b := 209) (st := []) dX10_lessens_132 lX10_160 kiX10_weighs kvX10_weighs rfl rfl rfl (la_209 hW) rfl (Nat.le_of_ble_eq_true rfl) rfl (xk_V k)
theorem bX10_lessens_135 {v1 v2 v3 : Int32} {mc ms : Nat} {Q : xHp → Prop} (hW : xLay sh R) 
    (k : Ex mX10_lessens 113 [.ref 209, .int v1, .int v2, .int (v3 + nI 1)] [] (sh, I, R) mc ms (xqV Q)) :
    Ex mX10_lessens 135 [.ref 209, .int v1, .int v2, .int v3] [] (sh, I, R) mc ms (xqV Q) := by
  refine yw_iinc (lv' := [.ref 209, .int v1, .int v2, .int (v3 + nI 1)]) (v := nI 1) dX10_lessens_135 rfl rfl rfl rfl rfl ?_
  refine xw_goto (tgt := 113) dX10_lessens_138 (by decide) ?_
  exact k
theorem eX10_lessens {h : xHp} {Q : xHp → Prop} (k : Ex mX10_lessens 0 [.ref 209, xU, xU, xU] [] h 0 0 (xqV Q)) : CV mX10_lessens [.ref 209] h Q := k
theorem bX10_wrong_0 {v1 : Int32} {mc ms : Nat} {Q : Int32 → xHp → Prop} (hW : xLay sh R) 
    (k : CI mX10_in [.long v1.toInt64, .long (lN 0), .long (2 : Int64)] (sh, I, R) (fun w h1 => Ex mX10_wrong 9 [.ref 209, .int v1] (.int w :: []) h1 mc ms (xqI Q))) :
    Ex mX10_wrong 0 [.ref 209, .int v1] [] (sh, I, R) mc ms (xqI Q) := by
  refine xw_iload_n dX10_wrong_0 rfl rfl ?_
  refine xw_i2l dX10_wrong_1 ?_
  refine xw_lconst (v := lN 0) dX10_wrong_2 rfl ?_
  refine xw_ldcL dX10_wrong_3 cX10_227 ?_
  exact yw_cS (As := [.long v1.toInt64, .long (lN 0), .long (2 : Int64)]) (st := []) dX10_wrong_6 lX10_181 ksX10_in rfl rfl rfl (Nat.le_of_ble_eq_true rfl) rfl (xk_I k)
theorem bX10_wrong_9 {v1 s0 : Int32} {mc ms : Nat} {Q : Int32 → xHp → Prop} (hW : xLay sh R) 
    (k : ((¬ s0 = 0 → ((¬ v1 = (nI 1) → ((¬ v1 = (nI 2) → Q (nI 0) (sh, I, R)) ∧ (v1 = (nI 2) → CV mX10_lessens [.ref 209] (sh, I, R) (fun h1 => Ex mX10_wrong 38 [xU, xU] [] h1 mc ms (xqI Q))))) ∧ (v1 = (nI 1) → ((¬ (I 209 3) = 0 → ((¬ v1 = (nI 2) → Q (nI 0) (sh, I, R)) ∧ (v1 = (nI 2) → CV mX10_lessens [.ref 209] (sh, I, R) (fun h1 => Ex mX10_wrong 38 [xU, xU] [] h1 mc ms (xqI Q))))) ∧ ((I 209 3) = 0 → Q (-2) (sh, I, R)))))) ∧ (s0 = 0 → Q (-1) (sh, I, R)))) :
    Ex mX10_wrong 9 [.ref 209, .int v1] [.int s0] (sh, I, R) mc ms (xqI Q) := by
  refine xw_ifne (tgt := 14) dX10_wrong_9 (by decide) (fun c => ?_) (fun c => ?_)
  · replace k := k.1 c
    refine xw_iload_n dX10_wrong_14 rfl rfl ?_
    refine xw_iconst (v := nI 1) dX10_wrong_15 rfl ?_
    refine xw_icne (tgt := 29) dX10_wrong_16 (by decide) (fun c => ?_) (fun c => ?_)
    · replace k := k.1 c
      refine xw_iload_n dX10_wrong_29 rfl rfl ?_
      refine xw_iconst (v := nI 2) dX10_wrong_30 rfl ?_
      refine xw_icne (tgt := 38) dX10_wrong_31 (by decide) (fun c => ?_) (fun c => ?_)
      · replace k := k.1 c
        refine xw_iconst (v := nI 0) dX10_wrong_38 rfl ?_
        exact yw_iret dX10_wrong_39 rfl k
      · replace k := k.2 c
        refine xw_aload_n dX10_wrong_34 rfl rfl ?_
        refine yw_sub (lv' := [xU, xU]) ⟨Or.inl rfl, Or.inl rfl, trivial⟩ ?_
        exact yw_cV (As := []) (b := 209) (st := []) dX10_wrong_35 lX10_285 kiX10_lessens kvX10_lessens rfl rfl rfl (la_209 hW) rfl (Nat.le_of_ble_eq_true rfl) rfl (xk_V k)
    · replace k := k.2 c
      refine xw_aload_n dX10_wrong_19 rfl rfl ?_
      refine yw_getI (v := I 209 3) dX10_wrong_20 fX10_135 rfl (la_209 hW) rfl ?_
      refine xw_ifne (tgt := 29) dX10_wrong_23 (by decide) (fun c => ?_) (fun c => ?_)
      · replace k := k.1 c
        refine xw_iload_n dX10_wrong_29 rfl rfl ?_
        refine xw_iconst (v := nI 2) dX10_wrong_30 rfl ?_
        refine xw_icne (tgt := 38) dX10_wrong_31 (by decide) (fun c => ?_) (fun c => ?_)
        · replace k := k.1 c
          refine xw_iconst (v := nI 0) dX10_wrong_38 rfl ?_
          exact yw_iret dX10_wrong_39 rfl k
        · replace k := k.2 c
          refine xw_aload_n dX10_wrong_34 rfl rfl ?_
          refine yw_sub (lv' := [xU, xU]) ⟨Or.inl rfl, Or.inl rfl, trivial⟩ ?_
          exact yw_cV (As := []) (b := 209) (st := []) dX10_wrong_35 lX10_285 kiX10_lessens kvX10_lessens rfl rfl rfl (la_209 hW) rfl (Nat.le_of_ble_eq_true rfl) rfl (xk_V k)
      · replace k := k.2 c
        refine xw_bipush (v := (-2)) dX10_wrong_26 (by decide) ?_
        exact yw_iret dX10_wrong_28 rfl k
  · replace k := k.2 c
    refine xw_iconst (v := (-1)) dX10_wrong_12 rfl ?_
    exact yw_iret dX10_wrong_13 rfl k
theorem bX10_wrong_38 {mc ms : Nat} {Q : Int32 → xHp → Prop} (hW : xLay sh R) 
    (k : Q (nI 0) (sh, I, R)) :
    Ex mX10_wrong 38 [xU, xU] [] (sh, I, R) mc ms (xqI Q) := by
  refine xw_iconst (v := nI 0) dX10_wrong_38 rfl ?_
  exact yw_iret dX10_wrong_39 rfl k
theorem eX10_wrong {v1 : Int32} {h : xHp} {Q : Int32 → xHp → Prop} (k : Ex mX10_wrong 0 [.ref 209, .int v1] [] h 0 0 (xqI Q)) : CI mX10_wrong [.ref 209, .int v1] h Q := k
theorem bX10_isState_0 {v1 v2 : Int32} {mc ms : Nat} {Q : Int32 → xHp → Prop} (hW : xLay sh R) 
    (k : CI mX10_many [.ref 209, .int v1] (sh, I, R) (fun w h1 => Ex mX10_isState 8 [xU, xU, xU] (.int w :: [.long (lN 0), .long v2.toInt64]) h1 mc ms (xqI Q))) :
    Ex mX10_isState 0 [.ref 209, .int v1, .int v2] [] (sh, I, R) mc ms (xqI Q) := by
  refine xw_iload_n dX10_isState_0 rfl rfl ?_
  refine xw_i2l dX10_isState_1 ?_
  refine xw_lconst (v := lN 0) dX10_isState_2 rfl ?_
  refine xw_aload_n dX10_isState_3 rfl rfl ?_
  refine xw_iload_n dX10_isState_4 rfl rfl ?_
  refine yw_sub (lv' := [xU, xU, xU]) ⟨Or.inl rfl, Or.inl rfl, Or.inl rfl, trivial⟩ ?_
  exact yw_cV (As := [.int v1]) (b := 209) (st := [.long (lN 0), .long v2.toInt64]) dX10_isState_5 lX10_95 kiX10_many kvX10_many rfl rfl rfl (la_209 hW) rfl (Nat.le_of_ble_eq_true rfl) rfl (xk_I k)
theorem bX10_isState_8 {s2 : Int32} {s1 s0 : Int64} {mc ms : Nat} {Q : Int32 → xHp → Prop} (hW : xLay sh R) 
    (k : CI mX10_in [.long s0, .long s1, .long ((s2 - (nI 1)).toInt64)] (sh, I, R) (fun w h1 => Ex mX10_isState 14 [xU, xU, xU] (.int w :: []) h1 mc ms (xqI Q))) :
    Ex mX10_isState 8 [xU, xU, xU] [.int s2, .long s1, .long s0] (sh, I, R) mc ms (xqI Q) := by
  refine xw_iconst (v := nI 1) dX10_isState_8 rfl ?_
  refine xw_isub dX10_isState_9 ?_
  refine xw_i2l dX10_isState_10 ?_
  exact yw_cS (As := [.long s0, .long s1, .long ((s2 - (nI 1)).toInt64)]) (st := []) dX10_isState_11 lX10_181 ksX10_in rfl rfl rfl (Nat.le_of_ble_eq_true rfl) rfl (xk_I k)
theorem bX10_isState_14 {s0 : Int32} {mc ms : Nat} {Q : Int32 → xHp → Prop} (hW : xLay sh R) 
    (k : (s0 = 0 ∨ s0 = 1) ∧ Q s0 (sh, I, R)) :
    Ex mX10_isState 14 [xU, xU, xU] [.int s0] (sh, I, R) mc ms (xqI Q) := by
  exact yw_zret dX10_isState_14 rfl (narrow_z _ k.1) k.2
theorem eX10_isState {v1 : Int32} {v2 : Int32} {h : xHp} {Q : Int32 → xHp → Prop} (k : Ex mX10_isState 0 [.ref 209, .int v1, .int v2] [] h 0 0 (xqI Q)) : CI mX10_isState [.ref 209, .int v1, .int v2] h Q := k
theorem bX10_start_0 {v1 v2 : Int32} {mc ms : Nat} {Q : Int32 → xHp → Prop} (hW : xLay sh R) 
    (k : CI mX10_wrong [.ref 209, .int v1] (sh, I, R) (fun w h1 => Ex mX10_start 5 [.ref 209, .int v1, .int v2, xU] (.int w :: []) h1 mc ms (xqI Q))) :
    Ex mX10_start 0 [.ref 209, .int v1, .int v2, xU] [] (sh, I, R) mc ms (xqI Q) := by
  refine xw_aload_n dX10_start_0 rfl rfl ?_
  refine xw_iload_n dX10_start_1 rfl rfl ?_
  exact yw_cV (As := [.int v1]) (b := 209) (st := []) dX10_start_2 lX10_288 kiX10_wrong kvX10_wrong rfl rfl rfl (la_209 hW) rfl (Nat.le_of_ble_eq_true rfl) rfl (xk_I k)
theorem bX10_start_5 {v1 v2 s0 : Int32} {mc ms : Nat} {Q : Int32 → xHp → Prop} (hW : xLay sh R) 
    (k : ((s0 = 0 → CI mX10_isState [.ref 209, .int v1, .int v2] (sh, I, R) (fun w h1 => Ex mX10_start 20 [.ref 209, .int v1, .int v2, xU] (.int w :: []) h1 mc ms (xqI Q))) ∧ (¬ s0 = 0 → Q s0 (sh, I, R)))) :
    Ex mX10_start 5 [.ref 209, .int v1, .int v2, xU] [.int s0] (sh, I, R) mc ms (xqI Q) := by
  refine yw_istore_n (lv' := [.ref 209, .int v1, .int v2, .int s0]) dX10_start_5 rfl rfl rfl rfl ?_
  refine xw_iload_n dX10_start_6 rfl rfl ?_
  refine xw_ifeq (tgt := 14) dX10_start_7 (by decide) (fun c => ?_) (fun c => ?_)
  · replace k := k.1 c
    refine xw_aload_n dX10_start_14 rfl rfl ?_
    refine xw_iload_n dX10_start_15 rfl rfl ?_
    refine xw_iload_n dX10_start_16 rfl rfl ?_
    refine yw_sub (lv' := [.ref 209, .int v1, .int v2, xU]) ⟨Or.inr rfl, Or.inr rfl, Or.inr rfl, Or.inl rfl, trivial⟩ ?_
    exact yw_cV (As := [.int v1, .int v2]) (b := 209) (st := []) dX10_start_17 lX10_291 kiX10_isState kvX10_isState rfl rfl rfl (la_209 hW) rfl (Nat.le_of_ble_eq_true rfl) rfl (xk_I k)
  · replace k := k.2 c
    refine xw_iload_n dX10_start_10 rfl rfl ?_
    refine xw_goto (tgt := 40) dX10_start_11 (by decide) ?_
    exact yw_iret dX10_start_40 rfl k
theorem bX10_start_20 {v1 v2 s0 : Int32} {mc ms : Nat} {Q : Int32 → xHp → Prop} (hW : xLay sh R) 
    (k : ((s0 = 0 → Q (-1) (sh, I, R)) ∧ (¬ s0 = 0 → CI mX10_at [.ref 209, .int v1, .int ((nI 1) + v2)] (sh, I, R) (fun w h1 => Ex mX10_start 35 [xU, xU, xU, xU] (.int w :: [.ref 210]) h1 mc ms (xqI Q))))) :
    Ex mX10_start 20 [.ref 209, .int v1, .int v2, xU] [.int s0] (sh, I, R) mc ms (xqI Q) := by
  refine xw_ifeq (tgt := 39) dX10_start_20 (by decide) (fun c => ?_) (fun c => ?_)
  · replace k := k.1 c
    refine xw_iconst (v := (-1)) dX10_start_39 rfl ?_
    exact yw_iret dX10_start_40 rfl k
  · replace k := k.2 c
    refine xw_aload_n dX10_start_23 rfl rfl ?_
    refine yw_getR (r := 210) dX10_start_24 fX10_7 rfl (la_209 hW) (lr_209_0 hW) ?_
    refine xw_aload_n dX10_start_27 rfl rfl ?_
    refine xw_iload_n dX10_start_28 rfl rfl ?_
    refine xw_iconst (v := nI 1) dX10_start_29 rfl ?_
    refine xw_iload_n dX10_start_30 rfl rfl ?_
    refine xw_iadd dX10_start_31 ?_
    refine yw_sub (lv' := [xU, xU, xU, xU]) ⟨Or.inl rfl, Or.inl rfl, Or.inl rfl, Or.inl rfl, trivial⟩ ?_
    exact yw_cV (As := [.int v1, .int ((nI 1) + v2)]) (b := 209) (st := [.ref 210]) dX10_start_32 lX10_81 kiX10_at kvX10_at rfl rfl rfl (la_209 hW) rfl (Nat.le_of_ble_eq_true rfl) rfl (xk_I k)
theorem bX10_start_35 {s1 : Int32} {mc ms : Nat} {Q : Int32 → xHp → Prop} (hW : xLay sh R) 
    (k : vp_in s1 1881 ∧ Q (I 210 s1.toNatClampNeg) (sh, I, R)) :
    Ex mX10_start 35 [xU, xU, xU, xU] [.int s1, .ref 210] (sh, I, R) mc ms (xqI Q) := by
  obtain ⟨k0, k⟩ := k
  refine yw_iaload (v := I 210 s1.toNatClampNeg) dX10_start_35 (la_210 hW) k0 rfl ?_
  refine xw_goto (tgt := 40) dX10_start_36 (by decide) ?_
  exact yw_iret dX10_start_40 rfl k
theorem eX10_start {v1 : Int32} {v2 : Int32} {h : xHp} {Q : Int32 → xHp → Prop} (k : Ex mX10_start 0 [.ref 209, .int v1, .int v2, xU] [] h 0 0 (xqI Q)) : CI mX10_start [.ref 209, .int v1, .int v2] h Q := k
theorem bX10_finish_0 {v1 v2 : Int32} {mc ms : Nat} {Q : Int32 → xHp → Prop} (hW : xLay sh R) 
    (k : CI mX10_wrong [.ref 209, .int v1] (sh, I, R) (fun w h1 => Ex mX10_finish 5 [.ref 209, .int v1, .int v2, xU] (.int w :: []) h1 mc ms (xqI Q))) :
    Ex mX10_finish 0 [.ref 209, .int v1, .int v2, xU] [] (sh, I, R) mc ms (xqI Q) := by
  refine xw_aload_n dX10_finish_0 rfl rfl ?_
  refine xw_iload_n dX10_finish_1 rfl rfl ?_
  exact yw_cV (As := [.int v1]) (b := 209) (st := []) dX10_finish_2 lX10_288 kiX10_wrong kvX10_wrong rfl rfl rfl (la_209 hW) rfl (Nat.le_of_ble_eq_true rfl) rfl (xk_I k)
theorem bX10_finish_5 {v1 v2 s0 : Int32} {mc ms : Nat} {Q : Int32 → xHp → Prop} (hW : xLay sh R) 
    (k : ((s0 = 0 → CI mX10_isState [.ref 209, .int v1, .int v2] (sh, I, R) (fun w h1 => Ex mX10_finish 20 [.ref 209, .int v1, .int v2, xU] (.int w :: []) h1 mc ms (xqI Q))) ∧ (¬ s0 = 0 → Q s0 (sh, I, R)))) :
    Ex mX10_finish 5 [.ref 209, .int v1, .int v2, xU] [.int s0] (sh, I, R) mc ms (xqI Q) := by
  refine yw_istore_n (lv' := [.ref 209, .int v1, .int v2, .int s0]) dX10_finish_5 rfl rfl rfl rfl ?_
  refine xw_iload_n dX10_finish_6 rfl rfl ?_
  refine xw_ifeq (tgt := 14) dX10_finish_7 (by decide) (fun c => ?_) (fun c => ?_)
  · replace k := k.1 c
    refine xw_aload_n dX10_finish_14 rfl rfl ?_
    refine xw_iload_n dX10_finish_15 rfl rfl ?_
    refine xw_iload_n dX10_finish_16 rfl rfl ?_
    refine yw_sub (lv' := [.ref 209, .int v1, .int v2, xU]) ⟨Or.inr rfl, Or.inr rfl, Or.inr rfl, Or.inl rfl, trivial⟩ ?_
    exact yw_cV (As := [.int v1, .int v2]) (b := 209) (st := []) dX10_finish_17 lX10_291 kiX10_isState kvX10_isState rfl rfl rfl (la_209 hW) rfl (Nat.le_of_ble_eq_true rfl) rfl (xk_I k)
  · replace k := k.2 c
    refine xw_iload_n dX10_finish_10 rfl rfl ?_
    refine xw_goto (tgt := 40) dX10_finish_11 (by decide) ?_
    exact yw_iret dX10_finish_40 rfl k
theorem bX10_finish_20 {v1 v2 s0 : Int32} {mc ms : Nat} {Q : Int32 → xHp → Prop} (hW : xLay sh R) 
    (k : ((s0 = 0 → Q (-1) (sh, I, R)) ∧ (¬ s0 = 0 → CI mX10_at [.ref 209, .int v1, .int ((nI 5) + v2)] (sh, I, R) (fun w h1 => Ex mX10_finish 35 [xU, xU, xU, xU] (.int w :: [.ref 210]) h1 mc ms (xqI Q))))) :
    Ex mX10_finish 20 [.ref 209, .int v1, .int v2, xU] [.int s0] (sh, I, R) mc ms (xqI Q) := by
  refine xw_ifeq (tgt := 39) dX10_finish_20 (by decide) (fun c => ?_) (fun c => ?_)
  · replace k := k.1 c
    refine xw_iconst (v := (-1)) dX10_finish_39 rfl ?_
    exact yw_iret dX10_finish_40 rfl k
  · replace k := k.2 c
    refine xw_aload_n dX10_finish_23 rfl rfl ?_
    refine yw_getR (r := 210) dX10_finish_24 fX10_7 rfl (la_209 hW) (lr_209_0 hW) ?_
    refine xw_aload_n dX10_finish_27 rfl rfl ?_
    refine xw_iload_n dX10_finish_28 rfl rfl ?_
    refine xw_iconst (v := nI 5) dX10_finish_29 rfl ?_
    refine xw_iload_n dX10_finish_30 rfl rfl ?_
    refine xw_iadd dX10_finish_31 ?_
    refine yw_sub (lv' := [xU, xU, xU, xU]) ⟨Or.inl rfl, Or.inl rfl, Or.inl rfl, Or.inl rfl, trivial⟩ ?_
    exact yw_cV (As := [.int v1, .int ((nI 5) + v2)]) (b := 209) (st := [.ref 210]) dX10_finish_32 lX10_81 kiX10_at kvX10_at rfl rfl rfl (la_209 hW) rfl (Nat.le_of_ble_eq_true rfl) rfl (xk_I k)
theorem bX10_finish_35 {s1 : Int32} {mc ms : Nat} {Q : Int32 → xHp → Prop} (hW : xLay sh R) 
    (k : vp_in s1 1881 ∧ Q (I 210 s1.toNatClampNeg) (sh, I, R)) :
    Ex mX10_finish 35 [xU, xU, xU, xU] [.int s1, .ref 210] (sh, I, R) mc ms (xqI Q) := by
  obtain ⟨k0, k⟩ := k
  refine yw_iaload (v := I 210 s1.toNatClampNeg) dX10_finish_35 (la_210 hW) k0 rfl ?_
  refine xw_goto (tgt := 40) dX10_finish_36 (by decide) ?_
  exact yw_iret dX10_finish_40 rfl k
theorem eX10_finish {v1 : Int32} {v2 : Int32} {h : xHp} {Q : Int32 → xHp → Prop} (k : Ex mX10_finish 0 [.ref 209, .int v1, .int v2, xU] [] h 0 0 (xqI Q)) : CI mX10_finish [.ref 209, .int v1, .int v2] h Q := k
theorem bX10_isLetter_0 {v1 : Int32} {mc ms : Nat} {Q : Int32 → xHp → Prop} (hW : xLay sh R) 
    (k : CI mX10_in [.long v1.toInt64, .long (lN 0), .long (((I 209 2) - (nI 1)).toInt64)] (sh, I, R) (fun w h1 => Ex mX10_isLetter 13 [xU, xU] (.int w :: []) h1 mc ms (xqI Q))) :
    Ex mX10_isLetter 0 [.ref 209, .int v1] [] (sh, I, R) mc ms (xqI Q) := by
  refine xw_iload_n dX10_isLetter_0 rfl rfl ?_
  refine xw_i2l dX10_isLetter_1 ?_
  refine xw_lconst (v := lN 0) dX10_isLetter_2 rfl ?_
  refine xw_aload_n dX10_isLetter_3 rfl rfl ?_
  refine yw_getI (v := I 209 2) dX10_isLetter_4 fX10_17 rfl (la_209 hW) rfl ?_
  refine xw_iconst (v := nI 1) dX10_isLetter_7 rfl ?_
  refine xw_isub dX10_isLetter_8 ?_
  refine xw_i2l dX10_isLetter_9 ?_
  refine yw_sub (lv' := [xU, xU]) ⟨Or.inl rfl, Or.inl rfl, trivial⟩ ?_
  exact yw_cS (As := [.long v1.toInt64, .long (lN 0), .long (((I 209 2) - (nI 1)).toInt64)]) (st := []) dX10_isLetter_10 lX10_181 ksX10_in rfl rfl rfl (Nat.le_of_ble_eq_true rfl) rfl (xk_I k)
theorem bX10_isLetter_13 {s0 : Int32} {mc ms : Nat} {Q : Int32 → xHp → Prop} (hW : xLay sh R) 
    (k : (s0 = 0 ∨ s0 = 1) ∧ Q s0 (sh, I, R)) :
    Ex mX10_isLetter 13 [xU, xU] [.int s0] (sh, I, R) mc ms (xqI Q) := by
  exact yw_zret dX10_isLetter_13 rfl (narrow_z _ k.1) k.2
theorem eX10_isLetter {v1 : Int32} {h : xHp} {Q : Int32 → xHp → Prop} (k : Ex mX10_isLetter 0 [.ref 209, .int v1] [] h 0 0 (xqI Q)) : CI mX10_isLetter [.ref 209, .int v1] h Q := k
theorem bX10_edge_0 {v1 v2 v3 v4 : Int32} {mc ms : Nat} {Q : Int32 → xHp → Prop} (hW : xLay sh R) 
    (k : CI mX10_wrong [.ref 209, .int v1] (sh, I, R) (fun w h1 => Ex mX10_edge 5 [.ref 209, .int v1, .int v2, .int v3, .int v4, xU] (.int w :: []) h1 mc ms (xqI Q))) :
    Ex mX10_edge 0 [.ref 209, .int v1, .int v2, .int v3, .int v4, xU] [] (sh, I, R) mc ms (xqI Q) := by
  refine xw_aload_n dX10_edge_0 rfl rfl ?_
  refine xw_iload_n dX10_edge_1 rfl rfl ?_
  exact yw_cV (As := [.int v1]) (b := 209) (st := []) dX10_edge_2 lX10_288 kiX10_wrong kvX10_wrong rfl rfl rfl (la_209 hW) rfl (Nat.le_of_ble_eq_true rfl) rfl (xk_I k)
theorem bX10_edge_5 {v1 v2 v3 v4 s0 : Int32} {mc ms : Nat} {Q : Int32 → xHp → Prop} (hW : xLay sh R) 
    (k : ((s0 = 0 → CI mX10_isState [.ref 209, .int v1, .int v2] (sh, I, R) (fun w h1 => Ex mX10_edge 23 [.ref 209, .int v1, .int v2, .int v3, .int v4, xU] (.int w :: []) h1 mc ms (xqI Q))) ∧ (¬ s0 = 0 → Q s0 (sh, I, R)))) :
    Ex mX10_edge 5 [.ref 209, .int v1, .int v2, .int v3, .int v4, xU] [.int s0] (sh, I, R) mc ms (xqI Q) := by
  refine yw_istore (lv' := [.ref 209, .int v1, .int v2, .int v3, .int v4, .int s0]) dX10_edge_5 rfl rfl rfl ?_
  refine xw_iload dX10_edge_7 rfl ?_
  refine xw_ifeq (tgt := 17) dX10_edge_9 (by decide) (fun c => ?_) (fun c => ?_)
  · replace k := k.1 c
    refine xw_aload_n dX10_edge_17 rfl rfl ?_
    refine xw_iload_n dX10_edge_18 rfl rfl ?_
    refine xw_iload_n dX10_edge_19 rfl rfl ?_
    refine yw_sub (lv' := [.ref 209, .int v1, .int v2, .int v3, .int v4, xU]) ⟨Or.inr rfl, Or.inr rfl, Or.inr rfl, Or.inr rfl, Or.inr rfl, Or.inl rfl, trivial⟩ ?_
    exact yw_cV (As := [.int v1, .int v2]) (b := 209) (st := []) dX10_edge_20 lX10_291 kiX10_isState kvX10_isState rfl rfl rfl (la_209 hW) rfl (Nat.le_of_ble_eq_true rfl) rfl (xk_I k)
  · replace k := k.2 c
    refine xw_iload dX10_edge_12 rfl ?_
    refine xw_goto (tgt := 57) dX10_edge_14 (by decide) ?_
    exact yw_iret dX10_edge_57 rfl k
theorem bX10_edge_23 {v1 v2 v3 v4 s0 : Int32} {mc ms : Nat} {Q : Int32 → xHp → Prop} (hW : xLay sh R) 
    (k : ((s0 = 0 → Q (-1) (sh, I, R)) ∧ (¬ s0 = 0 → CI mX10_isLetter [.ref 209, .int v3] (sh, I, R) (fun w h1 => Ex mX10_edge 31 [.ref 209, .int v1, .int v2, .int v3, .int v4, xU] (.int w :: []) h1 mc ms (xqI Q))))) :
    Ex mX10_edge 23 [.ref 209, .int v1, .int v2, .int v3, .int v4, xU] [.int s0] (sh, I, R) mc ms (xqI Q) := by
  refine xw_ifeq (tgt := 56) dX10_edge_23 (by decide) (fun c => ?_) (fun c => ?_)
  · replace k := k.1 c
    refine xw_iconst (v := (-1)) dX10_edge_56 rfl ?_
    exact yw_iret dX10_edge_57 rfl k
  · replace k := k.2 c
    refine xw_aload_n dX10_edge_26 rfl rfl ?_
    refine xw_iload_n dX10_edge_27 rfl rfl ?_
    exact yw_cV (As := [.int v3]) (b := 209) (st := []) dX10_edge_28 lX10_294 kiX10_isLetter kvX10_isLetter rfl rfl rfl (la_209 hW) rfl (Nat.le_of_ble_eq_true rfl) rfl (xk_I k)
theorem bX10_edge_31 {v1 v2 v3 v4 s0 : Int32} {mc ms : Nat} {Q : Int32 → xHp → Prop} (hW : xLay sh R) 
    (k : ((s0 = 0 → Q (-1) (sh, I, R)) ∧ (¬ s0 = 0 → CI mX10_isState [.ref 209, .int v1, .int v4] (sh, I, R) (fun w h1 => Ex mX10_edge 41 [.ref 209, .int v1, .int v2, .int v3, .int v4, xU] (.int w :: []) h1 mc ms (xqI Q))))) :
    Ex mX10_edge 31 [.ref 209, .int v1, .int v2, .int v3, .int v4, xU] [.int s0] (sh, I, R) mc ms (xqI Q) := by
  refine xw_ifeq (tgt := 56) dX10_edge_31 (by decide) (fun c => ?_) (fun c => ?_)
  · replace k := k.1 c
    refine xw_iconst (v := (-1)) dX10_edge_56 rfl ?_
    exact yw_iret dX10_edge_57 rfl k
  · replace k := k.2 c
    refine xw_aload_n dX10_edge_34 rfl rfl ?_
    refine xw_iload_n dX10_edge_35 rfl rfl ?_
    refine xw_iload dX10_edge_36 rfl ?_
    exact yw_cV (As := [.int v1, .int v4]) (b := 209) (st := []) dX10_edge_38 lX10_291 kiX10_isState kvX10_isState rfl rfl rfl (la_209 hW) rfl (Nat.le_of_ble_eq_true rfl) rfl (xk_I k)
theorem bX10_edge_41 {v1 v2 v3 v4 s0 : Int32} {mc ms : Nat} {Q : Int32 → xHp → Prop} (hW : xLay sh R) 
    (k : ((s0 = 0 → Q (-1) (sh, I, R)) ∧ (¬ s0 = 0 → CI mX10_weight [.ref 209, .int v1, .int v2, .int v3, .int v4] (sh, I, R) (fun w h1 => Ex mX10_edge 53 [xU, xU, xU, xU, xU, xU] (.int w :: []) h1 mc ms (xqI Q))))) :
    Ex mX10_edge 41 [.ref 209, .int v1, .int v2, .int v3, .int v4, xU] [.int s0] (sh, I, R) mc ms (xqI Q) := by
  refine xw_ifeq (tgt := 56) dX10_edge_41 (by decide) (fun c => ?_) (fun c => ?_)
  · replace k := k.1 c
    refine xw_iconst (v := (-1)) dX10_edge_56 rfl ?_
    exact yw_iret dX10_edge_57 rfl k
  · replace k := k.2 c
    refine xw_aload_n dX10_edge_44 rfl rfl ?_
    refine xw_iload_n dX10_edge_45 rfl rfl ?_
    refine xw_iload_n dX10_edge_46 rfl rfl ?_
    refine xw_iload_n dX10_edge_47 rfl rfl ?_
    refine xw_iload dX10_edge_48 rfl ?_
    refine yw_sub (lv' := [xU, xU, xU, xU, xU, xU]) ⟨Or.inl rfl, Or.inl rfl, Or.inl rfl, Or.inl rfl, Or.inl rfl, Or.inl rfl, trivial⟩ ?_
    exact yw_cV (As := [.int v1, .int v2, .int v3, .int v4]) (b := 209) (st := []) dX10_edge_50 lX10_98 kiX10_weight kvX10_weight rfl rfl rfl (la_209 hW) rfl (Nat.le_of_ble_eq_true rfl) rfl (xk_I k)
theorem bX10_edge_53 {s0 : Int32} {mc ms : Nat} {Q : Int32 → xHp → Prop} (hW : xLay sh R) 
    (k : Q s0 (sh, I, R)) :
    Ex mX10_edge 53 [xU, xU, xU, xU, xU, xU] [.int s0] (sh, I, R) mc ms (xqI Q) := by
  refine xw_goto (tgt := 57) dX10_edge_53 (by decide) ?_
  exact yw_iret dX10_edge_57 rfl k
theorem eX10_edge {v1 : Int32} {v2 : Int32} {v3 : Int32} {v4 : Int32} {h : xHp} {Q : Int32 → xHp → Prop} (k : Ex mX10_edge 0 [.ref 209, .int v1, .int v2, .int v3, .int v4, xU] [] h 0 0 (xqI Q)) : CI mX10_edge [.ref 209, .int v1, .int v2, .int v3, .int v4] h Q := k
end BLKD
