section BLKB
variable {sh : List xSh} {I : Nat → Nat → Int32} {R : Nat → Nat → Option Nat}
theorem bX8_renew_0 {q : Nat} {mc ms : Nat} {Q : xHp → Prop} (hW : xLay sh R) (hq : xStudy sh R q)
    (k : vp_in (nI 0) 48 ∧ Q (sh, (xi (xi (xi (xi (xi I q 5 (nI 0)) (q + 2) ((nI 0).toNatClampNeg) (nI 0)) q 6 (nI 1)) q 7 (nI 0)) q 8 (nI 0)), R)) :
    Ex mX8_renew 0 [.ref q] [] (sh, I, R) mc ms (xqV Q) := by
  refine xw_aload_n dX8_renew_0 rfl rfl ?_
  refine xw_iconst (v := nI 0) dX8_renew_1 rfl ?_
  refine yw_putI dX8_renew_2 fX8_37 (fun r h => by cases h; exact Or.inl rfl) rfl hq.1 ?_
  refine xw_aload_n dX8_renew_5 rfl rfl ?_
  refine yw_getR (r := (q + 2)) dX8_renew_6 fX8_15 rfl hq.1 hq.2.2.2.2.2.1 ?_
  refine xw_iconst (v := nI 0) dX8_renew_9 rfl ?_
  refine xw_iconst (v := nI 0) dX8_renew_10 rfl ?_
  obtain ⟨k0, k⟩ := k
  refine yw_iastore dX8_renew_11 hq.2.2.1 k0 ?_
  refine xw_aload_n dX8_renew_12 rfl rfl ?_
  refine xw_iconst (v := nI 1) dX8_renew_13 rfl ?_
  refine yw_putI dX8_renew_14 fX8_41 (fun r h => by cases h; exact Or.inl rfl) rfl hq.1 ?_
  refine xw_aload_n dX8_renew_17 rfl rfl ?_
  refine xw_iconst (v := nI 0) dX8_renew_18 rfl ?_
  refine yw_putI dX8_renew_19 fX8_44 (fun r h => by cases h; exact Or.inl rfl) rfl hq.1 ?_
  refine xw_aload_n dX8_renew_22 rfl rfl ?_
  refine xw_iconst (v := nI 0) dX8_renew_23 rfl ?_
  refine yw_putZ dX8_renew_24 fX8_47 (fun r h => by cases h; exact Or.inl rfl) rfl (Or.inl rfl) hq.1 ?_
  exact yw_vret dX8_renew_27 rfl k
theorem eX8_renew {q : Nat} {h : xHp} {Q : xHp → Prop} (k : Ex mX8_renew 0 [.ref q] [] h 0 0 (xqV Q)) : CV mX8_renew [.ref q] h Q := k
theorem bX4_put_0 {v1 : Int32} {mc ms : Nat} {Q : Int32 → xHp → Prop} (hW : xLay sh R) 
    (k : (((I 2 1) < (nI 200) → vp_in (I 2 1) 200 ∧ Q (nI 1) (sh, (xi (xi I 3 ((I 2 1).toNatClampNeg) (vp_nar .byte v1.toInt8.toInt32)) 2 1 ((I 2 1) + (nI 1))), R)) ∧ (¬ (I 2 1) < (nI 200) → Q (nI 0) (sh, I, R)))) :
    Ex mX4_put 0 [.ref 2, .int v1] [] (sh, I, R) mc ms (xqI Q) := by
  refine xw_aload_n dX4_put_0 rfl rfl ?_
  refine yw_getI (v := I 2 1) dX4_put_1 fX4_28 rfl (la_2 hW) rfl ?_
  refine xw_sipush (v := nI 200) dX4_put_4 (by decide) ?_
  refine xw_iclt (tgt := 12) dX4_put_7 (by decide) (fun c => ?_) (fun c => ?_)
  · replace k := k.1 c
    refine xw_aload_n dX4_put_12 rfl rfl ?_
    refine yw_getR (r := 3) dX4_put_13 fX4_11 rfl (la_2 hW) (lr_2_0 hW) ?_
    refine xw_aload_n dX4_put_16 rfl rfl ?_
    refine yw_getI (v := I 2 1) dX4_put_17 fX4_28 rfl (la_2 hW) rfl ?_
    refine xw_iload_n dX4_put_20 rfl rfl ?_
    refine xw_i2b dX4_put_21 ?_
    obtain ⟨k0, k⟩ := k
    refine yw_bastore dX4_put_22 (la_3 hW) k0 ?_
    refine xw_aload_n dX4_put_23 rfl rfl ?_
    refine xw_dup dX4_put_24 rfl ?_
    refine yw_getI (v := I 2 1) dX4_put_25 fX4_28 rfl (la_2 hW) (xi_p (a := 2) (q := 3) (by decide)) ?_
    refine xw_iconst (v := nI 1) dX4_put_28 rfl ?_
    refine xw_iadd dX4_put_29 ?_
    refine yw_putI dX4_put_30 fX4_28 (fun r h => by cases h; exact Or.inl rfl) rfl (la_2 hW) ?_
    refine xw_iconst (v := nI 1) dX4_put_33 rfl ?_
    exact yw_zret dX4_put_34 rfl (by decide) k
  · replace k := k.2 c
    refine xw_iconst (v := nI 0) dX4_put_10 rfl ?_
    exact yw_zret dX4_put_11 rfl (by decide) k
theorem eX4_put {v1 : Int32} {h : xHp} {Q : Int32 → xHp → Prop} (k : Ex mX4_put 0 [.ref 2, .int v1] [] h 0 0 (xqI Q)) : CI mX4_put [.ref 2, .int v1] h Q := k
theorem bX4_forget_0 {mc ms : Nat} {Q : xHp → Prop} (hW : xLay sh R) 
    (k : CV mX3_become [.ref 5, .int (nI 0)] (sh, (xi (xi (xi I 2 2 (nI 0)) 2 13 (nI 0)) 2 14 (nI 0)), R) (fun h1 => Ex mX4_forget 23 [.ref 2, xU] [] h1 mc ms (xqV Q))) :
    Ex mX4_forget 0 [.ref 2, xU] [] (sh, I, R) mc ms (xqV Q) := by
  refine xw_aload_n dX4_forget_0 rfl rfl ?_
  refine xw_iconst (v := nI 0) dX4_forget_1 rfl ?_
  refine yw_putI dX4_forget_2 fX4_71 (fun r h => by cases h; exact Or.inl rfl) rfl (la_2 hW) ?_
  refine xw_aload_n dX4_forget_5 rfl rfl ?_
  refine xw_iconst (v := nI 0) dX4_forget_6 rfl ?_
  refine yw_putI dX4_forget_7 fX4_38 (fun r h => by cases h; exact Or.inl rfl) rfl (la_2 hW) ?_
  refine xw_aload_n dX4_forget_10 rfl rfl ?_
  refine xw_iconst (v := nI 0) dX4_forget_11 rfl ?_
  refine yw_putI dX4_forget_12 fX4_74 (fun r h => by cases h; exact Or.inl rfl) rfl (la_2 hW) ?_
  refine xw_aload_n dX4_forget_15 rfl rfl ?_
  refine yw_getR (r := 5) dX4_forget_16 fX4_24 rfl (la_2 hW) (lr_2_6 hW) ?_
  refine xw_iconst (v := nI 0) dX4_forget_19 rfl ?_
  exact yw_cV (As := [.int (nI 0)]) (b := 5) (st := []) dX4_forget_20 lX4_77 kiX3_become kvX3_become rfl rfl rfl hW.2.2.2.2.2.2.2.1.1 rfl (Nat.le_of_ble_eq_true rfl) rfl (xk_V k)
theorem bX4_forget_23 {mc ms : Nat} {Q : xHp → Prop} (hW : xLay sh R) 
    (k : Ex mX4_forget 25 [.ref 2, .int (nI 0)] [] (sh, I, R) mc ms (xqV Q)) :
    Ex mX4_forget 23 [.ref 2, xU] [] (sh, I, R) mc ms (xqV Q) := by
  refine xw_iconst (v := nI 0) dX4_forget_23 rfl ?_
  refine yw_istore_n (lv' := [.ref 2, .int (nI 0)]) dX4_forget_24 rfl rfl rfl rfl ?_
  exact k
theorem bX4_forget_25 {v1 : Int32} {mc ms : Nat} {Q : xHp → Prop} (hW : xLay sh R) 
    (k : (((nI 3) ≤ v1 → Q (sh, (xi (xi (xi (xi (xi I 2 8 (-1)) 2 9 (-1)) 2 10 (nI 7)) 2 11 (nI 2)) 2 12 (nI 0)), R)) ∧ (¬ (nI 3) ≤ v1 → vp_in v1 3 ∧ Ex mX4_forget 25 [.ref 2, .int (v1 + nI 1)] [] (sh, (xi I 4 v1.toNatClampNeg (vp_nar .boolean (nI 0))), R) mc ms (xqV Q)))) :
    Ex mX4_forget 25 [.ref 2, .int v1] [] (sh, I, R) mc ms (xqV Q) := by
  refine xw_iload_n dX4_forget_25 rfl rfl ?_
  refine xw_aload_n dX4_forget_26 rfl rfl ?_
  refine yw_getR (r := 4) dX4_forget_27 fX4_15 rfl (la_2 hW) (lr_2_7 hW) ?_
  refine xw_alen dX4_forget_30 (la_4 hW) (by decide) ?_
  refine xw_icge (tgt := 47) dX4_forget_31 (by decide) (fun c => ?_) (fun c => ?_)
  · replace k := k.1 c
    refine xw_aload_n dX4_forget_47 rfl rfl ?_
    refine xw_iconst (v := (-1)) dX4_forget_48 rfl ?_
    refine yw_putI dX4_forget_49 fX4_47 (fun r h => by cases h; exact Or.inl rfl) rfl (la_2 hW) ?_
    refine xw_aload_n dX4_forget_52 rfl rfl ?_
    refine xw_iconst (v := (-1)) dX4_forget_53 rfl ?_
    refine yw_putI dX4_forget_54 fX4_53 (fun r h => by cases h; exact Or.inl rfl) rfl (la_2 hW) ?_
    refine xw_aload_n dX4_forget_57 rfl rfl ?_
    refine xw_bipush (v := nI 7) dX4_forget_58 (by decide) ?_
    refine yw_putI dX4_forget_60 fX4_83 (fun r h => by cases h; exact Or.inl rfl) rfl (la_2 hW) ?_
    refine xw_aload_n dX4_forget_63 rfl rfl ?_
    refine xw_iconst (v := nI 2) dX4_forget_64 rfl ?_
    refine yw_putI dX4_forget_65 fX4_56 (fun r h => by cases h; exact Or.inl rfl) rfl (la_2 hW) ?_
    refine xw_aload_n dX4_forget_68 rfl rfl ?_
    refine xw_iconst (v := nI 0) dX4_forget_69 rfl ?_
    refine yw_putI dX4_forget_70 fX4_50 (fun r h => by cases h; exact Or.inl rfl) rfl (la_2 hW) ?_
    exact yw_vret dX4_forget_73 rfl k
  · replace k := k.2 c
    refine xw_aload_n dX4_forget_34 rfl rfl ?_
    refine yw_getR (r := 4) dX4_forget_35 fX4_15 rfl (la_2 hW) (lr_2_7 hW) ?_
    refine xw_iload_n dX4_forget_38 rfl rfl ?_
    refine xw_iconst (v := nI 0) dX4_forget_39 rfl ?_
    obtain ⟨k0, k⟩ := k
    refine yw_zastore dX4_forget_40 (la_4 hW) k0 ?_
    refine yw_iinc (lv' := [.ref 2, .int (v1 + nI 1)]) (v := nI 1) dX4_forget_41 rfl rfl rfl rfl rfl ?_
    refine xw_goto (tgt := 25) dX4_forget_44 (by decide) ?_
    exact k
theorem eX4_forget {h : xHp} {Q : xHp → Prop} (k : Ex mX4_forget 0 [.ref 2, xU] [] h 0 0 (xqV Q)) : CV mX4_forget [.ref 2] h Q := k
theorem bX4_kindOfToken_0 {v0 : Int32} {mc ms : Nat} {Q : Int32 → xHp → Prop} (hW : xLay sh R) 
    (k : ((v0 < (nI 97) → ((v0 < (nI 48) → ((¬ v0 = (nI 59) → Q (nI 4) (sh, I, R)) ∧ (v0 = (nI 59) → Q (nI 3) (sh, I, R)))) ∧ (¬ v0 < (nI 48) → (((nI 57) < v0 → ((¬ v0 = (nI 59) → Q (nI 4) (sh, I, R)) ∧ (v0 = (nI 59) → Q (nI 3) (sh, I, R)))) ∧ (¬ (nI 57) < v0 → Q (nI 2) (sh, I, R)))))) ∧ (¬ v0 < (nI 97) → (((nI 122) < v0 → ((v0 < (nI 48) → ((¬ v0 = (nI 59) → Q (nI 4) (sh, I, R)) ∧ (v0 = (nI 59) → Q (nI 3) (sh, I, R)))) ∧ (¬ v0 < (nI 48) → (((nI 57) < v0 → ((¬ v0 = (nI 59) → Q (nI 4) (sh, I, R)) ∧ (v0 = (nI 59) → Q (nI 3) (sh, I, R)))) ∧ (¬ (nI 57) < v0 → Q (nI 2) (sh, I, R)))))) ∧ (¬ (nI 122) < v0 → Q (nI 1) (sh, I, R)))))) :
    Ex mX4_kindOfToken 0 [.int v0] [] (sh, I, R) mc ms (xqI Q) := by
  refine xw_iload_n dX4_kindOfToken_0 rfl rfl ?_
  refine xw_bipush (v := nI 97) dX4_kindOfToken_1 (by decide) ?_
  refine xw_iclt (tgt := 14) dX4_kindOfToken_3 (by decide) (fun c => ?_) (fun c => ?_)
  · replace k := k.1 c
    refine xw_iload_n dX4_kindOfToken_14 rfl rfl ?_
    refine xw_bipush (v := nI 48) dX4_kindOfToken_15 (by decide) ?_
    refine xw_iclt (tgt := 28) dX4_kindOfToken_17 (by decide) (fun c => ?_) (fun c => ?_)
    · replace k := k.1 c
      refine xw_iload_n dX4_kindOfToken_28 rfl rfl ?_
      refine xw_bipush (v := nI 59) dX4_kindOfToken_29 (by decide) ?_
      refine xw_icne (tgt := 38) dX4_kindOfToken_31 (by decide) (fun c => ?_) (fun c => ?_)
      · replace k := k.1 c
        refine xw_iconst (v := nI 4) dX4_kindOfToken_38 rfl ?_
        exact yw_iret dX4_kindOfToken_39 rfl k
      · replace k := k.2 c
        refine xw_iconst (v := nI 3) dX4_kindOfToken_34 rfl ?_
        refine xw_goto (tgt := 39) dX4_kindOfToken_35 (by decide) ?_
        exact yw_iret dX4_kindOfToken_39 rfl k
    · replace k := k.2 c
      refine xw_iload_n dX4_kindOfToken_20 rfl rfl ?_
      refine xw_bipush (v := nI 57) dX4_kindOfToken_21 (by decide) ?_
      refine xw_icgt (tgt := 28) dX4_kindOfToken_23 (by decide) (fun c => ?_) (fun c => ?_)
      · replace k := k.1 c
        refine xw_iload_n dX4_kindOfToken_28 rfl rfl ?_
        refine xw_bipush (v := nI 59) dX4_kindOfToken_29 (by decide) ?_
        refine xw_icne (tgt := 38) dX4_kindOfToken_31 (by decide) (fun c => ?_) (fun c => ?_)
        · replace k := k.1 c
          refine xw_iconst (v := nI 4) dX4_kindOfToken_38 rfl ?_
          exact yw_iret dX4_kindOfToken_39 rfl k
        · replace k := k.2 c
          refine xw_iconst (v := nI 3) dX4_kindOfToken_34 rfl ?_
          refine xw_goto (tgt := 39) dX4_kindOfToken_35 (by decide) ?_
          exact yw_iret dX4_kindOfToken_39 rfl k
      · replace k := k.2 c
        refine xw_iconst (v := nI 2) dX4_kindOfToken_26 rfl ?_
        exact yw_iret dX4_kindOfToken_27 rfl k
  · replace k := k.2 c
    refine xw_iload_n dX4_kindOfToken_6 rfl rfl ?_
    refine xw_bipush (v := nI 122) dX4_kindOfToken_7 (by decide) ?_
    refine xw_icgt (tgt := 14) dX4_kindOfToken_9 (by decide) (fun c => ?_) (fun c => ?_)
    · replace k := k.1 c
      refine xw_iload_n dX4_kindOfToken_14 rfl rfl ?_
      refine xw_bipush (v := nI 48) dX4_kindOfToken_15 (by decide) ?_
      refine xw_iclt (tgt := 28) dX4_kindOfToken_17 (by decide) (fun c => ?_) (fun c => ?_)
      · replace k := k.1 c
        refine xw_iload_n dX4_kindOfToken_28 rfl rfl ?_
        refine xw_bipush (v := nI 59) dX4_kindOfToken_29 (by decide) ?_
        refine xw_icne (tgt := 38) dX4_kindOfToken_31 (by decide) (fun c => ?_) (fun c => ?_)
        · replace k := k.1 c
          refine xw_iconst (v := nI 4) dX4_kindOfToken_38 rfl ?_
          exact yw_iret dX4_kindOfToken_39 rfl k
        · replace k := k.2 c
          refine xw_iconst (v := nI 3) dX4_kindOfToken_34 rfl ?_
          refine xw_goto (tgt := 39) dX4_kindOfToken_35 (by decide) ?_
          exact yw_iret dX4_kindOfToken_39 rfl k
      · replace k := k.2 c
        refine xw_iload_n dX4_kindOfToken_20 rfl rfl ?_
        refine xw_bipush (v := nI 57) dX4_kindOfToken_21 (by decide) ?_
        refine xw_icgt (tgt := 28) dX4_kindOfToken_23 (by decide) (fun c => ?_) (fun c => ?_)
        · replace k := k.1 c
          refine xw_iload_n dX4_kindOfToken_28 rfl rfl ?_
          refine xw_bipush (v := nI 59) dX4_kindOfToken_29 (by decide) ?_
          refine xw_icne (tgt := 38) dX4_kindOfToken_31 (by decide) (fun c => ?_) (fun c => ?_)
          · replace k := k.1 c
            refine xw_iconst (v := nI 4) dX4_kindOfToken_38 rfl ?_
            exact yw_iret dX4_kindOfToken_39 rfl k
          · replace k := k.2 c
            refine xw_iconst (v := nI 3) dX4_kindOfToken_34 rfl ?_
            refine xw_goto (tgt := 39) dX4_kindOfToken_35 (by decide) ?_
            exact yw_iret dX4_kindOfToken_39 rfl k
        · replace k := k.2 c
          refine xw_iconst (v := nI 2) dX4_kindOfToken_26 rfl ?_
          exact yw_iret dX4_kindOfToken_27 rfl k
    · replace k := k.2 c
      refine xw_iconst (v := nI 1) dX4_kindOfToken_12 rfl ?_
      exact yw_iret dX4_kindOfToken_13 rfl k
theorem eX4_kindOfToken {v0 : Int32} {h : xHp} {Q : Int32 → xHp → Prop} (k : Ex mX4_kindOfToken 0 [.int v0] [] h 0 0 (xqI Q)) : CI mX4_kindOfToken [.int v0] h Q := k
theorem bX4_readName_0 {mc ms : Nat} {Q : xHp → Prop} (hW : xLay sh R) 
    (k : (((I 2 1) ≤ (I 2 2) → Q (sh, I, R)) ∧ (¬ (I 2 1) ≤ (I 2 2) → vp_in (I 2 2) 200 ∧ (((I 3 ((I 2 2).toNatClampNeg)) < (nI 97) → Q (sh, I, R)) ∧ (¬ (I 3 ((I 2 2).toNatClampNeg)) < (nI 97) → vp_in (I 2 2) 200 ∧ (((nI 122) < (I 3 ((I 2 2).toNatClampNeg)) → Q (sh, I, R)) ∧ (¬ (nI 122) < (I 3 ((I 2 2).toNatClampNeg)) → Ex mX4_readName 0 [.ref 2] [] (sh, (xi I 2 2 ((I 2 2) + (nI 1))), R) mc ms (xqV Q)))))))) :
    Ex mX4_readName 0 [.ref 2] [] (sh, I, R) mc ms (xqV Q) := by
  refine xw_aload_n dX4_readName_0 rfl rfl ?_
  refine yw_getI (v := I 2 2) dX4_readName_1 fX4_71 rfl (la_2 hW) rfl ?_
  refine xw_aload_n dX4_readName_4 rfl rfl ?_
  refine yw_getI (v := I 2 1) dX4_readName_5 fX4_28 rfl (la_2 hW) rfl ?_
  refine xw_icge (tgt := 52) dX4_readName_8 (by decide) (fun c => ?_) (fun c => ?_)
  · replace k := k.1 c
    exact yw_vret dX4_readName_52 rfl k
  · replace k := k.2 c
    refine xw_aload_n dX4_readName_11 rfl rfl ?_
    refine yw_getR (r := 3) dX4_readName_12 fX4_11 rfl (la_2 hW) (lr_2_0 hW) ?_
    refine xw_aload_n dX4_readName_15 rfl rfl ?_
    refine yw_getI (v := I 2 2) dX4_readName_16 fX4_71 rfl (la_2 hW) rfl ?_
    obtain ⟨k0, k⟩ := k
    refine yw_baload (v := I 3 ((I 2 2).toNatClampNeg)) dX4_readName_19 (la_3 hW) k0 rfl ?_
    refine xw_bipush (v := nI 97) dX4_readName_20 (by decide) ?_
    refine xw_iclt (tgt := 52) dX4_readName_22 (by decide) (fun c => ?_) (fun c => ?_)
    · replace k := k.1 c
      exact yw_vret dX4_readName_52 rfl k
    · replace k := k.2 c
      refine xw_aload_n dX4_readName_25 rfl rfl ?_
      refine yw_getR (r := 3) dX4_readName_26 fX4_11 rfl (la_2 hW) (lr_2_0 hW) ?_
      refine xw_aload_n dX4_readName_29 rfl rfl ?_
      refine yw_getI (v := I 2 2) dX4_readName_30 fX4_71 rfl (la_2 hW) rfl ?_
      obtain ⟨k0, k⟩ := k
      refine yw_baload (v := I 3 ((I 2 2).toNatClampNeg)) dX4_readName_33 (la_3 hW) k0 rfl ?_
      refine xw_bipush (v := nI 122) dX4_readName_34 (by decide) ?_
      refine xw_icgt (tgt := 52) dX4_readName_36 (by decide) (fun c => ?_) (fun c => ?_)
      · replace k := k.1 c
        exact yw_vret dX4_readName_52 rfl k
      · replace k := k.2 c
        refine xw_aload_n dX4_readName_39 rfl rfl ?_
        refine xw_dup dX4_readName_40 rfl ?_
        refine yw_getI (v := I 2 2) dX4_readName_41 fX4_71 rfl (la_2 hW) rfl ?_
        refine xw_iconst (v := nI 1) dX4_readName_44 rfl ?_
        refine xw_iadd dX4_readName_45 ?_
        refine yw_putI dX4_readName_46 fX4_71 (fun r h => by cases h; exact Or.inl rfl) rfl (la_2 hW) ?_
        refine xw_goto (tgt := 0) dX4_readName_49 (by decide) ?_
        exact k
theorem eX4_readName {h : xHp} {Q : xHp → Prop} (k : Ex mX4_readName 0 [.ref 2] [] h 0 0 (xqV Q)) : CV mX4_readName [.ref 2] h Q := k
theorem bX4_readNumber_0 {mc ms : Nat} {Q : xHp → Prop} (hW : xLay sh R) 
    (k : Ex mX4_readNumber 5 [.ref 2] [] (sh, (xi I 2 5 (nI 0)), R) mc ms (xqV Q)) :
    Ex mX4_readNumber 0 [.ref 2] [] (sh, I, R) mc ms (xqV Q) := by
  refine xw_aload_n dX4_readNumber_0 rfl rfl ?_
  refine xw_iconst (v := nI 0) dX4_readNumber_1 rfl ?_
  refine yw_putI dX4_readNumber_2 fX4_148 (fun r h => by cases h; exact Or.inl rfl) rfl (la_2 hW) ?_
  exact k
theorem bX4_readNumber_5 {mc ms : Nat} {Q : xHp → Prop} (hW : xLay sh R) 
    (k : (((I 2 1) ≤ (I 2 2) → Q (sh, I, R)) ∧ (¬ (I 2 1) ≤ (I 2 2) → vp_in (I 2 2) 200 ∧ (((I 3 ((I 2 2).toNatClampNeg)) < (nI 48) → Q (sh, I, R)) ∧ (¬ (I 3 ((I 2 2).toNatClampNeg)) < (nI 48) → vp_in (I 2 2) 200 ∧ (((nI 57) < (I 3 ((I 2 2).toNatClampNeg)) → Q (sh, I, R)) ∧ (¬ (nI 57) < (I 3 ((I 2 2).toNatClampNeg)) → ¬ nI 10 = 0 ∧ vp_in (I 2 2) 200 ∧ Ex mX4_readNumber 5 [.ref 2] [] (sh, (xi (xi I 2 5 (((xrem (I 2 5) (nI 10)) * (nI 10)) + ((I 3 ((I 2 2).toNatClampNeg)) - (nI 48)))) 2 2 ((I 2 2) + (nI 1))), R) mc ms (xqV Q)))))))) :
    Ex mX4_readNumber 5 [.ref 2] [] (sh, I, R) mc ms (xqV Q) := by
  refine xw_aload_n dX4_readNumber_5 rfl rfl ?_
  refine yw_getI (v := I 2 2) dX4_readNumber_6 fX4_71 rfl (la_2 hW) rfl ?_
  refine xw_aload_n dX4_readNumber_9 rfl rfl ?_
  refine yw_getI (v := I 2 1) dX4_readNumber_10 fX4_28 rfl (la_2 hW) rfl ?_
  refine xw_icge (tgt := 84) dX4_readNumber_13 (by decide) (fun c => ?_) (fun c => ?_)
  · replace k := k.1 c
    exact yw_vret dX4_readNumber_84 rfl k
  · replace k := k.2 c
    refine xw_aload_n dX4_readNumber_16 rfl rfl ?_
    refine yw_getR (r := 3) dX4_readNumber_17 fX4_11 rfl (la_2 hW) (lr_2_0 hW) ?_
    refine xw_aload_n dX4_readNumber_20 rfl rfl ?_
    refine yw_getI (v := I 2 2) dX4_readNumber_21 fX4_71 rfl (la_2 hW) rfl ?_
    obtain ⟨k0, k⟩ := k
    refine yw_baload (v := I 3 ((I 2 2).toNatClampNeg)) dX4_readNumber_24 (la_3 hW) k0 rfl ?_
    refine xw_bipush (v := nI 48) dX4_readNumber_25 (by decide) ?_
    refine xw_iclt (tgt := 84) dX4_readNumber_27 (by decide) (fun c => ?_) (fun c => ?_)
    · replace k := k.1 c
      exact yw_vret dX4_readNumber_84 rfl k
    · replace k := k.2 c
      refine xw_aload_n dX4_readNumber_30 rfl rfl ?_
      refine yw_getR (r := 3) dX4_readNumber_31 fX4_11 rfl (la_2 hW) (lr_2_0 hW) ?_
      refine xw_aload_n dX4_readNumber_34 rfl rfl ?_
      refine yw_getI (v := I 2 2) dX4_readNumber_35 fX4_71 rfl (la_2 hW) rfl ?_
      obtain ⟨k0, k⟩ := k
      refine yw_baload (v := I 3 ((I 2 2).toNatClampNeg)) dX4_readNumber_38 (la_3 hW) k0 rfl ?_
      refine xw_bipush (v := nI 57) dX4_readNumber_39 (by decide) ?_
      refine xw_icgt (tgt := 84) dX4_readNumber_41 (by decide) (fun c => ?_) (fun c => ?_)
      · replace k := k.1 c
        exact yw_vret dX4_readNumber_84 rfl k
      · replace k := k.2 c
        refine xw_aload_n dX4_readNumber_44 rfl rfl ?_
        refine xw_aload_n dX4_readNumber_45 rfl rfl ?_
        refine yw_getI (v := I 2 5) dX4_readNumber_46 fX4_148 rfl (la_2 hW) rfl ?_
        refine xw_bipush (v := nI 10) dX4_readNumber_49 (by decide) ?_
        obtain ⟨k0, k⟩ := k
        refine yw_irem dX4_readNumber_51 k0 ?_
        refine xw_bipush (v := nI 10) dX4_readNumber_52 (by decide) ?_
        refine xw_imul dX4_readNumber_54 ?_
        refine xw_aload_n dX4_readNumber_55 rfl rfl ?_
        refine yw_getR (r := 3) dX4_readNumber_56 fX4_11 rfl (la_2 hW) (lr_2_0 hW) ?_
        refine xw_aload_n dX4_readNumber_59 rfl rfl ?_
        refine yw_getI (v := I 2 2) dX4_readNumber_60 fX4_71 rfl (la_2 hW) rfl ?_
        obtain ⟨k0, k⟩ := k
        refine yw_baload (v := I 3 ((I 2 2).toNatClampNeg)) dX4_readNumber_63 (la_3 hW) k0 rfl ?_
        refine xw_bipush (v := nI 48) dX4_readNumber_64 (by decide) ?_
        refine xw_isub dX4_readNumber_66 ?_
        refine xw_iadd dX4_readNumber_67 ?_
        refine yw_putI dX4_readNumber_68 fX4_148 (fun r h => by cases h; exact Or.inl rfl) rfl (la_2 hW) ?_
        refine xw_aload_n dX4_readNumber_71 rfl rfl ?_
        refine xw_dup dX4_readNumber_72 rfl ?_
        refine yw_getI (v := I 2 2) dX4_readNumber_73 fX4_71 rfl (la_2 hW) (xi_s (j := 2) (k := 5) (by decide)) ?_
        refine xw_iconst (v := nI 1) dX4_readNumber_76 rfl ?_
        refine xw_iadd dX4_readNumber_77 ?_
        refine yw_putI dX4_readNumber_78 fX4_71 (fun r h => by cases h; exact Or.inl rfl) rfl (la_2 hW) ?_
        refine xw_goto (tgt := 5) dX4_readNumber_81 (by decide) ?_
        exact k
theorem eX4_readNumber {h : xHp} {Q : xHp → Prop} (k : Ex mX4_readNumber 0 [.ref 2] [] h 0 0 (xqV Q)) : CV mX4_readNumber [.ref 2] h Q := k
theorem bX4_refuse_0 {v1 v2 : Int32} {mc ms : Nat} {Q : xHp → Prop} (hW : xLay sh R) 
    (k : ((¬ (I 2 13) = 0 → Q (sh, I, R)) ∧ ((I 2 13) = 0 → Q (sh, (xi (xi I 2 13 v1) 2 14 v2), R)))) :
    Ex mX4_refuse 0 [.ref 2, .int v1, .int v2] [] (sh, I, R) mc ms (xqV Q) := by
  refine xw_aload_n dX4_refuse_0 rfl rfl ?_
  refine yw_getI (v := I 2 13) dX4_refuse_1 fX4_38 rfl (la_2 hW) rfl ?_
  refine xw_ifne (tgt := 17) dX4_refuse_4 (by decide) (fun c => ?_) (fun c => ?_)
  · replace k := k.1 c
    exact yw_vret dX4_refuse_17 rfl k
  · replace k := k.2 c
    refine xw_aload_n dX4_refuse_7 rfl rfl ?_
    refine xw_iload_n dX4_refuse_8 rfl rfl ?_
    refine yw_putI dX4_refuse_9 fX4_38 (fun r h => by cases h; exact Or.inl rfl) rfl (la_2 hW) ?_
    refine xw_aload_n dX4_refuse_12 rfl rfl ?_
    refine xw_iload_n dX4_refuse_13 rfl rfl ?_
    refine yw_putI dX4_refuse_14 fX4_74 (fun r h => by cases h; exact Or.inl rfl) rfl (la_2 hW) ?_
    exact yw_vret dX4_refuse_17 rfl k
theorem eX4_refuse {v1 : Int32} {v2 : Int32} {h : xHp} {Q : xHp → Prop} (k : Ex mX4_refuse 0 [.ref 2, .int v1, .int v2] [] h 0 0 (xqV Q)) : CV mX4_refuse [.ref 2, .int v1, .int v2] h Q := k
theorem bX4_next_0 {mc ms : Nat} {Q : xHp → Prop} (hW : xLay sh R) 
    (k : (((I 2 13) = 0 → Ex mX4_next 8 [.ref 2, xU] [] (sh, I, R) mc ms (xqV Q)) ∧ (¬ (I 2 13) = 0 → Q (sh, I, R)))) :
    Ex mX4_next 0 [.ref 2, xU] [] (sh, I, R) mc ms (xqV Q) := by
  refine xw_aload_n dX4_next_0 rfl rfl ?_
  refine yw_getI (v := I 2 13) dX4_next_1 fX4_38 rfl (la_2 hW) rfl ?_
  refine xw_ifeq (tgt := 8) dX4_next_4 (by decide) (fun c => ?_) (fun c => ?_)
  · replace k := k.1 c
    exact k
  · replace k := k.2 c
    exact yw_vret dX4_next_7 rfl k
theorem bX4_next_8 {mc ms : Nat} {Q : xHp → Prop} (hW : xLay sh R) 
    (k : (((I 2 1) ≤ (I 2 2) → (((I 2 1) ≤ (I 2 2) → ((¬ (nI 0) = (nI 1) → ((¬ (nI 0) = (nI 2) → ((¬ (nI 0) = (nI 3) → ((¬ (nI 0) = (nI 2) → (((nI 0) = (nI 4) → CV mX4_refuse [.ref 2, .int (nI 1), .int (I 2 2)] (sh, (xi (xi I 2 4 (I 2 2)) 2 3 (nI 0)), R) (fun h1 => Ex mX4_next 181 [xU, xU] [] h1 mc ms (xqV Q))) ∧ (¬ (nI 0) = (nI 4) → Q (sh, (xi (xi I 2 4 (I 2 2)) 2 3 (nI 0)), R)))) ∧ ((nI 0) = (nI 2) → ((((I 2 2) - (I 2 2)) ≤ (nI 2) → (((nI 0) = (nI 4) → CV mX4_refuse [.ref 2, .int (nI 1), .int (I 2 2)] (sh, (xi (xi I 2 4 (I 2 2)) 2 3 (nI 0)), R) (fun h1 => Ex mX4_next 181 [xU, xU] [] h1 mc ms (xqV Q))) ∧ (¬ (nI 0) = (nI 4) → Q (sh, (xi (xi I 2 4 (I 2 2)) 2 3 (nI 0)), R)))) ∧ (¬ ((I 2 2) - (I 2 2)) ≤ (nI 2) → (((nI 0) = (nI 4) → CV mX4_refuse [.ref 2, .int (nI 1), .int (I 2 2)] (sh, (xi (xi I 2 4 (I 2 2)) 2 3 (nI 0)), R) (fun h1 => Ex mX4_next 181 [xU, xU] [] h1 mc ms (xqV Q))) ∧ (¬ (nI 0) = (nI 4) → CV mX4_refuse [.ref 2, .int (nI 1), .int (I 2 2)] (sh, (xi (xi I 2 4 (I 2 2)) 2 3 (nI 0)), R) (fun h1 => Ex mX4_next 181 [xU, xU] [] h1 mc ms (xqV Q))))))))) ∧ ((nI 0) = (nI 3) → ((¬ (nI 0) = (nI 2) → (((nI 0) = (nI 4) → CV mX4_refuse [.ref 2, .int (nI 1), .int (I 2 2)] (sh, (xi (xi (xi I 2 4 (I 2 2)) 2 3 (nI 0)) 2 2 ((I 2 2) + (nI 1))), R) (fun h1 => Ex mX4_next 181 [xU, xU] [] h1 mc ms (xqV Q))) ∧ (¬ (nI 0) = (nI 4) → Q (sh, (xi (xi (xi I 2 4 (I 2 2)) 2 3 (nI 0)) 2 2 ((I 2 2) + (nI 1))), R)))) ∧ ((nI 0) = (nI 2) → (((((I 2 2) + (nI 1)) - (I 2 2)) ≤ (nI 2) → (((nI 0) = (nI 4) → CV mX4_refuse [.ref 2, .int (nI 1), .int (I 2 2)] (sh, (xi (xi (xi I 2 4 (I 2 2)) 2 3 (nI 0)) 2 2 ((I 2 2) + (nI 1))), R) (fun h1 => Ex mX4_next 181 [xU, xU] [] h1 mc ms (xqV Q))) ∧ (¬ (nI 0) = (nI 4) → Q (sh, (xi (xi (xi I 2 4 (I 2 2)) 2 3 (nI 0)) 2 2 ((I 2 2) + (nI 1))), R)))) ∧ (¬ (((I 2 2) + (nI 1)) - (I 2 2)) ≤ (nI 2) → (((nI 0) = (nI 4) → CV mX4_refuse [.ref 2, .int (nI 1), .int (I 2 2)] (sh, (xi (xi (xi I 2 4 (I 2 2)) 2 3 (nI 0)) 2 2 ((I 2 2) + (nI 1))), R) (fun h1 => Ex mX4_next 181 [xU, xU] [] h1 mc ms (xqV Q))) ∧ (¬ (nI 0) = (nI 4) → CV mX4_refuse [.ref 2, .int (nI 1), .int (I 2 2)] (sh, (xi (xi (xi I 2 4 (I 2 2)) 2 3 (nI 0)) 2 2 ((I 2 2) + (nI 1))), R) (fun h1 => Ex mX4_next 181 [xU, xU] [] h1 mc ms (xqV Q))))))))))) ∧ ((nI 0) = (nI 2) → CV mX4_readNumber [.ref 2] (sh, (xi (xi I 2 4 (I 2 2)) 2 3 (nI 0)), R) (fun h1 => Ex mX4_next 112 [.ref 2, xU] [] h1 mc ms (xqV Q))))) ∧ ((nI 0) = (nI 1) → CV mX4_readName [.ref 2] (sh, (xi (xi I 2 4 (I 2 2)) 2 3 (nI 0)), R) (fun h1 => Ex mX4_next 97 [.ref 2, xU] [] h1 mc ms (xqV Q))))) ∧ (¬ (I 2 1) ≤ (I 2 2) → vp_in (I 2 2) 200 ∧ CI mX4_kindOfToken [.int (I 3 ((I 2 2).toNatClampNeg))] (sh, (xi I 2 4 (I 2 2)), R) (fun w h1 => Ex mX4_next 78 [.ref 2, xU] (.int w :: [.ref 2]) h1 mc ms (xqV Q))))) ∧ (¬ (I 2 1) ≤ (I 2 2) → vp_in (I 2 2) 200 ∧ ((¬ (I 3 ((I 2 2).toNatClampNeg)) = (nI 32) → (((I 2 1) ≤ (I 2 2) → ((¬ (nI 0) = (nI 1) → ((¬ (nI 0) = (nI 2) → ((¬ (nI 0) = (nI 3) → ((¬ (nI 0) = (nI 2) → (((nI 0) = (nI 4) → CV mX4_refuse [.ref 2, .int (nI 1), .int (I 2 2)] (sh, (xi (xi I 2 4 (I 2 2)) 2 3 (nI 0)), R) (fun h1 => Ex mX4_next 181 [xU, xU] [] h1 mc ms (xqV Q))) ∧ (¬ (nI 0) = (nI 4) → Q (sh, (xi (xi I 2 4 (I 2 2)) 2 3 (nI 0)), R)))) ∧ ((nI 0) = (nI 2) → ((((I 2 2) - (I 2 2)) ≤ (nI 2) → (((nI 0) = (nI 4) → CV mX4_refuse [.ref 2, .int (nI 1), .int (I 2 2)] (sh, (xi (xi I 2 4 (I 2 2)) 2 3 (nI 0)), R) (fun h1 => Ex mX4_next 181 [xU, xU] [] h1 mc ms (xqV Q))) ∧ (¬ (nI 0) = (nI 4) → Q (sh, (xi (xi I 2 4 (I 2 2)) 2 3 (nI 0)), R)))) ∧ (¬ ((I 2 2) - (I 2 2)) ≤ (nI 2) → (((nI 0) = (nI 4) → CV mX4_refuse [.ref 2, .int (nI 1), .int (I 2 2)] (sh, (xi (xi I 2 4 (I 2 2)) 2 3 (nI 0)), R) (fun h1 => Ex mX4_next 181 [xU, xU] [] h1 mc ms (xqV Q))) ∧ (¬ (nI 0) = (nI 4) → CV mX4_refuse [.ref 2, .int (nI 1), .int (I 2 2)] (sh, (xi (xi I 2 4 (I 2 2)) 2 3 (nI 0)), R) (fun h1 => Ex mX4_next 181 [xU, xU] [] h1 mc ms (xqV Q))))))))) ∧ ((nI 0) = (nI 3) → ((¬ (nI 0) = (nI 2) → (((nI 0) = (nI 4) → CV mX4_refuse [.ref 2, .int (nI 1), .int (I 2 2)] (sh, (xi (xi (xi I 2 4 (I 2 2)) 2 3 (nI 0)) 2 2 ((I 2 2) + (nI 1))), R) (fun h1 => Ex mX4_next 181 [xU, xU] [] h1 mc ms (xqV Q))) ∧ (¬ (nI 0) = (nI 4) → Q (sh, (xi (xi (xi I 2 4 (I 2 2)) 2 3 (nI 0)) 2 2 ((I 2 2) + (nI 1))), R)))) ∧ ((nI 0) = (nI 2) → (((((I 2 2) + (nI 1)) - (I 2 2)) ≤ (nI 2) → (((nI 0) = (nI 4) → CV mX4_refuse [.ref 2, .int (nI 1), .int (I 2 2)] (sh, (xi (xi (xi I 2 4 (I 2 2)) 2 3 (nI 0)) 2 2 ((I 2 2) + (nI 1))), R) (fun h1 => Ex mX4_next 181 [xU, xU] [] h1 mc ms (xqV Q))) ∧ (¬ (nI 0) = (nI 4) → Q (sh, (xi (xi (xi I 2 4 (I 2 2)) 2 3 (nI 0)) 2 2 ((I 2 2) + (nI 1))), R)))) ∧ (¬ (((I 2 2) + (nI 1)) - (I 2 2)) ≤ (nI 2) → (((nI 0) = (nI 4) → CV mX4_refuse [.ref 2, .int (nI 1), .int (I 2 2)] (sh, (xi (xi (xi I 2 4 (I 2 2)) 2 3 (nI 0)) 2 2 ((I 2 2) + (nI 1))), R) (fun h1 => Ex mX4_next 181 [xU, xU] [] h1 mc ms (xqV Q))) ∧ (¬ (nI 0) = (nI 4) → CV mX4_refuse [.ref 2, .int (nI 1), .int (I 2 2)] (sh, (xi (xi (xi I 2 4 (I 2 2)) 2 3 (nI 0)) 2 2 ((I 2 2) + (nI 1))), R) (fun h1 => Ex mX4_next 181 [xU, xU] [] h1 mc ms (xqV Q))))))))))) ∧ ((nI 0) = (nI 2) → CV mX4_readNumber [.ref 2] (sh, (xi (xi I 2 4 (I 2 2)) 2 3 (nI 0)), R) (fun h1 => Ex mX4_next 112 [.ref 2, xU] [] h1 mc ms (xqV Q))))) ∧ ((nI 0) = (nI 1) → CV mX4_readName [.ref 2] (sh, (xi (xi I 2 4 (I 2 2)) 2 3 (nI 0)), R) (fun h1 => Ex mX4_next 97 [.ref 2, xU] [] h1 mc ms (xqV Q))))) ∧ (¬ (I 2 1) ≤ (I 2 2) → vp_in (I 2 2) 200 ∧ CI mX4_kindOfToken [.int (I 3 ((I 2 2).toNatClampNeg))] (sh, (xi I 2 4 (I 2 2)), R) (fun w h1 => Ex mX4_next 78 [.ref 2, xU] (.int w :: [.ref 2]) h1 mc ms (xqV Q))))) ∧ ((I 3 ((I 2 2).toNatClampNeg)) = (nI 32) → Ex mX4_next 8 [.ref 2, xU] [] (sh, (xi I 2 2 ((I 2 2) + (nI 1))), R) mc ms (xqV Q)))))) :
    Ex mX4_next 8 [.ref 2, xU] [] (sh, I, R) mc ms (xqV Q) := by
  refine xw_aload_n dX4_next_8 rfl rfl ?_
  refine yw_getI (v := I 2 2) dX4_next_9 fX4_71 rfl (la_2 hW) rfl ?_
  refine xw_aload_n dX4_next_12 rfl rfl ?_
  refine yw_getI (v := I 2 1) dX4_next_13 fX4_28 rfl (la_2 hW) rfl ?_
  refine xw_icge (tgt := 46) dX4_next_16 (by decide) (fun c => ?_) (fun c => ?_)
  · replace k := k.1 c
    refine xw_aload_n dX4_next_46 rfl rfl ?_
    refine xw_aload_n dX4_next_47 rfl rfl ?_
    refine yw_getI (v := I 2 2) dX4_next_48 fX4_71 rfl (la_2 hW) rfl ?_
    refine yw_putI dX4_next_51 fX4_90 (fun r h => by cases h; exact Or.inl rfl) rfl (la_2 hW) ?_
    refine xw_aload_n dX4_next_54 rfl rfl ?_
    refine xw_aload_n dX4_next_55 rfl rfl ?_
    refine yw_getI (v := I 2 2) dX4_next_56 fX4_71 rfl (la_2 hW) (xi_s (j := 2) (k := 4) (by decide)) ?_
    refine xw_aload_n dX4_next_59 rfl rfl ?_
    refine yw_getI (v := I 2 1) dX4_next_60 fX4_28 rfl (la_2 hW) (xi_s (j := 1) (k := 4) (by decide)) ?_
    refine xw_icge (tgt := 81) dX4_next_63 (by decide) (fun c => ?_) (fun c => ?_)
    · replace k := k.1 c
      refine xw_iconst (v := nI 0) dX4_next_81 rfl ?_
      refine yw_putI dX4_next_82 fX4_41 (fun r h => by cases h; exact Or.inl rfl) rfl (la_2 hW) ?_
      refine xw_aload_n dX4_next_85 rfl rfl ?_
      refine yw_getI (v := nI 0) dX4_next_86 fX4_41 rfl (la_2 hW) (xi_e) ?_
      refine xw_iconst (v := nI 1) dX4_next_89 rfl ?_
      refine xw_icne (tgt := 100) dX4_next_90 (by decide) (fun c => ?_) (fun c => ?_)
      · replace k := k.1 c
        refine xw_aload_n dX4_next_100 rfl rfl ?_
        refine yw_getI (v := nI 0) dX4_next_101 fX4_41 rfl (la_2 hW) (xi_e) ?_
        refine xw_iconst (v := nI 2) dX4_next_104 rfl ?_
        refine xw_icne (tgt := 115) dX4_next_105 (by decide) (fun c => ?_) (fun c => ?_)
        · replace k := k.1 c
          refine xw_aload_n dX4_next_115 rfl rfl ?_
          refine yw_getI (v := nI 0) dX4_next_116 fX4_41 rfl (la_2 hW) (xi_e) ?_
          refine xw_iconst (v := nI 3) dX4_next_119 rfl ?_
          refine xw_icne (tgt := 133) dX4_next_120 (by decide) (fun c => ?_) (fun c => ?_)
          · replace k := k.1 c
            refine xw_aload_n dX4_next_133 rfl rfl ?_
            refine yw_getI (v := nI 0) dX4_next_134 fX4_41 rfl (la_2 hW) (xi_e) ?_
            refine xw_iconst (v := nI 2) dX4_next_137 rfl ?_
            refine xw_icne (tgt := 158) dX4_next_138 (by decide) (fun c => ?_) (fun c => ?_)
            · replace k := k.1 c
              refine xw_iconst (v := nI 0) dX4_next_158 rfl ?_
              refine yw_istore_n (lv' := [.ref 2, .int (nI 0)]) dX4_next_159 rfl rfl rfl rfl ?_
              refine xw_aload_n dX4_next_160 rfl rfl ?_
              refine yw_getI (v := nI 0) dX4_next_161 fX4_41 rfl (la_2 hW) (xi_e) ?_
              refine xw_iconst (v := nI 4) dX4_next_164 rfl ?_
              refine xw_iceq (tgt := 172) dX4_next_165 (by decide) (fun c => ?_) (fun c => ?_)
              · replace k := k.1 c
                refine xw_aload_n dX4_next_172 rfl rfl ?_
                refine xw_iconst (v := nI 1) dX4_next_173 rfl ?_
                refine xw_aload_n dX4_next_174 rfl rfl ?_
                refine yw_getI (v := I 2 2) dX4_next_175 fX4_90 rfl (la_2 hW) ((xi_s (j := 4) (k := 3) (by decide)).trans (xi_e)) ?_
                refine yw_sub (lv' := [xU, xU]) ⟨Or.inl rfl, Or.inl rfl, trivial⟩ ?_
                exact yw_cV (As := [.int (nI 1), .int (I 2 2)]) (b := 2) (st := []) dX4_next_178 lX4_59 kiX4_refuse kvX4_refuse rfl rfl rfl (la_2 hW) rfl (Nat.le_of_ble_eq_true rfl) rfl (xk_V k)
              · replace k := k.2 c
                refine xw_iload_n dX4_next_168 rfl rfl ?_
                refine xw_ifeq (tgt := 181) dX4_next_169 (by decide) (fun _ => ?_) (fun c => absurd (by decide) c)
                exact yw_vret dX4_next_181 rfl k
            · replace k := k.2 c
              refine xw_aload_n dX4_next_141 rfl rfl ?_
              refine yw_getI (v := I 2 2) dX4_next_142 fX4_71 rfl (la_2 hW) ((xi_s (j := 2) (k := 3) (by decide)).trans (xi_s (j := 2) (k := 4) (by decide))) ?_
              refine xw_aload_n dX4_next_145 rfl rfl ?_
              refine yw_getI (v := I 2 2) dX4_next_146 fX4_90 rfl (la_2 hW) ((xi_s (j := 4) (k := 3) (by decide)).trans (xi_e)) ?_
              refine xw_isub dX4_next_149 ?_
              refine xw_iconst (v := nI 2) dX4_next_150 rfl ?_
              refine xw_icle (tgt := 158) dX4_next_151 (by decide) (fun c => ?_) (fun c => ?_)
              · replace k := k.1 c
                refine xw_iconst (v := nI 0) dX4_next_158 rfl ?_
                refine yw_istore_n (lv' := [.ref 2, .int (nI 0)]) dX4_next_159 rfl rfl rfl rfl ?_
                refine xw_aload_n dX4_next_160 rfl rfl ?_
                refine yw_getI (v := nI 0) dX4_next_161 fX4_41 rfl (la_2 hW) (xi_e) ?_
                refine xw_iconst (v := nI 4) dX4_next_164 rfl ?_
                refine xw_iceq (tgt := 172) dX4_next_165 (by decide) (fun c => ?_) (fun c => ?_)
                · replace k := k.1 c
                  refine xw_aload_n dX4_next_172 rfl rfl ?_
                  refine xw_iconst (v := nI 1) dX4_next_173 rfl ?_
                  refine xw_aload_n dX4_next_174 rfl rfl ?_
                  refine yw_getI (v := I 2 2) dX4_next_175 fX4_90 rfl (la_2 hW) ((xi_s (j := 4) (k := 3) (by decide)).trans (xi_e)) ?_
                  refine yw_sub (lv' := [xU, xU]) ⟨Or.inl rfl, Or.inl rfl, trivial⟩ ?_
                  exact yw_cV (As := [.int (nI 1), .int (I 2 2)]) (b := 2) (st := []) dX4_next_178 lX4_59 kiX4_refuse kvX4_refuse rfl rfl rfl (la_2 hW) rfl (Nat.le_of_ble_eq_true rfl) rfl (xk_V k)
                · replace k := k.2 c
                  refine xw_iload_n dX4_next_168 rfl rfl ?_
                  refine xw_ifeq (tgt := 181) dX4_next_169 (by decide) (fun _ => ?_) (fun c => absurd (by decide) c)
                  exact yw_vret dX4_next_181 rfl k
              · replace k := k.2 c
                refine xw_iconst (v := nI 1) dX4_next_154 rfl ?_
                refine xw_goto (tgt := 159) dX4_next_155 (by decide) ?_
                refine yw_istore_n (lv' := [.ref 2, .int (nI 1)]) dX4_next_159 rfl rfl rfl rfl ?_
                refine xw_aload_n dX4_next_160 rfl rfl ?_
                refine yw_getI (v := nI 0) dX4_next_161 fX4_41 rfl (la_2 hW) (xi_e) ?_
                refine xw_iconst (v := nI 4) dX4_next_164 rfl ?_
                refine xw_iceq (tgt := 172) dX4_next_165 (by decide) (fun c => ?_) (fun c => ?_)
                · replace k := k.1 c
                  refine xw_aload_n dX4_next_172 rfl rfl ?_
                  refine xw_iconst (v := nI 1) dX4_next_173 rfl ?_
                  refine xw_aload_n dX4_next_174 rfl rfl ?_
                  refine yw_getI (v := I 2 2) dX4_next_175 fX4_90 rfl (la_2 hW) ((xi_s (j := 4) (k := 3) (by decide)).trans (xi_e)) ?_
                  refine yw_sub (lv' := [xU, xU]) ⟨Or.inl rfl, Or.inl rfl, trivial⟩ ?_
                  exact yw_cV (As := [.int (nI 1), .int (I 2 2)]) (b := 2) (st := []) dX4_next_178 lX4_59 kiX4_refuse kvX4_refuse rfl rfl rfl (la_2 hW) rfl (Nat.le_of_ble_eq_true rfl) rfl (xk_V k)
                · replace k := k.2 c
                  refine xw_iload_n dX4_next_168 rfl rfl ?_
                  refine xw_ifeq (tgt := 181) dX4_next_169 (by decide) (fun c => absurd c (by decide)) (fun _ => ?_)
                  refine xw_aload_n dX4_next_172 rfl rfl ?_
                  refine xw_iconst (v := nI 1) dX4_next_173 rfl ?_
                  refine xw_aload_n dX4_next_174 rfl rfl ?_
                  refine yw_getI (v := I 2 2) dX4_next_175 fX4_90 rfl (la_2 hW) ((xi_s (j := 4) (k := 3) (by decide)).trans (xi_e)) ?_
                  refine yw_sub (lv' := [xU, xU]) ⟨Or.inl rfl, Or.inl rfl, trivial⟩ ?_
                  exact yw_cV (As := [.int (nI 1), .int (I 2 2)]) (b := 2) (st := []) dX4_next_178 lX4_59 kiX4_refuse kvX4_refuse rfl rfl rfl (la_2 hW) rfl (Nat.le_of_ble_eq_true rfl) rfl (xk_V k)
          · replace k := k.2 c
            refine xw_aload_n dX4_next_123 rfl rfl ?_
            refine xw_dup dX4_next_124 rfl ?_
            refine yw_getI (v := I 2 2) dX4_next_125 fX4_71 rfl (la_2 hW) ((xi_s (j := 2) (k := 3) (by decide)).trans (xi_s (j := 2) (k := 4) (by decide))) ?_
            refine xw_iconst (v := nI 1) dX4_next_128 rfl ?_
            refine xw_iadd dX4_next_129 ?_
            refine yw_putI dX4_next_130 fX4_71 (fun r h => by cases h; exact Or.inl rfl) rfl (la_2 hW) ?_
            refine xw_aload_n dX4_next_133 rfl rfl ?_
            refine yw_getI (v := nI 0) dX4_next_134 fX4_41 rfl (la_2 hW) ((xi_s (j := 3) (k := 2) (by decide)).trans (xi_e)) ?_
            refine xw_iconst (v := nI 2) dX4_next_137 rfl ?_
            refine xw_icne (tgt := 158) dX4_next_138 (by decide) (fun c => ?_) (fun c => ?_)
            · replace k := k.1 c
              refine xw_iconst (v := nI 0) dX4_next_158 rfl ?_
              refine yw_istore_n (lv' := [.ref 2, .int (nI 0)]) dX4_next_159 rfl rfl rfl rfl ?_
              refine xw_aload_n dX4_next_160 rfl rfl ?_
              refine yw_getI (v := nI 0) dX4_next_161 fX4_41 rfl (la_2 hW) ((xi_s (j := 3) (k := 2) (by decide)).trans (xi_e)) ?_
              refine xw_iconst (v := nI 4) dX4_next_164 rfl ?_
              refine xw_iceq (tgt := 172) dX4_next_165 (by decide) (fun c => ?_) (fun c => ?_)
              · replace k := k.1 c
                refine xw_aload_n dX4_next_172 rfl rfl ?_
                refine xw_iconst (v := nI 1) dX4_next_173 rfl ?_
                refine xw_aload_n dX4_next_174 rfl rfl ?_
                refine yw_getI (v := I 2 2) dX4_next_175 fX4_90 rfl (la_2 hW) ((xi_s (j := 4) (k := 2) (by decide)).trans ((xi_s (j := 4) (k := 3) (by decide)).trans (xi_e))) ?_
                refine yw_sub (lv' := [xU, xU]) ⟨Or.inl rfl, Or.inl rfl, trivial⟩ ?_
                exact yw_cV (As := [.int (nI 1), .int (I 2 2)]) (b := 2) (st := []) dX4_next_178 lX4_59 kiX4_refuse kvX4_refuse rfl rfl rfl (la_2 hW) rfl (Nat.le_of_ble_eq_true rfl) rfl (xk_V k)
              · replace k := k.2 c
                refine xw_iload_n dX4_next_168 rfl rfl ?_
                refine xw_ifeq (tgt := 181) dX4_next_169 (by decide) (fun _ => ?_) (fun c => absurd (by decide) c)
                exact yw_vret dX4_next_181 rfl k
            · replace k := k.2 c
              refine xw_aload_n dX4_next_141 rfl rfl ?_
              refine yw_getI (v := (I 2 2) + (nI 1)) dX4_next_142 fX4_71 rfl (la_2 hW) (xi_e) ?_
              refine xw_aload_n dX4_next_145 rfl rfl ?_
              refine yw_getI (v := I 2 2) dX4_next_146 fX4_90 rfl (la_2 hW) ((xi_s (j := 4) (k := 2) (by decide)).trans ((xi_s (j := 4) (k := 3) (by decide)).trans (xi_e))) ?_
              refine xw_isub dX4_next_149 ?_
              refine xw_iconst (v := nI 2) dX4_next_150 rfl ?_
              refine xw_icle (tgt := 158) dX4_next_151 (by decide) (fun c => ?_) (fun c => ?_)
              · replace k := k.1 c
                refine xw_iconst (v := nI 0) dX4_next_158 rfl ?_
                refine yw_istore_n (lv' := [.ref 2, .int (nI 0)]) dX4_next_159 rfl rfl rfl rfl ?_
                refine xw_aload_n dX4_next_160 rfl rfl ?_
                refine yw_getI (v := nI 0) dX4_next_161 fX4_41 rfl (la_2 hW) ((xi_s (j := 3) (k := 2) (by decide)).trans (xi_e)) ?_
                refine xw_iconst (v := nI 4) dX4_next_164 rfl ?_
                refine xw_iceq (tgt := 172) dX4_next_165 (by decide) (fun c => ?_) (fun c => ?_)
                · replace k := k.1 c
                  refine xw_aload_n dX4_next_172 rfl rfl ?_
                  refine xw_iconst (v := nI 1) dX4_next_173 rfl ?_
                  refine xw_aload_n dX4_next_174 rfl rfl ?_
                  refine yw_getI (v := I 2 2) dX4_next_175 fX4_90 rfl (la_2 hW) ((xi_s (j := 4) (k := 2) (by decide)).trans ((xi_s (j := 4) (k := 3) (by decide)).trans (xi_e))) ?_
                  refine yw_sub (lv' := [xU, xU]) ⟨Or.inl rfl, Or.inl rfl, trivial⟩ ?_
                  exact yw_cV (As := [.int (nI 1), .int (I 2 2)]) (b := 2) (st := []) dX4_next_178 lX4_59 kiX4_refuse kvX4_refuse rfl rfl rfl (la_2 hW) rfl (Nat.le_of_ble_eq_true rfl) rfl (xk_V k)
                · replace k := k.2 c
                  refine xw_iload_n dX4_next_168 rfl rfl ?_
                  refine xw_ifeq (tgt := 181) dX4_next_169 (by decide) (fun _ => ?_) (fun c => absurd (by decide) c)
                  exact yw_vret dX4_next_181 rfl k
              · replace k := k.2 c
                refine xw_iconst (v := nI 1) dX4_next_154 rfl ?_
                refine xw_goto (tgt := 159) dX4_next_155 (by decide) ?_
                refine yw_istore_n (lv' := [.ref 2, .int (nI 1)]) dX4_next_159 rfl rfl rfl rfl ?_
                refine xw_aload_n dX4_next_160 rfl rfl ?_
                refine yw_getI (v := nI 0) dX4_next_161 fX4_41 rfl (la_2 hW) ((xi_s (j := 3) (k := 2) (by decide)).trans (xi_e)) ?_
                refine xw_iconst (v := nI 4) dX4_next_164 rfl ?_
                refine xw_iceq (tgt := 172) dX4_next_165 (by decide) (fun c => ?_) (fun c => ?_)
                · replace k := k.1 c
                  refine xw_aload_n dX4_next_172 rfl rfl ?_
                  refine xw_iconst (v := nI 1) dX4_next_173 rfl ?_
                  refine xw_aload_n dX4_next_174 rfl rfl ?_
                  refine yw_getI (v := I 2 2) dX4_next_175 fX4_90 rfl (la_2 hW) ((xi_s (j := 4) (k := 2) (by decide)).trans ((xi_s (j := 4) (k := 3) (by decide)).trans (xi_e))) ?_
                  refine yw_sub (lv' := [xU, xU]) ⟨Or.inl rfl, Or.inl rfl, trivial⟩ ?_
                  exact yw_cV (As := [.int (nI 1), .int (I 2 2)]) (b := 2) (st := []) dX4_next_178 lX4_59 kiX4_refuse kvX4_refuse rfl rfl rfl (la_2 hW) rfl (Nat.le_of_ble_eq_true rfl) rfl (xk_V k)
                · replace k := k.2 c
                  refine xw_iload_n dX4_next_168 rfl rfl ?_
                  refine xw_ifeq (tgt := 181) dX4_next_169 (by decide) (fun c => absurd c (by decide)) (fun _ => ?_)
                  refine xw_aload_n dX4_next_172 rfl rfl ?_
                  refine xw_iconst (v := nI 1) dX4_next_173 rfl ?_
                  refine xw_aload_n dX4_next_174 rfl rfl ?_
                  refine yw_getI (v := I 2 2) dX4_next_175 fX4_90 rfl (la_2 hW) ((xi_s (j := 4) (k := 2) (by decide)).trans ((xi_s (j := 4) (k := 3) (by decide)).trans (xi_e))) ?_
                  refine yw_sub (lv' := [xU, xU]) ⟨Or.inl rfl, Or.inl rfl, trivial⟩ ?_
                  exact yw_cV (As := [.int (nI 1), .int (I 2 2)]) (b := 2) (st := []) dX4_next_178 lX4_59 kiX4_refuse kvX4_refuse rfl rfl rfl (la_2 hW) rfl (Nat.le_of_ble_eq_true rfl) rfl (xk_V k)
        · replace k := k.2 c
          refine xw_aload_n dX4_next_108 rfl rfl ?_
          exact yw_cV (As := []) (b := 2) (st := []) dX4_next_109 lX4_158 kiX4_readNumber kvX4_readNumber rfl rfl rfl (la_2 hW) rfl (Nat.le_of_ble_eq_true rfl) rfl (xk_V k)
      · replace k := k.2 c
        refine xw_aload_n dX4_next_93 rfl rfl ?_
        exact yw_cV (As := []) (b := 2) (st := []) dX4_next_94 lX4_155 kiX4_readName kvX4_readName rfl rfl rfl (la_2 hW) rfl (Nat.le_of_ble_eq_true rfl) rfl (xk_V k)
    · replace k := k.2 c
      refine xw_aload_n dX4_next_66 rfl rfl ?_
      refine yw_getR (r := 3) dX4_next_67 fX4_11 rfl (la_2 hW) (lr_2_0 hW) ?_
      refine xw_aload_n dX4_next_70 rfl rfl ?_
      refine yw_getI (v := I 2 2) dX4_next_71 fX4_71 rfl (la_2 hW) (xi_s (j := 2) (k := 4) (by decide)) ?_
      obtain ⟨k0, k⟩ := k
      refine yw_baload (v := I 3 ((I 2 2).toNatClampNeg)) dX4_next_74 (la_3 hW) k0 (xi_p (a := 3) (q := 2) (by decide)) ?_
      exact yw_cS (As := [.int (I 3 ((I 2 2).toNatClampNeg))]) (st := [.ref 2]) dX4_next_75 lX4_151 ksX4_kindOfToken rfl rfl rfl (Nat.le_of_ble_eq_true rfl) rfl (xk_I k)
  · replace k := k.2 c
    refine xw_aload_n dX4_next_19 rfl rfl ?_
    refine yw_getR (r := 3) dX4_next_20 fX4_11 rfl (la_2 hW) (lr_2_0 hW) ?_
    refine xw_aload_n dX4_next_23 rfl rfl ?_
    refine yw_getI (v := I 2 2) dX4_next_24 fX4_71 rfl (la_2 hW) rfl ?_
    obtain ⟨k0, k⟩ := k
    refine yw_baload (v := I 3 ((I 2 2).toNatClampNeg)) dX4_next_27 (la_3 hW) k0 rfl ?_
    refine xw_bipush (v := nI 32) dX4_next_28 (by decide) ?_
    refine xw_icne (tgt := 46) dX4_next_30 (by decide) (fun c => ?_) (fun c => ?_)
    · replace k := k.1 c
      refine xw_aload_n dX4_next_46 rfl rfl ?_
      refine xw_aload_n dX4_next_47 rfl rfl ?_
      refine yw_getI (v := I 2 2) dX4_next_48 fX4_71 rfl (la_2 hW) rfl ?_
      refine yw_putI dX4_next_51 fX4_90 (fun r h => by cases h; exact Or.inl rfl) rfl (la_2 hW) ?_
      refine xw_aload_n dX4_next_54 rfl rfl ?_
      refine xw_aload_n dX4_next_55 rfl rfl ?_
      refine yw_getI (v := I 2 2) dX4_next_56 fX4_71 rfl (la_2 hW) (xi_s (j := 2) (k := 4) (by decide)) ?_
      refine xw_aload_n dX4_next_59 rfl rfl ?_
      refine yw_getI (v := I 2 1) dX4_next_60 fX4_28 rfl (la_2 hW) (xi_s (j := 1) (k := 4) (by decide)) ?_
      refine xw_icge (tgt := 81) dX4_next_63 (by decide) (fun c => ?_) (fun c => ?_)
      · replace k := k.1 c
        refine xw_iconst (v := nI 0) dX4_next_81 rfl ?_
        refine yw_putI dX4_next_82 fX4_41 (fun r h => by cases h; exact Or.inl rfl) rfl (la_2 hW) ?_
        refine xw_aload_n dX4_next_85 rfl rfl ?_
        refine yw_getI (v := nI 0) dX4_next_86 fX4_41 rfl (la_2 hW) (xi_e) ?_
        refine xw_iconst (v := nI 1) dX4_next_89 rfl ?_
        refine xw_icne (tgt := 100) dX4_next_90 (by decide) (fun c => ?_) (fun c => ?_)
        · replace k := k.1 c
          refine xw_aload_n dX4_next_100 rfl rfl ?_
          refine yw_getI (v := nI 0) dX4_next_101 fX4_41 rfl (la_2 hW) (xi_e) ?_
          refine xw_iconst (v := nI 2) dX4_next_104 rfl ?_
          refine xw_icne (tgt := 115) dX4_next_105 (by decide) (fun c => ?_) (fun c => ?_)
          · replace k := k.1 c
            refine xw_aload_n dX4_next_115 rfl rfl ?_
            refine yw_getI (v := nI 0) dX4_next_116 fX4_41 rfl (la_2 hW) (xi_e) ?_
            refine xw_iconst (v := nI 3) dX4_next_119 rfl ?_
            refine xw_icne (tgt := 133) dX4_next_120 (by decide) (fun c => ?_) (fun c => ?_)
            · replace k := k.1 c
              refine xw_aload_n dX4_next_133 rfl rfl ?_
              refine yw_getI (v := nI 0) dX4_next_134 fX4_41 rfl (la_2 hW) (xi_e) ?_
              refine xw_iconst (v := nI 2) dX4_next_137 rfl ?_
              refine xw_icne (tgt := 158) dX4_next_138 (by decide) (fun c => ?_) (fun c => ?_)
              · replace k := k.1 c
                refine xw_iconst (v := nI 0) dX4_next_158 rfl ?_
                refine yw_istore_n (lv' := [.ref 2, .int (nI 0)]) dX4_next_159 rfl rfl rfl rfl ?_
                refine xw_aload_n dX4_next_160 rfl rfl ?_
                refine yw_getI (v := nI 0) dX4_next_161 fX4_41 rfl (la_2 hW) (xi_e) ?_
                refine xw_iconst (v := nI 4) dX4_next_164 rfl ?_
                refine xw_iceq (tgt := 172) dX4_next_165 (by decide) (fun c => ?_) (fun c => ?_)
                · replace k := k.1 c
                  refine xw_aload_n dX4_next_172 rfl rfl ?_
                  refine xw_iconst (v := nI 1) dX4_next_173 rfl ?_
                  refine xw_aload_n dX4_next_174 rfl rfl ?_
                  refine yw_getI (v := I 2 2) dX4_next_175 fX4_90 rfl (la_2 hW) ((xi_s (j := 4) (k := 3) (by decide)).trans (xi_e)) ?_
                  refine yw_sub (lv' := [xU, xU]) ⟨Or.inl rfl, Or.inl rfl, trivial⟩ ?_
                  exact yw_cV (As := [.int (nI 1), .int (I 2 2)]) (b := 2) (st := []) dX4_next_178 lX4_59 kiX4_refuse kvX4_refuse rfl rfl rfl (la_2 hW) rfl (Nat.le_of_ble_eq_true rfl) rfl (xk_V k)
                · replace k := k.2 c
                  refine xw_iload_n dX4_next_168 rfl rfl ?_
                  refine xw_ifeq (tgt := 181) dX4_next_169 (by decide) (fun _ => ?_) (fun c => absurd (by decide) c)
                  exact yw_vret dX4_next_181 rfl k
              · replace k := k.2 c
                refine xw_aload_n dX4_next_141 rfl rfl ?_
                refine yw_getI (v := I 2 2) dX4_next_142 fX4_71 rfl (la_2 hW) ((xi_s (j := 2) (k := 3) (by decide)).trans (xi_s (j := 2) (k := 4) (by decide))) ?_
                refine xw_aload_n dX4_next_145 rfl rfl ?_
                refine yw_getI (v := I 2 2) dX4_next_146 fX4_90 rfl (la_2 hW) ((xi_s (j := 4) (k := 3) (by decide)).trans (xi_e)) ?_
                refine xw_isub dX4_next_149 ?_
                refine xw_iconst (v := nI 2) dX4_next_150 rfl ?_
                refine xw_icle (tgt := 158) dX4_next_151 (by decide) (fun c => ?_) (fun c => ?_)
                · replace k := k.1 c
                  refine xw_iconst (v := nI 0) dX4_next_158 rfl ?_
                  refine yw_istore_n (lv' := [.ref 2, .int (nI 0)]) dX4_next_159 rfl rfl rfl rfl ?_
                  refine xw_aload_n dX4_next_160 rfl rfl ?_
                  refine yw_getI (v := nI 0) dX4_next_161 fX4_41 rfl (la_2 hW) (xi_e) ?_
                  refine xw_iconst (v := nI 4) dX4_next_164 rfl ?_
                  refine xw_iceq (tgt := 172) dX4_next_165 (by decide) (fun c => ?_) (fun c => ?_)
                  · replace k := k.1 c
                    refine xw_aload_n dX4_next_172 rfl rfl ?_
                    refine xw_iconst (v := nI 1) dX4_next_173 rfl ?_
                    refine xw_aload_n dX4_next_174 rfl rfl ?_
                    refine yw_getI (v := I 2 2) dX4_next_175 fX4_90 rfl (la_2 hW) ((xi_s (j := 4) (k := 3) (by decide)).trans (xi_e)) ?_
                    refine yw_sub (lv' := [xU, xU]) ⟨Or.inl rfl, Or.inl rfl, trivial⟩ ?_
                    exact yw_cV (As := [.int (nI 1), .int (I 2 2)]) (b := 2) (st := []) dX4_next_178 lX4_59 kiX4_refuse kvX4_refuse rfl rfl rfl (la_2 hW) rfl (Nat.le_of_ble_eq_true rfl) rfl (xk_V k)
                  · replace k := k.2 c
                    refine xw_iload_n dX4_next_168 rfl rfl ?_
                    refine xw_ifeq (tgt := 181) dX4_next_169 (by decide) (fun _ => ?_) (fun c => absurd (by decide) c)
                    exact yw_vret dX4_next_181 rfl k
                · replace k := k.2 c
                  refine xw_iconst (v := nI 1) dX4_next_154 rfl ?_
                  refine xw_goto (tgt := 159) dX4_next_155 (by decide) ?_
                  refine yw_istore_n (lv' := [.ref 2, .int (nI 1)]) dX4_next_159 rfl rfl rfl rfl ?_
                  refine xw_aload_n dX4_next_160 rfl rfl ?_
                  refine yw_getI (v := nI 0) dX4_next_161 fX4_41 rfl (la_2 hW) (xi_e) ?_
                  refine xw_iconst (v := nI 4) dX4_next_164 rfl ?_
                  refine xw_iceq (tgt := 172) dX4_next_165 (by decide) (fun c => ?_) (fun c => ?_)
                  · replace k := k.1 c
                    refine xw_aload_n dX4_next_172 rfl rfl ?_
                    refine xw_iconst (v := nI 1) dX4_next_173 rfl ?_
                    refine xw_aload_n dX4_next_174 rfl rfl ?_
                    refine yw_getI (v := I 2 2) dX4_next_175 fX4_90 rfl (la_2 hW) ((xi_s (j := 4) (k := 3) (by decide)).trans (xi_e)) ?_
                    refine yw_sub (lv' := [xU, xU]) ⟨Or.inl rfl, Or.inl rfl, trivial⟩ ?_
                    exact yw_cV (As := [.int (nI 1), .int (I 2 2)]) (b := 2) (st := []) dX4_next_178 lX4_59 kiX4_refuse kvX4_refuse rfl rfl rfl (la_2 hW) rfl (Nat.le_of_ble_eq_true rfl) rfl (xk_V k)
                  · replace k := k.2 c
                    refine xw_iload_n dX4_next_168 rfl rfl ?_
                    refine xw_ifeq (tgt := 181) dX4_next_169 (by decide) (fun c => absurd c (by decide)) (fun _ => ?_)
                    refine xw_aload_n dX4_next_172 rfl rfl ?_
                    refine xw_iconst (v := nI 1) dX4_next_173 rfl ?_
                    refine xw_aload_n dX4_next_174 rfl rfl ?_
                    refine yw_getI (v := I 2 2) dX4_next_175 fX4_90 rfl (la_2 hW) ((xi_s (j := 4) (k := 3) (by decide)).trans (xi_e)) ?_
                    refine yw_sub (lv' := [xU, xU]) ⟨Or.inl rfl, Or.inl rfl, trivial⟩ ?_
                    exact yw_cV (As := [.int (nI 1), .int (I 2 2)]) (b := 2) (st := []) dX4_next_178 lX4_59 kiX4_refuse kvX4_refuse rfl rfl rfl (la_2 hW) rfl (Nat.le_of_ble_eq_true rfl) rfl (xk_V k)
            · replace k := k.2 c
              refine xw_aload_n dX4_next_123 rfl rfl ?_
              refine xw_dup dX4_next_124 rfl ?_
              refine yw_getI (v := I 2 2) dX4_next_125 fX4_71 rfl (la_2 hW) ((xi_s (j := 2) (k := 3) (by decide)).trans (xi_s (j := 2) (k := 4) (by decide))) ?_
              refine xw_iconst (v := nI 1) dX4_next_128 rfl ?_
              refine xw_iadd dX4_next_129 ?_
              refine yw_putI dX4_next_130 fX4_71 (fun r h => by cases h; exact Or.inl rfl) rfl (la_2 hW) ?_
              refine xw_aload_n dX4_next_133 rfl rfl ?_
              refine yw_getI (v := nI 0) dX4_next_134 fX4_41 rfl (la_2 hW) ((xi_s (j := 3) (k := 2) (by decide)).trans (xi_e)) ?_
              refine xw_iconst (v := nI 2) dX4_next_137 rfl ?_
              refine xw_icne (tgt := 158) dX4_next_138 (by decide) (fun c => ?_) (fun c => ?_)
              · replace k := k.1 c
                refine xw_iconst (v := nI 0) dX4_next_158 rfl ?_
                refine yw_istore_n (lv' := [.ref 2, .int (nI 0)]) dX4_next_159 rfl rfl rfl rfl ?_
                refine xw_aload_n dX4_next_160 rfl rfl ?_
                refine yw_getI (v := nI 0) dX4_next_161 fX4_41 rfl (la_2 hW) ((xi_s (j := 3) (k := 2) (by decide)).trans (xi_e)) ?_
                refine xw_iconst (v := nI 4) dX4_next_164 rfl ?_
                refine xw_iceq (tgt := 172) dX4_next_165 (by decide) (fun c => ?_) (fun c => ?_)
                · replace k := k.1 c
                  refine xw_aload_n dX4_next_172 rfl rfl ?_
                  refine xw_iconst (v := nI 1) dX4_next_173 rfl ?_
                  refine xw_aload_n dX4_next_174 rfl rfl ?_
                  refine yw_getI (v := I 2 2) dX4_next_175 fX4_90 rfl (la_2 hW) ((xi_s (j := 4) (k := 2) (by decide)).trans ((xi_s (j := 4) (k := 3) (by decide)).trans (xi_e))) ?_
                  refine yw_sub (lv' := [xU, xU]) ⟨Or.inl rfl, Or.inl rfl, trivial⟩ ?_
                  exact yw_cV (As := [.int (nI 1), .int (I 2 2)]) (b := 2) (st := []) dX4_next_178 lX4_59 kiX4_refuse kvX4_refuse rfl rfl rfl (la_2 hW) rfl (Nat.le_of_ble_eq_true rfl) rfl (xk_V k)
                · replace k := k.2 c
                  refine xw_iload_n dX4_next_168 rfl rfl ?_
                  refine xw_ifeq (tgt := 181) dX4_next_169 (by decide) (fun _ => ?_) (fun c => absurd (by decide) c)
                  exact yw_vret dX4_next_181 rfl k
              · replace k := k.2 c
                refine xw_aload_n dX4_next_141 rfl rfl ?_
                refine yw_getI (v := (I 2 2) + (nI 1)) dX4_next_142 fX4_71 rfl (la_2 hW) (xi_e) ?_
                refine xw_aload_n dX4_next_145 rfl rfl ?_
                refine yw_getI (v := I 2 2) dX4_next_146 fX4_90 rfl (la_2 hW) ((xi_s (j := 4) (k := 2) (by decide)).trans ((xi_s (j := 4) (k := 3) (by decide)).trans (xi_e))) ?_
                refine xw_isub dX4_next_149 ?_
                refine xw_iconst (v := nI 2) dX4_next_150 rfl ?_
                refine xw_icle (tgt := 158) dX4_next_151 (by decide) (fun c => ?_) (fun c => ?_)
                · replace k := k.1 c
                  refine xw_iconst (v := nI 0) dX4_next_158 rfl ?_
                  refine yw_istore_n (lv' := [.ref 2, .int (nI 0)]) dX4_next_159 rfl rfl rfl rfl ?_
                  refine xw_aload_n dX4_next_160 rfl rfl ?_
                  refine yw_getI (v := nI 0) dX4_next_161 fX4_41 rfl (la_2 hW) ((xi_s (j := 3) (k := 2) (by decide)).trans (xi_e)) ?_
                  refine xw_iconst (v := nI 4) dX4_next_164 rfl ?_
                  refine xw_iceq (tgt := 172) dX4_next_165 (by decide) (fun c => ?_) (fun c => ?_)
                  · replace k := k.1 c
                    refine xw_aload_n dX4_next_172 rfl rfl ?_
                    refine xw_iconst (v := nI 1) dX4_next_173 rfl ?_
                    refine xw_aload_n dX4_next_174 rfl rfl ?_
                    refine yw_getI (v := I 2 2) dX4_next_175 fX4_90 rfl (la_2 hW) ((xi_s (j := 4) (k := 2) (by decide)).trans ((xi_s (j := 4) (k := 3) (by decide)).trans (xi_e))) ?_
                    refine yw_sub (lv' := [xU, xU]) ⟨Or.inl rfl, Or.inl rfl, trivial⟩ ?_
                    exact yw_cV (As := [.int (nI 1), .int (I 2 2)]) (b := 2) (st := []) dX4_next_178 lX4_59 kiX4_refuse kvX4_refuse rfl rfl rfl (la_2 hW) rfl (Nat.le_of_ble_eq_true rfl) rfl (xk_V k)
                  · replace k := k.2 c
                    refine xw_iload_n dX4_next_168 rfl rfl ?_
                    refine xw_ifeq (tgt := 181) dX4_next_169 (by decide) (fun _ => ?_) (fun c => absurd (by decide) c)
                    exact yw_vret dX4_next_181 rfl k
                · replace k := k.2 c
                  refine xw_iconst (v := nI 1) dX4_next_154 rfl ?_
                  refine xw_goto (tgt := 159) dX4_next_155 (by decide) ?_
                  refine yw_istore_n (lv' := [.ref 2, .int (nI 1)]) dX4_next_159 rfl rfl rfl rfl ?_
                  refine xw_aload_n dX4_next_160 rfl rfl ?_
                  refine yw_getI (v := nI 0) dX4_next_161 fX4_41 rfl (la_2 hW) ((xi_s (j := 3) (k := 2) (by decide)).trans (xi_e)) ?_
                  refine xw_iconst (v := nI 4) dX4_next_164 rfl ?_
                  refine xw_iceq (tgt := 172) dX4_next_165 (by decide) (fun c => ?_) (fun c => ?_)
                  · replace k := k.1 c
                    refine xw_aload_n dX4_next_172 rfl rfl ?_
                    refine xw_iconst (v := nI 1) dX4_next_173 rfl ?_
                    refine xw_aload_n dX4_next_174 rfl rfl ?_
                    refine yw_getI (v := I 2 2) dX4_next_175 fX4_90 rfl (la_2 hW) ((xi_s (j := 4) (k := 2) (by decide)).trans ((xi_s (j := 4) (k := 3) (by decide)).trans (xi_e))) ?_
                    refine yw_sub (lv' := [xU, xU]) ⟨Or.inl rfl, Or.inl rfl, trivial⟩ ?_
                    exact yw_cV (As := [.int (nI 1), .int (I 2 2)]) (b := 2) (st := []) dX4_next_178 lX4_59 kiX4_refuse kvX4_refuse rfl rfl rfl (la_2 hW) rfl (Nat.le_of_ble_eq_true rfl) rfl (xk_V k)
                  · replace k := k.2 c
                    refine xw_iload_n dX4_next_168 rfl rfl ?_
                    refine xw_ifeq (tgt := 181) dX4_next_169 (by decide) (fun c => absurd c (by decide)) (fun _ => ?_)
                    refine xw_aload_n dX4_next_172 rfl rfl ?_
                    refine xw_iconst (v := nI 1) dX4_next_173 rfl ?_
                    refine xw_aload_n dX4_next_174 rfl rfl ?_
                    refine yw_getI (v := I 2 2) dX4_next_175 fX4_90 rfl (la_2 hW) ((xi_s (j := 4) (k := 2) (by decide)).trans ((xi_s (j := 4) (k := 3) (by decide)).trans (xi_e))) ?_
                    refine yw_sub (lv' := [xU, xU]) ⟨Or.inl rfl, Or.inl rfl, trivial⟩ ?_
                    exact yw_cV (As := [.int (nI 1), .int (I 2 2)]) (b := 2) (st := []) dX4_next_178 lX4_59 kiX4_refuse kvX4_refuse rfl rfl rfl (la_2 hW) rfl (Nat.le_of_ble_eq_true rfl) rfl (xk_V k)
          · replace k := k.2 c
            refine xw_aload_n dX4_next_108 rfl rfl ?_
            exact yw_cV (As := []) (b := 2) (st := []) dX4_next_109 lX4_158 kiX4_readNumber kvX4_readNumber rfl rfl rfl (la_2 hW) rfl (Nat.le_of_ble_eq_true rfl) rfl (xk_V k)
        · replace k := k.2 c
          refine xw_aload_n dX4_next_93 rfl rfl ?_
          exact yw_cV (As := []) (b := 2) (st := []) dX4_next_94 lX4_155 kiX4_readName kvX4_readName rfl rfl rfl (la_2 hW) rfl (Nat.le_of_ble_eq_true rfl) rfl (xk_V k)
      · replace k := k.2 c
        refine xw_aload_n dX4_next_66 rfl rfl ?_
        refine yw_getR (r := 3) dX4_next_67 fX4_11 rfl (la_2 hW) (lr_2_0 hW) ?_
        refine xw_aload_n dX4_next_70 rfl rfl ?_
        refine yw_getI (v := I 2 2) dX4_next_71 fX4_71 rfl (la_2 hW) (xi_s (j := 2) (k := 4) (by decide)) ?_
        obtain ⟨k0, k⟩ := k
        refine yw_baload (v := I 3 ((I 2 2).toNatClampNeg)) dX4_next_74 (la_3 hW) k0 (xi_p (a := 3) (q := 2) (by decide)) ?_
        exact yw_cS (As := [.int (I 3 ((I 2 2).toNatClampNeg))]) (st := [.ref 2]) dX4_next_75 lX4_151 ksX4_kindOfToken rfl rfl rfl (Nat.le_of_ble_eq_true rfl) rfl (xk_I k)
    · replace k := k.2 c
      refine xw_aload_n dX4_next_33 rfl rfl ?_
      refine xw_dup dX4_next_34 rfl ?_
      refine yw_getI (v := I 2 2) dX4_next_35 fX4_71 rfl (la_2 hW) rfl ?_
      refine xw_iconst (v := nI 1) dX4_next_38 rfl ?_
      refine xw_iadd dX4_next_39 ?_
      refine yw_putI dX4_next_40 fX4_71 (fun r h => by cases h; exact Or.inl rfl) rfl (la_2 hW) ?_
      refine xw_goto (tgt := 8) dX4_next_43 (by decide) ?_
      exact k
theorem bX4_next_181 {mc ms : Nat} {Q : xHp → Prop} (hW : xLay sh R) 
    (k : Q (sh, I, R)) :
    Ex mX4_next 181 [xU, xU] [] (sh, I, R) mc ms (xqV Q) := by
  exact yw_vret dX4_next_181 rfl k
theorem bX4_next_112 {mc ms : Nat} {Q : xHp → Prop} (hW : xLay sh R) 
    (k : ((¬ (I 2 3) = (nI 2) → (((I 2 3) = (nI 4) → CV mX4_refuse [.ref 2, .int (nI 1), .int (I 2 4)] (sh, I, R) (fun h1 => Ex mX4_next 181 [xU, xU] [] h1 mc ms (xqV Q))) ∧ (¬ (I 2 3) = (nI 4) → Q (sh, I, R)))) ∧ ((I 2 3) = (nI 2) → ((((I 2 2) - (I 2 4)) ≤ (nI 2) → (((I 2 3) = (nI 4) → CV mX4_refuse [.ref 2, .int (nI 1), .int (I 2 4)] (sh, I, R) (fun h1 => Ex mX4_next 181 [xU, xU] [] h1 mc ms (xqV Q))) ∧ (¬ (I 2 3) = (nI 4) → Q (sh, I, R)))) ∧ (¬ ((I 2 2) - (I 2 4)) ≤ (nI 2) → (((I 2 3) = (nI 4) → CV mX4_refuse [.ref 2, .int (nI 1), .int (I 2 4)] (sh, I, R) (fun h1 => Ex mX4_next 181 [xU, xU] [] h1 mc ms (xqV Q))) ∧ (¬ (I 2 3) = (nI 4) → CV mX4_refuse [.ref 2, .int (nI 1), .int (I 2 4)] (sh, I, R) (fun h1 => Ex mX4_next 181 [xU, xU] [] h1 mc ms (xqV Q))))))))) :
    Ex mX4_next 112 [.ref 2, xU] [] (sh, I, R) mc ms (xqV Q) := by
  refine xw_goto (tgt := 133) dX4_next_112 (by decide) ?_
  refine xw_aload_n dX4_next_133 rfl rfl ?_
  refine yw_getI (v := I 2 3) dX4_next_134 fX4_41 rfl (la_2 hW) rfl ?_
  refine xw_iconst (v := nI 2) dX4_next_137 rfl ?_
  refine xw_icne (tgt := 158) dX4_next_138 (by decide) (fun c => ?_) (fun c => ?_)
  · replace k := k.1 c
    refine xw_iconst (v := nI 0) dX4_next_158 rfl ?_
    refine yw_istore_n (lv' := [.ref 2, .int (nI 0)]) dX4_next_159 rfl rfl rfl rfl ?_
    refine xw_aload_n dX4_next_160 rfl rfl ?_
    refine yw_getI (v := I 2 3) dX4_next_161 fX4_41 rfl (la_2 hW) rfl ?_
    refine xw_iconst (v := nI 4) dX4_next_164 rfl ?_
    refine xw_iceq (tgt := 172) dX4_next_165 (by decide) (fun c => ?_) (fun c => ?_)
    · replace k := k.1 c
      refine xw_aload_n dX4_next_172 rfl rfl ?_
      refine xw_iconst (v := nI 1) dX4_next_173 rfl ?_
      refine xw_aload_n dX4_next_174 rfl rfl ?_
      refine yw_getI (v := I 2 4) dX4_next_175 fX4_90 rfl (la_2 hW) rfl ?_
      refine yw_sub (lv' := [xU, xU]) ⟨Or.inl rfl, Or.inl rfl, trivial⟩ ?_
      exact yw_cV (As := [.int (nI 1), .int (I 2 4)]) (b := 2) (st := []) dX4_next_178 lX4_59 kiX4_refuse kvX4_refuse rfl rfl rfl (la_2 hW) rfl (Nat.le_of_ble_eq_true rfl) rfl (xk_V k)
    · replace k := k.2 c
      refine xw_iload_n dX4_next_168 rfl rfl ?_
      refine xw_ifeq (tgt := 181) dX4_next_169 (by decide) (fun _ => ?_) (fun c => absurd (by decide) c)
      exact yw_vret dX4_next_181 rfl k
  · replace k := k.2 c
    refine xw_aload_n dX4_next_141 rfl rfl ?_
    refine yw_getI (v := I 2 2) dX4_next_142 fX4_71 rfl (la_2 hW) rfl ?_
    refine xw_aload_n dX4_next_145 rfl rfl ?_
    refine yw_getI (v := I 2 4) dX4_next_146 fX4_90 rfl (la_2 hW) rfl ?_
    refine xw_isub dX4_next_149 ?_
    refine xw_iconst (v := nI 2) dX4_next_150 rfl ?_
    refine xw_icle (tgt := 158) dX4_next_151 (by decide) (fun c => ?_) (fun c => ?_)
    · replace k := k.1 c
      refine xw_iconst (v := nI 0) dX4_next_158 rfl ?_
      refine yw_istore_n (lv' := [.ref 2, .int (nI 0)]) dX4_next_159 rfl rfl rfl rfl ?_
      refine xw_aload_n dX4_next_160 rfl rfl ?_
      refine yw_getI (v := I 2 3) dX4_next_161 fX4_41 rfl (la_2 hW) rfl ?_
      refine xw_iconst (v := nI 4) dX4_next_164 rfl ?_
      refine xw_iceq (tgt := 172) dX4_next_165 (by decide) (fun c => ?_) (fun c => ?_)
      · replace k := k.1 c
        refine xw_aload_n dX4_next_172 rfl rfl ?_
        refine xw_iconst (v := nI 1) dX4_next_173 rfl ?_
        refine xw_aload_n dX4_next_174 rfl rfl ?_
        refine yw_getI (v := I 2 4) dX4_next_175 fX4_90 rfl (la_2 hW) rfl ?_
        refine yw_sub (lv' := [xU, xU]) ⟨Or.inl rfl, Or.inl rfl, trivial⟩ ?_
        exact yw_cV (As := [.int (nI 1), .int (I 2 4)]) (b := 2) (st := []) dX4_next_178 lX4_59 kiX4_refuse kvX4_refuse rfl rfl rfl (la_2 hW) rfl (Nat.le_of_ble_eq_true rfl) rfl (xk_V k)
      · replace k := k.2 c
        refine xw_iload_n dX4_next_168 rfl rfl ?_
        refine xw_ifeq (tgt := 181) dX4_next_169 (by decide) (fun _ => ?_) (fun c => absurd (by decide) c)
        exact yw_vret dX4_next_181 rfl k
    · replace k := k.2 c
      refine xw_iconst (v := nI 1) dX4_next_154 rfl ?_
      refine xw_goto (tgt := 159) dX4_next_155 (by decide) ?_
      refine yw_istore_n (lv' := [.ref 2, .int (nI 1)]) dX4_next_159 rfl rfl rfl rfl ?_
      refine xw_aload_n dX4_next_160 rfl rfl ?_
      refine yw_getI (v := I 2 3) dX4_next_161 fX4_41 rfl (la_2 hW) rfl ?_
      refine xw_iconst (v := nI 4) dX4_next_164 rfl ?_
      refine xw_iceq (tgt := 172) dX4_next_165 (by decide) (fun c => ?_) (fun c => ?_)
      · replace k := k.1 c
        refine xw_aload_n dX4_next_172 rfl rfl ?_
        refine xw_iconst (v := nI 1) dX4_next_173 rfl ?_
        refine xw_aload_n dX4_next_174 rfl rfl ?_
        refine yw_getI (v := I 2 4) dX4_next_175 fX4_90 rfl (la_2 hW) rfl ?_
        refine yw_sub (lv' := [xU, xU]) ⟨Or.inl rfl, Or.inl rfl, trivial⟩ ?_
        exact yw_cV (As := [.int (nI 1), .int (I 2 4)]) (b := 2) (st := []) dX4_next_178 lX4_59 kiX4_refuse kvX4_refuse rfl rfl rfl (la_2 hW) rfl (Nat.le_of_ble_eq_true rfl) rfl (xk_V k)
      · replace k := k.2 c
        refine xw_iload_n dX4_next_168 rfl rfl ?_
        refine xw_ifeq (tgt := 181) dX4_next_169 (by decide) (fun c => absurd c (by decide)) (fun _ => ?_)
        refine xw_aload_n dX4_next_172 rfl rfl ?_
        refine xw_iconst (v := nI 1) dX4_next_173 rfl ?_
        refine xw_aload_n dX4_next_174 rfl rfl ?_
        refine yw_getI (v := I 2 4) dX4_next_175 fX4_90 rfl (la_2 hW) rfl ?_
        refine yw_sub (lv' := [xU, xU]) ⟨Or.inl rfl, Or.inl rfl, trivial⟩ ?_
        exact yw_cV (As := [.int (nI 1), .int (I 2 4)]) (b := 2) (st := []) dX4_next_178 lX4_59 kiX4_refuse kvX4_refuse rfl rfl rfl (la_2 hW) rfl (Nat.le_of_ble_eq_true rfl) rfl (xk_V k)
theorem bX4_next_97 {mc ms : Nat} {Q : xHp → Prop} (hW : xLay sh R) 
    (k : ((¬ (I 2 3) = (nI 2) → (((I 2 3) = (nI 4) → CV mX4_refuse [.ref 2, .int (nI 1), .int (I 2 4)] (sh, I, R) (fun h1 => Ex mX4_next 181 [xU, xU] [] h1 mc ms (xqV Q))) ∧ (¬ (I 2 3) = (nI 4) → Q (sh, I, R)))) ∧ ((I 2 3) = (nI 2) → ((((I 2 2) - (I 2 4)) ≤ (nI 2) → (((I 2 3) = (nI 4) → CV mX4_refuse [.ref 2, .int (nI 1), .int (I 2 4)] (sh, I, R) (fun h1 => Ex mX4_next 181 [xU, xU] [] h1 mc ms (xqV Q))) ∧ (¬ (I 2 3) = (nI 4) → Q (sh, I, R)))) ∧ (¬ ((I 2 2) - (I 2 4)) ≤ (nI 2) → (((I 2 3) = (nI 4) → CV mX4_refuse [.ref 2, .int (nI 1), .int (I 2 4)] (sh, I, R) (fun h1 => Ex mX4_next 181 [xU, xU] [] h1 mc ms (xqV Q))) ∧ (¬ (I 2 3) = (nI 4) → CV mX4_refuse [.ref 2, .int (nI 1), .int (I 2 4)] (sh, I, R) (fun h1 => Ex mX4_next 181 [xU, xU] [] h1 mc ms (xqV Q))))))))) :
    Ex mX4_next 97 [.ref 2, xU] [] (sh, I, R) mc ms (xqV Q) := by
  refine xw_goto (tgt := 133) dX4_next_97 (by decide) ?_
  refine xw_aload_n dX4_next_133 rfl rfl ?_
  refine yw_getI (v := I 2 3) dX4_next_134 fX4_41 rfl (la_2 hW) rfl ?_
  refine xw_iconst (v := nI 2) dX4_next_137 rfl ?_
  refine xw_icne (tgt := 158) dX4_next_138 (by decide) (fun c => ?_) (fun c => ?_)
  · replace k := k.1 c
    refine xw_iconst (v := nI 0) dX4_next_158 rfl ?_
    refine yw_istore_n (lv' := [.ref 2, .int (nI 0)]) dX4_next_159 rfl rfl rfl rfl ?_
    refine xw_aload_n dX4_next_160 rfl rfl ?_
    refine yw_getI (v := I 2 3) dX4_next_161 fX4_41 rfl (la_2 hW) rfl ?_
    refine xw_iconst (v := nI 4) dX4_next_164 rfl ?_
    refine xw_iceq (tgt := 172) dX4_next_165 (by decide) (fun c => ?_) (fun c => ?_)
    · replace k := k.1 c
      refine xw_aload_n dX4_next_172 rfl rfl ?_
      refine xw_iconst (v := nI 1) dX4_next_173 rfl ?_
      refine xw_aload_n dX4_next_174 rfl rfl ?_
      refine yw_getI (v := I 2 4) dX4_next_175 fX4_90 rfl (la_2 hW) rfl ?_
      refine yw_sub (lv' := [xU, xU]) ⟨Or.inl rfl, Or.inl rfl, trivial⟩ ?_
      exact yw_cV (As := [.int (nI 1), .int (I 2 4)]) (b := 2) (st := []) dX4_next_178 lX4_59 kiX4_refuse kvX4_refuse rfl rfl rfl (la_2 hW) rfl (Nat.le_of_ble_eq_true rfl) rfl (xk_V k)
    · replace k := k.2 c
      refine xw_iload_n dX4_next_168 rfl rfl ?_
      refine xw_ifeq (tgt := 181) dX4_next_169 (by decide) (fun _ => ?_) (fun c => absurd (by decide) c)
      exact yw_vret dX4_next_181 rfl k
  · replace k := k.2 c
    refine xw_aload_n dX4_next_141 rfl rfl ?_
    refine yw_getI (v := I 2 2) dX4_next_142 fX4_71 rfl (la_2 hW) rfl ?_
    refine xw_aload_n dX4_next_145 rfl rfl ?_
    refine yw_getI (v := I 2 4) dX4_next_146 fX4_90 rfl (la_2 hW) rfl ?_
    refine xw_isub dX4_next_149 ?_
    refine xw_iconst (v := nI 2) dX4_next_150 rfl ?_
    refine xw_icle (tgt := 158) dX4_next_151 (by decide) (fun c => ?_) (fun c => ?_)
    · replace k := k.1 c
      refine xw_iconst (v := nI 0) dX4_next_158 rfl ?_
      refine yw_istore_n (lv' := [.ref 2, .int (nI 0)]) dX4_next_159 rfl rfl rfl rfl ?_
      refine xw_aload_n dX4_next_160 rfl rfl ?_
      refine yw_getI (v := I 2 3) dX4_next_161 fX4_41 rfl (la_2 hW) rfl ?_
      refine xw_iconst (v := nI 4) dX4_next_164 rfl ?_
      refine xw_iceq (tgt := 172) dX4_next_165 (by decide) (fun c => ?_) (fun c => ?_)
      · replace k := k.1 c
        refine xw_aload_n dX4_next_172 rfl rfl ?_
        refine xw_iconst (v := nI 1) dX4_next_173 rfl ?_
        refine xw_aload_n dX4_next_174 rfl rfl ?_
        refine yw_getI (v := I 2 4) dX4_next_175 fX4_90 rfl (la_2 hW) rfl ?_
        refine yw_sub (lv' := [xU, xU]) ⟨Or.inl rfl, Or.inl rfl, trivial⟩ ?_
        exact yw_cV (As := [.int (nI 1), .int (I 2 4)]) (b := 2) (st := []) dX4_next_178 lX4_59 kiX4_refuse kvX4_refuse rfl rfl rfl (la_2 hW) rfl (Nat.le_of_ble_eq_true rfl) rfl (xk_V k)
      · replace k := k.2 c
        refine xw_iload_n dX4_next_168 rfl rfl ?_
        refine xw_ifeq (tgt := 181) dX4_next_169 (by decide) (fun _ => ?_) (fun c => absurd (by decide) c)
        exact yw_vret dX4_next_181 rfl k
    · replace k := k.2 c
      refine xw_iconst (v := nI 1) dX4_next_154 rfl ?_
      refine xw_goto (tgt := 159) dX4_next_155 (by decide) ?_
      refine yw_istore_n (lv' := [.ref 2, .int (nI 1)]) dX4_next_159 rfl rfl rfl rfl ?_
      refine xw_aload_n dX4_next_160 rfl rfl ?_
      refine yw_getI (v := I 2 3) dX4_next_161 fX4_41 rfl (la_2 hW) rfl ?_
      refine xw_iconst (v := nI 4) dX4_next_164 rfl ?_
      refine xw_iceq (tgt := 172) dX4_next_165 (by decide) (fun c => ?_) (fun c => ?_)
      · replace k := k.1 c
        refine xw_aload_n dX4_next_172 rfl rfl ?_
        refine xw_iconst (v := nI 1) dX4_next_173 rfl ?_
        refine xw_aload_n dX4_next_174 rfl rfl ?_
        refine yw_getI (v := I 2 4) dX4_next_175 fX4_90 rfl (la_2 hW) rfl ?_
        refine yw_sub (lv' := [xU, xU]) ⟨Or.inl rfl, Or.inl rfl, trivial⟩ ?_
        exact yw_cV (As := [.int (nI 1), .int (I 2 4)]) (b := 2) (st := []) dX4_next_178 lX4_59 kiX4_refuse kvX4_refuse rfl rfl rfl (la_2 hW) rfl (Nat.le_of_ble_eq_true rfl) rfl (xk_V k)
      · replace k := k.2 c
        refine xw_iload_n dX4_next_168 rfl rfl ?_
        refine xw_ifeq (tgt := 181) dX4_next_169 (by decide) (fun c => absurd c (by decide)) (fun _ => ?_)
        refine xw_aload_n dX4_next_172 rfl rfl ?_
        refine xw_iconst (v := nI 1) dX4_next_173 rfl ?_
        refine xw_aload_n dX4_next_174 rfl rfl ?_
        refine yw_getI (v := I 2 4) dX4_next_175 fX4_90 rfl (la_2 hW) rfl ?_
        refine yw_sub (lv' := [xU, xU]) ⟨Or.inl rfl, Or.inl rfl, trivial⟩ ?_
        exact yw_cV (As := [.int (nI 1), .int (I 2 4)]) (b := 2) (st := []) dX4_next_178 lX4_59 kiX4_refuse kvX4_refuse rfl rfl rfl (la_2 hW) rfl (Nat.le_of_ble_eq_true rfl) rfl (xk_V k)
theorem bX4_next_78 {s1 : Int32} {mc ms : Nat} {Q : xHp → Prop} (hW : xLay sh R) 
    (k : ((¬ s1 = (nI 1) → ((¬ s1 = (nI 2) → ((¬ s1 = (nI 3) → ((¬ s1 = (nI 2) → ((s1 = (nI 4) → CV mX4_refuse [.ref 2, .int (nI 1), .int (I 2 4)] (sh, (xi I 2 3 s1), R) (fun h1 => Ex mX4_next 181 [xU, xU] [] h1 mc ms (xqV Q))) ∧ (¬ s1 = (nI 4) → Q (sh, (xi I 2 3 s1), R)))) ∧ (s1 = (nI 2) → ((((I 2 2) - (I 2 4)) ≤ (nI 2) → ((s1 = (nI 4) → CV mX4_refuse [.ref 2, .int (nI 1), .int (I 2 4)] (sh, (xi I 2 3 s1), R) (fun h1 => Ex mX4_next 181 [xU, xU] [] h1 mc ms (xqV Q))) ∧ (¬ s1 = (nI 4) → Q (sh, (xi I 2 3 s1), R)))) ∧ (¬ ((I 2 2) - (I 2 4)) ≤ (nI 2) → ((s1 = (nI 4) → CV mX4_refuse [.ref 2, .int (nI 1), .int (I 2 4)] (sh, (xi I 2 3 s1), R) (fun h1 => Ex mX4_next 181 [xU, xU] [] h1 mc ms (xqV Q))) ∧ (¬ s1 = (nI 4) → CV mX4_refuse [.ref 2, .int (nI 1), .int (I 2 4)] (sh, (xi I 2 3 s1), R) (fun h1 => Ex mX4_next 181 [xU, xU] [] h1 mc ms (xqV Q))))))))) ∧ (s1 = (nI 3) → ((¬ s1 = (nI 2) → ((s1 = (nI 4) → CV mX4_refuse [.ref 2, .int (nI 1), .int (I 2 4)] (sh, (xi (xi I 2 3 s1) 2 2 ((I 2 2) + (nI 1))), R) (fun h1 => Ex mX4_next 181 [xU, xU] [] h1 mc ms (xqV Q))) ∧ (¬ s1 = (nI 4) → Q (sh, (xi (xi I 2 3 s1) 2 2 ((I 2 2) + (nI 1))), R)))) ∧ (s1 = (nI 2) → (((((I 2 2) + (nI 1)) - (I 2 4)) ≤ (nI 2) → ((s1 = (nI 4) → CV mX4_refuse [.ref 2, .int (nI 1), .int (I 2 4)] (sh, (xi (xi I 2 3 s1) 2 2 ((I 2 2) + (nI 1))), R) (fun h1 => Ex mX4_next 181 [xU, xU] [] h1 mc ms (xqV Q))) ∧ (¬ s1 = (nI 4) → Q (sh, (xi (xi I 2 3 s1) 2 2 ((I 2 2) + (nI 1))), R)))) ∧ (¬ (((I 2 2) + (nI 1)) - (I 2 4)) ≤ (nI 2) → ((s1 = (nI 4) → CV mX4_refuse [.ref 2, .int (nI 1), .int (I 2 4)] (sh, (xi (xi I 2 3 s1) 2 2 ((I 2 2) + (nI 1))), R) (fun h1 => Ex mX4_next 181 [xU, xU] [] h1 mc ms (xqV Q))) ∧ (¬ s1 = (nI 4) → CV mX4_refuse [.ref 2, .int (nI 1), .int (I 2 4)] (sh, (xi (xi I 2 3 s1) 2 2 ((I 2 2) + (nI 1))), R) (fun h1 => Ex mX4_next 181 [xU, xU] [] h1 mc ms (xqV Q))))))))))) ∧ (s1 = (nI 2) → CV mX4_readNumber [.ref 2] (sh, (xi I 2 3 s1), R) (fun h1 => Ex mX4_next 112 [.ref 2, xU] [] h1 mc ms (xqV Q))))) ∧ (s1 = (nI 1) → CV mX4_readName [.ref 2] (sh, (xi I 2 3 s1), R) (fun h1 => Ex mX4_next 97 [.ref 2, xU] [] h1 mc ms (xqV Q))))) :
    Ex mX4_next 78 [.ref 2, xU] [.int s1, .ref 2] (sh, I, R) mc ms (xqV Q) := by
  refine xw_goto (tgt := 82) dX4_next_78 (by decide) ?_
  refine yw_putI dX4_next_82 fX4_41 (fun r h => by cases h; exact Or.inl rfl) rfl (la_2 hW) ?_
  refine xw_aload_n dX4_next_85 rfl rfl ?_
  refine yw_getI (v := s1) dX4_next_86 fX4_41 rfl (la_2 hW) (xi_e) ?_
  refine xw_iconst (v := nI 1) dX4_next_89 rfl ?_
  refine xw_icne (tgt := 100) dX4_next_90 (by decide) (fun c => ?_) (fun c => ?_)
  · replace k := k.1 c
    refine xw_aload_n dX4_next_100 rfl rfl ?_
    refine yw_getI (v := s1) dX4_next_101 fX4_41 rfl (la_2 hW) (xi_e) ?_
    refine xw_iconst (v := nI 2) dX4_next_104 rfl ?_
    refine xw_icne (tgt := 115) dX4_next_105 (by decide) (fun c => ?_) (fun c => ?_)
    · replace k := k.1 c
      refine xw_aload_n dX4_next_115 rfl rfl ?_
      refine yw_getI (v := s1) dX4_next_116 fX4_41 rfl (la_2 hW) (xi_e) ?_
      refine xw_iconst (v := nI 3) dX4_next_119 rfl ?_
      refine xw_icne (tgt := 133) dX4_next_120 (by decide) (fun c => ?_) (fun c => ?_)
      · replace k := k.1 c
        refine xw_aload_n dX4_next_133 rfl rfl ?_
        refine yw_getI (v := s1) dX4_next_134 fX4_41 rfl (la_2 hW) (xi_e) ?_
        refine xw_iconst (v := nI 2) dX4_next_137 rfl ?_
        refine xw_icne (tgt := 158) dX4_next_138 (by decide) (fun c => ?_) (fun c => ?_)
        · replace k := k.1 c
          refine xw_iconst (v := nI 0) dX4_next_158 rfl ?_
          refine yw_istore_n (lv' := [.ref 2, .int (nI 0)]) dX4_next_159 rfl rfl rfl rfl ?_
          refine xw_aload_n dX4_next_160 rfl rfl ?_
          refine yw_getI (v := s1) dX4_next_161 fX4_41 rfl (la_2 hW) (xi_e) ?_
          refine xw_iconst (v := nI 4) dX4_next_164 rfl ?_
          refine xw_iceq (tgt := 172) dX4_next_165 (by decide) (fun c => ?_) (fun c => ?_)
          · replace k := k.1 c
            refine xw_aload_n dX4_next_172 rfl rfl ?_
            refine xw_iconst (v := nI 1) dX4_next_173 rfl ?_
            refine xw_aload_n dX4_next_174 rfl rfl ?_
            refine yw_getI (v := I 2 4) dX4_next_175 fX4_90 rfl (la_2 hW) (xi_s (j := 4) (k := 3) (by decide)) ?_
            refine yw_sub (lv' := [xU, xU]) ⟨Or.inl rfl, Or.inl rfl, trivial⟩ ?_
            exact yw_cV (As := [.int (nI 1), .int (I 2 4)]) (b := 2) (st := []) dX4_next_178 lX4_59 kiX4_refuse kvX4_refuse rfl rfl rfl (la_2 hW) rfl (Nat.le_of_ble_eq_true rfl) rfl (xk_V k)
          · replace k := k.2 c
            refine xw_iload_n dX4_next_168 rfl rfl ?_
            refine xw_ifeq (tgt := 181) dX4_next_169 (by decide) (fun _ => ?_) (fun c => absurd (by decide) c)
            exact yw_vret dX4_next_181 rfl k
        · replace k := k.2 c
          refine xw_aload_n dX4_next_141 rfl rfl ?_
          refine yw_getI (v := I 2 2) dX4_next_142 fX4_71 rfl (la_2 hW) (xi_s (j := 2) (k := 3) (by decide)) ?_
          refine xw_aload_n dX4_next_145 rfl rfl ?_
          refine yw_getI (v := I 2 4) dX4_next_146 fX4_90 rfl (la_2 hW) (xi_s (j := 4) (k := 3) (by decide)) ?_
          refine xw_isub dX4_next_149 ?_
          refine xw_iconst (v := nI 2) dX4_next_150 rfl ?_
          refine xw_icle (tgt := 158) dX4_next_151 (by decide) (fun c => ?_) (fun c => ?_)
          · replace k := k.1 c
            refine xw_iconst (v := nI 0) dX4_next_158 rfl ?_
            refine yw_istore_n (lv' := [.ref 2, .int (nI 0)]) dX4_next_159 rfl rfl rfl rfl ?_
            refine xw_aload_n dX4_next_160 rfl rfl ?_
            refine yw_getI (v := s1) dX4_next_161 fX4_41 rfl (la_2 hW) (xi_e) ?_
            refine xw_iconst (v := nI 4) dX4_next_164 rfl ?_
            refine xw_iceq (tgt := 172) dX4_next_165 (by decide) (fun c => ?_) (fun c => ?_)
            · replace k := k.1 c
              refine xw_aload_n dX4_next_172 rfl rfl ?_
              refine xw_iconst (v := nI 1) dX4_next_173 rfl ?_
              refine xw_aload_n dX4_next_174 rfl rfl ?_
              refine yw_getI (v := I 2 4) dX4_next_175 fX4_90 rfl (la_2 hW) (xi_s (j := 4) (k := 3) (by decide)) ?_
              refine yw_sub (lv' := [xU, xU]) ⟨Or.inl rfl, Or.inl rfl, trivial⟩ ?_
              exact yw_cV (As := [.int (nI 1), .int (I 2 4)]) (b := 2) (st := []) dX4_next_178 lX4_59 kiX4_refuse kvX4_refuse rfl rfl rfl (la_2 hW) rfl (Nat.le_of_ble_eq_true rfl) rfl (xk_V k)
            · replace k := k.2 c
              refine xw_iload_n dX4_next_168 rfl rfl ?_
              refine xw_ifeq (tgt := 181) dX4_next_169 (by decide) (fun _ => ?_) (fun c => absurd (by decide) c)
              exact yw_vret dX4_next_181 rfl k
          · replace k := k.2 c
            refine xw_iconst (v := nI 1) dX4_next_154 rfl ?_
            refine xw_goto (tgt := 159) dX4_next_155 (by decide) ?_
            refine yw_istore_n (lv' := [.ref 2, .int (nI 1)]) dX4_next_159 rfl rfl rfl rfl ?_
            refine xw_aload_n dX4_next_160 rfl rfl ?_
            refine yw_getI (v := s1) dX4_next_161 fX4_41 rfl (la_2 hW) (xi_e) ?_
            refine xw_iconst (v := nI 4) dX4_next_164 rfl ?_
            refine xw_iceq (tgt := 172) dX4_next_165 (by decide) (fun c => ?_) (fun c => ?_)
            · replace k := k.1 c
              refine xw_aload_n dX4_next_172 rfl rfl ?_
              refine xw_iconst (v := nI 1) dX4_next_173 rfl ?_
              refine xw_aload_n dX4_next_174 rfl rfl ?_
              refine yw_getI (v := I 2 4) dX4_next_175 fX4_90 rfl (la_2 hW) (xi_s (j := 4) (k := 3) (by decide)) ?_
              refine yw_sub (lv' := [xU, xU]) ⟨Or.inl rfl, Or.inl rfl, trivial⟩ ?_
              exact yw_cV (As := [.int (nI 1), .int (I 2 4)]) (b := 2) (st := []) dX4_next_178 lX4_59 kiX4_refuse kvX4_refuse rfl rfl rfl (la_2 hW) rfl (Nat.le_of_ble_eq_true rfl) rfl (xk_V k)
            · replace k := k.2 c
              refine xw_iload_n dX4_next_168 rfl rfl ?_
              refine xw_ifeq (tgt := 181) dX4_next_169 (by decide) (fun c => absurd c (by decide)) (fun _ => ?_)
              refine xw_aload_n dX4_next_172 rfl rfl ?_
              refine xw_iconst (v := nI 1) dX4_next_173 rfl ?_
              refine xw_aload_n dX4_next_174 rfl rfl ?_
              refine yw_getI (v := I 2 4) dX4_next_175 fX4_90 rfl (la_2 hW) (xi_s (j := 4) (k := 3) (by decide)) ?_
              refine yw_sub (lv' := [xU, xU]) ⟨Or.inl rfl, Or.inl rfl, trivial⟩ ?_
              exact yw_cV (As := [.int (nI 1), .int (I 2 4)]) (b := 2) (st := []) dX4_next_178 lX4_59 kiX4_refuse kvX4_refuse rfl rfl rfl (la_2 hW) rfl (Nat.le_of_ble_eq_true rfl) rfl (xk_V k)
      · replace k := k.2 c
        refine xw_aload_n dX4_next_123 rfl rfl ?_
        refine xw_dup dX4_next_124 rfl ?_
        refine yw_getI (v := I 2 2) dX4_next_125 fX4_71 rfl (la_2 hW) (xi_s (j := 2) (k := 3) (by decide)) ?_
        refine xw_iconst (v := nI 1) dX4_next_128 rfl ?_
        refine xw_iadd dX4_next_129 ?_
        refine yw_putI dX4_next_130 fX4_71 (fun r h => by cases h; exact Or.inl rfl) rfl (la_2 hW) ?_
        refine xw_aload_n dX4_next_133 rfl rfl ?_
        refine yw_getI (v := s1) dX4_next_134 fX4_41 rfl (la_2 hW) ((xi_s (j := 3) (k := 2) (by decide)).trans (xi_e)) ?_
        refine xw_iconst (v := nI 2) dX4_next_137 rfl ?_
        refine xw_icne (tgt := 158) dX4_next_138 (by decide) (fun c => ?_) (fun c => ?_)
        · replace k := k.1 c
          refine xw_iconst (v := nI 0) dX4_next_158 rfl ?_
          refine yw_istore_n (lv' := [.ref 2, .int (nI 0)]) dX4_next_159 rfl rfl rfl rfl ?_
          refine xw_aload_n dX4_next_160 rfl rfl ?_
          refine yw_getI (v := s1) dX4_next_161 fX4_41 rfl (la_2 hW) ((xi_s (j := 3) (k := 2) (by decide)).trans (xi_e)) ?_
          refine xw_iconst (v := nI 4) dX4_next_164 rfl ?_
          refine xw_iceq (tgt := 172) dX4_next_165 (by decide) (fun c => ?_) (fun c => ?_)
          · replace k := k.1 c
            refine xw_aload_n dX4_next_172 rfl rfl ?_
            refine xw_iconst (v := nI 1) dX4_next_173 rfl ?_
            refine xw_aload_n dX4_next_174 rfl rfl ?_
            refine yw_getI (v := I 2 4) dX4_next_175 fX4_90 rfl (la_2 hW) ((xi_s (j := 4) (k := 2) (by decide)).trans (xi_s (j := 4) (k := 3) (by decide))) ?_
            refine yw_sub (lv' := [xU, xU]) ⟨Or.inl rfl, Or.inl rfl, trivial⟩ ?_
            exact yw_cV (As := [.int (nI 1), .int (I 2 4)]) (b := 2) (st := []) dX4_next_178 lX4_59 kiX4_refuse kvX4_refuse rfl rfl rfl (la_2 hW) rfl (Nat.le_of_ble_eq_true rfl) rfl (xk_V k)
          · replace k := k.2 c
            refine xw_iload_n dX4_next_168 rfl rfl ?_
            refine xw_ifeq (tgt := 181) dX4_next_169 (by decide) (fun _ => ?_) (fun c => absurd (by decide) c)
            exact yw_vret dX4_next_181 rfl k
        · replace k := k.2 c
          refine xw_aload_n dX4_next_141 rfl rfl ?_
          refine yw_getI (v := (I 2 2) + (nI 1)) dX4_next_142 fX4_71 rfl (la_2 hW) (xi_e) ?_
          refine xw_aload_n dX4_next_145 rfl rfl ?_
          refine yw_getI (v := I 2 4) dX4_next_146 fX4_90 rfl (la_2 hW) ((xi_s (j := 4) (k := 2) (by decide)).trans (xi_s (j := 4) (k := 3) (by decide))) ?_
          refine xw_isub dX4_next_149 ?_
          refine xw_iconst (v := nI 2) dX4_next_150 rfl ?_
          refine xw_icle (tgt := 158) dX4_next_151 (by decide) (fun c => ?_) (fun c => ?_)
          · replace k := k.1 c
            refine xw_iconst (v := nI 0) dX4_next_158 rfl ?_
            refine yw_istore_n (lv' := [.ref 2, .int (nI 0)]) dX4_next_159 rfl rfl rfl rfl ?_
            refine xw_aload_n dX4_next_160 rfl rfl ?_
            refine yw_getI (v := s1) dX4_next_161 fX4_41 rfl (la_2 hW) ((xi_s (j := 3) (k := 2) (by decide)).trans (xi_e)) ?_
            refine xw_iconst (v := nI 4) dX4_next_164 rfl ?_
            refine xw_iceq (tgt := 172) dX4_next_165 (by decide) (fun c => ?_) (fun c => ?_)
            · replace k := k.1 c
              refine xw_aload_n dX4_next_172 rfl rfl ?_
              refine xw_iconst (v := nI 1) dX4_next_173 rfl ?_
              refine xw_aload_n dX4_next_174 rfl rfl ?_
              refine yw_getI (v := I 2 4) dX4_next_175 fX4_90 rfl (la_2 hW) ((xi_s (j := 4) (k := 2) (by decide)).trans (xi_s (j := 4) (k := 3) (by decide))) ?_
              refine yw_sub (lv' := [xU, xU]) ⟨Or.inl rfl, Or.inl rfl, trivial⟩ ?_
              exact yw_cV (As := [.int (nI 1), .int (I 2 4)]) (b := 2) (st := []) dX4_next_178 lX4_59 kiX4_refuse kvX4_refuse rfl rfl rfl (la_2 hW) rfl (Nat.le_of_ble_eq_true rfl) rfl (xk_V k)
            · replace k := k.2 c
              refine xw_iload_n dX4_next_168 rfl rfl ?_
              refine xw_ifeq (tgt := 181) dX4_next_169 (by decide) (fun _ => ?_) (fun c => absurd (by decide) c)
              exact yw_vret dX4_next_181 rfl k
          · replace k := k.2 c
            refine xw_iconst (v := nI 1) dX4_next_154 rfl ?_
            refine xw_goto (tgt := 159) dX4_next_155 (by decide) ?_
            refine yw_istore_n (lv' := [.ref 2, .int (nI 1)]) dX4_next_159 rfl rfl rfl rfl ?_
            refine xw_aload_n dX4_next_160 rfl rfl ?_
            refine yw_getI (v := s1) dX4_next_161 fX4_41 rfl (la_2 hW) ((xi_s (j := 3) (k := 2) (by decide)).trans (xi_e)) ?_
            refine xw_iconst (v := nI 4) dX4_next_164 rfl ?_
            refine xw_iceq (tgt := 172) dX4_next_165 (by decide) (fun c => ?_) (fun c => ?_)
            · replace k := k.1 c
              refine xw_aload_n dX4_next_172 rfl rfl ?_
              refine xw_iconst (v := nI 1) dX4_next_173 rfl ?_
              refine xw_aload_n dX4_next_174 rfl rfl ?_
              refine yw_getI (v := I 2 4) dX4_next_175 fX4_90 rfl (la_2 hW) ((xi_s (j := 4) (k := 2) (by decide)).trans (xi_s (j := 4) (k := 3) (by decide))) ?_
              refine yw_sub (lv' := [xU, xU]) ⟨Or.inl rfl, Or.inl rfl, trivial⟩ ?_
              exact yw_cV (As := [.int (nI 1), .int (I 2 4)]) (b := 2) (st := []) dX4_next_178 lX4_59 kiX4_refuse kvX4_refuse rfl rfl rfl (la_2 hW) rfl (Nat.le_of_ble_eq_true rfl) rfl (xk_V k)
            · replace k := k.2 c
              refine xw_iload_n dX4_next_168 rfl rfl ?_
              refine xw_ifeq (tgt := 181) dX4_next_169 (by decide) (fun c => absurd c (by decide)) (fun _ => ?_)
              refine xw_aload_n dX4_next_172 rfl rfl ?_
              refine xw_iconst (v := nI 1) dX4_next_173 rfl ?_
              refine xw_aload_n dX4_next_174 rfl rfl ?_
              refine yw_getI (v := I 2 4) dX4_next_175 fX4_90 rfl (la_2 hW) ((xi_s (j := 4) (k := 2) (by decide)).trans (xi_s (j := 4) (k := 3) (by decide))) ?_
              refine yw_sub (lv' := [xU, xU]) ⟨Or.inl rfl, Or.inl rfl, trivial⟩ ?_
              exact yw_cV (As := [.int (nI 1), .int (I 2 4)]) (b := 2) (st := []) dX4_next_178 lX4_59 kiX4_refuse kvX4_refuse rfl rfl rfl (la_2 hW) rfl (Nat.le_of_ble_eq_true rfl) rfl (xk_V k)
    · replace k := k.2 c
      refine xw_aload_n dX4_next_108 rfl rfl ?_
      exact yw_cV (As := []) (b := 2) (st := []) dX4_next_109 lX4_158 kiX4_readNumber kvX4_readNumber rfl rfl rfl (la_2 hW) rfl (Nat.le_of_ble_eq_true rfl) rfl (xk_V k)
  · replace k := k.2 c
    refine xw_aload_n dX4_next_93 rfl rfl ?_
    exact yw_cV (As := []) (b := 2) (st := []) dX4_next_94 lX4_155 kiX4_readName kvX4_readName rfl rfl rfl (la_2 hW) rfl (Nat.le_of_ble_eq_true rfl) rfl (xk_V k)
theorem eX4_next {h : xHp} {Q : xHp → Prop} (k : Ex mX4_next 0 [.ref 2, xU] [] h 0 0 (xqV Q)) : CV mX4_next [.ref 2] h Q := k
theorem bX4_isNamed_0 {i : Nat} {mc ms : Nat} {Q : Int32 → xHp → Prop} (hW : xLay sh R) (hi : i < 6)
    (k : CI mJ0_length_8abf5 [.ref (1000001 + i)] (sh, I, R) (fun w h1 => Ex mX4_isNamed 13 [.ref 2, .ref (1000001 + i), xU] (.int w :: [.int ((I 2 2) - (I 2 4))]) h1 mc ms (xqI Q))) :
    Ex mX4_isNamed 0 [.ref 2, .ref (1000001 + i), xU] [] (sh, I, R) mc ms (xqI Q) := by
  refine xw_aload_n dX4_isNamed_0 rfl rfl ?_
  refine yw_getI (v := I 2 2) dX4_isNamed_1 fX4_71 rfl (la_2 hW) rfl ?_
  refine xw_aload_n dX4_isNamed_4 rfl rfl ?_
  refine yw_getI (v := I 2 4) dX4_isNamed_5 fX4_90 rfl (la_2 hW) rfl ?_
  refine xw_isub dX4_isNamed_8 ?_
  refine xw_aload_n dX4_isNamed_9 rfl rfl ?_
  exact Ex.z (xw_callT (As := []) (i := i) (st := [.int ((I 2 2) - (I 2 4))]) hi dX4_isNamed_10 lX4_161 kiJ0_length_8abf5 kvJ0_length_8abf5 (xB_of rfl) rfl rfl rfl (Nat.le_of_ble_eq_true rfl) (Nat.le_of_ble_eq_true rfl) (xk_I k))
theorem bX4_isNamed_13 {i : Nat} {s1 s0 : Int32} {mc ms : Nat} {Q : Int32 → xHp → Prop} (hW : xLay sh R) (hi : i < 6)
    (k : ((s0 = s1 → Ex mX4_isNamed 20 [.ref 2, .ref (1000001 + i), .int (nI 0)] [] (sh, I, R) mc ms (xqI Q)) ∧ (¬ s0 = s1 → Q (nI 0) (sh, I, R)))) :
    Ex mX4_isNamed 13 [.ref 2, .ref (1000001 + i), xU] [.int s1, .int s0] (sh, I, R) mc ms (xqI Q) := by
  refine xw_iceq (tgt := 18) dX4_isNamed_13 (by decide) (fun c => ?_) (fun c => ?_)
  · replace k := k.1 c
    refine xw_iconst (v := nI 0) dX4_isNamed_18 rfl ?_
    refine yw_istore_n (lv' := [.ref 2, .ref (1000001 + i), .int (nI 0)]) dX4_isNamed_19 rfl rfl rfl rfl ?_
    exact k
  · replace k := k.2 c
    refine xw_iconst (v := nI 0) dX4_isNamed_16 rfl ?_
    exact yw_zret dX4_isNamed_17 rfl (by decide) k
theorem bX4_isNamed_20 {i : Nat} {v2 : Int32} {mc ms : Nat} {Q : Int32 → xHp → Prop} (hW : xLay sh R) (hi : i < 6)
    (k : CI mJ0_length_8abf5 [.ref (1000001 + i)] (sh, I, R) (fun w h1 => Ex mX4_isNamed 25 [.ref 2, .ref (1000001 + i), .int v2] (.int w :: [.int v2]) h1 mc ms (xqI Q))) :
    Ex mX4_isNamed 20 [.ref 2, .ref (1000001 + i), .int v2] [] (sh, I, R) mc ms (xqI Q) := by
  refine xw_iload_n dX4_isNamed_20 rfl rfl ?_
  refine xw_aload_n dX4_isNamed_21 rfl rfl ?_
  exact Ex.z (xw_callT (As := []) (i := i) (st := [.int v2]) hi dX4_isNamed_22 lX4_161 kiJ0_length_8abf5 kvJ0_length_8abf5 (xB_of rfl) rfl rfl rfl (Nat.le_of_ble_eq_true rfl) (Nat.le_of_ble_eq_true rfl) (xk_I k))
theorem bX4_isNamed_25 {i : Nat} {v2 s1 s0 : Int32} {mc ms : Nat} {Q : Int32 → xHp → Prop} (hW : xLay sh R) (hi : i < 6)
    (k : ((s1 ≤ s0 → Q (nI 1) (sh, I, R)) ∧ (¬ s1 ≤ s0 → vp_in ((I 2 4) + v2) 200 ∧ CI mJ0_charAt_5068e [.ref (1000001 + i), .int v2] (sh, I, R) (fun w h1 => Ex mX4_isNamed 44 [.ref 2, .ref (1000001 + i), .int v2] (.int w :: [.int (I 3 (((I 2 4) + v2).toNatClampNeg))]) h1 mc ms (xqI Q))))) :
    Ex mX4_isNamed 25 [.ref 2, .ref (1000001 + i), .int v2] [.int s1, .int s0] (sh, I, R) mc ms (xqI Q) := by
  refine xw_icge (tgt := 55) dX4_isNamed_25 (by decide) (fun c => ?_) (fun c => ?_)
  · replace k := k.1 c
    refine xw_iconst (v := nI 1) dX4_isNamed_55 rfl ?_
    exact yw_zret dX4_isNamed_56 rfl (by decide) k
  · replace k := k.2 c
    refine xw_aload_n dX4_isNamed_28 rfl rfl ?_
    refine yw_getR (r := 3) dX4_isNamed_29 fX4_11 rfl (la_2 hW) (lr_2_0 hW) ?_
    refine xw_aload_n dX4_isNamed_32 rfl rfl ?_
    refine yw_getI (v := I 2 4) dX4_isNamed_33 fX4_90 rfl (la_2 hW) rfl ?_
    refine xw_iload_n dX4_isNamed_36 rfl rfl ?_
    refine xw_iadd dX4_isNamed_37 ?_
    obtain ⟨k0, k⟩ := k
    refine yw_baload (v := I 3 (((I 2 4) + v2).toNatClampNeg)) dX4_isNamed_38 (la_3 hW) k0 rfl ?_
    refine xw_aload_n dX4_isNamed_39 rfl rfl ?_
    refine xw_iload_n dX4_isNamed_40 rfl rfl ?_
    exact Ex.z (xw_callT (As := [.int v2]) (i := i) (st := [.int (I 3 (((I 2 4) + v2).toNatClampNeg))]) hi dX4_isNamed_41 lX4_165 kiJ0_charAt_5068e kvJ0_charAt_5068e (xB_of rfl) rfl rfl rfl (Nat.le_of_ble_eq_true rfl) (Nat.le_of_ble_eq_true rfl) (xk_I k))
theorem bX4_isNamed_44 {i : Nat} {v2 s1 s0 : Int32} {mc ms : Nat} {Q : Int32 → xHp → Prop} (hW : xLay sh R) (hi : i < 6)
    (k : ((s0 = s1 → Ex mX4_isNamed 20 [.ref 2, .ref (1000001 + i), .int (v2 + nI 1)] [] (sh, I, R) mc ms (xqI Q)) ∧ (¬ s0 = s1 → Q (nI 0) (sh, I, R)))) :
    Ex mX4_isNamed 44 [.ref 2, .ref (1000001 + i), .int v2] [.int s1, .int s0] (sh, I, R) mc ms (xqI Q) := by
  refine xw_iceq (tgt := 49) dX4_isNamed_44 (by decide) (fun c => ?_) (fun c => ?_)
  · replace k := k.1 c
    refine yw_iinc (lv' := [.ref 2, .ref (1000001 + i), .int (v2 + nI 1)]) (v := nI 1) dX4_isNamed_49 rfl rfl rfl rfl rfl ?_
    refine xw_goto (tgt := 20) dX4_isNamed_52 (by decide) ?_
    exact k
  · replace k := k.2 c
    refine xw_iconst (v := nI 0) dX4_isNamed_47 rfl ?_
    exact yw_zret dX4_isNamed_48 rfl (by decide) k
theorem eX4_isNamed {i : Nat} {h : xHp} {Q : Int32 → xHp → Prop} (k : Ex mX4_isNamed 0 [.ref 2, .ref (1000001 + i), xU] [] h 0 0 (xqI Q)) : CI mX4_isNamed [.ref 2, .ref (1000001 + i)] h Q := k
theorem bX4_kindOfLine_0 {mc ms : Nat} {Q : Int32 → xHp → Prop} (hW : xLay sh R) 
    (k : (((I 2 3) = (nI 1) → CI mX4_isNamed [.ref 2, .ref 1000001] (sh, I, R) (fun w h1 => Ex mX4_kindOfLine 16 [.ref 2] (.int w :: []) h1 mc ms (xqI Q))) ∧ (¬ (I 2 3) = (nI 1) → Q (-1) (sh, I, R)))) :
    Ex mX4_kindOfLine 0 [.ref 2] [] (sh, I, R) mc ms (xqI Q) := by
  refine xw_aload_n dX4_kindOfLine_0 rfl rfl ?_
  refine yw_getI (v := I 2 3) dX4_kindOfLine_1 fX4_41 rfl (la_2 hW) rfl ?_
  refine xw_iconst (v := nI 1) dX4_kindOfLine_4 rfl ?_
  refine xw_iceq (tgt := 10) dX4_kindOfLine_5 (by decide) (fun c => ?_) (fun c => ?_)
  · replace k := k.1 c
    refine xw_aload_n dX4_kindOfLine_10 rfl rfl ?_
    refine xw_ldcS (i := 0) (by decide) rfl rfl dX4_kindOfLine_11 ?_
    exact yw_cV (As := [.ref 1000001]) (b := 2) (st := []) dX4_kindOfLine_13 lX4_110 kiX4_isNamed kvX4_isNamed rfl rfl rfl (la_2 hW) rfl (Nat.le_of_ble_eq_true rfl) rfl (xk_I k)
  · replace k := k.2 c
    refine xw_iconst (v := (-1)) dX4_kindOfLine_8 rfl ?_
    exact yw_iret dX4_kindOfLine_9 rfl k
theorem bX4_kindOfLine_16 {s0 : Int32} {mc ms : Nat} {Q : Int32 → xHp → Prop} (hW : xLay sh R) 
    (k : ((s0 = 0 → CI mX4_isNamed [.ref 2, .ref 1000002] (sh, I, R) (fun w h1 => Ex mX4_kindOfLine 27 [.ref 2] (.int w :: []) h1 mc ms (xqI Q))) ∧ (¬ s0 = 0 → Q (nI 0) (sh, I, R)))) :
    Ex mX4_kindOfLine 16 [.ref 2] [.int s0] (sh, I, R) mc ms (xqI Q) := by
  refine xw_ifeq (tgt := 21) dX4_kindOfLine_16 (by decide) (fun c => ?_) (fun c => ?_)
  · replace k := k.1 c
    refine xw_aload_n dX4_kindOfLine_21 rfl rfl ?_
    refine xw_ldcS (i := 1) (by decide) rfl rfl dX4_kindOfLine_22 ?_
    exact yw_cV (As := [.ref 1000002]) (b := 2) (st := []) dX4_kindOfLine_24 lX4_110 kiX4_isNamed kvX4_isNamed rfl rfl rfl (la_2 hW) rfl (Nat.le_of_ble_eq_true rfl) rfl (xk_I k)
  · replace k := k.2 c
    refine xw_iconst (v := nI 0) dX4_kindOfLine_19 rfl ?_
    exact yw_iret dX4_kindOfLine_20 rfl k
theorem bX4_kindOfLine_27 {s0 : Int32} {mc ms : Nat} {Q : Int32 → xHp → Prop} (hW : xLay sh R) 
    (k : ((s0 = 0 → CI mX4_isNamed [.ref 2, .ref 1000003] (sh, I, R) (fun w h1 => Ex mX4_kindOfLine 38 [.ref 2] (.int w :: []) h1 mc ms (xqI Q))) ∧ (¬ s0 = 0 → Q (nI 1) (sh, I, R)))) :
    Ex mX4_kindOfLine 27 [.ref 2] [.int s0] (sh, I, R) mc ms (xqI Q) := by
  refine xw_ifeq (tgt := 32) dX4_kindOfLine_27 (by decide) (fun c => ?_) (fun c => ?_)
  · replace k := k.1 c
    refine xw_aload_n dX4_kindOfLine_32 rfl rfl ?_
    refine xw_ldcS (i := 2) (by decide) rfl rfl dX4_kindOfLine_33 ?_
    exact yw_cV (As := [.ref 1000003]) (b := 2) (st := []) dX4_kindOfLine_35 lX4_110 kiX4_isNamed kvX4_isNamed rfl rfl rfl (la_2 hW) rfl (Nat.le_of_ble_eq_true rfl) rfl (xk_I k)
  · replace k := k.2 c
    refine xw_iconst (v := nI 1) dX4_kindOfLine_30 rfl ?_
    exact yw_iret dX4_kindOfLine_31 rfl k
theorem bX4_kindOfLine_38 {s0 : Int32} {mc ms : Nat} {Q : Int32 → xHp → Prop} (hW : xLay sh R) 
    (k : ((s0 = 0 → CI mX4_isNamed [.ref 2, .ref 1000004] (sh, I, R) (fun w h1 => Ex mX4_kindOfLine 49 [.ref 2] (.int w :: []) h1 mc ms (xqI Q))) ∧ (¬ s0 = 0 → Q (nI 2) (sh, I, R)))) :
    Ex mX4_kindOfLine 38 [.ref 2] [.int s0] (sh, I, R) mc ms (xqI Q) := by
  refine xw_ifeq (tgt := 43) dX4_kindOfLine_38 (by decide) (fun c => ?_) (fun c => ?_)
  · replace k := k.1 c
    refine xw_aload_n dX4_kindOfLine_43 rfl rfl ?_
    refine xw_ldcS (i := 3) (by decide) rfl rfl dX4_kindOfLine_44 ?_
    exact yw_cV (As := [.ref 1000004]) (b := 2) (st := []) dX4_kindOfLine_46 lX4_110 kiX4_isNamed kvX4_isNamed rfl rfl rfl (la_2 hW) rfl (Nat.le_of_ble_eq_true rfl) rfl (xk_I k)
  · replace k := k.2 c
    refine xw_iconst (v := nI 2) dX4_kindOfLine_41 rfl ?_
    exact yw_iret dX4_kindOfLine_42 rfl k
theorem bX4_kindOfLine_49 {s0 : Int32} {mc ms : Nat} {Q : Int32 → xHp → Prop} (hW : xLay sh R) 
    (k : ((s0 = 0 → CI mX4_isNamed [.ref 2, .ref 1000005] (sh, I, R) (fun w h1 => Ex mX4_kindOfLine 60 [.ref 2] (.int w :: []) h1 mc ms (xqI Q))) ∧ (¬ s0 = 0 → Q (nI 3) (sh, I, R)))) :
    Ex mX4_kindOfLine 49 [.ref 2] [.int s0] (sh, I, R) mc ms (xqI Q) := by
  refine xw_ifeq (tgt := 54) dX4_kindOfLine_49 (by decide) (fun c => ?_) (fun c => ?_)
  · replace k := k.1 c
    refine xw_aload_n dX4_kindOfLine_54 rfl rfl ?_
    refine xw_ldcS (i := 4) (by decide) rfl rfl dX4_kindOfLine_55 ?_
    exact yw_cV (As := [.ref 1000005]) (b := 2) (st := []) dX4_kindOfLine_57 lX4_110 kiX4_isNamed kvX4_isNamed rfl rfl rfl (la_2 hW) rfl (Nat.le_of_ble_eq_true rfl) rfl (xk_I k)
  · replace k := k.2 c
    refine xw_iconst (v := nI 3) dX4_kindOfLine_52 rfl ?_
    exact yw_iret dX4_kindOfLine_53 rfl k
theorem bX4_kindOfLine_60 {s0 : Int32} {mc ms : Nat} {Q : Int32 → xHp → Prop} (hW : xLay sh R) 
    (k : ((s0 = 0 → CI mX4_isNamed [.ref 2, .ref 1000006] (sh, I, R) (fun w h1 => Ex mX4_kindOfLine 71 [xU] (.int w :: []) h1 mc ms (xqI Q))) ∧ (¬ s0 = 0 → Q (nI 4) (sh, I, R)))) :
    Ex mX4_kindOfLine 60 [.ref 2] [.int s0] (sh, I, R) mc ms (xqI Q) := by
  refine xw_ifeq (tgt := 65) dX4_kindOfLine_60 (by decide) (fun c => ?_) (fun c => ?_)
  · replace k := k.1 c
    refine xw_aload_n dX4_kindOfLine_65 rfl rfl ?_
    refine xw_ldcS (i := 5) (by decide) rfl rfl dX4_kindOfLine_66 ?_
    refine yw_sub (lv' := [xU]) ⟨Or.inl rfl, trivial⟩ ?_
    exact yw_cV (As := [.ref 1000006]) (b := 2) (st := []) dX4_kindOfLine_68 lX4_110 kiX4_isNamed kvX4_isNamed rfl rfl rfl (la_2 hW) rfl (Nat.le_of_ble_eq_true rfl) rfl (xk_I k)
  · replace k := k.2 c
    refine xw_iconst (v := nI 4) dX4_kindOfLine_63 rfl ?_
    exact yw_iret dX4_kindOfLine_64 rfl k
theorem bX4_kindOfLine_71 {s0 : Int32} {mc ms : Nat} {Q : Int32 → xHp → Prop} (hW : xLay sh R) 
    (k : ((s0 = 0 → Q (-1) (sh, I, R)) ∧ (¬ s0 = 0 → Q (nI 5) (sh, I, R)))) :
    Ex mX4_kindOfLine 71 [xU] [.int s0] (sh, I, R) mc ms (xqI Q) := by
  refine xw_ifeq (tgt := 78) dX4_kindOfLine_71 (by decide) (fun c => ?_) (fun c => ?_)
  · replace k := k.1 c
    refine xw_iconst (v := (-1)) dX4_kindOfLine_78 rfl ?_
    exact yw_iret dX4_kindOfLine_79 rfl k
  · replace k := k.2 c
    refine xw_iconst (v := nI 5) dX4_kindOfLine_74 rfl ?_
    refine xw_goto (tgt := 79) dX4_kindOfLine_75 (by decide) ?_
    exact yw_iret dX4_kindOfLine_79 rfl k
theorem eX4_kindOfLine {h : xHp} {Q : Int32 → xHp → Prop} (k : Ex mX4_kindOfLine 0 [.ref 2] [] h 0 0 (xqI Q)) : CI mX4_kindOfLine [.ref 2] h Q := k
theorem bX4_takeNumber_0 {v1 v2 : Int32} {mc ms : Nat} {Q : Int32 → xHp → Prop} (hW : xLay sh R) 
    (k : CV mX4_next [.ref 2] (sh, I, R) (fun h1 => Ex mX4_takeNumber 4 [.ref 2, .int v1, .int v2] [] h1 mc ms (xqI Q))) :
    Ex mX4_takeNumber 0 [.ref 2, .int v1, .int v2] [] (sh, I, R) mc ms (xqI Q) := by
  refine xw_aload_n dX4_takeNumber_0 rfl rfl ?_
  exact yw_cV (As := []) (b := 2) (st := []) dX4_takeNumber_1 lX4_35 kiX4_next kvX4_next rfl rfl rfl (la_2 hW) rfl (Nat.le_of_ble_eq_true rfl) rfl (xk_V k)
theorem bX4_takeNumber_4 {v1 v2 : Int32} {mc ms : Nat} {Q : Int32 → xHp → Prop} (hW : xLay sh R) 
    (k : ((¬ (I 2 13) = 0 → ((¬ (I 2 13) = 0 → ((¬ (I 2 13) = 0 → Q v1 (sh, I, R)) ∧ ((I 2 13) = 0 → Q (I 2 5) (sh, I, R)))) ∧ ((I 2 13) = 0 → (((I 2 5) < v1 → CV mX4_refuse [.ref 2, .int (nI 3), .int (I 2 4)] (sh, I, R) (fun h1 => Ex mX4_takeNumber 60 [.ref 2, .int v1, xU] [] h1 mc ms (xqI Q))) ∧ (¬ (I 2 5) < v1 → (((I 2 5) ≤ v2 → ((¬ (I 2 13) = 0 → Q v1 (sh, I, R)) ∧ ((I 2 13) = 0 → Q (I 2 5) (sh, I, R)))) ∧ (¬ (I 2 5) ≤ v2 → CV mX4_refuse [.ref 2, .int (nI 3), .int (I 2 4)] (sh, I, R) (fun h1 => Ex mX4_takeNumber 60 [.ref 2, .int v1, xU] [] h1 mc ms (xqI Q))))))))) ∧ ((I 2 13) = 0 → (((I 2 3) = (nI 2) → ((¬ (I 2 13) = 0 → ((¬ (I 2 13) = 0 → Q v1 (sh, I, R)) ∧ ((I 2 13) = 0 → Q (I 2 5) (sh, I, R)))) ∧ ((I 2 13) = 0 → (((I 2 5) < v1 → CV mX4_refuse [.ref 2, .int (nI 3), .int (I 2 4)] (sh, I, R) (fun h1 => Ex mX4_takeNumber 60 [.ref 2, .int v1, xU] [] h1 mc ms (xqI Q))) ∧ (¬ (I 2 5) < v1 → (((I 2 5) ≤ v2 → ((¬ (I 2 13) = 0 → Q v1 (sh, I, R)) ∧ ((I 2 13) = 0 → Q (I 2 5) (sh, I, R)))) ∧ (¬ (I 2 5) ≤ v2 → CV mX4_refuse [.ref 2, .int (nI 3), .int (I 2 4)] (sh, I, R) (fun h1 => Ex mX4_takeNumber 60 [.ref 2, .int v1, xU] [] h1 mc ms (xqI Q))))))))) ∧ (¬ (I 2 3) = (nI 2) → CV mX4_refuse [.ref 2, .int (nI 2), .int (I 2 4)] (sh, I, R) (fun h1 => Ex mX4_takeNumber 28 [.ref 2, .int v1, .int v2] [] h1 mc ms (xqI Q))))))) :
    Ex mX4_takeNumber 4 [.ref 2, .int v1, .int v2] [] (sh, I, R) mc ms (xqI Q) := by
  refine xw_aload_n dX4_takeNumber_4 rfl rfl ?_
  refine yw_getI (v := I 2 13) dX4_takeNumber_5 fX4_38 rfl (la_2 hW) rfl ?_
  refine xw_ifne (tgt := 28) dX4_takeNumber_8 (by decide) (fun c => ?_) (fun c => ?_)
  · replace k := k.1 c
    refine xw_aload_n dX4_takeNumber_28 rfl rfl ?_
    refine yw_getI (v := I 2 13) dX4_takeNumber_29 fX4_38 rfl (la_2 hW) rfl ?_
    refine xw_ifne (tgt := 60) dX4_takeNumber_32 (by decide) (fun c => ?_) (fun c => ?_)
    · replace k := k.1 c
      refine xw_aload_n dX4_takeNumber_60 rfl rfl ?_
      refine yw_getI (v := I 2 13) dX4_takeNumber_61 fX4_38 rfl (la_2 hW) rfl ?_
      refine xw_ifne (tgt := 74) dX4_takeNumber_64 (by decide) (fun c => ?_) (fun c => ?_)
      · replace k := k.1 c
        refine xw_iload_n dX4_takeNumber_74 rfl rfl ?_
        exact yw_iret dX4_takeNumber_75 rfl k
      · replace k := k.2 c
        refine xw_aload_n dX4_takeNumber_67 rfl rfl ?_
        refine yw_getI (v := I 2 5) dX4_takeNumber_68 fX4_148 rfl (la_2 hW) rfl ?_
        refine xw_goto (tgt := 75) dX4_takeNumber_71 (by decide) ?_
        exact yw_iret dX4_takeNumber_75 rfl k
    · replace k := k.2 c
      refine xw_aload_n dX4_takeNumber_35 rfl rfl ?_
      refine yw_getI (v := I 2 5) dX4_takeNumber_36 fX4_148 rfl (la_2 hW) rfl ?_
      refine xw_iload_n dX4_takeNumber_39 rfl rfl ?_
      refine xw_iclt (tgt := 51) dX4_takeNumber_40 (by decide) (fun c => ?_) (fun c => ?_)
      · replace k := k.1 c
        refine xw_aload_n dX4_takeNumber_51 rfl rfl ?_
        refine xw_iconst (v := nI 3) dX4_takeNumber_52 rfl ?_
        refine xw_aload_n dX4_takeNumber_53 rfl rfl ?_
        refine yw_getI (v := I 2 4) dX4_takeNumber_54 fX4_90 rfl (la_2 hW) rfl ?_
        refine yw_sub (lv' := [.ref 2, .int v1, xU]) ⟨Or.inr rfl, Or.inr rfl, Or.inl rfl, trivial⟩ ?_
        exact yw_cV (As := [.int (nI 3), .int (I 2 4)]) (b := 2) (st := []) dX4_takeNumber_57 lX4_59 kiX4_refuse kvX4_refuse rfl rfl rfl (la_2 hW) rfl (Nat.le_of_ble_eq_true rfl) rfl (xk_V k)
      · replace k := k.2 c
        refine xw_aload_n dX4_takeNumber_43 rfl rfl ?_
        refine yw_getI (v := I 2 5) dX4_takeNumber_44 fX4_148 rfl (la_2 hW) rfl ?_
        refine xw_iload_n dX4_takeNumber_47 rfl rfl ?_
        refine xw_icle (tgt := 60) dX4_takeNumber_48 (by decide) (fun c => ?_) (fun c => ?_)
        · replace k := k.1 c
          refine xw_aload_n dX4_takeNumber_60 rfl rfl ?_
          refine yw_getI (v := I 2 13) dX4_takeNumber_61 fX4_38 rfl (la_2 hW) rfl ?_
          refine xw_ifne (tgt := 74) dX4_takeNumber_64 (by decide) (fun c => ?_) (fun c => ?_)
          · replace k := k.1 c
            refine xw_iload_n dX4_takeNumber_74 rfl rfl ?_
            exact yw_iret dX4_takeNumber_75 rfl k
          · replace k := k.2 c
            refine xw_aload_n dX4_takeNumber_67 rfl rfl ?_
            refine yw_getI (v := I 2 5) dX4_takeNumber_68 fX4_148 rfl (la_2 hW) rfl ?_
            refine xw_goto (tgt := 75) dX4_takeNumber_71 (by decide) ?_
            exact yw_iret dX4_takeNumber_75 rfl k
        · replace k := k.2 c
          refine xw_aload_n dX4_takeNumber_51 rfl rfl ?_
          refine xw_iconst (v := nI 3) dX4_takeNumber_52 rfl ?_
          refine xw_aload_n dX4_takeNumber_53 rfl rfl ?_
          refine yw_getI (v := I 2 4) dX4_takeNumber_54 fX4_90 rfl (la_2 hW) rfl ?_
          refine yw_sub (lv' := [.ref 2, .int v1, xU]) ⟨Or.inr rfl, Or.inr rfl, Or.inl rfl, trivial⟩ ?_
          exact yw_cV (As := [.int (nI 3), .int (I 2 4)]) (b := 2) (st := []) dX4_takeNumber_57 lX4_59 kiX4_refuse kvX4_refuse rfl rfl rfl (la_2 hW) rfl (Nat.le_of_ble_eq_true rfl) rfl (xk_V k)
  · replace k := k.2 c
    refine xw_aload_n dX4_takeNumber_11 rfl rfl ?_
    refine yw_getI (v := I 2 3) dX4_takeNumber_12 fX4_41 rfl (la_2 hW) rfl ?_
    refine xw_iconst (v := nI 2) dX4_takeNumber_15 rfl ?_
    refine xw_iceq (tgt := 28) dX4_takeNumber_16 (by decide) (fun c => ?_) (fun c => ?_)
    · replace k := k.1 c
      refine xw_aload_n dX4_takeNumber_28 rfl rfl ?_
      refine yw_getI (v := I 2 13) dX4_takeNumber_29 fX4_38 rfl (la_2 hW) rfl ?_
      refine xw_ifne (tgt := 60) dX4_takeNumber_32 (by decide) (fun c => ?_) (fun c => ?_)
      · replace k := k.1 c
        refine xw_aload_n dX4_takeNumber_60 rfl rfl ?_
        refine yw_getI (v := I 2 13) dX4_takeNumber_61 fX4_38 rfl (la_2 hW) rfl ?_
        refine xw_ifne (tgt := 74) dX4_takeNumber_64 (by decide) (fun c => ?_) (fun c => ?_)
        · replace k := k.1 c
          refine xw_iload_n dX4_takeNumber_74 rfl rfl ?_
          exact yw_iret dX4_takeNumber_75 rfl k
        · replace k := k.2 c
          refine xw_aload_n dX4_takeNumber_67 rfl rfl ?_
          refine yw_getI (v := I 2 5) dX4_takeNumber_68 fX4_148 rfl (la_2 hW) rfl ?_
          refine xw_goto (tgt := 75) dX4_takeNumber_71 (by decide) ?_
          exact yw_iret dX4_takeNumber_75 rfl k
      · replace k := k.2 c
        refine xw_aload_n dX4_takeNumber_35 rfl rfl ?_
        refine yw_getI (v := I 2 5) dX4_takeNumber_36 fX4_148 rfl (la_2 hW) rfl ?_
        refine xw_iload_n dX4_takeNumber_39 rfl rfl ?_
        refine xw_iclt (tgt := 51) dX4_takeNumber_40 (by decide) (fun c => ?_) (fun c => ?_)
        · replace k := k.1 c
          refine xw_aload_n dX4_takeNumber_51 rfl rfl ?_
          refine xw_iconst (v := nI 3) dX4_takeNumber_52 rfl ?_
          refine xw_aload_n dX4_takeNumber_53 rfl rfl ?_
          refine yw_getI (v := I 2 4) dX4_takeNumber_54 fX4_90 rfl (la_2 hW) rfl ?_
          refine yw_sub (lv' := [.ref 2, .int v1, xU]) ⟨Or.inr rfl, Or.inr rfl, Or.inl rfl, trivial⟩ ?_
          exact yw_cV (As := [.int (nI 3), .int (I 2 4)]) (b := 2) (st := []) dX4_takeNumber_57 lX4_59 kiX4_refuse kvX4_refuse rfl rfl rfl (la_2 hW) rfl (Nat.le_of_ble_eq_true rfl) rfl (xk_V k)
        · replace k := k.2 c
          refine xw_aload_n dX4_takeNumber_43 rfl rfl ?_
          refine yw_getI (v := I 2 5) dX4_takeNumber_44 fX4_148 rfl (la_2 hW) rfl ?_
          refine xw_iload_n dX4_takeNumber_47 rfl rfl ?_
          refine xw_icle (tgt := 60) dX4_takeNumber_48 (by decide) (fun c => ?_) (fun c => ?_)
          · replace k := k.1 c
            refine xw_aload_n dX4_takeNumber_60 rfl rfl ?_
            refine yw_getI (v := I 2 13) dX4_takeNumber_61 fX4_38 rfl (la_2 hW) rfl ?_
            refine xw_ifne (tgt := 74) dX4_takeNumber_64 (by decide) (fun c => ?_) (fun c => ?_)
            · replace k := k.1 c
              refine xw_iload_n dX4_takeNumber_74 rfl rfl ?_
              exact yw_iret dX4_takeNumber_75 rfl k
            · replace k := k.2 c
              refine xw_aload_n dX4_takeNumber_67 rfl rfl ?_
              refine yw_getI (v := I 2 5) dX4_takeNumber_68 fX4_148 rfl (la_2 hW) rfl ?_
              refine xw_goto (tgt := 75) dX4_takeNumber_71 (by decide) ?_
              exact yw_iret dX4_takeNumber_75 rfl k
          · replace k := k.2 c
            refine xw_aload_n dX4_takeNumber_51 rfl rfl ?_
            refine xw_iconst (v := nI 3) dX4_takeNumber_52 rfl ?_
            refine xw_aload_n dX4_takeNumber_53 rfl rfl ?_
            refine yw_getI (v := I 2 4) dX4_takeNumber_54 fX4_90 rfl (la_2 hW) rfl ?_
            refine yw_sub (lv' := [.ref 2, .int v1, xU]) ⟨Or.inr rfl, Or.inr rfl, Or.inl rfl, trivial⟩ ?_
            exact yw_cV (As := [.int (nI 3), .int (I 2 4)]) (b := 2) (st := []) dX4_takeNumber_57 lX4_59 kiX4_refuse kvX4_refuse rfl rfl rfl (la_2 hW) rfl (Nat.le_of_ble_eq_true rfl) rfl (xk_V k)
    · replace k := k.2 c
      refine xw_aload_n dX4_takeNumber_19 rfl rfl ?_
      refine xw_iconst (v := nI 2) dX4_takeNumber_20 rfl ?_
      refine xw_aload_n dX4_takeNumber_21 rfl rfl ?_
      refine yw_getI (v := I 2 4) dX4_takeNumber_22 fX4_90 rfl (la_2 hW) rfl ?_
      exact yw_cV (As := [.int (nI 2), .int (I 2 4)]) (b := 2) (st := []) dX4_takeNumber_25 lX4_59 kiX4_refuse kvX4_refuse rfl rfl rfl (la_2 hW) rfl (Nat.le_of_ble_eq_true rfl) rfl (xk_V k)
theorem bX4_takeNumber_60 {v1 : Int32} {mc ms : Nat} {Q : Int32 → xHp → Prop} (hW : xLay sh R) 
    (k : ((¬ (I 2 13) = 0 → Q v1 (sh, I, R)) ∧ ((I 2 13) = 0 → Q (I 2 5) (sh, I, R)))) :
    Ex mX4_takeNumber 60 [.ref 2, .int v1, xU] [] (sh, I, R) mc ms (xqI Q) := by
  refine xw_aload_n dX4_takeNumber_60 rfl rfl ?_
  refine yw_getI (v := I 2 13) dX4_takeNumber_61 fX4_38 rfl (la_2 hW) rfl ?_
  refine xw_ifne (tgt := 74) dX4_takeNumber_64 (by decide) (fun c => ?_) (fun c => ?_)
  · replace k := k.1 c
    refine xw_iload_n dX4_takeNumber_74 rfl rfl ?_
    exact yw_iret dX4_takeNumber_75 rfl k
  · replace k := k.2 c
    refine xw_aload_n dX4_takeNumber_67 rfl rfl ?_
    refine yw_getI (v := I 2 5) dX4_takeNumber_68 fX4_148 rfl (la_2 hW) rfl ?_
    refine xw_goto (tgt := 75) dX4_takeNumber_71 (by decide) ?_
    exact yw_iret dX4_takeNumber_75 rfl k
theorem bX4_takeNumber_28 {v1 v2 : Int32} {mc ms : Nat} {Q : Int32 → xHp → Prop} (hW : xLay sh R) 
    (k : ((¬ (I 2 13) = 0 → ((¬ (I 2 13) = 0 → Q v1 (sh, I, R)) ∧ ((I 2 13) = 0 → Q (I 2 5) (sh, I, R)))) ∧ ((I 2 13) = 0 → (((I 2 5) < v1 → CV mX4_refuse [.ref 2, .int (nI 3), .int (I 2 4)] (sh, I, R) (fun h1 => Ex mX4_takeNumber 60 [.ref 2, .int v1, xU] [] h1 mc ms (xqI Q))) ∧ (¬ (I 2 5) < v1 → (((I 2 5) ≤ v2 → ((¬ (I 2 13) = 0 → Q v1 (sh, I, R)) ∧ ((I 2 13) = 0 → Q (I 2 5) (sh, I, R)))) ∧ (¬ (I 2 5) ≤ v2 → CV mX4_refuse [.ref 2, .int (nI 3), .int (I 2 4)] (sh, I, R) (fun h1 => Ex mX4_takeNumber 60 [.ref 2, .int v1, xU] [] h1 mc ms (xqI Q))))))))) :
    Ex mX4_takeNumber 28 [.ref 2, .int v1, .int v2] [] (sh, I, R) mc ms (xqI Q) := by
  refine xw_aload_n dX4_takeNumber_28 rfl rfl ?_
  refine yw_getI (v := I 2 13) dX4_takeNumber_29 fX4_38 rfl (la_2 hW) rfl ?_
  refine xw_ifne (tgt := 60) dX4_takeNumber_32 (by decide) (fun c => ?_) (fun c => ?_)
  · replace k := k.1 c
    refine xw_aload_n dX4_takeNumber_60 rfl rfl ?_
    refine yw_getI (v := I 2 13) dX4_takeNumber_61 fX4_38 rfl (la_2 hW) rfl ?_
    refine xw_ifne (tgt := 74) dX4_takeNumber_64 (by decide) (fun c => ?_) (fun c => ?_)
    · replace k := k.1 c
      refine xw_iload_n dX4_takeNumber_74 rfl rfl ?_
      exact yw_iret dX4_takeNumber_75 rfl k
    · replace k := k.2 c
      refine xw_aload_n dX4_takeNumber_67 rfl rfl ?_
      refine yw_getI (v := I 2 5) dX4_takeNumber_68 fX4_148 rfl (la_2 hW) rfl ?_
      refine xw_goto (tgt := 75) dX4_takeNumber_71 (by decide) ?_
      exact yw_iret dX4_takeNumber_75 rfl k
  · replace k := k.2 c
    refine xw_aload_n dX4_takeNumber_35 rfl rfl ?_
    refine yw_getI (v := I 2 5) dX4_takeNumber_36 fX4_148 rfl (la_2 hW) rfl ?_
    refine xw_iload_n dX4_takeNumber_39 rfl rfl ?_
    refine xw_iclt (tgt := 51) dX4_takeNumber_40 (by decide) (fun c => ?_) (fun c => ?_)
    · replace k := k.1 c
      refine xw_aload_n dX4_takeNumber_51 rfl rfl ?_
      refine xw_iconst (v := nI 3) dX4_takeNumber_52 rfl ?_
      refine xw_aload_n dX4_takeNumber_53 rfl rfl ?_
      refine yw_getI (v := I 2 4) dX4_takeNumber_54 fX4_90 rfl (la_2 hW) rfl ?_
      refine yw_sub (lv' := [.ref 2, .int v1, xU]) ⟨Or.inr rfl, Or.inr rfl, Or.inl rfl, trivial⟩ ?_
      exact yw_cV (As := [.int (nI 3), .int (I 2 4)]) (b := 2) (st := []) dX4_takeNumber_57 lX4_59 kiX4_refuse kvX4_refuse rfl rfl rfl (la_2 hW) rfl (Nat.le_of_ble_eq_true rfl) rfl (xk_V k)
    · replace k := k.2 c
      refine xw_aload_n dX4_takeNumber_43 rfl rfl ?_
      refine yw_getI (v := I 2 5) dX4_takeNumber_44 fX4_148 rfl (la_2 hW) rfl ?_
      refine xw_iload_n dX4_takeNumber_47 rfl rfl ?_
      refine xw_icle (tgt := 60) dX4_takeNumber_48 (by decide) (fun c => ?_) (fun c => ?_)
      · replace k := k.1 c
        refine xw_aload_n dX4_takeNumber_60 rfl rfl ?_
        refine yw_getI (v := I 2 13) dX4_takeNumber_61 fX4_38 rfl (la_2 hW) rfl ?_
        refine xw_ifne (tgt := 74) dX4_takeNumber_64 (by decide) (fun c => ?_) (fun c => ?_)
        · replace k := k.1 c
          refine xw_iload_n dX4_takeNumber_74 rfl rfl ?_
          exact yw_iret dX4_takeNumber_75 rfl k
        · replace k := k.2 c
          refine xw_aload_n dX4_takeNumber_67 rfl rfl ?_
          refine yw_getI (v := I 2 5) dX4_takeNumber_68 fX4_148 rfl (la_2 hW) rfl ?_
          refine xw_goto (tgt := 75) dX4_takeNumber_71 (by decide) ?_
          exact yw_iret dX4_takeNumber_75 rfl k
      · replace k := k.2 c
        refine xw_aload_n dX4_takeNumber_51 rfl rfl ?_
        refine xw_iconst (v := nI 3) dX4_takeNumber_52 rfl ?_
        refine xw_aload_n dX4_takeNumber_53 rfl rfl ?_
        refine yw_getI (v := I 2 4) dX4_takeNumber_54 fX4_90 rfl (la_2 hW) rfl ?_
        refine yw_sub (lv' := [.ref 2, .int v1, xU]) ⟨Or.inr rfl, Or.inr rfl, Or.inl rfl, trivial⟩ ?_
        exact yw_cV (As := [.int (nI 3), .int (I 2 4)]) (b := 2) (st := []) dX4_takeNumber_57 lX4_59 kiX4_refuse kvX4_refuse rfl rfl rfl (la_2 hW) rfl (Nat.le_of_ble_eq_true rfl) rfl (xk_V k)
theorem eX4_takeNumber {v1 : Int32} {v2 : Int32} {h : xHp} {Q : Int32 → xHp → Prop} (k : Ex mX4_takeNumber 0 [.ref 2, .int v1, .int v2] [] h 0 0 (xqI Q)) : CI mX4_takeNumber [.ref 2, .int v1, .int v2] h Q := k
theorem bX4_takePrime_0 {mc ms : Nat} {Q : Int32 → xHp → Prop} (hW : xLay sh R) 
    (k : CI mX4_takeNumber [.ref 2, .int (nI 0), .int (nI 99)] (sh, I, R) (fun w h1 => Ex mX4_takePrime 7 [.ref 2, xU] (.int w :: []) h1 mc ms (xqI Q))) :
    Ex mX4_takePrime 0 [.ref 2, xU] [] (sh, I, R) mc ms (xqI Q) := by
  refine xw_aload_n dX4_takePrime_0 rfl rfl ?_
  refine xw_iconst (v := nI 0) dX4_takePrime_1 rfl ?_
  refine xw_bipush (v := nI 99) dX4_takePrime_2 (by decide) ?_
  exact yw_cV (As := [.int (nI 0), .int (nI 99)]) (b := 2) (st := []) dX4_takePrime_4 lX4_96 kiX4_takeNumber kvX4_takeNumber rfl rfl rfl (la_2 hW) rfl (Nat.le_of_ble_eq_true rfl) rfl (xk_I k)
theorem bX4_takePrime_7 {s0 : Int32} {mc ms : Nat} {Q : Int32 → xHp → Prop} (hW : xLay sh R) 
    (k : ((¬ (I 2 13) = 0 → Q s0 (sh, I, R)) ∧ ((I 2 13) = 0 → CI mX5_isPrime [.int s0] (sh, I, R) (fun w h1 => Ex mX4_takePrime 19 [.ref 2, .int s0] (.int w :: []) h1 mc ms (xqI Q))))) :
    Ex mX4_takePrime 7 [.ref 2, xU] [.int s0] (sh, I, R) mc ms (xqI Q) := by
  refine yw_istore_n (lv' := [.ref 2, .int s0]) dX4_takePrime_7 rfl rfl rfl rfl ?_
  refine xw_aload_n dX4_takePrime_8 rfl rfl ?_
  refine yw_getI (v := I 2 13) dX4_takePrime_9 fX4_38 rfl (la_2 hW) rfl ?_
  refine xw_ifne (tgt := 31) dX4_takePrime_12 (by decide) (fun c => ?_) (fun c => ?_)
  · replace k := k.1 c
    refine xw_iload_n dX4_takePrime_31 rfl rfl ?_
    exact yw_iret dX4_takePrime_32 rfl k
  · replace k := k.2 c
    refine xw_iload_n dX4_takePrime_15 rfl rfl ?_
    exact yw_cS (As := [.int s0]) (st := []) dX4_takePrime_16 lX4_144 ksX5_isPrime rfl rfl rfl (Nat.le_of_ble_eq_true rfl) rfl (xk_I k)
theorem bX4_takePrime_19 {v1 s0 : Int32} {mc ms : Nat} {Q : Int32 → xHp → Prop} (hW : xLay sh R) 
    (k : ((¬ s0 = 0 → Q v1 (sh, I, R)) ∧ (s0 = 0 → CV mX4_refuse [.ref 2, .int (nI 3), .int (I 2 4)] (sh, I, R) (fun h1 => Ex mX4_takePrime 31 [xU, .int v1] [] h1 mc ms (xqI Q))))) :
    Ex mX4_takePrime 19 [.ref 2, .int v1] [.int s0] (sh, I, R) mc ms (xqI Q) := by
  refine xw_ifne (tgt := 31) dX4_takePrime_19 (by decide) (fun c => ?_) (fun c => ?_)
  · replace k := k.1 c
    refine xw_iload_n dX4_takePrime_31 rfl rfl ?_
    exact yw_iret dX4_takePrime_32 rfl k
  · replace k := k.2 c
    refine xw_aload_n dX4_takePrime_22 rfl rfl ?_
    refine xw_iconst (v := nI 3) dX4_takePrime_23 rfl ?_
    refine xw_aload_n dX4_takePrime_24 rfl rfl ?_
    refine yw_getI (v := I 2 4) dX4_takePrime_25 fX4_90 rfl (la_2 hW) rfl ?_
    refine yw_sub (lv' := [xU, .int v1]) ⟨Or.inl rfl, Or.inr rfl, trivial⟩ ?_
    exact yw_cV (As := [.int (nI 3), .int (I 2 4)]) (b := 2) (st := []) dX4_takePrime_28 lX4_59 kiX4_refuse kvX4_refuse rfl rfl rfl (la_2 hW) rfl (Nat.le_of_ble_eq_true rfl) rfl (xk_V k)
theorem bX4_takePrime_31 {v1 : Int32} {mc ms : Nat} {Q : Int32 → xHp → Prop} (hW : xLay sh R) 
    (k : Q v1 (sh, I, R)) :
    Ex mX4_takePrime 31 [xU, .int v1] [] (sh, I, R) mc ms (xqI Q) := by
  refine xw_iload_n dX4_takePrime_31 rfl rfl ?_
  exact yw_iret dX4_takePrime_32 rfl k
theorem eX4_takePrime {h : xHp} {Q : Int32 → xHp → Prop} (k : Ex mX4_takePrime 0 [.ref 2, xU] [] h 0 0 (xqI Q)) : CI mX4_takePrime [.ref 2] h Q := k
theorem bX4_takeLetter_0 {mc ms : Nat} {Q : Int32 → xHp → Prop} (hW : xLay sh R) 
    (k : CV mX4_next [.ref 2] (sh, I, R) (fun h1 => Ex mX4_takeLetter 4 [.ref 2, xU] [] h1 mc ms (xqI Q))) :
    Ex mX4_takeLetter 0 [.ref 2, xU] [] (sh, I, R) mc ms (xqI Q) := by
  refine xw_aload_n dX4_takeLetter_0 rfl rfl ?_
  exact yw_cV (As := []) (b := 2) (st := []) dX4_takeLetter_1 lX4_35 kiX4_next kvX4_next rfl rfl rfl (la_2 hW) rfl (Nat.le_of_ble_eq_true rfl) rfl (xk_V k)
theorem bX4_takeLetter_4 {mc ms : Nat} {Q : Int32 → xHp → Prop} (hW : xLay sh R) 
    (k : (((I 2 13) = 0 → ((¬ (I 2 3) = (nI 1) → (((nI 3) < (nI 3) → Q (nI 3) (sh, I, R)) ∧ (¬ (nI 3) < (nI 3) → CV mX4_refuse [.ref 2, .int (nI 2), .int (I 2 4)] (sh, I, R) (fun h1 => Ex mX4_takeLetter 65 [xU, xU] [] h1 mc ms (xqI Q))))) ∧ ((I 2 3) = (nI 1) → ((¬ ((I 2 2) - (I 2 4)) = (nI 1) → (((nI 3) < (nI 3) → Q (nI 3) (sh, I, R)) ∧ (¬ (nI 3) < (nI 3) → CV mX4_refuse [.ref 2, .int (nI 2), .int (I 2 4)] (sh, I, R) (fun h1 => Ex mX4_takeLetter 65 [xU, xU] [] h1 mc ms (xqI Q))))) ∧ (((I 2 2) - (I 2 4)) = (nI 1) → vp_in (I 2 4) 200 ∧ ((((I 3 ((I 2 4).toNatClampNeg)) - (nI 97)) < (nI 3) → Q ((I 3 ((I 2 4).toNatClampNeg)) - (nI 97)) (sh, I, R)) ∧ (¬ ((I 3 ((I 2 4).toNatClampNeg)) - (nI 97)) < (nI 3) → CV mX4_refuse [.ref 2, .int (nI 2), .int (I 2 4)] (sh, I, R) (fun h1 => Ex mX4_takeLetter 65 [xU, xU] [] h1 mc ms (xqI Q))))))))) ∧ (¬ (I 2 13) = 0 → Q (nI 0) (sh, I, R)))) :
    Ex mX4_takeLetter 4 [.ref 2, xU] [] (sh, I, R) mc ms (xqI Q) := by
  refine xw_aload_n dX4_takeLetter_4 rfl rfl ?_
  refine yw_getI (v := I 2 13) dX4_takeLetter_5 fX4_38 rfl (la_2 hW) rfl ?_
  refine xw_ifeq (tgt := 13) dX4_takeLetter_8 (by decide) (fun c => ?_) (fun c => ?_)
  · replace k := k.1 c
    refine xw_aload_n dX4_takeLetter_13 rfl rfl ?_
    refine yw_getI (v := I 2 3) dX4_takeLetter_14 fX4_41 rfl (la_2 hW) rfl ?_
    refine xw_iconst (v := nI 1) dX4_takeLetter_17 rfl ?_
    refine xw_icne (tgt := 49) dX4_takeLetter_18 (by decide) (fun c => ?_) (fun c => ?_)
    · replace k := k.1 c
      refine xw_iconst (v := nI 3) dX4_takeLetter_49 rfl ?_
      refine yw_istore_n (lv' := [.ref 2, .int (nI 3)]) dX4_takeLetter_50 rfl rfl rfl rfl ?_
      refine xw_iload_n dX4_takeLetter_51 rfl rfl ?_
      refine xw_iconst (v := nI 3) dX4_takeLetter_52 rfl ?_
      refine xw_iclt (tgt := 67) dX4_takeLetter_53 (by decide) (fun c => ?_) (fun c => ?_)
      · replace k := k.1 c
        refine xw_iload_n dX4_takeLetter_67 rfl rfl ?_
        exact yw_iret dX4_takeLetter_68 rfl k
      · replace k := k.2 c
        refine xw_aload_n dX4_takeLetter_56 rfl rfl ?_
        refine xw_iconst (v := nI 2) dX4_takeLetter_57 rfl ?_
        refine xw_aload_n dX4_takeLetter_58 rfl rfl ?_
        refine yw_getI (v := I 2 4) dX4_takeLetter_59 fX4_90 rfl (la_2 hW) rfl ?_
        refine yw_sub (lv' := [xU, xU]) ⟨Or.inl rfl, Or.inl rfl, trivial⟩ ?_
        exact yw_cV (As := [.int (nI 2), .int (I 2 4)]) (b := 2) (st := []) dX4_takeLetter_62 lX4_59 kiX4_refuse kvX4_refuse rfl rfl rfl (la_2 hW) rfl (Nat.le_of_ble_eq_true rfl) rfl (xk_V k)
    · replace k := k.2 c
      refine xw_aload_n dX4_takeLetter_21 rfl rfl ?_
      refine yw_getI (v := I 2 2) dX4_takeLetter_22 fX4_71 rfl (la_2 hW) rfl ?_
      refine xw_aload_n dX4_takeLetter_25 rfl rfl ?_
      refine yw_getI (v := I 2 4) dX4_takeLetter_26 fX4_90 rfl (la_2 hW) rfl ?_
      refine xw_isub dX4_takeLetter_29 ?_
      refine xw_iconst (v := nI 1) dX4_takeLetter_30 rfl ?_
      refine xw_icne (tgt := 49) dX4_takeLetter_31 (by decide) (fun c => ?_) (fun c => ?_)
      · replace k := k.1 c
        refine xw_iconst (v := nI 3) dX4_takeLetter_49 rfl ?_
        refine yw_istore_n (lv' := [.ref 2, .int (nI 3)]) dX4_takeLetter_50 rfl rfl rfl rfl ?_
        refine xw_iload_n dX4_takeLetter_51 rfl rfl ?_
        refine xw_iconst (v := nI 3) dX4_takeLetter_52 rfl ?_
        refine xw_iclt (tgt := 67) dX4_takeLetter_53 (by decide) (fun c => ?_) (fun c => ?_)
        · replace k := k.1 c
          refine xw_iload_n dX4_takeLetter_67 rfl rfl ?_
          exact yw_iret dX4_takeLetter_68 rfl k
        · replace k := k.2 c
          refine xw_aload_n dX4_takeLetter_56 rfl rfl ?_
          refine xw_iconst (v := nI 2) dX4_takeLetter_57 rfl ?_
          refine xw_aload_n dX4_takeLetter_58 rfl rfl ?_
          refine yw_getI (v := I 2 4) dX4_takeLetter_59 fX4_90 rfl (la_2 hW) rfl ?_
          refine yw_sub (lv' := [xU, xU]) ⟨Or.inl rfl, Or.inl rfl, trivial⟩ ?_
          exact yw_cV (As := [.int (nI 2), .int (I 2 4)]) (b := 2) (st := []) dX4_takeLetter_62 lX4_59 kiX4_refuse kvX4_refuse rfl rfl rfl (la_2 hW) rfl (Nat.le_of_ble_eq_true rfl) rfl (xk_V k)
      · replace k := k.2 c
        refine xw_aload_n dX4_takeLetter_34 rfl rfl ?_
        refine yw_getR (r := 3) dX4_takeLetter_35 fX4_11 rfl (la_2 hW) (lr_2_0 hW) ?_
        refine xw_aload_n dX4_takeLetter_38 rfl rfl ?_
        refine yw_getI (v := I 2 4) dX4_takeLetter_39 fX4_90 rfl (la_2 hW) rfl ?_
        obtain ⟨k0, k⟩ := k
        refine yw_baload (v := I 3 ((I 2 4).toNatClampNeg)) dX4_takeLetter_42 (la_3 hW) k0 rfl ?_
        refine xw_bipush (v := nI 97) dX4_takeLetter_43 (by decide) ?_
        refine xw_isub dX4_takeLetter_45 ?_
        refine xw_goto (tgt := 50) dX4_takeLetter_46 (by decide) ?_
        refine yw_istore_n (lv' := [.ref 2, .int ((I 3 ((I 2 4).toNatClampNeg)) - (nI 97))]) dX4_takeLetter_50 rfl rfl rfl rfl ?_
        refine xw_iload_n dX4_takeLetter_51 rfl rfl ?_
        refine xw_iconst (v := nI 3) dX4_takeLetter_52 rfl ?_
        refine xw_iclt (tgt := 67) dX4_takeLetter_53 (by decide) (fun c => ?_) (fun c => ?_)
        · replace k := k.1 c
          refine xw_iload_n dX4_takeLetter_67 rfl rfl ?_
          exact yw_iret dX4_takeLetter_68 rfl k
        · replace k := k.2 c
          refine xw_aload_n dX4_takeLetter_56 rfl rfl ?_
          refine xw_iconst (v := nI 2) dX4_takeLetter_57 rfl ?_
          refine xw_aload_n dX4_takeLetter_58 rfl rfl ?_
          refine yw_getI (v := I 2 4) dX4_takeLetter_59 fX4_90 rfl (la_2 hW) rfl ?_
          refine yw_sub (lv' := [xU, xU]) ⟨Or.inl rfl, Or.inl rfl, trivial⟩ ?_
          exact yw_cV (As := [.int (nI 2), .int (I 2 4)]) (b := 2) (st := []) dX4_takeLetter_62 lX4_59 kiX4_refuse kvX4_refuse rfl rfl rfl (la_2 hW) rfl (Nat.le_of_ble_eq_true rfl) rfl (xk_V k)
  · replace k := k.2 c
    refine xw_iconst (v := nI 0) dX4_takeLetter_11 rfl ?_
    exact yw_iret dX4_takeLetter_12 rfl k
theorem bX4_takeLetter_65 {mc ms : Nat} {Q : Int32 → xHp → Prop} (hW : xLay sh R) 
    (k : Q (nI 0) (sh, I, R)) :
    Ex mX4_takeLetter 65 [xU, xU] [] (sh, I, R) mc ms (xqI Q) := by
  refine xw_iconst (v := nI 0) dX4_takeLetter_65 rfl ?_
  exact yw_iret dX4_takeLetter_66 rfl k
theorem eX4_takeLetter {h : xHp} {Q : Int32 → xHp → Prop} (k : Ex mX4_takeLetter 0 [.ref 2, xU] [] h 0 0 (xqI Q)) : CI mX4_takeLetter [.ref 2] h Q := k
theorem bX4_readEdge_0 {mc ms : Nat} {Q : xHp → Prop} (hW : xLay sh R) 
    (k : CI mX4_takeNumber [.ref 2, .int (nI 0), .int (nI 3)] (sh, I, R) (fun w h1 => Ex mX4_readEdge 6 [.ref 2, xU, xU, xU] (.int w :: []) h1 mc ms (xqV Q))) :
    Ex mX4_readEdge 0 [.ref 2, xU, xU, xU] [] (sh, I, R) mc ms (xqV Q) := by
  refine xw_aload_n dX4_readEdge_0 rfl rfl ?_
  refine xw_iconst (v := nI 0) dX4_readEdge_1 rfl ?_
  refine xw_iconst (v := nI 3) dX4_readEdge_2 rfl ?_
  exact yw_cV (As := [.int (nI 0), .int (nI 3)]) (b := 2) (st := []) dX4_readEdge_3 lX4_96 kiX4_takeNumber kvX4_takeNumber rfl rfl rfl (la_2 hW) rfl (Nat.le_of_ble_eq_true rfl) rfl (xk_I k)
theorem bX4_readEdge_6 {s0 : Int32} {mc ms : Nat} {Q : xHp → Prop} (hW : xLay sh R) 
    (k : CI mX4_takeLetter [.ref 2] (sh, I, R) (fun w h1 => Ex mX4_readEdge 11 [.ref 2, .int s0, xU, xU] (.int w :: []) h1 mc ms (xqV Q))) :
    Ex mX4_readEdge 6 [.ref 2, xU, xU, xU] [.int s0] (sh, I, R) mc ms (xqV Q) := by
  refine yw_istore_n (lv' := [.ref 2, .int s0, xU, xU]) dX4_readEdge_6 rfl rfl rfl rfl ?_
  refine xw_aload_n dX4_readEdge_7 rfl rfl ?_
  exact yw_cV (As := []) (b := 2) (st := []) dX4_readEdge_8 lX4_134 kiX4_takeLetter kvX4_takeLetter rfl rfl rfl (la_2 hW) rfl (Nat.le_of_ble_eq_true rfl) rfl (xk_I k)
theorem bX4_readEdge_11 {v1 s0 : Int32} {mc ms : Nat} {Q : xHp → Prop} (hW : xLay sh R) 
    (k : CI mX4_takeNumber [.ref 2, .int (nI 0), .int (nI 3)] (sh, I, R) (fun w h1 => Ex mX4_readEdge 18 [.ref 2, .int v1, .int s0, xU] (.int w :: []) h1 mc ms (xqV Q))) :
    Ex mX4_readEdge 11 [.ref 2, .int v1, xU, xU] [.int s0] (sh, I, R) mc ms (xqV Q) := by
  refine yw_istore_n (lv' := [.ref 2, .int v1, .int s0, xU]) dX4_readEdge_11 rfl rfl rfl rfl ?_
  refine xw_aload_n dX4_readEdge_12 rfl rfl ?_
  refine xw_iconst (v := nI 0) dX4_readEdge_13 rfl ?_
  refine xw_iconst (v := nI 3) dX4_readEdge_14 rfl ?_
  exact yw_cV (As := [.int (nI 0), .int (nI 3)]) (b := 2) (st := []) dX4_readEdge_15 lX4_96 kiX4_takeNumber kvX4_takeNumber rfl rfl rfl (la_2 hW) rfl (Nat.le_of_ble_eq_true rfl) rfl (xk_I k)
theorem bX4_readEdge_18 {v1 v2 s0 : Int32} {mc ms : Nat} {Q : xHp → Prop} (hW : xLay sh R) 
    (k : CI mX3_at [.ref 5, .int v1, .int v2, .int s0] (sh, (xi (xi I 2 8 (if (I 2 8) < (if v1 < s0 then s0 else v1) then (if v1 < s0 then s0 else v1) else (I 2 8))) 2 9 (if (I 2 9) < v2 then v2 else (I 2 9))), R) (fun w h1 => Ex mX4_readEdge 64 [.ref 2, xU, xU, xU] (.int w :: [.ref 8]) h1 mc ms (xqV Q))) :
    Ex mX4_readEdge 18 [.ref 2, .int v1, .int v2, xU] [.int s0] (sh, I, R) mc ms (xqV Q) := by
  refine yw_istore_n (lv' := [.ref 2, .int v1, .int v2, .int s0]) dX4_readEdge_18 rfl rfl rfl rfl ?_
  refine xw_aload_n dX4_readEdge_19 rfl rfl ?_
  refine xw_aload_n dX4_readEdge_20 rfl rfl ?_
  refine yw_getI (v := I 2 8) dX4_readEdge_21 fX4_47 rfl (la_2 hW) rfl ?_
  refine xw_iload_n dX4_readEdge_24 rfl rfl ?_
  refine xw_iload_n dX4_readEdge_25 rfl rfl ?_
  refine xw_max dX4_readEdge_26 lX4_122 ksJ9_max_7cf53 knJ9 kcJ9_max_7cf53 (Nat.le_of_ble_eq_true rfl) (Nat.le_of_ble_eq_true rfl) (Nat.le_of_ble_eq_true rfl) ?_
  refine xw_max dX4_readEdge_29 lX4_122 ksJ9_max_7cf53 knJ9 kcJ9_max_7cf53 (Nat.le_of_ble_eq_true rfl) (Nat.le_of_ble_eq_true rfl) (Nat.le_of_ble_eq_true rfl) ?_
  refine yw_putI dX4_readEdge_32 fX4_47 (fun r h => by cases h; exact Or.inl rfl) rfl (la_2 hW) ?_
  refine xw_aload_n dX4_readEdge_35 rfl rfl ?_
  refine xw_aload_n dX4_readEdge_36 rfl rfl ?_
  refine yw_getI (v := I 2 9) dX4_readEdge_37 fX4_53 rfl (la_2 hW) (xi_s (j := 9) (k := 8) (by decide)) ?_
  refine xw_iload_n dX4_readEdge_40 rfl rfl ?_
  refine xw_max dX4_readEdge_41 lX4_122 ksJ9_max_7cf53 knJ9 kcJ9_max_7cf53 (Nat.le_of_ble_eq_true rfl) (Nat.le_of_ble_eq_true rfl) (Nat.le_of_ble_eq_true rfl) ?_
  refine yw_putI dX4_readEdge_44 fX4_53 (fun r h => by cases h; exact Or.inl rfl) rfl (la_2 hW) ?_
  refine xw_aload_n dX4_readEdge_47 rfl rfl ?_
  refine yw_getR (r := 5) dX4_readEdge_48 fX4_24 rfl (la_2 hW) (lr_2_6 hW) ?_
  refine yw_getR (r := 8) dX4_readEdge_51 fX4_137 rfl hW.2.2.2.2.2.2.2.1.1 hW.2.2.2.2.2.2.2.1.2.2.2.2.2.2.2 ?_
  refine xw_aload_n dX4_readEdge_54 rfl rfl ?_
  refine yw_getR (r := 5) dX4_readEdge_55 fX4_24 rfl (la_2 hW) (lr_2_6 hW) ?_
  refine xw_iload_n dX4_readEdge_58 rfl rfl ?_
  refine xw_iload_n dX4_readEdge_59 rfl rfl ?_
  refine xw_iload_n dX4_readEdge_60 rfl rfl ?_
  refine yw_sub (lv' := [.ref 2, xU, xU, xU]) ⟨Or.inr rfl, Or.inl rfl, Or.inl rfl, Or.inl rfl, trivial⟩ ?_
  exact yw_cV (As := [.int v1, .int v2, .int s0]) (b := 5) (st := [.ref 8]) dX4_readEdge_61 lX4_140 kiX3_at kvX3_at rfl rfl rfl hW.2.2.2.2.2.2.2.1.1 rfl (Nat.le_of_ble_eq_true rfl) rfl (xk_I k)
theorem bX4_readEdge_64 {s1 : Int32} {mc ms : Nat} {Q : xHp → Prop} (hW : xLay sh R) 
    (k : CI mX4_takeNumber [.ref 2, .int (nI 0), .int (nI 99)] (sh, I, R) (fun w h1 => Ex mX4_readEdge 71 [xU, xU, xU, xU] (.int w :: [.int s1, .ref 8]) h1 mc ms (xqV Q))) :
    Ex mX4_readEdge 64 [.ref 2, xU, xU, xU] [.int s1, .ref 8] (sh, I, R) mc ms (xqV Q) := by
  refine xw_aload_n dX4_readEdge_64 rfl rfl ?_
  refine xw_iconst (v := nI 0) dX4_readEdge_65 rfl ?_
  refine xw_bipush (v := nI 99) dX4_readEdge_66 (by decide) ?_
  refine yw_sub (lv' := [xU, xU, xU, xU]) ⟨Or.inl rfl, Or.inl rfl, Or.inl rfl, Or.inl rfl, trivial⟩ ?_
  exact yw_cV (As := [.int (nI 0), .int (nI 99)]) (b := 2) (st := [.int s1, .ref 8]) dX4_readEdge_68 lX4_96 kiX4_takeNumber kvX4_takeNumber rfl rfl rfl (la_2 hW) rfl (Nat.le_of_ble_eq_true rfl) rfl (xk_I k)
theorem bX4_readEdge_71 {s2 s1 : Int32} {mc ms : Nat} {Q : xHp → Prop} (hW : xLay sh R) 
    (k : vp_in s1 48 ∧ Q (sh, (xi I 8 s1.toNatClampNeg s2), R)) :
    Ex mX4_readEdge 71 [xU, xU, xU, xU] [.int s2, .int s1, .ref 8] (sh, I, R) mc ms (xqV Q) := by
  obtain ⟨k0, k⟩ := k
  refine yw_iastore dX4_readEdge_71 hW.2.2.2.2.2.2.2.1.2.2.2.1 k0 ?_
  exact yw_vret dX4_readEdge_72 rfl k
theorem eX4_readEdge {h : xHp} {Q : xHp → Prop} (k : Ex mX4_readEdge 0 [.ref 2, xU, xU, xU] [] h 0 0 (xqV Q)) : CV mX4_readEdge [.ref 2] h Q := k
theorem bX4_readStateLine_0 {v1 : Int32} {mc ms : Nat} {Q : xHp → Prop} (hW : xLay sh R) 
    (k : CI mX4_takeNumber [.ref 2, .int (nI 0), .int (nI 3)] (sh, I, R) (fun w h1 => Ex mX4_readStateLine 6 [.ref 2, .int v1, xU, xU] (.int w :: []) h1 mc ms (xqV Q))) :
    Ex mX4_readStateLine 0 [.ref 2, .int v1, xU, xU] [] (sh, I, R) mc ms (xqV Q) := by
  refine xw_aload_n dX4_readStateLine_0 rfl rfl ?_
  refine xw_iconst (v := nI 0) dX4_readStateLine_1 rfl ?_
  refine xw_iconst (v := nI 3) dX4_readStateLine_2 rfl ?_
  exact yw_cV (As := [.int (nI 0), .int (nI 3)]) (b := 2) (st := []) dX4_readStateLine_3 lX4_96 kiX4_takeNumber kvX4_takeNumber rfl rfl rfl (la_2 hW) rfl (Nat.le_of_ble_eq_true rfl) rfl (xk_I k)
theorem bX4_readStateLine_6 {v1 s0 : Int32} {mc ms : Nat} {Q : xHp → Prop} (hW : xLay sh R) 
    (k : CI mX4_takeNumber [.ref 2, .int (nI 0), .int (nI 99)] (sh, I, R) (fun w h1 => Ex mX4_readStateLine 14 [.ref 2, .int v1, .int s0, xU] (.int w :: []) h1 mc ms (xqV Q))) :
    Ex mX4_readStateLine 6 [.ref 2, .int v1, xU, xU] [.int s0] (sh, I, R) mc ms (xqV Q) := by
  refine yw_istore_n (lv' := [.ref 2, .int v1, .int s0, xU]) dX4_readStateLine_6 rfl rfl rfl rfl ?_
  refine xw_aload_n dX4_readStateLine_7 rfl rfl ?_
  refine xw_iconst (v := nI 0) dX4_readStateLine_8 rfl ?_
  refine xw_bipush (v := nI 99) dX4_readStateLine_9 (by decide) ?_
  exact yw_cV (As := [.int (nI 0), .int (nI 99)]) (b := 2) (st := []) dX4_readStateLine_11 lX4_96 kiX4_takeNumber kvX4_takeNumber rfl rfl rfl (la_2 hW) rfl (Nat.le_of_ble_eq_true rfl) rfl (xk_I k)
theorem bX4_readStateLine_14 {v1 v2 s0 : Int32} {mc ms : Nat} {Q : xHp → Prop} (hW : xLay sh R) 
    (k : ((¬ v1 = (nI 3) → vp_in v2 4 ∧ Q (sh, (xi (xi I 2 8 (if (I 2 8) < v2 then v2 else (I 2 8))) 7 v2.toNatClampNeg s0), R)) ∧ (v1 = (nI 3) → vp_in v2 4 ∧ Q (sh, (xi (xi I 2 8 (if (I 2 8) < v2 then v2 else (I 2 8))) 6 v2.toNatClampNeg s0), R)))) :
    Ex mX4_readStateLine 14 [.ref 2, .int v1, .int v2, xU] [.int s0] (sh, I, R) mc ms (xqV Q) := by
  refine yw_istore_n (lv' := [.ref 2, .int v1, .int v2, .int s0]) dX4_readStateLine_14 rfl rfl rfl rfl ?_
  refine xw_aload_n dX4_readStateLine_15 rfl rfl ?_
  refine xw_aload_n dX4_readStateLine_16 rfl rfl ?_
  refine yw_getI (v := I 2 8) dX4_readStateLine_17 fX4_47 rfl (la_2 hW) rfl ?_
  refine xw_iload_n dX4_readStateLine_20 rfl rfl ?_
  refine xw_max dX4_readStateLine_21 lX4_122 ksJ9_max_7cf53 knJ9 kcJ9_max_7cf53 (Nat.le_of_ble_eq_true rfl) (Nat.le_of_ble_eq_true rfl) (Nat.le_of_ble_eq_true rfl) ?_
  refine yw_putI dX4_readStateLine_24 fX4_47 (fun r h => by cases h; exact Or.inl rfl) rfl (la_2 hW) ?_
  refine xw_iload_n dX4_readStateLine_27 rfl rfl ?_
  refine xw_iconst (v := nI 3) dX4_readStateLine_28 rfl ?_
  refine xw_icne (tgt := 45) dX4_readStateLine_29 (by decide) (fun c => ?_) (fun c => ?_)
  · replace k := k.1 c
    refine xw_aload_n dX4_readStateLine_45 rfl rfl ?_
    refine yw_getR (r := 5) dX4_readStateLine_46 fX4_24 rfl (la_2 hW) (lr_2_6 hW) ?_
    refine yw_getR (r := 7) dX4_readStateLine_49 fX4_131 rfl hW.2.2.2.2.2.2.2.1.1 hW.2.2.2.2.2.2.2.1.2.2.2.2.2.2.1 ?_
    refine xw_iload_n dX4_readStateLine_52 rfl rfl ?_
    refine xw_iload_n dX4_readStateLine_53 rfl rfl ?_
    obtain ⟨k0, k⟩ := k
    refine yw_iastore dX4_readStateLine_54 hW.2.2.2.2.2.2.2.1.2.2.1 k0 ?_
    exact yw_vret dX4_readStateLine_55 rfl k
  · replace k := k.2 c
    refine xw_aload_n dX4_readStateLine_32 rfl rfl ?_
    refine yw_getR (r := 5) dX4_readStateLine_33 fX4_24 rfl (la_2 hW) (lr_2_6 hW) ?_
    refine yw_getR (r := 6) dX4_readStateLine_36 fX4_127 rfl hW.2.2.2.2.2.2.2.1.1 hW.2.2.2.2.2.2.2.1.2.2.2.2.2.1 ?_
    refine xw_iload_n dX4_readStateLine_39 rfl rfl ?_
    refine xw_iload_n dX4_readStateLine_40 rfl rfl ?_
    obtain ⟨k0, k⟩ := k
    refine yw_iastore dX4_readStateLine_41 hW.2.2.2.2.2.2.2.1.2.1 k0 ?_
    refine xw_goto (tgt := 55) dX4_readStateLine_42 (by decide) ?_
    exact yw_vret dX4_readStateLine_55 rfl k
theorem eX4_readStateLine {v1 : Int32} {h : xHp} {Q : xHp → Prop} (k : Ex mX4_readStateLine 0 [.ref 2, .int v1, xU, xU] [] h 0 0 (xqV Q)) : CV mX4_readStateLine [.ref 2, .int v1] h Q := k
theorem bX4_takeSign_0 {mc ms : Nat} {Q : xHp → Prop} (hW : xLay sh R) 
    (k : CV mX4_next [.ref 2] (sh, I, R) (fun h1 => Ex mX4_takeSign 4 [.ref 2] [] h1 mc ms (xqV Q))) :
    Ex mX4_takeSign 0 [.ref 2] [] (sh, I, R) mc ms (xqV Q) := by
  refine xw_aload_n dX4_takeSign_0 rfl rfl ?_
  exact yw_cV (As := []) (b := 2) (st := []) dX4_takeSign_1 lX4_35 kiX4_next kvX4_next rfl rfl rfl (la_2 hW) rfl (Nat.le_of_ble_eq_true rfl) rfl (xk_V k)
theorem bX4_takeSign_4 {mc ms : Nat} {Q : xHp → Prop} (hW : xLay sh R) 
    (k : ((¬ (I 2 13) = 0 → Q (sh, I, R)) ∧ ((I 2 13) = 0 → (((I 2 3) = (nI 3) → Q (sh, I, R)) ∧ (¬ (I 2 3) = (nI 3) → CV mX4_refuse [.ref 2, .int (nI 2), .int (I 2 4)] (sh, I, R) (fun h1 => Ex mX4_takeSign 28 [xU] [] h1 mc ms (xqV Q))))))) :
    Ex mX4_takeSign 4 [.ref 2] [] (sh, I, R) mc ms (xqV Q) := by
  refine xw_aload_n dX4_takeSign_4 rfl rfl ?_
  refine yw_getI (v := I 2 13) dX4_takeSign_5 fX4_38 rfl (la_2 hW) rfl ?_
  refine xw_ifne (tgt := 28) dX4_takeSign_8 (by decide) (fun c => ?_) (fun c => ?_)
  · replace k := k.1 c
    exact yw_vret dX4_takeSign_28 rfl k
  · replace k := k.2 c
    refine xw_aload_n dX4_takeSign_11 rfl rfl ?_
    refine yw_getI (v := I 2 3) dX4_takeSign_12 fX4_41 rfl (la_2 hW) rfl ?_
    refine xw_iconst (v := nI 3) dX4_takeSign_15 rfl ?_
    refine xw_iceq (tgt := 28) dX4_takeSign_16 (by decide) (fun c => ?_) (fun c => ?_)
    · replace k := k.1 c
      exact yw_vret dX4_takeSign_28 rfl k
    · replace k := k.2 c
      refine xw_aload_n dX4_takeSign_19 rfl rfl ?_
      refine xw_iconst (v := nI 2) dX4_takeSign_20 rfl ?_
      refine xw_aload_n dX4_takeSign_21 rfl rfl ?_
      refine yw_getI (v := I 2 4) dX4_takeSign_22 fX4_90 rfl (la_2 hW) rfl ?_
      refine yw_sub (lv' := [xU]) ⟨Or.inl rfl, trivial⟩ ?_
      exact yw_cV (As := [.int (nI 2), .int (I 2 4)]) (b := 2) (st := []) dX4_takeSign_25 lX4_59 kiX4_refuse kvX4_refuse rfl rfl rfl (la_2 hW) rfl (Nat.le_of_ble_eq_true rfl) rfl (xk_V k)
theorem bX4_takeSign_28 {mc ms : Nat} {Q : xHp → Prop} (hW : xLay sh R) 
    (k : Q (sh, I, R)) :
    Ex mX4_takeSign 28 [xU] [] (sh, I, R) mc ms (xqV Q) := by
  exact yw_vret dX4_takeSign_28 rfl k
theorem eX4_takeSign {h : xHp} {Q : xHp → Prop} (k : Ex mX4_takeSign 0 [.ref 2] [] h 0 0 (xqV Q)) : CV mX4_takeSign [.ref 2] h Q := k
theorem bX4_readLine_0 {mc ms : Nat} {Q : xHp → Prop} (hW : xLay sh R) 
    (k : CI mX4_kindOfLine [.ref 2] (sh, I, R) (fun w h1 => Ex mX4_readLine 4 [.ref 2, xU] (.int w :: []) h1 mc ms (xqV Q))) :
    Ex mX4_readLine 0 [.ref 2, xU] [] (sh, I, R) mc ms (xqV Q) := by
  refine xw_aload_n dX4_readLine_0 rfl rfl ?_
  exact yw_cV (As := []) (b := 2) (st := []) dX4_readLine_1 lX4_86 kiX4_kindOfLine kvX4_kindOfLine rfl rfl rfl (la_2 hW) rfl (Nat.le_of_ble_eq_true rfl) rfl (xk_I k)
theorem bX4_readLine_4 {s0 : Int32} {mc ms : Nat} {Q : xHp → Prop} (hW : xLay sh R) 
    (k : ((¬ s0 = (-1) → (((nI 2) < s0 → (((s0.toInt < 0 ∨ 5 < s0.toInt) → Ex mX4_readLine 132 [.ref 2, .int s0] [] (sh, I, R) mc ms (xqV Q)) ∧ (s0.toInt = 0 → Ex mX4_readLine 88 [.ref 2, xU] [] (sh, I, R) mc ms (xqV Q)) ∧ (s0.toInt = 1 → Ex mX4_readLine 99 [.ref 2, xU] [] (sh, I, R) mc ms (xqV Q)) ∧ (s0.toInt = 2 → Ex mX4_readLine 112 [.ref 2, xU] [] (sh, I, R) mc ms (xqV Q)) ∧ (s0.toInt = 3 → Ex mX4_readLine 132 [.ref 2, .int s0] [] (sh, I, R) mc ms (xqV Q)) ∧ (s0.toInt = 4 → Ex mX4_readLine 132 [.ref 2, .int s0] [] (sh, I, R) mc ms (xqV Q)) ∧ (s0.toInt = 5 → Ex mX4_readLine 125 [.ref 2, xU] [] (sh, I, R) mc ms (xqV Q)))) ∧ (¬ (nI 2) < s0 → vp_in s0 3 ∧ (((I 4 s0.toNatClampNeg) = 0 → vp_in s0 3 ∧ (((s0.toInt < 0 ∨ 5 < s0.toInt) → Ex mX4_readLine 132 [.ref 2, .int s0] [] (sh, (xi I 4 s0.toNatClampNeg (vp_nar .boolean (nI 1))), R) mc ms (xqV Q)) ∧ (s0.toInt = 0 → Ex mX4_readLine 88 [.ref 2, xU] [] (sh, (xi I 4 s0.toNatClampNeg (vp_nar .boolean (nI 1))), R) mc ms (xqV Q)) ∧ (s0.toInt = 1 → Ex mX4_readLine 99 [.ref 2, xU] [] (sh, (xi I 4 s0.toNatClampNeg (vp_nar .boolean (nI 1))), R) mc ms (xqV Q)) ∧ (s0.toInt = 2 → Ex mX4_readLine 112 [.ref 2, xU] [] (sh, (xi I 4 s0.toNatClampNeg (vp_nar .boolean (nI 1))), R) mc ms (xqV Q)) ∧ (s0.toInt = 3 → Ex mX4_readLine 132 [.ref 2, .int s0] [] (sh, (xi I 4 s0.toNatClampNeg (vp_nar .boolean (nI 1))), R) mc ms (xqV Q)) ∧ (s0.toInt = 4 → Ex mX4_readLine 132 [.ref 2, .int s0] [] (sh, (xi I 4 s0.toNatClampNeg (vp_nar .boolean (nI 1))), R) mc ms (xqV Q)) ∧ (s0.toInt = 5 → Ex mX4_readLine 125 [.ref 2, xU] [] (sh, (xi I 4 s0.toNatClampNeg (vp_nar .boolean (nI 1))), R) mc ms (xqV Q)))) ∧ (¬ (I 4 s0.toNatClampNeg) = 0 → CV mX4_refuse [.ref 2, .int (nI 4), .int (I 2 4)] (sh, I, R) (fun h1 => Ex mX4_readLine 43 [.ref 2, .int s0] [] h1 mc ms (xqV Q))))))) ∧ (s0 = (-1) → CV mX4_refuse [.ref 2, .int (nI 2), .int (I 2 4)] (sh, I, R) (fun h1 => Ex mX4_readLine 19 [xU, xU] [] h1 mc ms (xqV Q))))) :
    Ex mX4_readLine 4 [.ref 2, xU] [.int s0] (sh, I, R) mc ms (xqV Q) := by
  refine yw_istore_n (lv' := [.ref 2, .int s0]) dX4_readLine_4 rfl rfl rfl rfl ?_
  refine xw_iload_n dX4_readLine_5 rfl rfl ?_
  refine xw_iconst (v := (-1)) dX4_readLine_6 rfl ?_
  refine xw_icne (tgt := 20) dX4_readLine_7 (by decide) (fun c => ?_) (fun c => ?_)
  · replace k := k.1 c
    refine xw_iload_n dX4_readLine_20 rfl rfl ?_
    refine xw_iconst (v := nI 2) dX4_readLine_21 rfl ?_
    refine xw_icgt (tgt := 50) dX4_readLine_22 (by decide) (fun c => ?_) (fun c => ?_)
    · replace k := k.1 c
      refine xw_iload_n dX4_readLine_50 rfl rfl ?_
      by_cases c : s0.toInt < 0 ∨ 5 < s0.toInt
      · replace k := k.1 c
        refine xw_tableOut (tgt := 132) dX4_readLine_51 c (by decide) ?_
        exact k
      · replace k := k.2
        have c1 : ¬ s0.toInt < 0 := fun q => c (Or.inl q)
        have c2 : ¬ 5 < s0.toInt := fun q => c (Or.inr q)
        have cs : s0.toInt = 0 ∨ s0.toInt = 1 ∨ s0.toInt = 2 ∨ s0.toInt = 3 ∨ s0.toInt = 4 ∨ s0.toInt = 5 := by omega
        rcases cs with cs | cs | cs | cs | cs | cs
        · replace k := k.1 cs
          refine xw_tableIn (tgt := 88) (off := 37) dX4_readLine_51 c1 c2 (by rw [cs]; rfl) (by decide) ?_
          exact yw_sub (lv' := [.ref 2, xU]) ⟨Or.inr rfl, Or.inl rfl, trivial⟩ k
        · replace k := k.2.1 cs
          refine xw_tableIn (tgt := 99) (off := 48) dX4_readLine_51 c1 c2 (by rw [cs]; rfl) (by decide) ?_
          exact yw_sub (lv' := [.ref 2, xU]) ⟨Or.inr rfl, Or.inl rfl, trivial⟩ k
        · replace k := k.2.2.1 cs
          refine xw_tableIn (tgt := 112) (off := 61) dX4_readLine_51 c1 c2 (by rw [cs]; rfl) (by decide) ?_
          exact yw_sub (lv' := [.ref 2, xU]) ⟨Or.inr rfl, Or.inl rfl, trivial⟩ k
        · replace k := k.2.2.2.1 cs
          refine xw_tableIn (tgt := 132) (off := 81) dX4_readLine_51 c1 c2 (by rw [cs]; rfl) (by decide) ?_
          exact k
        · replace k := k.2.2.2.2.1 cs
          refine xw_tableIn (tgt := 132) (off := 81) dX4_readLine_51 c1 c2 (by rw [cs]; rfl) (by decide) ?_
          exact k
        · replace k := k.2.2.2.2.2 cs
          refine xw_tableIn (tgt := 125) (off := 74) dX4_readLine_51 c1 c2 (by rw [cs]; rfl) (by decide) ?_
          exact yw_sub (lv' := [.ref 2, xU]) ⟨Or.inr rfl, Or.inl rfl, trivial⟩ k
    · replace k := k.2 c
      refine xw_aload_n dX4_readLine_25 rfl rfl ?_
      refine yw_getR (r := 4) dX4_readLine_26 fX4_15 rfl (la_2 hW) (lr_2_7 hW) ?_
      refine xw_iload_n dX4_readLine_29 rfl rfl ?_
      obtain ⟨k0, k⟩ := k
      refine yw_zaload (v := I 4 s0.toNatClampNeg) dX4_readLine_30 (la_4 hW) k0 rfl ?_
      refine xw_ifeq (tgt := 43) dX4_readLine_31 (by decide) (fun c => ?_) (fun c => ?_)
      · replace k := k.1 c
        refine xw_aload_n dX4_readLine_43 rfl rfl ?_
        refine yw_getR (r := 4) dX4_readLine_44 fX4_15 rfl (la_2 hW) (lr_2_7 hW) ?_
        refine xw_iload_n dX4_readLine_47 rfl rfl ?_
        refine xw_iconst (v := nI 1) dX4_readLine_48 rfl ?_
        obtain ⟨k0, k⟩ := k
        refine yw_zastore dX4_readLine_49 (la_4 hW) k0 ?_
        refine xw_iload_n dX4_readLine_50 rfl rfl ?_
        by_cases c : s0.toInt < 0 ∨ 5 < s0.toInt
        · replace k := k.1 c
          refine xw_tableOut (tgt := 132) dX4_readLine_51 c (by decide) ?_
          exact k
        · replace k := k.2
          have c1 : ¬ s0.toInt < 0 := fun q => c (Or.inl q)
          have c2 : ¬ 5 < s0.toInt := fun q => c (Or.inr q)
          have cs : s0.toInt = 0 ∨ s0.toInt = 1 ∨ s0.toInt = 2 ∨ s0.toInt = 3 ∨ s0.toInt = 4 ∨ s0.toInt = 5 := by omega
          rcases cs with cs | cs | cs | cs | cs | cs
          · replace k := k.1 cs
            refine xw_tableIn (tgt := 88) (off := 37) dX4_readLine_51 c1 c2 (by rw [cs]; rfl) (by decide) ?_
            exact yw_sub (lv' := [.ref 2, xU]) ⟨Or.inr rfl, Or.inl rfl, trivial⟩ k
          · replace k := k.2.1 cs
            refine xw_tableIn (tgt := 99) (off := 48) dX4_readLine_51 c1 c2 (by rw [cs]; rfl) (by decide) ?_
            exact yw_sub (lv' := [.ref 2, xU]) ⟨Or.inr rfl, Or.inl rfl, trivial⟩ k
          · replace k := k.2.2.1 cs
            refine xw_tableIn (tgt := 112) (off := 61) dX4_readLine_51 c1 c2 (by rw [cs]; rfl) (by decide) ?_
            exact yw_sub (lv' := [.ref 2, xU]) ⟨Or.inr rfl, Or.inl rfl, trivial⟩ k
          · replace k := k.2.2.2.1 cs
            refine xw_tableIn (tgt := 132) (off := 81) dX4_readLine_51 c1 c2 (by rw [cs]; rfl) (by decide) ?_
            exact k
          · replace k := k.2.2.2.2.1 cs
            refine xw_tableIn (tgt := 132) (off := 81) dX4_readLine_51 c1 c2 (by rw [cs]; rfl) (by decide) ?_
            exact k
          · replace k := k.2.2.2.2.2 cs
            refine xw_tableIn (tgt := 125) (off := 74) dX4_readLine_51 c1 c2 (by rw [cs]; rfl) (by decide) ?_
            exact yw_sub (lv' := [.ref 2, xU]) ⟨Or.inr rfl, Or.inl rfl, trivial⟩ k
      · replace k := k.2 c
        refine xw_aload_n dX4_readLine_34 rfl rfl ?_
        refine xw_iconst (v := nI 4) dX4_readLine_35 rfl ?_
        refine xw_aload_n dX4_readLine_36 rfl rfl ?_
        refine yw_getI (v := I 2 4) dX4_readLine_37 fX4_90 rfl (la_2 hW) rfl ?_
        exact yw_cV (As := [.int (nI 4), .int (I 2 4)]) (b := 2) (st := []) dX4_readLine_40 lX4_59 kiX4_refuse kvX4_refuse rfl rfl rfl (la_2 hW) rfl (Nat.le_of_ble_eq_true rfl) rfl (xk_V k)
  · replace k := k.2 c
    refine xw_aload_n dX4_readLine_10 rfl rfl ?_
    refine xw_iconst (v := nI 2) dX4_readLine_11 rfl ?_
    refine xw_aload_n dX4_readLine_12 rfl rfl ?_
    refine yw_getI (v := I 2 4) dX4_readLine_13 fX4_90 rfl (la_2 hW) rfl ?_
    refine yw_sub (lv' := [xU, xU]) ⟨Or.inl rfl, Or.inl rfl, trivial⟩ ?_
    exact yw_cV (As := [.int (nI 2), .int (I 2 4)]) (b := 2) (st := []) dX4_readLine_16 lX4_59 kiX4_refuse kvX4_refuse rfl rfl rfl (la_2 hW) rfl (Nat.le_of_ble_eq_true rfl) rfl (xk_V k)
theorem bX4_readLine_132 {v1 : Int32} {mc ms : Nat} {Q : xHp → Prop} (hW : xLay sh R) 
    (k : CV mX4_readStateLine [.ref 2, .int v1] (sh, I, R) (fun h1 => Ex mX4_readLine 137 [.ref 2, xU] [] h1 mc ms (xqV Q))) :
    Ex mX4_readLine 132 [.ref 2, .int v1] [] (sh, I, R) mc ms (xqV Q) := by
  refine xw_aload_n dX4_readLine_132 rfl rfl ?_
  refine xw_iload_n dX4_readLine_133 rfl rfl ?_
  refine yw_sub (lv' := [.ref 2, xU]) ⟨Or.inr rfl, Or.inl rfl, trivial⟩ ?_
  exact yw_cV (As := [.int v1]) (b := 2) (st := []) dX4_readLine_134 lX4_103 kiX4_readStateLine kvX4_readStateLine rfl rfl rfl (la_2 hW) rfl (Nat.le_of_ble_eq_true rfl) rfl (xk_V k)
theorem bX4_readLine_137 {mc ms : Nat} {Q : xHp → Prop} (hW : xLay sh R) 
    (k : CV mX4_takeSign [.ref 2] (sh, I, R) (fun h1 => Ex mX4_readLine 141 [xU, xU] [] h1 mc ms (xqV Q))) :
    Ex mX4_readLine 137 [.ref 2, xU] [] (sh, I, R) mc ms (xqV Q) := by
  refine xw_aload_n dX4_readLine_137 rfl rfl ?_
  refine yw_sub (lv' := [xU, xU]) ⟨Or.inl rfl, Or.inl rfl, trivial⟩ ?_
  exact yw_cV (As := []) (b := 2) (st := []) dX4_readLine_138 lX4_106 kiX4_takeSign kvX4_takeSign rfl rfl rfl (la_2 hW) rfl (Nat.le_of_ble_eq_true rfl) rfl (xk_V k)
theorem bX4_readLine_141 {mc ms : Nat} {Q : xHp → Prop} (hW : xLay sh R) 
    (k : Q (sh, I, R)) :
    Ex mX4_readLine 141 [xU, xU] [] (sh, I, R) mc ms (xqV Q) := by
  exact yw_vret dX4_readLine_141 rfl k
theorem bX4_readLine_88 {mc ms : Nat} {Q : xHp → Prop} (hW : xLay sh R) 
    (k : CI mX4_takePrime [.ref 2] (sh, I, R) (fun w h1 => Ex mX4_readLine 93 [.ref 2, xU] (.int w :: [.ref 2]) h1 mc ms (xqV Q))) :
    Ex mX4_readLine 88 [.ref 2, xU] [] (sh, I, R) mc ms (xqV Q) := by
  refine xw_aload_n dX4_readLine_88 rfl rfl ?_
  refine xw_aload_n dX4_readLine_89 rfl rfl ?_
  exact yw_cV (As := []) (b := 2) (st := [.ref 2]) dX4_readLine_90 lX4_93 kiX4_takePrime kvX4_takePrime rfl rfl rfl (la_2 hW) rfl (Nat.le_of_ble_eq_true rfl) rfl (xk_I k)
theorem bX4_readLine_93 {s1 : Int32} {mc ms : Nat} {Q : xHp → Prop} (hW : xLay sh R) 
    (k : CV mX4_takeSign [.ref 2] (sh, (xi I 2 10 s1), R) (fun h1 => Ex mX4_readLine 141 [xU, xU] [] h1 mc ms (xqV Q))) :
    Ex mX4_readLine 93 [.ref 2, xU] [.int s1, .ref 2] (sh, I, R) mc ms (xqV Q) := by
  refine yw_putI dX4_readLine_93 fX4_83 (fun r h => by cases h; exact Or.inl rfl) rfl (la_2 hW) ?_
  refine xw_goto (tgt := 137) dX4_readLine_96 (by decide) ?_
  refine xw_aload_n dX4_readLine_137 rfl rfl ?_
  refine yw_sub (lv' := [xU, xU]) ⟨Or.inl rfl, Or.inl rfl, trivial⟩ ?_
  exact yw_cV (As := []) (b := 2) (st := []) dX4_readLine_138 lX4_106 kiX4_takeSign kvX4_takeSign rfl rfl rfl (la_2 hW) rfl (Nat.le_of_ble_eq_true rfl) rfl (xk_V k)
theorem bX4_readLine_99 {mc ms : Nat} {Q : xHp → Prop} (hW : xLay sh R) 
    (k : CI mX4_takeNumber [.ref 2, .int (nI 1), .int (nI 3)] (sh, I, R) (fun w h1 => Ex mX4_readLine 106 [.ref 2, xU] (.int w :: [.ref 2]) h1 mc ms (xqV Q))) :
    Ex mX4_readLine 99 [.ref 2, xU] [] (sh, I, R) mc ms (xqV Q) := by
  refine xw_aload_n dX4_readLine_99 rfl rfl ?_
  refine xw_aload_n dX4_readLine_100 rfl rfl ?_
  refine xw_iconst (v := nI 1) dX4_readLine_101 rfl ?_
  refine xw_iconst (v := nI 3) dX4_readLine_102 rfl ?_
  exact yw_cV (As := [.int (nI 1), .int (nI 3)]) (b := 2) (st := [.ref 2]) dX4_readLine_103 lX4_96 kiX4_takeNumber kvX4_takeNumber rfl rfl rfl (la_2 hW) rfl (Nat.le_of_ble_eq_true rfl) rfl (xk_I k)
theorem bX4_readLine_106 {s1 : Int32} {mc ms : Nat} {Q : xHp → Prop} (hW : xLay sh R) 
    (k : CV mX4_takeSign [.ref 2] (sh, (xi I 2 11 s1), R) (fun h1 => Ex mX4_readLine 141 [xU, xU] [] h1 mc ms (xqV Q))) :
    Ex mX4_readLine 106 [.ref 2, xU] [.int s1, .ref 2] (sh, I, R) mc ms (xqV Q) := by
  refine yw_putI dX4_readLine_106 fX4_56 (fun r h => by cases h; exact Or.inl rfl) rfl (la_2 hW) ?_
  refine xw_goto (tgt := 137) dX4_readLine_109 (by decide) ?_
  refine xw_aload_n dX4_readLine_137 rfl rfl ?_
  refine yw_sub (lv' := [xU, xU]) ⟨Or.inl rfl, Or.inl rfl, trivial⟩ ?_
  exact yw_cV (As := []) (b := 2) (st := []) dX4_readLine_138 lX4_106 kiX4_takeSign kvX4_takeSign rfl rfl rfl (la_2 hW) rfl (Nat.le_of_ble_eq_true rfl) rfl (xk_V k)
theorem bX4_readLine_112 {mc ms : Nat} {Q : xHp → Prop} (hW : xLay sh R) 
    (k : CI mX4_takeNumber [.ref 2, .int (nI 0), .int (nI 4)] (sh, I, R) (fun w h1 => Ex mX4_readLine 119 [.ref 2, xU] (.int w :: [.ref 2]) h1 mc ms (xqV Q))) :
    Ex mX4_readLine 112 [.ref 2, xU] [] (sh, I, R) mc ms (xqV Q) := by
  refine xw_aload_n dX4_readLine_112 rfl rfl ?_
  refine xw_aload_n dX4_readLine_113 rfl rfl ?_
  refine xw_iconst (v := nI 0) dX4_readLine_114 rfl ?_
  refine xw_iconst (v := nI 4) dX4_readLine_115 rfl ?_
  exact yw_cV (As := [.int (nI 0), .int (nI 4)]) (b := 2) (st := [.ref 2]) dX4_readLine_116 lX4_96 kiX4_takeNumber kvX4_takeNumber rfl rfl rfl (la_2 hW) rfl (Nat.le_of_ble_eq_true rfl) rfl (xk_I k)
theorem bX4_readLine_119 {s1 : Int32} {mc ms : Nat} {Q : xHp → Prop} (hW : xLay sh R) 
    (k : CV mX4_takeSign [.ref 2] (sh, (xi I 2 12 s1), R) (fun h1 => Ex mX4_readLine 141 [xU, xU] [] h1 mc ms (xqV Q))) :
    Ex mX4_readLine 119 [.ref 2, xU] [.int s1, .ref 2] (sh, I, R) mc ms (xqV Q) := by
  refine yw_putI dX4_readLine_119 fX4_50 (fun r h => by cases h; exact Or.inl rfl) rfl (la_2 hW) ?_
  refine xw_goto (tgt := 137) dX4_readLine_122 (by decide) ?_
  refine xw_aload_n dX4_readLine_137 rfl rfl ?_
  refine yw_sub (lv' := [xU, xU]) ⟨Or.inl rfl, Or.inl rfl, trivial⟩ ?_
  exact yw_cV (As := []) (b := 2) (st := []) dX4_readLine_138 lX4_106 kiX4_takeSign kvX4_takeSign rfl rfl rfl (la_2 hW) rfl (Nat.le_of_ble_eq_true rfl) rfl (xk_V k)
theorem bX4_readLine_125 {mc ms : Nat} {Q : xHp → Prop} (hW : xLay sh R) 
    (k : CV mX4_readEdge [.ref 2] (sh, I, R) (fun h1 => Ex mX4_readLine 129 [.ref 2, xU] [] h1 mc ms (xqV Q))) :
    Ex mX4_readLine 125 [.ref 2, xU] [] (sh, I, R) mc ms (xqV Q) := by
  refine xw_aload_n dX4_readLine_125 rfl rfl ?_
  exact yw_cV (As := []) (b := 2) (st := []) dX4_readLine_126 lX4_100 kiX4_readEdge kvX4_readEdge rfl rfl rfl (la_2 hW) rfl (Nat.le_of_ble_eq_true rfl) rfl (xk_V k)
theorem bX4_readLine_129 {mc ms : Nat} {Q : xHp → Prop} (hW : xLay sh R) 
    (k : CV mX4_takeSign [.ref 2] (sh, I, R) (fun h1 => Ex mX4_readLine 141 [xU, xU] [] h1 mc ms (xqV Q))) :
    Ex mX4_readLine 129 [.ref 2, xU] [] (sh, I, R) mc ms (xqV Q) := by
  refine xw_goto (tgt := 137) dX4_readLine_129 (by decide) ?_
  refine xw_aload_n dX4_readLine_137 rfl rfl ?_
  refine yw_sub (lv' := [xU, xU]) ⟨Or.inl rfl, Or.inl rfl, trivial⟩ ?_
  exact yw_cV (As := []) (b := 2) (st := []) dX4_readLine_138 lX4_106 kiX4_takeSign kvX4_takeSign rfl rfl rfl (la_2 hW) rfl (Nat.le_of_ble_eq_true rfl) rfl (xk_V k)
theorem bX4_readLine_43 {v1 : Int32} {mc ms : Nat} {Q : xHp → Prop} (hW : xLay sh R) 
    (k : vp_in v1 3 ∧ (((v1.toInt < 0 ∨ 5 < v1.toInt) → Ex mX4_readLine 132 [.ref 2, .int v1] [] (sh, (xi I 4 v1.toNatClampNeg (vp_nar .boolean (nI 1))), R) mc ms (xqV Q)) ∧ (v1.toInt = 0 → Ex mX4_readLine 88 [.ref 2, xU] [] (sh, (xi I 4 v1.toNatClampNeg (vp_nar .boolean (nI 1))), R) mc ms (xqV Q)) ∧ (v1.toInt = 1 → Ex mX4_readLine 99 [.ref 2, xU] [] (sh, (xi I 4 v1.toNatClampNeg (vp_nar .boolean (nI 1))), R) mc ms (xqV Q)) ∧ (v1.toInt = 2 → Ex mX4_readLine 112 [.ref 2, xU] [] (sh, (xi I 4 v1.toNatClampNeg (vp_nar .boolean (nI 1))), R) mc ms (xqV Q)) ∧ (v1.toInt = 3 → Ex mX4_readLine 132 [.ref 2, .int v1] [] (sh, (xi I 4 v1.toNatClampNeg (vp_nar .boolean (nI 1))), R) mc ms (xqV Q)) ∧ (v1.toInt = 4 → Ex mX4_readLine 132 [.ref 2, .int v1] [] (sh, (xi I 4 v1.toNatClampNeg (vp_nar .boolean (nI 1))), R) mc ms (xqV Q)) ∧ (v1.toInt = 5 → Ex mX4_readLine 125 [.ref 2, xU] [] (sh, (xi I 4 v1.toNatClampNeg (vp_nar .boolean (nI 1))), R) mc ms (xqV Q)))) :
    Ex mX4_readLine 43 [.ref 2, .int v1] [] (sh, I, R) mc ms (xqV Q) := by
  refine xw_aload_n dX4_readLine_43 rfl rfl ?_
  refine yw_getR (r := 4) dX4_readLine_44 fX4_15 rfl (la_2 hW) (lr_2_7 hW) ?_
  refine xw_iload_n dX4_readLine_47 rfl rfl ?_
  refine xw_iconst (v := nI 1) dX4_readLine_48 rfl ?_
  obtain ⟨k0, k⟩ := k
  refine yw_zastore dX4_readLine_49 (la_4 hW) k0 ?_
  refine xw_iload_n dX4_readLine_50 rfl rfl ?_
  by_cases c : v1.toInt < 0 ∨ 5 < v1.toInt
  · replace k := k.1 c
    refine xw_tableOut (tgt := 132) dX4_readLine_51 c (by decide) ?_
    exact k
  · replace k := k.2
    have c1 : ¬ v1.toInt < 0 := fun q => c (Or.inl q)
    have c2 : ¬ 5 < v1.toInt := fun q => c (Or.inr q)
    have cs : v1.toInt = 0 ∨ v1.toInt = 1 ∨ v1.toInt = 2 ∨ v1.toInt = 3 ∨ v1.toInt = 4 ∨ v1.toInt = 5 := by omega
    rcases cs with cs | cs | cs | cs | cs | cs
    · replace k := k.1 cs
      refine xw_tableIn (tgt := 88) (off := 37) dX4_readLine_51 c1 c2 (by rw [cs]; rfl) (by decide) ?_
      exact yw_sub (lv' := [.ref 2, xU]) ⟨Or.inr rfl, Or.inl rfl, trivial⟩ k
    · replace k := k.2.1 cs
      refine xw_tableIn (tgt := 99) (off := 48) dX4_readLine_51 c1 c2 (by rw [cs]; rfl) (by decide) ?_
      exact yw_sub (lv' := [.ref 2, xU]) ⟨Or.inr rfl, Or.inl rfl, trivial⟩ k
    · replace k := k.2.2.1 cs
      refine xw_tableIn (tgt := 112) (off := 61) dX4_readLine_51 c1 c2 (by rw [cs]; rfl) (by decide) ?_
      exact yw_sub (lv' := [.ref 2, xU]) ⟨Or.inr rfl, Or.inl rfl, trivial⟩ k
    · replace k := k.2.2.2.1 cs
      refine xw_tableIn (tgt := 132) (off := 81) dX4_readLine_51 c1 c2 (by rw [cs]; rfl) (by decide) ?_
      exact k
    · replace k := k.2.2.2.2.1 cs
      refine xw_tableIn (tgt := 132) (off := 81) dX4_readLine_51 c1 c2 (by rw [cs]; rfl) (by decide) ?_
      exact k
    · replace k := k.2.2.2.2.2 cs
      refine xw_tableIn (tgt := 125) (off := 74) dX4_readLine_51 c1 c2 (by rw [cs]; rfl) (by decide) ?_
      exact yw_sub (lv' := [.ref 2, xU]) ⟨Or.inr rfl, Or.inl rfl, trivial⟩ k
theorem bX4_readLine_19 {mc ms : Nat} {Q : xHp → Prop} (hW : xLay sh R) 
    (k : Q (sh, I, R)) :
    Ex mX4_readLine 19 [xU, xU] [] (sh, I, R) mc ms (xqV Q) := by
  exact yw_vret dX4_readLine_19 rfl k
theorem eX4_readLine {h : xHp} {Q : xHp → Prop} (k : Ex mX4_readLine 0 [.ref 2, xU] [] h 0 0 (xqV Q)) : CV mX4_readLine [.ref 2] h Q := k
theorem bX4_readAll_0 {mc ms : Nat} {Q : Int32 → xHp → Prop} (hW : xLay sh R) 
    (k : CV mX4_forget [.ref 2] (sh, I, R) (fun h1 => Ex mX4_readAll 4 [.ref 2, xU] [] h1 mc ms (xqI Q))) :
    Ex mX4_readAll 0 [.ref 2, xU] [] (sh, I, R) mc ms (xqI Q) := by
  refine xw_aload_n dX4_readAll_0 rfl rfl ?_
  exact yw_cV (As := []) (b := 2) (st := []) dX4_readAll_1 lX4_32 kiX4_forget kvX4_forget rfl rfl rfl (la_2 hW) rfl (Nat.le_of_ble_eq_true rfl) rfl (xk_V k)
theorem bX4_readAll_4 {mc ms : Nat} {Q : Int32 → xHp → Prop} (hW : xLay sh R) 
    (k : Ex mX4_readAll 6 [.ref 2, .int (nI 0)] [] (sh, I, R) mc ms (xqI Q)) :
    Ex mX4_readAll 4 [.ref 2, xU] [] (sh, I, R) mc ms (xqI Q) := by
  refine xw_iconst (v := nI 0) dX4_readAll_4 rfl ?_
  refine yw_istore_n (lv' := [.ref 2, .int (nI 0)]) dX4_readAll_5 rfl rfl rfl rfl ?_
  exact k
theorem bX4_readAll_6 {v1 : Int32} {mc ms : Nat} {Q : Int32 → xHp → Prop} (hW : xLay sh R) 
    (k : (((nI 200) ≤ v1 → (((I 2 12) ≤ (I 2 8) → CV mX4_refuse [.ref 2, .int (nI 5), .int (I 2 1)] (sh, I, R) (fun h1 => Ex mX4_readAll 75 [xU, .int v1] [] h1 mc ms (xqI Q))) ∧ (¬ (I 2 12) ≤ (I 2 8) → (((I 2 9) < (I 2 11) → Q v1 (sh, I, R)) ∧ (¬ (I 2 9) < (I 2 11) → CV mX4_refuse [.ref 2, .int (nI 5), .int (I 2 1)] (sh, I, R) (fun h1 => Ex mX4_readAll 75 [xU, .int v1] [] h1 mc ms (xqI Q))))))) ∧ (¬ (nI 200) ≤ v1 → CV mX4_next [.ref 2] (sh, I, R) (fun h1 => Ex mX4_readAll 17 [.ref 2, .int v1] [] h1 mc ms (xqI Q))))) :
    Ex mX4_readAll 6 [.ref 2, .int v1] [] (sh, I, R) mc ms (xqI Q) := by
  refine xw_iload_n dX4_readAll_6 rfl rfl ?_
  refine xw_sipush (v := nI 200) dX4_readAll_7 (by decide) ?_
  refine xw_icge (tgt := 44) dX4_readAll_10 (by decide) (fun c => ?_) (fun c => ?_)
  · replace k := k.1 c
    refine xw_aload_n dX4_readAll_44 rfl rfl ?_
    refine yw_getI (v := I 2 8) dX4_readAll_45 fX4_47 rfl (la_2 hW) rfl ?_
    refine xw_aload_n dX4_readAll_48 rfl rfl ?_
    refine yw_getI (v := I 2 12) dX4_readAll_49 fX4_50 rfl (la_2 hW) rfl ?_
    refine xw_icge (tgt := 66) dX4_readAll_52 (by decide) (fun c => ?_) (fun c => ?_)
    · replace k := k.1 c
      refine xw_aload_n dX4_readAll_66 rfl rfl ?_
      refine xw_iconst (v := nI 5) dX4_readAll_67 rfl ?_
      refine xw_aload_n dX4_readAll_68 rfl rfl ?_
      refine yw_getI (v := I 2 1) dX4_readAll_69 fX4_28 rfl (la_2 hW) rfl ?_
      refine yw_sub (lv' := [xU, .int v1]) ⟨Or.inl rfl, Or.inr rfl, trivial⟩ ?_
      exact yw_cV (As := [.int (nI 5), .int (I 2 1)]) (b := 2) (st := []) dX4_readAll_72 lX4_59 kiX4_refuse kvX4_refuse rfl rfl rfl (la_2 hW) rfl (Nat.le_of_ble_eq_true rfl) rfl (xk_V k)
    · replace k := k.2 c
      refine xw_aload_n dX4_readAll_55 rfl rfl ?_
      refine yw_getI (v := I 2 9) dX4_readAll_56 fX4_53 rfl (la_2 hW) rfl ?_
      refine xw_aload_n dX4_readAll_59 rfl rfl ?_
      refine yw_getI (v := I 2 11) dX4_readAll_60 fX4_56 rfl (la_2 hW) rfl ?_
      refine xw_iclt (tgt := 75) dX4_readAll_63 (by decide) (fun c => ?_) (fun c => ?_)
      · replace k := k.1 c
        refine xw_iload_n dX4_readAll_75 rfl rfl ?_
        exact yw_iret dX4_readAll_76 rfl k
      · replace k := k.2 c
        refine xw_aload_n dX4_readAll_66 rfl rfl ?_
        refine xw_iconst (v := nI 5) dX4_readAll_67 rfl ?_
        refine xw_aload_n dX4_readAll_68 rfl rfl ?_
        refine yw_getI (v := I 2 1) dX4_readAll_69 fX4_28 rfl (la_2 hW) rfl ?_
        refine yw_sub (lv' := [xU, .int v1]) ⟨Or.inl rfl, Or.inr rfl, trivial⟩ ?_
        exact yw_cV (As := [.int (nI 5), .int (I 2 1)]) (b := 2) (st := []) dX4_readAll_72 lX4_59 kiX4_refuse kvX4_refuse rfl rfl rfl (la_2 hW) rfl (Nat.le_of_ble_eq_true rfl) rfl (xk_V k)
  · replace k := k.2 c
    refine xw_aload_n dX4_readAll_13 rfl rfl ?_
    exact yw_cV (As := []) (b := 2) (st := []) dX4_readAll_14 lX4_35 kiX4_next kvX4_next rfl rfl rfl (la_2 hW) rfl (Nat.le_of_ble_eq_true rfl) rfl (xk_V k)
theorem bX4_readAll_75 {v1 : Int32} {mc ms : Nat} {Q : Int32 → xHp → Prop} (hW : xLay sh R) 
    (k : Q v1 (sh, I, R)) :
    Ex mX4_readAll 75 [xU, .int v1] [] (sh, I, R) mc ms (xqI Q) := by
  refine xw_iload_n dX4_readAll_75 rfl rfl ?_
  exact yw_iret dX4_readAll_76 rfl k
theorem bX4_readAll_17 {v1 : Int32} {mc ms : Nat} {Q : Int32 → xHp → Prop} (hW : xLay sh R) 
    (k : ((¬ (I 2 13) = 0 → (((I 2 12) ≤ (I 2 8) → CV mX4_refuse [.ref 2, .int (nI 5), .int (I 2 1)] (sh, I, R) (fun h1 => Ex mX4_readAll 75 [xU, .int v1] [] h1 mc ms (xqI Q))) ∧ (¬ (I 2 12) ≤ (I 2 8) → (((I 2 9) < (I 2 11) → Q v1 (sh, I, R)) ∧ (¬ (I 2 9) < (I 2 11) → CV mX4_refuse [.ref 2, .int (nI 5), .int (I 2 1)] (sh, I, R) (fun h1 => Ex mX4_readAll 75 [xU, .int v1] [] h1 mc ms (xqI Q))))))) ∧ ((I 2 13) = 0 → ((¬ (I 2 3) = 0 → CV mX4_readLine [.ref 2] (sh, I, R) (fun h1 => Ex mX4_readAll 38 [.ref 2, .int v1] [] h1 mc ms (xqI Q))) ∧ ((I 2 3) = 0 → (((I 2 12) ≤ (I 2 8) → CV mX4_refuse [.ref 2, .int (nI 5), .int (I 2 1)] (sh, I, R) (fun h1 => Ex mX4_readAll 75 [xU, .int v1] [] h1 mc ms (xqI Q))) ∧ (¬ (I 2 12) ≤ (I 2 8) → (((I 2 9) < (I 2 11) → Q v1 (sh, I, R)) ∧ (¬ (I 2 9) < (I 2 11) → CV mX4_refuse [.ref 2, .int (nI 5), .int (I 2 1)] (sh, I, R) (fun h1 => Ex mX4_readAll 75 [xU, .int v1] [] h1 mc ms (xqI Q))))))))))) :
    Ex mX4_readAll 17 [.ref 2, .int v1] [] (sh, I, R) mc ms (xqI Q) := by
  refine xw_aload_n dX4_readAll_17 rfl rfl ?_
  refine yw_getI (v := I 2 13) dX4_readAll_18 fX4_38 rfl (la_2 hW) rfl ?_
  refine xw_ifne (tgt := 44) dX4_readAll_21 (by decide) (fun c => ?_) (fun c => ?_)
  · replace k := k.1 c
    refine xw_aload_n dX4_readAll_44 rfl rfl ?_
    refine yw_getI (v := I 2 8) dX4_readAll_45 fX4_47 rfl (la_2 hW) rfl ?_
    refine xw_aload_n dX4_readAll_48 rfl rfl ?_
    refine yw_getI (v := I 2 12) dX4_readAll_49 fX4_50 rfl (la_2 hW) rfl ?_
    refine xw_icge (tgt := 66) dX4_readAll_52 (by decide) (fun c => ?_) (fun c => ?_)
    · replace k := k.1 c
      refine xw_aload_n dX4_readAll_66 rfl rfl ?_
      refine xw_iconst (v := nI 5) dX4_readAll_67 rfl ?_
      refine xw_aload_n dX4_readAll_68 rfl rfl ?_
      refine yw_getI (v := I 2 1) dX4_readAll_69 fX4_28 rfl (la_2 hW) rfl ?_
      refine yw_sub (lv' := [xU, .int v1]) ⟨Or.inl rfl, Or.inr rfl, trivial⟩ ?_
      exact yw_cV (As := [.int (nI 5), .int (I 2 1)]) (b := 2) (st := []) dX4_readAll_72 lX4_59 kiX4_refuse kvX4_refuse rfl rfl rfl (la_2 hW) rfl (Nat.le_of_ble_eq_true rfl) rfl (xk_V k)
    · replace k := k.2 c
      refine xw_aload_n dX4_readAll_55 rfl rfl ?_
      refine yw_getI (v := I 2 9) dX4_readAll_56 fX4_53 rfl (la_2 hW) rfl ?_
      refine xw_aload_n dX4_readAll_59 rfl rfl ?_
      refine yw_getI (v := I 2 11) dX4_readAll_60 fX4_56 rfl (la_2 hW) rfl ?_
      refine xw_iclt (tgt := 75) dX4_readAll_63 (by decide) (fun c => ?_) (fun c => ?_)
      · replace k := k.1 c
        refine xw_iload_n dX4_readAll_75 rfl rfl ?_
        exact yw_iret dX4_readAll_76 rfl k
      · replace k := k.2 c
        refine xw_aload_n dX4_readAll_66 rfl rfl ?_
        refine xw_iconst (v := nI 5) dX4_readAll_67 rfl ?_
        refine xw_aload_n dX4_readAll_68 rfl rfl ?_
        refine yw_getI (v := I 2 1) dX4_readAll_69 fX4_28 rfl (la_2 hW) rfl ?_
        refine yw_sub (lv' := [xU, .int v1]) ⟨Or.inl rfl, Or.inr rfl, trivial⟩ ?_
        exact yw_cV (As := [.int (nI 5), .int (I 2 1)]) (b := 2) (st := []) dX4_readAll_72 lX4_59 kiX4_refuse kvX4_refuse rfl rfl rfl (la_2 hW) rfl (Nat.le_of_ble_eq_true rfl) rfl (xk_V k)
  · replace k := k.2 c
    refine xw_aload_n dX4_readAll_24 rfl rfl ?_
    refine yw_getI (v := I 2 3) dX4_readAll_25 fX4_41 rfl (la_2 hW) rfl ?_
    refine xw_ifne (tgt := 34) dX4_readAll_28 (by decide) (fun c => ?_) (fun c => ?_)
    · replace k := k.1 c
      refine xw_aload_n dX4_readAll_34 rfl rfl ?_
      exact yw_cV (As := []) (b := 2) (st := []) dX4_readAll_35 lX4_44 kiX4_readLine kvX4_readLine rfl rfl rfl (la_2 hW) rfl (Nat.le_of_ble_eq_true rfl) rfl (xk_V k)
    · replace k := k.2 c
      refine xw_goto (tgt := 44) dX4_readAll_31 (by decide) ?_
      refine xw_aload_n dX4_readAll_44 rfl rfl ?_
      refine yw_getI (v := I 2 8) dX4_readAll_45 fX4_47 rfl (la_2 hW) rfl ?_
      refine xw_aload_n dX4_readAll_48 rfl rfl ?_
      refine yw_getI (v := I 2 12) dX4_readAll_49 fX4_50 rfl (la_2 hW) rfl ?_
      refine xw_icge (tgt := 66) dX4_readAll_52 (by decide) (fun c => ?_) (fun c => ?_)
      · replace k := k.1 c
        refine xw_aload_n dX4_readAll_66 rfl rfl ?_
        refine xw_iconst (v := nI 5) dX4_readAll_67 rfl ?_
        refine xw_aload_n dX4_readAll_68 rfl rfl ?_
        refine yw_getI (v := I 2 1) dX4_readAll_69 fX4_28 rfl (la_2 hW) rfl ?_
        refine yw_sub (lv' := [xU, .int v1]) ⟨Or.inl rfl, Or.inr rfl, trivial⟩ ?_
        exact yw_cV (As := [.int (nI 5), .int (I 2 1)]) (b := 2) (st := []) dX4_readAll_72 lX4_59 kiX4_refuse kvX4_refuse rfl rfl rfl (la_2 hW) rfl (Nat.le_of_ble_eq_true rfl) rfl (xk_V k)
      · replace k := k.2 c
        refine xw_aload_n dX4_readAll_55 rfl rfl ?_
        refine yw_getI (v := I 2 9) dX4_readAll_56 fX4_53 rfl (la_2 hW) rfl ?_
        refine xw_aload_n dX4_readAll_59 rfl rfl ?_
        refine yw_getI (v := I 2 11) dX4_readAll_60 fX4_56 rfl (la_2 hW) rfl ?_
        refine xw_iclt (tgt := 75) dX4_readAll_63 (by decide) (fun c => ?_) (fun c => ?_)
        · replace k := k.1 c
          refine xw_iload_n dX4_readAll_75 rfl rfl ?_
          exact yw_iret dX4_readAll_76 rfl k
        · replace k := k.2 c
          refine xw_aload_n dX4_readAll_66 rfl rfl ?_
          refine xw_iconst (v := nI 5) dX4_readAll_67 rfl ?_
          refine xw_aload_n dX4_readAll_68 rfl rfl ?_
          refine yw_getI (v := I 2 1) dX4_readAll_69 fX4_28 rfl (la_2 hW) rfl ?_
          refine yw_sub (lv' := [xU, .int v1]) ⟨Or.inl rfl, Or.inr rfl, trivial⟩ ?_
          exact yw_cV (As := [.int (nI 5), .int (I 2 1)]) (b := 2) (st := []) dX4_readAll_72 lX4_59 kiX4_refuse kvX4_refuse rfl rfl rfl (la_2 hW) rfl (Nat.le_of_ble_eq_true rfl) rfl (xk_V k)
theorem bX4_readAll_38 {v1 : Int32} {mc ms : Nat} {Q : Int32 → xHp → Prop} (hW : xLay sh R) 
    (k : Ex mX4_readAll 6 [.ref 2, .int (v1 + nI 1)] [] (sh, I, R) mc ms (xqI Q)) :
    Ex mX4_readAll 38 [.ref 2, .int v1] [] (sh, I, R) mc ms (xqI Q) := by
  refine yw_iinc (lv' := [.ref 2, .int (v1 + nI 1)]) (v := nI 1) dX4_readAll_38 rfl rfl rfl rfl rfl ?_
  refine xw_goto (tgt := 6) dX4_readAll_41 (by decide) ?_
  exact k
theorem eX4_readAll {h : xHp} {Q : Int32 → xHp → Prop} (k : Ex mX4_readAll 0 [.ref 2, xU] [] h 0 0 (xqI Q)) : CI mX4_readAll [.ref 2] h Q := k
theorem bX4_hand_0 {a1 Ma1 : Nat} {mc ms : Nat} {Q : xHp → Prop} (hW : xLay sh R) (ha1 : xMach sh R a1 Ma1)
    (k : CV mX3_reduce [.ref 5] (sh, (xi I 5 2 (I 2 12)), R) (fun h1 => Ex mX4_hand 18 [.ref 2, .ref a1] [] h1 mc ms (xqV Q))) :
    Ex mX4_hand 0 [.ref 2, .ref a1] [] (sh, I, R) mc ms (xqV Q) := by
  refine xw_aload_n dX4_hand_0 rfl rfl ?_
  refine yw_getR (r := 5) dX4_hand_1 fX4_24 rfl (la_2 hW) (lr_2_6 hW) ?_
  refine xw_aload_n dX4_hand_4 rfl rfl ?_
  refine yw_getI (v := I 2 12) dX4_hand_5 fX4_50 rfl (la_2 hW) rfl ?_
  refine yw_putI dX4_hand_8 fX4_63 (fun r h => by cases h; exact Or.inl rfl) rfl hW.2.2.2.2.2.2.2.1.1 ?_
  refine xw_aload_n dX4_hand_11 rfl rfl ?_
  refine yw_getR (r := 5) dX4_hand_12 fX4_24 rfl (la_2 hW) (lr_2_6 hW) ?_
  exact yw_cV (As := []) (b := 5) (st := []) dX4_hand_15 lX4_64 kiX3_reduce kvX3_reduce rfl rfl rfl hW.2.2.2.2.2.2.2.1.1 rfl (Nat.le_of_ble_eq_true rfl) rfl (xk_V k)
theorem bX4_hand_18 {a1 Ma1 : Nat} {mc ms : Nat} {Q : xHp → Prop} (hW : xLay sh R) (ha1 : xMach sh R a1 Ma1)
    (k : CV mX3_copy [.ref a1, .ref 5] (sh, I, R) (fun h1 => Ex mX4_hand 26 [xU, xU] [] h1 mc ms (xqV Q))) :
    Ex mX4_hand 18 [.ref 2, .ref a1] [] (sh, I, R) mc ms (xqV Q) := by
  refine xw_aload_n dX4_hand_18 rfl rfl ?_
  refine xw_aload_n dX4_hand_19 rfl rfl ?_
  refine yw_getR (r := 5) dX4_hand_20 fX4_24 rfl (la_2 hW) (lr_2_6 hW) ?_
  refine yw_sub (lv' := [xU, xU]) ⟨Or.inl rfl, Or.inl rfl, trivial⟩ ?_
  exact yw_cV (As := [.ref 5]) (b := a1) (st := []) dX4_hand_23 lX4_67 kiX3_copy kvX3_copy rfl rfl rfl ha1.1 rfl (Nat.le_of_ble_eq_true rfl) rfl (xk_V k)
theorem bX4_hand_26 {mc ms : Nat} {Q : xHp → Prop} (hW : xLay sh R) 
    (k : Q (sh, I, R)) :
    Ex mX4_hand 26 [xU, xU] [] (sh, I, R) mc ms (xqV Q) := by
  exact yw_vret dX4_hand_26 rfl k
theorem eX4_hand {a1 : Nat} {h : xHp} {Q : xHp → Prop} (k : Ex mX4_hand 0 [.ref 2, .ref a1] [] h 0 0 (xqV Q)) : CV mX4_hand [.ref 2, .ref a1] h Q := k
theorem bX6_vanish_0 {q : Nat} {mc ms : Nat} {Q : xHp → Prop} (hW : xLay sh R) (hq : xShelf sh R q)
    (k : Q (sh, (xi I q 4 (-1)), R)) :
    Ex mX6_vanish 0 [.ref q] [] (sh, I, R) mc ms (xqV Q) := by
  refine xw_aload_n dX6_vanish_0 rfl rfl ?_
  refine xw_iconst (v := (-1)) dX6_vanish_1 rfl ?_
  refine yw_putI dX6_vanish_2 fX6_21 (fun r h => by cases h; exact Or.inl rfl) rfl hq.1 ?_
  exact yw_vret dX6_vanish_5 rfl k
theorem eX6_vanish {q : Nat} {h : xHp} {Q : xHp → Prop} (k : Ex mX6_vanish 0 [.ref q] [] h 0 0 (xqV Q)) : CV mX6_vanish [.ref q] h Q := k
theorem bX0_open_0 {a1 Ma1 : Nat} {mc ms : Nat} {Q : xHp → Prop} (hW : xLay sh R) (ha1 : xMach sh R a1 Ma1)
    (k : CV mX7_clear [.ref 38, .int (I a1 2)] (sh, I, (xr R 23 9 (some a1))) (fun h1 => Ex mX0_open 19 [.ref 23, xU] [] h1 mc ms (xqV Q))) :
    Ex mX0_open 0 [.ref 23, .ref a1] [] (sh, I, R) mc ms (xqV Q) := by
  refine xw_aload_n dX0_open_0 rfl rfl ?_
  refine xw_aload_n dX0_open_1 rfl rfl ?_
  refine yw_putR dX0_open_2 fX0_53 (fun r h => by cases h; exact Or.inl rfl) rfl (la_23 hW) ha1.1 ?_
  refine xw_aload_n dX0_open_5 rfl rfl ?_
  refine yw_getR (r := 38) dX0_open_6 fX0_41 rfl (la_23 hW) ((xr_s (j := 1) (k := 9) (r := some a1) (by decide)).trans (lr_23_1 hW)) ?_
  refine xw_aload_n dX0_open_9 rfl rfl ?_
  refine yw_getR (r := a1) dX0_open_10 fX0_53 rfl (la_23 hW) (xr_e) ?_
  refine yw_getI (v := I a1 2) dX0_open_13 fX0_57 rfl ha1.1 rfl ?_
  refine yw_sub (lv' := [.ref 23, xU]) ⟨Or.inr rfl, Or.inl rfl, trivial⟩ ?_
  exact yw_cV (As := [.int (I a1 2)]) (b := 38) (st := []) dX0_open_16 lX0_61 kiX7_clear kvX7_clear rfl rfl rfl hW.2.2.2.2.1.1 rfl (Nat.le_of_ble_eq_true rfl) rfl (xk_V k)
theorem bX0_open_19 {mc ms : Nat} {Q : xHp → Prop} (hW : xLay sh R) 
    (k : Q (sh, (xi I 23 10 (nI 0)), R)) :
    Ex mX0_open 19 [.ref 23, xU] [] (sh, I, R) mc ms (xqV Q) := by
  refine xw_aload_n dX0_open_19 rfl rfl ?_
  refine xw_iconst (v := nI 0) dX0_open_20 rfl ?_
  refine yw_putI dX0_open_21 fX0_65 (fun r h => by cases h; exact Or.inl rfl) rfl (la_23 hW) ?_
  exact yw_vret dX0_open_24 rfl k
theorem eX0_open {a1 : Nat} {h : xHp} {Q : xHp → Prop} (k : Ex mX0_open 0 [.ref 23, .ref a1] [] h 0 0 (xqV Q)) : CV mX0_open [.ref 23, .ref a1] h Q := k
theorem bX0_shut_0 {mc ms : Nat} {Q : xHp → Prop} (hW : xLay sh R) 
    (k : CV mX7_clear [.ref 60, .int (I 38 8)] (sh, I, R) (fun h1 => Ex mX0_shut 14 [xU] [] h1 mc ms (xqV Q))) :
    Ex mX0_shut 0 [.ref 23] [] (sh, I, R) mc ms (xqV Q) := by
  refine xw_aload_n dX0_shut_0 rfl rfl ?_
  refine yw_getR (r := 60) dX0_shut_1 fX0_45 rfl (la_23 hW) (lr_23_2 hW) ?_
  refine xw_aload_n dX0_shut_4 rfl rfl ?_
  refine yw_getR (r := 38) dX0_shut_5 fX0_41 rfl (la_23 hW) (lr_23_1 hW) ?_
  refine yw_getI (v := I 38 8) dX0_shut_8 fX0_68 rfl hW.2.2.2.2.1.1 rfl ?_
  refine yw_sub (lv' := [xU]) ⟨Or.inl rfl, trivial⟩ ?_
  exact yw_cV (As := [.int (I 38 8)]) (b := 60) (st := []) dX0_shut_11 lX0_61 kiX7_clear kvX7_clear rfl rfl rfl hW.2.2.2.2.2.1.1 rfl (Nat.le_of_ble_eq_true rfl) rfl (xk_V k)
theorem bX0_shut_14 {mc ms : Nat} {Q : xHp → Prop} (hW : xLay sh R) 
    (k : Q (sh, I, R)) :
    Ex mX0_shut 14 [xU] [] (sh, I, R) mc ms (xqV Q) := by
  exact yw_vret dX0_shut_14 rfl k
theorem eX0_shut {h : xHp} {Q : xHp → Prop} (k : Ex mX0_shut 0 [.ref 23] [] h 0 0 (xqV Q)) : CV mX0_shut [.ref 23] h Q := k
theorem bX0_seeAllEndings_0 {a1 Ma1 : Nat} {mc ms : Nat} {Q : xHp → Prop} (hW : xLay sh R) (ha1 : xMach sh R a1 Ma1)
    (k : CV mX0_open [.ref 23, .ref a1] (sh, I, R) (fun h1 => Ex mX0_seeAllEndings 5 [.ref 23, xU, xU, xU] [] h1 mc ms (xqV Q))) :
    Ex mX0_seeAllEndings 0 [.ref 23, .ref a1, xU, xU] [] (sh, I, R) mc ms (xqV Q) := by
  refine xw_aload_n dX0_seeAllEndings_0 rfl rfl ?_
  refine xw_aload_n dX0_seeAllEndings_1 rfl rfl ?_
  refine yw_sub (lv' := [.ref 23, xU, xU, xU]) ⟨Or.inr rfl, Or.inl rfl, Or.inl rfl, Or.inl rfl, trivial⟩ ?_
  exact yw_cV (As := [.ref a1]) (b := 23) (st := []) dX0_seeAllEndings_2 lX0_77 kiX0_open kvX0_open rfl rfl rfl (la_23 hW) rfl (Nat.le_of_ble_eq_true rfl) rfl (xk_V k)
theorem bX0_seeAllEndings_5 {y9 My9 : Nat} {mc ms : Nat} {Q : xHp → Prop} (hW : xLay sh R) (ey9 : R 23 9 = some y9) (hy9 : xMach sh R y9 My9)
    (k : CI mX7_admit [.ref 38, .ref (y9 + 2)] (sh, I, R) (fun w h1 => Ex mX0_seeAllEndings 19 [.ref 23, xU, xU, xU] (.int w :: []) h1 mc ms (xqV Q))) :
    Ex mX0_seeAllEndings 5 [.ref 23, xU, xU, xU] [] (sh, I, R) mc ms (xqV Q) := by
  refine xw_aload_n dX0_seeAllEndings_5 rfl rfl ?_
  refine yw_getR (r := 38) dX0_seeAllEndings_6 fX0_41 rfl (la_23 hW) (lr_23_1 hW) ?_
  refine xw_aload_n dX0_seeAllEndings_9 rfl rfl ?_
  refine yw_getR (r := y9) dX0_seeAllEndings_10 fX0_53 rfl (la_23 hW) ey9 ?_
  refine yw_getR (r := (y9 + 2)) dX0_seeAllEndings_13 fX0_81 rfl hy9.1 hy9.2.2.2.2.2.2.1 ?_
  exact yw_cV (As := [.ref (y9 + 2)]) (b := 38) (st := []) dX0_seeAllEndings_16 lX0_73 kiX7_admit kvX7_admit rfl rfl rfl hW.2.2.2.2.1.1 rfl (Nat.le_of_ble_eq_true rfl) rfl (xk_I k)
theorem bX0_seeAllEndings_19 {s0 : Int32} {mc ms : Nat} {Q : xHp → Prop} (hW : xLay sh R) 
    (k : Ex mX0_seeAllEndings 22 [.ref 23, xU, .int (nI 0), xU] [] (sh, I, R) mc ms (xqV Q)) :
    Ex mX0_seeAllEndings 19 [.ref 23, xU, xU, xU] [.int s0] (sh, I, R) mc ms (xqV Q) := by
  refine xw_pop dX0_seeAllEndings_19 rfl ?_
  refine xw_iconst (v := nI 0) dX0_seeAllEndings_20 rfl ?_
  refine yw_istore_n (lv' := [.ref 23, xU, .int (nI 0), xU]) dX0_seeAllEndings_21 rfl rfl rfl rfl ?_
  exact k
theorem bX0_seeAllEndings_22 {v2 : Int32} {mc ms : Nat} {Q : xHp → Prop} (hW : xLay sh R) 
    (k : (((I 38 8) ≤ v2 → CV mX0_shut [.ref 23] (sh, I, R) (fun h1 => Ex mX0_seeAllEndings 101 [xU, xU, xU, xU] [] h1 mc ms (xqV Q))) ∧ (¬ (I 38 8) ≤ v2 → (((nI 8) ≤ v2 → CV mX0_shut [.ref 23] (sh, I, R) (fun h1 => Ex mX0_seeAllEndings 101 [xU, xU, xU, xU] [] h1 mc ms (xqV Q))) ∧ (¬ (nI 8) ≤ v2 → Ex mX0_seeAllEndings 41 [.ref 23, xU, .int v2, .int (nI 0)] [] (sh, I, R) mc ms (xqV Q)))))) :
    Ex mX0_seeAllEndings 22 [.ref 23, xU, .int v2, xU] [] (sh, I, R) mc ms (xqV Q) := by
  refine xw_iload_n dX0_seeAllEndings_22 rfl rfl ?_
  refine xw_aload_n dX0_seeAllEndings_23 rfl rfl ?_
  refine yw_getR (r := 38) dX0_seeAllEndings_24 fX0_41 rfl (la_23 hW) (lr_23_1 hW) ?_
  refine yw_getI (v := I 38 8) dX0_seeAllEndings_27 fX0_68 rfl hW.2.2.2.2.1.1 rfl ?_
  refine xw_icge (tgt := 97) dX0_seeAllEndings_30 (by decide) (fun c => ?_) (fun c => ?_)
  · replace k := k.1 c
    refine xw_aload_n dX0_seeAllEndings_97 rfl rfl ?_
    refine yw_sub (lv' := [xU, xU, xU, xU]) ⟨Or.inl rfl, Or.inl rfl, Or.inl rfl, Or.inl rfl, trivial⟩ ?_
    exact yw_cV (As := []) (b := 23) (st := []) dX0_seeAllEndings_98 lX0_95 kiX0_shut kvX0_shut rfl rfl rfl (la_23 hW) rfl (Nat.le_of_ble_eq_true rfl) rfl (xk_V k)
  · replace k := k.2 c
    refine xw_iload_n dX0_seeAllEndings_33 rfl rfl ?_
    refine xw_bipush (v := nI 8) dX0_seeAllEndings_34 (by decide) ?_
    refine xw_icge (tgt := 97) dX0_seeAllEndings_36 (by decide) (fun c => ?_) (fun c => ?_)
    · replace k := k.1 c
      refine xw_aload_n dX0_seeAllEndings_97 rfl rfl ?_
      refine yw_sub (lv' := [xU, xU, xU, xU]) ⟨Or.inl rfl, Or.inl rfl, Or.inl rfl, Or.inl rfl, trivial⟩ ?_
      exact yw_cV (As := []) (b := 23) (st := []) dX0_seeAllEndings_98 lX0_95 kiX0_shut kvX0_shut rfl rfl rfl (la_23 hW) rfl (Nat.le_of_ble_eq_true rfl) rfl (xk_V k)
    · replace k := k.2 c
      refine xw_iconst (v := nI 0) dX0_seeAllEndings_39 rfl ?_
      refine yw_istore_n (lv' := [.ref 23, xU, .int v2, .int (nI 0)]) dX0_seeAllEndings_40 rfl rfl rfl rfl ?_
      exact k
theorem bX0_seeAllEndings_101 {mc ms : Nat} {Q : xHp → Prop} (hW : xLay sh R) 
    (k : Q (sh, I, R)) :
    Ex mX0_seeAllEndings 101 [xU, xU, xU, xU] [] (sh, I, R) mc ms (xqV Q) := by
  exact yw_vret dX0_seeAllEndings_101 rfl k
theorem bX0_seeAllEndings_41 {y9 My9 y8 ny8 : Nat} {v2 v3 : Int32} {mc ms : Nat} {Q : xHp → Prop} (hW : xLay sh R) (ey9 : R 23 9 = some y9) (hy9 : xMach sh R y9 My9) (ey8 : R 23 8 = some y8) (hy8 : sh[y8]? = some (.inr (0, ny8)))
    (k : (((I 1 1) ≤ v3 → Ex mX0_seeAllEndings 22 [.ref 23, xU, .int (v2 + nI 1), xU] [] (sh, I, R) mc ms (xqV Q)) ∧ (¬ (I 1 1) ≤ v3 → vp_in v2 8 ∧ CV mX3_backward [.ref y9, .ref (39 + 1 + v2.toNatClampNeg), .int v3, .ref y8] (sh, I, R) (fun h1 => Ex mX0_seeAllEndings 73 [.ref 23, xU, .int v2, .int v3] [] h1 mc ms (xqV Q))))) :
    Ex mX0_seeAllEndings 41 [.ref 23, xU, .int v2, .int v3] [] (sh, I, R) mc ms (xqV Q) := by
  refine xw_iload_n dX0_seeAllEndings_41 rfl rfl ?_
  refine xw_aload_n dX0_seeAllEndings_42 rfl rfl ?_
  refine yw_getR (r := 1) dX0_seeAllEndings_43 fX0_34 rfl (la_23 hW) (lr_23_0 hW) ?_
  refine yw_getI (v := I 1 1) dX0_seeAllEndings_46 fX0_84 rfl (la_1 hW) rfl ?_
  refine xw_icge (tgt := 91) dX0_seeAllEndings_49 (by decide) (fun c => ?_) (fun c => ?_)
  · replace k := k.1 c
    refine yw_iinc (lv' := [.ref 23, xU, .int (v2 + nI 1), .int v3]) (v := nI 1) dX0_seeAllEndings_91 rfl rfl rfl rfl rfl ?_
    refine xw_goto (tgt := 22) dX0_seeAllEndings_94 (by decide) ?_
    exact yw_sub (lv' := [.ref 23, xU, .int (v2 + nI 1), xU]) ⟨Or.inr rfl, Or.inl rfl, Or.inr rfl, Or.inl rfl, trivial⟩ k
  · replace k := k.2 c
    refine xw_aload_n dX0_seeAllEndings_52 rfl rfl ?_
    refine yw_getR (r := y9) dX0_seeAllEndings_53 fX0_53 rfl (la_23 hW) ey9 ?_
    refine xw_aload_n dX0_seeAllEndings_56 rfl rfl ?_
    refine yw_getR (r := 38) dX0_seeAllEndings_57 fX0_41 rfl (la_23 hW) (lr_23_1 hW) ?_
    refine yw_getR (r := 39) dX0_seeAllEndings_60 fX0_88 rfl hW.2.2.2.2.1.1 hW.2.2.2.2.1.2.2.1 ?_
    refine xw_iload_n dX0_seeAllEndings_63 rfl rfl ?_
    obtain ⟨kk1, k⟩ := k
    refine yw_aaload (r := (39 + 1 + v2.toNatClampNeg)) dX0_seeAllEndings_64 hW.2.2.2.2.1.2.2.2.2.2.2.2.2.2.2.1.1 (by decide) kk1 (hW.2.2.2.2.1.2.2.2.2.2.2.2.2.2.2.1.2 _ (vp_lt kk1)).1 ?_
    refine xw_iload_n dX0_seeAllEndings_65 rfl rfl ?_
    refine xw_aload_n dX0_seeAllEndings_66 rfl rfl ?_
    refine yw_getR (r := y8) dX0_seeAllEndings_67 fX0_31 rfl (la_23 hW) ey8 ?_
    exact yw_cV (As := [.ref (39 + 1 + v2.toNatClampNeg), .int v3, .ref y8]) (b := y9) (st := []) dX0_seeAllEndings_70 lX0_91 kiX3_backward kvX3_backward rfl rfl rfl hy9.1 rfl (Nat.le_of_ble_eq_true rfl) rfl (xk_V k)
theorem bX0_seeAllEndings_73 {y8 ny8 : Nat} {v2 v3 : Int32} {mc ms : Nat} {Q : xHp → Prop} (hW : xLay sh R) (ey8 : R 23 8 = some y8) (hy8 : sh[y8]? = some (.inr (0, ny8)))
    (k : CI mX7_admit [.ref 38, .ref y8] (sh, I, R) (fun w h1 => Ex mX0_seeAllEndings 84 [.ref 23, xU, .int v2, .int v3] (.int w :: []) h1 mc ms (xqV Q))) :
    Ex mX0_seeAllEndings 73 [.ref 23, xU, .int v2, .int v3] [] (sh, I, R) mc ms (xqV Q) := by
  refine xw_aload_n dX0_seeAllEndings_73 rfl rfl ?_
  refine yw_getR (r := 38) dX0_seeAllEndings_74 fX0_41 rfl (la_23 hW) (lr_23_1 hW) ?_
  refine xw_aload_n dX0_seeAllEndings_77 rfl rfl ?_
  refine yw_getR (r := y8) dX0_seeAllEndings_78 fX0_31 rfl (la_23 hW) ey8 ?_
  exact yw_cV (As := [.ref y8]) (b := 38) (st := []) dX0_seeAllEndings_81 lX0_73 kiX7_admit kvX7_admit rfl rfl rfl hW.2.2.2.2.1.1 rfl (Nat.le_of_ble_eq_true rfl) rfl (xk_I k)
theorem bX0_seeAllEndings_84 {v2 v3 s0 : Int32} {mc ms : Nat} {Q : xHp → Prop} (hW : xLay sh R) 
    (k : Ex mX0_seeAllEndings 41 [.ref 23, xU, .int v2, .int (v3 + nI 1)] [] (sh, I, R) mc ms (xqV Q)) :
    Ex mX0_seeAllEndings 84 [.ref 23, xU, .int v2, .int v3] [.int s0] (sh, I, R) mc ms (xqV Q) := by
  refine xw_pop dX0_seeAllEndings_84 rfl ?_
  refine yw_iinc (lv' := [.ref 23, xU, .int v2, .int (v3 + nI 1)]) (v := nI 1) dX0_seeAllEndings_85 rfl rfl rfl rfl rfl ?_
  refine xw_goto (tgt := 41) dX0_seeAllEndings_88 (by decide) ?_
  exact k
theorem eX0_seeAllEndings {a1 : Nat} {h : xHp} {Q : xHp → Prop} (k : Ex mX0_seeAllEndings 0 [.ref 23, .ref a1, xU, xU] [] h 0 0 (xqV Q)) : CV mX0_seeAllEndings [.ref 23, .ref a1] h Q := k
theorem bX0_makeRow_0 {mc ms : Nat} {Q : xHp → Prop} (hW : xLay sh R) 
    (k : Ex mX0_makeRow 2 [.ref 23, .int (nI 0)] [] (sh, I, R) mc ms (xqV Q)) :
    Ex mX0_makeRow 0 [.ref 23, xU] [] (sh, I, R) mc ms (xqV Q) := by
  refine xw_iconst (v := nI 0) dX0_makeRow_0 rfl ?_
  refine yw_istore_n (lv' := [.ref 23, .int (nI 0)]) dX0_makeRow_1 rfl rfl rfl rfl ?_
  exact k
theorem bX0_makeRow_2 {y9 My9 y7 ny7 : Nat} {v1 : Int32} {mc ms : Nat} {Q : xHp → Prop} (hW : xLay sh R) (ey9 : R 23 9 = some y9) (hy9 : xMach sh R y9 My9) (ey7 : R 23 7 = some y7) (hy7 : sh[y7]? = some (.inr (0, ny7)))
    (k : (((I 38 8) ≤ v1 → Q (sh, I, R)) ∧ (¬ (I 38 8) ≤ v1 → vp_in v1 8 ∧ CI mX3_product [.ref y9, .ref y7, .ref (39 + 1 + v1.toNatClampNeg)] (sh, I, R) (fun w h1 => Ex mX0_makeRow 38 [.ref 23, .int v1] (.int w :: [.int v1, .ref 34]) h1 mc ms (xqV Q))))) :
    Ex mX0_makeRow 2 [.ref 23, .int v1] [] (sh, I, R) mc ms (xqV Q) := by
  refine xw_iload_n dX0_makeRow_2 rfl rfl ?_
  refine xw_aload_n dX0_makeRow_3 rfl rfl ?_
  refine yw_getR (r := 38) dX0_makeRow_4 fX0_41 rfl (la_23 hW) (lr_23_1 hW) ?_
  refine yw_getI (v := I 38 8) dX0_makeRow_7 fX0_68 rfl hW.2.2.2.2.1.1 rfl ?_
  refine xw_icge (tgt := 45) dX0_makeRow_10 (by decide) (fun c => ?_) (fun c => ?_)
  · replace k := k.1 c
    exact yw_vret dX0_makeRow_45 rfl k
  · replace k := k.2 c
    refine xw_aload_n dX0_makeRow_13 rfl rfl ?_
    refine yw_getR (r := 34) dX0_makeRow_14 fX0_22 rfl (la_23 hW) (lr_23_5 hW) ?_
    refine xw_iload_n dX0_makeRow_17 rfl rfl ?_
    refine xw_aload_n dX0_makeRow_18 rfl rfl ?_
    refine yw_getR (r := y9) dX0_makeRow_19 fX0_53 rfl (la_23 hW) ey9 ?_
    refine xw_aload_n dX0_makeRow_22 rfl rfl ?_
    refine yw_getR (r := y7) dX0_makeRow_23 fX0_28 rfl (la_23 hW) ey7 ?_
    refine xw_aload_n dX0_makeRow_26 rfl rfl ?_
    refine yw_getR (r := 38) dX0_makeRow_27 fX0_41 rfl (la_23 hW) (lr_23_1 hW) ?_
    refine yw_getR (r := 39) dX0_makeRow_30 fX0_88 rfl hW.2.2.2.2.1.1 hW.2.2.2.2.1.2.2.1 ?_
    refine xw_iload_n dX0_makeRow_33 rfl rfl ?_
    obtain ⟨kk1, k⟩ := k
    refine yw_aaload (r := (39 + 1 + v1.toNatClampNeg)) dX0_makeRow_34 hW.2.2.2.2.1.2.2.2.2.2.2.2.2.2.2.1.1 (by decide) kk1 (hW.2.2.2.2.1.2.2.2.2.2.2.2.2.2.2.1.2 _ (vp_lt kk1)).1 ?_
    exact yw_cV (As := [.ref y7, .ref (39 + 1 + v1.toNatClampNeg)]) (b := y9) (st := [.int v1, .ref 34]) dX0_makeRow_35 lX0_135 kiX3_product kvX3_product rfl rfl rfl hy9.1 rfl (Nat.le_of_ble_eq_true rfl) rfl (xk_I k)
theorem bX0_makeRow_38 {v1 s2 s1 : Int32} {mc ms : Nat} {Q : xHp → Prop} (hW : xLay sh R) 
    (k : vp_in s1 8 ∧ Ex mX0_makeRow 2 [.ref 23, .int (v1 + nI 1)] [] (sh, (xi I 34 s1.toNatClampNeg s2), R) mc ms (xqV Q)) :
    Ex mX0_makeRow 38 [.ref 23, .int v1] [.int s2, .int s1, .ref 34] (sh, I, R) mc ms (xqV Q) := by
  obtain ⟨k0, k⟩ := k
  refine yw_iastore dX0_makeRow_38 (la_34 hW) k0 ?_
  refine yw_iinc (lv' := [.ref 23, .int (v1 + nI 1)]) (v := nI 1) dX0_makeRow_39 rfl rfl rfl rfl rfl ?_
  refine xw_goto (tgt := 2) dX0_makeRow_42 (by decide) ?_
  exact k
theorem eX0_makeRow {h : xHp} {Q : xHp → Prop} (k : Ex mX0_makeRow 0 [.ref 23, xU] [] h 0 0 (xqV Q)) : CV mX0_makeRow [.ref 23] h Q := k
theorem bX0_offerHere_0 {v1 : Int32} {mc ms : Nat} {Q : xHp → Prop} (hW : xLay sh R) 
    (k : CV mX0_makeRow [.ref 23] (sh, I, R) (fun h1 => Ex mX0_offerHere 4 [.ref 23, .int v1] [] h1 mc ms (xqV Q))) :
    Ex mX0_offerHere 0 [.ref 23, .int v1] [] (sh, I, R) mc ms (xqV Q) := by
  refine xw_aload_n dX0_offerHere_0 rfl rfl ?_
  exact yw_cV (As := []) (b := 23) (st := []) dX0_offerHere_1 lX0_110 kiX0_makeRow kvX0_makeRow rfl rfl rfl (la_23 hW) rfl (Nat.le_of_ble_eq_true rfl) rfl (xk_V k)
theorem bX0_offerHere_4 {v1 : Int32} {mc ms : Nat} {Q : xHp → Prop} (hW : xLay sh R) 
    (k : (((nI 8) ≤ (I 23 10) → Q (sh, I, R)) ∧ (¬ (nI 8) ≤ (I 23 10) → CI mX7_admit [.ref 60, .ref 34] (sh, I, R) (fun w h1 => Ex mX0_offerHere 27 [.ref 23, .int v1] (.int w :: []) h1 mc ms (xqV Q))))) :
    Ex mX0_offerHere 4 [.ref 23, .int v1] [] (sh, I, R) mc ms (xqV Q) := by
  refine xw_aload_n dX0_offerHere_4 rfl rfl ?_
  refine yw_getI (v := I 23 10) dX0_offerHere_5 fX0_65 rfl (la_23 hW) rfl ?_
  refine xw_aload_n dX0_offerHere_8 rfl rfl ?_
  refine yw_getR (r := 24) dX0_offerHere_9 fX0_11 rfl (la_23 hW) (lr_23_3 hW) ?_
  refine xw_alen dX0_offerHere_12 (la_24 hW) (by decide) ?_
  refine xw_icge (tgt := 75) dX0_offerHere_13 (by decide) (fun c => ?_) (fun c => ?_)
  · replace k := k.1 c
    exact yw_vret dX0_offerHere_75 rfl k
  · replace k := k.2 c
    refine xw_aload_n dX0_offerHere_16 rfl rfl ?_
    refine yw_getR (r := 60) dX0_offerHere_17 fX0_45 rfl (la_23 hW) (lr_23_2 hW) ?_
    refine xw_aload_n dX0_offerHere_20 rfl rfl ?_
    refine yw_getR (r := 34) dX0_offerHere_21 fX0_22 rfl (la_23 hW) (lr_23_5 hW) ?_
    exact yw_cV (As := [.ref 34]) (b := 60) (st := []) dX0_offerHere_24 lX0_73 kiX7_admit kvX7_admit rfl rfl rfl hW.2.2.2.2.2.1.1 rfl (Nat.le_of_ble_eq_true rfl) rfl (xk_I k)
theorem bX0_offerHere_27 {y7 ny7 y9 My9 : Nat} {v1 s0 : Int32} {mc ms : Nat} {Q : xHp → Prop} (hW : xLay sh R) (ey7 : R 23 7 = some y7) (hy7 : sh[y7]? = some (.inr (0, ny7))) (ey9 : R 23 9 = some y9) (hy9 : xMach sh R y9 My9)
    (k : ((s0 = 0 → Q (sh, I, R)) ∧ (¬ s0 = 0 → vp_in (I 23 10) 8 ∧ vp_in (I 23 10) 8 ∧ ((¬ (nI 0) < 0 ∧ ¬ (nI 0) < 0 ∧ ¬ ((xi I 24 ((I 23 10).toNatClampNeg) v1) y9 2) < 0) ∧ (nI 0).toNatClampNeg + ((xi I 24 ((I 23 10).toNatClampNeg) v1) y9 2).toNatClampNeg ≤ ny7 ∧ (nI 0).toNatClampNeg + ((xi I 24 ((I 23 10).toNatClampNeg) v1) y9 2).toNatClampNeg ≤ 8) ∧ Q (sh, (xi (xa (xi I 24 ((I 23 10).toNatClampNeg) v1) (25 + 1 + (I 23 10).toNatClampNeg) (va_cpy ((xi I 24 ((I 23 10).toNatClampNeg) v1) y7) ((xi I 24 ((I 23 10).toNatClampNeg) v1) (25 + 1 + (I 23 10).toNatClampNeg)) (nI 0).toNatClampNeg (nI 0).toNatClampNeg ((xi I 24 ((I 23 10).toNatClampNeg) v1) y9 2).toNatClampNeg)) 23 10 (((xa (xi I 24 ((I 23 10).toNatClampNeg) v1) (25 + 1 + (I 23 10).toNatClampNeg) (va_cpy ((xi I 24 ((I 23 10).toNatClampNeg) v1) y7) ((xi I 24 ((I 23 10).toNatClampNeg) v1) (25 + 1 + (I 23 10).toNatClampNeg)) (nI 0).toNatClampNeg (nI 0).toNatClampNeg ((xi I 24 ((I 23 10).toNatClampNeg) v1) y9 2).toNatClampNeg)) 23 10) + (nI 1))), R)))) :
    Ex mX0_offerHere 27 [.ref 23, .int v1] [.int s0] (sh, I, R) mc ms (xqV Q) := by
  refine xw_ifeq (tgt := 75) dX0_offerHere_27 (by decide) (fun c => ?_) (fun c => ?_)
  · replace k := k.1 c
    exact yw_vret dX0_offerHere_75 rfl k
  · replace k := k.2 c
    refine xw_aload_n dX0_offerHere_30 rfl rfl ?_
    refine yw_getR (r := 24) dX0_offerHere_31 fX0_11 rfl (la_23 hW) (lr_23_3 hW) ?_
    refine xw_aload_n dX0_offerHere_34 rfl rfl ?_
    refine yw_getI (v := I 23 10) dX0_offerHere_35 fX0_65 rfl (la_23 hW) rfl ?_
    refine xw_iload_n dX0_offerHere_38 rfl rfl ?_
    obtain ⟨k0, k⟩ := k
    refine yw_iastore dX0_offerHere_39 (la_24 hW) k0 ?_
    refine xw_aload_n dX0_offerHere_40 rfl rfl ?_
    refine yw_getR (r := y7) dX0_offerHere_41 fX0_28 rfl (la_23 hW) ey7 ?_
    refine xw_iconst (v := nI 0) dX0_offerHere_44 rfl ?_
    refine xw_aload_n dX0_offerHere_45 rfl rfl ?_
    refine yw_getR (r := 25) dX0_offerHere_46 fX0_19 rfl (la_23 hW) (lr_23_4 hW) ?_
    refine xw_aload_n dX0_offerHere_49 rfl rfl ?_
    refine yw_getI (v := I 23 10) dX0_offerHere_50 fX0_65 rfl (la_23 hW) (xi_p (a := 23) (q := 24) (by decide)) ?_
    obtain ⟨kk1, k⟩ := k
    refine yw_aaload (r := (25 + 1 + (I 23 10).toNatClampNeg)) dX0_offerHere_53 hW.2.2.2.2.2.2.2.2.2.2.2.1.1 (by decide) kk1 (hW.2.2.2.2.2.2.2.2.2.2.2.1.2 _ (vp_lt kk1)).1 ?_
    refine xw_iconst (v := nI 0) dX0_offerHere_54 rfl ?_
    refine xw_aload_n dX0_offerHere_55 rfl rfl ?_
    refine yw_getR (r := y9) dX0_offerHere_56 fX0_53 rfl (la_23 hW) ey9 ?_
    refine yw_getI (v := (xi I 24 ((I 23 10).toNatClampNeg) v1) y9 2) dX0_offerHere_59 fX0_57 rfl hy9.1 rfl ?_
    obtain ⟨k0, k⟩ := k
    refine yw_acopy dX0_offerHere_62 lX0_113 hy7 (hW.2.2.2.2.2.2.2.2.2.2.2.1.2 _ (vp_lt kk1)).2 rfl rfl (Nat.le_of_ble_eq_true rfl) k0 ?_
    refine xw_aload_n dX0_offerHere_65 rfl rfl ?_
    refine xw_dup dX0_offerHere_66 rfl ?_
    refine yw_getI (v := (xa (xi I 24 ((I 23 10).toNatClampNeg) v1) (25 + 1 + (I 23 10).toNatClampNeg) (va_cpy ((xi I 24 ((I 23 10).toNatClampNeg) v1) y7) ((xi I 24 ((I 23 10).toNatClampNeg) v1) (25 + 1 + (I 23 10).toNatClampNeg)) (nI 0).toNatClampNeg (nI 0).toNatClampNeg ((xi I 24 ((I 23 10).toNatClampNeg) v1) y9 2).toNatClampNeg)) 23 10) dX0_offerHere_67 fX0_65 rfl (la_23 hW) rfl ?_
    refine xw_iconst (v := nI 1) dX0_offerHere_70 rfl ?_
    refine xw_iadd dX0_offerHere_71 ?_
    refine yw_putI dX0_offerHere_72 fX0_65 (fun r h => by cases h; exact Or.inl rfl) rfl (la_23 hW) ?_
    exact yw_vret dX0_offerHere_75 rfl k
theorem eX0_offerHere {v1 : Int32} {h : xHp} {Q : xHp → Prop} (k : Ex mX0_offerHere 0 [.ref 23, .int v1] [] h 0 0 (xqV Q)) : CV mX0_offerHere [.ref 23, .int v1] h Q := k
theorem bX0_widen_0 {y9 My9 y7 ny7 : Nat} {mc ms : Nat} {Q : Int32 → xHp → Prop} (hW : xLay sh R) (ey9 : R 23 9 = some y9) (hy9 : xMach sh R y9 My9) (ey7 : R 23 7 = some y7) (hy7 : sh[y7]? = some (.inr (0, ny7)))
    (k : ((¬ (I 23 10) = 0 → Ex mX0_widen 42 [.ref 23, .int (I 23 10), .int (nI 0), xU] [] (sh, I, R) mc ms (xqI Q)) ∧ ((I 23 10) = 0 → ((¬ (nI 0) < 0 ∧ ¬ (nI 0) < 0 ∧ ¬ (I y9 2) < 0) ∧ (nI 0).toNatClampNeg + (I y9 2).toNatClampNeg ≤ My9 ∧ (nI 0).toNatClampNeg + (I y9 2).toNatClampNeg ≤ ny7) ∧ CV mX0_offerHere [.ref 23, .int (nI 0)] (sh, (xa I y7 (va_cpy (I (y9 + 1)) (I y7) (nI 0).toNatClampNeg (nI 0).toNatClampNeg (I y9 2).toNatClampNeg)), R) (fun h1 => Ex mX0_widen 40 [.ref 23, .int (I 23 10), xU, xU] [] h1 mc ms (xqI Q))))) :
    Ex mX0_widen 0 [.ref 23, xU, xU, xU] [] (sh, I, R) mc ms (xqI Q) := by
  refine xw_aload_n dX0_widen_0 rfl rfl ?_
  refine yw_getI (v := I 23 10) dX0_widen_1 fX0_65 rfl (la_23 hW) rfl ?_
  refine yw_istore_n (lv' := [.ref 23, .int (I 23 10), xU, xU]) dX0_widen_4 rfl rfl rfl rfl ?_
  refine xw_aload_n dX0_widen_5 rfl rfl ?_
  refine yw_getI (v := I 23 10) dX0_widen_6 fX0_65 rfl (la_23 hW) rfl ?_
  refine xw_ifne (tgt := 40) dX0_widen_9 (by decide) (fun c => ?_) (fun c => ?_)
  · replace k := k.1 c
    refine xw_iconst (v := nI 0) dX0_widen_40 rfl ?_
    refine yw_istore_n (lv' := [.ref 23, .int (I 23 10), .int (nI 0), xU]) dX0_widen_41 rfl rfl rfl rfl ?_
    exact k
  · replace k := k.2 c
    refine xw_aload_n dX0_widen_12 rfl rfl ?_
    refine yw_getR (r := y9) dX0_widen_13 fX0_53 rfl (la_23 hW) ey9 ?_
    refine yw_getR (r := (y9 + 1)) dX0_widen_16 fX0_119 rfl hy9.1 hy9.2.2.2.2.2.1 ?_
    refine xw_iconst (v := nI 0) dX0_widen_19 rfl ?_
    refine xw_aload_n dX0_widen_20 rfl rfl ?_
    refine yw_getR (r := y7) dX0_widen_21 fX0_28 rfl (la_23 hW) ey7 ?_
    refine xw_iconst (v := nI 0) dX0_widen_24 rfl ?_
    refine xw_aload_n dX0_widen_25 rfl rfl ?_
    refine yw_getR (r := y9) dX0_widen_26 fX0_53 rfl (la_23 hW) ey9 ?_
    refine yw_getI (v := I y9 2) dX0_widen_29 fX0_57 rfl hy9.1 rfl ?_
    obtain ⟨k0, k⟩ := k
    refine yw_acopy dX0_widen_32 lX0_113 hy9.2.1 hy7 rfl rfl (Nat.le_of_ble_eq_true rfl) k0 ?_
    refine xw_aload_n dX0_widen_35 rfl rfl ?_
    refine xw_iconst (v := nI 0) dX0_widen_36 rfl ?_
    exact yw_cV (As := [.int (nI 0)]) (b := 23) (st := []) dX0_widen_37 lX0_107 kiX0_offerHere kvX0_offerHere rfl rfl rfl (la_23 hW) rfl (Nat.le_of_ble_eq_true rfl) rfl (xk_V k)
theorem bX0_widen_42 {v1 v2 : Int32} {mc ms : Nat} {Q : Int32 → xHp → Prop} (hW : xLay sh R) 
    (k : (((I 23 10) ≤ v2 → Q ((I 23 10) - v1) (sh, I, R)) ∧ (¬ (I 23 10) ≤ v2 → (((nI 8) ≤ v2 → Q ((I 23 10) - v1) (sh, I, R)) ∧ (¬ (nI 8) ≤ v2 → Ex mX0_widen 61 [.ref 23, .int v1, .int v2, .int (nI 0)] [] (sh, I, R) mc ms (xqI Q)))))) :
    Ex mX0_widen 42 [.ref 23, .int v1, .int v2, xU] [] (sh, I, R) mc ms (xqI Q) := by
  refine xw_iload_n dX0_widen_42 rfl rfl ?_
  refine xw_aload_n dX0_widen_43 rfl rfl ?_
  refine yw_getI (v := I 23 10) dX0_widen_44 fX0_65 rfl (la_23 hW) rfl ?_
  refine xw_icge (tgt := 120) dX0_widen_47 (by decide) (fun c => ?_) (fun c => ?_)
  · replace k := k.1 c
    refine xw_aload_n dX0_widen_120 rfl rfl ?_
    refine yw_getI (v := I 23 10) dX0_widen_121 fX0_65 rfl (la_23 hW) rfl ?_
    refine xw_iload_n dX0_widen_124 rfl rfl ?_
    refine xw_isub dX0_widen_125 ?_
    exact yw_iret dX0_widen_126 rfl k
  · replace k := k.2 c
    refine xw_iload_n dX0_widen_50 rfl rfl ?_
    refine xw_aload_n dX0_widen_51 rfl rfl ?_
    refine yw_getR (r := 24) dX0_widen_52 fX0_11 rfl (la_23 hW) (lr_23_3 hW) ?_
    refine xw_alen dX0_widen_55 (la_24 hW) (by decide) ?_
    refine xw_icge (tgt := 120) dX0_widen_56 (by decide) (fun c => ?_) (fun c => ?_)
    · replace k := k.1 c
      refine xw_aload_n dX0_widen_120 rfl rfl ?_
      refine yw_getI (v := I 23 10) dX0_widen_121 fX0_65 rfl (la_23 hW) rfl ?_
      refine xw_iload_n dX0_widen_124 rfl rfl ?_
      refine xw_isub dX0_widen_125 ?_
      exact yw_iret dX0_widen_126 rfl k
    · replace k := k.2 c
      refine xw_iconst (v := nI 0) dX0_widen_59 rfl ?_
      refine yw_istore_n (lv' := [.ref 23, .int v1, .int v2, .int (nI 0)]) dX0_widen_60 rfl rfl rfl rfl ?_
      exact k
theorem bX0_widen_61 {y9 My9 y7 ny7 : Nat} {v1 v2 v3 : Int32} {mc ms : Nat} {Q : Int32 → xHp → Prop} (hW : xLay sh R) (ey9 : R 23 9 = some y9) (hy9 : xMach sh R y9 My9) (ey7 : R 23 7 = some y7) (hy7 : sh[y7]? = some (.inr (0, ny7)))
    (k : (((I 1 1) ≤ v3 → Ex mX0_widen 42 [.ref 23, .int v1, .int (v2 + nI 1), xU] [] (sh, I, R) mc ms (xqI Q)) ∧ (¬ (I 1 1) ≤ v3 → vp_in v2 8 ∧ CV mX3_forward [.ref y9, .ref (25 + 1 + v2.toNatClampNeg), .int v3, .ref y7] (sh, I, R) (fun h1 => Ex mX0_widen 90 [.ref 23, .int v1, .int v2, .int v3] [] h1 mc ms (xqI Q))))) :
    Ex mX0_widen 61 [.ref 23, .int v1, .int v2, .int v3] [] (sh, I, R) mc ms (xqI Q) := by
  refine xw_iload_n dX0_widen_61 rfl rfl ?_
  refine xw_aload_n dX0_widen_62 rfl rfl ?_
  refine yw_getR (r := 1) dX0_widen_63 fX0_34 rfl (la_23 hW) (lr_23_0 hW) ?_
  refine yw_getI (v := I 1 1) dX0_widen_66 fX0_84 rfl (la_1 hW) rfl ?_
  refine xw_icge (tgt := 114) dX0_widen_69 (by decide) (fun c => ?_) (fun c => ?_)
  · replace k := k.1 c
    refine yw_iinc (lv' := [.ref 23, .int v1, .int (v2 + nI 1), .int v3]) (v := nI 1) dX0_widen_114 rfl rfl rfl rfl rfl ?_
    refine xw_goto (tgt := 42) dX0_widen_117 (by decide) ?_
    exact yw_sub (lv' := [.ref 23, .int v1, .int (v2 + nI 1), xU]) ⟨Or.inr rfl, Or.inr rfl, Or.inr rfl, Or.inl rfl, trivial⟩ k
  · replace k := k.2 c
    refine xw_aload_n dX0_widen_72 rfl rfl ?_
    refine yw_getR (r := y9) dX0_widen_73 fX0_53 rfl (la_23 hW) ey9 ?_
    refine xw_aload_n dX0_widen_76 rfl rfl ?_
    refine yw_getR (r := 25) dX0_widen_77 fX0_19 rfl (la_23 hW) (lr_23_4 hW) ?_
    refine xw_iload_n dX0_widen_80 rfl rfl ?_
    obtain ⟨kk1, k⟩ := k
    refine yw_aaload (r := (25 + 1 + v2.toNatClampNeg)) dX0_widen_81 hW.2.2.2.2.2.2.2.2.2.2.2.1.1 (by decide) kk1 (hW.2.2.2.2.2.2.2.2.2.2.2.1.2 _ (vp_lt kk1)).1 ?_
    refine xw_iload_n dX0_widen_82 rfl rfl ?_
    refine xw_aload_n dX0_widen_83 rfl rfl ?_
    refine yw_getR (r := y7) dX0_widen_84 fX0_28 rfl (la_23 hW) ey7 ?_
    exact yw_cV (As := [.ref (25 + 1 + v2.toNatClampNeg), .int v3, .ref y7]) (b := y9) (st := []) dX0_widen_87 lX0_122 kiX3_forward kvX3_forward rfl rfl rfl hy9.1 rfl (Nat.le_of_ble_eq_true rfl) rfl (xk_V k)
theorem bX0_widen_90 {v1 v2 v3 : Int32} {mc ms : Nat} {Q : Int32 → xHp → Prop} (hW : xLay sh R) 
    (k : vp_in v2 8 ∧ CI mX5_withLetter [.ref 1, .int (I 24 v2.toNatClampNeg), .int v3] (sh, I, R) (fun w h1 => Ex mX0_widen 105 [.ref 23, .int v1, .int v2, .int v3] (.int w :: [.ref 23]) h1 mc ms (xqI Q))) :
    Ex mX0_widen 90 [.ref 23, .int v1, .int v2, .int v3] [] (sh, I, R) mc ms (xqI Q) := by
  refine xw_aload_n dX0_widen_90 rfl rfl ?_
  refine xw_aload_n dX0_widen_91 rfl rfl ?_
  refine yw_getR (r := 1) dX0_widen_92 fX0_34 rfl (la_23 hW) (lr_23_0 hW) ?_
  refine xw_aload_n dX0_widen_95 rfl rfl ?_
  refine yw_getR (r := 24) dX0_widen_96 fX0_11 rfl (la_23 hW) (lr_23_3 hW) ?_
  refine xw_iload_n dX0_widen_99 rfl rfl ?_
  obtain ⟨k0, k⟩ := k
  refine yw_iaload (v := I 24 v2.toNatClampNeg) dX0_widen_100 (la_24 hW) k0 rfl ?_
  refine xw_iload_n dX0_widen_101 rfl rfl ?_
  exact yw_cV (As := [.int (I 24 v2.toNatClampNeg), .int v3]) (b := 1) (st := [.ref 23]) dX0_widen_102 lX0_125 kiX5_withLetter kvX5_withLetter rfl rfl rfl (la_1 hW) rfl (Nat.le_of_ble_eq_true rfl) rfl (xk_I k)
theorem bX0_widen_105 {v1 v2 v3 s1 : Int32} {mc ms : Nat} {Q : Int32 → xHp → Prop} (hW : xLay sh R) 
    (k : CV mX0_offerHere [.ref 23, .int s1] (sh, I, R) (fun h1 => Ex mX0_widen 108 [.ref 23, .int v1, .int v2, .int v3] [] h1 mc ms (xqI Q))) :
    Ex mX0_widen 105 [.ref 23, .int v1, .int v2, .int v3] [.int s1, .ref 23] (sh, I, R) mc ms (xqI Q) := by
  exact yw_cV (As := [.int s1]) (b := 23) (st := []) dX0_widen_105 lX0_107 kiX0_offerHere kvX0_offerHere rfl rfl rfl (la_23 hW) rfl (Nat.le_of_ble_eq_true rfl) rfl (xk_V k)
theorem bX0_widen_108 {v1 v2 v3 : Int32} {mc ms : Nat} {Q : Int32 → xHp → Prop} (hW : xLay sh R) 
    (k : Ex mX0_widen 61 [.ref 23, .int v1, .int v2, .int (v3 + nI 1)] [] (sh, I, R) mc ms (xqI Q)) :
    Ex mX0_widen 108 [.ref 23, .int v1, .int v2, .int v3] [] (sh, I, R) mc ms (xqI Q) := by
  refine yw_iinc (lv' := [.ref 23, .int v1, .int v2, .int (v3 + nI 1)]) (v := nI 1) dX0_widen_108 rfl rfl rfl rfl rfl ?_
  refine xw_goto (tgt := 61) dX0_widen_111 (by decide) ?_
  exact k
theorem bX0_widen_40 {v1 : Int32} {mc ms : Nat} {Q : Int32 → xHp → Prop} (hW : xLay sh R) 
    (k : Ex mX0_widen 42 [.ref 23, .int v1, .int (nI 0), xU] [] (sh, I, R) mc ms (xqI Q)) :
    Ex mX0_widen 40 [.ref 23, .int v1, xU, xU] [] (sh, I, R) mc ms (xqI Q) := by
  refine xw_iconst (v := nI 0) dX0_widen_40 rfl ?_
  refine yw_istore_n (lv' := [.ref 23, .int v1, .int (nI 0), xU]) dX0_widen_41 rfl rfl rfl rfl ?_
  exact k
theorem eX0_widen {h : xHp} {Q : Int32 → xHp → Prop} (k : Ex mX0_widen 0 [.ref 23, xU, xU, xU] [] h 0 0 (xqI Q)) : CI mX0_widen [.ref 23] h Q := k
theorem bX0_build_0 {a1 Ma1 : Nat} {mc ms : Nat} {Q : xHp → Prop} (hW : xLay sh R) (ha1 : xMach sh R a1 Ma1)
    (k : CV mX3_become [.ref a1, .int (I 23 10)] (sh, I, R) (fun h1 => Ex mX0_build 8 [.ref 23, .ref a1, xU, xU] [] h1 mc ms (xqV Q))) :
    Ex mX0_build 0 [.ref 23, .ref a1, xU, xU] [] (sh, I, R) mc ms (xqV Q) := by
  refine xw_aload_n dX0_build_0 rfl rfl ?_
  refine xw_aload_n dX0_build_1 rfl rfl ?_
  refine yw_getI (v := I 23 10) dX0_build_2 fX0_65 rfl (la_23 hW) rfl ?_
  exact yw_cV (As := [.int (I 23 10)]) (b := a1) (st := []) dX0_build_5 lX0_132 kiX3_become kvX3_become rfl rfl rfl ha1.1 rfl (Nat.le_of_ble_eq_true rfl) rfl (xk_V k)
theorem bX0_build_8 {a1 Ma1 : Nat} {mc ms : Nat} {Q : xHp → Prop} (hW : xLay sh R) (ha1 : xMach sh R a1 Ma1)
    (k : Ex mX0_build 10 [.ref 23, .ref a1, .int (nI 0), xU] [] (sh, I, R) mc ms (xqV Q)) :
    Ex mX0_build 8 [.ref 23, .ref a1, xU, xU] [] (sh, I, R) mc ms (xqV Q) := by
  refine xw_iconst (v := nI 0) dX0_build_8 rfl ?_
  refine yw_istore_n (lv' := [.ref 23, .ref a1, .int (nI 0), xU]) dX0_build_9 rfl rfl rfl rfl ?_
  exact k
theorem bX0_build_10 {a1 Ma1 y9 My9 : Nat} {v2 : Int32} {mc ms : Nat} {Q : xHp → Prop} (hW : xLay sh R) (ha1 : xMach sh R a1 Ma1) (ey9 : R 23 9 = some y9) (hy9 : xMach sh R y9 My9)
    (k : (((I a1 2) ≤ v2 → Q (sh, I, R)) ∧ (¬ (I a1 2) ≤ v2 → ((¬ v2 = 0 → vp_in v2 Ma1 ∧ vp_in v2 8 ∧ CI mX3_product [.ref y9, .ref (25 + 1 + v2.toNatClampNeg), .ref (y9 + 2)] (sh, (xi I (a1 + 1) v2.toNatClampNeg (nI 0)), R) (fun w h1 => Ex mX0_build 58 [.ref 23, .ref a1, .int v2, xU] (.int w :: [.int v2, .ref (a1 + 2)]) h1 mc ms (xqV Q))) ∧ (v2 = 0 → vp_in v2 Ma1 ∧ vp_in v2 8 ∧ CI mX3_product [.ref y9, .ref (25 + 1 + v2.toNatClampNeg), .ref (y9 + 2)] (sh, (xi I (a1 + 1) v2.toNatClampNeg (nI 1)), R) (fun w h1 => Ex mX0_build 58 [.ref 23, .ref a1, .int v2, xU] (.int w :: [.int v2, .ref (a1 + 2)]) h1 mc ms (xqV Q))))))) :
    Ex mX0_build 10 [.ref 23, .ref a1, .int v2, xU] [] (sh, I, R) mc ms (xqV Q) := by
  refine xw_iload_n dX0_build_10 rfl rfl ?_
  refine xw_aload_n dX0_build_11 rfl rfl ?_
  refine yw_getI (v := I a1 2) dX0_build_12 fX0_57 rfl ha1.1 rfl ?_
  refine xw_icge (tgt := 144) dX0_build_15 (by decide) (fun c => ?_) (fun c => ?_)
  · replace k := k.1 c
    exact yw_vret dX0_build_144 rfl k
  · replace k := k.2 c
    refine xw_aload_n dX0_build_18 rfl rfl ?_
    refine yw_getR (r := (a1 + 1)) dX0_build_19 fX0_119 rfl ha1.1 ha1.2.2.2.2.2.1 ?_
    refine xw_iload_n dX0_build_22 rfl rfl ?_
    refine xw_iload_n dX0_build_23 rfl rfl ?_
    refine xw_ifne (tgt := 31) dX0_build_24 (by decide) (fun c => ?_) (fun c => ?_)
    · replace k := k.1 c
      refine xw_iconst (v := nI 0) dX0_build_31 rfl ?_
      obtain ⟨k0, k⟩ := k
      refine yw_iastore dX0_build_32 ha1.2.1 k0 ?_
      refine xw_aload_n dX0_build_33 rfl rfl ?_
      refine yw_getR (r := (a1 + 2)) dX0_build_34 fX0_81 rfl ha1.1 ha1.2.2.2.2.2.2.1 ?_
      refine xw_iload_n dX0_build_37 rfl rfl ?_
      refine xw_aload_n dX0_build_38 rfl rfl ?_
      refine yw_getR (r := y9) dX0_build_39 fX0_53 rfl (la_23 hW) ey9 ?_
      refine xw_aload_n dX0_build_42 rfl rfl ?_
      refine yw_getR (r := 25) dX0_build_43 fX0_19 rfl (la_23 hW) (lr_23_4 hW) ?_
      refine xw_iload_n dX0_build_46 rfl rfl ?_
      obtain ⟨kk1, k⟩ := k
      refine yw_aaload (r := (25 + 1 + v2.toNatClampNeg)) dX0_build_47 hW.2.2.2.2.2.2.2.2.2.2.2.1.1 (by decide) kk1 (hW.2.2.2.2.2.2.2.2.2.2.2.1.2 _ (vp_lt kk1)).1 ?_
      refine xw_aload_n dX0_build_48 rfl rfl ?_
      refine yw_getR (r := y9) dX0_build_49 fX0_53 rfl (la_23 hW) ey9 ?_
      refine yw_getR (r := (y9 + 2)) dX0_build_52 fX0_81 rfl hy9.1 hy9.2.2.2.2.2.2.1 ?_
      exact yw_cV (As := [.ref (25 + 1 + v2.toNatClampNeg), .ref (y9 + 2)]) (b := y9) (st := [.int v2, .ref (a1 + 2)]) dX0_build_55 lX0_135 kiX3_product kvX3_product rfl rfl rfl hy9.1 rfl (Nat.le_of_ble_eq_true rfl) rfl (xk_I k)
    · replace k := k.2 c
      refine xw_iconst (v := nI 1) dX0_build_27 rfl ?_
      refine xw_goto (tgt := 32) dX0_build_28 (by decide) ?_
      obtain ⟨k0, k⟩ := k
      refine yw_iastore dX0_build_32 ha1.2.1 k0 ?_
      refine xw_aload_n dX0_build_33 rfl rfl ?_
      refine yw_getR (r := (a1 + 2)) dX0_build_34 fX0_81 rfl ha1.1 ha1.2.2.2.2.2.2.1 ?_
      refine xw_iload_n dX0_build_37 rfl rfl ?_
      refine xw_aload_n dX0_build_38 rfl rfl ?_
      refine yw_getR (r := y9) dX0_build_39 fX0_53 rfl (la_23 hW) ey9 ?_
      refine xw_aload_n dX0_build_42 rfl rfl ?_
      refine yw_getR (r := 25) dX0_build_43 fX0_19 rfl (la_23 hW) (lr_23_4 hW) ?_
      refine xw_iload_n dX0_build_46 rfl rfl ?_
      obtain ⟨kk2, k⟩ := k
      refine yw_aaload (r := (25 + 1 + v2.toNatClampNeg)) dX0_build_47 hW.2.2.2.2.2.2.2.2.2.2.2.1.1 (by decide) kk2 (hW.2.2.2.2.2.2.2.2.2.2.2.1.2 _ (vp_lt kk2)).1 ?_
      refine xw_aload_n dX0_build_48 rfl rfl ?_
      refine yw_getR (r := y9) dX0_build_49 fX0_53 rfl (la_23 hW) ey9 ?_
      refine yw_getR (r := (y9 + 2)) dX0_build_52 fX0_81 rfl hy9.1 hy9.2.2.2.2.2.2.1 ?_
      exact yw_cV (As := [.ref (25 + 1 + v2.toNatClampNeg), .ref (y9 + 2)]) (b := y9) (st := [.int v2, .ref (a1 + 2)]) dX0_build_55 lX0_135 kiX3_product kvX3_product rfl rfl rfl hy9.1 rfl (Nat.le_of_ble_eq_true rfl) rfl (xk_I k)
theorem bX0_build_58 {a1 Ma1 b0 nb0 : Nat} {v2 s2 s1 : Int32} {mc ms : Nat} {Q : xHp → Prop} (hW : xLay sh R) (ha1 : xMach sh R a1 Ma1) (hb0 : sh[b0]? = some (.inr (0, nb0)))
    (k : vp_in s1 nb0 ∧ Ex mX0_build 61 [.ref 23, .ref a1, .int v2, .int (nI 0)] [] (sh, (xi I b0 s1.toNatClampNeg s2), R) mc ms (xqV Q)) :
    Ex mX0_build 58 [.ref 23, .ref a1, .int v2, xU] [.int s2, .int s1, .ref b0] (sh, I, R) mc ms (xqV Q) := by
  obtain ⟨k0, k⟩ := k
  refine yw_iastore dX0_build_58 hb0 k0 ?_
  refine xw_iconst (v := nI 0) dX0_build_59 rfl ?_
  refine yw_istore_n (lv' := [.ref 23, .ref a1, .int v2, .int (nI 0)]) dX0_build_60 rfl rfl rfl rfl ?_
  exact k
theorem bX0_build_61 {a1 Ma1 y9 My9 y7 ny7 : Nat} {v2 v3 : Int32} {mc ms : Nat} {Q : xHp → Prop} (hW : xLay sh R) (ha1 : xMach sh R a1 Ma1) (ey9 : R 23 9 = some y9) (hy9 : xMach sh R y9 My9) (ey7 : R 23 7 = some y7) (hy7 : sh[y7]? = some (.inr (0, ny7)))
    (k : (((I 1 1) ≤ v3 → Ex mX0_build 10 [.ref 23, .ref a1, .int (v2 + nI 1), xU] [] (sh, I, R) mc ms (xqV Q)) ∧ (¬ (I 1 1) ≤ v3 → vp_in v2 8 ∧ CV mX3_forward [.ref y9, .ref (25 + 1 + v2.toNatClampNeg), .int v3, .ref y7] (sh, I, R) (fun h1 => Ex mX0_build 90 [.ref 23, .ref a1, .int v2, .int v3] [] h1 mc ms (xqV Q))))) :
    Ex mX0_build 61 [.ref 23, .ref a1, .int v2, .int v3] [] (sh, I, R) mc ms (xqV Q) := by
  refine xw_iload_n dX0_build_61 rfl rfl ?_
  refine xw_aload_n dX0_build_62 rfl rfl ?_
  refine yw_getR (r := 1) dX0_build_63 fX0_34 rfl (la_23 hW) (lr_23_0 hW) ?_
  refine yw_getI (v := I 1 1) dX0_build_66 fX0_84 rfl (la_1 hW) rfl ?_
  refine xw_icge (tgt := 138) dX0_build_69 (by decide) (fun c => ?_) (fun c => ?_)
  · replace k := k.1 c
    refine yw_iinc (lv' := [.ref 23, .ref a1, .int (v2 + nI 1), .int v3]) (v := nI 1) dX0_build_138 rfl rfl rfl rfl rfl ?_
    refine xw_goto (tgt := 10) dX0_build_141 (by decide) ?_
    exact yw_sub (lv' := [.ref 23, .ref a1, .int (v2 + nI 1), xU]) ⟨Or.inr rfl, Or.inr rfl, Or.inr rfl, Or.inl rfl, trivial⟩ k
  · replace k := k.2 c
    refine xw_aload_n dX0_build_72 rfl rfl ?_
    refine yw_getR (r := y9) dX0_build_73 fX0_53 rfl (la_23 hW) ey9 ?_
    refine xw_aload_n dX0_build_76 rfl rfl ?_
    refine yw_getR (r := 25) dX0_build_77 fX0_19 rfl (la_23 hW) (lr_23_4 hW) ?_
    refine xw_iload_n dX0_build_80 rfl rfl ?_
    obtain ⟨kk1, k⟩ := k
    refine yw_aaload (r := (25 + 1 + v2.toNatClampNeg)) dX0_build_81 hW.2.2.2.2.2.2.2.2.2.2.2.1.1 (by decide) kk1 (hW.2.2.2.2.2.2.2.2.2.2.2.1.2 _ (vp_lt kk1)).1 ?_
    refine xw_iload_n dX0_build_82 rfl rfl ?_
    refine xw_aload_n dX0_build_83 rfl rfl ?_
    refine yw_getR (r := y7) dX0_build_84 fX0_28 rfl (la_23 hW) ey7 ?_
    exact yw_cV (As := [.ref (25 + 1 + v2.toNatClampNeg), .int v3, .ref y7]) (b := y9) (st := []) dX0_build_87 lX0_122 kiX3_forward kvX3_forward rfl rfl rfl hy9.1 rfl (Nat.le_of_ble_eq_true rfl) rfl (xk_V k)
theorem bX0_build_90 {a1 Ma1 : Nat} {v2 v3 : Int32} {mc ms : Nat} {Q : xHp → Prop} (hW : xLay sh R) (ha1 : xMach sh R a1 Ma1)
    (k : CV mX0_makeRow [.ref 23] (sh, I, R) (fun h1 => Ex mX0_build 94 [.ref 23, .ref a1, .int v2, .int v3] [] h1 mc ms (xqV Q))) :
    Ex mX0_build 90 [.ref 23, .ref a1, .int v2, .int v3] [] (sh, I, R) mc ms (xqV Q) := by
  refine xw_aload_n dX0_build_90 rfl rfl ?_
  exact yw_cV (As := []) (b := 23) (st := []) dX0_build_91 lX0_110 kiX0_makeRow kvX0_makeRow rfl rfl rfl (la_23 hW) rfl (Nat.le_of_ble_eq_true rfl) rfl (xk_V k)
theorem bX0_build_94 {a1 Ma1 : Nat} {v2 v3 : Int32} {mc ms : Nat} {Q : xHp → Prop} (hW : xLay sh R) (ha1 : xMach sh R a1 Ma1)
    (k : CI mX7_combines [.ref 60, .ref 34] (sh, I, R) (fun w h1 => Ex mX0_build 105 [.ref 23, .ref a1, .int v2, .int v3] (.int w :: []) h1 mc ms (xqV Q))) :
    Ex mX0_build 94 [.ref 23, .ref a1, .int v2, .int v3] [] (sh, I, R) mc ms (xqV Q) := by
  refine xw_aload_n dX0_build_94 rfl rfl ?_
  refine yw_getR (r := 60) dX0_build_95 fX0_45 rfl (la_23 hW) (lr_23_2 hW) ?_
  refine xw_aload_n dX0_build_98 rfl rfl ?_
  refine yw_getR (r := 34) dX0_build_99 fX0_22 rfl (la_23 hW) (lr_23_5 hW) ?_
  exact yw_cV (As := [.ref 34]) (b := 60) (st := []) dX0_build_102 lX0_129 kiX7_combines kvX7_combines rfl rfl rfl hW.2.2.2.2.2.1.1 rfl (Nat.le_of_ble_eq_true rfl) rfl (xk_I k)
theorem bX0_build_105 {a1 Ma1 : Nat} {v2 v3 s0 : Int32} {mc ms : Nat} {Q : xHp → Prop} (hW : xLay sh R) (ha1 : xMach sh R a1 Ma1)
    (k : CI mX3_at [.ref a1, .int v2, .int v3, .int (nI 0)] (sh, I, R) (fun w h1 => Ex mX0_build 125 [.ref 23, .ref a1, .int v2, .int v3] (.int w :: [.ref (a1 + 3), .int (nI 0), .ref 81]) h1 mc ms (xqV Q))) :
    Ex mX0_build 105 [.ref 23, .ref a1, .int v2, .int v3] [.int s0] (sh, I, R) mc ms (xqV Q) := by
  refine xw_pop dX0_build_105 rfl ?_
  refine xw_aload_n dX0_build_106 rfl rfl ?_
  refine yw_getR (r := 60) dX0_build_107 fX0_45 rfl (la_23 hW) (lr_23_2 hW) ?_
  refine yw_getR (r := 81) dX0_build_110 fX0_139 rfl hW.2.2.2.2.2.1.1 hW.2.2.2.2.2.1.2.2.2.2.2.2.1 ?_
  refine xw_iconst (v := nI 0) dX0_build_113 rfl ?_
  refine xw_aload_n dX0_build_114 rfl rfl ?_
  refine yw_getR (r := (a1 + 3)) dX0_build_115 fX0_142 rfl ha1.1 ha1.2.2.2.2.2.2.2 ?_
  refine xw_aload_n dX0_build_118 rfl rfl ?_
  refine xw_iload_n dX0_build_119 rfl rfl ?_
  refine xw_iload_n dX0_build_120 rfl rfl ?_
  refine xw_iconst (v := nI 0) dX0_build_121 rfl ?_
  exact yw_cV (As := [.int v2, .int v3, .int (nI 0)]) (b := a1) (st := [.ref (a1 + 3), .int (nI 0), .ref 81]) dX0_build_122 lX0_145 kiX3_at kvX3_at rfl rfl rfl ha1.1 rfl (Nat.le_of_ble_eq_true rfl) rfl (xk_I k)
theorem bX0_build_125 {a1 Ma1 b2 nb2 : Nat} {v2 v3 s3 s1 : Int32} {mc ms : Nat} {Q : xHp → Prop} (hW : xLay sh R) (ha1 : xMach sh R a1 Ma1) (hb2 : sh[b2]? = some (.inr (0, nb2)))
    (k : ((¬ s1 < 0 ∧ ¬ s3 < 0 ∧ ¬ (I a1 2) < 0) ∧ s1.toNatClampNeg + (I a1 2).toNatClampNeg ≤ 8 ∧ s3.toNatClampNeg + (I a1 2).toNatClampNeg ≤ nb2) ∧ Ex mX0_build 61 [.ref 23, .ref a1, .int v2, .int (v3 + nI 1)] [] (sh, (xa I b2 (va_cpy (I 81) (I b2) s1.toNatClampNeg s3.toNatClampNeg (I a1 2).toNatClampNeg)), R) mc ms (xqV Q)) :
    Ex mX0_build 125 [.ref 23, .ref a1, .int v2, .int v3] [.int s3, .ref b2, .int s1, .ref 81] (sh, I, R) mc ms (xqV Q) := by
  refine xw_aload_n dX0_build_125 rfl rfl ?_
  refine yw_getI (v := I a1 2) dX0_build_126 fX0_57 rfl ha1.1 rfl ?_
  obtain ⟨k0, k⟩ := k
  refine yw_acopy dX0_build_129 lX0_113 hW.2.2.2.2.2.1.2.2.2.2.2.2.2.2.2.1 hb2 rfl rfl (Nat.le_of_ble_eq_true rfl) k0 ?_
  refine yw_iinc (lv' := [.ref 23, .ref a1, .int v2, .int (v3 + nI 1)]) (v := nI 1) dX0_build_132 rfl rfl rfl rfl rfl ?_
  refine xw_goto (tgt := 61) dX0_build_135 (by decide) ?_
  exact k
theorem eX0_build {a1 : Nat} {h : xHp} {Q : xHp → Prop} (k : Ex mX0_build 0 [.ref 23, .ref a1, xU, xU] [] h 0 0 (xqV Q)) : CV mX0_build [.ref 23, .ref a1] h Q := k
theorem bX0_swap_0 {y7 ny7 y8 ny8 : Nat} {mc ms : Nat} {Q : xHp → Prop} (hW : xLay sh R) (ey7 : R 23 7 = some y7) (hy7 : sh[y7]? = some (.inr (0, ny7))) (ey8 : R 23 8 = some y8) (hy8 : sh[y8]? = some (.inr (0, ny8)))
    (k : Q (sh, I, (xr (xr R 23 7 (some y8)) 23 8 (some y7)))) :
    Ex mX0_swap 0 [.ref 23, xU] [] (sh, I, R) mc ms (xqV Q) := by
  refine xw_aload_n dX0_swap_0 rfl rfl ?_
  refine yw_getR (r := y7) dX0_swap_1 fX0_28 rfl (la_23 hW) ey7 ?_
  refine yw_astore_n (lv' := [.ref 23, .ref y7]) dX0_swap_4 rfl rfl rfl rfl ?_
  refine xw_aload_n dX0_swap_5 rfl rfl ?_
  refine xw_aload_n dX0_swap_6 rfl rfl ?_
  refine yw_getR (r := y8) dX0_swap_7 fX0_31 rfl (la_23 hW) ey8 ?_
  refine yw_putR dX0_swap_10 fX0_28 (fun r h => by cases h; exact Or.inl rfl) rfl (la_23 hW) hy8 ?_
  refine xw_aload_n dX0_swap_13 rfl rfl ?_
  refine xw_aload_n dX0_swap_14 rfl rfl ?_
  refine yw_putR dX0_swap_15 fX0_31 (fun r h => by cases h; exact Or.inl rfl) rfl (la_23 hW) hy7 ?_
  exact yw_vret dX0_swap_18 rfl k
theorem eX0_swap {h : xHp} {Q : xHp → Prop} (k : Ex mX0_swap 0 [.ref 23, xU] [] h 0 0 (xqV Q)) : CV mX0_swap [.ref 23] h Q := k
theorem bX0_goBack_0 {a1 Ma1 : Nat} {v2 : Int32} {mc ms : Nat} {Q : xHp → Prop} (hW : xLay sh R) (ha1 : xMach sh R a1 Ma1)
    (k : CI mX5_lengthOf [.ref 1, .int v2] (sh, I, R) (fun w h1 => Ex mX0_goBack 8 [.ref 23, .ref a1, .int v2, xU, xU, xU] (.int w :: []) h1 mc ms (xqV Q))) :
    Ex mX0_goBack 0 [.ref 23, .ref a1, .int v2, xU, xU, xU] [] (sh, I, R) mc ms (xqV Q) := by
  refine xw_aload_n dX0_goBack_0 rfl rfl ?_
  refine yw_getR (r := 1) dX0_goBack_1 fX0_34 rfl (la_23 hW) (lr_23_0 hW) ?_
  refine xw_iload_n dX0_goBack_4 rfl rfl ?_
  exact yw_cV (As := [.int v2]) (b := 1) (st := []) dX0_goBack_5 lX0_156 kiX5_lengthOf kvX5_lengthOf rfl rfl rfl (la_1 hW) rfl (Nat.le_of_ble_eq_true rfl) rfl (xk_I k)
theorem bX0_goBack_8 {a1 Ma1 y7 ny7 : Nat} {v2 s0 : Int32} {mc ms : Nat} {Q : xHp → Prop} (hW : xLay sh R) (ha1 : xMach sh R a1 Ma1) (ey7 : R 23 7 = some y7) (hy7 : sh[y7]? = some (.inr (0, ny7)))
    (k : ((¬ (nI 0) < 0 ∧ ¬ (nI 0) < 0 ∧ ¬ (I a1 2) < 0) ∧ (nI 0).toNatClampNeg + (I a1 2).toNatClampNeg ≤ Ma1 ∧ (nI 0).toNatClampNeg + (I a1 2).toNatClampNeg ≤ ny7) ∧ Ex mX0_goBack 32 [.ref 23, .ref a1, xU, .int s0, .int v2, .int (nI 0)] [] (sh, (xa I y7 (va_cpy (I (a1 + 2)) (I y7) (nI 0).toNatClampNeg (nI 0).toNatClampNeg (I a1 2).toNatClampNeg)), R) mc ms (xqV Q)) :
    Ex mX0_goBack 8 [.ref 23, .ref a1, .int v2, xU, xU, xU] [.int s0] (sh, I, R) mc ms (xqV Q) := by
  refine yw_istore_n (lv' := [.ref 23, .ref a1, .int v2, .int s0, xU, xU]) dX0_goBack_8 rfl rfl rfl rfl ?_
  refine xw_iload_n dX0_goBack_9 rfl rfl ?_
  refine yw_istore (lv' := [.ref 23, .ref a1, .int v2, .int s0, .int v2, xU]) dX0_goBack_10 rfl rfl rfl ?_
  refine xw_aload_n dX0_goBack_12 rfl rfl ?_
  refine yw_getR (r := (a1 + 2)) dX0_goBack_13 fX0_81 rfl ha1.1 ha1.2.2.2.2.2.2.1 ?_
  refine xw_iconst (v := nI 0) dX0_goBack_16 rfl ?_
  refine xw_aload_n dX0_goBack_17 rfl rfl ?_
  refine yw_getR (r := y7) dX0_goBack_18 fX0_28 rfl (la_23 hW) ey7 ?_
  refine xw_iconst (v := nI 0) dX0_goBack_21 rfl ?_
  refine xw_aload_n dX0_goBack_22 rfl rfl ?_
  refine yw_getI (v := I a1 2) dX0_goBack_23 fX0_57 rfl ha1.1 rfl ?_
  obtain ⟨k0, k⟩ := k
  refine yw_acopy dX0_goBack_26 lX0_113 ha1.2.2.1 hy7 rfl rfl (Nat.le_of_ble_eq_true rfl) k0 ?_
  refine xw_iconst (v := nI 0) dX0_goBack_29 rfl ?_
  refine yw_istore (lv' := [.ref 23, .ref a1, .int v2, .int s0, .int v2, .int (nI 0)]) dX0_goBack_30 rfl rfl rfl ?_
  exact yw_sub (lv' := [.ref 23, .ref a1, xU, .int s0, .int v2, .int (nI 0)]) ⟨Or.inr rfl, Or.inr rfl, Or.inl rfl, Or.inr rfl, Or.inr rfl, Or.inr rfl, trivial⟩ k
theorem bX0_goBack_32 {a1 Ma1 y7 ny7 : Nat} {v3 v4 v5 : Int32} {mc ms : Nat} {Q : xHp → Prop} (hW : xLay sh R) (ha1 : xMach sh R a1 Ma1) (ey7 : R 23 7 = some y7) (hy7 : sh[y7]? = some (.inr (0, ny7)))
    (k : ((v3 ≤ v5 → Q (sh, I, R)) ∧ (¬ v3 ≤ v5 → CI mX5_lastLetter [.ref 1, .int v4] (sh, I, R) (fun w h1 => Ex mX0_goBack 52 [.ref 23, .ref a1, xU, .int v3, .int v4, .int v5] (.int w :: [.ref y7, .ref a1]) h1 mc ms (xqV Q))))) :
    Ex mX0_goBack 32 [.ref 23, .ref a1, xU, .int v3, .int v4, .int v5] [] (sh, I, R) mc ms (xqV Q) := by
  refine xw_iload dX0_goBack_32 rfl ?_
  refine xw_iload_n dX0_goBack_34 rfl rfl ?_
  refine xw_icge (tgt := 80) dX0_goBack_35 (by decide) (fun c => ?_) (fun c => ?_)
  · replace k := k.1 c
    exact yw_vret dX0_goBack_80 rfl k
  · replace k := k.2 c
    refine xw_aload_n dX0_goBack_38 rfl rfl ?_
    refine xw_aload_n dX0_goBack_39 rfl rfl ?_
    refine yw_getR (r := y7) dX0_goBack_40 fX0_28 rfl (la_23 hW) ey7 ?_
    refine xw_aload_n dX0_goBack_43 rfl rfl ?_
    refine yw_getR (r := 1) dX0_goBack_44 fX0_34 rfl (la_23 hW) (lr_23_0 hW) ?_
    refine xw_iload dX0_goBack_47 rfl ?_
    exact yw_cV (As := [.int v4]) (b := 1) (st := [.ref y7, .ref a1]) dX0_goBack_49 lX0_160 kiX5_lastLetter kvX5_lastLetter rfl rfl rfl (la_1 hW) rfl (Nat.le_of_ble_eq_true rfl) rfl (xk_I k)
theorem bX0_goBack_52 {a1 Ma1 b1 nb1 b0 Mb0 y8 ny8 : Nat} {v3 v4 v5 s2 : Int32} {mc ms : Nat} {Q : xHp → Prop} (hW : xLay sh R) (ha1 : xMach sh R a1 Ma1) (hb1 : sh[b1]? = some (.inr (0, nb1))) (hb0 : xMach sh R b0 Mb0) (ey8 : R 23 8 = some y8) (hy8 : sh[y8]? = some (.inr (0, ny8)))
    (k : CV mX3_backward [.ref b0, .ref b1, .int s2, .ref y8] (sh, I, R) (fun h1 => Ex mX0_goBack 59 [.ref 23, .ref a1, xU, .int v3, .int v4, .int v5] [] h1 mc ms (xqV Q))) :
    Ex mX0_goBack 52 [.ref 23, .ref a1, xU, .int v3, .int v4, .int v5] [.int s2, .ref b1, .ref b0] (sh, I, R) mc ms (xqV Q) := by
  refine xw_aload_n dX0_goBack_52 rfl rfl ?_
  refine yw_getR (r := y8) dX0_goBack_53 fX0_31 rfl (la_23 hW) ey8 ?_
  exact yw_cV (As := [.ref b1, .int s2, .ref y8]) (b := b0) (st := []) dX0_goBack_56 lX0_91 kiX3_backward kvX3_backward rfl rfl rfl hb0.1 rfl (Nat.le_of_ble_eq_true rfl) rfl (xk_V k)
theorem bX0_goBack_59 {a1 Ma1 : Nat} {v3 v4 v5 : Int32} {mc ms : Nat} {Q : xHp → Prop} (hW : xLay sh R) (ha1 : xMach sh R a1 Ma1)
    (k : CI mX5_withoutLast [.ref 1, .int v4] (sh, I, R) (fun w h1 => Ex mX0_goBack 68 [.ref 23, .ref a1, xU, .int v3, xU, .int v5] (.int w :: []) h1 mc ms (xqV Q))) :
    Ex mX0_goBack 59 [.ref 23, .ref a1, xU, .int v3, .int v4, .int v5] [] (sh, I, R) mc ms (xqV Q) := by
  refine xw_aload_n dX0_goBack_59 rfl rfl ?_
  refine yw_getR (r := 1) dX0_goBack_60 fX0_34 rfl (la_23 hW) (lr_23_0 hW) ?_
  refine xw_iload dX0_goBack_63 rfl ?_
  refine yw_sub (lv' := [.ref 23, .ref a1, xU, .int v3, xU, .int v5]) ⟨Or.inr rfl, Or.inr rfl, Or.inl rfl, Or.inr rfl, Or.inl rfl, Or.inr rfl, trivial⟩ ?_
  exact yw_cV (As := [.int v4]) (b := 1) (st := []) dX0_goBack_65 lX0_163 kiX5_withoutLast kvX5_withoutLast rfl rfl rfl (la_1 hW) rfl (Nat.le_of_ble_eq_true rfl) rfl (xk_I k)
theorem bX0_goBack_68 {a1 Ma1 : Nat} {v3 v5 s0 : Int32} {mc ms : Nat} {Q : xHp → Prop} (hW : xLay sh R) (ha1 : xMach sh R a1 Ma1)
    (k : CV mX0_swap [.ref 23] (sh, I, R) (fun h1 => Ex mX0_goBack 74 [.ref 23, .ref a1, xU, .int v3, .int s0, .int v5] [] h1 mc ms (xqV Q))) :
    Ex mX0_goBack 68 [.ref 23, .ref a1, xU, .int v3, xU, .int v5] [.int s0] (sh, I, R) mc ms (xqV Q) := by
  refine yw_istore (lv' := [.ref 23, .ref a1, xU, .int v3, .int s0, .int v5]) dX0_goBack_68 rfl rfl rfl ?_
  refine xw_aload_n dX0_goBack_70 rfl rfl ?_
  exact yw_cV (As := []) (b := 23) (st := []) dX0_goBack_71 lX0_166 kiX0_swap kvX0_swap rfl rfl rfl (la_23 hW) rfl (Nat.le_of_ble_eq_true rfl) rfl (xk_V k)
theorem bX0_goBack_74 {a1 Ma1 : Nat} {v3 v4 v5 : Int32} {mc ms : Nat} {Q : xHp → Prop} (hW : xLay sh R) (ha1 : xMach sh R a1 Ma1)
    (k : Ex mX0_goBack 32 [.ref 23, .ref a1, xU, .int v3, .int v4, .int (v5 + nI 1)] [] (sh, I, R) mc ms (xqV Q)) :
    Ex mX0_goBack 74 [.ref 23, .ref a1, xU, .int v3, .int v4, .int v5] [] (sh, I, R) mc ms (xqV Q) := by
  refine yw_iinc (lv' := [.ref 23, .ref a1, xU, .int v3, .int v4, .int (v5 + nI 1)]) (v := nI 1) dX0_goBack_74 rfl rfl rfl rfl rfl ?_
  refine xw_goto (tgt := 32) dX0_goBack_77 (by decide) ?_
  exact k
theorem eX0_goBack {a1 : Nat} {v2 : Int32} {h : xHp} {Q : xHp → Prop} (k : Ex mX0_goBack 0 [.ref 23, .ref a1, .int v2, xU, xU, xU] [] h 0 0 (xqV Q)) : CV mX0_goBack [.ref 23, .ref a1, .int v2] h Q := k
theorem bX0_seeEnding_0 {y9 My9 : Nat} {v1 : Int32} {mc ms : Nat} {Q : xHp → Prop} (hW : xLay sh R) (ey9 : R 23 9 = some y9) (hy9 : xMach sh R y9 My9)
    (k : (((I y9 2) ≤ (I 38 8) → Q (sh, I, R)) ∧ (¬ (I y9 2) ≤ (I 38 8) → CV mX0_goBack [.ref 23, .ref y9, .int v1] (sh, I, R) (fun h1 => Ex mX0_seeEnding 26 [.ref 23, xU] [] h1 mc ms (xqV Q))))) :
    Ex mX0_seeEnding 0 [.ref 23, .int v1] [] (sh, I, R) mc ms (xqV Q) := by
  refine xw_aload_n dX0_seeEnding_0 rfl rfl ?_
  refine yw_getR (r := 38) dX0_seeEnding_1 fX0_41 rfl (la_23 hW) (lr_23_1 hW) ?_
  refine yw_getI (v := I 38 8) dX0_seeEnding_4 fX0_68 rfl hW.2.2.2.2.1.1 rfl ?_
  refine xw_aload_n dX0_seeEnding_7 rfl rfl ?_
  refine yw_getR (r := y9) dX0_seeEnding_8 fX0_53 rfl (la_23 hW) ey9 ?_
  refine yw_getI (v := I y9 2) dX0_seeEnding_11 fX0_57 rfl hy9.1 rfl ?_
  refine xw_icge (tgt := 38) dX0_seeEnding_14 (by decide) (fun c => ?_) (fun c => ?_)
  · replace k := k.1 c
    exact yw_vret dX0_seeEnding_38 rfl k
  · replace k := k.2 c
    refine xw_aload_n dX0_seeEnding_17 rfl rfl ?_
    refine xw_aload_n dX0_seeEnding_18 rfl rfl ?_
    refine yw_getR (r := y9) dX0_seeEnding_19 fX0_53 rfl (la_23 hW) ey9 ?_
    refine xw_iload_n dX0_seeEnding_22 rfl rfl ?_
    refine yw_sub (lv' := [.ref 23, xU]) ⟨Or.inr rfl, Or.inl rfl, trivial⟩ ?_
    exact yw_cV (As := [.ref y9, .int v1]) (b := 23) (st := []) dX0_seeEnding_23 lX0_69 kiX0_goBack kvX0_goBack rfl rfl rfl (la_23 hW) rfl (Nat.le_of_ble_eq_true rfl) rfl (xk_V k)
theorem bX0_seeEnding_26 {y7 ny7 : Nat} {mc ms : Nat} {Q : xHp → Prop} (hW : xLay sh R) (ey7 : R 23 7 = some y7) (hy7 : sh[y7]? = some (.inr (0, ny7)))
    (k : CI mX7_admit [.ref 38, .ref y7] (sh, I, R) (fun w h1 => Ex mX0_seeEnding 37 [xU, xU] (.int w :: []) h1 mc ms (xqV Q))) :
    Ex mX0_seeEnding 26 [.ref 23, xU] [] (sh, I, R) mc ms (xqV Q) := by
  refine xw_aload_n dX0_seeEnding_26 rfl rfl ?_
  refine yw_getR (r := 38) dX0_seeEnding_27 fX0_41 rfl (la_23 hW) (lr_23_1 hW) ?_
  refine xw_aload_n dX0_seeEnding_30 rfl rfl ?_
  refine yw_getR (r := y7) dX0_seeEnding_31 fX0_28 rfl (la_23 hW) ey7 ?_
  refine yw_sub (lv' := [xU, xU]) ⟨Or.inl rfl, Or.inl rfl, trivial⟩ ?_
  exact yw_cV (As := [.ref y7]) (b := 38) (st := []) dX0_seeEnding_34 lX0_73 kiX7_admit kvX7_admit rfl rfl rfl hW.2.2.2.2.1.1 rfl (Nat.le_of_ble_eq_true rfl) rfl (xk_I k)
theorem bX0_seeEnding_37 {s0 : Int32} {mc ms : Nat} {Q : xHp → Prop} (hW : xLay sh R) 
    (k : Q (sh, I, R)) :
    Ex mX0_seeEnding 37 [xU, xU] [.int s0] (sh, I, R) mc ms (xqV Q) := by
  refine xw_pop dX0_seeEnding_37 rfl ?_
  exact yw_vret dX0_seeEnding_38 rfl k
theorem eX0_seeEnding {v1 : Int32} {h : xHp} {Q : xHp → Prop} (k : Ex mX0_seeEnding 0 [.ref 23, .int v1] [] h 0 0 (xqV Q)) : CV mX0_seeEnding [.ref 23, .int v1] h Q := k
theorem bX0_goForth_0 {v1 : Int32} {mc ms : Nat} {Q : xHp → Prop} (hW : xLay sh R) 
    (k : CI mX5_lengthOf [.ref 1, .int v1] (sh, I, R) (fun w h1 => Ex mX0_goForth 8 [.ref 23, .int v1, xU, xU, xU] (.int w :: []) h1 mc ms (xqV Q))) :
    Ex mX0_goForth 0 [.ref 23, .int v1, xU, xU, xU] [] (sh, I, R) mc ms (xqV Q) := by
  refine xw_aload_n dX0_goForth_0 rfl rfl ?_
  refine yw_getR (r := 1) dX0_goForth_1 fX0_34 rfl (la_23 hW) (lr_23_0 hW) ?_
  refine xw_iload_n dX0_goForth_4 rfl rfl ?_
  exact yw_cV (As := [.int v1]) (b := 1) (st := []) dX0_goForth_5 lX0_156 kiX5_lengthOf kvX5_lengthOf rfl rfl rfl (la_1 hW) rfl (Nat.le_of_ble_eq_true rfl) rfl (xk_I k)
theorem bX0_goForth_8 {v1 s0 : Int32} {mc ms : Nat} {Q : xHp → Prop} (hW : xLay sh R) 
    (k : Ex mX0_goForth 16 [.ref 23, xU, .int s0, .int v1, .int (s0 - (nI 1))] [] (sh, I, R) mc ms (xqV Q)) :
    Ex mX0_goForth 8 [.ref 23, .int v1, xU, xU, xU] [.int s0] (sh, I, R) mc ms (xqV Q) := by
  refine yw_istore_n (lv' := [.ref 23, .int v1, .int s0, xU, xU]) dX0_goForth_8 rfl rfl rfl rfl ?_
  refine xw_iload_n dX0_goForth_9 rfl rfl ?_
  refine yw_istore_n (lv' := [.ref 23, .int v1, .int s0, .int v1, xU]) dX0_goForth_10 rfl rfl rfl rfl ?_
  refine xw_iload_n dX0_goForth_11 rfl rfl ?_
  refine xw_iconst (v := nI 1) dX0_goForth_12 rfl ?_
  refine xw_isub dX0_goForth_13 ?_
  refine yw_istore (lv' := [.ref 23, .int v1, .int s0, .int v1, .int (s0 - (nI 1))]) dX0_goForth_14 rfl rfl rfl ?_
  exact yw_sub (lv' := [.ref 23, xU, .int s0, .int v1, .int (s0 - (nI 1))]) ⟨Or.inr rfl, Or.inl rfl, Or.inr rfl, Or.inr rfl, Or.inr rfl, trivial⟩ k
theorem bX0_goForth_16 {y9 My9 y7 ny7 : Nat} {v2 v3 v4 : Int32} {mc ms : Nat} {Q : xHp → Prop} (hW : xLay sh R) (ey9 : R 23 9 = some y9) (hy9 : xMach sh R y9 My9) (ey7 : R 23 7 = some y7) (hy7 : sh[y7]? = some (.inr (0, ny7)))
    (k : ((v4 < 0 → ((¬ (nI 0) < 0 ∧ ¬ (nI 0) < 0 ∧ ¬ (I y9 2) < 0) ∧ (nI 0).toNatClampNeg + (I y9 2).toNatClampNeg ≤ My9 ∧ (nI 0).toNatClampNeg + (I y9 2).toNatClampNeg ≤ ny7) ∧ Ex mX0_goForth 77 [.ref 23, xU, .int v2, xU, .int (nI 0)] [] (sh, (xa I y7 (va_cpy (I (y9 + 1)) (I y7) (nI 0).toNatClampNeg (nI 0).toNatClampNeg (I y9 2).toNatClampNeg)), R) mc ms (xqV Q)) ∧ (¬ v4 < 0 → CI mX5_lastLetter [.ref 1, .int v3] (sh, I, R) (fun w h1 => Ex mX0_goForth 35 [.ref 23, xU, .int v2, .int v3, .int v4] (.int w :: [.int v4, .ref 35]) h1 mc ms (xqV Q))))) :
    Ex mX0_goForth 16 [.ref 23, xU, .int v2, .int v3, .int v4] [] (sh, I, R) mc ms (xqV Q) := by
  refine xw_iload dX0_goForth_16 rfl ?_
  refine xw_iflt (tgt := 51) dX0_goForth_18 (by decide) (fun c => ?_) (fun c => ?_)
  · replace k := k.1 c
    refine xw_aload_n dX0_goForth_51 rfl rfl ?_
    refine yw_getR (r := y9) dX0_goForth_52 fX0_53 rfl (la_23 hW) ey9 ?_
    refine yw_getR (r := (y9 + 1)) dX0_goForth_55 fX0_119 rfl hy9.1 hy9.2.2.2.2.2.1 ?_
    refine xw_iconst (v := nI 0) dX0_goForth_58 rfl ?_
    refine xw_aload_n dX0_goForth_59 rfl rfl ?_
    refine yw_getR (r := y7) dX0_goForth_60 fX0_28 rfl (la_23 hW) ey7 ?_
    refine xw_iconst (v := nI 0) dX0_goForth_63 rfl ?_
    refine xw_aload_n dX0_goForth_64 rfl rfl ?_
    refine yw_getR (r := y9) dX0_goForth_65 fX0_53 rfl (la_23 hW) ey9 ?_
    refine yw_getI (v := I y9 2) dX0_goForth_68 fX0_57 rfl hy9.1 rfl ?_
    obtain ⟨k0, k⟩ := k
    refine yw_acopy dX0_goForth_71 lX0_113 hy9.2.1 hy7 rfl rfl (Nat.le_of_ble_eq_true rfl) k0 ?_
    refine xw_iconst (v := nI 0) dX0_goForth_74 rfl ?_
    refine yw_istore (lv' := [.ref 23, xU, .int v2, .int v3, .int (nI 0)]) dX0_goForth_75 rfl rfl rfl ?_
    exact yw_sub (lv' := [.ref 23, xU, .int v2, xU, .int (nI 0)]) ⟨Or.inr rfl, Or.inl rfl, Or.inr rfl, Or.inl rfl, Or.inr rfl, trivial⟩ k
  · replace k := k.2 c
    refine xw_aload_n dX0_goForth_21 rfl rfl ?_
    refine yw_getR (r := 35) dX0_goForth_22 fX0_25 rfl (la_23 hW) (lr_23_6 hW) ?_
    refine xw_iload dX0_goForth_25 rfl ?_
    refine xw_aload_n dX0_goForth_27 rfl rfl ?_
    refine yw_getR (r := 1) dX0_goForth_28 fX0_34 rfl (la_23 hW) (lr_23_0 hW) ?_
    refine xw_iload_n dX0_goForth_31 rfl rfl ?_
    exact yw_cV (As := [.int v3]) (b := 1) (st := [.int v4, .ref 35]) dX0_goForth_32 lX0_160 kiX5_lastLetter kvX5_lastLetter rfl rfl rfl (la_1 hW) rfl (Nat.le_of_ble_eq_true rfl) rfl (xk_I k)
theorem bX0_goForth_77 {y9 My9 y7 ny7 y8 ny8 : Nat} {v2 v4 : Int32} {mc ms : Nat} {Q : xHp → Prop} (hW : xLay sh R) (ey9 : R 23 9 = some y9) (hy9 : xMach sh R y9 My9) (ey7 : R 23 7 = some y7) (hy7 : sh[y7]? = some (.inr (0, ny7))) (ey8 : R 23 8 = some y8) (hy8 : sh[y8]? = some (.inr (0, ny8)))
    (k : ((v2 ≤ v4 → Q (sh, I, R)) ∧ (¬ v2 ≤ v4 → vp_in v4 12 ∧ CV mX3_forward [.ref y9, .ref y7, .int (I 35 v4.toNatClampNeg), .ref y8] (sh, I, R) (fun h1 => Ex mX0_goForth 105 [.ref 23, xU, .int v2, xU, .int v4] [] h1 mc ms (xqV Q))))) :
    Ex mX0_goForth 77 [.ref 23, xU, .int v2, xU, .int v4] [] (sh, I, R) mc ms (xqV Q) := by
  refine xw_iload dX0_goForth_77 rfl ?_
  refine xw_iload_n dX0_goForth_79 rfl rfl ?_
  refine xw_icge (tgt := 115) dX0_goForth_80 (by decide) (fun c => ?_) (fun c => ?_)
  · replace k := k.1 c
    exact yw_vret dX0_goForth_115 rfl k
  · replace k := k.2 c
    refine xw_aload_n dX0_goForth_83 rfl rfl ?_
    refine yw_getR (r := y9) dX0_goForth_84 fX0_53 rfl (la_23 hW) ey9 ?_
    refine xw_aload_n dX0_goForth_87 rfl rfl ?_
    refine yw_getR (r := y7) dX0_goForth_88 fX0_28 rfl (la_23 hW) ey7 ?_
    refine xw_aload_n dX0_goForth_91 rfl rfl ?_
    refine yw_getR (r := 35) dX0_goForth_92 fX0_25 rfl (la_23 hW) (lr_23_6 hW) ?_
    refine xw_iload dX0_goForth_95 rfl ?_
    obtain ⟨k0, k⟩ := k
    refine yw_iaload (v := I 35 v4.toNatClampNeg) dX0_goForth_97 (la_35 hW) k0 rfl ?_
    refine xw_aload_n dX0_goForth_98 rfl rfl ?_
    refine yw_getR (r := y8) dX0_goForth_99 fX0_31 rfl (la_23 hW) ey8 ?_
    exact yw_cV (As := [.ref y7, .int (I 35 v4.toNatClampNeg), .ref y8]) (b := y9) (st := []) dX0_goForth_102 lX0_122 kiX3_forward kvX3_forward rfl rfl rfl hy9.1 rfl (Nat.le_of_ble_eq_true rfl) rfl (xk_V k)
theorem bX0_goForth_105 {v2 v4 : Int32} {mc ms : Nat} {Q : xHp → Prop} (hW : xLay sh R) 
    (k : CV mX0_swap [.ref 23] (sh, I, R) (fun h1 => Ex mX0_goForth 109 [.ref 23, xU, .int v2, xU, .int v4] [] h1 mc ms (xqV Q))) :
    Ex mX0_goForth 105 [.ref 23, xU, .int v2, xU, .int v4] [] (sh, I, R) mc ms (xqV Q) := by
  refine xw_aload_n dX0_goForth_105 rfl rfl ?_
  exact yw_cV (As := []) (b := 23) (st := []) dX0_goForth_106 lX0_166 kiX0_swap kvX0_swap rfl rfl rfl (la_23 hW) rfl (Nat.le_of_ble_eq_true rfl) rfl (xk_V k)
theorem bX0_goForth_109 {v2 v4 : Int32} {mc ms : Nat} {Q : xHp → Prop} (hW : xLay sh R) 
    (k : Ex mX0_goForth 77 [.ref 23, xU, .int v2, xU, .int (v4 + nI 1)] [] (sh, I, R) mc ms (xqV Q)) :
    Ex mX0_goForth 109 [.ref 23, xU, .int v2, xU, .int v4] [] (sh, I, R) mc ms (xqV Q) := by
  refine yw_iinc (lv' := [.ref 23, xU, .int v2, xU, .int (v4 + nI 1)]) (v := nI 1) dX0_goForth_109 rfl rfl rfl rfl rfl ?_
  refine xw_goto (tgt := 77) dX0_goForth_112 (by decide) ?_
  exact k
theorem bX0_goForth_35 {v2 v3 v4 s2 s1 : Int32} {mc ms : Nat} {Q : xHp → Prop} (hW : xLay sh R) 
    (k : vp_in s1 12 ∧ CI mX5_withoutLast [.ref 1, .int v3] (sh, (xi I 35 s1.toNatClampNeg s2), R) (fun w h1 => Ex mX0_goForth 44 [.ref 23, xU, .int v2, xU, .int v4] (.int w :: []) h1 mc ms (xqV Q))) :
    Ex mX0_goForth 35 [.ref 23, xU, .int v2, .int v3, .int v4] [.int s2, .int s1, .ref 35] (sh, I, R) mc ms (xqV Q) := by
  obtain ⟨k0, k⟩ := k
  refine yw_iastore dX0_goForth_35 (la_35 hW) k0 ?_
  refine xw_aload_n dX0_goForth_36 rfl rfl ?_
  refine yw_getR (r := 1) dX0_goForth_37 fX0_34 rfl (la_23 hW) (lr_23_0 hW) ?_
  refine xw_iload_n dX0_goForth_40 rfl rfl ?_
  refine yw_sub (lv' := [.ref 23, xU, .int v2, xU, .int v4]) ⟨Or.inr rfl, Or.inl rfl, Or.inr rfl, Or.inl rfl, Or.inr rfl, trivial⟩ ?_
  exact yw_cV (As := [.int v3]) (b := 1) (st := []) dX0_goForth_41 lX0_163 kiX5_withoutLast kvX5_withoutLast rfl rfl rfl (la_1 hW) rfl (Nat.le_of_ble_eq_true rfl) rfl (xk_I k)
theorem bX0_goForth_44 {v2 v4 s0 : Int32} {mc ms : Nat} {Q : xHp → Prop} (hW : xLay sh R) 
    (k : Ex mX0_goForth 16 [.ref 23, xU, .int v2, .int s0, .int (v4 + (-1))] [] (sh, I, R) mc ms (xqV Q)) :
    Ex mX0_goForth 44 [.ref 23, xU, .int v2, xU, .int v4] [.int s0] (sh, I, R) mc ms (xqV Q) := by
  refine yw_istore_n (lv' := [.ref 23, xU, .int v2, .int s0, .int v4]) dX0_goForth_44 rfl rfl rfl rfl ?_
  refine yw_iinc (lv' := [.ref 23, xU, .int v2, .int s0, .int (v4 + (-1))]) (v := (-1)) dX0_goForth_45 rfl rfl rfl rfl rfl ?_
  refine xw_goto (tgt := 16) dX0_goForth_48 (by decide) ?_
  exact k
theorem eX0_goForth {v1 : Int32} {h : xHp} {Q : xHp → Prop} (k : Ex mX0_goForth 0 [.ref 23, .int v1, xU, xU, xU] [] h 0 0 (xqV Q)) : CV mX0_goForth [.ref 23, .int v1] h Q := k
theorem bX0_offer_0 {v1 : Int32} {mc ms : Nat} {Q : xHp → Prop} (hW : xLay sh R) 
    (k : CV mX0_goForth [.ref 23, .int v1] (sh, I, R) (fun h1 => Ex mX0_offer 5 [.ref 23, .int v1] [] h1 mc ms (xqV Q))) :
    Ex mX0_offer 0 [.ref 23, .int v1] [] (sh, I, R) mc ms (xqV Q) := by
  refine xw_aload_n dX0_offer_0 rfl rfl ?_
  refine xw_iload_n dX0_offer_1 rfl rfl ?_
  exact yw_cV (As := [.int v1]) (b := 23) (st := []) dX0_offer_2 lX0_104 kiX0_goForth kvX0_goForth rfl rfl rfl (la_23 hW) rfl (Nat.le_of_ble_eq_true rfl) rfl (xk_V k)
theorem bX0_offer_5 {v1 : Int32} {mc ms : Nat} {Q : xHp → Prop} (hW : xLay sh R) 
    (k : CV mX0_offerHere [.ref 23, .int v1] (sh, I, R) (fun h1 => Ex mX0_offer 10 [xU, xU] [] h1 mc ms (xqV Q))) :
    Ex mX0_offer 5 [.ref 23, .int v1] [] (sh, I, R) mc ms (xqV Q) := by
  refine xw_aload_n dX0_offer_5 rfl rfl ?_
  refine xw_iload_n dX0_offer_6 rfl rfl ?_
  refine yw_sub (lv' := [xU, xU]) ⟨Or.inl rfl, Or.inl rfl, trivial⟩ ?_
  exact yw_cV (As := [.int v1]) (b := 23) (st := []) dX0_offer_7 lX0_107 kiX0_offerHere kvX0_offerHere rfl rfl rfl (la_23 hW) rfl (Nat.le_of_ble_eq_true rfl) rfl (xk_V k)
theorem bX0_offer_10 {mc ms : Nat} {Q : xHp → Prop} (hW : xLay sh R) 
    (k : Q (sh, I, R)) :
    Ex mX0_offer 10 [xU, xU] [] (sh, I, R) mc ms (xqV Q) := by
  exact yw_vret dX0_offer_10 rfl k
theorem eX0_offer {v1 : Int32} {h : xHp} {Q : xHp → Prop} (k : Ex mX0_offer 0 [.ref 23, .int v1] [] h 0 0 (xqV Q)) : CV mX0_offer [.ref 23, .int v1] h Q := k
theorem bX8_unlikeWords_0 {q : Nat} {v1 : Int32} {mc ms : Nat} {Q : Int32 → xHp → Prop} (hW : xLay sh R) (hq : xStudy sh R q)
    (k : ((¬ (I q 5) = 0 → Q ((I q 6) + ((I q 5) * ((v1 * (I q 6)) - ((I q 6) - (nI 1))))) (sh, I, R)) ∧ ((I q 5) = 0 → Q (nI 0) (sh, I, R)))) :
    Ex mX8_unlikeWords 0 [.ref q, .int v1] [] (sh, I, R) mc ms (xqI Q) := by
  refine xw_aload_n dX8_unlikeWords_0 rfl rfl ?_
  refine yw_getI (v := I q 5) dX8_unlikeWords_1 fX8_37 rfl hq.1 rfl ?_
  refine xw_ifne (tgt := 9) dX8_unlikeWords_4 (by decide) (fun c => ?_) (fun c => ?_)
  · replace k := k.1 c
    refine xw_aload_n dX8_unlikeWords_9 rfl rfl ?_
    refine yw_getI (v := I q 6) dX8_unlikeWords_10 fX8_41 rfl hq.1 rfl ?_
    refine xw_aload_n dX8_unlikeWords_13 rfl rfl ?_
    refine yw_getI (v := I q 5) dX8_unlikeWords_14 fX8_37 rfl hq.1 rfl ?_
    refine xw_iload_n dX8_unlikeWords_17 rfl rfl ?_
    refine xw_aload_n dX8_unlikeWords_18 rfl rfl ?_
    refine yw_getI (v := I q 6) dX8_unlikeWords_19 fX8_41 rfl hq.1 rfl ?_
    refine xw_imul dX8_unlikeWords_22 ?_
    refine xw_aload_n dX8_unlikeWords_23 rfl rfl ?_
    refine yw_getI (v := I q 6) dX8_unlikeWords_24 fX8_41 rfl hq.1 rfl ?_
    refine xw_iconst (v := nI 1) dX8_unlikeWords_27 rfl ?_
    refine xw_isub dX8_unlikeWords_28 ?_
    refine xw_isub dX8_unlikeWords_29 ?_
    refine xw_imul dX8_unlikeWords_30 ?_
    refine xw_iadd dX8_unlikeWords_31 ?_
    exact yw_iret dX8_unlikeWords_32 rfl k
  · replace k := k.2 c
    refine xw_iconst (v := nI 0) dX8_unlikeWords_7 rfl ?_
    exact yw_iret dX8_unlikeWords_8 rfl k
theorem eX8_unlikeWords {q : Nat} {v1 : Int32} {h : xHp} {Q : Int32 → xHp → Prop} (k : Ex mX8_unlikeWords 0 [.ref q, .int v1] [] h 0 0 (xqI Q)) : CI mX8_unlikeWords [.ref q, .int v1] h Q := k
theorem bX0_valueOf_0 {a1 Ma1 : Nat} {v2 : Int32} {mc ms : Nat} {Q : Int32 → xHp → Prop} (hW : xLay sh R) (ha1 : xMach sh R a1 Ma1)
    (k : CV mX0_goBack [.ref 23, .ref a1, .int v2] (sh, I, R) (fun h1 => Ex mX0_valueOf 6 [.ref 23, .ref a1, xU] [] h1 mc ms (xqI Q))) :
    Ex mX0_valueOf 0 [.ref 23, .ref a1, .int v2] [] (sh, I, R) mc ms (xqI Q) := by
  refine xw_aload_n dX0_valueOf_0 rfl rfl ?_
  refine xw_aload_n dX0_valueOf_1 rfl rfl ?_
  refine xw_iload_n dX0_valueOf_2 rfl rfl ?_
  refine yw_sub (lv' := [.ref 23, .ref a1, xU]) ⟨Or.inr rfl, Or.inr rfl, Or.inl rfl, trivial⟩ ?_
  exact yw_cV (As := [.ref a1, .int v2]) (b := 23) (st := []) dX0_valueOf_3 lX0_69 kiX0_goBack kvX0_goBack rfl rfl rfl (la_23 hW) rfl (Nat.le_of_ble_eq_true rfl) rfl (xk_V k)
theorem bX0_valueOf_6 {a1 Ma1 y7 ny7 : Nat} {mc ms : Nat} {Q : Int32 → xHp → Prop} (hW : xLay sh R) (ha1 : xMach sh R a1 Ma1) (ey7 : R 23 7 = some y7) (hy7 : sh[y7]? = some (.inr (0, ny7)))
    (k : CI mX3_product [.ref a1, .ref (a1 + 1), .ref y7] (sh, I, R) (fun w h1 => Ex mX0_valueOf 18 [xU, xU, xU] (.int w :: []) h1 mc ms (xqI Q))) :
    Ex mX0_valueOf 6 [.ref 23, .ref a1, xU] [] (sh, I, R) mc ms (xqI Q) := by
  refine xw_aload_n dX0_valueOf_6 rfl rfl ?_
  refine xw_aload_n dX0_valueOf_7 rfl rfl ?_
  refine yw_getR (r := (a1 + 1)) dX0_valueOf_8 fX0_119 rfl ha1.1 ha1.2.2.2.2.2.1 ?_
  refine xw_aload_n dX0_valueOf_11 rfl rfl ?_
  refine yw_getR (r := y7) dX0_valueOf_12 fX0_28 rfl (la_23 hW) ey7 ?_
  refine yw_sub (lv' := [xU, xU, xU]) ⟨Or.inl rfl, Or.inl rfl, Or.inl rfl, trivial⟩ ?_
  exact yw_cV (As := [.ref (a1 + 1), .ref y7]) (b := a1) (st := []) dX0_valueOf_15 lX0_135 kiX3_product kvX3_product rfl rfl rfl ha1.1 rfl (Nat.le_of_ble_eq_true rfl) rfl (xk_I k)
theorem bX0_valueOf_18 {s0 : Int32} {mc ms : Nat} {Q : Int32 → xHp → Prop} (hW : xLay sh R) 
    (k : Q s0 (sh, I, R)) :
    Ex mX0_valueOf 18 [xU, xU, xU] [.int s0] (sh, I, R) mc ms (xqI Q) := by
  exact yw_iret dX0_valueOf_18 rfl k
theorem eX0_valueOf {a1 : Nat} {v2 : Int32} {h : xHp} {Q : Int32 → xHp → Prop} (k : Ex mX0_valueOf 0 [.ref 23, .ref a1, .int v2] [] h 0 0 (xqI Q)) : CI mX0_valueOf [.ref 23, .ref a1, .int v2] h Q := k
theorem bX0_seeStates_0 {a1 Ma1 : Nat} {mc ms : Nat} {Q : xHp → Prop} (hW : xLay sh R) (ha1 : xMach sh R a1 Ma1)
    (k : CV mX0_open [.ref 23, .ref a1] (sh, I, R) (fun h1 => Ex mX0_seeStates 5 [.ref 23, xU, xU] [] h1 mc ms (xqV Q))) :
    Ex mX0_seeStates 0 [.ref 23, .ref a1, xU] [] (sh, I, R) mc ms (xqV Q) := by
  refine xw_aload_n dX0_seeStates_0 rfl rfl ?_
  refine xw_aload_n dX0_seeStates_1 rfl rfl ?_
  refine yw_sub (lv' := [.ref 23, xU, xU]) ⟨Or.inr rfl, Or.inl rfl, Or.inl rfl, trivial⟩ ?_
  exact yw_cV (As := [.ref a1]) (b := 23) (st := []) dX0_seeStates_2 lX0_77 kiX0_open kvX0_open rfl rfl rfl (la_23 hW) rfl (Nat.le_of_ble_eq_true rfl) rfl (xk_V k)
theorem bX0_seeStates_5 {mc ms : Nat} {Q : xHp → Prop} (hW : xLay sh R) 
    (k : Ex mX0_seeStates 7 [.ref 23, xU, .int (nI 0)] [] (sh, I, R) mc ms (xqV Q)) :
    Ex mX0_seeStates 5 [.ref 23, xU, xU] [] (sh, I, R) mc ms (xqV Q) := by
  refine xw_iconst (v := nI 0) dX0_seeStates_5 rfl ?_
  refine yw_istore_n (lv' := [.ref 23, xU, .int (nI 0)]) dX0_seeStates_6 rfl rfl rfl rfl ?_
  exact k
theorem bX0_seeStates_7 {y9 My9 y8 ny8 : Nat} {v2 : Int32} {mc ms : Nat} {Q : xHp → Prop} (hW : xLay sh R) (ey9 : R 23 9 = some y9) (hy9 : xMach sh R y9 My9) (ey8 : R 23 8 = some y8) (hy8 : sh[y8]? = some (.inr (0, ny8)))
    (k : (((I y9 2) ≤ v2 → CV mX0_shut [.ref 23] (sh, I, R) (fun h1 => Ex mX0_seeStates 55 [xU, xU, xU] [] h1 mc ms (xqV Q))) ∧ (¬ (I y9 2) ≤ v2 → CV mJ7_fill_53178 [.ref y8, .int (nI 0)] (sh, I, R) (fun h1 => Ex mX0_seeStates 26 [.ref 23, xU, .int v2] [] h1 mc ms (xqV Q))))) :
    Ex mX0_seeStates 7 [.ref 23, xU, .int v2] [] (sh, I, R) mc ms (xqV Q) := by
  refine xw_iload_n dX0_seeStates_7 rfl rfl ?_
  refine xw_aload_n dX0_seeStates_8 rfl rfl ?_
  refine yw_getR (r := y9) dX0_seeStates_9 fX0_53 rfl (la_23 hW) ey9 ?_
  refine yw_getI (v := I y9 2) dX0_seeStates_12 fX0_57 rfl hy9.1 rfl ?_
  refine xw_icge (tgt := 51) dX0_seeStates_15 (by decide) (fun c => ?_) (fun c => ?_)
  · replace k := k.1 c
    refine xw_aload_n dX0_seeStates_51 rfl rfl ?_
    refine yw_sub (lv' := [xU, xU, xU]) ⟨Or.inl rfl, Or.inl rfl, Or.inl rfl, trivial⟩ ?_
    exact yw_cV (As := []) (b := 23) (st := []) dX0_seeStates_52 lX0_95 kiX0_shut kvX0_shut rfl rfl rfl (la_23 hW) rfl (Nat.le_of_ble_eq_true rfl) rfl (xk_V k)
  · replace k := k.2 c
    refine xw_aload_n dX0_seeStates_18 rfl rfl ?_
    refine yw_getR (r := y8) dX0_seeStates_19 fX0_31 rfl (la_23 hW) ey8 ?_
    refine xw_iconst (v := nI 0) dX0_seeStates_22 rfl ?_
    exact yw_cS (As := [.ref y8, .int (nI 0)]) (st := []) dX0_seeStates_23 lX0_98 ksJ7_fill_53178 rfl rfl rfl (Nat.le_of_ble_eq_true rfl) rfl (xk_V k)
theorem bX0_seeStates_55 {mc ms : Nat} {Q : xHp → Prop} (hW : xLay sh R) 
    (k : Q (sh, I, R)) :
    Ex mX0_seeStates 55 [xU, xU, xU] [] (sh, I, R) mc ms (xqV Q) := by
  exact yw_vret dX0_seeStates_55 rfl k
theorem bX0_seeStates_26 {y8 ny8 : Nat} {v2 : Int32} {mc ms : Nat} {Q : xHp → Prop} (hW : xLay sh R) (ey8 : R 23 8 = some y8) (hy8 : sh[y8]? = some (.inr (0, ny8)))
    (k : vp_in v2 ny8 ∧ CI mX7_admit [.ref 38, .ref y8] (sh, (xi I y8 v2.toNatClampNeg (nI 1)), R) (fun w h1 => Ex mX0_seeStates 44 [.ref 23, xU, .int v2] (.int w :: []) h1 mc ms (xqV Q))) :
    Ex mX0_seeStates 26 [.ref 23, xU, .int v2] [] (sh, I, R) mc ms (xqV Q) := by
  refine xw_aload_n dX0_seeStates_26 rfl rfl ?_
  refine yw_getR (r := y8) dX0_seeStates_27 fX0_31 rfl (la_23 hW) ey8 ?_
  refine xw_iload_n dX0_seeStates_30 rfl rfl ?_
  refine xw_iconst (v := nI 1) dX0_seeStates_31 rfl ?_
  obtain ⟨k0, k⟩ := k
  refine yw_iastore dX0_seeStates_32 hy8 k0 ?_
  refine xw_aload_n dX0_seeStates_33 rfl rfl ?_
  refine yw_getR (r := 38) dX0_seeStates_34 fX0_41 rfl (la_23 hW) (lr_23_1 hW) ?_
  refine xw_aload_n dX0_seeStates_37 rfl rfl ?_
  refine yw_getR (r := y8) dX0_seeStates_38 fX0_31 rfl (la_23 hW) ey8 ?_
  exact yw_cV (As := [.ref y8]) (b := 38) (st := []) dX0_seeStates_41 lX0_73 kiX7_admit kvX7_admit rfl rfl rfl hW.2.2.2.2.1.1 rfl (Nat.le_of_ble_eq_true rfl) rfl (xk_I k)
theorem bX0_seeStates_44 {v2 s0 : Int32} {mc ms : Nat} {Q : xHp → Prop} (hW : xLay sh R) 
    (k : Ex mX0_seeStates 7 [.ref 23, xU, .int (v2 + nI 1)] [] (sh, I, R) mc ms (xqV Q)) :
    Ex mX0_seeStates 44 [.ref 23, xU, .int v2] [.int s0] (sh, I, R) mc ms (xqV Q) := by
  refine xw_pop dX0_seeStates_44 rfl ?_
  refine yw_iinc (lv' := [.ref 23, xU, .int (v2 + nI 1)]) (v := nI 1) dX0_seeStates_45 rfl rfl rfl rfl rfl ?_
  refine xw_goto (tgt := 7) dX0_seeStates_48 (by decide) ?_
  exact k
theorem eX0_seeStates {a1 : Nat} {h : xHp} {Q : xHp → Prop} (k : Ex mX0_seeStates 0 [.ref 23, .ref a1, xU] [] h 0 0 (xqV Q)) : CV mX0_seeStates [.ref 23, .ref a1] h Q := k
theorem bX1_walkHeads_0 {a1 Ma1 : Nat} {v2 : Int32} {mc ms : Nat} {Q : xHp → Prop} (hW : xLay sh R) (ha1 : xMach sh R a1 Ma1)
    (k : vp_in (nI 0) 40 ∧ ((¬ (nI 0) < 0 ∧ ¬ (nI 0) < 0 ∧ ¬ (I a1 2) < 0) ∧ (nI 0).toNatClampNeg + (I a1 2).toNatClampNeg ≤ Ma1 ∧ (nI 0).toNatClampNeg + (I a1 2).toNatClampNeg ≤ 4) ∧ Ex mX1_walkHeads 21 [.ref 86, .ref a1, .int v2, .int (nI 1)] [] (sh, (xa I (87 + 1 + (nI 0).toNatClampNeg) (va_cpy (I (a1 + 1)) (I (87 + 1 + (nI 0).toNatClampNeg)) (nI 0).toNatClampNeg (nI 0).toNatClampNeg (I a1 2).toNatClampNeg)), R) mc ms (xqV Q)) :
    Ex mX1_walkHeads 0 [.ref 86, .ref a1, .int v2, xU] [] (sh, I, R) mc ms (xqV Q) := by
  refine xw_aload_n dX1_walkHeads_0 rfl rfl ?_
  refine yw_getR (r := (a1 + 1)) dX1_walkHeads_1 fX1_55 rfl ha1.1 ha1.2.2.2.2.2.1 ?_
  refine xw_iconst (v := nI 0) dX1_walkHeads_4 rfl ?_
  refine xw_aload_n dX1_walkHeads_5 rfl rfl ?_
  refine yw_getR (r := 87) dX1_walkHeads_6 fX1_13 rfl (la_86 hW) (lr_86_1 hW) ?_
  refine xw_iconst (v := nI 0) dX1_walkHeads_9 rfl ?_
  obtain ⟨kk1, k⟩ := k
  refine yw_aaload (r := (87 + 1 + (nI 0).toNatClampNeg)) dX1_walkHeads_10 hW.2.2.2.2.2.2.2.2.2.2.2.2.1.1 (by decide) kk1 (hW.2.2.2.2.2.2.2.2.2.2.2.2.1.2 _ (vp_lt kk1)).1 ?_
  refine xw_iconst (v := nI 0) dX1_walkHeads_11 rfl ?_
  refine xw_aload_n dX1_walkHeads_12 rfl rfl ?_
  refine yw_getI (v := I a1 2) dX1_walkHeads_13 fX1_59 rfl ha1.1 rfl ?_
  obtain ⟨k0, k⟩ := k
  refine yw_acopy dX1_walkHeads_16 lX1_62 ha1.2.1 (hW.2.2.2.2.2.2.2.2.2.2.2.2.1.2 _ (vp_lt kk1)).2 rfl rfl (Nat.le_of_ble_eq_true rfl) k0 ?_
  refine xw_iconst (v := nI 1) dX1_walkHeads_19 rfl ?_
  refine yw_istore_n (lv' := [.ref 86, .ref a1, .int v2, .int (nI 1)]) dX1_walkHeads_20 rfl rfl rfl rfl ?_
  exact k
theorem bX1_walkHeads_21 {a1 Ma1 : Nat} {v2 v3 : Int32} {mc ms : Nat} {Q : xHp → Prop} (hW : xLay sh R) (ha1 : xMach sh R a1 Ma1)
    (k : ((v2 ≤ v3 → Q (sh, I, R)) ∧ (¬ v2 ≤ v3 → CI mX5_withoutLast [.ref 1, .int v3] (sh, I, R) (fun w h1 => Ex mX1_walkHeads 39 [.ref 86, .ref a1, .int v2, .int v3] (.int w :: [.ref 87, .ref a1]) h1 mc ms (xqV Q))))) :
    Ex mX1_walkHeads 21 [.ref 86, .ref a1, .int v2, .int v3] [] (sh, I, R) mc ms (xqV Q) := by
  refine xw_iload_n dX1_walkHeads_21 rfl rfl ?_
  refine xw_iload_n dX1_walkHeads_22 rfl rfl ?_
  refine xw_icge (tgt := 63) dX1_walkHeads_23 (by decide) (fun c => ?_) (fun c => ?_)
  · replace k := k.1 c
    exact yw_vret dX1_walkHeads_63 rfl k
  · replace k := k.2 c
    refine xw_aload_n dX1_walkHeads_26 rfl rfl ?_
    refine xw_aload_n dX1_walkHeads_27 rfl rfl ?_
    refine yw_getR (r := 87) dX1_walkHeads_28 fX1_13 rfl (la_86 hW) (lr_86_1 hW) ?_
    refine xw_aload_n dX1_walkHeads_31 rfl rfl ?_
    refine yw_getR (r := 1) dX1_walkHeads_32 fX1_19 rfl (la_86 hW) (lr_86_0 hW) ?_
    refine xw_iload_n dX1_walkHeads_35 rfl rfl ?_
    exact yw_cV (As := [.int v3]) (b := 1) (st := [.ref 87, .ref a1]) dX1_walkHeads_36 lX1_68 kiX5_withoutLast kvX5_withoutLast rfl rfl rfl (la_1 hW) rfl (Nat.le_of_ble_eq_true rfl) rfl (xk_I k)
theorem bX1_walkHeads_39 {a1 Ma1 b0 Mb0 : Nat} {v2 v3 s2 : Int32} {mc ms : Nat} {Q : xHp → Prop} (hW : xLay sh R) (ha1 : xMach sh R a1 Ma1) (hb0 : xMach sh R b0 Mb0)
    (k : vp_in s2 40 ∧ CI mX5_lastLetter [.ref 1, .int v3] (sh, I, R) (fun w h1 => Ex mX1_walkHeads 48 [.ref 86, .ref a1, .int v2, .int v3] (.int w :: [.ref (87 + 1 + s2.toNatClampNeg), .ref b0]) h1 mc ms (xqV Q))) :
    Ex mX1_walkHeads 39 [.ref 86, .ref a1, .int v2, .int v3] [.int s2, .ref 87, .ref b0] (sh, I, R) mc ms (xqV Q) := by
  obtain ⟨kk1, k⟩ := k
  refine yw_aaload (r := (87 + 1 + s2.toNatClampNeg)) dX1_walkHeads_39 hW.2.2.2.2.2.2.2.2.2.2.2.2.1.1 (by decide) kk1 (hW.2.2.2.2.2.2.2.2.2.2.2.2.1.2 _ (vp_lt kk1)).1 ?_
  refine xw_aload_n dX1_walkHeads_40 rfl rfl ?_
  refine yw_getR (r := 1) dX1_walkHeads_41 fX1_19 rfl (la_86 hW) (lr_86_0 hW) ?_
  refine xw_iload_n dX1_walkHeads_44 rfl rfl ?_
  exact yw_cV (As := [.int v3]) (b := 1) (st := [.ref (87 + 1 + s2.toNatClampNeg), .ref b0]) dX1_walkHeads_45 lX1_71 kiX5_lastLetter kvX5_lastLetter rfl rfl rfl (la_1 hW) rfl (Nat.le_of_ble_eq_true rfl) rfl (xk_I k)
theorem bX1_walkHeads_48 {a1 Ma1 b1 nb1 b0 Mb0 : Nat} {v2 v3 s2 : Int32} {mc ms : Nat} {Q : xHp → Prop} (hW : xLay sh R) (ha1 : xMach sh R a1 Ma1) (hb1 : sh[b1]? = some (.inr (0, nb1))) (hb0 : xMach sh R b0 Mb0)
    (k : vp_in v3 40 ∧ CV mX3_forward [.ref b0, .ref b1, .int s2, .ref (87 + 1 + v3.toNatClampNeg)] (sh, I, R) (fun h1 => Ex mX1_walkHeads 57 [.ref 86, .ref a1, .int v2, .int v3] [] h1 mc ms (xqV Q))) :
    Ex mX1_walkHeads 48 [.ref 86, .ref a1, .int v2, .int v3] [.int s2, .ref b1, .ref b0] (sh, I, R) mc ms (xqV Q) := by
  refine xw_aload_n dX1_walkHeads_48 rfl rfl ?_
  refine yw_getR (r := 87) dX1_walkHeads_49 fX1_13 rfl (la_86 hW) (lr_86_1 hW) ?_
  refine xw_iload_n dX1_walkHeads_52 rfl rfl ?_
  obtain ⟨kk1, k⟩ := k
  refine yw_aaload (r := (87 + 1 + v3.toNatClampNeg)) dX1_walkHeads_53 hW.2.2.2.2.2.2.2.2.2.2.2.2.1.1 (by decide) kk1 (hW.2.2.2.2.2.2.2.2.2.2.2.2.1.2 _ (vp_lt kk1)).1 ?_
  exact yw_cV (As := [.ref b1, .int s2, .ref (87 + 1 + v3.toNatClampNeg)]) (b := b0) (st := []) dX1_walkHeads_54 lX1_74 kiX3_forward kvX3_forward rfl rfl rfl hb0.1 rfl (Nat.le_of_ble_eq_true rfl) rfl (xk_V k)
theorem bX1_walkHeads_57 {a1 Ma1 : Nat} {v2 v3 : Int32} {mc ms : Nat} {Q : xHp → Prop} (hW : xLay sh R) (ha1 : xMach sh R a1 Ma1)
    (k : Ex mX1_walkHeads 21 [.ref 86, .ref a1, .int v2, .int (v3 + nI 1)] [] (sh, I, R) mc ms (xqV Q)) :
    Ex mX1_walkHeads 57 [.ref 86, .ref a1, .int v2, .int v3] [] (sh, I, R) mc ms (xqV Q) := by
  refine yw_iinc (lv' := [.ref 86, .ref a1, .int v2, .int (v3 + nI 1)]) (v := nI 1) dX1_walkHeads_57 rfl rfl rfl rfl rfl ?_
  refine xw_goto (tgt := 21) dX1_walkHeads_60 (by decide) ?_
  exact k
theorem eX1_walkHeads {a1 : Nat} {v2 : Int32} {h : xHp} {Q : xHp → Prop} (k : Ex mX1_walkHeads 0 [.ref 86, .ref a1, .int v2, xU] [] h 0 0 (xqV Q)) : CV mX1_walkHeads [.ref 86, .ref a1, .int v2] h Q := k
theorem bX1_walkTails_0 {a1 Ma1 : Nat} {v2 : Int32} {mc ms : Nat} {Q : xHp → Prop} (hW : xLay sh R) (ha1 : xMach sh R a1 Ma1)
    (k : vp_in (nI 0) 40 ∧ ((¬ (nI 0) < 0 ∧ ¬ (nI 0) < 0 ∧ ¬ (I a1 2) < 0) ∧ (nI 0).toNatClampNeg + (I a1 2).toNatClampNeg ≤ Ma1 ∧ (nI 0).toNatClampNeg + (I a1 2).toNatClampNeg ≤ 4) ∧ Ex mX1_walkTails 21 [.ref 86, .ref a1, .int v2, .int (nI 1)] [] (sh, (xa I (128 + 1 + (nI 0).toNatClampNeg) (va_cpy (I (a1 + 2)) (I (128 + 1 + (nI 0).toNatClampNeg)) (nI 0).toNatClampNeg (nI 0).toNatClampNeg (I a1 2).toNatClampNeg)), R) mc ms (xqV Q)) :
    Ex mX1_walkTails 0 [.ref 86, .ref a1, .int v2, xU] [] (sh, I, R) mc ms (xqV Q) := by
  refine xw_aload_n dX1_walkTails_0 rfl rfl ?_
  refine yw_getR (r := (a1 + 2)) dX1_walkTails_1 fX1_78 rfl ha1.1 ha1.2.2.2.2.2.2.1 ?_
  refine xw_iconst (v := nI 0) dX1_walkTails_4 rfl ?_
  refine xw_aload_n dX1_walkTails_5 rfl rfl ?_
  refine yw_getR (r := 128) dX1_walkTails_6 fX1_16 rfl (la_86 hW) (lr_86_2 hW) ?_
  refine xw_iconst (v := nI 0) dX1_walkTails_9 rfl ?_
  obtain ⟨kk1, k⟩ := k
  refine yw_aaload (r := (128 + 1 + (nI 0).toNatClampNeg)) dX1_walkTails_10 hW.2.2.2.2.2.2.2.2.2.2.2.2.2.1 (by decide) kk1 (hW.2.2.2.2.2.2.2.2.2.2.2.2.2.2 _ (vp_lt kk1)).1 ?_
  refine xw_iconst (v := nI 0) dX1_walkTails_11 rfl ?_
  refine xw_aload_n dX1_walkTails_12 rfl rfl ?_
  refine yw_getI (v := I a1 2) dX1_walkTails_13 fX1_59 rfl ha1.1 rfl ?_
  obtain ⟨k0, k⟩ := k
  refine yw_acopy dX1_walkTails_16 lX1_62 ha1.2.2.1 (hW.2.2.2.2.2.2.2.2.2.2.2.2.2.2 _ (vp_lt kk1)).2 rfl rfl (Nat.le_of_ble_eq_true rfl) k0 ?_
  refine xw_iconst (v := nI 1) dX1_walkTails_19 rfl ?_
  refine yw_istore_n (lv' := [.ref 86, .ref a1, .int v2, .int (nI 1)]) dX1_walkTails_20 rfl rfl rfl rfl ?_
  exact k
theorem bX1_walkTails_21 {a1 Ma1 : Nat} {v2 v3 : Int32} {mc ms : Nat} {Q : xHp → Prop} (hW : xLay sh R) (ha1 : xMach sh R a1 Ma1)
    (k : ((v2 ≤ v3 → Q (sh, I, R)) ∧ (¬ v2 ≤ v3 → CI mX5_withoutLast [.ref 1, .int v3] (sh, I, R) (fun w h1 => Ex mX1_walkTails 39 [.ref 86, .ref a1, .int v2, .int v3] (.int w :: [.ref 128, .ref a1]) h1 mc ms (xqV Q))))) :
    Ex mX1_walkTails 21 [.ref 86, .ref a1, .int v2, .int v3] [] (sh, I, R) mc ms (xqV Q) := by
  refine xw_iload_n dX1_walkTails_21 rfl rfl ?_
  refine xw_iload_n dX1_walkTails_22 rfl rfl ?_
  refine xw_icge (tgt := 63) dX1_walkTails_23 (by decide) (fun c => ?_) (fun c => ?_)
  · replace k := k.1 c
    exact yw_vret dX1_walkTails_63 rfl k
  · replace k := k.2 c
    refine xw_aload_n dX1_walkTails_26 rfl rfl ?_
    refine xw_aload_n dX1_walkTails_27 rfl rfl ?_
    refine yw_getR (r := 128) dX1_walkTails_28 fX1_16 rfl (la_86 hW) (lr_86_2 hW) ?_
    refine xw_aload_n dX1_walkTails_31 rfl rfl ?_
    refine yw_getR (r := 1) dX1_walkTails_32 fX1_19 rfl (la_86 hW) (lr_86_0 hW) ?_
    refine xw_iload_n dX1_walkTails_35 rfl rfl ?_
    exact yw_cV (As := [.int v3]) (b := 1) (st := [.ref 128, .ref a1]) dX1_walkTails_36 lX1_68 kiX5_withoutLast kvX5_withoutLast rfl rfl rfl (la_1 hW) rfl (Nat.le_of_ble_eq_true rfl) rfl (xk_I k)
theorem bX1_walkTails_39 {a1 Ma1 b0 Mb0 : Nat} {v2 v3 s2 : Int32} {mc ms : Nat} {Q : xHp → Prop} (hW : xLay sh R) (ha1 : xMach sh R a1 Ma1) (hb0 : xMach sh R b0 Mb0)
    (k : vp_in s2 40 ∧ CI mX5_lastLetter [.ref 1, .int v3] (sh, I, R) (fun w h1 => Ex mX1_walkTails 48 [.ref 86, .ref a1, .int v2, .int v3] (.int w :: [.ref (128 + 1 + s2.toNatClampNeg), .ref b0]) h1 mc ms (xqV Q))) :
    Ex mX1_walkTails 39 [.ref 86, .ref a1, .int v2, .int v3] [.int s2, .ref 128, .ref b0] (sh, I, R) mc ms (xqV Q) := by
  obtain ⟨kk1, k⟩ := k
  refine yw_aaload (r := (128 + 1 + s2.toNatClampNeg)) dX1_walkTails_39 hW.2.2.2.2.2.2.2.2.2.2.2.2.2.1 (by decide) kk1 (hW.2.2.2.2.2.2.2.2.2.2.2.2.2.2 _ (vp_lt kk1)).1 ?_
  refine xw_aload_n dX1_walkTails_40 rfl rfl ?_
  refine yw_getR (r := 1) dX1_walkTails_41 fX1_19 rfl (la_86 hW) (lr_86_0 hW) ?_
  refine xw_iload_n dX1_walkTails_44 rfl rfl ?_
  exact yw_cV (As := [.int v3]) (b := 1) (st := [.ref (128 + 1 + s2.toNatClampNeg), .ref b0]) dX1_walkTails_45 lX1_71 kiX5_lastLetter kvX5_lastLetter rfl rfl rfl (la_1 hW) rfl (Nat.le_of_ble_eq_true rfl) rfl (xk_I k)
theorem bX1_walkTails_48 {a1 Ma1 b1 nb1 b0 Mb0 : Nat} {v2 v3 s2 : Int32} {mc ms : Nat} {Q : xHp → Prop} (hW : xLay sh R) (ha1 : xMach sh R a1 Ma1) (hb1 : sh[b1]? = some (.inr (0, nb1))) (hb0 : xMach sh R b0 Mb0)
    (k : vp_in v3 40 ∧ CV mX3_backward [.ref b0, .ref b1, .int s2, .ref (128 + 1 + v3.toNatClampNeg)] (sh, I, R) (fun h1 => Ex mX1_walkTails 57 [.ref 86, .ref a1, .int v2, .int v3] [] h1 mc ms (xqV Q))) :
    Ex mX1_walkTails 48 [.ref 86, .ref a1, .int v2, .int v3] [.int s2, .ref b1, .ref b0] (sh, I, R) mc ms (xqV Q) := by
  refine xw_aload_n dX1_walkTails_48 rfl rfl ?_
  refine yw_getR (r := 128) dX1_walkTails_49 fX1_16 rfl (la_86 hW) (lr_86_2 hW) ?_
  refine xw_iload_n dX1_walkTails_52 rfl rfl ?_
  obtain ⟨kk1, k⟩ := k
  refine yw_aaload (r := (128 + 1 + v3.toNatClampNeg)) dX1_walkTails_53 hW.2.2.2.2.2.2.2.2.2.2.2.2.2.1 (by decide) kk1 (hW.2.2.2.2.2.2.2.2.2.2.2.2.2.2 _ (vp_lt kk1)).1 ?_
  exact yw_cV (As := [.ref b1, .int s2, .ref (128 + 1 + v3.toNatClampNeg)]) (b := b0) (st := []) dX1_walkTails_54 lX1_81 kiX3_backward kvX3_backward rfl rfl rfl hb0.1 rfl (Nat.le_of_ble_eq_true rfl) rfl (xk_V k)
theorem bX1_walkTails_57 {a1 Ma1 : Nat} {v2 v3 : Int32} {mc ms : Nat} {Q : xHp → Prop} (hW : xLay sh R) (ha1 : xMach sh R a1 Ma1)
    (k : Ex mX1_walkTails 21 [.ref 86, .ref a1, .int v2, .int (v3 + nI 1)] [] (sh, I, R) mc ms (xqV Q)) :
    Ex mX1_walkTails 57 [.ref 86, .ref a1, .int v2, .int v3] [] (sh, I, R) mc ms (xqV Q) := by
  refine yw_iinc (lv' := [.ref 86, .ref a1, .int v2, .int (v3 + nI 1)]) (v := nI 1) dX1_walkTails_57 rfl rfl rfl rfl rfl ?_
  refine xw_goto (tgt := 21) dX1_walkTails_60 (by decide) ?_
  exact k
theorem eX1_walkTails {a1 : Nat} {v2 : Int32} {h : xHp} {Q : xHp → Prop} (k : Ex mX1_walkTails 0 [.ref 86, .ref a1, .int v2, xU] [] h 0 0 (xqV Q)) : CV mX1_walkTails [.ref 86, .ref a1, .int v2] h Q := k
theorem bX1_count_0 {a1 Ma1 : Nat} {v2 : Int32} {mc ms : Nat} {Q : xHp → Prop} (hW : xLay sh R) (ha1 : xMach sh R a1 Ma1)
    (k : ¬ nI 2 = 0 ∧ CI mX5_firstOfLength [.ref 1, .int (v2 / (nI 2))] (sh, I, R) (fun w h1 => Ex mX1_count 17 [.ref 86, .ref a1, xU, .int (v2 / (nI 2)), .int (v2 - (v2 / (nI 2))), xU, xU, xU, xU, xU, xU, xU] (.int w :: []) h1 mc ms (xqV Q))) :
    Ex mX1_count 0 [.ref 86, .ref a1, .int v2, xU, xU, xU, xU, xU, xU, xU, xU, xU] [] (sh, I, R) mc ms (xqV Q) := by
  refine xw_iload_n dX1_count_0 rfl rfl ?_
  refine xw_iconst (v := nI 2) dX1_count_1 rfl ?_
  obtain ⟨k0, k⟩ := k
  refine xw_idiv dX1_count_2 k0 ?_
  refine yw_istore_n (lv' := [.ref 86, .ref a1, .int v2, .int (v2 / (nI 2)), xU, xU, xU, xU, xU, xU, xU, xU]) dX1_count_3 rfl rfl rfl rfl ?_
  refine xw_iload_n dX1_count_4 rfl rfl ?_
  refine xw_iload_n dX1_count_5 rfl rfl ?_
  refine xw_isub dX1_count_6 ?_
  refine yw_istore (lv' := [.ref 86, .ref a1, .int v2, .int (v2 / (nI 2)), .int (v2 - (v2 / (nI 2))), xU, xU, xU, xU, xU, xU, xU]) dX1_count_7 rfl rfl rfl ?_
  refine xw_aload_n dX1_count_9 rfl rfl ?_
  refine yw_getR (r := 1) dX1_count_10 fX1_19 rfl (la_86 hW) (lr_86_0 hW) ?_
  refine xw_iload_n dX1_count_13 rfl rfl ?_
  refine yw_sub (lv' := [.ref 86, .ref a1, xU, .int (v2 / (nI 2)), .int (v2 - (v2 / (nI 2))), xU, xU, xU, xU, xU, xU, xU]) ⟨Or.inr rfl, Or.inr rfl, Or.inl rfl, Or.inr rfl, Or.inr rfl, Or.inl rfl, Or.inl rfl, Or.inl rfl, Or.inl rfl, Or.inl rfl, Or.inl rfl, Or.inl rfl, trivial⟩ ?_
  exact yw_cV (As := [.int (v2 / (nI 2))]) (b := 1) (st := []) dX1_count_14 lX1_23 kiX5_firstOfLength kvX5_firstOfLength rfl rfl rfl (la_1 hW) rfl (Nat.le_of_ble_eq_true rfl) rfl (xk_I k)
theorem bX1_count_17 {a1 Ma1 : Nat} {v3 v4 s0 : Int32} {mc ms : Nat} {Q : xHp → Prop} (hW : xLay sh R) (ha1 : xMach sh R a1 Ma1)
    (k : CI mX5_firstOfLength [.ref 1, .int v4] (sh, I, R) (fun w h1 => Ex mX1_count 28 [.ref 86, .ref a1, xU, .int v3, .int v4, .int s0, xU, xU, xU, xU, xU, xU] (.int w :: []) h1 mc ms (xqV Q))) :
    Ex mX1_count 17 [.ref 86, .ref a1, xU, .int v3, .int v4, xU, xU, xU, xU, xU, xU, xU] [.int s0] (sh, I, R) mc ms (xqV Q) := by
  refine yw_istore (lv' := [.ref 86, .ref a1, xU, .int v3, .int v4, .int s0, xU, xU, xU, xU, xU, xU]) dX1_count_17 rfl rfl rfl ?_
  refine xw_aload_n dX1_count_19 rfl rfl ?_
  refine yw_getR (r := 1) dX1_count_20 fX1_19 rfl (la_86 hW) (lr_86_0 hW) ?_
  refine xw_iload dX1_count_23 rfl ?_
  exact yw_cV (As := [.int v4]) (b := 1) (st := []) dX1_count_25 lX1_23 kiX5_firstOfLength kvX5_firstOfLength rfl rfl rfl (la_1 hW) rfl (Nat.le_of_ble_eq_true rfl) rfl (xk_I k)
theorem bX1_count_28 {a1 Ma1 : Nat} {v3 v4 v5 s0 : Int32} {mc ms : Nat} {Q : xHp → Prop} (hW : xLay sh R) (ha1 : xMach sh R a1 Ma1)
    (k : CI mX5_power [.ref 1, .int v3] (sh, I, R) (fun w h1 => Ex mX1_count 38 [.ref 86, .ref a1, xU, xU, .int v4, .int v5, .int s0, xU, xU, xU, xU, xU] (.int w :: []) h1 mc ms (xqV Q))) :
    Ex mX1_count 28 [.ref 86, .ref a1, xU, .int v3, .int v4, .int v5, xU, xU, xU, xU, xU, xU] [.int s0] (sh, I, R) mc ms (xqV Q) := by
  refine yw_istore (lv' := [.ref 86, .ref a1, xU, .int v3, .int v4, .int v5, .int s0, xU, xU, xU, xU, xU]) dX1_count_28 rfl rfl rfl ?_
  refine xw_aload_n dX1_count_30 rfl rfl ?_
  refine yw_getR (r := 1) dX1_count_31 fX1_19 rfl (la_86 hW) (lr_86_0 hW) ?_
  refine xw_iload_n dX1_count_34 rfl rfl ?_
  refine yw_sub (lv' := [.ref 86, .ref a1, xU, xU, .int v4, .int v5, .int s0, xU, xU, xU, xU, xU]) ⟨Or.inr rfl, Or.inr rfl, Or.inl rfl, Or.inl rfl, Or.inr rfl, Or.inr rfl, Or.inr rfl, Or.inl rfl, Or.inl rfl, Or.inl rfl, Or.inl rfl, Or.inl rfl, trivial⟩ ?_
  exact yw_cV (As := [.int v3]) (b := 1) (st := []) dX1_count_35 lX1_29 kiX5_power kvX5_power rfl rfl rfl (la_1 hW) rfl (Nat.le_of_ble_eq_true rfl) rfl (xk_I k)
theorem bX1_count_38 {a1 Ma1 : Nat} {v4 v5 v6 s0 : Int32} {mc ms : Nat} {Q : xHp → Prop} (hW : xLay sh R) (ha1 : xMach sh R a1 Ma1)
    (k : CI mX5_power [.ref 1, .int v4] (sh, I, R) (fun w h1 => Ex mX1_count 49 [.ref 86, .ref a1, xU, xU, xU, .int v5, .int v6, .int s0, xU, xU, xU, xU] (.int w :: []) h1 mc ms (xqV Q))) :
    Ex mX1_count 38 [.ref 86, .ref a1, xU, xU, .int v4, .int v5, .int v6, xU, xU, xU, xU, xU] [.int s0] (sh, I, R) mc ms (xqV Q) := by
  refine yw_istore (lv' := [.ref 86, .ref a1, xU, xU, .int v4, .int v5, .int v6, .int s0, xU, xU, xU, xU]) dX1_count_38 rfl rfl rfl ?_
  refine xw_aload_n dX1_count_40 rfl rfl ?_
  refine yw_getR (r := 1) dX1_count_41 fX1_19 rfl (la_86 hW) (lr_86_0 hW) ?_
  refine xw_iload dX1_count_44 rfl ?_
  refine yw_sub (lv' := [.ref 86, .ref a1, xU, xU, xU, .int v5, .int v6, .int s0, xU, xU, xU, xU]) ⟨Or.inr rfl, Or.inr rfl, Or.inl rfl, Or.inl rfl, Or.inl rfl, Or.inr rfl, Or.inr rfl, Or.inr rfl, Or.inl rfl, Or.inl rfl, Or.inl rfl, Or.inl rfl, trivial⟩ ?_
  exact yw_cV (As := [.int v4]) (b := 1) (st := []) dX1_count_46 lX1_29 kiX5_power kvX5_power rfl rfl rfl (la_1 hW) rfl (Nat.le_of_ble_eq_true rfl) rfl (xk_I k)
theorem bX1_count_49 {a1 Ma1 : Nat} {v5 v6 v7 s0 : Int32} {mc ms : Nat} {Q : xHp → Prop} (hW : xLay sh R) (ha1 : xMach sh R a1 Ma1)
    (k : CV mX1_walkHeads [.ref 86, .ref a1, .int (v5 + v7)] (sh, I, R) (fun h1 => Ex mX1_count 61 [.ref 86, .ref a1, xU, xU, xU, .int v5, .int v6, .int v7, .int s0, xU, xU, xU] [] h1 mc ms (xqV Q))) :
    Ex mX1_count 49 [.ref 86, .ref a1, xU, xU, xU, .int v5, .int v6, .int v7, xU, xU, xU, xU] [.int s0] (sh, I, R) mc ms (xqV Q) := by
  refine yw_istore (lv' := [.ref 86, .ref a1, xU, xU, xU, .int v5, .int v6, .int v7, .int s0, xU, xU, xU]) dX1_count_49 rfl rfl rfl ?_
  refine xw_aload_n dX1_count_51 rfl rfl ?_
  refine xw_aload_n dX1_count_52 rfl rfl ?_
  refine xw_iload dX1_count_53 rfl ?_
  refine xw_iload dX1_count_55 rfl ?_
  refine xw_iadd dX1_count_57 ?_
  exact yw_cV (As := [.ref a1, .int (v5 + v7)]) (b := 86) (st := []) dX1_count_58 lX1_32 kiX1_walkHeads kvX1_walkHeads rfl rfl rfl (la_86 hW) rfl (Nat.le_of_ble_eq_true rfl) rfl (xk_V k)
theorem bX1_count_61 {a1 Ma1 : Nat} {v5 v6 v7 v8 : Int32} {mc ms : Nat} {Q : xHp → Prop} (hW : xLay sh R) (ha1 : xMach sh R a1 Ma1)
    (k : CV mX1_walkTails [.ref 86, .ref a1, .int (v6 + v8)] (sh, I, R) (fun h1 => Ex mX1_count 71 [.ref 86, .ref a1, xU, xU, xU, .int v5, .int v6, .int v7, .int v8, xU, xU, xU] [] h1 mc ms (xqV Q))) :
    Ex mX1_count 61 [.ref 86, .ref a1, xU, xU, xU, .int v5, .int v6, .int v7, .int v8, xU, xU, xU] [] (sh, I, R) mc ms (xqV Q) := by
  refine xw_aload_n dX1_count_61 rfl rfl ?_
  refine xw_aload_n dX1_count_62 rfl rfl ?_
  refine xw_iload dX1_count_63 rfl ?_
  refine xw_iload dX1_count_65 rfl ?_
  refine xw_iadd dX1_count_67 ?_
  exact yw_cV (As := [.ref a1, .int (v6 + v8)]) (b := 86) (st := []) dX1_count_68 lX1_36 kiX1_walkTails kvX1_walkTails rfl rfl rfl (la_86 hW) rfl (Nat.le_of_ble_eq_true rfl) rfl (xk_V k)
theorem bX1_count_71 {a1 Ma1 : Nat} {v5 v6 v7 v8 : Int32} {mc ms : Nat} {Q : xHp → Prop} (hW : xLay sh R) (ha1 : xMach sh R a1 Ma1)
    (k : Ex mX1_count 94 [.ref 86, .ref a1, xU, xU, xU, .int v5, .int v6, .int v7, .int v8, .int v5, xU, xU] [] (sh, (xi (xi (xi I 86 3 (v7 * v8)) 86 4 (nI 0)) 86 5 (nI 0)), R) mc ms (xqV Q)) :
    Ex mX1_count 71 [.ref 86, .ref a1, xU, xU, xU, .int v5, .int v6, .int v7, .int v8, xU, xU, xU] [] (sh, I, R) mc ms (xqV Q) := by
  refine xw_aload_n dX1_count_71 rfl rfl ?_
  refine xw_iload dX1_count_72 rfl ?_
  refine xw_iload dX1_count_74 rfl ?_
  refine xw_imul dX1_count_76 ?_
  refine yw_putI dX1_count_77 fX1_39 (fun r h => by cases h; exact Or.inl rfl) rfl (la_86 hW) ?_
  refine xw_aload_n dX1_count_80 rfl rfl ?_
  refine xw_iconst (v := nI 0) dX1_count_81 rfl ?_
  refine yw_putI dX1_count_82 fX1_43 (fun r h => by cases h; exact Or.inl rfl) rfl (la_86 hW) ?_
  refine xw_aload_n dX1_count_85 rfl rfl ?_
  refine xw_iconst (v := nI 0) dX1_count_86 rfl ?_
  refine yw_putI dX1_count_87 fX1_46 (fun r h => by cases h; exact Or.inl rfl) rfl (la_86 hW) ?_
  refine xw_iload dX1_count_90 rfl ?_
  refine yw_istore (lv' := [.ref 86, .ref a1, xU, xU, xU, .int v5, .int v6, .int v7, .int v8, .int v5, xU, xU]) dX1_count_92 rfl rfl rfl ?_
  exact k
theorem bX1_count_94 {a1 Ma1 : Nat} {v5 v6 v7 v8 v9 : Int32} {mc ms : Nat} {Q : xHp → Prop} (hW : xLay sh R) (ha1 : xMach sh R a1 Ma1)
    (k : (((v5 + v7) ≤ v9 → Q (sh, I, R)) ∧ (¬ (v5 + v7) ≤ v9 → Ex mX1_count 108 [.ref 86, .ref a1, xU, xU, xU, .int v5, .int v6, .int v7, .int v8, .int v9, .int v6, xU] [] (sh, I, R) mc ms (xqV Q)))) :
    Ex mX1_count 94 [.ref 86, .ref a1, xU, xU, xU, .int v5, .int v6, .int v7, .int v8, .int v9, xU, xU] [] (sh, I, R) mc ms (xqV Q) := by
  refine xw_iload dX1_count_94 rfl ?_
  refine xw_iload dX1_count_96 rfl ?_
  refine xw_iload dX1_count_98 rfl ?_
  refine xw_iadd dX1_count_100 ?_
  refine xw_icge (tgt := 180) dX1_count_101 (by decide) (fun c => ?_) (fun c => ?_)
  · replace k := k.1 c
    exact yw_vret dX1_count_180 rfl k
  · replace k := k.2 c
    refine xw_iload dX1_count_104 rfl ?_
    refine yw_istore (lv' := [.ref 86, .ref a1, xU, xU, xU, .int v5, .int v6, .int v7, .int v8, .int v9, .int v6, xU]) dX1_count_106 rfl rfl rfl ?_
    exact k
theorem bX1_count_108 {a1 Ma1 : Nat} {v5 v6 v7 v8 v9 v10 : Int32} {mc ms : Nat} {Q : xHp → Prop} (hW : xLay sh R) (ha1 : xMach sh R a1 Ma1)
    (k : (((v6 + v8) ≤ v10 → Ex mX1_count 94 [.ref 86, .ref a1, xU, xU, xU, .int v5, .int v6, .int v7, .int v8, .int (v9 + nI 1), xU, xU] [] (sh, I, R) mc ms (xqV Q)) ∧ (¬ (v6 + v8) ≤ v10 → vp_in v9 40 ∧ vp_in v10 40 ∧ CI mX3_product [.ref a1, .ref (87 + 1 + v9.toNatClampNeg), .ref (128 + 1 + v10.toNatClampNeg)] (sh, I, R) (fun w h1 => Ex mX1_count 136 [.ref 86, .ref a1, xU, xU, xU, .int v5, .int v6, .int v7, .int v8, .int v9, .int v10, xU] (.int w :: []) h1 mc ms (xqV Q))))) :
    Ex mX1_count 108 [.ref 86, .ref a1, xU, xU, xU, .int v5, .int v6, .int v7, .int v8, .int v9, .int v10, xU] [] (sh, I, R) mc ms (xqV Q) := by
  refine xw_iload dX1_count_108 rfl ?_
  refine xw_iload dX1_count_110 rfl ?_
  refine xw_iload dX1_count_112 rfl ?_
  refine xw_iadd dX1_count_114 ?_
  refine xw_icge (tgt := 174) dX1_count_115 (by decide) (fun c => ?_) (fun c => ?_)
  · replace k := k.1 c
    refine yw_iinc (lv' := [.ref 86, .ref a1, xU, xU, xU, .int v5, .int v6, .int v7, .int v8, .int (v9 + nI 1), .int v10, xU]) (v := nI 1) dX1_count_174 rfl rfl rfl rfl rfl ?_
    refine xw_goto (tgt := 94) dX1_count_177 (by decide) ?_
    exact yw_sub (lv' := [.ref 86, .ref a1, xU, xU, xU, .int v5, .int v6, .int v7, .int v8, .int (v9 + nI 1), xU, xU]) ⟨Or.inr rfl, Or.inr rfl, Or.inl rfl, Or.inl rfl, Or.inl rfl, Or.inr rfl, Or.inr rfl, Or.inr rfl, Or.inr rfl, Or.inr rfl, Or.inl rfl, Or.inl rfl, trivial⟩ k
  · replace k := k.2 c
    refine xw_aload_n dX1_count_118 rfl rfl ?_
    refine xw_aload_n dX1_count_119 rfl rfl ?_
    refine yw_getR (r := 87) dX1_count_120 fX1_13 rfl (la_86 hW) (lr_86_1 hW) ?_
    refine xw_iload dX1_count_123 rfl ?_
    obtain ⟨kk1, k⟩ := k
    refine yw_aaload (r := (87 + 1 + v9.toNatClampNeg)) dX1_count_125 hW.2.2.2.2.2.2.2.2.2.2.2.2.1.1 (by decide) kk1 (hW.2.2.2.2.2.2.2.2.2.2.2.2.1.2 _ (vp_lt kk1)).1 ?_
    refine xw_aload_n dX1_count_126 rfl rfl ?_
    refine yw_getR (r := 128) dX1_count_127 fX1_16 rfl (la_86 hW) (lr_86_2 hW) ?_
    refine xw_iload dX1_count_130 rfl ?_
    obtain ⟨kk2, k⟩ := k
    refine yw_aaload (r := (128 + 1 + v10.toNatClampNeg)) dX1_count_132 hW.2.2.2.2.2.2.2.2.2.2.2.2.2.1 (by decide) kk2 (hW.2.2.2.2.2.2.2.2.2.2.2.2.2.2 _ (vp_lt kk2)).1 ?_
    exact yw_cV (As := [.ref (87 + 1 + v9.toNatClampNeg), .ref (128 + 1 + v10.toNatClampNeg)]) (b := a1) (st := []) dX1_count_133 lX1_49 kiX3_product kvX3_product rfl rfl rfl ha1.1 rfl (Nat.le_of_ble_eq_true rfl) rfl (xk_I k)
theorem bX1_count_136 {a1 Ma1 : Nat} {v5 v6 v7 v8 v9 v10 s0 : Int32} {mc ms : Nat} {Q : xHp → Prop} (hW : xLay sh R) (ha1 : xMach sh R a1 Ma1)
    (k : ((¬ s0 = 0 → Ex mX1_count 108 [.ref 86, .ref a1, xU, xU, xU, .int v5, .int v6, .int v7, .int v8, .int v9, .int (v10 + nI 1), xU] [] (sh, (xi (xi I 86 4 ((I 86 4) + (nI 0))) 86 5 ((I 86 5) + s0)), R) mc ms (xqV Q)) ∧ (s0 = 0 → Ex mX1_count 108 [.ref 86, .ref a1, xU, xU, xU, .int v5, .int v6, .int v7, .int v8, .int v9, .int (v10 + nI 1), xU] [] (sh, (xi (xi I 86 4 ((I 86 4) + (nI 1))) 86 5 ((I 86 5) + s0)), R) mc ms (xqV Q)))) :
    Ex mX1_count 136 [.ref 86, .ref a1, xU, xU, xU, .int v5, .int v6, .int v7, .int v8, .int v9, .int v10, xU] [.int s0] (sh, I, R) mc ms (xqV Q) := by
  refine yw_istore (lv' := [.ref 86, .ref a1, xU, xU, xU, .int v5, .int v6, .int v7, .int v8, .int v9, .int v10, .int s0]) dX1_count_136 rfl rfl rfl ?_
  refine xw_aload_n dX1_count_138 rfl rfl ?_
  refine xw_dup dX1_count_139 rfl ?_
  refine yw_getI (v := I 86 4) dX1_count_140 fX1_43 rfl (la_86 hW) rfl ?_
  refine xw_iload dX1_count_143 rfl ?_
  refine xw_ifne (tgt := 152) dX1_count_145 (by decide) (fun c => ?_) (fun c => ?_)
  · replace k := k.1 c
    refine xw_iconst (v := nI 0) dX1_count_152 rfl ?_
    refine xw_iadd dX1_count_153 ?_
    refine yw_putI dX1_count_154 fX1_43 (fun r h => by cases h; exact Or.inl rfl) rfl (la_86 hW) ?_
    refine xw_aload_n dX1_count_157 rfl rfl ?_
    refine xw_dup dX1_count_158 rfl ?_
    refine yw_getI (v := I 86 5) dX1_count_159 fX1_46 rfl (la_86 hW) (xi_s (j := 5) (k := 4) (by decide)) ?_
    refine xw_iload dX1_count_162 rfl ?_
    refine xw_iadd dX1_count_164 ?_
    refine yw_putI dX1_count_165 fX1_46 (fun r h => by cases h; exact Or.inl rfl) rfl (la_86 hW) ?_
    refine yw_iinc (lv' := [.ref 86, .ref a1, xU, xU, xU, .int v5, .int v6, .int v7, .int v8, .int v9, .int (v10 + nI 1), .int s0]) (v := nI 1) dX1_count_168 rfl rfl rfl rfl rfl ?_
    refine xw_goto (tgt := 108) dX1_count_171 (by decide) ?_
    exact yw_sub (lv' := [.ref 86, .ref a1, xU, xU, xU, .int v5, .int v6, .int v7, .int v8, .int v9, .int (v10 + nI 1), xU]) ⟨Or.inr rfl, Or.inr rfl, Or.inl rfl, Or.inl rfl, Or.inl rfl, Or.inr rfl, Or.inr rfl, Or.inr rfl, Or.inr rfl, Or.inr rfl, Or.inr rfl, Or.inl rfl, trivial⟩ k
  · replace k := k.2 c
    refine xw_iconst (v := nI 1) dX1_count_148 rfl ?_
    refine xw_goto (tgt := 153) dX1_count_149 (by decide) ?_
    refine xw_iadd dX1_count_153 ?_
    refine yw_putI dX1_count_154 fX1_43 (fun r h => by cases h; exact Or.inl rfl) rfl (la_86 hW) ?_
    refine xw_aload_n dX1_count_157 rfl rfl ?_
    refine xw_dup dX1_count_158 rfl ?_
    refine yw_getI (v := I 86 5) dX1_count_159 fX1_46 rfl (la_86 hW) (xi_s (j := 5) (k := 4) (by decide)) ?_
    refine xw_iload dX1_count_162 rfl ?_
    refine xw_iadd dX1_count_164 ?_
    refine yw_putI dX1_count_165 fX1_46 (fun r h => by cases h; exact Or.inl rfl) rfl (la_86 hW) ?_
    refine yw_iinc (lv' := [.ref 86, .ref a1, xU, xU, xU, .int v5, .int v6, .int v7, .int v8, .int v9, .int (v10 + nI 1), .int s0]) (v := nI 1) dX1_count_168 rfl rfl rfl rfl rfl ?_
    refine xw_goto (tgt := 108) dX1_count_171 (by decide) ?_
    exact yw_sub (lv' := [.ref 86, .ref a1, xU, xU, xU, .int v5, .int v6, .int v7, .int v8, .int v9, .int (v10 + nI 1), xU]) ⟨Or.inr rfl, Or.inr rfl, Or.inl rfl, Or.inl rfl, Or.inl rfl, Or.inr rfl, Or.inr rfl, Or.inr rfl, Or.inr rfl, Or.inr rfl, Or.inr rfl, Or.inl rfl, trivial⟩ k
theorem eX1_count {a1 : Nat} {v2 : Int32} {h : xHp} {Q : xHp → Prop} (k : Ex mX1_count 0 [.ref 86, .ref a1, .int v2, xU, xU, xU, xU, xU, xU, xU, xU, xU] [] h 0 0 (xqV Q)) : CV mX1_count [.ref 86, .ref a1, .int v2] h Q := k
theorem bX1_bitsOfFloat_0 {v0 : UInt32} {mc ms : Nat} {Q : Int32 → xHp → Prop} (hW : xLay sh R) 
    (k : ((0 < (Op.cmpValue (FP.fcmp v0 FP.fconst0) .g) → Ex mX1_bitsOfFloat 15 [xU, .float v0, .int (nI 127), .int (nI 0)] [] (sh, I, R) mc ms (xqI Q)) ∧ (¬ 0 < (Op.cmpValue (FP.fcmp v0 FP.fconst0) .g) → Q (nI 0) (sh, I, R)))) :
    Ex mX1_bitsOfFloat 0 [.float v0, xU, xU, xU] [] (sh, I, R) mc ms (xqI Q) := by
  refine xw_fload_n dX1_bitsOfFloat_0 rfl rfl ?_
  refine yw_fstore_n (lv' := [.float v0, .float v0, xU, xU]) dX1_bitsOfFloat_1 rfl rfl rfl rfl ?_
  refine xw_bipush (v := nI 127) dX1_bitsOfFloat_2 (by decide) ?_
  refine yw_istore_n (lv' := [.float v0, .float v0, .int (nI 127), xU]) dX1_bitsOfFloat_4 rfl rfl rfl rfl ?_
  refine xw_fload_n dX1_bitsOfFloat_5 rfl rfl ?_
  refine xw_fconst0 dX1_bitsOfFloat_6 ?_
  refine xw_fcmp dX1_bitsOfFloat_7 ?_
  refine xw_ifgt (tgt := 13) dX1_bitsOfFloat_8 (by decide) (fun c => ?_) (fun c => ?_)
  · replace k := k.1 c
    refine xw_iconst (v := nI 0) dX1_bitsOfFloat_13 rfl ?_
    refine yw_istore_n (lv' := [.float v0, .float v0, .int (nI 127), .int (nI 0)]) dX1_bitsOfFloat_14 rfl rfl rfl rfl ?_
    exact yw_sub (lv' := [xU, .float v0, .int (nI 127), .int (nI 0)]) ⟨Or.inl rfl, Or.inr rfl, Or.inr rfl, Or.inr rfl, trivial⟩ k
  · replace k := k.2 c
    refine xw_iconst (v := nI 0) dX1_bitsOfFloat_11 rfl ?_
    exact yw_iret dX1_bitsOfFloat_12 rfl k
theorem bX1_bitsOfFloat_15 {v2 v3 : Int32} {v1 : UInt32} {mc ms : Nat} {Q : Int32 → xHp → Prop} (hW : xLay sh R) 
    (k : (((nI 100) ≤ v3 → vf_n32 (FP.fmul v1 (1258291200 : UInt32)) ∧ Q ((v2 <<< ((nI 23) &&& 31)) + ((FP.f2i (FP.fmul v1 (1258291200 : UInt32))) - (8388608 : Int32))) (sh, I, R)) ∧ (¬ (nI 100) ≤ v3 → ((0 ≤ (Op.cmpValue (FP.fcmp v1 FP.fconst1) .g) → vf_n32 (FP.fmul v1 (1258291200 : UInt32)) ∧ Q ((v2 <<< ((nI 23) &&& 31)) + ((FP.f2i (FP.fmul v1 (1258291200 : UInt32))) - (8388608 : Int32))) (sh, I, R)) ∧ (¬ 0 ≤ (Op.cmpValue (FP.fcmp v1 FP.fconst1) .g) → vf_n32 (FP.fmul v1 FP.fconst2) ∧ Ex mX1_bitsOfFloat 15 [xU, .float (FP.fmul v1 FP.fconst2), .int (v2 + (-1)), .int (v3 + nI 1)] [] (sh, I, R) mc ms (xqI Q)))))) :
    Ex mX1_bitsOfFloat 15 [xU, .float v1, .int v2, .int v3] [] (sh, I, R) mc ms (xqI Q) := by
  refine xw_iload_n dX1_bitsOfFloat_15 rfl rfl ?_
  refine xw_bipush (v := nI 100) dX1_bitsOfFloat_16 (by decide) ?_
  refine xw_icge (tgt := 40) dX1_bitsOfFloat_18 (by decide) (fun c => ?_) (fun c => ?_)
  · replace k := k.1 c
    refine xw_iload_n dX1_bitsOfFloat_40 rfl rfl ?_
    refine xw_bipush (v := nI 23) dX1_bitsOfFloat_41 (by decide) ?_
    refine xw_ishl dX1_bitsOfFloat_43 ?_
    refine xw_fload_n dX1_bitsOfFloat_44 rfl rfl ?_
    refine xw_ldcF dX1_bitsOfFloat_45 cX1_92 ?_
    obtain ⟨k0, k⟩ := k
    refine xw_fmul dX1_bitsOfFloat_47 k0 ?_
    refine xw_f2i dX1_bitsOfFloat_48 ?_
    refine xw_ldcI dX1_bitsOfFloat_49 cX1_93 ?_
    refine xw_isub dX1_bitsOfFloat_51 ?_
    refine xw_iadd dX1_bitsOfFloat_52 ?_
    exact yw_iret dX1_bitsOfFloat_53 rfl k
  · replace k := k.2 c
    refine xw_fload_n dX1_bitsOfFloat_21 rfl rfl ?_
    refine xw_fconst1 dX1_bitsOfFloat_22 ?_
    refine xw_fcmp dX1_bitsOfFloat_23 ?_
    refine xw_ifge (tgt := 40) dX1_bitsOfFloat_24 (by decide) (fun c => ?_) (fun c => ?_)
    · replace k := k.1 c
      refine xw_iload_n dX1_bitsOfFloat_40 rfl rfl ?_
      refine xw_bipush (v := nI 23) dX1_bitsOfFloat_41 (by decide) ?_
      refine xw_ishl dX1_bitsOfFloat_43 ?_
      refine xw_fload_n dX1_bitsOfFloat_44 rfl rfl ?_
      refine xw_ldcF dX1_bitsOfFloat_45 cX1_92 ?_
      obtain ⟨k0, k⟩ := k
      refine xw_fmul dX1_bitsOfFloat_47 k0 ?_
      refine xw_f2i dX1_bitsOfFloat_48 ?_
      refine xw_ldcI dX1_bitsOfFloat_49 cX1_93 ?_
      refine xw_isub dX1_bitsOfFloat_51 ?_
      refine xw_iadd dX1_bitsOfFloat_52 ?_
      exact yw_iret dX1_bitsOfFloat_53 rfl k
    · replace k := k.2 c
      refine xw_fload_n dX1_bitsOfFloat_27 rfl rfl ?_
      refine xw_fconst2 dX1_bitsOfFloat_28 ?_
      obtain ⟨k0, k⟩ := k
      refine xw_fmul dX1_bitsOfFloat_29 k0 ?_
      refine yw_fstore_n (lv' := [xU, .float (FP.fmul v1 FP.fconst2), .int v2, .int v3]) dX1_bitsOfFloat_30 rfl rfl rfl rfl ?_
      refine yw_iinc (lv' := [xU, .float (FP.fmul v1 FP.fconst2), .int (v2 + (-1)), .int v3]) (v := (-1)) dX1_bitsOfFloat_31 rfl rfl rfl rfl rfl ?_
      refine yw_iinc (lv' := [xU, .float (FP.fmul v1 FP.fconst2), .int (v2 + (-1)), .int (v3 + nI 1)]) (v := nI 1) dX1_bitsOfFloat_34 rfl rfl rfl rfl rfl ?_
      refine xw_goto (tgt := 15) dX1_bitsOfFloat_37 (by decide) ?_
      exact k
theorem eX1_bitsOfFloat {v0 : UInt32} {h : xHp} {Q : Int32 → xHp → Prop} (k : Ex mX1_bitsOfFloat 0 [.float v0, xU, xU, xU] [] h 0 0 (xqI Q)) : CI mX1_bitsOfFloat [.float v0] h Q := k
theorem bX1_shareBits_0 {mc ms : Nat} {Q : Int32 → xHp → Prop} (hW : xLay sh R) 
    (k : (((I 86 3) ≤ 0 → Q (nI 0) (sh, I, R)) ∧ (¬ (I 86 3) ≤ 0 → vf_n32 (FP.fdiv (FP.i2f (I 86 4)) (FP.i2f (I 86 3))) ∧ CI mX1_bitsOfFloat [.float (FP.fdiv (FP.i2f (I 86 4)) (FP.i2f (I 86 3)))] (sh, I, R) (fun w h1 => Ex mX1_shareBits 21 [xU] (.int w :: []) h1 mc ms (xqI Q))))) :
    Ex mX1_shareBits 0 [.ref 86] [] (sh, I, R) mc ms (xqI Q) := by
  refine xw_aload_n dX1_shareBits_0 rfl rfl ?_
  refine yw_getI (v := I 86 3) dX1_shareBits_1 fX1_39 rfl (la_86 hW) rfl ?_
  refine xw_ifle (tgt := 24) dX1_shareBits_4 (by decide) (fun c => ?_) (fun c => ?_)
  · replace k := k.1 c
    refine xw_iconst (v := nI 0) dX1_shareBits_24 rfl ?_
    exact yw_iret dX1_shareBits_25 rfl k
  · replace k := k.2 c
    refine xw_aload_n dX1_shareBits_7 rfl rfl ?_
    refine yw_getI (v := I 86 4) dX1_shareBits_8 fX1_43 rfl (la_86 hW) rfl ?_
    refine xw_i2f dX1_shareBits_11 ?_
    refine xw_aload_n dX1_shareBits_12 rfl rfl ?_
    refine yw_getI (v := I 86 3) dX1_shareBits_13 fX1_39 rfl (la_86 hW) rfl ?_
    refine xw_i2f dX1_shareBits_16 ?_
    obtain ⟨k0, k⟩ := k
    refine xw_fdiv dX1_shareBits_17 k0 ?_
    refine yw_sub (lv' := [xU]) ⟨Or.inl rfl, trivial⟩ ?_
    exact yw_cS (As := [.float (FP.fdiv (FP.i2f (I 86 4)) (FP.i2f (I 86 3)))]) (st := []) dX1_shareBits_18 lX1_84 ksX1_bitsOfFloat rfl rfl rfl (Nat.le_of_ble_eq_true rfl) rfl (xk_I k)
theorem bX1_shareBits_21 {s0 : Int32} {mc ms : Nat} {Q : Int32 → xHp → Prop} (hW : xLay sh R) 
    (k : Q s0 (sh, I, R)) :
    Ex mX1_shareBits 21 [xU] [.int s0] (sh, I, R) mc ms (xqI Q) := by
  refine xw_goto (tgt := 25) dX1_shareBits_21 (by decide) ?_
  exact yw_iret dX1_shareBits_25 rfl k
theorem eX1_shareBits {h : xHp} {Q : Int32 → xHp → Prop} (k : Ex mX1_shareBits 0 [.ref 86] [] h 0 0 (xqI Q)) : CI mX1_shareBits [.ref 86] h Q := k
theorem bX1_bitsOfDouble_0 {v0 : UInt64} {mc ms : Nat} {Q : Int64 → xHp → Prop} (hW : xLay sh R) 
    (k : ((0 < (Op.cmpValue (FP.dcmp v0 FP.dconst0) .g) → Ex mX1_bitsOfDouble 18 [xU, xU, .double v0, xU, .int (nI 1023), .int (nI 0)] [] (sh, I, R) mc ms (xqJ Q)) ∧ (¬ 0 < (Op.cmpValue (FP.dcmp v0 FP.dconst0) .g) → Q (lN 0) (sh, I, R)))) :
    Ex mX1_bitsOfDouble 0 [.double v0, xU, xU, xU, xU, xU] [] (sh, I, R) mc ms (xqJ Q) := by
  refine xw_dload_n dX1_bitsOfDouble_0 rfl rfl ?_
  refine yw_dstore_n (lv' := [.double v0, xU, .double v0, xU, xU, xU]) dX1_bitsOfDouble_1 rfl rfl rfl rfl ?_
  refine xw_sipush (v := nI 1023) dX1_bitsOfDouble_2 (by decide) ?_
  refine yw_istore (lv' := [.double v0, xU, .double v0, xU, .int (nI 1023), xU]) dX1_bitsOfDouble_5 rfl rfl rfl ?_
  refine xw_dload_n dX1_bitsOfDouble_7 rfl rfl ?_
  refine xw_dconst0 dX1_bitsOfDouble_8 ?_
  refine xw_dcmp dX1_bitsOfDouble_9 ?_
  refine xw_ifgt (tgt := 15) dX1_bitsOfDouble_10 (by decide) (fun c => ?_) (fun c => ?_)
  · replace k := k.1 c
    refine xw_iconst (v := nI 0) dX1_bitsOfDouble_15 rfl ?_
    refine yw_istore (lv' := [.double v0, xU, .double v0, xU, .int (nI 1023), .int (nI 0)]) dX1_bitsOfDouble_16 rfl rfl rfl ?_
    exact yw_sub (lv' := [xU, xU, .double v0, xU, .int (nI 1023), .int (nI 0)]) ⟨Or.inl rfl, Or.inl rfl, Or.inr rfl, Or.inl rfl, Or.inr rfl, Or.inr rfl, trivial⟩ k
  · replace k := k.2 c
    refine xw_lconst (v := lN 0) dX1_bitsOfDouble_13 rfl ?_
    exact yw_lret dX1_bitsOfDouble_14 rfl k
theorem bX1_bitsOfDouble_18 {v4 v5 : Int32} {v2 : UInt64} {mc ms : Nat} {Q : Int64 → xHp → Prop} (hW : xLay sh R) 
    (k : (((nI 100) ≤ v5 → Ex mX1_bitsOfDouble 49 [xU, xU, .double v2, xU, .int v4, .int (nI 0)] [] (sh, I, R) mc ms (xqJ Q)) ∧ (¬ (nI 100) ≤ v5 → ((0 ≤ (Op.cmpValue (FP.dcmp v2 FP.dconst1) .g) → Ex mX1_bitsOfDouble 49 [xU, xU, .double v2, xU, .int v4, .int (nI 0)] [] (sh, I, R) mc ms (xqJ Q)) ∧ (¬ 0 ≤ (Op.cmpValue (FP.dcmp v2 FP.dconst1) .g) → vf_n64 (FP.dmul v2 (4611686018427387904 : UInt64)) ∧ Ex mX1_bitsOfDouble 18 [xU, xU, .double (FP.dmul v2 (4611686018427387904 : UInt64)), xU, .int (v4 + (-1)), .int (v5 + nI 1)] [] (sh, I, R) mc ms (xqJ Q)))))) :
    Ex mX1_bitsOfDouble 18 [xU, xU, .double v2, xU, .int v4, .int v5] [] (sh, I, R) mc ms (xqJ Q) := by
  refine xw_iload dX1_bitsOfDouble_18 rfl ?_
  refine xw_bipush (v := nI 100) dX1_bitsOfDouble_20 (by decide) ?_
  refine xw_icge (tgt := 46) dX1_bitsOfDouble_22 (by decide) (fun c => ?_) (fun c => ?_)
  · replace k := k.1 c
    refine xw_iconst (v := nI 0) dX1_bitsOfDouble_46 rfl ?_
    refine yw_istore (lv' := [xU, xU, .double v2, xU, .int v4, .int (nI 0)]) dX1_bitsOfDouble_47 rfl rfl rfl ?_
    exact k
  · replace k := k.2 c
    refine xw_dload_n dX1_bitsOfDouble_25 rfl rfl ?_
    refine xw_dconst1 dX1_bitsOfDouble_26 ?_
    refine xw_dcmp dX1_bitsOfDouble_27 ?_
    refine xw_ifge (tgt := 46) dX1_bitsOfDouble_28 (by decide) (fun c => ?_) (fun c => ?_)
    · replace k := k.1 c
      refine xw_iconst (v := nI 0) dX1_bitsOfDouble_46 rfl ?_
      refine yw_istore (lv' := [xU, xU, .double v2, xU, .int v4, .int (nI 0)]) dX1_bitsOfDouble_47 rfl rfl rfl ?_
      exact k
    · replace k := k.2 c
      refine xw_dload_n dX1_bitsOfDouble_31 rfl rfl ?_
      refine xw_ldcD dX1_bitsOfDouble_32 cX1_94 ?_
      obtain ⟨k0, k⟩ := k
      refine xw_dmul dX1_bitsOfDouble_35 k0 ?_
      refine yw_dstore_n (lv' := [xU, xU, .double (FP.dmul v2 (4611686018427387904 : UInt64)), xU, .int v4, .int v5]) dX1_bitsOfDouble_36 rfl rfl rfl rfl ?_
      refine yw_iinc (lv' := [xU, xU, .double (FP.dmul v2 (4611686018427387904 : UInt64)), xU, .int (v4 + (-1)), .int v5]) (v := (-1)) dX1_bitsOfDouble_37 rfl rfl rfl rfl rfl ?_
      refine yw_iinc (lv' := [xU, xU, .double (FP.dmul v2 (4611686018427387904 : UInt64)), xU, .int (v4 + (-1)), .int (v5 + nI 1)]) (v := nI 1) dX1_bitsOfDouble_40 rfl rfl rfl rfl rfl ?_
      refine xw_goto (tgt := 18) dX1_bitsOfDouble_43 (by decide) ?_
      exact k
theorem bX1_bitsOfDouble_49 {v4 v5 : Int32} {v2 : UInt64} {mc ms : Nat} {Q : Int64 → xHp → Prop} (hW : xLay sh R) 
    (k : (((nI 100) ≤ v5 → vf_n64 (FP.dmul v2 (4841369599423283200 : UInt64)) ∧ Q ((v4.toInt64 <<< ((nI 52).toInt64 &&& 63)) + ((FP.d2l (FP.dmul v2 (4841369599423283200 : UInt64))) - (4503599627370496 : Int64))) (sh, I, R)) ∧ (¬ (nI 100) ≤ v5 → (((Op.cmpValue (FP.dcmp v2 (4611686018427387904 : UInt64)) .l) < 0 → vf_n64 (FP.dmul v2 (4841369599423283200 : UInt64)) ∧ Q ((v4.toInt64 <<< ((nI 52).toInt64 &&& 63)) + ((FP.d2l (FP.dmul v2 (4841369599423283200 : UInt64))) - (4503599627370496 : Int64))) (sh, I, R)) ∧ (¬ (Op.cmpValue (FP.dcmp v2 (4611686018427387904 : UInt64)) .l) < 0 → vf_n64 (FP.ddiv v2 (4611686018427387904 : UInt64)) ∧ Ex mX1_bitsOfDouble 49 [xU, xU, .double (FP.ddiv v2 (4611686018427387904 : UInt64)), xU, .int (v4 + nI 1), .int (v5 + nI 1)] [] (sh, I, R) mc ms (xqJ Q)))))) :
    Ex mX1_bitsOfDouble 49 [xU, xU, .double v2, xU, .int v4, .int v5] [] (sh, I, R) mc ms (xqJ Q) := by
  refine xw_iload dX1_bitsOfDouble_49 rfl ?_
  refine xw_bipush (v := nI 100) dX1_bitsOfDouble_51 (by decide) ?_
  refine xw_icge (tgt := 79) dX1_bitsOfDouble_53 (by decide) (fun c => ?_) (fun c => ?_)
  · replace k := k.1 c
    refine xw_iload dX1_bitsOfDouble_79 rfl ?_
    refine xw_i2l dX1_bitsOfDouble_81 ?_
    refine xw_bipush (v := nI 52) dX1_bitsOfDouble_82 (by decide) ?_
    refine xw_lshl dX1_bitsOfDouble_84 ?_
    refine xw_dload_n dX1_bitsOfDouble_85 rfl rfl ?_
    refine xw_ldcD dX1_bitsOfDouble_86 cX1_96 ?_
    obtain ⟨k0, k⟩ := k
    refine xw_dmul dX1_bitsOfDouble_89 k0 ?_
    refine xw_d2l dX1_bitsOfDouble_90 ?_
    refine xw_ldcL dX1_bitsOfDouble_91 cX1_98 ?_
    refine xw_lsub dX1_bitsOfDouble_94 ?_
    refine xw_ladd dX1_bitsOfDouble_95 ?_
    exact yw_lret dX1_bitsOfDouble_96 rfl k
  · replace k := k.2 c
    refine xw_dload_n dX1_bitsOfDouble_56 rfl rfl ?_
    refine xw_ldcD dX1_bitsOfDouble_57 cX1_94 ?_
    refine xw_dcmp dX1_bitsOfDouble_60 ?_
    refine xw_iflt (tgt := 79) dX1_bitsOfDouble_61 (by decide) (fun c => ?_) (fun c => ?_)
    · replace k := k.1 c
      refine xw_iload dX1_bitsOfDouble_79 rfl ?_
      refine xw_i2l dX1_bitsOfDouble_81 ?_
      refine xw_bipush (v := nI 52) dX1_bitsOfDouble_82 (by decide) ?_
      refine xw_lshl dX1_bitsOfDouble_84 ?_
      refine xw_dload_n dX1_bitsOfDouble_85 rfl rfl ?_
      refine xw_ldcD dX1_bitsOfDouble_86 cX1_96 ?_
      obtain ⟨k0, k⟩ := k
      refine xw_dmul dX1_bitsOfDouble_89 k0 ?_
      refine xw_d2l dX1_bitsOfDouble_90 ?_
      refine xw_ldcL dX1_bitsOfDouble_91 cX1_98 ?_
      refine xw_lsub dX1_bitsOfDouble_94 ?_
      refine xw_ladd dX1_bitsOfDouble_95 ?_
      exact yw_lret dX1_bitsOfDouble_96 rfl k
    · replace k := k.2 c
      refine xw_dload_n dX1_bitsOfDouble_64 rfl rfl ?_
      refine xw_ldcD dX1_bitsOfDouble_65 cX1_94 ?_
      obtain ⟨k0, k⟩ := k
      refine xw_ddiv dX1_bitsOfDouble_68 k0 ?_
      refine yw_dstore_n (lv' := [xU, xU, .double (FP.ddiv v2 (4611686018427387904 : UInt64)), xU, .int v4, .int v5]) dX1_bitsOfDouble_69 rfl rfl rfl rfl ?_
      refine yw_iinc (lv' := [xU, xU, .double (FP.ddiv v2 (4611686018427387904 : UInt64)), xU, .int (v4 + nI 1), .int v5]) (v := nI 1) dX1_bitsOfDouble_70 rfl rfl rfl rfl rfl ?_
      refine yw_iinc (lv' := [xU, xU, .double (FP.ddiv v2 (4611686018427387904 : UInt64)), xU, .int (v4 + nI 1), .int (v5 + nI 1)]) (v := nI 1) dX1_bitsOfDouble_73 rfl rfl rfl rfl rfl ?_
      refine xw_goto (tgt := 49) dX1_bitsOfDouble_76 (by decide) ?_
      exact k
theorem eX1_bitsOfDouble {v0 : UInt64} {h : xHp} {Q : Int64 → xHp → Prop} (k : Ex mX1_bitsOfDouble 0 [.double v0, xU, xU, xU, xU, xU] [] h 0 0 (xqJ Q)) : CJ mX1_bitsOfDouble [.double v0] h Q := k
theorem bX1_meanBits_0 {mc ms : Nat} {Q : Int64 → xHp → Prop} (hW : xLay sh R) 
    (k : (((I 86 3) ≤ 0 → Q (lN 0) (sh, I, R)) ∧ (¬ (I 86 3) ≤ 0 → vf_n64 (FP.ddiv (FP.i2d (I 86 5)) (FP.i2d (I 86 3))) ∧ CJ mX1_bitsOfDouble [.double (FP.ddiv (FP.i2d (I 86 5)) (FP.i2d (I 86 3)))] (sh, I, R) (fun w h1 => Ex mX1_meanBits 21 [xU] (.long w :: []) h1 mc ms (xqJ Q))))) :
    Ex mX1_meanBits 0 [.ref 86] [] (sh, I, R) mc ms (xqJ Q) := by
  refine xw_aload_n dX1_meanBits_0 rfl rfl ?_
  refine yw_getI (v := I 86 3) dX1_meanBits_1 fX1_39 rfl (la_86 hW) rfl ?_
  refine xw_ifle (tgt := 24) dX1_meanBits_4 (by decide) (fun c => ?_) (fun c => ?_)
  · replace k := k.1 c
    refine xw_lconst (v := lN 0) dX1_meanBits_24 rfl ?_
    exact yw_lret dX1_meanBits_25 rfl k
  · replace k := k.2 c
    refine xw_aload_n dX1_meanBits_7 rfl rfl ?_
    refine yw_getI (v := I 86 5) dX1_meanBits_8 fX1_46 rfl (la_86 hW) rfl ?_
    refine xw_i2d dX1_meanBits_11 ?_
    refine xw_aload_n dX1_meanBits_12 rfl rfl ?_
    refine yw_getI (v := I 86 3) dX1_meanBits_13 fX1_39 rfl (la_86 hW) rfl ?_
    refine xw_i2d dX1_meanBits_16 ?_
    obtain ⟨k0, k⟩ := k
    refine xw_ddiv dX1_meanBits_17 k0 ?_
    refine yw_sub (lv' := [xU]) ⟨Or.inl rfl, trivial⟩ ?_
    exact yw_cS (As := [.double (FP.ddiv (FP.i2d (I 86 5)) (FP.i2d (I 86 3)))]) (st := []) dX1_meanBits_18 lX1_88 ksX1_bitsOfDouble rfl rfl rfl (Nat.le_of_ble_eq_true rfl) rfl (xk_J k)
theorem bX1_meanBits_21 {s0 : Int64} {mc ms : Nat} {Q : Int64 → xHp → Prop} (hW : xLay sh R) 
    (k : Q s0 (sh, I, R)) :
    Ex mX1_meanBits 21 [xU] [.long s0] (sh, I, R) mc ms (xqJ Q) := by
  refine xw_goto (tgt := 25) dX1_meanBits_21 (by decide) ?_
  exact yw_lret dX1_meanBits_25 rfl k
theorem eX1_meanBits {h : xHp} {Q : Int64 → xHp → Prop} (k : Ex mX1_meanBits 0 [.ref 86] [] h 0 0 (xqJ Q)) : CJ mX1_meanBits [.ref 86] h Q := k
theorem bX0_combines_0 {v1 : Int32} {mc ms : Nat} {Q : Int32 → xHp → Prop} (hW : xLay sh R) 
    (k : CV mX0_goForth [.ref 23, .int v1] (sh, I, R) (fun h1 => Ex mX0_combines 5 [.ref 23, xU] [] h1 mc ms (xqI Q))) :
    Ex mX0_combines 0 [.ref 23, .int v1] [] (sh, I, R) mc ms (xqI Q) := by
  refine xw_aload_n dX0_combines_0 rfl rfl ?_
  refine xw_iload_n dX0_combines_1 rfl rfl ?_
  refine yw_sub (lv' := [.ref 23, xU]) ⟨Or.inr rfl, Or.inl rfl, trivial⟩ ?_
  exact yw_cV (As := [.int v1]) (b := 23) (st := []) dX0_combines_2 lX0_104 kiX0_goForth kvX0_goForth rfl rfl rfl (la_23 hW) rfl (Nat.le_of_ble_eq_true rfl) rfl (xk_V k)
theorem bX0_combines_5 {mc ms : Nat} {Q : Int32 → xHp → Prop} (hW : xLay sh R) 
    (k : CV mX0_makeRow [.ref 23] (sh, I, R) (fun h1 => Ex mX0_combines 9 [.ref 23, xU] [] h1 mc ms (xqI Q))) :
    Ex mX0_combines 5 [.ref 23, xU] [] (sh, I, R) mc ms (xqI Q) := by
  refine xw_aload_n dX0_combines_5 rfl rfl ?_
  exact yw_cV (As := []) (b := 23) (st := []) dX0_combines_6 lX0_110 kiX0_makeRow kvX0_makeRow rfl rfl rfl (la_23 hW) rfl (Nat.le_of_ble_eq_true rfl) rfl (xk_V k)
theorem bX0_combines_9 {mc ms : Nat} {Q : Int32 → xHp → Prop} (hW : xLay sh R) 
    (k : CI mX7_combines [.ref 60, .ref 34] (sh, I, R) (fun w h1 => Ex mX0_combines 20 [xU, xU] (.int w :: []) h1 mc ms (xqI Q))) :
    Ex mX0_combines 9 [.ref 23, xU] [] (sh, I, R) mc ms (xqI Q) := by
  refine xw_aload_n dX0_combines_9 rfl rfl ?_
  refine yw_getR (r := 60) dX0_combines_10 fX0_45 rfl (la_23 hW) (lr_23_2 hW) ?_
  refine xw_aload_n dX0_combines_13 rfl rfl ?_
  refine yw_getR (r := 34) dX0_combines_14 fX0_22 rfl (la_23 hW) (lr_23_5 hW) ?_
  refine yw_sub (lv' := [xU, xU]) ⟨Or.inl rfl, Or.inl rfl, trivial⟩ ?_
  exact yw_cV (As := [.ref 34]) (b := 60) (st := []) dX0_combines_17 lX0_129 kiX7_combines kvX7_combines rfl rfl rfl hW.2.2.2.2.2.1.1 rfl (Nat.le_of_ble_eq_true rfl) rfl (xk_I k)
theorem bX0_combines_20 {s0 : Int32} {mc ms : Nat} {Q : Int32 → xHp → Prop} (hW : xLay sh R) 
    (k : (s0 = 0 ∨ s0 = 1) ∧ Q s0 (sh, I, R)) :
    Ex mX0_combines 20 [xU, xU] [.int s0] (sh, I, R) mc ms (xqI Q) := by
  exact yw_zret dX0_combines_20 rfl (narrow_z _ k.1) k.2
theorem eX0_combines {v1 : Int32} {h : xHp} {Q : Int32 → xHp → Prop} (k : Ex mX0_combines 0 [.ref 23, .int v1] [] h 0 0 (xqI Q)) : CI mX0_combines [.ref 23, .int v1] h Q := k
theorem bX8_takePrefixes_0 {q : Nat} {mc ms : Nat} {Q : xHp → Prop} (hW : xLay sh R) (hq : xStudy sh R q)
    (k : (((nI 4) < (I 23 10) → ((¬ (nI 0) < 0 ∧ ¬ (nI 0) < 0 ∧ ¬ (nI 4) < 0) ∧ (nI 0).toNatClampNeg + (nI 4).toNatClampNeg ≤ 8 ∧ (nI 0).toNatClampNeg + (nI 4).toNatClampNeg ≤ 4) ∧ Q (sh, (xa (xi I q 5 (nI 4)) (q + 1) (va_cpy ((xi I q 5 (nI 4)) 24) ((xi I q 5 (nI 4)) (q + 1)) (nI 0).toNatClampNeg (nI 0).toNatClampNeg (nI 4).toNatClampNeg)), R)) ∧ (¬ (nI 4) < (I 23 10) → ((¬ (nI 0) < 0 ∧ ¬ (nI 0) < 0 ∧ ¬ (I 23 10) < 0) ∧ (nI 0).toNatClampNeg + (I 23 10).toNatClampNeg ≤ 8 ∧ (nI 0).toNatClampNeg + (I 23 10).toNatClampNeg ≤ 4) ∧ Q (sh, (xa (xi I q 5 (I 23 10)) (q + 1) (va_cpy ((xi I q 5 (I 23 10)) 24) ((xi I q 5 (I 23 10)) (q + 1)) (nI 0).toNatClampNeg (nI 0).toNatClampNeg (I 23 10).toNatClampNeg)), R)))) :
    Ex mX8_takePrefixes 0 [.ref q, .ref 23] [] (sh, I, R) mc ms (xqV Q) := by
  refine xw_aload_n dX8_takePrefixes_0 rfl rfl ?_
  refine xw_aload_n dX8_takePrefixes_1 rfl rfl ?_
  refine yw_getI (v := I 23 10) dX8_takePrefixes_2 fX8_61 rfl (la_23 hW) rfl ?_
  refine xw_iconst (v := nI 4) dX8_takePrefixes_5 rfl ?_
  refine xw_icgt (tgt := 16) dX8_takePrefixes_6 (by decide) (fun c => ?_) (fun c => ?_)
  · replace k := k.1 c
    refine xw_iconst (v := nI 4) dX8_takePrefixes_16 rfl ?_
    refine yw_putI dX8_takePrefixes_17 fX8_37 (fun r h => by cases h; exact Or.inl rfl) rfl hq.1 ?_
    refine xw_aload_n dX8_takePrefixes_20 rfl rfl ?_
    refine yw_getR (r := 24) dX8_takePrefixes_21 fX8_66 rfl (la_23 hW) (lr_23_3 hW) ?_
    refine xw_iconst (v := nI 0) dX8_takePrefixes_24 rfl ?_
    refine xw_aload_n dX8_takePrefixes_25 rfl rfl ?_
    refine yw_getR (r := (q + 1)) dX8_takePrefixes_26 fX8_9 rfl hq.1 hq.2.2.2.2.1 ?_
    refine xw_iconst (v := nI 0) dX8_takePrefixes_29 rfl ?_
    refine xw_aload_n dX8_takePrefixes_30 rfl rfl ?_
    refine yw_getI (v := nI 4) dX8_takePrefixes_31 fX8_37 rfl hq.1 (xi_e) ?_
    obtain ⟨k0, k⟩ := k
    refine yw_acopy dX8_takePrefixes_34 lX8_55 (la_24 hW) hq.2.1 rfl rfl (Nat.le_of_ble_eq_true rfl) k0 ?_
    exact yw_vret dX8_takePrefixes_37 rfl k
  · replace k := k.2 c
    refine xw_aload_n dX8_takePrefixes_9 rfl rfl ?_
    refine yw_getI (v := I 23 10) dX8_takePrefixes_10 fX8_61 rfl (la_23 hW) rfl ?_
    refine xw_goto (tgt := 17) dX8_takePrefixes_13 (by decide) ?_
    refine yw_putI dX8_takePrefixes_17 fX8_37 (fun r h => by cases h; exact Or.inl rfl) rfl hq.1 ?_
    refine xw_aload_n dX8_takePrefixes_20 rfl rfl ?_
    refine yw_getR (r := 24) dX8_takePrefixes_21 fX8_66 rfl (la_23 hW) (lr_23_3 hW) ?_
    refine xw_iconst (v := nI 0) dX8_takePrefixes_24 rfl ?_
    refine xw_aload_n dX8_takePrefixes_25 rfl rfl ?_
    refine yw_getR (r := (q + 1)) dX8_takePrefixes_26 fX8_9 rfl hq.1 hq.2.2.2.2.1 ?_
    refine xw_iconst (v := nI 0) dX8_takePrefixes_29 rfl ?_
    refine xw_aload_n dX8_takePrefixes_30 rfl rfl ?_
    refine yw_getI (v := I 23 10) dX8_takePrefixes_31 fX8_37 rfl hq.1 (xi_e) ?_
    obtain ⟨k0, k⟩ := k
    refine yw_acopy dX8_takePrefixes_34 lX8_55 (la_24 hW) hq.2.1 rfl rfl (Nat.le_of_ble_eq_true rfl) k0 ?_
    exact yw_vret dX8_takePrefixes_37 rfl k
theorem eX8_takePrefixes {q : Nat} {h : xHp} {Q : xHp → Prop} (k : Ex mX8_takePrefixes 0 [.ref q, .ref 23] [] h 0 0 (xqV Q)) : CV mX8_takePrefixes [.ref q, .ref 23] h Q := k
theorem bX0_firstOfSomeValue_0 {a1 Ma1 : Nat} {mc ms : Nat} {Q : Int32 → xHp → Prop} (hW : xLay sh R) (ha1 : xMach sh R a1 Ma1)
    (k : CV mX0_seeStates [.ref 23, .ref a1] (sh, I, R) (fun h1 => Ex mX0_firstOfSomeValue 5 [.ref 23, xU, xU] [] h1 mc ms (xqI Q))) :
    Ex mX0_firstOfSomeValue 0 [.ref 23, .ref a1, xU] [] (sh, I, R) mc ms (xqI Q) := by
  refine xw_aload_n dX0_firstOfSomeValue_0 rfl rfl ?_
  refine xw_aload_n dX0_firstOfSomeValue_1 rfl rfl ?_
  refine yw_sub (lv' := [.ref 23, xU, xU]) ⟨Or.inr rfl, Or.inl rfl, Or.inl rfl, trivial⟩ ?_
  exact yw_cV (As := [.ref a1]) (b := 23) (st := []) dX0_firstOfSomeValue_2 lX0_149 kiX0_seeStates kvX0_seeStates rfl rfl rfl (la_23 hW) rfl (Nat.le_of_ble_eq_true rfl) rfl (xk_V k)
theorem bX0_firstOfSomeValue_5 {mc ms : Nat} {Q : Int32 → xHp → Prop} (hW : xLay sh R) 
    (k : CI mX0_widen [.ref 23] (sh, I, R) (fun w h1 => Ex mX0_firstOfSomeValue 9 [.ref 23, xU, xU] (.int w :: []) h1 mc ms (xqI Q))) :
    Ex mX0_firstOfSomeValue 5 [.ref 23, xU, xU] [] (sh, I, R) mc ms (xqI Q) := by
  refine xw_aload_n dX0_firstOfSomeValue_5 rfl rfl ?_
  exact yw_cV (As := []) (b := 23) (st := []) dX0_firstOfSomeValue_6 lX0_152 kiX0_widen kvX0_widen rfl rfl rfl (la_23 hW) rfl (Nat.le_of_ble_eq_true rfl) rfl (xk_I k)
theorem bX0_firstOfSomeValue_9 {s0 : Int32} {mc ms : Nat} {Q : Int32 → xHp → Prop} (hW : xLay sh R) 
    (k : Ex mX0_firstOfSomeValue 12 [.ref 23, xU, .int (nI 0)] [] (sh, I, R) mc ms (xqI Q)) :
    Ex mX0_firstOfSomeValue 9 [.ref 23, xU, xU] [.int s0] (sh, I, R) mc ms (xqI Q) := by
  refine xw_pop dX0_firstOfSomeValue_9 rfl ?_
  refine xw_iconst (v := nI 0) dX0_firstOfSomeValue_10 rfl ?_
  refine yw_istore_n (lv' := [.ref 23, xU, .int (nI 0)]) dX0_firstOfSomeValue_11 rfl rfl rfl rfl ?_
  exact k
theorem bX0_firstOfSomeValue_12 {y9 My9 : Nat} {v2 : Int32} {mc ms : Nat} {Q : Int32 → xHp → Prop} (hW : xLay sh R) (ey9 : R 23 9 = some y9) (hy9 : xMach sh R y9 My9)
    (k : (((I 23 10) ≤ v2 → Q (-4) (sh, I, R)) ∧ (¬ (I 23 10) ≤ v2 → vp_in v2 8 ∧ CI mX3_product [.ref y9, .ref (25 + 1 + v2.toNatClampNeg), .ref (y9 + 2)] (sh, I, R) (fun w h1 => Ex mX0_firstOfSomeValue 40 [.ref 23, xU, .int v2] (.int w :: []) h1 mc ms (xqI Q))))) :
    Ex mX0_firstOfSomeValue 12 [.ref 23, xU, .int v2] [] (sh, I, R) mc ms (xqI Q) := by
  refine xw_iload_n dX0_firstOfSomeValue_12 rfl rfl ?_
  refine xw_aload_n dX0_firstOfSomeValue_13 rfl rfl ?_
  refine yw_getI (v := I 23 10) dX0_firstOfSomeValue_14 fX0_65 rfl (la_23 hW) rfl ?_
  refine xw_icge (tgt := 56) dX0_firstOfSomeValue_17 (by decide) (fun c => ?_) (fun c => ?_)
  · replace k := k.1 c
    refine xw_bipush (v := (-4)) dX0_firstOfSomeValue_56 (by decide) ?_
    exact yw_iret dX0_firstOfSomeValue_58 rfl k
  · replace k := k.2 c
    refine xw_aload_n dX0_firstOfSomeValue_20 rfl rfl ?_
    refine yw_getR (r := y9) dX0_firstOfSomeValue_21 fX0_53 rfl (la_23 hW) ey9 ?_
    refine xw_aload_n dX0_firstOfSomeValue_24 rfl rfl ?_
    refine yw_getR (r := 25) dX0_firstOfSomeValue_25 fX0_19 rfl (la_23 hW) (lr_23_4 hW) ?_
    refine xw_iload_n dX0_firstOfSomeValue_28 rfl rfl ?_
    obtain ⟨kk1, k⟩ := k
    refine yw_aaload (r := (25 + 1 + v2.toNatClampNeg)) dX0_firstOfSomeValue_29 hW.2.2.2.2.2.2.2.2.2.2.2.1.1 (by decide) kk1 (hW.2.2.2.2.2.2.2.2.2.2.2.1.2 _ (vp_lt kk1)).1 ?_
    refine xw_aload_n dX0_firstOfSomeValue_30 rfl rfl ?_
    refine yw_getR (r := y9) dX0_firstOfSomeValue_31 fX0_53 rfl (la_23 hW) ey9 ?_
    refine yw_getR (r := (y9 + 2)) dX0_firstOfSomeValue_34 fX0_81 rfl hy9.1 hy9.2.2.2.2.2.2.1 ?_
    exact yw_cV (As := [.ref (25 + 1 + v2.toNatClampNeg), .ref (y9 + 2)]) (b := y9) (st := []) dX0_firstOfSomeValue_37 lX0_135 kiX3_product kvX3_product rfl rfl rfl hy9.1 rfl (Nat.le_of_ble_eq_true rfl) rfl (xk_I k)
theorem bX0_firstOfSomeValue_40 {v2 s0 : Int32} {mc ms : Nat} {Q : Int32 → xHp → Prop} (hW : xLay sh R) 
    (k : ((s0 = 0 → Ex mX0_firstOfSomeValue 12 [.ref 23, xU, .int (v2 + nI 1)] [] (sh, I, R) mc ms (xqI Q)) ∧ (¬ s0 = 0 → vp_in v2 8 ∧ Q (I 24 v2.toNatClampNeg) (sh, I, R)))) :
    Ex mX0_firstOfSomeValue 40 [.ref 23, xU, .int v2] [.int s0] (sh, I, R) mc ms (xqI Q) := by
  refine xw_ifeq (tgt := 50) dX0_firstOfSomeValue_40 (by decide) (fun c => ?_) (fun c => ?_)
  · replace k := k.1 c
    refine yw_iinc (lv' := [.ref 23, xU, .int (v2 + nI 1)]) (v := nI 1) dX0_firstOfSomeValue_50 rfl rfl rfl rfl rfl ?_
    refine xw_goto (tgt := 12) dX0_firstOfSomeValue_53 (by decide) ?_
    exact k
  · replace k := k.2 c
    refine xw_aload_n dX0_firstOfSomeValue_43 rfl rfl ?_
    refine yw_getR (r := 24) dX0_firstOfSomeValue_44 fX0_11 rfl (la_23 hW) (lr_23_3 hW) ?_
    refine xw_iload_n dX0_firstOfSomeValue_47 rfl rfl ?_
    obtain ⟨k0, k⟩ := k
    refine yw_iaload (v := I 24 v2.toNatClampNeg) dX0_firstOfSomeValue_48 (la_24 hW) k0 rfl ?_
    exact yw_iret dX0_firstOfSomeValue_49 rfl k
theorem eX0_firstOfSomeValue {a1 : Nat} {h : xHp} {Q : Int32 → xHp → Prop} (k : Ex mX0_firstOfSomeValue 0 [.ref 23, .ref a1, xU] [] h 0 0 (xqI Q)) : CI mX0_firstOfSomeValue [.ref 23, .ref a1] h Q := k
theorem bX8_hasSuffix_0 {q : Nat} {v1 : Int32} {mc ms : Nat} {Q : Int32 → xHp → Prop} (hW : xLay sh R) (hq : xStudy sh R q)
    (k : Ex mX8_hasSuffix 2 [.ref q, .int v1, .int (nI 0)] [] (sh, I, R) mc ms (xqI Q)) :
    Ex mX8_hasSuffix 0 [.ref q, .int v1, xU] [] (sh, I, R) mc ms (xqI Q) := by
  refine xw_iconst (v := nI 0) dX8_hasSuffix_0 rfl ?_
  refine yw_istore_n (lv' := [.ref q, .int v1, .int (nI 0)]) dX8_hasSuffix_1 rfl rfl rfl rfl ?_
  exact k
theorem bX8_hasSuffix_2 {q : Nat} {v1 v2 : Int32} {mc ms : Nat} {Q : Int32 → xHp → Prop} (hW : xLay sh R) (hq : xStudy sh R q)
    (k : (((I q 6) ≤ v2 → Q (nI 0) (sh, I, R)) ∧ (¬ (I q 6) ≤ v2 → vp_in v2 48 ∧ ((¬ (I (q + 2) v2.toNatClampNeg) = v1 → Ex mX8_hasSuffix 2 [.ref q, .int v1, .int (v2 + nI 1)] [] (sh, I, R) mc ms (xqI Q)) ∧ ((I (q + 2) v2.toNatClampNeg) = v1 → Q (nI 1) (sh, I, R)))))) :
    Ex mX8_hasSuffix 2 [.ref q, .int v1, .int v2] [] (sh, I, R) mc ms (xqI Q) := by
  refine xw_iload_n dX8_hasSuffix_2 rfl rfl ?_
  refine xw_aload_n dX8_hasSuffix_3 rfl rfl ?_
  refine yw_getI (v := I q 6) dX8_hasSuffix_4 fX8_41 rfl hq.1 rfl ?_
  refine xw_icge (tgt := 28) dX8_hasSuffix_7 (by decide) (fun c => ?_) (fun c => ?_)
  · replace k := k.1 c
    refine xw_iconst (v := nI 0) dX8_hasSuffix_28 rfl ?_
    exact yw_zret dX8_hasSuffix_29 rfl (by decide) k
  · replace k := k.2 c
    refine xw_aload_n dX8_hasSuffix_10 rfl rfl ?_
    refine yw_getR (r := (q + 2)) dX8_hasSuffix_11 fX8_15 rfl hq.1 hq.2.2.2.2.2.1 ?_
    refine xw_iload_n dX8_hasSuffix_14 rfl rfl ?_
    obtain ⟨k0, k⟩ := k
    refine yw_iaload (v := I (q + 2) v2.toNatClampNeg) dX8_hasSuffix_15 hq.2.2.1 k0 rfl ?_
    refine xw_iload_n dX8_hasSuffix_16 rfl rfl ?_
    refine xw_icne (tgt := 22) dX8_hasSuffix_17 (by decide) (fun c => ?_) (fun c => ?_)
    · replace k := k.1 c
      refine yw_iinc (lv' := [.ref q, .int v1, .int (v2 + nI 1)]) (v := nI 1) dX8_hasSuffix_22 rfl rfl rfl rfl rfl ?_
      refine xw_goto (tgt := 2) dX8_hasSuffix_25 (by decide) ?_
      exact k
    · replace k := k.2 c
      refine xw_iconst (v := nI 1) dX8_hasSuffix_20 rfl ?_
      exact yw_zret dX8_hasSuffix_21 rfl (by decide) k
theorem eX8_hasSuffix {q : Nat} {v1 : Int32} {h : xHp} {Q : Int32 → xHp → Prop} (k : Ex mX8_hasSuffix 0 [.ref q, .int v1, xU] [] h 0 0 (xqI Q)) : CI mX8_hasSuffix [.ref q, .int v1] h Q := k
theorem bX8_addEndings_0 {q : Nat} {v1 : Int32} {mc ms : Nat} {Q : xHp → Prop} (hW : xLay sh R) (hq : xStudy sh R q)
    (k : CI mX5_lengthOf [.ref 1, .int v1] (sh, I, R) (fun w h1 => Ex mX8_addEndings 8 [.ref q, .int v1, xU, xU, xU] (.int w :: []) h1 mc ms (xqV Q))) :
    Ex mX8_addEndings 0 [.ref q, .int v1, xU, xU, xU] [] (sh, I, R) mc ms (xqV Q) := by
  refine xw_aload_n dX8_addEndings_0 rfl rfl ?_
  refine yw_getR (r := 1) dX8_addEndings_1 fX8_18 rfl hq.1 hq.2.2.2.1 ?_
  refine xw_iload_n dX8_addEndings_4 rfl rfl ?_
  exact yw_cV (As := [.int v1]) (b := 1) (st := []) dX8_addEndings_5 lX8_69 kiX5_lengthOf kvX5_lengthOf rfl rfl rfl (la_1 hW) rfl (Nat.le_of_ble_eq_true rfl) rfl (xk_I k)
theorem bX8_addEndings_8 {q : Nat} {v1 s0 : Int32} {mc ms : Nat} {Q : xHp → Prop} (hW : xLay sh R) (hq : xStudy sh R q)
    (k : Ex mX8_addEndings 11 [.ref q, .int v1, .int s0, .int (nI 0), xU] [] (sh, I, R) mc ms (xqV Q)) :
    Ex mX8_addEndings 8 [.ref q, .int v1, xU, xU, xU] [.int s0] (sh, I, R) mc ms (xqV Q) := by
  refine yw_istore_n (lv' := [.ref q, .int v1, .int s0, xU, xU]) dX8_addEndings_8 rfl rfl rfl rfl ?_
  refine xw_iconst (v := nI 0) dX8_addEndings_9 rfl ?_
  refine yw_istore_n (lv' := [.ref q, .int v1, .int s0, .int (nI 0), xU]) dX8_addEndings_10 rfl rfl rfl rfl ?_
  exact k
theorem bX8_addEndings_11 {q : Nat} {v1 v2 v3 : Int32} {mc ms : Nat} {Q : xHp → Prop} (hW : xLay sh R) (hq : xStudy sh R q)
    (k : ((v2 < v3 → Q (sh, I, R)) ∧ (¬ v2 < v3 → CI mX5_ending [.ref 1, .int v1, .int v3] (sh, I, R) (fun w h1 => Ex mX8_addEndings 25 [.ref q, .int v1, .int v2, .int v3, xU] (.int w :: []) h1 mc ms (xqV Q))))) :
    Ex mX8_addEndings 11 [.ref q, .int v1, .int v2, .int v3, xU] [] (sh, I, R) mc ms (xqV Q) := by
  refine xw_iload_n dX8_addEndings_11 rfl rfl ?_
  refine xw_iload_n dX8_addEndings_12 rfl rfl ?_
  refine xw_icgt (tgt := 72) dX8_addEndings_13 (by decide) (fun c => ?_) (fun c => ?_)
  · replace k := k.1 c
    exact yw_vret dX8_addEndings_72 rfl k
  · replace k := k.2 c
    refine xw_aload_n dX8_addEndings_16 rfl rfl ?_
    refine yw_getR (r := 1) dX8_addEndings_17 fX8_18 rfl hq.1 hq.2.2.2.1 ?_
    refine xw_iload_n dX8_addEndings_20 rfl rfl ?_
    refine xw_iload_n dX8_addEndings_21 rfl rfl ?_
    exact yw_cV (As := [.int v1, .int v3]) (b := 1) (st := []) dX8_addEndings_22 lX8_75 kiX5_ending kvX5_ending rfl rfl rfl (la_1 hW) rfl (Nat.le_of_ble_eq_true rfl) rfl (xk_I k)
theorem bX8_addEndings_25 {q : Nat} {v1 v2 v3 s0 : Int32} {mc ms : Nat} {Q : xHp → Prop} (hW : xLay sh R) (hq : xStudy sh R q)
    (k : (((nI 48) ≤ (I q 6) → Ex mX8_addEndings 11 [.ref q, .int v1, .int v2, .int (v3 + nI 1), xU] [] (sh, I, R) mc ms (xqV Q)) ∧ (¬ (nI 48) ≤ (I q 6) → CI mX8_hasSuffix [.ref q, .int s0] (sh, I, R) (fun w h1 => Ex mX8_addEndings 42 [.ref q, .int v1, .int v2, .int v3, .int s0] (.int w :: []) h1 mc ms (xqV Q))))) :
    Ex mX8_addEndings 25 [.ref q, .int v1, .int v2, .int v3, xU] [.int s0] (sh, I, R) mc ms (xqV Q) := by
  refine yw_istore (lv' := [.ref q, .int v1, .int v2, .int v3, .int s0]) dX8_addEndings_25 rfl rfl rfl ?_
  refine xw_aload_n dX8_addEndings_27 rfl rfl ?_
  refine yw_getI (v := I q 6) dX8_addEndings_28 fX8_41 rfl hq.1 rfl ?_
  refine xw_bipush (v := nI 48) dX8_addEndings_31 (by decide) ?_
  refine xw_icge (tgt := 66) dX8_addEndings_33 (by decide) (fun c => ?_) (fun c => ?_)
  · replace k := k.1 c
    refine yw_iinc (lv' := [.ref q, .int v1, .int v2, .int (v3 + nI 1), .int s0]) (v := nI 1) dX8_addEndings_66 rfl rfl rfl rfl rfl ?_
    refine xw_goto (tgt := 11) dX8_addEndings_69 (by decide) ?_
    exact yw_sub (lv' := [.ref q, .int v1, .int v2, .int (v3 + nI 1), xU]) ⟨Or.inr rfl, Or.inr rfl, Or.inr rfl, Or.inr rfl, Or.inl rfl, trivial⟩ k
  · replace k := k.2 c
    refine xw_aload_n dX8_addEndings_36 rfl rfl ?_
    refine xw_iload dX8_addEndings_37 rfl ?_
    exact yw_cV (As := [.int s0]) (b := q) (st := []) dX8_addEndings_39 lX8_79 kiX8_hasSuffix kvX8_hasSuffix rfl rfl rfl hq.1 rfl (Nat.le_of_ble_eq_true rfl) rfl (xk_I k)
theorem bX8_addEndings_42 {q : Nat} {v1 v2 v3 v4 s0 : Int32} {mc ms : Nat} {Q : xHp → Prop} (hW : xLay sh R) (hq : xStudy sh R q)
    (k : ((¬ s0 = 0 → Ex mX8_addEndings 11 [.ref q, .int v1, .int v2, .int (v3 + nI 1), xU] [] (sh, I, R) mc ms (xqV Q)) ∧ (s0 = 0 → vp_in (I q 6) 48 ∧ Ex mX8_addEndings 11 [.ref q, .int v1, .int v2, .int (v3 + nI 1), xU] [] (sh, (xi (xi I (q + 2) ((I q 6).toNatClampNeg) v4) q 6 ((I q 6) + (nI 1))), R) mc ms (xqV Q)))) :
    Ex mX8_addEndings 42 [.ref q, .int v1, .int v2, .int v3, .int v4] [.int s0] (sh, I, R) mc ms (xqV Q) := by
  refine xw_ifne (tgt := 66) dX8_addEndings_42 (by decide) (fun c => ?_) (fun c => ?_)
  · replace k := k.1 c
    refine yw_iinc (lv' := [.ref q, .int v1, .int v2, .int (v3 + nI 1), .int v4]) (v := nI 1) dX8_addEndings_66 rfl rfl rfl rfl rfl ?_
    refine xw_goto (tgt := 11) dX8_addEndings_69 (by decide) ?_
    exact yw_sub (lv' := [.ref q, .int v1, .int v2, .int (v3 + nI 1), xU]) ⟨Or.inr rfl, Or.inr rfl, Or.inr rfl, Or.inr rfl, Or.inl rfl, trivial⟩ k
  · replace k := k.2 c
    refine xw_aload_n dX8_addEndings_45 rfl rfl ?_
    refine yw_getR (r := (q + 2)) dX8_addEndings_46 fX8_15 rfl hq.1 hq.2.2.2.2.2.1 ?_
    refine xw_aload_n dX8_addEndings_49 rfl rfl ?_
    refine yw_getI (v := I q 6) dX8_addEndings_50 fX8_41 rfl hq.1 rfl ?_
    refine xw_iload dX8_addEndings_53 rfl ?_
    obtain ⟨k0, k⟩ := k
    refine yw_iastore dX8_addEndings_55 hq.2.2.1 k0 ?_
    refine xw_aload_n dX8_addEndings_56 rfl rfl ?_
    refine xw_dup dX8_addEndings_57 rfl ?_
    refine yw_getI (v := I q 6) dX8_addEndings_58 fX8_41 rfl hq.1 (xi_p (a := q) (q := (q + 2)) (by omega)) ?_
    refine xw_iconst (v := nI 1) dX8_addEndings_61 rfl ?_
    refine xw_iadd dX8_addEndings_62 ?_
    refine yw_putI dX8_addEndings_63 fX8_41 (fun r h => by cases h; exact Or.inl rfl) rfl hq.1 ?_
    refine yw_iinc (lv' := [.ref q, .int v1, .int v2, .int (v3 + nI 1), .int v4]) (v := nI 1) dX8_addEndings_66 rfl rfl rfl rfl rfl ?_
    refine xw_goto (tgt := 11) dX8_addEndings_69 (by decide) ?_
    exact yw_sub (lv' := [.ref q, .int v1, .int v2, .int (v3 + nI 1), xU]) ⟨Or.inr rfl, Or.inr rfl, Or.inr rfl, Or.inr rfl, Or.inl rfl, trivial⟩ k
theorem eX8_addEndings {q : Nat} {v1 : Int32} {h : xHp} {Q : xHp → Prop} (k : Ex mX8_addEndings 0 [.ref q, .int v1, xU, xU, xU] [] h 0 0 (xqV Q)) : CV mX8_addEndings [.ref q, .int v1] h Q := k
theorem bX8_newEndings_0 {q : Nat} {v1 : Int32} {mc ms : Nat} {Q : Int32 → xHp → Prop} (hW : xLay sh R) (hq : xStudy sh R q)
    (k : CI mX5_lengthOf [.ref 1, .int v1] (sh, I, R) (fun w h1 => Ex mX8_newEndings 10 [.ref q, .int v1, .int (nI 0), xU, xU] (.int w :: []) h1 mc ms (xqI Q))) :
    Ex mX8_newEndings 0 [.ref q, .int v1, xU, xU, xU] [] (sh, I, R) mc ms (xqI Q) := by
  refine xw_iconst (v := nI 0) dX8_newEndings_0 rfl ?_
  refine yw_istore_n (lv' := [.ref q, .int v1, .int (nI 0), xU, xU]) dX8_newEndings_1 rfl rfl rfl rfl ?_
  refine xw_aload_n dX8_newEndings_2 rfl rfl ?_
  refine yw_getR (r := 1) dX8_newEndings_3 fX8_18 rfl hq.1 hq.2.2.2.1 ?_
  refine xw_iload_n dX8_newEndings_6 rfl rfl ?_
  exact yw_cV (As := [.int v1]) (b := 1) (st := []) dX8_newEndings_7 lX8_69 kiX5_lengthOf kvX5_lengthOf rfl rfl rfl (la_1 hW) rfl (Nat.le_of_ble_eq_true rfl) rfl (xk_I k)
theorem bX8_newEndings_10 {q : Nat} {v1 v2 s0 : Int32} {mc ms : Nat} {Q : Int32 → xHp → Prop} (hW : xLay sh R) (hq : xStudy sh R q)
    (k : Ex mX8_newEndings 14 [.ref q, .int v1, .int v2, .int s0, .int (nI 0)] [] (sh, I, R) mc ms (xqI Q)) :
    Ex mX8_newEndings 10 [.ref q, .int v1, .int v2, xU, xU] [.int s0] (sh, I, R) mc ms (xqI Q) := by
  refine yw_istore_n (lv' := [.ref q, .int v1, .int v2, .int s0, xU]) dX8_newEndings_10 rfl rfl rfl rfl ?_
  refine xw_iconst (v := nI 0) dX8_newEndings_11 rfl ?_
  refine yw_istore (lv' := [.ref q, .int v1, .int v2, .int s0, .int (nI 0)]) dX8_newEndings_12 rfl rfl rfl ?_
  exact k
theorem bX8_newEndings_14 {q : Nat} {v1 v2 v3 v4 : Int32} {mc ms : Nat} {Q : Int32 → xHp → Prop} (hW : xLay sh R) (hq : xStudy sh R q)
    (k : ((v3 < v4 → Q v2 (sh, I, R)) ∧ (¬ v3 < v4 → CI mX5_ending [.ref 1, .int v1, .int v4] (sh, I, R) (fun w h1 => Ex mX8_newEndings 32 [.ref q, .int v1, xU, .int v3, .int v4] (.int w :: [.ref q, .int v2]) h1 mc ms (xqI Q))))) :
    Ex mX8_newEndings 14 [.ref q, .int v1, .int v2, .int v3, .int v4] [] (sh, I, R) mc ms (xqI Q) := by
  refine xw_iload dX8_newEndings_14 rfl ?_
  refine xw_iload_n dX8_newEndings_16 rfl rfl ?_
  refine xw_icgt (tgt := 51) dX8_newEndings_17 (by decide) (fun c => ?_) (fun c => ?_)
  · replace k := k.1 c
    refine xw_iload_n dX8_newEndings_51 rfl rfl ?_
    exact yw_iret dX8_newEndings_52 rfl k
  · replace k := k.2 c
    refine xw_iload_n dX8_newEndings_20 rfl rfl ?_
    refine xw_aload_n dX8_newEndings_21 rfl rfl ?_
    refine xw_aload_n dX8_newEndings_22 rfl rfl ?_
    refine yw_getR (r := 1) dX8_newEndings_23 fX8_18 rfl hq.1 hq.2.2.2.1 ?_
    refine xw_iload_n dX8_newEndings_26 rfl rfl ?_
    refine xw_iload dX8_newEndings_27 rfl ?_
    refine yw_sub (lv' := [.ref q, .int v1, xU, .int v3, .int v4]) ⟨Or.inr rfl, Or.inr rfl, Or.inl rfl, Or.inr rfl, Or.inr rfl, trivial⟩ ?_
    exact yw_cV (As := [.int v1, .int v4]) (b := 1) (st := [.ref q, .int v2]) dX8_newEndings_29 lX8_75 kiX5_ending kvX5_ending rfl rfl rfl (la_1 hW) rfl (Nat.le_of_ble_eq_true rfl) rfl (xk_I k)
theorem bX8_newEndings_32 {q : Nat} {v1 v3 v4 s2 s0 : Int32} {mc ms : Nat} {Q : Int32 → xHp → Prop} (hW : xLay sh R) (hq : xStudy sh R q)
    (k : CI mX8_hasSuffix [.ref q, .int s2] (sh, I, R) (fun w h1 => Ex mX8_newEndings 35 [.ref q, .int v1, xU, .int v3, .int v4] (.int w :: [.int s0]) h1 mc ms (xqI Q))) :
    Ex mX8_newEndings 32 [.ref q, .int v1, xU, .int v3, .int v4] [.int s2, .ref q, .int s0] (sh, I, R) mc ms (xqI Q) := by
  exact yw_cV (As := [.int s2]) (b := q) (st := [.int s0]) dX8_newEndings_32 lX8_79 kiX8_hasSuffix kvX8_hasSuffix rfl rfl rfl hq.1 rfl (Nat.le_of_ble_eq_true rfl) rfl (xk_I k)
theorem bX8_newEndings_35 {q : Nat} {v1 v3 v4 s1 s0 : Int32} {mc ms : Nat} {Q : Int32 → xHp → Prop} (hW : xLay sh R) (hq : xStudy sh R q)
    (k : ((s1 = 0 → Ex mX8_newEndings 14 [.ref q, .int v1, .int (s0 + (nI 1)), .int v3, .int (v4 + nI 1)] [] (sh, I, R) mc ms (xqI Q)) ∧ (¬ s1 = 0 → Ex mX8_newEndings 14 [.ref q, .int v1, .int (s0 + (nI 0)), .int v3, .int (v4 + nI 1)] [] (sh, I, R) mc ms (xqI Q)))) :
    Ex mX8_newEndings 35 [.ref q, .int v1, xU, .int v3, .int v4] [.int s1, .int s0] (sh, I, R) mc ms (xqI Q) := by
  refine xw_ifeq (tgt := 42) dX8_newEndings_35 (by decide) (fun c => ?_) (fun c => ?_)
  · replace k := k.1 c
    refine xw_iconst (v := nI 1) dX8_newEndings_42 rfl ?_
    refine xw_iadd dX8_newEndings_43 ?_
    refine yw_istore_n (lv' := [.ref q, .int v1, .int (s0 + (nI 1)), .int v3, .int v4]) dX8_newEndings_44 rfl rfl rfl rfl ?_
    refine yw_iinc (lv' := [.ref q, .int v1, .int (s0 + (nI 1)), .int v3, .int (v4 + nI 1)]) (v := nI 1) dX8_newEndings_45 rfl rfl rfl rfl rfl ?_
    refine xw_goto (tgt := 14) dX8_newEndings_48 (by decide) ?_
    exact k
  · replace k := k.2 c
    refine xw_iconst (v := nI 0) dX8_newEndings_38 rfl ?_
    refine xw_goto (tgt := 43) dX8_newEndings_39 (by decide) ?_
    refine xw_iadd dX8_newEndings_43 ?_
    refine yw_istore_n (lv' := [.ref q, .int v1, .int (s0 + (nI 0)), .int v3, .int v4]) dX8_newEndings_44 rfl rfl rfl rfl ?_
    refine yw_iinc (lv' := [.ref q, .int v1, .int (s0 + (nI 0)), .int v3, .int (v4 + nI 1)]) (v := nI 1) dX8_newEndings_45 rfl rfl rfl rfl rfl ?_
    refine xw_goto (tgt := 14) dX8_newEndings_48 (by decide) ?_
    exact k
theorem eX8_newEndings {q : Nat} {v1 : Int32} {h : xHp} {Q : Int32 → xHp → Prop} (k : Ex mX8_newEndings 0 [.ref q, .int v1, xU, xU, xU] [] h 0 0 (xqI Q)) : CI mX8_newEndings [.ref q, .int v1] h Q := k
theorem bX8_copy_0 {a1 q : Nat} {mc ms : Nat} {Q : xHp → Prop} (hW : xLay sh R) (hq : xStudy sh R q) (ha1 : xStudy sh R a1)
    (k : CV mX3_copy [.ref (q + 3), .ref (a1 + 3)] (sh, I, R) (fun h1 => Ex mX8_copy 11 [.ref q, .ref a1] [] h1 mc ms (xqV Q))) :
    Ex mX8_copy 0 [.ref q, .ref a1] [] (sh, I, R) mc ms (xqV Q) := by
  refine xw_aload_n dX8_copy_0 rfl rfl ?_
  refine yw_getR (r := (q + 3)) dX8_copy_1 fX8_27 rfl hq.1 hq.2.2.2.2.2.2.1 ?_
  refine xw_aload_n dX8_copy_4 rfl rfl ?_
  refine yw_getR (r := (a1 + 3)) dX8_copy_5 fX8_27 rfl ha1.1 ha1.2.2.2.2.2.2.1 ?_
  exact yw_cV (As := [.ref (a1 + 3)]) (b := (q + 3)) (st := []) dX8_copy_8 lX8_51 kiX3_copy kvX3_copy rfl rfl rfl hq.2.2.2.2.2.2.2.2.1.1 rfl (Nat.le_of_ble_eq_true rfl) rfl (xk_V k)
theorem bX8_copy_11 {a1 q : Nat} {mc ms : Nat} {Q : xHp → Prop} (hW : xLay sh R) (hq : xStudy sh R q) (ha1 : xStudy sh R a1)
    (k : CV mX3_copy [.ref (q + 7), .ref (a1 + 7)] (sh, I, R) (fun h1 => Ex mX8_copy 22 [.ref q, .ref a1] [] h1 mc ms (xqV Q))) :
    Ex mX8_copy 11 [.ref q, .ref a1] [] (sh, I, R) mc ms (xqV Q) := by
  refine xw_aload_n dX8_copy_11 rfl rfl ?_
  refine yw_getR (r := (q + 7)) dX8_copy_12 fX8_31 rfl hq.1 hq.2.2.2.2.2.2.2.1 ?_
  refine xw_aload_n dX8_copy_15 rfl rfl ?_
  refine yw_getR (r := (a1 + 7)) dX8_copy_16 fX8_31 rfl ha1.1 ha1.2.2.2.2.2.2.2.1 ?_
  exact yw_cV (As := [.ref (a1 + 7)]) (b := (q + 7)) (st := []) dX8_copy_19 lX8_51 kiX3_copy kvX3_copy rfl rfl rfl hq.2.2.2.2.2.2.2.2.2.1 rfl (Nat.le_of_ble_eq_true rfl) rfl (xk_V k)
theorem bX8_copy_22 {a1 q : Nat} {mc ms : Nat} {Q : xHp → Prop} (hW : xLay sh R) (hq : xStudy sh R q) (ha1 : xStudy sh R a1)
    (k : ((¬ (nI 0) < 0 ∧ ¬ (nI 0) < 0 ∧ ¬ (I a1 5) < 0) ∧ (nI 0).toNatClampNeg + (I a1 5).toNatClampNeg ≤ 4 ∧ (nI 0).toNatClampNeg + (I a1 5).toNatClampNeg ≤ 4) ∧ ((¬ (nI 0) < 0 ∧ ¬ (nI 0) < 0 ∧ ¬ ((xa I (q + 1) (va_cpy (I (a1 + 1)) (I (q + 1)) (nI 0).toNatClampNeg (nI 0).toNatClampNeg (I a1 5).toNatClampNeg)) a1 6) < 0) ∧ (nI 0).toNatClampNeg + ((xa I (q + 1) (va_cpy (I (a1 + 1)) (I (q + 1)) (nI 0).toNatClampNeg (nI 0).toNatClampNeg (I a1 5).toNatClampNeg)) a1 6).toNatClampNeg ≤ 48 ∧ (nI 0).toNatClampNeg + ((xa I (q + 1) (va_cpy (I (a1 + 1)) (I (q + 1)) (nI 0).toNatClampNeg (nI 0).toNatClampNeg (I a1 5).toNatClampNeg)) a1 6).toNatClampNeg ≤ 48) ∧ (((xi (xi (xi (xa (xa I (q + 1) (va_cpy (I (a1 + 1)) (I (q + 1)) (nI 0).toNatClampNeg (nI 0).toNatClampNeg (I a1 5).toNatClampNeg)) (q + 2) (va_cpy ((xa I (q + 1) (va_cpy (I (a1 + 1)) (I (q + 1)) (nI 0).toNatClampNeg (nI 0).toNatClampNeg (I a1 5).toNatClampNeg)) (a1 + 2)) ((xa I (q + 1) (va_cpy (I (a1 + 1)) (I (q + 1)) (nI 0).toNatClampNeg (nI 0).toNatClampNeg (I a1 5).toNatClampNeg)) (q + 2)) (nI 0).toNatClampNeg (nI 0).toNatClampNeg ((xa I (q + 1) (va_cpy (I (a1 + 1)) (I (q + 1)) (nI 0).toNatClampNeg (nI 0).toNatClampNeg (I a1 5).toNatClampNeg)) a1 6).toNatClampNeg)) q 5 ((xa (xa I (q + 1) (va_cpy (I (a1 + 1)) (I (q + 1)) (nI 0).toNatClampNeg (nI 0).toNatClampNeg (I a1 5).toNatClampNeg)) (q + 2) (va_cpy ((xa I (q + 1) (va_cpy (I (a1 + 1)) (I (q + 1)) (nI 0).toNatClampNeg (nI 0).toNatClampNeg (I a1 5).toNatClampNeg)) (a1 + 2)) ((xa I (q + 1) (va_cpy (I (a1 + 1)) (I (q + 1)) (nI 0).toNatClampNeg (nI 0).toNatClampNeg (I a1 5).toNatClampNeg)) (q + 2)) (nI 0).toNatClampNeg (nI 0).toNatClampNeg ((xa I (q + 1) (va_cpy (I (a1 + 1)) (I (q + 1)) (nI 0).toNatClampNeg (nI 0).toNatClampNeg (I a1 5).toNatClampNeg)) a1 6).toNatClampNeg)) a1 5)) q 6 ((xi (xa (xa I (q + 1) (va_cpy (I (a1 + 1)) (I (q + 1)) (nI 0).toNatClampNeg (nI 0).toNatClampNeg (I a1 5).toNatClampNeg)) (q + 2) (va_cpy ((xa I (q + 1) (va_cpy (I (a1 + 1)) (I (q + 1)) (nI 0).toNatClampNeg (nI 0).toNatClampNeg (I a1 5).toNatClampNeg)) (a1 + 2)) ((xa I (q + 1) (va_cpy (I (a1 + 1)) (I (q + 1)) (nI 0).toNatClampNeg (nI 0).toNatClampNeg (I a1 5).toNatClampNeg)) (q + 2)) (nI 0).toNatClampNeg (nI 0).toNatClampNeg ((xa I (q + 1) (va_cpy (I (a1 + 1)) (I (q + 1)) (nI 0).toNatClampNeg (nI 0).toNatClampNeg (I a1 5).toNatClampNeg)) a1 6).toNatClampNeg)) q 5 ((xa (xa I (q + 1) (va_cpy (I (a1 + 1)) (I (q + 1)) (nI 0).toNatClampNeg (nI 0).toNatClampNeg (I a1 5).toNatClampNeg)) (q + 2) (va_cpy ((xa I (q + 1) (va_cpy (I (a1 + 1)) (I (q + 1)) (nI 0).toNatClampNeg (nI 0).toNatClampNeg (I a1 5).toNatClampNeg)) (a1 + 2)) ((xa I (q + 1) (va_cpy (I (a1 + 1)) (I (q + 1)) (nI 0).toNatClampNeg (nI 0).toNatClampNeg (I a1 5).toNatClampNeg)) (q + 2)) (nI 0).toNatClampNeg (nI 0).toNatClampNeg ((xa I (q + 1) (va_cpy (I (a1 + 1)) (I (q + 1)) (nI 0).toNatClampNeg (nI 0).toNatClampNeg (I a1 5).toNatClampNeg)) a1 6).toNatClampNeg)) a1 5)) a1 6)) q 7 ((xi (xi (xa (xa I (q + 1) (va_cpy (I (a1 + 1)) (I (q + 1)) (nI 0).toNatClampNeg (nI 0).toNatClampNeg (I a1 5).toNatClampNeg)) (q + 2) (va_cpy ((xa I (q + 1) (va_cpy (I (a1 + 1)) (I (q + 1)) (nI 0).toNatClampNeg (nI 0).toNatClampNeg (I a1 5).toNatClampNeg)) (a1 + 2)) ((xa I (q + 1) (va_cpy (I (a1 + 1)) (I (q + 1)) (nI 0).toNatClampNeg (nI 0).toNatClampNeg (I a1 5).toNatClampNeg)) (q + 2)) (nI 0).toNatClampNeg (nI 0).toNatClampNeg ((xa I (q + 1) (va_cpy (I (a1 + 1)) (I (q + 1)) (nI 0).toNatClampNeg (nI 0).toNatClampNeg (I a1 5).toNatClampNeg)) a1 6).toNatClampNeg)) q 5 ((xa (xa I (q + 1) (va_cpy (I (a1 + 1)) (I (q + 1)) (nI 0).toNatClampNeg (nI 0).toNatClampNeg (I a1 5).toNatClampNeg)) (q + 2) (va_cpy ((xa I (q + 1) (va_cpy (I (a1 + 1)) (I (q + 1)) (nI 0).toNatClampNeg (nI 0).toNatClampNeg (I a1 5).toNatClampNeg)) (a1 + 2)) ((xa I (q + 1) (va_cpy (I (a1 + 1)) (I (q + 1)) (nI 0).toNatClampNeg (nI 0).toNatClampNeg (I a1 5).toNatClampNeg)) (q + 2)) (nI 0).toNatClampNeg (nI 0).toNatClampNeg ((xa I (q + 1) (va_cpy (I (a1 + 1)) (I (q + 1)) (nI 0).toNatClampNeg (nI 0).toNatClampNeg (I a1 5).toNatClampNeg)) a1 6).toNatClampNeg)) a1 5)) q 6 ((xi (xa (xa I (q + 1) (va_cpy (I (a1 + 1)) (I (q + 1)) (nI 0).toNatClampNeg (nI 0).toNatClampNeg (I a1 5).toNatClampNeg)) (q + 2) (va_cpy ((xa I (q + 1) (va_cpy (I (a1 + 1)) (I (q + 1)) (nI 0).toNatClampNeg (nI 0).toNatClampNeg (I a1 5).toNatClampNeg)) (a1 + 2)) ((xa I (q + 1) (va_cpy (I (a1 + 1)) (I (q + 1)) (nI 0).toNatClampNeg (nI 0).toNatClampNeg (I a1 5).toNatClampNeg)) (q + 2)) (nI 0).toNatClampNeg (nI 0).toNatClampNeg ((xa I (q + 1) (va_cpy (I (a1 + 1)) (I (q + 1)) (nI 0).toNatClampNeg (nI 0).toNatClampNeg (I a1 5).toNatClampNeg)) a1 6).toNatClampNeg)) q 5 ((xa (xa I (q + 1) (va_cpy (I (a1 + 1)) (I (q + 1)) (nI 0).toNatClampNeg (nI 0).toNatClampNeg (I a1 5).toNatClampNeg)) (q + 2) (va_cpy ((xa I (q + 1) (va_cpy (I (a1 + 1)) (I (q + 1)) (nI 0).toNatClampNeg (nI 0).toNatClampNeg (I a1 5).toNatClampNeg)) (a1 + 2)) ((xa I (q + 1) (va_cpy (I (a1 + 1)) (I (q + 1)) (nI 0).toNatClampNeg (nI 0).toNatClampNeg (I a1 5).toNatClampNeg)) (q + 2)) (nI 0).toNatClampNeg (nI 0).toNatClampNeg ((xa I (q + 1) (va_cpy (I (a1 + 1)) (I (q + 1)) (nI 0).toNatClampNeg (nI 0).toNatClampNeg (I a1 5).toNatClampNeg)) a1 6).toNatClampNeg)) a1 5)) a1 6)) a1 7)) a1 8) = 0 ∨ ((xi (xi (xi (xa (xa I (q + 1) (va_cpy (I (a1 + 1)) (I (q + 1)) (nI 0).toNatClampNeg (nI 0).toNatClampNeg (I a1 5).toNatClampNeg)) (q + 2) (va_cpy ((xa I (q + 1) (va_cpy (I (a1 + 1)) (I (q + 1)) (nI 0).toNatClampNeg (nI 0).toNatClampNeg (I a1 5).toNatClampNeg)) (a1 + 2)) ((xa I (q + 1) (va_cpy (I (a1 + 1)) (I (q + 1)) (nI 0).toNatClampNeg (nI 0).toNatClampNeg (I a1 5).toNatClampNeg)) (q + 2)) (nI 0).toNatClampNeg (nI 0).toNatClampNeg ((xa I (q + 1) (va_cpy (I (a1 + 1)) (I (q + 1)) (nI 0).toNatClampNeg (nI 0).toNatClampNeg (I a1 5).toNatClampNeg)) a1 6).toNatClampNeg)) q 5 ((xa (xa I (q + 1) (va_cpy (I (a1 + 1)) (I (q + 1)) (nI 0).toNatClampNeg (nI 0).toNatClampNeg (I a1 5).toNatClampNeg)) (q + 2) (va_cpy ((xa I (q + 1) (va_cpy (I (a1 + 1)) (I (q + 1)) (nI 0).toNatClampNeg (nI 0).toNatClampNeg (I a1 5).toNatClampNeg)) (a1 + 2)) ((xa I (q + 1) (va_cpy (I (a1 + 1)) (I (q + 1)) (nI 0).toNatClampNeg (nI 0).toNatClampNeg (I a1 5).toNatClampNeg)) (q + 2)) (nI 0).toNatClampNeg (nI 0).toNatClampNeg ((xa I (q + 1) (va_cpy (I (a1 + 1)) (I (q + 1)) (nI 0).toNatClampNeg (nI 0).toNatClampNeg (I a1 5).toNatClampNeg)) a1 6).toNatClampNeg)) a1 5)) q 6 ((xi (xa (xa I (q + 1) (va_cpy (I (a1 + 1)) (I (q + 1)) (nI 0).toNatClampNeg (nI 0).toNatClampNeg (I a1 5).toNatClampNeg)) (q + 2) (va_cpy ((xa I (q + 1) (va_cpy (I (a1 + 1)) (I (q + 1)) (nI 0).toNatClampNeg (nI 0).toNatClampNeg (I a1 5).toNatClampNeg)) (a1 + 2)) ((xa I (q + 1) (va_cpy (I (a1 + 1)) (I (q + 1)) (nI 0).toNatClampNeg (nI 0).toNatClampNeg (I a1 5).toNatClampNeg)) (q + 2)) (nI 0).toNatClampNeg (nI 0).toNatClampNeg ((xa I (q + 1) (va_cpy (I (a1 + 1)) (I (q + 1)) (nI 0).toNatClampNeg (nI 0).toNatClampNeg (I a1 5).toNatClampNeg)) a1 6).toNatClampNeg)) q 5 ((xa (xa I (q + 1) (va_cpy (I (a1 + 1)) (I (q + 1)) (nI 0).toNatClampNeg (nI 0).toNatClampNeg (I a1 5).toNatClampNeg)) (q + 2) (va_cpy ((xa I (q + 1) (va_cpy (I (a1 + 1)) (I (q + 1)) (nI 0).toNatClampNeg (nI 0).toNatClampNeg (I a1 5).toNatClampNeg)) (a1 + 2)) ((xa I (q + 1) (va_cpy (I (a1 + 1)) (I (q + 1)) (nI 0).toNatClampNeg (nI 0).toNatClampNeg (I a1 5).toNatClampNeg)) (q + 2)) (nI 0).toNatClampNeg (nI 0).toNatClampNeg ((xa I (q + 1) (va_cpy (I (a1 + 1)) (I (q + 1)) (nI 0).toNatClampNeg (nI 0).toNatClampNeg (I a1 5).toNatClampNeg)) a1 6).toNatClampNeg)) a1 5)) a1 6)) q 7 ((xi (xi (xa (xa I (q + 1) (va_cpy (I (a1 + 1)) (I (q + 1)) (nI 0).toNatClampNeg (nI 0).toNatClampNeg (I a1 5).toNatClampNeg)) (q + 2) (va_cpy ((xa I (q + 1) (va_cpy (I (a1 + 1)) (I (q + 1)) (nI 0).toNatClampNeg (nI 0).toNatClampNeg (I a1 5).toNatClampNeg)) (a1 + 2)) ((xa I (q + 1) (va_cpy (I (a1 + 1)) (I (q + 1)) (nI 0).toNatClampNeg (nI 0).toNatClampNeg (I a1 5).toNatClampNeg)) (q + 2)) (nI 0).toNatClampNeg (nI 0).toNatClampNeg ((xa I (q + 1) (va_cpy (I (a1 + 1)) (I (q + 1)) (nI 0).toNatClampNeg (nI 0).toNatClampNeg (I a1 5).toNatClampNeg)) a1 6).toNatClampNeg)) q 5 ((xa (xa I (q + 1) (va_cpy (I (a1 + 1)) (I (q + 1)) (nI 0).toNatClampNeg (nI 0).toNatClampNeg (I a1 5).toNatClampNeg)) (q + 2) (va_cpy ((xa I (q + 1) (va_cpy (I (a1 + 1)) (I (q + 1)) (nI 0).toNatClampNeg (nI 0).toNatClampNeg (I a1 5).toNatClampNeg)) (a1 + 2)) ((xa I (q + 1) (va_cpy (I (a1 + 1)) (I (q + 1)) (nI 0).toNatClampNeg (nI 0).toNatClampNeg (I a1 5).toNatClampNeg)) (q + 2)) (nI 0).toNatClampNeg (nI 0).toNatClampNeg ((xa I (q + 1) (va_cpy (I (a1 + 1)) (I (q + 1)) (nI 0).toNatClampNeg (nI 0).toNatClampNeg (I a1 5).toNatClampNeg)) a1 6).toNatClampNeg)) a1 5)) q 6 ((xi (xa (xa I (q + 1) (va_cpy (I (a1 + 1)) (I (q + 1)) (nI 0).toNatClampNeg (nI 0).toNatClampNeg (I a1 5).toNatClampNeg)) (q + 2) (va_cpy ((xa I (q + 1) (va_cpy (I (a1 + 1)) (I (q + 1)) (nI 0).toNatClampNeg (nI 0).toNatClampNeg (I a1 5).toNatClampNeg)) (a1 + 2)) ((xa I (q + 1) (va_cpy (I (a1 + 1)) (I (q + 1)) (nI 0).toNatClampNeg (nI 0).toNatClampNeg (I a1 5).toNatClampNeg)) (q + 2)) (nI 0).toNatClampNeg (nI 0).toNatClampNeg ((xa I (q + 1) (va_cpy (I (a1 + 1)) (I (q + 1)) (nI 0).toNatClampNeg (nI 0).toNatClampNeg (I a1 5).toNatClampNeg)) a1 6).toNatClampNeg)) q 5 ((xa (xa I (q + 1) (va_cpy (I (a1 + 1)) (I (q + 1)) (nI 0).toNatClampNeg (nI 0).toNatClampNeg (I a1 5).toNatClampNeg)) (q + 2) (va_cpy ((xa I (q + 1) (va_cpy (I (a1 + 1)) (I (q + 1)) (nI 0).toNatClampNeg (nI 0).toNatClampNeg (I a1 5).toNatClampNeg)) (a1 + 2)) ((xa I (q + 1) (va_cpy (I (a1 + 1)) (I (q + 1)) (nI 0).toNatClampNeg (nI 0).toNatClampNeg (I a1 5).toNatClampNeg)) (q + 2)) (nI 0).toNatClampNeg (nI 0).toNatClampNeg ((xa I (q + 1) (va_cpy (I (a1 + 1)) (I (q + 1)) (nI 0).toNatClampNeg (nI 0).toNatClampNeg (I a1 5).toNatClampNeg)) a1 6).toNatClampNeg)) a1 5)) a1 6)) a1 7)) a1 8) = 1) ∧ Q (sh, (xi (xi (xi (xi (xa (xa I (q + 1) (va_cpy (I (a1 + 1)) (I (q + 1)) (nI 0).toNatClampNeg (nI 0).toNatClampNeg (I a1 5).toNatClampNeg)) (q + 2) (va_cpy ((xa I (q + 1) (va_cpy (I (a1 + 1)) (I (q + 1)) (nI 0).toNatClampNeg (nI 0).toNatClampNeg (I a1 5).toNatClampNeg)) (a1 + 2)) ((xa I (q + 1) (va_cpy (I (a1 + 1)) (I (q + 1)) (nI 0).toNatClampNeg (nI 0).toNatClampNeg (I a1 5).toNatClampNeg)) (q + 2)) (nI 0).toNatClampNeg (nI 0).toNatClampNeg ((xa I (q + 1) (va_cpy (I (a1 + 1)) (I (q + 1)) (nI 0).toNatClampNeg (nI 0).toNatClampNeg (I a1 5).toNatClampNeg)) a1 6).toNatClampNeg)) q 5 ((xa (xa I (q + 1) (va_cpy (I (a1 + 1)) (I (q + 1)) (nI 0).toNatClampNeg (nI 0).toNatClampNeg (I a1 5).toNatClampNeg)) (q + 2) (va_cpy ((xa I (q + 1) (va_cpy (I (a1 + 1)) (I (q + 1)) (nI 0).toNatClampNeg (nI 0).toNatClampNeg (I a1 5).toNatClampNeg)) (a1 + 2)) ((xa I (q + 1) (va_cpy (I (a1 + 1)) (I (q + 1)) (nI 0).toNatClampNeg (nI 0).toNatClampNeg (I a1 5).toNatClampNeg)) (q + 2)) (nI 0).toNatClampNeg (nI 0).toNatClampNeg ((xa I (q + 1) (va_cpy (I (a1 + 1)) (I (q + 1)) (nI 0).toNatClampNeg (nI 0).toNatClampNeg (I a1 5).toNatClampNeg)) a1 6).toNatClampNeg)) a1 5)) q 6 ((xi (xa (xa I (q + 1) (va_cpy (I (a1 + 1)) (I (q + 1)) (nI 0).toNatClampNeg (nI 0).toNatClampNeg (I a1 5).toNatClampNeg)) (q + 2) (va_cpy ((xa I (q + 1) (va_cpy (I (a1 + 1)) (I (q + 1)) (nI 0).toNatClampNeg (nI 0).toNatClampNeg (I a1 5).toNatClampNeg)) (a1 + 2)) ((xa I (q + 1) (va_cpy (I (a1 + 1)) (I (q + 1)) (nI 0).toNatClampNeg (nI 0).toNatClampNeg (I a1 5).toNatClampNeg)) (q + 2)) (nI 0).toNatClampNeg (nI 0).toNatClampNeg ((xa I (q + 1) (va_cpy (I (a1 + 1)) (I (q + 1)) (nI 0).toNatClampNeg (nI 0).toNatClampNeg (I a1 5).toNatClampNeg)) a1 6).toNatClampNeg)) q 5 ((xa (xa I (q + 1) (va_cpy (I (a1 + 1)) (I (q + 1)) (nI 0).toNatClampNeg (nI 0).toNatClampNeg (I a1 5).toNatClampNeg)) (q + 2) (va_cpy ((xa I (q + 1) (va_cpy (I (a1 + 1)) (I (q + 1)) (nI 0).toNatClampNeg (nI 0).toNatClampNeg (I a1 5).toNatClampNeg)) (a1 + 2)) ((xa I (q + 1) (va_cpy (I (a1 + 1)) (I (q + 1)) (nI 0).toNatClampNeg (nI 0).toNatClampNeg (I a1 5).toNatClampNeg)) (q + 2)) (nI 0).toNatClampNeg (nI 0).toNatClampNeg ((xa I (q + 1) (va_cpy (I (a1 + 1)) (I (q + 1)) (nI 0).toNatClampNeg (nI 0).toNatClampNeg (I a1 5).toNatClampNeg)) a1 6).toNatClampNeg)) a1 5)) a1 6)) q 7 ((xi (xi (xa (xa I (q + 1) (va_cpy (I (a1 + 1)) (I (q + 1)) (nI 0).toNatClampNeg (nI 0).toNatClampNeg (I a1 5).toNatClampNeg)) (q + 2) (va_cpy ((xa I (q + 1) (va_cpy (I (a1 + 1)) (I (q + 1)) (nI 0).toNatClampNeg (nI 0).toNatClampNeg (I a1 5).toNatClampNeg)) (a1 + 2)) ((xa I (q + 1) (va_cpy (I (a1 + 1)) (I (q + 1)) (nI 0).toNatClampNeg (nI 0).toNatClampNeg (I a1 5).toNatClampNeg)) (q + 2)) (nI 0).toNatClampNeg (nI 0).toNatClampNeg ((xa I (q + 1) (va_cpy (I (a1 + 1)) (I (q + 1)) (nI 0).toNatClampNeg (nI 0).toNatClampNeg (I a1 5).toNatClampNeg)) a1 6).toNatClampNeg)) q 5 ((xa (xa I (q + 1) (va_cpy (I (a1 + 1)) (I (q + 1)) (nI 0).toNatClampNeg (nI 0).toNatClampNeg (I a1 5).toNatClampNeg)) (q + 2) (va_cpy ((xa I (q + 1) (va_cpy (I (a1 + 1)) (I (q + 1)) (nI 0).toNatClampNeg (nI 0).toNatClampNeg (I a1 5).toNatClampNeg)) (a1 + 2)) ((xa I (q + 1) (va_cpy (I (a1 + 1)) (I (q + 1)) (nI 0).toNatClampNeg (nI 0).toNatClampNeg (I a1 5).toNatClampNeg)) (q + 2)) (nI 0).toNatClampNeg (nI 0).toNatClampNeg ((xa I (q + 1) (va_cpy (I (a1 + 1)) (I (q + 1)) (nI 0).toNatClampNeg (nI 0).toNatClampNeg (I a1 5).toNatClampNeg)) a1 6).toNatClampNeg)) a1 5)) q 6 ((xi (xa (xa I (q + 1) (va_cpy (I (a1 + 1)) (I (q + 1)) (nI 0).toNatClampNeg (nI 0).toNatClampNeg (I a1 5).toNatClampNeg)) (q + 2) (va_cpy ((xa I (q + 1) (va_cpy (I (a1 + 1)) (I (q + 1)) (nI 0).toNatClampNeg (nI 0).toNatClampNeg (I a1 5).toNatClampNeg)) (a1 + 2)) ((xa I (q + 1) (va_cpy (I (a1 + 1)) (I (q + 1)) (nI 0).toNatClampNeg (nI 0).toNatClampNeg (I a1 5).toNatClampNeg)) (q + 2)) (nI 0).toNatClampNeg (nI 0).toNatClampNeg ((xa I (q + 1) (va_cpy (I (a1 + 1)) (I (q + 1)) (nI 0).toNatClampNeg (nI 0).toNatClampNeg (I a1 5).toNatClampNeg)) a1 6).toNatClampNeg)) q 5 ((xa (xa I (q + 1) (va_cpy (I (a1 + 1)) (I (q + 1)) (nI 0).toNatClampNeg (nI 0).toNatClampNeg (I a1 5).toNatClampNeg)) (q + 2) (va_cpy ((xa I (q + 1) (va_cpy (I (a1 + 1)) (I (q + 1)) (nI 0).toNatClampNeg (nI 0).toNatClampNeg (I a1 5).toNatClampNeg)) (a1 + 2)) ((xa I (q + 1) (va_cpy (I (a1 + 1)) (I (q + 1)) (nI 0).toNatClampNeg (nI 0).toNatClampNeg (I a1 5).toNatClampNeg)) (q + 2)) (nI 0).toNatClampNeg (nI 0).toNatClampNeg ((xa I (q + 1) (va_cpy (I (a1 + 1)) (I (q + 1)) (nI 0).toNatClampNeg (nI 0).toNatClampNeg (I a1 5).toNatClampNeg)) a1 6).toNatClampNeg)) a1 5)) a1 6)) a1 7)) q 8 ((xi (xi (xi (xa (xa I (q + 1) (va_cpy (I (a1 + 1)) (I (q + 1)) (nI 0).toNatClampNeg (nI 0).toNatClampNeg (I a1 5).toNatClampNeg)) (q + 2) (va_cpy ((xa I (q + 1) (va_cpy (I (a1 + 1)) (I (q + 1)) (nI 0).toNatClampNeg (nI 0).toNatClampNeg (I a1 5).toNatClampNeg)) (a1 + 2)) ((xa I (q + 1) (va_cpy (I (a1 + 1)) (I (q + 1)) (nI 0).toNatClampNeg (nI 0).toNatClampNeg (I a1 5).toNatClampNeg)) (q + 2)) (nI 0).toNatClampNeg (nI 0).toNatClampNeg ((xa I (q + 1) (va_cpy (I (a1 + 1)) (I (q + 1)) (nI 0).toNatClampNeg (nI 0).toNatClampNeg (I a1 5).toNatClampNeg)) a1 6).toNatClampNeg)) q 5 ((xa (xa I (q + 1) (va_cpy (I (a1 + 1)) (I (q + 1)) (nI 0).toNatClampNeg (nI 0).toNatClampNeg (I a1 5).toNatClampNeg)) (q + 2) (va_cpy ((xa I (q + 1) (va_cpy (I (a1 + 1)) (I (q + 1)) (nI 0).toNatClampNeg (nI 0).toNatClampNeg (I a1 5).toNatClampNeg)) (a1 + 2)) ((xa I (q + 1) (va_cpy (I (a1 + 1)) (I (q + 1)) (nI 0).toNatClampNeg (nI 0).toNatClampNeg (I a1 5).toNatClampNeg)) (q + 2)) (nI 0).toNatClampNeg (nI 0).toNatClampNeg ((xa I (q + 1) (va_cpy (I (a1 + 1)) (I (q + 1)) (nI 0).toNatClampNeg (nI 0).toNatClampNeg (I a1 5).toNatClampNeg)) a1 6).toNatClampNeg)) a1 5)) q 6 ((xi (xa (xa I (q + 1) (va_cpy (I (a1 + 1)) (I (q + 1)) (nI 0).toNatClampNeg (nI 0).toNatClampNeg (I a1 5).toNatClampNeg)) (q + 2) (va_cpy ((xa I (q + 1) (va_cpy (I (a1 + 1)) (I (q + 1)) (nI 0).toNatClampNeg (nI 0).toNatClampNeg (I a1 5).toNatClampNeg)) (a1 + 2)) ((xa I (q + 1) (va_cpy (I (a1 + 1)) (I (q + 1)) (nI 0).toNatClampNeg (nI 0).toNatClampNeg (I a1 5).toNatClampNeg)) (q + 2)) (nI 0).toNatClampNeg (nI 0).toNatClampNeg ((xa I (q + 1) (va_cpy (I (a1 + 1)) (I (q + 1)) (nI 0).toNatClampNeg (nI 0).toNatClampNeg (I a1 5).toNatClampNeg)) a1 6).toNatClampNeg)) q 5 ((xa (xa I (q + 1) (va_cpy (I (a1 + 1)) (I (q + 1)) (nI 0).toNatClampNeg (nI 0).toNatClampNeg (I a1 5).toNatClampNeg)) (q + 2) (va_cpy ((xa I (q + 1) (va_cpy (I (a1 + 1)) (I (q + 1)) (nI 0).toNatClampNeg (nI 0).toNatClampNeg (I a1 5).toNatClampNeg)) (a1 + 2)) ((xa I (q + 1) (va_cpy (I (a1 + 1)) (I (q + 1)) (nI 0).toNatClampNeg (nI 0).toNatClampNeg (I a1 5).toNatClampNeg)) (q + 2)) (nI 0).toNatClampNeg (nI 0).toNatClampNeg ((xa I (q + 1) (va_cpy (I (a1 + 1)) (I (q + 1)) (nI 0).toNatClampNeg (nI 0).toNatClampNeg (I a1 5).toNatClampNeg)) a1 6).toNatClampNeg)) a1 5)) a1 6)) q 7 ((xi (xi (xa (xa I (q + 1) (va_cpy (I (a1 + 1)) (I (q + 1)) (nI 0).toNatClampNeg (nI 0).toNatClampNeg (I a1 5).toNatClampNeg)) (q + 2) (va_cpy ((xa I (q + 1) (va_cpy (I (a1 + 1)) (I (q + 1)) (nI 0).toNatClampNeg (nI 0).toNatClampNeg (I a1 5).toNatClampNeg)) (a1 + 2)) ((xa I (q + 1) (va_cpy (I (a1 + 1)) (I (q + 1)) (nI 0).toNatClampNeg (nI 0).toNatClampNeg (I a1 5).toNatClampNeg)) (q + 2)) (nI 0).toNatClampNeg (nI 0).toNatClampNeg ((xa I (q + 1) (va_cpy (I (a1 + 1)) (I (q + 1)) (nI 0).toNatClampNeg (nI 0).toNatClampNeg (I a1 5).toNatClampNeg)) a1 6).toNatClampNeg)) q 5 ((xa (xa I (q + 1) (va_cpy (I (a1 + 1)) (I (q + 1)) (nI 0).toNatClampNeg (nI 0).toNatClampNeg (I a1 5).toNatClampNeg)) (q + 2) (va_cpy ((xa I (q + 1) (va_cpy (I (a1 + 1)) (I (q + 1)) (nI 0).toNatClampNeg (nI 0).toNatClampNeg (I a1 5).toNatClampNeg)) (a1 + 2)) ((xa I (q + 1) (va_cpy (I (a1 + 1)) (I (q + 1)) (nI 0).toNatClampNeg (nI 0).toNatClampNeg (I a1 5).toNatClampNeg)) (q + 2)) (nI 0).toNatClampNeg (nI 0).toNatClampNeg ((xa I (q + 1) (va_cpy (I (a1 + 1)) (I (q + 1)) (nI 0).toNatClampNeg (nI 0).toNatClampNeg (I a1 5).toNatClampNeg)) a1 6).toNatClampNeg)) a1 5)) q 6 ((xi (xa (xa I (q + 1) (va_cpy (I (a1 + 1)) (I (q + 1)) (nI 0).toNatClampNeg (nI 0).toNatClampNeg (I a1 5).toNatClampNeg)) (q + 2) (va_cpy ((xa I (q + 1) (va_cpy (I (a1 + 1)) (I (q + 1)) (nI 0).toNatClampNeg (nI 0).toNatClampNeg (I a1 5).toNatClampNeg)) (a1 + 2)) ((xa I (q + 1) (va_cpy (I (a1 + 1)) (I (q + 1)) (nI 0).toNatClampNeg (nI 0).toNatClampNeg (I a1 5).toNatClampNeg)) (q + 2)) (nI 0).toNatClampNeg (nI 0).toNatClampNeg ((xa I (q + 1) (va_cpy (I (a1 + 1)) (I (q + 1)) (nI 0).toNatClampNeg (nI 0).toNatClampNeg (I a1 5).toNatClampNeg)) a1 6).toNatClampNeg)) q 5 ((xa (xa I (q + 1) (va_cpy (I (a1 + 1)) (I (q + 1)) (nI 0).toNatClampNeg (nI 0).toNatClampNeg (I a1 5).toNatClampNeg)) (q + 2) (va_cpy ((xa I (q + 1) (va_cpy (I (a1 + 1)) (I (q + 1)) (nI 0).toNatClampNeg (nI 0).toNatClampNeg (I a1 5).toNatClampNeg)) (a1 + 2)) ((xa I (q + 1) (va_cpy (I (a1 + 1)) (I (q + 1)) (nI 0).toNatClampNeg (nI 0).toNatClampNeg (I a1 5).toNatClampNeg)) (q + 2)) (nI 0).toNatClampNeg (nI 0).toNatClampNeg ((xa I (q + 1) (va_cpy (I (a1 + 1)) (I (q + 1)) (nI 0).toNatClampNeg (nI 0).toNatClampNeg (I a1 5).toNatClampNeg)) a1 6).toNatClampNeg)) a1 5)) a1 6)) a1 7)) a1 8)), R)) :
    Ex mX8_copy 22 [.ref q, .ref a1] [] (sh, I, R) mc ms (xqV Q) := by
  refine xw_aload_n dX8_copy_22 rfl rfl ?_
  refine yw_getR (r := (a1 + 1)) dX8_copy_23 fX8_9 rfl ha1.1 ha1.2.2.2.2.1 ?_
  refine xw_iconst (v := nI 0) dX8_copy_26 rfl ?_
  refine xw_aload_n dX8_copy_27 rfl rfl ?_
  refine yw_getR (r := (q + 1)) dX8_copy_28 fX8_9 rfl hq.1 hq.2.2.2.2.1 ?_
  refine xw_iconst (v := nI 0) dX8_copy_31 rfl ?_
  refine xw_aload_n dX8_copy_32 rfl rfl ?_
  refine yw_getI (v := I a1 5) dX8_copy_33 fX8_37 rfl ha1.1 rfl ?_
  obtain ⟨k0, k⟩ := k
  refine yw_acopy dX8_copy_36 lX8_55 ha1.2.1 hq.2.1 rfl rfl (Nat.le_of_ble_eq_true rfl) k0 ?_
  refine xw_aload_n dX8_copy_39 rfl rfl ?_
  refine yw_getR (r := (a1 + 2)) dX8_copy_40 fX8_15 rfl ha1.1 ha1.2.2.2.2.2.1 ?_
  refine xw_iconst (v := nI 0) dX8_copy_43 rfl ?_
  refine xw_aload_n dX8_copy_44 rfl rfl ?_
  refine yw_getR (r := (q + 2)) dX8_copy_45 fX8_15 rfl hq.1 hq.2.2.2.2.2.1 ?_
  refine xw_iconst (v := nI 0) dX8_copy_48 rfl ?_
  refine xw_aload_n dX8_copy_49 rfl rfl ?_
  refine yw_getI (v := (xa I (q + 1) (va_cpy (I (a1 + 1)) (I (q + 1)) (nI 0).toNatClampNeg (nI 0).toNatClampNeg (I a1 5).toNatClampNeg)) a1 6) dX8_copy_50 fX8_41 rfl ha1.1 rfl ?_
  obtain ⟨k0, k⟩ := k
  refine yw_acopy dX8_copy_53 lX8_55 ha1.2.2.1 hq.2.2.1 rfl rfl (Nat.le_of_ble_eq_true rfl) k0 ?_
  refine xw_aload_n dX8_copy_56 rfl rfl ?_
  refine xw_aload_n dX8_copy_57 rfl rfl ?_
  refine yw_getI (v := (xa (xa I (q + 1) (va_cpy (I (a1 + 1)) (I (q + 1)) (nI 0).toNatClampNeg (nI 0).toNatClampNeg (I a1 5).toNatClampNeg)) (q + 2) (va_cpy ((xa I (q + 1) (va_cpy (I (a1 + 1)) (I (q + 1)) (nI 0).toNatClampNeg (nI 0).toNatClampNeg (I a1 5).toNatClampNeg)) (a1 + 2)) ((xa I (q + 1) (va_cpy (I (a1 + 1)) (I (q + 1)) (nI 0).toNatClampNeg (nI 0).toNatClampNeg (I a1 5).toNatClampNeg)) (q + 2)) (nI 0).toNatClampNeg (nI 0).toNatClampNeg ((xa I (q + 1) (va_cpy (I (a1 + 1)) (I (q + 1)) (nI 0).toNatClampNeg (nI 0).toNatClampNeg (I a1 5).toNatClampNeg)) a1 6).toNatClampNeg)) a1 5) dX8_copy_58 fX8_37 rfl ha1.1 rfl ?_
  refine yw_putI dX8_copy_61 fX8_37 (fun r h => by cases h; exact Or.inl rfl) rfl hq.1 ?_
  refine xw_aload_n dX8_copy_64 rfl rfl ?_
  refine xw_aload_n dX8_copy_65 rfl rfl ?_
  refine yw_getI (v := (xi (xa (xa I (q + 1) (va_cpy (I (a1 + 1)) (I (q + 1)) (nI 0).toNatClampNeg (nI 0).toNatClampNeg (I a1 5).toNatClampNeg)) (q + 2) (va_cpy ((xa I (q + 1) (va_cpy (I (a1 + 1)) (I (q + 1)) (nI 0).toNatClampNeg (nI 0).toNatClampNeg (I a1 5).toNatClampNeg)) (a1 + 2)) ((xa I (q + 1) (va_cpy (I (a1 + 1)) (I (q + 1)) (nI 0).toNatClampNeg (nI 0).toNatClampNeg (I a1 5).toNatClampNeg)) (q + 2)) (nI 0).toNatClampNeg (nI 0).toNatClampNeg ((xa I (q + 1) (va_cpy (I (a1 + 1)) (I (q + 1)) (nI 0).toNatClampNeg (nI 0).toNatClampNeg (I a1 5).toNatClampNeg)) a1 6).toNatClampNeg)) q 5 ((xa (xa I (q + 1) (va_cpy (I (a1 + 1)) (I (q + 1)) (nI 0).toNatClampNeg (nI 0).toNatClampNeg (I a1 5).toNatClampNeg)) (q + 2) (va_cpy ((xa I (q + 1) (va_cpy (I (a1 + 1)) (I (q + 1)) (nI 0).toNatClampNeg (nI 0).toNatClampNeg (I a1 5).toNatClampNeg)) (a1 + 2)) ((xa I (q + 1) (va_cpy (I (a1 + 1)) (I (q + 1)) (nI 0).toNatClampNeg (nI 0).toNatClampNeg (I a1 5).toNatClampNeg)) (q + 2)) (nI 0).toNatClampNeg (nI 0).toNatClampNeg ((xa I (q + 1) (va_cpy (I (a1 + 1)) (I (q + 1)) (nI 0).toNatClampNeg (nI 0).toNatClampNeg (I a1 5).toNatClampNeg)) a1 6).toNatClampNeg)) a1 5)) a1 6) dX8_copy_66 fX8_41 rfl ha1.1 rfl ?_
  refine yw_putI dX8_copy_69 fX8_41 (fun r h => by cases h; exact Or.inl rfl) rfl hq.1 ?_
  refine xw_aload_n dX8_copy_72 rfl rfl ?_
  refine xw_aload_n dX8_copy_73 rfl rfl ?_
  refine yw_getI (v := (xi (xi (xa (xa I (q + 1) (va_cpy (I (a1 + 1)) (I (q + 1)) (nI 0).toNatClampNeg (nI 0).toNatClampNeg (I a1 5).toNatClampNeg)) (q + 2) (va_cpy ((xa I (q + 1) (va_cpy (I (a1 + 1)) (I (q + 1)) (nI 0).toNatClampNeg (nI 0).toNatClampNeg (I a1 5).toNatClampNeg)) (a1 + 2)) ((xa I (q + 1) (va_cpy (I (a1 + 1)) (I (q + 1)) (nI 0).toNatClampNeg (nI 0).toNatClampNeg (I a1 5).toNatClampNeg)) (q + 2)) (nI 0).toNatClampNeg (nI 0).toNatClampNeg ((xa I (q + 1) (va_cpy (I (a1 + 1)) (I (q + 1)) (nI 0).toNatClampNeg (nI 0).toNatClampNeg (I a1 5).toNatClampNeg)) a1 6).toNatClampNeg)) q 5 ((xa (xa I (q + 1) (va_cpy (I (a1 + 1)) (I (q + 1)) (nI 0).toNatClampNeg (nI 0).toNatClampNeg (I a1 5).toNatClampNeg)) (q + 2) (va_cpy ((xa I (q + 1) (va_cpy (I (a1 + 1)) (I (q + 1)) (nI 0).toNatClampNeg (nI 0).toNatClampNeg (I a1 5).toNatClampNeg)) (a1 + 2)) ((xa I (q + 1) (va_cpy (I (a1 + 1)) (I (q + 1)) (nI 0).toNatClampNeg (nI 0).toNatClampNeg (I a1 5).toNatClampNeg)) (q + 2)) (nI 0).toNatClampNeg (nI 0).toNatClampNeg ((xa I (q + 1) (va_cpy (I (a1 + 1)) (I (q + 1)) (nI 0).toNatClampNeg (nI 0).toNatClampNeg (I a1 5).toNatClampNeg)) a1 6).toNatClampNeg)) a1 5)) q 6 ((xi (xa (xa I (q + 1) (va_cpy (I (a1 + 1)) (I (q + 1)) (nI 0).toNatClampNeg (nI 0).toNatClampNeg (I a1 5).toNatClampNeg)) (q + 2) (va_cpy ((xa I (q + 1) (va_cpy (I (a1 + 1)) (I (q + 1)) (nI 0).toNatClampNeg (nI 0).toNatClampNeg (I a1 5).toNatClampNeg)) (a1 + 2)) ((xa I (q + 1) (va_cpy (I (a1 + 1)) (I (q + 1)) (nI 0).toNatClampNeg (nI 0).toNatClampNeg (I a1 5).toNatClampNeg)) (q + 2)) (nI 0).toNatClampNeg (nI 0).toNatClampNeg ((xa I (q + 1) (va_cpy (I (a1 + 1)) (I (q + 1)) (nI 0).toNatClampNeg (nI 0).toNatClampNeg (I a1 5).toNatClampNeg)) a1 6).toNatClampNeg)) q 5 ((xa (xa I (q + 1) (va_cpy (I (a1 + 1)) (I (q + 1)) (nI 0).toNatClampNeg (nI 0).toNatClampNeg (I a1 5).toNatClampNeg)) (q + 2) (va_cpy ((xa I (q + 1) (va_cpy (I (a1 + 1)) (I (q + 1)) (nI 0).toNatClampNeg (nI 0).toNatClampNeg (I a1 5).toNatClampNeg)) (a1 + 2)) ((xa I (q + 1) (va_cpy (I (a1 + 1)) (I (q + 1)) (nI 0).toNatClampNeg (nI 0).toNatClampNeg (I a1 5).toNatClampNeg)) (q + 2)) (nI 0).toNatClampNeg (nI 0).toNatClampNeg ((xa I (q + 1) (va_cpy (I (a1 + 1)) (I (q + 1)) (nI 0).toNatClampNeg (nI 0).toNatClampNeg (I a1 5).toNatClampNeg)) a1 6).toNatClampNeg)) a1 5)) a1 6)) a1 7) dX8_copy_74 fX8_44 rfl ha1.1 rfl ?_
  refine yw_putI dX8_copy_77 fX8_44 (fun r h => by cases h; exact Or.inl rfl) rfl hq.1 ?_
  refine xw_aload_n dX8_copy_80 rfl rfl ?_
  refine xw_aload_n dX8_copy_81 rfl rfl ?_
  refine yw_getI (v := (xi (xi (xi (xa (xa I (q + 1) (va_cpy (I (a1 + 1)) (I (q + 1)) (nI 0).toNatClampNeg (nI 0).toNatClampNeg (I a1 5).toNatClampNeg)) (q + 2) (va_cpy ((xa I (q + 1) (va_cpy (I (a1 + 1)) (I (q + 1)) (nI 0).toNatClampNeg (nI 0).toNatClampNeg (I a1 5).toNatClampNeg)) (a1 + 2)) ((xa I (q + 1) (va_cpy (I (a1 + 1)) (I (q + 1)) (nI 0).toNatClampNeg (nI 0).toNatClampNeg (I a1 5).toNatClampNeg)) (q + 2)) (nI 0).toNatClampNeg (nI 0).toNatClampNeg ((xa I (q + 1) (va_cpy (I (a1 + 1)) (I (q + 1)) (nI 0).toNatClampNeg (nI 0).toNatClampNeg (I a1 5).toNatClampNeg)) a1 6).toNatClampNeg)) q 5 ((xa (xa I (q + 1) (va_cpy (I (a1 + 1)) (I (q + 1)) (nI 0).toNatClampNeg (nI 0).toNatClampNeg (I a1 5).toNatClampNeg)) (q + 2) (va_cpy ((xa I (q + 1) (va_cpy (I (a1 + 1)) (I (q + 1)) (nI 0).toNatClampNeg (nI 0).toNatClampNeg (I a1 5).toNatClampNeg)) (a1 + 2)) ((xa I (q + 1) (va_cpy (I (a1 + 1)) (I (q + 1)) (nI 0).toNatClampNeg (nI 0).toNatClampNeg (I a1 5).toNatClampNeg)) (q + 2)) (nI 0).toNatClampNeg (nI 0).toNatClampNeg ((xa I (q + 1) (va_cpy (I (a1 + 1)) (I (q + 1)) (nI 0).toNatClampNeg (nI 0).toNatClampNeg (I a1 5).toNatClampNeg)) a1 6).toNatClampNeg)) a1 5)) q 6 ((xi (xa (xa I (q + 1) (va_cpy (I (a1 + 1)) (I (q + 1)) (nI 0).toNatClampNeg (nI 0).toNatClampNeg (I a1 5).toNatClampNeg)) (q + 2) (va_cpy ((xa I (q + 1) (va_cpy (I (a1 + 1)) (I (q + 1)) (nI 0).toNatClampNeg (nI 0).toNatClampNeg (I a1 5).toNatClampNeg)) (a1 + 2)) ((xa I (q + 1) (va_cpy (I (a1 + 1)) (I (q + 1)) (nI 0).toNatClampNeg (nI 0).toNatClampNeg (I a1 5).toNatClampNeg)) (q + 2)) (nI 0).toNatClampNeg (nI 0).toNatClampNeg ((xa I (q + 1) (va_cpy (I (a1 + 1)) (I (q + 1)) (nI 0).toNatClampNeg (nI 0).toNatClampNeg (I a1 5).toNatClampNeg)) a1 6).toNatClampNeg)) q 5 ((xa (xa I (q + 1) (va_cpy (I (a1 + 1)) (I (q + 1)) (nI 0).toNatClampNeg (nI 0).toNatClampNeg (I a1 5).toNatClampNeg)) (q + 2) (va_cpy ((xa I (q + 1) (va_cpy (I (a1 + 1)) (I (q + 1)) (nI 0).toNatClampNeg (nI 0).toNatClampNeg (I a1 5).toNatClampNeg)) (a1 + 2)) ((xa I (q + 1) (va_cpy (I (a1 + 1)) (I (q + 1)) (nI 0).toNatClampNeg (nI 0).toNatClampNeg (I a1 5).toNatClampNeg)) (q + 2)) (nI 0).toNatClampNeg (nI 0).toNatClampNeg ((xa I (q + 1) (va_cpy (I (a1 + 1)) (I (q + 1)) (nI 0).toNatClampNeg (nI 0).toNatClampNeg (I a1 5).toNatClampNeg)) a1 6).toNatClampNeg)) a1 5)) a1 6)) q 7 ((xi (xi (xa (xa I (q + 1) (va_cpy (I (a1 + 1)) (I (q + 1)) (nI 0).toNatClampNeg (nI 0).toNatClampNeg (I a1 5).toNatClampNeg)) (q + 2) (va_cpy ((xa I (q + 1) (va_cpy (I (a1 + 1)) (I (q + 1)) (nI 0).toNatClampNeg (nI 0).toNatClampNeg (I a1 5).toNatClampNeg)) (a1 + 2)) ((xa I (q + 1) (va_cpy (I (a1 + 1)) (I (q + 1)) (nI 0).toNatClampNeg (nI 0).toNatClampNeg (I a1 5).toNatClampNeg)) (q + 2)) (nI 0).toNatClampNeg (nI 0).toNatClampNeg ((xa I (q + 1) (va_cpy (I (a1 + 1)) (I (q + 1)) (nI 0).toNatClampNeg (nI 0).toNatClampNeg (I a1 5).toNatClampNeg)) a1 6).toNatClampNeg)) q 5 ((xa (xa I (q + 1) (va_cpy (I (a1 + 1)) (I (q + 1)) (nI 0).toNatClampNeg (nI 0).toNatClampNeg (I a1 5).toNatClampNeg)) (q + 2) (va_cpy ((xa I (q + 1) (va_cpy (I (a1 + 1)) (I (q + 1)) (nI 0).toNatClampNeg (nI 0).toNatClampNeg (I a1 5).toNatClampNeg)) (a1 + 2)) ((xa I (q + 1) (va_cpy (I (a1 + 1)) (I (q + 1)) (nI 0).toNatClampNeg (nI 0).toNatClampNeg (I a1 5).toNatClampNeg)) (q + 2)) (nI 0).toNatClampNeg (nI 0).toNatClampNeg ((xa I (q + 1) (va_cpy (I (a1 + 1)) (I (q + 1)) (nI 0).toNatClampNeg (nI 0).toNatClampNeg (I a1 5).toNatClampNeg)) a1 6).toNatClampNeg)) a1 5)) q 6 ((xi (xa (xa I (q + 1) (va_cpy (I (a1 + 1)) (I (q + 1)) (nI 0).toNatClampNeg (nI 0).toNatClampNeg (I a1 5).toNatClampNeg)) (q + 2) (va_cpy ((xa I (q + 1) (va_cpy (I (a1 + 1)) (I (q + 1)) (nI 0).toNatClampNeg (nI 0).toNatClampNeg (I a1 5).toNatClampNeg)) (a1 + 2)) ((xa I (q + 1) (va_cpy (I (a1 + 1)) (I (q + 1)) (nI 0).toNatClampNeg (nI 0).toNatClampNeg (I a1 5).toNatClampNeg)) (q + 2)) (nI 0).toNatClampNeg (nI 0).toNatClampNeg ((xa I (q + 1) (va_cpy (I (a1 + 1)) (I (q + 1)) (nI 0).toNatClampNeg (nI 0).toNatClampNeg (I a1 5).toNatClampNeg)) a1 6).toNatClampNeg)) q 5 ((xa (xa I (q + 1) (va_cpy (I (a1 + 1)) (I (q + 1)) (nI 0).toNatClampNeg (nI 0).toNatClampNeg (I a1 5).toNatClampNeg)) (q + 2) (va_cpy ((xa I (q + 1) (va_cpy (I (a1 + 1)) (I (q + 1)) (nI 0).toNatClampNeg (nI 0).toNatClampNeg (I a1 5).toNatClampNeg)) (a1 + 2)) ((xa I (q + 1) (va_cpy (I (a1 + 1)) (I (q + 1)) (nI 0).toNatClampNeg (nI 0).toNatClampNeg (I a1 5).toNatClampNeg)) (q + 2)) (nI 0).toNatClampNeg (nI 0).toNatClampNeg ((xa I (q + 1) (va_cpy (I (a1 + 1)) (I (q + 1)) (nI 0).toNatClampNeg (nI 0).toNatClampNeg (I a1 5).toNatClampNeg)) a1 6).toNatClampNeg)) a1 5)) a1 6)) a1 7)) a1 8) dX8_copy_82 fX8_47 rfl ha1.1 rfl ?_
  obtain ⟨k0, k⟩ := k
  refine yw_putZ dX8_copy_85 fX8_47 (fun r h => by cases h; exact Or.inl rfl) rfl k0 hq.1 ?_
  exact yw_vret dX8_copy_88 rfl k
theorem eX8_copy {q a1 : Nat} {h : xHp} {Q : xHp → Prop} (k : Ex mX8_copy 0 [.ref q, .ref a1] [] h 0 0 (xqV Q)) : CV mX8_copy [.ref q, .ref a1] h Q := k
theorem bX6_stand_0 {q : Nat} {v1 v2 : Int32} {mc ms : Nat} {Q : xHp → Prop} (hW : xLay sh R) (hq : xShelf sh R q)
    (k : CV mJ7_fill_53178 [.ref (q + 2), .int (-1)] (sh, (xi (xi I q 3 v1) q 4 v2), R) (fun h1 => Ex mX6_stand 18 [xU, xU, xU] [] h1 mc ms (xqV Q))) :
    Ex mX6_stand 0 [.ref q, .int v1, .int v2] [] (sh, I, R) mc ms (xqV Q) := by
  refine xw_aload_n dX6_stand_0 rfl rfl ?_
  refine xw_iload_n dX6_stand_1 rfl rfl ?_
  refine yw_putI dX6_stand_2 fX6_29 (fun r h => by cases h; exact Or.inl rfl) rfl hq.1 ?_
  refine xw_aload_n dX6_stand_5 rfl rfl ?_
  refine xw_iload_n dX6_stand_6 rfl rfl ?_
  refine yw_putI dX6_stand_7 fX6_21 (fun r h => by cases h; exact Or.inl rfl) rfl hq.1 ?_
  refine xw_aload_n dX6_stand_10 rfl rfl ?_
  refine yw_getR (r := (q + 2)) dX6_stand_11 fX6_17 rfl hq.1 hq.2.2.2.2.2 ?_
  refine xw_iconst (v := (-1)) dX6_stand_14 rfl ?_
  refine yw_sub (lv' := [xU, xU, xU]) ⟨Or.inl rfl, Or.inl rfl, Or.inl rfl, trivial⟩ ?_
  exact yw_cS (As := [.ref (q + 2), .int (-1)]) (st := []) dX6_stand_15 lX6_32 ksJ7_fill_53178 rfl rfl rfl (Nat.le_of_ble_eq_true rfl) rfl (xk_V k)
theorem bX6_stand_18 {mc ms : Nat} {Q : xHp → Prop} (hW : xLay sh R) 
    (k : Q (sh, I, R)) :
    Ex mX6_stand 18 [xU, xU, xU] [] (sh, I, R) mc ms (xqV Q) := by
  exact yw_vret dX6_stand_18 rfl k
theorem eX6_stand {q : Nat} {v1 : Int32} {v2 : Int32} {h : xHp} {Q : xHp → Prop} (k : Ex mX6_stand 0 [.ref q, .int v1, .int v2] [] h 0 0 (xqV Q)) : CV mX6_stand [.ref q, .int v1, .int v2] h Q := k
theorem bX6_hasCell_0 {q : Nat} {v1 : Int32} {mc ms : Nat} {Q : Int32 → xHp → Prop} (hW : xLay sh R) (hq : xShelf sh R q)
    (k : ((v1 < 0 → Q (nI 0) (sh, I, R)) ∧ (¬ v1 < 0 → (((I q 4) ≤ v1 → Q (nI 0) (sh, I, R)) ∧ (¬ (I q 4) ≤ v1 → Q (nI 1) (sh, I, R)))))) :
    Ex mX6_hasCell 0 [.ref q, .int v1] [] (sh, I, R) mc ms (xqI Q) := by
  refine xw_iload_n dX6_hasCell_0 rfl rfl ?_
  refine xw_iflt (tgt := 16) dX6_hasCell_1 (by decide) (fun c => ?_) (fun c => ?_)
  · replace k := k.1 c
    refine xw_iconst (v := nI 0) dX6_hasCell_16 rfl ?_
    exact yw_zret dX6_hasCell_17 rfl (by decide) k
  · replace k := k.2 c
    refine xw_iload_n dX6_hasCell_4 rfl rfl ?_
    refine xw_aload_n dX6_hasCell_5 rfl rfl ?_
    refine yw_getI (v := I q 4) dX6_hasCell_6 fX6_21 rfl hq.1 rfl ?_
    refine xw_icge (tgt := 16) dX6_hasCell_9 (by decide) (fun c => ?_) (fun c => ?_)
    · replace k := k.1 c
      refine xw_iconst (v := nI 0) dX6_hasCell_16 rfl ?_
      exact yw_zret dX6_hasCell_17 rfl (by decide) k
    · replace k := k.2 c
      refine xw_iconst (v := nI 1) dX6_hasCell_12 rfl ?_
      refine xw_goto (tgt := 17) dX6_hasCell_13 (by decide) ?_
      exact yw_zret dX6_hasCell_17 rfl (by decide) k
theorem eX6_hasCell {q : Nat} {v1 : Int32} {h : xHp} {Q : Int32 → xHp → Prop} (k : Ex mX6_hasCell 0 [.ref q, .int v1] [] h 0 0 (xqI Q)) : CI mX6_hasCell [.ref q, .int v1] h Q := k
theorem bX6_faultOfLaying_0 {q : Nat} {v1 v2 : Int32} {mc ms : Nat} {Q : Int32 → xHp → Prop} (hW : xLay sh R) (hq : xShelf sh R q)
    (k : ((¬ (I q 4) = (-1) → CI mX6_hasCell [.ref q, .int v1] (sh, I, R) (fun w h1 => Ex mX6_faultOfLaying 15 [.ref q, xU, .int v2] (.int w :: []) h1 mc ms (xqI Q))) ∧ ((I q 4) = (-1) → Q (nI 1) (sh, I, R)))) :
    Ex mX6_faultOfLaying 0 [.ref q, .int v1, .int v2] [] (sh, I, R) mc ms (xqI Q) := by
  refine xw_aload_n dX6_faultOfLaying_0 rfl rfl ?_
  refine yw_getI (v := I q 4) dX6_faultOfLaying_1 fX6_21 rfl hq.1 rfl ?_
  refine xw_iconst (v := (-1)) dX6_faultOfLaying_4 rfl ?_
  refine xw_icne (tgt := 10) dX6_faultOfLaying_5 (by decide) (fun c => ?_) (fun c => ?_)
  · replace k := k.1 c
    refine xw_aload_n dX6_faultOfLaying_10 rfl rfl ?_
    refine xw_iload_n dX6_faultOfLaying_11 rfl rfl ?_
    refine yw_sub (lv' := [.ref q, xU, .int v2]) ⟨Or.inr rfl, Or.inl rfl, Or.inr rfl, trivial⟩ ?_
    exact yw_cV (As := [.int v1]) (b := q) (st := []) dX6_faultOfLaying_12 lX6_38 kiX6_hasCell kvX6_hasCell rfl rfl rfl hq.1 rfl (Nat.le_of_ble_eq_true rfl) rfl (xk_I k)
  · replace k := k.2 c
    refine xw_iconst (v := nI 1) dX6_faultOfLaying_8 rfl ?_
    exact yw_iret dX6_faultOfLaying_9 rfl k
theorem bX6_faultOfLaying_15 {q : Nat} {v2 s0 : Int32} {mc ms : Nat} {Q : Int32 → xHp → Prop} (hW : xLay sh R) (hq : xShelf sh R q)
    (k : ((¬ s0 = 0 → (((I q 3) = (nI 2) → Q (nI 0) (sh, I, R)) ∧ (¬ (I q 3) = (nI 2) → (((I q 3) = v2 → Q (nI 0) (sh, I, R)) ∧ (¬ (I q 3) = v2 → Q (nI 4) (sh, I, R)))))) ∧ (s0 = 0 → Q (nI 3) (sh, I, R)))) :
    Ex mX6_faultOfLaying 15 [.ref q, xU, .int v2] [.int s0] (sh, I, R) mc ms (xqI Q) := by
  refine xw_ifne (tgt := 20) dX6_faultOfLaying_15 (by decide) (fun c => ?_) (fun c => ?_)
  · replace k := k.1 c
    refine xw_aload_n dX6_faultOfLaying_20 rfl rfl ?_
    refine yw_getI (v := I q 3) dX6_faultOfLaying_21 fX6_29 rfl hq.1 rfl ?_
    refine xw_iconst (v := nI 2) dX6_faultOfLaying_24 rfl ?_
    refine xw_iceq (tgt := 40) dX6_faultOfLaying_25 (by decide) (fun c => ?_) (fun c => ?_)
    · replace k := k.1 c
      refine xw_iconst (v := nI 0) dX6_faultOfLaying_40 rfl ?_
      exact yw_iret dX6_faultOfLaying_41 rfl k
    · replace k := k.2 c
      refine xw_aload_n dX6_faultOfLaying_28 rfl rfl ?_
      refine yw_getI (v := I q 3) dX6_faultOfLaying_29 fX6_29 rfl hq.1 rfl ?_
      refine xw_iload_n dX6_faultOfLaying_32 rfl rfl ?_
      refine xw_iceq (tgt := 40) dX6_faultOfLaying_33 (by decide) (fun c => ?_) (fun c => ?_)
      · replace k := k.1 c
        refine xw_iconst (v := nI 0) dX6_faultOfLaying_40 rfl ?_
        exact yw_iret dX6_faultOfLaying_41 rfl k
      · replace k := k.2 c
        refine xw_iconst (v := nI 4) dX6_faultOfLaying_36 rfl ?_
        refine xw_goto (tgt := 41) dX6_faultOfLaying_37 (by decide) ?_
        exact yw_iret dX6_faultOfLaying_41 rfl k
  · replace k := k.2 c
    refine xw_iconst (v := nI 3) dX6_faultOfLaying_18 rfl ?_
    exact yw_iret dX6_faultOfLaying_19 rfl k
theorem eX6_faultOfLaying {q : Nat} {v1 : Int32} {v2 : Int32} {h : xHp} {Q : Int32 → xHp → Prop} (k : Ex mX6_faultOfLaying 0 [.ref q, .int v1, .int v2] [] h 0 0 (xqI Q)) : CI mX6_faultOfLaying [.ref q, .int v1, .int v2] h Q := k
theorem bX6_faultOfTaking_0 {q : Nat} {v1 v2 : Int32} {mc ms : Nat} {Q : Int32 → xHp → Prop} (hW : xLay sh R) (hq : xShelf sh R q)
    (k : ((¬ (I q 4) = (-1) → ((v1 = (nI 2) → CI mX6_hasCell [.ref q, .int v2] (sh, I, R) (fun w h1 => Ex mX6_faultOfTaking 30 [.ref q, xU, .int v2] (.int w :: []) h1 mc ms (xqI Q))) ∧ (¬ v1 = (nI 2) → ((v1 = (I q 3) → CI mX6_hasCell [.ref q, .int v2] (sh, I, R) (fun w h1 => Ex mX6_faultOfTaking 30 [.ref q, xU, .int v2] (.int w :: []) h1 mc ms (xqI Q))) ∧ (¬ v1 = (I q 3) → Q (nI 2) (sh, I, R)))))) ∧ ((I q 4) = (-1) → Q (nI 1) (sh, I, R)))) :
    Ex mX6_faultOfTaking 0 [.ref q, .int v1, .int v2] [] (sh, I, R) mc ms (xqI Q) := by
  refine xw_aload_n dX6_faultOfTaking_0 rfl rfl ?_
  refine yw_getI (v := I q 4) dX6_faultOfTaking_1 fX6_21 rfl hq.1 rfl ?_
  refine xw_iconst (v := (-1)) dX6_faultOfTaking_4 rfl ?_
  refine xw_icne (tgt := 10) dX6_faultOfTaking_5 (by decide) (fun c => ?_) (fun c => ?_)
  · replace k := k.1 c
    refine xw_iload_n dX6_faultOfTaking_10 rfl rfl ?_
    refine xw_iconst (v := nI 2) dX6_faultOfTaking_11 rfl ?_
    refine xw_iceq (tgt := 25) dX6_faultOfTaking_12 (by decide) (fun c => ?_) (fun c => ?_)
    · replace k := k.1 c
      refine xw_aload_n dX6_faultOfTaking_25 rfl rfl ?_
      refine xw_iload_n dX6_faultOfTaking_26 rfl rfl ?_
      refine yw_sub (lv' := [.ref q, xU, .int v2]) ⟨Or.inr rfl, Or.inl rfl, Or.inr rfl, trivial⟩ ?_
      exact yw_cV (As := [.int v2]) (b := q) (st := []) dX6_faultOfTaking_27 lX6_38 kiX6_hasCell kvX6_hasCell rfl rfl rfl hq.1 rfl (Nat.le_of_ble_eq_true rfl) rfl (xk_I k)
    · replace k := k.2 c
      refine xw_iload_n dX6_faultOfTaking_15 rfl rfl ?_
      refine xw_aload_n dX6_faultOfTaking_16 rfl rfl ?_
      refine yw_getI (v := I q 3) dX6_faultOfTaking_17 fX6_29 rfl hq.1 rfl ?_
      refine xw_iceq (tgt := 25) dX6_faultOfTaking_20 (by decide) (fun c => ?_) (fun c => ?_)
      · replace k := k.1 c
        refine xw_aload_n dX6_faultOfTaking_25 rfl rfl ?_
        refine xw_iload_n dX6_faultOfTaking_26 rfl rfl ?_
        refine yw_sub (lv' := [.ref q, xU, .int v2]) ⟨Or.inr rfl, Or.inl rfl, Or.inr rfl, trivial⟩ ?_
        exact yw_cV (As := [.int v2]) (b := q) (st := []) dX6_faultOfTaking_27 lX6_38 kiX6_hasCell kvX6_hasCell rfl rfl rfl hq.1 rfl (Nat.le_of_ble_eq_true rfl) rfl (xk_I k)
      · replace k := k.2 c
        refine xw_iconst (v := nI 2) dX6_faultOfTaking_23 rfl ?_
        exact yw_iret dX6_faultOfTaking_24 rfl k
  · replace k := k.2 c
    refine xw_iconst (v := nI 1) dX6_faultOfTaking_8 rfl ?_
    exact yw_iret dX6_faultOfTaking_9 rfl k
theorem bX6_faultOfTaking_30 {q : Nat} {v2 s0 : Int32} {mc ms : Nat} {Q : Int32 → xHp → Prop} (hW : xLay sh R) (hq : xShelf sh R q)
    (k : ((¬ s0 = 0 → vp_in v2 8 ∧ (((I (q + 2) v2.toNatClampNeg) = (-1) → Q (nI 5) (sh, I, R)) ∧ (¬ (I (q + 2) v2.toNatClampNeg) = (-1) → vp_in v2 8 ∧ ((R (q + 1) v2.toNatClampNeg = none → Q (nI 5) (sh, I, R)) ∧ (∀ r1, R (q + 1) v2.toNatClampNeg = some r1 → xMach sh R r1 4 ∧ Q (nI 0) (sh, I, R)))))) ∧ (s0 = 0 → Q (nI 3) (sh, I, R)))) :
    Ex mX6_faultOfTaking 30 [.ref q, xU, .int v2] [.int s0] (sh, I, R) mc ms (xqI Q) := by
  refine xw_ifne (tgt := 35) dX6_faultOfTaking_30 (by decide) (fun c => ?_) (fun c => ?_)
  · replace k := k.1 c
    refine xw_aload_n dX6_faultOfTaking_35 rfl rfl ?_
    refine yw_getR (r := (q + 2)) dX6_faultOfTaking_36 fX6_17 rfl hq.1 hq.2.2.2.2.2 ?_
    refine xw_iload_n dX6_faultOfTaking_39 rfl rfl ?_
    obtain ⟨k0, k⟩ := k
    refine yw_iaload (v := I (q + 2) v2.toNatClampNeg) dX6_faultOfTaking_40 hq.2.2.1 k0 rfl ?_
    refine xw_iconst (v := (-1)) dX6_faultOfTaking_41 rfl ?_
    refine xw_iceq (tgt := 54) dX6_faultOfTaking_42 (by decide) (fun c => ?_) (fun c => ?_)
    · replace k := k.1 c
      refine xw_iconst (v := nI 5) dX6_faultOfTaking_54 rfl ?_
      refine xw_goto (tgt := 59) dX6_faultOfTaking_55 (by decide) ?_
      exact yw_iret dX6_faultOfTaking_59 rfl k
    · replace k := k.2 c
      refine xw_aload_n dX6_faultOfTaking_45 rfl rfl ?_
      refine yw_getR (r := (q + 1)) dX6_faultOfTaking_46 fX6_11 rfl hq.1 hq.2.2.2.2.1 ?_
      refine xw_iload_n dX6_faultOfTaking_49 rfl rfl ?_
      obtain ⟨k0, k⟩ := k
      cases e0 : R (q + 1) v2.toNatClampNeg with
      | none =>
        replace k := k.1 e0
        refine yw_aaloadN dX6_faultOfTaking_50 hq.2.1 (by decide) k0 e0 ?_
        refine xw_ifnonnullN dX6_faultOfTaking_51 ?_
        refine xw_iconst (v := nI 5) dX6_faultOfTaking_54 rfl ?_
        refine xw_goto (tgt := 59) dX6_faultOfTaking_55 (by decide) ?_
        exact yw_iret dX6_faultOfTaking_59 rfl k
      | some r1 =>
        obtain ⟨hr1, k⟩ := k.2 r1 e0
        refine yw_aaload (r := r1) dX6_faultOfTaking_50 hq.2.1 (by decide) k0 e0 ?_
        refine xw_ifnonnull (tgt := 58) dX6_faultOfTaking_51 (by decide) ?_
        refine xw_iconst (v := nI 0) dX6_faultOfTaking_58 rfl ?_
        exact yw_iret dX6_faultOfTaking_59 rfl k
  · replace k := k.2 c
    refine xw_iconst (v := nI 3) dX6_faultOfTaking_33 rfl ?_
    exact yw_iret dX6_faultOfTaking_34 rfl k
theorem eX6_faultOfTaking {q : Nat} {v1 : Int32} {v2 : Int32} {h : xHp} {Q : Int32 → xHp → Prop} (k : Ex mX6_faultOfTaking 0 [.ref q, .int v1, .int v2] [] h 0 0 (xqI Q)) : CI mX6_faultOfTaking [.ref q, .int v1, .int v2] h Q := k
end BLKB
