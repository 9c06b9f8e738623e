section BLKF
variable {sh : List xSh} {I : Nat → Nat → Int32} {R : Nat → Nat → Option Nat}
theorem bX9_draw_0 {v1 v2 : Int32} {mc ms : Nat} {Q : Int32 → xHp → Prop} (hW : xLay sh R) 
    (k : ((v2 < 0 → Q (-1) (sh, I, R)) ∧ (¬ v2 < 0 → ((v2 ≤ (nI 4) → Ex mX9_draw 11 [.ref 0, .int v1, .int v2, xU, xU, xU, xU, xU] [] (sh, I, R) mc ms (xqI Q)) ∧ (¬ v2 ≤ (nI 4) → Q (-1) (sh, I, R)))))) :
    Ex mX9_draw 0 [.ref 0, .int v1, .int v2, xU, xU, xU, xU, xU] [] (sh, I, R) mc ms (xqI Q) := by
  refine xw_iload_n dX9_draw_0 rfl rfl ?_
  refine xw_iflt (tgt := 9) dX9_draw_1 (by decide) (fun c => ?_) (fun c => ?_)
  · replace k := k.1 c
    refine xw_iconst (v := (-1)) dX9_draw_9 rfl ?_
    exact yw_iret dX9_draw_10 rfl k
  · replace k := k.2 c
    refine xw_iload_n dX9_draw_4 rfl rfl ?_
    refine xw_iconst (v := nI 4) dX9_draw_5 rfl ?_
    refine xw_icle (tgt := 11) dX9_draw_6 (by decide) (fun c => ?_) (fun c => ?_)
    · replace k := k.1 c
      exact k
    · replace k := k.2 c
      refine xw_iconst (v := (-1)) dX9_draw_9 rfl ?_
      exact yw_iret dX9_draw_10 rfl k
theorem bX9_draw_26 {b0 : Nat} {v2 : Int32} {mc ms : Nat} {Q : Int32 → xHp → Prop} (hW : xLay sh R) (hb0 : sh[b0]? = some (.inl 2))
    (k : CV mX3_become [.ref 12, .int v2] (sh, I, R) (fun h1 => Ex mX9_draw 42 [.ref 0, xU, .int v2, .ref b0, .ref 12, xU, xU, xU] [] h1 mc ms (xqI Q))) :
    Ex mX9_draw 26 [.ref 0, xU, .int v2, xU, xU, xU, xU, xU] [.ref b0] (sh, I, R) mc ms (xqI Q) := by
  refine yw_astore_n (lv' := [.ref 0, xU, .int v2, .ref b0, xU, xU, xU, xU]) dX9_draw_26 rfl rfl rfl rfl ?_
  refine xw_aload_n dX9_draw_27 rfl rfl ?_
  refine yw_getR (r := 9) dX9_draw_28 fX9_28 rfl (la_0 hW) (lr_0_2 hW) ?_
  refine yw_getR (r := 12) dX9_draw_31 fX9_110 rfl hW.2.2.1.1 hW.2.2.1.2.2.2.2.2.2.1 ?_
  refine yw_astore (lv' := [.ref 0, xU, .int v2, .ref b0, .ref 12, xU, xU, xU]) dX9_draw_34 rfl rfl rfl ?_
  refine xw_aload dX9_draw_36 rfl ?_
  refine xw_iload_n dX9_draw_38 rfl rfl ?_
  exact yw_cV (As := [.int v2]) (b := 12) (st := []) dX9_draw_39 lX9_307 kiX3_become kvX3_become rfl rfl rfl hW.2.2.1.2.2.2.2.2.2.2.2.1.1 rfl (Nat.le_of_ble_eq_true rfl) rfl (xk_V k)
theorem bX9_draw_42 {a3 : Nat} {v2 : Int32} {mc ms : Nat} {Q : Int32 → xHp → Prop} (hW : xLay sh R) (ha3 : sh[a3]? = some (.inl 2))
    (k : Ex mX9_draw 45 [.ref 0, xU, .int v2, .ref a3, .ref 12, .int (nI 0), xU, xU] [] (sh, I, R) mc ms (xqI Q)) :
    Ex mX9_draw 42 [.ref 0, xU, .int v2, .ref a3, .ref 12, xU, xU, xU] [] (sh, I, R) mc ms (xqI Q) := by
  refine xw_iconst (v := nI 0) dX9_draw_42 rfl ?_
  refine yw_istore (lv' := [.ref 0, xU, .int v2, .ref a3, .ref 12, .int (nI 0), xU, xU]) dX9_draw_43 rfl rfl rfl ?_
  exact k
theorem bX9_draw_45 {a3 : Nat} {v2 v5 : Int32} {mc ms : Nat} {Q : Int32 → xHp → Prop} (hW : xLay sh R) (ha3 : sh[a3]? = some (.inl 2))
    (k : ((v2 ≤ v5 → CV mX9_changed [.ref 0] (sh, I, R) (fun h1 => Ex mX9_draw 142 [xU, xU, xU, xU, xU, xU, xU, xU] [] h1 mc ms (xqI Q))) ∧ (¬ v2 ≤ v5 → CI mX2_nextResidue [.ref a3] (sh, I, R) (fun w h1 => Ex mX9_draw 62 [.ref 0, xU, .int v2, .ref a3, .ref 12, .int v5, xU, xU] (.int w :: [.int v5, .ref 13]) h1 mc ms (xqI Q))))) :
    Ex mX9_draw 45 [.ref 0, xU, .int v2, .ref a3, .ref 12, .int v5, xU, xU] [] (sh, I, R) mc ms (xqI Q) := by
  refine xw_iload dX9_draw_45 rfl ?_
  refine xw_iload_n dX9_draw_47 rfl rfl ?_
  refine xw_icge (tgt := 138) dX9_draw_48 (by decide) (fun c => ?_) (fun c => ?_)
  · replace k := k.1 c
    refine xw_aload_n dX9_draw_138 rfl rfl ?_
    refine yw_sub (lv' := [xU, xU, xU, xU, xU, xU, xU, xU]) ⟨Or.inl rfl, Or.inl rfl, Or.inl rfl, Or.inl rfl, Or.inl rfl, Or.inl rfl, Or.inl rfl, Or.inl rfl, trivial⟩ ?_
    exact yw_cV (As := []) (b := 0) (st := []) dX9_draw_139 lX9_117 kiX9_changed kvX9_changed rfl rfl rfl (la_0 hW) rfl (Nat.le_of_ble_eq_true rfl) rfl (xk_V k)
  · replace k := k.2 c
    refine xw_aload dX9_draw_51 rfl ?_
    refine yw_getR (r := 13) dX9_draw_53 fX9_178 rfl hW.2.2.1.2.2.2.2.2.2.2.2.1.1 hW.2.2.1.2.2.2.2.2.2.2.2.1.2.2.2.2.2.1 ?_
    refine xw_iload dX9_draw_56 rfl ?_
    refine xw_aload_n dX9_draw_58 rfl rfl ?_
    exact yw_cV (As := []) (b := a3) (st := [.int v5, .ref 13]) dX9_draw_59 lX9_309 kiX2_nextResidue kvX2_nextResidue rfl rfl rfl ha3 rfl (Nat.le_of_ble_eq_true rfl) rfl (xk_I k)
theorem bX9_draw_142 {mc ms : Nat} {Q : Int32 → xHp → Prop} (hW : xLay sh R) 
    (k : Q (nI 1) (sh, I, R)) :
    Ex mX9_draw 142 [xU, xU, xU, xU, xU, xU, xU, xU] [] (sh, I, R) mc ms (xqI Q) := by
  refine xw_iconst (v := nI 1) dX9_draw_142 rfl ?_
  exact yw_iret dX9_draw_143 rfl k
theorem bX9_draw_62 {a3 : Nat} {v2 v5 s2 s1 : Int32} {mc ms : Nat} {Q : Int32 → xHp → Prop} (hW : xLay sh R) (ha3 : sh[a3]? = some (.inl 2))
    (k : vp_in s1 4 ∧ CI mX2_nextResidue [.ref a3] (sh, (xi I 13 s1.toNatClampNeg s2), R) (fun w h1 => Ex mX9_draw 74 [.ref 0, xU, .int v2, .ref a3, .ref 12, .int v5, xU, xU] (.int w :: [.int v5, .ref 14]) h1 mc ms (xqI Q))) :
    Ex mX9_draw 62 [.ref 0, xU, .int v2, .ref a3, .ref 12, .int v5, xU, xU] [.int s2, .int s1, .ref 13] (sh, I, R) mc ms (xqI Q) := by
  obtain ⟨k0, k⟩ := k
  refine yw_iastore dX9_draw_62 hW.2.2.1.2.2.2.2.2.2.2.2.1.2.1 k0 ?_
  refine xw_aload dX9_draw_63 rfl ?_
  refine yw_getR (r := 14) dX9_draw_65 fX9_181 rfl hW.2.2.1.2.2.2.2.2.2.2.2.1.1 hW.2.2.1.2.2.2.2.2.2.2.2.1.2.2.2.2.2.2.1 ?_
  refine xw_iload dX9_draw_68 rfl ?_
  refine xw_aload_n dX9_draw_70 rfl rfl ?_
  exact yw_cV (As := []) (b := a3) (st := [.int v5, .ref 14]) dX9_draw_71 lX9_309 kiX2_nextResidue kvX2_nextResidue rfl rfl rfl ha3 rfl (Nat.le_of_ble_eq_true rfl) rfl (xk_I k)
theorem bX9_draw_74 {a3 : Nat} {v2 v5 s2 s1 : Int32} {mc ms : Nat} {Q : Int32 → xHp → Prop} (hW : xLay sh R) (ha3 : sh[a3]? = some (.inl 2))
    (k : vp_in s1 4 ∧ Ex mX9_draw 78 [.ref 0, xU, .int v2, .ref a3, .ref 12, .int v5, .int (nI 0), xU] [] (sh, (xi I 14 s1.toNatClampNeg s2), R) mc ms (xqI Q)) :
    Ex mX9_draw 74 [.ref 0, xU, .int v2, .ref a3, .ref 12, .int v5, xU, xU] [.int s2, .int s1, .ref 14] (sh, I, R) mc ms (xqI Q) := by
  obtain ⟨k0, k⟩ := k
  refine yw_iastore dX9_draw_74 hW.2.2.1.2.2.2.2.2.2.2.2.1.2.2.1 k0 ?_
  refine xw_iconst (v := nI 0) dX9_draw_75 rfl ?_
  refine yw_istore (lv' := [.ref 0, xU, .int v2, .ref a3, .ref 12, .int v5, .int (nI 0), xU]) dX9_draw_76 rfl rfl rfl ?_
  exact k
theorem bX9_draw_78 {a3 : Nat} {v2 v5 v6 : Int32} {mc ms : Nat} {Q : Int32 → xHp → Prop} (hW : xLay sh R) (ha3 : sh[a3]? = some (.inl 2))
    (k : (((I 1 1) ≤ v6 → Ex mX9_draw 45 [.ref 0, xU, .int v2, .ref a3, .ref 12, .int (v5 + nI 1), xU, xU] [] (sh, I, R) mc ms (xqI Q)) ∧ (¬ (I 1 1) ≤ v6 → Ex mX9_draw 93 [.ref 0, xU, .int v2, .ref a3, .ref 12, .int v5, .int v6, .int (nI 0)] [] (sh, I, R) mc ms (xqI Q)))) :
    Ex mX9_draw 78 [.ref 0, xU, .int v2, .ref a3, .ref 12, .int v5, .int v6, xU] [] (sh, I, R) mc ms (xqI Q) := by
  refine xw_iload dX9_draw_78 rfl ?_
  refine xw_aload_n dX9_draw_80 rfl rfl ?_
  refine yw_getR (r := 1) dX9_draw_81 fX9_10 rfl (la_0 hW) (lr_0_0 hW) ?_
  refine yw_getI (v := I 1 1) dX9_draw_84 fX9_130 rfl (la_1 hW) rfl ?_
  refine xw_icge (tgt := 132) dX9_draw_87 (by decide) (fun c => ?_) (fun c => ?_)
  · replace k := k.1 c
    refine yw_iinc (lv' := [.ref 0, xU, .int v2, .ref a3, .ref 12, .int (v5 + nI 1), .int v6, xU]) (v := nI 1) dX9_draw_132 rfl rfl rfl rfl rfl ?_
    refine xw_goto (tgt := 45) dX9_draw_135 (by decide) ?_
    exact yw_sub (lv' := [.ref 0, xU, .int v2, .ref a3, .ref 12, .int (v5 + nI 1), xU, xU]) ⟨Or.inr rfl, Or.inl rfl, Or.inr rfl, Or.inr rfl, Or.inr rfl, Or.inr rfl, Or.inl rfl, Or.inl rfl, trivial⟩ k
  · replace k := k.2 c
    refine xw_iconst (v := nI 0) dX9_draw_90 rfl ?_
    refine yw_istore (lv' := [.ref 0, xU, .int v2, .ref a3, .ref 12, .int v5, .int v6, .int (nI 0)]) dX9_draw_91 rfl rfl rfl ?_
    exact k
theorem bX9_draw_93 {a3 : Nat} {v2 v5 v6 v7 : Int32} {mc ms : Nat} {Q : Int32 → xHp → Prop} (hW : xLay sh R) (ha3 : sh[a3]? = some (.inl 2))
    (k : ((v2 ≤ v7 → Ex mX9_draw 78 [.ref 0, xU, .int v2, .ref a3, .ref 12, .int v5, .int (v6 + nI 1), xU] [] (sh, I, R) mc ms (xqI Q)) ∧ (¬ v2 ≤ v7 → CI mX3_at [.ref 12, .int v5, .int v6, .int v7] (sh, I, R) (fun w h1 => Ex mX9_draw 115 [.ref 0, xU, .int v2, .ref a3, .ref 12, .int v5, .int v6, .int v7] (.int w :: [.ref 15]) h1 mc ms (xqI Q))))) :
    Ex mX9_draw 93 [.ref 0, xU, .int v2, .ref a3, .ref 12, .int v5, .int v6, .int v7] [] (sh, I, R) mc ms (xqI Q) := by
  refine xw_iload dX9_draw_93 rfl ?_
  refine xw_iload_n dX9_draw_95 rfl rfl ?_
  refine xw_icge (tgt := 126) dX9_draw_96 (by decide) (fun c => ?_) (fun c => ?_)
  · replace k := k.1 c
    refine yw_iinc (lv' := [.ref 0, xU, .int v2, .ref a3, .ref 12, .int v5, .int (v6 + nI 1), .int v7]) (v := nI 1) dX9_draw_126 rfl rfl rfl rfl rfl ?_
    refine xw_goto (tgt := 78) dX9_draw_129 (by decide) ?_
    exact yw_sub (lv' := [.ref 0, xU, .int v2, .ref a3, .ref 12, .int v5, .int (v6 + nI 1), xU]) ⟨Or.inr rfl, Or.inl rfl, Or.inr rfl, Or.inr rfl, Or.inr rfl, Or.inr rfl, Or.inr rfl, Or.inl rfl, trivial⟩ k
  · replace k := k.2 c
    refine xw_aload dX9_draw_99 rfl ?_
    refine yw_getR (r := 15) dX9_draw_101 fX9_187 rfl hW.2.2.1.2.2.2.2.2.2.2.2.1.1 hW.2.2.1.2.2.2.2.2.2.2.2.1.2.2.2.2.2.2.2 ?_
    refine xw_aload dX9_draw_104 rfl ?_
    refine xw_iload dX9_draw_106 rfl ?_
    refine xw_iload dX9_draw_108 rfl ?_
    refine xw_iload dX9_draw_110 rfl ?_
    exact yw_cV (As := [.int v5, .int v6, .int v7]) (b := 12) (st := [.ref 15]) dX9_draw_112 lX9_190 kiX3_at kvX3_at rfl rfl rfl hW.2.2.1.2.2.2.2.2.2.2.2.1.1 rfl (Nat.le_of_ble_eq_true rfl) rfl (xk_I k)
theorem bX9_draw_115 {a3 : Nat} {v2 v5 v6 v7 s1 : Int32} {mc ms : Nat} {Q : Int32 → xHp → Prop} (hW : xLay sh R) (ha3 : sh[a3]? = some (.inl 2))
    (k : CI mX2_nextResidue [.ref a3] (sh, I, R) (fun w h1 => Ex mX9_draw 119 [.ref 0, xU, .int v2, .ref a3, .ref 12, .int v5, .int v6, .int v7] (.int w :: [.int s1, .ref 15]) h1 mc ms (xqI Q))) :
    Ex mX9_draw 115 [.ref 0, xU, .int v2, .ref a3, .ref 12, .int v5, .int v6, .int v7] [.int s1, .ref 15] (sh, I, R) mc ms (xqI Q) := by
  refine xw_aload_n dX9_draw_115 rfl rfl ?_
  exact yw_cV (As := []) (b := a3) (st := [.int s1, .ref 15]) dX9_draw_116 lX9_309 kiX2_nextResidue kvX2_nextResidue rfl rfl rfl ha3 rfl (Nat.le_of_ble_eq_true rfl) rfl (xk_I k)
theorem bX9_draw_119 {a3 : Nat} {v2 v5 v6 v7 s2 s1 : Int32} {mc ms : Nat} {Q : Int32 → xHp → Prop} (hW : xLay sh R) (ha3 : sh[a3]? = some (.inl 2))
    (k : vp_in s1 48 ∧ Ex mX9_draw 93 [.ref 0, xU, .int v2, .ref a3, .ref 12, .int v5, .int v6, .int (v7 + nI 1)] [] (sh, (xi I 15 s1.toNatClampNeg s2), R) mc ms (xqI Q)) :
    Ex mX9_draw 119 [.ref 0, xU, .int v2, .ref a3, .ref 12, .int v5, .int v6, .int v7] [.int s2, .int s1, .ref 15] (sh, I, R) mc ms (xqI Q) := by
  obtain ⟨k0, k⟩ := k
  refine yw_iastore dX9_draw_119 hW.2.2.1.2.2.2.2.2.2.2.2.1.2.2.2.1 k0 ?_
  refine yw_iinc (lv' := [.ref 0, xU, .int v2, .ref a3, .ref 12, .int v5, .int v6, .int (v7 + nI 1)]) (v := nI 1) dX9_draw_120 rfl rfl rfl rfl rfl ?_
  refine xw_goto (tgt := 93) dX9_draw_123 (by decide) ?_
  exact k
theorem bX6_put_0 {a2 Ma2 q : Nat} {v1 v3 : Int32} {mc ms : Nat} {Q : xHp → Prop} (hW : xLay sh R) (hq : xShelf sh R q) (ha2 : xMach sh R a2 Ma2)
    (k : CI mX6_hasCell [.ref q, .int v1] (sh, I, R) (fun w h1 => Ex mX6_put 5 [.ref q, .int v1, .ref a2, .int v3] (.int w :: []) h1 mc ms (xqV Q))) :
    Ex mX6_put 0 [.ref q, .int v1, .ref a2, .int v3] [] (sh, I, R) mc ms (xqV Q) := by
  refine xw_aload_n dX6_put_0 rfl rfl ?_
  refine xw_iload_n dX6_put_1 rfl rfl ?_
  exact yw_cV (As := [.int v1]) (b := q) (st := []) dX6_put_2 lX6_38 kiX6_hasCell kvX6_hasCell rfl rfl rfl hq.1 rfl (Nat.le_of_ble_eq_true rfl) rfl (xk_I k)
theorem bX6_put_5 {a2 Ma2 q : Nat} {v1 v3 s0 : Int32} {mc ms : Nat} {Q : xHp → Prop} (hW : xLay sh R) (hq : xShelf sh R q) (ha2 : xMach sh R a2 Ma2)
    (k : ((¬ s0 = 0 → vp_in v1 8 ∧ ((R (q + 1) v1.toNatClampNeg = none → Ex mX6_put 23 [.ref q, .int v1, .ref a2, .int v3] [.int v1, .ref (q + 1)] (sh, I, R) mc ms (xqV Q)) ∧ (∀ r1, R (q + 1) v1.toNatClampNeg = some r1 → xMach sh R r1 4 ∧ Ex mX6_put 36 [.ref q, .int v1, .ref a2, .int v3] [] (sh, I, R) mc ms (xqV Q)))) ∧ (s0 = 0 → Q (sh, I, R)))) :
    Ex mX6_put 5 [.ref q, .int v1, .ref a2, .int v3] [.int s0] (sh, I, R) mc ms (xqV Q) := by
  refine xw_ifne (tgt := 9) dX6_put_5 (by decide) (fun c => ?_) (fun c => ?_)
  · replace k := k.1 c
    refine xw_aload_n dX6_put_9 rfl rfl ?_
    refine yw_getR (r := (q + 1)) dX6_put_10 fX6_11 rfl hq.1 hq.2.2.2.2.1 ?_
    refine xw_iload_n dX6_put_13 rfl rfl ?_
    obtain ⟨k0, k⟩ := k
    cases e0 : R (q + 1) v1.toNatClampNeg with
    | none =>
      replace k := k.1 e0
      refine yw_aaloadN dX6_put_14 hq.2.1 (by decide) k0 e0 ?_
      refine xw_ifnonnullN dX6_put_15 ?_
      refine xw_aload_n dX6_put_18 rfl rfl ?_
      refine yw_getR (r := (q + 1)) dX6_put_19 fX6_11 rfl hq.1 hq.2.2.2.2.1 ?_
      refine xw_iload_n dX6_put_22 rfl rfl ?_
      exact k
    | some r1 =>
      obtain ⟨hr1, k⟩ := k.2 r1 e0
      refine yw_aaload (r := r1) dX6_put_14 hq.2.1 (by decide) k0 e0 ?_
      refine xw_ifnonnull (tgt := 36) dX6_put_15 (by decide) ?_
      exact k
  · replace k := k.2 c
    exact yw_vret dX6_put_8 rfl k
theorem bX6_put_36 {a2 Ma2 q : Nat} {v1 v3 : Int32} {mc ms : Nat} {Q : xHp → Prop} (hW : xLay sh R) (hq : xShelf sh R q) (ha2 : xMach sh R a2 Ma2)
    (k : vp_in v1 8 ∧ ((R (q + 1) v1.toNatClampNeg = none → False) ∧ (∀ r1, R (q + 1) v1.toNatClampNeg = some r1 → xMach sh R r1 4 ∧ CV mX3_copy [.ref r1, .ref a2] (sh, I, R) (fun h1 => Ex mX6_put 46 [.ref q, .int v1, xU, .int v3] [] h1 mc ms (xqV Q))))) :
    Ex mX6_put 36 [.ref q, .int v1, .ref a2, .int v3] [] (sh, I, R) mc ms (xqV Q) := by
  refine xw_aload_n dX6_put_36 rfl rfl ?_
  refine yw_getR (r := (q + 1)) dX6_put_37 fX6_11 rfl hq.1 hq.2.2.2.2.1 ?_
  refine xw_iload_n dX6_put_40 rfl rfl ?_
  obtain ⟨k0, k⟩ := k
  cases e0 : R (q + 1) v1.toNatClampNeg with
  | none =>
    replace k := k.1 e0
    refine yw_aaloadN dX6_put_41 hq.2.1 (by decide) k0 e0 ?_
    exact k.elim
  | some r1 =>
    obtain ⟨hr1, k⟩ := k.2 r1 e0
    refine yw_aaload (r := r1) dX6_put_41 hq.2.1 (by decide) k0 e0 ?_
    refine xw_aload_n dX6_put_42 rfl rfl ?_
    refine yw_sub (lv' := [.ref q, .int v1, xU, .int v3]) ⟨Or.inr rfl, Or.inr rfl, Or.inl rfl, Or.inr rfl, trivial⟩ ?_
    exact yw_cV (As := [.ref a2]) (b := r1) (st := []) dX6_put_43 lX6_45 kiX3_copy kvX3_copy rfl rfl rfl hr1.1 rfl (Nat.le_of_ble_eq_true rfl) rfl (xk_V k)
theorem bX6_put_46 {q : Nat} {v1 v3 : Int32} {mc ms : Nat} {Q : xHp → Prop} (hW : xLay sh R) (hq : xShelf sh R q)
    (k : vp_in v1 8 ∧ Q (sh, (xi I (q + 2) v1.toNatClampNeg v3), R)) :
    Ex mX6_put 46 [.ref q, .int v1, xU, .int v3] [] (sh, I, R) mc ms (xqV Q) := by
  refine xw_aload_n dX6_put_46 rfl rfl ?_
  refine yw_getR (r := (q + 2)) dX6_put_47 fX6_17 rfl hq.1 hq.2.2.2.2.2 ?_
  refine xw_iload_n dX6_put_50 rfl rfl ?_
  refine xw_iload_n dX6_put_51 rfl rfl ?_
  obtain ⟨k0, k⟩ := k
  refine yw_iastore dX6_put_52 hq.2.2.1 k0 ?_
  exact yw_vret dX6_put_53 rfl k
theorem bX9_lay_0 {v1 v2 v3 : Int32} {mc ms : Nat} {Q : Int32 → xHp → Prop} (hW : xLay sh R) 
    (k : CI mX9_isShelf [.int v1] (sh, I, R) (fun w h1 => Ex mX9_lay 4 [.ref 0, .int v1, .int v2, .int v3, xU, xU, xU] (.int w :: []) h1 mc ms (xqI Q))) :
    Ex mX9_lay 0 [.ref 0, .int v1, .int v2, .int v3, xU, xU, xU] [] (sh, I, R) mc ms (xqI Q) := by
  refine xw_iload_n dX9_lay_0 rfl rfl ?_
  exact yw_cS (As := [.int v1]) (st := []) dX9_lay_1 lX9_318 ksX9_isShelf rfl rfl rfl (Nat.le_of_ble_eq_true rfl) rfl (xk_I k)
theorem bX9_lay_4 {v1 v2 v3 s0 : Int32} {mc ms : Nat} {Q : Int32 → xHp → Prop} (hW : xLay sh R) 
    (k : ((s0 = 0 → Q (-1) (sh, I, R)) ∧ (¬ s0 = 0 → CI mX9_isMachine [.int v3] (sh, I, R) (fun w h1 => Ex mX9_lay 11 [.ref 0, .int v1, .int v2, .int v3, xU, xU, xU] (.int w :: []) h1 mc ms (xqI Q))))) :
    Ex mX9_lay 4 [.ref 0, .int v1, .int v2, .int v3, xU, xU, xU] [.int s0] (sh, I, R) mc ms (xqI Q) := by
  refine xw_ifeq (tgt := 14) dX9_lay_4 (by decide) (fun c => ?_) (fun c => ?_)
  · replace k := k.1 c
    refine xw_iconst (v := (-1)) dX9_lay_14 rfl ?_
    exact yw_iret dX9_lay_15 rfl k
  · replace k := k.2 c
    refine xw_iload_n dX9_lay_7 rfl rfl ?_
    exact yw_cS (As := [.int v3]) (st := []) dX9_lay_8 lX9_168 ksX9_isMachine rfl rfl rfl (Nat.le_of_ble_eq_true rfl) rfl (xk_I k)
theorem bX9_lay_11 {v1 v2 v3 s0 : Int32} {mc ms : Nat} {Q : Int32 → xHp → Prop} (hW : xLay sh R) 
    (k : ((¬ s0 = 0 → CR mX9_machineOf [.ref 0, .int v3] (sh, I, R) (fun r h1 => (r = none → Ex mX9_lay 21 [.ref 0, .int v1, .int v2, .int v3, xU, xU, xU] (.null :: []) h1 mc ms (xqI Q)) ∧ ∀ a, r = some a → Ex mX9_lay 21 [.ref 0, .int v1, .int v2, .int v3, xU, xU, xU] (.ref a :: []) h1 mc ms (xqI Q))) ∧ (s0 = 0 → Q (-1) (sh, I, R)))) :
    Ex mX9_lay 11 [.ref 0, .int v1, .int v2, .int v3, xU, xU, xU] [.int s0] (sh, I, R) mc ms (xqI Q) := by
  refine xw_ifne (tgt := 16) dX9_lay_11 (by decide) (fun c => ?_) (fun c => ?_)
  · replace k := k.1 c
    refine xw_aload_n dX9_lay_16 rfl rfl ?_
    refine xw_iload_n dX9_lay_17 rfl rfl ?_
    exact yw_cV (As := [.int v3]) (b := 0) (st := []) dX9_lay_18 lX9_171 kiX9_machineOf kvX9_machineOf rfl rfl rfl (la_0 hW) rfl (Nat.le_of_ble_eq_true rfl) rfl (xk_R k)
  · replace k := k.2 c
    refine xw_iconst (v := (-1)) dX9_lay_14 rfl ?_
    exact yw_iret dX9_lay_15 rfl k
theorem bX9_lay_21 {b0 Mb0 : Nat} {v1 v2 v3 : Int32} {mc ms : Nat} {Q : Int32 → xHp → Prop} (hW : xLay sh R) (hb0 : xMach sh R b0 Mb0)
    (k : ((¬ v3 = 0 → vp_in v1 3 ∧ CI mX6_faultOfLaying [.ref (200 + 3 * v1.toNatClampNeg), .int v2, .int (nI 1)] (sh, I, R) (fun w h1 => Ex mX9_lay 54 [.ref 0, .int v1, .int v2, xU, .ref b0, .int (nI 1), xU] (.int w :: []) h1 mc ms (xqI Q))) ∧ (v3 = 0 → vp_in v1 3 ∧ CI mX6_faultOfLaying [.ref (200 + 3 * v1.toNatClampNeg), .int v2, .int (nI 0)] (sh, I, R) (fun w h1 => Ex mX9_lay 54 [.ref 0, .int v1, .int v2, xU, .ref b0, .int (nI 0), xU] (.int w :: []) h1 mc ms (xqI Q))))) :
    Ex mX9_lay 21 [.ref 0, .int v1, .int v2, .int v3, xU, xU, xU] [.ref b0] (sh, I, R) mc ms (xqI Q) := by
  refine yw_astore (lv' := [.ref 0, .int v1, .int v2, .int v3, .ref b0, xU, xU]) dX9_lay_21 rfl rfl rfl ?_
  refine xw_aload dX9_lay_23 rfl ?_
  refine xw_ifnonnull (tgt := 31) dX9_lay_25 (by decide) ?_
  refine xw_iload_n dX9_lay_31 rfl rfl ?_
  refine xw_ifne (tgt := 39) dX9_lay_32 (by decide) (fun c => ?_) (fun c => ?_)
  · replace k := k.1 c
    refine xw_iconst (v := nI 1) dX9_lay_39 rfl ?_
    refine yw_istore (lv' := [.ref 0, .int v1, .int v2, .int v3, .ref b0, .int (nI 1), xU]) dX9_lay_40 rfl rfl rfl ?_
    refine xw_aload_n dX9_lay_42 rfl rfl ?_
    refine yw_getR (r := 22) dX9_lay_43 fX9_42 rfl (la_0 hW) (lr_0_5 hW) ?_
    refine xw_iload_n dX9_lay_46 rfl rfl ?_
    obtain ⟨kk1, k⟩ := k
    refine yw_aaload (r := (200 + 3 * v1.toNatClampNeg)) dX9_lay_47 (la_22 hW) (by decide) kk1 (la_shf hW (vp_lt kk1)) ?_
    refine xw_iload_n dX9_lay_48 rfl rfl ?_
    refine xw_iload dX9_lay_49 rfl ?_
    refine yw_sub (lv' := [.ref 0, .int v1, .int v2, xU, .ref b0, .int (nI 1), xU]) ⟨Or.inr rfl, Or.inr rfl, Or.inr rfl, Or.inl rfl, Or.inr rfl, Or.inr rfl, Or.inl rfl, trivial⟩ ?_
    exact yw_cV (As := [.int v2, .int (nI 1)]) (b := (200 + 3 * v1.toNatClampNeg)) (st := []) dX9_lay_51 lX9_327 kiX6_faultOfLaying kvX6_faultOfLaying rfl rfl rfl (hW.2.2.2.2.2.2.1 _ (vp_lt kk1)).1 rfl (Nat.le_of_ble_eq_true rfl) rfl (xk_I k)
  · replace k := k.2 c
    refine xw_iconst (v := nI 0) dX9_lay_35 rfl ?_
    refine xw_goto (tgt := 40) dX9_lay_36 (by decide) ?_
    refine yw_istore (lv' := [.ref 0, .int v1, .int v2, .int v3, .ref b0, .int (nI 0), xU]) dX9_lay_40 rfl rfl rfl ?_
    refine xw_aload_n dX9_lay_42 rfl rfl ?_
    refine yw_getR (r := 22) dX9_lay_43 fX9_42 rfl (la_0 hW) (lr_0_5 hW) ?_
    refine xw_iload_n dX9_lay_46 rfl rfl ?_
    obtain ⟨kk2, k⟩ := k
    refine yw_aaload (r := (200 + 3 * v1.toNatClampNeg)) dX9_lay_47 (la_22 hW) (by decide) kk2 (la_shf hW (vp_lt kk2)) ?_
    refine xw_iload_n dX9_lay_48 rfl rfl ?_
    refine xw_iload dX9_lay_49 rfl ?_
    refine yw_sub (lv' := [.ref 0, .int v1, .int v2, xU, .ref b0, .int (nI 0), xU]) ⟨Or.inr rfl, Or.inr rfl, Or.inr rfl, Or.inl rfl, Or.inr rfl, Or.inr rfl, Or.inl rfl, trivial⟩ ?_
    exact yw_cV (As := [.int v2, .int (nI 0)]) (b := (200 + 3 * v1.toNatClampNeg)) (st := []) dX9_lay_51 lX9_327 kiX6_faultOfLaying kvX6_faultOfLaying rfl rfl rfl (hW.2.2.2.2.2.2.1 _ (vp_lt kk2)).1 rfl (Nat.le_of_ble_eq_true rfl) rfl (xk_I k)
theorem bX9_lay_54 {a4 Ma4 : Nat} {v1 v2 v5 s0 : Int32} {mc ms : Nat} {Q : Int32 → xHp → Prop} (hW : xLay sh R) (ha4 : xMach sh R a4 Ma4)
    (k : ((s0 = 0 → Ex mX9_lay 67 [.ref 0, .int v1, .int v2, xU, .ref a4, .int v5, xU] [] (sh, I, R) mc ms (xqI Q)) ∧ (¬ s0 = 0 → Q ((-10) - s0) (sh, I, R)))) :
    Ex mX9_lay 54 [.ref 0, .int v1, .int v2, xU, .ref a4, .int v5, xU] [.int s0] (sh, I, R) mc ms (xqI Q) := by
  refine yw_istore (lv' := [.ref 0, .int v1, .int v2, xU, .ref a4, .int v5, .int s0]) dX9_lay_54 rfl rfl rfl ?_
  refine xw_iload dX9_lay_56 rfl ?_
  refine xw_ifeq (tgt := 67) dX9_lay_58 (by decide) (fun c => ?_) (fun c => ?_)
  · replace k := k.1 c
    exact yw_sub (lv' := [.ref 0, .int v1, .int v2, xU, .ref a4, .int v5, xU]) ⟨Or.inr rfl, Or.inr rfl, Or.inr rfl, Or.inl rfl, Or.inr rfl, Or.inr rfl, Or.inl rfl, trivial⟩ k
  · replace k := k.2 c
    refine xw_bipush (v := (-10)) dX9_lay_61 (by decide) ?_
    refine xw_iload dX9_lay_63 rfl ?_
    refine xw_isub dX9_lay_65 ?_
    exact yw_iret dX9_lay_66 rfl k
theorem bX9_lay_21N {v1 v2 v3 : Int32} {mc ms : Nat} {Q : Int32 → xHp → Prop} (hW : xLay sh R) 
    (k : Q (-2) (sh, I, R)) :
    Ex mX9_lay 21 [.ref 0, .int v1, .int v2, .int v3, xU, xU, xU] [.null] (sh, I, R) mc ms (xqI Q) := by
  refine yw_astoreN (lv' := [.ref 0, .int v1, .int v2, .int v3, .null, xU, xU]) dX9_lay_21 rfl rfl rfl ?_
  refine xw_aloadN dX9_lay_23 rfl ?_
  refine xw_ifnonnullN dX9_lay_25 ?_
  refine xw_bipush (v := (-2)) dX9_lay_28 (by decide) ?_
  exact yw_iret dX9_lay_30 rfl k
end BLKF
