section BLKA
variable {sh : List xSh} {I : Nat → Nat → Int32} {R : Nat → Nat → Option Nat}
theorem bJ7_fill_53178_0 {a0 na0 : Nat} {v1 : Int32} {mc ms : Nat} {Q : xHp → Prop} (hW : xLay sh R) (ha0 : sh[a0]? = some (.inr (0, na0)))
    (k : Ex mJ7_fill_53178 5 [.ref a0, .int v1, .int (nI 0), .int (nI na0)] [] (sh, I, R) mc ms (xqV Q)) :
    Ex mJ7_fill_53178 0 [.ref a0, .int v1, xU, xU] [] (sh, I, R) mc ms (xqV Q) := by
  refine xw_iconst (v := nI 0) dJ7_fill_53178_0 rfl ?_
  refine yw_istore_n (lv' := [.ref a0, .int v1, .int (nI 0), xU]) dJ7_fill_53178_1 rfl rfl rfl rfl ?_
  refine xw_aload_n dJ7_fill_53178_2 rfl rfl ?_
  refine xw_alen dJ7_fill_53178_3 ha0 (by decide) ?_
  refine yw_istore_n (lv' := [.ref a0, .int v1, .int (nI 0), .int (nI na0)]) dJ7_fill_53178_4 rfl rfl rfl rfl ?_
  exact k
theorem bJ7_fill_53178_5 {a0 na0 : Nat} {v1 v2 v3 : Int32} {mc ms : Nat} {Q : xHp → Prop} (hW : xLay sh R) (ha0 : sh[a0]? = some (.inr (0, na0)))
    (k : ((v3 ≤ v2 → Q (sh, I, R)) ∧ (¬ v3 ≤ v2 → vp_in v2 na0 ∧ Ex mJ7_fill_53178 5 [.ref a0, .int v1, .int (v2 + nI 1), .int v3] [] (sh, (xi I a0 v2.toNatClampNeg v1), R) mc ms (xqV Q)))) :
    Ex mJ7_fill_53178 5 [.ref a0, .int v1, .int v2, .int v3] [] (sh, I, R) mc ms (xqV Q) := by
  refine xw_iload_n dJ7_fill_53178_5 rfl rfl ?_
  refine xw_iload_n dJ7_fill_53178_6 rfl rfl ?_
  refine xw_icge (tgt := 20) dJ7_fill_53178_7 (by decide) (fun c => ?_) (fun c => ?_)
  · replace k := k.1 c
    exact yw_vret dJ7_fill_53178_20 rfl k
  · replace k := k.2 c
    refine xw_aload_n dJ7_fill_53178_10 rfl rfl ?_
    refine xw_iload_n dJ7_fill_53178_11 rfl rfl ?_
    refine xw_iload_n dJ7_fill_53178_12 rfl rfl ?_
    obtain ⟨k0, k⟩ := k
    refine yw_iastore dJ7_fill_53178_13 ha0 k0 ?_
    refine yw_iinc (lv' := [.ref a0, .int v1, .int (v2 + nI 1), .int v3]) (v := nI 1) dJ7_fill_53178_14 rfl rfl rfl rfl rfl ?_
    refine xw_goto (tgt := 5) dJ7_fill_53178_17 (by decide) ?_
    exact k
theorem eJ7_fill_53178 {a0 : Nat} {v1 : Int32} {h : xHp} {Q : xHp → Prop} (k : Ex mJ7_fill_53178 0 [.ref a0, .int v1, xU, xU] [] h 0 0 (xqV Q)) : CV mJ7_fill_53178 [.ref a0, .int v1] h Q := k
theorem bJ0_coder_7d493_0 {i : Nat} {mc ms : Nat} {Q : Int32 → xHp → Prop} (hW : xLay sh R) (hi : i < 6)
    (k : narrow .byte (.int (nI 0)) = .int (nI 0) ∧ Q (nI 0) (sh, I, R)) :
    Ex mJ0_coder_7d493 0 [.ref (1000001 + i)] [] (sh, I, R) mc ms (xqI Q) := by
  refine xw_compact dJ0_coder_7d493_0 fJ0_38 ?_
  refine xw_ifeq (tgt := 13) dJ0_coder_7d493_3 (by decide) (fun c => absurd c (by decide)) (fun _ => ?_)
  refine xw_aload_n dJ0_coder_7d493_6 rfl rfl ?_
  refine xw_scoder hi dJ0_coder_7d493_7 fJ0_15 ?_
  refine xw_goto (tgt := 14) dJ0_coder_7d493_10 (by decide) ?_
  exact yw_zret dJ0_coder_7d493_14 rfl k.1 k.2
theorem eJ0_coder_7d493 {i : Nat} {h : xHp} {Q : Int32 → xHp → Prop} (k : Ex mJ0_coder_7d493 0 [.ref (1000001 + i)] [] h 0 0 (xqI Q)) : CI mJ0_coder_7d493 [.ref (1000001 + i)] h Q := k
theorem bJ0_length_8abf5_0 {i : Nat} {mc ms : Nat} {Q : Int32 → xHp → Prop} (hW : xLay sh R) (hi : i < 6)
    (k : CI mJ0_coder_7d493 [.ref (1000001 + i)] (sh, I, R) (fun w h1 => Ex mJ0_length_8abf5 9 [xU] (.int w :: [.int (nI (xSlen.getD i 0))]) h1 mc ms (xqI Q))) :
    Ex mJ0_length_8abf5 0 [.ref (1000001 + i)] [] (sh, I, R) mc ms (xqI Q) := by
  refine xw_aload_n dJ0_length_8abf5_0 rfl rfl ?_
  refine xw_sval hi dJ0_length_8abf5_1 fJ0_9 ?_
  refine xw_sblen hi dJ0_length_8abf5_4 ?_
  refine xw_aload_n dJ0_length_8abf5_5 rfl rfl ?_
  refine yw_sub (lv' := [xU]) ⟨Or.inl rfl, trivial⟩ ?_
  exact Ex.z (xw_callT (As := []) (i := i) (st := [.int (nI (xSlen.getD i 0))]) hi dJ0_length_8abf5_6 lJ0_335 kiJ0_coder_7d493 kvJ0_coder_7d493 (xB_of rfl) rfl rfl rfl (Nat.le_of_ble_eq_true rfl) (Nat.le_of_ble_eq_true rfl) (xk_I k))
theorem bJ0_length_8abf5_9 {s1 s0 : Int32} {mc ms : Nat} {Q : Int32 → xHp → Prop} (hW : xLay sh R) 
    (k : Q (s0 >>> (s1 &&& 31)) (sh, I, R)) :
    Ex mJ0_length_8abf5 9 [xU] [.int s1, .int s0] (sh, I, R) mc ms (xqI Q) := by
  refine xw_ishr dJ0_length_8abf5_9 ?_
  exact yw_iret dJ0_length_8abf5_10 rfl k
theorem eJ0_length_8abf5 {i : Nat} {h : xHp} {Q : Int32 → xHp → Prop} (k : Ex mJ0_length_8abf5 0 [.ref (1000001 + i)] [] h 0 0 (xqI Q)) : CI mJ0_length_8abf5 [.ref (1000001 + i)] h Q := k
theorem bJ0_isLatin1_aae02_0 {i : Nat} {mc ms : Nat} {Q : Int32 → xHp → Prop} (hW : xLay sh R) (hi : i < 6)
    (k : Q (nI 1) (sh, I, R)) :
    Ex mJ0_isLatin1_aae02 0 [.ref (1000001 + i)] [] (sh, I, R) mc ms (xqI Q) := by
  refine xw_compact dJ0_isLatin1_aae02_0 fJ0_38 ?_
  refine xw_ifeq (tgt := 17) dJ0_isLatin1_aae02_3 (by decide) (fun c => absurd c (by decide)) (fun _ => ?_)
  refine xw_aload_n dJ0_isLatin1_aae02_6 rfl rfl ?_
  refine xw_scoder hi dJ0_isLatin1_aae02_7 fJ0_15 ?_
  refine xw_ifne (tgt := 17) dJ0_isLatin1_aae02_10 (by decide) (fun c => absurd c (by decide)) (fun _ => ?_)
  refine xw_iconst (v := nI 1) dJ0_isLatin1_aae02_13 rfl ?_
  refine xw_goto (tgt := 18) dJ0_isLatin1_aae02_14 (by decide) ?_
  exact yw_zret dJ0_isLatin1_aae02_18 rfl (by decide) k
theorem eJ0_isLatin1_aae02 {i : Nat} {h : xHp} {Q : Int32 → xHp → Prop} (k : Ex mJ0_isLatin1_aae02 0 [.ref (1000001 + i)] [] h 0 0 (xqI Q)) : CI mJ0_isLatin1_aae02 [.ref (1000001 + i)] h Q := k
theorem bJ3_checkIndex_8e157_0 {v0 v1 : Int32} {mc ms : Nat} {Q : Int32 → xHp → Prop} (hW : xLay sh R) 
    (k : ((v0 < 0 → False) ∧ (¬ v0 < 0 → ((v0 < v1 → Q v0 (sh, I, R)) ∧ (¬ v0 < v1 → False))))) :
    Ex mJ3_checkIndex_8e157 0 [.int v0, .int v1, .null] [] (sh, I, R) mc ms (xqI Q) := by
  refine xw_iload_n dJ3_checkIndex_8e157_0 rfl rfl ?_
  refine xw_iflt (tgt := 9) dJ3_checkIndex_8e157_1 (by decide) (fun c => ?_) (fun c => ?_)
  · replace k := k.1 c
    exact k.elim
  · replace k := k.2 c
    refine xw_iload_n dJ3_checkIndex_8e157_4 rfl rfl ?_
    refine xw_iload_n dJ3_checkIndex_8e157_5 rfl rfl ?_
    refine xw_iclt (tgt := 16) dJ3_checkIndex_8e157_6 (by decide) (fun c => ?_) (fun c => ?_)
    · replace k := k.1 c
      refine xw_iload_n dJ3_checkIndex_8e157_16 rfl rfl ?_
      exact yw_iret dJ3_checkIndex_8e157_17 rfl k
    · replace k := k.2 c
      exact k.elim
theorem eJ3_checkIndex_8e157 {v0 : Int32} {v1 : Int32} {h : xHp} {Q : Int32 → xHp → Prop} (k : Ex mJ3_checkIndex_8e157 0 [.int v0, .int v1, .null] [] h 0 0 (xqI Q)) : CI mJ3_checkIndex_8e157 [.int v0, .int v1, .null] h Q := k
theorem bJ3_checkIndex_8e157_0R {v0 v1 : Int32} {mc ms : Nat} {Q : Int32 → xHp → Prop} (hW : xLay sh R) 
    (k : ((v0 < 0 → False) ∧ (¬ v0 < 0 → ((v0 < v1 → Q v0 (sh, I, R)) ∧ (¬ v0 < v1 → False))))) :
    Ex mJ3_checkIndex_8e157 0 [.int v0, .int v1, .ref 1000020] [] (sh, I, R) mc ms (xqI Q) := by
  refine xw_iload_n dJ3_checkIndex_8e157_0 rfl rfl ?_
  refine xw_iflt (tgt := 9) dJ3_checkIndex_8e157_1 (by decide) (fun c => ?_) (fun c => ?_)
  · replace k := k.1 c
    exact k.elim
  · replace k := k.2 c
    refine xw_iload_n dJ3_checkIndex_8e157_4 rfl rfl ?_
    refine xw_iload_n dJ3_checkIndex_8e157_5 rfl rfl ?_
    refine xw_iclt (tgt := 16) dJ3_checkIndex_8e157_6 (by decide) (fun c => ?_) (fun c => ?_)
    · replace k := k.1 c
      refine xw_iload_n dJ3_checkIndex_8e157_16 rfl rfl ?_
      exact yw_iret dJ3_checkIndex_8e157_17 rfl k
    · replace k := k.2 c
      exact k.elim
theorem eJ3_checkIndex_8e157R {v0 : Int32} {v1 : Int32} {h : xHp} {Q : Int32 → xHp → Prop} (k : Ex mJ3_checkIndex_8e157 0 [.int v0, .int v1, .ref 1000020] [] h 0 0 (xqI Q)) : CI mJ3_checkIndex_8e157 [.int v0, .int v1, .ref 1000020] h Q := k
theorem bJ0_checkIndex_df160_0 {v0 v1 : Int32} {mc ms : Nat} {Q : xHp → Prop} (hW : xLay sh R) 
    (k : (CI mJ3_checkIndex_8e157 [.int v0, .int v1, .null] (sh, I, R) (fun w h1 => Ex mJ0_checkIndex_df160 8 [xU, xU] (.int w :: []) h1 mc ms (xqV Q)) ∧ CI mJ3_checkIndex_8e157 [.int v0, .int v1, .ref 1000020] (sh, I, R) (fun w h1 => Ex mJ0_checkIndex_df160 8 [xU, xU] (.int w :: []) h1 mc ms (xqV Q)))) :
    Ex mJ0_checkIndex_df160 0 [.int v0, .int v1] [] (sh, I, R) mc ms (xqV Q) := by
  refine xw_iload_n dJ0_checkIndex_df160_0 rfl rfl ?_
  refine xw_iload_n dJ0_checkIndex_df160_1 rfl rfl ?_
  refine xw_fmt dJ0_checkIndex_df160_2 fJ0_1053 ?_ ?_
  · replace k := k.1
    refine yw_sub (lv' := [xU, xU]) ⟨Or.inl rfl, Or.inl rfl, trivial⟩ ?_
    exact yw_cS (As := [.int v0, .int v1, .null]) (st := []) dJ0_checkIndex_df160_5 lJ0_1059 ksJ3_checkIndex_8e157 rfl rfl rfl (Nat.le_of_ble_eq_true rfl) rfl (xk_I k)
  · replace k := k.2
    refine yw_sub (lv' := [xU, xU]) ⟨Or.inl rfl, Or.inl rfl, trivial⟩ ?_
    exact yw_cS (As := [.int v0, .int v1, .ref 1000020]) (st := []) dJ0_checkIndex_df160_5 lJ0_1059 ksJ3_checkIndex_8e157 rfl rfl rfl (Nat.le_of_ble_eq_true rfl) rfl (xk_I k)
theorem bJ0_checkIndex_df160_8 {s0 : Int32} {mc ms : Nat} {Q : xHp → Prop} (hW : xLay sh R) 
    (k : Q (sh, I, R)) :
    Ex mJ0_checkIndex_df160 8 [xU, xU] [.int s0] (sh, I, R) mc ms (xqV Q) := by
  refine xw_pop dJ0_checkIndex_df160_8 rfl ?_
  exact yw_vret dJ0_checkIndex_df160_9 rfl k
theorem eJ0_checkIndex_df160 {v0 : Int32} {v1 : Int32} {h : xHp} {Q : xHp → Prop} (k : Ex mJ0_checkIndex_df160 0 [.int v0, .int v1] [] h 0 0 (xqV Q)) : CV mJ0_checkIndex_df160 [.int v0, .int v1] h Q := k
theorem bJ1_charAt_3b067_0 {i : Nat} {v1 : Int32} {mc ms : Nat} {Q : Int32 → xHp → Prop} (hW : xLay sh R) (hi : i < 6)
    (k : CV mJ0_checkIndex_df160 [.int v1, .int (nI (xSlen.getD i 0))] (sh, I, R) (fun h1 => Ex mJ1_charAt_3b067 6 [.ref (1000011 + i), .int v1] [] h1 mc ms (xqI Q))) :
    Ex mJ1_charAt_3b067 0 [.ref (1000011 + i), .int v1] [] (sh, I, R) mc ms (xqI Q) := by
  refine xw_iload_n dJ1_charAt_3b067_0 rfl rfl ?_
  refine xw_aload_n dJ1_charAt_3b067_1 rfl rfl ?_
  refine xw_sblen hi dJ1_charAt_3b067_2 ?_
  exact yw_cS (As := [.int v1, .int (nI (xSlen.getD i 0))]) (st := []) dJ1_charAt_3b067_3 lJ1_9 ksJ0_checkIndex_df160 rfl rfl rfl (Nat.le_of_ble_eq_true rfl) rfl (xk_V k)
theorem bJ1_charAt_3b067_6 {i : Nat} {v1 : Int32} {mc ms : Nat} {Q : Int32 → xHp → Prop} (hW : xLay sh R) (hi : i < 6)
    (k : vp_in v1 (xSlen.getD i 0) ∧ narrow .char (.int (((((xSbyt.getD i []).getD v1.toNatClampNeg 0) &&& (nI 255)).toUInt32 % 65536).toInt32)) = .int (((((xSbyt.getD i []).getD v1.toNatClampNeg 0) &&& (nI 255)).toUInt32 % 65536).toInt32) ∧ Q (((((xSbyt.getD i []).getD v1.toNatClampNeg 0) &&& (nI 255)).toUInt32 % 65536).toInt32) (sh, I, R)) :
    Ex mJ1_charAt_3b067 6 [.ref (1000011 + i), .int v1] [] (sh, I, R) mc ms (xqI Q) := by
  refine xw_aload_n dJ1_charAt_3b067_6 rfl rfl ?_
  refine xw_iload_n dJ1_charAt_3b067_7 rfl rfl ?_
  obtain ⟨k0, k⟩ := k
  refine xw_sbyte hi dJ1_charAt_3b067_8 k0 ?_
  refine xw_sipush (v := nI 255) dJ1_charAt_3b067_9 (by decide) ?_
  refine xw_iand dJ1_charAt_3b067_12 ?_
  refine xw_i2c dJ1_charAt_3b067_13 ?_
  exact yw_zret dJ1_charAt_3b067_14 rfl k.1 k.2
theorem eJ1_charAt_3b067 {i : Nat} {v1 : Int32} {h : xHp} {Q : Int32 → xHp → Prop} (k : Ex mJ1_charAt_3b067 0 [.ref (1000011 + i), .int v1] [] h 0 0 (xqI Q)) : CI mJ1_charAt_3b067 [.ref (1000011 + i), .int v1] h Q := k
theorem bJ0_charAt_5068e_0 {i : Nat} {v1 : Int32} {mc ms : Nat} {Q : Int32 → xHp → Prop} (hW : xLay sh R) (hi : i < 6)
    (k : CI mJ0_isLatin1_aae02 [.ref (1000001 + i)] (sh, I, R) (fun w h1 => Ex mJ0_charAt_5068e 4 [.ref (1000001 + i), .int v1] (.int w :: []) h1 mc ms (xqI Q))) :
    Ex mJ0_charAt_5068e 0 [.ref (1000001 + i), .int v1] [] (sh, I, R) mc ms (xqI Q) := by
  refine xw_aload_n dJ0_charAt_5068e_0 rfl rfl ?_
  exact Ex.z (xw_callT (As := []) (i := i) (st := []) hi dJ0_charAt_5068e_1 lJ0_492 kiJ0_isLatin1_aae02 kvJ0_isLatin1_aae02 (xB_of rfl) rfl rfl rfl (Nat.le_of_ble_eq_true rfl) (Nat.le_of_ble_eq_true rfl) (xk_I k))
theorem bJ0_charAt_5068e_4 {i : Nat} {v1 s0 : Int32} {mc ms : Nat} {Q : Int32 → xHp → Prop} (hW : xLay sh R) (hi : i < 6)
    (k : ((s0 = 0 → CI mJ2_charAt_3b067 [.ref (1000011 + i), .int v1] (sh, I, R) (fun w h1 => Ex mJ0_charAt_5068e 24 [xU, xU] (.int w :: []) h1 mc ms (xqI Q))) ∧ (¬ s0 = 0 → CI mJ1_charAt_3b067 [.ref (1000011 + i), .int v1] (sh, I, R) (fun w h1 => Ex mJ0_charAt_5068e 15 [xU, xU] (.int w :: []) h1 mc ms (xqI Q))))) :
    Ex mJ0_charAt_5068e 4 [.ref (1000001 + i), .int v1] [.int s0] (sh, I, R) mc ms (xqI Q) := by
  refine xw_ifeq (tgt := 16) dJ0_charAt_5068e_4 (by decide) (fun c => ?_) (fun c => ?_)
  · replace k := k.1 c
    refine xw_aload_n dJ0_charAt_5068e_16 rfl rfl ?_
    refine xw_sval hi dJ0_charAt_5068e_17 fJ0_9 ?_
    refine xw_iload_n dJ0_charAt_5068e_20 rfl rfl ?_
    refine yw_sub (lv' := [xU, xU]) ⟨Or.inl rfl, Or.inl rfl, trivial⟩ ?_
    exact yw_cS (As := [.ref (1000011 + i), .int v1]) (st := []) dJ0_charAt_5068e_21 lJ0_498 ksJ2_charAt_3b067 rfl rfl rfl (Nat.le_of_ble_eq_true rfl) rfl (xk_I k)
  · replace k := k.2 c
    refine xw_aload_n dJ0_charAt_5068e_7 rfl rfl ?_
    refine xw_sval hi dJ0_charAt_5068e_8 fJ0_9 ?_
    refine xw_iload_n dJ0_charAt_5068e_11 rfl rfl ?_
    refine yw_sub (lv' := [xU, xU]) ⟨Or.inl rfl, Or.inl rfl, trivial⟩ ?_
    exact yw_cS (As := [.ref (1000011 + i), .int v1]) (st := []) dJ0_charAt_5068e_12 lJ0_495 ksJ1_charAt_3b067 rfl rfl rfl (Nat.le_of_ble_eq_true rfl) rfl (xk_I k)
theorem bJ0_charAt_5068e_24 {s0 : Int32} {mc ms : Nat} {Q : Int32 → xHp → Prop} (hW : xLay sh R) 
    (k : narrow .char (.int s0) = .int s0 ∧ Q s0 (sh, I, R)) :
    Ex mJ0_charAt_5068e 24 [xU, xU] [.int s0] (sh, I, R) mc ms (xqI Q) := by
  exact yw_zret dJ0_charAt_5068e_24 rfl k.1 k.2
theorem bJ0_charAt_5068e_15 {s0 : Int32} {mc ms : Nat} {Q : Int32 → xHp → Prop} (hW : xLay sh R) 
    (k : narrow .char (.int s0) = .int s0 ∧ Q s0 (sh, I, R)) :
    Ex mJ0_charAt_5068e 15 [xU, xU] [.int s0] (sh, I, R) mc ms (xqI Q) := by
  exact yw_zret dJ0_charAt_5068e_15 rfl k.1 k.2
theorem eJ0_charAt_5068e {i : Nat} {v1 : Int32} {h : xHp} {Q : Int32 → xHp → Prop} (k : Ex mJ0_charAt_5068e 0 [.ref (1000001 + i), .int v1] [] h 0 0 (xqI Q)) : CI mJ0_charAt_5068e [.ref (1000001 + i), .int v1] h Q := k
theorem bJxf58ca_isNaN_12338_0 {v0 : UInt32} {mc ms : Nat} {Q : Int32 → xHp → Prop} (hW : xLay sh R) 
    (k : (((Op.cmpValue (FP.fcmp v0 v0) .l) = 0 → Q (nI 0) (sh, I, R)) ∧ (¬ (Op.cmpValue (FP.fcmp v0 v0) .l) = 0 → Q (nI 1) (sh, I, R)))) :
    Ex mJxf58ca_isNaN_12338 0 [.float v0] [] (sh, I, R) mc ms (xqI Q) := by
  refine xw_fload_n dJxf58ca_isNaN_12338_0 rfl rfl ?_
  refine xw_fload_n dJxf58ca_isNaN_12338_1 rfl rfl ?_
  refine xw_fcmp dJxf58ca_isNaN_12338_2 ?_
  refine xw_ifeq (tgt := 10) dJxf58ca_isNaN_12338_3 (by decide) (fun c => ?_) (fun c => ?_)
  · replace k := k.1 c
    refine xw_iconst (v := nI 0) dJxf58ca_isNaN_12338_10 rfl ?_
    exact yw_zret dJxf58ca_isNaN_12338_11 rfl (by decide) k
  · replace k := k.2 c
    refine xw_iconst (v := nI 1) dJxf58ca_isNaN_12338_6 rfl ?_
    refine xw_goto (tgt := 11) dJxf58ca_isNaN_12338_7 (by decide) ?_
    exact yw_zret dJxf58ca_isNaN_12338_11 rfl (by decide) k
theorem eJxf58ca_isNaN_12338 {v0 : UInt32} {h : xHp} {Q : Int32 → xHp → Prop} (k : Ex mJxf58ca_isNaN_12338 0 [.float v0] [] h 0 0 (xqI Q)) : CI mJxf58ca_isNaN_12338 [.float v0] h Q := k
theorem bJxf58ca_floatToIntBits_5c35a_0 {v0 : UInt32} {mc ms : Nat} {Q : Int32 → xHp → Prop} (hW : xLay sh R) 
    (k : CI mJxf58ca_isNaN_12338 [.float v0] (sh, I, R) (fun w h1 => Ex mJxf58ca_floatToIntBits_5c35a 4 [.float v0] (.int w :: []) h1 mc ms (xqI Q))) :
    Ex mJxf58ca_floatToIntBits_5c35a 0 [.float v0] [] (sh, I, R) mc ms (xqI Q) := by
  refine xw_fload_n dJxf58ca_floatToIntBits_5c35a_0 rfl rfl ?_
  exact yw_cS (As := [.float v0]) (st := []) dJxf58ca_floatToIntBits_5c35a_1 lJxf58ca_59 ksJxf58ca_isNaN_12338 rfl rfl rfl (Nat.le_of_ble_eq_true rfl) rfl (xk_I k)
theorem bJxf58ca_floatToIntBits_5c35a_4 {s0 : Int32} {v0 : UInt32} {mc ms : Nat} {Q : Int32 → xHp → Prop} (hW : xLay sh R) 
    (k : ((¬ s0 = 0 → Q (2143289344 : Int32) (sh, I, R)) ∧ (s0 = 0 → Q v0.toInt32 (sh, I, R)))) :
    Ex mJxf58ca_floatToIntBits_5c35a 4 [.float v0] [.int s0] (sh, I, R) mc ms (xqI Q) := by
  refine xw_ifne (tgt := 12) dJxf58ca_floatToIntBits_5c35a_4 (by decide) (fun c => ?_) (fun c => ?_)
  · replace k := k.1 c
    refine xw_ldcI dJxf58ca_floatToIntBits_5c35a_12 cJxf58ca_77 ?_
    exact yw_iret dJxf58ca_floatToIntBits_5c35a_14 rfl k
  · replace k := k.2 c
    refine xw_fload_n dJxf58ca_floatToIntBits_5c35a_7 rfl rfl ?_
    refine xw_f2raw dJxf58ca_floatToIntBits_5c35a_8 lJxf58ca_74 kt_f2raw ku_f2raw knJxf58ca (Nat.le_of_ble_eq_true rfl) (Nat.le_of_ble_eq_true rfl) (Nat.le_of_ble_eq_true rfl) ?_
    exact yw_iret dJxf58ca_floatToIntBits_5c35a_11 rfl k
theorem eJxf58ca_floatToIntBits_5c35a {v0 : UInt32} {h : xHp} {Q : Int32 → xHp → Prop} (k : Ex mJxf58ca_floatToIntBits_5c35a 0 [.float v0] [] h 0 0 (xqI Q)) : CI mJxf58ca_floatToIntBits_5c35a [.float v0] h Q := k
theorem bJxe99ae_isNaN_b9ae7_0 {v0 : UInt64} {mc ms : Nat} {Q : Int32 → xHp → Prop} (hW : xLay sh R) 
    (k : (((Op.cmpValue (FP.dcmp v0 v0) .l) = 0 → Q (nI 0) (sh, I, R)) ∧ (¬ (Op.cmpValue (FP.dcmp v0 v0) .l) = 0 → Q (nI 1) (sh, I, R)))) :
    Ex mJxe99ae_isNaN_b9ae7 0 [.double v0, xU] [] (sh, I, R) mc ms (xqI Q) := by
  refine xw_dload_n dJxe99ae_isNaN_b9ae7_0 rfl rfl ?_
  refine xw_dload_n dJxe99ae_isNaN_b9ae7_1 rfl rfl ?_
  refine xw_dcmp dJxe99ae_isNaN_b9ae7_2 ?_
  refine xw_ifeq (tgt := 10) dJxe99ae_isNaN_b9ae7_3 (by decide) (fun c => ?_) (fun c => ?_)
  · replace k := k.1 c
    refine xw_iconst (v := nI 0) dJxe99ae_isNaN_b9ae7_10 rfl ?_
    exact yw_zret dJxe99ae_isNaN_b9ae7_11 rfl (by decide) k
  · replace k := k.2 c
    refine xw_iconst (v := nI 1) dJxe99ae_isNaN_b9ae7_6 rfl ?_
    refine xw_goto (tgt := 11) dJxe99ae_isNaN_b9ae7_7 (by decide) ?_
    exact yw_zret dJxe99ae_isNaN_b9ae7_11 rfl (by decide) k
theorem eJxe99ae_isNaN_b9ae7 {v0 : UInt64} {h : xHp} {Q : Int32 → xHp → Prop} (k : Ex mJxe99ae_isNaN_b9ae7 0 [.double v0, xU] [] h 0 0 (xqI Q)) : CI mJxe99ae_isNaN_b9ae7 [.double v0] h Q := k
theorem bJxe99ae_doubleToLongBits_ccdee_0 {v0 : UInt64} {mc ms : Nat} {Q : Int64 → xHp → Prop} (hW : xLay sh R) 
    (k : CI mJxe99ae_isNaN_b9ae7 [.double v0] (sh, I, R) (fun w h1 => Ex mJxe99ae_doubleToLongBits_ccdee 4 [.double v0, xU] (.int w :: []) h1 mc ms (xqJ Q))) :
    Ex mJxe99ae_doubleToLongBits_ccdee 0 [.double v0, xU] [] (sh, I, R) mc ms (xqJ Q) := by
  refine xw_dload_n dJxe99ae_doubleToLongBits_ccdee_0 rfl rfl ?_
  exact yw_cS (As := [.double v0]) (st := []) dJxe99ae_doubleToLongBits_ccdee_1 lJxe99ae_122 ksJxe99ae_isNaN_b9ae7 rfl rfl rfl (Nat.le_of_ble_eq_true rfl) rfl (xk_I k)
theorem bJxe99ae_doubleToLongBits_ccdee_4 {s0 : Int32} {v0 : UInt64} {mc ms : Nat} {Q : Int64 → xHp → Prop} (hW : xLay sh R) 
    (k : ((¬ s0 = 0 → Q (9221120237041090560 : Int64) (sh, I, R)) ∧ (s0 = 0 → Q v0.toInt64 (sh, I, R)))) :
    Ex mJxe99ae_doubleToLongBits_ccdee 4 [.double v0, xU] [.int s0] (sh, I, R) mc ms (xqJ Q) := by
  refine xw_ifne (tgt := 12) dJxe99ae_doubleToLongBits_ccdee_4 (by decide) (fun c => ?_) (fun c => ?_)
  · replace k := k.1 c
    refine xw_ldcL dJxe99ae_doubleToLongBits_ccdee_12 cJxe99ae_137 ?_
    exact yw_lret dJxe99ae_doubleToLongBits_ccdee_15 rfl k
  · replace k := k.2 c
    refine xw_dload_n dJxe99ae_doubleToLongBits_ccdee_7 rfl rfl ?_
    refine xw_d2raw dJxe99ae_doubleToLongBits_ccdee_8 lJxe99ae_134 kt_d2raw ku_d2raw knJxe99ae (Nat.le_of_ble_eq_true rfl) (Nat.le_of_ble_eq_true rfl) (Nat.le_of_ble_eq_true rfl) ?_
    exact yw_lret dJxe99ae_doubleToLongBits_ccdee_11 rfl k
theorem eJxe99ae_doubleToLongBits_ccdee {v0 : UInt64} {h : xHp} {Q : Int64 → xHp → Prop} (k : Ex mJxe99ae_doubleToLongBits_ccdee 0 [.double v0, xU] [] h 0 0 (xqJ Q)) : CJ mJxe99ae_doubleToLongBits_ccdee [.double v0] h Q := k
theorem bX3_become_0 {q M : Nat} {v1 : Int32} {mc ms : Nat} {Q : xHp → Prop} (hW : xLay sh R) (hq : xMach sh R q M)
    (k : (((I q 1) < v1 → CV mJ7_fill_53178 [.ref (q + 1), .int (nI 0)] (sh, (xi I q 2 (I q 1)), R) (fun h1 => Ex mX3_become 28 [.ref q, xU] [] h1 mc ms (xqV Q))) ∧ (¬ (I q 1) < v1 → CV mJ7_fill_53178 [.ref (q + 1), .int (nI 0)] (sh, (xi I q 2 v1), R) (fun h1 => Ex mX3_become 28 [.ref q, xU] [] h1 mc ms (xqV Q))))) :
    Ex mX3_become 0 [.ref q, .int v1] [] (sh, I, R) mc ms (xqV Q) := by
  refine xw_aload_n dX3_become_0 rfl rfl ?_
  refine xw_iload_n dX3_become_1 rfl rfl ?_
  refine xw_aload_n dX3_become_2 rfl rfl ?_
  refine yw_getI (v := I q 1) dX3_become_3 fX3_17 rfl hq.1 rfl ?_
  refine xw_icgt (tgt := 13) dX3_become_6 (by decide) (fun c => ?_) (fun c => ?_)
  · replace k := k.1 c
    refine xw_aload_n dX3_become_13 rfl rfl ?_
    refine yw_getI (v := I q 1) dX3_become_14 fX3_17 rfl hq.1 rfl ?_
    refine yw_putI dX3_become_17 fX3_31 (fun r h => by cases h; exact Or.inl rfl) rfl hq.1 ?_
    refine xw_aload_n dX3_become_20 rfl rfl ?_
    refine yw_getR (r := (q + 1)) dX3_become_21 fX3_21 rfl hq.1 hq.2.2.2.2.2.1 ?_
    refine xw_iconst (v := nI 0) dX3_become_24 rfl ?_
    refine yw_sub (lv' := [.ref q, xU]) ⟨Or.inr rfl, Or.inl rfl, trivial⟩ ?_
    exact yw_cS (As := [.ref (q + 1), .int (nI 0)]) (st := []) dX3_become_25 lX3_34 ksJ7_fill_53178 rfl rfl rfl (Nat.le_of_ble_eq_true rfl) rfl (xk_V k)
  · replace k := k.2 c
    refine xw_iload_n dX3_become_9 rfl rfl ?_
    refine xw_goto (tgt := 17) dX3_become_10 (by decide) ?_
    refine yw_putI dX3_become_17 fX3_31 (fun r h => by cases h; exact Or.inl rfl) rfl hq.1 ?_
    refine xw_aload_n dX3_become_20 rfl rfl ?_
    refine yw_getR (r := (q + 1)) dX3_become_21 fX3_21 rfl hq.1 hq.2.2.2.2.2.1 ?_
    refine xw_iconst (v := nI 0) dX3_become_24 rfl ?_
    refine yw_sub (lv' := [.ref q, xU]) ⟨Or.inr rfl, Or.inl rfl, trivial⟩ ?_
    exact yw_cS (As := [.ref (q + 1), .int (nI 0)]) (st := []) dX3_become_25 lX3_34 ksJ7_fill_53178 rfl rfl rfl (Nat.le_of_ble_eq_true rfl) rfl (xk_V k)
theorem bX3_become_28 {q M : Nat} {mc ms : Nat} {Q : xHp → Prop} (hW : xLay sh R) (hq : xMach sh R q M)
    (k : CV mJ7_fill_53178 [.ref (q + 2), .int (nI 0)] (sh, I, R) (fun h1 => Ex mX3_become 36 [.ref q, xU] [] h1 mc ms (xqV Q))) :
    Ex mX3_become 28 [.ref q, xU] [] (sh, I, R) mc ms (xqV Q) := by
  refine xw_aload_n dX3_become_28 rfl rfl ?_
  refine yw_getR (r := (q + 2)) dX3_become_29 fX3_25 rfl hq.1 hq.2.2.2.2.2.2.1 ?_
  refine xw_iconst (v := nI 0) dX3_become_32 rfl ?_
  exact yw_cS (As := [.ref (q + 2), .int (nI 0)]) (st := []) dX3_become_33 lX3_34 ksJ7_fill_53178 rfl rfl rfl (Nat.le_of_ble_eq_true rfl) rfl (xk_V k)
theorem bX3_become_36 {q M : Nat} {mc ms : Nat} {Q : xHp → Prop} (hW : xLay sh R) (hq : xMach sh R q M)
    (k : CV mJ7_fill_53178 [.ref (q + 3), .int (nI 0)] (sh, I, R) (fun h1 => Ex mX3_become 44 [xU, xU] [] h1 mc ms (xqV Q))) :
    Ex mX3_become 36 [.ref q, xU] [] (sh, I, R) mc ms (xqV Q) := by
  refine xw_aload_n dX3_become_36 rfl rfl ?_
  refine yw_getR (r := (q + 3)) dX3_become_37 fX3_28 rfl hq.1 hq.2.2.2.2.2.2.2 ?_
  refine xw_iconst (v := nI 0) dX3_become_40 rfl ?_
  refine yw_sub (lv' := [xU, xU]) ⟨Or.inl rfl, Or.inl rfl, trivial⟩ ?_
  exact yw_cS (As := [.ref (q + 3), .int (nI 0)]) (st := []) dX3_become_41 lX3_34 ksJ7_fill_53178 rfl rfl rfl (Nat.le_of_ble_eq_true rfl) rfl (xk_V k)
theorem bX3_become_44 {mc ms : Nat} {Q : xHp → Prop} (hW : xLay sh R) 
    (k : Q (sh, I, R)) :
    Ex mX3_become 44 [xU, xU] [] (sh, I, R) mc ms (xqV Q) := by
  exact yw_vret dX3_become_44 rfl k
theorem eX3_become {q : Nat} {v1 : Int32} {h : xHp} {Q : xHp → Prop} (k : Ex mX3_become 0 [.ref q, .int v1] [] h 0 0 (xqV Q)) : CV mX3_become [.ref q, .int v1] h Q := k
theorem bX5_isPrime_0 {v0 : Int32} {mc ms : Nat} {Q : Int32 → xHp → Prop} (hW : xLay sh R) 
    (k : ((v0 < (nI 2) → Q (nI 0) (sh, I, R)) ∧ (¬ v0 < (nI 2) → ((v0 ≤ (nI 97) → Ex mX5_isPrime 15 [.int v0, .int (nI 2)] [] (sh, I, R) mc ms (xqI Q)) ∧ (¬ v0 ≤ (nI 97) → Q (nI 0) (sh, I, R)))))) :
    Ex mX5_isPrime 0 [.int v0, xU] [] (sh, I, R) mc ms (xqI Q) := by
  refine xw_iload_n dX5_isPrime_0 rfl rfl ?_
  refine xw_iconst (v := nI 2) dX5_isPrime_1 rfl ?_
  refine xw_iclt (tgt := 11) dX5_isPrime_2 (by decide) (fun c => ?_) (fun c => ?_)
  · replace k := k.1 c
    refine xw_iconst (v := nI 0) dX5_isPrime_11 rfl ?_
    exact yw_zret dX5_isPrime_12 rfl (by decide) k
  · replace k := k.2 c
    refine xw_iload_n dX5_isPrime_5 rfl rfl ?_
    refine xw_bipush (v := nI 97) dX5_isPrime_6 (by decide) ?_
    refine xw_icle (tgt := 13) dX5_isPrime_8 (by decide) (fun c => ?_) (fun c => ?_)
    · replace k := k.1 c
      refine xw_iconst (v := nI 2) dX5_isPrime_13 rfl ?_
      refine yw_istore_n (lv' := [.int v0, .int (nI 2)]) dX5_isPrime_14 rfl rfl rfl rfl ?_
      exact k
    · replace k := k.2 c
      refine xw_iconst (v := nI 0) dX5_isPrime_11 rfl ?_
      exact yw_zret dX5_isPrime_12 rfl (by decide) k
theorem bX5_isPrime_15 {v0 v1 : Int32} {mc ms : Nat} {Q : Int32 → xHp → Prop} (hW : xLay sh R) 
    (k : ((v0 < (v1 * v1) → Q (nI 1) (sh, I, R)) ∧ (¬ v0 < (v1 * v1) → ¬ v1 = 0 ∧ ((¬ (xrem v0 v1) = 0 → Ex mX5_isPrime 15 [.int v0, .int (v1 + nI 1)] [] (sh, I, R) mc ms (xqI Q)) ∧ ((xrem v0 v1) = 0 → Q (nI 0) (sh, I, R)))))) :
    Ex mX5_isPrime 15 [.int v0, .int v1] [] (sh, I, R) mc ms (xqI Q) := by
  refine xw_iload_n dX5_isPrime_15 rfl rfl ?_
  refine xw_iload_n dX5_isPrime_16 rfl rfl ?_
  refine xw_imul dX5_isPrime_17 ?_
  refine xw_iload_n dX5_isPrime_18 rfl rfl ?_
  refine xw_icgt (tgt := 36) dX5_isPrime_19 (by decide) (fun c => ?_) (fun c => ?_)
  · replace k := k.1 c
    refine xw_iconst (v := nI 1) dX5_isPrime_36 rfl ?_
    exact yw_zret dX5_isPrime_37 rfl (by decide) k
  · replace k := k.2 c
    refine xw_iload_n dX5_isPrime_22 rfl rfl ?_
    refine xw_iload_n dX5_isPrime_23 rfl rfl ?_
    obtain ⟨k0, k⟩ := k
    refine yw_irem dX5_isPrime_24 k0 ?_
    refine xw_ifne (tgt := 30) dX5_isPrime_25 (by decide) (fun c => ?_) (fun c => ?_)
    · replace k := k.1 c
      refine yw_iinc (lv' := [.int v0, .int (v1 + nI 1)]) (v := nI 1) dX5_isPrime_30 rfl rfl rfl rfl rfl ?_
      refine xw_goto (tgt := 15) dX5_isPrime_33 (by decide) ?_
      exact k
    · replace k := k.2 c
      refine xw_iconst (v := nI 0) dX5_isPrime_28 rfl ?_
      exact yw_zret dX5_isPrime_29 rfl (by decide) k
theorem eX5_isPrime {v0 : Int32} {h : xHp} {Q : Int32 → xHp → Prop} (k : Ex mX5_isPrime 0 [.int v0, xU] [] h 0 0 (xqI Q)) : CI mX5_isPrime [.int v0] h Q := k
theorem bX3_at_0 {q M : Nat} {v1 v2 v3 : Int32} {mc ms : Nat} {Q : Int32 → xHp → Prop} (hW : xLay sh R) (hq : xMach sh R q M)
    (k : Q ((((v1 * (nI 3)) + v2) * (I q 1)) + v3) (sh, I, R)) :
    Ex mX3_at 0 [.ref q, .int v1, .int v2, .int v3] [] (sh, I, R) mc ms (xqI Q) := by
  refine xw_iload_n dX3_at_0 rfl rfl ?_
  refine xw_iconst (v := nI 3) dX3_at_1 rfl ?_
  refine xw_imul dX3_at_2 ?_
  refine xw_iload_n dX3_at_3 rfl rfl ?_
  refine xw_iadd dX3_at_4 ?_
  refine xw_aload_n dX3_at_5 rfl rfl ?_
  refine yw_getI (v := I q 1) dX3_at_6 fX3_17 rfl hq.1 rfl ?_
  refine xw_imul dX3_at_9 ?_
  refine xw_iload_n dX3_at_10 rfl rfl ?_
  refine xw_iadd dX3_at_11 ?_
  exact yw_iret dX3_at_12 rfl k
theorem eX3_at {q : Nat} {v1 : Int32} {v2 : Int32} {v3 : Int32} {h : xHp} {Q : Int32 → xHp → Prop} (k : Ex mX3_at 0 [.ref q, .int v1, .int v2, .int v3] [] h 0 0 (xqI Q)) : CI mX3_at [.ref q, .int v1, .int v2, .int v3] h Q := k
theorem bX5_become_0 {v1 v2 : Int32} {mc ms : Nat} {Q : xHp → Prop} (hW : xLay sh R) 
    (k : CI mX5_isPrime [.int v1] (sh, I, R) (fun w h1 => Ex mX5_become 5 [.ref 1, .int v1, .int v2] (.int w :: [.ref 1]) h1 mc ms (xqV Q))) :
    Ex mX5_become 0 [.ref 1, .int v1, .int v2] [] (sh, I, R) mc ms (xqV Q) := by
  refine xw_aload_n dX5_become_0 rfl rfl ?_
  refine xw_iload_n dX5_become_1 rfl rfl ?_
  exact yw_cS (As := [.int v1]) (st := [.ref 1]) dX5_become_2 lX5_18 ksX5_isPrime rfl rfl rfl (Nat.le_of_ble_eq_true rfl) rfl (xk_I k)
theorem bX5_become_5 {v1 v2 s1 : Int32} {mc ms : Nat} {Q : xHp → Prop} (hW : xLay sh R) 
    (k : ((s1 = 0 → ((v2 < (nI 1) → Q (sh, (xi (xi I 1 0 (nI 7)) 1 1 (nI 2)), R)) ∧ (¬ v2 < (nI 1) → (((nI 3) < v2 → Q (sh, (xi (xi I 1 0 (nI 7)) 1 1 (nI 2)), R)) ∧ (¬ (nI 3) < v2 → Q (sh, (xi (xi I 1 0 (nI 7)) 1 1 v2), R)))))) ∧ (¬ s1 = 0 → ((v2 < (nI 1) → Q (sh, (xi (xi I 1 0 v1) 1 1 (nI 2)), R)) ∧ (¬ v2 < (nI 1) → (((nI 3) < v2 → Q (sh, (xi (xi I 1 0 v1) 1 1 (nI 2)), R)) ∧ (¬ (nI 3) < v2 → Q (sh, (xi (xi I 1 0 v1) 1 1 v2), R)))))))) :
    Ex mX5_become 5 [.ref 1, .int v1, .int v2] [.int s1, .ref 1] (sh, I, R) mc ms (xqV Q) := by
  refine xw_ifeq (tgt := 12) dX5_become_5 (by decide) (fun c => ?_) (fun c => ?_)
  · replace k := k.1 c
    refine xw_bipush (v := nI 7) dX5_become_12 (by decide) ?_
    refine yw_putI dX5_become_14 fX5_11 (fun r h => by cases h; exact Or.inl rfl) rfl (la_1 hW) ?_
    refine xw_aload_n dX5_become_17 rfl rfl ?_
    refine xw_iload_n dX5_become_18 rfl rfl ?_
    refine xw_iconst (v := nI 1) dX5_become_19 rfl ?_
    refine xw_iclt (tgt := 32) dX5_become_20 (by decide) (fun c => ?_) (fun c => ?_)
    · replace k := k.1 c
      refine xw_iconst (v := nI 2) dX5_become_32 rfl ?_
      refine yw_putI dX5_become_33 fX5_15 (fun r h => by cases h; exact Or.inl rfl) rfl (la_1 hW) ?_
      exact yw_vret dX5_become_36 rfl k
    · replace k := k.2 c
      refine xw_iload_n dX5_become_23 rfl rfl ?_
      refine xw_iconst (v := nI 3) dX5_become_24 rfl ?_
      refine xw_icgt (tgt := 32) dX5_become_25 (by decide) (fun c => ?_) (fun c => ?_)
      · replace k := k.1 c
        refine xw_iconst (v := nI 2) dX5_become_32 rfl ?_
        refine yw_putI dX5_become_33 fX5_15 (fun r h => by cases h; exact Or.inl rfl) rfl (la_1 hW) ?_
        exact yw_vret dX5_become_36 rfl k
      · replace k := k.2 c
        refine xw_iload_n dX5_become_28 rfl rfl ?_
        refine xw_goto (tgt := 33) dX5_become_29 (by decide) ?_
        refine yw_putI dX5_become_33 fX5_15 (fun r h => by cases h; exact Or.inl rfl) rfl (la_1 hW) ?_
        exact yw_vret dX5_become_36 rfl k
  · replace k := k.2 c
    refine xw_iload_n dX5_become_8 rfl rfl ?_
    refine xw_goto (tgt := 14) dX5_become_9 (by decide) ?_
    refine yw_putI dX5_become_14 fX5_11 (fun r h => by cases h; exact Or.inl rfl) rfl (la_1 hW) ?_
    refine xw_aload_n dX5_become_17 rfl rfl ?_
    refine xw_iload_n dX5_become_18 rfl rfl ?_
    refine xw_iconst (v := nI 1) dX5_become_19 rfl ?_
    refine xw_iclt (tgt := 32) dX5_become_20 (by decide) (fun c => ?_) (fun c => ?_)
    · replace k := k.1 c
      refine xw_iconst (v := nI 2) dX5_become_32 rfl ?_
      refine yw_putI dX5_become_33 fX5_15 (fun r h => by cases h; exact Or.inl rfl) rfl (la_1 hW) ?_
      exact yw_vret dX5_become_36 rfl k
    · replace k := k.2 c
      refine xw_iload_n dX5_become_23 rfl rfl ?_
      refine xw_iconst (v := nI 3) dX5_become_24 rfl ?_
      refine xw_icgt (tgt := 32) dX5_become_25 (by decide) (fun c => ?_) (fun c => ?_)
      · replace k := k.1 c
        refine xw_iconst (v := nI 2) dX5_become_32 rfl ?_
        refine yw_putI dX5_become_33 fX5_15 (fun r h => by cases h; exact Or.inl rfl) rfl (la_1 hW) ?_
        exact yw_vret dX5_become_36 rfl k
      · replace k := k.2 c
        refine xw_iload_n dX5_become_28 rfl rfl ?_
        refine xw_goto (tgt := 33) dX5_become_29 (by decide) ?_
        refine yw_putI dX5_become_33 fX5_15 (fun r h => by cases h; exact Or.inl rfl) rfl (la_1 hW) ?_
        exact yw_vret dX5_become_36 rfl k
theorem eX5_become {v1 : Int32} {v2 : Int32} {h : xHp} {Q : xHp → Prop} (k : Ex mX5_become 0 [.ref 1, .int v1, .int v2] [] h 0 0 (xqV Q)) : CV mX5_become [.ref 1, .int v1, .int v2] h Q := k
theorem bX3_reduce_0 {q M : Nat} {mc ms : Nat} {Q : xHp → Prop} (hW : xLay sh R) (hq : xMach sh R q M)
    (k : Ex mX3_reduce 2 [.ref q, .int (nI 0)] [] (sh, I, R) mc ms (xqV Q)) :
    Ex mX3_reduce 0 [.ref q, xU] [] (sh, I, R) mc ms (xqV Q) := by
  refine xw_iconst (v := nI 0) dX3_reduce_0 rfl ?_
  refine yw_istore_n (lv' := [.ref q, .int (nI 0)]) dX3_reduce_1 rfl rfl rfl rfl ?_
  exact k
theorem bX3_reduce_2 {q M : Nat} {v1 : Int32} {mc ms : Nat} {Q : xHp → Prop} (hW : xLay sh R) (hq : xMach sh R q M)
    (k : (((I q 1) ≤ v1 → Ex mX3_reduce 50 [.ref q, .int (nI 0)] [] (sh, I, R) mc ms (xqV Q)) ∧ (¬ (I q 1) ≤ v1 → vp_in v1 M ∧ ¬ I 1 0 = 0 ∧ vp_in v1 M ∧ vp_in v1 M ∧ ¬ (xi I (q + 1) v1.toNatClampNeg (xrem (I (q + 1) v1.toNatClampNeg) (I 1 0))) 1 0 = 0 ∧ vp_in v1 M ∧ Ex mX3_reduce 2 [.ref q, .int (v1 + nI 1)] [] (sh, (xi (xi I (q + 1) v1.toNatClampNeg (xrem (I (q + 1) v1.toNatClampNeg) (I 1 0))) (q + 2) v1.toNatClampNeg (xrem (I (q + 2) v1.toNatClampNeg) ((xi I (q + 1) v1.toNatClampNeg (xrem (I (q + 1) v1.toNatClampNeg) (I 1 0))) 1 0))), R) mc ms (xqV Q)))) :
    Ex mX3_reduce 2 [.ref q, .int v1] [] (sh, I, R) mc ms (xqV Q) := by
  refine xw_iload_n dX3_reduce_2 rfl rfl ?_
  refine xw_aload_n dX3_reduce_3 rfl rfl ?_
  refine yw_getI (v := I q 1) dX3_reduce_4 fX3_17 rfl hq.1 rfl ?_
  refine xw_icge (tgt := 48) dX3_reduce_7 (by decide) (fun c => ?_) (fun c => ?_)
  · replace k := k.1 c
    refine xw_iconst (v := nI 0) dX3_reduce_48 rfl ?_
    refine yw_istore_n (lv' := [.ref q, .int (nI 0)]) dX3_reduce_49 rfl rfl rfl rfl ?_
    exact k
  · replace k := k.2 c
    refine xw_aload_n dX3_reduce_10 rfl rfl ?_
    refine yw_getR (r := (q + 1)) dX3_reduce_11 fX3_21 rfl hq.1 hq.2.2.2.2.2.1 ?_
    refine xw_iload_n dX3_reduce_14 rfl rfl ?_
    refine xw_dup2 dX3_reduce_15 rfl rfl ?_
    obtain ⟨k0, k⟩ := k
    refine yw_iaload (v := I (q + 1) v1.toNatClampNeg) dX3_reduce_16 hq.2.1 k0 rfl ?_
    refine xw_aload_n dX3_reduce_17 rfl rfl ?_
    refine yw_getR (r := 1) dX3_reduce_18 fX3_9 rfl hq.1 hq.2.2.2.2.1 ?_
    refine yw_getI (v := I 1 0) dX3_reduce_21 fX3_48 rfl (la_1 hW) rfl ?_
    obtain ⟨k0, k⟩ := k
    refine yw_irem dX3_reduce_24 k0 ?_
    obtain ⟨k0, k⟩ := k
    refine yw_iastore dX3_reduce_25 hq.2.1 k0 ?_
    refine xw_aload_n dX3_reduce_26 rfl rfl ?_
    refine yw_getR (r := (q + 2)) dX3_reduce_27 fX3_25 rfl hq.1 hq.2.2.2.2.2.2.1 ?_
    refine xw_iload_n dX3_reduce_30 rfl rfl ?_
    refine xw_dup2 dX3_reduce_31 rfl rfl ?_
    obtain ⟨k0, k⟩ := k
    refine yw_iaload (v := I (q + 2) v1.toNatClampNeg) dX3_reduce_32 hq.2.2.1 k0 (xi_p (a := (q + 2)) (q := (q + 1)) (by omega)) ?_
    refine xw_aload_n dX3_reduce_33 rfl rfl ?_
    refine yw_getR (r := 1) dX3_reduce_34 fX3_9 rfl hq.1 hq.2.2.2.2.1 ?_
    refine yw_getI (v := (xi I (q + 1) v1.toNatClampNeg (xrem (I (q + 1) v1.toNatClampNeg) (I 1 0))) 1 0) dX3_reduce_37 fX3_48 rfl (la_1 hW) rfl ?_
    obtain ⟨k0, k⟩ := k
    refine yw_irem dX3_reduce_40 k0 ?_
    obtain ⟨k0, k⟩ := k
    refine yw_iastore dX3_reduce_41 hq.2.2.1 k0 ?_
    refine yw_iinc (lv' := [.ref q, .int (v1 + nI 1)]) (v := nI 1) dX3_reduce_42 rfl rfl rfl rfl rfl ?_
    refine xw_goto (tgt := 2) dX3_reduce_45 (by decide) ?_
    exact k
theorem bX3_reduce_50 {q M : Nat} {v1 : Int32} {mc ms : Nat} {Q : xHp → Prop} (hW : xLay sh R) (hq : xMach sh R q M)
    (k : (((nI (M * 3 * M)) ≤ v1 → Q (sh, I, R)) ∧ (¬ (nI (M * 3 * M)) ≤ v1 → vp_in v1 (M * 3 * M) ∧ ¬ I 1 0 = 0 ∧ vp_in v1 (M * 3 * M) ∧ Ex mX3_reduce 50 [.ref q, .int (v1 + nI 1)] [] (sh, (xi I (q + 3) v1.toNatClampNeg (xrem (I (q + 3) v1.toNatClampNeg) (I 1 0))), R) mc ms (xqV Q)))) :
    Ex mX3_reduce 50 [.ref q, .int v1] [] (sh, I, R) mc ms (xqV Q) := by
  refine xw_iload_n dX3_reduce_50 rfl rfl ?_
  refine xw_aload_n dX3_reduce_51 rfl rfl ?_
  refine yw_getR (r := (q + 3)) dX3_reduce_52 fX3_28 rfl hq.1 hq.2.2.2.2.2.2.2 ?_
  refine xw_alen dX3_reduce_55 hq.2.2.2.1 (by decide) ?_
  refine xw_icge (tgt := 81) dX3_reduce_56 (by decide) (fun c => ?_) (fun c => ?_)
  · replace k := k.1 c
    exact yw_vret dX3_reduce_81 rfl k
  · replace k := k.2 c
    refine xw_aload_n dX3_reduce_59 rfl rfl ?_
    refine yw_getR (r := (q + 3)) dX3_reduce_60 fX3_28 rfl hq.1 hq.2.2.2.2.2.2.2 ?_
    refine xw_iload_n dX3_reduce_63 rfl rfl ?_
    refine xw_dup2 dX3_reduce_64 rfl rfl ?_
    obtain ⟨k0, k⟩ := k
    refine yw_iaload (v := I (q + 3) v1.toNatClampNeg) dX3_reduce_65 hq.2.2.2.1 k0 rfl ?_
    refine xw_aload_n dX3_reduce_66 rfl rfl ?_
    refine yw_getR (r := 1) dX3_reduce_67 fX3_9 rfl hq.1 hq.2.2.2.2.1 ?_
    refine yw_getI (v := I 1 0) dX3_reduce_70 fX3_48 rfl (la_1 hW) rfl ?_
    obtain ⟨k0, k⟩ := k
    refine yw_irem dX3_reduce_73 k0 ?_
    obtain ⟨k0, k⟩ := k
    refine yw_iastore dX3_reduce_74 hq.2.2.2.1 k0 ?_
    refine yw_iinc (lv' := [.ref q, .int (v1 + nI 1)]) (v := nI 1) dX3_reduce_75 rfl rfl rfl rfl rfl ?_
    refine xw_goto (tgt := 50) dX3_reduce_78 (by decide) ?_
    exact k
theorem eX3_reduce {q : Nat} {h : xHp} {Q : xHp → Prop} (k : Ex mX3_reduce 0 [.ref q, xU] [] h 0 0 (xqV Q)) : CV mX3_reduce [.ref q] h Q := k
theorem bX3_append_0 {a1 Ma1 q M : Nat} {v2 : Int32} {mc ms : Nat} {Q : xHp → Prop} (hW : xLay sh R) (hq : xMach sh R q M) (ha1 : xMach sh R a1 Ma1)
    (k : ((((I q 2) + (I a1 2)) ≤ (I q 1) → Ex mX3_append 25 [.ref q, .ref a1, .int v2, .int (I q 2), .int (nI 0), xU] [] (sh, I, R) mc ms (xqV Q)) ∧ (¬ ((I q 2) + (I a1 2)) ≤ (I q 1) → Q (sh, I, R)))) :
    Ex mX3_append 0 [.ref q, .ref a1, .int v2, xU, xU, xU] [] (sh, I, R) mc ms (xqV Q) := by
  refine xw_aload_n dX3_append_0 rfl rfl ?_
  refine yw_getI (v := I q 2) dX3_append_1 fX3_31 rfl hq.1 rfl ?_
  refine xw_aload_n dX3_append_4 rfl rfl ?_
  refine yw_getI (v := I a1 2) dX3_append_5 fX3_31 rfl ha1.1 rfl ?_
  refine xw_iadd dX3_append_8 ?_
  refine xw_aload_n dX3_append_9 rfl rfl ?_
  refine yw_getI (v := I q 1) dX3_append_10 fX3_17 rfl hq.1 rfl ?_
  refine xw_icle (tgt := 17) dX3_append_13 (by decide) (fun c => ?_) (fun c => ?_)
  · replace k := k.1 c
    refine xw_aload_n dX3_append_17 rfl rfl ?_
    refine yw_getI (v := I q 2) dX3_append_18 fX3_31 rfl hq.1 rfl ?_
    refine yw_istore_n (lv' := [.ref q, .ref a1, .int v2, .int (I q 2), xU, xU]) dX3_append_21 rfl rfl rfl rfl ?_
    refine xw_iconst (v := nI 0) dX3_append_22 rfl ?_
    refine yw_istore (lv' := [.ref q, .ref a1, .int v2, .int (I q 2), .int (nI 0), xU]) dX3_append_23 rfl rfl rfl ?_
    exact k
  · replace k := k.2 c
    exact yw_vret dX3_append_16 rfl k
theorem bX3_append_25 {a1 Ma1 q M : Nat} {v2 v3 v4 : Int32} {mc ms : Nat} {Q : xHp → Prop} (hW : xLay sh R) (hq : xMach sh R q M) (ha1 : xMach sh R a1 Ma1)
    (k : (((I a1 2) ≤ v4 → Q (sh, (xi I q 2 ((I q 2) + (I a1 2))), R)) ∧ (¬ (I a1 2) ≤ v4 → vp_in v4 Ma1 ∧ ¬ I 1 0 = 0 ∧ vp_in (v3 + v4) M ∧ vp_in v4 Ma1 ∧ vp_in (v3 + v4) M ∧ Ex mX3_append 79 [.ref q, .ref a1, .int v2, .int v3, .int v4, .int (nI 0)] [] (sh, (xi (xi I (q + 1) ((v3 + v4).toNatClampNeg) (xrem ((I (a1 + 1) v4.toNatClampNeg) * v2) (I 1 0))) (q + 2) ((v3 + v4).toNatClampNeg) ((xi I (q + 1) ((v3 + v4).toNatClampNeg) (xrem ((I (a1 + 1) v4.toNatClampNeg) * v2) (I 1 0))) (a1 + 2) v4.toNatClampNeg)), R) mc ms (xqV Q)))) :
    Ex mX3_append 25 [.ref q, .ref a1, .int v2, .int v3, .int v4, xU] [] (sh, I, R) mc ms (xqV Q) := by
  refine xw_iload dX3_append_25 rfl ?_
  refine xw_aload_n dX3_append_27 rfl rfl ?_
  refine yw_getI (v := I a1 2) dX3_append_28 fX3_31 rfl ha1.1 rfl ?_
  refine xw_icge (tgt := 138) dX3_append_31 (by decide) (fun c => ?_) (fun c => ?_)
  · replace k := k.1 c
    refine xw_aload_n dX3_append_138 rfl rfl ?_
    refine xw_dup dX3_append_139 rfl ?_
    refine yw_getI (v := I q 2) dX3_append_140 fX3_31 rfl hq.1 rfl ?_
    refine xw_aload_n dX3_append_143 rfl rfl ?_
    refine yw_getI (v := I a1 2) dX3_append_144 fX3_31 rfl ha1.1 rfl ?_
    refine xw_iadd dX3_append_147 ?_
    refine yw_putI dX3_append_148 fX3_31 (fun r h => by cases h; exact Or.inl rfl) rfl hq.1 ?_
    exact yw_vret dX3_append_151 rfl k
  · replace k := k.2 c
    refine xw_aload_n dX3_append_34 rfl rfl ?_
    refine yw_getR (r := (q + 1)) dX3_append_35 fX3_21 rfl hq.1 hq.2.2.2.2.2.1 ?_
    refine xw_iload_n dX3_append_38 rfl rfl ?_
    refine xw_iload dX3_append_39 rfl ?_
    refine xw_iadd dX3_append_41 ?_
    refine xw_aload_n dX3_append_42 rfl rfl ?_
    refine yw_getR (r := (a1 + 1)) dX3_append_43 fX3_21 rfl ha1.1 ha1.2.2.2.2.2.1 ?_
    refine xw_iload dX3_append_46 rfl ?_
    obtain ⟨k0, k⟩ := k
    refine yw_iaload (v := I (a1 + 1) v4.toNatClampNeg) dX3_append_48 ha1.2.1 k0 rfl ?_
    refine xw_iload_n dX3_append_49 rfl rfl ?_
    refine xw_imul dX3_append_50 ?_
    refine xw_aload_n dX3_append_51 rfl rfl ?_
    refine yw_getR (r := 1) dX3_append_52 fX3_9 rfl hq.1 hq.2.2.2.2.1 ?_
    refine yw_getI (v := I 1 0) dX3_append_55 fX3_48 rfl (la_1 hW) rfl ?_
    obtain ⟨k0, k⟩ := k
    refine yw_irem dX3_append_58 k0 ?_
    obtain ⟨k0, k⟩ := k
    refine yw_iastore dX3_append_59 hq.2.1 k0 ?_
    refine xw_aload_n dX3_append_60 rfl rfl ?_
    refine yw_getR (r := (q + 2)) dX3_append_61 fX3_25 rfl hq.1 hq.2.2.2.2.2.2.1 ?_
    refine xw_iload_n dX3_append_64 rfl rfl ?_
    refine xw_iload dX3_append_65 rfl ?_
    refine xw_iadd dX3_append_67 ?_
    refine xw_aload_n dX3_append_68 rfl rfl ?_
    refine yw_getR (r := (a1 + 2)) dX3_append_69 fX3_25 rfl ha1.1 ha1.2.2.2.2.2.2.1 ?_
    refine xw_iload dX3_append_72 rfl ?_
    obtain ⟨k0, k⟩ := k
    refine yw_iaload (v := (xi I (q + 1) ((v3 + v4).toNatClampNeg) (xrem ((I (a1 + 1) v4.toNatClampNeg) * v2) (I 1 0))) (a1 + 2) v4.toNatClampNeg) dX3_append_74 ha1.2.2.1 k0 rfl ?_
    obtain ⟨k0, k⟩ := k
    refine yw_iastore dX3_append_75 hq.2.2.1 k0 ?_
    refine xw_iconst (v := nI 0) dX3_append_76 rfl ?_
    refine yw_istore (lv' := [.ref q, .ref a1, .int v2, .int v3, .int v4, .int (nI 0)]) dX3_append_77 rfl rfl rfl ?_
    exact k
theorem bX3_append_79 {a1 Ma1 q M : Nat} {v2 v3 v4 v5 : Int32} {mc ms : Nat} {Q : xHp → Prop} (hW : xLay sh R) (hq : xMach sh R q M) (ha1 : xMach sh R a1 Ma1)
    (k : (((I 1 1) ≤ v5 → Ex mX3_append 25 [.ref q, .ref a1, .int v2, .int v3, .int (v4 + nI 1), xU] [] (sh, I, R) mc ms (xqV Q)) ∧ (¬ (I 1 1) ≤ v5 → CI mX3_at [.ref a1, .int v4, .int v5, .int (nI 0)] (sh, I, R) (fun w h1 => Ex mX3_append 104 [.ref q, .ref a1, .int v2, .int v3, .int v4, .int v5] (.int w :: [.ref (a1 + 3)]) h1 mc ms (xqV Q))))) :
    Ex mX3_append 79 [.ref q, .ref a1, .int v2, .int v3, .int v4, .int v5] [] (sh, I, R) mc ms (xqV Q) := by
  refine xw_iload dX3_append_79 rfl ?_
  refine xw_aload_n dX3_append_81 rfl rfl ?_
  refine yw_getR (r := 1) dX3_append_82 fX3_9 rfl hq.1 hq.2.2.2.2.1 ?_
  refine yw_getI (v := I 1 1) dX3_append_85 fX3_53 rfl (la_1 hW) rfl ?_
  refine xw_icge (tgt := 132) dX3_append_88 (by decide) (fun c => ?_) (fun c => ?_)
  · replace k := k.1 c
    refine yw_iinc (lv' := [.ref q, .ref a1, .int v2, .int v3, .int (v4 + nI 1), .int v5]) (v := nI 1) dX3_append_132 rfl rfl rfl rfl rfl ?_
    refine xw_goto (tgt := 25) dX3_append_135 (by decide) ?_
    exact yw_sub (lv' := [.ref q, .ref a1, .int v2, .int v3, .int (v4 + nI 1), xU]) ⟨Or.inr rfl, Or.inr rfl, Or.inr rfl, Or.inr rfl, Or.inr rfl, Or.inl rfl, trivial⟩ k
  · replace k := k.2 c
    refine xw_aload_n dX3_append_91 rfl rfl ?_
    refine yw_getR (r := (a1 + 3)) dX3_append_92 fX3_28 rfl ha1.1 ha1.2.2.2.2.2.2.2 ?_
    refine xw_aload_n dX3_append_95 rfl rfl ?_
    refine xw_iload dX3_append_96 rfl ?_
    refine xw_iload dX3_append_98 rfl ?_
    refine xw_iconst (v := nI 0) dX3_append_100 rfl ?_
    exact yw_cV (As := [.int v4, .int v5, .int (nI 0)]) (b := a1) (st := [.ref (a1 + 3)]) dX3_append_101 lX3_56 kiX3_at kvX3_at rfl rfl rfl ha1.1 rfl (Nat.le_of_ble_eq_true rfl) rfl (xk_I k)
theorem bX3_append_104 {a1 Ma1 b0 nb0 q M : Nat} {v2 v3 v4 v5 s1 : Int32} {mc ms : Nat} {Q : xHp → Prop} (hW : xLay sh R) (hq : xMach sh R q M) (ha1 : xMach sh R a1 Ma1) (hb0 : sh[b0]? = some (.inr (0, nb0)))
    (k : CI mX3_at [.ref q, .int (v3 + v4), .int v5, .int v3] (sh, I, R) (fun w h1 => Ex mX3_append 119 [.ref q, .ref a1, .int v2, .int v3, .int v4, .int v5] (.int w :: [.ref (q + 3), .int s1, .ref b0]) h1 mc ms (xqV Q))) :
    Ex mX3_append 104 [.ref q, .ref a1, .int v2, .int v3, .int v4, .int v5] [.int s1, .ref b0] (sh, I, R) mc ms (xqV Q) := by
  refine xw_aload_n dX3_append_104 rfl rfl ?_
  refine yw_getR (r := (q + 3)) dX3_append_105 fX3_28 rfl hq.1 hq.2.2.2.2.2.2.2 ?_
  refine xw_aload_n dX3_append_108 rfl rfl ?_
  refine xw_iload_n dX3_append_109 rfl rfl ?_
  refine xw_iload dX3_append_110 rfl ?_
  refine xw_iadd dX3_append_112 ?_
  refine xw_iload dX3_append_113 rfl ?_
  refine xw_iload_n dX3_append_115 rfl rfl ?_
  exact yw_cV (As := [.int (v3 + v4), .int v5, .int v3]) (b := q) (st := [.ref (q + 3), .int s1, .ref b0]) dX3_append_116 lX3_56 kiX3_at kvX3_at rfl rfl rfl hq.1 rfl (Nat.le_of_ble_eq_true rfl) rfl (xk_I k)
theorem bX3_append_119 {a1 Ma1 b0 nb0 q M : Nat} {v2 v3 v4 v5 s3 s1 : Int32} {mc ms : Nat} {Q : xHp → Prop} (hW : xLay sh R) (hq : xMach sh R q M) (ha1 : xMach sh R a1 Ma1) (hb0 : sh[b0]? = some (.inr (0, nb0)))
    (k : ((¬ s1 < 0 ∧ ¬ s3 < 0 ∧ ¬ (I a1 2) < 0) ∧ s1.toNatClampNeg + (I a1 2).toNatClampNeg ≤ nb0 ∧ s3.toNatClampNeg + (I a1 2).toNatClampNeg ≤ (M * 3 * M)) ∧ Ex mX3_append 79 [.ref q, .ref a1, .int v2, .int v3, .int v4, .int (v5 + nI 1)] [] (sh, (xa I (q + 3) (va_cpy (I b0) (I (q + 3)) s1.toNatClampNeg s3.toNatClampNeg (I a1 2).toNatClampNeg)), R) mc ms (xqV Q)) :
    Ex mX3_append 119 [.ref q, .ref a1, .int v2, .int v3, .int v4, .int v5] [.int s3, .ref (q + 3), .int s1, .ref b0] (sh, I, R) mc ms (xqV Q) := by
  refine xw_aload_n dX3_append_119 rfl rfl ?_
  refine yw_getI (v := I a1 2) dX3_append_120 fX3_31 rfl ha1.1 rfl ?_
  obtain ⟨k0, k⟩ := k
  refine yw_acopy dX3_append_123 lX3_60 hb0 hq.2.2.2.1 rfl rfl (Nat.le_of_ble_eq_true rfl) k0 ?_
  refine yw_iinc (lv' := [.ref q, .ref a1, .int v2, .int v3, .int v4, .int (v5 + nI 1)]) (v := nI 1) dX3_append_126 rfl rfl rfl rfl rfl ?_
  refine xw_goto (tgt := 79) dX3_append_129 (by decide) ?_
  exact k
theorem eX3_append {q a1 : Nat} {v2 : Int32} {h : xHp} {Q : xHp → Prop} (k : Ex mX3_append 0 [.ref q, .ref a1, .int v2, xU, xU, xU] [] h 0 0 (xqV Q)) : CV mX3_append [.ref q, .ref a1, .int v2] h Q := k
theorem bX3_copy_0 {a1 Ma1 q M : Nat} {mc ms : Nat} {Q : xHp → Prop} (hW : xLay sh R) (hq : xMach sh R q M) (ha1 : xMach sh R a1 Ma1)
    (k : CV mX3_become [.ref q, .int (nI 0)] (sh, I, R) (fun h1 => Ex mX3_copy 5 [.ref q, .ref a1] [] h1 mc ms (xqV Q))) :
    Ex mX3_copy 0 [.ref q, .ref a1] [] (sh, I, R) mc ms (xqV Q) := by
  refine xw_aload_n dX3_copy_0 rfl rfl ?_
  refine xw_iconst (v := nI 0) dX3_copy_1 rfl ?_
  exact yw_cV (As := [.int (nI 0)]) (b := q) (st := []) dX3_copy_2 lX3_40 kiX3_become kvX3_become rfl rfl rfl hq.1 rfl (Nat.le_of_ble_eq_true rfl) rfl (xk_V k)
theorem bX3_copy_5 {a1 Ma1 q M : Nat} {mc ms : Nat} {Q : xHp → Prop} (hW : xLay sh R) (hq : xMach sh R q M) (ha1 : xMach sh R a1 Ma1)
    (k : CV mX3_append [.ref q, .ref a1, .int (nI 1)] (sh, I, R) (fun h1 => Ex mX3_copy 11 [xU, xU] [] h1 mc ms (xqV Q))) :
    Ex mX3_copy 5 [.ref q, .ref a1] [] (sh, I, R) mc ms (xqV Q) := by
  refine xw_aload_n dX3_copy_5 rfl rfl ?_
  refine xw_aload_n dX3_copy_6 rfl rfl ?_
  refine xw_iconst (v := nI 1) dX3_copy_7 rfl ?_
  refine yw_sub (lv' := [xU, xU]) ⟨Or.inl rfl, Or.inl rfl, trivial⟩ ?_
  exact yw_cV (As := [.ref a1, .int (nI 1)]) (b := q) (st := []) dX3_copy_8 lX3_44 kiX3_append kvX3_append rfl rfl rfl hq.1 rfl (Nat.le_of_ble_eq_true rfl) rfl (xk_V k)
theorem bX3_copy_11 {mc ms : Nat} {Q : xHp → Prop} (hW : xLay sh R) 
    (k : Q (sh, I, R)) :
    Ex mX3_copy 11 [xU, xU] [] (sh, I, R) mc ms (xqV Q) := by
  exact yw_vret dX3_copy_11 rfl k
theorem eX3_copy {q a1 : Nat} {h : xHp} {Q : xHp → Prop} (k : Ex mX3_copy 0 [.ref q, .ref a1] [] h 0 0 (xqV Q)) : CV mX3_copy [.ref q, .ref a1] h Q := k
theorem bX7_clear_0 {q : Nat} {v1 : Int32} {mc ms : Nat} {Q : xHp → Prop} (hW : xLay sh R) (hq : xSpan sh R q)
    (k : (((nI 8) < v1 → Q (sh, (xi (xi I q 7 (nI 8)) q 8 (nI 0)), R)) ∧ (¬ (nI 8) < v1 → Q (sh, (xi (xi I q 7 v1) q 8 (nI 0)), R)))) :
    Ex mX7_clear 0 [.ref q, .int v1] [] (sh, I, R) mc ms (xqV Q) := by
  refine xw_aload_n dX7_clear_0 rfl rfl ?_
  refine xw_iload_n dX7_clear_1 rfl rfl ?_
  refine xw_bipush (v := nI 8) dX7_clear_2 (by decide) ?_
  refine xw_icgt (tgt := 11) dX7_clear_4 (by decide) (fun c => ?_) (fun c => ?_)
  · replace k := k.1 c
    refine xw_bipush (v := nI 8) dX7_clear_11 (by decide) ?_
    refine yw_putI dX7_clear_13 fX7_33 (fun r h => by cases h; exact Or.inl rfl) rfl hq.1 ?_
    refine xw_aload_n dX7_clear_16 rfl rfl ?_
    refine xw_iconst (v := nI 0) dX7_clear_17 rfl ?_
    refine yw_putI dX7_clear_18 fX7_37 (fun r h => by cases h; exact Or.inl rfl) rfl hq.1 ?_
    exact yw_vret dX7_clear_21 rfl k
  · replace k := k.2 c
    refine xw_iload_n dX7_clear_7 rfl rfl ?_
    refine xw_goto (tgt := 13) dX7_clear_8 (by decide) ?_
    refine yw_putI dX7_clear_13 fX7_33 (fun r h => by cases h; exact Or.inl rfl) rfl hq.1 ?_
    refine xw_aload_n dX7_clear_16 rfl rfl ?_
    refine xw_iconst (v := nI 0) dX7_clear_17 rfl ?_
    refine yw_putI dX7_clear_18 fX7_37 (fun r h => by cases h; exact Or.inl rfl) rfl hq.1 ?_
    exact yw_vret dX7_clear_21 rfl k
theorem eX7_clear {q : Nat} {v1 : Int32} {h : xHp} {Q : xHp → Prop} (k : Ex mX7_clear 0 [.ref q, .int v1] [] h 0 0 (xqV Q)) : CV mX7_clear [.ref q, .int v1] h Q := k
theorem bX7_combines_0 {a1 na1 q : Nat} {mc ms : Nat} {Q : Int32 → xHp → Prop} (hW : xLay sh R) (hq : xSpan sh R q) (ha1 : sh[a1]? = some (.inr (0, na1)))
    (k : ((¬ (nI 0) < 0 ∧ ¬ (nI 0) < 0 ∧ ¬ (I q 7) < 0) ∧ (nI 0).toNatClampNeg + (I q 7).toNatClampNeg ≤ na1 ∧ (nI 0).toNatClampNeg + (I q 7).toNatClampNeg ≤ 8) ∧ CV mJ7_fill_53178 [.ref (q + 21), .int (nI 0)] (sh, (xa I (q + 20) (va_cpy (I a1) (I (q + 20)) (nI 0).toNatClampNeg (nI 0).toNatClampNeg (I q 7).toNatClampNeg)), R) (fun h1 => Ex mX7_combines 30 [.ref q, xU, .int (I 1 0), xU, xU, xU] [] h1 mc ms (xqI Q))) :
    Ex mX7_combines 0 [.ref q, .ref a1, xU, xU, xU, xU] [] (sh, I, R) mc ms (xqI Q) := by
  refine xw_aload_n dX7_combines_0 rfl rfl ?_
  refine yw_getR (r := 1) dX7_combines_1 fX7_29 rfl hq.1 hq.2.1 ?_
  refine yw_getI (v := I 1 0) dX7_combines_4 fX7_40 rfl (la_1 hW) rfl ?_
  refine yw_istore_n (lv' := [.ref q, .ref a1, .int (I 1 0), xU, xU, xU]) dX7_combines_7 rfl rfl rfl rfl ?_
  refine xw_aload_n dX7_combines_8 rfl rfl ?_
  refine xw_iconst (v := nI 0) dX7_combines_9 rfl ?_
  refine xw_aload_n dX7_combines_10 rfl rfl ?_
  refine yw_getR (r := (q + 20)) dX7_combines_11 fX7_23 rfl hq.1 hq.2.2.2.2.2.1 ?_
  refine xw_iconst (v := nI 0) dX7_combines_14 rfl ?_
  refine xw_aload_n dX7_combines_15 rfl rfl ?_
  refine yw_getI (v := I q 7) dX7_combines_16 fX7_33 rfl hq.1 rfl ?_
  obtain ⟨k0, k⟩ := k
  refine yw_acopy dX7_combines_19 lX7_45 ha1 hq.2.2.2.2.2.2.2.2.1 rfl rfl (Nat.le_of_ble_eq_true rfl) k0 ?_
  refine xw_aload_n dX7_combines_22 rfl rfl ?_
  refine yw_getR (r := (q + 21)) dX7_combines_23 fX7_26 rfl hq.1 hq.2.2.2.2.2.2.1 ?_
  refine xw_iconst (v := nI 0) dX7_combines_26 rfl ?_
  refine yw_sub (lv' := [.ref q, xU, .int (I 1 0), xU, xU, xU]) ⟨Or.inr rfl, Or.inl rfl, Or.inr rfl, Or.inl rfl, Or.inl rfl, Or.inl rfl, trivial⟩ ?_
  exact yw_cS (As := [.ref (q + 21), .int (nI 0)]) (st := []) dX7_combines_27 lX7_51 ksJ7_fill_53178 rfl rfl rfl (Nat.le_of_ble_eq_true rfl) rfl (xk_V k)
theorem bX7_combines_30 {q : Nat} {v2 : Int32} {mc ms : Nat} {Q : Int32 → xHp → Prop} (hW : xLay sh R) (hq : xSpan sh R q)
    (k : Ex mX7_combines 32 [.ref q, xU, .int v2, .int (nI 0), xU, xU] [] (sh, I, R) mc ms (xqI Q)) :
    Ex mX7_combines 30 [.ref q, xU, .int v2, xU, xU, xU] [] (sh, I, R) mc ms (xqI Q) := by
  refine xw_iconst (v := nI 0) dX7_combines_30 rfl ?_
  refine yw_istore_n (lv' := [.ref q, xU, .int v2, .int (nI 0), xU, xU]) dX7_combines_31 rfl rfl rfl rfl ?_
  exact k
theorem bX7_combines_32 {q : Nat} {v2 v3 : Int32} {mc ms : Nat} {Q : Int32 → xHp → Prop} (hW : xLay sh R) (hq : xSpan sh R q)
    (k : (((I q 8) ≤ v3 → Ex mX7_combines 162 [.ref q, xU, xU, .int (nI 0), xU, xU] [] (sh, I, R) mc ms (xqI Q)) ∧ (¬ (I q 8) ≤ v3 → vp_in v3 8 ∧ vp_in (I (q + 19) v3.toNatClampNeg) 8 ∧ ((¬ (I (q + 20) ((I (q + 19) v3.toNatClampNeg).toNatClampNeg)) = 0 → Ex mX7_combines 64 [.ref q, xU, .int v2, .int v3, .int (I (q + 20) ((I (q + 19) v3.toNatClampNeg).toNatClampNeg)), .int (nI 0)] [] (sh, I, R) mc ms (xqI Q)) ∧ ((I (q + 20) ((I (q + 19) v3.toNatClampNeg).toNatClampNeg)) = 0 → Ex mX7_combines 32 [.ref q, xU, .int v2, .int (v3 + nI 1), xU, xU] [] (sh, I, R) mc ms (xqI Q)))))) :
    Ex mX7_combines 32 [.ref q, xU, .int v2, .int v3, xU, xU] [] (sh, I, R) mc ms (xqI Q) := by
  refine xw_iload_n dX7_combines_32 rfl rfl ?_
  refine xw_aload_n dX7_combines_33 rfl rfl ?_
  refine yw_getI (v := I q 8) dX7_combines_34 fX7_37 rfl hq.1 rfl ?_
  refine xw_icge (tgt := 160) dX7_combines_37 (by decide) (fun c => ?_) (fun c => ?_)
  · replace k := k.1 c
    refine xw_iconst (v := nI 0) dX7_combines_160 rfl ?_
    refine yw_istore_n (lv' := [.ref q, xU, .int v2, .int (nI 0), xU, xU]) dX7_combines_161 rfl rfl rfl rfl ?_
    exact yw_sub (lv' := [.ref q, xU, xU, .int (nI 0), xU, xU]) ⟨Or.inr rfl, Or.inl rfl, Or.inl rfl, Or.inr rfl, Or.inl rfl, Or.inl rfl, trivial⟩ k
  · replace k := k.2 c
    refine xw_aload_n dX7_combines_40 rfl rfl ?_
    refine yw_getR (r := (q + 20)) dX7_combines_41 fX7_23 rfl hq.1 hq.2.2.2.2.2.1 ?_
    refine xw_aload_n dX7_combines_44 rfl rfl ?_
    refine yw_getR (r := (q + 19)) dX7_combines_45 fX7_19 rfl hq.1 hq.2.2.2.2.1 ?_
    refine xw_iload_n dX7_combines_48 rfl rfl ?_
    obtain ⟨k0, k⟩ := k
    refine yw_iaload (v := I (q + 19) v3.toNatClampNeg) dX7_combines_49 hq.2.2.2.2.2.2.2.1 k0 rfl ?_
    obtain ⟨k0, k⟩ := k
    refine yw_iaload (v := I (q + 20) ((I (q + 19) v3.toNatClampNeg).toNatClampNeg)) dX7_combines_50 hq.2.2.2.2.2.2.2.2.1 k0 rfl ?_
    refine yw_istore (lv' := [.ref q, xU, .int v2, .int v3, .int (I (q + 20) ((I (q + 19) v3.toNatClampNeg).toNatClampNeg)), xU]) dX7_combines_51 rfl rfl rfl ?_
    refine xw_iload dX7_combines_53 rfl ?_
    refine xw_ifne (tgt := 61) dX7_combines_55 (by decide) (fun c => ?_) (fun c => ?_)
    · replace k := k.1 c
      refine xw_iconst (v := nI 0) dX7_combines_61 rfl ?_
      refine yw_istore (lv' := [.ref q, xU, .int v2, .int v3, .int (I (q + 20) ((I (q + 19) v3.toNatClampNeg).toNatClampNeg)), .int (nI 0)]) dX7_combines_62 rfl rfl rfl ?_
      exact k
    · replace k := k.2 c
      refine xw_goto (tgt := 154) dX7_combines_58 (by decide) ?_
      refine yw_iinc (lv' := [.ref q, xU, .int v2, .int (v3 + nI 1), .int (I (q + 20) ((I (q + 19) v3.toNatClampNeg).toNatClampNeg)), xU]) (v := nI 1) dX7_combines_154 rfl rfl rfl rfl rfl ?_
      refine xw_goto (tgt := 32) dX7_combines_157 (by decide) ?_
      exact yw_sub (lv' := [.ref q, xU, .int v2, .int (v3 + nI 1), xU, xU]) ⟨Or.inr rfl, Or.inl rfl, Or.inr rfl, Or.inr rfl, Or.inl rfl, Or.inl rfl, trivial⟩ k
theorem bX7_combines_162 {q : Nat} {v3 : Int32} {mc ms : Nat} {Q : Int32 → xHp → Prop} (hW : xLay sh R) (hq : xSpan sh R q)
    (k : (((I q 7) ≤ v3 → Q (nI 1) (sh, I, R)) ∧ (¬ (I q 7) ≤ v3 → vp_in v3 8 ∧ (((I (q + 20) v3.toNatClampNeg) = 0 → Ex mX7_combines 162 [.ref q, xU, xU, .int (v3 + nI 1), xU, xU] [] (sh, I, R) mc ms (xqI Q)) ∧ (¬ (I (q + 20) v3.toNatClampNeg) = 0 → Q (nI 0) (sh, (xi I q 5 v3), R)))))) :
    Ex mX7_combines 162 [.ref q, xU, xU, .int v3, xU, xU] [] (sh, I, R) mc ms (xqI Q) := by
  refine xw_iload_n dX7_combines_162 rfl rfl ?_
  refine xw_aload_n dX7_combines_163 rfl rfl ?_
  refine yw_getI (v := I q 7) dX7_combines_164 fX7_33 rfl hq.1 rfl ?_
  refine xw_icge (tgt := 192) dX7_combines_167 (by decide) (fun c => ?_) (fun c => ?_)
  · replace k := k.1 c
    refine xw_iconst (v := nI 1) dX7_combines_192 rfl ?_
    exact yw_zret dX7_combines_193 rfl (by decide) k
  · replace k := k.2 c
    refine xw_aload_n dX7_combines_170 rfl rfl ?_
    refine yw_getR (r := (q + 20)) dX7_combines_171 fX7_23 rfl hq.1 hq.2.2.2.2.2.1 ?_
    refine xw_iload_n dX7_combines_174 rfl rfl ?_
    obtain ⟨k0, k⟩ := k
    refine yw_iaload (v := I (q + 20) v3.toNatClampNeg) dX7_combines_175 hq.2.2.2.2.2.2.2.2.1 k0 rfl ?_
    refine xw_ifeq (tgt := 186) dX7_combines_176 (by decide) (fun c => ?_) (fun c => ?_)
    · replace k := k.1 c
      refine yw_iinc (lv' := [.ref q, xU, xU, .int (v3 + nI 1), xU, xU]) (v := nI 1) dX7_combines_186 rfl rfl rfl rfl rfl ?_
      refine xw_goto (tgt := 162) dX7_combines_189 (by decide) ?_
      exact k
    · replace k := k.2 c
      refine xw_aload_n dX7_combines_179 rfl rfl ?_
      refine xw_iload_n dX7_combines_180 rfl rfl ?_
      refine yw_putI dX7_combines_181 fX7_57 (fun r h => by cases h; exact Or.inl rfl) rfl hq.1 ?_
      refine xw_iconst (v := nI 0) dX7_combines_184 rfl ?_
      exact yw_zret dX7_combines_185 rfl (by decide) k
theorem bX7_combines_64 {q : Nat} {v2 v3 v4 v5 : Int32} {mc ms : Nat} {Q : Int32 → xHp → Prop} (hW : xLay sh R) (hq : xSpan sh R q)
    (k : (((I q 7) ≤ v5 → Ex mX7_combines 113 [.ref q, xU, .int v2, .int v3, .int v4, .int (nI 0)] [] (sh, I, R) mc ms (xqI Q)) ∧ (¬ (I q 7) ≤ v5 → vp_in v5 8 ∧ vp_in v3 8 ∧ vp_in v5 8 ∧ ¬ v2 = 0 ∧ vp_in v5 8 ∧ Ex mX7_combines 64 [.ref q, xU, .int v2, .int v3, .int v4, .int (v5 + nI 1)] [] (sh, (xi I (q + 20) v5.toNatClampNeg (xrem ((I (q + 20) v5.toNatClampNeg) + ((v2 - v4) * (I ((q + 1) + 1 + v3.toNatClampNeg) v5.toNatClampNeg))) v2)), R) mc ms (xqI Q)))) :
    Ex mX7_combines 64 [.ref q, xU, .int v2, .int v3, .int v4, .int v5] [] (sh, I, R) mc ms (xqI Q) := by
  refine xw_iload dX7_combines_64 rfl ?_
  refine xw_aload_n dX7_combines_66 rfl rfl ?_
  refine yw_getI (v := I q 7) dX7_combines_67 fX7_33 rfl hq.1 rfl ?_
  refine xw_icge (tgt := 110) dX7_combines_70 (by decide) (fun c => ?_) (fun c => ?_)
  · replace k := k.1 c
    refine xw_iconst (v := nI 0) dX7_combines_110 rfl ?_
    refine yw_istore (lv' := [.ref q, xU, .int v2, .int v3, .int v4, .int (nI 0)]) dX7_combines_111 rfl rfl rfl ?_
    exact k
  · replace k := k.2 c
    refine xw_aload_n dX7_combines_73 rfl rfl ?_
    refine yw_getR (r := (q + 20)) dX7_combines_74 fX7_23 rfl hq.1 hq.2.2.2.2.2.1 ?_
    refine xw_iload dX7_combines_77 rfl ?_
    refine xw_aload_n dX7_combines_79 rfl rfl ?_
    refine yw_getR (r := (q + 20)) dX7_combines_80 fX7_23 rfl hq.1 hq.2.2.2.2.2.1 ?_
    refine xw_iload dX7_combines_83 rfl ?_
    obtain ⟨k0, k⟩ := k
    refine yw_iaload (v := I (q + 20) v5.toNatClampNeg) dX7_combines_85 hq.2.2.2.2.2.2.2.2.1 k0 rfl ?_
    refine xw_iload_n dX7_combines_86 rfl rfl ?_
    refine xw_iload dX7_combines_87 rfl ?_
    refine xw_isub dX7_combines_89 ?_
    refine xw_aload_n dX7_combines_90 rfl rfl ?_
    refine yw_getR (r := (q + 1)) dX7_combines_91 fX7_13 rfl hq.1 hq.2.2.1 ?_
    refine xw_iload_n dX7_combines_94 rfl rfl ?_
    obtain ⟨kk1, k⟩ := k
    refine yw_aaload (r := ((q + 1) + 1 + v3.toNatClampNeg)) dX7_combines_95 hq.2.2.2.2.2.2.2.2.2.2.1.1 (by decide) kk1 (hq.2.2.2.2.2.2.2.2.2.2.1.2 _ (vp_lt kk1)).1 ?_
    refine xw_iload dX7_combines_96 rfl ?_
    obtain ⟨k0, k⟩ := k
    refine yw_iaload (v := I ((q + 1) + 1 + v3.toNatClampNeg) v5.toNatClampNeg) dX7_combines_98 (hq.2.2.2.2.2.2.2.2.2.2.1.2 _ (vp_lt kk1)).2 k0 rfl ?_
    refine xw_imul dX7_combines_99 ?_
    refine xw_iadd dX7_combines_100 ?_
    refine xw_iload_n dX7_combines_101 rfl rfl ?_
    obtain ⟨k0, k⟩ := k
    refine yw_irem dX7_combines_102 k0 ?_
    obtain ⟨k0, k⟩ := k
    refine yw_iastore dX7_combines_103 hq.2.2.2.2.2.2.2.2.1 k0 ?_
    refine yw_iinc (lv' := [.ref q, xU, .int v2, .int v3, .int v4, .int (v5 + nI 1)]) (v := nI 1) dX7_combines_104 rfl rfl rfl rfl rfl ?_
    refine xw_goto (tgt := 64) dX7_combines_107 (by decide) ?_
    exact k
theorem bX7_combines_113 {q : Nat} {v2 v3 v4 v5 : Int32} {mc ms : Nat} {Q : Int32 → xHp → Prop} (hW : xLay sh R) (hq : xSpan sh R q)
    (k : ((v3 < v5 → Ex mX7_combines 32 [.ref q, xU, .int v2, .int (v3 + nI 1), xU, xU] [] (sh, I, R) mc ms (xqI Q)) ∧ (¬ v3 < v5 → vp_in v5 8 ∧ vp_in v3 8 ∧ vp_in v5 8 ∧ ¬ v2 = 0 ∧ vp_in v5 8 ∧ Ex mX7_combines 113 [.ref q, xU, .int v2, .int v3, .int v4, .int (v5 + nI 1)] [] (sh, (xi I (q + 21) v5.toNatClampNeg (xrem ((I (q + 21) v5.toNatClampNeg) + (v4 * (I ((q + 10) + 1 + v3.toNatClampNeg) v5.toNatClampNeg))) v2)), R) mc ms (xqI Q)))) :
    Ex mX7_combines 113 [.ref q, xU, .int v2, .int v3, .int v4, .int v5] [] (sh, I, R) mc ms (xqI Q) := by
  refine xw_iload dX7_combines_113 rfl ?_
  refine xw_iload_n dX7_combines_115 rfl rfl ?_
  refine xw_icgt (tgt := 154) dX7_combines_116 (by decide) (fun c => ?_) (fun c => ?_)
  · replace k := k.1 c
    refine yw_iinc (lv' := [.ref q, xU, .int v2, .int (v3 + nI 1), .int v4, .int v5]) (v := nI 1) dX7_combines_154 rfl rfl rfl rfl rfl ?_
    refine xw_goto (tgt := 32) dX7_combines_157 (by decide) ?_
    exact yw_sub (lv' := [.ref q, xU, .int v2, .int (v3 + nI 1), xU, xU]) ⟨Or.inr rfl, Or.inl rfl, Or.inr rfl, Or.inr rfl, Or.inl rfl, Or.inl rfl, trivial⟩ k
  · replace k := k.2 c
    refine xw_aload_n dX7_combines_119 rfl rfl ?_
    refine yw_getR (r := (q + 21)) dX7_combines_120 fX7_26 rfl hq.1 hq.2.2.2.2.2.2.1 ?_
    refine xw_iload dX7_combines_123 rfl ?_
    refine xw_aload_n dX7_combines_125 rfl rfl ?_
    refine yw_getR (r := (q + 21)) dX7_combines_126 fX7_26 rfl hq.1 hq.2.2.2.2.2.2.1 ?_
    refine xw_iload dX7_combines_129 rfl ?_
    obtain ⟨k0, k⟩ := k
    refine yw_iaload (v := I (q + 21) v5.toNatClampNeg) dX7_combines_131 hq.2.2.2.2.2.2.2.2.2.1 k0 rfl ?_
    refine xw_iload dX7_combines_132 rfl ?_
    refine xw_aload_n dX7_combines_134 rfl rfl ?_
    refine yw_getR (r := (q + 10)) dX7_combines_135 fX7_16 rfl hq.1 hq.2.2.2.1 ?_
    refine xw_iload_n dX7_combines_138 rfl rfl ?_
    obtain ⟨kk1, k⟩ := k
    refine yw_aaload (r := ((q + 10) + 1 + v3.toNatClampNeg)) dX7_combines_139 hq.2.2.2.2.2.2.2.2.2.2.2.1 (by decide) kk1 (hq.2.2.2.2.2.2.2.2.2.2.2.2 _ (vp_lt kk1)).1 ?_
    refine xw_iload dX7_combines_140 rfl ?_
    obtain ⟨k0, k⟩ := k
    refine yw_iaload (v := I ((q + 10) + 1 + v3.toNatClampNeg) v5.toNatClampNeg) dX7_combines_142 (hq.2.2.2.2.2.2.2.2.2.2.2.2 _ (vp_lt kk1)).2 k0 rfl ?_
    refine xw_imul dX7_combines_143 ?_
    refine xw_iadd dX7_combines_144 ?_
    refine xw_iload_n dX7_combines_145 rfl rfl ?_
    obtain ⟨k0, k⟩ := k
    refine yw_irem dX7_combines_146 k0 ?_
    obtain ⟨k0, k⟩ := k
    refine yw_iastore dX7_combines_147 hq.2.2.2.2.2.2.2.2.2.1 k0 ?_
    refine yw_iinc (lv' := [.ref q, xU, .int v2, .int v3, .int v4, .int (v5 + nI 1)]) (v := nI 1) dX7_combines_148 rfl rfl rfl rfl rfl ?_
    refine xw_goto (tgt := 113) dX7_combines_151 (by decide) ?_
    exact k
theorem eX7_combines {q a1 : Nat} {h : xHp} {Q : Int32 → xHp → Prop} (k : Ex mX7_combines 0 [.ref q, .ref a1, xU, xU, xU, xU] [] h 0 0 (xqI Q)) : CI mX7_combines [.ref q, .ref a1] h Q := k
theorem bX5_inverse_0 {v1 : Int32} {mc ms : Nat} {Q : Int32 → xHp → Prop} (hW : xLay sh R) 
    (k : Ex mX5_inverse 2 [.ref 1, .int v1, .int (nI 1)] [] (sh, I, R) mc ms (xqI Q)) :
    Ex mX5_inverse 0 [.ref 1, .int v1, xU] [] (sh, I, R) mc ms (xqI Q) := by
  refine xw_iconst (v := nI 1) dX5_inverse_0 rfl ?_
  refine yw_istore_n (lv' := [.ref 1, .int v1, .int (nI 1)]) dX5_inverse_1 rfl rfl rfl rfl ?_
  exact k
theorem bX5_inverse_2 {v1 v2 : Int32} {mc ms : Nat} {Q : Int32 → xHp → Prop} (hW : xLay sh R) 
    (k : (((I 1 0) ≤ v2 → Q (nI 0) (sh, I, R)) ∧ (¬ (I 1 0) ≤ v2 → ¬ I 1 0 = 0 ∧ ((¬ (xrem (v1 * v2) (I 1 0)) = (nI 1) → Ex mX5_inverse 2 [.ref 1, .int v1, .int (v2 + nI 1)] [] (sh, I, R) mc ms (xqI Q)) ∧ ((xrem (v1 * v2) (I 1 0)) = (nI 1) → Q v2 (sh, I, R)))))) :
    Ex mX5_inverse 2 [.ref 1, .int v1, .int v2] [] (sh, I, R) mc ms (xqI Q) := by
  refine xw_iload_n dX5_inverse_2 rfl rfl ?_
  refine xw_aload_n dX5_inverse_3 rfl rfl ?_
  refine yw_getI (v := I 1 0) dX5_inverse_4 fX5_11 rfl (la_1 hW) rfl ?_
  refine xw_icge (tgt := 30) dX5_inverse_7 (by decide) (fun c => ?_) (fun c => ?_)
  · replace k := k.1 c
    refine xw_iconst (v := nI 0) dX5_inverse_30 rfl ?_
    exact yw_iret dX5_inverse_31 rfl k
  · replace k := k.2 c
    refine xw_iload_n dX5_inverse_10 rfl rfl ?_
    refine xw_iload_n dX5_inverse_11 rfl rfl ?_
    refine xw_imul dX5_inverse_12 ?_
    refine xw_aload_n dX5_inverse_13 rfl rfl ?_
    refine yw_getI (v := I 1 0) dX5_inverse_14 fX5_11 rfl (la_1 hW) rfl ?_
    obtain ⟨k0, k⟩ := k
    refine yw_irem dX5_inverse_17 k0 ?_
    refine xw_iconst (v := nI 1) dX5_inverse_18 rfl ?_
    refine xw_icne (tgt := 24) dX5_inverse_19 (by decide) (fun c => ?_) (fun c => ?_)
    · replace k := k.1 c
      refine yw_iinc (lv' := [.ref 1, .int v1, .int (v2 + nI 1)]) (v := nI 1) dX5_inverse_24 rfl rfl rfl rfl rfl ?_
      refine xw_goto (tgt := 2) dX5_inverse_27 (by decide) ?_
      exact k
    · replace k := k.2 c
      refine xw_iload_n dX5_inverse_22 rfl rfl ?_
      exact yw_iret dX5_inverse_23 rfl k
theorem eX5_inverse {v1 : Int32} {h : xHp} {Q : Int32 → xHp → Prop} (k : Ex mX5_inverse 0 [.ref 1, .int v1, xU] [] h 0 0 (xqI Q)) : CI mX5_inverse [.ref 1, .int v1] h Q := k
theorem bX7_admit_0 {a1 na1 q : Nat} {mc ms : Nat} {Q : Int32 → xHp → Prop} (hW : xLay sh R) (hq : xSpan sh R q) (ha1 : sh[a1]? = some (.inr (0, na1)))
    (k : CI mX7_combines [.ref q, .ref a1] (sh, I, R) (fun w h1 => Ex mX7_admit 5 [.ref q, xU, xU, xU, xU] (.int w :: []) h1 mc ms (xqI Q))) :
    Ex mX7_admit 0 [.ref q, .ref a1, xU, xU, xU] [] (sh, I, R) mc ms (xqI Q) := by
  refine xw_aload_n dX7_admit_0 rfl rfl ?_
  refine xw_aload_n dX7_admit_1 rfl rfl ?_
  refine yw_sub (lv' := [.ref q, xU, xU, xU, xU]) ⟨Or.inr rfl, Or.inl rfl, Or.inl rfl, Or.inl rfl, Or.inl rfl, trivial⟩ ?_
  exact yw_cV (As := [.ref a1]) (b := q) (st := []) dX7_admit_2 lX7_60 kiX7_combines kvX7_combines rfl rfl rfl hq.1 rfl (Nat.le_of_ble_eq_true rfl) rfl (xk_I k)
theorem bX7_admit_5 {q : Nat} {s0 : Int32} {mc ms : Nat} {Q : Int32 → xHp → Prop} (hW : xLay sh R) (hq : xSpan sh R q)
    (k : ((¬ s0 = 0 → Q (nI 0) (sh, I, R)) ∧ (s0 = 0 → (((I q 8) < (nI 8) → vp_in (I q 5) 8 ∧ CI mX5_inverse [.ref 1, .int (I (q + 20) ((I q 5).toNatClampNeg))] (sh, I, R) (fun w h1 => Ex mX7_admit 43 [.ref q, xU, .int (I 1 0), xU, xU] (.int w :: []) h1 mc ms (xqI Q))) ∧ (¬ (I q 8) < (nI 8) → Q (nI 0) (sh, I, R)))))) :
    Ex mX7_admit 5 [.ref q, xU, xU, xU, xU] [.int s0] (sh, I, R) mc ms (xqI Q) := by
  refine xw_ifne (tgt := 17) dX7_admit_5 (by decide) (fun c => ?_) (fun c => ?_)
  · replace k := k.1 c
    refine xw_iconst (v := nI 0) dX7_admit_17 rfl ?_
    exact yw_zret dX7_admit_18 rfl (by decide) k
  · replace k := k.2 c
    refine xw_aload_n dX7_admit_8 rfl rfl ?_
    refine yw_getI (v := I q 8) dX7_admit_9 fX7_37 rfl hq.1 rfl ?_
    refine xw_bipush (v := nI 8) dX7_admit_12 (by decide) ?_
    refine xw_iclt (tgt := 19) dX7_admit_14 (by decide) (fun c => ?_) (fun c => ?_)
    · replace k := k.1 c
      refine xw_aload_n dX7_admit_19 rfl rfl ?_
      refine yw_getR (r := 1) dX7_admit_20 fX7_29 rfl hq.1 hq.2.1 ?_
      refine yw_getI (v := I 1 0) dX7_admit_23 fX7_40 rfl (la_1 hW) rfl ?_
      refine yw_istore_n (lv' := [.ref q, xU, .int (I 1 0), xU, xU]) dX7_admit_26 rfl rfl rfl rfl ?_
      refine xw_aload_n dX7_admit_27 rfl rfl ?_
      refine yw_getR (r := 1) dX7_admit_28 fX7_29 rfl hq.1 hq.2.1 ?_
      refine xw_aload_n dX7_admit_31 rfl rfl ?_
      refine yw_getR (r := (q + 20)) dX7_admit_32 fX7_23 rfl hq.1 hq.2.2.2.2.2.1 ?_
      refine xw_aload_n dX7_admit_35 rfl rfl ?_
      refine yw_getI (v := I q 5) dX7_admit_36 fX7_57 rfl hq.1 rfl ?_
      obtain ⟨k0, k⟩ := k
      refine yw_iaload (v := I (q + 20) ((I q 5).toNatClampNeg)) dX7_admit_39 hq.2.2.2.2.2.2.2.2.1 k0 rfl ?_
      exact yw_cV (As := [.int (I (q + 20) ((I q 5).toNatClampNeg))]) (b := 1) (st := []) dX7_admit_40 lX7_64 kiX5_inverse kvX5_inverse rfl rfl rfl (la_1 hW) rfl (Nat.le_of_ble_eq_true rfl) rfl (xk_I k)
    · replace k := k.2 c
      refine xw_iconst (v := nI 0) dX7_admit_17 rfl ?_
      exact yw_zret dX7_admit_18 rfl (by decide) k
theorem bX7_admit_43 {q : Nat} {v2 s0 : Int32} {mc ms : Nat} {Q : Int32 → xHp → Prop} (hW : xLay sh R) (hq : xSpan sh R q)
    (k : vp_in (I q 8) 8 ∧ Ex mX7_admit 60 [.ref q, xU, .int v2, .int s0, .int (nI 0)] [] (sh, (xi I (q + 19) ((I q 8).toNatClampNeg) (I q 5)), R) mc ms (xqI Q)) :
    Ex mX7_admit 43 [.ref q, xU, .int v2, xU, xU] [.int s0] (sh, I, R) mc ms (xqI Q) := by
  refine yw_istore_n (lv' := [.ref q, xU, .int v2, .int s0, xU]) dX7_admit_43 rfl rfl rfl rfl ?_
  refine xw_aload_n dX7_admit_44 rfl rfl ?_
  refine yw_getR (r := (q + 19)) dX7_admit_45 fX7_19 rfl hq.1 hq.2.2.2.2.1 ?_
  refine xw_aload_n dX7_admit_48 rfl rfl ?_
  refine yw_getI (v := I q 8) dX7_admit_49 fX7_37 rfl hq.1 rfl ?_
  refine xw_aload_n dX7_admit_52 rfl rfl ?_
  refine yw_getI (v := I q 5) dX7_admit_53 fX7_57 rfl hq.1 rfl ?_
  obtain ⟨k0, k⟩ := k
  refine yw_iastore dX7_admit_56 hq.2.2.2.2.2.2.2.1 k0 ?_
  refine xw_iconst (v := nI 0) dX7_admit_57 rfl ?_
  refine yw_istore (lv' := [.ref q, xU, .int v2, .int s0, .int (nI 0)]) dX7_admit_58 rfl rfl rfl ?_
  exact k
theorem bX7_admit_60 {q : Nat} {v2 v3 v4 : Int32} {mc ms : Nat} {Q : Int32 → xHp → Prop} (hW : xLay sh R) (hq : xSpan sh R q)
    (k : (((I q 7) ≤ v4 → Ex mX7_admit 101 [.ref q, xU, .int v2, .int v3, .int (nI 0)] [] (sh, I, R) mc ms (xqI Q)) ∧ (¬ (I q 7) ≤ v4 → vp_in (I q 8) 8 ∧ vp_in v4 8 ∧ ¬ v2 = 0 ∧ vp_in v4 8 ∧ Ex mX7_admit 60 [.ref q, xU, .int v2, .int v3, .int (v4 + nI 1)] [] (sh, (xi I ((q + 1) + 1 + (I q 8).toNatClampNeg) v4.toNatClampNeg (xrem ((I (q + 20) v4.toNatClampNeg) * v3) v2)), R) mc ms (xqI Q)))) :
    Ex mX7_admit 60 [.ref q, xU, .int v2, .int v3, .int v4] [] (sh, I, R) mc ms (xqI Q) := by
  refine xw_iload dX7_admit_60 rfl ?_
  refine xw_aload_n dX7_admit_62 rfl rfl ?_
  refine yw_getI (v := I q 7) dX7_admit_63 fX7_33 rfl hq.1 rfl ?_
  refine xw_icge (tgt := 98) dX7_admit_66 (by decide) (fun c => ?_) (fun c => ?_)
  · replace k := k.1 c
    refine xw_iconst (v := nI 0) dX7_admit_98 rfl ?_
    refine yw_istore (lv' := [.ref q, xU, .int v2, .int v3, .int (nI 0)]) dX7_admit_99 rfl rfl rfl ?_
    exact k
  · replace k := k.2 c
    refine xw_aload_n dX7_admit_69 rfl rfl ?_
    refine yw_getR (r := (q + 1)) dX7_admit_70 fX7_13 rfl hq.1 hq.2.2.1 ?_
    refine xw_aload_n dX7_admit_73 rfl rfl ?_
    refine yw_getI (v := I q 8) dX7_admit_74 fX7_37 rfl hq.1 rfl ?_
    obtain ⟨kk1, k⟩ := k
    refine yw_aaload (r := ((q + 1) + 1 + (I q 8).toNatClampNeg)) dX7_admit_77 hq.2.2.2.2.2.2.2.2.2.2.1.1 (by decide) kk1 (hq.2.2.2.2.2.2.2.2.2.2.1.2 _ (vp_lt kk1)).1 ?_
    refine xw_iload dX7_admit_78 rfl ?_
    refine xw_aload_n dX7_admit_80 rfl rfl ?_
    refine yw_getR (r := (q + 20)) dX7_admit_81 fX7_23 rfl hq.1 hq.2.2.2.2.2.1 ?_
    refine xw_iload dX7_admit_84 rfl ?_
    obtain ⟨k0, k⟩ := k
    refine yw_iaload (v := I (q + 20) v4.toNatClampNeg) dX7_admit_86 hq.2.2.2.2.2.2.2.2.1 k0 rfl ?_
    refine xw_iload_n dX7_admit_87 rfl rfl ?_
    refine xw_imul dX7_admit_88 ?_
    refine xw_iload_n dX7_admit_89 rfl rfl ?_
    obtain ⟨k0, k⟩ := k
    refine yw_irem dX7_admit_90 k0 ?_
    obtain ⟨k0, k⟩ := k
    refine yw_iastore dX7_admit_91 (hq.2.2.2.2.2.2.2.2.2.2.1.2 _ (vp_lt kk1)).2 k0 ?_
    refine yw_iinc (lv' := [.ref q, xU, .int v2, .int v3, .int (v4 + nI 1)]) (v := nI 1) dX7_admit_92 rfl rfl rfl rfl rfl ?_
    refine xw_goto (tgt := 60) dX7_admit_95 (by decide) ?_
    exact k
theorem bX7_admit_101 {q : Nat} {v2 v3 v4 : Int32} {mc ms : Nat} {Q : Int32 → xHp → Prop} (hW : xLay sh R) (hq : xSpan sh R q)
    (k : (((I q 8) ≤ v4 → vp_in (I q 8) 8 ∧ vp_in (I q 8) 8 ∧ Q (nI 1) (sh, (xi (xi I ((q + 10) + 1 + (I q 8).toNatClampNeg) ((I q 8).toNatClampNeg) v3) q 8 (((xi I ((q + 10) + 1 + (I q 8).toNatClampNeg) ((I q 8).toNatClampNeg) v3) q 8) + (nI 1))), R)) ∧ (¬ (I q 8) ≤ v4 → vp_in (I q 8) 8 ∧ vp_in v4 8 ∧ ¬ v2 = 0 ∧ vp_in v4 8 ∧ Ex mX7_admit 101 [.ref q, xU, .int v2, .int v3, .int (v4 + nI 1)] [] (sh, (xi I ((q + 10) + 1 + (I q 8).toNatClampNeg) v4.toNatClampNeg (xrem ((v2 - (I (q + 21) v4.toNatClampNeg)) * v3) v2)), R) mc ms (xqI Q)))) :
    Ex mX7_admit 101 [.ref q, xU, .int v2, .int v3, .int v4] [] (sh, I, R) mc ms (xqI Q) := by
  refine xw_iload dX7_admit_101 rfl ?_
  refine xw_aload_n dX7_admit_103 rfl rfl ?_
  refine yw_getI (v := I q 8) dX7_admit_104 fX7_37 rfl hq.1 rfl ?_
  refine xw_icge (tgt := 141) dX7_admit_107 (by decide) (fun c => ?_) (fun c => ?_)
  · replace k := k.1 c
    refine xw_aload_n dX7_admit_141 rfl rfl ?_
    refine yw_getR (r := (q + 10)) dX7_admit_142 fX7_16 rfl hq.1 hq.2.2.2.1 ?_
    refine xw_aload_n dX7_admit_145 rfl rfl ?_
    refine yw_getI (v := I q 8) dX7_admit_146 fX7_37 rfl hq.1 rfl ?_
    obtain ⟨kk1, k⟩ := k
    refine yw_aaload (r := ((q + 10) + 1 + (I q 8).toNatClampNeg)) dX7_admit_149 hq.2.2.2.2.2.2.2.2.2.2.2.1 (by decide) kk1 (hq.2.2.2.2.2.2.2.2.2.2.2.2 _ (vp_lt kk1)).1 ?_
    refine xw_aload_n dX7_admit_150 rfl rfl ?_
    refine yw_getI (v := I q 8) dX7_admit_151 fX7_37 rfl hq.1 rfl ?_
    refine xw_iload_n dX7_admit_154 rfl rfl ?_
    obtain ⟨k0, k⟩ := k
    refine yw_iastore dX7_admit_155 (hq.2.2.2.2.2.2.2.2.2.2.2.2 _ (vp_lt kk1)).2 k0 ?_
    refine xw_aload_n dX7_admit_156 rfl rfl ?_
    refine xw_dup dX7_admit_157 rfl ?_
    refine yw_getI (v := (xi I ((q + 10) + 1 + (I q 8).toNatClampNeg) ((I q 8).toNatClampNeg) v3) q 8) dX7_admit_158 fX7_37 rfl hq.1 rfl ?_
    refine xw_iconst (v := nI 1) dX7_admit_161 rfl ?_
    refine xw_iadd dX7_admit_162 ?_
    refine yw_putI dX7_admit_163 fX7_37 (fun r h => by cases h; exact Or.inl rfl) rfl hq.1 ?_
    refine xw_iconst (v := nI 1) dX7_admit_166 rfl ?_
    exact yw_zret dX7_admit_167 rfl (by decide) k
  · replace k := k.2 c
    refine xw_aload_n dX7_admit_110 rfl rfl ?_
    refine yw_getR (r := (q + 10)) dX7_admit_111 fX7_16 rfl hq.1 hq.2.2.2.1 ?_
    refine xw_aload_n dX7_admit_114 rfl rfl ?_
    refine yw_getI (v := I q 8) dX7_admit_115 fX7_37 rfl hq.1 rfl ?_
    obtain ⟨kk2, k⟩ := k
    refine yw_aaload (r := ((q + 10) + 1 + (I q 8).toNatClampNeg)) dX7_admit_118 hq.2.2.2.2.2.2.2.2.2.2.2.1 (by decide) kk2 (hq.2.2.2.2.2.2.2.2.2.2.2.2 _ (vp_lt kk2)).1 ?_
    refine xw_iload dX7_admit_119 rfl ?_
    refine xw_iload_n dX7_admit_121 rfl rfl ?_
    refine xw_aload_n dX7_admit_122 rfl rfl ?_
    refine yw_getR (r := (q + 21)) dX7_admit_123 fX7_26 rfl hq.1 hq.2.2.2.2.2.2.1 ?_
    refine xw_iload dX7_admit_126 rfl ?_
    obtain ⟨k0, k⟩ := k
    refine yw_iaload (v := I (q + 21) v4.toNatClampNeg) dX7_admit_128 hq.2.2.2.2.2.2.2.2.2.1 k0 rfl ?_
    refine xw_isub dX7_admit_129 ?_
    refine xw_iload_n dX7_admit_130 rfl rfl ?_
    refine xw_imul dX7_admit_131 ?_
    refine xw_iload_n dX7_admit_132 rfl rfl ?_
    obtain ⟨k0, k⟩ := k
    refine yw_irem dX7_admit_133 k0 ?_
    obtain ⟨k0, k⟩ := k
    refine yw_iastore dX7_admit_134 (hq.2.2.2.2.2.2.2.2.2.2.2.2 _ (vp_lt kk2)).2 k0 ?_
    refine yw_iinc (lv' := [.ref q, xU, .int v2, .int v3, .int (v4 + nI 1)]) (v := nI 1) dX7_admit_135 rfl rfl rfl rfl rfl ?_
    refine xw_goto (tgt := 101) dX7_admit_138 (by decide) ?_
    exact k
theorem eX7_admit {q a1 : Nat} {h : xHp} {Q : Int32 → xHp → Prop} (k : Ex mX7_admit 0 [.ref q, .ref a1, xU, xU, xU] [] h 0 0 (xqI Q)) : CI mX7_admit [.ref q, .ref a1] h Q := k
theorem bX3_backward_0 {a1 na1 a3 na3 q M : Nat} {v2 : Int32} {mc ms : Nat} {Q : xHp → Prop} (hW : xLay sh R) (hq : xMach sh R q M) (ha1 : sh[a1]? = some (.inr (0, na1))) (ha3 : sh[a3]? = some (.inr (0, na3)))
    (k : Ex mX3_backward 3 [.ref q, .ref a1, .int v2, .ref a3, .int (nI 0), xU, xU, xU] [] (sh, I, R) mc ms (xqV Q)) :
    Ex mX3_backward 0 [.ref q, .ref a1, .int v2, .ref a3, xU, xU, xU, xU] [] (sh, I, R) mc ms (xqV Q) := by
  refine xw_iconst (v := nI 0) dX3_backward_0 rfl ?_
  refine yw_istore (lv' := [.ref q, .ref a1, .int v2, .ref a3, .int (nI 0), xU, xU, xU]) dX3_backward_1 rfl rfl rfl ?_
  exact k
theorem bX3_backward_3 {a1 na1 a3 na3 q M : Nat} {v2 v4 : Int32} {mc ms : Nat} {Q : xHp → Prop} (hW : xLay sh R) (hq : xMach sh R q M) (ha1 : sh[a1]? = some (.inr (0, na1))) (ha3 : sh[a3]? = some (.inr (0, na3)))
    (k : (((I q 2) ≤ v4 → Q (sh, I, R)) ∧ (¬ (I q 2) ≤ v4 → CI mX3_at [.ref q, .int v4, .int v2, .int (nI 0)] (sh, I, R) (fun w h1 => Ex mX3_backward 23 [.ref q, .ref a1, .int v2, .ref a3, .int v4, .int (nI 0), xU, xU] (.int w :: []) h1 mc ms (xqV Q))))) :
    Ex mX3_backward 3 [.ref q, .ref a1, .int v2, .ref a3, .int v4, xU, xU, xU] [] (sh, I, R) mc ms (xqV Q) := by
  refine xw_iload dX3_backward_3 rfl ?_
  refine xw_aload_n dX3_backward_5 rfl rfl ?_
  refine yw_getI (v := I q 2) dX3_backward_6 fX3_31 rfl hq.1 rfl ?_
  refine xw_icge (tgt := 83) dX3_backward_9 (by decide) (fun c => ?_) (fun c => ?_)
  · replace k := k.1 c
    exact yw_vret dX3_backward_83 rfl k
  · replace k := k.2 c
    refine xw_iconst (v := nI 0) dX3_backward_12 rfl ?_
    refine yw_istore (lv' := [.ref q, .ref a1, .int v2, .ref a3, .int v4, .int (nI 0), xU, xU]) dX3_backward_13 rfl rfl rfl ?_
    refine xw_aload_n dX3_backward_15 rfl rfl ?_
    refine xw_iload dX3_backward_16 rfl ?_
    refine xw_iload_n dX3_backward_18 rfl rfl ?_
    refine xw_iconst (v := nI 0) dX3_backward_19 rfl ?_
    exact yw_cV (As := [.int v4, .int v2, .int (nI 0)]) (b := q) (st := []) dX3_backward_20 lX3_56 kiX3_at kvX3_at rfl rfl rfl hq.1 rfl (Nat.le_of_ble_eq_true rfl) rfl (xk_I k)
theorem bX3_backward_23 {a1 na1 a3 na3 q M : Nat} {v2 v4 v5 s0 : Int32} {mc ms : Nat} {Q : xHp → Prop} (hW : xLay sh R) (hq : xMach sh R q M) (ha1 : sh[a1]? = some (.inr (0, na1))) (ha3 : sh[a3]? = some (.inr (0, na3)))
    (k : Ex mX3_backward 28 [.ref q, .ref a1, .int v2, .ref a3, .int v4, .int v5, .int s0, .int (nI 0)] [] (sh, I, R) mc ms (xqV Q)) :
    Ex mX3_backward 23 [.ref q, .ref a1, .int v2, .ref a3, .int v4, .int v5, xU, xU] [.int s0] (sh, I, R) mc ms (xqV Q) := by
  refine yw_istore (lv' := [.ref q, .ref a1, .int v2, .ref a3, .int v4, .int v5, .int s0, xU]) dX3_backward_23 rfl rfl rfl ?_
  refine xw_iconst (v := nI 0) dX3_backward_25 rfl ?_
  refine yw_istore (lv' := [.ref q, .ref a1, .int v2, .ref a3, .int v4, .int v5, .int s0, .int (nI 0)]) dX3_backward_26 rfl rfl rfl ?_
  exact k
theorem bX3_backward_28 {a1 na1 a3 na3 q M : Nat} {v2 v4 v5 v6 v7 : Int32} {mc ms : Nat} {Q : xHp → Prop} (hW : xLay sh R) (hq : xMach sh R q M) (ha1 : sh[a1]? = some (.inr (0, na1))) (ha3 : sh[a3]? = some (.inr (0, na3)))
    (k : (((I q 2) ≤ v7 → ¬ I 1 0 = 0 ∧ vp_in v4 na3 ∧ Ex mX3_backward 3 [.ref q, .ref a1, .int v2, .ref a3, .int (v4 + nI 1), xU, xU, xU] [] (sh, (xi I a3 v4.toNatClampNeg (xrem v5 (I 1 0))), R) mc ms (xqV Q)) ∧ (¬ (I q 2) ≤ v7 → vp_in (v6 + v7) (M * 3 * M) ∧ vp_in v7 na1 ∧ Ex mX3_backward 28 [.ref q, .ref a1, .int v2, .ref a3, .int v4, .int (v5 + ((I (q + 3) ((v6 + v7).toNatClampNeg)) * (I a1 v7.toNatClampNeg))), .int v6, .int (v7 + nI 1)] [] (sh, I, R) mc ms (xqV Q)))) :
    Ex mX3_backward 28 [.ref q, .ref a1, .int v2, .ref a3, .int v4, .int v5, .int v6, .int v7] [] (sh, I, R) mc ms (xqV Q) := by
  refine xw_iload dX3_backward_28 rfl ?_
  refine xw_aload_n dX3_backward_30 rfl rfl ?_
  refine yw_getI (v := I q 2) dX3_backward_31 fX3_31 rfl hq.1 rfl ?_
  refine xw_icge (tgt := 63) dX3_backward_34 (by decide) (fun c => ?_) (fun c => ?_)
  · replace k := k.1 c
    refine xw_aload_n dX3_backward_63 rfl rfl ?_
    refine xw_iload dX3_backward_64 rfl ?_
    refine xw_iload dX3_backward_66 rfl ?_
    refine xw_aload_n dX3_backward_68 rfl rfl ?_
    refine yw_getR (r := 1) dX3_backward_69 fX3_9 rfl hq.1 hq.2.2.2.2.1 ?_
    refine yw_getI (v := I 1 0) dX3_backward_72 fX3_48 rfl (la_1 hW) rfl ?_
    obtain ⟨k0, k⟩ := k
    refine yw_irem dX3_backward_75 k0 ?_
    obtain ⟨k0, k⟩ := k
    refine yw_iastore dX3_backward_76 ha3 k0 ?_
    refine yw_iinc (lv' := [.ref q, .ref a1, .int v2, .ref a3, .int (v4 + nI 1), .int v5, .int v6, .int v7]) (v := nI 1) dX3_backward_77 rfl rfl rfl rfl rfl ?_
    refine xw_goto (tgt := 3) dX3_backward_80 (by decide) ?_
    exact yw_sub (lv' := [.ref q, .ref a1, .int v2, .ref a3, .int (v4 + nI 1), xU, xU, xU]) ⟨Or.inr rfl, Or.inr rfl, Or.inr rfl, Or.inr rfl, Or.inr rfl, Or.inl rfl, Or.inl rfl, Or.inl rfl, trivial⟩ k
  · replace k := k.2 c
    refine xw_iload dX3_backward_37 rfl ?_
    refine xw_aload_n dX3_backward_39 rfl rfl ?_
    refine yw_getR (r := (q + 3)) dX3_backward_40 fX3_28 rfl hq.1 hq.2.2.2.2.2.2.2 ?_
    refine xw_iload dX3_backward_43 rfl ?_
    refine xw_iload dX3_backward_45 rfl ?_
    refine xw_iadd dX3_backward_47 ?_
    obtain ⟨k0, k⟩ := k
    refine yw_iaload (v := I (q + 3) ((v6 + v7).toNatClampNeg)) dX3_backward_48 hq.2.2.2.1 k0 rfl ?_
    refine xw_aload_n dX3_backward_49 rfl rfl ?_
    refine xw_iload dX3_backward_50 rfl ?_
    obtain ⟨k0, k⟩ := k
    refine yw_iaload (v := I a1 v7.toNatClampNeg) dX3_backward_52 ha1 k0 rfl ?_
    refine xw_imul dX3_backward_53 ?_
    refine xw_iadd dX3_backward_54 ?_
    refine yw_istore (lv' := [.ref q, .ref a1, .int v2, .ref a3, .int v4, .int (v5 + ((I (q + 3) ((v6 + v7).toNatClampNeg)) * (I a1 v7.toNatClampNeg))), .int v6, .int v7]) dX3_backward_55 rfl rfl rfl ?_
    refine yw_iinc (lv' := [.ref q, .ref a1, .int v2, .ref a3, .int v4, .int (v5 + ((I (q + 3) ((v6 + v7).toNatClampNeg)) * (I a1 v7.toNatClampNeg))), .int v6, .int (v7 + nI 1)]) (v := nI 1) dX3_backward_57 rfl rfl rfl rfl rfl ?_
    refine xw_goto (tgt := 28) dX3_backward_60 (by decide) ?_
    exact k
theorem eX3_backward {q a1 a3 : Nat} {v2 : Int32} {h : xHp} {Q : xHp → Prop} (k : Ex mX3_backward 0 [.ref q, .ref a1, .int v2, .ref a3, xU, xU, xU, xU] [] h 0 0 (xqV Q)) : CV mX3_backward [.ref q, .ref a1, .int v2, .ref a3] h Q := k
theorem bX3_product_0 {a1 na1 a2 na2 q M : Nat} {mc ms : Nat} {Q : Int32 → xHp → Prop} (hW : xLay sh R) (hq : xMach sh R q M) (ha1 : sh[a1]? = some (.inr (0, na1))) (ha2 : sh[a2]? = some (.inr (0, na2)))
    (k : Ex mX3_product 5 [.ref q, .ref a1, .ref a2, .int (nI 0), .int (nI 0)] [] (sh, I, R) mc ms (xqI Q)) :
    Ex mX3_product 0 [.ref q, .ref a1, .ref a2, xU, xU] [] (sh, I, R) mc ms (xqI Q) := by
  refine xw_iconst (v := nI 0) dX3_product_0 rfl ?_
  refine yw_istore_n (lv' := [.ref q, .ref a1, .ref a2, .int (nI 0), xU]) dX3_product_1 rfl rfl rfl rfl ?_
  refine xw_iconst (v := nI 0) dX3_product_2 rfl ?_
  refine yw_istore (lv' := [.ref q, .ref a1, .ref a2, .int (nI 0), .int (nI 0)]) dX3_product_3 rfl rfl rfl ?_
  exact k
theorem bX3_product_5 {a1 na1 a2 na2 q M : Nat} {v3 v4 : Int32} {mc ms : Nat} {Q : Int32 → xHp → Prop} (hW : xLay sh R) (hq : xMach sh R q M) (ha1 : sh[a1]? = some (.inr (0, na1))) (ha2 : sh[a2]? = some (.inr (0, na2)))
    (k : (((I q 2) ≤ v4 → ¬ I 1 0 = 0 ∧ Q (xrem v3 (I 1 0)) (sh, I, R)) ∧ (¬ (I q 2) ≤ v4 → vp_in v4 na1 ∧ vp_in v4 na2 ∧ Ex mX3_product 5 [.ref q, .ref a1, .ref a2, .int (v3 + ((I a1 v4.toNatClampNeg) * (I a2 v4.toNatClampNeg))), .int (v4 + nI 1)] [] (sh, I, R) mc ms (xqI Q)))) :
    Ex mX3_product 5 [.ref q, .ref a1, .ref a2, .int v3, .int v4] [] (sh, I, R) mc ms (xqI Q) := by
  refine xw_iload dX3_product_5 rfl ?_
  refine xw_aload_n dX3_product_7 rfl rfl ?_
  refine yw_getI (v := I q 2) dX3_product_8 fX3_31 rfl hq.1 rfl ?_
  refine xw_icge (tgt := 32) dX3_product_11 (by decide) (fun c => ?_) (fun c => ?_)
  · replace k := k.1 c
    refine xw_iload_n dX3_product_32 rfl rfl ?_
    refine xw_aload_n dX3_product_33 rfl rfl ?_
    refine yw_getR (r := 1) dX3_product_34 fX3_9 rfl hq.1 hq.2.2.2.2.1 ?_
    refine yw_getI (v := I 1 0) dX3_product_37 fX3_48 rfl (la_1 hW) rfl ?_
    obtain ⟨k0, k⟩ := k
    refine yw_irem dX3_product_40 k0 ?_
    exact yw_iret dX3_product_41 rfl k
  · replace k := k.2 c
    refine xw_iload_n dX3_product_14 rfl rfl ?_
    refine xw_aload_n dX3_product_15 rfl rfl ?_
    refine xw_iload dX3_product_16 rfl ?_
    obtain ⟨k0, k⟩ := k
    refine yw_iaload (v := I a1 v4.toNatClampNeg) dX3_product_18 ha1 k0 rfl ?_
    refine xw_aload_n dX3_product_19 rfl rfl ?_
    refine xw_iload dX3_product_20 rfl ?_
    obtain ⟨k0, k⟩ := k
    refine yw_iaload (v := I a2 v4.toNatClampNeg) dX3_product_22 ha2 k0 rfl ?_
    refine xw_imul dX3_product_23 ?_
    refine xw_iadd dX3_product_24 ?_
    refine yw_istore_n (lv' := [.ref q, .ref a1, .ref a2, .int (v3 + ((I a1 v4.toNatClampNeg) * (I a2 v4.toNatClampNeg))), .int v4]) dX3_product_25 rfl rfl rfl rfl ?_
    refine yw_iinc (lv' := [.ref q, .ref a1, .ref a2, .int (v3 + ((I a1 v4.toNatClampNeg) * (I a2 v4.toNatClampNeg))), .int (v4 + nI 1)]) (v := nI 1) dX3_product_26 rfl rfl rfl rfl rfl ?_
    refine xw_goto (tgt := 5) dX3_product_29 (by decide) ?_
    exact k
theorem eX3_product {q a1 a2 : Nat} {h : xHp} {Q : Int32 → xHp → Prop} (k : Ex mX3_product 0 [.ref q, .ref a1, .ref a2, xU, xU] [] h 0 0 (xqI Q)) : CI mX3_product [.ref q, .ref a1, .ref a2] h Q := k
theorem bX3_forward_0 {a1 na1 a3 na3 q M : Nat} {v2 : Int32} {mc ms : Nat} {Q : xHp → Prop} (hW : xLay sh R) (hq : xMach sh R q M) (ha1 : sh[a1]? = some (.inr (0, na1))) (ha3 : sh[a3]? = some (.inr (0, na3)))
    (k : Ex mX3_forward 3 [.ref q, .ref a1, .int v2, .ref a3, .int (nI 0), xU, xU, xU] [] (sh, I, R) mc ms (xqV Q)) :
    Ex mX3_forward 0 [.ref q, .ref a1, .int v2, .ref a3, xU, xU, xU, xU] [] (sh, I, R) mc ms (xqV Q) := by
  refine xw_iconst (v := nI 0) dX3_forward_0 rfl ?_
  refine yw_istore (lv' := [.ref q, .ref a1, .int v2, .ref a3, .int (nI 0), xU, xU, xU]) dX3_forward_1 rfl rfl rfl ?_
  exact k
theorem bX3_forward_3 {a1 na1 a3 na3 q M : Nat} {v2 v4 : Int32} {mc ms : Nat} {Q : xHp → Prop} (hW : xLay sh R) (hq : xMach sh R q M) (ha1 : sh[a1]? = some (.inr (0, na1))) (ha3 : sh[a3]? = some (.inr (0, na3)))
    (k : (((I q 2) ≤ v4 → Q (sh, I, R)) ∧ (¬ (I q 2) ≤ v4 → CI mX3_at [.ref q, .int (nI 0), .int v2, .int v4] (sh, I, R) (fun w h1 => Ex mX3_forward 23 [.ref q, .ref a1, .int v2, .ref a3, .int v4, .int (nI 0), xU, xU] (.int w :: []) h1 mc ms (xqV Q))))) :
    Ex mX3_forward 3 [.ref q, .ref a1, .int v2, .ref a3, .int v4, xU, xU, xU] [] (sh, I, R) mc ms (xqV Q) := by
  refine xw_iload dX3_forward_3 rfl ?_
  refine xw_aload_n dX3_forward_5 rfl rfl ?_
  refine yw_getI (v := I q 2) dX3_forward_6 fX3_31 rfl hq.1 rfl ?_
  refine xw_icge (tgt := 91) dX3_forward_9 (by decide) (fun c => ?_) (fun c => ?_)
  · replace k := k.1 c
    exact yw_vret dX3_forward_91 rfl k
  · replace k := k.2 c
    refine xw_iconst (v := nI 0) dX3_forward_12 rfl ?_
    refine yw_istore (lv' := [.ref q, .ref a1, .int v2, .ref a3, .int v4, .int (nI 0), xU, xU]) dX3_forward_13 rfl rfl rfl ?_
    refine xw_aload_n dX3_forward_15 rfl rfl ?_
    refine xw_iconst (v := nI 0) dX3_forward_16 rfl ?_
    refine xw_iload_n dX3_forward_17 rfl rfl ?_
    refine xw_iload dX3_forward_18 rfl ?_
    exact yw_cV (As := [.int (nI 0), .int v2, .int v4]) (b := q) (st := []) dX3_forward_20 lX3_56 kiX3_at kvX3_at rfl rfl rfl hq.1 rfl (Nat.le_of_ble_eq_true rfl) rfl (xk_I k)
theorem bX3_forward_23 {a1 na1 a3 na3 q M : Nat} {v2 v4 v5 s0 : Int32} {mc ms : Nat} {Q : xHp → Prop} (hW : xLay sh R) (hq : xMach sh R q M) (ha1 : sh[a1]? = some (.inr (0, na1))) (ha3 : sh[a3]? = some (.inr (0, na3)))
    (k : Ex mX3_forward 28 [.ref q, .ref a1, .int v2, .ref a3, .int v4, .int v5, .int s0, .int (nI 0)] [] (sh, I, R) mc ms (xqV Q)) :
    Ex mX3_forward 23 [.ref q, .ref a1, .int v2, .ref a3, .int v4, .int v5, xU, xU] [.int s0] (sh, I, R) mc ms (xqV Q) := by
  refine yw_istore (lv' := [.ref q, .ref a1, .int v2, .ref a3, .int v4, .int v5, .int s0, xU]) dX3_forward_23 rfl rfl rfl ?_
  refine xw_iconst (v := nI 0) dX3_forward_25 rfl ?_
  refine yw_istore (lv' := [.ref q, .ref a1, .int v2, .ref a3, .int v4, .int v5, .int s0, .int (nI 0)]) dX3_forward_26 rfl rfl rfl ?_
  exact k
theorem bX3_forward_28 {a1 na1 a3 na3 q M : Nat} {v2 v4 v5 v6 v7 : Int32} {mc ms : Nat} {Q : xHp → Prop} (hW : xLay sh R) (hq : xMach sh R q M) (ha1 : sh[a1]? = some (.inr (0, na1))) (ha3 : sh[a3]? = some (.inr (0, na3)))
    (k : (((I q 2) ≤ v7 → ¬ I 1 0 = 0 ∧ vp_in v4 na3 ∧ Ex mX3_forward 3 [.ref q, .ref a1, .int v2, .ref a3, .int (v4 + nI 1), xU, xU, xU] [] (sh, (xi I a3 v4.toNatClampNeg (xrem v5 (I 1 0))), R) mc ms (xqV Q)) ∧ (¬ (I q 2) ≤ v7 → vp_in v7 na1 ∧ vp_in v6 (M * 3 * M) ∧ Ex mX3_forward 28 [.ref q, .ref a1, .int v2, .ref a3, .int v4, .int (v5 + ((I a1 v7.toNatClampNeg) * (I (q + 3) v6.toNatClampNeg))), .int (v6 + ((nI 3) * (I q 1))), .int (v7 + nI 1)] [] (sh, I, R) mc ms (xqV Q)))) :
    Ex mX3_forward 28 [.ref q, .ref a1, .int v2, .ref a3, .int v4, .int v5, .int v6, .int v7] [] (sh, I, R) mc ms (xqV Q) := by
  refine xw_iload dX3_forward_28 rfl ?_
  refine xw_aload_n dX3_forward_30 rfl rfl ?_
  refine yw_getI (v := I q 2) dX3_forward_31 fX3_31 rfl hq.1 rfl ?_
  refine xw_icge (tgt := 71) dX3_forward_34 (by decide) (fun c => ?_) (fun c => ?_)
  · replace k := k.1 c
    refine xw_aload_n dX3_forward_71 rfl rfl ?_
    refine xw_iload dX3_forward_72 rfl ?_
    refine xw_iload dX3_forward_74 rfl ?_
    refine xw_aload_n dX3_forward_76 rfl rfl ?_
    refine yw_getR (r := 1) dX3_forward_77 fX3_9 rfl hq.1 hq.2.2.2.2.1 ?_
    refine yw_getI (v := I 1 0) dX3_forward_80 fX3_48 rfl (la_1 hW) rfl ?_
    obtain ⟨k0, k⟩ := k
    refine yw_irem dX3_forward_83 k0 ?_
    obtain ⟨k0, k⟩ := k
    refine yw_iastore dX3_forward_84 ha3 k0 ?_
    refine yw_iinc (lv' := [.ref q, .ref a1, .int v2, .ref a3, .int (v4 + nI 1), .int v5, .int v6, .int v7]) (v := nI 1) dX3_forward_85 rfl rfl rfl rfl rfl ?_
    refine xw_goto (tgt := 3) dX3_forward_88 (by decide) ?_
    exact yw_sub (lv' := [.ref q, .ref a1, .int v2, .ref a3, .int (v4 + nI 1), xU, xU, xU]) ⟨Or.inr rfl, Or.inr rfl, Or.inr rfl, Or.inr rfl, Or.inr rfl, Or.inl rfl, Or.inl rfl, Or.inl rfl, trivial⟩ k
  · replace k := k.2 c
    refine xw_iload dX3_forward_37 rfl ?_
    refine xw_aload_n dX3_forward_39 rfl rfl ?_
    refine xw_iload dX3_forward_40 rfl ?_
    obtain ⟨k0, k⟩ := k
    refine yw_iaload (v := I a1 v7.toNatClampNeg) dX3_forward_42 ha1 k0 rfl ?_
    refine xw_aload_n dX3_forward_43 rfl rfl ?_
    refine yw_getR (r := (q + 3)) dX3_forward_44 fX3_28 rfl hq.1 hq.2.2.2.2.2.2.2 ?_
    refine xw_iload dX3_forward_47 rfl ?_
    obtain ⟨k0, k⟩ := k
    refine yw_iaload (v := I (q + 3) v6.toNatClampNeg) dX3_forward_49 hq.2.2.2.1 k0 rfl ?_
    refine xw_imul dX3_forward_50 ?_
    refine xw_iadd dX3_forward_51 ?_
    refine yw_istore (lv' := [.ref q, .ref a1, .int v2, .ref a3, .int v4, .int (v5 + ((I a1 v7.toNatClampNeg) * (I (q + 3) v6.toNatClampNeg))), .int v6, .int v7]) dX3_forward_52 rfl rfl rfl ?_
    refine xw_iload dX3_forward_54 rfl ?_
    refine xw_iconst (v := nI 3) dX3_forward_56 rfl ?_
    refine xw_aload_n dX3_forward_57 rfl rfl ?_
    refine yw_getI (v := I q 1) dX3_forward_58 fX3_17 rfl hq.1 rfl ?_
    refine xw_imul dX3_forward_61 ?_
    refine xw_iadd dX3_forward_62 ?_
    refine yw_istore (lv' := [.ref q, .ref a1, .int v2, .ref a3, .int v4, .int (v5 + ((I a1 v7.toNatClampNeg) * (I (q + 3) v6.toNatClampNeg))), .int (v6 + ((nI 3) * (I q 1))), .int v7]) dX3_forward_63 rfl rfl rfl ?_
    refine yw_iinc (lv' := [.ref q, .ref a1, .int v2, .ref a3, .int v4, .int (v5 + ((I a1 v7.toNatClampNeg) * (I (q + 3) v6.toNatClampNeg))), .int (v6 + ((nI 3) * (I q 1))), .int (v7 + nI 1)]) (v := nI 1) dX3_forward_65 rfl rfl rfl rfl rfl ?_
    refine xw_goto (tgt := 28) dX3_forward_68 (by decide) ?_
    exact k
theorem eX3_forward {q a1 a3 : Nat} {v2 : Int32} {h : xHp} {Q : xHp → Prop} (k : Ex mX3_forward 0 [.ref q, .ref a1, .int v2, .ref a3, xU, xU, xU, xU] [] h 0 0 (xqV Q)) : CV mX3_forward [.ref q, .ref a1, .int v2, .ref a3] h Q := k
theorem bX5_withLetter_0 {v1 v2 : Int32} {mc ms : Nat} {Q : Int32 → xHp → Prop} (hW : xLay sh R) 
    (k : Q (((v1 * (I 1 1)) + v2) + (nI 1)) (sh, I, R)) :
    Ex mX5_withLetter 0 [.ref 1, .int v1, .int v2] [] (sh, I, R) mc ms (xqI Q) := by
  refine xw_iload_n dX5_withLetter_0 rfl rfl ?_
  refine xw_aload_n dX5_withLetter_1 rfl rfl ?_
  refine yw_getI (v := I 1 1) dX5_withLetter_2 fX5_15 rfl (la_1 hW) rfl ?_
  refine xw_imul dX5_withLetter_5 ?_
  refine xw_iload_n dX5_withLetter_6 rfl rfl ?_
  refine xw_iadd dX5_withLetter_7 ?_
  refine xw_iconst (v := nI 1) dX5_withLetter_8 rfl ?_
  refine xw_iadd dX5_withLetter_9 ?_
  exact yw_iret dX5_withLetter_10 rfl k
theorem eX5_withLetter {v1 : Int32} {v2 : Int32} {h : xHp} {Q : Int32 → xHp → Prop} (k : Ex mX5_withLetter 0 [.ref 1, .int v1, .int v2] [] h 0 0 (xqI Q)) : CI mX5_withLetter [.ref 1, .int v1, .int v2] h Q := k
theorem bX5_withoutLast_0 {v1 : Int32} {mc ms : Nat} {Q : Int32 → xHp → Prop} (hW : xLay sh R) 
    (k : ((v1 ≤ 0 → Q (nI 0) (sh, I, R)) ∧ (¬ v1 ≤ 0 → ¬ I 1 1 = 0 ∧ Q ((v1 - (nI 1)) / (I 1 1)) (sh, I, R)))) :
    Ex mX5_withoutLast 0 [.ref 1, .int v1] [] (sh, I, R) mc ms (xqI Q) := by
  refine xw_iload_n dX5_withoutLast_0 rfl rfl ?_
  refine xw_ifle (tgt := 15) dX5_withoutLast_1 (by decide) (fun c => ?_) (fun c => ?_)
  · replace k := k.1 c
    refine xw_iconst (v := nI 0) dX5_withoutLast_15 rfl ?_
    exact yw_iret dX5_withoutLast_16 rfl k
  · replace k := k.2 c
    refine xw_iload_n dX5_withoutLast_4 rfl rfl ?_
    refine xw_iconst (v := nI 1) dX5_withoutLast_5 rfl ?_
    refine xw_isub dX5_withoutLast_6 ?_
    refine xw_aload_n dX5_withoutLast_7 rfl rfl ?_
    refine yw_getI (v := I 1 1) dX5_withoutLast_8 fX5_15 rfl (la_1 hW) rfl ?_
    obtain ⟨k0, k⟩ := k
    refine xw_idiv dX5_withoutLast_11 k0 ?_
    refine xw_goto (tgt := 16) dX5_withoutLast_12 (by decide) ?_
    exact yw_iret dX5_withoutLast_16 rfl k
theorem eX5_withoutLast {v1 : Int32} {h : xHp} {Q : Int32 → xHp → Prop} (k : Ex mX5_withoutLast 0 [.ref 1, .int v1] [] h 0 0 (xqI Q)) : CI mX5_withoutLast [.ref 1, .int v1] h Q := k
theorem bX5_lengthOf_0 {v1 : Int32} {mc ms : Nat} {Q : Int32 → xHp → Prop} (hW : xLay sh R) 
    (k : Ex mX5_lengthOf 4 [.ref 1, xU, .int (nI 0), .int v1] [] (sh, I, R) mc ms (xqI Q)) :
    Ex mX5_lengthOf 0 [.ref 1, .int v1, xU, xU] [] (sh, I, R) mc ms (xqI Q) := by
  refine xw_iconst (v := nI 0) dX5_lengthOf_0 rfl ?_
  refine yw_istore_n (lv' := [.ref 1, .int v1, .int (nI 0), xU]) dX5_lengthOf_1 rfl rfl rfl rfl ?_
  refine xw_iload_n dX5_lengthOf_2 rfl rfl ?_
  refine yw_istore_n (lv' := [.ref 1, .int v1, .int (nI 0), .int v1]) dX5_lengthOf_3 rfl rfl rfl rfl ?_
  exact yw_sub (lv' := [.ref 1, xU, .int (nI 0), .int v1]) ⟨Or.inr rfl, Or.inl rfl, Or.inr rfl, Or.inr rfl, trivial⟩ k
theorem bX5_lengthOf_4 {v2 v3 : Int32} {mc ms : Nat} {Q : Int32 → xHp → Prop} (hW : xLay sh R) 
    (k : ((v3 ≤ 0 → Q v2 (sh, I, R)) ∧ (¬ v3 ≤ 0 → (((nI 12) ≤ v2 → Q v2 (sh, I, R)) ∧ (¬ (nI 12) ≤ v2 → CI mX5_withoutLast [.ref 1, .int v3] (sh, I, R) (fun w h1 => Ex mX5_lengthOf 22 [.ref 1, xU, .int (v2 + nI 1), xU] (.int w :: []) h1 mc ms (xqI Q))))))) :
    Ex mX5_lengthOf 4 [.ref 1, xU, .int v2, .int v3] [] (sh, I, R) mc ms (xqI Q) := by
  refine xw_iload_n dX5_lengthOf_4 rfl rfl ?_
  refine xw_ifle (tgt := 26) dX5_lengthOf_5 (by decide) (fun c => ?_) (fun c => ?_)
  · replace k := k.1 c
    refine xw_iload_n dX5_lengthOf_26 rfl rfl ?_
    exact yw_iret dX5_lengthOf_27 rfl k
  · replace k := k.2 c
    refine xw_iload_n dX5_lengthOf_8 rfl rfl ?_
    refine xw_bipush (v := nI 12) dX5_lengthOf_9 (by decide) ?_
    refine xw_icge (tgt := 26) dX5_lengthOf_11 (by decide) (fun c => ?_) (fun c => ?_)
    · replace k := k.1 c
      refine xw_iload_n dX5_lengthOf_26 rfl rfl ?_
      exact yw_iret dX5_lengthOf_27 rfl k
    · replace k := k.2 c
      refine yw_iinc (lv' := [.ref 1, xU, .int (v2 + nI 1), .int v3]) (v := nI 1) dX5_lengthOf_14 rfl rfl rfl rfl rfl ?_
      refine xw_aload_n dX5_lengthOf_17 rfl rfl ?_
      refine xw_iload_n dX5_lengthOf_18 rfl rfl ?_
      refine yw_sub (lv' := [.ref 1, xU, .int (v2 + nI 1), xU]) ⟨Or.inr rfl, Or.inl rfl, Or.inr rfl, Or.inl rfl, trivial⟩ ?_
      exact yw_cV (As := [.int v3]) (b := 1) (st := []) dX5_lengthOf_19 lX5_29 kiX5_withoutLast kvX5_withoutLast rfl rfl rfl (la_1 hW) rfl (Nat.le_of_ble_eq_true rfl) rfl (xk_I k)
theorem bX5_lengthOf_22 {v2 s0 : Int32} {mc ms : Nat} {Q : Int32 → xHp → Prop} (hW : xLay sh R) 
    (k : Ex mX5_lengthOf 4 [.ref 1, xU, .int v2, .int s0] [] (sh, I, R) mc ms (xqI Q)) :
    Ex mX5_lengthOf 22 [.ref 1, xU, .int v2, xU] [.int s0] (sh, I, R) mc ms (xqI Q) := by
  refine yw_istore_n (lv' := [.ref 1, xU, .int v2, .int s0]) dX5_lengthOf_22 rfl rfl rfl rfl ?_
  refine xw_goto (tgt := 4) dX5_lengthOf_23 (by decide) ?_
  exact k
theorem eX5_lengthOf {v1 : Int32} {h : xHp} {Q : Int32 → xHp → Prop} (k : Ex mX5_lengthOf 0 [.ref 1, .int v1, xU, xU] [] h 0 0 (xqI Q)) : CI mX5_lengthOf [.ref 1, .int v1] h Q := k
theorem bX5_lastLetter_0 {v1 : Int32} {mc ms : Nat} {Q : Int32 → xHp → Prop} (hW : xLay sh R) 
    (k : ((v1 ≤ 0 → Q (nI 0) (sh, I, R)) ∧ (¬ v1 ≤ 0 → ¬ I 1 1 = 0 ∧ Q (xrem (v1 - (nI 1)) (I 1 1)) (sh, I, R)))) :
    Ex mX5_lastLetter 0 [.ref 1, .int v1] [] (sh, I, R) mc ms (xqI Q) := by
  refine xw_iload_n dX5_lastLetter_0 rfl rfl ?_
  refine xw_ifle (tgt := 15) dX5_lastLetter_1 (by decide) (fun c => ?_) (fun c => ?_)
  · replace k := k.1 c
    refine xw_iconst (v := nI 0) dX5_lastLetter_15 rfl ?_
    exact yw_iret dX5_lastLetter_16 rfl k
  · replace k := k.2 c
    refine xw_iload_n dX5_lastLetter_4 rfl rfl ?_
    refine xw_iconst (v := nI 1) dX5_lastLetter_5 rfl ?_
    refine xw_isub dX5_lastLetter_6 ?_
    refine xw_aload_n dX5_lastLetter_7 rfl rfl ?_
    refine yw_getI (v := I 1 1) dX5_lastLetter_8 fX5_15 rfl (la_1 hW) rfl ?_
    obtain ⟨k0, k⟩ := k
    refine yw_irem dX5_lastLetter_11 k0 ?_
    refine xw_goto (tgt := 16) dX5_lastLetter_12 (by decide) ?_
    exact yw_iret dX5_lastLetter_16 rfl k
theorem eX5_lastLetter {v1 : Int32} {h : xHp} {Q : Int32 → xHp → Prop} (k : Ex mX5_lastLetter 0 [.ref 1, .int v1] [] h 0 0 (xqI Q)) : CI mX5_lastLetter [.ref 1, .int v1] h Q := k
theorem bX3_has_0 {q M : Nat} {v1 : Int32} {mc ms : Nat} {Q : Int32 → xHp → Prop} (hW : xLay sh R) (hq : xMach sh R q M)
    (k : ((v1 < 0 → Q (nI 0) (sh, I, R)) ∧ (¬ v1 < 0 → (((I q 2) ≤ v1 → Q (nI 0) (sh, I, R)) ∧ (¬ (I q 2) ≤ v1 → Q (nI 1) (sh, I, R)))))) :
    Ex mX3_has 0 [.ref q, .int v1] [] (sh, I, R) mc ms (xqI Q) := by
  refine xw_iload_n dX3_has_0 rfl rfl ?_
  refine xw_iflt (tgt := 16) dX3_has_1 (by decide) (fun c => ?_) (fun c => ?_)
  · replace k := k.1 c
    refine xw_iconst (v := nI 0) dX3_has_16 rfl ?_
    exact yw_zret dX3_has_17 rfl (by decide) k
  · replace k := k.2 c
    refine xw_iload_n dX3_has_4 rfl rfl ?_
    refine xw_aload_n dX3_has_5 rfl rfl ?_
    refine yw_getI (v := I q 2) dX3_has_6 fX3_31 rfl hq.1 rfl ?_
    refine xw_icge (tgt := 16) dX3_has_9 (by decide) (fun c => ?_) (fun c => ?_)
    · replace k := k.1 c
      refine xw_iconst (v := nI 0) dX3_has_16 rfl ?_
      exact yw_zret dX3_has_17 rfl (by decide) k
    · replace k := k.2 c
      refine xw_iconst (v := nI 1) dX3_has_12 rfl ?_
      refine xw_goto (tgt := 17) dX3_has_13 (by decide) ?_
      exact yw_zret dX3_has_17 rfl (by decide) k
theorem eX3_has {q : Nat} {v1 : Int32} {h : xHp} {Q : Int32 → xHp → Prop} (k : Ex mX3_has 0 [.ref q, .int v1] [] h 0 0 (xqI Q)) : CI mX3_has [.ref q, .int v1] h Q := k
theorem bX5_hasLetter_0 {v1 : Int32} {mc ms : Nat} {Q : Int32 → xHp → Prop} (hW : xLay sh R) 
    (k : ((v1 < 0 → Q (nI 0) (sh, I, R)) ∧ (¬ v1 < 0 → (((I 1 1) ≤ v1 → Q (nI 0) (sh, I, R)) ∧ (¬ (I 1 1) ≤ v1 → Q (nI 1) (sh, I, R)))))) :
    Ex mX5_hasLetter 0 [.ref 1, .int v1] [] (sh, I, R) mc ms (xqI Q) := by
  refine xw_iload_n dX5_hasLetter_0 rfl rfl ?_
  refine xw_iflt (tgt := 16) dX5_hasLetter_1 (by decide) (fun c => ?_) (fun c => ?_)
  · replace k := k.1 c
    refine xw_iconst (v := nI 0) dX5_hasLetter_16 rfl ?_
    exact yw_zret dX5_hasLetter_17 rfl (by decide) k
  · replace k := k.2 c
    refine xw_iload_n dX5_hasLetter_4 rfl rfl ?_
    refine xw_aload_n dX5_hasLetter_5 rfl rfl ?_
    refine yw_getI (v := I 1 1) dX5_hasLetter_6 fX5_15 rfl (la_1 hW) rfl ?_
    refine xw_icge (tgt := 16) dX5_hasLetter_9 (by decide) (fun c => ?_) (fun c => ?_)
    · replace k := k.1 c
      refine xw_iconst (v := nI 0) dX5_hasLetter_16 rfl ?_
      exact yw_zret dX5_hasLetter_17 rfl (by decide) k
    · replace k := k.2 c
      refine xw_iconst (v := nI 1) dX5_hasLetter_12 rfl ?_
      refine xw_goto (tgt := 17) dX5_hasLetter_13 (by decide) ?_
      exact yw_zret dX5_hasLetter_17 rfl (by decide) k
theorem eX5_hasLetter {v1 : Int32} {h : xHp} {Q : Int32 → xHp → Prop} (k : Ex mX5_hasLetter 0 [.ref 1, .int v1] [] h 0 0 (xqI Q)) : CI mX5_hasLetter [.ref 1, .int v1] h Q := k
theorem bX5_firstOfLength_0 {v1 : Int32} {mc ms : Nat} {Q : Int32 → xHp → Prop} (hW : xLay sh R) 
    (k : Ex mX5_firstOfLength 4 [.ref 1, .int v1, .int (nI 0), .int (nI 0)] [] (sh, I, R) mc ms (xqI Q)) :
    Ex mX5_firstOfLength 0 [.ref 1, .int v1, xU, xU] [] (sh, I, R) mc ms (xqI Q) := by
  refine xw_iconst (v := nI 0) dX5_firstOfLength_0 rfl ?_
  refine yw_istore_n (lv' := [.ref 1, .int v1, .int (nI 0), xU]) dX5_firstOfLength_1 rfl rfl rfl rfl ?_
  refine xw_iconst (v := nI 0) dX5_firstOfLength_2 rfl ?_
  refine yw_istore_n (lv' := [.ref 1, .int v1, .int (nI 0), .int (nI 0)]) dX5_firstOfLength_3 rfl rfl rfl rfl ?_
  exact k
theorem bX5_firstOfLength_4 {v1 v2 v3 : Int32} {mc ms : Nat} {Q : Int32 → xHp → Prop} (hW : xLay sh R) 
    (k : ((v1 ≤ v3 → Q v2 (sh, I, R)) ∧ (¬ v1 ≤ v3 → CI mX5_withLetter [.ref 1, .int v2, .int (nI 0)] (sh, I, R) (fun w h1 => Ex mX5_firstOfLength 15 [.ref 1, .int v1, xU, .int v3] (.int w :: []) h1 mc ms (xqI Q))))) :
    Ex mX5_firstOfLength 4 [.ref 1, .int v1, .int v2, .int v3] [] (sh, I, R) mc ms (xqI Q) := by
  refine xw_iload_n dX5_firstOfLength_4 rfl rfl ?_
  refine xw_iload_n dX5_firstOfLength_5 rfl rfl ?_
  refine xw_icge (tgt := 22) dX5_firstOfLength_6 (by decide) (fun c => ?_) (fun c => ?_)
  · replace k := k.1 c
    refine xw_iload_n dX5_firstOfLength_22 rfl rfl ?_
    exact yw_iret dX5_firstOfLength_23 rfl k
  · replace k := k.2 c
    refine xw_aload_n dX5_firstOfLength_9 rfl rfl ?_
    refine xw_iload_n dX5_firstOfLength_10 rfl rfl ?_
    refine xw_iconst (v := nI 0) dX5_firstOfLength_11 rfl ?_
    refine yw_sub (lv' := [.ref 1, .int v1, xU, .int v3]) ⟨Or.inr rfl, Or.inr rfl, Or.inl rfl, Or.inr rfl, trivial⟩ ?_
    exact yw_cV (As := [.int v2, .int (nI 0)]) (b := 1) (st := []) dX5_firstOfLength_12 lX5_32 kiX5_withLetter kvX5_withLetter rfl rfl rfl (la_1 hW) rfl (Nat.le_of_ble_eq_true rfl) rfl (xk_I k)
theorem bX5_firstOfLength_15 {v1 v3 s0 : Int32} {mc ms : Nat} {Q : Int32 → xHp → Prop} (hW : xLay sh R) 
    (k : Ex mX5_firstOfLength 4 [.ref 1, .int v1, .int s0, .int (v3 + nI 1)] [] (sh, I, R) mc ms (xqI Q)) :
    Ex mX5_firstOfLength 15 [.ref 1, .int v1, xU, .int v3] [.int s0] (sh, I, R) mc ms (xqI Q) := by
  refine yw_istore_n (lv' := [.ref 1, .int v1, .int s0, .int v3]) dX5_firstOfLength_15 rfl rfl rfl rfl ?_
  refine yw_iinc (lv' := [.ref 1, .int v1, .int s0, .int (v3 + nI 1)]) (v := nI 1) dX5_firstOfLength_16 rfl rfl rfl rfl rfl ?_
  refine xw_goto (tgt := 4) dX5_firstOfLength_19 (by decide) ?_
  exact k
theorem eX5_firstOfLength {v1 : Int32} {h : xHp} {Q : Int32 → xHp → Prop} (k : Ex mX5_firstOfLength 0 [.ref 1, .int v1, xU, xU] [] h 0 0 (xqI Q)) : CI mX5_firstOfLength [.ref 1, .int v1] h Q := k
theorem bX5_power_0 {v1 : Int32} {mc ms : Nat} {Q : Int32 → xHp → Prop} (hW : xLay sh R) 
    (k : Ex mX5_power 4 [.ref 1, .int v1, .int (nI 1), .int (nI 0)] [] (sh, I, R) mc ms (xqI Q)) :
    Ex mX5_power 0 [.ref 1, .int v1, xU, xU] [] (sh, I, R) mc ms (xqI Q) := by
  refine xw_iconst (v := nI 1) dX5_power_0 rfl ?_
  refine yw_istore_n (lv' := [.ref 1, .int v1, .int (nI 1), xU]) dX5_power_1 rfl rfl rfl rfl ?_
  refine xw_iconst (v := nI 0) dX5_power_2 rfl ?_
  refine yw_istore_n (lv' := [.ref 1, .int v1, .int (nI 1), .int (nI 0)]) dX5_power_3 rfl rfl rfl rfl ?_
  exact k
theorem bX5_power_4 {v1 v2 v3 : Int32} {mc ms : Nat} {Q : Int32 → xHp → Prop} (hW : xLay sh R) 
    (k : ((v1 ≤ v3 → Q v2 (sh, I, R)) ∧ (¬ v1 ≤ v3 → Ex mX5_power 4 [.ref 1, .int v1, .int (v2 * (I 1 1)), .int (v3 + nI 1)] [] (sh, I, R) mc ms (xqI Q)))) :
    Ex mX5_power 4 [.ref 1, .int v1, .int v2, .int v3] [] (sh, I, R) mc ms (xqI Q) := by
  refine xw_iload_n dX5_power_4 rfl rfl ?_
  refine xw_iload_n dX5_power_5 rfl rfl ?_
  refine xw_icge (tgt := 22) dX5_power_6 (by decide) (fun c => ?_) (fun c => ?_)
  · replace k := k.1 c
    refine xw_iload_n dX5_power_22 rfl rfl ?_
    exact yw_iret dX5_power_23 rfl k
  · replace k := k.2 c
    refine xw_iload_n dX5_power_9 rfl rfl ?_
    refine xw_aload_n dX5_power_10 rfl rfl ?_
    refine yw_getI (v := I 1 1) dX5_power_11 fX5_15 rfl (la_1 hW) rfl ?_
    refine xw_imul dX5_power_14 ?_
    refine yw_istore_n (lv' := [.ref 1, .int v1, .int (v2 * (I 1 1)), .int v3]) dX5_power_15 rfl rfl rfl rfl ?_
    refine yw_iinc (lv' := [.ref 1, .int v1, .int (v2 * (I 1 1)), .int (v3 + nI 1)]) (v := nI 1) dX5_power_16 rfl rfl rfl rfl rfl ?_
    refine xw_goto (tgt := 4) dX5_power_19 (by decide) ?_
    exact k
theorem eX5_power {v1 : Int32} {h : xHp} {Q : Int32 → xHp → Prop} (k : Ex mX5_power 0 [.ref 1, .int v1, xU, xU] [] h 0 0 (xqI Q)) : CI mX5_power [.ref 1, .int v1] h Q := k
theorem bX5_withWord_0 {v1 v2 : Int32} {mc ms : Nat} {Q : Int32 → xHp → Prop} (hW : xLay sh R) 
    (k : CI mX5_lengthOf [.ref 1, .int v2] (sh, I, R) (fun w h1 => Ex mX5_withWord 7 [xU, xU, .int v2] (.int w :: [.ref 1, .int v1]) h1 mc ms (xqI Q))) :
    Ex mX5_withWord 0 [.ref 1, .int v1, .int v2] [] (sh, I, R) mc ms (xqI Q) := by
  refine xw_iload_n dX5_withWord_0 rfl rfl ?_
  refine xw_aload_n dX5_withWord_1 rfl rfl ?_
  refine xw_aload_n dX5_withWord_2 rfl rfl ?_
  refine xw_iload_n dX5_withWord_3 rfl rfl ?_
  refine yw_sub (lv' := [xU, xU, .int v2]) ⟨Or.inl rfl, Or.inl rfl, Or.inr rfl, trivial⟩ ?_
  exact yw_cV (As := [.int v2]) (b := 1) (st := [.ref 1, .int v1]) dX5_withWord_4 lX5_22 kiX5_lengthOf kvX5_lengthOf rfl rfl rfl (la_1 hW) rfl (Nat.le_of_ble_eq_true rfl) rfl (xk_I k)
theorem bX5_withWord_7 {v2 s2 s0 : Int32} {mc ms : Nat} {Q : Int32 → xHp → Prop} (hW : xLay sh R) 
    (k : CI mX5_power [.ref 1, .int s2] (sh, I, R) (fun w h1 => Ex mX5_withWord 10 [xU, xU, .int v2] (.int w :: [.int s0]) h1 mc ms (xqI Q))) :
    Ex mX5_withWord 7 [xU, xU, .int v2] [.int s2, .ref 1, .int s0] (sh, I, R) mc ms (xqI Q) := by
  exact yw_cV (As := [.int s2]) (b := 1) (st := [.int s0]) dX5_withWord_7 lX5_26 kiX5_power kvX5_power rfl rfl rfl (la_1 hW) rfl (Nat.le_of_ble_eq_true rfl) rfl (xk_I k)
theorem bX5_withWord_10 {v2 s1 s0 : Int32} {mc ms : Nat} {Q : Int32 → xHp → Prop} (hW : xLay sh R) 
    (k : Q ((s0 * s1) + v2) (sh, I, R)) :
    Ex mX5_withWord 10 [xU, xU, .int v2] [.int s1, .int s0] (sh, I, R) mc ms (xqI Q) := by
  refine xw_imul dX5_withWord_10 ?_
  refine xw_iload_n dX5_withWord_11 rfl rfl ?_
  refine xw_iadd dX5_withWord_12 ?_
  exact yw_iret dX5_withWord_13 rfl k
theorem eX5_withWord {v1 : Int32} {v2 : Int32} {h : xHp} {Q : Int32 → xHp → Prop} (k : Ex mX5_withWord 0 [.ref 1, .int v1, .int v2] [] h 0 0 (xqI Q)) : CI mX5_withWord [.ref 1, .int v1, .int v2] h Q := k
theorem bX5_ending_0 {v1 v2 : Int32} {mc ms : Nat} {Q : Int32 → xHp → Prop} (hW : xLay sh R) 
    (k : Ex mX5_ending 5 [.ref 1, .int v1, .int v2, .int v1, .int (nI 0)] [] (sh, I, R) mc ms (xqI Q)) :
    Ex mX5_ending 0 [.ref 1, .int v1, .int v2, xU, xU] [] (sh, I, R) mc ms (xqI Q) := by
  refine xw_iload_n dX5_ending_0 rfl rfl ?_
  refine yw_istore_n (lv' := [.ref 1, .int v1, .int v2, .int v1, xU]) dX5_ending_1 rfl rfl rfl rfl ?_
  refine xw_iconst (v := nI 0) dX5_ending_2 rfl ?_
  refine yw_istore (lv' := [.ref 1, .int v1, .int v2, .int v1, .int (nI 0)]) dX5_ending_3 rfl rfl rfl ?_
  exact k
theorem bX5_ending_5 {v1 v2 v3 v4 : Int32} {mc ms : Nat} {Q : Int32 → xHp → Prop} (hW : xLay sh R) 
    (k : ((v2 ≤ v4 → CI mX5_power [.ref 1, .int v2] (sh, I, R) (fun w h1 => Ex mX5_ending 30 [xU, xU, xU, xU, xU] (.int w :: [.int v3, .int v1]) h1 mc ms (xqI Q))) ∧ (¬ v2 ≤ v4 → CI mX5_withoutLast [.ref 1, .int v3] (sh, I, R) (fun w h1 => Ex mX5_ending 16 [.ref 1, .int v1, .int v2, xU, .int v4] (.int w :: []) h1 mc ms (xqI Q))))) :
    Ex mX5_ending 5 [.ref 1, .int v1, .int v2, .int v3, .int v4] [] (sh, I, R) mc ms (xqI Q) := by
  refine xw_iload dX5_ending_5 rfl ?_
  refine xw_iload_n dX5_ending_7 rfl rfl ?_
  refine xw_icge (tgt := 23) dX5_ending_8 (by decide) (fun c => ?_) (fun c => ?_)
  · replace k := k.1 c
    refine xw_iload_n dX5_ending_23 rfl rfl ?_
    refine xw_iload_n dX5_ending_24 rfl rfl ?_
    refine xw_aload_n dX5_ending_25 rfl rfl ?_
    refine xw_iload_n dX5_ending_26 rfl rfl ?_
    refine yw_sub (lv' := [xU, xU, xU, xU, xU]) ⟨Or.inl rfl, Or.inl rfl, Or.inl rfl, Or.inl rfl, Or.inl rfl, trivial⟩ ?_
    exact yw_cV (As := [.int v2]) (b := 1) (st := [.int v3, .int v1]) dX5_ending_27 lX5_26 kiX5_power kvX5_power rfl rfl rfl (la_1 hW) rfl (Nat.le_of_ble_eq_true rfl) rfl (xk_I k)
  · replace k := k.2 c
    refine xw_aload_n dX5_ending_11 rfl rfl ?_
    refine xw_iload_n dX5_ending_12 rfl rfl ?_
    refine yw_sub (lv' := [.ref 1, .int v1, .int v2, xU, .int v4]) ⟨Or.inr rfl, Or.inr rfl, Or.inr rfl, Or.inl rfl, Or.inr rfl, trivial⟩ ?_
    exact yw_cV (As := [.int v3]) (b := 1) (st := []) dX5_ending_13 lX5_29 kiX5_withoutLast kvX5_withoutLast rfl rfl rfl (la_1 hW) rfl (Nat.le_of_ble_eq_true rfl) rfl (xk_I k)
theorem bX5_ending_30 {s2 s1 s0 : Int32} {mc ms : Nat} {Q : Int32 → xHp → Prop} (hW : xLay sh R) 
    (k : Q (s0 - (s1 * s2)) (sh, I, R)) :
    Ex mX5_ending 30 [xU, xU, xU, xU, xU] [.int s2, .int s1, .int s0] (sh, I, R) mc ms (xqI Q) := by
  refine xw_imul dX5_ending_30 ?_
  refine xw_isub dX5_ending_31 ?_
  exact yw_iret dX5_ending_32 rfl k
theorem bX5_ending_16 {v1 v2 v4 s0 : Int32} {mc ms : Nat} {Q : Int32 → xHp → Prop} (hW : xLay sh R) 
    (k : Ex mX5_ending 5 [.ref 1, .int v1, .int v2, .int s0, .int (v4 + nI 1)] [] (sh, I, R) mc ms (xqI Q)) :
    Ex mX5_ending 16 [.ref 1, .int v1, .int v2, xU, .int v4] [.int s0] (sh, I, R) mc ms (xqI Q) := by
  refine yw_istore_n (lv' := [.ref 1, .int v1, .int v2, .int s0, .int v4]) dX5_ending_16 rfl rfl rfl rfl ?_
  refine yw_iinc (lv' := [.ref 1, .int v1, .int v2, .int s0, .int (v4 + nI 1)]) (v := nI 1) dX5_ending_17 rfl rfl rfl rfl rfl ?_
  refine xw_goto (tgt := 5) dX5_ending_20 (by decide) ?_
  exact k
theorem eX5_ending {v1 : Int32} {v2 : Int32} {h : xHp} {Q : Int32 → xHp → Prop} (k : Ex mX5_ending 0 [.ref 1, .int v1, .int v2, xU, xU] [] h 0 0 (xqI Q)) : CI mX5_ending [.ref 1, .int v1, .int v2] h Q := k
theorem bX5_hasResidue_0 {v1 : Int32} {mc ms : Nat} {Q : Int32 → xHp → Prop} (hW : xLay sh R) 
    (k : ((v1 < 0 → Q (nI 0) (sh, I, R)) ∧ (¬ v1 < 0 → (((I 1 0) ≤ v1 → Q (nI 0) (sh, I, R)) ∧ (¬ (I 1 0) ≤ v1 → Q (nI 1) (sh, I, R)))))) :
    Ex mX5_hasResidue 0 [.ref 1, .int v1] [] (sh, I, R) mc ms (xqI Q) := by
  refine xw_iload_n dX5_hasResidue_0 rfl rfl ?_
  refine xw_iflt (tgt := 16) dX5_hasResidue_1 (by decide) (fun c => ?_) (fun c => ?_)
  · replace k := k.1 c
    refine xw_iconst (v := nI 0) dX5_hasResidue_16 rfl ?_
    exact yw_zret dX5_hasResidue_17 rfl (by decide) k
  · replace k := k.2 c
    refine xw_iload_n dX5_hasResidue_4 rfl rfl ?_
    refine xw_aload_n dX5_hasResidue_5 rfl rfl ?_
    refine yw_getI (v := I 1 0) dX5_hasResidue_6 fX5_11 rfl (la_1 hW) rfl ?_
    refine xw_icge (tgt := 16) dX5_hasResidue_9 (by decide) (fun c => ?_) (fun c => ?_)
    · replace k := k.1 c
      refine xw_iconst (v := nI 0) dX5_hasResidue_16 rfl ?_
      exact yw_zret dX5_hasResidue_17 rfl (by decide) k
    · replace k := k.2 c
      refine xw_iconst (v := nI 1) dX5_hasResidue_12 rfl ?_
      refine xw_goto (tgt := 17) dX5_hasResidue_13 (by decide) ?_
      exact yw_zret dX5_hasResidue_17 rfl (by decide) k
theorem eX5_hasResidue {v1 : Int32} {h : xHp} {Q : Int32 → xHp → Prop} (k : Ex mX5_hasResidue 0 [.ref 1, .int v1] [] h 0 0 (xqI Q)) : CI mX5_hasResidue [.ref 1, .int v1] h Q := k
theorem bX3_clearState_0 {q M : Nat} {v1 : Int32} {mc ms : Nat} {Q : xHp → Prop} (hW : xLay sh R) (hq : xMach sh R q M)
    (k : vp_in v1 M ∧ vp_in v1 M ∧ Ex mX3_clearState 16 [.ref q, .int v1, .int (nI 0), xU] [] (sh, (xi (xi I (q + 1) v1.toNatClampNeg (nI 0)) (q + 2) v1.toNatClampNeg (nI 0)), R) mc ms (xqV Q)) :
    Ex mX3_clearState 0 [.ref q, .int v1, xU, xU] [] (sh, I, R) mc ms (xqV Q) := by
  refine xw_aload_n dX3_clearState_0 rfl rfl ?_
  refine yw_getR (r := (q + 1)) dX3_clearState_1 fX3_21 rfl hq.1 hq.2.2.2.2.2.1 ?_
  refine xw_iload_n dX3_clearState_4 rfl rfl ?_
  refine xw_iconst (v := nI 0) dX3_clearState_5 rfl ?_
  obtain ⟨k0, k⟩ := k
  refine yw_iastore dX3_clearState_6 hq.2.1 k0 ?_
  refine xw_aload_n dX3_clearState_7 rfl rfl ?_
  refine yw_getR (r := (q + 2)) dX3_clearState_8 fX3_25 rfl hq.1 hq.2.2.2.2.2.2.1 ?_
  refine xw_iload_n dX3_clearState_11 rfl rfl ?_
  refine xw_iconst (v := nI 0) dX3_clearState_12 rfl ?_
  obtain ⟨k0, k⟩ := k
  refine yw_iastore dX3_clearState_13 hq.2.2.1 k0 ?_
  refine xw_iconst (v := nI 0) dX3_clearState_14 rfl ?_
  refine yw_istore_n (lv' := [.ref q, .int v1, .int (nI 0), xU]) dX3_clearState_15 rfl rfl rfl rfl ?_
  exact k
theorem bX3_clearState_16 {q M : Nat} {v1 v2 : Int32} {mc ms : Nat} {Q : xHp → Prop} (hW : xLay sh R) (hq : xMach sh R q M)
    (k : (((I 1 1) ≤ v2 → Q (sh, I, R)) ∧ (¬ (I 1 1) ≤ v2 → Ex mX3_clearState 29 [.ref q, .int v1, .int v2, .int (nI 0)] [] (sh, I, R) mc ms (xqV Q)))) :
    Ex mX3_clearState 16 [.ref q, .int v1, .int v2, xU] [] (sh, I, R) mc ms (xqV Q) := by
  refine xw_iload_n dX3_clearState_16 rfl rfl ?_
  refine xw_aload_n dX3_clearState_17 rfl rfl ?_
  refine yw_getR (r := 1) dX3_clearState_18 fX3_9 rfl hq.1 hq.2.2.2.2.1 ?_
  refine yw_getI (v := I 1 1) dX3_clearState_21 fX3_53 rfl (la_1 hW) rfl ?_
  refine xw_icge (tgt := 75) dX3_clearState_24 (by decide) (fun c => ?_) (fun c => ?_)
  · replace k := k.1 c
    exact yw_vret dX3_clearState_75 rfl k
  · replace k := k.2 c
    refine xw_iconst (v := nI 0) dX3_clearState_27 rfl ?_
    refine yw_istore_n (lv' := [.ref q, .int v1, .int v2, .int (nI 0)]) dX3_clearState_28 rfl rfl rfl rfl ?_
    exact k
theorem bX3_clearState_29 {q M : Nat} {v1 v2 v3 : Int32} {mc ms : Nat} {Q : xHp → Prop} (hW : xLay sh R) (hq : xMach sh R q M)
    (k : (((I q 1) ≤ v3 → Ex mX3_clearState 16 [.ref q, .int v1, .int (v2 + nI 1), xU] [] (sh, I, R) mc ms (xqV Q)) ∧ (¬ (I q 1) ≤ v3 → CI mX3_at [.ref q, .int v1, .int v2, .int v3] (sh, I, R) (fun w h1 => Ex mX3_clearState 48 [.ref q, .int v1, .int v2, .int v3] (.int w :: [.ref (q + 3)]) h1 mc ms (xqV Q))))) :
    Ex mX3_clearState 29 [.ref q, .int v1, .int v2, .int v3] [] (sh, I, R) mc ms (xqV Q) := by
  refine xw_iload_n dX3_clearState_29 rfl rfl ?_
  refine xw_aload_n dX3_clearState_30 rfl rfl ?_
  refine yw_getI (v := I q 1) dX3_clearState_31 fX3_17 rfl hq.1 rfl ?_
  refine xw_icge (tgt := 69) dX3_clearState_34 (by decide) (fun c => ?_) (fun c => ?_)
  · replace k := k.1 c
    refine yw_iinc (lv' := [.ref q, .int v1, .int (v2 + nI 1), .int v3]) (v := nI 1) dX3_clearState_69 rfl rfl rfl rfl rfl ?_
    refine xw_goto (tgt := 16) dX3_clearState_72 (by decide) ?_
    exact yw_sub (lv' := [.ref q, .int v1, .int (v2 + nI 1), xU]) ⟨Or.inr rfl, Or.inr rfl, Or.inr rfl, Or.inl rfl, trivial⟩ k
  · replace k := k.2 c
    refine xw_aload_n dX3_clearState_37 rfl rfl ?_
    refine yw_getR (r := (q + 3)) dX3_clearState_38 fX3_28 rfl hq.1 hq.2.2.2.2.2.2.2 ?_
    refine xw_aload_n dX3_clearState_41 rfl rfl ?_
    refine xw_iload_n dX3_clearState_42 rfl rfl ?_
    refine xw_iload_n dX3_clearState_43 rfl rfl ?_
    refine xw_iload_n dX3_clearState_44 rfl rfl ?_
    exact yw_cV (As := [.int v1, .int v2, .int v3]) (b := q) (st := [.ref (q + 3)]) dX3_clearState_45 lX3_56 kiX3_at kvX3_at rfl rfl rfl hq.1 rfl (Nat.le_of_ble_eq_true rfl) rfl (xk_I k)
theorem bX3_clearState_48 {q M : Nat} {v1 v2 v3 s1 : Int32} {mc ms : Nat} {Q : xHp → Prop} (hW : xLay sh R) (hq : xMach sh R q M)
    (k : vp_in s1 (M * 3 * M) ∧ CI mX3_at [.ref q, .int v3, .int v2, .int v1] (sh, (xi I (q + 3) s1.toNatClampNeg (nI 0)), R) (fun w h1 => Ex mX3_clearState 61 [.ref q, .int v1, .int v2, .int v3] (.int w :: [.ref (q + 3)]) h1 mc ms (xqV Q))) :
    Ex mX3_clearState 48 [.ref q, .int v1, .int v2, .int v3] [.int s1, .ref (q + 3)] (sh, I, R) mc ms (xqV Q) := by
  refine xw_iconst (v := nI 0) dX3_clearState_48 rfl ?_
  obtain ⟨k0, k⟩ := k
  refine yw_iastore dX3_clearState_49 hq.2.2.2.1 k0 ?_
  refine xw_aload_n dX3_clearState_50 rfl rfl ?_
  refine yw_getR (r := (q + 3)) dX3_clearState_51 fX3_28 rfl hq.1 hq.2.2.2.2.2.2.2 ?_
  refine xw_aload_n dX3_clearState_54 rfl rfl ?_
  refine xw_iload_n dX3_clearState_55 rfl rfl ?_
  refine xw_iload_n dX3_clearState_56 rfl rfl ?_
  refine xw_iload_n dX3_clearState_57 rfl rfl ?_
  exact yw_cV (As := [.int v3, .int v2, .int v1]) (b := q) (st := [.ref (q + 3)]) dX3_clearState_58 lX3_56 kiX3_at kvX3_at rfl rfl rfl hq.1 rfl (Nat.le_of_ble_eq_true rfl) rfl (xk_I k)
theorem bX3_clearState_61 {q M : Nat} {v1 v2 v3 s1 : Int32} {mc ms : Nat} {Q : xHp → Prop} (hW : xLay sh R) (hq : xMach sh R q M)
    (k : vp_in s1 (M * 3 * M) ∧ Ex mX3_clearState 29 [.ref q, .int v1, .int v2, .int (v3 + nI 1)] [] (sh, (xi I (q + 3) s1.toNatClampNeg (nI 0)), R) mc ms (xqV Q)) :
    Ex mX3_clearState 61 [.ref q, .int v1, .int v2, .int v3] [.int s1, .ref (q + 3)] (sh, I, R) mc ms (xqV Q) := by
  refine xw_iconst (v := nI 0) dX3_clearState_61 rfl ?_
  obtain ⟨k0, k⟩ := k
  refine yw_iastore dX3_clearState_62 hq.2.2.2.1 k0 ?_
  refine yw_iinc (lv' := [.ref q, .int v1, .int v2, .int (v3 + nI 1)]) (v := nI 1) dX3_clearState_63 rfl rfl rfl rfl rfl ?_
  refine xw_goto (tgt := 29) dX3_clearState_66 (by decide) ?_
  exact k
theorem eX3_clearState {q : Nat} {v1 : Int32} {h : xHp} {Q : xHp → Prop} (k : Ex mX3_clearState 0 [.ref q, .int v1, xU, xU] [] h 0 0 (xqV Q)) : CV mX3_clearState [.ref q, .int v1] h Q := k
theorem bX3_omit_0 {q M : Nat} {v1 : Int32} {mc ms : Nat} {Q : xHp → Prop} (hW : xLay sh R) (hq : xMach sh R q M)
    (k : Ex mX3_omit 2 [.ref q, .int v1, .int v1, xU, xU, xU] [] (sh, I, R) mc ms (xqV Q)) :
    Ex mX3_omit 0 [.ref q, .int v1, xU, xU, xU, xU] [] (sh, I, R) mc ms (xqV Q) := by
  refine xw_iload_n dX3_omit_0 rfl rfl ?_
  refine yw_istore_n (lv' := [.ref q, .int v1, .int v1, xU, xU, xU]) dX3_omit_1 rfl rfl rfl rfl ?_
  exact k
theorem bX3_omit_2 {q M : Nat} {v1 v2 : Int32} {mc ms : Nat} {Q : xHp → Prop} (hW : xLay sh R) (hq : xMach sh R q M)
    (k : ((((I q 2) - (nI 1)) ≤ v2 → Ex mX3_omit 48 [.ref q, .int v1, .int (nI 0), xU, xU, xU] [] (sh, I, R) mc ms (xqV Q)) ∧ (¬ ((I q 2) - (nI 1)) ≤ v2 → vp_in (v2 + (nI 1)) M ∧ vp_in v2 M ∧ vp_in (v2 + (nI 1)) M ∧ vp_in v2 M ∧ Ex mX3_omit 2 [.ref q, .int v1, .int (v2 + nI 1), xU, xU, xU] [] (sh, (xi (xi I (q + 1) v2.toNatClampNeg (I (q + 1) ((v2 + (nI 1)).toNatClampNeg))) (q + 2) v2.toNatClampNeg (I (q + 2) ((v2 + (nI 1)).toNatClampNeg))), R) mc ms (xqV Q)))) :
    Ex mX3_omit 2 [.ref q, .int v1, .int v2, xU, xU, xU] [] (sh, I, R) mc ms (xqV Q) := by
  refine xw_iload_n dX3_omit_2 rfl rfl ?_
  refine xw_aload_n dX3_omit_3 rfl rfl ?_
  refine yw_getI (v := I q 2) dX3_omit_4 fX3_31 rfl hq.1 rfl ?_
  refine xw_iconst (v := nI 1) dX3_omit_7 rfl ?_
  refine xw_isub dX3_omit_8 ?_
  refine xw_icge (tgt := 46) dX3_omit_9 (by decide) (fun c => ?_) (fun c => ?_)
  · replace k := k.1 c
    refine xw_iconst (v := nI 0) dX3_omit_46 rfl ?_
    refine yw_istore_n (lv' := [.ref q, .int v1, .int (nI 0), xU, xU, xU]) dX3_omit_47 rfl rfl rfl rfl ?_
    exact k
  · replace k := k.2 c
    refine xw_aload_n dX3_omit_12 rfl rfl ?_
    refine yw_getR (r := (q + 1)) dX3_omit_13 fX3_21 rfl hq.1 hq.2.2.2.2.2.1 ?_
    refine xw_iload_n dX3_omit_16 rfl rfl ?_
    refine xw_aload_n dX3_omit_17 rfl rfl ?_
    refine yw_getR (r := (q + 1)) dX3_omit_18 fX3_21 rfl hq.1 hq.2.2.2.2.2.1 ?_
    refine xw_iload_n dX3_omit_21 rfl rfl ?_
    refine xw_iconst (v := nI 1) dX3_omit_22 rfl ?_
    refine xw_iadd dX3_omit_23 ?_
    obtain ⟨k0, k⟩ := k
    refine yw_iaload (v := I (q + 1) ((v2 + (nI 1)).toNatClampNeg)) dX3_omit_24 hq.2.1 k0 rfl ?_
    obtain ⟨k0, k⟩ := k
    refine yw_iastore dX3_omit_25 hq.2.1 k0 ?_
    refine xw_aload_n dX3_omit_26 rfl rfl ?_
    refine yw_getR (r := (q + 2)) dX3_omit_27 fX3_25 rfl hq.1 hq.2.2.2.2.2.2.1 ?_
    refine xw_iload_n dX3_omit_30 rfl rfl ?_
    refine xw_aload_n dX3_omit_31 rfl rfl ?_
    refine yw_getR (r := (q + 2)) dX3_omit_32 fX3_25 rfl hq.1 hq.2.2.2.2.2.2.1 ?_
    refine xw_iload_n dX3_omit_35 rfl rfl ?_
    refine xw_iconst (v := nI 1) dX3_omit_36 rfl ?_
    refine xw_iadd dX3_omit_37 ?_
    obtain ⟨k0, k⟩ := k
    refine yw_iaload (v := I (q + 2) ((v2 + (nI 1)).toNatClampNeg)) dX3_omit_38 hq.2.2.1 k0 (xi_p (a := (q + 2)) (q := (q + 1)) (by omega)) ?_
    obtain ⟨k0, k⟩ := k
    refine yw_iastore dX3_omit_39 hq.2.2.1 k0 ?_
    refine yw_iinc (lv' := [.ref q, .int v1, .int (v2 + nI 1), xU, xU, xU]) (v := nI 1) dX3_omit_40 rfl rfl rfl rfl rfl ?_
    refine xw_goto (tgt := 2) dX3_omit_43 (by decide) ?_
    exact k
theorem bX3_omit_48 {q M : Nat} {v1 v2 : Int32} {mc ms : Nat} {Q : xHp → Prop} (hW : xLay sh R) (hq : xMach sh R q M)
    (k : ((((I q 2) - (nI 1)) ≤ v2 → CV mX3_clearState [.ref q, .int ((I q 2) - (nI 1))] (sh, (xi I q 2 ((I q 2) - (nI 1))), R) (fun h1 => Ex mX3_omit 175 [xU, xU, xU, xU, xU, xU] [] h1 mc ms (xqV Q))) ∧ (¬ ((I q 2) - (nI 1)) ≤ v2 → Ex mX3_omit 60 [.ref q, .int v1, .int v2, .int (nI 0), xU, xU] [] (sh, I, R) mc ms (xqV Q)))) :
    Ex mX3_omit 48 [.ref q, .int v1, .int v2, xU, xU, xU] [] (sh, I, R) mc ms (xqV Q) := by
  refine xw_iload_n dX3_omit_48 rfl rfl ?_
  refine xw_aload_n dX3_omit_49 rfl rfl ?_
  refine yw_getI (v := I q 2) dX3_omit_50 fX3_31 rfl hq.1 rfl ?_
  refine xw_iconst (v := nI 1) dX3_omit_53 rfl ?_
  refine xw_isub dX3_omit_54 ?_
  refine xw_icge (tgt := 157) dX3_omit_55 (by decide) (fun c => ?_) (fun c => ?_)
  · replace k := k.1 c
    refine xw_aload_n dX3_omit_157 rfl rfl ?_
    refine xw_dup dX3_omit_158 rfl ?_
    refine yw_getI (v := I q 2) dX3_omit_159 fX3_31 rfl hq.1 rfl ?_
    refine xw_iconst (v := nI 1) dX3_omit_162 rfl ?_
    refine xw_isub dX3_omit_163 ?_
    refine yw_putI dX3_omit_164 fX3_31 (fun r h => by cases h; exact Or.inl rfl) rfl hq.1 ?_
    refine xw_aload_n dX3_omit_167 rfl rfl ?_
    refine xw_aload_n dX3_omit_168 rfl rfl ?_
    refine yw_getI (v := (I q 2) - (nI 1)) dX3_omit_169 fX3_31 rfl hq.1 (xi_e) ?_
    refine yw_sub (lv' := [xU, xU, xU, xU, xU, xU]) ⟨Or.inl rfl, Or.inl rfl, Or.inl rfl, Or.inl rfl, Or.inl rfl, Or.inl rfl, trivial⟩ ?_
    exact yw_cV (As := [.int ((I q 2) - (nI 1))]) (b := q) (st := []) dX3_omit_172 lX3_66 kiX3_clearState kvX3_clearState rfl rfl rfl hq.1 rfl (Nat.le_of_ble_eq_true rfl) rfl (xk_V k)
  · replace k := k.2 c
    refine xw_iconst (v := nI 0) dX3_omit_58 rfl ?_
    refine yw_istore_n (lv' := [.ref q, .int v1, .int v2, .int (nI 0), xU, xU]) dX3_omit_59 rfl rfl rfl rfl ?_
    exact k
theorem bX3_omit_175 {mc ms : Nat} {Q : xHp → Prop} (hW : xLay sh R) 
    (k : Q (sh, I, R)) :
    Ex mX3_omit 175 [xU, xU, xU, xU, xU, xU] [] (sh, I, R) mc ms (xqV Q) := by
  exact yw_vret dX3_omit_175 rfl k
theorem bX3_omit_60 {q M : Nat} {v1 v2 v3 : Int32} {mc ms : Nat} {Q : xHp → Prop} (hW : xLay sh R) (hq : xMach sh R q M)
    (k : (((I 1 1) ≤ v3 → Ex mX3_omit 48 [.ref q, .int v1, .int (v2 + nI 1), xU, xU, xU] [] (sh, I, R) mc ms (xqV Q)) ∧ (¬ (I 1 1) ≤ v3 → Ex mX3_omit 74 [.ref q, .int v1, .int v2, .int v3, .int (nI 0), xU] [] (sh, I, R) mc ms (xqV Q)))) :
    Ex mX3_omit 60 [.ref q, .int v1, .int v2, .int v3, xU, xU] [] (sh, I, R) mc ms (xqV Q) := by
  refine xw_iload_n dX3_omit_60 rfl rfl ?_
  refine xw_aload_n dX3_omit_61 rfl rfl ?_
  refine yw_getR (r := 1) dX3_omit_62 fX3_9 rfl hq.1 hq.2.2.2.2.1 ?_
  refine yw_getI (v := I 1 1) dX3_omit_65 fX3_53 rfl (la_1 hW) rfl ?_
  refine xw_icge (tgt := 151) dX3_omit_68 (by decide) (fun c => ?_) (fun c => ?_)
  · replace k := k.1 c
    refine yw_iinc (lv' := [.ref q, .int v1, .int (v2 + nI 1), .int v3, xU, xU]) (v := nI 1) dX3_omit_151 rfl rfl rfl rfl rfl ?_
    refine xw_goto (tgt := 48) dX3_omit_154 (by decide) ?_
    exact yw_sub (lv' := [.ref q, .int v1, .int (v2 + nI 1), xU, xU, xU]) ⟨Or.inr rfl, Or.inr rfl, Or.inr rfl, Or.inl rfl, Or.inl rfl, Or.inl rfl, trivial⟩ k
  · replace k := k.2 c
    refine xw_iconst (v := nI 0) dX3_omit_71 rfl ?_
    refine yw_istore (lv' := [.ref q, .int v1, .int v2, .int v3, .int (nI 0), xU]) dX3_omit_72 rfl rfl rfl ?_
    exact k
theorem bX3_omit_74 {q M : Nat} {v1 v2 v3 v4 : Int32} {mc ms : Nat} {Q : xHp → Prop} (hW : xLay sh R) (hq : xMach sh R q M)
    (k : ((((I q 2) - (nI 1)) ≤ v4 → Ex mX3_omit 60 [.ref q, .int v1, .int v2, .int (v3 + nI 1), xU, xU] [] (sh, I, R) mc ms (xqV Q)) ∧ (¬ ((I q 2) - (nI 1)) ≤ v4 → ((v1 ≤ v2 → ((v1 ≤ v4 → CI mX3_at [.ref q, .int (v2 + (nI 1)), .int v3, .int (v4 + (nI 1))] (sh, I, R) (fun w h1 => Ex mX3_omit 117 [.ref q, .int v1, .int v2, .int v3, .int v4, xU] (.int w :: []) h1 mc ms (xqV Q))) ∧ (¬ v1 ≤ v4 → CI mX3_at [.ref q, .int (v2 + (nI 1)), .int v3, .int v4] (sh, I, R) (fun w h1 => Ex mX3_omit 117 [.ref q, .int v1, .int v2, .int v3, .int v4, xU] (.int w :: []) h1 mc ms (xqV Q))))) ∧ (¬ v1 ≤ v2 → ((v1 ≤ v4 → CI mX3_at [.ref q, .int v2, .int v3, .int (v4 + (nI 1))] (sh, I, R) (fun w h1 => Ex mX3_omit 117 [.ref q, .int v1, .int v2, .int v3, .int v4, xU] (.int w :: []) h1 mc ms (xqV Q))) ∧ (¬ v1 ≤ v4 → CI mX3_at [.ref q, .int v2, .int v3, .int v4] (sh, I, R) (fun w h1 => Ex mX3_omit 117 [.ref q, .int v1, .int v2, .int v3, .int v4, xU] (.int w :: []) h1 mc ms (xqV Q))))))))) :
    Ex mX3_omit 74 [.ref q, .int v1, .int v2, .int v3, .int v4, xU] [] (sh, I, R) mc ms (xqV Q) := by
  refine xw_iload dX3_omit_74 rfl ?_
  refine xw_aload_n dX3_omit_76 rfl rfl ?_
  refine yw_getI (v := I q 2) dX3_omit_77 fX3_31 rfl hq.1 rfl ?_
  refine xw_iconst (v := nI 1) dX3_omit_80 rfl ?_
  refine xw_isub dX3_omit_81 ?_
  refine xw_icge (tgt := 145) dX3_omit_82 (by decide) (fun c => ?_) (fun c => ?_)
  · replace k := k.1 c
    refine yw_iinc (lv' := [.ref q, .int v1, .int v2, .int (v3 + nI 1), .int v4, xU]) (v := nI 1) dX3_omit_145 rfl rfl rfl rfl rfl ?_
    refine xw_goto (tgt := 60) dX3_omit_148 (by decide) ?_
    exact yw_sub (lv' := [.ref q, .int v1, .int v2, .int (v3 + nI 1), xU, xU]) ⟨Or.inr rfl, Or.inr rfl, Or.inr rfl, Or.inr rfl, Or.inl rfl, Or.inl rfl, trivial⟩ k
  · replace k := k.2 c
    refine xw_aload_n dX3_omit_85 rfl rfl ?_
    refine xw_iload_n dX3_omit_86 rfl rfl ?_
    refine xw_iload_n dX3_omit_87 rfl rfl ?_
    refine xw_icge (tgt := 95) dX3_omit_88 (by decide) (fun c => ?_) (fun c => ?_)
    · replace k := k.1 c
      refine xw_iload_n dX3_omit_95 rfl rfl ?_
      refine xw_iconst (v := nI 1) dX3_omit_96 rfl ?_
      refine xw_iadd dX3_omit_97 ?_
      refine xw_iload_n dX3_omit_98 rfl rfl ?_
      refine xw_iload dX3_omit_99 rfl ?_
      refine xw_iload_n dX3_omit_101 rfl rfl ?_
      refine xw_icge (tgt := 110) dX3_omit_102 (by decide) (fun c => ?_) (fun c => ?_)
      · replace k := k.1 c
        refine xw_iload dX3_omit_110 rfl ?_
        refine xw_iconst (v := nI 1) dX3_omit_112 rfl ?_
        refine xw_iadd dX3_omit_113 ?_
        exact yw_cV (As := [.int (v2 + (nI 1)), .int v3, .int (v4 + (nI 1))]) (b := q) (st := []) dX3_omit_114 lX3_56 kiX3_at kvX3_at rfl rfl rfl hq.1 rfl (Nat.le_of_ble_eq_true rfl) rfl (xk_I k)
      · replace k := k.2 c
        refine xw_iload dX3_omit_105 rfl ?_
        refine xw_goto (tgt := 114) dX3_omit_107 (by decide) ?_
        exact yw_cV (As := [.int (v2 + (nI 1)), .int v3, .int v4]) (b := q) (st := []) dX3_omit_114 lX3_56 kiX3_at kvX3_at rfl rfl rfl hq.1 rfl (Nat.le_of_ble_eq_true rfl) rfl (xk_I k)
    · replace k := k.2 c
      refine xw_iload_n dX3_omit_91 rfl rfl ?_
      refine xw_goto (tgt := 98) dX3_omit_92 (by decide) ?_
      refine xw_iload_n dX3_omit_98 rfl rfl ?_
      refine xw_iload dX3_omit_99 rfl ?_
      refine xw_iload_n dX3_omit_101 rfl rfl ?_
      refine xw_icge (tgt := 110) dX3_omit_102 (by decide) (fun c => ?_) (fun c => ?_)
      · replace k := k.1 c
        refine xw_iload dX3_omit_110 rfl ?_
        refine xw_iconst (v := nI 1) dX3_omit_112 rfl ?_
        refine xw_iadd dX3_omit_113 ?_
        exact yw_cV (As := [.int v2, .int v3, .int (v4 + (nI 1))]) (b := q) (st := []) dX3_omit_114 lX3_56 kiX3_at kvX3_at rfl rfl rfl hq.1 rfl (Nat.le_of_ble_eq_true rfl) rfl (xk_I k)
      · replace k := k.2 c
        refine xw_iload dX3_omit_105 rfl ?_
        refine xw_goto (tgt := 114) dX3_omit_107 (by decide) ?_
        exact yw_cV (As := [.int v2, .int v3, .int v4]) (b := q) (st := []) dX3_omit_114 lX3_56 kiX3_at kvX3_at rfl rfl rfl hq.1 rfl (Nat.le_of_ble_eq_true rfl) rfl (xk_I k)
theorem bX3_omit_117 {q M : Nat} {v1 v2 v3 v4 s0 : Int32} {mc ms : Nat} {Q : xHp → Prop} (hW : xLay sh R) (hq : xMach sh R q M)
    (k : CI mX3_at [.ref q, .int v2, .int v3, .int v4] (sh, I, R) (fun w h1 => Ex mX3_omit 131 [.ref q, .int v1, .int v2, .int v3, .int v4, .int s0] (.int w :: [.ref (q + 3)]) h1 mc ms (xqV Q))) :
    Ex mX3_omit 117 [.ref q, .int v1, .int v2, .int v3, .int v4, xU] [.int s0] (sh, I, R) mc ms (xqV Q) := by
  refine yw_istore (lv' := [.ref q, .int v1, .int v2, .int v3, .int v4, .int s0]) dX3_omit_117 rfl rfl rfl ?_
  refine xw_aload_n dX3_omit_119 rfl rfl ?_
  refine yw_getR (r := (q + 3)) dX3_omit_120 fX3_28 rfl hq.1 hq.2.2.2.2.2.2.2 ?_
  refine xw_aload_n dX3_omit_123 rfl rfl ?_
  refine xw_iload_n dX3_omit_124 rfl rfl ?_
  refine xw_iload_n dX3_omit_125 rfl rfl ?_
  refine xw_iload dX3_omit_126 rfl ?_
  exact yw_cV (As := [.int v2, .int v3, .int v4]) (b := q) (st := [.ref (q + 3)]) dX3_omit_128 lX3_56 kiX3_at kvX3_at rfl rfl rfl hq.1 rfl (Nat.le_of_ble_eq_true rfl) rfl (xk_I k)
theorem bX3_omit_131 {q M : Nat} {v1 v2 v3 v4 v5 s1 : Int32} {mc ms : Nat} {Q : xHp → Prop} (hW : xLay sh R) (hq : xMach sh R q M)
    (k : vp_in v5 (M * 3 * M) ∧ vp_in s1 (M * 3 * M) ∧ Ex mX3_omit 74 [.ref q, .int v1, .int v2, .int v3, .int (v4 + nI 1), xU] [] (sh, (xi I (q + 3) s1.toNatClampNeg (I (q + 3) v5.toNatClampNeg)), R) mc ms (xqV Q)) :
    Ex mX3_omit 131 [.ref q, .int v1, .int v2, .int v3, .int v4, .int v5] [.int s1, .ref (q + 3)] (sh, I, R) mc ms (xqV Q) := by
  refine xw_aload_n dX3_omit_131 rfl rfl ?_
  refine yw_getR (r := (q + 3)) dX3_omit_132 fX3_28 rfl hq.1 hq.2.2.2.2.2.2.2 ?_
  refine xw_iload dX3_omit_135 rfl ?_
  obtain ⟨k0, k⟩ := k
  refine yw_iaload (v := I (q + 3) v5.toNatClampNeg) dX3_omit_137 hq.2.2.2.1 k0 rfl ?_
  obtain ⟨k0, k⟩ := k
  refine yw_iastore dX3_omit_138 hq.2.2.2.1 k0 ?_
  refine yw_iinc (lv' := [.ref q, .int v1, .int v2, .int v3, .int (v4 + nI 1), .int v5]) (v := nI 1) dX3_omit_139 rfl rfl rfl rfl rfl ?_
  refine xw_goto (tgt := 74) dX3_omit_142 (by decide) ?_
  exact yw_sub (lv' := [.ref q, .int v1, .int v2, .int v3, .int (v4 + nI 1), xU]) ⟨Or.inr rfl, Or.inr rfl, Or.inr rfl, Or.inr rfl, Or.inr rfl, Or.inl rfl, trivial⟩ k
theorem eX3_omit {q : Nat} {v1 : Int32} {h : xHp} {Q : xHp → Prop} (k : Ex mX3_omit 0 [.ref q, .int v1, xU, xU, xU, xU] [] h 0 0 (xqV Q)) : CV mX3_omit [.ref q, .int v1] h Q := k
theorem bX3_reverse_0 {q M : Nat} {mc ms : Nat} {Q : xHp → Prop} (hW : xLay sh R) (hq : xMach sh R q M)
    (k : Ex mX3_reverse 2 [.ref q, .int (nI 0), xU, xU, xU, xU] [] (sh, I, R) mc ms (xqV Q)) :
    Ex mX3_reverse 0 [.ref q, xU, xU, xU, xU, xU] [] (sh, I, R) mc ms (xqV Q) := by
  refine xw_iconst (v := nI 0) dX3_reverse_0 rfl ?_
  refine yw_istore_n (lv' := [.ref q, .int (nI 0), xU, xU, xU, xU]) dX3_reverse_1 rfl rfl rfl rfl ?_
  exact k
theorem bX3_reverse_2 {q M : Nat} {v1 : Int32} {mc ms : Nat} {Q : xHp → Prop} (hW : xLay sh R) (hq : xMach sh R q M)
    (k : (((I q 2) ≤ v1 → Q (sh, I, R)) ∧ (¬ (I q 2) ≤ v1 → vp_in v1 M ∧ vp_in v1 M ∧ vp_in v1 M ∧ vp_in v1 M ∧ Ex mX3_reverse 38 [.ref q, .int v1, xU, .int (nI 0), xU, xU] [] (sh, (xi (xi I (q + 1) v1.toNatClampNeg (I (q + 2) v1.toNatClampNeg)) (q + 2) v1.toNatClampNeg (I (q + 1) v1.toNatClampNeg)), R) mc ms (xqV Q)))) :
    Ex mX3_reverse 2 [.ref q, .int v1, xU, xU, xU, xU] [] (sh, I, R) mc ms (xqV Q) := by
  refine xw_iload_n dX3_reverse_2 rfl rfl ?_
  refine xw_aload_n dX3_reverse_3 rfl rfl ?_
  refine yw_getI (v := I q 2) dX3_reverse_4 fX3_31 rfl hq.1 rfl ?_
  refine xw_icge (tgt := 132) dX3_reverse_7 (by decide) (fun c => ?_) (fun c => ?_)
  · replace k := k.1 c
    exact yw_vret dX3_reverse_132 rfl k
  · replace k := k.2 c
    refine xw_aload_n dX3_reverse_10 rfl rfl ?_
    refine yw_getR (r := (q + 1)) dX3_reverse_11 fX3_21 rfl hq.1 hq.2.2.2.2.2.1 ?_
    refine xw_iload_n dX3_reverse_14 rfl rfl ?_
    obtain ⟨k0, k⟩ := k
    refine yw_iaload (v := I (q + 1) v1.toNatClampNeg) dX3_reverse_15 hq.2.1 k0 rfl ?_
    refine yw_istore_n (lv' := [.ref q, .int v1, .int (I (q + 1) v1.toNatClampNeg), xU, xU, xU]) dX3_reverse_16 rfl rfl rfl rfl ?_
    refine xw_aload_n dX3_reverse_17 rfl rfl ?_
    refine yw_getR (r := (q + 1)) dX3_reverse_18 fX3_21 rfl hq.1 hq.2.2.2.2.2.1 ?_
    refine xw_iload_n dX3_reverse_21 rfl rfl ?_
    refine xw_aload_n dX3_reverse_22 rfl rfl ?_
    refine yw_getR (r := (q + 2)) dX3_reverse_23 fX3_25 rfl hq.1 hq.2.2.2.2.2.2.1 ?_
    refine xw_iload_n dX3_reverse_26 rfl rfl ?_
    obtain ⟨k0, k⟩ := k
    refine yw_iaload (v := I (q + 2) v1.toNatClampNeg) dX3_reverse_27 hq.2.2.1 k0 rfl ?_
    obtain ⟨k0, k⟩ := k
    refine yw_iastore dX3_reverse_28 hq.2.1 k0 ?_
    refine xw_aload_n dX3_reverse_29 rfl rfl ?_
    refine yw_getR (r := (q + 2)) dX3_reverse_30 fX3_25 rfl hq.1 hq.2.2.2.2.2.2.1 ?_
    refine xw_iload_n dX3_reverse_33 rfl rfl ?_
    refine xw_iload_n dX3_reverse_34 rfl rfl ?_
    obtain ⟨k0, k⟩ := k
    refine yw_iastore dX3_reverse_35 hq.2.2.1 k0 ?_
    refine xw_iconst (v := nI 0) dX3_reverse_36 rfl ?_
    refine yw_istore_n (lv' := [.ref q, .int v1, .int (I (q + 1) v1.toNatClampNeg), .int (nI 0), xU, xU]) dX3_reverse_37 rfl rfl rfl rfl ?_
    exact yw_sub (lv' := [.ref q, .int v1, xU, .int (nI 0), xU, xU]) ⟨Or.inr rfl, Or.inr rfl, Or.inl rfl, Or.inr rfl, Or.inl rfl, Or.inl rfl, trivial⟩ k
theorem bX3_reverse_38 {q M : Nat} {v1 v3 : Int32} {mc ms : Nat} {Q : xHp → Prop} (hW : xLay sh R) (hq : xMach sh R q M)
    (k : (((I 1 1) ≤ v3 → Ex mX3_reverse 2 [.ref q, .int (v1 + nI 1), xU, xU, xU, xU] [] (sh, I, R) mc ms (xqV Q)) ∧ (¬ (I 1 1) ≤ v3 → Ex mX3_reverse 52 [.ref q, .int v1, xU, .int v3, .int (nI 0), xU] [] (sh, I, R) mc ms (xqV Q)))) :
    Ex mX3_reverse 38 [.ref q, .int v1, xU, .int v3, xU, xU] [] (sh, I, R) mc ms (xqV Q) := by
  refine xw_iload_n dX3_reverse_38 rfl rfl ?_
  refine xw_aload_n dX3_reverse_39 rfl rfl ?_
  refine yw_getR (r := 1) dX3_reverse_40 fX3_9 rfl hq.1 hq.2.2.2.2.1 ?_
  refine yw_getI (v := I 1 1) dX3_reverse_43 fX3_53 rfl (la_1 hW) rfl ?_
  refine xw_icge (tgt := 126) dX3_reverse_46 (by decide) (fun c => ?_) (fun c => ?_)
  · replace k := k.1 c
    refine yw_iinc (lv' := [.ref q, .int (v1 + nI 1), xU, .int v3, xU, xU]) (v := nI 1) dX3_reverse_126 rfl rfl rfl rfl rfl ?_
    refine xw_goto (tgt := 2) dX3_reverse_129 (by decide) ?_
    exact yw_sub (lv' := [.ref q, .int (v1 + nI 1), xU, xU, xU, xU]) ⟨Or.inr rfl, Or.inr rfl, Or.inl rfl, Or.inl rfl, Or.inl rfl, Or.inl rfl, trivial⟩ k
  · replace k := k.2 c
    refine xw_iconst (v := nI 0) dX3_reverse_49 rfl ?_
    refine yw_istore (lv' := [.ref q, .int v1, xU, .int v3, .int (nI 0), xU]) dX3_reverse_50 rfl rfl rfl ?_
    exact k
theorem bX3_reverse_52 {q M : Nat} {v1 v3 v4 : Int32} {mc ms : Nat} {Q : xHp → Prop} (hW : xLay sh R) (hq : xMach sh R q M)
    (k : ((v1 ≤ v4 → Ex mX3_reverse 38 [.ref q, .int v1, xU, .int (v3 + nI 1), xU, xU] [] (sh, I, R) mc ms (xqV Q)) ∧ (¬ v1 ≤ v4 → CI mX3_at [.ref q, .int v1, .int v3, .int v4] (sh, I, R) (fun w h1 => Ex mX3_reverse 70 [.ref q, .int v1, xU, .int v3, .int v4, xU] (.int w :: [.ref (q + 3)]) h1 mc ms (xqV Q))))) :
    Ex mX3_reverse 52 [.ref q, .int v1, xU, .int v3, .int v4, xU] [] (sh, I, R) mc ms (xqV Q) := by
  refine xw_iload dX3_reverse_52 rfl ?_
  refine xw_iload_n dX3_reverse_54 rfl rfl ?_
  refine xw_icge (tgt := 120) dX3_reverse_55 (by decide) (fun c => ?_) (fun c => ?_)
  · replace k := k.1 c
    refine yw_iinc (lv' := [.ref q, .int v1, xU, .int (v3 + nI 1), .int v4, xU]) (v := nI 1) dX3_reverse_120 rfl rfl rfl rfl rfl ?_
    refine xw_goto (tgt := 38) dX3_reverse_123 (by decide) ?_
    exact yw_sub (lv' := [.ref q, .int v1, xU, .int (v3 + nI 1), xU, xU]) ⟨Or.inr rfl, Or.inr rfl, Or.inl rfl, Or.inr rfl, Or.inl rfl, Or.inl rfl, trivial⟩ k
  · replace k := k.2 c
    refine xw_aload_n dX3_reverse_58 rfl rfl ?_
    refine yw_getR (r := (q + 3)) dX3_reverse_59 fX3_28 rfl hq.1 hq.2.2.2.2.2.2.2 ?_
    refine xw_aload_n dX3_reverse_62 rfl rfl ?_
    refine xw_iload_n dX3_reverse_63 rfl rfl ?_
    refine xw_iload_n dX3_reverse_64 rfl rfl ?_
    refine xw_iload dX3_reverse_65 rfl ?_
    exact yw_cV (As := [.int v1, .int v3, .int v4]) (b := q) (st := [.ref (q + 3)]) dX3_reverse_67 lX3_56 kiX3_at kvX3_at rfl rfl rfl hq.1 rfl (Nat.le_of_ble_eq_true rfl) rfl (xk_I k)
theorem bX3_reverse_70 {q M : Nat} {v1 v3 v4 s1 : Int32} {mc ms : Nat} {Q : xHp → Prop} (hW : xLay sh R) (hq : xMach sh R q M)
    (k : vp_in s1 (M * 3 * M) ∧ CI mX3_at [.ref q, .int v1, .int v3, .int v4] (sh, I, R) (fun w h1 => Ex mX3_reverse 85 [.ref q, .int v1, xU, .int v3, .int v4, .int (I (q + 3) s1.toNatClampNeg)] (.int w :: [.ref (q + 3)]) h1 mc ms (xqV Q))) :
    Ex mX3_reverse 70 [.ref q, .int v1, xU, .int v3, .int v4, xU] [.int s1, .ref (q + 3)] (sh, I, R) mc ms (xqV Q) := by
  obtain ⟨k0, k⟩ := k
  refine yw_iaload (v := I (q + 3) s1.toNatClampNeg) dX3_reverse_70 hq.2.2.2.1 k0 rfl ?_
  refine yw_istore (lv' := [.ref q, .int v1, xU, .int v3, .int v4, .int (I (q + 3) s1.toNatClampNeg)]) dX3_reverse_71 rfl rfl rfl ?_
  refine xw_aload_n dX3_reverse_73 rfl rfl ?_
  refine yw_getR (r := (q + 3)) dX3_reverse_74 fX3_28 rfl hq.1 hq.2.2.2.2.2.2.2 ?_
  refine xw_aload_n dX3_reverse_77 rfl rfl ?_
  refine xw_iload_n dX3_reverse_78 rfl rfl ?_
  refine xw_iload_n dX3_reverse_79 rfl rfl ?_
  refine xw_iload dX3_reverse_80 rfl ?_
  exact yw_cV (As := [.int v1, .int v3, .int v4]) (b := q) (st := [.ref (q + 3)]) dX3_reverse_82 lX3_56 kiX3_at kvX3_at rfl rfl rfl hq.1 rfl (Nat.le_of_ble_eq_true rfl) rfl (xk_I k)
theorem bX3_reverse_85 {q M : Nat} {v1 v3 v4 v5 s1 : Int32} {mc ms : Nat} {Q : xHp → Prop} (hW : xLay sh R) (hq : xMach sh R q M)
    (k : CI mX3_at [.ref q, .int v4, .int v3, .int v1] (sh, I, R) (fun w h1 => Ex mX3_reverse 97 [.ref q, .int v1, xU, .int v3, .int v4, .int v5] (.int w :: [.ref (q + 3), .int s1, .ref (q + 3)]) h1 mc ms (xqV Q))) :
    Ex mX3_reverse 85 [.ref q, .int v1, xU, .int v3, .int v4, .int v5] [.int s1, .ref (q + 3)] (sh, I, R) mc ms (xqV Q) := by
  refine xw_aload_n dX3_reverse_85 rfl rfl ?_
  refine yw_getR (r := (q + 3)) dX3_reverse_86 fX3_28 rfl hq.1 hq.2.2.2.2.2.2.2 ?_
  refine xw_aload_n dX3_reverse_89 rfl rfl ?_
  refine xw_iload dX3_reverse_90 rfl ?_
  refine xw_iload_n dX3_reverse_92 rfl rfl ?_
  refine xw_iload_n dX3_reverse_93 rfl rfl ?_
  exact yw_cV (As := [.int v4, .int v3, .int v1]) (b := q) (st := [.ref (q + 3), .int s1, .ref (q + 3)]) dX3_reverse_94 lX3_56 kiX3_at kvX3_at rfl rfl rfl hq.1 rfl (Nat.le_of_ble_eq_true rfl) rfl (xk_I k)
theorem bX3_reverse_97 {q M : Nat} {v1 v3 v4 v5 s3 s1 : Int32} {mc ms : Nat} {Q : xHp → Prop} (hW : xLay sh R) (hq : xMach sh R q M)
    (k : vp_in s3 (M * 3 * M) ∧ vp_in s1 (M * 3 * M) ∧ CI mX3_at [.ref q, .int v4, .int v3, .int v1] (sh, (xi I (q + 3) s1.toNatClampNeg (I (q + 3) s3.toNatClampNeg)), R) (fun w h1 => Ex mX3_reverse 111 [.ref q, .int v1, xU, .int v3, .int v4, .int v5] (.int w :: [.ref (q + 3)]) h1 mc ms (xqV Q))) :
    Ex mX3_reverse 97 [.ref q, .int v1, xU, .int v3, .int v4, .int v5] [.int s3, .ref (q + 3), .int s1, .ref (q + 3)] (sh, I, R) mc ms (xqV Q) := by
  obtain ⟨k0, k⟩ := k
  refine yw_iaload (v := I (q + 3) s3.toNatClampNeg) dX3_reverse_97 hq.2.2.2.1 k0 rfl ?_
  obtain ⟨k0, k⟩ := k
  refine yw_iastore dX3_reverse_98 hq.2.2.2.1 k0 ?_
  refine xw_aload_n dX3_reverse_99 rfl rfl ?_
  refine yw_getR (r := (q + 3)) dX3_reverse_100 fX3_28 rfl hq.1 hq.2.2.2.2.2.2.2 ?_
  refine xw_aload_n dX3_reverse_103 rfl rfl ?_
  refine xw_iload dX3_reverse_104 rfl ?_
  refine xw_iload_n dX3_reverse_106 rfl rfl ?_
  refine xw_iload_n dX3_reverse_107 rfl rfl ?_
  exact yw_cV (As := [.int v4, .int v3, .int v1]) (b := q) (st := [.ref (q + 3)]) dX3_reverse_108 lX3_56 kiX3_at kvX3_at rfl rfl rfl hq.1 rfl (Nat.le_of_ble_eq_true rfl) rfl (xk_I k)
theorem bX3_reverse_111 {q M : Nat} {v1 v3 v4 v5 s1 : Int32} {mc ms : Nat} {Q : xHp → Prop} (hW : xLay sh R) (hq : xMach sh R q M)
    (k : vp_in s1 (M * 3 * M) ∧ Ex mX3_reverse 52 [.ref q, .int v1, xU, .int v3, .int (v4 + nI 1), xU] [] (sh, (xi I (q + 3) s1.toNatClampNeg v5), R) mc ms (xqV Q)) :
    Ex mX3_reverse 111 [.ref q, .int v1, xU, .int v3, .int v4, .int v5] [.int s1, .ref (q + 3)] (sh, I, R) mc ms (xqV Q) := by
  refine xw_iload dX3_reverse_111 rfl ?_
  obtain ⟨k0, k⟩ := k
  refine yw_iastore dX3_reverse_113 hq.2.2.2.1 k0 ?_
  refine yw_iinc (lv' := [.ref q, .int v1, xU, .int v3, .int (v4 + nI 1), .int v5]) (v := nI 1) dX3_reverse_114 rfl rfl rfl rfl rfl ?_
  refine xw_goto (tgt := 52) dX3_reverse_117 (by decide) ?_
  exact yw_sub (lv' := [.ref q, .int v1, xU, .int v3, .int (v4 + nI 1), xU]) ⟨Or.inr rfl, Or.inr rfl, Or.inl rfl, Or.inr rfl, Or.inr rfl, Or.inl rfl, trivial⟩ k
theorem eX3_reverse {q : Nat} {h : xHp} {Q : xHp → Prop} (k : Ex mX3_reverse 0 [.ref q, xU, xU, xU, xU, xU] [] h 0 0 (xqV Q)) : CV mX3_reverse [.ref q] h Q := k
theorem bX3_multiplyStarts_0 {q M : Nat} {v1 : Int32} {mc ms : Nat} {Q : xHp → Prop} (hW : xLay sh R) (hq : xMach sh R q M)
    (k : Ex mX3_multiplyStarts 2 [.ref q, .int v1, .int (nI 0)] [] (sh, I, R) mc ms (xqV Q)) :
    Ex mX3_multiplyStarts 0 [.ref q, .int v1, xU] [] (sh, I, R) mc ms (xqV Q) := by
  refine xw_iconst (v := nI 0) dX3_multiplyStarts_0 rfl ?_
  refine yw_istore_n (lv' := [.ref q, .int v1, .int (nI 0)]) dX3_multiplyStarts_1 rfl rfl rfl rfl ?_
  exact k
theorem bX3_multiplyStarts_2 {q M : Nat} {v1 v2 : Int32} {mc ms : Nat} {Q : xHp → Prop} (hW : xLay sh R) (hq : xMach sh R q M)
    (k : (((I q 2) ≤ v2 → Q (sh, I, R)) ∧ (¬ (I q 2) ≤ v2 → vp_in v2 M ∧ ¬ I 1 0 = 0 ∧ vp_in v2 M ∧ Ex mX3_multiplyStarts 2 [.ref q, .int v1, .int (v2 + nI 1)] [] (sh, (xi I (q + 1) v2.toNatClampNeg (xrem ((I (q + 1) v2.toNatClampNeg) * v1) (I 1 0))), R) mc ms (xqV Q)))) :
    Ex mX3_multiplyStarts 2 [.ref q, .int v1, .int v2] [] (sh, I, R) mc ms (xqV Q) := by
  refine xw_iload_n dX3_multiplyStarts_2 rfl rfl ?_
  refine xw_aload_n dX3_multiplyStarts_3 rfl rfl ?_
  refine yw_getI (v := I q 2) dX3_multiplyStarts_4 fX3_31 rfl hq.1 rfl ?_
  refine xw_icge (tgt := 38) dX3_multiplyStarts_7 (by decide) (fun c => ?_) (fun c => ?_)
  · replace k := k.1 c
    exact yw_vret dX3_multiplyStarts_38 rfl k
  · replace k := k.2 c
    refine xw_aload_n dX3_multiplyStarts_10 rfl rfl ?_
    refine yw_getR (r := (q + 1)) dX3_multiplyStarts_11 fX3_21 rfl hq.1 hq.2.2.2.2.2.1 ?_
    refine xw_iload_n dX3_multiplyStarts_14 rfl rfl ?_
    refine xw_aload_n dX3_multiplyStarts_15 rfl rfl ?_
    refine yw_getR (r := (q + 1)) dX3_multiplyStarts_16 fX3_21 rfl hq.1 hq.2.2.2.2.2.1 ?_
    refine xw_iload_n dX3_multiplyStarts_19 rfl rfl ?_
    obtain ⟨k0, k⟩ := k
    refine yw_iaload (v := I (q + 1) v2.toNatClampNeg) dX3_multiplyStarts_20 hq.2.1 k0 rfl ?_
    refine xw_iload_n dX3_multiplyStarts_21 rfl rfl ?_
    refine xw_imul dX3_multiplyStarts_22 ?_
    refine xw_aload_n dX3_multiplyStarts_23 rfl rfl ?_
    refine yw_getR (r := 1) dX3_multiplyStarts_24 fX3_9 rfl hq.1 hq.2.2.2.2.1 ?_
    refine yw_getI (v := I 1 0) dX3_multiplyStarts_27 fX3_48 rfl (la_1 hW) rfl ?_
    obtain ⟨k0, k⟩ := k
    refine yw_irem dX3_multiplyStarts_30 k0 ?_
    obtain ⟨k0, k⟩ := k
    refine yw_iastore dX3_multiplyStarts_31 hq.2.1 k0 ?_
    refine yw_iinc (lv' := [.ref q, .int v1, .int (v2 + nI 1)]) (v := nI 1) dX3_multiplyStarts_32 rfl rfl rfl rfl rfl ?_
    refine xw_goto (tgt := 2) dX3_multiplyStarts_35 (by decide) ?_
    exact k
theorem eX3_multiplyStarts {q : Nat} {v1 : Int32} {h : xHp} {Q : xHp → Prop} (k : Ex mX3_multiplyStarts 0 [.ref q, .int v1, xU] [] h 0 0 (xqV Q)) : CV mX3_multiplyStarts [.ref q, .int v1] h Q := k
theorem bX2_nextResidue_0 {q : Nat} {mc ms : Nat} {Q : Int32 → xHp → Prop} (hW : xLay sh R) (hq : sh[q]? = some (.inl 2))
    (k : ¬ nI 128 = 0 ∧ ¬ nI 2 = 0 ∧ (((xrem (((((((I q 1) * (1103515245 : Int32)) + (nI 12345)).toUInt32 >>> ((nI 16).toUInt32 &&& Int32.toUInt32 31)).toInt32) &&& (nI 32767)) / (nI 128)) (nI 2)) = 0 → Q (nI 0) (sh, (xi I q 1 (((I q 1) * (1103515245 : Int32)) + (nI 12345))), R)) ∧ (¬ (xrem (((((((I q 1) * (1103515245 : Int32)) + (nI 12345)).toUInt32 >>> ((nI 16).toUInt32 &&& Int32.toUInt32 31)).toInt32) &&& (nI 32767)) / (nI 128)) (nI 2)) = 0 → (((nI 1) ≤ (I q 0) → ¬ I q 0 = 0 ∧ Q (xrem ((((((I q 1) * (1103515245 : Int32)) + (nI 12345)).toUInt32 >>> ((nI 16).toUInt32 &&& Int32.toUInt32 31)).toInt32) &&& (nI 32767)) (I q 0)) (sh, (xi I q 1 (((I q 1) * (1103515245 : Int32)) + (nI 12345))), R)) ∧ (¬ (nI 1) ≤ (I q 0) → Q (nI 0) (sh, (xi I q 1 (((I q 1) * (1103515245 : Int32)) + (nI 12345))), R)))))) :
    Ex mX2_nextResidue 0 [.ref q, xU] [] (sh, I, R) mc ms (xqI Q) := by
  refine xw_aload_n dX2_nextResidue_0 rfl rfl ?_
  refine xw_aload_n dX2_nextResidue_1 rfl rfl ?_
  refine yw_getI (v := I q 1) dX2_nextResidue_2 fX2_7 rfl hq rfl ?_
  refine xw_ldcI dX2_nextResidue_5 cX2_16 ?_
  refine xw_imul dX2_nextResidue_7 ?_
  refine xw_sipush (v := nI 12345) dX2_nextResidue_8 (by decide) ?_
  refine xw_iadd dX2_nextResidue_11 ?_
  refine yw_putI dX2_nextResidue_12 fX2_7 (fun r h => by cases h; exact Or.inl rfl) rfl hq ?_
  refine xw_aload_n dX2_nextResidue_15 rfl rfl ?_
  refine yw_getI (v := ((I q 1) * (1103515245 : Int32)) + (nI 12345)) dX2_nextResidue_16 fX2_7 rfl hq (xi_e) ?_
  refine xw_bipush (v := nI 16) dX2_nextResidue_19 (by decide) ?_
  refine xw_iushr dX2_nextResidue_21 ?_
  refine xw_sipush (v := nI 32767) dX2_nextResidue_22 (by decide) ?_
  refine xw_iand dX2_nextResidue_25 ?_
  refine yw_istore_n (lv' := [.ref q, .int ((((((I q 1) * (1103515245 : Int32)) + (nI 12345)).toUInt32 >>> ((nI 16).toUInt32 &&& Int32.toUInt32 31)).toInt32) &&& (nI 32767))]) dX2_nextResidue_26 rfl rfl rfl rfl ?_
  refine xw_iload_n dX2_nextResidue_27 rfl rfl ?_
  refine xw_sipush (v := nI 128) dX2_nextResidue_28 (by decide) ?_
  obtain ⟨k0, k⟩ := k
  refine xw_idiv dX2_nextResidue_31 k0 ?_
  refine xw_iconst (v := nI 2) dX2_nextResidue_32 rfl ?_
  obtain ⟨k0, k⟩ := k
  refine yw_irem dX2_nextResidue_33 k0 ?_
  refine xw_ifeq (tgt := 45) dX2_nextResidue_34 (by decide) (fun c => ?_) (fun c => ?_)
  · replace k := k.1 c
    refine xw_iconst (v := nI 0) dX2_nextResidue_45 rfl ?_
    refine xw_goto (tgt := 55) dX2_nextResidue_46 (by decide) ?_
    exact yw_iret dX2_nextResidue_55 rfl k
  · replace k := k.2 c
    refine xw_aload_n dX2_nextResidue_37 rfl rfl ?_
    refine yw_getI (v := I q 0) dX2_nextResidue_38 fX2_13 rfl hq (xi_s (j := 0) (k := 1) (by decide)) ?_
    refine xw_iconst (v := nI 1) dX2_nextResidue_41 rfl ?_
    refine xw_icge (tgt := 49) dX2_nextResidue_42 (by decide) (fun c => ?_) (fun c => ?_)
    · replace k := k.1 c
      refine xw_iload_n dX2_nextResidue_49 rfl rfl ?_
      refine xw_aload_n dX2_nextResidue_50 rfl rfl ?_
      refine yw_getI (v := I q 0) dX2_nextResidue_51 fX2_13 rfl hq (xi_s (j := 0) (k := 1) (by decide)) ?_
      obtain ⟨k0, k⟩ := k
      refine yw_irem dX2_nextResidue_54 k0 ?_
      exact yw_iret dX2_nextResidue_55 rfl k
    · replace k := k.2 c
      refine xw_iconst (v := nI 0) dX2_nextResidue_45 rfl ?_
      refine xw_goto (tgt := 55) dX2_nextResidue_46 (by decide) ?_
      exact yw_iret dX2_nextResidue_55 rfl k
theorem eX2_nextResidue {q : Nat} {h : xHp} {Q : Int32 → xHp → Prop} (k : Ex mX2_nextResidue 0 [.ref q, xU] [] h 0 0 (xqI Q)) : CI mX2_nextResidue [.ref q] h Q := k
end BLKA
