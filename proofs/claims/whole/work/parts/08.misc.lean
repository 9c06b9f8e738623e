section XR5
variable {Y : xM} {pc : Nat} {lv st : List Value} {h : xHp} {mc ms : Nat} {Q : Option Value → xHp → Prop}
/-- room for a leaf below: one frame, its words -/
theorem xcat (ad : Nat → Nat) (st : List Value) : ((st.map (xval ad)).map fun v => v.category).sum = (st.map fun v => v.category).sum := by
  rw [List.map_map]
  congr 1
  apply List.map_congr_left
  intro v _
  exact xval_cat ad v
theorem xw_acopy {idx q0 q1 n0 n1 : Nat} {sp dp n : Int32} (hd : decode Y.2.1 pc = .ok (.invokestatic idx, 3)) (hl1 : Cond.methodLink Y.1.cls idx arraycopyName ∈ xtbl) (hl2 : Cond.native arraycopyName ∈ xtbl) (hl3 : Cond.static arraycopyName ∈ xtbl) (hl4 : Cond.initialized "java/lang/System" ∈ xtbl)
    (hq0 : h.1[q0]? = some (.inr (0, n0))) (hq1 : h.1[q1]? = some (.inr (0, n1))) (hf : 1 ≤ Y.2.2.2.2.1) (ho : 26 ≤ Y.2.2.2.2.2.1) (hs : (st.map fun v => v.category).sum ≤ 8) (h1 : ¬ sp < 0) (h2 : ¬ dp < 0) (h3 : ¬ n < 0) (h4 : sp.toNatClampNeg + n.toNatClampNeg ≤ n0) (h5 : dp.toNatClampNeg + n.toNatClampNeg ≤ n1)
    (kk : Ex Y (pc + 3) lv st (xuA h q1 (va_cpy (h.2.1 q0) (h.2.1 q1) sp.toNatClampNeg dp.toNatClampNeg n.toNatClampNeg)) mc ms Q) : Ex Y pc lv (.int n :: .int dp :: .ref q1 :: .int sp :: .ref q0 :: st) h mc ms Q := by
  intro p l e R s m args below meth c dC dI dA ad A H locs cells slots Qw ls hC hH a1 a2 a3 a4 a5 a6
  obtain ⟨hx, hb, hml, hown, hts, hr, hlk, hnm, hfr, hlo, hG, hX⟩ := id hC
  refine va_copyi hx hb (hml.trans a5.1.symm) hown (hts _ hl1) (hts _ hl2) (hts _ hl3) (hts _ hl4) hG.1 hH.1 hH.2.1 hH.2.2.1 q0 q1 0 0 ((xW_at hq0).trans (by rw [xE_i (by decide)])) ((xW_at hq1).trans (by rw [xE_i (by decide)])) rfl rfl rfl h1 h2 h3 h4 h5 (fun i _ => rfl) (by omega) (by rw [xcat]; have : nativeFrameWords "java/lang/System" "arraycopy" 5 ≤ 7 := (by decide); omega) hd (fun H1 locs1 g1 g2 g3 => ?_)
  rw [xW_row _ (by decide) hq1] at g1 g2
  exact kk p l e R s m args below meth c dC dI dA ad A H1 locs1 cells slots Qw ls hC ⟨g1, g2, g3, hH.2.2.2⟩ a1 (xvs_cons.mp (xvs_cons.mp (xvs_cons.mp (xvs_cons.mp (xvs_cons.mp a2).2).2).2).2).2 a3 a4 a5 a6
theorem xw_objInit {idx q : Nat} (hd : decode Y.2.1 pc = .ok (.invokespecial idx, 3)) (hl1 : Cond.methodLink Y.1.cls idx Lib.objectInit ∈ xtbl) (hl2 : Cond.instanceMethod Lib.objectInit ∈ xtbl) (hl3 : Cond.code Lib.objectInit ⟨#[0xb1]⟩ 1 none ∈ xtbl) (hf : 1 ≤ Y.2.2.2.2.1) (ho : 20 ≤ Y.2.2.2.2.2.1) (hs : (st.map fun v => v.category).sum ≤ 8) (kk : Ex Y (pc + 3) lv st h mc ms Q) : Ex Y pc lv (.ref q :: st) h mc ms Q := by
  intro p l e R s m args below meth c dC dI dA ad A H locs cells slots Qw ls hC hH a1 a2 a3 a4 a5 a6
  obtain ⟨hx, hb, hml, hown, hts, hr, hlk, hnm, hfr, hlo, hG, hX⟩ := id hC
  exact W.objInit hx hb hown (hts _ hl1) (hts _ hl2) (hts _ hl3) rfl (a5.1.trans hml.symm) rfl hd (by omega) (by show 2 * 0 + _ + 12 ≤ _; rw [xcat]; omega) (kk p l e R s m args below meth c dC dI dA ad A H locs cells slots Qw ls hC hH a1 (xvs_cons.mp a2).2 a3 a4 a5 a6)
theorem xw_f2raw {idx : Nat} {b : UInt32} (hd : decode Y.2.1 pc = .ok (.invokestatic idx, 3)) (hl1 : Cond.methodLink Y.1.cls idx ⟨"java/lang/Float", "floatToRawIntBits", "(F)I"⟩ ∈ xtbl) (hl2 : Cond.native ⟨"java/lang/Float", "floatToRawIntBits", "(F)I"⟩ ∈ xtbl) (hl3 : Cond.static ⟨"java/lang/Float", "floatToRawIntBits", "(F)I"⟩ ∈ xtbl) (hl4 : Cond.initialized "java/lang/Float" ∈ xtbl) (hf : 1 ≤ Y.2.2.2.2.1) (ho : 23 ≤ Y.2.2.2.2.2.1) (hs : (st.map fun v => v.category).sum ≤ 8) (kk : Ex Y (pc + 3) lv (.int b.toInt32 :: st) h mc ms Q) : Ex Y pc lv (.float b :: st) h mc ms Q := by
  intro p l e R s m args below meth c dC dI dA ad A H locs cells slots Qw ls hC hH a1 a2 a3 a4 a5 a6
  obtain ⟨hx, hb, hml, hown, hts, hr, hlk, hnm, hfr, hlo, hG, hX⟩ := id hC
  exact vn_f2i hx hb (hml.trans a5.1.symm) hown (hts _ hl1) (hts _ hl2) (hts _ hl3) (hts _ hl4) (by omega) (by rw [xcat]; omega) hd (kk p l e R s m args below meth c dC dI dA ad A H locs cells slots Qw ls hC hH a1 (xvs_cons.mpr ⟨xvok_int, (xvs_cons.mp a2).2⟩) a3 a4 a5 a6)
theorem xw_d2raw {idx : Nat} {b : UInt64} (hd : decode Y.2.1 pc = .ok (.invokestatic idx, 3)) (hl1 : Cond.methodLink Y.1.cls idx ⟨"java/lang/Double", "doubleToRawLongBits", "(D)J"⟩ ∈ xtbl) (hl2 : Cond.native ⟨"java/lang/Double", "doubleToRawLongBits", "(D)J"⟩ ∈ xtbl) (hl3 : Cond.static ⟨"java/lang/Double", "doubleToRawLongBits", "(D)J"⟩ ∈ xtbl) (hl4 : Cond.initialized "java/lang/Double" ∈ xtbl) (hf : 1 ≤ Y.2.2.2.2.1) (ho : 23 ≤ Y.2.2.2.2.2.1) (hs : (st.map fun v => v.category).sum ≤ 8) (kk : Ex Y (pc + 3) lv (.long b.toInt64 :: st) h mc ms Q) : Ex Y pc lv (.double b :: st) h mc ms Q := by
  intro p l e R s m args below meth c dC dI dA ad A H locs cells slots Qw ls hC hH a1 a2 a3 a4 a5 a6
  obtain ⟨hx, hb, hml, hown, hts, hr, hlk, hnm, hfr, hlo, hG, hX⟩ := id hC
  exact vn_d2l hx hb (hml.trans a5.1.symm) hown (hts _ hl1) (hts _ hl2) (hts _ hl3) (hts _ hl4) (by omega) (by rw [xcat]; omega) hd (kk p l e R s m args below meth c dC dI dA ad A H locs cells slots Qw ls hC hH a1 (xvs_cons.mpr ⟨xvok_long, (xvs_cons.mp a2).2⟩) a3 a4 a5 a6)
/-- constants -/
theorem xw_const {pc' : Nat} {v : Value} (hw : ∀ (p : Program) (l : Launch) (e : Env) (R : Room) (s : State) (m : MethodId) (args : Array Value) (below : List Frame) (meth : Method) (c : Code) (H : Heap) (locs : List Loc) (cells slots : Nat) (Qw : State → Prop) (ls : Array Slot) (rest : List Value), p.tables.exec = Jvm.exec → c.code = Y.2.1 → s.vm.findClass Y.1.cls = some m.cls → (∀ w ∈ xtbl, w.before args s = true) → W p l e R s m args below meth c H locs cells slots Qw (F0 m pc' ls (v :: rest)) → W p l e R s m args below meth c H locs cells slots Qw (F0 m pc ls rest))
    (hv : ∀ k, v ≠ .ref k) (kk : Ex Y pc' lv (v :: st) h mc ms Q) : Ex Y pc lv st h mc ms Q := by
  intro p l e R s m args below meth c dC dI dA ad A H locs cells slots Qw ls hC hH a1 a2 a3 a4 a5 a6
  have hk := kk p l e R s m args below meth c dC dI dA ad A H locs cells slots Qw ls hC hH a1 (xvs_cons.mpr ⟨fun k e => absurd e (hv k), a2⟩) a3 a4 a5 a6
  have e9 : xval ad v = v := by cases v <;> first | rfl | exact absurd rfl (hv _)
  rw [List.map_cons, e9] at hk
  exact hw p l e R s m args below meth c H locs cells slots Qw ls _ hC.1 hC.2.1 hC.2.2.2.1 hC.2.2.2.2.1 hk
theorem xw_ldcI {idx : Nat} {v : Int32} (hd : decode Y.2.1 pc = .ok (.ldc idx, 2)) (hl : Cond.constant Y.1.cls idx v ∈ xtbl) (kk : Ex Y (pc + 2) lv (.int v :: st) h mc ms Q) : Ex Y pc lv st h mc ms Q := xw_const (fun p l e R s m args below meth c H locs cells slots Qw ls rest hx hb ho ht k => lv_ldc hx hb ho (ht _ hl) hd k) (fun _ e => by cases e) kk
theorem xw_ldcwI {idx : Nat} {v : Int32} (hd : decode Y.2.1 pc = .ok (.ldc_w idx, 3)) (hl : Cond.constant Y.1.cls idx v ∈ xtbl) (kk : Ex Y (pc + 3) lv (.int v :: st) h mc ms Q) : Ex Y pc lv st h mc ms Q := xw_const (fun p l e R s m args below meth c H locs cells slots Qw ls rest hx hb ho ht k => lv_ldcw hx hb ho (ht _ hl) hd k) (fun _ e => by cases e) kk
theorem xw_ldcF {idx : Nat} {v : UInt32} (hd : decode Y.2.1 pc = .ok (.ldc idx, 2)) (hl : Cond.constantFloat Y.1.cls idx v ∈ xtbl) (kk : Ex Y (pc + 2) lv (.float v :: st) h mc ms Q) : Ex Y pc lv st h mc ms Q := xw_const (fun p l e R s m args below meth c H locs cells slots Qw ls rest hx hb ho ht k => lv_ldcf hx hb ho (ht _ hl) hd k) (fun _ e => by cases e) kk
theorem xw_ldcL {idx : Nat} {v : Int64} (hd : decode Y.2.1 pc = .ok (.ldc2_w idx, 3)) (hl : Cond.constantLong Y.1.cls idx v ∈ xtbl) (kk : Ex Y (pc + 3) lv (.long v :: st) h mc ms Q) : Ex Y pc lv st h mc ms Q := xw_const (fun p l e R s m args below meth c H locs cells slots Qw ls rest hx hb ho ht k => lv_ldc2 hx hb ho (ht _ hl) hd k) (fun _ e => by cases e) kk
theorem xw_ldcD {idx : Nat} {v : UInt64} (hd : decode Y.2.1 pc = .ok (.ldc2_w idx, 3)) (hl : Cond.constantDouble Y.1.cls idx v ∈ xtbl) (kk : Ex Y (pc + 3) lv (.double v :: st) h mc ms Q) : Ex Y pc lv st h mc ms Q := xw_const (fun p l e R s m args below meth c H locs cells slots Qw ls rest hx hb ho ht k => lv_ldc2d hx hb ho (ht _ hl) hd k) (fun _ e => by cases e) kk
theorem xw_fconst0 (hd : decode Y.2.1 pc = .ok (.fconst 0, 1)) (kk : Ex Y (pc + 1) lv (.float FP.fconst0 :: st) h mc ms Q) : Ex Y pc lv st h mc ms Q := xw_const (fun p l e R s m args below meth c H locs cells slots Qw ls rest hx hb ho ht k => lv_fconst0 hx hb hd k) (fun _ e => by cases e) kk
theorem xw_fconst1 (hd : decode Y.2.1 pc = .ok (.fconst 1, 1)) (kk : Ex Y (pc + 1) lv (.float FP.fconst1 :: st) h mc ms Q) : Ex Y pc lv st h mc ms Q := xw_const (fun p l e R s m args below meth c H locs cells slots Qw ls rest hx hb ho ht k => lv_fconst1 hx hb hd k) (fun _ e => by cases e) kk
theorem xw_fconst2 (hd : decode Y.2.1 pc = .ok (.fconst 2, 1)) (kk : Ex Y (pc + 1) lv (.float FP.fconst2 :: st) h mc ms Q) : Ex Y pc lv st h mc ms Q := xw_const (fun p l e R s m args below meth c H locs cells slots Qw ls rest hx hb ho ht k => lv_fconst2 hx hb hd k) (fun _ e => by cases e) kk
theorem xw_dconst0 (hd : decode Y.2.1 pc = .ok (.dconst 0, 1)) (kk : Ex Y (pc + 1) lv (.double FP.dconst0 :: st) h mc ms Q) : Ex Y pc lv st h mc ms Q := xw_const (fun p l e R s m args below meth c H locs cells slots Qw ls rest hx hb ho ht k => lv_dconst0 hx hb hd k) (fun _ e => by cases e) kk
theorem xw_dconst1 (hd : decode Y.2.1 pc = .ok (.dconst 1, 1)) (kk : Ex Y (pc + 1) lv (.double FP.dconst1 :: st) h mc ms Q) : Ex Y pc lv st h mc ms Q := xw_const (fun p l e R s m args below meth c H locs cells slots Qw ls rest hx hb ho ht k => lv_dconst1 hx hb hd k) (fun _ e => by cases e) kk
/-- the law's script -/
theorem xw_slen {L : Nat} {xs : Nat → Int32} (hs : Y.2.2.2.2.2.2 = some (L, xs)) (hd : decode Y.2.1 pc = .ok (.arraylength, 1)) (kk : Ex Y (pc + 1) lv (.int (nI L) :: st) h mc ms Q) : Ex Y pc lv (.ref 1000000 :: st) h mc ms Q := by
  intro p l e R s m args below meth c dC dI dA ad A H locs cells slots Qw ls hC hH a1 a2 a3 a4 a5 a6
  obtain ⟨hx, hb, hml, hown, hts, hr, hlk, hnm, hfr, hlo, hG, hX⟩ := id hC
  rw [hs] at hX
  exact va_slen hx hb hX.1 hX.2.1 hX.2.2 hH.2.2.1 hd (kk p l e R s m args below meth c dC dI dA ad A H locs cells slots Qw ls hC hH a1 (xvs_cons.mpr ⟨xvok_int, (xvs_cons.mp a2).2⟩) a3 a4 a5 a6)
theorem xw_sld {L : Nat} {xs : Nat → Int32} {i : Int32} (hs : Y.2.2.2.2.2.2 = some (L, xs)) (hd : decode Y.2.1 pc = .ok (.iaload, 1)) (hin : vp_in i L) (kk : Ex Y (pc + 1) lv (.int (xs i.toNatClampNeg) :: st) h mc ms Q) : Ex Y pc lv (.int i :: .ref 1000000 :: st) h mc ms Q := by
  intro p l e R s m args below meth c dC dI dA ad A H locs cells slots Qw ls hC hH a1 a2 a3 a4 a5 a6
  obtain ⟨hx, hb, hml, hown, hts, hr, hlk, hnm, hfr, hlo, hG, hX⟩ := id hC
  rw [hs] at hX
  exact va_sld hx hb hX.1 hX.2.1 hX.2.2 hH.2.2.1 hin hd (kk p l e R s m args below meth c dC dI dA ad A H locs cells slots Qw ls hC hH a1 (xvs_cons.mpr ⟨xvok_int, (xvs_cons.mp (xvs_cons.mp a2).2).2⟩) a3 a4 a5 a6)
/-- String constants: the text i lies at 1000001 + i, its bytes at 1000011 + i -/
theorem xw_ldcS {idx i : Nat} (hi : i < 6) (hc : Y.1.cls = "WeightedWords$Reader") (hx9 : xSidx.getD i 0 = idx) (hd : decode Y.2.1 pc = .ok (.ldc idx, 2)) (kk : Ex Y (pc + 2) lv (.ref (1000001 + i) :: st) h mc ms Q) : Ex Y pc lv st h mc ms Q := by
  intro p l e R s m args below meth c dC dI dA ad A H locs cells slots Qw ls hC hH a1 a2 a3 a4 a5 a6
  obtain ⟨hx, hb, hml, hown, hts, hr, hlk, hnm, hfr, hlo, hG, hX⟩ := id hC
  have hZ := hG.2.2.2.1 i hi
  rw [hx9] at hZ
  exact va_ldcS hx hb (hc ▸ hown) hZ hd (kk p l e R s m args below meth c dC dI dA ad A H locs cells slots Qw ls hC hH a1 (xvs_cons.mpr ⟨xvok_ref.mpr (Or.inr (by omega)), a2⟩) a3 a4 a5 a6)
theorem xw_sval {idx i : Nat} (hi : i < 6) (hd : decode Y.2.1 pc = .ok (.getfield idx, 3)) (hl : Cond.fieldLink Y.1.cls idx "java/lang/String" "value" "[B" ∈ xtbl) (kk : Ex Y (pc + 3) lv (.ref (1000011 + i) :: st) h mc ms Q) : Ex Y pc lv (.ref (1000001 + i) :: st) h mc ms Q := by
  intro p l e R s m args below meth c dC dI dA ad A H locs cells slots Qw ls hC hH a1 a2 a3 a4 a5 a6
  obtain ⟨hx, hb, hml, hown, hts, hr, hlk, hnm, hfr, hlo, hG, hX⟩ := id hC
  exact vk_getf hx hb (hG.2.2.1.1 i hi).2.2.1 hH.2.2.1 hown (hts _ hl) (fun _ h9 => h9) hd (kk p l e R s m args below meth c dC dI dA ad A H locs cells slots Qw ls hC hH a1 (xvs_cons.mpr ⟨xvok_ref.mpr (Or.inr (by omega)), (xvs_cons.mp a2).2⟩) a3 a4 a5 a6)
theorem xw_scoder {idx i : Nat} (hi : i < 6) (hd : decode Y.2.1 pc = .ok (.getfield idx, 3)) (hl : Cond.fieldLink Y.1.cls idx "java/lang/String" "coder" "B" ∈ xtbl) (kk : Ex Y (pc + 3) lv (.int 0 :: st) h mc ms Q) : Ex Y pc lv (.ref (1000001 + i) :: st) h mc ms Q := by
  intro p l e R s m args below meth c dC dI dA ad A H locs cells slots Qw ls hC hH a1 a2 a3 a4 a5 a6
  obtain ⟨hx, hb, hml, hown, hts, hr, hlk, hnm, hfr, hlo, hG, hX⟩ := id hC
  exact vk_getf hx hb (hG.2.2.1.1 i hi).2.1 hH.2.2.1 hown (hts _ hl) (fun _ h9 => h9) hd (kk p l e R s m args below meth c dC dI dA ad A H locs cells slots Qw ls hC hH a1 (xvs_cons.mpr ⟨xvok_int, (xvs_cons.mp a2).2⟩) a3 a4 a5 a6)
theorem xw_sbyte {i : Nat} {j : Int32} (hi : i < 6) (hd : decode Y.2.1 pc = .ok (.baload, 1)) (hj : vp_in j (xSlen.getD i 0)) (kk : Ex Y (pc + 1) lv (.int ((xSbyt.getD i []).getD j.toNatClampNeg 0) :: st) h mc ms Q) : Ex Y pc lv (.int j :: .ref (1000011 + i) :: st) h mc ms Q := by
  intro p l e R s m args below meth c dC dI dA ad A H locs cells slots Qw ls hC hH a1 a2 a3 a4 a5 a6
  obtain ⟨hx, hb, hml, hown, hts, hr, hlk, hnm, hfr, hlo, hG, hX⟩ := id hC
  exact va_tb hx hb (hG.2.2.1.1 i hi).2.2.2 hH.2.2.1 hj rfl hd (kk p l e R s m args below meth c dC dI dA ad A H locs cells slots Qw ls hC hH a1 (xvs_cons.mpr ⟨xvok_int, (xvs_cons.mp (xvs_cons.mp a2).2).2⟩) a3 a4 a5 a6)
theorem xw_sblen {i : Nat} (hi : i < 6) (hd : decode Y.2.1 pc = .ok (.arraylength, 1)) (kk : Ex Y (pc + 1) lv (.int (nI (xSlen.getD i 0)) :: st) h mc ms Q) : Ex Y pc lv (.ref (1000011 + i) :: st) h mc ms Q := by
  intro p l e R s m args below meth c dC dI dA ad A H locs cells slots Qw ls hC hH a1 a2 a3 a4 a5 a6
  obtain ⟨hx, hb, hml, hown, hts, hr, hlk, hnm, hfr, hlo, hG, hX⟩ := id hC
  obtain ⟨cell, g1, g2, g3, g4, g5, g6, g7⟩ := (hG.2.2.1.1 i hi).2.2.2
  exact W.alen (n := Int32.ofNat (xSlen.getD i 0)) hx hb (by rw [hH.2.2.1.2.1 _ (Array.getElem?_eq_some_iff.mp g1).1 g7]; exact g1) g2 g5 rfl rfl hd (kk p l e R s m args below meth c dC dI dA ad A H locs cells slots Qw ls hC hH a1 (xvs_cons.mpr ⟨xvok_int, (xvs_cons.mp a2).2⟩) a3 a4 a5 a6)
theorem xw_compact {idx : Nat} (hd : decode Y.2.1 pc = .ok (.getstatic idx, 3)) (hl : Cond.fieldLink Y.1.cls idx "java/lang/String" "COMPACT_STRINGS" "Z" ∈ xtbl) (kk : Ex Y (pc + 3) lv (.int 1 :: st) h mc ms Q) : Ex Y pc lv st h mc ms Q := by
  intro p l e R s m args below meth c dC dI dA ad A H locs cells slots Qw ls hC hH a1 a2 a3 a4 a5 a6
  obtain ⟨hx, hb, hml, hown, hts, hr, hlk, hnm, hfr, hlo, hG, hX⟩ := id hC
  exact va_gets hx hb hG.2.2.2.2.1 hH.2.2.1 hown (hts _ hl) (fun _ h9 => h9) hd (kk p l e R s m args below meth c dC dI dA ad A H locs cells slots Qw ls hC hH a1 (xvs_cons.mpr ⟨xvok_int, a2⟩) a3 a4 a5 a6)
theorem xw_fmt {idx : Nat} (hd : decode Y.2.1 pc = .ok (.getstatic idx, 3)) (hl : Cond.fieldLink Y.1.cls idx "jdk/internal/util/Preconditions" "SIOOBE_FORMATTER" "Ljava/util/function/BiFunction;" ∈ xtbl) (kn : Ex Y (pc + 3) lv (.null :: st) h mc ms Q) (kr : Ex Y (pc + 3) lv (.ref 1000020 :: st) h mc ms Q) : Ex Y pc lv st h mc ms Q := by
  intro p l e R s m args below meth c dC dI dA ad A H locs cells slots Qw ls hC hH a1 a2 a3 a4 a5 a6
  obtain ⟨hx, hb, hml, hown, hts, hr, hlk, hnm, hfr, hlo, hG, hX⟩ := id hC
  rcases hG.2.2.2.2.2.1 with hz | hz
  · exact va_gets hx hb hz hH.2.2.1 hown (hts _ hl) (fun _ h9 => h9) hd (kn p l e R s m args below meth c dC dI dA ad A H locs cells slots Qw ls hC hH a1 (xvs_cons.mpr ⟨xvok_null, a2⟩) a3 a4 a5 a6)
  · exact va_gets hx hb hz hH.2.2.1 hown (hts _ hl) (fun _ h9 => h9) hd (kr p l e R s m args below meth c dC dI dA ad A H locs cells slots Qw ls hC hH a1 (xvs_cons.mpr ⟨xvok_ref.mpr (Or.inr (by omega)), a2⟩) a3 a4 a5 a6)
theorem xw_max {idx : Nat} {x y : Int32} (hd : decode Y.2.1 pc = .ok (.invokestatic idx, 3)) (hl1 : Cond.methodLink Y.1.cls idx Lib.Math.max.name ∈ xtbl) (hl3 : Cond.static Lib.Math.max.name ∈ xtbl) (hl4 : Cond.initialized "java/lang/Math" ∈ xtbl) (hl5 : Cond.code Lib.Math.max.name Lib.Math.max.code 2 (some .int) ∈ xtbl) (hf : 1 ≤ Y.2.2.2.2.1) (ho : 21 ≤ Y.2.2.2.2.2.1) (hs : (st.map fun v => v.category).sum ≤ 8) (kk : Ex Y (pc + 3) lv (.int (if x < y then y else x) :: st) h mc ms Q) : Ex Y pc lv (.int y :: .int x :: st) h mc ms Q := by
  intro p l e R s m args below meth c dC dI dA ad A H locs cells slots Qw ls hC hH a1 a2 a3 a4 a5 a6
  obtain ⟨hx, hb, hml, hown, hts, hr, hlk, hnm, hfr, hlo, hG, hX⟩ := id hC
  exact va_mmax hx hb (hml.trans a5.1.symm) hown (hts _ hl1) (hts _ hl3) (hts _ hl4) (hts _ hl5) (by omega) (by rw [xcat]; omega) (by omega) (by omega) hd (kk p l e R s m args below meth c dC dI dA ad A H locs cells slots Qw ls hC hH a1 (xvs_cons.mpr ⟨xvok_int, (xvs_cons.mp (xvs_cons.mp a2).2).2⟩) a3 a4 a5 a6)
end XR5
