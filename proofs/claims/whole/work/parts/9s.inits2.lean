section INIT2
variable {sh : List xSh} {I : Nat → Nat → Int32} {R : Nat → Nat → Option Nat}
variable {Y : xM} {pc : Nat} {mc ms : Nat} {Q : Option Value → xHp → Prop}
theorem xMach.gr1 {sh' : List xSh} {R' : Nat → Nat → Option Nat} {p M : Nat} (h : xMach sh R p M) (hs : gS sh sh') (hr : R' p = R p) : xMach sh' R' p M := by
  obtain ⟨a, b, c, d, e, f, g, i⟩ := h
  exact ⟨hs _ _ a, hs _ _ b, hs _ _ c, hs _ _ d, by rw [hr]; exact e, by rw [hr]; exact f, by rw [hr]; exact g, by rw [hr]; exact i⟩
theorem xSpan.gr1 {sh' : List xSh} {R' : Nat → Nat → Option Nat} {p : Nat} (h : xSpan sh R p) (hs : gS sh sh') (hr : ∀ a, p ≤ a → a < p + 22 → R' a = R a) : xSpan sh' R' p := by
  obtain ⟨a, b, c, d, e, f, g, i, j, k, m, n⟩ := h
  have l := hr p (by omega) (by omega)
  exact ⟨hs _ _ a, by rw [l]; exact b, by rw [l]; exact c, by rw [l]; exact d, by rw [l]; exact e, by rw [l]; exact f, by rw [l]; exact g, hs _ _ i, hs _ _ j, hs _ _ k, m.gr1 hs (hr _ (by omega) (by omega)), n.gr1 hs (hr _ (by omega) (by omega))⟩
/-- a new object that is wholly built, put into a field of q -/
def evK (sh : List xSh) (I : Nat → Nat → Int32) (R : Nat → Nat → Option Nat) (q k n : Nat) (sh' : List xSh) (I' : Nat → Nat → Int32) (R' : Nat → Nat → Option Nat) : Prop :=
  gS sh sh' ∧ sh'.length = sh.length + n ∧ (∀ a, a < sh.length → a ≠ q → I' a = I a ∧ R' a = R a) ∧ (∀ j, I' q j = I q j) ∧ (∀ j, j ≠ k → R' q j = R q j) ∧ R' q k = some sh.length
theorem ev_mach {idxN idxC idxF ci k q M : Nat} {c : Int} (hd0 : decode Y.2.1 pc = .ok (.new idxN, 3)) (hd1 : decode Y.2.1 (pc + 3) = .ok (.dup, 1)) (hd2 : decode Y.2.1 (pc + 4) = .ok (.aload_n 1, 1)) (hd3 : decode Y.2.1 (pc + 5) = .ok (.iconst c, 1)) (hcM : Int32.ofInt c = nI M) (hd4 : decode Y.2.1 (pc + 6) = .ok (.invokespecial idxC, 3)) (hd5 : decode Y.2.1 (pc + 9) = .ok (.putfield idxF, 3))
    (hK : xK Y.1.cls idxN 3) (hL : xL Y.1.cls idxC mX3_init 2) (hB : xB Y mX3_init) (hF : xF Y.1.cls idxF ci k) (hP : xP Y ci k) (hty : xref (xft ci k) = true) (hq : sh[q]? = some (.inl ci)) (hM : M ≤ 8) (h1 : sh[1]? = some (.inl 5)) (h1q : 1 < q) (hl : sh.length + 4 ≤ 1000000)
    (kk : ∀ sh' I' R', evK sh I R q k 4 sh' I' R' → xMach sh' R' sh.length M → I' sh.length 1 = nI M → (∀ j, j ≠ 1 → I' sh.length j = 0) → (∀ c, c = sh.length + 1 ∨ c = sh.length + 2 ∨ c = sh.length + 3 → ∀ j, I' c j = 0) → Ex Y (pc + 12) [.ref q, .ref 1] [] (sh', I', R') mc ms Q) : Ex Y pc [.ref q, .ref 1] [.ref q] (sh, I, R) (((0 + 1 + 1 + 1) + mc) + 1) (((0 + M * 3 * M + M + M) + ms) + xN 3) Q := by
  have hlq := lt_of hq
  refine yw_newO hd0 hK (by omega) (fun sh1 I1 R1 p1 => ?_)
  have l1 := p1.len
  refine xw_dup hd1 rfl ?_
  refine xw_aload_n hd2 rfl rfl ?_
  refine xw_iconst (v := nI M) hd3 hcM ?_
  refine xw_callI (Y' := mX3_init) (As := [.ref 1, .int (nI M)]) (b := sh.length) (st := [.ref sh.length, .ref q]) hd4 hL kiX3_init rfl rfl hB rfl rfl (Nat.le_of_ble_eq_true rfl) (Nat.le_of_ble_eq_true rfl) ?_
  refine xk_W (x3_init hM p1.at l1.symm (p1.S _ _ h1) (by omega) (by omega) (fun sh2 I2 R2 s2 l2 e2 m2 i1 i2 z2 => ?_))
  refine yw_putR hd5 hF hP hty (s2 _ _ (p1.S _ _ hq)) m2.1 (kk sh2 I2 _ ⟨p1.S.tr s2, by omega, fun a ha hne => ⟨?_, ?_⟩, fun j => ?_, fun j hj => ?_, xr_e⟩ (m2.gr1 (fun _ _ h => h) (by funext j; rw [xr_p (by omega)])) i1 (fun j hj => ?_) z2)
  · rw [(e2 a ha).1, (p1.2.1 a (by omega)).1]
  · funext j; rw [xr_p hne, (e2 a ha).2, (p1.2.1 a (by omega)).2]
  · rw [(e2 q hlq).1, (p1.2.1 q (by omega)).1]
  · rw [xr_s hj, (e2 q hlq).2, (p1.2.1 q (by omega)).2]
  · rw [i2 j hj]; exact p1.2.2.1 j
abbrev bcS : Nat := 0 + 1 + 1 + 1 + (1 + 8) + (1 + 8)
abbrev bsS : Nat := 0 + 8 + 8 + 8 + (8 + 8 * 8) + (8 + 8 * 8)
theorem ev_span {idxN idxC idxF ci k q : Nat} (hd0 : decode Y.2.1 pc = .ok (.new idxN, 3)) (hd1 : decode Y.2.1 (pc + 3) = .ok (.dup, 1)) (hd2 : decode Y.2.1 (pc + 4) = .ok (.aload_n 1, 1)) (hd4 : decode Y.2.1 (pc + 5) = .ok (.invokespecial idxC, 3)) (hd5 : decode Y.2.1 (pc + 8) = .ok (.putfield idxF, 3))
    (hK : xK Y.1.cls idxN 7) (hL : xL Y.1.cls idxC mX7_init 1) (hB : xB Y mX7_init) (hF : xF Y.1.cls idxF ci k) (hP : xP Y ci k) (hty : xref (xft ci k) = true) (hq : sh[q]? = some (.inl ci)) (h1 : sh[1]? = some (.inl 5)) (h1q : 1 < q) (hl : sh.length + 23 ≤ 1000000)
    (kk : ∀ sh' I' R', evK sh I R q k 22 sh' I' R' → xSpan sh' R' sh.length → Ex Y (pc + 11) [.ref q, .ref 1] [] (sh', I', R') mc ms Q) : Ex Y pc [.ref q, .ref 1] [.ref q] (sh, I, R) ((bcS + mc) + 1) ((bsS + ms) + xN 7) Q := by
  have hlq := lt_of hq
  refine yw_newO hd0 hK (by omega) (fun sh1 I1 R1 p1 => ?_)
  have l1 := p1.len
  refine xw_dup hd1 rfl ?_
  refine xw_aload_n hd2 rfl rfl ?_
  refine xw_callI (mc1 := bcS) (ms1 := bsS) (mc := mc) (ms := ms) (Y' := mX7_init) (As := [.ref 1]) (b := sh.length) (st := [.ref sh.length, .ref q]) hd4 hL kiX7_init rfl rfl hB rfl rfl (Nat.le_of_ble_eq_true rfl) (Nat.le_of_ble_eq_true rfl) ?_
  refine xk_W (x7_init p1.at l1.symm (p1.S _ _ h1) (by omega) (by omega) (fun sh2 I2 R2 s2 l2 e2 m2 => ?_))
  refine yw_putR hd5 hF hP hty (s2 _ _ (p1.S _ _ hq)) m2.1 (kk sh2 I2 _ ⟨p1.S.tr s2, by omega, fun a ha hne => ⟨?_, ?_⟩, fun j => ?_, fun j hj => ?_, xr_e⟩ (m2.gr1 (fun _ _ h => h) (fun a h1 h2 => by funext j; rw [xr_p (by omega)])))
  · rw [(e2 a ha).1, (p1.2.1 a (by omega)).1]
  · funext j; rw [xr_p hne, (e2 a ha).2, (p1.2.1 a (by omega)).2]
  · rw [(e2 q hlq).1, (p1.2.1 q (by omega)).1]
  · rw [xr_s hj, (e2 q hlq).2, (p1.2.1 q (by omega)).2]
abbrev bcR : Nat := ((0 + 1 + 1 + 1) + 0) + 1 + 1 + 1
abbrev bsR : Nat := ((0 + 4 * 3 * 4 + 4 + 4) + 0) + xN 3 + 3 + 200
theorem x4_init {q : Nat} {Q : xHp → Prop} (hq : sh[q]? = some (.inl 4)) (hq1 : q + 1 = sh.length) (h1 : sh[1]? = some (.inl 5)) (h1q : 1 < q) (hl : sh.length + 10 ≤ 1000000)
    (k : ∀ sh' I' R', gS sh sh' → sh'.length = sh.length + 6 → (∀ a, a < q → I' a = I a ∧ R' a = R a) → sh'[q]? = some (.inl 4) → sh'[q + 1]? = some (.inr (2, 200)) → sh'[q + 2]? = some (.inr (1, 3)) → xMach sh' R' (q + 3) 4 → R' q 0 = some (q + 1) → R' q 7 = some (q + 2) → R' q 6 = some (q + 3) → (∀ j, I' q j = I q j) → I' (q + 3) 1 = nI 4 → Q (sh', I', R')) : Cl mX4_init [.ref q, .ref 1] (sh, I, R) bcR bsR (xqV Q) := by
  show Ex mX4_init 0 [.ref q, .ref 1] [] (sh, I, R) bcR bsR (xqV Q)
  refine xw_aload_n dX4_init_0 rfl rfl ?_
  refine xw_objInit dX4_init_1 lX4_3 ko_i ko_c (Nat.le_of_ble_eq_true rfl) (Nat.le_of_ble_eq_true rfl) (Nat.le_of_ble_eq_true rfl) ?_
  refine xw_aload_n dX4_init_4 rfl rfl ?_
  refine xw_sipush (v := nI 200) dX4_init_5 (by decide) ?_
  refine ev_arr (N := 200) (mc := ((0 + 1 + 1 + 1) + 0) + 1 + 1) (ms := ((0 + 4 * 3 * 4 + 4 + 4) + 0) + xN 3 + 3) dX4_init_8 dX4_init_10 (Or.inr (Or.inr ⟨rfl, rfl⟩)) k_arrB rfl (by omega) fX4_11 (fun r h => by cases h; first | exact Or.inl rfl | exact Or.inr ⟨rfl, rfl, rfl⟩) rfl hq (by omega) (fun sh1 I1 R1 e1 => ?_)
  have l1 := e1.len
  have a1 := e1.S _ _ hq
  refine xw_aload_n dX4_init_13 rfl rfl ?_
  refine xw_iconst (v := nI 3) dX4_init_14 rfl ?_
  refine ev_arr (N := 3) (mc := ((0 + 1 + 1 + 1) + 0) + 1) (ms := ((0 + 4 * 3 * 4 + 4 + 4) + 0) + xN 3) dX4_init_15 dX4_init_17 (Or.inr (Or.inl ⟨rfl, rfl⟩)) k_arrZ rfl (by omega) fX4_15 (fun r h => by cases h; first | exact Or.inl rfl | exact Or.inr ⟨rfl, rfl, rfl⟩) rfl a1 (by omega) (fun sh2 I2 R2 e2 => ?_)
  have l2 := e2.len
  have a2 := e2.S _ _ a1
  refine xw_aload_n dX4_init_20 rfl rfl ?_
  refine ev_mach (M := 4) (mc := 0) (ms := 0) dX4_init_21 dX4_init_24 dX4_init_25 dX4_init_26 rfl dX4_init_27 dX4_init_30 nX4_19 lX4_21 (xB_of rfl) fX4_24 (fun r h => by cases h; first | exact Or.inl rfl | exact Or.inr ⟨rfl, rfl, rfl⟩) rfl a2 (by omega) (e2.S _ _ (e1.S _ _ h1)) h1q (by omega) (fun sh3 I3 R3 e3 m3 i31 _ _ => ?_)
  obtain ⟨g3, l3, u3, i3, r3, t3⟩ := e3
  refine yw_vret dX4_init_33 rfl ?_
  have p1 : sh.length = q + 1 := hq1.symm
  have p2 : sh1.length = q + 2 := by omega
  have p3 : sh2.length = q + 3 := by omega
  have s1 := e1.at; rw [p1] at s1
  have s2 := e2.at; rw [p2] at s2
  have v1 := e1.2.2.2.2.1; rw [p1] at v1
  have v2 := e2.2.2.2.2.1; rw [p2] at v2
  rw [p3] at m3 t3 i31
  refine k sh3 I3 R3 (e1.S.tr (e2.S.tr g3)) (by omega) (fun a ha => ⟨?_, ?_⟩) (g3 _ _ a2) (g3 _ _ (e2.S _ _ s1)) (g3 _ _ s2) m3 ?_ ?_ t3 (fun j => ?_) i31
  · rw [(u3 a (by omega) (by omega)).1, (e2.2.1 a (by omega) (by omega)).1, (e1.2.1 a (by omega) (by omega)).1]
  · rw [(u3 a (by omega) (by omega)).2, (e2.2.1 a (by omega) (by omega)).2, (e1.2.1 a (by omega) (by omega)).2]
  · rw [r3 0 (by decide), e2.2.2.2.1 0 (by decide), v1]
  · rw [r3 7 (by decide), v2]
  · rw [i3 j, e2.2.2.1 j, e1.2.2.1 j]
end INIT2
