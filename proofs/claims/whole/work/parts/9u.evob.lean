section EVOB
variable {sh : List xSh} {I : Nat → Nat → Int32} {R : Nat → Nat → Option Nat}
variable {Y Y' : xM} {pc : Nat} {mc ms mc1 ms1 : Nat} {Q : Option Value → xHp → Prop}
/-- everything but the object 0 and its two tables stays -/
def uU (sh : List xSh) (I : Nat → Nat → Int32) (R : Nat → Nat → Option Nat) (sh' : List xSh) (I' : Nat → Nat → Int32) (R' : Nat → Nat → Option Nat) : Prop := gS sh sh' ∧ sh.length ≤ sh'.length ∧ ∀ a, a < sh.length → a ≠ 0 → a ≠ 20 → a ≠ 22 → I' a = I a ∧ R' a = R a
theorem uU.tr {sh1 sh2 : List xSh} {I1 I2 : Nat → Nat → Int32} {R1 R2 : Nat → Nat → Option Nat} (h : uU sh I R sh1 I1 R1) (h2 : uU sh1 I1 R1 sh2 I2 R2) : uU sh I R sh2 I2 R2 := ⟨h.1.tr h2.1, Nat.le_trans h.2.1 h2.2.1, fun a ha h0 h20 h22 => by
  obtain ⟨x1, x2⟩ := h.2.2 a ha h0 h20 h22
  obtain ⟨y1, y2⟩ := h2.2.2 a (Nat.lt_of_lt_of_le ha h.2.1) h0 h20 h22
  exact ⟨y1.trans x1, y2.trans x2⟩⟩
theorem evK.u {k n : Nat} {sh' : List xSh} {I' : Nat → Nat → Int32} {R' : Nat → Nat → Option Nat} (h : evK sh I R 0 k n sh' I' R') : uU sh I R sh' I' R' := ⟨h.1, by have := h.2.1; omega, fun a ha h0 _ _ => h.2.2.1 a ha h0⟩
theorem evA.u {k : Nat} {s : xSh} {sh' : List xSh} {I' : Nat → Nat → Int32} {R' : Nat → Nat → Option Nat} (h : evA sh I R 0 k s sh' I' R') : uU sh I R sh' I' R' := ⟨h.S, by have := h.len; omega, fun a ha h0 _ _ => h.2.1 a (by omega) h0⟩
/-- what a constructor of cn gives -/
def ctor (Y' : xM) (As : List Value) (mc1 ms1 cn n : Nat) (P : Nat → List xSh → (Nat → Nat → Int32) → (Nat → Nat → Option Nat) → Prop) : Prop := ∀ (sh1 : List xSh) (I1 : Nat → Nat → Int32) (R1 : Nat → Nat → Option Nat) (q : Nat) (Q' : xHp → Prop), sh1[q]? = some (.inl cn) → q + 1 = sh1.length → sh1[1]? = some (.inl 5) → 1 < q → sh1.length + 100 ≤ 1000000 → (∀ j, I1 q j = 0) → (∀ sh2 I2 R2, gS sh1 sh2 → sh2.length = sh1.length + n → (∀ a, a < q → I2 a = I1 a ∧ R2 a = R1 a) → P q sh2 I2 R2 → Q' (sh2, I2, R2)) → Cl Y' (.ref q :: .ref 1 :: As) (sh1, I1, R1) mc1 ms1 (xqV Q')
theorem ev_ob {idxN idxC idxF cn k n : Nat} {P : Nat → List xSh → (Nat → Nat → Int32) → (Nat → Nat → Option Nat) → Prop} (hd0 : decode Y.2.1 pc = .ok (.new idxN, 3)) (hd1 : decode Y.2.1 (pc + 3) = .ok (.dup, 1)) (hd2 : decode Y.2.1 (pc + 4) = .ok (.aload_n 0, 1)) (hd3 : decode Y.2.1 (pc + 5) = .ok (.getfield 10, 3)) (hd4 : decode Y.2.1 (pc + 8) = .ok (.invokespecial idxC, 3)) (hd5 : decode Y.2.1 (pc + 11) = .ok (.putfield idxF, 3))
    (hK : xK Y.1.cls idxN cn) (hF0 : xF Y.1.cls 10 9 0) (hL : xL Y.1.cls idxC Y' 1) (hki : Cond.instanceMethod Y'.1 ∈ xtbl) (hnm : Y'.1.name = "<init>") (hv9 : Y'.2.2.2.1 = none) (hB : xB Y Y') (h2 : Nat.ble 2 Y'.2.2.1 = true) (hF : xF Y.1.cls idxF 9 k) (hP : xP Y 9 k) (hty : xref (xft 9 k) = true) (hr0 : xref (xft 9 0) = true)
    (hq : sh[0]? = some (.inl 9)) (h1 : sh[1]? = some (.inl 5)) (hR0 : R 0 0 = some 1) (h1q : 1 < sh.length) (hl : sh.length + 110 ≤ 1000000) (hc : ctor Y' [] mc1 ms1 cn n P)
    (kk : ∀ sh' I' R' R2, evK sh I R 0 k (n + 1) sh' I' R' → P sh.length sh' I' R2 → (∀ a, a ≠ 0 → R' a = R2 a) → sh'[sh.length]? = some (.inl cn) → Ex Y (pc + 14) [.ref 0, xU] [] (sh', I', R') mc ms Q) : Ex Y pc [.ref 0, xU] [.ref 0] (sh, I, R) ((mc1 + mc) + 1) ((ms1 + ms) + xN cn) Q := by
  refine yw_newO hd0 hK (by omega) (fun sh1 I1 R1 p1 => ?_)
  have l1 := p1.len
  refine xw_dup hd1 rfl ?_
  refine xw_aload_n hd2 rfl rfl ?_
  refine yw_getR (r := 1) hd3 hF0 hr0 (p1.S _ _ hq) (by rw [(p1.2.1 0 (by omega)).2]; exact hR0) ?_
  refine xw_callI (Y' := Y') (As := [.ref 1]) (b := sh.length) (st := [.ref sh.length, .ref 0]) hd4 hL hki hnm hv9 hB rfl rfl (Nat.le_of_ble_eq_true rfl) (Nat.le_of_ble_eq_true h2) ?_
  refine xk_W (hc sh1 I1 R1 sh.length _ p1.at l1.symm (p1.S _ _ h1) h1q (by omega) p1.2.2.1 (fun sh2 I2 R2 s2 l2 e2 hp => ?_))
  refine yw_putR hd5 hF hP hty (s2 _ _ (p1.S _ _ hq)) (s2 _ _ p1.at) (kk sh2 I2 _ R2 ⟨p1.S.tr s2, by omega, fun a ha hne => ⟨?_, ?_⟩, fun j => ?_, fun j hj => ?_, xr_e⟩ hp (fun a ha => by funext j; rw [xr_p ha]) (s2 _ _ p1.at))
  · rw [(e2 a ha).1, (p1.2.1 a (by omega)).1]
  · funext j; rw [xr_p hne, (e2 a ha).2, (p1.2.1 a (by omega)).2]
  · rw [(e2 0 (by omega)).1, (p1.2.1 0 (by omega)).1]
  · rw [xr_s hj, (e2 0 (by omega)).2, (p1.2.1 0 (by omega)).2]
/-- into a table of objects, at j -/
theorem ev_st {idxN idxC cn n t N tb : Nat} {j : Int32} {P : Nat → List xSh → (Nat → Nat → Int32) → (Nat → Nat → Option Nat) → Prop} (hd0 : decode Y.2.1 pc = .ok (.new idxN, 3)) (hd1 : decode Y.2.1 (pc + 3) = .ok (.dup, 1)) (hd2 : decode Y.2.1 (pc + 4) = .ok (.aload_n 0, 1)) (hd3 : decode Y.2.1 (pc + 5) = .ok (.getfield 10, 3)) (hd4 : decode Y.2.1 (pc + 8) = .ok (.invokespecial idxC, 3)) (hd5 : decode Y.2.1 (pc + 11) = .ok (.aastore, 1))
    (hK : xK Y.1.cls idxN cn) (hF0 : xF Y.1.cls 10 9 0) (hL : xL Y.1.cls idxC Y' 1) (hki : Cond.instanceMethod Y'.1 ∈ xtbl) (hnm : Y'.1.name = "<init>") (hv9 : Y'.2.2.2.1 = none) (hB : xB Y Y') (h2 : Nat.ble 2 Y'.2.2.1 = true) (hr0 : xref (xft 9 0) = true) (hcomp : xcomp t cn) (hj : vp_in j N)
    (hq : sh[0]? = some (.inl 9)) (h1 : sh[1]? = some (.inl 5)) (hR0 : R 0 0 = some 1) (htb : sh[tb]? = some (.inr (t, N))) (h1q : 1 < sh.length) (hl : sh.length + 110 ≤ 1000000) (hc : ctor Y' [] mc1 ms1 cn n P)
    (kk : ∀ sh' I' R' R2, gS sh sh' → sh'.length = sh.length + (n + 1) → (∀ a, a < sh.length → I' a = I a ∧ R2 a = R a) → P sh.length sh' I' R2 → R' = xr R2 tb j.toNatClampNeg (some sh.length) → Ex Y (pc + 12) [.ref 0, .int j] [] (sh', I', R') mc ms Q) : Ex Y pc [.ref 0, .int j] [.int j, .ref tb] (sh, I, R) ((mc1 + mc) + 1) ((ms1 + ms) + xN cn) Q := by
  refine yw_newO hd0 hK (by omega) (fun sh1 I1 R1 p1 => ?_)
  have l1 := p1.len
  refine xw_dup hd1 rfl ?_
  refine xw_aload_n hd2 rfl rfl ?_
  refine yw_getR (r := 1) hd3 hF0 hr0 (p1.S _ _ hq) (by rw [(p1.2.1 0 (by omega)).2]; exact hR0) ?_
  refine xw_callI (Y' := Y') (As := [.ref 1]) (b := sh.length) (st := [.ref sh.length, .int j, .ref tb]) hd4 hL hki hnm hv9 hB rfl rfl (Nat.le_of_ble_eq_true rfl) (Nat.le_of_ble_eq_true h2) ?_
  refine xk_W (hc sh1 I1 R1 sh.length _ p1.at l1.symm (p1.S _ _ h1) h1q (by omega) p1.2.2.1 (fun sh2 I2 R2 s2 l2 e2 hp => ?_))
  refine yw_aastore hd5 (s2 _ _ (p1.S _ _ htb)) (s2 _ _ p1.at) hcomp hj (kk sh2 I2 _ R2 (p1.S.tr s2) (by omega) (fun a ha => ⟨?_, ?_⟩) hp rfl)
  · rw [(e2 a ha).1, (p1.2.1 a (by omega)).1]
  · rw [(e2 a ha).2, (p1.2.1 a (by omega)).2]
end EVOB
