/-! THE CLASS'S ROWS of a state -/
section CST
variable {sh : List xSh} {I : Nat → Nat → Int32} {R : Nat → Nat → Option Nat}
/-- a study: teacher, guess, table -/
def stC (I : Nat → Nat → Int32) (L q : Nat) (τ : Tb) : Prop := cM I L (q + 3) 4 τ.A ∧ I q 8 = bI τ.g ∧ (τ.g = true → cM I L (q + 7) 4 τ.G) ∧ (∃ n, n ≤ 4 ∧ I (q + 7) 2 = nI n) ∧ I q 5 = nI τ.P.length ∧ (∀ j, j < τ.P.length → I (q + 1) j = nI (τ.P.getD j 0)) ∧ I q 6 = nI τ.S.length ∧ (∀ j, j < τ.S.length → I (q + 2) j = nI (τ.S.getD j 0)) ∧ I q 7 = τ.r
theorem stC.eq {I I' : Nat → Nat → Int32} {L q : Nat} {τ : Tb} (h : stC I L q τ) (hf : ∀ c, q ≤ c → c ≤ q + 10 → I' c = I c) : stC I' L q τ := by
  obtain ⟨a1, a2, a3, a4, a5, a6, a7, a8, a9⟩ := h
  have e0 := hf q (by omega) (by omega)
  exact ⟨a1.eq (hf _ (by omega) (by omega)) (hf _ (by omega) (by omega)) (hf _ (by omega) (by omega)) (hf _ (by omega) (by omega)), by rw [e0]; exact a2, fun g => (a3 g).eq (hf _ (by omega) (by omega)) (hf _ (by omega) (by omega)) (hf _ (by omega) (by omega)) (hf _ (by omega) (by omega)), by rw [hf (q + 7) (by omega) (by omega)]; exact a4, by rw [e0]; exact a5, by rw [hf (q + 1) (by omega) (by omega)]; exact a6, by rw [e0]; exact a7, by rw [hf (q + 2) (by omega) (by omega)]; exact a8, by rw [e0]; exact a9⟩
def mC (I : Nat → Nat → Int32) : Prop := (∀ q, q ∈ [5, 12, 16, 173, 181, 185, 192, 196] → I q 1 = nI 4) ∧ I 169 1 = nI 8
def cKep (I : Nat → Nat → Int32) (L k : Nat) : Option Tb → Prop
  | none => I 21 k = nI 0
  | some τ => I 21 k = nI 1 ∧ stC I L (178 + 11 * k) τ
def cPl (sh : List xSh) (I : Nat → Nat → Int32) (R : Nat → Nat → Option Nat) : Prop := (∀ k i q, k < 3 → i < 8 → R (200 + 3 * k + 1) i = some q → 230 ≤ q ∧ xMach sh R q 4 ∧ I q 1 = nI 4) ∧ ∀ k i k' i' q q', k < 3 → i < 8 → k' < 3 → i' < 8 → R (200 + 3 * k + 1) i = some q → R (200 + 3 * k' + 1) i' = some q' → (k = k' ∧ i = i') ∨ q + 3 < q' ∨ q' + 3 < q
def cCl (I : Nat → Nat → Int32) (R : Nat → Nat → Option Nat) (L k i : Nat) : Option (Nat × Mac) → Prop
  | none => I (200 + 3 * k + 2) i = -1
  | some c => I (200 + 3 * k + 2) i = nI c.1 ∧ ∃ q, R (200 + 3 * k + 1) i = some q ∧ cM I L q 4 c.2
def cSh (I : Nat → Nat → Int32) (R : Nat → Nat → Option Nat) (L k : Nat) : Option Shf → Prop
  | none => I (200 + 3 * k) 4 = -1
  | some s => I (200 + 3 * k) 4 = nI s.size ∧ I (200 + 3 * k) 3 = nI s.lane ∧ ∀ i, i < 8 → cCl I R L k i (s.cell i)
def lsK (I : Nat → Nat → Int32) (σ : St) : Prop := I 0 11 = nI 0 ∨ (I 0 11 = nI 1 ∧ ∃ _ : NeZero σ.p, madeOK σ.p σ.L σ.t.A (BS σ.p σ.L σ.t.A) (fst σ.L 4) (fun i => i) (LeM σ.p σ.L σ.t.A) ∧ cM I σ.L 173 4 (LeM σ.p σ.L σ.t.A) ∧ ∀ j, j < (BS σ.p σ.L σ.t.A).length → I 177 j = nI ((BS σ.p σ.L σ.t.A).getD j 0))
def clR (sh : List xSh) (I : Nat → Nat → Int32) (R : Nat → Nat → Option Nat) (σ : St) : Prop := stOK σ ∧ xLay sh R ∧ (∃ h t, hT R h t) ∧ cCtx I σ.p σ.L ∧ mC I ∧ stC I σ.L 9 σ.t ∧ (∀ k, k < 2 → cKep I σ.L k (σ.kept k)) ∧ cPl sh I R ∧ (∀ k, k < 3 → cSh I R σ.L k (σ.shf k)) ∧ (I 0 12 = nI (wnum σ.L σ.word) ∧ I 0 13 = nI σ.word.length) ∧ (I 2 1 = nI σ.tape.length ∧ ∀ j, j < σ.tape.length → I 3 j = nI (σ.tape.getD j 0)) ∧ I 0 14 = σ.fault ∧ lsK I σ
theorem clR.ok {σ : St} (h : clR sh I R σ) : stOK σ := h.1
theorem clR.lay {σ : St} (h : clR sh I R σ) : xLay sh R := h.2.1
theorem clR.ht {σ : St} (h : clR sh I R σ) : ∃ a b, hT R a b := h.2.2.1
theorem clR.ctx {σ : St} (h : clR sh I R σ) : cCtx I σ.p σ.L := h.2.2.2.1
theorem clR.mc {σ : St} (h : clR sh I R σ) : mC I := h.2.2.2.2.1
theorem clR.st {σ : St} (h : clR sh I R σ) : stC I σ.L 9 σ.t := h.2.2.2.2.2.1
theorem clR.kept {σ : St} (h : clR sh I R σ) : ∀ k, k < 2 → cKep I σ.L k (σ.kept k) := h.2.2.2.2.2.2.1
theorem clR.pl {σ : St} (h : clR sh I R σ) : cPl sh I R := h.2.2.2.2.2.2.2.1
theorem clR.shf {σ : St} (h : clR sh I R σ) : ∀ k, k < 3 → cSh I R σ.L k (σ.shf k) := h.2.2.2.2.2.2.2.2.1
theorem clR.word {σ : St} (h : clR sh I R σ) : I 0 12 = nI (wnum σ.L σ.word) ∧ I 0 13 = nI σ.word.length := h.2.2.2.2.2.2.2.2.2.1
theorem clR.tape {σ : St} (h : clR sh I R σ) : I 2 1 = nI σ.tape.length ∧ ∀ j, j < σ.tape.length → I 3 j = nI (σ.tape.getD j 0) := h.2.2.2.2.2.2.2.2.2.2.1
theorem clR.fault {σ : St} (h : clR sh I R σ) : I 0 14 = σ.fault := h.2.2.2.2.2.2.2.2.2.2.2.1
theorem clR.ls {σ : St} (h : clR sh I R σ) : lsK I σ := h.2.2.2.2.2.2.2.2.2.2.2.2
theorem clR.A {σ : St} (h : clR sh I R σ) : cM I σ.L 12 4 σ.t.A := h.st.1
theorem clR.okA {σ : St} (h : clR sh I R σ) : σ.t.A.1 ≤ 4 ∧ okM σ.p σ.L σ.t.A := by obtain ⟨_, h1, h2, -⟩ := h.ok.t; exact ⟨h1, h2⟩
def cFr (I I' : Nat → Nat → Int32) : Prop := ∀ c, 209 ≤ c → c < 230 → I' c = I c
theorem cFr.rf {I : Nat → Nat → Int32} : cFr I I := fun _ _ _ => rfl
theorem cFr.tr {I I1 I2 : Nat → Nat → Int32} (h1 : cFr I I1) (h2 : cFr I1 I2) : cFr I I2 := fun c a b => (h2 c a b).trans (h1 c a b)
theorem mRep.e210 {I I' : Nat → Nat → Int32} {L m : Nat} {A : Mac} (h : mRep I L m A) (e : I' 210 = I 210) : mRep I' L m A := by
  obtain ⟨h1, h2, h3, h4, h5⟩ := h
  exact ⟨h1, by rw [e]; exact h2, by rw [e]; exact h3, by rw [e]; exact h4, by rw [e]; exact h5⟩
theorem mdR.cf {I I' : Nat → Nat → Int32} {σ : St} (h : mdR I σ) (hf : cFr I I') : mdR I' σ := by
  have e : ∀ c, 209 ≤ c → c < 230 → I' c = I c := hf
  have e9 : ∀ j, I' 209 j = I 209 j := fun j => by rw [e 209 (by omega) (by omega)]
  have e0 := e 210 (by omega) (by omega)
  exact ⟨h.ok, by rw [e9]; exact h.c1, by rw [e9]; exact h.c2, h.A.e210 e0, by rw [e9]; exact h.g, fun q => (h.G q).e210 e0, h.P.eq (e9 _) (e _ (by omega) (by omega)), h.S.eq (e9 _) (e _ (by omega) (by omega)), by rw [e9]; exact h.r, fun k hk => (h.kept k hk).eq (e _ (by omega) (by omega)) (e _ (by omega) (by omega)) (fun A hA => hA.e210 e0) (fun A hA => hA.e210 e0), fun k hk => (h.shf k hk).eq (fun s es => (h.ok.shf k s es).2.1) (by rw [e 227 (by omega) (by omega)]) (by rw [e 228 (by omega) (by omega)]) (fun i _ => by rw [e 229 (by omega) (by omega)]) (fun i A _ hA => hA.e210 e0), h.word.eq (e9 _) (e _ (by omega) (by omega)), h.tape.eq (e9 _) (e _ (by omega) (by omega)), by rw [e9]; exact h.fault, fun j hj => by rw [e 219 (by omega) (by omega)]; exact h.nmE j hj, fun j hj => by rw [e 220 (by omega) (by omega)]; exact h.nmL j hj⟩
theorem cSh.eq {I I' : Nat → Nat → Int32} {R R' : Nat → Nat → Option Nat} {L k : Nat} {o : Option Shf} (h : cSh I R L k o) (h0 : I' (200 + 3 * k) = I (200 + 3 * k)) (h2 : I' (200 + 3 * k + 2) = I (200 + 3 * k + 2)) (hR : ∀ i, R' (200 + 3 * k + 1) i = R (200 + 3 * k + 1) i) (hq : ∀ i q A, i < 8 → R (200 + 3 * k + 1) i = some q → cM I L q 4 A → cM I' L q 4 A) : cSh I' R' L k o := by
  cases o with
  | none => show I' _ 4 = _; rw [h0]; exact h
  | some s =>
    obtain ⟨a1, a2, a3⟩ := h
    refine ⟨by rw [h0]; exact a1, by rw [h0]; exact a2, fun i hi => ?_⟩
    have := a3 i hi
    revert this
    cases s.cell i with
    | none => intro z; show I' _ i = _; rw [h2]; exact z
    | some c => rintro ⟨z1, q, z2, z3⟩; exact ⟨by rw [h2]; exact z1, q, by rw [hR]; exact z2, hq i q _ hi z2 z3⟩
theorem cKep.eq {I I' : Nat → Nat → Int32} {L k : Nat} {o : Option Tb} (h : cKep I L k o) (h21 : I' 21 k = I 21 k) (hf : ∀ c, 178 + 11 * k ≤ c → c ≤ 178 + 11 * k + 10 → I' c = I c) : cKep I' L k o := by
  cases o with
  | none => show I' 21 k = _; rw [h21]; exact h
  | some τ => exact ⟨by rw [h21]; exact h.1, h.2.eq hf⟩
/-- only scratch rows have changed -/
def sF (I I' : Nat → Nat → Int32) : Prop := (∀ c, c < 23 ∨ 173 ≤ c → I' c = I c) ∧ I' 169 1 = I 169 1
theorem sF.rf {I : Nat → Nat → Int32} : sF I I := ⟨fun _ _ => rfl, rfl⟩
theorem sF.tr {I I1 I2 : Nat → Nat → Int32} (h1 : sF I I1) (h2 : sF I1 I2) : sF I I2 := ⟨fun c hc => (h2.1 c hc).trans (h1.1 c hc), h2.2.trans h1.2⟩
theorem sF.of {I I' : Nat → Nat → Int32} (h : Ou 23 82 I I') : sF I I' := ⟨fun c hc => h c (by omega), by rw [h 169 (by omega)]⟩
theorem sF.c {I I' : Nat → Nat → Int32} (h : sF I I') : cFr I I' := fun c h1 h2 => h.1 c (by omega)
theorem rG.cell {R R' : Nat → Nat → Option Nat} (h : rG R R') (k i : Nat) : R' (200 + 3 * k + 1) i = R (200 + 3 * k + 1) i := h _ _ (Or.inl (by omega))
theorem cPl.eq {I' : Nat → Nat → Int32} {R' : Nat → Nat → Option Nat} (h : cPl sh I R) (hr : rG R R') (hf : ∀ q, 230 ≤ q → I' q = I q) : cPl sh I' R' := by
  refine ⟨fun k i q hk hi e => ?_, fun k i k' i' q q' hk hi hk' hi' e e' => ?_⟩
  · rw [hr.cell] at e
    obtain ⟨a1, a2, a3⟩ := h.1 k i q hk hi e
    exact ⟨a1, hr.mach a2 (by omega), by rw [hf q a1]; exact a3⟩
  · rw [hr.cell] at e e'
    exact h.2 k i k' i' q q' hk hi hk' hi' e e'
theorem clR.scr2 {I' : Nat → Nat → Int32} {R' : Nat → Nat → Option Nat} {σ : St} (h : clR sh I R σ) (e : ∀ c, (1 ≤ c ∧ c < 23) ∨ 178 ≤ c → I' c = I c) (e0 : ∀ j, j ≠ 11 → I' 0 j = I 0 j) (e1 : I' 169 1 = I 169 1) (e3 : I' 173 1 = nI 4) (hr : rG R R') (hh : ∃ a b, hT R' a b) (hls : lsK I' σ) : clR sh I' R' σ := by
  refine ⟨h.ok, hr.lay h.lay, hh, h.ctx.eq (e 1 (by omega)), ⟨fun q hq => ?_, by rw [e1]; exact h.mc.2⟩, h.st.eq (fun c h1 h2 => e c (by omega)), fun k hk => (h.kept k hk).eq (by rw [e 21 (by omega)]) (fun c h1 h2 => e c (by omega)), h.pl.eq hr (fun q hq => e q (by omega)), fun k hk => (h.shf k hk).eq (e _ (by omega)) (e _ (by omega)) (fun i => hr.cell k i) (fun i q A hi eq hA => ?_), by rw [e0 12 (by decide), e0 13 (by decide)]; exact h.word, ⟨by rw [e 2 (by omega)]; exact h.tape.1, fun j hj => by rw [e 3 (by omega)]; exact h.tape.2 j hj⟩, by rw [e0 14 (by decide)]; exact h.fault, hls⟩
  · by_cases e9 : q = 173
    · subst e9; exact e3
    · have hq2 : (1 ≤ q ∧ q < 23) ∨ 178 ≤ q := by revert hq; simp; omega
      rw [e q hq2]; exact h.mc.1 q hq
  · have := (h.pl.1 k i q hk hi eq).1
    exact hA.eq (e _ (by omega)) (e _ (by omega)) (e _ (by omega)) (e _ (by omega))
theorem clR.scr {I' : Nat → Nat → Int32} {R' : Nat → Nat → Option Nat} {σ : St} (h : clR sh I R σ) (hs : sF I I') (hr : rG R R') (hh : ∃ a b, hT R' a b) : clR sh I' R' σ := by
  have e := hs.1
  refine ⟨h.ok, hr.lay h.lay, hh, h.ctx.eq (e 1 (by omega)), ⟨fun q hq => ?_, by rw [hs.2]; exact h.mc.2⟩, h.st.eq (fun c h1 h2 => e c (by omega)), fun k hk => (h.kept k hk).eq (by rw [e 21 (by omega)]) (fun c h1 h2 => e c (by omega)), h.pl.eq hr (fun q hq => e q (by omega)), fun k hk => (h.shf k hk).eq (e _ (by omega)) (e _ (by omega)) (fun i => hr.cell k i) (fun i q A hi eq hA => ?_), by rw [e 0 (by omega)]; exact h.word, ⟨by rw [e 2 (by omega)]; exact h.tape.1, fun j hj => by rw [e 3 (by omega)]; exact h.tape.2 j hj⟩, by rw [e 0 (by omega)]; exact h.fault, ?_⟩
  · have hq2 : q < 23 ∨ 173 ≤ q := by revert hq; simp; omega
    rw [e q hq2]; exact h.mc.1 q hq
  · have := (h.pl.1 k i q hk hi eq).1
    exact hA.eq (e _ (by omega)) (e _ (by omega)) (e _ (by omega)) (e _ (by omega))
  · rcases h.ls with z | ⟨z1, nz, z0, z2, z3⟩
    · exact Or.inl (by rw [e 0 (by omega)]; exact z)
    · exact Or.inr ⟨by rw [e 0 (by omega)]; exact z1, nz, z0, z2.eq (e _ (by omega)) (e _ (by omega)) (e _ (by omega)) (e _ (by omega)), fun j hj => by rw [e 177 (by omega)]; exact z3 j hj⟩
theorem clR.mf {I' : Nat → Nat → Int32} {σ : St} (h : clR sh I R σ) (hf : mFr I I') : clR sh I' R σ := by
  have e : ∀ c, c < 209 ∨ 230 ≤ c → I' c = I c := hf
  refine ⟨h.ok, h.lay, h.ht, h.ctx.eq (e 1 (by omega)), ⟨fun q hq => ?_, by rw [e 169 (by omega)]; exact h.mc.2⟩, h.st.eq (fun c h1 h2 => e c (by omega)), fun k hk => (h.kept k hk).eq (by rw [e 21 (by omega)]) (fun c h1 h2 => e c (by omega)), h.pl.eq rG.rf (fun q hq => e q (by omega)), fun k hk => (h.shf k hk).eq (e _ (by omega)) (e _ (by omega)) (fun i => rfl) (fun i q A hi eq hA => ?_), by rw [e 0 (by omega)]; exact h.word, ⟨by rw [e 2 (by omega)]; exact h.tape.1, fun j hj => by rw [e 3 (by omega)]; exact h.tape.2 j hj⟩, by rw [e 0 (by omega)]; exact h.fault, ?_⟩
  · have hq2 : q < 209 := by revert hq; simp; omega
    rw [e q (by omega)]; exact h.mc.1 q hq
  · have := (h.pl.1 k i q hk hi eq).1
    exact hA.eq (e _ (by omega)) (e _ (by omega)) (e _ (by omega)) (e _ (by omega))
  · rcases h.ls with z | ⟨z1, nz, z0, z2, z3⟩
    · exact Or.inl (by rw [e 0 (by omega)]; exact z)
    · exact Or.inr ⟨by rw [e 0 (by omega)]; exact z1, nz, z0, z2.eq (e _ (by omega)) (e _ (by omega)) (e _ (by omega)) (e _ (by omega)), fun j hj => by rw [e 177 (by omega)]; exact z3 j hj⟩
end CST
