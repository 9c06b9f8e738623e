section SPANS
theorem spI_r {F : Type} [Lean.Grind.CommRing F] {W size : Nat} {ech mk r r' : Nat → Nat → F} {piv : Nat → Nat} (h : spI W size ech piv mk r) (hr : ∀ j, j < size → ∀ c, c < W → r j c = r' j c) : spI W size ech piv mk r' := by
  obtain ⟨h1, h2, h3, h4⟩ := h
  refine ⟨h1, fun i hi c hc => ?_, fun j hj => inS_congr (fun _ _ _ _ => rfl) (hr j hj) (h3 j hj), indp_congr hr h4⟩
  rw [h2 i hi c hc]
  exact sm_congr (fun j hj => by rw [hr j (by omega) c hc])
/-- the rows that span, as the reference holds them -/
def mSp (I : Nat → Nat → Int32) (p n size : Nat) (E : Nat → Nat → Nat) (piv : Nat → Nat) : Prop := I 209 34 = nI size ∧ size ≤ n ∧ n ≤ 4 ∧ (∀ j c, j < size → c < n → I 224 (4 * j + c) = nI (E j c) ∧ E j c < p) ∧ ∀ j, j < size → piv j < n ∧ E j (piv j) ≠ 0 ∧ ∀ c, c < piv j → E j c = 0
variable {sh : List xSh} {I : Nat → Nat → Int32} {R : Nat → Nat → Option Nat}
theorem w_leadOf {p n size j : Nat} {E : Nat → Nat → Nat} {piv : Nat → Nat} {Q : Int32 → xHp → Prop} (hW : xLay sh R) (hp : p ≤ 97) (h : mSp I p n size E piv) (hj : j < size) (k : Q (nI (piv j)) (sh, I, R)) : CI mX10_leadOf [.ref 209, .int (nI j), .int (nI n)] (sh, I, R) Q := by
  obtain ⟨-, hs, hn, hE, hP⟩ := h
  obtain ⟨h1, h2, h3⟩ := hP j hj
  have loop : ∀ a s, s + a = piv j → Ex mX10_leadOf 2 [.ref 209, .int (nI j), .int (nI n), .int (nI s)] [] (sh, I, R) 0 0 (xqI Q) := by
    intro a
    induction a with
    | zero =>
      intro s hsp
      obtain rfl : s = piv j := by omega
      refine bX10_leadOf_2 hW ⟨fun _ => k, fun _ => ?_⟩
      simp only [pk_mul, nI_add]
      refine ⟨vp_nI (by omega) (by omega), fun _ => k, fun q => ?_⟩
      rw [nclamp (by omega), (hE j _ hj h1).1] at q
      have := (hE j _ hj h1).2
      exact absurd ((nI_eq (b := 0) (by omega) (by omega)).mp q) h2
    | succ a ih =>
      intro s hsp
      refine bX10_leadOf_2 hW ⟨fun q => ?_, fun _ => ?_⟩
      · rw [pk_sub (by omega)] at q; exact absurd q (nI_ge (by omega) (by omega))
      · simp only [pk_mul, nI_add]
        refine ⟨vp_nI (by omega) (by omega), fun q => ?_, fun _ => ih (s + 1) (by omega)⟩
        rw [nclamp (by omega), (hE j s hj (by omega)).1, h3 s (by omega)] at q
        exact absurd rfl q
  exact eX10_leadOf (bX10_leadOf_0 hW (loop (piv j) 0 (by omega)))
end SPANS
