/-! SUMS AND COMBINATIONS over a commutative ring -/
def sm {F : Type} [Lean.Grind.CommRing F] : Nat → (Nat → F) → F
  | 0, _ => 0
  | n + 1, f => sm n f + f n
section LIN
theorem sm_congr {F : Type} [Lean.Grind.CommRing F] {n : Nat} {f g : Nat → F} (h : ∀ i, i < n → f i = g i) : sm n f = sm n g := by
  induction n with
  | zero => rfl
  | succ n ih => simp only [sm]; rw [ih (fun i hi => h i (by omega)), h n (by omega)]
theorem sm_zero {F : Type} [Lean.Grind.CommRing F] (n : Nat) : sm n (fun _ => (0 : F)) = 0 := by
  induction n with
  | zero => rfl
  | succ n ih => simp only [sm]; rw [ih]; grind
theorem sm_add {F : Type} [Lean.Grind.CommRing F] (n : Nat) (f g : Nat → F) : sm n (fun i => f i + g i) = sm n f + sm n g := by
  induction n with
  | zero => simp only [sm]; grind
  | succ n ih => simp only [sm]; rw [ih]; grind
theorem sm_mul {F : Type} [Lean.Grind.CommRing F] (n : Nat) (a : F) (f : Nat → F) : sm n (fun i => a * f i) = a * sm n f := by
  induction n with
  | zero => simp only [sm]; grind
  | succ n ih => simp only [sm]; rw [ih]; grind
theorem sm_swap {F : Type} [Lean.Grind.CommRing F] (n m : Nat) (f : Nat → Nat → F) : sm n (fun i => sm m (fun j => f i j)) = sm m (fun j => sm n (fun i => f i j)) := by
  induction n with
  | zero => simp only [sm]; rw [sm_zero]
  | succ n ih => simp only [sm]; rw [ih, ← sm_add]
theorem sm_sub {F : Type} [Lean.Grind.CommRing F] (n : Nat) (f g : Nat → F) : sm n (fun i => f i - g i) = sm n f - sm n g := by
  induction n with
  | zero => simp only [sm]; grind
  | succ n ih => simp only [sm]; rw [ih]; grind
/-- one term alone -/
theorem sm_one {F : Type} [Lean.Grind.CommRing F] {n k : Nat} (hk : k < n) (f : Nat → F) (h : ∀ i, i < n → i ≠ k → f i = 0) : sm n f = f k := by
  induction n with
  | zero => omega
  | succ n ih =>
    simp only [sm]
    by_cases e : k = n
    · subst e
      rw [sm_congr (g := fun _ => 0) (fun i hi => h i (by omega) (by omega)), sm_zero]
      grind
    · rw [ih (by omega) (fun i hi hne => h i (by omega) hne), h n (by omega) (by omega)]
      grind
/-- n vectors of W coordinates, n above W: they hang together -/
theorem lin_dep {F : Type} [Lean.Grind.CommRing F] (hinv : ∀ a : F, a ≠ 0 → ∃ b, a * b = 1) (h01 : (1 : F) ≠ 0) : ∀ (W k : Nat) (r : Nat → Nat → F), W < k → ∃ c : Nat → F, (∃ j, j < k ∧ c j ≠ 0) ∧ ∀ i, i < W → sm k (fun j => c j * r j i) = 0 := by
  intro W
  induction W with
  | zero => intro k r hk; exact ⟨fun _ => 1, ⟨0, hk, h01⟩, fun i hi => by omega⟩
  | succ W ih =>
    intro k r hk
    by_cases hz : ∀ j, j < k → r j W = 0
    · obtain ⟨c, h1, h2⟩ := ih k r (by omega)
      refine ⟨c, h1, fun i hi => ?_⟩
      by_cases e : i = W
      · subst e
        rw [sm_congr (g := fun _ => 0) (fun j hj => by rw [hz j hj]; grind), sm_zero]
      · exact h2 i (by omega)
    · obtain ⟨j0, hj⟩ := Classical.not_forall.mp hz
      obtain ⟨hj0, hne⟩ := Classical.not_imp.mp hj
      obtain ⟨b, hb⟩ := hinv _ hne
      -- all but j0, less what they have of j0
      obtain ⟨c, ⟨j1, hj1, hc1⟩, h2⟩ := ih (k - 1) (fun j i => r (if j < j0 then j else j + 1) i - r (if j < j0 then j else j + 1) W * b * r j0 i) (by omega)
      have key : ∀ (n : Nat), j0 < n + 1 → ∀ (g : Nat → F), sm (n + 1) g = sm n (fun j => g (if j < j0 then j else j + 1)) + g j0 := by
        intro n
        induction n with
        | zero => intro h g; have : j0 = 0 := by omega
                  subst this; simp only [sm]
        | succ n ihn =>
          intro h g
          by_cases e : j0 = n + 1
          · rw [e]
            have e2 : sm (n + 1) (fun j => g (if j < n + 1 then j else j + 1)) = sm (n + 1) g := sm_congr (fun j hj => by rw [if_pos hj])
            rw [e2]
            rfl
          · have h3 := ihn (by omega) g
            have e4 : sm (n + 1) (fun j => g (if j < j0 then j else j + 1)) = sm n (fun j => g (if j < j0 then j else j + 1)) + g (n + 1) := by
              show _ + g (if n < j0 then n else n + 1) = _
              rw [if_neg (by omega)]
            have e5 : sm (n + 1 + 1) g = sm (n + 1) g + g (n + 1) := rfl
            rw [e4, e5, h3]
            grind
      refine ⟨fun j => if j = j0 then - (b * sm (k - 1) (fun j => c j * r (if j < j0 then j else j + 1) W)) else if j < j0 then c j else c (j - 1), ⟨if j1 < j0 then j1 else j1 + 1, by split <;> omega, ?_⟩, fun i hi => ?_⟩
      · by_cases h : j1 < j0
        · simp only [h, if_true]
          rw [if_neg (by omega)]
          exact hc1
        · simp only [h, if_false]
          rw [if_neg (by omega), if_neg (by omega)]
          exact hc1
      · obtain ⟨k', rfl⟩ : ∃ k', k = k' + 1 := ⟨k - 1, by omega⟩
        simp only [Nat.add_sub_cancel] at h2 ⊢
        rw [key k' hj0]
        simp only [if_true]
        have e6 : sm k' (fun j => (if (if j < j0 then j else j + 1) = j0 then - (b * sm k' (fun j => c j * r (if j < j0 then j else j + 1) W)) else if (if j < j0 then j else j + 1) < j0 then c (if j < j0 then j else j + 1) else c ((if j < j0 then j else j + 1) - 1)) * r (if j < j0 then j else j + 1) i) = sm k' (fun j => c j * r (if j < j0 then j else j + 1) i) := by
          apply sm_congr
          intro j hj
          by_cases h : j < j0
          · simp only [h, if_true]
            rw [if_neg (by omega)]
          · simp only [h, if_false]
            rw [if_neg (by omega), if_neg (by omega), Nat.add_sub_cancel]
        rw [e6]
        by_cases e : i = W
        · subst e
          generalize sm k' (fun j => c j * r (if j < j0 then j else j + 1) i) = X
          have : -(b * X) * r j0 i = - (r j0 i * b * X) := by grind
          rw [this, hb]
          grind
        · have h3 := h2 i (by omega)
          have e7 : sm k' (fun j => c j * (r (if j < j0 then j else j + 1) i - r (if j < j0 then j else j + 1) W * b * r j0 i)) = sm k' (fun j => c j * r (if j < j0 then j else j + 1) i) - b * r j0 i * sm k' (fun j => c j * r (if j < j0 then j else j + 1) W) := by
            rw [← sm_mul, ← sm_sub]
            apply sm_congr
            intro j _
            grind
          rw [e7] at h3
          grind
end LIN
