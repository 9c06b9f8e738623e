/-! RESIDUES: Nat modulo p as a field -/
def PR : List Nat := [2, 3, 5, 7, 11, 13, 17, 19, 23, 29, 31, 37, 41, 43, 47, 53, 59, 61, 67, 71, 73, 79, 83, 89, 97]
theorem PR_inv : ∀ p ∈ PR, ∀ a, a < p → a ≠ 0 → ∃ b, b < p ∧ a * b % p = 1 := by
  have h : PR.all (fun p => (List.range p).all (fun a => a == 0 || (List.range p).any (fun b => a * b % p == 1))) = true := by decide +kernel
  intro p hp a ha h0
  have h1 := List.all_eq_true.mp (List.all_eq_true.mp h p hp) a (List.mem_range.mpr ha)
  rw [Bool.or_eq_true] at h1
  rcases h1 with h1 | h1
  · exact absurd (by simpa using h1) h0
  · obtain ⟨b, hb, hc⟩ := List.any_eq_true.mp h1
    exact ⟨b, List.mem_range.mp hb, by simpa using hc⟩
theorem PR_bd : ∀ p ∈ PR, 2 ≤ p ∧ p ≤ 97 := by decide +kernel
def fo (p : Nat) [NeZero p] (n : Nat) : Fin p := Fin.ofNat p n
section FLD
theorem fo_val {p : Nat} [NeZero p] (n : Nat) : (fo p n).val = n % p := rfl
theorem fo_eq {p : Nat} [NeZero p] {a b : Nat} : fo p a = fo p b ↔ a % p = b % p := by
  constructor
  · intro h; exact congrArg Fin.val h
  · intro h; exact Fin.ext h
theorem fo_mod {p : Nat} [NeZero p] (a : Nat) : fo p (a % p) = fo p a := fo_eq.mpr (Nat.mod_mod a p)
theorem fo_add {p : Nat} [NeZero p] (a b : Nat) : fo p (a + b) = fo p a + fo p b := by
  apply Fin.ext
  show (a + b) % p = (a % p + b % p) % p
  rw [← Nat.add_mod]
theorem fo_mul {p : Nat} [NeZero p] (a b : Nat) : fo p (a * b) = fo p a * fo p b := by
  apply Fin.ext
  show (a * b) % p = (a % p * (b % p)) % p
  rw [← Nat.mul_mod]
theorem fo_0 {p : Nat} [NeZero p] : fo p 0 = 0 := by apply Fin.ext; show 0 % p = 0 % p; rfl
theorem fo_1 {p : Nat} [NeZero p] : fo p 1 = 1 := by apply Fin.ext; show 1 % p = 1 % p; rfl
theorem fo_p {p : Nat} [NeZero p] : fo p p = 0 := by rw [← fo_mod, Nat.mod_self, fo_0]
theorem fo_neg {p : Nat} [NeZero p] {b : Nat} (h : b ≤ p) : fo p (p - b) = - fo p b := by
  have h1 : fo p (p - b) + fo p b = 0 := by rw [← fo_add, Nat.sub_add_cancel h, fo_p]
  grind
theorem fo_eq0 {p : Nat} [NeZero p] {a : Nat} (h : a < p) : fo p a = 0 ↔ a = 0 := by
  rw [← fo_0, fo_eq, Nat.mod_eq_of_lt h, Nat.zero_mod]
theorem fo_inj {p : Nat} [NeZero p] {a b : Nat} (ha : a < p) (hb : b < p) (h : fo p a = fo p b) : a = b := by
  have := fo_eq.mp h
  rwa [Nat.mod_eq_of_lt ha, Nat.mod_eq_of_lt hb] at this
theorem fo_surj {p : Nat} [NeZero p] (x : Fin p) : fo p x.val = x := by apply Fin.ext; exact Nat.mod_eq_of_lt x.isLt
theorem isF_p {p : Nat} [NeZero p] (hp : p ∈ PR) : isF (Fin p) := by
  obtain ⟨h2, -⟩ := PR_bd p hp
  refine ⟨fun a ha => ?_, fun h => ?_⟩
  · have h0 : a.val ≠ 0 := fun q => ha (by rw [← fo_surj a, q, fo_0])
    obtain ⟨b, hb, hc⟩ := PR_inv p hp a.val a.isLt h0
    refine ⟨fo p b, ?_⟩
    rw [← fo_surj a, ← fo_mul, ← fo_1, fo_eq, hc, Nat.mod_eq_of_lt (by omega)]
  · rw [← fo_1, fo_eq0 (by omega)] at h
    omega
/-- sums of numbers -/
def sN : Nat → (Nat → Nat) → Nat
  | 0, _ => 0
  | n + 1, f => sN n f + f n
theorem fo_sum {p : Nat} [NeZero p] (n : Nat) (f : Nat → Nat) : fo p (sN n f) = sm n (fun i => fo p (f i)) := by
  induction n with
  | zero => exact fo_0
  | succ n ih => simp only [sN, sm]; rw [fo_add, ih]
theorem sN_congr {n : Nat} {f g : Nat → Nat} (h : ∀ i, i < n → f i = g i) : sN n f = sN n g := by
  induction n with
  | zero => rfl
  | succ n ih => simp only [sN]; rw [ih (fun i hi => h i (by omega)), h n (by omega)]
theorem sN_le {n b : Nat} {f : Nat → Nat} (h : ∀ i, i < n → f i ≤ b) : sN n f ≤ n * b := by
  induction n with
  | zero => simp [sN]
  | succ n ih =>
    simp only [sN]
    have := ih (fun i hi => h i (by omega))
    have := h n (by omega)
    rw [Nat.add_mul]
    omega
end FLD
/-! AN ECHELON: rows r let in, each with its own pivot -/
def spI {F : Type} [Lean.Grind.CommRing F] (W size : Nat) (ech : Nat → Nat → F) (piv : Nat → Nat) (mk r : Nat → Nat → F) : Prop :=
  (∀ i, i < size → piv i < W ∧ ech i (piv i) = 1 ∧ ∀ j, i < j → j < size → ech j (piv i) = 0) ∧
  (∀ i, i < size → ∀ c, c < W → ech i c = sm (i + 1) (fun j => mk i j * r j c)) ∧
  (∀ j, j < size → inS W size ech (r j)) ∧ indp W size r
section ECH
/-- what is left of v when the first i pivots have been cleared, and the parts that were taken -/
def spR {F : Type} [Lean.Grind.CommRing F] (W i : Nat) (piv : Nat → Nat) (r : Nat → Nat → F) (v rest parts : Nat → F) : Prop :=
  (∀ c, c < W → v c = rest c + sm i (fun j => parts j * r j c)) ∧ ∀ k, k < i → rest (piv k) = 0
theorem spR_0 {F : Type} [Lean.Grind.CommRing F] {W : Nat} {piv : Nat → Nat} {r : Nat → Nat → F} {v parts : Nat → F} : spR W 0 piv r v v parts := ⟨fun c _ => by simp only [sm]; grind, fun k hk => by omega⟩
theorem spR_step {F : Type} [Lean.Grind.CommRing F] {W size i : Nat} {ech mk r : Nat → Nat → F} {piv : Nat → Nat} {v rest parts rest' parts' : Nat → F} (hI : spI W size ech piv mk r) (hi : i < size) (h : spR W i piv r v rest parts)
    (h1 : ∀ c, c < W → rest' c = rest c - rest (piv i) * ech i c) (h2 : ∀ j, j < i → parts' j = parts j + rest (piv i) * mk i j) (h3 : parts' i = rest (piv i) * mk i i) : spR W (i + 1) piv r v rest' parts' := by
  obtain ⟨hp, hm, -, -⟩ := hI
  refine ⟨fun c hc => ?_, fun k hk => ?_⟩
  · rw [h.1 c hc, h1 c hc, hm i hi c hc]
    have e1 : sm (i + 1) (fun j => parts' j * r j c) = sm i (fun j => parts j * r j c) + rest (piv i) * sm (i + 1) (fun j => mk i j * r j c) := by
      simp only [sm]
      rw [h3, sm_congr (g := fun j => parts j * r j c + rest (piv i) * (mk i j * r j c)) (fun j hj => by rw [h2 j hj]; grind), sm_add, sm_mul]
      grind
    rw [e1]
    grind
  · obtain ⟨hpi, h1i, h0i⟩ := hp i hi
    by_cases e : k = i
    · subst e
      rw [h1 _ hpi, h1i]; grind
    · obtain ⟨hpk, -, h0k⟩ := hp k (by omega)
      rw [h1 _ hpk, h.2 k (by omega), h0k i (by omega) hi]
      grind
theorem ech_zero {F : Type} [Lean.Grind.CommRing F] {W size : Nat} {ech mk r : Nat → Nat → F} {piv : Nat → Nat} {rest : Nat → F} (hI : spI W size ech piv mk r) (hz : ∀ k, k < size → rest (piv k) = 0) (hs : inS W size ech rest) : ∀ c, c < W → rest c = 0 := by
  obtain ⟨d, hd⟩ := hs
  obtain ⟨hp, -, -, -⟩ := hI
  have hd0 : ∀ k, k < size → d k = 0 := by
    intro k
    induction k using Nat.strongRecOn with
    | ind k ih =>
      intro hk
      obtain ⟨hpk, h1k, h0k⟩ := hp k hk
      have e1 := hd (piv k) hpk
      rw [hz k hk, sm_one hk _ (fun j hj hne => ?_), h1k] at e1
      · grind
      · rcases Nat.lt_or_ge j k with q | q
        · rw [ih j q hj]; grind
        · rw [h0k j (by omega) hj]; grind
  intro c hc
  rw [hd c hc, sm_congr (g := fun _ => 0) (fun j hj => by rw [hd0 j hj]; grind), sm_zero]
/-- all pivots cleared: a combination just if nothing is left -/
theorem spR_yes {F : Type} [Lean.Grind.CommRing F] {W size : Nat} {r : Nat → Nat → F} {piv : Nat → Nat} {v rest parts : Nat → F} (h : spR W size piv r v rest parts) (hz : ∀ c, c < W → rest c = 0) : ∀ c, c < W → v c = sm size (fun j => parts j * r j c) := fun c hc => by rw [h.1 c hc, hz c hc]; grind
theorem spR_no {F : Type} [Lean.Grind.CommRing F] {W size : Nat} {ech mk r : Nat → Nat → F} {piv : Nat → Nat} {v rest parts : Nat → F} (hI : spI W size ech piv mk r) (h : spR W size piv r v rest parts) {c : Nat} (hc : c < W) (hn : rest c ≠ 0) : ¬ inS W size r v := by
  rintro ⟨d, hd⟩
  refine hn (ech_zero hI h.2 ?_ c hc)
  refine inS_tr (n := size) (u := r) ⟨fun j => d j - parts j, fun i hi => ?_⟩ hI.2.2.1
  have e1 : sm size (fun j => (d j - parts j) * r j i) = sm size (fun j => d j * r j i) - sm size (fun j => parts j * r j i) := by
    rw [← sm_sub]; exact sm_congr (fun j _ => by grind)
  have := h.1 i hi
  rw [e1, ← hd i hi]
  grind
/-- the row comes in -/
theorem spI_push {F : Type} [Lean.Grind.CommRing F] (hF : isF F) {W size c0 : Nat} {ech mk r ech' mk' : Nat → Nat → F} {piv piv' : Nat → Nat} {rest parts : Nat → F} {b : F} (hI : spI W size ech piv mk r) (h : spR W size piv r (r size) rest parts) (hc : c0 < W) (hb : rest c0 * b = 1)
    (g1 : ∀ i, i < size → ∀ c, c < W → ech' i c = ech i c) (g2 : ∀ c, c < W → ech' size c = rest c * b) (g3 : ∀ i, i < size → piv' i = piv i) (g4 : piv' size = c0) (g5 : ∀ i, i < size → ∀ j, j ≤ i → mk' i j = mk i j) (g6 : ∀ j, j < size → mk' size j = - parts j * b) (g7 : mk' size size = b) : spI W (size + 1) ech' piv' mk' r := by
  obtain ⟨hp, hm, hr, hn⟩ := id hI
  have hne : rest c0 ≠ 0 := by intro q; rw [q] at hb; exact hF.2 (by grind)
  refine ⟨fun i hi => ?_, fun i hi c hcW => ?_, fun j hj => ?_, ?_⟩
  · by_cases e : i = size
    · subst e
      rw [g4]
      exact ⟨hc, by rw [g2 _ hc]; exact hb, fun j h1 h2 => by omega⟩
    · obtain ⟨a1, a2, a3⟩ := hp i (by omega)
      rw [g3 i (by omega)]
      refine ⟨a1, by rw [g1 i (by omega) _ a1]; exact a2, fun j h1 h2 => ?_⟩
      by_cases e2 : j = size
      · subst e2; rw [g2 _ a1, h.2 i (by omega)]; grind
      · rw [g1 j (by omega) _ a1]; exact a3 j h1 (by omega)
  · by_cases e : i = size
    · subst e
      have h1 := h.1 c hcW
      simp only [sm]
      rw [g2 c hcW, g7, sm_congr (g := fun j => -b * (parts j * r j c)) (fun j hj => by rw [g6 j hj]; grind), sm_mul]
      grind
    · rw [g1 i (by omega) c hcW, hm i (by omega) c hcW]
      exact sm_congr (fun j hj => by rw [g5 i (by omega) j (by omega)])
  · have hm1 : ∀ v, inS W size ech v → inS W (size + 1) ech' v := fun v hv => inS_more (Nat.le_succ _) (inS_congr (fun j hj i hi => (g1 j hj i hi).symm) (fun _ _ => rfl) hv)
    by_cases e : j = size
    · subst e
      obtain ⟨d, hd⟩ : inS W j ech (fun c => sm j (fun a => parts a * r a c)) := inS_tr (n := j) (u := r) ⟨parts, fun _ _ => rfl⟩ hr
      refine ⟨fun a => if a < j then d a else rest c0, fun i hi => ?_⟩
      show _ = sm j _ + _
      have e1 : sm j (fun a => (if a < j then d a else rest c0) * ech' a i) = sm j (fun a => d a * ech a i) := sm_congr (fun a ha => by rw [if_pos ha, g1 a ha i hi])
      rw [e1, ← hd i hi]
      dsimp only
      rw [if_neg (Nat.lt_irrefl _), g2 i hi]
      have := h.1 i hi
      have e2 : rest c0 * (rest i * b) = rest i := by
        have : rest c0 * (rest i * b) = rest i * (rest c0 * b) := by grind
        rw [this, hb]; grind
      rw [e2]
      grind
    · exact hm1 _ (hr j (by omega))
  · exact indp_push hF hn (spR_no hI h hc hne)
end ECH
