/-! EQUATIONS: e d i (i below k) times x i, summed, is y times e d k, for each d below C -/
def slv {F : Type} [Lean.Grind.CommRing F] (C k : Nat) (e : Nat → Nat → F) (x : Nat → F) (y : F) : Prop := ∀ d, d < C → sm k (fun i => x i * e d i) = y * e d k
section SLV
theorem slv_congr {F : Type} [Lean.Grind.CommRing F] {C k : Nat} {e e' : Nat → Nat → F} {x : Nat → F} {y : F} (h : ∀ d, d < C → ∀ i, i ≤ k → e' d i = e d i) : slv C k e' x y ↔ slv C k e x y := by
  constructor
  · intro hs d hd
    have := hs d hd
    rw [h d hd k (Nat.le_refl k), sm_congr (g := fun i => x i * e d i) (fun i hi => by rw [h d hd i (by omega)])] at this
    exact this
  · intro hs d hd
    rw [h d hd k (Nat.le_refl k), sm_congr (g := fun i => x i * e d i) (fun i hi => by rw [h d hd i (by omega)])]
    exact hs d hd
theorem slv_swap {F : Type} [Lean.Grind.CommRing F] {C k a b : Nat} {e e' : Nat → Nat → F} {x : Nat → F} {y : F} (ha : a < C) (hb : b < C) (h : ∀ d, d < C → ∀ i, i ≤ k → e' d i = if d = a then e b i else if d = b then e a i else e d i) : slv C k e' x y ↔ slv C k e x y := by
  have hrow : ∀ d, d < C → sm k (fun i => x i * e' d i) = (if d = a then sm k (fun i => x i * e b i) else if d = b then sm k (fun i => x i * e a i) else sm k (fun i => x i * e d i)) := by
    intro d hd
    by_cases h1 : d = a
    · rw [if_pos h1]; exact sm_congr (fun i hi => by rw [h d hd i (by omega), if_pos h1])
    · rw [if_neg h1]
      by_cases h2 : d = b
      · rw [if_pos h2]; exact sm_congr (fun i hi => by rw [h d hd i (by omega), if_neg h1, if_pos h2])
      · rw [if_neg h2]; exact sm_congr (fun i hi => by rw [h d hd i (by omega), if_neg h1, if_neg h2])
  constructor
  · intro hs d hd
    by_cases h1 : d = a
    · subst h1
      have h3 := hs b hb
      rw [hrow b hb, h b hb k (Nat.le_refl k)] at h3
      by_cases h4 : b = d
      · subst h4; simpa using h3
      · simpa [h4] using h3
    · by_cases h2 : d = b
      · subst h2
        have h3 := hs a ha
        rw [hrow a ha, h a ha k (Nat.le_refl k)] at h3
        simpa using h3
      · have h3 := hs d hd
        rw [hrow d hd, h d hd k (Nat.le_refl k)] at h3
        simpa [h1, h2] using h3
  · intro hs d hd
    rw [hrow d hd, h d hd k (Nat.le_refl k)]
    by_cases h1 : d = a
    · rw [if_pos h1, if_pos h1]; exact hs b hb
    · rw [if_neg h1, if_neg h1]
      by_cases h2 : d = b
      · rw [if_pos h2, if_pos h2]; exact hs a ha
      · rw [if_neg h2, if_neg h2]; exact hs d hd
theorem slv_scale {F : Type} [Lean.Grind.CommRing F] {C k a : Nat} {e e' : Nat → Nat → F} {x : Nat → F} {y b b' : F} (hbb : b * b' = 1) (h : ∀ d, d < C → ∀ i, i ≤ k → e' d i = if d = a then e a i * b else e d i) : slv C k e' x y ↔ slv C k e x y := by
  have hrow : ∀ d, d < C → sm k (fun i => x i * e' d i) = if d = a then b * sm k (fun i => x i * e a i) else sm k (fun i => x i * e d i) := by
    intro d hd
    by_cases h1 : d = a
    · rw [if_pos h1, ← sm_mul]; exact sm_congr (fun i hi => by rw [h d hd i (by omega), if_pos h1]; grind)
    · rw [if_neg h1]; exact sm_congr (fun i hi => by rw [h d hd i (by omega), if_neg h1])
  constructor
  · intro hs d hd
    have h3 := hs d hd
    rw [hrow d hd, h d hd k (Nat.le_refl k)] at h3
    by_cases h1 : d = a
    · subst h1
      rw [if_pos rfl, if_pos rfl] at h3
      have h4 : b' * (b * sm k (fun i => x i * e d i)) = b' * (y * (e d k * b)) := by rw [h3]
      have h5 : b' * (b * sm k (fun i => x i * e d i)) = (b * b') * sm k (fun i => x i * e d i) := by grind
      have h6 : b' * (y * (e d k * b)) = (b * b') * (y * e d k) := by grind
      rw [h5, h6, hbb] at h4
      grind
    · rw [if_neg h1, if_neg h1] at h3; exact h3
  · intro hs d hd
    rw [hrow d hd, h d hd k (Nat.le_refl k)]
    by_cases h1 : d = a
    · subst h1
      rw [if_pos rfl, if_pos rfl, hs d hd]
      grind
    · rw [if_neg h1, if_neg h1]; exact hs d hd
theorem slv_elim {F : Type} [Lean.Grind.CommRing F] {C k a c : Nat} {e e' : Nat → Nat → F} {x : Nat → F} {y f : F} (hc : c < C) (hac : a ≠ c) (h : ∀ d, d < C → ∀ i, i ≤ k → e' d i = if d = a then e a i - f * e c i else e d i) : slv C k e' x y ↔ slv C k e x y := by
  have hrow : ∀ d, d < C → sm k (fun i => x i * e' d i) = if d = a then sm k (fun i => x i * e a i) - f * sm k (fun i => x i * e c i) else sm k (fun i => x i * e d i) := by
    intro d hd
    by_cases h1 : d = a
    · rw [if_pos h1, ← sm_mul, ← sm_sub]; exact sm_congr (fun i hi => by rw [h d hd i (by omega), if_pos h1]; grind)
    · rw [if_neg h1]; exact sm_congr (fun i hi => by rw [h d hd i (by omega), if_neg h1])
  have hrc : slv C k e' x y → sm k (fun i => x i * e c i) = y * e c k := by
    intro hs
    have h3 := hs c hc
    rw [hrow c hc, h c hc k (Nat.le_refl k), if_neg (Ne.symm hac), if_neg (Ne.symm hac)] at h3
    exact h3
  constructor
  · intro hs d hd
    have h3 := hs d hd
    rw [hrow d hd, h d hd k (Nat.le_refl k)] at h3
    by_cases h1 : d = a
    · subst h1
      rw [if_pos rfl, if_pos rfl, hrc hs] at h3
      grind
    · rw [if_neg h1, if_neg h1] at h3; exact h3
  · intro hs d hd
    rw [hrow d hd, h d hd k (Nat.le_refl k)]
    by_cases h1 : d = a
    · subst h1
      rw [if_pos rfl, if_pos rfl, hs d hd, hs c hc]
      grind
    · rw [if_neg h1, if_neg h1]; exact hs d hd
/-- the first j columns are cleared -/
def clr {F : Type} [Lean.Grind.CommRing F] (C j : Nat) (e : Nat → Nat → F) : Prop := ∀ d, d < C → ∀ i, i < j → e d i = if d = i then 1 else 0
theorem clr_pivot {F : Type} [Lean.Grind.CommRing F] (hF : isF F) {C k j : Nat} {e : Nat → Nat → F} (hj : j < k) (hc : clr C j e) (hn : ∀ x : Nat → F, slv C k e x 0 → ∀ i, i < k → x i = 0) : ∃ d, j ≤ d ∧ d < C ∧ e d j ≠ 0 := by
  rcases Classical.em (∃ d, j ≤ d ∧ d < C ∧ e d j ≠ 0) with h | h
  · exact h
  · have hz : ∀ d, j ≤ d → d < C → e d j = 0 := fun d h1 h2 => Classical.byContradiction (fun q => h ⟨d, h1, h2, q⟩)
    have := hn (fun i => if i < j then e i j else if i = j then -1 else 0) (fun d hd => ?_) j hj
    · simp only [Nat.lt_irrefl, if_false, if_true] at this
      exact absurd (by grind : (1 : F) = 0) hF.2
    · have key : ∀ n, j < n → sm n (fun i => (if i < j then e i j else if i = j then (-1 : F) else 0) * e d i) = sm j (fun i => e i j * e d i) - e d j := by
        intro n
        induction n with
        | zero => intro h; omega
        | succ n ih =>
          intro h
          simp only [sm]
          by_cases e9 : n = j
          · subst e9
            rw [if_neg (Nat.lt_irrefl _), if_pos rfl, sm_congr (g := fun i => e i n * e d i) (fun i hi => by rw [if_pos hi])]
            grind
          · rw [ih (by omega), if_neg (by omega), if_neg (by omega)]
            grind
      rw [key k hj]
      by_cases hdj : d < j
      · rw [sm_one hdj _ (fun i hi hne => by rw [hc d hd i hi, if_neg (Ne.symm hne)]; grind), hc d hd d hdj, if_pos rfl]
        grind
      · rw [sm_congr (g := fun _ => 0) (fun i hi => by rw [hc d hd i hi, if_neg (by omega)]; grind), sm_zero, hz d (by omega) hd]
        grind
theorem clr_end {F : Type} [Lean.Grind.CommRing F] {C k : Nat} {e : Nat → Nat → F} (hkC : k ≤ C) (hc : clr C k e) (x : Nat → F) : slv C k e x 1 ↔ (∀ d, d < k → x d = e d k) ∧ ∀ d, k ≤ d → d < C → e d k = 0 := by
  have hrow : ∀ d, d < C → sm k (fun i => x i * e d i) = if d < k then x d else 0 := by
    intro d hd
    by_cases h : d < k
    · rw [if_pos h, sm_one h _ (fun i hi hne => by rw [hc d hd i hi, if_neg (Ne.symm hne)]; grind), hc d hd d h, if_pos rfl]
      grind
    · rw [if_neg h, sm_congr (g := fun _ => 0) (fun i hi => by rw [hc d hd i hi, if_neg (by omega)]; grind), sm_zero]
  constructor
  · intro hs
    refine ⟨fun d hd => ?_, fun d h1 h2 => ?_⟩
    · have := hs d (by omega)
      rw [hrow d (by omega), if_pos hd] at this
      grind
    · have := hs d h2
      rw [hrow d h2, if_neg (by omega)] at this
      grind
  · rintro ⟨h1, h2⟩ d hd
    rw [hrow d hd]
    by_cases h : d < k
    · rw [if_pos h, h1 d h]; grind
    · rw [if_neg h, h2 d (by omega) hd]; grind
end SLV
/-! the reference's equations -/
def mEq (I : Nat → Nat → Int32) (p C k : Nat) (e : Nat → Nat → Nat) : Prop := ∀ d, d < C → ∀ i, i ≤ k → I 213 (5 * d + i) = nI (e d i) ∧ e d i < p
theorem mEq.fr {S : List Nat} {I I' : Nat → Nat → Int32} {p C k : Nat} {e : Nat → Nat → Nat} (h : mEq I p C k e) (hf : Fr S I I') (hs : 213 ∉ S) : mEq I' p C k e := fun d hd i hi => by rw [hf.at 213 _ hs]; exact h d hd i hi
section MODD
variable {sh : List xSh} {I : Nat → Nat → Int32} {R : Nat → Nat → Option Nat}
theorem w_inverse {p L v : Nat} {Q : Int32 → xHp → Prop} (hW : xLay sh R) (hc : mCtx I p L) (hv : v < p) (h0 : v ≠ 0) (k : ∀ b, b < p → b * v % p = 1 → Q (nI b) (sh, I, R)) : CI mX10_inverse [.ref 209, .int (nI v)] (sh, I, R) Q := by
  obtain ⟨hP, -, hpr, -, -⟩ := id hc
  obtain ⟨hp2, hp97⟩ := PR_bd p hpr
  obtain ⟨b, hb, hb1⟩ := PR_inv p hpr v hv h0
  rw [Nat.mul_comm] at hb1
  have hb0 : 1 ≤ b := by
    rcases Nat.eq_zero_or_pos b with rfl | h
    · rw [Nat.zero_mul, Nat.zero_mod] at hb1; omega
    · exact h
  have loop : ∀ j i, i + j = b → 1 ≤ i → Ex mX10_inverse 2 [.ref 209, .int (nI v), .int (nI i)] [] (sh, I, R) 0 0 (xqI Q) := by
    intro j
    induction j with
    | zero =>
      intro i hi h1
      obtain rfl : i = b := by omega
      refine bX10_inverse_2 hW ?_
      have := mul_bd hp97 hb hv
      rw [hP, pk_mul, xrem_nI (by omega) (by omega) (by omega), hb1]
      exact ⟨nI_ne0 (by omega) (by omega), fun _ => k i hb hb1, fun c => absurd rfl c⟩
    | succ j ih =>
      intro i hi h1
      refine bX10_inverse_2 hW ?_
      have := mul_bd hp97 (show i < p by omega) hv
      have hml : i * v % p < p := Nat.mod_lt _ (by omega)
      rw [hP, pk_mul, xrem_nI (by omega) (by omega) (by omega)]
      refine ⟨nI_ne0 (by omega) (by omega), fun c => ?_, fun _ => ?_⟩
      · exact k i (by omega) ((nI_eq (by omega) (by omega)).mp c)
      · rw [nI_add]; exact ih (i + 1) (by omega) (by omega)
  exact eX10_inverse (bX10_inverse_0 hW (loop (b - 1) 1 (by omega) (Nat.le_refl 1)))
theorem w_swaps {p C k a b : Nat} {e : Nat → Nat → Nat} {Q : xHp → Prop} (hW : xLay sh R) (hC : C ≤ 60) (hk : k ≤ 4) (hp97 : p ≤ 97) (ha : a < C) (hb : b < C) (he : mEq I p C k e)
    (kk : ∀ I', Fr [213] I I' → mEq I' p C k (fun d i => if d = a then e b i else if d = b then e a i else e d i) → Q (sh, I', R)) : CV mX10_swaps [.ref 209, .int (nI a), .int (nI b), .int (nI k)] (sh, I, R) Q := by
  have loop : ∀ j i (I1 : Nat → Nat → Int32), i + j = k + 1 → Fr [213] I I1 → mEq I1 p C k (fun d t => if d = a ∧ t < i then e b t else if d = b ∧ t < i then e a t else e d t) → Ex mX10_swaps 3 [.ref 209, .int (nI a), .int (nI b), .int (nI k), .int (nI i), xU] [] (sh, I1, R) 0 0 (xqV Q) := by
    intro j
    induction j with
    | zero =>
      intro i I1 hi hf h1
      refine bX10_swaps_3 hW ⟨fun _ => kk I1 hf (fun d hd t ht => ?_), fun c => absurd (nI_lt (by omega) (by omega)) c⟩
      have := h1 d hd t ht
      have hti : t < i := by omega
      simp only [hti, and_true] at this
      exact this
    | succ j ih =>
      intro i I1 hi hf h1
      refine bX10_swaps_3 hW ⟨fun c => absurd c (nI_nlt (by omega) (by omega)), fun _ => ?_⟩
      simp only [pk_mul, nI_add]
      rw [nclamp (by omega), nclamp (by omega)]
      refine ⟨vp_nI (by omega) (by omega), vp_nI (by omega) (by omega), vp_nI (by omega) (by omega), vp_nI (by omega) (by omega), ih (i + 1) _ (by omega) ((hf.xi (by simp)).xi (by simp)) (fun d hd t ht => ?_)⟩
      have ea := h1 a ha i (by omega)
      have eb := h1 b hb i (by omega)
      simp only [Nat.lt_irrefl, and_false, if_false] at ea eb
      have hold := h1 d hd t ht
      by_cases q1 : d = b ∧ t = i
      · obtain ⟨rfl, rfl⟩ := q1
        rw [xi_e]
        by_cases q2 : d = a
        · subst q2; simp only [true_and, Nat.lt_succ_self, if_true]; exact ea
        · simp only [q2, false_and, if_false, true_and, Nat.lt_succ_self, if_true]; exact ea
      · rw [xi_s (by omega)]
        by_cases q2 : d = a ∧ t = i
        · obtain ⟨rfl, rfl⟩ := q2
          rw [xi_e]
          simp only [true_and, Nat.lt_succ_self, if_true]; exact eb
        · rw [xi_s (by omega)]
          have e1 : (d = a ∧ t < i + 1) ↔ (d = a ∧ t < i) := by omega
          have e2 : (d = b ∧ t < i + 1) ↔ (d = b ∧ t < i) := by omega
          simp only [e1, e2]
          exact hold
  refine eX10_swaps (bX10_swaps_0 hW (loop (k + 1) 0 I (by omega) Fr.rf (fun d hd t ht => ?_)))
  simp only [Nat.not_lt_zero, and_false, if_false]
  exact he d hd t ht
theorem w_takesAway {p L C k a c j : Nat} {e : Nat → Nat → Nat} {Q : xHp → Prop} (hW : xLay sh R) (hc : mCtx I p L) (hC : C ≤ 60) (hk : k ≤ 4) (ha : a < C) (hcC : c < C) (hac : a ≠ c) (hj : j ≤ k) (he : mEq I p C k e)
    (kk : ∀ I', Fr [213] I I' → mEq I' p C k (fun d i => if d = a then (e a i + (p - e a j) * e c i) % p else e d i) → Q (sh, I', R)) : CV mX10_takesAway [.ref 209, .int (nI a), .int (nI c), .int (nI k), .int (nI j)] (sh, I, R) Q := by
  obtain ⟨hP, -, hpr, -, -⟩ := id hc
  obtain ⟨hp2, hp97⟩ := PR_bd p hpr
  have loop : ∀ n i (I1 : Nat → Nat → Int32), i + n = k + 1 → Fr [213] I I1 → mEq I1 p C k (fun d t => if d = a ∧ t < i then (e a t + (p - e a j) * e c t) % p else e d t) → Ex mX10_takesAway 16 [.ref 209, .int (nI a), .int (nI c), .int (nI k), xU, .int (nI (e a j)), .int (nI i)] [] (sh, I1, R) 0 0 (xqV Q) := by
    intro n
    induction n with
    | zero =>
      intro i I1 hi hf h1
      refine bX10_takesAway_16 hW ⟨fun _ => kk I1 hf (fun d hd t ht => ?_), fun c => absurd (nI_lt (by omega) (by omega)) c⟩
      have := h1 d hd t ht
      have hti : t < i := by omega
      simp only [hti, and_true] at this
      exact this
    | succ n ih =>
      intro i I1 hi hf h1
      have hP1 : I1 209 1 = nI p := by rw [hf.at 209 1 (by decide)]; exact hP
      refine bX10_takesAway_16 hW ⟨fun c => absurd c (nI_nlt (by omega) (by omega)), fun _ => ?_⟩
      have ea := h1 a ha i (by omega)
      have ec := h1 c hcC i (by omega)
      simp only [Nat.lt_irrefl, and_false, if_false] at ea ec
      have hal := (he a ha j hj).2
      have hbd : (p - e a j) * e c i ≤ 97 * 97 := Nat.mul_le_mul (by omega) (by have := ec.2; omega)
      simp only [pk_mul, nI_add]
      rw [nclamp (by omega), nclamp (by omega), hP1, ea.1, ec.1, pk_sub (by omega), pk_mul, nI_add, xrem_nI (by omega) (by omega) (by omega)]
      refine ⟨vp_nI (by omega) (by omega), vp_nI (by omega) (by omega), nI_ne0 (by omega) (by omega), vp_nI (by omega) (by omega), ih (i + 1) _ (by omega) (hf.xi (by simp)) (fun d hd t ht => ?_)⟩
      have hold := h1 d hd t ht
      by_cases q1 : d = a ∧ t = i
      · obtain ⟨rfl, rfl⟩ := q1
        rw [xi_e]
        simp only [true_and, Nat.lt_succ_self, if_true]
        exact Nat.mod_lt _ (by omega)
      · rw [xi_s (by omega)]
        have e1 : (d = a ∧ t < i + 1) ↔ (d = a ∧ t < i) := by omega
        simp only [e1]
        exact hold
  refine eX10_takesAway (bX10_takesAway_0 hW ?_)
  simp only [pk_mul, nI_add]
  rw [nclamp (by omega), (he a ha j hj).1]
  refine ⟨vp_nI (by omega) (by omega), loop (k + 1) 0 I (by omega) Fr.rf (fun d hd t ht => ?_)⟩
  simp only [Nat.not_lt_zero, and_false, if_false]
  exact he d hd t ht
end MODD
