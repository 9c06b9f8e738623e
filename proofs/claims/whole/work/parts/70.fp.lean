/-! FLOATS: what is positive and normal, exactly doubled and halved -/
section FPX
def ft (f : FP.Core.Fmt) : Prop := 2 ≤ f.p ∧ f.qmin + 100 ≤ -(f.p : Int) ∧ 100 ≤ f.qmax ∧ f.qmax + 3 = f.qmin + f.exps ∧ 2 ≤ f.exps
/-- the number of a positive normal datum -/
def nE (f : FP.Core.Fmt) (c : Nat) (q : Int) : Nat := (q - f.qmin).toNat * f.tails + c
def nrm (f : FP.Core.Fmt) (c : Nat) (q : Int) : Prop := f.tails ≤ c ∧ c < 2 ^ f.p ∧ f.qmin ≤ q ∧ q ≤ f.qmax
variable {f : FP.Core.Fmt}
theorem ft_2 (hf : ft f) : 2 ^ f.p = 2 * f.tails := by
  unfold FP.Core.Fmt.tails
  obtain ⟨n, hn⟩ : ∃ n, f.p = n + 1 := ⟨f.p - 1, by have := hf.1; omega⟩
  rw [hn, Nat.pow_succ, Nat.add_sub_cancel]; omega
theorem ft_pos : 0 < f.tails := Nat.pow_pos (by decide)
theorem nE_enc (hf : ft f) {c : Nat} {q : Int} (h : nrm f c q) : FP.Core.encode f (.fin false c q) = nE f c q := by
  obtain ⟨h1, h2, h3, h4⟩ := h
  show (if c < f.tails then _ else FP.Core.assemble f false ((q - f.qmin).toNat + 1) (c - f.tails)) = _
  unfold nE FP.Core.assemble
  rw [if_neg (by omega)]
  simp only [Bool.toNat_false, Nat.zero_mul, Nat.zero_add]
  rw [Nat.add_mul]
  omega
theorem nE_dec (hf : ft f) {c : Nat} {q : Int} (h : nrm f c q) : FP.Core.decode f (nE f c q) = .fin false c q := by
  obtain ⟨h1, h2, h3, h4⟩ := h
  obtain ⟨g1, g2, g3, g4, g5⟩ := id hf
  have h2' := ft_2 hf
  have hp := ft_pos (f := f)
  have e1 : nE f c q = ((q - f.qmin).toNat + 1) * f.tails + (c - f.tails) := by unfold nE; rw [Nat.add_mul]; omega
  have d1 : nE f c q / f.tails = (q - f.qmin).toNat + 1 := by
    rw [e1, Nat.add_comm, Nat.add_mul_div_right _ _ hp, Nat.div_eq_of_lt (by omega)]; omega
  have d2 : nE f c q % f.tails = c - f.tails := by
    rw [e1, Nat.add_comm, Nat.add_mul_mod_self_right, Nat.mod_eq_of_lt (by omega)]
  have hE : FP.Core.fieldE f (nE f c q) = (q - f.qmin).toNat + 1 := by
    unfold FP.Core.fieldE
    rw [d1, Nat.mod_eq_of_lt (by omega)]
  have hS : FP.Core.fieldS f (nE f c q) = false := by
    unfold FP.Core.fieldS
    rw [d1, Nat.div_eq_of_lt (by omega)]
    rfl
  unfold FP.Core.decode
  rw [hE, hS, if_neg (by omega), if_neg (by omega)]
  have hT : FP.Core.fieldT f (nE f c q) = c - f.tails := d2
  rw [hT]
  congr 1
  · omega
  · omega
theorem nE_lt (hf : ft f) {c : Nat} {q : Int} (h : nrm f c q) : nE f c q < f.exps * f.tails := by
  obtain ⟨h1, h2, h3, h4⟩ := h
  obtain ⟨g1, g2, g3, g4, g5⟩ := id hf
  have h2' := ft_2 hf
  have e : (q - f.qmin).toNat + 2 ≤ f.exps := by omega
  have := Nat.mul_le_mul_right f.tails e
  rw [Nat.add_mul] at this
  unfold nE
  omega
theorem near_exact {c d : Nat} (hd : 0 < d) : FP.Core.nearest (c * d) d = c := by
  unfold FP.Core.nearest
  rw [Nat.mul_mod_left, if_pos (by omega), Nat.mul_div_cancel _ hd]
theorem near_bd {n d a : Nat} (h1 : a * d ≤ n) (h2 : n < 2 * a * d) : a ≤ FP.Core.nearest n d ∧ FP.Core.nearest n d ≤ 2 * a := by
  have hd : 0 < d := by rcases Nat.eq_zero_or_pos d with q | q; rw [q] at h2; omega; exact q
  have b1 : a ≤ n / d := (Nat.le_div_iff_mul_le hd).mpr h1
  have b2 : n / d < 2 * a := (Nat.div_lt_iff_lt_mul hd).mpr h2
  unfold FP.Core.nearest
  split
  · omega
  · split
    · omega
    · have := Nat.mod_lt (n / d) (show 0 < 2 by decide)
      omega
theorem log_norm {c k : Nat} (hf : ft f) (h1 : f.tails ≤ c) (h2 : c < 2 ^ f.p) : (c * 2 ^ k).log2 = f.p - 1 + k := by
  have hp := ft_pos (f := f)
  have hk : 0 < 2 ^ k := Nat.pow_pos (by decide)
  have h0 : c * 2 ^ k ≠ 0 := Nat.pos_iff_ne_zero.mp (Nat.mul_pos (by omega) hk)
  rw [Nat.log2_eq_iff h0]
  refine ⟨?_, ?_⟩
  · rw [Nat.pow_add]; exact Nat.mul_le_mul_right _ h1
  · rw [show f.p - 1 + k + 1 = f.p + k by have := hf.1; omega, Nat.pow_add]; exact Nat.mul_lt_mul_of_pos_right h2 hk
theorem settle_n {c : Nat} {q : Int} (h : nrm f c q) : FP.Core.settle f false c q = .fin false c q := by
  unfold FP.Core.settle FP.Core.bound
  rw [if_pos h.2.1, if_pos h.2.2.2]
/-- exact values stay -/
theorem round_exact (hf : ft f) {c k : Nat} {q : Int} (h : nrm f c (q + k)) : FP.Core.roundRatio f false (c * 2 ^ k) 1 q = .fin false c (q + k) := by
  have hp := ft_pos (f := f)
  have hk : 0 < 2 ^ k := Nat.pow_pos (by decide)
  have h0 : c * 2 ^ k ≠ 0 := Nat.pos_iff_ne_zero.mp (Nat.mul_pos (by have := h.1; omega) hk)
  have hl := log_norm (k := k) hf h.1 h.2.1
  have lead : FP.Core.leading (c * 2 ^ k) 1 = ((f.p - 1 + k : Nat) : Int) := by
    unfold FP.Core.leading
    rw [hl]
    have e1 : Nat.log2 1 = 0 := by decide
    rw [e1]
    have e2 : (((f.p - 1 + k : Nat) : Int) - ((0 : Nat) : Int)) = ((f.p - 1 + k : Nat) : Int) := by omega
    rw [e2]
    dsimp only
    rw [if_pos]
    rw [Int.toNat_natCast, show (-((f.p - 1 + k : Nat) : Int)).toNat = 0 by omega, Nat.one_mul, Nat.pow_zero, Nat.mul_one, Nat.pow_add]
    exact Nat.mul_le_mul_right _ h.1
  have qu : FP.Core.quantum f (c * 2 ^ k) 1 q = q + k := by
    unfold FP.Core.quantum
    rw [lead]
    have := h.2.2.1
    have := hf.1
    omega
  unfold FP.Core.roundRatio
  rw [if_neg h0, qu]
  unfold FP.Core.roundAt FP.Core.unitsNum FP.Core.unitsDen
  rw [show (q - (q + (k : Int))).toNat = 0 by omega, show (q + (k : Int) - q).toNat = k by omega, Nat.pow_zero, Nat.mul_one, Nat.one_mul, near_exact hk]
  exact settle_n h
/-- the product by a power of two -/
theorem mul_pow (hf : ft f) {c : Nat} {q r : Int} (h : nrm f c q) (hr : nrm f f.tails r) (h' : nrm f c (q + r + (f.p - 1 : Nat))) : FP.Core.mul f (nE f c q) (nE f f.tails r) = nE f c (q + r + (f.p - 1 : Nat)) := by
  unfold FP.Core.mul
  rw [nE_dec hf h, nE_dec hf hr]
  show FP.Core.encode f (FP.Core.roundRatio f (false != false) (c * f.tails) 1 (q + r)) = _
  have := round_exact (f := f) (k := f.p - 1) hf h'
  unfold FP.Core.Fmt.tails
  rw [show (false != false) = false from rfl, this, nE_enc hf h']
/-- half of it -/
theorem div_two (hf : ft f) {c : Nat} {q r : Int} (h : nrm f c q) (hr : nrm f f.tails r) (h' : nrm f c (q - r - (f.p - 1 : Nat))) : FP.Core.div f (nE f c q) (nE f f.tails r) = nE f c (q - r - (f.p - 1 : Nat)) := by
  have hp := ft_pos (f := f)
  unfold FP.Core.div
  rw [nE_dec hf h, nE_dec hf hr]
  have hl := log_norm (k := 0) hf h.1 h.2.1
  have hl2 := log_norm (k := 0) hf hr.1 hr.2.1
  rw [Nat.pow_zero, Nat.mul_one] at hl hl2
  have lead : FP.Core.leading c f.tails = 0 := by
    unfold FP.Core.leading
    rw [hl, hl2]
    dsimp only
    rw [Int.sub_self, if_pos]
    simpa using h.1
  have qu : FP.Core.quantum f c f.tails (q - r) = q - r - (f.p - 1 : Nat) := by
    unfold FP.Core.quantum
    rw [lead]
    have := h'.2.2.1
    have := hf.1
    omega
  have hro : FP.Core.roundRatio f false c f.tails (q - r) = .fin false c (q - r - (f.p - 1 : Nat)) := by
    unfold FP.Core.roundRatio
    rw [if_neg (by have := h.1; omega), qu]
    unfold FP.Core.roundAt FP.Core.unitsNum FP.Core.unitsDen
    rw [show (q - r - (q - r - ((f.p - 1 : Nat) : Int))).toNat = f.p - 1 by omega, show (q - r - ((f.p - 1 : Nat) : Int) - (q - r)).toNat = 0 by omega, Nat.pow_zero, Nat.mul_one]
    have := near_exact (c := c) hp
    unfold FP.Core.Fmt.tails at this ⊢
    rw [this]
    exact settle_n h'
  show FP.Core.encode f (if f.tails = 0 then _ else FP.Core.roundRatio f (false != false) c f.tails (q - r)) = _
  rw [if_neg (by omega), show (false != false) = false from rfl, hro, nE_enc hf h']
/-- whole numbers -/
theorem int_norm (hf : ft f) {z : Nat} (hz : z ≠ 0) (hb : z < 2 ^ f.p) : ∃ c, nrm f c ((z.log2 : Int) - (f.p - 1 : Nat)) ∧ FP.Core.fromInt f (z : Int) = nE f c ((z.log2 : Int) - (f.p - 1 : Nat)) := by
  have hp := ft_pos (f := f)
  have h2 := ft_2 hf
  obtain ⟨g1, g2, g3, g4, g5⟩ := id hf
  have hl1 := Nat.log2_self_le hz
  have hl2 := Nat.lt_log2_self (n := z)
  have hle : z.log2 ≤ f.p - 1 := by
    have := (Nat.log2_lt hz).mpr hb
    omega
  have e0 : 2 ^ z.log2 * 2 ^ (f.p - 1 - z.log2) = f.tails := by rw [← Nat.pow_add, show z.log2 + (f.p - 1 - z.log2) = f.p - 1 by omega]; rfl
  have hn : nrm f (z * 2 ^ (f.p - 1 - z.log2)) ((z.log2 : Int) - (f.p - 1 : Nat)) := by
    refine ⟨?_, ?_, by omega, by omega⟩
    · rw [← e0]; exact Nat.mul_le_mul_right _ hl1
    · rw [h2, ← e0, ← Nat.mul_assoc, show 2 * 2 ^ z.log2 = 2 ^ (z.log2 + 1) by rw [Nat.pow_succ]; omega]
      exact Nat.mul_lt_mul_of_pos_right hl2 (Nat.pow_pos (by decide))
  refine ⟨_, hn, ?_⟩
  have lead : FP.Core.leading z 1 = (z.log2 : Int) := by
    unfold FP.Core.leading
    rw [show Nat.log2 1 = 0 by decide]
    rw [show ((z.log2 : Int) - ((0 : Nat) : Int)) = (z.log2 : Int) by omega]
    dsimp only
    rw [if_pos]
    rw [Int.toNat_natCast, show (-(z.log2 : Int)).toNat = 0 by omega]
    simpa using hl1
  have qu : FP.Core.quantum f z 1 0 = (z.log2 : Int) - (f.p - 1 : Nat) := by
    unfold FP.Core.quantum
    rw [lead]
    omega
  unfold FP.Core.fromInt FP.Core.ofInt
  rw [show decide ((z : Int) < 0) = false by simp, Int.natAbs_natCast]
  show FP.Core.encode f (FP.Core.roundRatio f false z 1 0) = _
  unfold FP.Core.roundRatio
  rw [if_neg hz, qu]
  unfold FP.Core.roundAt FP.Core.unitsNum FP.Core.unitsDen
  rw [show ((0 : Int) - ((z.log2 : Int) - ((f.p - 1 : Nat) : Int))).toNat = f.p - 1 - z.log2 by omega, show ((z.log2 : Int) - ((f.p - 1 : Nat) : Int) - 0).toNat = 0 by omega, Nat.pow_zero, Nat.mul_one]
  have := near_exact (c := z * 2 ^ (f.p - 1 - z.log2)) (d := 1) (by decide)
  rw [Nat.mul_one] at this
  rw [this, settle_n hn, nE_enc hf hn]
/-- the ratio of two -/
theorem div_norm (hf : ft f) {c d : Nat} {q r : Int} (h : nrm f c q) (hr : nrm f d r) (hq1 : -50 ≤ q - r) (hq2 : q - r ≤ 50) : ∃ c' q', nrm f c' q' ∧ q - r - f.p ≤ q' ∧ q' ≤ q - r - f.p + 2 ∧ FP.Core.div f (nE f c q) (nE f d r) = nE f c' q' := by
  have hp := ft_pos (f := f)
  have h2 := ft_2 hf
  obtain ⟨g1, g2, g3, g4, g5⟩ := id hf
  obtain ⟨a1, a2, a3, a4⟩ := id h
  obtain ⟨b1, b2, b3, b4⟩ := id hr
  unfold FP.Core.div
  rw [nE_dec hf h, nE_dec hf hr]
  have hl := log_norm (k := 0) hf h.1 h.2.1
  have hl2 := log_norm (k := 0) hf hr.1 hr.2.1
  rw [Nat.pow_zero, Nat.mul_one] at hl hl2
  have settled : ∀ (n : Nat) (u : Int), f.tails ≤ n → n ≤ 2 * f.tails → q - r - f.p ≤ u → u ≤ q - r - f.p + 1 → ∃ c' q', nrm f c' q' ∧ q - r - f.p ≤ q' ∧ q' ≤ q - r - f.p + 2 ∧ FP.Core.encode f (FP.Core.settle f false n u) = nE f c' q' := by
    intro n u n1 n2 u1 u2
    by_cases e : n < 2 ^ f.p
    · have hn : nrm f n u := ⟨n1, e, by omega, by omega⟩
      exact ⟨n, u, hn, u1, by omega, by rw [settle_n hn, nE_enc hf hn]⟩
    · have hn : nrm f f.tails (u + 1) := ⟨Nat.le_refl _, by omega, by omega, by omega⟩
      refine ⟨f.tails, u + 1, hn, by omega, by omega, ?_⟩
      unfold FP.Core.settle FP.Core.bound
      rw [if_neg e, if_pos hn.2.2.2, nE_enc hf hn]
  show ∃ c' q', nrm f c' q' ∧ _ ∧ _ ∧ FP.Core.encode f (if d = 0 then _ else FP.Core.roundRatio f (false != false) c d (q - r)) = _
  rw [if_neg (by omega), show (false != false) = false from rfl]
  unfold FP.Core.roundRatio
  rw [if_neg (by omega)]
  by_cases hcd : d ≤ c
  · have lead : FP.Core.leading c d = 0 := by
      unfold FP.Core.leading
      rw [hl, hl2]
      dsimp only
      rw [Int.sub_self, if_pos]
      simpa using hcd
    have qu : FP.Core.quantum f c d (q - r) = q - r - (f.p - 1 : Nat) := by
      unfold FP.Core.quantum
      rw [lead]
      omega
    rw [qu]
    unfold FP.Core.roundAt FP.Core.unitsNum FP.Core.unitsDen
    rw [show (q - r - (q - r - ((f.p - 1 : Nat) : Int))).toNat = f.p - 1 by omega, show (q - r - ((f.p - 1 : Nat) : Int) - (q - r)).toNat = 0 by omega, Nat.pow_zero, Nat.mul_one]
    have hb := near_bd (n := c * 2 ^ (f.p - 1)) (d := d) (a := f.tails) ?_ ?_
    · exact settled _ _ hb.1 hb.2 (by omega) (by omega)
    · show f.tails * d ≤ c * f.tails
      rw [Nat.mul_comm]; exact Nat.mul_le_mul_right _ hcd
    · show c * f.tails < 2 * f.tails * d
      rw [Nat.mul_comm, Nat.mul_comm 2, Nat.mul_assoc]
      exact Nat.mul_lt_mul_of_pos_left (by omega) hp
  · have lead : FP.Core.leading c d = -1 := by
      unfold FP.Core.leading
      rw [hl, hl2]
      dsimp only
      rw [Int.sub_self, if_neg]
      · rfl
      · simpa using hcd
    have qu : FP.Core.quantum f c d (q - r) = q - r - f.p := by
      unfold FP.Core.quantum
      rw [lead]
      omega
    rw [qu]
    unfold FP.Core.roundAt FP.Core.unitsNum FP.Core.unitsDen
    rw [show (q - r - (q - r - (f.p : Int))).toNat = f.p by omega, show (q - r - (f.p : Int) - (q - r)).toNat = 0 by omega, Nat.pow_zero, Nat.mul_one]
    have hb := near_bd (n := c * 2 ^ f.p) (d := d) (a := f.tails) ?_ ?_
    · exact settled _ _ hb.1 hb.2 (by omega) (by omega)
    · rw [h2, Nat.mul_comm c, Nat.mul_comm 2, Nat.mul_assoc]
      exact Nat.mul_le_mul_left _ (by omega)
    · rw [h2, Nat.mul_comm c]
      exact Nat.mul_lt_mul_of_pos_left (by omega) (by omega)
/-- the order beside a power of two -/
theorem cmp_norm (hf : ft f) {c : Nat} {q r : Int} (h : nrm f c q) (hr : nrm f f.tails r) : (r ≤ q → FP.Core.cmp f (nE f c q) (nE f f.tails r) = some .gt ∨ FP.Core.cmp f (nE f c q) (nE f f.tails r) = some .eq) ∧ (q < r → FP.Core.cmp f (nE f c q) (nE f f.tails r) = some .lt) := by
  have hp := ft_pos (f := f)
  have h2 := ft_2 hf
  unfold FP.Core.cmp
  rw [nE_dec hf h, nE_dec hf hr]
  simp only [FP.Core.order, FP.Core.signed, FP.Core.inUnits, Bool.false_eq_true, if_false]
  refine ⟨fun hle => ?_, fun hlt => ?_⟩
  · rw [show min q r = r by omega, Int.sub_self, show (0 : Int).toNat = 0 from rfl, Nat.pow_zero, Nat.mul_one]
    have hge : f.tails ≤ c * 2 ^ (q - r).toNat := Nat.le_trans h.1 (Nat.le_mul_of_pos_right _ (Nat.pow_pos (by decide)))
    by_cases e : f.tails = c * 2 ^ (q - r).toNat
    · right; rw [← e]; simp [compare, compareOfLessAndEq]
    · left
      have : (f.tails : Int) < ((c * 2 ^ (q - r).toNat : Nat) : Int) := by omega
      simp only [compare, compareOfLessAndEq]
      rw [if_neg (by omega), if_neg (by omega)]
  · rw [show min q r = q by omega, Int.sub_self, show (0 : Int).toNat = 0 from rfl, Nat.pow_zero, Nat.mul_one]
    have hlt2 : c < f.tails * 2 ^ (r - q).toNat := by
      have : 2 ^ 1 ≤ 2 ^ (r - q).toNat := Nat.pow_le_pow_right (by decide) (by omega)
      have := Nat.mul_le_mul_left f.tails this
      have := h.2.1
      omega
    simp only [compare, compareOfLessAndEq]
    rw [if_pos (by omega)]
theorem cmp_zero (hf : ft f) {c : Nat} {q : Int} (h : nrm f c q) : FP.Core.cmp f (nE f c q) 0 = some .gt := by
  have hp := ft_pos (f := f)
  unfold FP.Core.cmp
  rw [nE_dec hf h]
  have h0 : FP.Core.decode f 0 = .fin false 0 f.qmin := by
    unfold FP.Core.decode FP.Core.fieldE FP.Core.fieldT FP.Core.fieldS
    rw [Nat.zero_div, Nat.zero_mod, Nat.zero_mod, Nat.zero_div, if_neg (by have := hf.2.2.2.2; omega), if_pos rfl]
    rfl
  rw [h0]
  show some (compare (FP.Core.signed false (FP.Core.inUnits c q (min q f.qmin))) (FP.Core.signed false (FP.Core.inUnits 0 f.qmin (min q f.qmin)))) = some .gt
  unfold FP.Core.signed FP.Core.inUnits
  simp only [Bool.false_eq_true, if_false, Nat.zero_mul]
  have : 0 < c * 2 ^ (q - min q f.qmin).toNat := Nat.mul_pos (by have := h.1; omega) (Nat.pow_pos (by decide))
  simp only [compare, compareOfLessAndEq]
  rw [if_neg (by omega), if_neg (by omega)]
theorem cmp_self (hf : ft f) {c : Nat} {q : Int} (h : nrm f c q) : FP.Core.cmp f (nE f c q) (nE f c q) = some .eq := by
  unfold FP.Core.cmp
  rw [nE_dec hf h]
  show some (compare (FP.Core.signed false (FP.Core.inUnits c q (min q q))) (FP.Core.signed false (FP.Core.inUnits c q (min q q)))) = some .eq
  simp [compare, compareOfLessAndEq]
theorem ft32 : ft FP.Core.b32 := by unfold ft; decide
theorem ft64 : ft FP.Core.b64 := by unfold ft; decide
end FPX
