/-! THE REFERENCE: its small methods -/
theorem vp_nI {a N : Nat} (h : a < N) (hN : N < 2 ^ 31) : vp_in (nI a) N := vp_in_nI h hN
theorem nclamp {a : Nat} (h : a < 2 ^ 31) : (nI a).toNatClampNeg = a := nI_clamp h
theorem xrem_nI {a d : Nat} (ha : a < 2 ^ 31) (h0 : 0 < d) (hd : d < 2 ^ 31) : xrem (nI a) (nI d) = nI (a % d) := pk_rem ha h0 hd
theorem lgc_lt {a b : Nat} (ha : a < 2 ^ 31) (hb : b < 2 ^ 31) : (nI a).toInt64 = lN a := nI_l ha
section MODA
variable {sh : List xSh} {I : Nat → Nat → Int32} {R : Nat → Nat → Option Nat}
theorem w_at {m c : Nat} {Q : Int32 → xHp → Prop} (hW : xLay sh R) (k : Q (nI (57 * m + c)) (sh, I, R)) : CI mX10_at [.ref 209, .int (nI m), .int (nI c)] (sh, I, R) Q :=
  eX10_at (bX10_at_0 hW (by rw [pk_mul, nI_add]; exact k))
theorem w_many {m : Nat} {Q : Int32 → xHp → Prop} (hW : xLay sh R) (hm : m < 33) (k : Q (I 210 (57 * m)) (sh, I, R)) : CI mX10_many [.ref 209, .int (nI m)] (sh, I, R) Q := by
  refine eX10_many (bX10_many_0 hW ?_)
  rw [pk_mul, nclamp (by omega)]
  exact ⟨vp_nI (by omega) (by omega), k⟩
theorem w_weight {m s x t : Nat} {Q : Int32 → xHp → Prop} (hW : xLay sh R) (hm : m < 33) (hs : s < 4) (hx : x < 3) (ht : t < 4) (k : Q (I 210 (57 * m + (9 + 12 * s + 4 * x + t))) (sh, I, R)) : CI mX10_weight [.ref 209, .int (nI m), .int (nI s), .int (nI x), .int (nI t)] (sh, I, R) Q := by
  refine eX10_weight (bX10_weight_0 hW ?_)
  simp only [pk_mul, nI_add]
  refine w_at hW (bX10_weight_23 hW ⟨vp_nI (by omega) (by omega), ?_⟩)
  rw [nclamp (by omega)]
  exact k
theorem w_weighs {m s x t : Nat} {v : Int32} {Q : xHp → Prop} (hW : xLay sh R) (hm : m < 33) (hs : s < 4) (hx : x < 3) (ht : t < 4) (k : Q (sh, xi I 210 (57 * m + (9 + 12 * s + 4 * x + t)) v, R)) : CV mX10_weighs [.ref 209, .int (nI m), .int (nI s), .int (nI x), .int (nI t), .int v] (sh, I, R) Q := by
  refine eX10_weighs (bX10_weighs_0 hW ?_)
  simp only [pk_mul, nI_add]
  refine w_at hW (bX10_weighs_23 hW ⟨vp_nI (by omega) (by omega), ?_⟩)
  rw [nclamp (by omega)]
  exact k
/-- L to a power; the number of the first word of n letters -/
theorem w_power {L n : Nat} {Q : Int32 → xHp → Prop} (hW : xLay sh R) (hL : I 209 2 = nI L) (hn : n < 2 ^ 31) (k : Q (nI (L ^ n)) (sh, I, R)) : CI mX10_power [.ref 209, .int (nI n)] (sh, I, R) Q := by
  refine eX10_power (bX10_power_0 hW ?_)
  have loop : ∀ j i, i + j = n → Ex mX10_power 4 [.ref 209, .int (nI n), .int (nI (L ^ i)), .int (nI i)] [] (sh, I, R) 0 0 (xqI Q) := by
    intro j
    induction j with
    | zero =>
      intro i hi
      obtain rfl : i = n := by omega
      exact bX10_power_4 hW ⟨fun _ => k, fun c => absurd (nI_le (Nat.le_refl i) hn) c⟩
    | succ j ih =>
      intro i hi
      refine bX10_power_4 hW ⟨fun c => absurd c (nI_ge (by omega) hn), fun _ => ?_⟩
      rw [hL, pk_mul, nI_add]
      exact ih (i + 1) (by omega)
  exact loop n 0 (by omega)
def fst (L : Nat) : Nat → Nat
  | 0 => 0
  | n + 1 => fst L n + L ^ n
theorem w_firstOf {L n : Nat} {Q : Int32 → xHp → Prop} (hW : xLay sh R) (hL : I 209 2 = nI L) (hn : n < 2 ^ 31) (k : Q (nI (fst L n)) (sh, I, R)) : CI mX10_firstOf [.ref 209, .int (nI n)] (sh, I, R) Q := by
  refine eX10_firstOf (bX10_firstOf_0 hW ?_)
  have loop : ∀ j i, i + j = n → Ex mX10_firstOf 4 [.ref 209, .int (nI n), .int (nI (fst L i)), .int (nI i)] [] (sh, I, R) 0 0 (xqI Q) := by
    intro j
    induction j with
    | zero =>
      intro i hi
      obtain rfl : i = n := by omega
      exact bX10_firstOf_4 hW ⟨fun _ => k, fun c => absurd (nI_le (Nat.le_refl i) hn) c⟩
    | succ j ih =>
      intro i hi
      refine bX10_firstOf_4 hW ⟨fun c => absurd c (nI_ge (by omega) hn), fun _ => ?_⟩
      refine w_power hW hL (by omega) (bX10_firstOf_15 hW ?_)
      rw [nI_add, nI_add]
      exact ih (i + 1) (by omega)
  exact loop n 0 (by omega)
end MODA
