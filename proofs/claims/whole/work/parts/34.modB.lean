/-! THE REFERENCE: words, values -/
/-- the numbers outside some places stay -/
def Fr (S : List Nat) (I I' : Nat → Nat → Int32) : Prop := ∀ q, q ∉ S → I' q = I q
theorem Fr.rf {S : List Nat} {I : Nat → Nat → Int32} : Fr S I I := fun _ _ => rfl
theorem Fr.tr {S : List Nat} {I I1 I2 : Nat → Nat → Int32} (h1 : Fr S I I1) (h2 : Fr S I1 I2) : Fr S I I2 := fun q hq => (h2 q hq).trans (h1 q hq)
theorem Fr.sub {S S' : List Nat} {I I1 : Nat → Nat → Int32} (h : Fr S I I1) (hs : ∀ q ∈ S, q ∈ S') : Fr S' I I1 := fun q hq => h q (fun z => hq (hs q z))
theorem Fr.xi {S : List Nat} {I I1 : Nat → Nat → Int32} {q k : Nat} {v : Int32} (h : Fr S I I1) (hq : q ∈ S) : Fr S I (xi I1 q k v) := fun a ha => by
  have : a ≠ q := fun z => ha (z ▸ hq)
  show (if a = q then _ else I1 a) = _
  rw [if_neg this]
  exact h a ha
theorem Fr.xa {S : List Nat} {I I1 : Nat → Nat → Int32} {q : Nat} {f : Nat → Int32} (h : Fr S I I1) (hq : q ∈ S) : Fr S I (xa I1 q f) := fun a ha => by
  have : a ≠ q := fun z => ha (z ▸ hq)
  show (if a = q then _ else I1 a) = _
  rw [if_neg this]
  exact h a ha
theorem Fr.at {S : List Nat} {I I1 : Nat → Nat → Int32} (h : Fr S I I1) (q j : Nat) (hq : q ∉ S) : I1 q j = I q j := congrFun (h q hq) j
abbrev Mac : Type := Nat × (Nat → Nat) × (Nat → Nat) × (Nat → Nat → Nat → Nat)
def okM (p L : Nat) (A : Mac) : Prop := (∀ s, s < A.1 → A.2.1 s < p) ∧ (∀ s, s < A.1 → A.2.2.1 s < p) ∧ ∀ s x t, s < A.1 → x < L → t < A.1 → A.2.2.2 s x t < p
def fN (p : Nat) (A : Mac) (l : List Nat) : Nat → Nat := l.foldl (fun v x t => sN A.1 (fun s => v s * A.2.2.2 s x t) % p) A.2.1
def vN (p : Nat) (A : Mac) (l : List Nat) : Nat := sN A.1 (fun s => fN p A l s * A.2.2.1 s) % p
theorem fN_x (p : Nat) (A : Mac) (l : List Nat) (x : Nat) : fN p A (l ++ [x]) = fun t => sN A.1 (fun s => fN p A l s * A.2.2.2 s x t) % p := by simp [fN]
theorem fN_lt {p L : Nat} {A : Mac} (hp : 0 < p) (hok : okM p L A) (l : List Nat) : ∀ s, s < A.1 → fN p A l s < p := by
  intro s hs
  rcases List.eq_nil_or_concat l with rfl | ⟨l', x, rfl⟩
  · exact hok.1 s hs
  · rw [List.concat_eq_append, fN_x]; exact Nat.mod_lt _ hp
theorem vN_lt {p : Nat} {A : Mac} (hp : 0 < p) (l : List Nat) : vN p A l < p := Nat.mod_lt _ hp
theorem mul_bd {a b p : Nat} (hp : p ≤ 97) (ha : a < p) (hb : b < p) : a * b ≤ 9216 := Nat.mul_le_mul (show a ≤ 96 by omega) (show b ≤ 96 by omega)
/-- the prime and the letters of the reference -/
def mCtx (I : Nat → Nat → Int32) (p L : Nat) : Prop := I 209 1 = nI p ∧ I 209 2 = nI L ∧ p ∈ PR ∧ 1 ≤ L ∧ L ≤ 3
theorem mCtx.fr {S : List Nat} {I I' : Nat → Nat → Int32} {p L : Nat} (h : mCtx I p L) (hf : Fr S I I') (hs : 209 ∉ S) : mCtx I' p L := ⟨by rw [hf.at 209 1 hs]; exact h.1, by rw [hf.at 209 2 hs]; exact h.2.1, h.2.2⟩
/-- machine m of the page -/
def mRep (I : Nat → Nat → Int32) (L m : Nat) (A : Mac) : Prop := A.1 ≤ 4 ∧ I 210 (57 * m) = nI A.1 ∧ (∀ s, s < A.1 → I 210 (57 * m + (1 + s)) = nI (A.2.1 s)) ∧ (∀ s, s < A.1 → I 210 (57 * m + (5 + s)) = nI (A.2.2.1 s)) ∧ ∀ s x t, s < A.1 → x < L → t < A.1 → I 210 (57 * m + (9 + 12 * s + 4 * x + t)) = nI (A.2.2.2 s x t)
theorem mRep.fr {S : List Nat} {I I' : Nat → Nat → Int32} {L m : Nat} {A : Mac} (h : mRep I L m A) (hf : Fr S I I') (hs : 210 ∉ S) : mRep I' L m A := by
  have e := hf 210 hs
  obtain ⟨h1, h2, h3, h4, h5⟩ := h
  exact ⟨h1, by rw [e]; exact h2, fun s hs => by rw [e]; exact h3 s hs, fun s hs => by rw [e]; exact h4 s hs, fun s x t a b c => by rw [e]; exact h5 s x t a b c⟩
theorem fst_bd {L : Nat} (hL : L ≤ 3) : ∀ n, n ≤ 13 → fst L n ≤ 797161 := by
  have h : ∀ n, fst L n ≤ fst 3 n := by
    intro n
    induction n with
    | zero => exact Nat.le_refl _
    | succ n ih =>
      show fst L n + L ^ n ≤ fst 3 n + 3 ^ n
      have := Nat.pow_le_pow_left hL n
      omega
  intro n hn
  exact Nat.le_trans (h n) (Nat.le_trans (fst_mono hn) (by decide +kernel))
theorem pow_bd {L : Nat} (hL : L ≤ 3) {n : Nat} (hn : n ≤ 13) : L ^ n ≤ 1594323 := Nat.le_trans (Nat.pow_le_pow_left hL n) (Nat.le_trans (Nat.pow_le_pow_right (by omega) hn) (by decide +kernel))
section MODB
variable {sh : List xSh} {I : Nat → Nat → Int32} {R : Nat → Nat → Option Nat}
theorem w_in {a b c : Int64} {Q : Int32 → xHp → Prop} (hW : xLay sh R) (k1 : b.toInt ≤ a.toInt ∧ a.toInt ≤ c.toInt → Q (nI 1) (sh, I, R)) (k0 : ¬ (b.toInt ≤ a.toInt ∧ a.toInt ≤ c.toInt) → Q (nI 0) (sh, I, R)) : CI mX10_in [.long a, .long b, .long c] (sh, I, R) Q := by
  refine eX10_in (bX10_in_0 hW ⟨fun h => k0 ?_, fun h => ⟨fun h2 => k0 ?_, fun h2 => k1 ?_⟩⟩)
  · unfold lg_cmp at h
    split at h
    · exact absurd h (by decide)
    · rename_i q
      split at h
      · exact absurd h (by decide)
      · rename_i q2
        rw [gt_iff_lt, Int64.lt_iff_toInt_lt] at q
        rw [← Int64.toInt_inj] at q2
        omega
  · unfold lg_cmp at h2
    split at h2
    · rename_i q
      rw [gt_iff_lt, Int64.lt_iff_toInt_lt] at q
      omega
    · split at h2
      · exact absurd h2 (by decide)
      · exact absurd h2 (by decide)
  · unfold lg_cmp at h h2
    constructor
    · split at h
      · rename_i q; rw [gt_iff_lt, Int64.lt_iff_toInt_lt] at q; omega
      · split at h
        · rename_i q; rw [q]; exact Int.le_refl _
        · exact absurd (by decide) h
    · split at h2
      · exact absurd (by decide) h2
      · rename_i q; rw [gt_iff_lt, Int64.lt_iff_toInt_lt] at q; omega
theorem w_lengthOf {p L w : Nat} {Q : Int32 → xHp → Prop} (hW : xLay sh R) (hc : mCtx I p L) (hw : wlen L w ≤ 12) (k : Q (nI (wlen L w)) (sh, I, R)) : CI mX10_lengthOf [.ref 209, .int (nI w)] (sh, I, R) Q := by
  obtain ⟨-, hL, -, hL1, hL3⟩ := hc
  have hb : ∀ n, n ≤ 13 → fst L n < 2 ^ 31 := fun n hn => Nat.lt_of_le_of_lt (fst_bd hL3 n hn) (by omega)
  have hw2 := wlen_fst hL1 w
  have hwb : w < 2 ^ 31 := Nat.lt_trans hw2.2 (hb _ (by omega))
  refine eX10_lengthOf (bX10_lengthOf_0 hW ?_)
  have loop : ∀ j n, n + j = wlen L w → Ex mX10_lengthOf 2 [.ref 209, .int (nI w), .int (nI n)] [] (sh, I, R) 0 0 (xqI Q) := by
    intro j
    induction j with
    | zero =>
      intro n hn
      obtain rfl : n = wlen L w := by omega
      refine bX10_lengthOf_2 hW ?_
      rw [nI_add]
      refine w_firstOf hW hL (by omega) (bX10_lengthOf_9 hW ⟨fun _ => k, fun c => absurd (nI_lt hw2.2 (hb _ (by omega))) c⟩)
    | succ j ih =>
      intro n hn
      refine bX10_lengthOf_2 hW ?_
      rw [nI_add]
      have h1 : fst L (n + 1) ≤ w := Nat.le_trans (fst_mono (by omega)) hw2.1
      refine w_firstOf hW hL (by omega) (bX10_lengthOf_9 hW ⟨fun c => absurd c (nI_nlt h1 hwb), fun _ => ?_⟩)
      rw [nI_add]
      exact ih (n + 1) (by omega)
  exact loop (wlen L w) 0 (by omega)
theorem fst_add (L : Nat) (n : Nat) : ∀ m, fst L (n + m) = fst L n * L ^ m + fst L m := by
  intro m
  induction m with
  | zero => simp [fst]
  | succ m ih =>
    rw [← Nat.add_assoc, fst_x, ih, fst_x, Nat.pow_succ, Nat.add_mul, Nat.mul_assoc]
    omega
theorem w_joined {p L w u : Nat} {Q : Int32 → xHp → Prop} (hW : xLay sh R) (hc : mCtx I p L) (hw : wlen L w + wlen L u ≤ 12) (k : Q (nI (wcat L w u)) (sh, I, R)) : CI mX10_joined [.ref 209, .int (nI w), .int (nI u)] (sh, I, R) Q := by
  have hc0 := hc
  obtain ⟨-, hL, -, hL1, hL3⟩ := hc
  refine eX10_joined (bX10_joined_0 hW ?_)
  refine w_lengthOf hW hc0 (by omega) (bX10_joined_5 hW ?_)
  refine w_lengthOf hW hc0 (by omega) (bX10_joined_11 hW ?_)
  rw [nI_add]
  refine w_firstOf hW hL (by omega) (bX10_joined_21 hW ?_)
  refine w_firstOf hW hL (by omega) (bX10_joined_27 hW ?_)
  refine w_power hW hL (by omega) (bX10_joined_34 hW ?_)
  refine w_firstOf hW hL (by omega) (bX10_joined_44 hW ?_)
  have h1 := (wlen_fst hL1 w).1
  have h2 := (wlen_fst hL1 u).1
  rw [pk_sub h1, pk_mul, nI_add, nI_add, pk_sub (by omega)]
  have e : fst L (wlen L w + wlen L u) + (w - fst L (wlen L w)) * L ^ wlen L u + u - fst L (wlen L u) = wcat L w u := by
    unfold wcat
    rw [fst_add, Nat.sub_mul]
    have := Nat.mul_le_mul_right (L ^ wlen L u) h1
    omega
  rw [e]
  exact k
/-- the word that is left when its first k letters are left out -/
theorem w_leftOf {p L w j : Nat} {Q : Int32 → xHp → Prop} (hW : xLay sh R) (hc : mCtx I p L) (hw : wlen L w ≤ 12) (hj : j ≤ wlen L w) (k : Q (nI (fst L (wlen L w - j) + (w - fst L (wlen L w)) % L ^ (wlen L w - j))) (sh, I, R)) : CI mX10_leftOf [.ref 209, .int (nI w), .int (nI j)] (sh, I, R) Q := by
  have hc0 := hc
  obtain ⟨-, hL, -, hL1, hL3⟩ := hc
  have h1 := wlen_fst hL1 w
  have hwb : w < 2 ^ 31 := Nat.lt_of_lt_of_le h1.2 (Nat.le_trans (fst_bd hL3 _ (by omega)) (by omega))
  have hpw : L ^ (wlen L w - j) < 2 ^ 31 := Nat.lt_of_le_of_lt (pow_bd hL3 (by omega)) (by omega)
  have hpp : 0 < L ^ (wlen L w - j) := Nat.pow_pos hL1
  refine eX10_leftOf (bX10_leftOf_0 hW ?_)
  refine w_lengthOf hW hc0 hw (bX10_leftOf_5 hW ?_)
  rw [pk_sub hj]
  refine w_firstOf hW hL (by omega) (bX10_leftOf_13 hW ?_)
  refine w_firstOf hW hL (by omega) (bX10_leftOf_19 hW ?_)
  rw [pk_sub hj]
  refine w_power hW hL (by omega) (bX10_leftOf_27 hW ⟨nI_ne0 hpp hpw, ?_⟩)
  rw [pk_sub h1.1, xrem_nI (by omega) hpp hpw, nI_add]
  exact k
/-- a letter more: what has come to each state, in now -/
theorem w_steps {p L m x : Nat} {A : Mac} {v : Nat → Nat} {Q : xHp → Prop} (hW : xLay sh R) (hc : mCtx I p L) (hm : m < 33) (hx : x < L) (hA : mRep I L m A) (hok : okM p L A) (hv : ∀ s, s < A.1 → I 211 s = nI (v s) ∧ v s < p)
    (k : ∀ I', Fr [211, 212] I I' → (∀ t, t < A.1 → I' 211 t = nI (sN A.1 (fun s => v s * A.2.2.2 s x t) % p)) → Q (sh, I', R)) : CV mX10_steps [.ref 209, .int (nI m), .int (nI x)] (sh, I, R) Q := by
  obtain ⟨hP, -, hpr, hL1, hL3⟩ := id hc
  obtain ⟨hp2, hp97⟩ := PR_bd p hpr
  obtain ⟨hn4, hAn, hAs, hAe, hAw⟩ := id hA
  have hbd : ∀ n t, n ≤ A.1 → t < A.1 → sN n (fun s => v s * A.2.2.2 s x t) ≤ 36864 := fun n t hn ht => Nat.le_trans (sN_le (b := 9216) (fun s hs => mul_bd hp97 (hv s (by omega)).2 (hok.2.2 s x t (by omega) hx ht))) (by omega)
  refine eX10_steps (bX10_steps_0 hW (w_many hW hm ?_))
  rw [hAn]
  refine bX10_steps_5 hW ?_
  generalize hg : (fun t => sN A.1 (fun s => v s * A.2.2.2 s x t) % p) = g at k
  -- copying back
  have loop3 : ∀ j t (I1 : Nat → Nat → Int32), t + j = A.1 → Fr [211, 212] I I1 → (∀ s, s < A.1 → I1 212 s = nI (g s)) → (∀ s, s < t → I1 211 s = nI (g s)) → Ex mX10_steps 79 [.ref 209, xU, xU, .int (nI A.1), .int (nI t), xU, xU] [] (sh, I1, R) 0 0 (xqV Q) := by
    intro j
    induction j with
    | zero =>
      intro t I1 ht hf h2 h1
      obtain rfl : t = A.1 := by omega
      exact bX10_steps_79 hW ⟨fun _ => k I1 hf (fun s hs => by rw [h1 s hs, ← hg]), fun c => absurd (nI_le (Nat.le_refl _) (by omega)) c⟩
    | succ j ih =>
      intro t I1 ht hf h2 h1
      refine bX10_steps_79 hW ⟨fun c => absurd c (nI_ge (by omega) (by omega)), fun _ => ⟨vp_nI (by omega) (by omega), vp_nI (by omega) (by omega), ?_⟩⟩
      rw [nclamp (by omega), nI_add]
      refine ih (t + 1) _ (by omega) (hf.xi (by simp)) (fun s hs => ?_) (fun s hs => ?_)
      · rw [xi_p (by decide)]; exact h2 s hs
      · by_cases e : s = t
        · subst e; rw [xi_e]; exact h2 s (by omega)
        · rw [xi_s e]; exact h1 s (by omega)
  have loop1 : ∀ j t (I1 : Nat → Nat → Int32), t + j = A.1 → Fr [212] I I1 → (∀ s, s < t → I1 212 s = nI (g s)) → Ex mX10_steps 9 [.ref 209, .int (nI m), .int (nI x), .int (nI A.1), .int (nI t), xU, xU] [] (sh, I1, R) 0 0 (xqV Q) := by
    intro j
    induction j with
    | zero =>
      intro t I1 ht hf h2
      obtain rfl : t = A.1 := by omega
      exact bX10_steps_9 hW ⟨fun _ => loop3 A.1 0 I1 (by omega) (hf.sub (by simp)) h2 (fun s hs => by omega), fun c => absurd (nI_le (Nat.le_refl _) (by omega)) c⟩
    | succ j ih =>
      intro t I1 ht hf h2
      refine bX10_steps_9 hW ⟨fun c => absurd c (nI_ge (by omega) (by omega)), fun _ => ?_⟩
      have hA1 : mRep I1 L m A := hA.fr hf (by decide)
      have loop2 : ∀ i s, s + i = A.1 → Ex mX10_steps 21 [.ref 209, .int (nI m), .int (nI x), .int (nI A.1), .int (nI t), .int (nI (sN s (fun s => v s * A.2.2.2 s x t))), .int (nI s)] [] (sh, I1, R) 0 0 (xqV Q) := by
        intro i
        induction i with
        | zero =>
          intro s hs
          obtain rfl : s = A.1 := by omega
          have hP1 : I1 209 1 = nI p := by rw [hf.at 209 1 (by decide)]; exact hP
          refine bX10_steps_21 hW ⟨fun _ => ?_, fun c => absurd (nI_le (Nat.le_refl _) (by omega)) c⟩
          rw [hP1]
          refine ⟨nI_ne0 (by omega) (by omega), vp_nI (by omega) (by omega), ?_⟩
          have hb9 := hbd A.1 t (Nat.le_refl _) (by omega)
          rw [nclamp (by omega), nI_add, xrem_nI (by omega) (by omega) (by omega)]
          refine ih (t + 1) _ (by omega) (hf.xi (by simp)) (fun s hs => ?_)
          by_cases e : s = t
          · subst e; rw [xi_e, ← hg]
          · rw [xi_s e]; exact h2 s (by omega)
        | succ i ihi =>
          intro s hs
          refine bX10_steps_21 hW ⟨fun c => absurd c (nI_ge (by omega) (by omega)), fun _ => ⟨vp_nI (by omega) (by omega), ?_⟩⟩
          rw [nclamp (by omega)]
          refine w_weight hW hm (by omega) (by omega) (by omega) (bX10_steps_46 hW ?_)
          rw [hf.at 211 s (by decide), (hv s (by omega)).1, hA1.2.2.2.2 s x t (by omega) hx (by omega), pk_mul, nI_add, nI_add]
          exact ihi (s + 1) (by omega)
      exact loop2 A.1 0 (by omega)
  exact loop1 A.1 0 I (by omega) Fr.rf (fun s hs => by omega)
end MODB
