/-! THE CLASS: prime and letters, words by their numbers -/
section REALM
variable {sh : List xSh} {I : Nat → Nat → Int32} {R : Nat → Nat → Option Nat}
def cCtx (I : Nat → Nat → Int32) (p L : Nat) : Prop := I 1 0 = nI p ∧ I 1 1 = nI L ∧ p ∈ PR ∧ 1 ≤ L ∧ L ≤ 3
theorem cCtx.fr {S : List Nat} {I I' : Nat → Nat → Int32} {p L : Nat} (h : cCtx I p L) (hf : Fr S I I') (hs : 1 ∉ S) : cCtx I' p L := ⟨by rw [hf.at 1 0 hs]; exact h.1, by rw [hf.at 1 1 hs]; exact h.2.1, h.2.2⟩
theorem cCtx.eq {I I' : Nat → Nat → Int32} {p L : Nat} (h : cCtx I p L) (he : I' 1 = I 1) : cCtx I' p L := ⟨by rw [he]; exact h.1, by rw [he]; exact h.2.1, h.2.2⟩
theorem nI_neg0 {a : Nat} (h : a < 2 ^ 31) : ¬ nI a < 0 := nI_nlt (b := 0) (Nat.zero_le _) h
theorem k_lastLetter {p L w : Nat} {Q : Int32 → xHp → Prop} (hW : xLay sh R) (hc : cCtx I p L) (hw : w < 2 ^ 31) (k : Q (nI ((w - 1) % L)) (sh, I, R)) : CI mX5_lastLetter [.ref 1, .int (nI w)] (sh, I, R) Q := by
  obtain ⟨-, hL, -, hL1, hL3⟩ := hc
  refine eX5_lastLetter (bX5_lastLetter_0 hW ⟨fun q => ?_, fun q => ⟨by rw [hL]; exact nI_ne0 (by omega) (by omega), ?_⟩⟩)
  · have h0 : w = 0 := by have := (nI_leI (b := 0) hw (by decide)).mp q; omega
    subst h0
    rw [Nat.zero_sub, Nat.zero_mod] at k; exact k
  · have h1 : 1 ≤ w := by
      rcases Nat.eq_zero_or_pos w with y | y
      · subst y; exact absurd (by decide) q
      · exact y
    rw [hL, pk_sub h1, xrem_nI (by omega) (by omega) (by omega)]; exact k
theorem k_withoutLast {p L w : Nat} {Q : Int32 → xHp → Prop} (hW : xLay sh R) (hc : cCtx I p L) (hw : w < 2 ^ 31) (k : Q (nI ((w - 1) / L)) (sh, I, R)) : CI mX5_withoutLast [.ref 1, .int (nI w)] (sh, I, R) Q := by
  obtain ⟨-, hL, -, hL1, hL3⟩ := hc
  refine eX5_withoutLast (bX5_withoutLast_0 hW ⟨fun q => ?_, fun q => ⟨by rw [hL]; exact nI_ne0 (by omega) (by omega), ?_⟩⟩)
  · have h0 : w = 0 := by have := (nI_leI (b := 0) hw (by decide)).mp q; omega
    subst h0
    rw [Nat.zero_sub, Nat.zero_div] at k; exact k
  · have h1 : 1 ≤ w := by
      rcases Nat.eq_zero_or_pos w with y | y
      · subst y; exact absurd (by decide) q
      · exact y
    rw [hL, pk_sub h1, pk_div (by omega) (by omega) (by omega)]; exact k
theorem k_withLetter {p L w x : Nat} {Q : Int32 → xHp → Prop} (hW : xLay sh R) (hc : cCtx I p L) (k : Q (nI (w * L + x + 1)) (sh, I, R)) : CI mX5_withLetter [.ref 1, .int (nI w), .int (nI x)] (sh, I, R) Q := by
  refine eX5_withLetter (bX5_withLetter_0 hW ?_)
  rw [hc.2.1]
  simp only [pk_mul, nI_add]
  exact k
theorem wlen_s {L w : Nat} (hw : w ≠ 0) : wlen L w = wlen L ((w - 1) / L) + 1 := by rw [wlen, if_neg hw]
theorem div_lt31 {L w : Nat} (hw : w < 2 ^ 31) : (w - 1) / L < 2 ^ 31 := Nat.lt_of_le_of_lt (Nat.div_le_self _ _) (by omega)
theorem k_lengthOf {p L w : Nat} {Q : Int32 → xHp → Prop} (hW : xLay sh R) (hc : cCtx I p L) (hw : w < 2 ^ 31) (hl : wlen L w ≤ 12) (k : Q (nI (wlen L w)) (sh, I, R)) : CI mX5_lengthOf [.ref 1, .int (nI w)] (sh, I, R) Q := by
  have loop : ∀ m n u, wlen L u = m → n + m = wlen L w → u < 2 ^ 31 → Ex mX5_lengthOf 4 [.ref 1, xU, .int (nI n), .int (nI u)] [] (sh, I, R) 0 0 (xqI Q) := by
    intro m
    induction m with
    | zero =>
      intro n u hu hn hub
      have hu0 : u = 0 := by
        by_cases e : u = 0
        · exact e
        · rw [wlen_s e] at hu; omega
      subst hu0
      refine bX5_lengthOf_4 hW ⟨fun _ => ?_, fun q => absurd (by decide) q⟩
      obtain rfl : n = wlen L w := by omega
      exact k
    | succ m ih =>
      intro n u hu hn hub
      have hu0 : u ≠ 0 := fun z => by rw [z, wlen_0] at hu; omega
      refine bX5_lengthOf_4 hW ⟨fun q => absurd q (nI_npos (by omega) hub), fun _ => ⟨fun q => absurd q (nI_ge (by omega) (by omega)), fun _ => k_withoutLast hW hc hub (bX5_lengthOf_22 hW ?_)⟩⟩
      rw [nI_add]
      exact ih (n + 1) _ (by rw [wlen_s hu0] at hu; omega) (by omega) (div_lt31 hub)
  exact eX5_lengthOf (bX5_lengthOf_0 hW (loop (wlen L w) 0 w rfl (by omega) hw))
theorem k_power {p L n : Nat} {Q : Int32 → xHp → Prop} (hW : xLay sh R) (hc : cCtx I p L) (hn : n < 2 ^ 31) (k : Q (nI (L ^ n)) (sh, I, R)) : CI mX5_power [.ref 1, .int (nI n)] (sh, I, R) Q := by
  have loop : ∀ j i, i + j = n → Ex mX5_power 4 [.ref 1, .int (nI n), .int (nI (L ^ i)), .int (nI i)] [] (sh, I, R) 0 0 (xqI Q) := by
    intro j
    induction j with
    | zero =>
      intro i hi
      obtain rfl : i = n := by omega
      exact bX5_power_4 hW ⟨fun _ => k, fun q => absurd (nI_le (Nat.le_refl _) (by omega)) q⟩
    | succ j ih =>
      intro i hi
      refine bX5_power_4 hW ⟨fun q => absurd q (nI_ge (by omega) (by omega)), fun _ => ?_⟩
      rw [hc.2.1, pk_mul, nI_add, ← Nat.pow_succ]
      exact ih (i + 1) (by omega)
  exact eX5_power (bX5_power_0 hW (loop n 0 (by omega)))
theorem k_firstOfLength {p L n : Nat} {Q : Int32 → xHp → Prop} (hW : xLay sh R) (hc : cCtx I p L) (hn : n < 2 ^ 31) (k : Q (nI (fst L n)) (sh, I, R)) : CI mX5_firstOfLength [.ref 1, .int (nI n)] (sh, I, R) Q := by
  have loop : ∀ j i, i + j = n → Ex mX5_firstOfLength 4 [.ref 1, .int (nI n), .int (nI (fst L i)), .int (nI i)] [] (sh, I, R) 0 0 (xqI Q) := by
    intro j
    induction j with
    | zero =>
      intro i hi
      obtain rfl : i = n := by omega
      exact bX5_firstOfLength_4 hW ⟨fun _ => k, fun q => absurd (nI_le (Nat.le_refl _) (by omega)) q⟩
    | succ j ih =>
      intro i hi
      refine bX5_firstOfLength_4 hW ⟨fun q => absurd q (nI_ge (by omega) (by omega)), fun _ => k_withLetter hW hc (bX5_firstOfLength_15 hW ?_)⟩
      rw [nI_add, Nat.add_zero, ← fst_x]
      exact ih (i + 1) (by omega)
  exact eX5_firstOfLength (bX5_firstOfLength_0 hW (loop n 0 (by omega)))
theorem k_withWord {p L w u : Nat} {Q : Int32 → xHp → Prop} (hW : xLay sh R) (hc : cCtx I p L) (hu : u < 2 ^ 31) (hl : wlen L u ≤ 12) (k : Q (nI (wcat L w u)) (sh, I, R)) : CI mX5_withWord [.ref 1, .int (nI w), .int (nI u)] (sh, I, R) Q := by
  refine eX5_withWord (bX5_withWord_0 hW (k_lengthOf hW hc hu hl (bX5_withWord_7 hW (k_power hW hc (by omega) (bX5_withWord_10 hW ?_)))))
  simp only [pk_mul, nI_add]
  exact k
theorem wcat_s {L u v : Nat} (hL : 0 < L) (hv : v ≠ 0) : (wcat L u v - 1) / L = wcat L u ((v - 1) / L) := by
  obtain ⟨v', x, hx, rfl⟩ := w_split hL hv
  rw [wcat_x hx, wx_par hx, wx_par hx]
theorem wcat_lt31 {L u v : Nat} (hL : 0 < L) (hL3 : L ≤ 3) (h : wlen L u + wlen L v ≤ 12) : wcat L u v < 2 ^ 31 := wcat_bd hL hL3 h
theorem wl_lt31 {L w : Nat} (hL : 0 < L) (hL3 : L ≤ 3) (h : wlen L w ≤ 12) : w < 2 ^ 31 := Nat.lt_of_lt_of_le (wlen_fst hL w).2 (Nat.le_trans (fst_bd hL3 _ (by omega)) (by omega))
/-- the ending of so many letters -/
theorem k_ending {p L w j : Nat} {Q : Int32 → xHp → Prop} (hW : xLay sh R) (hc : cCtx I p L) (hw : wlen L w ≤ 12) (hj : j ≤ wlen L w) (k : Q (nI (lft L w (wlen L w - j))) (sh, I, R)) : CI mX5_ending [.ref 1, .int (nI w), .int (nI j)] (sh, I, R) Q := by
  obtain ⟨-, hL, -, hL1, hL3⟩ := id hc
  obtain ⟨u, e, hu⟩ := lft_split hL1 w (wlen L w - j) (by omega)
  have hvl : wlen L (lft L w (wlen L w - j)) = j := by rw [lft_len hL1]; omega
  generalize hv : lft L w (wlen L w - j) = v at e hvl k
  have hwb := wl_lt31 hL1 hL3 hw
  have loop : ∀ m i v', wlen L v' = m → i + m = j → wcat L u v' < 2 ^ 31 → Ex mX5_ending 5 [.ref 1, .int (nI w), .int (nI j), .int (nI (wcat L u v')), .int (nI i)] [] (sh, I, R) 0 0 (xqI Q) := by
    intro m
    induction m with
    | zero =>
      intro i v' hm hi hb
      obtain rfl : i = j := by omega
      have hv0 : v' = 0 := by
        by_cases q : v' = 0
        · exact q
        · rw [wlen_s q] at hm; omega
      subst hv0
      rw [wcat_0] at *
      refine bX5_ending_5 hW ⟨fun _ => k_power hW hc (by omega) (bX5_ending_30 hW ?_), fun q => absurd (nI_le (Nat.le_refl _) (by omega)) q⟩
      have e2 : w = u * L ^ i + v := by rw [e]; unfold wcat; rw [hvl]
      rw [pk_mul, pk_sub (by omega), e2, Nat.add_sub_cancel_left]
      exact k
    | succ m ih =>
      intro i v' hm hi hb
      have hv0 : v' ≠ 0 := fun z => by rw [z, wlen_0] at hm; omega
      refine bX5_ending_5 hW ⟨fun q => absurd q (nI_ge (by omega) (by omega)), fun _ => k_withoutLast hW hc hb (bX5_ending_16 hW ?_)⟩
      have hb2 := div_lt31 (L := L) hb
      rw [wcat_s hL1 hv0] at hb2 ⊢
      rw [nI_add]
      exact ih (i + 1) _ (by rw [wlen_s hv0] at hm; omega) (by omega) hb2
  have := loop j 0 v hvl (by omega) (by rw [← e]; exact hwb)
  rw [← e] at this
  exact eX5_ending (bX5_ending_0 hW this)
theorem k_inverse {p L v : Nat} {Q : Int32 → xHp → Prop} (hW : xLay sh R) (hc : cCtx I p L) (hv : v < p) (h0 : v ≠ 0) (k : ∀ b, b < p → v * b % p = 1 → Q (nI b) (sh, I, R)) : CI mX5_inverse [.ref 1, .int (nI v)] (sh, I, R) Q := by
  obtain ⟨hP, -, hpr, -, -⟩ := id hc
  obtain ⟨hp2, hp97⟩ := PR_bd p hpr
  obtain ⟨b, hb, hb1⟩ := PR_inv p hpr v hv h0
  have hb0 : 1 ≤ b := by
    rcases Nat.eq_zero_or_pos b with z | z
    · rw [z, Nat.mul_zero, Nat.zero_mod] at hb1; omega
    · exact z
  have loop : ∀ j i, i + j = b → 1 ≤ i → Ex mX5_inverse 2 [.ref 1, .int (nI v), .int (nI i)] [] (sh, I, R) 0 0 (xqI Q) := by
    intro j
    induction j with
    | zero =>
      intro i hi h1
      obtain rfl : i = b := by omega
      have hm := mul_bd hp97 hv hb
      refine bX5_inverse_2 hW ?_
      rw [hP, pk_mul, xrem_nI (by omega) (by omega) (by omega), hb1]
      exact ⟨fun q => absurd q (nI_ge (by omega) (by omega)), fun _ => ⟨nI_ne0 (by omega) (by omega), fun q => absurd rfl q, fun _ => k _ hb hb1⟩⟩
    | succ j ih =>
      intro i hi h1
      have hm := mul_bd hp97 hv (show i < p by omega)
      refine bX5_inverse_2 hW ?_
      have hlt := Nat.mod_lt (v * i) (show 0 < p by omega)
      rw [hP, pk_mul, xrem_nI (by omega) (by omega) (by omega), nI_add]
      refine ⟨fun q => absurd q (nI_ge (by omega) (by omega)), fun _ => ⟨nI_ne0 (by omega) (by omega), fun q => ih (i + 1) (by omega) (by omega), fun q => k i (by omega) ?_⟩⟩
      exact (nI_eq (by omega) (by omega)).mp q
  exact eX5_inverse (bX5_inverse_0 hW (loop (b - 1) 1 (by omega) (Nat.le_refl _)))
theorem k_hasResidue {p L : Nat} {v : Int32} {Q : Int32 → xHp → Prop} (hW : xLay sh R) (hc : cCtx I p L) (k1 : ∀ b, v = nI b → b < p → Q (nI 1) (sh, I, R)) (k0 : ¬ inB v p → Q (nI 0) (sh, I, R)) : CI mX5_hasResidue [.ref 1, .int v] (sh, I, R) Q := by
  obtain ⟨hP, -, hpr, -, -⟩ := id hc
  obtain ⟨hp2, hp97⟩ := PR_bd p hpr
  have z0 : (0 : Int32).toInt = 0 := by decide
  refine eX5_hasResidue (bX5_hasResidue_0 hW ⟨fun q => k0 (fun z => ?_), fun q => ?_⟩)
  · have := Int32.lt_iff_toInt_lt.mp q; have := z.1; omega
  · have h0 : 0 ≤ v.toInt := by
      by_cases y : v.toInt < 0
      · exact absurd (Int32.lt_iff_toInt_lt.mpr (by omega)) q
      · omega
    rw [hP, ← nI_N h0]
    have hvb : nN v < 2 ^ 31 := by have := Int32.toInt_lt v; unfold nN; omega
    refine ⟨fun q2 => k0 (fun z => ?_), fun q2 => k1 (nN v) (nI_N h0).symm ?_⟩
    · have h2 := (nI_leI (by omega) hvb).mp q2
      have := z.2
      unfold nN at h2; omega
    · rcases Nat.lt_or_ge (nN v) p with y | y
      · exact y
      · exact absurd (nI_le y hvb) q2
theorem k_hasLetter {p L : Nat} {v : Int32} {Q : Int32 → xHp → Prop} (hW : xLay sh R) (hc : cCtx I p L) (k1 : ∀ b, v = nI b → b < L → Q (nI 1) (sh, I, R)) (k0 : ¬ inB v L → Q (nI 0) (sh, I, R)) : CI mX5_hasLetter [.ref 1, .int v] (sh, I, R) Q := by
  obtain ⟨-, hL, -, hL1, hL3⟩ := id hc
  have z0 : (0 : Int32).toInt = 0 := by decide
  refine eX5_hasLetter (bX5_hasLetter_0 hW ⟨fun q => k0 (fun z => ?_), fun q => ?_⟩)
  · have := Int32.lt_iff_toInt_lt.mp q; have := z.1; omega
  · have h0 : 0 ≤ v.toInt := by
      by_cases y : v.toInt < 0
      · exact absurd (Int32.lt_iff_toInt_lt.mpr (by omega)) q
      · omega
    rw [hL, ← nI_N h0]
    have hvb : nN v < 2 ^ 31 := by have := Int32.toInt_lt v; unfold nN; omega
    refine ⟨fun q2 => k0 (fun z => ?_), fun q2 => k1 (nN v) (nI_N h0).symm ?_⟩
    · have h2 := (nI_leI (by omega) hvb).mp q2
      have := z.2
      unfold nN at h2; omega
    · rcases Nat.lt_or_ge (nN v) L with y | y
      · exact y
      · exact absurd (nI_le y hvb) q2
theorem pr_PR2 : ∀ v, v ≤ 97 → (2 ≤ v ∧ (∀ d, d < 10 → 2 ≤ d → d * d ≤ v → v % d ≠ 0) ↔ v ∈ PR) := by decide +kernel
theorem k_isPrime {v : Nat} {Q : Int32 → xHp → Prop} (hW : xLay sh R) (hv : v ≤ 99) (k1 : v ∈ PR → Q (nI 1) (sh, I, R)) (k0 : v ∉ PR → Q (nI 0) (sh, I, R)) : CI mX5_isPrime [.int (nI v)] (sh, I, R) Q := by
  refine eX5_isPrime (bX5_isPrime_0 hW ⟨fun q => k0 (fun z => ?_), fun q => ⟨fun q2 => ?_, fun q2 => k0 (fun z => ?_)⟩⟩)
  · have := (nI_ltI (by omega) (by omega)).mp q; have := (PR_bd _ z).1; omega
  · have h97 := (nI_leI (by omega) (by omega)).mp q2
    have h2 : 2 ≤ v := by
      rcases Nat.lt_or_ge v 2 with y | y
      · exact absurd (nI_lt y (by omega)) q
      · exact y
    have loop : ∀ j d, d + j = 10 → 2 ≤ d → (∀ e, e < d → 2 ≤ e → e * e ≤ v → v % e ≠ 0) → Ex mX5_isPrime 15 [.int (nI v), .int (nI d)] [] (sh, I, R) 0 0 (xqI Q) := by
      intro j
      induction j with
      | zero =>
        intro d hd hd2 hno
        obtain rfl : d = 10 := by omega
        refine bX5_isPrime_15 hW ?_
        rw [pk_mul]
        exact ⟨fun _ => k1 ((pr_PR2 v h97).mp ⟨h2, hno⟩), fun q => absurd (nI_lt (by omega) (by omega)) q⟩
      | succ j ih =>
        intro d hd hd2 hno
        have hdd : d * d ≤ 9 * 9 := Nat.mul_le_mul (by omega) (by omega)
        refine bX5_isPrime_15 hW ?_
        rw [pk_mul, xrem_nI (by omega) (by omega) (by omega), nI_add]
        have hm := Nat.mod_lt v (show 0 < d by omega)
        refine ⟨fun q => k1 ((pr_PR2 v h97).mp ⟨h2, fun e he he2 hee => ?_⟩), fun q => ⟨nI_ne0 (by omega) (by omega), fun q2 => ?_, fun q2 => k0 (fun z => ?_)⟩⟩
        · have h3 := (nI_ltI (by omega) (by omega)).mp q
          refine hno e ?_ he2 hee
          rcases Nat.lt_or_ge e d with y | y
          · exact y
          · have := Nat.mul_le_mul y y; omega
        · refine ih (d + 1) (by omega) (by omega) (fun e he he2 hee => ?_)
          by_cases ee : e = d
          · subst ee; exact fun z => q2 (by rw [z]; rfl)
          · exact hno e (by omega) he2 hee
        · have h0 := (nI_eq (a := v % d) (b := 0) (by omega) (by omega)).mp q2
          have hle : d * d ≤ v := by
            rcases Nat.lt_or_ge v (d * d) with y | y
            · exact absurd (nI_lt y (by omega)) q
            · exact y
          exact ((pr_PR2 v h97).mpr z).2 d (by omega) hd2 hle h0
    exact loop 8 2 (by omega) (Nat.le_refl _) (fun e he he2 => by omega)
  · have := (PR_bd _ z).2
    exact absurd (nI_le this (by omega)) q2
theorem k_realm {p L : Nat} {Q : xHp → Prop} (hW : xLay sh R) (hp : p ∈ PR) (hL1 : 1 ≤ L) (hL3 : L ≤ 3) (k : ∀ I', Fr [1] I I' → cCtx I' p L → Q (sh, I', R)) : CV mX5_become [.ref 1, .int (nI p), .int (nI L)] (sh, I, R) Q := by
  have hp9 := PR_bd p hp
  refine eX5_become (bX5_become_0 hW (k_isPrime hW (by omega) (fun _ => bX5_become_5 hW ⟨fun z => absurd z (by decide), fun _ => ⟨fun q => absurd q (nI_nlt hL1 (by omega)), fun _ => ⟨fun q => absurd q (nI_nlt hL3 (by omega)), fun _ => ?_⟩⟩⟩) (fun hn => absurd hp hn)))
  exact k _ ((Fr.rf.xi (by simp)).xi (by simp)) ⟨by rw [xi_s (by decide), xi_e], xi_e, hp, hL1, hL3⟩
theorem k_fill {a n : Nat} {v : Int32} {Q : xHp → Prop} (hW : xLay sh R) (ha : sh[a]? = some (.inr (0, n))) (hn : n < 2 ^ 31) (k : ∀ I', Fr [a] I I' → (∀ j, j < n → I' a j = v) → Q (sh, I', R)) : CV mJ7_fill_53178 [.ref a, .int v] (sh, I, R) Q := by
  have loop : ∀ j i (I1 : Nat → Nat → Int32), i + j = n → Fr [a] I I1 → (∀ c, c < i → I1 a c = v) → Ex mJ7_fill_53178 5 [.ref a, .int v, .int (nI i), .int (nI n)] [] (sh, I1, R) 0 0 (xqV Q) := by
    intro j
    induction j with
    | zero =>
      intro i I1 hi hf h1
      obtain rfl : i = n := by omega
      exact bJ7_fill_53178_5 hW ha ⟨fun _ => k I1 hf h1, fun q => absurd (nI_le (Nat.le_refl _) (by omega)) q⟩
    | succ j ih =>
      intro i I1 hi hf h1
      refine bJ7_fill_53178_5 hW ha ⟨fun q => absurd q (nI_ge (by omega) (by omega)), fun _ => ⟨vp_nI (by omega) hn, ?_⟩⟩
      rw [nclamp (by omega), nI_add]
      refine ih (i + 1) _ (by omega) (hf.xi (by simp)) (fun c hc => ?_)
      by_cases e : c = i
      · subst e; exact xi_e
      · rw [xi_s e]; exact h1 c (by omega)
  exact eJ7_fill_53178 (bJ7_fill_53178_0 hW ha (loop n 0 I (by omega) Fr.rf (fun c hc => absurd hc (Nat.not_lt_zero c))))
end REALM
