/-! THE REFERENCE: machines of the page, the guess, the least -/
def pgF (ms : List Nat) (I I' : Nat → Nat → Int32) : Prop := ∀ i, (∀ m ∈ ms, i < 57 * m ∨ 57 * m + 57 ≤ i) → I' 210 i = I 210 i
theorem pgF.rf {ms : List Nat} {I : Nat → Nat → Int32} : pgF ms I I := fun _ _ => rfl
theorem pgF.tr {ms : List Nat} {I I1 I2 : Nat → Nat → Int32} (h1 : pgF ms I I1) (h2 : pgF ms I1 I2) : pgF ms I I2 := fun i hi => (h2 i hi).trans (h1 i hi)
theorem pgF.of {S ms : List Nat} {I I' : Nat → Nat → Int32} (h : Fr S I I') (hs : 210 ∉ S) : pgF ms I I' := fun i _ => h.at 210 i hs
theorem pgF.xi {m c : Nat} {ms : List Nat} {I I1 : Nat → Nat → Int32} {v : Int32} (h : pgF ms I I1) (hm : m ∈ ms) (hc : c < 57) : pgF ms I (xi I1 210 (57 * m + c) v) := fun i hi => by
  have := hi m hm
  rw [xi_s (by omega)]
  exact h i hi
theorem mRep.pg {ms : List Nat} {I I' : Nat → Nat → Int32} {L m : Nat} {A : Mac} (h : mRep I L m A) (hf : pgF ms I I') (hm : m ∉ ms) (hL : L ≤ 3) : mRep I' L m A := by
  have e : ∀ c, c < 57 → I' 210 (57 * m + c) = I 210 (57 * m + c) := fun c hc => hf _ (fun m' hm' => by
    have : m ≠ m' := fun q => hm (q ▸ hm')
    omega)
  obtain ⟨h1, h2, h3, h4, h5⟩ := h
  refine ⟨h1, by have := e 0 (by omega); rw [Nat.add_zero] at this; rw [this]; exact h2, fun s hs => by rw [e _ (by omega)]; exact h3 s hs, fun s hs => by rw [e _ (by omega)]; exact h4 s hs, fun s x t a b c => by rw [e _ (by omega)]; exact h5 s x t a b c⟩
/-- a machine made of words: states are the words -/
def madeOK (p : Nat) [NeZero p] (L : Nat) (A : Mac) (P : List Nat) (C : Nat) (cs : Nat → Nat) (G : Mac) : Prop := G.1 = P.length ∧ (∀ s, s < P.length → G.2.1 s = if s = 0 then 1 else 0) ∧ (∀ s, s < P.length → G.2.2.1 s = vN p A (wl L (P.getD s 0))) ∧ (∀ s x t, s < P.length → x < L → t < P.length → G.2.2.2 s x t < p) ∧
  ∀ s x d, s < P.length → x < L → d < C → RW p L A cs (P.getD s 0 * L + x + 1) d = sm P.length (fun t => fo p (G.2.2.2 s x t) * RW p L A cs (P.getD t 0) d)
theorem madeOK.ok {p : Nat} [NeZero p] {L : Nat} {A : Mac} {P : List Nat} {C : Nat} {cs : Nat → Nat} {G : Mac} (hp : 2 ≤ p) (h : madeOK p L A P C cs G) : okM p L G := by
  obtain ⟨h1, h2, h3, h4, -⟩ := h
  refine ⟨fun s hs => ?_, fun s hs => ?_, fun s x t a b c => h4 s x t (by omega) b (by omega)⟩
  · rw [h2 s (by omega)]; split <;> omega
  · rw [h3 s (by omega)]; exact vN_lt (by omega) _
theorem madeOK.uniq {p : Nat} [NeZero p] {L : Nat} {A : Mac} {P : List Nat} {C : Nat} {cs : Nat → Nat} {G G' : Mac} (hi : indp C P.length (fun j => RW p L A cs (P.getD j 0))) (h : madeOK p L A P C cs G) (h' : madeOK p L A P C cs G') : ∀ s x t, s < P.length → x < L → t < P.length → G.2.2.2 s x t = G'.2.2.2 s x t := by
  intro s x t hs hx ht
  refine fo_inj (h.2.2.2.1 s x t hs hx ht) (h'.2.2.2.1 s x t hs hx ht) ?_
  exact indp_uniq (c := fun t => fo p (G.2.2.2 s x t)) (d := fun t => fo p (G'.2.2.2 s x t)) hi (fun d hd => (h.2.2.2.2 s x d hs hx hd).symm.trans (h'.2.2.2.2 s x d hs hx hd)) t ht
theorem mRep.same {I : Nat → Nat → Int32} {L m : Nat} {A B : Mac} (h : mRep I L m A) (h1 : B.1 = A.1) (h2 : ∀ s, s < A.1 → B.2.1 s = A.2.1 s) (h3 : ∀ s, s < A.1 → B.2.2.1 s = A.2.2.1 s) (h4 : ∀ s x t, s < A.1 → x < L → t < A.1 → B.2.2.2 s x t = A.2.2.2 s x t) : mRep I L m B := by
  obtain ⟨a1, a2, a3, a4, a5⟩ := h
  refine ⟨by omega, by rw [h1]; exact a2, fun s hs => by rw [h2 s (by omega)]; exact a3 s (by omega), fun s hs => by rw [h3 s (by omega)]; exact a4 s (by omega), fun s x t a b c => by rw [h4 s x t (by omega) b (by omega)]; exact a5 s x t (by omega) b (by omega)⟩
section MODH
variable {sh : List xSh} {I : Nat → Nat → Int32} {R : Nat → Nat → Option Nat}
theorem w_empties {m : Nat} {Q : xHp → Prop} (hW : xLay sh R) (hm : m < 33) (k : ∀ I', Fr [210] I I' → pgF [m] I I' → (∀ c, c < 57 → I' 210 (57 * m + c) = 0) → Q (sh, I', R)) : CV mX10_empties [.ref 209, .int (nI m)] (sh, I, R) Q := by
  have loop : ∀ n c (I1 : Nat → Nat → Int32), c + n = 57 → Fr [210] I I1 → pgF [m] I I1 → (∀ a, a < c → I1 210 (57 * m + a) = 0) → Ex mX10_empties 2 [.ref 209, .int (nI m), .int (nI c)] [] (sh, I1, R) 0 0 (xqV Q) := by
    intro n
    induction n with
    | zero =>
      intro c I1 hc hf hg h1
      exact bX10_empties_2 hW ⟨fun _ => k I1 hf hg (fun a ha => h1 a (by omega)), fun q => absurd (nI_le (by omega) (by omega)) q⟩
    | succ n ih =>
      intro c I1 hc hf hg h1
      refine bX10_empties_2 hW ⟨fun q => absurd q (nI_ge (by omega) (by omega)), fun _ => w_at hW (bX10_empties_18 hW ⟨vp_nI (by omega) (by omega), ?_⟩)⟩
      rw [nclamp (by omega), nI_add]
      refine ih (c + 1) _ (by omega) (hf.xi (by simp)) (hg.xi (by simp) (by omega)) (fun a ha => ?_)
      by_cases e : a = c
      · subst e; rw [xi_e]; rfl
      · rw [xi_s (by omega)]; exact h1 a (by omega)
  exact eX10_empties (bX10_empties_0 hW (loop 57 0 I (by omega) Fr.rf pgF.rf (fun a ha => by omega)))
theorem w_copies {m m2 : Nat} {Q : xHp → Prop} (hW : xLay sh R) (hm : m < 33) (hm2 : m2 < 33) (hne : m ≠ m2) (k : ∀ I', Fr [210] I I' → pgF [m2] I I' → (∀ c, c < 57 → I' 210 (57 * m2 + c) = I 210 (57 * m + c)) → Q (sh, I', R)) : CV mX10_copies [.ref 209, .int (nI m), .int (nI m2)] (sh, I, R) Q := by
  have loop : ∀ n c (I1 : Nat → Nat → Int32), c + n = 57 → Fr [210] I I1 → pgF [m2] I I1 → (∀ a, a < c → I1 210 (57 * m2 + a) = I 210 (57 * m + a)) → Ex mX10_copies 2 [.ref 209, .int (nI m), .int (nI m2), .int (nI c)] [] (sh, I1, R) 0 0 (xqV Q) := by
    intro n
    induction n with
    | zero =>
      intro c I1 hc hf hg h1
      exact bX10_copies_2 hW ⟨fun _ => k I1 hf hg (fun a ha => h1 a (by omega)), fun q => absurd (nI_le (by omega) (by omega)) q⟩
    | succ n ih =>
      intro c I1 hc hf hg h1
      refine bX10_copies_2 hW ⟨fun q => absurd q (nI_ge (by omega) (by omega)), fun _ => w_at hW (bX10_copies_18 hW (w_at hW (bX10_copies_28 hW ⟨vp_nI (by omega) (by omega), vp_nI (by omega) (by omega), ?_⟩)))⟩
      rw [nclamp (by omega), nclamp (by omega), nI_add]
      have e1 : I1 210 (57 * m + c) = I 210 (57 * m + c) := hg _ (fun m' hm' => by have := List.mem_singleton.mp hm'; omega)
      refine ih (c + 1) _ (by omega) (hf.xi (by simp)) (hg.xi (by simp) (by omega)) (fun a ha => ?_)
      by_cases e : a = c
      · subst e; rw [xi_e]; exact e1
      · rw [xi_s (by omega)]; exact h1 a (by omega)
  exact eX10_copies (bX10_copies_0 hW (loop 57 0 I (by omega) Fr.rf pgF.rf (fun a ha => by omega)))
theorem mRep.copied {I I' : Nat → Nat → Int32} {L m m2 : Nat} {A : Mac} (h : mRep I L m A) (hL : L ≤ 3) (hc : ∀ c, c < 57 → I' 210 (57 * m2 + c) = I 210 (57 * m + c)) : mRep I' L m2 A := by
  obtain ⟨h1, h2, h3, h4, h5⟩ := h
  exact ⟨h1, by have := hc 0 (by omega); rw [Nat.add_zero, Nat.add_zero] at this; rw [this]; exact h2, fun s hs => by rw [hc _ (by omega)]; exact h3 s hs, fun s hs => by rw [hc _ (by omega)]; exact h4 s hs, fun s x t a b c => by rw [hc _ (by omega)]; exact h5 s x t a b c⟩
/-- how far a machine g of words P is made: states below s, letters below x of state s -/
def mkSt (p L : Nat) (A : Mac) (P : List Nat) (g : Nat) (I : Nat → Nat → Int32) (s1 s x : Nat) (cf : Nat → Nat → Nat → Nat) : Prop :=
  I 210 (57 * g) = nI P.length ∧ (∀ s', s' < s1 → I 210 (57 * g + (1 + s')) = nI (if s' = 0 then 1 else 0)) ∧ (∀ s', s' < s1 → I 210 (57 * g + (5 + s')) = nI (vN p A (wl L (P.getD s' 0)))) ∧ ∀ s' x' t, (s' < s ∨ (s' = s ∧ x' < x)) → s' < P.length → x' < L → t < P.length → I 210 (57 * g + (9 + 12 * s' + 4 * x' + t)) = nI (cf s' x' t)
def cfOK (p : Nat) [NeZero p] (L : Nat) (A : Mac) (P : List Nat) (C : Nat) (cs : Nat → Nat) (s x : Nat) (cf : Nat → Nat → Nat → Nat) : Prop :=
  ∀ s' x', (s' < s ∨ (s' = s ∧ x' < x)) → s' < P.length → x' < L → (∀ t, t < P.length → cf s' x' t < p) ∧ ∀ d, d < C → RW p L A cs (P.getD s' 0 * L + x' + 1) d = sm P.length (fun t => fo p (cf s' x' t) * RW p L A cs (P.getD t 0) d)
theorem mkSt.fr {T : List Nat} {p L : Nat} {A : Mac} {P : List Nat} {g : Nat} {I I' : Nat → Nat → Int32} {s1 s x : Nat} {cf : Nat → Nat → Nat → Nat} (h : mkSt p L A P g I s1 s x cf) (hf : Fr T I I') (hT : 210 ∉ T) : mkSt p L A P g I' s1 s x cf := by
  have e := hf 210 hT
  obtain ⟨h1, h2, h3, h4⟩ := h
  exact ⟨by rw [e]; exact h1, fun s' hs => by rw [e]; exact h2 s' hs, fun s' hs => by rw [e]; exact h3 s' hs, fun s' x' t a b c d => by rw [e]; exact h4 s' x' t a b c d⟩
theorem mk_end {p : Nat} [NeZero p] {L : Nat} {A : Mac} {P : List Nat} {g C : Nat} {cs : Nat → Nat} {I : Nat → Nat → Int32} {cf : Nat → Nat → Nat → Nat} (hP : P.length ≤ 4) (h : mkSt p L A P g I P.length P.length 0 cf) (hc : cfOK p L A P C cs P.length 0 cf) : ∃ G, madeOK p L A P C cs G ∧ mRep I L g G := by
  refine ⟨(P.length, fun s => if s = 0 then 1 else 0, fun s => vN p A (wl L (P.getD s 0)), cf), ⟨rfl, fun s _ => rfl, fun s _ => rfl, fun s x t a b c => (hc s x (Or.inl a) a b).1 t c, fun s x d a b c => (hc s x (Or.inl a) a b).2 d c⟩, hP, h.1, h.2.1, h.2.2.1, fun s x t a b c => h.2.2.2 s x t (Or.inl a) a b c⟩
theorem w_guesses {p L : Nat} [NeZero p] {A : Mac} {P S : List Nat} {Q : xHp → Prop} (hW : xLay sh R) (hc : mCtx I p L) (hA : mRep I L 0 A) (hok : okM p L A) (hT : mTab I P S) (ht : tabOK p L A P S) (hcd : clsd (DT p L A S P) L P)
    (k : ∀ I' G, Fr [209, 210, 211, 212, 213, 214] I I' → (∀ j, j ≠ 3 → I' 209 j = I 209 j) → I' 209 3 = nI 1 → pgF [1] I I' → madeOK p L A P S.length (fun i => S.getD i 0) G → mRep I' L 1 G → Q (sh, I', R)) : CV mX10_guesses [.ref 209] (sh, I, R) Q := by
  obtain ⟨hPp, hL, hpr, hL1, hL3⟩ := id hc
  obtain ⟨hpf, hSl, hind⟩ := id ht
  have hPl := pfxs_len hL1 hpf
  have hP4 := hT.2.2.1
  have hlP : ∀ j c, j < P.length → c < S.length → wlen L (P.getD j 0) + wlen L (S.getD c 0) ≤ 12 := fun j c hj hc => by have := hPl j hj; have := hSl c hc; omega
  have loopS : ∀ n s (I1 : Nat → Nat → Int32) (cf : Nat → Nat → Nat → Nat), s + n = P.length → Fr [210, 211, 212, 213, 214] I I1 → pgF [1] I I1 → mkSt p L A P 1 I1 s s 0 cf → cfOK p L A P S.length (fun i => S.getD i 0) s 0 cf → Ex mX10_guesses 22 [.ref 209, .int (nI s), xU, xU] [] (sh, I1, R) 0 0 (xqV Q) := by
    intro n
    induction n with
    | zero =>
      intro s I1 cf hsn hf hg hm hcf
      obtain rfl : s = P.length := by omega
      have e10 : I1 209 10 = nI P.length := by rw [hf.at 209 10 (by decide)]; exact hT.1
      refine bX10_guesses_22 hW ⟨fun _ => ?_, fun q => ?_⟩
      · obtain ⟨G, hG1, hG2⟩ := mk_end hP4 hm hcf
        have hfx : Fr [209] I1 (xi I1 209 3 (nI 1)) := Fr.rf.xi (by simp)
        refine k _ G ((hf.sub (by simp)).tr (hfx.sub (by simp))) (fun j hj => by rw [xi_s hj, hf.at 209 j (by decide)]) xi_e (hg.tr (pgF.of hfx (by decide))) hG1 (hG2.fr hfx (by decide))
      · rw [e10] at q; exact absurd (nI_le (Nat.le_refl _) (by omega)) q
    | succ n ih =>
      intro s I1 cf hsn hf hg hm hcf
      have e10 : ∀ {I9 : Nat → Nat → Int32}, Fr [210, 211, 212, 213, 214] I I9 → I9 209 10 = nI P.length := fun h9 => by rw [h9.at 209 10 (by decide)]; exact hT.1
      have hli := hPl s (by omega)
      -- the letters of state s
      have loopX : ∀ m x (I2 : Nat → Nat → Int32) (cf2 : Nat → Nat → Nat → Nat), x + m = L → Fr [210, 211, 212, 213, 214] I I2 → pgF [1] I I2 → mkSt p L A P 1 I2 (s + 1) s x cf2 → cfOK p L A P S.length (fun i => S.getD i 0) s x cf2 → Ex mX10_guesses 78 [.ref 209, .int (nI s), .int (nI x), xU] [] (sh, I2, R) 0 0 (xqV Q) := by
        intro m
        induction m with
        | zero =>
          intro x I2 cf2 hxm hf2 hg2 hm2 hcf2
          refine bX10_guesses_78 hW ⟨fun _ => ?_, fun q => ?_⟩
          · rw [nI_add]
            refine ih (s + 1) I2 cf2 (by omega) hf2 hg2 ⟨hm2.1, hm2.2.1, hm2.2.2.1, fun s' x' t a b c d => hm2.2.2.2 s' x' t (by omega) b c d⟩ (fun s' x' a b c => hcf2 s' x' (by omega) b c)
          · rw [(hc.fr hf2 (by decide)).2.1] at q; exact absurd (nI_le (by omega) (by omega)) q
        | succ m ihm =>
          intro x I2 cf2 hxm hf2 hg2 hm2 hcf2
          have hc2 := hc.fr hf2 (by decide)
          have hT2 := hT.fr hf2 (by decide) (by decide) (by decide)
          have hA2 : mRep I2 L 0 A := hA.pg hg2 (by decide) hL3
          refine bX10_guesses_78 hW ⟨fun q => ?_, fun _ => ⟨vp_nI (by omega) (by omega), ?_⟩⟩
          · rw [hc2.2.1] at q; exact absurd q (nI_ge (by omega) (by omega))
          · rw [nclamp (by omega), hT2.2.2.2.2.1 s (by omega)]
            refine w_oneOf hW (bX10_guesses_98 hW ?_)
            refine w_joined hW hc2 (by rw [wlen_one (by omega)]; omega) (bX10_guesses_101 hW ?_)
            rw [wcat_one (by omega)]
            refine w_isTold hW hc2 hA2 hok hT2 hlP (fun c hcS => by rw [wlen_x (by omega)]; have := hSl c hcS; omega) hind (fun I3 c hf3 h3 h4 => ?_) (fun I3 hf3 h3 => absurd (hcd.2 s x (by omega) (by omega)) h3)
            refine bX10_guesses_104 hW ?_
            have hm3 := hm2.fr hf3 (by decide)
            have hf30 : Fr [210, 211, 212, 213, 214] I I3 := hf2.tr (hf3.sub (by simp))
            have hg30 : pgF [1] I I3 := hg2.tr (pgF.of hf3 (by decide))
            -- the weights
            have loopT : ∀ u t (I4 : Nat → Nat → Int32), t + u = P.length → Fr [210] I3 I4 → pgF [1] I3 I4 → mkSt p L A P 1 I4 (s + 1) s x cf2 → (∀ t', t' < t → I4 210 (57 * 1 + (9 + 12 * s + 4 * x + t')) = nI (c t')) → Ex mX10_guesses 107 [.ref 209, .int (nI s), .int (nI x), .int (nI t)] [] (sh, I4, R) 0 0 (xqV Q) := by
              intro u
              induction u with
              | zero =>
                intro t I4 htu hf4 hg4 hm4 hw4
                have hf40 : Fr [210, 211, 212, 213, 214] I I4 := hf30.tr (hf4.sub (by simp))
                refine bX10_guesses_107 hW ⟨fun _ => ?_, fun q => ?_⟩
                · rw [nI_add]
                  refine ihm (x + 1) I4 (fun s' x' => if s' = s ∧ x' = x then c else cf2 s' x') (by omega) hf40 (hg30.tr hg4) ⟨hm4.1, hm4.2.1, hm4.2.2.1, fun s' x' t' a b c9 d => ?_⟩ (fun s' x' a b c9 => ?_)
                  · by_cases q : s' = s ∧ x' = x
                    · obtain ⟨rfl, rfl⟩ := q
                      simp only [and_self, if_true]
                      exact hw4 t' (by omega)
                    · simp only [q, if_false]
                      exact hm4.2.2.2 s' x' t' (by omega) b c9 d
                  · by_cases q : s' = s ∧ x' = x
                    · obtain ⟨rfl, rfl⟩ := q
                      simp only [and_self, if_true]
                      exact ⟨fun t' ht' => (h3 t' ht').2, h4⟩
                    · simp only [q, if_false]
                      exact hcf2 s' x' (by omega) b c9
                · rw [e10 hf40] at q; exact absurd (nI_le (by omega) (by omega)) q
              | succ u ihu =>
                intro t I4 htu hf4 hg4 hm4 hw4
                have hf40 : Fr [210, 211, 212, 213, 214] I I4 := hf30.tr (hf4.sub (by simp))
                refine bX10_guesses_107 hW ⟨fun q => ?_, fun _ => ⟨vp_nI (by omega) (by omega), ?_⟩⟩
                · rw [e10 hf40] at q; exact absurd q (nI_ge (by omega) (by omega))
                · rw [nclamp (by omega), hf4.at 214 t (by decide), (h3 t (by omega)).1]
                  refine w_weighs (m := 1) hW (by decide) (by omega) (by omega) (by omega) (bX10_guesses_129 hW ?_)
                  rw [nI_add]
                  refine ihu (t + 1) _ (by omega) (hf4.xi (by simp)) (hg4.xi (by simp) (by omega)) ⟨?_, fun s' a => ?_, fun s' a => ?_, fun s' x' t' a b c9 d => ?_⟩ (fun t' ht' => ?_)
                  · rw [xi_s (by omega)]; exact hm4.1
                  · rw [xi_s (by omega)]; exact hm4.2.1 s' a
                  · rw [xi_s (by omega)]; exact hm4.2.2.1 s' a
                  · rw [xi_s (by omega)]; exact hm4.2.2.2 s' x' t' a b c9 d
                  · by_cases q : t' = t
                    · subst q; rw [xi_e]
                    · rw [xi_s (by omega)]; exact hw4 t' (by omega)
            exact loopT P.length 0 I3 (by omega) Fr.rf pgF.rf hm3 (fun t' h => by omega)
      refine bX10_guesses_22 hW ⟨fun q => ?_, fun _ => ?_⟩
      · rw [e10 hf] at q; exact absurd q (nI_ge (by omega) (by omega))
      · rw [nI_add]
        refine w_at hW (bX10_guesses_42 hW ?_)
        -- start and end of state s
        have fin : ∀ (b : Nat), b = (if s = 0 then 1 else 0) → vp_in (nI (57 * 1 + (1 + s))) 1881 ∧ CI mX10_at [.ref 209, .int (nI 1), .int (nI 5 + nI s)] (sh, xi I1 210 ((nI (57 * 1 + (1 + s))).toNatClampNeg) (nI b), R) (fun w h1 => Ex mX10_guesses 64 [.ref 209, .int (nI s), xU, xU] (.int w :: [.ref 210]) h1 0 0 (xqV Q)) := by
          intro b hb
          refine ⟨vp_nI (by omega) (by omega), ?_⟩
          rw [nI_add, nclamp (by omega)]
          generalize hI2 : xi I1 210 (57 * 1 + (1 + s)) (nI b) = I2
          have hf2 : Fr [210] I1 I2 := by rw [← hI2]; exact Fr.rf.xi (by simp)
          have hg2 : pgF [1] I1 I2 := by rw [← hI2]; exact pgF.rf.xi (by simp) (by omega)
          refine w_at hW (bX10_guesses_64 hW ⟨vp_nI (by omega) (by omega), ?_⟩)
          have hf20 : Fr [210, 211, 212, 213, 214] I I2 := hf.tr (hf2.sub (by simp))
          rw [nclamp (by omega), hf20.at 215 s (by decide), hT.2.2.2.2.1 s (by omega)]
          refine w_valueOf (m := 0) hW (hc.fr hf20 (by decide)) (by decide) (hA.pg (hg.tr hg2) (by decide) hL3) hok (by omega) (fun I3 hf3 => bX10_guesses_75 hW ⟨vp_nI (by omega) (by omega), ?_⟩)
          rw [nclamp (by omega)]
          have e3 : ∀ i, I3 210 i = I2 210 i := fun i => hf3.at 210 i (by decide)
          refine loopX L 0 _ cf (by omega) ((hf20.tr (hf3.sub (by simp))).xi (by simp)) (((hg.tr hg2).tr (pgF.of hf3 (by decide))).xi (by simp) (by omega)) ⟨?_, fun s' a => ?_, fun s' a => ?_, fun s' x' t a b c d => ?_⟩ hcf
          · rw [xi_s (by omega), e3, ← hI2, xi_s (by omega)]; exact hm.1
          · rw [xi_s (by omega), e3, ← hI2]
            by_cases q : s' = s
            · subst q; rw [xi_e, hb]
            · rw [xi_s (by omega)]; exact hm.2.1 s' (by omega)
          · by_cases q : s' = s
            · subst q; rw [xi_e]
            · rw [xi_s (by omega), e3, ← hI2, xi_s (by omega)]; exact hm.2.2.1 s' (by omega)
          · rw [xi_s (by omega), e3, ← hI2, xi_s (by omega)]; exact hm.2.2.2 s' x' t a b c d
        refine ⟨fun q => fin 0 (by rw [if_neg (fun z => q (by rw [z]; rfl))]), fun q => fin 1 (by rw [if_pos ((nI_eq (a := s) (b := 0) (by omega) (by omega)).mp q)])⟩
  refine eX10_guesses (bX10_guesses_0 hW (w_empties hW (by decide) (fun I1 hf hg hz => bX10_guesses_5 hW (w_at hW (bX10_guesses_15 hW ⟨vp_nI (by omega) (by omega), ?_⟩)))))
  rw [nclamp (by omega), hf.at 209 10 (by decide), hT.1]
  refine loopS P.length 0 _ (fun _ _ _ => 0) (by omega) ((hf.sub (by simp)).xi (by simp)) (hg.xi (by simp) (by omega)) ⟨xi_e, fun s' a => by omega, fun s' a => by omega, fun s' x' t a => by omega⟩ (fun s' x' a => by omega)
end MODH
