section MODG
variable {sh : List xSh} {I : Nat → Nat → Int32} {R : Nat → Nat → Option Nat}
/-- the rows of prefixes by suffixes: independent; words short enough -/
def tabOK (p : Nat) [NeZero p] (L : Nat) (A : Mac) (P S : List Nat) : Prop := pfxs L P ∧ (∀ c, c < S.length → wlen L (S.getD c 0) ≤ 7) ∧ indp S.length P.length (fun j => RW p L A (fun i => S.getD i 0) (P.getD j 0))
abbrev DT (p : Nat) [NeZero p] (L : Nat) (A : Mac) (S : List Nat) : List Nat → Nat → Prop := fun P w => dpw (RW p L A (fun i => S.getD i 0)) S.length P w
theorem w_oneOf {x : Nat} {Q : Int32 → xHp → Prop} (hW : xLay sh R) (k : Q (nI (x + 1)) (sh, I, R)) : CI mX10_oneOf [.int (nI x)] (sh, I, R) Q := eX10_oneOf (bX10_oneOf_0 hW (by rw [nI_add, Nat.add_comm]; exact k))
theorem wcat_one {L w x : Nat} (hx : x < L) : wcat L w (x + 1) = w * L + x + 1 := by
  have := wcat_x (w := w) (u := 0) hx
  rw [wcat_0, Nat.zero_mul, Nat.zero_add] at this
  exact this
theorem wlen_one {L x : Nat} (hx : x < L) : wlen L (x + 1) = 1 := by
  have := wlen_x (w := 0) hx
  rwa [wlen_0, Nat.zero_mul, Nat.zero_add] at this
theorem w_lacking {p L : Nat} [NeZero p] {A : Mac} {P S : List Nat} {Q : Int32 → xHp → Prop} (hW : xLay sh R) (hc : mCtx I p L) (hA : mRep I L 0 A) (hok : okM p L A) (hT : mTab I P S) (ht : tabOK p L A P S)
    (ky : ∀ I' w, Fr [211, 212, 213, 214] I I' → frst (DT p L A S P) L P w → wlen L w ≤ 4 → Q (nI w) (sh, I', R))
    (kn : ∀ I', Fr [211, 212, 213, 214] I I' → clsd (DT p L A S P) L P → Q (-4) (sh, I', R)) : CI mX10_lacking [.ref 209] (sh, I, R) Q := by
  obtain ⟨hP, hL, hpr, hL1, hL3⟩ := id hc
  obtain ⟨hpf, hSl, hind⟩ := ht
  obtain ⟨hT1, hT2, hP4, hS60, hTP, hTS⟩ := id hT
  have hPl := pfxs_len hL1 hpf
  have hlP : ∀ j c, j < P.length → c < S.length → wlen L (P.getD j 0) + wlen L (S.getD c 0) ≤ 12 := fun j c hj hc => by have := hPl j hj; have := hSl c hc; omega
  refine eX10_lacking (bX10_lacking_0 hW ⟨fun hne => ?_, fun h0 => ?_⟩)
  · -- letters behind prefixes
    have loop1 : ∀ n i (I1 : Nat → Nat → Int32), i + n = P.length → Fr [211, 212, 213, 214] I I1 → (∀ i' x', i' < i → x' < L → DT p L A S P (P.getD i' 0 * L + x' + 1)) → Ex mX10_lacking 24 [.ref 209, .int (nI i), xU, xU] [] (sh, I1, R) 0 0 (xqI Q) := by
      intro n
      induction n with
      | zero =>
        intro i I1 hin hf h1
        have hT9 := hT.fr hf (by decide) (by decide) (by decide)
        obtain rfl : i = P.length := by omega
        refine bX10_lacking_24 hW ⟨fun _ => kn I1 hf ⟨fun q => ?_, fun i x hi hx => h1 i x hi hx⟩, fun q => ?_⟩
        · rw [hT1] at hne; rw [q] at hne; exact absurd rfl hne
        · rw [hT9.1] at q; exact absurd (nI_le (Nat.le_refl _) (by omega)) q
      | succ n ih =>
        intro i I1 hin hf h1
        have hT9 := hT.fr hf (by decide) (by decide) (by decide)
        refine bX10_lacking_24 hW ⟨fun q => ?_, fun _ => ?_⟩
        · rw [hT9.1] at q; exact absurd q (nI_ge (by omega) (by omega))
        · have loop2 : ∀ m x (I2 : Nat → Nat → Int32), x + m = L → Fr [211, 212, 213, 214] I I2 → (∀ x', x' < x → DT p L A S P (P.getD i 0 * L + x' + 1)) → Ex mX10_lacking 34 [.ref 209, .int (nI i), .int (nI x), xU] [] (sh, I2, R) 0 0 (xqI Q) := by
            intro m
            induction m with
            | zero =>
              intro x I2 hxm hf2 h2
              have hc2 := hc.fr hf2 (by decide)
              refine bX10_lacking_34 hW ⟨fun _ => ?_, fun q => ?_⟩
              · rw [nI_add]
                refine ih (i + 1) I2 (by omega) hf2 (fun i' x' hi' hx' => ?_)
                by_cases e : i' = i
                · subst e; exact h2 x' (by omega)
                · exact h1 i' x' (by omega) hx'
              · rw [hc2.2.1] at q; exact absurd (nI_le (by omega) (by omega)) q
            | succ m ihm =>
              intro x I2 hxm hf2 h2
              have hc2 := hc.fr hf2 (by decide)
              have hT8 := hT.fr hf2 (by decide) (by decide) (by decide)
              have hli := hPl i (by omega)
              refine bX10_lacking_34 hW ⟨fun q => ?_, fun _ => ⟨vp_nI (by omega) (by omega), ?_⟩⟩
              · rw [hc2.2.1] at q; exact absurd q (nI_ge (by omega) (by omega))
              · rw [nclamp (by omega), hT8.2.2.2.2.1 i (by omega)]
                refine w_oneOf hW (bX10_lacking_53 hW ?_)
                refine w_joined hW hc2 (by rw [wlen_one (by omega)]; omega) (bX10_lacking_56 hW ?_)
                rw [wcat_one (by omega)]
                refine w_isTold hW hc2 (hA.fr hf2 (by decide)) hok hT8 hlP (fun c hcS => by rw [wlen_x (by omega)]; have := hSl c hcS; omega) hind (fun I3 c hf3 _ h3 => ?_) (fun I3 hf3 h3 => ?_)
                · refine bX10_lacking_62 hW ⟨fun _ => ?_, fun q => absurd q (by decide)⟩
                  rw [nI_add]
                  refine ihm (x + 1) I3 (by omega) (hf2.tr hf3) (fun x' hx' => ?_)
                  by_cases e : x' = x
                  · subst e; exact ⟨fun j => fo p (c j), h3⟩
                  · exact h2 x' (by omega)
                · refine bX10_lacking_62 hW ⟨fun q => absurd rfl q, fun _ => ?_⟩
                  refine ky I3 _ (hf2.tr hf3) (Or.inr ⟨i, x, by omega, by omega, rfl, h3, fun i' x' hi' hx' hlt => ?_⟩) (by rw [wlen_x (by omega)]; omega)
                  rcases hlt with q | ⟨q, q2⟩
                  · exact h1 i' x' q hx'
                  · subst q; exact h2 x' q2
          exact loop2 L 0 I1 (by omega) hf (fun x' hx' => by omega)
    exact loop1 P.length 0 I (by omega) Fr.rf (fun i' x' hi' => by omega)
  · -- no prefixes
    have hP0 : P.length = 0 := by
      rw [hT1] at h0
      exact (nI_eq (by omega) (by omega)).mp h0
    have hPn : P = [] := List.length_eq_zero_iff.mp hP0
    refine w_isTold (w := 0) hW hc hA hok hT hlP (fun c hcS => by rw [wlen_0]; have := hSl c hcS; omega) hind (fun I3 c hf3 _ h3 => ?_) (fun I3 hf3 h3 => ?_)
    · refine bX10_lacking_12 hW ⟨fun q => absurd q (by decide), fun _ => kn I3 hf3 ⟨fun _ => ⟨fun j => fo p (c j), h3⟩, fun i x hi => by omega⟩⟩
    · refine bX10_lacking_12 hW ⟨fun _ => ky I3 0 hf3 (Or.inl ⟨hPn, rfl, h3⟩) (by rw [wlen_0]; omega), fun q => absurd rfl q⟩
theorem tabOK_push {p L : Nat} [NeZero p] {A : Mac} {P S : List Nat} {w : Nat} (hp : p ∈ PR) (ht : tabOK p L A P S) (hf : frst (DT p L A S P) L P w) : tabOK p L A (P ++ [w]) S := by
  obtain ⟨h1, h2, h3⟩ := ht
  refine ⟨pfxs_push h1 hf, h2, ?_⟩
  have hn : ¬ DT p L A S P w := by
    rcases hf with ⟨a1, a2, a3⟩ | ⟨i, x, -, -, -, hn, -⟩
    · rw [a2]; exact a3
    · exact hn
  rw [List.length_append]
  refine indp_push (isF_p hp) (indp_congr (fun j hj i _ => by rw [gd_app hj]) h3) ?_
  rw [gd_last]
  intro h
  exact hn (inS_congr (fun j hj i _ => by rw [gd_app hj]) (fun _ _ => rfl) h)
/-- to CLOSE -/
theorem w_closes {p L : Nat} [NeZero p] {A : Mac} {P S : List Nat} {Q : Int32 → xHp → Prop} (hW : xLay sh R) (hc : mCtx I p L) (hA : mRep I L 0 A) (hok : okM p L A) (hT : mTab I P S) (ht : tabOK p L A P S)
    (k : ∀ I' n P', Fr [209, 211, 212, 213, 214, 215] I I' → (∀ j, j ≠ 10 → I' 209 j = I 209 j) → ClsN (DT p L A S) L n P P' → mTab I' P' S → tabOK p L A P' S → Q (nI n) (sh, I', R)) : CI mX10_closes [.ref 209] (sh, I, R) Q := by
  obtain ⟨hP, hL, hpr, hL1, hL3⟩ := id hc
  have step : ∀ m (P1 : List Nat) (I1 : Nat → Nat → Int32) (v1 v2 : Int32) (came : Nat), P1.length + m = 5 → Fr [209, 211, 212, 213, 214, 215] I I1 → (∀ j, j ≠ 10 → I1 209 j = I 209 j) → v1 = nI came → mTab I1 P1 S → tabOK p L A P1 S → (∀ n P', ClsN (DT p L A S) L n P1 P' → ClsN (DT p L A S) L (came + n) P P') → ((v2 = -4 ∧ clsd (DT p L A S P1) L P1) ∨ ∃ w, v2 = nI w ∧ wlen L w ≤ 4 ∧ frst (DT p L A S P1) L P1 w) → Ex mX10_closes 7 [.ref 209, .int v1, .int v2] [] (sh, I1, R) 0 0 (xqI Q) := by
    intro m
    induction m with
    | zero =>
      intro P1 I1 v1 v2 came hm hf hf9 hv1 hT1 ht1
      exact absurd hT1.2.2.1 (by omega)
    | succ m ih =>
      intro P1 I1 v1 v2 came hm hf hf9 hv1 hT1 ht1 hcl hv2
      have hc1 : mCtx I1 p L := ⟨by rw [hf9 1 (by decide)]; exact hP, by rw [hf9 2 (by decide)]; exact hL, hpr, hL1, hL3⟩
      have hA1 : mRep I1 L 0 A := hA.fr hf (by decide)
      rcases hv2 with ⟨rfl, hcd⟩ | ⟨w, rfl, hwl, hfr⟩
      · refine bX10_closes_7 hW ⟨fun _ => ?_, fun q => absurd rfl q⟩
        rw [hv1]
        exact k I1 came P1 hf hf9 (by have := hcl 0 P1 ⟨rfl, hcd⟩; simpa using this) hT1 ht1
      · have hwb : w < 2 ^ 31 := Nat.lt_of_lt_of_le (wlen_fst hL1 w).2 (Nat.le_trans (fst_bd hL3 _ (by omega)) (by omega))
        have ht2 := tabOK_push hpr ht1 hfr
        have hP4 : (P1 ++ [w]).length ≤ 4 := Nat.le_trans (indp_states hpr hL1 ht2.2.2) hA1.1
        rw [List.length_append] at hP4
        simp at hP4
        refine bX10_closes_7 hW ⟨fun q => ?_, fun _ => ?_⟩
        · have : (nI w).toInt = (-4 : Int32).toInt := by rw [q]
          rw [nI_toInt hwb] at this
          have h4 : (-4 : Int32).toInt = -4 := by decide
          omega
        · rw [hT1.1, nclamp (by omega), nI_add]
          refine ⟨vp_nI (by omega) (by omega), ?_⟩
          generalize hI2 : xi (xi I1 215 P1.length (nI w)) 209 10 (nI (P1.length + 1)) = I2
          have hf2 : Fr [209, 215] I1 I2 := by rw [← hI2]; exact ((Fr.rf).xi (by simp)).xi (by simp)
          have hf29 : ∀ j, j ≠ 10 → I2 209 j = I1 209 j := fun j hj => by rw [← hI2, xi_s hj, xi_p (by decide)]
          have hc2 : mCtx I2 p L := ⟨by rw [hf29 1 (by decide)]; exact hc1.1, by rw [hf29 2 (by decide)]; exact hc1.2.1, hpr, hL1, hL3⟩
          have hT2 : mTab I2 (P1 ++ [w]) S := by
            refine ⟨by rw [← hI2, xi_e]; simp, by rw [hf29 11 (by decide)]; exact hT1.2.1, by simp; omega, hT1.2.2.2.1, fun j hj => ?_, fun c hcS => by rw [hf2.at 216 c (by decide)]; exact hT1.2.2.2.2.2 c hcS⟩
            rw [← hI2, xi_p (by decide)]
            simp at hj
            by_cases e : j = P1.length
            · subst e; rw [xi_e, gd_last]
            · rw [xi_s e, gd_app (by omega)]; exact hT1.2.2.2.2.1 j (by omega)
          have hcl2 : ∀ n P', ClsN (DT p L A S) L n (P1 ++ [w]) P' → ClsN (DT p L A S) L (came + 1 + n) P P' := fun n P' hn => by
            have := hcl (n + 1) P' ⟨w, hfr, hn⟩
            rwa [show came + (n + 1) = came + 1 + n by omega] at this
          refine w_lacking hW hc2 (hA1.fr hf2 (by decide)) hok hT2 ht2 (fun I3 w' hf3 h3 hl3 => bX10_closes_40 hW ?_) (fun I3 hf3 h3 => bX10_closes_40 hW ?_)
          · refine ih (P1 ++ [w]) I3 _ _ (came + 1) (by simp; omega) ((hf.tr (hf2.sub (by simp))).tr (hf3.sub (by simp))) (fun j hj => by rw [hf3.at 209 j (by decide), hf29 j hj]; exact hf9 j hj) (by rw [hv1, nI_add]) (hT2.fr hf3 (by decide) (by decide) (by decide)) ht2 hcl2 (Or.inr ⟨w', rfl, hl3, h3⟩)
          · refine ih (P1 ++ [w]) I3 _ _ (came + 1) (by simp; omega) ((hf.tr (hf2.sub (by simp))).tr (hf3.sub (by simp))) (fun j hj => by rw [hf3.at 209 j (by decide), hf29 j hj]; exact hf9 j hj) (by rw [hv1, nI_add]) (hT2.fr hf3 (by decide) (by decide) (by decide)) ht2 hcl2 (Or.inl ⟨rfl, h3⟩)
  have hP5 := hT.2.2.1
  refine eX10_closes (bX10_closes_0 hW (w_lacking hW hc hA hok hT ht (fun I3 w' hf3 h3 hl3 => bX10_closes_6 hW ?_) (fun I3 hf3 h3 => bX10_closes_6 hW ?_)))
  · exact step (5 - P.length) P I3 _ _ 0 (by omega) (hf3.sub (by simp)) (fun j _ => by rw [hf3.at 209 j (by decide)]) rfl (hT.fr hf3 (by decide) (by decide) (by decide)) ht (fun n P' h => by rwa [Nat.zero_add]) (Or.inr ⟨w', rfl, hl3, h3⟩)
  · exact step (5 - P.length) P I3 _ _ 0 (by omega) (hf3.sub (by simp)) (fun j _ => by rw [hf3.at 209 j (by decide)]) rfl (hT.fr hf3 (by decide) (by decide) (by decide)) ht (fun n P' h => by rwa [Nat.zero_add]) (Or.inl ⟨rfl, h3⟩)
end MODG
