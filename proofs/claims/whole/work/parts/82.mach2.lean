section CMACH2
variable {sh : List xSh} {I : Nat → Nat → Int32} {R : Nat → Nat → Option Nat}
/-- a row of residues at a place -/
def vR (I : Nat → Nat → Int32) (p a n : Nat) (v : Nat → Nat) : Prop := ∀ s, s < n → I a s = nI (v s) ∧ v s < p
theorem vR.fr {S : List Nat} {I I' : Nat → Nat → Int32} {p a n : Nat} {v : Nat → Nat} (h : vR I p a n v) (hf : Fr S I I') (hs : a ∉ S) : vR I' p a n v := fun s hn => by rw [hf.at a s hs]; exact h s hn
theorem sum_bd {p n i : Nat} {f g : Nat → Nat} (hp : p ≤ 97) (hn : n ≤ 8) (hi : i ≤ n) (hf : ∀ s, s < n → f s < p) (hg : ∀ s, s < n → g s < p) : sN i (fun s => f s * g s) ≤ 73728 := by
  have := sN_le (n := i) (b := 9216) (f := fun s => f s * g s) (fun s hs => mul_bd hp (hf s (by omega)) (hg s (by omega)))
  omega
theorem k_product {p L q M a na b nb : Nat} {A : Mac} {u v : Nat → Nat} {Q : Int32 → xHp → Prop} (hW : xLay sh R) (hc : cCtx I p L) (hq : xMach sh R q M) (hM : M ≤ 8) (hA : cM I L q M A) (ha : sh[a]? = some (.inr (0, na))) (hb : sh[b]? = some (.inr (0, nb))) (hna : A.1 ≤ na) (hnb : A.1 ≤ nb) (hna2 : na ≤ 8) (hnb2 : nb ≤ 8) (hu : vR I p a A.1 u) (hv : vR I p b A.1 v)
    (k : Q (nI (sN A.1 (fun s => u s * v s) % p)) (sh, I, R)) : CI mX3_product [.ref q, .ref a, .ref b] (sh, I, R) Q := by
  obtain ⟨hP, hL, hpr, hL1, hL3⟩ := id hc
  obtain ⟨hp2, hp97⟩ := PR_bd p hpr
  have h8 := hA.1
  have loop : ∀ j s, s + j = A.1 → Ex mX3_product 5 [.ref q, .ref a, .ref b, .int (nI (sN s (fun s => u s * v s))), .int (nI s)] [] (sh, I, R) 0 0 (xqI Q) := by
    intro j
    induction j with
    | zero =>
      intro s hs
      obtain rfl : s = A.1 := by omega
      have hbd := sum_bd (i := A.1) hp97 (show A.1 ≤ 8 by omega) (Nat.le_refl _) (fun s hs => (hu s hs).2) (fun s hs => (hv s hs).2)
      refine bX3_product_5 hW hq ha hb ?_
      rw [hA.2.2.1, hP, xrem_nI (by omega) (by omega) (by omega)]
      exact ⟨fun _ => ⟨nI_ne0 (by omega) (by omega), k⟩, fun z => absurd (nI_le (Nat.le_refl _) (by omega)) z⟩
    | succ j ih =>
      intro s hs
      refine bX3_product_5 hW hq ha hb ?_
      rw [hA.2.2.1, nclamp (by omega), (hu s (by omega)).1, (hv s (by omega)).1]
      simp only [pk_mul, nI_add]
      exact ⟨fun z => absurd z (nI_ge (by omega) (by omega)), fun _ => ⟨vp_nI (by omega) (by omega), vp_nI (by omega) (by omega), ih (s + 1) (by omega)⟩⟩
  exact eX3_product (bX3_product_0 hW hq ha hb (loop A.1 0 (by omega)))
theorem k_forward {p L q M a na c nc x : Nat} {A : Mac} {u : Nat → Nat} {Q : xHp → Prop} (hW : xLay sh R) (hc : cCtx I p L) (hq : xMach sh R q M) (hM : M ≤ 8) (hA : cM I L q M A) (hok : okM p L A) (ha : sh[a]? = some (.inr (0, na))) (hcc : sh[c]? = some (.inr (0, nc))) (hna : A.1 ≤ na) (hnc : A.1 ≤ nc) (hna2 : na ≤ 8) (hnc2 : nc ≤ 8) (hac : a ≠ c) (hc1 : 1 < c) (hcq : c < q ∨ q + 3 < c) (hx : x < L) (hu : vR I p a A.1 u)
    (k : ∀ I', Fr [c] I I' → vR I' p c A.1 (fun t => sN A.1 (fun s => u s * A.2.2.2 s x t) % p) → Q (sh, I', R)) : CV mX3_forward [.ref q, .ref a, .int (nI x), .ref c] (sh, I, R) Q := by
  obtain ⟨hP, hL, hpr, hL1, hL3⟩ := id hc
  obtain ⟨hp2, hp97⟩ := PR_bd p hpr
  have h8 := hA.1
  have hm := m3m hM
  have loop : ∀ j t (I1 : Nat → Nat → Int32), t + j = A.1 → Fr [c] I I1 → vR I1 p c t (fun t => sN A.1 (fun s => u s * A.2.2.2 s x t) % p) → Ex mX3_forward 3 [.ref q, .ref a, .int (nI x), .ref c, .int (nI t), xU, xU, xU] [] (sh, I1, R) 0 0 (xqV Q) := by
    intro j
    induction j with
    | zero =>
      intro t I1 ht hf hv
      obtain rfl : t = A.1 := by omega
      refine bX3_forward_3 hW hq ha hcc ⟨fun _ => k I1 hf hv, fun z => ?_⟩
      rw [hf.at q 2 (by simp; omega), hA.2.2.1] at z
      exact absurd (nI_le (Nat.le_refl _) (by omega)) z
    | succ j ih =>
      intro t I1 ht hf hv
      have hA1 : cM I1 L q M A := hA.fr hf (by simp; omega)
      refine bX3_forward_3 hW hq ha hcc ⟨fun z => ?_, fun _ => k_at hW hq hA1.2.1 (bX3_forward_23 hW hq ha hcc ?_)⟩
      · rw [hA1.2.2.1] at z; exact absurd z (nI_ge (by omega) (by omega))
      have inner : ∀ j2 s, s + j2 = A.1 → Ex mX3_forward 28 [.ref q, .ref a, .int (nI x), .ref c, .int (nI t), .int (nI (sN s (fun s => u s * A.2.2.2 s x t))), .int (nI ((s * 3 + x) * M + t)), .int (nI s)] [] (sh, I1, R) 0 0 (xqV Q) := by
        intro j2
        induction j2 with
        | zero =>
          intro s hs
          obtain rfl : s = A.1 := by omega
          have hb := sum_bd (i := A.1) (g := fun s => A.2.2.2 s x t) hp97 (show A.1 ≤ 8 by omega) (Nat.le_refl _) (fun s hs => (hu s hs).2) (fun s hs => hok.2.2 s x t hs hx (by omega))
          refine bX3_forward_28 hW hq ha hcc ?_
          rw [hA1.2.2.1, hf.at 1 0 (by simp; omega), hP, xrem_nI (by omega) (by omega) (by omega), nclamp (by omega), nI_add]
          refine ⟨fun _ => ⟨nI_ne0 (by omega) (by omega), vp_nI (by omega) (by omega), ih (t + 1) _ (by omega) (hf.xi (by simp)) (fun i hi => ?_)⟩, fun z => absurd (nI_le (Nat.le_refl _) (by omega)) z⟩
          by_cases e : i = t
          · subst e; exact ⟨xi_e, Nat.mod_lt _ (by omega)⟩
          · rw [xi_s e]; exact hv i (by omega)
        | succ j2 ih2 =>
          intro s hs
          have hw := wix_lt (M := M) (s := s) (x := x) (t := t) (by omega) (by omega) (by omega)
          refine bX3_forward_28 hW hq ha hcc ?_
          rw [hA1.2.2.1, hA1.2.1, nclamp (a := s) (by omega), nclamp (a := (s * 3 + x) * M + t) (by omega), hf.at a s (by simpa using hac), (hu s (by omega)).1, hA1.W (by omega) hx (by omega)]
          simp only [pk_mul, nI_add]
          refine ⟨fun z => absurd z (nI_ge (by omega) (by omega)), fun _ => ⟨vp_nI (by omega) (by omega), vp_nI hw (by omega), ?_⟩⟩
          have e9 : (s * 3 + x) * M + t + 3 * M = ((s + 1) * 3 + x) * M + t := by
            rw [show (s + 1) * 3 + x = (s * 3 + x) + 3 by omega, Nat.add_mul (s * 3 + x) 3 M]; omega
          rw [e9]
          exact ih2 (s + 1) (by omega)
      exact inner A.1 0 (by omega)
  exact eX3_forward (bX3_forward_0 hW hq ha hcc (loop A.1 0 I (by omega) Fr.rf (fun i hi => absurd hi (Nat.not_lt_zero i))))
theorem k_backward {p L q M a na c nc x : Nat} {A : Mac} {u : Nat → Nat} {Q : xHp → Prop} (hW : xLay sh R) (hc : cCtx I p L) (hq : xMach sh R q M) (hM : M ≤ 8) (hA : cM I L q M A) (hok : okM p L A) (ha : sh[a]? = some (.inr (0, na))) (hcc : sh[c]? = some (.inr (0, nc))) (hna : A.1 ≤ na) (hnc : A.1 ≤ nc) (hna2 : na ≤ 8) (hnc2 : nc ≤ 8) (hac : a ≠ c) (hc1 : 1 < c) (hcq : c < q ∨ q + 3 < c) (hx : x < L) (hu : vR I p a A.1 u)
    (k : ∀ I', Fr [c] I I' → vR I' p c A.1 (fun s => sN A.1 (fun t => A.2.2.2 s x t * u t) % p) → Q (sh, I', R)) : CV mX3_backward [.ref q, .ref a, .int (nI x), .ref c] (sh, I, R) Q := by
  obtain ⟨hP, hL, hpr, hL1, hL3⟩ := id hc
  obtain ⟨hp2, hp97⟩ := PR_bd p hpr
  have h8 := hA.1
  have hm := m3m hM
  have loop : ∀ j s (I1 : Nat → Nat → Int32), s + j = A.1 → Fr [c] I I1 → vR I1 p c s (fun s => sN A.1 (fun t => A.2.2.2 s x t * u t) % p) → Ex mX3_backward 3 [.ref q, .ref a, .int (nI x), .ref c, .int (nI s), xU, xU, xU] [] (sh, I1, R) 0 0 (xqV Q) := by
    intro j
    induction j with
    | zero =>
      intro s I1 hs hf hv
      obtain rfl : s = A.1 := by omega
      refine bX3_backward_3 hW hq ha hcc ⟨fun _ => k I1 hf hv, fun z => ?_⟩
      rw [hf.at q 2 (by simp; omega), hA.2.2.1] at z
      exact absurd (nI_le (Nat.le_refl _) (by omega)) z
    | succ j ih =>
      intro s I1 hs hf hv
      have hA1 : cM I1 L q M A := hA.fr hf (by simp; omega)
      refine bX3_backward_3 hW hq ha hcc ⟨fun z => ?_, fun _ => k_at hW hq hA1.2.1 (bX3_backward_23 hW hq ha hcc ?_)⟩
      · rw [hA1.2.2.1] at z; exact absurd z (nI_ge (by omega) (by omega))
      have inner : ∀ j2 t, t + j2 = A.1 → Ex mX3_backward 28 [.ref q, .ref a, .int (nI x), .ref c, .int (nI s), .int (nI (sN t (fun t => A.2.2.2 s x t * u t))), .int (nI ((s * 3 + x) * M + 0)), .int (nI t)] [] (sh, I1, R) 0 0 (xqV Q) := by
        intro j2
        induction j2 with
        | zero =>
          intro t ht
          obtain rfl : t = A.1 := by omega
          have hb := sum_bd (i := A.1) (f := fun t => A.2.2.2 s x t) hp97 (show A.1 ≤ 8 by omega) (Nat.le_refl _) (fun t ht => hok.2.2 s x t (by omega) hx ht) (fun s hs => (hu s hs).2)
          refine bX3_backward_28 hW hq ha hcc ?_
          rw [hA1.2.2.1, hf.at 1 0 (by simp; omega), hP, xrem_nI (by omega) (by omega) (by omega), nclamp (by omega), nI_add]
          refine ⟨fun _ => ⟨nI_ne0 (by omega) (by omega), vp_nI (by omega) (by omega), ih (s + 1) _ (by omega) (hf.xi (by simp)) (fun i hi => ?_)⟩, fun z => absurd (nI_le (Nat.le_refl _) (by omega)) z⟩
          by_cases e : i = s
          · subst e; exact ⟨xi_e, Nat.mod_lt _ (by omega)⟩
          · rw [xi_s e]; exact hv i (by omega)
        | succ j2 ih2 =>
          intro t ht
          have hw := wix_lt (M := M) (s := s) (x := x) (t := t) (by omega) (by omega) (by omega)
          refine bX3_backward_28 hW hq ha hcc ?_
          simp only [nI_add, Nat.add_zero]
          rw [hA1.2.2.1, nclamp (a := t) (by omega), nclamp (a := (s * 3 + x) * M + t) (by omega), hf.at a t (by simpa using hac), (hu t (by omega)).1, hA1.W (by omega) hx (by omega)]
          simp only [pk_mul, nI_add]
          exact ⟨fun z => absurd z (nI_ge (by omega) (by omega)), fun _ => ⟨vp_nI hw (by omega), vp_nI (by omega) (by omega), ih2 (t + 1) (by omega)⟩⟩
      exact inner A.1 0 (by omega)
  exact eX3_backward (bX3_backward_0 hW hq ha hcc (loop A.1 0 I (by omega) Fr.rf (fun i hi => absurd hi (Nat.not_lt_zero i))))
end CMACH2
