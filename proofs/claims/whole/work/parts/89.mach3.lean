section CMACH3
variable {sh : List xSh} {I : Nat → Nat → Int32} {R : Nat → Nat → Option Nat}
theorem k_multiplyStarts {p L q M v : Nat} {A : Mac} {Q : xHp → Prop} (hW : xLay sh R) (hc : cCtx I p L) (hq : xMach sh R q M) (hM : M ≤ 8) (hq1 : 1 < q) (hA : cM I L q M A) (hok : okM p L A) (hv : v < p) (k : ∀ I', Fr (mPl q) I I' → cM I' L q M (mScale p A v) → Q (sh, I', R)) : CV mX3_multiplyStarts [.ref q, .int (nI v)] (sh, I, R) Q := by
  obtain ⟨hP, hL, hpr, hL1, hL3⟩ := id hc
  obtain ⟨hp2, hp97⟩ := PR_bd p hpr
  have h8 := hA.1
  obtain ⟨a1, a2, a3, a4, a5, a6⟩ := id hA
  have loop : ∀ j s (I1 : Nat → Nat → Int32), s + j = A.1 → Fr [q + 1] I I1 → (∀ i, i < M → I1 (q + 1) i = nI (if i < A.1 then (if i < s then A.2.1 i * v % p else A.2.1 i) else 0)) → Ex mX3_multiplyStarts 2 [.ref q, .int (nI v), .int (nI s)] [] (sh, I1, R) 0 0 (xqV Q) := by
    intro j
    induction j with
    | zero =>
      intro s I1 hs f1 g1
      obtain rfl : s = A.1 := by omega
      refine bX3_multiplyStarts_2 hW hq ⟨fun _ => k I1 (f1.sub (by simp)) ⟨a1, by rw [f1.at q 1 (by simp)]; exact a2, by rw [f1.at q 2 (by simp)]; exact a3, fun i hi => ?_, by rw [f1 (q + 2) (by simp)]; exact a5, by rw [f1 (q + 3) (by simp)]; exact a6⟩, fun z => ?_⟩
      · rw [g1 i hi]
        show _ = nI (if i < A.1 then A.2.1 i * v % p else 0)
        by_cases e : i < A.1
        · rw [if_pos e, if_pos e, if_pos e]
        · rw [if_neg e, if_neg e]
      · rw [f1.at q 2 (by simp), a3] at z; exact absurd (nI_le (Nat.le_refl _) (by omega)) z
    | succ j ih =>
      intro s I1 hs f1 g1
      have hb := mul_bd hp97 (hok.1 s (by omega)) hv
      refine bX3_multiplyStarts_2 hW hq ⟨fun z => ?_, fun _ => ?_⟩
      · rw [f1.at q 2 (by simp), a3] at z; exact absurd z (nI_ge (by omega) (by omega))
      rw [nclamp (by omega), f1.at 1 0 (by simp <;> omega), hP, g1 s (by omega), if_pos (show s < A.1 by omega), if_neg (Nat.lt_irrefl s), pk_mul, xrem_nI (by omega) (by omega) (by omega), nI_add]
      refine ⟨vp_nI (by omega) (by omega), nI_ne0 (by omega) (by omega), vp_nI (by omega) (by omega), ih (s + 1) _ (by omega) (f1.xi (by simp)) (fun i hi => ?_)⟩
      by_cases e : i = s
      · subst e; rw [xi_e, if_pos (show i < A.1 by omega), if_pos (show i < i + 1 by omega)]
      · rw [xi_s e, g1 i hi]
        by_cases e2 : i < A.1
        · rw [if_pos e2, if_pos e2]
          by_cases e3 : i < s
          · rw [if_pos e3, if_pos (show i < s + 1 by omega)]
          · rw [if_neg e3, if_neg (show ¬ i < s + 1 by omega)]
        · rw [if_neg e2, if_neg e2]
  refine eX3_multiplyStarts (bX3_multiplyStarts_0 hW hq (loop A.1 0 I (by omega) Fr.rf (fun i hi => ?_)))
  rw [a4 i hi]
  by_cases e : i < A.1
  · rw [if_pos e, if_pos e, if_neg (Nat.not_lt_zero i)]
  · rw [if_neg e, if_neg e]
/-- how far a machine is turned -/
def tuD (s x t i y j : Nat) : Prop := (i < s ∧ j < s) ∨ (i = s ∧ j < s ∧ (y < x ∨ (y = x ∧ j < t))) ∨ (j = s ∧ i < s ∧ (y < x ∨ (y = x ∧ i < t)))
theorem k_reverse {p L q M : Nat} {A : Mac} {Q : xHp → Prop} (hW : xLay sh R) (hc : cCtx I p L) (hq : xMach sh R q M) (hM : M ≤ 8) (hq1 : 1 < q) (hA : cM I L q M A) (k : ∀ I', Fr (mPl q) I I' → cM I' L q M (mTurn A) → Q (sh, I', R)) : CV mX3_reverse [.ref q] (sh, I, R) Q := by
  obtain ⟨hP, hL, hpr, hL1, hL3⟩ := id hc
  have h8 := hA.1
  have hm := m3m hM
  obtain ⟨a1, a2, a3, a4, a5, a6⟩ := id hA
  let wv : Nat → Nat → Nat → Nat → Nat → Nat → Int32 := fun s x t i y j => @ite _ (tuD s x t i y j) (Classical.propDecidable _) (nI (A.2.2.2 j y i)) (nI (A.2.2.2 i y j))
  have wp : ∀ {s x t i y j}, tuD s x t i y j → wv s x t i y j = nI (A.2.2.2 j y i) := fun h => @if_pos _ (Classical.propDecidable _) h _ _ _
  have wn : ∀ {s x t i y j}, ¬ tuD s x t i y j → wv s x t i y j = nI (A.2.2.2 i y j) := fun h => @if_neg _ (Classical.propDecidable _) h _ _ _
  have weq : ∀ {s x t s' x' t' i y j}, (tuD s x t i y j ↔ tuD s' x' t' i y j) → wv s x t i y j = wv s' x' t' i y j := fun {s x t s' x' t' i y j} h => by
    by_cases e : tuD s x t i y j
    · rw [wp e, wp (h.mp e)]
    · rw [wn e, wn (fun z => e (h.mpr z))]
  have loop : ∀ n s (I1 : Nat → Nat → Int32), s + n = A.1 → Fr [q + 1, q + 2, q + 3] I I1 → (∀ i, i < M → I1 (q + 1) i = nI (if i < A.1 then (if i < s then A.2.2.1 i else A.2.1 i) else 0)) → (∀ i, i < M → I1 (q + 2) i = nI (if i < A.1 then (if i < s then A.2.1 i else A.2.2.1 i) else 0)) → (∀ i y j, i < A.1 → y < L → j < A.1 → I1 (q + 3) ((i * 3 + y) * M + j) = wv s 0 0 i y j) → (∀ i y j, i < M → y < L → j < M → ¬ (i < A.1 ∧ j < A.1) → I1 (q + 3) ((i * 3 + y) * M + j) = nI 0) → Ex mX3_reverse 2 [.ref q, .int (nI s), xU, xU, xU, xU] [] (sh, I1, R) 0 0 (xqV Q) := by
    intro n
    induction n with
    | zero =>
      intro s I1 hs f1 g1 g2 g3 g4
      obtain rfl : s = A.1 := by omega
      refine bX3_reverse_2 hW hq ⟨fun _ => k I1 (f1.sub (by simp)) ⟨a1, by rw [f1.at q 1 (by simp)]; exact a2, by rw [f1.at q 2 (by simp)]; exact a3, fun i hi => ?_, fun i hi => ?_, fun i y j hi hy hj => ?_⟩, fun z => ?_⟩
      · rw [g1 i hi]
        show _ = nI (if i < A.1 then A.2.2.1 i else 0)
        by_cases e : i < A.1
        · rw [if_pos e, if_pos e, if_pos e]
        · rw [if_neg e, if_neg e]
      · rw [g2 i hi]
        show _ = nI (if i < A.1 then A.2.1 i else 0)
        by_cases e : i < A.1
        · rw [if_pos e, if_pos e, if_pos e]
        · rw [if_neg e, if_neg e]
      · show _ = nI (if i < A.1 ∧ j < A.1 then A.2.2.2 j y i else 0)
        by_cases e : i < A.1 ∧ j < A.1
        · rw [if_pos e, g3 i y j e.1 hy e.2, wp (Or.inl e)]
        · rw [if_neg e]; exact g4 i y j hi hy hj e
      · rw [f1.at q 2 (by simp), a3] at z; exact absurd (nI_le (Nat.le_refl _) (by omega)) z
    | succ n ih =>
      intro s I1 hs f1 g1 g2 g3 g4
      have hsA : s < A.1 := by omega
      refine bX3_reverse_2 hW hq ⟨fun z => ?_, fun _ => ⟨vp_nI (by omega) (by omega), vp_nI (by omega) (by omega), vp_nI (by omega) (by omega), vp_nI (by omega) (by omega), ?_⟩⟩
      · rw [f1.at q 2 (by simp), a3] at z; exact absurd z (nI_ge (by omega) (by omega))
      rw [nclamp (by omega), g1 s (by omega), g2 s (by omega), if_pos hsA, if_pos hsA, if_neg (Nat.lt_irrefl s), if_neg (Nat.lt_irrefl s)]
      generalize hI2 : xi (xi I1 (q + 1) s (nI (A.2.2.1 s))) (q + 2) s (nI (A.2.1 s)) = I2
      have f2 : Fr [q + 1, q + 2, q + 3] I I2 := by rw [← hI2]; exact (f1.xi (by simp)).xi (by simp)
      have u1 : ∀ i, i < M → I2 (q + 1) i = nI (if i < A.1 then (if i < s + 1 then A.2.2.1 i else A.2.1 i) else 0) := fun i hi => by
        rw [← hI2, xi_p (by omega)]
        by_cases e : i = s
        · subst e; rw [xi_e, if_pos hsA, if_pos (show i < i + 1 by omega)]
        · rw [xi_s e, g1 i hi]
          by_cases e2 : i < A.1
          · rw [if_pos e2, if_pos e2]
            by_cases e3 : i < s
            · rw [if_pos e3, if_pos (show i < s + 1 by omega)]
            · rw [if_neg e3, if_neg (show ¬ i < s + 1 by omega)]
          · rw [if_neg e2, if_neg e2]
      have u2 : ∀ i, i < M → I2 (q + 2) i = nI (if i < A.1 then (if i < s + 1 then A.2.1 i else A.2.2.1 i) else 0) := fun i hi => by
        rw [← hI2]
        by_cases e : i = s
        · subst e; rw [xi_e, if_pos hsA, if_pos (show i < i + 1 by omega)]
        · rw [xi_s e, xi_p (by omega), g2 i hi]
          by_cases e2 : i < A.1
          · rw [if_pos e2, if_pos e2]
            by_cases e3 : i < s
            · rw [if_pos e3, if_pos (show i < s + 1 by omega)]
            · rw [if_neg e3, if_neg (show ¬ i < s + 1 by omega)]
          · rw [if_neg e2, if_neg e2]
      have u3 : ∀ i, I2 (q + 3) i = I1 (q + 3) i := fun i => by rw [← hI2, xi_p (by omega), xi_p (by omega)]
      have lx : ∀ nx x (I3 : Nat → Nat → Int32), x + nx = L → Fr [q + 3] I2 I3 → (∀ i y j, i < A.1 → y < L → j < A.1 → I3 (q + 3) ((i * 3 + y) * M + j) = wv s x 0 i y j) → (∀ i y j, i < M → y < L → j < M → ¬ (i < A.1 ∧ j < A.1) → I3 (q + 3) ((i * 3 + y) * M + j) = nI 0) → Ex mX3_reverse 38 [.ref q, .int (nI s), xU, .int (nI x), xU, xU] [] (sh, I3, R) 0 0 (xqV Q) := by
        intro nx
        induction nx with
        | zero =>
          intro x I3 hx f3 g3 g4
          obtain rfl : x = L := by omega
          have f3' : Fr [q + 1, q + 2, q + 3] I I3 := f2.tr (f3.sub (by simp))
          refine bX3_reverse_38 hW hq ⟨fun _ => ?_, fun z => ?_⟩
          · rw [nI_add]
            refine ih (s + 1) I3 (by omega) f3' (fun i hi => by rw [f3.at (q + 1) i (by simp)]; exact u1 i hi) (fun i hi => by rw [f3.at (q + 2) i (by simp)]; exact u2 i hi) (fun i y j hi hy hj => ?_) g4
            rw [g3 i y j hi hy hj]
            by_cases e : i = s ∧ j = s
            · obtain ⟨rfl, rfl⟩ := e
              rw [wn (by unfold tuD; omega), wp (by unfold tuD; omega)]
            · exact weq (by unfold tuD; omega)
          · rw [f3'.at 1 1 (by simp <;> omega), hL] at z; exact absurd (nI_le (Nat.le_refl _) (by omega)) z
        | succ nx ihx =>
          intro x I3 hx f3 g3 g4
          have f3' : Fr [q + 1, q + 2, q + 3] I I3 := f2.tr (f3.sub (by simp))
          refine bX3_reverse_38 hW hq ⟨fun z => ?_, fun _ => ?_⟩
          · rw [f3'.at 1 1 (by simp <;> omega), hL] at z; exact absurd z (nI_ge (by omega) (by omega))
          have lt : ∀ nt t (I4 : Nat → Nat → Int32), t + nt = s → Fr [q + 3] I2 I4 → (∀ i y j, i < A.1 → y < L → j < A.1 → I4 (q + 3) ((i * 3 + y) * M + j) = wv s x t i y j) → (∀ i y j, i < M → y < L → j < M → ¬ (i < A.1 ∧ j < A.1) → I4 (q + 3) ((i * 3 + y) * M + j) = nI 0) → Ex mX3_reverse 52 [.ref q, .int (nI s), xU, .int (nI x), .int (nI t), xU] [] (sh, I4, R) 0 0 (xqV Q) := by
            intro nt
            induction nt with
            | zero =>
              intro t I4 ht f4 g3 g4
              obtain rfl : t = s := by omega
              refine bX3_reverse_52 hW hq ⟨fun _ => ?_, fun z => absurd (nI_le (Nat.le_refl _) (by omega)) z⟩
              rw [nI_add]
              refine ihx (x + 1) I4 (by omega) f4 (fun i y j hi hy hj => ?_) g4
              rw [g3 i y j hi hy hj]
              exact weq (by unfold tuD; omega)
            | succ nt iht =>
              intro t I4 ht f4 g3 g4
              have f4' : Fr [q + 1, q + 2, q + 3] I I4 := f2.tr (f4.sub (by simp))
              have v1 : I4 q 1 = nI M := by rw [f4'.at q 1 (by simp)]; exact a2
              have i1 := wix_lt (M := M) (s := s) (x := x) (t := t) (by omega) (by omega) (by omega)
              have i2 := wix_lt (M := M) (s := t) (x := x) (t := s) (by omega) (by omega) (by omega)
              have r1 := g3 s x t hsA (by omega) (by omega)
              have r2 := g3 t x s (by omega) (by omega) hsA
              rw [wn (by unfold tuD; omega)] at r1 r2
              refine bX3_reverse_52 hW hq ⟨fun z => absurd z (nI_ge (by omega) (by omega)), fun _ => k_at hW hq v1 (bX3_reverse_70 hW hq ⟨vp_nI i1 (by omega), k_at hW hq v1 (bX3_reverse_85 hW hq (k_at hW hq v1 (bX3_reverse_97 hW hq ⟨vp_nI i2 (by omega), vp_nI i1 (by omega), ?_⟩)))⟩)⟩
              rw [nclamp (by omega), nclamp (by omega), r1, r2]
              refine k_at hW hq (by rw [xi_p (by omega)]; exact v1) (bX3_reverse_111 hW hq ⟨vp_nI i2 (by omega), ?_⟩)
              rw [nclamp (by omega), nI_add]
              have ne : (s * 3 + x) * M + t ≠ (t * 3 + x) * M + s := fun e => by have := (wix_inj (by omega) (by omega) (by omega) (by omega) e).1; omega
              refine iht (t + 1) _ (by omega) ((f4.xi (by simp)).xi (by simp)) (fun i y j hi hy hj => ?_) (fun i y j hi hy hj hn => ?_)
              · by_cases e1 : i = s ∧ y = x ∧ j = t
                · obtain ⟨rfl, rfl, rfl⟩ := e1
                  rw [xi_s ne, xi_e, wp (by unfold tuD; omega)]
                · by_cases e2 : i = t ∧ y = x ∧ j = s
                  · obtain ⟨rfl, rfl, rfl⟩ := e2
                    rw [xi_e, wp (by unfold tuD; omega)]
                  · rw [xi_s (fun e => by have := wix_inj (show j < M by omega) (show s < M by omega) (by omega) (by omega) e; omega), xi_s (fun e => by have := wix_inj (show j < M by omega) (show t < M by omega) (by omega) (by omega) e; omega), g3 i y j hi hy hj]
                    exact weq (by unfold tuD; omega)
              · rw [xi_s (fun e => by have := wix_inj hj (show s < M by omega) (by omega) (by omega) e; omega), xi_s (fun e => by have := wix_inj hj (show t < M by omega) (by omega) (by omega) e; omega)]
                exact g4 i y j hi hy hj hn
          exact lt s 0 I3 (by omega) f3 g3 g4
      refine lx L 0 I2 (by omega) Fr.rf (fun i y j hi hy hj => by rw [u3]; exact g3 i y j hi hy hj) (fun i y j hi hy hj hn => by rw [u3]; exact g4 i y j hi hy hj hn)
  refine eX3_reverse (bX3_reverse_0 hW hq (loop A.1 0 I (by omega) Fr.rf (fun i hi => ?_) (fun i hi => ?_) (fun i y j hi hy hj => ?_) (fun i y j hi hy hj hn => ?_)))
  · rw [a4 i hi]
    by_cases e : i < A.1
    · rw [if_pos e, if_pos e, if_neg (Nat.not_lt_zero i)]
    · rw [if_neg e, if_neg e]
  · rw [a5 i hi]
    by_cases e : i < A.1
    · rw [if_pos e, if_pos e, if_neg (Nat.not_lt_zero i)]
    · rw [if_neg e, if_neg e]
  · rw [hA.W hi hy hj, wn (by unfold tuD; omega)]
  · rw [a6 i y j hi hy hj, if_neg hn]
end CMACH3
