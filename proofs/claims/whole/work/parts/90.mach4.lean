section CMACH4
variable {sh : List xSh} {I : Nat → Nat → Int32} {R : Nat → Nat → Option Nat}
theorem k_clearState {p L q M s : Nat} {Q : xHp → Prop} (hW : xLay sh R) (hc : cCtx I p L) (hq : xMach sh R q M) (hM : M ≤ 8) (hq1 : 1 < q) (h1 : I q 1 = nI M) (hs : s < M)
    (k : ∀ I', Fr [q + 1, q + 2, q + 3] I I' → (∀ i, i < M → I' (q + 1) i = if i = s then nI 0 else I (q + 1) i) → (∀ i, i < M → I' (q + 2) i = if i = s then nI 0 else I (q + 2) i) → (∀ i y j, i < M → y < L → j < M → I' (q + 3) ((i * 3 + y) * M + j) = if i = s ∨ j = s then nI 0 else I (q + 3) ((i * 3 + y) * M + j)) → Q (sh, I', R)) : CV mX3_clearState [.ref q, .int (nI s)] (sh, I, R) Q := by
  obtain ⟨hP, hL, hpr, hL1, hL3⟩ := id hc
  have hm := m3m hM
  refine eX3_clearState (bX3_clearState_0 hW hq ⟨vp_nI hs (by omega), vp_nI hs (by omega), ?_⟩)
  rw [nclamp (by omega)]
  generalize hI1 : xi (xi I (q + 1) s (nI 0)) (q + 2) s (nI 0) = I1
  have f1 : Fr [q + 1, q + 2, q + 3] I I1 := by rw [← hI1]; exact (Fr.rf.xi (by simp)).xi (by simp)
  have u1 : ∀ i, I1 (q + 1) i = if i = s then nI 0 else I (q + 1) i := fun i => by
    rw [← hI1, xi_p (by omega)]
    by_cases e : i = s
    · subst e; rw [xi_e, if_pos rfl]
    · rw [xi_s e, if_neg e]
  have u2 : ∀ i, I1 (q + 2) i = if i = s then nI 0 else I (q + 2) i := fun i => by
    rw [← hI1]
    by_cases e : i = s
    · subst e; rw [xi_e, if_pos rfl]
    · rw [xi_s e, if_neg e, xi_p (by omega)]
  have u3 : ∀ i, I1 (q + 3) i = I (q + 3) i := fun i => by rw [← hI1, xi_p (by omega), xi_p (by omega)]
  have lx : ∀ nx x (I2 : Nat → Nat → Int32), x + nx = L → Fr [q + 3] I1 I2 → (∀ i y j, i < M → y < L → j < M → I2 (q + 3) ((i * 3 + y) * M + j) = if (i = s ∨ j = s) ∧ y < x then nI 0 else I (q + 3) ((i * 3 + y) * M + j)) → Ex mX3_clearState 16 [.ref q, .int (nI s), .int (nI x), xU] [] (sh, I2, R) 0 0 (xqV Q) := by
    intro nx
    induction nx with
    | zero =>
      intro x I2 hx f2 g
      obtain rfl : x = L := by omega
      refine bX3_clearState_16 hW hq ⟨fun _ => k I2 (f1.tr (f2.sub (by simp))) (fun i _ => by rw [f2.at (q + 1) i (by simp)]; exact u1 i) (fun i _ => by rw [f2.at (q + 2) i (by simp)]; exact u2 i) (fun i y j hi hy hj => ?_), fun z => ?_⟩
      · rw [g i y j hi hy hj]
        by_cases e : i = s ∨ j = s
        · rw [if_pos e, if_pos ⟨e, hy⟩]
        · rw [if_neg e, if_neg (fun z => e z.1)]
      · rw [f2.at 1 1 (by simp <;> omega), f1.at 1 1 (by simp <;> omega), hL] at z; exact absurd (nI_le (Nat.le_refl _) (by omega)) z
    | succ nx ihx =>
      intro x I2 hx f2 g
      refine bX3_clearState_16 hW hq ⟨fun z => ?_, fun _ => ?_⟩
      · rw [f2.at 1 1 (by simp <;> omega), f1.at 1 1 (by simp <;> omega), hL] at z; exact absurd z (nI_ge (by omega) (by omega))
      have lt : ∀ nt t (I3 : Nat → Nat → Int32), t + nt = M → Fr [q + 3] I1 I3 → (∀ i y j, i < M → y < L → j < M → I3 (q + 3) ((i * 3 + y) * M + j) = if (i = s ∨ j = s) ∧ (y < x ∨ (y = x ∧ (i = s → j < t ∨ (j = s ∧ i < t)) ∧ (i ≠ s → i < t))) then nI 0 else I (q + 3) ((i * 3 + y) * M + j)) → Ex mX3_clearState 29 [.ref q, .int (nI s), .int (nI x), .int (nI t)] [] (sh, I3, R) 0 0 (xqV Q) := by
        intro nt
        induction nt with
        | zero =>
          intro t I3 ht f3 g
          obtain rfl : t = M := by omega
          refine bX3_clearState_29 hW hq ⟨fun _ => ?_, fun z => ?_⟩
          · rw [nI_add]
            refine ihx (x + 1) I3 (by omega) f3 (fun i y j hi hy hj => ?_)
            rw [g i y j hi hy hj]
            by_cases e : (i = s ∨ j = s) ∧ y < x + 1
            · rw [if_pos e, if_pos ⟨e.1, by omega⟩]
            · rw [if_neg e, if_neg (by omega)]
          · rw [f3.at q 1 (by simp), f1.at q 1 (by simp), h1] at z; exact absurd (nI_le (Nat.le_refl _) (by omega)) z
        | succ nt iht =>
          intro t I3 ht f3 g
          have v1 : I3 q 1 = nI M := by rw [f3.at q 1 (by simp), f1.at q 1 (by simp)]; exact h1
          have i1 := wix_lt (M := M) (s := s) (x := x) (t := t) hs (by omega) (by omega)
          have i2 := wix_lt (M := M) (s := t) (x := x) (t := s) (by omega) (by omega) hs
          refine bX3_clearState_29 hW hq ⟨fun z => ?_, fun _ => k_at hW hq v1 (bX3_clearState_48 hW hq ⟨vp_nI i1 (by omega), ?_⟩)⟩
          · rw [v1] at z; exact absurd z (nI_ge (by omega) (by omega))
          rw [nclamp (by omega)]
          refine k_at hW hq (by rw [xi_p (by omega)]; exact v1) (bX3_clearState_61 hW hq ⟨vp_nI i2 (by omega), ?_⟩)
          rw [nclamp (by omega), nI_add]
          refine iht (t + 1) _ (by omega) ((f3.xi (by simp)).xi (by simp)) (fun i y j hi hy hj => ?_)
          by_cases e2 : i = t ∧ y = x ∧ j = s
          · obtain ⟨rfl, rfl, rfl⟩ := e2
            rw [xi_e, if_pos (by omega)]
          · rw [xi_s (fun e => by have := wix_inj hj hs (by omega) (by omega) e; omega)]
            by_cases e1 : i = s ∧ y = x ∧ j = t
            · obtain ⟨rfl, rfl, rfl⟩ := e1
              rw [xi_e, if_pos (by omega)]
            · rw [xi_s (fun e => by have := wix_inj hj (show t < M by omega) (by omega) (by omega) e; omega), g i y j hi hy hj]
              by_cases e3 : (i = s ∨ j = s) ∧ (y < x ∨ (y = x ∧ (i = s → j < t ∨ (j = s ∧ i < t)) ∧ (i ≠ s → i < t)))
              · rw [if_pos e3, if_pos (by omega)]
              · rw [if_neg e3, if_neg (by omega)]
      refine lt M 0 I2 (by omega) f2 (fun i y j hi hy hj => ?_)
      rw [g i y j hi hy hj]
      by_cases e : (i = s ∨ j = s) ∧ y < x
      · rw [if_pos e, if_pos ⟨e.1, Or.inl e.2⟩]
      · rw [if_neg e, if_neg (by omega)]
  refine lx L 0 I1 (by omega) Fr.rf (fun i y j hi hy hj => ?_)
  rw [u3, if_neg (fun z => Nat.not_lt_zero y z.2)]
def omD (n s x t i y j : Nat) : Prop := i < n - 1 ∧ j < n - 1 ∧ (i < s ∨ (i = s ∧ (y < x ∨ (y = x ∧ j < t))))
theorem k_omit {p L q M s : Nat} {A : Mac} {Q : xHp → Prop} (hW : xLay sh R) (hc : cCtx I p L) (hq : xMach sh R q M) (hM : M ≤ 8) (hq1 : 1 < q) (hA : cM I L q M A) (hs : s < A.1) (k : ∀ I', Fr (mPl q) I I' → cM I' L q M (mDrop A s) → Q (sh, I', R)) : CV mX3_omit [.ref q, .int (nI s)] (sh, I, R) Q := by
  obtain ⟨hP, hL, hpr, hL1, hL3⟩ := id hc
  have h8 := hA.1
  have hm := m3m hM
  obtain ⟨a1, a2, a3, a4, a5, a6⟩ := id hA
  have en : nI A.1 - nI 1 = nI (A.1 - 1) := pk_sub (by omega)
  -- behind the starts and ends
  have weights : ∀ (I1 : Nat → Nat → Int32), Fr [q + 1, q + 2] I I1 → (∀ i, i < M → I1 (q + 1) i = nI (if i < A.1 then (if s ≤ i ∧ i < A.1 - 1 then A.2.1 (i + 1) else A.2.1 i) else 0)) → (∀ i, i < M → I1 (q + 2) i = nI (if i < A.1 then (if s ≤ i ∧ i < A.1 - 1 then A.2.2.1 (i + 1) else A.2.2.1 i) else 0)) → Ex mX3_omit 48 [.ref q, .int (nI s), .int (nI 0), xU, xU, xU] [] (sh, I1, R) 0 0 (xqV Q) := by
    intro I1 f1 g1 g2
    let wv : Nat → Nat → Nat → Nat → Nat → Nat → Int32 := fun a x t i y j => @ite _ (omD A.1 a x t i y j) (Classical.propDecidable _) (nI (A.2.2.2 (dropI s i) y (dropI s j))) (nI (A.2.2.2 i y j))
    have wp : ∀ {a x t i y j}, omD A.1 a x t i y j → wv a x t i y j = nI (A.2.2.2 (dropI s i) y (dropI s j)) := fun h => @if_pos _ (Classical.propDecidable _) h _ _ _
    have wn : ∀ {a x t i y j}, ¬ omD A.1 a x t i y j → wv a x t i y j = nI (A.2.2.2 i y j) := fun h => @if_neg _ (Classical.propDecidable _) h _ _ _
    have weq : ∀ {a x t a' x' t' i y j}, (omD A.1 a x t i y j ↔ omD A.1 a' x' t' i y j) → wv a x t i y j = wv a' x' t' i y j := fun {a x t a' x' t' i y j} h => by
      by_cases e : omD A.1 a x t i y j
      · rw [wp e, wp (h.mp e)]
      · rw [wn e, wn (fun z => e (h.mpr z))]
    have ls : ∀ n a (I2 : Nat → Nat → Int32), a + n = A.1 - 1 → Fr [q + 3] I1 I2 → (∀ i y j, i < A.1 → y < L → j < A.1 → I2 (q + 3) ((i * 3 + y) * M + j) = wv a 0 0 i y j) → (∀ i y j, i < M → y < L → j < M → ¬ (i < A.1 ∧ j < A.1) → I2 (q + 3) ((i * 3 + y) * M + j) = nI 0) → Ex mX3_omit 48 [.ref q, .int (nI s), .int (nI a), xU, xU, xU] [] (sh, I2, R) 0 0 (xqV Q) := by
      intro n
      induction n with
      | zero =>
        intro a I2 ha f2 g3 g4
        obtain rfl : a = A.1 - 1 := by omega
        have b2 : I2 q 2 = nI A.1 := by rw [f2.at q 2 (by simp), f1.at q 2 (by simp)]; exact a3
        have b1 : I2 q 1 = nI M := by rw [f2.at q 1 (by simp), f1.at q 1 (by simp)]; exact a2
        refine bX3_omit_48 hW hq ?_
        rw [b2, en]
        refine ⟨fun _ => ?_, fun z => absurd (nI_le (Nat.le_refl _) (by omega)) z⟩
        have f3 : Fr [q] I2 (xi I2 q 2 (nI (A.1 - 1))) := Fr.rf.xi (by simp)
        have hc3 : cCtx (xi I2 q 2 (nI (A.1 - 1))) p L := ((hc.fr f1 (by simp <;> omega)).fr f2 (by simp <;> omega)).fr f3 (by simp <;> omega)
        refine k_clearState hW hc3 hq hM hq1 (by rw [xi_s (by decide)]; exact b1) (show A.1 - 1 < M by omega) (fun I4 f4 z1 z2 z3 => bX3_omit_175 hW (k I4 ?_ ⟨?_, ?_, ?_, fun i hi => ?_, fun i hi => ?_, fun i y j hi hy hj => ?_⟩))
        · exact (((f1.sub (by simp)).tr (f2.sub (by simp))).tr (f3.sub (by simp))).tr (f4.sub (by simp))
        · show A.1 - 1 ≤ M; omega
        · rw [f4.at q 1 (by simp), xi_s (by decide)]; exact b1
        · rw [f4.at q 2 (by simp), xi_e]; rfl
        · rw [z1 i hi]
          show _ = nI (if i < A.1 - 1 then A.2.1 (dropI s i) else 0)
          by_cases e : i = A.1 - 1
          · rw [if_pos e, if_neg (by omega)]
          · rw [if_neg e, xi_p (by omega), f2.at (q + 1) i (by simp), g1 i hi]
            by_cases e2 : i < A.1 - 1
            · rw [if_pos e2, if_pos (show i < A.1 by omega)]
              unfold dropI
              by_cases e3 : i < s
              · rw [if_neg (show ¬ (s ≤ i ∧ i < A.1 - 1) by omega), if_pos e3]
              · rw [if_pos (show s ≤ i ∧ i < A.1 - 1 by omega), if_neg e3]
            · rw [if_neg e2, if_neg (show ¬ i < A.1 by omega)]
        · rw [z2 i hi]
          show _ = nI (if i < A.1 - 1 then A.2.2.1 (dropI s i) else 0)
          by_cases e : i = A.1 - 1
          · rw [if_pos e, if_neg (by omega)]
          · rw [if_neg e, xi_p (by omega), f2.at (q + 2) i (by simp), g2 i hi]
            by_cases e2 : i < A.1 - 1
            · rw [if_pos e2, if_pos (show i < A.1 by omega)]
              unfold dropI
              by_cases e3 : i < s
              · rw [if_neg (show ¬ (s ≤ i ∧ i < A.1 - 1) by omega), if_pos e3]
              · rw [if_pos (show s ≤ i ∧ i < A.1 - 1 by omega), if_neg e3]
            · rw [if_neg e2, if_neg (show ¬ i < A.1 by omega)]
        · rw [z3 i y j hi hy hj]
          show _ = nI (if i < A.1 - 1 ∧ j < A.1 - 1 then A.2.2.2 (dropI s i) y (dropI s j) else 0)
          by_cases e : i = A.1 - 1 ∨ j = A.1 - 1
          · rw [if_pos e, if_neg (by omega)]
          · rw [if_neg e, xi_p (by omega)]
            by_cases e2 : i < A.1 - 1 ∧ j < A.1 - 1
            · rw [if_pos e2, g3 i y j (by omega) hy (by omega), wp (by unfold omD; omega)]
            · rw [if_neg e2]; exact g4 i y j hi hy hj (by omega)
      | succ n ih =>
        intro a I2 ha f2 g3 g4
        have b2 : I2 q 2 = nI A.1 := by rw [f2.at q 2 (by simp), f1.at q 2 (by simp)]; exact a3
        refine bX3_omit_48 hW hq ?_
        rw [b2, en]
        refine ⟨fun z => absurd z (nI_ge (by omega) (by omega)), fun _ => ?_⟩
        have lx : ∀ nx x (I3 : Nat → Nat → Int32), x + nx = L → Fr [q + 3] I1 I3 → (∀ i y j, i < A.1 → y < L → j < A.1 → I3 (q + 3) ((i * 3 + y) * M + j) = wv a x 0 i y j) → (∀ i y j, i < M → y < L → j < M → ¬ (i < A.1 ∧ j < A.1) → I3 (q + 3) ((i * 3 + y) * M + j) = nI 0) → Ex mX3_omit 60 [.ref q, .int (nI s), .int (nI a), .int (nI x), xU, xU] [] (sh, I3, R) 0 0 (xqV Q) := by
          intro nx
          induction nx with
          | zero =>
            intro x I3 hx f3 g3 g4
            obtain rfl : x = L := by omega
            refine bX3_omit_60 hW hq ⟨fun _ => ?_, fun z => ?_⟩
            · rw [nI_add]
              refine ih (a + 1) I3 (by omega) f3 (fun i y j hi hy hj => ?_) g4
              rw [g3 i y j hi hy hj]
              exact weq (by unfold omD; omega)
            · rw [f3.at 1 1 (by simp <;> omega), f1.at 1 1 (by simp <;> omega), hL] at z; exact absurd (nI_le (Nat.le_refl _) (by omega)) z
          | succ nx ihx =>
            intro x I3 hx f3 g3 g4
            refine bX3_omit_60 hW hq ⟨fun z => ?_, fun _ => ?_⟩
            · rw [f3.at 1 1 (by simp <;> omega), f1.at 1 1 (by simp <;> omega), hL] at z; exact absurd z (nI_ge (by omega) (by omega))
            have lt : ∀ nt t (I4 : Nat → Nat → Int32), t + nt = A.1 - 1 → Fr [q + 3] I1 I4 → (∀ i y j, i < A.1 → y < L → j < A.1 → I4 (q + 3) ((i * 3 + y) * M + j) = wv a x t i y j) → (∀ i y j, i < M → y < L → j < M → ¬ (i < A.1 ∧ j < A.1) → I4 (q + 3) ((i * 3 + y) * M + j) = nI 0) → Ex mX3_omit 74 [.ref q, .int (nI s), .int (nI a), .int (nI x), .int (nI t), xU] [] (sh, I4, R) 0 0 (xqV Q) := by
              intro nt
              induction nt with
              | zero =>
                intro t I4 ht f4 g3 g4
                obtain rfl : t = A.1 - 1 := by omega
                have b2 : I4 q 2 = nI A.1 := by rw [f4.at q 2 (by simp), f1.at q 2 (by simp)]; exact a3
                refine bX3_omit_74 hW hq ?_
                rw [b2, en]
                refine ⟨fun _ => ?_, fun z => absurd (nI_le (Nat.le_refl _) (by omega)) z⟩
                rw [nI_add]
                refine ihx (x + 1) I4 (by omega) f4 (fun i y j hi hy hj => ?_) g4
                rw [g3 i y j hi hy hj]
                exact weq (by unfold omD; omega)
              | succ nt iht =>
                intro t I4 ht f4 g3 g4
                have b2 : I4 q 2 = nI A.1 := by rw [f4.at q 2 (by simp), f1.at q 2 (by simp)]; exact a3
                have b1 : I4 q 1 = nI M := by rw [f4.at q 1 (by simp), f1.at q 1 (by simp)]; exact a2
                have hfa : dropI s a < A.1 := dropI_lt (by omega)
                have hft : dropI s t < A.1 := dropI_lt (by omega)
                have da : a ≤ dropI s a := by unfold dropI; split <;> omega
                have dt : t ≤ dropI s t := by unfold dropI; split <;> omega
                have i1 := wix_lt (M := M) (s := dropI s a) (x := x) (t := dropI s t) (by omega) (by omega) (by omega)
                have i2 := wix_lt (M := M) (s := a) (x := x) (t := t) (by omega) (by omega) (by omega)
                have rd := g3 (dropI s a) x (dropI s t) hfa (by omega) hft
                rw [wn (by unfold omD; omega)] at rd
                have fin : Ex mX3_omit 117 [.ref q, .int (nI s), .int (nI a), .int (nI x), .int (nI t), xU] [.int (nI ((dropI s a * 3 + x) * M + dropI s t))] (sh, I4, R) 0 0 (xqV Q) := by
                  refine bX3_omit_117 hW hq (k_at hW hq b1 (bX3_omit_131 hW hq ⟨vp_nI i1 (by omega), vp_nI i2 (by omega), ?_⟩))
                  rw [nclamp (by omega), nclamp (by omega), rd, nI_add]
                  refine iht (t + 1) _ (by omega) (f4.xi (by simp)) (fun i y j hi hy hj => ?_) (fun i y j hi hy hj hn => ?_)
                  · by_cases e1 : i = a ∧ y = x ∧ j = t
                    · obtain ⟨rfl, rfl, rfl⟩ := e1
                      rw [xi_e, wp (by unfold omD; omega)]
                    · rw [xi_s (fun e => by have := wix_inj (show j < M by omega) (show t < M by omega) (by omega) (by omega) e; omega), g3 i y j hi hy hj]
                      exact weq (by unfold omD; omega)
                  · rw [xi_s (fun e => by have := wix_inj hj (show t < M by omega) (by omega) (by omega) e; omega)]; exact g4 i y j hi hy hj hn
                refine bX3_omit_74 hW hq ?_
                rw [b2, en]
                refine ⟨fun z => absurd z (nI_ge (by omega) (by omega)), fun _ => ⟨fun z => ⟨fun z2 => ?_, fun z2 => ?_⟩, fun z => ⟨fun z2 => ?_, fun z2 => ?_⟩⟩⟩
                · have y1 := (nI_leI (by omega) (by omega)).mp z
                  have y2 := (nI_leI (by omega) (by omega)).mp z2
                  rw [nI_add, nI_add]
                  refine k_at hW hq b1 ?_
                  unfold dropI at fin
                  rw [if_neg (by omega), if_neg (by omega)] at fin
                  exact fin
                · have y1 := (nI_leI (by omega) (by omega)).mp z
                  have y2 : t < s := by
                    rcases Nat.lt_or_ge t s with w | w
                    · exact w
                    · exact absurd (nI_le w (by omega)) z2
                  rw [nI_add]
                  refine k_at hW hq b1 ?_
                  unfold dropI at fin
                  rw [if_neg (by omega), if_pos y2] at fin
                  exact fin
                · have y1 : a < s := by
                    rcases Nat.lt_or_ge a s with w | w
                    · exact w
                    · exact absurd (nI_le w (by omega)) z
                  have y2 := (nI_leI (by omega) (by omega)).mp z2
                  rw [nI_add]
                  refine k_at hW hq b1 ?_
                  unfold dropI at fin
                  rw [if_pos y1, if_neg (by omega)] at fin
                  exact fin
                · have y1 : a < s := by
                    rcases Nat.lt_or_ge a s with w | w
                    · exact w
                    · exact absurd (nI_le w (by omega)) z
                  have y2 : t < s := by
                    rcases Nat.lt_or_ge t s with w | w
                    · exact w
                    · exact absurd (nI_le w (by omega)) z2
                  refine k_at hW hq b1 ?_
                  unfold dropI at fin
                  rw [if_pos y1, if_pos y2] at fin
                  exact fin
            exact lt (A.1 - 1) 0 I3 (by omega) f3 g3 g4
        exact lx L 0 I2 (by omega) f2 g3 g4
    refine ls (A.1 - 1) 0 I1 (by omega) Fr.rf (fun i y j hi hy hj => ?_) (fun i y j hi hy hj hn => ?_)
    · rw [f1.at (q + 3) _ (by simp), hA.W hi hy hj, wn (by unfold omD; omega)]
    · rw [f1.at (q + 3) _ (by simp), a6 i y j hi hy hj, if_neg hn]
  have loop : ∀ n a (I1 : Nat → Nat → Int32), a + n = A.1 - 1 → s ≤ a → Fr [q + 1, q + 2] I I1 → (∀ i, i < M → I1 (q + 1) i = nI (if i < A.1 then (if s ≤ i ∧ i < a then A.2.1 (i + 1) else A.2.1 i) else 0)) → (∀ i, i < M → I1 (q + 2) i = nI (if i < A.1 then (if s ≤ i ∧ i < a then A.2.2.1 (i + 1) else A.2.2.1 i) else 0)) → Ex mX3_omit 2 [.ref q, .int (nI s), .int (nI a), xU, xU, xU] [] (sh, I1, R) 0 0 (xqV Q) := by
    intro n
    induction n with
    | zero =>
      intro a I1 ha has f1 g1 g2
      obtain rfl : a = A.1 - 1 := by omega
      have b2 : I1 q 2 = nI A.1 := by rw [f1.at q 2 (by simp)]; exact a3
      refine bX3_omit_2 hW hq ?_
      rw [b2, en]
      exact ⟨fun _ => weights I1 f1 g1 g2, fun z => absurd (nI_le (Nat.le_refl _) (by omega)) z⟩
    | succ n ih =>
      intro a I1 ha has f1 g1 g2
      have b2 : I1 q 2 = nI A.1 := by rw [f1.at q 2 (by simp)]; exact a3
      refine bX3_omit_2 hW hq ?_
      rw [b2, en, nI_add, nclamp (by omega), nclamp (by omega), g1 (a + 1) (by omega), g2 (a + 1) (by omega), if_pos (show a + 1 < A.1 by omega), if_pos (show a + 1 < A.1 by omega), if_neg (by omega), if_neg (by omega)]
      refine ⟨fun z => absurd z (nI_ge (by omega) (by omega)), fun _ => ⟨vp_nI (by omega) (by omega), vp_nI (by omega) (by omega), vp_nI (by omega) (by omega), vp_nI (by omega) (by omega), ih (a + 1) _ (by omega) (by omega) ((f1.xi (by simp)).xi (by simp)) (fun i hi => ?_) (fun i hi => ?_)⟩⟩
      · rw [xi_p (by omega)]
        by_cases e : i = a
        · subst e; rw [xi_e, if_pos (show i < A.1 by omega), if_pos (show s ≤ i ∧ i < i + 1 by omega)]
        · rw [xi_s e, g1 i hi]
          by_cases e2 : i < A.1
          · rw [if_pos e2, if_pos e2]
            by_cases e3 : s ≤ i ∧ i < a
            · rw [if_pos e3, if_pos (show s ≤ i ∧ i < a + 1 by omega)]
            · rw [if_neg e3, if_neg (show ¬ (s ≤ i ∧ i < a + 1) by omega)]
          · rw [if_neg e2, if_neg e2]
      · by_cases e : i = a
        · subst e; rw [xi_e, if_pos (show i < A.1 by omega), if_pos (show s ≤ i ∧ i < i + 1 by omega)]
        · rw [xi_s e, xi_p (by omega), g2 i hi]
          by_cases e2 : i < A.1
          · rw [if_pos e2, if_pos e2]
            by_cases e3 : s ≤ i ∧ i < a
            · rw [if_pos e3, if_pos (show s ≤ i ∧ i < a + 1 by omega)]
            · rw [if_neg e3, if_neg (show ¬ (s ≤ i ∧ i < a + 1) by omega)]
          · rw [if_neg e2, if_neg e2]
  refine eX3_omit (bX3_omit_0 hW hq (loop (A.1 - 1 - s) s I (by omega) (Nat.le_refl _) Fr.rf (fun i hi => ?_) (fun i hi => ?_)))
  · rw [a4 i hi]
    by_cases e : i < A.1
    · rw [if_pos e, if_pos e, if_neg (by omega)]
    · rw [if_neg e, if_neg e]
  · rw [a5 i hi]
    by_cases e : i < A.1
    · rw [if_pos e, if_pos e, if_neg (by omega)]
    · rw [if_neg e, if_neg e]
theorem k_reduce {p L q M : Nat} {a b w : Nat → Nat} {Q : xHp → Prop} (hW : xLay sh R) (hc : cCtx I p L) (hq : xMach sh R q M) (hM : M ≤ 8) (hq1 : 1 < q) (h1 : I q 1 = nI M) (ha : ∀ s, s < M → I (q + 1) s = nI (a s) ∧ a s ≤ 99) (hb : ∀ s, s < M → I (q + 2) s = nI (b s) ∧ b s ≤ 99) (hw : ∀ i, i < M * 3 * M → I (q + 3) i = nI (w i) ∧ w i ≤ 99)
    (k : ∀ I', Fr [q + 1, q + 2, q + 3] I I' → (∀ s, s < M → I' (q + 1) s = nI (a s % p)) → (∀ s, s < M → I' (q + 2) s = nI (b s % p)) → (∀ i, i < M * 3 * M → I' (q + 3) i = nI (w i % p)) → Q (sh, I', R)) : CV mX3_reduce [.ref q] (sh, I, R) Q := by
  obtain ⟨hP, hL, hpr, hL1, hL3⟩ := id hc
  obtain ⟨hp2, hp97⟩ := PR_bd p hpr
  have hm := m3m hM
  have loop : ∀ n s (I1 : Nat → Nat → Int32), s + n = M → Fr [q + 1, q + 2] I I1 → (∀ i, i < M → I1 (q + 1) i = nI (if i < s then a i % p else a i)) → (∀ i, i < M → I1 (q + 2) i = nI (if i < s then b i % p else b i)) → Ex mX3_reduce 2 [.ref q, .int (nI s)] [] (sh, I1, R) 0 0 (xqV Q) := by
    intro n
    induction n with
    | zero =>
      intro s I1 hs f1 g1 g2
      obtain rfl : s = M := by omega
      refine bX3_reduce_2 hW hq ⟨fun _ => ?_, fun z => ?_⟩
      · have lw : ∀ n i (I2 : Nat → Nat → Int32), i + n = s * 3 * s → Fr [q + 3] I1 I2 → (∀ j, j < s * 3 * s → I2 (q + 3) j = nI (if j < i then w j % p else w j)) → Ex mX3_reduce 50 [.ref q, .int (nI i)] [] (sh, I2, R) 0 0 (xqV Q) := by
          intro n
          induction n with
          | zero =>
            intro i I2 hi f2 g3
            obtain rfl : i = s * 3 * s := by omega
            refine bX3_reduce_50 hW hq ⟨fun _ => k I2 ((f1.sub (by simp)).tr (f2.sub (by simp))) (fun j hj => by rw [f2.at (q + 1) j (by simp), g1 j hj, if_pos hj]) (fun j hj => by rw [f2.at (q + 2) j (by simp), g2 j hj, if_pos hj]) (fun j hj => by rw [g3 j hj, if_pos hj]), fun z => absurd (nI_le (Nat.le_refl _) (by omega)) z⟩
          | succ n ih =>
            intro i I2 hi f2 g3
            have hwi := (hw i (by omega)).2
            refine bX3_reduce_50 hW hq ⟨fun z => absurd z (nI_ge (by omega) (by omega)), fun _ => ?_⟩
            rw [nclamp (by omega), g3 i (by omega), if_neg (Nat.lt_irrefl i), f2.at 1 0 (by simp <;> omega), f1.at 1 0 (by simp <;> omega), hP, xrem_nI (by omega) (by omega) (by omega), nI_add]
            refine ⟨vp_nI (by omega) (by omega), nI_ne0 (by omega) (by omega), vp_nI (by omega) (by omega), ih (i + 1) _ (by omega) (f2.xi (by simp)) (fun j hj => ?_)⟩
            by_cases e : j = i
            · subst e; rw [xi_e, if_pos (by omega)]
            · rw [xi_s e, g3 j hj]
              by_cases e2 : j < i
              · rw [if_pos e2, if_pos (by omega)]
              · rw [if_neg e2, if_neg (by omega)]
        exact lw (s * 3 * s) 0 I1 (by omega) Fr.rf (fun j hj => by rw [f1.at (q + 3) j (by simp), if_neg (Nat.not_lt_zero j)]; exact (hw j hj).1)
      · rw [f1.at q 1 (by simp), h1] at z; exact absurd (nI_le (Nat.le_refl _) (by omega)) z
    | succ n ih =>
      intro s I1 hs f1 g1 g2
      have h9a := (ha s (by omega)).2
      have h9b := (hb s (by omega)).2
      have v0 : I1 1 0 = nI p := by rw [f1.at 1 0 (by simp <;> omega)]; exact hP
      refine bX3_reduce_2 hW hq ⟨fun z => ?_, fun _ => ?_⟩
      · rw [f1.at q 1 (by simp), h1] at z; exact absurd z (nI_ge (by omega) (by omega))
      rw [nclamp (by omega), xi_p (a := 1) (q := q + 1) (by omega), g1 s (by omega), g2 s (by omega), if_neg (Nat.lt_irrefl s), if_neg (Nat.lt_irrefl s), v0, xrem_nI (by omega) (by omega) (by omega), xrem_nI (by omega) (by omega) (by omega), nI_add]
      refine ⟨vp_nI (by omega) (by omega), nI_ne0 (by omega) (by omega), vp_nI (by omega) (by omega), vp_nI (by omega) (by omega), nI_ne0 (by omega) (by omega), vp_nI (by omega) (by omega), ih (s + 1) _ (by omega) ((f1.xi (by simp)).xi (by simp)) (fun i hi => ?_) (fun i hi => ?_)⟩
      · rw [xi_p (by omega)]
        by_cases e : i = s
        · subst e; rw [xi_e, if_pos (by omega)]
        · rw [xi_s e, g1 i hi]
          by_cases e2 : i < s
          · rw [if_pos e2, if_pos (by omega)]
          · rw [if_neg e2, if_neg (by omega)]
      · by_cases e : i = s
        · subst e; rw [xi_e, if_pos (by omega)]
        · rw [xi_s e, xi_p (by omega), g2 i hi]
          by_cases e2 : i < s
          · rw [if_pos e2, if_pos (by omega)]
          · rw [if_neg e2, if_neg (by omega)]
  refine eX3_reduce (bX3_reduce_0 hW hq (loop M 0 I (by omega) Fr.rf (fun i hi => by rw [if_neg (Nat.not_lt_zero i)]; exact (ha i hi).1) (fun i hi => by rw [if_neg (Nat.not_lt_zero i)]; exact (hb i hi).1)))
end CMACH4
