/-! THE REFERENCE: rows told by others -/
def mTab (I : Nat → Nat → Int32) (P S : List Nat) : Prop := I 209 10 = nI P.length ∧ I 209 11 = nI S.length ∧ P.length ≤ 4 ∧ S.length ≤ 60 ∧ (∀ j, j < P.length → I 215 j = nI (P.getD j 0)) ∧ ∀ c, c < S.length → I 216 c = nI (S.getD c 0)
theorem mTab.fr {T : List Nat} {I I' : Nat → Nat → Int32} {P S : List Nat} (h : mTab I P S) (hf : Fr T I I') (h1 : 209 ∉ T) (h2 : 215 ∉ T) (h3 : 216 ∉ T) : mTab I' P S := by
  obtain ⟨a1, a2, a3, a4, a5, a6⟩ := h
  exact ⟨by rw [hf.at _ _ h1]; exact a1, by rw [hf.at _ _ h1]; exact a2, a3, a4, fun j hj => by rw [hf.at _ _ h2]; exact a5 j hj, fun c hc => by rw [hf.at _ _ h3]; exact a6 c hc⟩
def mBas (I : Nat → Nat → Int32) (B : List Nat) : Prop := I 209 14 = nI B.length ∧ B.length ≤ 4 ∧ ∀ j, j < B.length → I 217 j = nI (B.getD j 0)
theorem mBas.fr {T : List Nat} {I I' : Nat → Nat → Int32} {B : List Nat} (h : mBas I B) (hf : Fr T I I') (h1 : 209 ∉ T) (h2 : 217 ∉ T) : mBas I' B := by
  obtain ⟨a1, a3, a5⟩ := h
  exact ⟨by rw [hf.at _ _ h1]; exact a1, a3, fun j hj => by rw [hf.at _ _ h2]; exact a5 j hj⟩
/-- the equations of a word by others and by columns -/
def eqs (p L : Nat) (A : Mac) (P : List Nat) (cs : Nat → Nat) (w : Nat) (d i : Nat) : Nat := vN p A (wl L (wcat L (if i < P.length then P.getD i 0 else w) (cs d)))
theorem eqs_ind {p L C : Nat} [NeZero p] {A : Mac} {P : List Nat} {cs : Nat → Nat} {w : Nat} (h : indp C P.length (fun j => RW p L A cs (P.getD j 0))) : indp C P.length (fun j d => fo p (eqs p L A P cs w d j)) := indp_congr (fun j hj i _ => by unfold RW eqs; rw [if_pos hj]) h
section MODF
variable {sh : List xSh} {I : Nat → Nat → Int32} {R : Nat → Nat → Option Nat}
/-- what isSolved tells, said of rows -/
theorem w_solvedRW {p L C : Nat} [NeZero p] {A : Mac} {P : List Nat} {cs : Nat → Nat} {w : Nat} {Q : Int32 → xHp → Prop} (hW : xLay sh R) (hc : mCtx I p L) (hC : C ≤ 60) (hk : P.length ≤ 4) (he : mEq I p C P.length (eqs p L A P cs w)) (hind : indp C P.length (fun j => RW p L A cs (P.getD j 0)))
    (ky : ∀ I' (c : Nat → Nat), Fr [213, 214] I I' → (∀ j, j < P.length → I' 214 j = nI (c j) ∧ c j < p) → (∀ d, d < C → RW p L A cs w d = sm P.length (fun j => fo p (c j) * RW p L A cs (P.getD j 0) d)) → Q (nI 1) (sh, I', R))
    (kn : ∀ I', Fr [213, 214] I I' → ¬ dpw (RW p L A cs) C P w → Q (nI 0) (sh, I', R)) : CI mX10_isSolved [.ref 209, .int (nI P.length), .int (nI C)] (sh, I, R) Q := by
  have e1 : ∀ d, fo p (eqs p L A P cs w d P.length) = RW p L A cs w d := fun d => by unfold RW eqs; rw [if_neg (Nat.lt_irrefl _)]
  have e2 : ∀ d j, j < P.length → fo p (eqs p L A P cs w d j) = RW p L A cs (P.getD j 0) d := fun d j hj => by unfold RW eqs; rw [if_pos hj]
  refine w_isSolved hW hc hC hk he (eqs_ind hind) (fun I' c hf h1 h2 => ky I' c hf h1 (fun d hd => ?_)) (fun I' hf hn => kn I' hf (fun hd => hn ?_))
  · rw [← e1 d, h2 d hd]
    exact sm_congr (fun j hj => by rw [e2 d j hj])
  · obtain ⟨x, hx⟩ := hd
    refine ⟨x, fun d hd => ?_⟩
    show fo p (eqs p L A P cs w d P.length) = _
    rw [e1 d, hx d hd]
    exact sm_congr (fun j hj => by dsimp only; rw [e2 d j hj])
theorem w_isTold {p L : Nat} [NeZero p] {A : Mac} {P S : List Nat} {w : Nat} {Q : Int32 → xHp → Prop} (hW : xLay sh R) (hc : mCtx I p L) (hA : mRep I L 0 A) (hok : okM p L A) (hT : mTab I P S) (hlP : ∀ j c, j < P.length → c < S.length → wlen L (P.getD j 0) + wlen L (S.getD c 0) ≤ 12) (hlw : ∀ c, c < S.length → wlen L w + wlen L (S.getD c 0) ≤ 12)
    (hind : indp S.length P.length (fun j => RW p L A (fun i => S.getD i 0) (P.getD j 0)))
    (ky : ∀ I' (c : Nat → Nat), Fr [211, 212, 213, 214] I I' → (∀ j, j < P.length → I' 214 j = nI (c j) ∧ c j < p) → (∀ d, d < S.length → RW p L A (fun i => S.getD i 0) w d = sm P.length (fun j => fo p (c j) * RW p L A (fun i => S.getD i 0) (P.getD j 0) d)) → Q (nI 1) (sh, I', R))
    (kn : ∀ I', Fr [211, 212, 213, 214] I I' → ¬ dpw (RW p L A (fun i => S.getD i 0)) S.length P w → Q (nI 0) (sh, I', R)) : CI mX10_isTold [.ref 209, .int (nI w)] (sh, I, R) Q := by
  obtain ⟨hP, hL, hpr, hL1, hL3⟩ := id hc
  obtain ⟨hp2, hp97⟩ := PR_bd p hpr
  obtain ⟨-, -, hP4, hS60, -, -⟩ := id hT
  have hv : ∀ d i, eqs p L A P (fun i => S.getD i 0) w d i < p := fun d i => vN_lt (by omega) _
  have loop1 : ∀ n c (I1 : Nat → Nat → Int32), c + n = S.length → Fr [211, 212, 213] I I1 → mEq I1 p c P.length (eqs p L A P (fun i => S.getD i 0) w) → Ex mX10_isTold 2 [.ref 209, .int (nI w), .int (nI c), xU] [] (sh, I1, R) 0 0 (xqI Q) := by
    intro n
    induction n with
    | zero =>
      intro c I1 hcn hf h1
      have hT1 := hT.fr hf (by decide) (by decide) (by decide)
      obtain rfl : c = S.length := by omega
      refine bX10_isTold_2 hW ⟨fun _ => ?_, fun q => ?_⟩
      · rw [hT1.1, hT1.2.1]
        refine w_solvedRW hW (hc.fr hf (by decide)) hS60 hP4 h1 hind (fun I' c hf' a1 a2 => bX10_isTold_104 hW ⟨Or.inr rfl, ky I' c ((hf.sub (by simp)).tr (hf'.sub (by simp))) a1 a2⟩) (fun I' hf' a1 => bX10_isTold_104 hW ⟨Or.inl rfl, kn I' ((hf.sub (by simp)).tr (hf'.sub (by simp))) a1⟩)
      · rw [hT1.2.1] at q
        exact absurd (nI_le (Nat.le_refl _) (by omega)) q
    | succ n ih =>
      intro c I1 hcn hf h1
      have hT1 := hT.fr hf (by decide) (by decide) (by decide)
      refine bX10_isTold_2 hW ⟨fun q => ?_, fun _ => ?_⟩
      · rw [hT1.2.1] at q
        exact absurd q (nI_ge (by omega) (by omega))
      · have loop2 : ∀ m j (I2 : Nat → Nat → Int32), j + m = P.length → Fr [211, 212, 213] I I2 → mEq I2 p c P.length (eqs p L A P (fun i => S.getD i 0) w) → (∀ i, i < j → I2 213 (5 * c + i) = nI (eqs p L A P (fun i => S.getD i 0) w c i)) → Ex mX10_isTold 12 [.ref 209, .int (nI w), .int (nI c), .int (nI j)] [] (sh, I2, R) 0 0 (xqI Q) := by
          intro m
          induction m with
          | zero =>
            intro j I2 hjm hf2 h2 h3
            have hT2 := hT.fr hf2 (by decide) (by decide) (by decide)
            obtain rfl : j = P.length := by omega
            refine bX10_isTold_12 hW ⟨fun _ => ⟨vp_nI (by omega) (by omega), ?_⟩, fun q => ?_⟩
            · rw [nclamp (by omega), hT2.2.2.2.2.2 c (by omega), hT2.1]
              simp only [pk_mul, nI_add]
              refine w_joined hW (hc.fr hf2 (by decide)) (hlw c (by omega)) (bX10_isTold_82 hW ?_)
              refine w_valueOf (m := 0) hW (hc.fr hf2 (by decide)) (by decide) (hA.fr hf2 (by decide)) hok (by rw [wlen_cat hL1]; exact hlw c (by omega)) (fun I3 hf3 => bX10_isTold_85 hW ⟨vp_nI (by omega) (by omega), ?_⟩)
              rw [nclamp (by omega), nI_add]
              have hf4 : Fr [211, 212, 213] I I3 := hf2.tr (hf3.sub (by simp))
              refine ih (c + 1) _ (by omega) (hf4.xi (by simp)) (fun d hd i hi => ?_)
              by_cases q1 : d = c ∧ i = P.length
              · obtain ⟨rfl, rfl⟩ := q1
                rw [xi_e]
                refine ⟨?_, hv _ _⟩
                unfold eqs
                rw [if_neg (Nat.lt_irrefl _)]
              · rw [xi_s (by omega), hf3.at 213 _ (by decide)]
                by_cases q2 : d = c
                · subst q2; exact ⟨h3 i (by omega), hv _ _⟩
                · exact h2 d (by omega) i hi
            · rw [hT2.1] at q
              exact absurd (nI_le (Nat.le_refl _) (by omega)) q
          | succ m ihm =>
            intro j I2 hjm hf2 h2 h3
            have hT2 := hT.fr hf2 (by decide) (by decide) (by decide)
            refine bX10_isTold_12 hW ⟨fun q => ?_, fun _ => ⟨vp_nI (by omega) (by omega), vp_nI (by omega) (by omega), ?_⟩⟩
            · rw [hT2.1] at q
              exact absurd q (nI_ge (by omega) (by omega))
            · rw [nclamp (by omega), nclamp (by omega), hT2.2.2.2.2.2 c (by omega), hT2.2.2.2.2.1 j (by omega)]
              simp only [pk_mul, nI_add]
              refine w_joined hW (hc.fr hf2 (by decide)) (hlP j c (by omega) (by omega)) (bX10_isTold_47 hW ?_)
              refine w_valueOf (m := 0) hW (hc.fr hf2 (by decide)) (by decide) (hA.fr hf2 (by decide)) hok (by rw [wlen_cat hL1]; exact hlP j c (by omega) (by omega)) (fun I3 hf3 => bX10_isTold_50 hW ⟨vp_nI (by omega) (by omega), ?_⟩)
              rw [nclamp (by omega), nI_add]
              have hf4 : Fr [211, 212, 213] I I3 := hf2.tr (hf3.sub (by simp))
              refine ihm (j + 1) _ (by omega) (hf4.xi (by simp)) (fun d hd i hi => ?_) (fun i hi => ?_)
              · rw [xi_s (by omega), hf3.at 213 _ (by decide)]; exact h2 d hd i hi
              · by_cases q1 : i = j
                · subst q1
                  rw [xi_e]
                  unfold eqs
                  rw [if_pos (by omega)]
                · rw [xi_s (by omega), hf3.at 213 _ (by decide)]; exact h3 i (by omega)
        exact loop2 P.length 0 I1 (by omega) hf h1 (fun i hi => by omega)
  exact eX10_isTold (bX10_isTold_0 hW (loop1 S.length 0 I (by omega) Fr.rf (fun d hd => by omega)))
theorem fst4 {L : Nat} (hL : L ≤ 3) : fst L 4 ≤ 40 := by
  have : L = 0 ∨ L = 1 ∨ L = 2 ∨ L = 3 := by omega
  rcases this with rfl | rfl | rfl | rfl <;> decide
theorem w_isBased {p L m : Nat} [NeZero p] {A : Mac} {P : List Nat} {w : Nat} {Q : Int32 → xHp → Prop} (hW : xLay sh R) (hc : mCtx I p L) (hm : m < 33) (hA : mRep I L m A) (hok : okM p L A) (hT : mBas I P) (hlP : ∀ j, j < P.length → wlen L (P.getD j 0) ≤ 8) (hlw : wlen L w ≤ 8)
    (hind : indp (fst L 4) P.length (fun j => RW p L A (fun i => i) (P.getD j 0)))
    (ky : ∀ I' (c : Nat → Nat), Fr [211, 212, 213, 214] I I' → (∀ j, j < P.length → I' 214 j = nI (c j) ∧ c j < p) → (∀ d, d < fst L 4 → RW p L A (fun i => i) w d = sm P.length (fun j => fo p (c j) * RW p L A (fun i => i) (P.getD j 0) d)) → Q (nI 1) (sh, I', R))
    (kn : ∀ I', Fr [211, 212, 213, 214] I I' → ¬ dpw (RW p L A (fun i => i)) (fst L 4) P w → Q (nI 0) (sh, I', R)) : CI mX10_isBased [.ref 209, .int (nI m), .int (nI w)] (sh, I, R) Q := by
  obtain ⟨hP, hL, hpr, hL1, hL3⟩ := id hc
  obtain ⟨hp2, hp97⟩ := PR_bd p hpr
  obtain ⟨-, hP4, -⟩ := id hT
  have h40 := fst4 hL3
  have hcl : ∀ c, c < fst L 4 → wlen L c ≤ 3 := fun c hc => by have := (wlen_lt_iff hL1 c 4).mpr hc; omega
  have hv : ∀ d i, eqs p L A P (fun i => i) w d i < p := fun d i => vN_lt (by omega) _
  have loop1 : ∀ n c (I1 : Nat → Nat → Int32), c + n = fst L 4 → Fr [211, 212, 213] I I1 → mEq I1 p c P.length (eqs p L A P (fun i => i) w) → Ex mX10_isBased 9 [.ref 209, .int (nI m), .int (nI w), .int (nI (fst L 4)), .int (nI c), xU] [] (sh, I1, R) 0 0 (xqI Q) := by
    intro n
    induction n with
    | zero =>
      intro c I1 hcn hf h1
      have hT1 := hT.fr hf (by decide) (by decide)
      obtain rfl : c = fst L 4 := by omega
      refine bX10_isBased_9 hW ⟨fun _ => ?_, fun q => absurd (nI_le (Nat.le_refl _) (by omega)) q⟩
      rw [hT1.1]
      refine w_solvedRW hW (hc.fr hf (by decide)) (by omega) hP4 h1 hind (fun I' c hf' a1 a2 => bX10_isBased_104 hW ⟨Or.inr rfl, ky I' c ((hf.sub (by simp)).tr (hf'.sub (by simp))) a1 a2⟩) (fun I' hf' a1 => bX10_isBased_104 hW ⟨Or.inl rfl, kn I' ((hf.sub (by simp)).tr (hf'.sub (by simp))) a1⟩)
    | succ n ih =>
      intro c I1 hcn hf h1
      have hT1 := hT.fr hf (by decide) (by decide)
      refine bX10_isBased_9 hW ⟨fun q => absurd q (nI_ge (by omega) (by omega)), fun _ => ?_⟩
      have loop2 : ∀ m' j (I2 : Nat → Nat → Int32), j + m' = P.length → Fr [211, 212, 213] I I2 → mEq I2 p c P.length (eqs p L A P (fun i => i) w) → (∀ i, i < j → I2 213 (5 * c + i) = nI (eqs p L A P (fun i => i) w c i)) → Ex mX10_isBased 18 [.ref 209, .int (nI m), .int (nI w), .int (nI (fst L 4)), .int (nI c), .int (nI j)] [] (sh, I2, R) 0 0 (xqI Q) := by
        intro m'
        induction m' with
        | zero =>
          intro j I2 hjm hf2 h2 h3
          have hT2 := hT.fr hf2 (by decide) (by decide)
          obtain rfl : j = P.length := by omega
          refine bX10_isBased_18 hW ⟨fun _ => ?_, fun q => ?_⟩
          · rw [hT2.1]
            simp only [pk_mul, nI_add]
            refine w_joined hW (hc.fr hf2 (by decide)) (by have := hcl c (by omega); omega) (bX10_isBased_85 hW ?_)
            refine w_valueOf hW (hc.fr hf2 (by decide)) hm (hA.fr hf2 (by decide)) hok (by rw [wlen_cat hL1]; have := hcl c (by omega); omega) (fun I3 hf3 => bX10_isBased_88 hW ⟨vp_nI (by omega) (by omega), ?_⟩)
            rw [nclamp (by omega), nI_add]
            have hf4 : Fr [211, 212, 213] I I3 := hf2.tr (hf3.sub (by simp))
            refine ih (c + 1) _ (by omega) (hf4.xi (by simp)) (fun d hd i hi => ?_)
            by_cases q1 : d = c ∧ i = P.length
            · obtain ⟨rfl, rfl⟩ := q1
              rw [xi_e]
              refine ⟨?_, hv _ _⟩
              unfold eqs
              rw [if_neg (Nat.lt_irrefl _)]
            · rw [xi_s (by omega), hf3.at 213 _ (by decide)]
              by_cases q2 : d = c
              · subst q2; exact ⟨h3 i (by omega), hv _ _⟩
              · exact h2 d (by omega) i hi
          · rw [hT2.1] at q
            exact absurd (nI_le (Nat.le_refl _) (by omega)) q
        | succ m' ihm =>
          intro j I2 hjm hf2 h2 h3
          have hT2 := hT.fr hf2 (by decide) (by decide)
          refine bX10_isBased_18 hW ⟨fun q => ?_, fun _ => ⟨vp_nI (by omega) (by omega), ?_⟩⟩
          · rw [hT2.1] at q
            exact absurd q (nI_ge (by omega) (by omega))
          · rw [nclamp (by omega), hT2.2.2 j (by omega)]
            simp only [pk_mul, nI_add]
            have hl9 := hlP j (by omega)
            refine w_joined hW (hc.fr hf2 (by decide)) (by have := hcl c (by omega); omega) (bX10_isBased_53 hW ?_)
            refine w_valueOf hW (hc.fr hf2 (by decide)) hm (hA.fr hf2 (by decide)) hok (by rw [wlen_cat hL1]; have := hcl c (by omega); omega) (fun I3 hf3 => bX10_isBased_56 hW ⟨vp_nI (by omega) (by omega), ?_⟩)
            rw [nclamp (by omega), nI_add]
            have hf4 : Fr [211, 212, 213] I I3 := hf2.tr (hf3.sub (by simp))
            refine ihm (j + 1) _ (by omega) (hf4.xi (by simp)) (fun d hd i hi => ?_) (fun i hi => ?_)
            · rw [xi_s (by omega), hf3.at 213 _ (by decide)]; exact h2 d hd i hi
            · by_cases q1 : i = j
              · subst q1
                rw [xi_e]
                unfold eqs
                rw [if_pos (by omega)]
              · rw [xi_s (by omega), hf3.at 213 _ (by decide)]; exact h3 i (by omega)
      exact loop2 P.length 0 I1 (by omega) hf h1 (fun i hi => by omega)
  refine eX10_isBased (bX10_isBased_0 hW (w_firstOf hW hL (by omega) (bX10_isBased_5 hW ?_)))
  exact loop1 (fst L 4) 0 I (by omega) Fr.rf (fun d hd => by omega)
end MODF
