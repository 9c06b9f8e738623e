/-! THE REFERENCE: the least machine made -/
section MODJ
variable {sh : List xSh} {I : Nat → Nat → Int32} {R : Nat → Nat → Option Nat}
theorem w_lessens {p L : Nat} [NeZero p] {A : Mac} {Q : xHp → Prop} (hW : xLay sh R) (hc0 : mCtx I p L) (hA0 : mRep I L 0 A) (hok : okM p L A)
    (k0 : ∀ I' G, Fr [209, 210, 211, 212, 213, 214, 217] I I' → (∀ j, j ≠ 14 → I' 209 j = I 209 j) → mBas I' (BS p L A) → pgF [2] I I' → madeOK p L A (BS p L A) (fst L 4) (fun i => i) G → mRep I' L 2 G → Q (sh, I', R)) : CV mX10_lessens [.ref 209] (sh, I, R) Q := by
  refine eX10_lessens (bX10_lessens_0 hW (w_bases (m := 0) hW hc0 (by decide) hA0 hok (fun I0 hf0 hf09 hB => bX10_lessens_5 hW ?_)))
  have hc : mCtx I0 p L := ⟨by rw [hf09 1 (by decide)]; exact hc0.1, by rw [hf09 2 (by decide)]; exact hc0.2.1, hc0.2.2⟩
  have hA : mRep I0 L 0 A := hA0.fr hf0 (by decide)
  obtain ⟨hPp, hL, hpr, hL1, hL3⟩ := id hc
  have hA4 := hA.1
  have hPl : ∀ j, j < (BS p L A).length → wlen L ((BS p L A).getD j 0) ≤ 3 := fun j hj => BS_len hpr hL1 hA4 (gd_mem hj)
  have hind : indp (fst L 4) (BS p L A).length (fun j => RW p L A (fun i => i) ((BS p L A).getD j 0)) := BB_ind (isF_p hpr) _
  have hall : ∀ w, dpw (RW p L A (fun i => i)) (fst L 4) (BS p L A) w := BS_all hpr hL1 hA4
  generalize BS p L A = P at *
  have hP4 := hB.2.1
  have k : ∀ I' G, Fr [210, 211, 212, 213, 214] I0 I' → pgF [2] I0 I' → madeOK p L A P (fst L 4) (fun i => i) G → mRep I' L 2 G → Q (sh, I', R) := fun I' G h1 h2 h3 h4 => k0 I' G (hf0.sub (by simp) |>.tr (h1.sub (by simp))) (fun j hj => by rw [h1.at 209 j (by decide)]; exact hf09 j hj) (hB.fr h1 (by decide) (by decide)) ((pgF.of hf0 (by decide)).tr h2) h3 h4
  have loopS : ∀ n s (I1 : Nat → Nat → Int32) (cf : Nat → Nat → Nat → Nat), s + n = P.length → Fr [210, 211, 212, 213, 214] I0 I1 → pgF [2] I0 I1 → mkSt p L A P 2 I1 s s 0 cf → cfOK p L A P (fst L 4) (fun i => i) s 0 cf → Ex mX10_lessens 27 [.ref 209, .int (nI s), xU, xU] [] (sh, I1, R) 0 0 (xqV Q) := by
    intro n
    induction n with
    | zero =>
      intro s I1 cf hsn hf hg hm hcf
      obtain rfl : s = P.length := by omega
      have e10 : I1 209 14 = nI P.length := by rw [hf.at 209 14 (by decide)]; exact hB.1
      refine bX10_lessens_27 hW ⟨fun _ => ?_, fun q => ?_⟩
      · obtain ⟨G, hG1, hG2⟩ := mk_end hP4 hm hcf
        exact k _ G hf hg hG1 hG2
      · rw [e10] at q; exact absurd (nI_le (Nat.le_refl _) (by omega)) q
    | succ n ih =>
      intro s I1 cf hsn hf hg hm hcf
      have e10 : ∀ {I9 : Nat → Nat → Int32}, Fr [210, 211, 212, 213, 214] I0 I9 → I9 209 14 = nI P.length := fun h9 => by rw [h9.at 209 14 (by decide)]; exact hB.1
      have hli := hPl s (by omega)
      -- the letters of state s
      have loopX : ∀ m x (I2 : Nat → Nat → Int32) (cf2 : Nat → Nat → Nat → Nat), x + m = L → Fr [210, 211, 212, 213, 214] I0 I2 → pgF [2] I0 I2 → mkSt p L A P 2 I2 (s + 1) s x cf2 → cfOK p L A P (fst L 4) (fun i => i) s x cf2 → Ex mX10_lessens 83 [.ref 209, .int (nI s), .int (nI x), xU] [] (sh, I2, R) 0 0 (xqV Q) := by
        intro m
        induction m with
        | zero =>
          intro x I2 cf2 hxm hf2 hg2 hm2 hcf2
          refine bX10_lessens_83 hW ⟨fun _ => ?_, fun q => ?_⟩
          · rw [nI_add]
            refine ih (s + 1) I2 cf2 (by omega) hf2 hg2 ⟨hm2.1, hm2.2.1, hm2.2.2.1, fun s' x' t a b c d => hm2.2.2.2 s' x' t (by omega) b c d⟩ (fun s' x' a b c => hcf2 s' x' (by omega) b c)
          · rw [(hc.fr hf2 (by decide)).2.1] at q; exact absurd (nI_le (by omega) (by omega)) q
        | succ m ihm =>
          intro x I2 cf2 hxm hf2 hg2 hm2 hcf2
          have hc2 := hc.fr hf2 (by decide)
          have hB2 := hB.fr hf2 (by decide) (by decide)
          have hA2 : mRep I2 L 0 A := hA.pg hg2 (by decide) hL3
          refine bX10_lessens_83 hW ⟨fun q => ?_, fun _ => ⟨vp_nI (by omega) (by omega), ?_⟩⟩
          · rw [hc2.2.1] at q; exact absurd q (nI_ge (by omega) (by omega))
          · rw [nclamp (by omega), hB2.2.2 s (by omega)]
            refine w_oneOf hW (bX10_lessens_104 hW ?_)
            refine w_joined hW hc2 (by rw [wlen_one (by omega)]; omega) (bX10_lessens_107 hW ?_)
            rw [wcat_one (by omega)]
            refine w_isBased (m := 0) hW hc2 (by decide) hA2 hok hB2 (fun j hj => by have := hPl j hj; omega) (by rw [wlen_x (by omega)]; omega) hind (fun I3 c hf3 h3 h4 => ?_) (fun I3 hf3 h3 => absurd (hall _) h3)
            refine bX10_lessens_110 hW ?_
            have hm3 := hm2.fr hf3 (by decide)
            have hf30 : Fr [210, 211, 212, 213, 214] I0 I3 := hf2.tr (hf3.sub (by simp))
            have hg30 : pgF [2] I0 I3 := hg2.tr (pgF.of hf3 (by decide))
            -- the weights
            have loopT : ∀ u t (I4 : Nat → Nat → Int32), t + u = P.length → Fr [210] I3 I4 → pgF [2] I3 I4 → mkSt p L A P 2 I4 (s + 1) s x cf2 → (∀ t', t' < t → I4 210 (57 * 2 + (9 + 12 * s + 4 * x + t')) = nI (c t')) → Ex mX10_lessens 113 [.ref 209, .int (nI s), .int (nI x), .int (nI t)] [] (sh, I4, R) 0 0 (xqV Q) := by
              intro u
              induction u with
              | zero =>
                intro t I4 htu hf4 hg4 hm4 hw4
                have hf40 : Fr [210, 211, 212, 213, 214] I0 I4 := hf30.tr (hf4.sub (by simp))
                refine bX10_lessens_113 hW ⟨fun _ => ?_, fun q => ?_⟩
                · rw [nI_add]
                  refine ihm (x + 1) I4 (fun s' x' => if s' = s ∧ x' = x then c else cf2 s' x') (by omega) hf40 (hg30.tr hg4) ⟨hm4.1, hm4.2.1, hm4.2.2.1, fun s' x' t' a b c9 d => ?_⟩ (fun s' x' a b c9 => ?_)
                  · by_cases q : s' = s ∧ x' = x
                    · obtain ⟨rfl, rfl⟩ := q
                      simp only [and_self, if_true]
                      exact hw4 t' (by omega)
                    · simp only [q, if_false]
                      exact hm4.2.2.2 s' x' t' (by omega) b c9 d
                  · by_cases q : s' = s ∧ x' = x
                    · obtain ⟨rfl, rfl⟩ := q
                      simp only [and_self, if_true]
                      exact ⟨fun t' ht' => (h3 t' ht').2, h4⟩
                    · simp only [q, if_false]
                      exact hcf2 s' x' (by omega) b c9
                · rw [e10 hf40] at q; exact absurd (nI_le (by omega) (by omega)) q
              | succ u ihu =>
                intro t I4 htu hf4 hg4 hm4 hw4
                have hf40 : Fr [210, 211, 212, 213, 214] I0 I4 := hf30.tr (hf4.sub (by simp))
                refine bX10_lessens_113 hW ⟨fun q => ?_, fun _ => ⟨vp_nI (by omega) (by omega), ?_⟩⟩
                · rw [e10 hf40] at q; exact absurd q (nI_ge (by omega) (by omega))
                · rw [nclamp (by omega), hf4.at 214 t (by decide), (h3 t (by omega)).1]
                  refine w_weighs (m := 2) hW (by decide) (by omega) (by omega) (by omega) (bX10_lessens_135 hW ?_)
                  rw [nI_add]
                  refine ihu (t + 1) _ (by omega) (hf4.xi (by simp)) (hg4.xi (by simp) (by omega)) ⟨?_, fun s' a => ?_, fun s' a => ?_, fun s' x' t' a b c9 d => ?_⟩ (fun t' ht' => ?_)
                  · rw [xi_s (by omega)]; exact hm4.1
                  · rw [xi_s (by omega)]; exact hm4.2.1 s' a
                  · rw [xi_s (by omega)]; exact hm4.2.2.1 s' a
                  · rw [xi_s (by omega)]; exact hm4.2.2.2 s' x' t' a b c9 d
                  · by_cases q : t' = t
                    · subst q; rw [xi_e]
                    · rw [xi_s (by omega)]; exact hw4 t' (by omega)
            exact loopT P.length 0 I3 (by omega) Fr.rf pgF.rf hm3 (fun t' h => by omega)
      refine bX10_lessens_27 hW ⟨fun q => ?_, fun _ => ?_⟩
      · rw [e10 hf] at q; exact absurd q (nI_ge (by omega) (by omega))
      · rw [nI_add]
        refine w_at hW (bX10_lessens_47 hW ?_)
        -- start and end of state s
        have fin : ∀ (b : Nat), b = (if s = 0 then 1 else 0) → vp_in (nI (57 * 2 + (1 + s))) 1881 ∧ CI mX10_at [.ref 209, .int (nI 2), .int (nI 5 + nI s)] (sh, xi I1 210 ((nI (57 * 2 + (1 + s))).toNatClampNeg) (nI b), R) (fun w h1 => Ex mX10_lessens 69 [.ref 209, .int (nI s), xU, xU] (.int w :: [.ref 210]) h1 0 0 (xqV Q)) := by
          intro b hb
          refine ⟨vp_nI (by omega) (by omega), ?_⟩
          rw [nI_add, nclamp (by omega)]
          generalize hI2 : xi I1 210 (57 * 2 + (1 + s)) (nI b) = I2
          have hf2 : Fr [210] I1 I2 := by rw [← hI2]; exact Fr.rf.xi (by simp)
          have hg2 : pgF [2] I1 I2 := by rw [← hI2]; exact pgF.rf.xi (by simp) (by omega)
          refine w_at hW (bX10_lessens_69 hW ⟨vp_nI (by omega) (by omega), ?_⟩)
          have hf20 : Fr [210, 211, 212, 213, 214] I0 I2 := hf.tr (hf2.sub (by simp))
          rw [nclamp (by omega), hf20.at 217 s (by decide), hB.2.2 s (by omega)]
          refine w_valueOf (m := 0) hW (hc.fr hf20 (by decide)) (by decide) (hA.pg (hg.tr hg2) (by decide) hL3) hok (by omega) (fun I3 hf3 => bX10_lessens_80 hW ⟨vp_nI (by omega) (by omega), ?_⟩)
          rw [nclamp (by omega)]
          have e3 : ∀ i, I3 210 i = I2 210 i := fun i => hf3.at 210 i (by decide)
          refine loopX L 0 _ cf (by omega) ((hf20.tr (hf3.sub (by simp))).xi (by simp)) (((hg.tr hg2).tr (pgF.of hf3 (by decide))).xi (by simp) (by omega)) ⟨?_, fun s' a => ?_, fun s' a => ?_, fun s' x' t a b c d => ?_⟩ hcf
          · rw [xi_s (by omega), e3, ← hI2, xi_s (by omega)]; exact hm.1
          · rw [xi_s (by omega), e3, ← hI2]
            by_cases q : s' = s
            · subst q; rw [xi_e, hb]
            · rw [xi_s (by omega)]; exact hm.2.1 s' (by omega)
          · by_cases q : s' = s
            · subst q; rw [xi_e]
            · rw [xi_s (by omega), e3, ← hI2, xi_s (by omega)]; exact hm.2.2.1 s' (by omega)
          · rw [xi_s (by omega), e3, ← hI2, xi_s (by omega)]; exact hm.2.2.2 s' x' t a b c d
        refine ⟨fun q => fin 0 (by rw [if_neg (fun z => q (by rw [z]; rfl))]), fun q => fin 1 (by rw [if_pos ((nI_eq (a := s) (b := 0) (by omega) (by omega)).mp q)])⟩
  refine w_empties hW (by decide) (fun I1 hf hg hz => bX10_lessens_10 hW (w_at hW (bX10_lessens_20 hW ⟨vp_nI (by omega) (by omega), ?_⟩)))
  rw [nclamp (by omega), hf.at 209 14 (by decide), hB.1]
  refine loopS P.length 0 _ (fun _ _ _ => 0) (by omega) ((hf.sub (by simp)).xi (by simp)) (hg.xi (by simp) (by omega)) ⟨xi_e, fun s' a => by omega, fun s' a => by omega, fun s' x' t a => by omega⟩ (fun s' x' a => by omega)
end MODJ
