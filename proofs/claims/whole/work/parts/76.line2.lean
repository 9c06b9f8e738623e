section LINE2
variable {sh : List xSh} {I : Nat → Nat → Int32} {R : Nat → Nat → Option Nat}
theorem letP_inr {T : List Nat} {x : Pz (Nat × Nat × Nat)} {v : Nat × Nat} (h : letP T x = .inr v) : v.1 ≤ 2 := by
  unfold letP at h
  obtain ⟨t, rfl, h2⟩ := bnd_inr h
  split at h2
  · rename_i h3
    cases h2
    show T.getD t.2.1 0 - 97 ≤ 2
    have := h3.2.2
    omega
  · exact absurd h2 (by simp)
/-- the letter of an edge -/
theorem w_letS {T : List Nat} {x : Pz (Nat × Nat × Nat)} {s0 : Int32} {Q : xHp → Prop} (hW : xLay sh R) (hT : tpR I T) (hM : rM I T x)
    (k : ∀ I', Fr [209] I I' → (∀ j, j < 17 ∨ (22 < j ∧ j ≠ 29) → I' 209 j = I 209 j) → rM I' T (nxt T (letP T x)) → (∀ g y b, I 209 29 = nI g → g ≤ 3 → letP T x = .inr (y, b) → I' 209 29 = nI (max g (y + 1))) → Ex mX10_readsEdge 101 [.ref 209, .int s0, .int (nI (vO (letP T x))), xU, xU] [] (sh, I', R) 0 0 (xqV Q)) : Ex mX10_readsEdge 4 [.ref 209, xU, xU, xU, xU] [.int s0] (sh, I, R) 0 0 (xqV Q) := by
  -- a fault that there is
  have bad : ∀ (I1 : Nat → Nat → Int32) (e : Nat × Nat) (v : Int32), pF I I1 → rB I1 T (.inl e) → letP T x = .inl e → Ex mX10_readsEdge 53 [.ref 209, .int s0, xU, xU, xU] [.int v] (sh, I1, R) 0 0 (xqV Q) := by
    intro I1 e v hf hb he
    have fin : ∀ u : Int32, CV mX10_reads [.ref 209] (sh, xi I1 209 29 u, R) (fun h1 => Ex mX10_readsEdge 101 [.ref 209, .int s0, .int (nI 0), xU, xU] [] h1 0 0 (xqV Q)) := fun u => by
      have hb2 : rB (xi I1 209 29 u) T (.inl e) := ⟨by rw [xi_s (by decide)]; exact hb.1, hb.2.1, hb.2.2.1, by rw [xi_s (by decide)]; exact hb.2.2.2.1, hb.2.2.2.2⟩
      refine w_reads hW ((hT.pF hf).eq (xi_s (by decide)) (by funext j; exact xi_p (by decide))) hb2 (fun I2 hf2 hM2 => ?_)
      rw [he] at k
      exact k I2 ((hf.1.xi (by simp)).tr hf2.1) (fun j hj => by rw [hf2.2 j (by omega), xi_s (by omega), hf.2 j (by omega)]) hM2 (fun g y b _ _ z => absurd z (by simp))
    refine bX10_readsEdge_53 hW ⟨fun q => ?_, fun _ => ⟨fun _ => fin _, fun _ => fin _⟩⟩
    rw [hb.1] at q; exact absurd q (nI_npos hb.2.1 (by have := hb.2.2.1; omega))
  cases x with
  | inl e =>
    have hne : I 209 17 ≠ 0 := by rw [hM.1]; exact nI_ne0 hM.2.1 (by have := hM.2.2.1; omega)
    refine bX10_readsEdge_4 hW ⟨fun _ => must_f hW hne (fun v => bad I e v pF.rf hM rfl), fun _ => ⟨fun _ => must_f hW hne (fun v => bad I e v pF.rf hM rfl), fun _ => ?_⟩⟩
    exact w_in hW (fun _ => bX10_readsEdge_41 hW ⟨fun _ => must_f hW hne (fun v => bad I e v pF.rf hM rfl), fun _ => must_f hW hne (fun v => bad I e v pF.rf hM rfl)⟩) (fun _ => bX10_readsEdge_41 hW ⟨fun _ => must_f hW hne (fun v => bad I e v pF.rf hM rfl), fun _ => must_f hW hne (fun v => bad I e v pF.rf hM rfl)⟩)
  | inr t =>
    have hab := rM_a hT hM
    have hT2 := hT.2.1
    obtain ⟨h17, h21, h20, h19, ok, -, hv⟩ := hM
    have hk4 := ok.1
    have hle := ok.2.1
    have hun : letP T (.inr t) = if t.1 = 1 ∧ t.2.2 = t.2.1 + 1 ∧ T.getD t.2.1 0 ≤ 99 then .inr (T.getD t.2.1 0 - 97, t.2.2) else .inl (2, t.2.1) := rfl
    obtain ⟨f1, f2⟩ := flt (T := T) (c := 2) h20 (by decide) (by decide) hab.1
    refine bX10_readsEdge_4 hW ⟨fun q => ?_, fun q => ?_⟩
    · rw [h21] at q
      rw [if_neg (fun z => q (by rw [z.1]))] at hun
      exact must_n hW h17 (fun v => bad _ (2, t.2.1) v f1 f2 hun)
    · rw [h21] at q
      have hk : t.1 = 1 := (nI_eq (by omega) (by omega)).mp q
      have hvv := hv hk
      have hlow := lowC_iff.mp (ok.2.2.2.2.2.1 hk)
      rw [h19, h20, pk_sub hle]
      refine ⟨fun q2 => ?_, fun q2 => ?_⟩
      · rw [if_neg (fun z => q2 (by rw [z.2.1]; congr 1; omega))] at hun
        exact must_n hW h17 (fun v => bad _ (2, t.2.1) v f1 f2 hun)
      · have h1 : t.2.2 - t.2.1 = 1 := (nI_eq (by omega) (by omega)).mp q2
        refine w_inL (lo := 97) (hi := 99) hW (by decide) (by decide) (fun hin => ?_) (fun hnin => ?_)
        · rw [hvv, nI_toInt (by omega)] at hin
          rw [if_pos ⟨hk, by omega, by omega⟩] at hun
          refine bX10_readsEdge_41 hW ⟨fun z => absurd z (by decide), fun _ => must_y hW (fun v => bX10_readsEdge_53 hW ⟨fun _ => ?_, fun z => ?_⟩)⟩
          · rw [hvv, pk_sub (by omega), nI_add]
            have fin : ∀ u : Int32, (∀ g, I 209 29 = nI g → g ≤ 3 → u = nI (max g (T.getD t.2.1 0 - 97 + 1))) → CV mX10_reads [.ref 209] (sh, xi I 209 29 u, R) (fun h1 => Ex mX10_readsEdge 101 [.ref 209, .int s0, .int (nI (T.getD t.2.1 0 - 97)), xU, xU] [] h1 0 0 (xqV Q)) := fun u hu => by
              refine w_reads (y := .inr t.2.2) hW (hT.eq (xi_s (by decide)) (by funext j; exact xi_p (by decide))) ⟨by rw [xi_s (by decide)]; exact h17, by rw [xi_s (by decide)]; exact h19, hab.2⟩ (fun I2 hf2 hM2 => ?_)
              rw [hun] at k
              refine k I2 ((Fr.rf.xi (by simp)).tr hf2.1) (fun j hj => by rw [hf2.2 j (by omega), xi_s (by omega)]) hM2 (fun g y b hg hg3 z => ?_)
              cases z
              rw [hf2.2 29 (by omega), xi_e]
              exact hu g hg hg3
            refine ⟨fun z => fin _ (fun g hg hg3 => ?_), fun z => fin _ (fun g hg hg3 => ?_)⟩
            · rw [hg] at z ⊢
              have := (nI_leI (by omega) (by omega)).mp z
              rw [show max g (T.getD t.2.1 0 - 97 + 1) = g by omega]
            · rw [hg] at z
              have : g ≤ T.getD t.2.1 0 - 97 + 1 := by
                rcases Nat.lt_or_ge g (T.getD t.2.1 0 - 97 + 1) with y | y
                · omega
                · exact absurd (nI_le y (by omega)) z
              rw [show max g (T.getD t.2.1 0 - 97 + 1) = T.getD t.2.1 0 - 97 + 1 by omega]
          · rw [h17] at z; exact absurd (by decide) z
        · rw [hvv, nI_toInt (by omega)] at hnin
          rw [if_neg (by omega)] at hun
          exact bX10_readsEdge_41 hW ⟨fun _ => must_n hW h17 (fun v => bad _ (2, t.2.1) v f1 f2 hun), fun z => absurd rfl z⟩
theorem vOl_le {T : List Nat} {x : Pz (Nat × Nat × Nat)} : vO (letP T x) ≤ 2 := by
  cases h : letP T x with
  | inl e => exact Nat.zero_le _
  | inr v => exact letP_inr h
theorem nxt_f {T : List Nat} {r : Pz (Nat × Nat)} (h : ∀ s, r ≠ .inr s) : ∃ e, nxt T r = .inl e := by
  cases r with
  | inl e => exact ⟨e, rfl⟩
  | inr s => exact absurd rfl (h s)
theorem drR_eg {I I2 : Nat → Nat → Int32} {D : Dr} {s y t v : Nat} (hD : drR I D) (hs : s ≤ 3) (hy : y ≤ 2) (ht : t ≤ 3) (h26 : I2 209 26 = I 209 26) (h27 : I2 209 27 = I 209 27) (hg : I2 209 28 = nI (max (max D.2.2.2.2.1 (s + 1)) (t + 1))) (hl : I2 209 29 = nI (max D.2.2.2.2.2.1 (y + 1))) (h1 : I2 221 = I 221) (h0 : I2 210 = I 210) : drR (xi I2 210 (57 * 31 + (9 + 12 * s + 4 * y + t)) (nI v)) (edgeD D s y t v) := by
  obtain ⟨a1, a2, a3, a4, a5, a6, a7, a8, a9⟩ := hD
  have p9 : ∀ j, xi I2 210 (57 * 31 + (9 + 12 * s + 4 * y + t)) (nI v) 209 j = I2 209 j := fun j => xi_p (by decide)
  refine ⟨by rw [p9, h26]; exact a1, by rw [p9, h27]; exact a2, by rw [p9, hg]; rfl, by rw [p9, hl]; rfl, fun j hj => by rw [xi_p (by decide), h1]; exact a5 j hj, ?_, fun a ha => ?_, fun a ha => ?_, fun a x b c1 c2 c3 => ?_⟩
  · rw [xi_s (by omega), h0]; exact a6
  · rw [xi_s (by omega), h0]; exact a7 a ha
  · rw [xi_s (by omega), h0]; exact a8 a ha
  · show _ = nI (if a = s ∧ x = y ∧ b = t then v else D.2.2.2.2.2.2.2.2 a x b)
    by_cases e : a = s ∧ x = y ∧ b = t
    · obtain ⟨rfl, rfl, rfl⟩ := e
      rw [xi_e, if_pos ⟨rfl, rfl, rfl⟩]
    · rw [xi_s (by omega), if_neg e, h0]; exact a9 a x b c1 c2 c3
theorem w_readsEdge {T : List Nat} {x : Pz (Nat × Nat × Nat)} {D : Dr} {Q : xHp → Prop} (hW : xLay sh R) (hT : tpR I T) (hM : rM I T x) (hD : drR I D) (hok : drOK D)
    (k : ∀ I' r1 r2 r3 r4, r1 = numP T x 0 3 → r2 = letP T (nxt T r1) → r3 = numP T (nxt T r2) 0 3 → r4 = numP T (nxt T r3) 0 99 → lF I I' → rM I' T (nxt T r4) → (∀ s b y c t d v e u, r1 = .inr (s, b) → r2 = .inr (y, c) → r3 = .inr (t, d) → r4 = .inr (v, e) → nx T e = .inr u → drR I' (edgeD D s y t v)) → Q (sh, I', R)) : CV mX10_readsEdge [.ref 209] (sh, I, R) Q := by
  refine eX10_readsEdge (bX10_readsEdge_0 hW (w_readsState hW hT hM (fun I1 hf1 h19 hM1 hg1 => ?_)))
  have b1 := vO_le (T := T) (x := x) (lo := 0) (hi := 3)
  generalize hr1 : numP T x 0 3 = r1 at hM1 hg1 b1 ⊢
  have hl1 : lF I I1 := ⟨hf1.sub (by simp), fun j hj => h19 j (by omega), pgF.of hf1 (by decide)⟩
  refine w_letS hW (hT.l hl1) hM1 (fun I2 hf2 h29 hM2 hg2 => bX10_readsEdge_101 hW ?_)
  have b2 := vOl_le (T := T) (x := nxt T r1)
  generalize hr2 : letP T (nxt T r1) = r2 at hM2 hg2 b2 ⊢
  have hl2 : lF I I2 := hl1.tr ⟨hf2.sub (by simp), fun j hj => h29 j (by omega), pgF.of hf2 (by decide)⟩
  refine w_readsState hW (hT.l hl2) hM2 (fun I3 hf3 h39 hM3 hg3 => bX10_readsEdge_105 hW ?_)
  have b3 := vO_le (T := T) (x := nxt T r2) (lo := 0) (hi := 3)
  generalize hr3 : numP T (nxt T r2) 0 3 = r3 at hM3 hg3 b3 ⊢
  have hl3 : lF I I3 := hl2.tr ⟨hf3.sub (by simp), fun j hj => h39 j (by omega), pgF.of hf3 (by decide)⟩
  refine w_number hW (hT.l hl3) hM3 (by decide) (by decide) (fun I4 hf4 hM4 => bX10_readsEdge_113 hW ?_)
  generalize hr4 : numP T (nxt T r3) 0 99 = r4 at hM4 ⊢
  have hl4 : lF I I4 := hl3.tr hf4.l
  rcases rM_f hM4 with ⟨e, he, hne⟩ | ⟨t, ht, h0⟩
  · refine ⟨fun _ => k I4 r1 r2 r3 r4 hr1.symm hr2.symm hr3.symm hr4.symm hl4 hM4 (fun s b y c t d v e2 u q1 q2 q3 q4 q5 => ?_), fun z => absurd z hne⟩
    rw [q4] at he
    exact absurd (q5.symm.trans he) (by simp)
  · refine ⟨fun z => absurd h0 z, fun _ => w_weighs hW (by decide) (by omega) (by omega) (by omega) (bX10_readsEdge_133 hW ?_)⟩
    refine k _ r1 r2 r3 r4 hr1.symm hr2.symm hr3.symm hr4.symm (lF_pg hl4 (by omega)) (hM4.eq (fun j _ _ => xi_p (by decide))) (fun s b y c t d v e u q1 q2 q3 q4 q5 => ?_)
    rw [q1] at b1
    rw [q2] at b2
    rw [q3] at b3
    have b1' : s ≤ 3 := b1
    have b2' : y ≤ 2 := b2
    have b3' : t ≤ 3 := b3
    rw [q1, q2, q3, q4]
    have g1 := hg1 _ s b hD.2.2.1 hok.2.2.2.1 q1
    have g2 := hg2 D.2.2.2.2.2.1 y c (by rw [h19 29 (by omega)]; exact hD.2.2.2.1) hok.2.2.2.2.1 q2
    have g3 := hg3 (max D.2.2.2.2.1 (s + 1)) t d (by rw [h29 28 (by omega)]; exact g1) (by have := hok.2.2.2.1; omega) q3
    exact drR_eg hD b1' b2' b3' (by rw [hf4.2 26 (by omega), h39 26 (by omega), h29 26 (by omega), h19 26 (by omega)]) (by rw [hf4.2 27 (by omega), h39 27 (by omega), h29 27 (by omega), h19 27 (by omega)]) (by rw [hf4.2 28 (by omega)]; exact g3) (by rw [hf4.2 29 (by omega), h39 29 (by omega)]; exact g2) (by rw [hf4.1 221 (by decide), hf3 221 (by decide), hf2 221 (by decide), hf1 221 (by decide)]) (by rw [hf4.1 210 (by decide), hf3 210 (by decide), hf2 210 (by decide), hf1 210 (by decide)])
end LINE2
