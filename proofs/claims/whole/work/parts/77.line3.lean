section LINE3
variable {sh : List xSh} {I : Nat → Nat → Int32} {R : Nat → Nat → Option Nat}
theorem nar1 : vp_nar .boolean (nI 1) = nI 1 := by decide
theorem nar0 : vp_nar .boolean (nI 0) = nI 0 := by decide
/-- the line's sign, and the next token -/
theorem w_lineEnd {T : List Nat} {z : Pz (Dr × Nat)} {I2 : Nat → Nat → Int32} {Q : xHp → Prop} (hW : xLay sh R) (hT : tpR I2 T) (hM : rM I2 T (bnd z (fun r => nx T r.2)))
    (k : ∀ I', pF I2 I' → rM I' T (bnd z (fun r => bnd (sgnP (nx T r.2)) (fun i => nx T i))) → Q (sh, I', R)) :
    (nI 0 < I2 209 17 → CI mX10_must [.ref 209, .int (nI 1), .int (nI 2)] (sh, I2, R) (fun w h1 => Ex mX10_readsLine 184 [.ref 209, xU] (.int w :: []) h1 0 0 (xqV Q))) ∧ (¬ nI 0 < I2 209 17 → ((¬ I2 209 21 = nI 3 → CI mX10_must [.ref 209, .int (nI 0), .int (nI 2)] (sh, I2, R) (fun w h1 => Ex mX10_readsLine 184 [.ref 209, xU] (.int w :: []) h1 0 0 (xqV Q))) ∧ (I2 209 21 = nI 3 → CI mX10_must [.ref 209, .int (nI 1), .int (nI 2)] (sh, I2, R) (fun w h1 => Ex mX10_readsLine 184 [.ref 209, xU] (.int w :: []) h1 0 0 (xqV Q))))) := by
  cases z with
  | inl e =>
    have hM' : rB I2 T (.inl e) := hM
    refine ⟨fun _ => must_y hW (fun v => bX10_readsLine_184 hW (w_reads hW hT hM' (fun I3 hf3 hM3 => bX10_readsLine_189 hW (k I3 hf3 hM3)))), fun q => ?_⟩
    rw [hM'.1] at q
    exact absurd (nI_lt (a := 0) hM'.2.1 (by have := hM'.2.2.1; omega)) q
  | inr r =>
    rw [bnd_r] at hM
    cases hx : nx T r.2 with
    | inl e =>
      rw [hx] at hM
      have hM' : rB I2 T (.inl e) := hM
      refine ⟨fun _ => must_y hW (fun v => bX10_readsLine_184 hW (w_reads hW hT hM' (fun I3 hf3 hM3 => bX10_readsLine_189 hW (k I3 hf3 ?_)))), fun q => ?_⟩
      · rw [bnd_r, hx]; exact hM3
      · rw [hM'.1] at q
        exact absurd (nI_lt (a := 0) hM'.2.1 (by have := hM'.2.2.1; omega)) q
    | inr t =>
      rw [hx] at hM
      have hab := rM_a hT hM
      obtain ⟨h17, h21, h20, h19, ok, -, -⟩ := hM
      have hk4 := ok.1
      refine ⟨fun q => ?_, fun _ => ⟨fun q => ?_, fun q => ?_⟩⟩
      · rw [h17] at q; exact absurd q (by decide)
      · rw [h21] at q
        obtain ⟨f1, f2⟩ := flt (T := T) (c := 2) h20 (by decide) (by decide) hab.1
        refine must_n hW h17 (fun v => bX10_readsLine_184 hW (w_reads hW (hT.pF f1) f2 (fun I3 hf3 hM3 => bX10_readsLine_189 hW (k I3 (f1.tr hf3) ?_))))
        rw [bnd_r, hx]
        unfold sgnP
        rw [bnd_r, if_neg (fun y => q (by rw [y]))]
        exact hM3
      · rw [h21] at q
        have hk : t.1 = 3 := (nI_eq (by omega) (by omega)).mp q
        refine must_y hW (fun v => bX10_readsLine_184 hW (w_reads (y := .inr t.2.2) hW hT ⟨h17, h19, hab.2⟩ (fun I3 hf3 hM3 => bX10_readsLine_189 hW (k I3 hf3 ?_))))
        rw [bnd_r, hx]
        unfold sgnP
        rw [bnd_r, if_pos hk]
        exact hM3
theorem w_readsLine {T : List Nat} {t : Nat × Nat × Nat} {D : Dr} {Q : xHp → Prop} (hW : xLay sh R) (hT : tpR I T) (hM : rM I T (.inr t)) (hN : nmR I) (hD : drR I D) (hok : drOK D)
    (k : ∀ I', lF I I' → rM I' T (bnd (lineP T D t) (fun r => nx T r.2)) → (∀ D' i, lineP T D t = .inr (D', i) → drR I' D') → Q (sh, I', R)) : CV mX10_readsLine [.ref 209] (sh, I, R) Q := by
  have hab := rM_a hT hM
  have hM0 := hM
  obtain ⟨h17, h21, h20, h19, ok, -, -⟩ := hM
  -- a fault
  have bad53 : ∀ (I1 : Nat → Nat → Int32) (e : Nat × Nat) (v w : Int32), pF I I1 → rB I1 T (.inl e) → lineP T D t = .inl e → Ex mX10_readsLine 53 [.ref 209, .int w] [.int v] (sh, I1, R) 0 0 (xqV Q) := by
    intro I1 e v w hf hb he
    refine bX10_readsLine_53 hW ⟨fun q => ?_, fun _ => k I1 hf.l (by rw [he]; exact hb) (fun D' i z => absurd (he.symm.trans z) (by simp))⟩
    rw [hb.1] at q; exact absurd q (nI_npos hb.2.1 (by have := hb.2.2.1; omega))
  -- the rest of a line
  have body : ∀ (w : Nat) (D1 : Dr) (I1 : Nat → Nat → Int32), w < 6 → drOK D1 → drR I1 D1 → lF I I1 → rM I1 T (nx T t.2.2) → lineP T D t = bnd (bodyP T D1 w t.2.2) (fun r => bnd (sgnP (nx T r.2)) (fun i => .inr (r.1, i))) → Ex mX10_readsLine 78 [.ref 209, .int (nI w)] [] (sh, I1, R) 0 0 (xqV Q) := by
    intro w D1 I1 hw hok1 hD1 hl1 hM1 hln
    have hT1 := hT.l hl1
    -- where the body has been read
    have fin : ∀ (z : Pz (Dr × Nat)) (I2 : Nat → Nat → Int32), bodyP T D1 w t.2.2 = z → lF I1 I2 → rM I2 T (bnd z (fun r => nx T r.2)) → (∀ D' b u, z = .inr (D', b) → nx T b = .inr u → drR I2 D') → (nI 0 < I2 209 17 → CI mX10_must [.ref 209, .int (nI 1), .int (nI 2)] (sh, I2, R) (fun w h1 => Ex mX10_readsLine 184 [.ref 209, xU] (.int w :: []) h1 0 0 (xqV Q))) ∧ (¬ nI 0 < I2 209 17 → ((¬ I2 209 21 = nI 3 → CI mX10_must [.ref 209, .int (nI 0), .int (nI 2)] (sh, I2, R) (fun w h1 => Ex mX10_readsLine 184 [.ref 209, xU] (.int w :: []) h1 0 0 (xqV Q))) ∧ (I2 209 21 = nI 3 → CI mX10_must [.ref 209, .int (nI 1), .int (nI 2)] (sh, I2, R) (fun w h1 => Ex mX10_readsLine 184 [.ref 209, xU] (.int w :: []) h1 0 0 (xqV Q))))) := by
      intro z I2 hz hl2 hM2 hd2
      rw [hz] at hln
      refine w_lineEnd hW (hT1.l hl2) hM2 (fun I3 hf3 hM3 => k I3 ((hl1.tr hl2).tr hf3.l) ?_ (fun D' i q => ?_))
      · rw [hln, bnd_as]
        cases z with
        | inl e => exact hM3
        | inr r =>
          rw [bnd_r] at hM3 ⊢
          rw [bnd_as]
          exact hM3
      · rw [hln] at q
        obtain ⟨⟨D2, b⟩, q1, q2⟩ := bnd_inr q
        obtain ⟨i2, q3, q4⟩ := bnd_inr q2
        cases q4
        have q5 : ∃ u, nx T b = .inr u := by
          unfold sgnP at q3
          obtain ⟨u, q6, -⟩ := bnd_inr q3
          exact ⟨u, q6⟩
        obtain ⟨u, q5⟩ := q5
        exact (hd2 D2 b u q1 q5).pF hf3
    refine bX10_readsLine_78 hW ⟨fun q0 => ⟨fun q1 => ⟨fun q2 => ⟨fun q5 => ⟨fun q3 => ?_, fun q3 => ?_⟩, fun q5 => ?_⟩, fun q2 => ?_⟩, fun q1 => ?_⟩, fun q0 => ?_⟩
    · have e0 : w ≠ 0 := fun z => q0 (by rw [z]; rfl)
      have e1 : w ≠ 1 := fun z => q1 (by rw [z])
      have e2 : w ≠ 2 := fun z => q2 (by rw [z])
      have e5 : w ≠ 5 := fun z => q5 (by rw [z])
      have e3 : w ≠ 3 := fun z => q3 (by rw [z])
      have e4 : w = 4 := by omega
      subst e4
      refine w_readsMark (w := 4) hW hT1 hM1 hD1 hok1 (Or.inr rfl) (fun I2 hl2 hM2 hd2 => bX10_readsLine_159 hW ?_)
      refine fin _ I2 rfl hl2 ?_ (fun D' b u z hu => ?_)
      · show rM I2 T (bnd (bnd (numP T (nx T t.2.2) 0 3) (fun s => bnd (numP T (nx T s.2) 0 99) (fun v => .inr (markD D1 4 s.1 v.1, v.2)))) (fun r => nx T r.2))
        cases hr : numP T (nx T t.2.2) 0 3 with
        | inl e => rw [hr] at hM2; exact hM2
        | inr s =>
          rw [hr] at hM2
          rw [bnd_r]
          have hM2' : rM I2 T (nxt T (numP T (nx T s.2) 0 99)) := hM2
          cases hr2 : numP T (nx T s.2) 0 99 with
          | inl e => rw [hr2] at hM2'; exact hM2'
          | inr v => rw [hr2] at hM2'; exact hM2'
      · have z2 : bnd (numP T (nx T t.2.2) 0 3) (fun s => bnd (numP T (nx T s.2) 0 99) (fun v => .inr (markD D1 4 s.1 v.1, v.2))) = .inr (D', b) := z
        obtain ⟨s, z3, z4⟩ := bnd_inr z2
        obtain ⟨v, z5, z6⟩ := bnd_inr z4
        cases z6
        exact hd2 s.1 s.2 v.1 v.2 u z3 (by rw [z3]; exact z5) hu
    · have e3 : w = 3 := (nI_eq (by omega) (by omega)).mp q3
      subst e3
      refine w_readsMark (w := 3) hW hT1 hM1 hD1 hok1 (Or.inl rfl) (fun I2 hl2 hM2 hd2 => bX10_readsLine_159 hW ?_)
      refine fin _ I2 rfl hl2 ?_ (fun D' b u z hu => ?_)
      · show rM I2 T (bnd (bnd (numP T (nx T t.2.2) 0 3) (fun s => bnd (numP T (nx T s.2) 0 99) (fun v => .inr (markD D1 3 s.1 v.1, v.2)))) (fun r => nx T r.2))
        cases hr : numP T (nx T t.2.2) 0 3 with
        | inl e => rw [hr] at hM2; exact hM2
        | inr s =>
          rw [hr] at hM2
          rw [bnd_r]
          have hM2' : rM I2 T (nxt T (numP T (nx T s.2) 0 99)) := hM2
          cases hr2 : numP T (nx T s.2) 0 99 with
          | inl e => rw [hr2] at hM2'; exact hM2'
          | inr v => rw [hr2] at hM2'; exact hM2'
      · have z2 : bnd (numP T (nx T t.2.2) 0 3) (fun s => bnd (numP T (nx T s.2) 0 99) (fun v => .inr (markD D1 3 s.1 v.1, v.2))) = .inr (D', b) := z
        obtain ⟨s, z3, z4⟩ := bnd_inr z2
        obtain ⟨v, z5, z6⟩ := bnd_inr z4
        cases z6
        exact hd2 s.1 s.2 v.1 v.2 u z3 (by rw [z3]; exact z5) hu
    · have e5 : w = 5 := (nI_eq (by omega) (by omega)).mp q5
      subst e5
      refine w_readsEdge hW hT1 hM1 hD1 hok1 (fun I2 r1 r2 r3 r4 h1 h2 h3 h4 hl2 hM2 hd2 => bX10_readsLine_142 hW ?_)
      have hbod : bodyP T D1 5 t.2.2 = bnd (numP T (nx T t.2.2) 0 3) (fun s => bnd (letP T (nx T s.2)) (fun x => bnd (numP T (nx T x.2) 0 3) (fun t => bnd (numP T (nx T t.2) 0 99) (fun v => .inr (edgeD D1 s.1 x.1 t.1 v.1, v.2))))) := rfl
      rw [← h1] at hbod
      refine fin _ I2 hbod hl2 ?_ (fun D' b u z hu => ?_)
      · cases r1 with
        | inl e => rw [h4, h3, h2] at hM2; exact hM2
        | inr s =>
          rw [bnd_r]
          have h2' : r2 = letP T (nx T s.2) := h2
          rw [← h2']
          cases r2 with
          | inl e => rw [h4, h3] at hM2; exact hM2
          | inr y =>
            rw [bnd_r]
            have h3' : r3 = numP T (nx T y.2) 0 3 := h3
            rw [← h3']
            cases r3 with
            | inl e => rw [h4] at hM2; exact hM2
            | inr tt =>
              rw [bnd_r]
              have h4' : r4 = numP T (nx T tt.2) 0 99 := h4
              rw [← h4']
              cases r4 with
              | inl e => exact hM2
              | inr v => exact hM2
      · obtain ⟨s, z1, z⟩ := bnd_inr z
        obtain ⟨y, z2, z⟩ := bnd_inr z
        obtain ⟨tt, z3, z⟩ := bnd_inr z
        obtain ⟨v, z4, z⟩ := bnd_inr z
        cases z
        have y2 : r2 = .inr y := by rw [h2, z1]; exact z2
        have y3 : r3 = .inr tt := by rw [h3, y2]; exact z3
        have y4 : r4 = .inr v := by rw [h4, y3]; exact z4
        exact hd2 s.1 s.2 y.1 y.2 tt.1 tt.2 v.1 v.2 u z1 y2 y3 y4 hu
    · have e2 : w = 2 := (nI_eq (by omega) (by omega)).mp q2
      subst e2
      refine w_at hW (bX10_readsLine_123 hW (w_number hW hT1 hM1 (by decide) (by decide) (fun I2 hf2 hM2 => bX10_readsLine_129 hW ⟨vp_nI (by omega) (by omega), ?_⟩)))
      rw [nclamp (by omega)]
      have := fin (bnd (numP T (nx T t.2.2) 0 4) (fun r => .inr ((D1.1, D1.2.1, D1.2.2.1, r.1, D1.2.2.2.2), r.2))) (xi I2 210 (57 * 31 + 0) (nI (vO (numP T (nx T t.2.2) 0 4)))) rfl (lF_pg hf2.l (by omega)) ?_ (fun D' b u z hu => ?_)
      · rw [xi_p (by decide), xi_p (by decide)] at this
        exact this
      · rw [bnd_as]
        refine rM.eq (I := I2) ?_ (fun j _ _ => xi_p (by decide))
        cases hr : numP T (nx T t.2.2) 0 4 with
        | inl e => rw [hr] at hM2; exact hM2
        | inr v => rw [hr] at hM2; exact hM2
      · obtain ⟨v, z1, z2⟩ := bnd_inr z
        cases z2
        rw [z1]
        obtain ⟨a1, a2, a3, a4, a5, a6, a7, a8, a9⟩ := hD1.pF hf2
        exact ⟨by rw [xi_p (by decide)]; exact a1, by rw [xi_p (by decide)]; exact a2, by rw [xi_p (by decide)]; exact a3, by rw [xi_p (by decide)]; exact a4, fun j hj => by rw [xi_p (by decide)]; exact a5 j hj, xi_e, fun s hs => by rw [xi_s (by omega)]; exact a7 s hs, fun s hs => by rw [xi_s (by omega)]; exact a8 s hs, fun s x t h1 h2 h3 => by rw [xi_s (by omega)]; exact a9 s x t h1 h2 h3⟩
    · have e1 : w = 1 := (nI_eq (by omega) (by omega)).mp q1
      subst e1
      refine w_number hW hT1 hM1 (by decide) (by decide) (fun I2 hf2 hM2 => bX10_readsLine_101 hW ?_)
      have := fin (bnd (numP T (nx T t.2.2) 1 3) (fun r => .inr ((D1.1, D1.2.1, r.1, D1.2.2.2), r.2))) (xi I2 209 27 (nI (vO (numP T (nx T t.2.2) 1 3)))) rfl (hf2.l.xi (by omega) (by omega)) ?_ (fun D' b u z hu => ?_)
      · rw [xi_s (by decide), xi_s (by decide)] at this
        exact this
      · rw [bnd_as]
        refine rM.eq (I := I2) ?_ (fun j _ _ => xi_s (by omega))
        cases hr : numP T (nx T t.2.2) 1 3 with
        | inl e => rw [hr] at hM2; exact hM2
        | inr v => rw [hr] at hM2; exact hM2
      · obtain ⟨v, z1, z2⟩ := bnd_inr z
        cases z2
        rw [z1]
        obtain ⟨a1, a2, a3, a4, a5, a6, a7, a8, a9⟩ := hD1.pF hf2
        exact ⟨by rw [xi_s (by decide)]; exact a1, xi_e, by rw [xi_s (by decide)]; exact a3, by rw [xi_s (by decide)]; exact a4, fun j hj => by rw [xi_p (by decide)]; exact a5 j hj, by rw [xi_p (by decide)]; exact a6, fun s hs => by rw [xi_p (by decide)]; exact a7 s hs, fun s hs => by rw [xi_p (by decide)]; exact a8 s hs, fun s x t h1 h2 h3 => by rw [xi_p (by decide)]; exact a9 s x t h1 h2 h3⟩
    · have e0 : w = 0 := (nI_eq (a := w) (b := 0) (by omega) (by omega)).mp q0
      subst e0
      refine w_readsPrime hW hT1 hM1 hD1 (fun I2 hl2 hM2 hd2 => bX10_readsLine_86 hW ?_)
      refine fin (bnd (priP T (nx T t.2.2)) (fun r => .inr ((D1.1, r.1, D1.2.2), r.2))) I2 rfl hl2 ?_ (fun D' b u z hu => ?_)
      · rw [bnd_as]
        cases hr : priP T (nx T t.2.2) with
        | inl e => rw [hr] at hM2; exact hM2
        | inr v => rw [hr] at hM2; exact hM2
      · obtain ⟨v, z1, z2⟩ := bnd_inr z
        cases z2
        exact hd2 v.1 v.2 z1
  refine eX10_readsLine (bX10_readsLine_0 hW (w_nameNow hW hT hM0 hN (fun w h1 hw => ?_) (fun hno => ?_)))
  · have hw6 := nmW_lt hw
    have hun : lineP T D t = if w ≤ 2 ∧ D.1 w = true then .inl (4, t.2.1) else bnd (bodyP T (if w ≤ 2 then D.tell w else D) w t.2.2) (fun r => bnd (sgnP (nx T r.2)) (fun i => .inr (r.1, i))) := by
      unfold lineP
      rw [if_pos h1, hw]
    refine bX10_readsLine_4 hW ⟨fun z => absurd z (nI_m4 (by omega)), fun _ => must_y hW (fun v => bX10_readsLine_21 hW ⟨fun z => ?_, fun _ => ⟨fun z => ?_, fun z => ?_⟩⟩)⟩
    · rw [h17] at z; exact absurd z (by decide)
    · have h2 := (nI_ltI (by omega) (by omega)).mp z
      rw [if_neg (by omega), if_neg (by omega)] at hun
      refine must_y hW (fun v => bX10_readsLine_53 hW ⟨fun _ => ⟨fun _ => ?_, fun y => absurd z y⟩, fun y => ?_⟩)
      · exact w_reads (y := .inr t.2.2) hW hT ⟨h17, h19, hab.2⟩ (fun I1 hf1 hM1 => body w D I1 hw6 hok (hD.pF hf1) hf1.l hM1 hun)
      · rw [h17] at y; exact absurd (by decide) y
    · have h2 : w ≤ 2 := by
        rcases Nat.lt_or_ge 2 w with y | y
        · exact absurd (nI_lt y (by omega)) z
        · exact y
      refine ⟨vp_nI (by omega) (by omega), ?_⟩
      rw [nclamp (by omega), hD.2.2.2.2.1 w (by omega)]
      rw [if_pos h2] at hun
      cases ht : D.1 w with
      | true =>
        rw [if_pos ⟨h2, ht⟩] at hun
        obtain ⟨f1, f2⟩ := flt (T := T) (c := 4) h20 (by decide) (by decide) hab.1
        exact ⟨fun _ => must_n hW h17 (fun v => bad53 _ (4, t.2.1) v _ f1 f2 hun), fun y => absurd y (by decide)⟩
      | false =>
        rw [if_neg (fun y => by rw [ht] at y; exact absurd y.2 (by decide))] at hun
        refine ⟨fun y => absurd rfl y, fun _ => must_y hW (fun v => bX10_readsLine_53 hW ⟨fun _ => ⟨fun y => absurd y z, fun _ => ⟨vp_nI (by omega) (by omega), ?_⟩⟩, fun y => ?_⟩)⟩
        · rw [nclamp (by omega), nar1]
          have hl : lF I (xi I 221 w (nI 1)) := ⟨Fr.rf.xi (by simp), fun j _ => xi_p (by decide), pgF.of (Fr.rf.xi (S := [221]) (by simp)) (by decide)⟩
          refine w_reads (y := .inr t.2.2) hW (hT.l hl) ⟨by rw [xi_p (by decide)]; exact h17, by rw [xi_p (by decide)]; exact h19, hab.2⟩ (fun I1 hf1 hM1 => body w (D.tell w) I1 hw6 (tell_ok hok) ?_ (hl.tr hf1.l) hM1 hun)
          refine drR.pF ?_ hf1
          obtain ⟨a1, a2, a3, a4, a5, a6, a7, a8, a9⟩ := hD
          refine ⟨by rw [xi_p (by decide)]; exact a1, by rw [xi_p (by decide)]; exact a2, by rw [xi_p (by decide)]; exact a3, by rw [xi_p (by decide)]; exact a4, fun j hj => ?_, by rw [xi_p (by decide)]; exact a6, fun s hs => by rw [xi_p (by decide)]; exact a7 s hs, fun s hs => by rw [xi_p (by decide)]; exact a8 s hs, fun s x t h1 h2 h3 => by rw [xi_p (by decide)]; exact a9 s x t h1 h2 h3⟩
          show _ = bI (if j = w then true else D.1 j)
          by_cases e : j = w
          · subst e; rw [xi_e, if_pos rfl]; rfl
          · rw [xi_s e, if_neg e]; exact a5 j hj
        · rw [h17] at y; exact absurd (by decide) y
  · have hun : lineP T D t = .inl (2, t.2.1) := by
      unfold lineP
      split
      · rename_i h1; rw [hno h1]
      · rfl
    obtain ⟨f1, f2⟩ := flt (T := T) (c := 2) h20 (by decide) (by decide) hab.1
    refine bX10_readsLine_4 hW ⟨fun _ => must_n hW h17 (fun v => bX10_readsLine_21 hW ⟨fun _ => must_y hW (fun v => bad53 _ (2, t.2.1) v _ f1 f2 hun), fun z => ?_⟩), fun z => absurd rfl z⟩
    rw [f2.1] at z; exact absurd (show (0 : Int32) < nI 2 by decide) z
end LINE3
