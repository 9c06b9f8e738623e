section CFORG
variable {sh : List xSh} {I : Nat → Nat → Int32} {R : Nat → Nat → Option Nat}
/-- nothing beyond the greatest state -/
def drZ (D : Dr) : Prop := ∀ s, D.2.2.2.2.1 ≤ s → D.2.2.2.2.2.2.1 s = 0 ∧ D.2.2.2.2.2.2.2.1 s = 0 ∧ ∀ x t, D.2.2.2.2.2.2.2.2 s x t = 0 ∧ D.2.2.2.2.2.2.2.2 t x s = 0
theorem dr0_Z : drZ dr0 := fun _ _ => ⟨rfl, rfl, fun _ _ => ⟨rfl, rfl⟩⟩
theorem markD_Z {D : Dr} {w s v : Nat} (h : drZ D) : drZ (markD D w s v) := fun i hi => by
  have hi2 : max D.2.2.2.2.1 (s + 1) ≤ i := hi
  obtain ⟨a, b, c⟩ := h i (by omega)
  refine ⟨?_, ?_, c⟩
  · show (if w = 3 then (fun i => if i = s then v else D.2.2.2.2.2.2.1 i) else D.2.2.2.2.2.2.1) i = 0
    split
    · show (if i = s then v else _) = 0
      rw [if_neg (by omega)]; exact a
    · exact a
  · show (if w = 3 then D.2.2.2.2.2.2.2.1 else (fun i => if i = s then v else D.2.2.2.2.2.2.2.1 i)) i = 0
    split
    · exact b
    · show (if i = s then v else _) = 0
      rw [if_neg (by omega)]; exact b
theorem edgeD_Z {D : Dr} {s x t v : Nat} (h : drZ D) : drZ (edgeD D s x t v) := fun i hi => by
  have hi2 : max (max D.2.2.2.2.1 (s + 1)) (t + 1) ≤ i := hi
  obtain ⟨a, b, c⟩ := h i (by omega)
  refine ⟨a, b, fun y u => ⟨?_, ?_⟩⟩
  · show (if i = s ∧ y = x ∧ u = t then v else _) = 0
    rw [if_neg (by omega)]; exact (c y u).1
  · show (if u = s ∧ y = x ∧ i = t then v else _) = 0
    rw [if_neg (by omega)]; exact (c y u).2
theorem bodyP_Z {T : List Nat} {D D' : Dr} {w i b : Nat} (hD : drZ D) (h : bodyP T D w i = .inr (D', b)) : drZ D' := by
  unfold bodyP at h
  split at h
  · obtain ⟨r, h1, h2⟩ := bnd_inr h; cases h2; exact hD
  split at h
  · obtain ⟨r, h1, h2⟩ := bnd_inr h; cases h2; exact hD
  split at h
  · obtain ⟨r, h1, h2⟩ := bnd_inr h; cases h2; exact hD
  split at h
  · obtain ⟨r1, h1, h2⟩ := bnd_inr h
    obtain ⟨r2, h3, h4⟩ := bnd_inr h2
    obtain ⟨r3, h5, h6⟩ := bnd_inr h4
    obtain ⟨r4, h7, h8⟩ := bnd_inr h6
    cases h8; exact edgeD_Z hD
  · obtain ⟨r1, h1, h2⟩ := bnd_inr h
    obtain ⟨r2, h3, h4⟩ := bnd_inr h2
    cases h4; exact markD_Z hD
theorem lineP_Z {T : List Nat} {D D' : Dr} {t : Nat × Nat × Nat} {i : Nat} (hD : drZ D) (h : lineP T D t = .inr (D', i)) : drZ D' := by
  unfold lineP at h
  split at h
  · split at h
    · cases h
    · split at h
      · cases h
      · obtain ⟨r, h1, h2⟩ := bnd_inr h
        obtain ⟨i2, h3, h4⟩ := bnd_inr h2
        cases h4
        refine bodyP_Z (D' := r.1) (b := r.2) ?_ h1
        split
        · exact hD
        · exact hD
  · cases h
def eF (I I' : Nat → Nat → Int32) : Prop := Fr [2, 4, 5, 6, 7, 8] I I' ∧ I' 2 1 = I 2 1 ∧ I' 5 1 = nI 4
theorem eF.d {I I1 I2 : Nat → Nat → Int32} (h : eF I I1) (h2 : dF I1 I2) : eF I I2 := ⟨h.1.tr (h2.1.sub (by simp)), h2.2.trans h.2.1, by rw [h2.1.at 5 1 (by decide)]; exact h.2.2⟩
theorem cT.eF {I I' : Nat → Nat → Int32} {T : List Nat} (h : cT I T) (hf : eF I I') : cT I' T := ⟨by rw [hf.2.1]; exact h.1, h.2.1, fun j hj => by rw [hf.1.at 3 j (by decide)]; exact h.2.2.1 j hj, h.2.2.2⟩
theorem k_forget {T : List Nat} {Q : xHp → Prop} (hW : xLay sh R) (h51 : I 5 1 = nI 4) (k : ∀ I', eF I I' → cP I' T (.inr 0) → cD I' dr0 → Q (sh, I', R)) : CV mX4_forget [.ref 2] (sh, I, R) Q := by
  have h5 : xMach sh R 5 4 := hW.2.2.2.2.2.2.2.1
  refine eX4_forget (bX4_forget_0 hW (k_become (L := 3) hW h5 (by omega) (by omega) (by omega) (by rw [xi_p (by decide), xi_p (by decide), xi_p (by decide)]; exact h51) (fun I1 f1 c1 => bX4_forget_23 hW ?_)))
  have g2 : ∀ j, I1 2 j = xi (xi (xi I 2 2 (nI 0)) 2 13 (nI 0)) 2 14 (nI 0) 2 j := fun j => f1.at 2 j (by simp)
  have f2 : Fr [2, 5, 6, 7, 8] I I1 := (((Fr.rf.xi (by simp)).xi (by simp)).xi (by simp)).tr (f1.sub (by simp))
  have loop : ∀ m j (J : Nat → Nat → Int32), j + m = 3 → Fr [4] I1 J → (∀ i, i < j → J 4 i = nI 0) → Ex mX4_forget 25 [.ref 2, .int (nI j)] [] (sh, J, R) 0 0 (xqV Q) := by
    intro m
    induction m with
    | zero =>
      intro j J hj hf hz
      obtain rfl : j = 3 := by omega
      refine bX4_forget_25 hW ⟨fun _ => ?_, fun z => absurd (by decide) z⟩
      generalize hJ : xi (xi (xi (xi (xi J 2 8 (-1)) 2 9 (-1)) 2 10 (nI 7)) 2 11 (nI 2)) 2 12 (nI 0) = J2
      have gr : ∀ c, c ≠ 2 → J2 c = J c := fun c hc => by funext i; rw [← hJ, xi_p hc, xi_p hc, xi_p hc, xi_p hc, xi_p hc]
      have gs : ∀ i, i ∉ [8, 9, 10, 11, 12] → J2 2 i = J 2 i := fun i hi => by
        simp at hi
        rw [← hJ, xi_s hi.2.2.2.2, xi_s hi.2.2.2.1, xi_s hi.2.2.1, xi_s hi.2.1, xi_s hi.1]
      have gJ : ∀ c, c ≠ 4 → J c = I1 c := fun c hc => hf c (by simpa using hc)
      refine k J2 ⟨?_, ?_, ?_⟩ ⟨?_, ?_, Nat.zero_le _⟩ ⟨?_, ?_, ?_, ?_, ?_, fun i hi => ?_, fun s hs => ?_, fun s hs => ?_, fun s x t hs hx ht => ?_⟩
      · intro c hc
        simp at hc
        rw [gr c (by omega), gJ c (by omega)]
        exact f2 c (by simp; omega)
      · rw [gs 1 (by decide), gJ 2 (by decide), g2, xi_s (by decide), xi_s (by decide), xi_s (by decide)]
      · rw [gr 5 (by decide), gJ 5 (by decide)]; exact c1.2.1
      · rw [gs 13 (by decide), gJ 2 (by decide), g2, xi_s (by decide), xi_e]
      · rw [gs 2 (by decide), gJ 2 (by decide), g2, xi_s (by decide), xi_s (by decide), xi_e]
      · rw [← hJ, xi_s (by decide), xi_s (by decide), xi_s (by decide), xi_s (by decide), xi_e]; decide
      · rw [← hJ, xi_s (by decide), xi_s (by decide), xi_s (by decide), xi_e]; decide
      · rw [← hJ, xi_s (by decide), xi_s (by decide), xi_e]; rfl
      · rw [← hJ, xi_s (by decide), xi_e]; rfl
      · rw [← hJ, xi_e]; rfl
      · rw [gr 4 (by decide), hz i hi]; rfl
      · rw [gr 6 (by decide), gJ 6 (by decide)]
        have := c1.2.2.2.1 s hs
        rw [show I1 6 s = _ from this]; rfl
      · rw [gr 7 (by decide), gJ 7 (by decide)]
        have := c1.2.2.2.2.1 s hs
        rw [show I1 7 s = _ from this]; rfl
      · rw [gr 8 (by decide), gJ 8 (by decide)]
        have := c1.2.2.2.2.2 s x t hs hx ht
        rw [show I1 8 _ = _ from this, if_neg (fun q => Nat.not_lt_zero _ q.1)]; rfl
    | succ m ih =>
      intro j J hj hf hz
      refine bX4_forget_25 hW ⟨fun z => absurd z (nI_ge (by omega) (by omega)), fun _ => ⟨vp_nI (by omega) (by omega), ?_⟩⟩
      rw [nclamp (a := j) (by omega), nar0, show nI j + nI 1 = nI (j + 1) from nI_add j 1]
      refine ih (j + 1) _ (by omega) (hf.xi (by simp)) (fun i hi => ?_)
      by_cases e : i = j
      · subst e; exact xi_e
      · rw [xi_s e]; exact hz i (by omega)
  exact loop 3 0 I1 (by omega) Fr.rf (fun i hi => absurd hi (Nat.not_lt_zero i))
theorem k_readAll {T : List Nat} {Q : Int32 → xHp → Prop} (hW : xLay sh R) (hT : cT I T) (h51 : I 5 1 = nI 4)
    (ke : ∀ I' e v, textP T = .inl e → eF I I' → cE I' e → Q v (sh, I', R))
    (k : ∀ I' D n, textP T = .inr (D, n) → eF I I' → I' 2 13 = nI 0 → cD I' D → drZ D → Q (nI n) (sh, I', R)) : CI mX4_readAll [.ref 2] (sh, I, R) Q := by
  have hT2 := hT.2.1
  refine eX4_readAll (bX4_readAll_0 hW (k_forget (T := T) hW h51 (fun I0 e0 hP0 hD0 => bX4_readAll_4 hW ?_)))
  -- behind a fault
  have fin : ∀ v1 (J : Nat → Nat → Int32) e, eF I J → cE J e → textP T = .inl e → ((J 2 12 ≤ J 2 8 → CV mX4_refuse [.ref 2, .int (nI 5), .int (J 2 1)] (sh, J, R) (fun h1 => Ex mX4_readAll 75 [xU, .int v1] [] h1 0 0 (xqI Q))) ∧ (¬ J 2 12 ≤ J 2 8 → (J 2 9 < J 2 11 → Q v1 (sh, J, R)) ∧ (¬ J 2 9 < J 2 11 → CV mX4_refuse [.ref 2, .int (nI 5), .int (J 2 1)] (sh, J, R) (fun h1 => Ex mX4_readAll 75 [xU, .int v1] [] h1 0 0 (xqI Q))))) := by
    intro v1 J e hf hE ht
    have hq := ke J e v1 ht hf hE
    exact ⟨fun _ => k_refuseF hW hE (bX4_readAll_75 hW hq), fun _ => ⟨fun _ => hq, fun _ => k_refuseF hW hE (bX4_readAll_75 hW hq)⟩⟩
  have flt : ∀ n (J : Nat → Nat → Int32) e, n ≤ 150 → eF I J → cE J e → textP T = .inl e → Ex mX4_readAll 6 [.ref 2, .int (nI n)] [] (sh, J, R) 0 0 (xqI Q) := by
    intro n J e hn hf hE ht
    refine bX4_readAll_6 hW ⟨fun z => absurd z (nI_ge (by omega) (by omega)), fun _ => k_next (y := .inl e) hW (hT.eF hf) hE (fun J2 f2 hK2 => bX4_readAll_17 hW ⟨fun _ => fin _ J2 e (hf.d f2.d) hK2 ht, fun z => absurd z (cE.ne (I := J2) (e := e) hK2)⟩)⟩
  have loop : ∀ m D i n (J : Nat → Nat → Int32), T.length < i + m → 2 * n ≤ i → i ≤ T.length → eF I J → cP J T (.inr i) → cD J D → drOK D → drZ D → textP T = bnd (linesP T m D i n) (fun r => if r.1.2.2.2.2.1 ≤ r.1.2.2.2.1 ∧ r.1.2.2.2.2.2.1 ≤ r.1.2.2.1 then .inr r else .inl (5, T.length)) → Ex mX4_readAll 6 [.ref 2, .int (nI n)] [] (sh, J, R) 0 0 (xqI Q) := by
    intro m
    induction m with
    | zero => intro D i n J hm hn hi; omega
    | succ m ih =>
      intro D i n J hm hn hi hf hP hD hok hZ ht
      unfold linesP at ht
      refine bX4_readAll_6 hW ⟨fun z => absurd z (nI_ge (by omega) (by omega)), fun _ => k_next hW (hT.eF hf) hP (fun J2 f2 hK2 => bX4_readAll_17 hW ?_)⟩
      have hf2 := hf.d f2.d
      have hD2 := hD.tF f2
      rw [bnd_r] at hK2
      cases hx : nx T i with
      | inl e =>
        rw [hx] at hK2 ht
        exact ⟨fun _ => fin _ J2 e hf2 hK2 ht, fun z => absurd z (cE.ne (I := J2) (e := e) hK2)⟩
      | inr t =>
        rw [hx, bnd_r] at ht
        rw [hx] at hK2
        obtain ⟨hokt, hia⟩ := nx_ok (k := t.1) (a := t.2.1) (b := t.2.2) hi (by rw [hx])
        refine ⟨fun z => absurd hK2.1 z, fun _ => ⟨fun z => ?_, fun z => ?_⟩⟩
        · have ht0 : t.1 ≠ 0 := fun q => z (by rw [hK2.2.1, q]; rfl)
          rw [if_neg ht0] at ht
          refine k_readLine hW (hT.eF hf2) hf2.2.2 hK2 hD2 hok (fun J3 d3 hP3 hD3 => bX4_readAll_38 hW ?_)
          rw [show nI n + nI 1 = nI (n + 1) from nI_add n 1]
          cases hl : lineP T D t with
          | inl e =>
            rw [hl] at hP3 ht
            exact flt (n + 1) J3 e (by omega) (hf2.d d3) hP3 ht
          | inr r =>
            rw [hl, bnd_r] at hP3 ht
            obtain ⟨D2, i2⟩ := r
            have hlo := lineP_ok (k := t.1) (a := t.2.1) (b := t.2.2) hokt.2.2.1 hok hl
            have hab := hokt.2.2.2.2.1 ht0
            exact ih D2 i2 (n + 1) J3 (by omega) (by omega) hlo.2.2 (hf2.d d3) hP3 (hD3 _ hl) hlo.1 (lineP_Z hZ hl) ht
        · have ht0 : t.1 = 0 := (nI_eq (b := 0) (by have := hokt.1; omega) (by omega)).mp (hK2.2.1.symm.trans z)
          rw [if_pos ht0, bnd_r] at ht
          obtain ⟨a1, a2, a3, a4, a5, -⟩ := id hD2
          have g4 := hok.2.2.2.1
          have l3 := hok.2.2.2.2.1
          have n4 := hok.2.2.1
          have m3 := hok.2.1.2
          have bad : ¬ (D.2.2.2.2.1 ≤ D.2.2.2.1 ∧ D.2.2.2.2.2.1 ≤ D.2.2.1) → CV mX4_refuse [.ref 2, .int (nI 5), .int (J2 2 1)] (sh, J2, R) (fun h1 => Ex mX4_readAll 75 [xU, .int (nI n)] [] h1 0 0 (xqI Q)) := fun h => by
            rw [if_neg h] at ht
            rw [(hT.eF hf2).1]
            exact k_refuse hW hK2.1 (by omega) (by omega) hT2 (fun J3 f3 _ c3 => bX4_readAll_75 hW (ke J3 _ _ ht (hf2.d f3.d) c3))
          have c1 : J2 2 12 ≤ J2 2 8 ↔ ¬ D.2.2.2.2.1 ≤ D.2.2.2.1 := by
            rw [a1, a5, Int32.le_iff_toInt_le, pI_toInt (by omega), nI_toInt (by omega)]; omega
          have c2 : J2 2 9 < J2 2 11 ↔ D.2.2.2.2.2.1 ≤ D.2.2.1 := by
            rw [a2, a4, Int32.lt_iff_toInt_lt, pI_toInt (by omega), nI_toInt (by omega)]; omega
          refine ⟨fun y => bad (fun q => c1.mp y q.1), fun y => ⟨fun w => ?_, fun w => bad (fun q => w (c2.mpr q.2))⟩⟩
          have q1 : D.2.2.2.2.1 ≤ D.2.2.2.1 := by
            rcases Nat.lt_or_ge D.2.2.2.1 D.2.2.2.2.1 with q | q
            · exact absurd (c1.mpr (by omega)) y
            · exact q
          rw [if_pos ⟨q1, c2.mp w⟩] at ht
          exact k J2 D n ht hf2 hK2.1 hD2 hZ
  exact loop (T.length + 1) dr0 0 0 I0 (by omega) (by omega) (Nat.zero_le _) e0 hP0 hD0 dr0_ok dr0_Z rfl
end CFORG
