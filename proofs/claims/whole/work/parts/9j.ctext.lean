section CTXT
variable {sh : List xSh} {I : Nat → Nat → Int32} {R : Nat → Nat → Option Nat}
theorem clR.cT {σ : St} (h : clR sh I R σ) : cT I σ.tape := ⟨h.tape.1, h.ok.tape.1, h.tape.2, fun j => by
  rcases Nat.lt_or_ge j σ.tape.length with q | q
  · exact h.ok.tape.2 _ (gd_mem q)
  · rw [List.getD_eq_getElem?_getD, List.getElem?_eq_none q]; decide⟩
/-- a text refused -/
theorem clR.textF {I' : Nat → Nat → Int32} {σ : St} {v : Int32} (h : clR sh I R σ) (e : ∀ c, c ∉ [0, 2, 4, 5, 6, 7, 8] → I' c = I c) (e0 : ∀ j, j ≠ 14 → I' 0 j = I 0 j) (e1 : I' 2 1 = nI 0) (e5 : I' 5 1 = nI 4) (e14 : I' 0 14 = v) : clR sh I' R ((σ.set_tape []).set_fault v) := by
  have hk := h.ok
  have e' : ∀ c, (c ≠ 0 ∧ c ≠ 2 ∧ c ≠ 4 ∧ c ≠ 5 ∧ c ≠ 6 ∧ c ≠ 7 ∧ c ≠ 8) → I' c = I c := fun c hc => e c (by simp; omega)
  refine ⟨⟨hk.p, hk.L1, hk.L3, hk.t, hk.kept, hk.shf, hk.word, ⟨Nat.zero_le _, fun x hx => absurd hx List.not_mem_nil⟩⟩, h.lay, h.ht, h.ctx.eq (e' 1 (by omega)), ⟨fun q hq => ?_, by rw [e' 169 (by omega)]; exact h.mc.2⟩, h.st.eq (fun c h1 h2 => e' c (by omega)), fun k hk => (h.kept k hk).eq (by rw [e' 21 (by omega)]) (fun c h1 h2 => e' c (by omega)), h.pl.eq rG.rf (fun q hq => e' q (by omega)), fun j hj => (h.shf j hj).eq (e' _ (by omega)) (e' _ (by omega)) (fun _ => rfl) (fun i q A hi eq hA => ?_), ⟨by rw [e0 12 (by decide)]; exact h.word.1, by rw [e0 13 (by decide)]; exact h.word.2⟩, ⟨e1, fun j hj => absurd hj (Nat.not_lt_zero j)⟩, e14, ?_⟩
  · by_cases q5 : q = 5
    · subst q5; exact e5
    · have hq2 : q ≠ 0 ∧ q ≠ 2 ∧ q ≠ 4 ∧ q ≠ 5 ∧ q ≠ 6 ∧ q ≠ 7 ∧ q ≠ 8 := by revert hq; simp; omega
      rw [e' q hq2]; exact h.mc.1 q hq
  · have := (h.pl.1 j i q hj hi eq).1
    exact hA.eq (e' _ (by omega)) (e' _ (by omega)) (e' _ (by omega)) (e' _ (by omega))
  · rcases h.ls with z | ⟨z1, nz, z0, z2, z3⟩
    · exact Or.inl (by rw [e0 11 (by decide)]; exact z)
    · exact Or.inr ⟨by rw [e0 11 (by decide)]; exact z1, nz, z0, z2.eq (e' _ (by omega)) (e' _ (by omega)) (e' _ (by omega)) (e' _ (by omega)), fun j hj => by rw [e' 177 (by omega)]; exact z3 j hj⟩
/-- a text taken -/
theorem clR.textY {I' : Nat → Nat → Int32} {σ : St} {D : Dr} (h : clR sh I R σ) (hok : drOK D) (e : ∀ c, c ∉ [0, 1, 2, 4, 5, 6, 7, 8, 9, 11, 12, 13, 14, 15, 21, 200, 203, 206] → I' c = I c) (hc : cCtx I' D.2.1 D.2.2.1) (e5 : I' 5 1 = nI 4) (hA : cM I' D.2.2.1 12 4 (txM D)) (e95 : I' 9 5 = nI 0) (e96 : I' 9 6 = nI 1) (e97 : I' 9 7 = nI 0) (e98 : I' 9 8 = nI 0) (e11 : I' 11 0 = nI 0) (e21 : ∀ k, k < 2 → I' 21 k = nI 0) (es : ∀ k, k < 3 → I' (200 + 3 * k) 4 = -1) (e12 : I' 0 12 = nI 0) (e13 : I' 0 13 = nI 0) (e14 : I' 0 14 = nI 0) (e011 : I' 0 11 = nI 0) (e1 : I' 2 1 = nI 0) : clR sh I' R (txS D) := by
  have e' : ∀ c, (c = 3 ∨ c = 10 ∨ 16 ≤ c) → c ≠ 21 → c ≠ 200 → c ≠ 203 → c ≠ 206 → I' c = I c := fun c h1 h2 h3 h4 h5 => e c (by simp; omega)
  refine ⟨txS_ok hok, h.lay, h.ht, hc, ⟨fun q hq => ?_, by rw [e' 169 (by omega) (by decide) (by decide) (by decide) (by decide)]; exact h.mc.2⟩, ⟨hA, e98, fun q => absurd (show false = true from q) (by decide), ?_, e95, fun j hj => absurd hj (Nat.not_lt_zero j), e96, fun j hj => ?_, e97⟩, fun k hk => e21 k hk, h.pl.eq rG.rf (fun q hq => e' q (by omega) (by omega) (by omega) (by omega) (by omega)), fun j hj => es j hj, ⟨e12, e13⟩, ⟨e1, fun j hj => absurd hj (Nat.not_lt_zero j)⟩, e14, Or.inl e011⟩
  · by_cases q5 : q = 5
    · subst q5; exact e5
    · by_cases q12 : q = 12
      · subst q12; exact hA.2.1
      · have hq2 : 16 ≤ q ∧ q ≠ 21 ∧ q ≠ 200 ∧ q ≠ 203 ∧ q ≠ 206 := by revert hq; simp; omega
        rw [e' q (by omega) hq2.2.1 hq2.2.2.1 hq2.2.2.2.1 hq2.2.2.2.2]; exact h.mc.1 q hq
  · obtain ⟨n, hn, en⟩ := h.st.2.2.2.1
    exact ⟨n, hn, by rw [e' (9 + 7) (by omega) (by decide) (by decide) (by decide) (by decide)]; exact en⟩
  · have hj1 : j < 1 := hj
    obtain rfl : j = 0 := by omega
    exact e11
theorem k_text {σ : St} {Q : Int32 → xHp → Prop} (hW : clR sh I R σ) (k : ∀ I' R', clR sh I' R' (textA σ).2 → cFr I I' → Q (textA σ).1 (sh, I', R')) : CI mX9_text [.ref 0] (sh, I, R) Q := by
  unfold textA at k
  have hL := hW.lay
  refine eX9_text (bX9_text_0 hL (k_readAll hL hW.cT (hW.mc.1 5 (by decide)) (fun I1 e v ht f1 hE => bX9_text_7 hL ⟨fun z => absurd z hE.ne, fun _ => ?_⟩) (fun I1 D n ht f1 h13 hD hZ => bX9_text_7 hL ⟨fun _ => ?_, fun z => absurd h13 z⟩)))
  · rw [ht] at k
    rw [hE.1, hE.2.1]
    have g : ∀ c, c ∉ [0, 2, 4, 5, 6, 7, 8] → xi (xi I1 2 1 (nI 0)) 0 14 (nI e.1) c = I c := fun c hc => by
      simp at hc
      funext j; rw [xi_p (by omega), xi_p (by omega)]; exact f1.1.at c j (by simp; omega)
    refine k _ R (hW.textF g (fun j hj => ?_) ?_ ?_ xi_e) (fun c h1 h2 => g c (by simp; omega))
    · rw [xi_s hj, xi_p (by decide)]; exact f1.1.at 0 j (by decide)
    · rw [xi_p (by decide), xi_e]
    · rw [xi_p (by decide), xi_p (by decide)]; exact f1.2.2
  · rw [ht] at k
    have k' : ∀ I' R', clR sh I' R' (txS D) → cFr I I' → Q (nI n) (sh, I', R') := k
    obtain ⟨hok, hn, hgs, hgl⟩ := textP_ok ht
    have hp2 := PR_bd _ hok.1
    obtain ⟨a1, a2, a3, a4, a5, a6, a7, a8, a9⟩ := id hD
    rw [a3, a4, h13]
    have h5 : xMach sh R 5 4 := hL.2.2.2.2.2.2.2.1
    refine k_realm hL hok.1 hok.2.1.1 hok.2.1.2 (fun I3 f3 hc3 => bX9_text_66 hL ?_)
    have g3 : ∀ c j, c ≠ 0 → c ≠ 1 → c ≠ 2 → I3 c j = I1 c j := fun c j h0 h1 h2 => by rw [f3.at c j (by simpa using h1), xi_p h0, xi_p h2]
    have g312 : I3 2 12 = nI D.2.2.2.1 := by rw [f3.at 2 12 (by decide), xi_p (by decide), xi_s (by decide)]; exact a5
    have g321 : I3 2 1 = nI 0 := by rw [f3.at 2 1 (by decide), xi_p (by decide), xi_e]
    have g3014 : I3 0 14 = nI 0 := by rw [f3.at 0 14 (by decide), xi_e]
    refine eX4_hand (bX4_hand_0 hL hW.m12 ?_)
    rw [g312]
    have gJ : ∀ c j, c ≠ 0 → c ≠ 1 → c ≠ 2 → c ≠ 5 → xi I3 5 2 (nI D.2.2.2.1) c j = I1 c j := fun c j h0 h1 h2 h5 => by rw [xi_p h5]; exact g3 c j h0 h1 h2
    have hcJ : cCtx (xi I3 5 2 (nI D.2.2.2.1)) D.2.1 D.2.2.1 := hc3.eq (by funext j; rw [xi_p (by decide)])
    refine k_reduce (a := D.2.2.2.2.2.2.1) (b := D.2.2.2.2.2.2.2.1) (w := fun i => D.2.2.2.2.2.2.2.2 (i / 12) (i / 4 % 3) (i % 4)) hL hcJ h5 (by omega) (by omega) (by rw [xi_s (by decide), g3 5 1 (by decide) (by decide) (by decide)]; exact f1.2.2) (fun s hs => ⟨by rw [gJ 6 s (by decide) (by decide) (by decide) (by decide)]; exact a7 s hs, hok.2.2.2.2.2.1 s⟩) (fun s hs => ⟨by rw [gJ 7 s (by decide) (by decide) (by decide) (by decide)]; exact a8 s hs, hok.2.2.2.2.2.2.1 s⟩) (fun i hi => ⟨?_, hok.2.2.2.2.2.2.2 _ _ _⟩) (fun I5 f5 r1 r2 r3 => bX4_hand_18 hL hW.m12 ?_)
    · rw [gJ 8 i (by decide) (by decide) (by decide) (by decide)]
      have := a9 (i / 12) (i / 4 % 3) (i % 4) (by omega) (by omega) (by omega)
      rw [show (i / 12 * 3 + i / 4 % 3) * 4 + i % 4 = i by omega] at this
      exact this
    have cM5 : cM I5 D.2.2.1 5 4 (txM D) := by
      refine ⟨hok.2.2.1, ?_, ?_, fun s hs => ?_, fun s hs => ?_, fun s x t hs hx ht => ?_⟩
      · rw [f5.at 5 1 (by decide), xi_s (by decide), g3 5 1 (by decide) (by decide) (by decide)]; exact f1.2.2
      · rw [f5.at 5 2 (by decide), xi_e]; rfl
      · rw [r1 s hs]
        by_cases q : s < (txM D).1
        · rw [if_pos q]; rfl
        · rw [if_neg q, (hZ s (by have : ¬ s < D.2.2.2.1 := q; omega)).1, Nat.zero_mod]
      · rw [r2 s hs]
        by_cases q : s < (txM D).1
        · rw [if_pos q]; rfl
        · rw [if_neg q, (hZ s (by have : ¬ s < D.2.2.2.1 := q; omega)).2.1, Nat.zero_mod]
      · have hL3 := hok.2.1.2
        have hi : (s * 3 + x) * 4 + t < 4 * 3 * 4 := by omega
        rw [r3 _ hi]
        have e1 : ((s * 3 + x) * 4 + t) / 12 = s := by omega
        have e2 : ((s * 3 + x) * 4 + t) / 4 % 3 = x := by omega
        have e3 : ((s * 3 + x) * 4 + t) % 4 = t := by omega
        (try dsimp only)
        rw [e1, e2, e3]
        by_cases q : s < (txM D).1 ∧ t < (txM D).1
        · rw [if_pos q]; rfl
        · rw [if_neg q]
          have q' : ¬ (s < D.2.2.2.1 ∧ t < D.2.2.2.1) := q
          rcases Nat.lt_or_ge s D.2.2.2.1 with y | y
          · rw [((hZ t (by omega)).2.2 x s).2, Nat.zero_mod]
          · rw [((hZ s (by omega)).2.2 x t).1, Nat.zero_mod]
    have hc5 : cCtx I5 D.2.1 D.2.2.1 := hcJ.fr f5 (by decide)
    have g5 : ∀ c j, c ∉ [0, 1, 2, 4, 5, 6, 7, 8] → I5 c j = I c j := fun c j hc => by
      simp at hc
      rw [f5.at c j (by simp; omega), gJ c j (by omega) (by omega) (by omega) (by omega)]; exact f1.1.at c j (by simp; omega)
    refine k_copy hL hc5 hW.m12 h5 (by omega) (by omega) (by omega) (by omega) (by rw [g5 12 1 (by decide)]; exact hW.mc.1 12 (by decide)) cM5 (txM_ok hok) hok.2.2.1 (fun I6 f6 c6 => bX4_hand_26 hL (bX9_text_80 hL ?_))
    refine eX9_changed (bX9_changed_0 hL (eX8_renew (bX8_renew_0 hL hL.2.2.1 ⟨vp_nI (by omega) (by omega), bX9_changed_12 hL (bX9_text_84 hL ?_)⟩)))
    rw [nclamp (a := 0) (by omega)]
    generalize hI2 : xi (xi (xi (xi (xi (xi (xi (xi I6 0 11 (nI 0)) 9 5 (nI 0)) (9 + 2) 0 (nI 0)) 9 6 (nI 1)) 9 7 (nI 0)) 9 8 (nI 0)) 0 12 (nI 0)) 0 13 (nI 0) = I7
    have gr : ∀ c, c ≠ 0 → c ≠ 9 → c ≠ 11 → I7 c = I6 c := fun c h1 h2 h3 => by rw [← hI2]; funext j; rw [xi_p h1, xi_p h1, xi_p h2, xi_p h2, xi_p h2, xi_p (by omega), xi_p h2, xi_p h1]
    have loop1 : ∀ m j (J : Nat → Nat → Int32), j + m = 2 → Fr [21] I7 J → (∀ i, i < j → J 21 i = nI 0) → Ex mX9_text 96 [.ref 0, .int (nI n), .int (nI j)] [] (sh, J, R) 0 0 (xqI Q) := by
      intro m
      induction m with
      | zero =>
        intro j J hj hf hz
        obtain rfl : j = 2 := by omega
        refine bX9_text_96 hL ⟨fun _ => ?_, fun z => absurd (by decide) z⟩
        have loop2 : ∀ m j (J2 : Nat → Nat → Int32), j + m = 3 → Fr [200, 203, 206] J J2 → (∀ i, i < j → J2 (200 + 3 * i) 4 = -1) → Ex mX9_text 116 [.ref 0, .int (nI n), .int (nI j)] [] (sh, J2, R) 0 0 (xqI Q) := by
          intro m
          induction m with
          | zero =>
            intro j J2 hj hf2 hz2
            obtain rfl : j = 3 := by omega
            refine bX9_text_116 hL ⟨fun _ => ?_, fun z => absurd (by decide) z⟩
            have gl : ∀ c, c ≠ 0 → c ≠ 9 → c ≠ 11 → c ≠ 21 → c ≠ 200 → c ≠ 203 → c ≠ 206 → J2 c = I6 c := fun c h0 h9 h11 h21 h1 h2 h3 => by rw [hf2 c (by simp [h1, h2, h3]), hf c (by simpa using h21), gr c h0 h9 h11]
            have g7 : ∀ c j, c = 0 ∨ c = 9 ∨ c = 11 → J2 c j = I7 c j := fun c j hc => by rw [hf2.at c j (by simp; omega), hf.at c j (by simp; omega)]
            have g6 : ∀ c, c ∉ [12, 13, 14, 15] → I6 c = I5 c := fun c hc => f6 c hc
            have gall : ∀ c, c ∉ [0, 1, 2, 4, 5, 6, 7, 8, 9, 11, 12, 13, 14, 15, 21, 200, 203, 206] → J2 c = I c := fun c hc => by
              simp at hc
              rw [gl c (by omega) (by omega) (by omega) (by omega) (by omega) (by omega) (by omega), g6 c (by simp; omega)]
              funext j; exact g5 c j (by simp; omega)
            refine k' J2 R (hW.textY hok gall (hc5.eq (by rw [gl 1 (by decide) (by decide) (by decide) (by decide) (by decide) (by decide) (by decide), g6 1 (by decide)])) ?_ (c6.eq (gl 12 (by decide) (by decide) (by decide) (by decide) (by decide) (by decide) (by decide)) (gl 13 (by decide) (by decide) (by decide) (by decide) (by decide) (by decide) (by decide)) (gl 14 (by decide) (by decide) (by decide) (by decide) (by decide) (by decide) (by decide)) (gl 15 (by decide) (by decide) (by decide) (by decide) (by decide) (by decide) (by decide))) ?_ ?_ ?_ ?_ ?_ (fun i hi => ?_) hz2 ?_ ?_ ?_ ?_ ?_) (fun c h1 h2 => gall c (by simp; omega))
            · rw [gl 5 (by decide) (by decide) (by decide) (by decide) (by decide) (by decide) (by decide), g6 5 (by decide)]; exact cM5.2.1
            · rw [g7 9 5 (by omega), ← hI2, xi_p (by decide), xi_p (by decide), xi_s (by decide), xi_s (by decide), xi_s (by decide), xi_p (by decide), xi_e]
            · rw [g7 9 6 (by omega), ← hI2, xi_p (by decide), xi_p (by decide), xi_s (by decide), xi_s (by decide), xi_e]
            · rw [g7 9 7 (by omega), ← hI2, xi_p (by decide), xi_p (by decide), xi_s (by decide), xi_e]
            · rw [g7 9 8 (by omega), ← hI2, xi_p (by decide), xi_p (by decide), xi_e]
            · rw [g7 11 0 (by omega), ← hI2, xi_p (by decide), xi_p (by decide), xi_p (by decide), xi_p (by decide), xi_p (by decide), xi_e]
            · rw [hf2.at 21 i (by decide)]; exact hz i hi
            · rw [g7 0 12 (by omega), ← hI2, xi_s (by decide), xi_e]
            · rw [g7 0 13 (by omega), ← hI2, xi_e]
            · rw [g7 0 14 (by omega), ← hI2, xi_s (by decide), xi_s (by decide), xi_p (by decide), xi_p (by decide), xi_p (by decide), xi_p (by decide), xi_p (by decide), xi_s (by decide), g6 0 (by decide), f5.at 0 14 (by decide), xi_p (by decide)]; exact g3014
            · rw [g7 0 11 (by omega), ← hI2, xi_s (by decide), xi_s (by decide), xi_p (by decide), xi_p (by decide), xi_p (by decide), xi_p (by decide), xi_p (by decide), xi_e]
            · rw [gl 2 (by decide) (by decide) (by decide) (by decide) (by decide) (by decide) (by decide), g6 2 (by decide), f5.at 2 1 (by decide), xi_p (by decide)]; exact g321
          | succ m ih =>
            intro j J2 hj hf2 hz2
            refine bX9_text_116 hL ⟨fun z => absurd z (nI_ge (by omega) (by omega)), fun _ => ⟨vp_nI (by omega) (by omega), ?_⟩⟩
            rw [nclamp (a := j) (by omega)]
            refine eX6_vanish (bX6_vanish_0 hL (hW.shelf (by omega)) (bX9_text_130 hL ?_))
            rw [show nI j + nI 1 = nI (j + 1) from nI_add j 1]
            refine ih (j + 1) _ (by omega) (hf2.xi (by simp; omega)) (fun i hi => ?_)
            by_cases e : i = j
            · subst e; exact xi_e
            · rw [xi_p (by omega)]; exact hz2 i (by omega)
        exact loop2 3 0 J (by omega) Fr.rf (fun i hi => absurd hi (Nat.not_lt_zero i))
      | succ m ih =>
        intro j J hj hf hz
        refine bX9_text_96 hL ⟨fun z => absurd z (nI_ge (by omega) (by omega)), fun _ => ⟨vp_nI (by omega) (by omega), ?_⟩⟩
        rw [nclamp (a := j) (by omega), nar0, show nI j + nI 1 = nI (j + 1) from nI_add j 1]
        refine ih (j + 1) _ (by omega) (hf.xi (by simp)) (fun i hi => ?_)
        by_cases e : i = j
        · subst e; exact xi_e
        · rw [xi_s e]; exact hz i (by omega)
    exact loop1 2 0 I7 (by omega) Fr.rf (fun i hi => absurd hi (Nat.not_lt_zero i))
end CTXT
