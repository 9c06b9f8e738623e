section MODS
variable {sh : List xSh} {I : Nat → Nat → Int32} {R : Nat → Nat → Option Nat}
theorem dropI_lt {s a n : Nat} (ha : a < n - 1) : dropI s a < n := by unfold dropI; split <;> omega
theorem w_drop {σ : St} {v : Int32} {Q : Int32 → xHp → Prop} (hW : xLay sh R) (h : mdR I σ) (k : ∀ I', mdR I' (dropA σ v).2 → mFr I I' → Q (dropA σ v).1 (sh, I', R)) : CI mX10_drop [.ref 209, .int v] (sh, I, R) Q := by
  obtain ⟨_, h4, hok, -⟩ := h.ok.t
  have hL3 := h.ok.L3
  have hr := h.A
  unfold dropA at k
  refine eX10_drop (bX10_drop_0 hW (w_isState (a := 0) hW (by decide) rfl h.A (fun g hg hglt => ?_) (fun hn => ?_)))
  rotate_left
  · rw [if_neg hn] at k
    exact bX10_drop_6 hW ⟨fun z => absurd rfl z, fun _ => k I h mFr.rf⟩
  subst hg
  rw [if_pos ((inB_n (by omega)).mpr hglt), nN_n (by omega)] at k
  generalize hn : σ.t.A.1 - 1 = n at *
  refine bX10_drop_6 hW ⟨fun _ => ?_, fun z => absurd z (by decide)⟩
  refine w_copies (m := 0) (m2 := 32) hW (by decide) (by decide) (by decide) (fun I1 hf1 hg1 hc1 => bX10_drop_18 hW (w_many (m := 0) hW (by decide) ?_))
  have e0 : I1 210 (57 * 0) = nI σ.t.A.1 := by rw [hg1 _ (fun m hm => by rw [List.mem_singleton.mp hm]; omega), hr.2.1]
  rw [e0]
  refine bX10_drop_23 hW ?_
  rw [pk_sub (by omega), hn]
  refine w_at (m := 0) (c := 0) hW (bX10_drop_36 hW ⟨vp_nI (by omega) (by omega), ?_⟩)
  rw [nclamp (by omega), Nat.add_zero]
  generalize hI1' : xi I1 210 (57 * 0) (nI n) = I1'
  have hf1' : Fr [210] I1 I1' := by rw [← hI1']; exact Fr.rf.xi (by simp)
  have hg1' : pgF [0] I1 I1' := by rw [← hI1']; exact pgF.rf.xi (m := 0) (c := 0) (by simp) (by omega)
  generalize hst : (fun a => I 210 (57 * 0 + (1 + dropI g a))) = st
  generalize hen : (fun a => I 210 (57 * 0 + (5 + dropI g a))) = en
  generalize hwt : (fun a y b => I 210 (57 * 0 + (9 + 12 * dropI g a + 4 * y + dropI g b))) = wt
  have cp : ∀ (I2 : Nat → Nat → Int32), pgF [0] I1 I2 → ∀ c, c < 57 → I2 210 (57 * 32 + c) = I 210 (57 * 0 + c) := fun I2 hg c hc => by rw [hg _ (fun m hm => by rw [List.mem_singleton.mp hm]; omega), hc1 c hc]
  have loopS : ∀ j s (I2 : Nat → Nat → Int32), s + j = n → Fr [210] I1 I2 → pgF [0] I1 I2 → mkW I2 0 n 3 st en wt s s s 0 0 → Ex mX10_drop 40 [.ref 209, .int (nI g), .int (nI n), .int (nI s), xU, xU, xU] [] (sh, I2, R) 0 0 (xqI Q) := by
    intro j
    induction j with
    | zero =>
      intro s I2 hs hf2 hg2 hm
      obtain rfl : s = n := by omega
      refine bX10_drop_40 hW ⟨fun _ => ?_, fun q => absurd (nI_le (Nat.le_refl _) (by omega)) q⟩
      refine w_anewP (A := mDrop σ.t.A g) hW h (hf1.tr hf2) ((hg1.up (by simp)).tr (hg2.up (by simp))) (hm.rep (show σ.t.A.1 - 1 = s from hn) (by omega) hL3 (fun a ha => ?_) (fun a ha => ?_) (fun a y b ha hy hb => ?_)) ⟨fun a ha => hok.1 _ (dropI_lt ha), fun a ha => hok.2.1 _ (dropI_lt ha), fun a y b ha hy hb => hok.2.2 _ y _ (dropI_lt ha) hy (dropI_lt hb)⟩ (fun I' h1 h2 _ => bX10_drop_174 hW (k I' h1 h2))
      · rw [← hst]; exact hr.2.2.1 _ (dropI_lt (by omega))
      · rw [← hen]; exact hr.2.2.2.1 _ (dropI_lt (by omega))
      · rw [← hwt]; exact hr.2.2.2.2 _ y _ (dropI_lt (by omega)) hy (dropI_lt (by omega))
    | succ j ih =>
      intro s I2 hs hf2 hg2 hm
      have hfs := dropI_lt (s := g) (n := σ.t.A.1) (a := s) (by omega)
      have loopX : ∀ j2 x (I3 : Nat → Nat → Int32), x + j2 = 3 → Fr [210] I1 I3 → pgF [0] I1 I3 → mkW I3 0 n 3 st en wt (s + 1) (s + 1) s x 0 → Ex mX10_drop 102 [.ref 209, .int (nI g), .int (nI n), .int (nI s), .int (nI (dropI g s)), .int (nI x), xU] [] (sh, I3, R) 0 0 (xqI Q) := by
        intro j2
        induction j2 with
        | zero =>
          intro x I3 hx hf3 hg3 hm3
          refine bX10_drop_102 hW ⟨fun _ => ?_, fun q => absurd (nI_le (by omega) (by omega)) q⟩
          rw [nI_add]
          exact ih (s + 1) I3 (by omega) hf3 hg3 (hm3.N (by omega))
        | succ j2 ih2 =>
          intro x I3 hx hf3 hg3 hm3
          refine bX10_drop_102 hW ⟨fun q => absurd q (nI_ge (by omega) (by omega)), fun _ => ?_⟩
          have loopT : ∀ j3 t (I4 : Nat → Nat → Int32), t + j3 = n → Fr [210] I1 I4 → pgF [0] I1 I4 → mkW I4 0 n 3 st en wt (s + 1) (s + 1) s x t → Ex mX10_drop 111 [.ref 209, .int (nI g), .int (nI n), .int (nI s), .int (nI (dropI g s)), .int (nI x), .int (nI t)] [] (sh, I4, R) 0 0 (xqI Q) := by
            intro j3
            induction j3 with
            | zero =>
              intro t I4 ht hf4 hg4 hm4
              refine bX10_drop_111 hW ⟨fun _ => ?_, fun q => absurd (nI_le (by omega) (by omega)) q⟩
              rw [nI_add]
              exact ih2 (x + 1) I4 (by omega) hf4 hg4 (hm4.X (by omega))
            | succ j3 ih3 =>
              intro t I4 ht hf4 hg4 hm4
              have hft := dropI_lt (s := g) (n := σ.t.A.1) (a := t) (by omega)
              have fin : Ex mX10_drop 149 [.ref 209, .int (nI g), .int (nI n), .int (nI s), .int (nI (dropI g s)), .int (nI x), .int (nI t)] (.int (I4 210 (57 * 32 + (9 + 12 * dropI g s + 4 * x + dropI g t))) :: [.int (nI t), .int (nI x), .int (nI s), .int (nI 0), .ref 209]) (sh, I4, R) 0 0 (xqI Q) := by
                refine bX10_drop_149 hW (w_weighs (m := 0) hW (by decide) (by omega) (by omega) (by omega) (bX10_drop_152 hW ?_))
                rw [nI_add]
                refine ih3 (t + 1) _ (by omega) (hf4.xi (by simp)) (hg4.xi (m := 0) (by simp) (by omega)) (hm4.W (by omega) (by omega) (by omega) (by omega) (by omega) ?_)
                rw [← hwt]
                exact cp I4 hg4 _ (by omega)
              refine bX10_drop_111 hW ⟨fun q => absurd q (nI_ge (by omega) (by omega)), fun _ => ⟨fun q => ?_, fun q => ?_⟩⟩
              · have hgt : g ≤ t := by
                  rcases Nat.lt_or_ge t g with z | z
                  · exact absurd q (nI_ge z (by omega))
                  · exact z
                have e : dropI g t = t + 1 := by unfold dropI; rw [if_neg (by omega)]
                rw [nI_add, ← e]
                exact w_weight (m := 32) hW (by decide) (by omega) (by omega) (by omega) fin
              · have hgt : t < g := by
                  rcases Nat.lt_or_ge t g with z | z
                  · exact z
                  · exact absurd (nI_le z (by omega)) q
                have e : dropI g t = t := by unfold dropI; rw [if_pos hgt]
                rw [e] at fin
                exact w_weight (m := 32) hW (by decide) (by omega) (by omega) (by omega) fin
          exact loopT n 0 I3 (by omega) hf3 hg3 hm3
      have fin : CI mX10_at [.ref 209, .int (nI 0), .int (nI 1 + nI s)] (sh, I2, R) (fun w h1 => Ex mX10_drop 71 [.ref 209, .int (nI g), .int (nI n), .int (nI s), .int (nI (dropI g s)), xU, xU] (.int w :: [.ref 210]) h1 0 0 (xqI Q)) := by
        rw [nI_add]
        refine w_at (m := 0) hW (bX10_drop_71 hW (w_cellOf hW (by omega) (bX10_drop_78 hW ⟨vp_nI (by omega) (by omega), ?_⟩)))
        rw [nclamp (by omega), nI_add, cp I2 hg2 _ (by omega)]
        have hg3 : pgF [0] I1 (xi I2 210 (57 * 0 + (1 + s)) (I 210 (57 * 0 + (1 + dropI g s)))) := hg2.xi (m := 0) (by simp) (by omega)
        refine w_at (m := 0) hW (bX10_drop_91 hW (w_cellOf hW (by omega) (bX10_drop_98 hW ⟨vp_nI (by omega) (by omega), ?_⟩)))
        rw [nclamp (by omega), cp _ hg3 _ (by omega)]
        refine loopX 3 0 _ (by omega) ((hf2.xi (by simp)).xi (by simp)) (hg3.xi (m := 0) (by simp) (by omega)) ((hm.S (by omega) (by omega) (by omega) (by rw [← hst])).E (by omega) (by omega) (by omega) (by rw [← hen]))
      refine bX10_drop_40 hW ⟨fun q => absurd q (nI_ge (by omega) (by omega)), fun _ => ⟨fun q => ?_, fun q => ?_⟩⟩
      · have hgt : g ≤ s := by
          rcases Nat.lt_or_ge s g with z | z
          · exact absurd q (nI_ge z (by omega))
          · exact z
        have e : dropI g s = s + 1 := by unfold dropI; rw [if_neg (by omega)]
        rw [e] at fin
        rw [nI_add s 1]
        exact fin
      · have hgt : s < g := by
          rcases Nat.lt_or_ge s g with z | z
          · exact z
          · exact absurd (nI_le z (by omega)) q
        have e : dropI g s = s := by unfold dropI; rw [if_pos hgt]
        rw [e] at fin
        exact fin
  refine loopS n 0 I1' (by omega) hf1' hg1' ⟨by rw [← hI1', xi_e], fun a ha => by omega, fun a ha => by omega, fun a y b _ _ _ q => by omega⟩
theorem w_scale {σ : St} {v : Int32} {Q : Int32 → xHp → Prop} (hW : xLay sh R) (h : mdR I σ) (k : ∀ I', mdR I' (scaleA σ v).2 → mFr I I' → Q (scaleA σ v).1 (sh, I', R)) : CI mX10_scale [.ref 209, .int v] (sh, I, R) Q := by
  obtain ⟨_, h4, hok, -⟩ := h.ok.t
  have hL3 := h.ok.L3
  have hp := PR_bd _ h.ok.p
  have hr := h.A
  unfold scaleA at k
  refine eX10_scale (bX10_scale_0 hW (w_isResidue hW h.ctx (fun c hc hclt => ?_) (fun hn => ?_)))
  rotate_left
  · rw [if_neg hn] at k
    exact bX10_scale_5 hW ⟨fun z => absurd rfl z, fun _ => k I h mFr.rf⟩
  subst hc
  rw [if_pos ((inB_n (by omega)).mpr hclt), nN_n (by omega)] at k
  refine bX10_scale_5 hW ⟨fun _ => ?_, fun z => absurd z (by decide)⟩
  have loop : ∀ j s (I2 : Nat → Nat → Int32), s + j = σ.t.A.1 → Fr [210] I I2 → pgF [0] I I2 → mRep I2 σ.L 0 (σ.t.A.1, fun a => if a < s then σ.t.A.2.1 a * c % σ.p else σ.t.A.2.1 a, σ.t.A.2.2) → Ex mX10_scale 12 [.ref 209, .int (nI c), .int (nI s)] [] (sh, I2, R) 0 0 (xqI Q) := by
    intro j
    induction j with
    | zero =>
      intro s I2 hs hf hg hm
      refine bX10_scale_12 hW (w_many (m := 0) hW (by decide) ?_)
      rw [hm.2.1]
      refine bX10_scale_18 hW ⟨fun _ => ?_, fun q => absurd (nI_le (show σ.t.A.1 ≤ s by omega) (by omega)) q⟩
      refine w_anewP (A := mScale σ.p σ.t.A c) hW h hf (hg.up (by simp)) (hm.same rfl (fun a ha => ?_) (fun a ha => rfl) (fun a y b _ _ _ => rfl)) ⟨fun a ha => Nat.mod_lt _ (by omega), hok.2.1, hok.2.2⟩ (fun I' h1 h2 h3 => bX10_scale_64 hW (w_many (m := 0) hW (by decide) (bX10_scale_69 hW ?_)))
      · have ha' : a < σ.t.A.1 := ha
        show σ.t.A.2.1 a * c % σ.p = if a < s then σ.t.A.2.1 a * c % σ.p else σ.t.A.2.1 a
        rw [if_pos (by omega)]
      · rw [h3.2.1]; exact k I' h1 h2
    | succ j ih =>
      intro s I2 hs hf hg hm
      refine bX10_scale_12 hW (w_many (m := 0) hW (by decide) ?_)
      rw [hm.2.1]
      refine bX10_scale_18 hW ⟨fun q => absurd q (nI_ge (show s < σ.t.A.1 by omega) (by omega)), fun _ => ?_⟩
      rw [nI_add]
      refine w_at (m := 0) hW (bX10_scale_33 hW ?_)
      rw [nI_add]
      refine w_at (m := 0) hW (bX10_scale_45 hW ⟨vp_nI (by omega) (by omega), ?_⟩)
      have e1 : I2 209 1 = nI σ.p := by rw [hf.at 209 1 (by decide)]; exact h.c1
      have hb : σ.t.A.2.1 s * c ≤ 9216 := mul_bd hp.2 (hok.1 s (by omega)) hclt
      have e2 : I2 210 (57 * 0 + (1 + s)) = nI (σ.t.A.2.1 s) := by
        have := hm.2.2.1 s (show s < σ.t.A.1 by omega)
        rw [this]
        show nI (if s < s then _ else _) = _
        rw [if_neg (Nat.lt_irrefl _)]
      rw [e1, nclamp (by omega), e2, pk_mul, xrem_nI (by omega) (by omega) (by omega), nI_add]
      refine ⟨nI_ne0 (by omega) (by omega), vp_nI (by omega) (by omega), ?_⟩
      refine ih (s + 1) _ (by omega) (hf.xi (by simp)) (hg.xi (m := 0) (by simp) (by omega)) ((hm.setS (m := 0) (by omega) hL3).same rfl (fun a ha => ?_) (fun a ha => rfl) (fun a y b _ _ _ => rfl))
      show (if a < s + 1 then σ.t.A.2.1 a * c % σ.p else σ.t.A.2.1 a) = if a = s then σ.t.A.2.1 s * c % σ.p else if a < s then σ.t.A.2.1 a * c % σ.p else σ.t.A.2.1 a
      by_cases q : a = s
      · subst q; rw [if_pos (by omega), if_pos rfl]
      · rw [if_neg q]
        by_cases q2 : a < s
        · rw [if_pos (by omega), if_pos q2]
        · rw [if_neg (by omega), if_neg q2]
  exact loop σ.t.A.1 0 I (by omega) Fr.rf pgF.rf (hr.same rfl (fun a ha => show (if a < 0 then σ.t.A.2.1 a * c % σ.p else σ.t.A.2.1 a) = σ.t.A.2.1 a from if_neg (Nat.not_lt_zero a)) (fun a ha => rfl) (fun a y b _ _ _ => rfl))
theorem w_shrink {σ : St} [NeZero σ.p] {Q : Int32 → xHp → Prop} (hW : xLay sh R) (h : mdR I σ) (k : ∀ I', mdR I' (shrinkA σ).2 → mFr I I' → Q (shrinkA σ).1 (sh, I', R)) : CI mX10_shrink [.ref 209] (sh, I, R) Q := by
  obtain ⟨_, h4, hok, -⟩ := h.ok.t
  have hL3 := h.ok.L3
  have hp := PR_bd _ h.ok.p
  refine eX10_shrink (bX10_shrink_0 hW (w_lessens hW h.ctx h.A hok (fun I1 G hf1 hf19 hB hpg hG hr => bX10_shrink_4 hW ?_)))
  have hr2 := LeM_rep h.ok.p hG hr
  have hmd := LeM_made hG
  refine w_copies (m := 2) (m2 := 0) hW (by decide) (by decide) (by decide) (fun I2 hf2 hg2 hc2 => bX10_shrink_10 hW ?_)
  refine w_anew (A := LeM σ.p σ.L σ.t.A) hW h (fun q hq => by rw [hf2 q (fun z => by revert hq z; simp; omega), hf1 q (fun z => by revert hq z; simp; omega)]) (fun j hj => by rw [hf2.at 209 j (by decide)]; exact hf19 j (fun z => by subst z; exact absurd hj (by decide))) ((hpg.up (by simp)).tr (hg2.up (by simp))) ((mFr.of hf1 (by simp)).tr (mFr.of hf2 (by simp))) (hr2.copied hL3 hc2) (hmd.ok hp.1) (fun I' h1 h2 h3 => bX10_shrink_14 hW (w_many (m := 0) hW (by decide) (bX10_shrink_19 hW ?_)))
  rw [h3.2.1, hmd.1]
  exact k I' h1 h2
end MODS
