section MODU
variable {sh : List xSh} {I : Nat → Nat → Int32} {R : Nat → Nat → Option Nat}
def joinA (σ : St) (v : Int32) : Int32 × St := if inB v 2 then (match σ.kept (nN v) with | none => (-2, σ) | some τ => if 4 < σ.t.A.1 + τ.A.1 then (-3, σ) else (nI (σ.t.A.1 + τ.A.1), σ.set_t (Tb.nw (mJoin σ.t.A τ.A)))) else (-1, σ)
def jnD (n s x t1 t2 a y b : Nat) : Prop := (a < n ∧ b < n) ∨ (n ≤ a ∧ (a - n < s ∨ (a - n = s ∧ (y < x ∨ (y = x ∧ (b < t1 ∨ (n ≤ b ∧ b - n < t2))))))) ∨ (a < n ∧ n ≤ b ∧ (b - n < s ∨ (b - n = s ∧ (y < x ∨ (y = x ∧ a < t1)))))
def jnS (I2 : Nat → Nat → Int32) (L : Nat) (J : Mac) (n c1 c2 s x t1 t2 : Nat) : Prop := I2 210 (57 * 0) = nI J.1 ∧ (∀ a, a < n + c1 → I2 210 (57 * 0 + (1 + a)) = nI (J.2.1 a)) ∧ (∀ a, a < n + c2 → I2 210 (57 * 0 + (5 + a)) = nI (J.2.2.1 a)) ∧ ∀ a y b, a < J.1 → y < L → b < J.1 → jnD n s x t1 t2 a y b → I2 210 (57 * 0 + (9 + 12 * a + 4 * y + b)) = nI (J.2.2.2 a y b)
theorem jnS.w {I2 : Nat → Nat → Int32} {L n c1 c2 s x t1 t2 t1' t2' a0 b0 : Nat} {J : Mac} {v : Int32} (h : jnS I2 L J n c1 c2 s x t1 t2) (hJ : J.1 ≤ 4) (hL : L ≤ 3) (hx : x < 3) (hc1 : n + c1 ≤ 4) (hc2 : n + c2 ≤ 4) (ha0 : a0 < 4) (hb0 : b0 < 4) (hd : ∀ a y b, a < J.1 → y < L → b < J.1 → jnD n s x t1' t2' a y b → jnD n s x t1 t2 a y b ∨ (a = a0 ∧ y = x ∧ b = b0)) (hv : x < L → a0 < J.1 → b0 < J.1 → v = nI (J.2.2.2 a0 x b0)) : jnS (xi I2 210 (57 * 0 + (9 + 12 * a0 + 4 * x + b0)) v) L J n c1 c2 s x t1' t2' := by
  obtain ⟨h0, h1, h2, h3⟩ := h
  refine ⟨by rw [xi_s (by omega)]; exact h0, fun a ha => by rw [xi_s (by omega)]; exact h1 a ha, fun a ha => by rw [xi_s (by omega)]; exact h2 a ha, fun a y b ha hy hb q => ?_⟩
  by_cases e : a = a0 ∧ y = x ∧ b = b0
  · obtain ⟨rfl, rfl, rfl⟩ := e; rw [xi_e]; exact hv hy ha hb
  · rw [xi_s (by omega)]
    rcases hd a y b ha hy hb q with z | z
    · exact h3 a y b ha hy hb z
    · exact absurd z e
theorem w_join {σ : St} {v : Int32} {Q : Int32 → xHp → Prop} (hW : xLay sh R) (h : mdR I σ) (k : ∀ I', mdR I' (joinA σ v).2 → mFr I I' → Q (joinA σ v).1 (sh, I', R)) : CI mX10_join [.ref 209, .int v] (sh, I, R) Q := by
  obtain ⟨_, h4, hok, -⟩ := h.ok.t
  have hL3 := h.ok.L3
  have hp := PR_bd _ h.ok.p
  have hr := h.A
  unfold joinA at k
  refine eX10_join (bX10_join_0 hW (w_inB (n := 2) hW (by decide) (by decide) (fun c hc hclt => ?_) (fun hn => ?_)))
  rotate_left
  · rw [if_neg hn] at k
    exact bX10_join_7 hW ⟨fun z => absurd rfl z, fun _ => k I h mFr.rf⟩
  subst hc
  rw [if_pos ((inB_n (by omega)).mpr hclt), nN_n (by omega)] at k
  refine bX10_join_7 hW ⟨fun _ => ⟨vp_nI (by omega) (by omega), ?_⟩, fun z => absurd z (by decide)⟩
  rw [nclamp (by omega)]
  have hk := h.kept c hclt
  cases hkp : σ.kept c with
  | none =>
    rw [hkp] at hk k
    have hk2 : I 225 c = nI 0 := hk
    rw [hk2]
    exact ⟨fun z => absurd rfl z, fun _ => k I h mFr.rf⟩
  | some τ =>
    rw [hkp] at hk k
    obtain ⟨_, hB4, hokB, -⟩ := h.ok.kept c τ hkp
    rw [hk.1]
    have hrB := hk.2.1
    refine ⟨fun _ => ?_, fun z => absurd z (by decide)⟩
    refine w_many (m := 0) hW (by decide) ?_
    rw [hr.2.1]
    refine bX10_join_29 hW ?_
    rw [nI_add]
    refine w_many (m := 3 + c) hW (by omega) ?_
    rw [hrB.2.1]
    refine bX10_join_37 hW ?_
    rw [nI_add]
    dsimp only at k
    refine ⟨fun z => ?_, fun z => ?_⟩
    rotate_left
    · have : 4 < σ.t.A.1 + τ.A.1 := by
        rcases Nat.lt_or_ge 4 (σ.t.A.1 + τ.A.1) with y | y
        · exact y
        · exact absurd (nI_le y (by omega)) z
      rw [if_pos this] at k
      exact k I h mFr.rf
    have hle : ¬ 4 < σ.t.A.1 + τ.A.1 := fun y => absurd z (nI_ge y (by omega))
    rw [if_neg hle] at k
    have hJ1 : (mJoin σ.t.A τ.A).1 = σ.t.A.1 + τ.A.1 := rfl
    have hJs : ∀ a, (mJoin σ.t.A τ.A).2.1 a = if a < σ.t.A.1 then σ.t.A.2.1 a else τ.A.2.1 (a - σ.t.A.1) := fun _ => rfl
    have hJe : ∀ a, (mJoin σ.t.A τ.A).2.2.1 a = if a < σ.t.A.1 then σ.t.A.2.2.1 a else τ.A.2.2.1 (a - σ.t.A.1) := fun _ => rfl
    have hJw : ∀ a y b, (mJoin σ.t.A τ.A).2.2.2 a y b = if a < σ.t.A.1 then (if b < σ.t.A.1 then σ.t.A.2.2.2 a y b else 0) else if b < σ.t.A.1 then 0 else τ.A.2.2.2 (a - σ.t.A.1) y (b - σ.t.A.1) := fun _ _ _ => rfl
    have hokJ : okM σ.p σ.L (mJoin σ.t.A τ.A) := by
      refine ⟨fun a ha => ?_, fun a ha => ?_, fun a y b ha hy hb => ?_⟩
      · rw [hJ1] at ha; rw [hJs]; split
        · exact hok.1 a (by omega)
        · exact hokB.1 _ (by omega)
      · rw [hJ1] at ha; rw [hJe]; split
        · exact hok.2.1 a (by omega)
        · exact hokB.2.1 _ (by omega)
      · rw [hJ1] at ha hb; rw [hJw]; split
        · split
          · exact hok.2.2 a y b (by omega) hy (by omega)
          · omega
        · split
          · omega
          · exact hokB.2.2 _ y _ (by omega) hy (by omega)
    generalize hJ : mJoin σ.t.A τ.A = J at *
    generalize hn : σ.t.A.1 = n at *
    generalize hm : τ.A.1 = m at *
    have other : ∀ (I2 : Nat → Nat → Int32), pgF [0] I I2 → mRep I2 σ.L (3 + c) τ.A := fun I2 hg => hrB.pg hg (by simp) hL3
    have loopS : ∀ j s (I2 : Nat → Nat → Int32), s + j = m → Fr [210] I I2 → pgF [0] I I2 → jnS I2 σ.L J n s s s 0 0 0 → Ex mX10_join 65 [.ref 209, .int (nI c), .int (nI n), .int (nI m), .int (nI s), xU, xU] [] (sh, I2, R) 0 0 (xqI Q) := by
      intro j
      induction j with
      | zero =>
        intro s I2 hs hf hg hmS
        obtain rfl : s = m := by omega
        refine bX10_join_65 hW ⟨fun _ => ?_, fun q => absurd (nI_le (Nat.le_refl _) (by omega)) q⟩
        refine w_anewP (A := J) hW h hf (hg.up (by simp)) ⟨by omega, hmS.1, fun a ha => hmS.2.1 a (by omega), fun a ha => hmS.2.2.1 a (by omega), fun a y b ha hy hb => hmS.2.2.2 a y b ha hy hb (by unfold jnD; omega)⟩ hokJ (fun I' h1 h2 _ => bX10_join_246 hW ?_)
        rw [nI_add]; exact k I' h1 h2
      | succ j ih =>
        intro s I2 hs hf hg hmS
        have loopX : ∀ j2 x (I3 : Nat → Nat → Int32), x + j2 = 3 → Fr [210] I I3 → pgF [0] I I3 → jnS I3 σ.L J n (s + 1) (s + 1) s x 0 0 → Ex mX10_join 138 [.ref 209, .int (nI c), .int (nI n), .int (nI m), .int (nI s), .int (nI x), xU] [] (sh, I3, R) 0 0 (xqI Q) := by
          intro j2
          induction j2 with
          | zero =>
            intro x I3 hx hf3 hg3 hm3
            refine bX10_join_138 hW ⟨fun _ => ?_, fun q => absurd (nI_le (by omega) (by omega)) q⟩
            rw [nI_add]
            exact ih (s + 1) I3 (by omega) hf3 hg3 ⟨hm3.1, hm3.2.1, hm3.2.2.1, fun a y b ha hy hb q => hm3.2.2.2 a y b ha hy hb (by unfold jnD at q ⊢; omega)⟩
          | succ j2 ih2 =>
            intro x I3 hx hf3 hg3 hm3
            refine bX10_join_138 hW ⟨fun q => absurd q (nI_ge (by omega) (by omega)), fun _ => ?_⟩
            have loopV : ∀ j3 t (I4 : Nat → Nat → Int32), t + j3 = m → Fr [210] I I4 → pgF [0] I I4 → jnS I4 σ.L J n (s + 1) (s + 1) s x n t → Ex mX10_join 190 [.ref 209, .int (nI c), .int (nI n), .int (nI m), .int (nI s), .int (nI x), .int (nI t)] [] (sh, I4, R) 0 0 (xqI Q) := by
              intro j3
              induction j3 with
              | zero =>
                intro t I4 ht hf4 hg4 hm4
                refine bX10_join_190 hW ⟨fun _ => ?_, fun q => absurd (nI_le (by omega) (by omega)) q⟩
                rw [nI_add]
                exact ih2 (x + 1) I4 (by omega) hf4 hg4 ⟨hm4.1, hm4.2.1, hm4.2.2.1, fun a y b ha hy hb q => hm4.2.2.2 a y b ha hy hb (by unfold jnD at q ⊢; omega)⟩
              | succ j3 ih3 =>
                intro t I4 ht hf4 hg4 hm4
                refine bX10_join_190 hW ⟨fun q => absurd q (nI_ge (by omega) (by omega)), fun _ => ?_⟩
                simp only [nI_add]
                refine w_weight (m := 3 + c) hW (by omega) (by omega) (by omega) (by omega) (bX10_join_221 hW ?_)
                refine w_weighs (m := 0) hW (by decide) (by omega) (by omega) (by omega) (bX10_join_224 hW ?_)
                rw [nI_add]
                refine ih3 (t + 1) _ (by omega) (hf4.xi (by simp)) (hg4.xi (m := 0) (by simp) (by omega)) (hm4.w (by omega) hL3 (by omega) (by omega) (by omega) (by omega) (by omega) (fun a y b ha hy hb q => by unfold jnD at q ⊢; omega) (fun hxl _ _ => ?_))
                rw [hJw, if_neg (by omega), if_neg (by omega), Nat.add_sub_cancel_left, Nat.add_sub_cancel_left]
                exact (other I4 hg4).2.2.2.2 s x t (by omega) hxl (by omega)
            have loopT : ∀ j3 t (I4 : Nat → Nat → Int32), t + j3 = n → Fr [210] I I4 → pgF [0] I I4 → jnS I4 σ.L J n (s + 1) (s + 1) s x t 0 → Ex mX10_join 147 [.ref 209, .int (nI c), .int (nI n), .int (nI m), .int (nI s), .int (nI x), .int (nI t)] [] (sh, I4, R) 0 0 (xqI Q) := by
              intro j3
              induction j3 with
              | zero =>
                intro t I4 ht hf4 hg4 hm4
                obtain rfl : t = n := by omega
                exact bX10_join_147 hW ⟨fun _ => loopV m 0 I4 (by omega) hf4 hg4 hm4, fun q => absurd (nI_le (by omega) (by omega)) q⟩
              | succ j3 ih3 =>
                intro t I4 ht hf4 hg4 hm4
                refine bX10_join_147 hW ⟨fun q => absurd q (nI_ge (by omega) (by omega)), fun _ => ?_⟩
                rw [nI_add]
                refine w_weighs (m := 0) hW (by decide) (by omega) (by omega) (by omega) (bX10_join_167 hW ?_)
                rw [nI_add]
                refine w_weighs (m := 0) hW (by decide) (by omega) (by omega) (by omega) (bX10_join_181 hW ?_)
                rw [nI_add]
                have hmid : jnS (xi I4 210 (57 * 0 + (9 + 12 * (n + s) + 4 * x + t)) (nI 0)) σ.L J n (s + 1) (s + 1) s x t 0 := hm4.w (by omega) hL3 (by omega) (by omega) (by omega) (by omega) (by omega) (fun a y b ha hy hb q => Or.inl q) (fun hxl _ _ => by rw [hJw, if_neg (by omega), if_pos (by omega)])
                refine ih3 (t + 1) _ (by omega) ((hf4.xi (by simp)).xi (by simp)) ((hg4.xi (m := 0) (by simp) (by omega)).xi (m := 0) (by simp) (by omega)) ⟨?_, fun a ha => ?_, fun a ha => ?_, fun a y b ha hy hb q => ?_⟩
                · rw [xi_s (by omega)]; exact hmid.1
                · rw [xi_s (by omega)]; exact hmid.2.1 a ha
                · rw [xi_s (by omega)]; exact hmid.2.2.1 a ha
                · by_cases e1 : a = t ∧ y = x ∧ b = n + s
                  · obtain ⟨rfl, rfl, rfl⟩ := e1
                    rw [xi_e, hJw, if_pos (by omega), if_neg (by omega)]
                  · rw [xi_s (by omega)]
                    by_cases e2 : a = n + s ∧ y = x ∧ b = t
                    · obtain ⟨rfl, rfl, rfl⟩ := e2
                      rw [xi_e, hJw, if_neg (by omega), if_pos (by omega)]
                    · exact hmid.2.2.2 a y b ha hy hb (by unfold jnD at q ⊢; omega)
            exact loopT n 0 I3 (by omega) hf3 hg3 hm3
        refine bX10_join_65 hW ⟨fun q => absurd q (nI_ge (by omega) (by omega)), fun _ => ?_⟩
        simp only [nI_add]
        refine w_at (m := 0) hW (bX10_join_86 hW ?_)
        simp only [nI_add]
        refine w_at (m := 3 + c) hW (bX10_join_101 hW ⟨vp_nI (by omega) (by omega), vp_nI (by omega) (by omega), ?_⟩)
        rw [nclamp (by omega), nclamp (by omega), (other I2 hg).2.2.1 s (by omega)]
        simp only [nI_add]
        refine w_at (m := 0) hW (bX10_join_118 hW ?_)
        simp only [nI_add]
        have hg3 : pgF [0] I (xi I2 210 (57 * 0 + (1 + n + s)) (nI (τ.A.2.1 s))) := by
          have := hg.xi (m := 0) (c := 1 + n + s) (v := nI (τ.A.2.1 s)) (by simp) (by omega)
          exact this
        refine w_at (m := 3 + c) hW (bX10_join_133 hW ⟨vp_nI (by omega) (by omega), vp_nI (by omega) (by omega), ?_⟩)
        rw [nclamp (by omega), nclamp (by omega), (other _ hg3).2.2.2.1 s (by omega)]
        refine loopX 3 0 _ (by omega) ((hf.xi (by simp)).xi (by simp)) (hg3.xi (m := 0) (c := 5 + n + s) (by simp) (by omega)) ⟨?_, fun a ha => ?_, fun a ha => ?_, fun a y b ha hy hb q => ?_⟩
        · rw [xi_s (by omega), xi_s (by omega)]; exact hmS.1
        · rw [xi_s (by omega)]
          by_cases e : a = n + s
          · subst e
            rw [show 57 * 0 + (1 + (n + s)) = 57 * 0 + (1 + n + s) by omega, xi_e, hJs, if_neg (by omega), Nat.add_sub_cancel_left]
          · rw [xi_s (by omega)]; exact hmS.2.1 a (by omega)
        · by_cases e : a = n + s
          · subst e
            rw [show 57 * 0 + (5 + (n + s)) = 57 * 0 + (5 + n + s) by omega, xi_e, hJe, if_neg (by omega), Nat.add_sub_cancel_left]
          · rw [xi_s (by omega), xi_s (by omega)]; exact hmS.2.2.1 a (by omega)
        · rw [xi_s (by omega), xi_s (by omega)]; exact hmS.2.2.2 a y b ha hy hb (by unfold jnD at q ⊢; omega)
    refine w_at (m := 0) (c := 0) hW (bX10_join_58 hW ⟨vp_nI (by omega) (by omega), ?_⟩)
    rw [nclamp (by omega), Nat.add_zero, nI_add]
    refine loopS m 0 _ (by omega) (Fr.rf.xi (by simp)) (pgF.rf.xi (m := 0) (c := 0) (by simp) (by omega)) ⟨by rw [xi_e, hJ1], fun a ha => ?_, fun a ha => ?_, fun a y b ha hy hb q => ?_⟩
    · rw [xi_s (by omega), hJs, if_pos (by omega)]; exact hr.2.2.1 a (by omega)
    · rw [xi_s (by omega), hJe, if_pos (by omega)]; exact hr.2.2.2.1 a (by omega)
    · have hab : a < n ∧ b < n := by unfold jnD at q; omega
      rw [xi_s (by omega), hJw, if_pos hab.1, if_pos hab.2]; exact hr.2.2.2.2 a y b (by omega) hy (by omega)
end MODU
