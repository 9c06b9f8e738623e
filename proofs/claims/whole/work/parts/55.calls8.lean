/-! THE REFERENCE'S CALLS: more states, images -/
section MODT
variable {sh : List xSh} {I : Nat → Nat → Int32} {R : Nat → Nat → Option Nat}
def growA (σ : St) : Int32 × St := if σ.t.A.1 = 4 then (-3, σ) else (nI (σ.t.A.1 + 1), σ.set_t (Tb.nw (mGrow σ.t.A)))
theorem w_grow {σ : St} {Q : Int32 → xHp → Prop} (hW : xLay sh R) (h : mdR I σ) (k : ∀ I', mdR I' (growA σ).2 → mFr I I' → Q (growA σ).1 (sh, I', R)) : CI mX10_grow [.ref 209] (sh, I, R) Q := by
  obtain ⟨_, h4, hok, -⟩ := h.ok.t
  have hL3 := h.ok.L3
  have hp := PR_bd _ h.ok.p
  have hr := h.A
  unfold growA at k
  refine eX10_grow (bX10_grow_0 hW (w_many (m := 0) hW (by decide) ?_))
  rw [hr.2.1]
  refine bX10_grow_5 hW ⟨fun q => ?_, fun q => ?_⟩
  rotate_left
  · have e := (nI_eq (a := σ.t.A.1) (b := 4) (by omega) (by omega)).mp q
    rw [if_pos e] at k
    exact k I h mFr.rf
  have hne : σ.t.A.1 ≠ 4 := fun z => q (by rw [z])
  rw [if_neg hne] at k
  generalize hn : σ.t.A.1 = n at *
  -- what stands: the old, and zeros
  let ok1 : (Nat → Nat → Int32) → Nat → Nat → Prop := fun I2 s x => I2 210 (57 * 0) = nI (n + 1) ∧ (∀ a, a < n + 1 → I2 210 (57 * 0 + (1 + a)) = nI ((mGrow σ.t.A).2.1 a)) ∧ (∀ a, a < n + 1 → I2 210 (57 * 0 + (5 + a)) = nI ((mGrow σ.t.A).2.2.1 a)) ∧ (∀ a y b, a < n → y < σ.L → b < n → I2 210 (57 * 0 + (9 + 12 * a + 4 * y + b)) = nI (σ.t.A.2.2.2 a y b)) ∧ (∀ a y, a ≤ n → y < 3 → (a < s ∨ (a = s ∧ y < x)) → I2 210 (57 * 0 + (9 + 12 * a + 4 * y + n)) = nI 0 ∧ I2 210 (57 * 0 + (9 + 12 * n + 4 * y + a)) = nI 0)
  have loopS : ∀ j s (I2 : Nat → Nat → Int32), s + j = n + 1 → Fr [210] I I2 → pgF [0] I I2 → ok1 I2 s 0 → Ex mX10_grow 58 [.ref 209, .int (nI n), .int (nI s), xU] [] (sh, I2, R) 0 0 (xqI Q) := by
    intro j
    induction j with
    | zero =>
      intro s I2 hs hf hg hm
      refine bX10_grow_58 hW ⟨fun _ => ?_, fun q => absurd (nI_lt (show n < s by omega) (by omega)) q⟩
      refine w_anewP (A := mGrow σ.t.A) hW h hf (hg.up (by simp)) ⟨by show σ.t.A.1 + 1 ≤ 4; omega, by rw [hm.1, ← hn]; rfl, fun a ha => hm.2.1 a (by have : a < σ.t.A.1 + 1 := ha; omega), fun a ha => hm.2.2.1 a (by have : a < σ.t.A.1 + 1 := ha; omega), fun a y b ha hy hb => ?_⟩ ⟨fun a ha => ?_, fun a ha => ?_, fun a y b ha hy hb => ?_⟩ (fun I' h1 h2 _ => bX10_grow_104 hW ?_)
      · have ha' : a < σ.t.A.1 + 1 := ha
        have hb' : b < σ.t.A.1 + 1 := hb
        show _ = nI (if a = σ.t.A.1 ∨ b = σ.t.A.1 then 0 else σ.t.A.2.2.2 a y b)
        by_cases e : a = σ.t.A.1 ∨ b = σ.t.A.1
        · rw [if_pos e]
          rcases e with e | e
          · rw [e, hn]; exact (hm.2.2.2.2 b y (by omega) (by omega) (by omega)).2
          · rw [e, hn]; exact (hm.2.2.2.2 a y (by omega) (by omega) (by omega)).1
        · rw [if_neg e]; exact hm.2.2.2.1 a y b (by omega) hy (by omega)
      · have ha' : a < σ.t.A.1 + 1 := ha
        show (if a = σ.t.A.1 then 0 else σ.t.A.2.1 a) < σ.p
        split
        · omega
        · exact hok.1 a (by omega)
      · have ha' : a < σ.t.A.1 + 1 := ha
        show (if a = σ.t.A.1 then 0 else σ.t.A.2.2.1 a) < σ.p
        split
        · omega
        · exact hok.2.1 a (by omega)
      · have ha' : a < σ.t.A.1 + 1 := ha
        have hb' : b < σ.t.A.1 + 1 := hb
        show (if a = σ.t.A.1 ∨ b = σ.t.A.1 then 0 else σ.t.A.2.2.2 a y b) < σ.p
        split
        · omega
        · exact hok.2.2 a y b (by omega) hy (by omega)
      · rw [nI_add]; exact k I' h1 h2
    | succ j ih =>
      intro s I2 hs hf hg hm
      have loopX : ∀ j2 x (I3 : Nat → Nat → Int32), x + j2 = 3 → Fr [210] I I3 → pgF [0] I I3 → ok1 I3 s x → Ex mX10_grow 65 [.ref 209, .int (nI n), .int (nI s), .int (nI x)] [] (sh, I3, R) 0 0 (xqI Q) := by
        intro j2
        induction j2 with
        | zero =>
          intro x I3 hx hf3 hg3 hm3
          refine bX10_grow_65 hW ⟨fun _ => ?_, fun q => absurd (nI_le (by omega) (by omega)) q⟩
          rw [nI_add]
          exact ih (s + 1) I3 (by omega) hf3 hg3 ⟨hm3.1, hm3.2.1, hm3.2.2.1, hm3.2.2.2.1, fun a y ha hy q => hm3.2.2.2.2 a y ha hy (by omega)⟩
        | succ j2 ih2 =>
          intro x I3 hx hf3 hg3 hm3
          refine bX10_grow_65 hW ⟨fun q => absurd q (nI_ge (by omega) (by omega)), fun _ => ?_⟩
          refine w_weighs (m := 0) hW (by decide) (by omega) (by omega) (by omega) (bX10_grow_79 hW ?_)
          refine w_weighs (m := 0) hW (by decide) (by omega) (by omega) (by omega) (bX10_grow_88 hW ?_)
          rw [nI_add]
          refine ih2 (x + 1) _ (by omega) ((hf3.xi (by simp)).xi (by simp)) ((hg3.xi (m := 0) (by simp) (by omega)).xi (m := 0) (by simp) (by omega)) ⟨?_, fun a ha => ?_, fun a ha => ?_, fun a y b ha hy hb => ?_, fun a y ha hy q => ?_⟩
          · rw [xi_s (by omega), xi_s (by omega)]; exact hm3.1
          · rw [xi_s (by omega), xi_s (by omega)]; exact hm3.2.1 a ha
          · rw [xi_s (by omega), xi_s (by omega)]; exact hm3.2.2.1 a ha
          · rw [xi_s (by omega), xi_s (by omega)]; exact hm3.2.2.2.1 a y b ha hy hb
          · by_cases e : a = s ∧ y = x
            · obtain ⟨rfl, rfl⟩ := e
              refine ⟨?_, xi_e⟩
              by_cases e2 : a = n
              · subst e2; rw [xi_e]
              · rw [xi_s (by omega), xi_e]
            · have := hm3.2.2.2.2 a y ha hy (by omega)
              constructor
              · by_cases e2 : 9 + 12 * a + 4 * y + n = 9 + 12 * n + 4 * x + s
                · rw [e2, xi_e]
                · rw [xi_s (by omega), xi_s (by omega)]; exact this.1
              · by_cases e2 : 9 + 12 * n + 4 * y + a = 9 + 12 * s + 4 * x + n
                · rw [xi_s (by omega), e2, xi_e]
                · rw [xi_s (by omega), xi_s (by omega)]; exact this.2
      refine bX10_grow_58 hW ⟨fun q => absurd q (nI_nlt (show s ≤ n by omega) (by omega)), fun _ => loopX 3 0 I2 (by omega) hf hg hm⟩
  refine w_at (m := 0) (c := 0) hW (bX10_grow_24 hW ⟨vp_nI (by omega) (by omega), ?_⟩)
  rw [nclamp (by omega), Nat.add_zero, nI_add, nI_add]
  refine w_at (m := 0) hW (bX10_grow_40 hW ⟨vp_nI (by omega) (by omega), ?_⟩)
  rw [nclamp (by omega), nI_add]
  refine w_at (m := 0) hW (bX10_grow_54 hW ⟨vp_nI (by omega) (by omega), ?_⟩)
  rw [nclamp (by omega)]
  refine loopS (n + 1) 0 _ (by omega) (((Fr.rf.xi (by simp)).xi (by simp)).xi (by simp)) (((pgF.rf.xi (m := 0) (c := 0) (by simp) (by omega)).xi (m := 0) (by simp) (by omega)).xi (m := 0) (by simp) (by omega)) ⟨?_, fun a ha => ?_, fun a ha => ?_, fun a y b ha hy hb => ?_, fun a y ha hy q => by omega⟩
  · rw [xi_s (by omega), xi_s (by omega), xi_e]
  · rw [xi_s (by omega)]
    show _ = nI (if a = σ.t.A.1 then 0 else σ.t.A.2.1 a)
    by_cases e : a = n
    · subst e; rw [xi_e, if_pos hn.symm]
    · rw [xi_s (by omega), xi_s (by omega), if_neg (by omega)]; exact hr.2.2.1 a (by omega)
  · show _ = nI (if a = σ.t.A.1 then 0 else σ.t.A.2.2.1 a)
    by_cases e : a = n
    · subst e; rw [xi_e, if_pos hn.symm]
    · rw [xi_s (by omega), xi_s (by omega), xi_s (by omega), if_neg (by omega)]; exact hr.2.2.2.1 a (by omega)
  · rw [xi_s (by omega), xi_s (by omega), xi_s (by omega)]; exact hr.2.2.2.2 a y b (by omega) hy (by omega)
end MODT
