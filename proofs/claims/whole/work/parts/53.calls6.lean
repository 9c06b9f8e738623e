/-! THE REFERENCE'S CALLS: the teacher made anew -/
/-- how far a machine g is written: starts, ends, weights, in order -/
def mkW (I : Nat → Nat → Int32) (g n X : Nat) (st en : Nat → Int32) (wt : Nat → Nat → Nat → Int32) (s1 s2 s x t : Nat) : Prop :=
  I 210 (57 * g) = nI n ∧ (∀ a, a < s1 → I 210 (57 * g + (1 + a)) = st a) ∧ (∀ a, a < s2 → I 210 (57 * g + (5 + a)) = en a) ∧ ∀ a y b, a < n → y < X → b < n → (a < s ∨ (a = s ∧ (y < x ∨ (y = x ∧ b < t)))) → I 210 (57 * g + (9 + 12 * a + 4 * y + b)) = wt a y b
theorem mkW.S {I : Nat → Nat → Int32} {g n X : Nat} {st en : Nat → Int32} {wt : Nat → Nat → Nat → Int32} {s x t : Nat} {v : Int32} (h : mkW I g n X st en wt s s s x t) (hs : s < n) (hn : n ≤ 4) (hX : X ≤ 3) (hv : v = st s) : mkW (xi I 210 (57 * g + (1 + s)) v) g n X st en wt (s + 1) s s x t := by
  obtain ⟨h0, h1, h2, h3⟩ := h
  refine ⟨by rw [xi_s (by omega)]; exact h0, fun a ha => ?_, fun a ha => by rw [xi_s (by omega)]; exact h2 a ha, fun a y b ha hy hb q => by rw [xi_s (by omega)]; exact h3 a y b ha hy hb q⟩
  by_cases e : a = s
  · subst e; rw [xi_e]; exact hv
  · rw [xi_s (by omega)]; exact h1 a (by omega)
theorem mkW.E {I : Nat → Nat → Int32} {g n X : Nat} {st en : Nat → Int32} {wt : Nat → Nat → Nat → Int32} {s x t : Nat} {v : Int32} (h : mkW I g n X st en wt (s + 1) s s x t) (hs : s < n) (hn : n ≤ 4) (hX : X ≤ 3) (hv : v = en s) : mkW (xi I 210 (57 * g + (5 + s)) v) g n X st en wt (s + 1) (s + 1) s x t := by
  obtain ⟨h0, h1, h2, h3⟩ := h
  refine ⟨by rw [xi_s (by omega)]; exact h0, fun a ha => by rw [xi_s (by omega)]; exact h1 a ha, fun a ha => ?_, fun a y b ha hy hb q => by rw [xi_s (by omega)]; exact h3 a y b ha hy hb q⟩
  by_cases e : a = s
  · subst e; rw [xi_e]; exact hv
  · rw [xi_s (by omega)]; exact h2 a (by omega)
theorem mkW.W {I : Nat → Nat → Int32} {g n X : Nat} {st en : Nat → Int32} {wt : Nat → Nat → Nat → Int32} {s x t : Nat} {v : Int32} (h : mkW I g n X st en wt (s + 1) (s + 1) s x t) (hs : s < n) (hx : x < X) (ht : t < n) (hn : n ≤ 4) (hX : X ≤ 3) (hv : v = wt s x t) : mkW (xi I 210 (57 * g + (9 + 12 * s + 4 * x + t)) v) g n X st en wt (s + 1) (s + 1) s x (t + 1) := by
  obtain ⟨h0, h1, h2, h3⟩ := h
  refine ⟨by rw [xi_s (by omega)]; exact h0, fun a ha => by rw [xi_s (by omega)]; exact h1 a ha, fun a ha => by rw [xi_s (by omega)]; exact h2 a ha, fun a y b ha hy hb q => ?_⟩
  by_cases e : a = s ∧ y = x ∧ b = t
  · obtain ⟨rfl, rfl, rfl⟩ := e; rw [xi_e]; exact hv
  · rw [xi_s (by omega)]; exact h3 a y b ha hy hb (by omega)
theorem mkW.X {I : Nat → Nat → Int32} {g n X : Nat} {st en : Nat → Int32} {wt : Nat → Nat → Nat → Int32} {s1 s2 s x t : Nat} (h : mkW I g n X st en wt s1 s2 s x t) (ht : n ≤ t) : mkW I g n X st en wt s1 s2 s (x + 1) 0 := ⟨h.1, h.2.1, h.2.2.1, fun a y b ha hy hb q => h.2.2.2 a y b ha hy hb (by omega)⟩
theorem mkW.N {I : Nat → Nat → Int32} {g n X : Nat} {st en : Nat → Int32} {wt : Nat → Nat → Nat → Int32} {s1 s2 s x : Nat} (h : mkW I g n X st en wt s1 s2 s x 0) (hx : X ≤ x) : mkW I g n X st en wt s1 s2 (s + 1) 0 0 := ⟨h.1, h.2.1, h.2.2.1, fun a y b ha hy hb q => h.2.2.2 a y b ha hy hb (by omega)⟩
theorem mkW.fr {T : List Nat} {I I' : Nat → Nat → Int32} {g n X : Nat} {st en : Nat → Int32} {wt : Nat → Nat → Nat → Int32} {s1 s2 s x t : Nat} (h : mkW I g n X st en wt s1 s2 s x t) (hf : Fr T I I') (hT : 210 ∉ T) : mkW I' g n X st en wt s1 s2 s x t := by
  have e := hf 210 hT
  unfold mkW; rw [e]; exact h
/-- a machine all written -/
theorem mkW.rep {I : Nat → Nat → Int32} {L g n X : Nat} {st en : Nat → Int32} {wt : Nat → Nat → Nat → Int32} {A : Mac} (h : mkW I g n X st en wt n n n 0 0) (hn : A.1 = n) (h4 : n ≤ 4) (hX : L ≤ X) (h1 : ∀ a, a < n → st a = nI (A.2.1 a)) (h2 : ∀ a, a < n → en a = nI (A.2.2.1 a)) (h3 : ∀ a y b, a < n → y < L → b < n → wt a y b = nI (A.2.2.2 a y b)) : mRep I L g A := by
  subst hn
  exact ⟨h4, h.1, fun a ha => by rw [h.2.1 a ha]; exact h1 a ha, fun a ha => by rw [h.2.2.1 a ha]; exact h2 a ha, fun a y b ha hy hb => by rw [h.2.2.2 a y b ha (by omega) hb (Or.inl ha)]; exact h3 a y b ha hy hb⟩
section MODR
variable {sh : List xSh} {I : Nat → Nat → Int32} {R : Nat → Nat → Option Nat}
theorem w_cellOf {pl s : Nat} {Q : Int32 → xHp → Prop} (hW : xLay sh R) (hs : pl + s < 57) (k : Q (I 210 (57 * 32 + (pl + s))) (sh, I, R)) : CI mX10_cellOf [.ref 209, .int (nI pl), .int (nI s)] (sh, I, R) Q := by
  refine eX10_cellOf (bX10_cellOf_0 hW ⟨fun _ => ?_, fun z => absurd z (nI_m4 (by omega))⟩)
  rw [nI_add]
  refine w_at (m := 32) hW (bX10_cellOf_23 hW ⟨vp_nI (by omega) (by omega), ?_⟩)
  rw [nclamp (by omega)]
  exact k
def turnA (σ : St) : Int32 × St := (nI σ.t.A.1, σ.set_t (Tb.nw (mTurn σ.t.A)))
def dropA (σ : St) (s : Int32) : Int32 × St := if inB s σ.t.A.1 then (nI (σ.t.A.1 - 1), σ.set_t (Tb.nw (mDrop σ.t.A (nN s)))) else (-1, σ)
def scaleA (σ : St) (v : Int32) : Int32 × St := if inB v σ.p then (nI σ.t.A.1, σ.set_t (Tb.nw (mScale σ.p σ.t.A (nN v)))) else (-1, σ)
noncomputable def shrinkA (σ : St) [NeZero σ.p] : Int32 × St := (nI (BS σ.p σ.L σ.t.A).length, σ.set_t (Tb.nw (LeM σ.p σ.L σ.t.A)))
theorem w_turn {σ : St} {Q : Int32 → xHp → Prop} (hW : xLay sh R) (h : mdR I σ) (k : ∀ I', mdR I' (turnA σ).2 → mFr I I' → Q (turnA σ).1 (sh, I', R)) : CI mX10_turn [.ref 209] (sh, I, R) Q := by
  obtain ⟨_, h4, hok, -⟩ := h.ok.t
  have hL3 := h.ok.L3
  generalize hn : σ.t.A.1 = n at *
  have hr := h.A
  refine eX10_turn (bX10_turn_0 hW (w_copies (m := 0) (m2 := 32) hW (by decide) (by decide) (by decide) (fun I1 hf1 hg1 hc1 => bX10_turn_7 hW (w_many (m := 0) hW (by decide) ?_))))
  have e0 : I1 210 (57 * 0) = nI n := by rw [hg1 _ (fun m hm => by rw [List.mem_singleton.mp hm]; omega), hr.2.1, hn]
  rw [e0]
  refine bX10_turn_12 hW ?_
  generalize hst : (fun a => I 210 (57 * 0 + (5 + a))) = st
  generalize hen : (fun a => I 210 (57 * 0 + (1 + a))) = en
  generalize hwt : (fun a y b => I 210 (57 * 0 + (9 + 12 * b + 4 * y + a))) = wt
  have cp : ∀ (I2 : Nat → Nat → Int32), pgF [0] I1 I2 → ∀ c, c < 57 → I2 210 (57 * 32 + c) = I 210 (57 * 0 + c) := fun I2 hg c hc => by rw [hg _ (fun m hm => by rw [List.mem_singleton.mp hm]; omega), hc1 c hc]
  have loopS : ∀ j s (I2 : Nat → Nat → Int32), s + j = n → Fr [210] I1 I2 → pgF [0] I1 I2 → mkW I2 0 n 3 st en wt s s s 0 0 → Ex mX10_turn 15 [.ref 209, .int (nI n), .int (nI s), xU, xU] [] (sh, I2, R) 0 0 (xqI Q) := by
    intro j
    induction j with
    | zero =>
      intro s I2 hs hf2 hg2 hm
      obtain rfl : s = n := by omega
      refine bX10_turn_15 hW ⟨fun _ => ?_, fun q => absurd (nI_le (Nat.le_refl _) (by omega)) q⟩
      refine w_anewP (A := mTurn σ.t.A) hW h (hf1.tr hf2) ((hg1.up (by simp)).tr (hg2.up (by simp))) (hm.rep (show σ.t.A.1 = s from hn) (by omega) hL3 (fun a ha => ?_) (fun a ha => ?_) (fun a y b ha hy hb => ?_)) ⟨fun a ha => hok.2.1 a ha, fun a ha => hok.1 a ha, fun a y b ha hy hb => hok.2.2 b y a hb hy ha⟩ (fun I' h1 h2 _ => bX10_turn_115 hW ?_)
      · rw [← hst]; exact hr.2.2.2.1 a (by omega)
      · rw [← hen]; exact hr.2.2.1 a (by omega)
      · rw [← hwt]; exact hr.2.2.2.2 b y a (by omega) hy (by omega)
      · have := k I' h1 h2
        unfold turnA at this
        rw [hn] at this
        exact this
    | succ j ih =>
      intro s I2 hs hf2 hg2 hm
      have loopX : ∀ j2 x (I3 : Nat → Nat → Int32), x + j2 = 3 → Fr [210] I1 I3 → pgF [0] I1 I3 → mkW I3 0 n 3 st en wt (s + 1) (s + 1) s x 0 → Ex mX10_turn 60 [.ref 209, .int (nI n), .int (nI s), .int (nI x), xU] [] (sh, I3, R) 0 0 (xqI Q) := by
        intro j2
        induction j2 with
        | zero =>
          intro x I3 hx hf3 hg3 hm3
          refine bX10_turn_60 hW ⟨fun _ => ?_, fun q => absurd (nI_le (by omega) (by omega)) q⟩
          rw [nI_add]
          exact ih (s + 1) I3 (by omega) hf3 hg3 (hm3.N (by omega))
        | succ j2 ih2 =>
          intro x I3 hx hf3 hg3 hm3
          refine bX10_turn_60 hW ⟨fun q => absurd q (nI_ge (by omega) (by omega)), fun _ => ?_⟩
          have loopT : ∀ j3 t (I4 : Nat → Nat → Int32), t + j3 = n → Fr [210] I1 I4 → pgF [0] I1 I4 → mkW I4 0 n 3 st en wt (s + 1) (s + 1) s x t → Ex mX10_turn 68 [.ref 209, .int (nI n), .int (nI s), .int (nI x), .int (nI t)] [] (sh, I4, R) 0 0 (xqI Q) := by
            intro j3
            induction j3 with
            | zero =>
              intro t I4 ht hf4 hg4 hm4
              refine bX10_turn_68 hW ⟨fun _ => ?_, fun q => absurd (nI_le (by omega) (by omega)) q⟩
              rw [nI_add]
              exact ih2 (x + 1) I4 (by omega) hf4 hg4 (hm4.X (by omega))
            | succ j3 ih3 =>
              intro t I4 ht hf4 hg4 hm4
              refine bX10_turn_68 hW ⟨fun q => absurd q (nI_ge (by omega) (by omega)), fun _ => w_weight (m := 32) hW (by decide) (by omega) (by omega) (by omega) (bX10_turn_90 hW ?_)⟩
              refine w_weighs (m := 0) hW (by decide) (by omega) (by omega) (by omega) (bX10_turn_93 hW ?_)
              rw [nI_add]
              refine ih3 (t + 1) _ (by omega) (hf4.xi (by simp)) (hg4.xi (m := 0) (by simp) (by omega)) (hm4.W (by omega) (by omega) (by omega) (by omega) (by omega) ?_)
              rw [← hwt]
              exact cp I4 hg4 _ (by omega)
          exact loopT n 0 I3 (by omega) hf3 hg3 hm3
      refine bX10_turn_15 hW ⟨fun q => absurd q (nI_ge (by omega) (by omega)), fun _ => ?_⟩
      rw [nI_add]
      refine w_at (m := 0) hW (bX10_turn_32 hW (w_cellOf hW (by omega) (bX10_turn_38 hW ⟨vp_nI (by omega) (by omega), ?_⟩)))
      rw [nclamp (by omega), nI_add, cp I2 hg2 _ (by omega)]
      have hg3 : pgF [0] I1 (xi I2 210 (57 * 0 + (1 + s)) (I 210 (57 * 0 + (5 + s)))) := hg2.xi (m := 0) (by simp) (by omega)
      refine w_at (m := 0) hW (bX10_turn_51 hW (w_cellOf hW (by omega) (bX10_turn_57 hW ⟨vp_nI (by omega) (by omega), ?_⟩)))
      rw [nclamp (by omega), cp _ hg3 _ (by omega)]
      refine loopX 3 0 _ (by omega) ((hf2.xi (by simp)).xi (by simp)) (hg3.xi (m := 0) (by simp) (by omega)) ((hm.S (by omega) (by omega) (by omega) (by rw [← hst])).E (by omega) (by omega) (by omega) (by rw [← hen]))
  refine loopS n 0 I1 (by omega) Fr.rf pgF.rf ⟨e0, fun a ha => by omega, fun a ha => by omega, fun a y b _ _ _ q => by omega⟩
end MODR
