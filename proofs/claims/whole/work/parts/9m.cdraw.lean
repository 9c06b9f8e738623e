section CDRAW
variable {sh : List xSh} {I : Nat → Nat → Int32} {R : Nat → Nat → Option Nat}
/-- how far a machine is drawn -/
def dn (J : Nat → Nat → Int32) (L n : Nat) (st en : Nat → Nat) (wt : Nat → Nat → Nat → Nat) (i e s x t : Nat) : Prop :=
  (∀ a, a < 4 → J 13 a = nI (if a < i then st a else 0)) ∧ (∀ a, a < 4 → J 14 a = nI (if a < e then en a else 0)) ∧ ∀ a y b, a < 4 → y < L → b < 4 → J 15 ((a * 3 + y) * 4 + b) = nI (if b < n ∧ (a < s ∨ (a = s ∧ (y < x ∨ (y = x ∧ b < t)))) then wt a y b else 0)
theorem if_iff {P P' : Prop} [Decidable P] [Decidable P'] {a : Nat} (h : P ↔ P') : (if P then a else 0) = if P' then a else 0 := by
  by_cases q : P
  · rw [if_pos q, if_pos (h.mp q)]
  · rw [if_neg q, if_neg (fun z => q (h.mpr z))]
theorem dn.t {J : Nat → Nat → Int32} {L n i e s x : Nat} {st en : Nat → Nat} {wt : Nat → Nat → Nat → Nat} (h : dn J L n st en wt i e s x n) : dn J L n st en wt i e s (x + 1) 0 := ⟨h.1, h.2.1, fun a y b ha hy hb => by rw [h.2.2 a y b ha hy hb, if_iff (P' := b < n ∧ (a < s ∨ (a = s ∧ (y < x + 1 ∨ (y = x + 1 ∧ b < 0))))) (by omega)]⟩
theorem dn.x {J : Nat → Nat → Int32} {L n i e s : Nat} {st en : Nat → Nat} {wt : Nat → Nat → Nat → Nat} (h : dn J L n st en wt i e s L 0) : dn J L n st en wt i e (s + 1) 0 0 := ⟨h.1, h.2.1, fun a y b ha hy hb => by rw [h.2.2 a y b ha hy hb, if_iff (P' := b < n ∧ (a < s + 1 ∨ (a = s + 1 ∧ (y < 0 ∨ (y = 0 ∧ b < 0))))) (by omega)]⟩
theorem dn.eq {J J' : Nat → Nat → Int32} {L n i e s x t : Nat} {st en : Nat → Nat} {wt : Nat → Nat → Nat → Nat} (h : dn J L n st en wt i e s x t) (h1 : J' 13 = J 13) (h2 : J' 14 = J 14) (h3 : J' 15 = J 15) : dn J' L n st en wt i e s x t := ⟨by rw [h1]; exact h.1, by rw [h2]; exact h.2.1, by rw [h3]; exact h.2.2⟩
theorem k_draw {σ : St} {seed v : Int32} {Q : Int32 → xHp → Prop} (hW : clR sh I R σ) (hlen : sh.length < 1000000) (k : ∀ sh' I' R', clR sh' I' R' (drawA σ seed v).2 → cFr I I' → sh'.length ≤ sh.length + 1 → Q (drawA σ seed v).1 (sh', I', R')) : Ex mX9_draw 0 [.ref 0, .int seed, .int v, xU, xU, xU, xU, xU] [] (sh, I, R) (0 + 1) (0 + xN 2) (xqI Q) := by
  unfold drawA at k
  have hl := hW.lay.len
  have hp2 := PR_bd _ hW.ok.p
  have hL1 := hW.ok.L1
  have hL3 := hW.ok.L3
  have out : ¬ inB v 5 → Q (-1) (sh, I, R) := fun hn => by have := k sh I R; rw [if_neg hn] at this; exact this hW cFr.rf (by omega)
  have e4 : (nI 4).toInt = 4 := nI_toInt (by omega)
  refine bX9_draw_0 hW.lay ⟨fun z => out (fun y => by have := lt0.mp z; have := y.1; omega), fun z => ⟨fun y => ?_, fun y => out (fun w => y (Int32.le_iff_toInt_le.mpr (by rw [e4]; have := w.2; omega)))⟩⟩
  have h0 : 0 ≤ v.toInt := by
    by_cases w : v.toInt < 0
    · exact absurd (lt0.mpr w) z
    · omega
  have h4 := Int32.le_iff_toInt_le.mp y
  rw [e4] at h4
  rw [if_pos ⟨h0, by omega⟩] at k
  have hv := nI_N h0
  have hn4 : nN v ≤ 4 := by unfold nN; omega
  rw [← hv]
  clear hv out y z h4 h0
  generalize nN v = n at k hn4 ⊢
  -- the dice
  refine xw_new dX9_draw_11 nX9_303 hlen ?_
  generalize hq : sh.length = q at *
  have hpu : xpush (sh, I, R) (.inl 2) = (sh ++ [.inl 2], (fun a => if a = q then (fun _ => 0) else I a), (fun a => if a = q then (fun _ => none) else R a)) := by rw [← hq]; rfl
  rw [hpu]
  generalize hsh1 : sh ++ [.inl 2] = sh1
  generalize hI1 : (fun a => if a = q then (fun _ => (0 : Int32)) else I a) = I1
  generalize hR1 : (fun a => if a = q then (fun _ => none) else R a) = R1
  have gs : gS sh sh1 := by rw [← hsh1]; exact push_S
  have gr : gR sh.length R R1 := fun a ha => by rw [← hR1]; show (if a = q then _ else _) = _; rw [if_neg (by omega)]
  have g1 : ∀ a, a ≠ q → I1 a = I a := fun a ha => by rw [← hI1]; exact if_neg ha
  have hqs : sh1[q]? = some (.inl 2) := by rw [← hsh1, ← hq]; exact push_at
  have hlen1 : sh1.length = q + 1 := by rw [← hsh1, ← hq, List.length_append]; rfl
  have hL : xLay sh1 R1 := hW.lay.gr gs gr
  refine xw_dup dX9_draw_14 rfl ?_
  refine xw_iload_n dX9_draw_15 rfl rfl ?_
  refine xw_aload_n dX9_draw_16 rfl rfl ?_
  refine yw_getR (r := 1) dX9_draw_17 fX9_10 rfl (la_0 hL) (lr_0_0 hL) ?_
  refine yw_getI (v := nI σ.p) dX9_draw_20 fX9_129 rfl (la_1 hL) (by rw [g1 1 (by omega)]; exact hW.ctx.1) ?_
  refine Ex.z (xw_callI (Y' := mX2_init) (As := [.int seed, .int (nI σ.p)]) (b := q) (st := [.ref q]) dX9_draw_23 lX9_305 kiX2_init rfl rfl (xB_of rfl) rfl rfl (Nat.le_of_ble_eq_true rfl) (Nat.le_of_ble_eq_true rfl) (xk_V (x2_init hqs ?_)))
  refine yw_sub (lv' := [.ref 0, xU, .int (nI n), xU, xU, xU, xU, xU]) ⟨Or.inr rfl, Or.inl rfl, Or.inr rfl, Or.inl rfl, Or.inl rfl, Or.inl rfl, Or.inl rfl, Or.inl rfl, trivial⟩ ?_
  generalize hI2 : xi (xi I1 q 1 seed) q 0 (nI σ.p) = I2
  have g2 : ∀ a, a ≠ q → I2 a = I a := fun a ha => by rw [← hI2]; funext j; rw [xi_p ha, xi_p ha, g1 a ha]
  have q0 : I2 q 0 = nI σ.p := by rw [← hI2, xi_e]
  have q1 : I2 q 1 = seed := by rw [← hI2, xi_s (by decide), xi_e]
  have hW2 : clR sh1 I2 R1 σ := hW.gr gs gr (fun c hc => g2 c (by omega))
  refine bX9_draw_26 hL hqs (k_become (L := σ.L) hL hW2.m12 (by omega) hL3 hn4 (hW2.mc.1 12 (by decide)) (fun I3 f3 c3 => bX9_draw_42 hL hqs ?_))
  have p0 : I3 q 0 = nI σ.p := by rw [f3.at q 0 (by simp; omega)]; exact q0
  have p1 : I3 q 1 = dst seed 0 := by rw [f3.at q 1 (by simp; omega)]; exact q1
  let K := 2 + σ.L * n
  let st : Nat → Nat := fun s => rs σ.p seed (s * K)
  let en : Nat → Nat := fun s => rs σ.p seed (s * K + 1)
  let wt : Nat → Nat → Nat → Nat := fun s x t => rs σ.p seed (s * K + 2 + (x * n + t))
  have res : ∀ (J : Nat → Nat → Int32) (c : Nat) (Q2 : Int32 → xHp → Prop), J q 0 = nI σ.p → J q 1 = dst seed c → Q2 (nI (rs σ.p seed c)) (sh1, xi J q 1 (dst seed (c + 1)), R1) → CI mX2_nextResidue [.ref q] (sh1, J, R1) Q2 := fun J c Q2 h0 hd hk => k_next2 hL hqs (by omega) (by omega) h0 hd hk
  let inv : (Nat → Nat → Int32) → Nat → Nat → Nat → Nat → Nat → Nat → Prop := fun J c i e s x t => Fr [13, 14, 15, q] I3 J ∧ J q 0 = nI σ.p ∧ J q 1 = dst seed c ∧ dn J σ.L n st en wt i e s x t
  have loopS : ∀ j s (J : Nat → Nat → Int32), s + j = n → inv J (s * K) s s s 0 0 → Ex mX9_draw 45 [.ref 0, xU, .int (nI n), .ref q, .ref 12, .int (nI s), xU, xU] [] (sh1, J, R1) 0 0 (xqI Q) := by
    intro j
    induction j with
    | zero =>
      intro s J hs hJ
      obtain rfl : s = n := by omega
      obtain ⟨fJ, -, -, d1, d2, d3⟩ := hJ
      refine bX9_draw_45 hL hqs ⟨fun _ => ?_, fun w => absurd (nI_le (Nat.le_refl _) (by omega)) w⟩
      have cJ : cM J σ.L 12 4 (mDraw σ.p σ.L seed s) := by
        refine ⟨hn4, ?_, ?_, fun a ha => d1 a ha, fun a ha => d2 a ha, fun a y b ha hy hb => ?_⟩
        · rw [fJ.at 12 1 (by simp; omega)]; exact c3.2.1
        · rw [fJ.at 12 2 (by simp; omega)]; exact c3.2.2.1
        · rw [d3 a y b ha hy hb, if_iff (P' := a < (mDraw σ.p σ.L seed s).1 ∧ b < (mDraw σ.p σ.L seed s).1) (by show _ ↔ a < s ∧ b < s; omega)]; rfl
      have gJ : ∀ c, c ∉ [12, 13, 14, 15] → c ≠ q → J c = I c := fun c h1 h2 => by
        simp at h1
        rw [fJ c (by simp; omega), f3 c (by simp; omega), g2 c h2]
      have hb : clR sh1 (fun c => if c = q then J q else I c) R1 σ := hW.gr gs gr (fun c hc => if_neg (by omega))
      refine k_changed hb (I1 := J) (R1 := R1) (fun c hc => ?_) (fun j hj => ?_) ?_ ?_ rG.rf hb.ht cJ ⟨fun a ha => rsd_lt (by omega) _, fun a ha => rsd_lt (by omega) _, fun a y b ha hy hb => rsd_lt (by omega) _⟩ (fun I9 h9 hf9 _ => bX9_draw_142 h9.lay (k sh1 I9 R1 h9 (fun c h1 h2 => (hf9 c h1 h2).trans (if_neg (by omega))) (by omega)))
      · by_cases e : c = q
        · subst e; exact (if_pos rfl).symm
        · rw [gJ c (by simp; omega) e]; exact (if_neg e).symm
      · rw [gJ 0 (by simp) (by omega)]; show _ = (if 0 = q then J q else I 0) j; rw [if_neg (by omega)]
      · rw [gJ 169 (by simp) (by omega)]; show _ = (if 169 = q then J q else I 169) 1; rw [if_neg (by omega)]
      · rw [gJ 173 (by simp) (by omega)]; exact hW.mc.1 173 (by decide)
    | succ j ih =>
      intro s J hs hJ
      obtain ⟨fJ, j0, j1, jd⟩ := hJ
      refine bX9_draw_45 hL hqs ⟨fun w => absurd w (nI_ge (by omega) (by omega)), fun _ => res J (s * K) _ j0 j1 (bX9_draw_62 hL hqs ⟨vp_nI (by omega) (by omega), ?_⟩)⟩
      rw [nclamp (a := s) (by omega)]
      generalize hJ1 : xi (xi J q 1 (dst seed (s * K + 1))) 13 s (nI (rs σ.p seed (s * K))) = J1
      have a0 : J1 q 0 = nI σ.p := by rw [← hJ1, xi_p (by omega), xi_s (by decide)]; exact j0
      have a1 : J1 q 1 = dst seed (s * K + 1) := by rw [← hJ1, xi_p (by omega), xi_e]
      refine res J1 (s * K + 1) _ a0 a1 (bX9_draw_74 hL hqs ⟨vp_nI (by omega) (by omega), ?_⟩)
      rw [nclamp (a := s) (by omega)]
      have i0 : inv (xi (xi J1 q 1 (dst seed (s * K + 1 + 1))) 14 s (nI (rs σ.p seed (s * K + 1)))) (s * K + 2) (s + 1) (s + 1) s 0 0 := by
        refine ⟨((Fr.tr (by rw [← hJ1]; exact (fJ.xi (by simp)).xi (by simp)) (Fr.rf.xi (by simp))).xi (by simp)), by rw [xi_p (by omega), xi_s (by decide)]; exact a0, by rw [xi_p (by omega), xi_e], fun a ha => ?_, fun a ha => ?_, fun a y b ha hy hb => ?_⟩
        · rw [xi_p (by decide), xi_p (by omega), ← hJ1]
          by_cases e : a = s
          · subst e; rw [xi_e, if_pos (by omega)]
          · rw [xi_s e, xi_p (by omega), jd.1 a ha, if_iff (P' := a < s + 1) (by omega)]
        · by_cases e : a = s
          · subst e; rw [xi_e, if_pos (by omega)]
          · rw [xi_s e, xi_p (by omega), ← hJ1, xi_p (by decide), xi_p (by omega), jd.2.1 a ha, if_iff (P' := a < s + 1) (by omega)]
        · rw [xi_p (by decide), xi_p (by omega), ← hJ1, xi_p (by decide), xi_p (by omega)]; exact jd.2.2 a y b ha hy hb
      have loopX : ∀ j2 x (J2 : Nat → Nat → Int32), x + j2 = σ.L → inv J2 (s * K + 2 + x * n) (s + 1) (s + 1) s x 0 → Ex mX9_draw 78 [.ref 0, xU, .int (nI n), .ref q, .ref 12, .int (nI s), .int (nI x), xU] [] (sh1, J2, R1) 0 0 (xqI Q) := by
        intro j2
        induction j2 with
        | zero =>
          intro x J2 hx hJ2
          obtain rfl : x = σ.L := by omega
          obtain ⟨fJ2, b0, b1, bd⟩ := hJ2
          have hc : J2 1 1 = nI σ.L := by rw [fJ2.at 1 1 (by simp; omega), f3.at 1 1 (by simp)]; exact hW2.ctx.2.1
          refine bX9_draw_78 hL hqs ?_
          rw [hc]
          refine ⟨fun _ => ?_, fun w => absurd (nI_le (Nat.le_refl _) (by omega)) w⟩
          rw [show nI s + nI 1 = nI (s + 1) from nI_add s 1]
          refine ih (s + 1) J2 (by omega) ⟨fJ2, b0, ?_, bd.x⟩
          rw [b1]; congr 1
          show s * (2 + σ.L * n) + 2 + σ.L * n = (s + 1) * (2 + σ.L * n)
          rw [Nat.add_mul s 1]; omega
        | succ j2 ih2 =>
          intro x J2 hx hJ2
          have hc : J2 1 1 = nI σ.L := by rw [hJ2.1.at 1 1 (by simp; omega), f3.at 1 1 (by simp)]; exact hW2.ctx.2.1
          refine bX9_draw_78 hL hqs ?_
          rw [hc]
          refine ⟨fun w => absurd w (nI_ge (by omega) (by omega)), fun _ => ?_⟩
          have loopT : ∀ j3 t (J3 : Nat → Nat → Int32), t + j3 = n → inv J3 (s * K + 2 + (x * n + t)) (s + 1) (s + 1) s x t → Ex mX9_draw 93 [.ref 0, xU, .int (nI n), .ref q, .ref 12, .int (nI s), .int (nI x), .int (nI t)] [] (sh1, J3, R1) 0 0 (xqI Q) := by
            intro j3
            induction j3 with
            | zero =>
              intro t J3 ht hJ3
              obtain rfl : t = n := by omega
              obtain ⟨fJ3, c0, c1, cd⟩ := hJ3
              refine bX9_draw_93 hL hqs ⟨fun _ => ?_, fun w => absurd (nI_le (Nat.le_refl _) (by omega)) w⟩
              rw [show nI x + nI 1 = nI (x + 1) from nI_add x 1]
              refine ih2 (x + 1) J3 (by omega) ⟨fJ3, c0, ?_, cd.t⟩
              rw [c1]; congr 1
              rw [Nat.add_mul x 1]; omega
            | succ j3 ih3 =>
              intro t J3 ht hJ3
              obtain ⟨fJ3, c0, c1, cd⟩ := hJ3
              refine bX9_draw_93 hL hqs ⟨fun w => absurd w (nI_ge (by omega) (by omega)), fun _ => k_at hL hW2.m12 (by rw [fJ3.at 12 1 (by simp; omega)]; exact c3.2.1) (bX9_draw_115 hL hqs (res J3 _ _ c0 c1 (bX9_draw_119 hL hqs ?_)))⟩
              rw [nclamp (a := (s * 3 + x) * 4 + t) (by omega), show nI t + nI 1 = nI (t + 1) from nI_add t 1]
              refine ⟨vp_nI (by omega) (by omega), ih3 (t + 1) _ (by omega) ⟨(fJ3.xi (by simp)).xi (by simp), by rw [xi_p (by omega), xi_s (by decide)]; exact c0, by rw [xi_p (by omega), xi_e]; rfl, fun a ha => ?_, fun a ha => ?_, fun a y b ha hy hb => ?_⟩⟩
              · rw [xi_p (by decide), xi_p (by omega)]; exact cd.1 a ha
              · rw [xi_p (by decide), xi_p (by omega)]; exact cd.2.1 a ha
              · by_cases e : a = s ∧ y = x ∧ b = t
                · obtain ⟨rfl, rfl, rfl⟩ := e
                  rw [xi_e, if_pos (by omega)]
                · rw [xi_s (fun z => e (wix_inj (by omega) (by omega) (by omega) (by omega) z)), xi_p (by omega), cd.2.2 a y b ha hy hb, if_iff (P' := b < n ∧ (a < s ∨ (a = s ∧ (y < x ∨ (y = x ∧ b < t + 1))))) (by omega)]
          refine loopT n 0 J2 (by omega) ?_
          exact hJ2
      refine loopX σ.L 0 _ (by omega) ?_
      rw [Nat.zero_mul]
      exact i0
  refine loopS n 0 I3 (by omega) ⟨Fr.rf, p0, by rw [Nat.zero_mul]; exact p1, fun a ha => ?_, fun a ha => ?_, fun a y b ha hy hb => ?_⟩
  · rw [if_neg (by omega)]
    have := c3.2.2.2.1 a ha
    rw [show I3 13 a = _ from this]; show nI (if a < n then 0 else 0) = _; split <;> rfl
  · rw [if_neg (by omega)]
    have := c3.2.2.2.2.1 a ha
    rw [show I3 14 a = _ from this]; show nI (if a < n then 0 else 0) = _; split <;> rfl
  · rw [if_neg (by omega)]
    have := c3.2.2.2.2.2 a y b ha hy hb
    rw [show I3 15 _ = _ from this]; show nI (if a < n ∧ b < n then 0 else 0) = _; split <;> rfl
end CDRAW
