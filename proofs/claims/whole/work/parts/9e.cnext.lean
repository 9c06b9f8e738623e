section CNEXT
variable {sh : List xSh} {I : Nat → Nat → Int32} {R : Nat → Nat → Option Nat}
theorem k_next {T : List Nat} {y : Pz Nat} {Q : xHp → Prop} (hW : xLay sh R) (hT : cT I T) (hP : cP I T y) (k : ∀ I', tF I I' → cK I' T (bnd y (nx T)) → Q (sh, I', R)) : CV mX4_next [.ref 2] (sh, I, R) Q := by
  have hT2 := hT.2.1
  cases y with
  | inl e => exact eX4_next (bX4_next_0 hW ⟨fun z => absurd z (cE.ne hP), fun _ => k I tF.rf hP⟩)
  | inr i =>
    obtain ⟨hB1, hB2, hB3⟩ := hP
    rw [bnd_r] at k
    refine eX4_next (bX4_next_0 hW ⟨fun _ => ?_, fun z => absurd hB1 z⟩)
    -- the token at a
    have tok : ∀ (a : Nat) (I1 : Nat → Nat → Int32), runE T spcC i = a → (a < T.length → T.getD a 0 ≠ 32) → a ≤ T.length → tF I I1 → I1 2 13 = nI 0 → I1 2 2 = nI a → Ex mX4_next 8 [.ref 2, xU] [] (sh, I1, R) 0 0 (xqV Q) := by
      intro a I1 hra hne hal hf h13 h22
      have hTk : tk T i = if T.length ≤ a then (0, a, a) else if lowC (T.getD a 0) = true then (1, a, runE T lowC a) else if digC (T.getD a 0) = true then (if runE T digC a - a ≤ 2 then 2 else 4, a, runE T digC a) else if T.getD a 0 = 59 then (3, a, a + 1) else (4, a, a + 1) := by unfold tk; rw [hra]
      have okr : ∀ t, tk T i = t → t.1 ≠ 4 → nx T i = .inr t ∧ tkOK T t.1 t.2.1 t.2.2 := fun t e h4 => by
        have h := tk_ok (T := T) hB3 (by rw [e]; exact h4)
        rw [e] at h
        exact ⟨by unfold nx; rw [e, if_neg h4], h⟩
      have bad : ∀ t, tk T i = t → t.1 = 4 → t.2.1 = a → nx T i = .inl (1, a) := fun t e h4 ea => by
        unfold nx; rw [e, if_pos h4, ea]
      have hT1 := hT.tF hf
      refine bX4_next_8 hW ?_
      rw [h22, hT1.1]
      rcases Nat.lt_or_ge a T.length with hlt | hge
      · have hb := hT.2.2.2 a
        have hc : I1 3 a = nI (T.getD a 0) := hT1.2.2.1 a hlt
        rw [if_neg (by omega)] at hTk
        refine ⟨fun z => absurd z (nI_ge hlt (by omega)), fun _ => ⟨vp_nI (by omega) (by omega), ?_⟩⟩
        rw [nclamp (a := a) (by omega), hc]
        refine ⟨fun _ => ⟨fun z => absurd z (nI_ge hlt (by omega)), fun _ => ⟨vp_nI (by omega) (by omega), k_kindT hW hb ?_⟩⟩, fun z => absurd ((nI_eq (by omega) (by omega)).mp z) (hne hlt)⟩
        generalize hI2 : xi I1 2 4 (nI a) = I2
        have f2 : tF I I2 := by rw [← hI2]; exact hf.xi (by simp)
        have g13 : I2 2 13 = nI 0 := by rw [← hI2, xi_s (by decide)]; exact h13
        have g2 : I2 2 2 = nI a := by rw [← hI2, xi_s (by decide)]; exact h22
        have g4 : I2 2 4 = nI a := by rw [← hI2, xi_e]
        by_cases hlow : lowC (T.getD a 0) = true
        · rw [if_pos hlow] at hTk
          have ek : kdC (T.getD a 0) = 1 := by unfold kdC; rw [if_pos hlow]
          rw [ek]
          obtain ⟨e1, e2⟩ := okr _ hTk (by simp)
          refine bX4_next_78 hW ⟨fun z => absurd rfl z, fun _ => ?_⟩
          have f3 : tF I (xi I2 2 3 (nI 1)) := f2.xi (by simp)
          refine k_readName (a := a) hW (hT.tF f3) (by rw [xi_s (by decide)]; exact g2) hal (fun I3 t3 s3 e3 => ?_)
          have h3 : I3 2 3 = nI 1 := by rw [s3 3 (by decide), xi_e]
          refine bX4_next_97 hW ⟨fun _ => ⟨fun z => absurd (h3.symm.trans z) (by decide), fun _ => ?_⟩, fun z => absurd (h3.symm.trans z) (by decide)⟩
          refine k I3 (f3.tr t3) ?_
          rw [e1]
          exact ⟨by rw [s3 13 (by decide), xi_s (by decide)]; exact g13, h3, by rw [s3 4 (by decide), xi_s (by decide)]; exact g4, e3, e2, fun z => absurd z (by simp)⟩
        · rw [if_neg hlow] at hTk
          by_cases hdig : digC (T.getD a 0) = true
          · rw [if_pos hdig] at hTk
            have ek : kdC (T.getD a 0) = 2 := by unfold kdC; rw [if_neg hlow, if_pos hdig]
            rw [ek]
            refine bX4_next_78 hW ⟨fun _ => ⟨fun z => absurd rfl z, fun _ => ?_⟩, fun z => absurd z (by decide)⟩
            have f3 : tF I (xi I2 2 3 (nI 2)) := f2.xi (by simp)
            refine k_readNum (a := a) hW (hT.tF f3) (by rw [xi_s (by decide)]; exact g2) hal (fun I3 t3 s3 e3 e5 => ?_)
            have h3 : I3 2 3 = nI 2 := by rw [s3 3 (by decide) (by decide), xi_e]
            have h4 : I3 2 4 = nI a := by rw [s3 4 (by decide) (by decide), xi_s (by decide)]; exact g4
            have h13' : I3 2 13 = nI 0 := by rw [s3 13 (by decide) (by decide), xi_s (by decide)]; exact g13
            have hge := runE_ge (T := T) (f := digC) (i := a)
            have hgb := runE_bd (T := T) (f := digC) (i := a) hal
            have hgt := runE_1 (f := digC) hlt hdig
            refine bX4_next_112 hW ?_
            rw [h3, h4, e3, pk_sub hge]
            refine ⟨fun z => absurd rfl z, fun _ => ⟨fun z => ⟨fun w => absurd w (by decide), fun _ => ?_⟩, fun z => ⟨fun w => absurd w (by decide), fun _ => ?_⟩⟩⟩
            · have hle := (nI_leI (by omega) (by omega)).mp z
              rw [if_pos hle] at hTk
              obtain ⟨e1, e2⟩ := okr _ hTk (by simp)
              refine k I3 (f3.tr t3) ?_
              rw [e1]
              exact ⟨h13', h3, h4, e3, e2, fun _ => e5 (by omega)⟩
            · have hgt : ¬ runE T digC a - a ≤ 2 := fun w => z (nI_le w (by omega))
              rw [if_neg hgt] at hTk
              refine k_refuse hW h13' (by omega) (by omega) (show a ≤ 200 by omega) (fun I4 t4 s4 c4 => bX4_next_181 hW (k I4 ((f3.tr t3).tr t4) ?_))
              rw [bad _ hTk rfl rfl]; exact c4
          · rw [if_neg hdig] at hTk
            by_cases h59 : T.getD a 0 = 59
            · rw [if_pos h59] at hTk
              have ek : kdC (T.getD a 0) = 3 := by unfold kdC; rw [if_neg hlow, if_neg hdig, if_pos h59]
              rw [ek]
              obtain ⟨e1, e2⟩ := okr _ hTk (by simp)
              refine bX4_next_78 hW ⟨fun _ => ⟨fun _ => ⟨fun z => absurd rfl z, fun _ => ⟨fun _ => ⟨fun z => absurd z (by decide), fun _ => ?_⟩, fun z => absurd z (by decide)⟩⟩, fun z => absurd z (by decide)⟩, fun z => absurd z (by decide)⟩
              refine k _ ((f2.xi (by simp)).xi (by simp)) ?_
              rw [e1]
              exact ⟨by rw [xi_s (by decide), xi_s (by decide)]; exact g13, by rw [xi_s (by decide), xi_e], by rw [xi_s (by decide), xi_s (by decide)]; exact g4, by rw [xi_e, g2]; exact nI_add a 1, e2, fun z => absurd z (by simp)⟩
            · rw [if_neg h59] at hTk
              have ek : kdC (T.getD a 0) = 4 := by unfold kdC; rw [if_neg hlow, if_neg hdig, if_neg h59]
              rw [ek]
              refine bX4_next_78 hW ⟨fun _ => ⟨fun _ => ⟨fun _ => ⟨fun _ => ⟨fun _ => ?_, fun z => absurd rfl z⟩, fun z => absurd z (by decide)⟩, fun z => absurd z (by decide)⟩, fun z => absurd z (by decide)⟩, fun z => absurd z (by decide)⟩
              rw [g4]
              have f3 : tF I (xi I2 2 3 (nI 4)) := f2.xi (by simp)
              refine k_refuse hW (by rw [xi_s (by decide)]; exact g13) (by omega) (by omega) (show a ≤ 200 by omega) (fun I4 t4 s4 c4 => bX4_next_181 hW (k I4 (f3.tr t4) ?_))
              rw [bad _ hTk rfl rfl]; exact c4
      · rw [if_pos hge] at hTk
        obtain ⟨e1, e2⟩ := okr _ hTk (by simp)
        refine ⟨fun _ => ⟨fun _ => ⟨fun _ => ⟨fun _ => ⟨fun _ => ⟨fun _ => ⟨fun z => absurd z (by decide), fun _ => ?_⟩, fun z => absurd z (by decide)⟩, fun z => absurd z (by decide)⟩, fun z => absurd z (by decide)⟩, fun z => absurd z (by decide)⟩, fun z => absurd (nI_le hge (by omega)) z⟩, fun z => absurd (nI_le hge (by omega)) z⟩
        refine k _ ((hf.xi (by simp)).xi (by simp)) ?_
        rw [e1]
        exact ⟨by rw [xi_s (by decide), xi_s (by decide)]; exact h13, xi_e, by rw [xi_s (by decide), xi_e], by rw [xi_s (by decide), xi_s (by decide)]; exact h22, e2, fun z => absurd z (by simp)⟩
    have loop : ∀ m c (I1 : Nat → Nat → Int32), c + m = T.length → runE T spcC c = runE T spcC i → tF I I1 → I1 2 13 = nI 0 → I1 2 2 = nI c → Ex mX4_next 8 [.ref 2, xU] [] (sh, I1, R) 0 0 (xqV Q) := by
      intro m
      induction m with
      | zero =>
        intro c I1 hc hr hf h13 h22
        exact tok c I1 (by rw [← hr]; exact runE_n (fun z => absurd z (by omega))) (fun z => absurd z (by omega)) (by omega) hf h13 h22
      | succ m ih =>
        intro c I1 hc hr hf h13 h22
        by_cases hs : T.getD c 0 = 32
        · have hT1 := hT.tF hf
          have hb := hT.2.2.2 c
          refine bX4_next_8 hW ?_
          rw [h22, hT1.1, nclamp (a := c) (by omega), hT1.2.2.1 c (by omega), hs]
          refine ⟨fun z => absurd z (nI_ge (by omega) (by omega)), fun _ => ⟨vp_nI (by omega) (by omega), fun z => absurd rfl z, fun _ => ?_⟩⟩
          rw [show nI c + nI 1 = nI (c + 1) from nI_add c 1]
          refine ih (c + 1) _ (by omega) ?_ (hf.xi (by simp)) (by rw [xi_s (by decide)]; exact h13) xi_e
          rw [← hr]; exact (runE_y (i := c) (by omega) (by unfold spcC; rw [hs]; rfl)).symm
        · refine tok c I1 ?_ (fun _ => hs) (by omega) hf h13 h22
          rw [← hr]; exact runE_n (fun _ => by unfold spcC; simpa using hs)
    exact loop (T.length - i) i I (by omega) rfl tF.rf hB1 hB2
/-- a number -/
theorem k_takeNum {T : List Nat} {y : Pz Nat} {lo hi : Nat} {Q : Int32 → xHp → Prop} (hW : xLay sh R) (hT : cT I T) (hP : cP I T y) (hlo : lo ≤ 99) (hhi : hi ≤ 99)
    (k : ∀ I' v, tF I I' → (∀ r, numP T (bnd y (nx T)) lo hi = .inr r → v = r.1) → (∀ e, numP T (bnd y (nx T)) lo hi = .inl e → v = lo) → cP I' T (bnd (numP T (bnd y (nx T)) lo hi) (fun r => .inr r.2)) → (I' 2 13 = nI 0 → ∃ a, a ≤ 200 ∧ I' 2 4 = nI a ∧ ∃ t, bnd y (nx T) = .inr t ∧ t.2.1 = a) → Q (nI v) (sh, I', R)) : CI mX4_takeNumber [.ref 2, .int (nI lo), .int (nI hi)] (sh, I, R) Q := by
  refine eX4_takeNumber (bX4_takeNumber_0 hW (k_next hW hT hP (fun I1 f1 hK => ?_)))
  generalize hx : bnd y (nx T) = x at *
  have hT2 := hT.2.1
  cases x with
  | inl e =>
    have hn := cE.ne hK
    refine bX4_takeNumber_4 hW ⟨fun _ => ⟨fun _ => ⟨fun _ => ?_, fun z => absurd z hn⟩, fun z => absurd z hn⟩, fun z => absurd z hn⟩
    exact k I1 lo f1 (fun r hr => absurd hr (by simp [numP, bnd])) (fun _ _ => rfl) hK (fun z => absurd z hn)
  | inr t =>
    obtain ⟨h13, h3, h4, h2, hok, h5⟩ := hK
    have ha : t.2.1 ≤ 200 := by have := hok.2.1; have := hok.2.2.1; omega
    have e0 : numP T (.inr t) lo hi = if t.1 = 2 then (if lo ≤ tvl T t.2.1 t.2.2 ∧ tvl T t.2.1 t.2.2 ≤ hi then .inr (tvl T t.2.1 t.2.2, t.2.2) else .inl (3, t.2.1)) else .inl (2, t.2.1) := rfl
    by_cases hk2 : t.1 = 2
    · rw [if_pos hk2] at e0
      have hv := h5 hk2
      have hok2 := hok
      rw [hk2] at hok2
      have hvl := tvl_lt hok2
      by_cases hb : lo ≤ tvl T t.2.1 t.2.2 ∧ tvl T t.2.1 t.2.2 ≤ hi
      · rw [if_pos hb] at e0
        have hfin : Q (nI (tvl T t.2.1 t.2.2)) (sh, I1, R) := k I1 _ f1 (fun r hr => by rw [e0] at hr; cases hr; rfl) (fun e he => by rw [e0] at he; cases he) (by rw [e0]; exact ⟨h13, h2, hok.2.2.1⟩) (fun _ => ⟨t.2.1, ha, h4, t, rfl, rfl⟩)
        refine bX4_takeNumber_4 hW ⟨fun z => absurd h13 z, fun _ => ⟨fun _ => ⟨fun z => absurd h13 z, fun _ => ?_⟩, fun z => absurd (by rw [h3, hk2]) z⟩⟩
        rw [hv]
        exact ⟨fun z => absurd ((nI_ltI (by omega) (by omega)).mp z) (by omega), fun _ => ⟨fun _ => ⟨fun z => absurd h13 z, fun _ => hfin⟩, fun z => absurd (nI_le hb.2 (by omega)) z⟩⟩
      · rw [if_neg hb] at e0
        have hfin : CV mX4_refuse [.ref 2, .int (nI 3), .int (I1 2 4)] (sh, I1, R) (fun h1 => Ex mX4_takeNumber 60 [.ref 2, .int (nI lo), xU] [] h1 0 0 (xqI Q)) := by
          rw [h4]
          refine k_refuse hW h13 (by omega) (by omega) ha (fun I2 f2 s2 c2 => bX4_takeNumber_60 hW ⟨fun _ => ?_, fun z => absurd z (cE.ne c2)⟩)
          exact k I2 lo (f1.tr f2) (fun r hr => by rw [e0] at hr; cases hr) (fun _ _ => rfl) (by rw [e0]; exact c2) (fun z => absurd z (cE.ne c2))
        refine bX4_takeNumber_4 hW ⟨fun z => absurd h13 z, fun _ => ⟨fun _ => ⟨fun z => absurd h13 z, fun _ => ?_⟩, fun z => absurd (by rw [h3, hk2]) z⟩⟩
        rw [hv]
        refine ⟨fun _ => hfin, fun z => ⟨fun w => absurd ⟨?_, (nI_leI (by omega) (by omega)).mp w⟩ hb, fun _ => hfin⟩⟩
        rcases Nat.lt_or_ge (tvl T t.2.1 t.2.2) lo with q | q
        · exact absurd (nI_lt q (by omega)) z
        · exact q
    · rw [if_neg hk2] at e0
      have hk3 := hok.1
      refine bX4_takeNumber_4 hW ⟨fun z => absurd h13 z, fun _ => ⟨fun z => absurd ((nI_eq (by omega) (by omega)).mp (h3.symm.trans z)) hk2, fun _ => ?_⟩⟩
      rw [h4]
      refine k_refuse hW h13 (by omega) (by omega) ha (fun I2 f2 s2 c2 => bX4_takeNumber_28 hW ⟨fun _ => ⟨fun _ => ?_, fun z => absurd z (cE.ne c2)⟩, fun z => absurd z (cE.ne c2)⟩)
      exact k I2 lo (f1.tr f2) (fun r hr => by rw [e0] at hr; cases hr) (fun _ _ => rfl) (by rw [e0]; exact c2) (fun z => absurd z (cE.ne c2))
end CNEXT
