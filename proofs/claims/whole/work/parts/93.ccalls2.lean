section CC2
variable {sh : List xSh} {I : Nat → Nat → Int32} {R : Nat → Nat → Option Nat}
theorem k_space {σ : St} [NeZero σ.p] {m w : Int32} {Q : Int32 → xHp → Prop} (hW : clR sh I R σ) (k : ∀ I' R', clR sh I' R' σ → cFr I I' → Q (spaceA σ m w) (sh, I', R')) : CI mX9_space [.ref 0, .int m, .int w] (sh, I, R) Q := by
  unfold spaceA at k
  have hp := hW.ok.p
  have hL1 := hW.ok.L1
  have bad : ¬ inB m 3 ∨ ¬ inB w 3 → Q (-1) (sh, I, R) := fun hn => by
    have k2 := k I R hW cFr.rf
    by_cases e : inB w 3
    · rw [if_pos e] at k2
      rcases hn with z | z
      · unfold ansM at k2; rw [if_neg z] at k2; exact k2
      · exact absurd e z
    · rw [if_neg e] at k2; exact k2
  refine eX9_space (bX9_space_0 hW.lay (k_isMachine hW.lay (fun a ha hlt => bX9_space_4 hW.lay ⟨fun z => absurd z (by decide), fun _ => ⟨fun z => bad (Or.inr (fun y => by have := lt0.mp z; have := y.1; omega)), fun z => ?_⟩⟩) (fun hn => bX9_space_4 hW.lay ⟨fun _ => bad (Or.inl hn), fun z => absurd rfl z⟩)))
  subst ha
  have h0 : 0 ≤ w.toInt := by
    by_cases y : w.toInt < 0
    · exact absurd (lt0.mpr y) z
    · omega
  have hwb : nN w < 2 ^ 31 := by have := Int32.toInt_lt w; unfold nN; omega
  rw [← nI_N h0] at k bad ⊢
  generalize hc : nN w = c at k bad hwb ⊢
  refine ⟨fun z => ?_, fun z => bad (Or.inr (fun y => ?_))⟩
  · have hc2 := (nI_leI hwb (by omega)).mp z
    rw [if_pos ((inB_n (by omega)).mpr (by omega)), nN_n (by omega)] at k
    refine k_machineOf hW hlt (fun I1 R1 q hW1 hf hans hcM h4 hok hq hqs => ⟨fun z => absurd z (by simp), fun b hb => ?_⟩) (fun hans => ⟨fun _ => bX9_space_23N hW.lay ?_, fun b hb => absurd hb (by simp)⟩)
    · cases hb
      obtain ⟨h, t, hh⟩ := hW1.ht
      simp only [hans] at k
      refine bX9_space_23 hW1.lay hq ⟨fun z0 => ?_, fun z0 => ?_⟩
      · refine k_seeAll hW1.lay hW1.ctx hq (by omega) (by omega) hcM h4 hok hh (fun I2 R2 K E rc o2 hr2 hh2 h92 hs2 hE hb2 => ?_)
        have hW2 := hr2.lay hW1.lay
        refine bX9_space_67 hW2 ⟨fun z1 => ?_, fun z1 => ?_⟩
        · refine k_widen hW2 (hW1.ctx.ou o2 (by omega)) h92 (hr2.mach hq (by omega)) (by omega) (by omega) (hcM.ou o2 (by omega)) hok hh2 hs2 hb2 (fun I3 n P f3 hcl hb3 => bX9_space_90 hW2 ?_)
          have hcl2 : ClsN (dpw (RW σ.p σ.L (mOf σ a) (fun i => i)) (fst σ.L 4)) σ.L n [] P := ClsN_congr (fun B w => by rw [RW_fun hL1]; exact dpw_colEq hE B w) hcl
          have hBS := cls_BS hp hL1 h4 hcl2
          have o3 : Ou 23 82 I1 I3 := o2.tr (fun c hc => f3 c (by omega))
          have k2 := k I3 R2 (hW1.scr (sF.of o3) hr2 ⟨_, _, hh2⟩) (hf.tr (sF.of o3).c)
          have hc2' : c = 2 := by
            have h0 : c ≠ 0 := fun e => z0 (by rw [e]; rfl)
            have h1 : c ≠ 1 := fun e => z1 (by rw [e])
            omega
          subst hc2'
          unfold dimN at k2
          rw [if_neg (by decide), if_neg (by decide), ← hBS] at k2
          rw [hb3.1]; exact k2
        · have hc1' : c = 1 := (nI_eq (by omega) (by omega)).mp z1
          subst hc1'
          have k2 := k I2 R2 (hW1.scr (sF.of o2) hr2 ⟨_, _, hh2⟩) (hf.tr (sF.of o2).c)
          unfold dimN at k2
          rw [if_neg (by decide), if_pos rfl, ← col_len hp hs2 hE] at k2
          rw [hs2.bd.2.1]; exact k2
      · have hc0' : c = 0 := (nI_eq (a := c) (b := 0) (by omega) (by omega)).mp z0
        subst hc0'
        refine k_seeStates hW1.lay hW1.ctx hq (by omega) (by omega) hcM hh (fun I2 R2 K E rc o2 hr2 hh2 h92 hs2 hE hb2 => ?_)
        have hW2 := hr2.lay hW1.lay
        refine bX9_space_43 hW2 (k_widen hW2 (hW1.ctx.ou o2 (by omega)) h92 (hr2.mach hq (by omega)) (by omega) (by omega) (hcM.ou o2 (by omega)) hok hh2 hs2 hb2 (fun I3 n P f3 hcl hb3 => bX9_space_50 hW2 ?_))
        have hFV := FV_len hp hL1 h4 hE hcl
        have o3 : Ou 23 82 I1 I3 := o2.tr (fun c hc => f3 c (by omega))
        have k2 := k I3 R2 (hW1.scr (sF.of o3) hr2 ⟨_, _, hh2⟩) (hf.tr (sF.of o3).c)
        unfold dimN at k2
        rw [if_pos rfl, ← hFV] at k2
        rw [hb3.1]; exact k2
    · have k2 := k I R hW cFr.rf
      rw [hans] at k2; exact k2
  · have := (inB_n (by omega)).mp y
    exact z (nI_le (by omega) (by omega))
/-- the first word by which the teacher and another differ -/
theorem k_fd {σ : St} [NeZero σ.p] {a : Nat} {B : Mac} {Q : Int32 → xHp → Prop} (hW : clR sh I R σ) (ha : xMach sh R a 4) (hab : a + 3 < 23 ∨ 173 ≤ a) (ha1 : 1 < a) (hB : cM I σ.L a 4 B) (hokB : okM σ.p σ.L B)
    (k : ∀ I' R', clR sh I' R' σ → sF I I' → (∀ w, dfO σ.p σ.L σ.t.A B = some w → wlen σ.L w ≤ 7) → Q (oI (dfO σ.p σ.L σ.t.A B)) (sh, I', R')) : CI mX9_firstDifference [.ref 0, .ref a] (sh, I, R) Q := by
  have hp := hW.ok.p
  have hL1 := hW.ok.L1
  have hL3 := hW.ok.L3
  obtain ⟨hp2, hp97⟩ := PR_bd _ hp
  obtain ⟨hA4, hokA⟩ := hW.okA
  obtain ⟨h, t, hh⟩ := hW.ht
  have hB4 := hB.1
  have h169 := hW.m169
  refine eX9_firstDifference (bX9_firstDifference_0 hW.lay ha (k_become (n := 0) hW.lay h169 (by omega) hL3 (by omega) hW.mc.2 (fun I1 f1 c1 => bX9_firstDifference_8 hW.lay ha ?_)))
  have hc1 : cCtx I1 σ.p σ.L := hW.ctx.fr f1 (by decide)
  refine k_append (f := 1) hW.lay hc1 h169 hW.m12 (by omega) (by omega) (by omega) (by omega) c1 (hW.A.fr f1 (by simp)) hokA (by omega) (by show 0 + σ.t.A.1 ≤ 8; omega) (fun I2 f2 c2 => bX9_firstDifference_23 hW.lay ha ?_)
  have hc2 : cCtx I2 σ.p σ.L := hc1.fr f2 (by decide)
  rw [hc2.1, pk_sub (by omega)]
  refine k_append (f := σ.p - 1) hW.lay hc2 h169 ha (by omega) (by omega) (by omega) (by omega) c2 ((hB.fr f1 (by simp <;> omega)).fr f2 (by simp <;> omega)) hokB (by omega) (by show 0 + σ.t.A.1 + B.1 ≤ 8; omega) (fun I3 f3 c3 => bX9_firstDifference_40 hW.lay ?_)
  have f03 : Fr (mPl 169) I I3 := (f1.tr f2).tr f3
  have hc3 : cCtx I3 σ.p σ.L := hc2.fr f3 (by decide)
  have hD : cM I3 σ.L 169 8 (DMa σ.p σ.t.A B) := by
    refine c3.same ?_ (fun s hs => ?_) (fun s hs => ?_) (fun s x u hs hx hu => ?_)
    · show σ.t.A.1 + B.1 = 0 + σ.t.A.1 + B.1; omega
    · show (if s < σ.t.A.1 then _ else _) = (if s < 0 + σ.t.A.1 then (if s < 0 then 0 else σ.t.A.2.1 (s - 0) * 1 % σ.p) else B.2.1 (s - (0 + σ.t.A.1)) * (σ.p - 1) % σ.p)
      rw [Nat.zero_add, if_neg (Nat.not_lt_zero s), Nat.sub_zero]
    · show (if s < σ.t.A.1 then _ else _) = (if s < 0 + σ.t.A.1 then (if s < 0 then 0 else σ.t.A.2.2.1 (s - 0)) else B.2.2.1 (s - (0 + σ.t.A.1)))
      rw [Nat.zero_add, if_neg (Nat.not_lt_zero s), Nat.sub_zero]
    · show (if s < σ.t.A.1 then _ else _) = (if s < 0 + σ.t.A.1 then (if u < 0 + σ.t.A.1 then (if s < 0 then (if u < 0 then 0 else 0) else if u < 0 then 0 else σ.t.A.2.2.2 (s - 0) x (u - 0)) else 0) else if u < 0 + σ.t.A.1 then 0 else B.2.2.2 (s - (0 + σ.t.A.1)) x (u - (0 + σ.t.A.1)))
      rw [Nat.zero_add, if_neg (Nat.not_lt_zero s), if_neg (Nat.not_lt_zero u), Nat.sub_zero, Nat.sub_zero]
  have hokD : okM σ.p σ.L (DMa σ.p σ.t.A B) := by
    refine ⟨fun s hs => ?_, fun s hs => ?_, fun s x u hs hx hu => ?_⟩
    · show (if s < σ.t.A.1 then _ else _) < σ.p
      split <;> exact Nat.mod_lt _ (by omega)
    · have hs2 : s < σ.t.A.1 + B.1 := hs
      show (if s < σ.t.A.1 then _ else _) < σ.p
      split
      · exact hokA.2.1 s (by omega)
      · exact hokB.2.1 _ (by omega)
    · have hs2 : s < σ.t.A.1 + B.1 := hs
      have hu2 : u < σ.t.A.1 + B.1 := hu
      show (if s < σ.t.A.1 then (if u < σ.t.A.1 then _ else _) else if u < σ.t.A.1 then _ else _) < σ.p
      split
      · split
        · exact hokA.2.2 s x u (by omega) hx (by omega)
        · omega
      · split
        · omega
        · exact hokB.2.2 _ x _ (by omega) hx (by omega)
  have sf : ∀ I4, Ou 23 82 I3 I4 → sF I I4 := fun I4 o4 => ⟨fun c hc => by rw [o4 c (by omega), f03 c (by simp <;> omega)], by rw [o4.at 169 1 (by omega), hD.2.1]; exact hW.mc.2.symm⟩
  refine k_first hW.lay hc3 h169 (by omega) (by omega) hD hokD hh (fun I4 R4 N P i o4 hr4 hh4 hP hall hi hne hz => bX9_firstDifference_51 (hr4.lay hW.lay) ?_) (fun I4 R4 N P o4 hr4 hh4 hP hall hz => bX9_firstDifference_51 (hr4.lay hW.lay) ?_)
  · obtain ⟨e1, e2⟩ := fd_some hp hL1 hP hall (by omega) hi hne hz
    have k2 := k I4 R4 (hW.scr (sf I4 o4) hr4 ⟨_, _, hh4⟩) (sf I4 o4) (fun w hw => by rw [e1] at hw; cases hw; exact e2)
    rw [e1] at k2
    exact k2
  · have e1 := fd_none hp hL1 hP hall hz
    have k2 := k I4 R4 (hW.scr (sf I4 o4) hr4 ⟨_, _, hh4⟩) (sf I4 o4) (fun w hw => by rw [e1] at hw; exact absurd hw (by simp))
    rw [e1] at k2
    exact k2
theorem k_counter {σ : St} [NeZero σ.p] {Q : Int32 → xHp → Prop} (hW : clR sh I R σ) (k : ∀ I' R', clR sh I' R' σ → cFr I I' → Q (counterA σ) (sh, I', R')) : CI mX9_counter [.ref 0] (sh, I, R) Q := by
  obtain ⟨_, hA4, hokA, hokG, -⟩ := hW.ok.t
  unfold counterA at k
  refine eX9_counter (bX9_counter_0 hW.lay ?_)
  rw [hW.st.2.1]
  cases hg : σ.t.g with
  | false => rw [hg] at k; exact ⟨fun _ => k I R hW cFr.rf, fun z => absurd rfl z⟩
  | true =>
    rw [hg] at k
    refine ⟨fun z => absurd z (by decide), fun _ => k_fd hW hW.m16 (by omega) (by omega) (hW.st.2.2.1 hg) (hokG hg).2 (fun I1 R1 hW1 hs _ => bX9_counter_21 hW1.lay ?_)⟩
    exact k I1 R1 hW1 hs.c
theorem k_isImage {v : Int32} {Q : Int32 → xHp → Prop} (hW : xLay sh R) (k1 : ∀ a, v = nI a → a < 2 → Q (nI 1) (sh, I, R)) (k0 : ¬ inB v 2 → Q (nI 0) (sh, I, R)) : CI mX9_isImage [.int v] (sh, I, R) Q := by
  refine eX9_isImage (bX9_isImage_0 hW ⟨fun q => k0 (fun z => by have := lt0.mp q; have := z.1; omega), fun q => ?_⟩)
  have h0 : 0 ≤ v.toInt := by
    by_cases y : v.toInt < 0
    · exact absurd (lt0.mpr y) q
    · omega
  have hvb : nN v < 2 ^ 31 := by have := Int32.toInt_lt v; unfold nN; omega
  rw [← nI_N h0]
  refine ⟨fun q2 => k0 (fun z => ?_), fun q2 => k1 (nN v) (nI_N h0).symm ?_⟩
  · have h2 := (nI_leI (by omega) hvb).mp q2
    have := z.2
    unfold nN at h2; omega
  · rcases Nat.lt_or_ge (nN v) 2 with y | y
    · exact y
    · exact absurd (nI_le y hvb) q2
theorem k_isShelf {v : Int32} {Q : Int32 → xHp → Prop} (hW : xLay sh R) (k1 : ∀ a, v = nI a → a < 3 → Q (nI 1) (sh, I, R)) (k0 : ¬ inB v 3 → Q (nI 0) (sh, I, R)) : CI mX9_isShelf [.int v] (sh, I, R) Q := by
  refine eX9_isShelf (bX9_isShelf_0 hW ⟨fun q => k0 (fun z => by have := lt0.mp q; have := z.1; omega), fun q => ?_⟩)
  have h0 : 0 ≤ v.toInt := by
    by_cases y : v.toInt < 0
    · exact absurd (lt0.mpr y) q
    · omega
  have hvb : nN v < 2 ^ 31 := by have := Int32.toInt_lt v; unfold nN; omega
  rw [← nI_N h0]
  refine ⟨fun q2 => k0 (fun z => ?_), fun q2 => k1 (nN v) (nI_N h0).symm ?_⟩
  · have h2 := (nI_leI (by omega) hvb).mp q2
    have := z.2
    unfold nN at h2; omega
  · rcases Nat.lt_or_ge (nN v) 3 with y | y
    · exact y
    · exact absurd (nI_le y hvb) q2
theorem k_isLane {v : Int32} {Q : Int32 → xHp → Prop} (hW : xLay sh R) (k1 : ∀ a, v = nI a → a < 3 → Q (nI 1) (sh, I, R)) (k0 : ¬ inB v 3 → Q (nI 0) (sh, I, R)) : CI mX9_isLane [.int v] (sh, I, R) Q := by
  refine eX9_isLane (bX9_isLane_0 hW ⟨fun q => k0 (fun z => by have := lt0.mp q; have := z.1; omega), fun q => ?_⟩)
  have h0 : 0 ≤ v.toInt := by
    by_cases y : v.toInt < 0
    · exact absurd (lt0.mpr y) q
    · omega
  have hvb : nN v < 2 ^ 31 := by have := Int32.toInt_lt v; unfold nN; omega
  rw [← nI_N h0]
  refine ⟨fun q2 => k0 (fun z => ?_), fun q2 => k1 (nN v) (nI_N h0).symm ?_⟩
  · have h2 := (nI_ltI (by omega) hvb).mp q2
    have := z.2
    unfold nN at h2; omega
  · rcases Nat.lt_or_ge (nN v) 3 with y | y
    · exact y
    · exact absurd (nI_lt (show 2 < nN v by omega) hvb) q2
theorem clR.img {σ : St} (h : clR sh I R σ) {k : Nat} (hk : k < 2) : xStudy sh R (178 + 11 * k) := h.lay.2.2.2.1 k hk
theorem k_differ {σ : St} [NeZero σ.p] {i : Int32} {Q : Int32 → xHp → Prop} (hW : clR sh I R σ) (k : ∀ I' R', clR sh I' R' σ → cFr I I' → Q (differA σ i) (sh, I', R')) : CI mX9_differ [.ref 0, .int i] (sh, I, R) Q := by
  unfold differA at k
  refine eX9_differ (bX9_differ_0 hW.lay (k_isImage hW.lay (fun a ha hlt => bX9_differ_4 hW.lay ⟨fun _ => ⟨?_, ?_⟩, fun z => absurd z (by decide)⟩) (fun hn => bX9_differ_4 hW.lay ⟨fun z => absurd rfl z, fun _ => ?_⟩)))
  · rw [ha]; exact vp_nI hlt (by omega)
  · subst ha
    rw [if_pos ((inB_n (by omega)).mpr hlt), nN_n (by omega)] at k
    rw [nclamp (by omega)]
    have hk := hW.kept a hlt
    cases hkp : σ.kept a with
    | none =>
      rw [hkp] at hk k
      rw [show I 21 a = nI 0 from hk]
      exact ⟨fun _ => k I R hW cFr.rf, fun z => absurd rfl z⟩
    | some τ =>
      rw [hkp] at hk k
      obtain ⟨_, hA4, hokA, -⟩ := hW.ok.kept a τ hkp
      rw [hk.1]
      refine ⟨fun z => absurd z (by decide), fun _ => ⟨vp_nI hlt (by omega), k_fd hW (hW.img hlt).2.2.2.2.2.2.2.2.1 (by omega) (by omega) hk.2.1 hokA (fun I1 R1 hW1 hs _ => bX9_differ_31 hW1.lay (k I1 R1 hW1 hs.c))⟩⟩
  · rw [if_neg hn] at k; exact k I R hW cFr.rf
theorem k_basis {σ : St} [NeZero σ.p] {i : Int32} {Q : Int32 → xHp → Prop} (hW : clR sh I R σ) (k : ∀ I' R', clR sh I' R' σ → cFr I I' → Q (basisA σ i) (sh, I', R')) : CI mX9_basis [.ref 0, .int i] (sh, I, R) Q := by
  unfold basisA at k
  refine eX9_basis (bX9_basis_0 hW.lay ⟨fun z => ?_, fun z => ?_⟩)
  · have h0 := le0_n z
    have hib : nN i < 2 ^ 31 := by have := Int32.toInt_lt i; unfold nN; omega
    rw [if_neg (by omega)] at k
    refine k_least hW (fun I1 R1 hW1 hf hmade hc hw => ⟨fun z => absurd z (by simp), fun b hb => ?_⟩)
    cases hb
    have k2 := k I1 R1 hW1 hf
    have h4 := hc.1
    have hG1 := hmade.1
    refine bX9_basis_11 hW1.lay hW1.m173 ?_
    rw [hc.2.2.1, hG1, ← nI_N h0]
    refine ⟨fun y => ?_, fun y => ?_⟩
    · rw [if_neg (fun w => absurd y (nI_ge w (by omega)))] at k2; exact k2
    · have hlt : nN i < (BS σ.p σ.L σ.t.A).length := by
        rcases Nat.lt_or_ge (nN i) (BS σ.p σ.L σ.t.A).length with w | w
        · exact w
        · exact absurd (nI_le w hib) y
      rw [if_pos hlt] at k2
      refine ⟨vp_nI (by omega) (by omega), ?_⟩
      rw [nclamp hib, hw _ hlt]; exact k2
  · rw [if_pos (by by_cases y : i.toInt < 0
                   · exact y
                   · exact absurd (Int32.le_iff_toInt_le.mpr (by simp; omega)) z)] at k
    exact k I R hW cFr.rf
theorem k_prefix {σ : St} {i : Int32} {Q : Int32 → xHp → Prop} (hW : clR sh I R σ) (k : Q (prefixA σ i) (sh, I, R)) : CI mX9_prefix [.ref 0, .int i] (sh, I, R) Q := by
  unfold prefixA at k
  have hb := hW.ok.t.bd
  refine eX9_prefix (bX9_prefix_0 hW.lay ⟨fun z => ?_, fun z => ?_⟩)
  · have h0 := le0_n z
    have hib : nN i < 2 ^ 31 := by have := Int32.toInt_lt i; unfold nN; omega
    rw [if_neg (by omega)] at k
    rw [hW.st.2.2.2.2.1, ← nI_N h0]
    refine ⟨fun y => ?_, fun y => ?_⟩
    · rw [if_neg (fun w => absurd y (nI_ge w (by omega)))] at k; exact k
    · have hlt : nN i < σ.t.P.length := by
        rcases Nat.lt_or_ge (nN i) σ.t.P.length with w | w
        · exact w
        · exact absurd (nI_le w hib) y
      rw [if_pos hlt] at k
      refine ⟨vp_nI (by omega) (by omega), ?_⟩
      rw [nclamp hib, hW.st.2.2.2.2.2.1 _ hlt]; exact k
  · rw [if_pos (by by_cases y : i.toInt < 0
                   · exact y
                   · exact absurd (Int32.le_iff_toInt_le.mpr (by simp; omega)) z)] at k
    exact k
theorem k_suffix {σ : St} {i : Int32} {Q : Int32 → xHp → Prop} (hW : clR sh I R σ) (k : Q (suffixA σ i) (sh, I, R)) : CI mX9_suffix [.ref 0, .int i] (sh, I, R) Q := by
  unfold suffixA at k
  have hb := hW.ok.t.bd
  refine eX9_suffix (bX9_suffix_0 hW.lay ⟨fun z => ?_, fun z => ?_⟩)
  · have h0 := le0_n z
    have hib : nN i < 2 ^ 31 := by have := Int32.toInt_lt i; unfold nN; omega
    rw [if_neg (by omega)] at k
    rw [hW.st.2.2.2.2.2.2.1, ← nI_N h0]
    refine ⟨fun y => ?_, fun y => ?_⟩
    · rw [if_neg (fun w => absurd y (nI_ge w (by omega)))] at k; exact k
    · have hlt : nN i < σ.t.S.length := by
        rcases Nat.lt_or_ge (nN i) σ.t.S.length with w | w
        · exact w
        · exact absurd (nI_le w hib) y
      rw [if_pos hlt] at k
      refine ⟨vp_nI (by omega) (by omega), ?_⟩
      rw [nclamp hib, hW.st.2.2.2.2.2.2.2.1 _ hlt]; exact k
  · rw [if_pos (by by_cases y : i.toInt < 0
                   · exact y
                   · exact absurd (Int32.le_iff_toInt_le.mpr (by simp; omega)) z)] at k
    exact k
theorem k_fault {σ : St} {Q : Int32 → xHp → Prop} (hW : clR sh I R σ) (k : Q σ.fault (sh, I, R)) : CI mX9_fault [.ref 0] (sh, I, R) Q := eX9_fault (bX9_fault_0 hW.lay (by rw [hW.fault]; exact k))
theorem row_lt {L P r : Nat} (hL : 0 < L) (h1 : P ≤ r) (h2 : r < P * (1 + L)) : (r - P) / L < P := by
  rw [Nat.div_lt_iff_lt_mul hL]
  rw [Nat.mul_add, Nat.mul_one] at h2
  omega
theorem k_isRow {σ : St} {r : Int32} {Q : Int32 → xHp → Prop} (hW : clR sh I R σ) (k1 : ∀ b, r = nI b → b < σ.t.P.length * (1 + σ.L) → Q (nI 1) (sh, I, R)) (k0 : ¬ inB r (σ.t.P.length * (σ.L + 1)) → Q (nI 0) (sh, I, R)) : CI mX9_isRow [.ref 0, .int r] (sh, I, R) Q := by
  have hb := hW.ok.t.bd
  have hL3 := hW.ok.L3
  have hm : σ.t.P.length * (1 + σ.L) ≤ 4 * 4 := Nat.mul_le_mul hb.1 (by omega)
  rw [Nat.add_comm σ.L 1] at k0
  refine eX9_isRow (bX9_isRow_0 hW.lay ⟨fun q => k0 (fun z => by have := lt0.mp q; have := z.1; omega), fun q => ?_⟩)
  have h0 : 0 ≤ r.toInt := by
    by_cases y : r.toInt < 0
    · exact absurd (lt0.mpr y) q
    · omega
  have hvb : nN r < 2 ^ 31 := by have := Int32.toInt_lt r; unfold nN; omega
  rw [hW.st.2.2.2.2.1, hW.ctx.2.1, nI_add, pk_mul, ← nI_N h0]
  refine ⟨fun q2 => k0 (fun z => ?_), fun q2 => k1 (nN r) (nI_N h0).symm ?_⟩
  · have h2 := (nI_leI (by omega) hvb).mp q2
    have := z.2
    unfold nN at h2; omega
  · rcases Nat.lt_or_ge (nN r) (σ.t.P.length * (1 + σ.L)) with y | y
    · exact y
    · exact absurd (nI_le y hvb) q2
theorem k_wordOfRow {σ : St} {b : Nat} {Q : Int32 → xHp → Prop} (hW : clR sh I R σ) (hb : b < σ.t.P.length * (1 + σ.L)) (k : Q (nI (rowW σ.L σ.t.P b)) (sh, I, R)) : CI mX9_wordOfRow [.ref 0, .int (nI b)] (sh, I, R) Q := by
  have hbd := hW.ok.t.bd
  have hL1 := hW.ok.L1
  have hL3 := hW.ok.L3
  have hm : σ.t.P.length * (1 + σ.L) ≤ 4 * 4 := Nat.mul_le_mul hbd.1 (by omega)
  unfold rowW at k
  refine eX9_wordOfRow (bX9_wordOfRow_0 hW.lay ?_)
  rw [hW.st.2.2.2.2.1, hW.ctx.2.1]
  refine ⟨fun z => ?_, fun z => ?_⟩
  · have hle := (nI_leI (by omega) (by omega)).mp z
    rw [if_neg (by omega)] at k
    have hd := row_lt hL1 hle hb
    rw [pk_sub hle, pk_div (by omega) (by omega) (by omega), nclamp (by omega), xrem_nI (by omega) (by omega) (by omega), hW.st.2.2.2.2.2.1 _ hd]
    exact ⟨nI_ne0 (by omega) (by omega), vp_nI (by omega) (by omega), nI_ne0 (by omega) (by omega), k_withLetter hW.lay hW.ctx (bX9_wordOfRow_64 hW.lay k)⟩
  · have hlt : b < σ.t.P.length := by
      rcases Nat.lt_or_ge b σ.t.P.length with w | w
      · exact w
      · exact absurd (nI_le w (by omega)) z
    rw [if_pos hlt] at k
    refine ⟨vp_nI (by omega) (by omega), ?_⟩
    rw [nclamp (by omega), hW.st.2.2.2.2.2.1 _ hlt]; exact k
theorem rowW_len4 {p L : Nat} [NeZero p] (hL : 0 < L) {A : Mac} {P S : List Nat} (ht : tabOK p L A P S) (h4 : P.length ≤ 4) {b : Nat} (hb : b < P.length * (1 + L)) : wlen L (rowW L P b) ≤ 4 := by
  have hl := pfxs_len hL ht.1
  unfold rowW
  split
  · rename_i h; have := hl b h; omega
  · rename_i h
    have hd := row_lt hL (show P.length ≤ b by omega) hb
    rw [wlen_x (Nat.mod_lt _ hL)]
    have := hl _ hd; omega
theorem k_cell {σ : St} [NeZero σ.p] {r c : Int32} {Q : Int32 → xHp → Prop} (hW : clR sh I R σ) (k : ∀ I' R', clR sh I' R' σ → cFr I I' → Q (cellA σ r c) (sh, I', R')) : CI mX9_cell [.ref 0, .int r, .int c] (sh, I, R) Q := by
  unfold cellA at k
  have hL1 := hW.ok.L1
  have hL3 := hW.ok.L3
  have hbd := hW.ok.t.bd
  obtain ⟨_, hA4, hokA, -, ht, -⟩ := hW.ok.t
  have no : ¬ (inB r (σ.t.P.length * (σ.L + 1)) ∧ inB c σ.t.S.length) → Q (-1) (sh, I, R) := fun hn => by
    have k2 := k I R hW cFr.rf
    rw [if_neg hn] at k2; exact k2
  refine eX9_cell (bX9_cell_0 hW.lay (k_isRow hW (fun b hb hblt => bX9_cell_5 hW.lay ⟨fun z => absurd z (by decide), fun _ => ⟨fun z => no (fun y => by have := lt0.mp z; have := y.2.1; omega), fun z => ?_⟩⟩) (fun hn => bX9_cell_5 hW.lay ⟨fun _ => no (fun z => hn z.1), fun z => absurd rfl z⟩)))
  subst hb
  have hm : σ.t.P.length * (1 + σ.L) ≤ 4 * 4 := Nat.mul_le_mul hbd.1 (by omega)
  have h0 : 0 ≤ c.toInt := by
    by_cases y : c.toInt < 0
    · exact absurd (lt0.mpr y) z
    · omega
  have hcb : nN c < 2 ^ 31 := by have := Int32.toInt_lt c; unfold nN; omega
  rw [hW.st.2.2.2.2.2.2.1, ← nI_N h0]
  refine ⟨fun y => ?_, fun y => no (fun w => ?_)⟩
  · have hclt := (nI_ltI hcb (by omega)).mp y
    have hrl := rowW_len4 hL1 ht hbd.1 hblt
    have hsl := ht.2.1 _ hclt
    refine k_wordOfRow hW hblt (bX9_cell_45 hW.lay ⟨vp_nI (by omega) (by omega), ?_⟩)
    rw [nclamp hcb, hW.st.2.2.2.2.2.2.2.1 _ hclt]
    refine k_withWord hW.lay hW.ctx (wl_lt31 hL1 hL3 (by omega)) (by omega) (bX9_cell_57 hW.lay ?_)
    obtain ⟨h, t, hh⟩ := hW.ht
    refine k_valueOf hW.lay hW.ctx hW.m12 (by omega) (by omega) hW.A hokA hh (by rw [wlen_cat hL1]; omega) (fun I2 R2 h2 t2 hr2 hh2 f2 => bX9_cell_60 (hr2.g.lay hW.lay) ?_)
    have o2 : Ou 23 82 I I2 := Ou.of f2 (by simp)
    have k2 := k I2 R2 (hW.scr (sF.of o2) hr2.g ⟨_, _, hh2⟩) (sF.of o2).c
    rw [if_pos ⟨(inB_n (by omega)).mpr (by rw [Nat.add_comm σ.L 1]; exact hblt), ⟨h0, by unfold nN at hclt; omega⟩⟩, nN_n (by omega)] at k2
    exact k2
  · have := w.2.2
    refine y (nI_lt ?_ (by omega))
    unfold nN; omega
end CC2
