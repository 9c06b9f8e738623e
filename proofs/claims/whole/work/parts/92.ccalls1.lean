/-! THE CLASS'S CALLS: machines, values -/
section CC1
variable {sh : List xSh} {I : Nat → Nat → Int32} {R : Nat → Nat → Option Nat}
theorem clR.m12 {σ : St} (h : clR sh I R σ) : xMach sh R 12 4 := h.lay.2.2.1.2.2.2.2.2.2.2.2.1
theorem clR.m16 {σ : St} (h : clR sh I R σ) : xMach sh R 16 4 := h.lay.2.2.1.2.2.2.2.2.2.2.2.2
theorem clR.m173 {σ : St} (h : clR sh I R σ) : xMach sh R 173 4 := h.lay.2.2.2.2.2.2.2.2.2.2.1
theorem clR.m169 {σ : St} (h : clR sh I R σ) : xMach sh R 169 8 := h.lay.2.2.2.2.2.2.2.2.2.1
theorem LeM_cM {p L q M : Nat} [NeZero p] (hp : p ∈ PR) {A G : Mac} (h : madeOK p L A (BS p L A) (fst L 4) (fun i => i) G) (hr : cM I L q M G) : cM I L q M (LeM p L A) := by
  have h2 := LeM_made h
  have hi : indp (fst L 4) (BS p L A).length (fun j => RW p L A (fun i => i) ((BS p L A).getD j 0)) := BB_ind (isF_p hp) _
  exact hr.same (by rw [h2.1, h.1]) (fun s hs => by rw [h2.2.1 s (by rw [← h.1]; exact hs), h.2.1 s (by rw [← h.1]; exact hs)]) (fun s hs => by rw [h2.2.2.1 s (by rw [← h.1]; exact hs), h.2.2.1 s (by rw [← h.1]; exact hs)]) (fun s x t a b c => madeOK.uniq hi h2 h s x t (by rw [← h.1]; exact a) b (by rw [← h.1]; exact c))
theorem k_least {σ : St} [NeZero σ.p] {Q : Option Nat → xHp → Prop} (hW : clR sh I R σ) (k : ∀ I' R', clR sh I' R' σ → cFr I I' → madeOK σ.p σ.L σ.t.A (BS σ.p σ.L σ.t.A) (fst σ.L 4) (fun i => i) (LeM σ.p σ.L σ.t.A) → cM I' σ.L 173 4 (LeM σ.p σ.L σ.t.A) → (∀ j, j < (BS σ.p σ.L σ.t.A).length → I' 177 j = nI ((BS σ.p σ.L σ.t.A).getD j 0)) → Q (some 173) (sh, I', R')) : CR mX9_leastMachine [.ref 0] (sh, I, R) Q := by
  have hp := hW.ok.p
  have hL1 := hW.ok.L1
  obtain ⟨hA4, hokA⟩ := hW.okA
  obtain ⟨h, t, hh⟩ := hW.ht
  refine eX9_leastMachine (bX9_leastMachine_0 hW.lay ⟨fun z => ?_, fun z => ?_⟩)
  · rcases hW.ls with y | ⟨y1, nz, y0, y2, y3⟩
    · exact absurd y z
    · exact k I R hW cFr.rf y0 y2 y3
  · refine k_seeAll hW.lay hW.ctx hW.m12 (by omega) (by omega) hW.A hA4 hokA hh (fun I1 R1 K E rc o1 hr1 hh1 h91 hs1 hE hb1 => ?_)
    have hW1 := hr1.lay hW.lay
    have hm1 := hr1.mach hW.m12 (by decide)
    have hc1 := hW.ctx.ou o1 (by omega)
    have hA1 : cM I1 σ.L 12 4 σ.t.A := hW.A.ou o1 (by omega)
    refine bX9_leastMachine_21 hW1 (k_widen hW1 hc1 h91 hm1 (by omega) (by omega) hA1 hokA hh1 hs1 hb1 (fun I2 n P f2 hcl hb2 => bX9_leastMachine_28 hW1 ?_))
    have hcl2 : ClsN (dpw (RW σ.p σ.L σ.t.A (fun i => i)) (fst σ.L 4)) σ.L n [] P := ClsN_congr (fun B w => by rw [RW_fun hL1]; exact dpw_colEq hE B w) hcl
    have hBS := cls_BS hp hL1 hA4 hcl2
    obtain ⟨l1, l2⟩ := hb2.le
    have hKn := hs1.bd
    have o2 : Ou 23 82 I I2 := o1.tr (fun c hc => f2 c (by omega))
    have hs2 : spS I2 σ.p 38 σ.t.A.1 K E rc := hs1.eq (by rw [f2 38 (by omega)]) (by rw [f2 38 (by omega)]) (fun c g1 g2 => f2 c (by omega))
    refine k_build hW1 (hW.ctx.ou o2 (by omega)) h91 hm1 (by omega) (by omega) (hW.A.ou o2 (by omega)) hokA hh1 hs2 hb2 (hr1.mach hW.m173 (by decide)) (by omega) (by omega) (by omega) (by omega) (by rw [o2.at 173 1 (by omega)]; exact hW.mc.1 173 (by decide)) (by omega) (fun s x hs hx => (ClsN_end hcl).1.2 s x hs hx) (fun I3 G f3 hG hcM => bX9_leastMachine_40 hW1 ?_)
    have hG1 : G.1 = P.length := hG.1
    rw [hcM.2.2.1, hG1, nclamp (a := 0) (by omega), nclamp (a := P.length) (by omega)]
    refine ⟨⟨⟨by decide, by decide, nI_neg0 (by omega)⟩, by omega, by omega⟩, ?_⟩
    have hmade : madeOK σ.p σ.L σ.t.A (BS σ.p σ.L σ.t.A) (fst σ.L 4) (fun i => i) G := by rw [← hBS]; exact hG.ok hL1 hE.1
    have hLe := LeM_made hmade
    generalize hI4 : xi (xa I3 177 (va_cpy (I3 24) (I3 177) 0 0 P.length)) 0 11 (nI 1) = I4
    have g4 : ∀ c, c ≠ 0 → c ≠ 177 → I4 c = I3 c := fun c h1 h2 => by rw [← hI4]; funext i; rw [xi_p h1, xa_p h2]
    have w4 : ∀ j, j < (BS σ.p σ.L σ.t.A).length → I4 177 j = nI ((BS σ.p σ.L σ.t.A).getD j 0) := fun j hj => by
      rw [← hBS] at hj ⊢
      rw [← hI4, xi_p (by decide), xa_e, cpy0 hj, f3 24 (by decide) (by decide) (by decide) (by decide) (by decide) (by decide) (by omega)]
      exact hb2.2.1 j hj
    have c4 : cM I4 σ.L 173 4 (LeM σ.p σ.L σ.t.A) := LeM_cM hp hmade (hcM.eq (g4 _ (by omega) (by omega)) (g4 _ (by omega) (by omega)) (g4 _ (by omega) (by omega)) (g4 _ (by omega) (by omega)))
    have e4 : ∀ c, (1 ≤ c ∧ c < 23) ∨ 178 ≤ c → I4 c = I c := fun c hc => by rw [g4 c (by omega) (by omega), f3 c (by omega) (by omega) (by omega) (by omega) (by omega) (by omega) (by omega), o2 c (by omega)]
    refine k I4 R1 (hW.scr2 e4 (fun j hj => ?_) ?_ c4.2.1 hr1 ⟨_, _, hh1⟩ (Or.inr ⟨?_, inferInstance, hLe, c4, w4⟩)) (fun c h1 h2 => e4 c (by omega)) hLe c4 w4
    · rw [← hI4, xi_s hj, xa_p (by decide), f3 0 (by decide) (by decide) (by decide) (by decide) (by decide) (by decide) (by omega), o2 0 (by omega)]
    · rw [g4 169 (by decide) (by decide), f3 169 (by decide) (by decide) (by decide) (by decide) (by decide) (by decide) (by omega), o2 169 (by omega)]
    · rw [← hI4, xi_e]
theorem lt0 {v : Int32} : v < 0 ↔ v.toInt < 0 := by
  rw [Int32.lt_iff_toInt_lt]; exact Iff.rfl
theorem k_isMachine {v : Int32} {Q : Int32 → xHp → Prop} (hW : xLay sh R) (k1 : ∀ a, v = nI a → a < 3 → Q (nI 1) (sh, I, R)) (k0 : ¬ inB v 3 → Q (nI 0) (sh, I, R)) : CI mX9_isMachine [.int v] (sh, I, R) Q := by
  refine eX9_isMachine (bX9_isMachine_0 hW ⟨fun q => k0 (fun z => by have := lt0.mp q; have := z.1; omega), fun q => ?_⟩)
  have h0 : 0 ≤ v.toInt := by
    by_cases y : v.toInt < 0
    · exact absurd (lt0.mpr y) q
    · omega
  have hvb : nN v < 2 ^ 31 := by have := Int32.toInt_lt v; unfold nN; omega
  rw [← nI_N h0]
  refine ⟨fun q2 => k0 (fun z => ?_), fun q2 => k1 (nN v) (nI_N h0).symm ?_⟩
  · have h2 := (nI_ltI (by omega) hvb).mp q2
    have := z.2
    unfold nN at h2; omega
  · rcases Nat.lt_or_ge (nN v) 3 with y | y
    · exact y
    · exact absurd (nI_lt (show 2 < nN v by omega) hvb) q2
theorem k_machineOf {σ : St} [NeZero σ.p] {a : Nat} {Q : Option Nat → xHp → Prop} (hW : clR sh I R σ) (ha : a < 3)
    (k1 : ∀ I' R' q, clR sh I' R' σ → cFr I I' → (∀ (α : Type) (f : Mac → α) (e : Int32 → α), ansM σ (nI a) f e = f (mOf σ a)) → cM I' σ.L q 4 (mOf σ a) → (mOf σ a).1 ≤ 4 → okM σ.p σ.L (mOf σ a) → xMach sh R' q 4 → (q = 12 ∨ q = 16 ∨ q = 173) → Q (some q) (sh, I', R'))
    (k0 : (∀ (α : Type) (f : Mac → α) (e : Int32 → α), ansM σ (nI a) f e = e (-2)) → Q none (sh, I, R)) : CR mX9_machineOf [.ref 0, .int (nI a)] (sh, I, R) Q := by
  obtain ⟨_, hA4, hokA, hokG, -⟩ := hW.ok.t
  have hp2 := PR_bd _ hW.ok.p
  have hin : inB (nI a) 3 := (inB_n (by omega)).mpr ha
  have hN : nN (nI a) = a := nN_n (by omega)
  have hans : a ≠ 1 ∨ σ.t.g = true → ∀ (α : Type) (f : Mac → α) (e : Int32 → α), ansM σ (nI a) f e = f (mOf σ a) := fun hg α f e => by
    unfold ansM
    rw [if_pos hin, hN, if_neg (fun q => by rcases hg with z | z; exact z q.1; rw [q.2] at z; exact absurd z (by decide))]
  refine eX9_machineOf (bX9_machineOf_0 hW.lay ⟨fun z0 => ⟨fun z1 => ?_, fun z1 => ?_⟩, fun z0 => ?_⟩)
  · have e2 : a = 2 := by
      have h0 : a ≠ 0 := fun e => z0 (by rw [e]; rfl)
      have h1 : a ≠ 1 := fun e => z1 (by rw [e])
      omega
    subst e2
    have em : mOf σ 2 = LeM σ.p σ.L σ.t.A := by unfold mOf; rw [if_neg (by decide), if_neg (by decide)]
    refine k_least hW (fun I1 R1 hW1 hf hmade hc _ => ⟨fun z => absurd z (by simp), fun b hb => ?_⟩)
    cases hb
    refine bX9_machineOf_43 hW1.lay hW1.m173 (k1 I1 R1 173 hW1 hf (hans (Or.inl (by decide))) (by rw [em]; exact hc) (by rw [em]; exact hc.1) (by rw [em]; exact hmade.ok hp2.1) hW1.m173 (Or.inr (Or.inr rfl)))
  · have e1 : a = 1 := (nI_eq (by omega) (by omega)).mp z1
    subst e1
    rw [hW.st.2.1]
    cases hg : σ.t.g with
    | false =>
      refine ⟨fun _ => k0 (fun α f e => ?_), fun z => absurd rfl z⟩
      unfold ansM
      rw [if_pos hin, if_pos ⟨hN, hg⟩]
    | true =>
      have em : mOf σ 1 = σ.t.G := by unfold mOf; rw [if_neg (by decide), if_pos rfl]
      refine ⟨fun z => absurd z (by decide), fun _ => k1 I R 16 hW cFr.rf (hans (Or.inr hg)) (by rw [em]; exact hW.st.2.2.1 hg) (by rw [em]; exact (hokG hg).1) (by rw [em]; exact (hokG hg).2) hW.m16 (Or.inr (Or.inl rfl))⟩
  · have e0 : a = 0 := (nI_eq (a := a) (b := 0) (by omega) (by omega)).mp z0
    subst e0
    have em : mOf σ 0 = σ.t.A := by unfold mOf; rw [if_pos rfl]
    exact k1 I R 12 hW cFr.rf (hans (Or.inl (by decide))) (by rw [em]; exact hW.A) (by rw [em]; exact hA4) (by rw [em]; exact hokA) hW.m12 (Or.inl rfl)
theorem k_start {σ : St} [NeZero σ.p] {m s : Int32} {Q : Int32 → xHp → Prop} (hW : clR sh I R σ) (k : ∀ I' R', clR sh I' R' σ → cFr I I' → Q (startA σ m s) (sh, I', R')) : CI mX9_start [.ref 0, .int m, .int s] (sh, I, R) Q := by
  unfold startA at k
  refine eX9_start (bX9_start_0 hW.lay (k_isMachine hW.lay (fun a ha hlt => bX9_start_4 hW.lay ⟨fun _ => ?_, fun z => absurd z (by decide)⟩) (fun hn => bX9_start_4 hW.lay ⟨fun z => absurd rfl z, fun _ => ?_⟩)))
  · subst ha
    refine k_machineOf hW hlt (fun I1 R1 q hW1 hf hans hc h4 hok hq _ => ⟨fun z => absurd z (by simp), fun b hb => ?_⟩) (fun hans => ⟨fun _ => bX9_start_14N hW.lay ?_, fun b hb => absurd hb (by simp)⟩)
    · cases hb
      have k2 := k I1 R1 hW1 hf
      rw [hans] at k2
      refine bX9_start_14 hW1.lay hq (k_has hW1.lay hq hc.2.2.1 (by omega) (fun b hb hblt => bX9_start_27 hW1.lay hq ⟨fun z => absurd z (by decide), fun _ => ?_⟩) (fun hn => bX9_start_27 hW1.lay hq ⟨fun _ => ?_, fun z => absurd rfl z⟩))
      · subst hb
        rw [if_pos ((inB_n (by omega)).mpr hblt), nN_n (by omega)] at k2
        refine ⟨vp_nI (by omega) (by omega), ?_⟩
        rw [nclamp (by omega), hc.S hblt]; exact k2
      · rw [if_neg hn] at k2; exact k2
    · have k2 := k I R hW cFr.rf
      rw [hans] at k2; exact k2
  · have k2 := k I R hW cFr.rf
    unfold ansM at k2
    rw [if_neg hn] at k2; exact k2
theorem k_finish {σ : St} [NeZero σ.p] {m s : Int32} {Q : Int32 → xHp → Prop} (hW : clR sh I R σ) (k : ∀ I' R', clR sh I' R' σ → cFr I I' → Q (finishA σ m s) (sh, I', R')) : CI mX9_finish [.ref 0, .int m, .int s] (sh, I, R) Q := by
  unfold finishA at k
  refine eX9_finish (bX9_finish_0 hW.lay (k_isMachine hW.lay (fun a ha hlt => bX9_finish_4 hW.lay ⟨fun _ => ?_, fun z => absurd z (by decide)⟩) (fun hn => bX9_finish_4 hW.lay ⟨fun z => absurd rfl z, fun _ => ?_⟩)))
  · subst ha
    refine k_machineOf hW hlt (fun I1 R1 q hW1 hf hans hc h4 hok hq _ => ⟨fun z => absurd z (by simp), fun b hb => ?_⟩) (fun hans => ⟨fun _ => bX9_finish_14N hW.lay ?_, fun b hb => absurd hb (by simp)⟩)
    · cases hb
      have k2 := k I1 R1 hW1 hf
      rw [hans] at k2
      refine bX9_finish_14 hW1.lay hq (k_has hW1.lay hq hc.2.2.1 (by omega) (fun b hb hblt => bX9_finish_27 hW1.lay hq ⟨fun z => absurd z (by decide), fun _ => ?_⟩) (fun hn => bX9_finish_27 hW1.lay hq ⟨fun _ => ?_, fun z => absurd rfl z⟩))
      · subst hb
        rw [if_pos ((inB_n (by omega)).mpr hblt), nN_n (by omega)] at k2
        refine ⟨vp_nI (by omega) (by omega), ?_⟩
        rw [nclamp (by omega), hc.E hblt]; exact k2
      · rw [if_neg hn] at k2; exact k2
    · have k2 := k I R hW cFr.rf
      rw [hans] at k2; exact k2
  · have k2 := k I R hW cFr.rf
    unfold ansM at k2
    rw [if_neg hn] at k2; exact k2
theorem k_edge {σ : St} [NeZero σ.p] {m s x t : Int32} {Q : Int32 → xHp → Prop} (hW : clR sh I R σ) (k : ∀ I' R', clR sh I' R' σ → cFr I I' → Q (edgeA σ m s x t) (sh, I', R')) : CI mX9_edge [.ref 0, .int m, .int s, .int x, .int t] (sh, I, R) Q := by
  unfold edgeA at k
  have hL3 := hW.ok.L3
  refine eX9_edge (bX9_edge_0 hW.lay (k_isMachine hW.lay (fun a ha hlt => bX9_edge_4 hW.lay ⟨fun _ => ?_, fun z => absurd z (by decide)⟩) (fun hn => bX9_edge_4 hW.lay ⟨fun z => absurd rfl z, fun _ => ?_⟩)))
  · subst ha
    refine k_machineOf hW hlt (fun I1 R1 q hW1 hf hans hc h4 hok hq _ => ⟨fun z => absurd z (by simp), fun b hb => ?_⟩) (fun hans => ⟨fun _ => bX9_edge_14N hW.lay ?_, fun b hb => absurd hb (by simp)⟩)
    · cases hb
      have k2 := k I1 R1 hW1 hf
      rw [hans] at k2
      have no : ¬ (inB s (mOf σ a).1 ∧ inB x σ.L ∧ inB t (mOf σ a).1) → Q (-1) (sh, I1, R1) := fun hn => by rw [if_neg hn] at k2; exact k2
      refine bX9_edge_14 hW1.lay hq (k_has hW1.lay hq hc.2.2.1 (by omega) (fun b hb hblt => bX9_edge_30 hW1.lay hq ⟨fun z => absurd z (by decide), fun _ => ?_⟩) (fun hn => bX9_edge_30 hW1.lay hq ⟨fun _ => no (fun z => hn z.1), fun z => absurd rfl z⟩))
      refine k_hasLetter hW1.lay hW1.ctx (fun y hy hylt => bX9_edge_41 hW1.lay hq ⟨fun z => absurd z (by decide), fun _ => ?_⟩) (fun hn => bX9_edge_41 hW1.lay hq ⟨fun _ => no (fun z => hn z.2.1), fun z => absurd rfl z⟩)
      refine k_has hW1.lay hq hc.2.2.1 (by omega) (fun c hc' hclt => bX9_edge_51 hW1.lay hq ⟨fun _ => ?_, fun z => absurd z (by decide)⟩) (fun hn => bX9_edge_51 hW1.lay hq ⟨fun z => absurd rfl z, fun _ => no (fun z => hn z.2.2)⟩)
      subst hb
      subst hy
      subst hc'
      have hi := wix_lt (M := 4) (s := b) (x := y) (t := c) (by omega) (by omega) (by omega)
      refine k_at hW1.lay hq hc.2.1 (bX9_edge_70 hW1.lay hq.2.2.2.1 ⟨vp_nI hi (by omega), ?_⟩)
      rw [nclamp (by omega), hc.W hblt hylt hclt]
      rw [if_pos ⟨(inB_n (by omega)).mpr hblt, (inB_n (by omega)).mpr hylt, (inB_n (by omega)).mpr hclt⟩, nN_n (by omega), nN_n (by omega), nN_n (by omega)] at k2
      exact k2
    · have k2 := k I R hW cFr.rf
      rw [hans] at k2; exact k2
  · have k2 := k I R hW cFr.rf
    unfold ansM at k2
    rw [if_neg hn] at k2; exact k2
theorem wnum_lt {L : Nat} (hL : 0 < L) (hL3 : L ≤ 3) {l : List Nat} (h : l.length ≤ 12) (hl : ∀ x ∈ l, x < L) : wlen L (wnum L l) = l.length ∧ wnum L l < 2 ^ 31 := by
  have e : wlen L (wnum L l) = l.length := by rw [← wl_len hL, wl_num l hl]
  exact ⟨e, wl_lt31 hL hL3 (by omega)⟩
theorem k_value {σ : St} [NeZero σ.p] {m : Int32} {Q : Int32 → xHp → Prop} (hW : clR sh I R σ) (k : ∀ I' R', clR sh I' R' σ → cFr I I' → Q (valueA σ m) (sh, I', R')) : CI mX9_value [.ref 0, .int m] (sh, I, R) Q := by
  unfold valueA at k
  have hw := hW.ok.word
  have hwl := wnum_lt hW.ok.L1 hW.ok.L3 hw.1 hw.2
  refine eX9_value (bX9_value_0 hW.lay (k_isMachine hW.lay (fun a ha hlt => bX9_value_4 hW.lay ⟨fun _ => ?_, fun z => absurd z (by decide)⟩) (fun hn => bX9_value_4 hW.lay ⟨fun z => absurd rfl z, fun _ => ?_⟩)))
  · subst ha
    refine k_machineOf hW hlt (fun I1 R1 q hW1 hf hans hc h4 hok hq hqs => ⟨fun z => absurd z (by simp), fun b hb => ?_⟩) (fun hans => ⟨fun _ => bX9_value_14N hW.lay ?_, fun b hb => absurd hb (by simp)⟩)
    · cases hb
      obtain ⟨h, t, hh⟩ := hW1.ht
      refine bX9_value_14 hW1.lay hq ?_
      rw [hW1.word.1]
      refine k_valueOf hW1.lay hW1.ctx hq (by omega) (by omega) hc hok hh (by rw [hwl.1]; exact hw.1) (fun I2 R2 h2 t2 hr2 hh2 f2 => bX9_value_36 (hr2.g.lay hW1.lay) ?_)
      have o2 : Ou 23 82 I1 I2 := Ou.of f2 (by simp)
      have k2 := k I2 R2 (hW1.scr (sF.of o2) hr2.g ⟨_, _, hh2⟩) (hf.tr (sF.of o2).c)
      rw [hans] at k2
      rw [wl_num σ.word hw.2]
      exact k2
    · have k2 := k I R hW cFr.rf
      rw [hans] at k2; exact k2
  · have k2 := k I R hW cFr.rf
    unfold ansM at k2
    rw [if_neg hn] at k2; exact k2
end CC1
