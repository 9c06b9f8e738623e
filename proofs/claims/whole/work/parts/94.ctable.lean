/-! THE CLASS'S CALLS: the table -/
section CTAB
variable {sh : List xSh} {I : Nat → Nat → Int32} {R : Nat → Nat → Option Nat}
theorem clR.t' {I' : Nat → Nat → Int32} {R' : Nat → Nat → Option Nat} {σ : St} {τ : Tb} (h : clR sh I R σ) (ok : tbOK σ.p σ.L τ) (e : ∀ c, (1 ≤ c ∧ c < 9) ∨ (20 ≤ c ∧ c < 23) ∨ 178 ≤ c → I' c = I c) (e0 : ∀ j, j ≠ 11 → I' 0 j = I 0 j) (e1 : I' 169 1 = I 169 1) (e3 : I' 173 1 = nI 4) (e6 : I' 16 1 = nI 4) (hr : rG R R') (hh : ∃ a b, hT R' a b) (st : stC I' σ.L 9 τ) (ls : lsK I' (σ.set_t τ)) : clR sh I' R' (σ.set_t τ) := by
  have hk := h.ok
  refine ⟨⟨hk.p, hk.L1, hk.L3, ok, hk.kept, hk.shf, hk.word, hk.tape⟩, hr.lay h.lay, hh, h.ctx.eq (e 1 (by omega)), ⟨fun q hq => ?_, by rw [e1]; exact h.mc.2⟩, st, fun k hk => (h.kept k hk).eq (by rw [e 21 (by omega)]) (fun c h1 h2 => e c (by omega)), h.pl.eq hr (fun q hq => e q (by omega)), fun k hk => (h.shf k hk).eq (e _ (by omega)) (e _ (by omega)) (fun i => hr.cell k i) (fun i q A hi eq hA => ?_), by rw [e0 12 (by decide), e0 13 (by decide)]; exact h.word, ⟨by rw [e 2 (by omega)]; exact h.tape.1, fun j hj => by rw [e 3 (by omega)]; exact h.tape.2 j hj⟩, by rw [e0 14 (by decide)]; exact h.fault, ls⟩
  · by_cases e9 : q = 173
    · subst e9; exact e3
    · by_cases e10 : q = 12
      · subst e10; exact st.1.2.1
      · by_cases e11 : q = 16
        · subst e11; exact e6
        · have hq2 : (1 ≤ q ∧ q < 9) ∨ 178 ≤ q := by revert hq; simp; omega
          rw [e q (by omega)]; exact h.mc.1 q hq
  · have := (h.pl.1 k i q hk hi eq).1
    exact hA.eq (e _ (by omega)) (e _ (by omega)) (e _ (by omega)) (e _ (by omega))
theorem lsK.tb {I' : Nat → Nat → Int32} {σ : St} {τ : Tb} (h : lsK I σ) (hA : τ.A = σ.t.A) (e0 : I' 0 11 = I 0 11) (e : ∀ c, 173 ≤ c → c ≤ 177 → I' c = I c) : lsK I' (σ.set_t τ) := by
  rcases h with z | ⟨z1, nz, z0, z2, z3⟩
  · exact Or.inl (by rw [e0]; exact z)
  · refine Or.inr ⟨by rw [e0]; exact z1, nz, ?_⟩
    show madeOK σ.p σ.L τ.A (BS σ.p σ.L τ.A) (fst σ.L 4) (fun i => i) (LeM σ.p σ.L τ.A) ∧ cM I' σ.L 173 4 (LeM σ.p σ.L τ.A) ∧ ∀ j, j < (BS σ.p σ.L τ.A).length → I' 177 j = nI ((BS σ.p σ.L τ.A).getD j 0)
    rw [hA]
    exact ⟨z0, z2.eq (e _ (by omega) (by omega)) (e _ (by omega) (by omega)) (e _ (by omega) (by omega)) (e _ (by omega) (by omega)), fun j hj => by rw [e 177 (by omega) (by omega)]; exact z3 j hj⟩
theorem tabOK_cls {p L : Nat} [NeZero p] (hp : p ∈ PR) {A : Mac} {S : List Nat} : ∀ (n : Nat) (P P' : List Nat), tabOK p L A P S → ClsN (DT p L A S) L n P P' → tabOK p L A P' S := by
  intro n
  induction n with
  | zero => intro P P' ht h; rw [h.1]; exact ht
  | succ n ih =>
    intro P P' ht h
    obtain ⟨w, hf, h2⟩ := h
    exact ih _ P' (tabOK_push hp ht hf) h2
theorem gd_take {P : List Nat} {i j : Nat} (h : j < i) : (P.take i).getD j 0 = P.getD j 0 := by rw [List.getD_eq_getElem?_getD, List.getD_eq_getElem?_getD, List.getElem?_take, if_pos h]
/-- the table is laid into the basis -/
theorem k_layTable {σ : St} [NeZero σ.p] {Q : xHp → Prop} (hW : clR sh I R σ)
    (k : ∀ I' R' K E rc h t, Ou 23 82 I I' → rG R R' → hT R' h t → R' 23 9 = some 12 → spS I' σ.p 38 σ.t.A.1 K E rc → colEq σ.p σ.t.A.1 K E σ.t.S.length (bcol σ.p σ.L σ.t.A (fun i => σ.t.S.getD i 0)) → bWd I' σ.p σ.L σ.t.A K E σ.t.P → Q (sh, I', R')) : CV mX9_layTable [.ref 0] (sh, I, R) Q := by
  have hp := hW.ok.p
  have hL1 := hW.ok.L1
  have hL3 := hW.ok.L3
  have hbd := hW.ok.t.bd
  obtain ⟨_, hA4, hokA, -, ht, -⟩ := hW.ok.t
  obtain ⟨h, t, hh⟩ := hW.ht
  have hst := hW.st
  refine eX9_layTable (bX9_layTable_0 hW.lay (k_open (E := fun _ _ => 0) (rc := fun _ _ => (0 : Fin σ.p)) hW.lay hW.m12 (by omega) hW.A.2.2.1 (by omega) hh (fun I1 R1 f1 hr1 hh1 h91 h10 hs1 => bX9_layTable_14 (hr1.lay hW.lay) ?_)))
  -- prefixes
  have prefs : ∀ (I2 : Nat → Nat → Int32) (R2 : Nat → Nat → Option Nat) (h2 t2 K : Nat) (E : Nat → Nat → Nat) (rc : Nat → Nat → Fin σ.p), Ou 23 82 I I2 → rG R R2 → hT R2 h2 t2 → R2 23 9 = some 12 → spS I2 σ.p 38 σ.t.A.1 K E rc → colEq σ.p σ.t.A.1 K E σ.t.S.length (bcol σ.p σ.L σ.t.A (fun i => σ.t.S.getD i 0)) → bWd I2 σ.p σ.L σ.t.A K E [] → Ex mX9_layTable 58 [.ref 0, .int (nI 0)] [] (sh, I2, R2) 0 0 (xqV Q) := by
    intro I2 R2 h2 t2 K E rc o2 hr2 hh2 h92 hs2 hE hb2
    have hnd : ∀ i, i < σ.t.P.length → ¬ dpw (rwE σ.p σ.L σ.t.A E) K (σ.t.P.take i) (σ.t.P.getD i 0) := fun i hi hd => by
      have hd2 := (dpw_colEq hE _ _).mp hd
      rw [← RW_fun hL1] at hd2
      exact ind_dpw (isF_p hp) ht.2.2 hi hd2
    have loop : ∀ j i (I3 : Nat → Nat → Int32) (R3 : Nat → Nat → Option Nat) (h3 t3 : Nat), i + j = σ.t.P.length → Ou 23 82 I I3 → rG R R3 → hT R3 h3 t3 → R3 23 9 = some 12 → spS I3 σ.p 38 σ.t.A.1 K E rc → bWd I3 σ.p σ.L σ.t.A K E (σ.t.P.take i) → Ex mX9_layTable 58 [.ref 0, .int (nI i)] [] (sh, I3, R3) 0 0 (xqV Q) := by
      intro j
      induction j with
      | zero =>
        intro i I3 R3 h3 t3 hi o3 hr3 hh3 h93 hs3 hb3
        obtain rfl : i = σ.t.P.length := by omega
        rw [List.take_length] at hb3
        refine bX9_layTable_58 (hr3.lay hW.lay) ⟨fun _ => k I3 R3 K E rc h3 t3 o3 hr3 hh3 h93 hs3 hE hb3, fun z => ?_⟩
        rw [o3.at 9 5 (by omega), hst.2.2.2.2.1] at z; exact absurd (nI_le (Nat.le_refl _) (by omega)) z
      | succ j ih =>
        intro i I3 R3 h3 t3 hi o3 hr3 hh3 h93 hs3 hb3
        have hW3 := hr3.lay hW.lay
        have hl := pfxs_len hL1 ht.1 i (by omega)
        refine bX9_layTable_58 hW3 ⟨fun z => ?_, fun _ => ⟨vp_nI (by omega) (by omega), ?_⟩⟩
        · rw [o3.at 9 5 (by omega), hst.2.2.2.2.1] at z; exact absurd z (nI_ge (by omega) (by omega))
        rw [nclamp (by omega), o3.at 10 i (by omega), hst.2.2.2.2.2.1 i (by omega)]
        refine k_offer hW3 (hW.ctx.ou o3 (by omega)) h93 (hr3.mach hW.m12 (by decide)) (by omega) (by omega) (hW.A.ou o3 (by omega)) hokA hh3 hs3 hb3 (by omega) (fun I4 R4 h4 t4 f4 hr4 hh4 _ hb4 => bX9_layTable_85 (hr4.g.lay hW3) ?_) (fun I4 R4 h4 t4 f4 hr4 hh4 hd hb4 => absurd hd (hnd i (by omega)))
        rw [nI_add]
        rw [← take_x (by omega)] at hb4
        exact ih (i + 1) I4 R4 h4 t4 (by omega) (o3.tr (fun c hc => f4 c (by omega))) (hr3.tr hr4.g) hh4 (by rw [hr4 23 9 (by omega)]; exact h93) (hs3.eq (by rw [f4 38 (by omega)]) (by rw [f4 38 (by omega)]) (fun c g1 g2 => f4 c (by omega))) hb4
    exact loop σ.t.P.length 0 I2 R2 h2 t2 (by omega) o2 hr2 hh2 h92 hs2 (by rw [List.take_zero]; exact hb2)
  -- suffixes
  have loop : ∀ j i (I2 : Nat → Nat → Int32) (R2 : Nat → Nat → Option Nat) (h2 t2 K : Nat) (E : Nat → Nat → Nat) (rc : Nat → Nat → Fin σ.p), i + j = σ.t.S.length → Ou 23 82 I I2 → I2 23 10 = nI 0 → rG R R2 → hT R2 h2 t2 → R2 23 9 = some 12 → spS I2 σ.p 38 σ.t.A.1 K E rc → (∀ d, d < i → inS σ.t.A.1 K rc (bcol σ.p σ.L σ.t.A (fun i => σ.t.S.getD i 0) d)) → (∀ j, j < K → inS σ.t.A.1 σ.t.S.length (bcol σ.p σ.L σ.t.A (fun i => σ.t.S.getD i 0)) (rc j)) → Ex mX9_layTable 16 [.ref 0, .int (nI i)] [] (sh, I2, R2) 0 0 (xqV Q) := by
    intro j
    induction j with
    | zero =>
      intro i I2 R2 h2 t2 K E rc hi o2 e10 hr2 hh2 h92 hs2 g1 g2
      obtain rfl : i = σ.t.S.length := by omega
      have hW2 := hr2.lay hW.lay
      refine bX9_layTable_16 hW2 ⟨fun _ => k_shut (L := σ.L) (A := σ.t.A) hW2 hs2 e10 (fun I3 f3 hb3 => bX9_layTable_56 hW2 ?_), fun z => ?_⟩
      · exact prefs I3 R2 h2 t2 K E rc (o2.tr (Ou.of f3 (by simp))) hr2 hh2 h92 (hs2.fr f3 (by simp)) (colEq_of hs2 g1 g2) hb3
      · rw [o2.at 9 6 (by omega), hst.2.2.2.2.2.2.1] at z; exact absurd (nI_le (Nat.le_refl _) (by omega)) z
    | succ j ih =>
      intro i I2 R2 h2 t2 K E rc hi o2 e10 hr2 hh2 h92 hs2 g1 g2
      have hW2 := hr2.lay hW.lay
      have hl := ht.2.1 i (by omega)
      refine bX9_layTable_16 hW2 ⟨fun z => ?_, fun _ => ⟨vp_nI (by omega) (by omega), ?_⟩⟩
      · rw [o2.at 9 6 (by omega), hst.2.2.2.2.2.2.1] at z; exact absurd z (nI_ge (by omega) (by omega))
      rw [nclamp (by omega), o2.at 11 i (by omega), hst.2.2.2.2.2.2.2.1 i (by omega)]
      refine k_seeEnding hW2 (hW.ctx.ou o2 (by omega)) h92 (hr2.mach hW.m12 (by decide)) (by omega) (by omega) (hW.A.ou o2 (by omega)) rfl hokA hh2 (by omega) hs2 (fun I3 R3 h3 t3 K' E' rc' hr3 hh3 o3 hs3 hadd => bX9_layTable_43 (hr3.g.lay hW2) ?_)
      rw [nI_add]
      have self : inS σ.t.A.1 σ.t.S.length (bcol σ.p σ.L σ.t.A (fun i => σ.t.S.getD i 0)) (bvl σ.t.A.1 (fE σ.p σ.t.A) (fW σ.p σ.t.A) (wl σ.L (σ.t.S.getD i 0))) := inS_self (r := bcol σ.p σ.L σ.t.A (fun i => σ.t.S.getD i 0)) (j := i) (by omega)
      refine ih (i + 1) I3 R3 h3 t3 K' E' rc' (by omega) (o2.tr (o3.up (by omega) (by omega))) (by rw [o3.at 23 10 (by omega)]; exact e10) (hr2.tr hr3.g) hh3 (by rw [hr3 23 9 (by omega)]; exact h92) hs3 (fun d hd => ?_) (fun j hj => ?_)
      · rcases hadd with ⟨rfl, rfl, rfl, hin⟩ | ⟨rfl, -, rfl⟩
        · by_cases e : d = i
          · subst e; exact hin
          · exact g1 d (by omega)
        · by_cases e : d = i
          · subst e; exact push_last
          · exact push_in (g1 d (by omega))
      · rcases hadd with ⟨rfl, rfl, rfl, hin⟩ | ⟨rfl, -, rfl⟩
        · exact g2 j hj
        · unfold rPush
          split
          · exact self
          · exact g2 j (by omega)
  exact loop σ.t.S.length 0 I1 R1 h t 0 _ _ (by omega) (Ou.of f1 (by simp)) h10 hr1 hh1 h91 hs1 (fun d hd => absurd hd (Nat.not_lt_zero d)) (fun j hj => absurd hj (Nat.not_lt_zero j))
theorem k_part {σ : St} [NeZero σ.p] {r c : Int32} {Q : Int32 → xHp → Prop} (hW : clR sh I R σ) (k : ∀ I' R', clR sh I' R' σ → cFr I I' → Q (partA σ r c) (sh, I', R')) : CI mX9_part [.ref 0, .int r, .int c] (sh, I, R) Q := by
  unfold partA at k
  have hp := hW.ok.p
  have hL1 := hW.ok.L1
  have hL3 := hW.ok.L3
  have hbd := hW.ok.t.bd
  obtain ⟨_, hA4, hokA, -, ht, -⟩ := hW.ok.t
  have no : ¬ (inB r (σ.t.P.length * (σ.L + 1)) ∧ inB c σ.t.P.length) → Q (-1) (sh, I, R) := fun hn => by
    have k2 := k I R hW cFr.rf
    rw [if_neg hn] at k2; exact k2
  refine eX9_part (bX9_part_0 hW.lay (k_isRow hW (fun b hb hblt => bX9_part_5 hW.lay ⟨fun z => absurd z (by decide), fun _ => ⟨fun z => no (fun y => by have := lt0.mp z; have := y.2.1; omega), fun z => ?_⟩⟩) (fun hn => bX9_part_5 hW.lay ⟨fun _ => no (fun z => hn z.1), fun z => absurd rfl z⟩)))
  subst hb
  have hm : σ.t.P.length * (1 + σ.L) ≤ 4 * 4 := Nat.mul_le_mul hbd.1 (by omega)
  have h0 : 0 ≤ c.toInt := by
    by_cases y : c.toInt < 0
    · exact absurd (lt0.mpr y) z
    · omega
  have hcb : nN c < 2 ^ 31 := by have := Int32.toInt_lt c; unfold nN; omega
  rw [hW.st.2.2.2.2.1, ← nI_N h0]
  refine ⟨fun y => ?_, fun y => no (fun w => ?_)⟩
  · have hclt := (nI_ltI hcb (by omega)).mp y
    have hrl := rowW_len4 hL1 ht hbd.1 hblt
    refine k_layTable hW (fun I1 R1 K E rc h t o1 hr1 hh1 h91 hs1 hE hb1 => ?_)
    have hW1 := hW.scr (sF.of o1) hr1 ⟨_, _, hh1⟩
    refine bX9_part_29 hW1.lay (k_wordOfRow hW1 hblt (bX9_part_38 hW1.lay ?_))
    refine k_comb hW1.lay hW1.ctx h91 hW1.m12 (by omega) (by omega) hW1.A hokA hh1 hs1 hb1 (by omega) (fun I2 R2 h2 t2 parts o2 hr2 hh2 hp2 hsum => bX9_part_41 (hr2.g.lay hW1.lay) ⟨fun z => absurd z (by decide), fun _ => ?_⟩) (fun I2 R2 h2 t2 o2 hr2 hh2 hnd => bX9_part_41 (hr2.g.lay hW1.lay) ⟨fun _ => ?_, fun z => absurd rfl z⟩)
    · have hd : DT σ.p σ.L σ.t.A σ.t.S σ.t.P (rowW σ.L σ.t.P b) := by
        show dpw (RW σ.p σ.L σ.t.A (fun i => σ.t.S.getD i 0)) σ.t.S.length σ.t.P (rowW σ.L σ.t.P b)
        rw [RW_fun hL1]
        exact (dpw_colEq hE _ _).mp ⟨fun j => fo σ.p (parts j), hsum⟩
      have k2 := k I2 R2 (hW1.scr (sF.of o2) hr2.g ⟨_, _, hh2⟩) ((sF.of o1).c.tr (sF.of o2).c)
      rw [if_pos ⟨(inB_n (by omega)).mpr (by rw [Nat.add_comm σ.L 1]; exact hblt), ⟨h0, by unfold nN at hclt; omega⟩⟩, nN_n (by omega), cif_pos hd] at k2
      have hcf := cfO_eq (c := parts) (w := rowW σ.L σ.t.P b) ht.2.2 (fun j hj => (hp2 j (by omega)).2) (fun d hd => ?_) (nN c) hclt
      · rw [hcf] at k2
        refine ⟨vp_nI (by omega) (by omega), ?_⟩
        rw [nclamp hcb, (hp2 _ (by omega)).1]; exact k2
      · rw [RW_row hL1, sm_congr (g := fun j => fo σ.p (parts j) * rowC σ.t.A.1 (fS σ.p σ.t.A) (fW σ.p σ.t.A) σ.L (bcol σ.p σ.L σ.t.A (fun i => σ.t.S.getD i 0)) (σ.t.P.getD j 0) d) (fun j _ => by rw [RW_row hL1])]
        exact rowC_tr (hE.1 d hd) hsum
    · have hnd2 : ¬ DT σ.p σ.L σ.t.A σ.t.S σ.t.P (rowW σ.L σ.t.P b) := fun z => by
        refine hnd ((dpw_colEq hE _ _).mpr ?_)
        rw [← RW_fun hL1]; exact z
      have k2 := k I2 R2 (hW1.scr (sF.of o2) hr2.g ⟨_, _, hh2⟩) ((sF.of o1).c.tr (sF.of o2).c)
      rw [if_pos ⟨(inB_n (by omega)).mpr (by rw [Nat.add_comm σ.L 1]; exact hblt), ⟨h0, by unfold nN at hclt; omega⟩⟩, nN_n (by omega), cif_neg hnd2] at k2
      exact k2
  · have := w.2.2
    refine y (nI_lt ?_ (by omega))
    unfold nN; omega
/-- the table laid and widened -/
theorem k_laid {σ : St} [NeZero σ.p] {Q : Int32 → xHp → Prop} {R1 : Nat → Nat → Option Nat} {I1 : Nat → Nat → Int32} {K h t : Nat} {E : Nat → Nat → Nat} {rc : Nat → Nat → Fin σ.p} (hW : clR sh I R σ) (o1 : Ou 23 82 I I1) (hr1 : rG R R1) (hh1 : hT R1 h t) (h91 : R1 23 9 = some 12) (hs1 : spS I1 σ.p 38 σ.t.A.1 K E rc) (hE : colEq σ.p σ.t.A.1 K E σ.t.S.length (bcol σ.p σ.L σ.t.A (fun i => σ.t.S.getD i 0))) (hb1 : bWd I1 σ.p σ.L σ.t.A K E σ.t.P)
    (k : ∀ I' n P', Ou 23 82 I I' → spS I' σ.p 38 σ.t.A.1 K E rc → ClsN (DT σ.p σ.L σ.t.A σ.t.S) σ.L n σ.t.P P' → (∀ s x, s < P'.length → x < σ.L → dpw (rwE σ.p σ.L σ.t.A E) K P' (P'.getD s 0 * σ.L + x + 1)) → P'.length ≤ 4 → bWd I' σ.p σ.L σ.t.A K E P' → Q (nI n) (sh, I', R1)) : CI mX0_widen [.ref 23] (sh, I1, R1) Q := by
  have hL1 := hW.ok.L1
  obtain ⟨hA4, hokA⟩ := hW.okA
  refine k_widen (hr1.lay hW.lay) (hW.ctx.ou o1 (by omega)) h91 (hr1.mach hW.m12 (by decide)) (by omega) (by omega) (hW.A.ou o1 (by omega)) hokA hh1 hs1 hb1 (fun I2 n P' f2 hcl hb2 => ?_)
  have hle := hb2.le
  have hKn := hs1.bd
  refine k I2 n P' (o1.tr (fun c hc => f2 c (by omega))) (hs1.eq (by rw [f2 38 (by omega)]) (by rw [f2 38 (by omega)]) (fun c g1 g2 => f2 c (by omega))) (ClsN_congr (fun B w => by show _ ↔ dpw (RW σ.p σ.L σ.t.A (fun i => σ.t.S.getD i 0)) σ.t.S.length B w; rw [RW_fun hL1]; exact dpw_colEq hE B w) hcl) (fun s x hs hx => (ClsN_end hcl).1.2 s x hs hx) (by omega) hb2
theorem clR.study {σ : St} (h : clR sh I R σ) : xStudy sh R 9 := h.lay.2.2.1
theorem k_takePrefixes {q : Nat} {P : List Nat} {Q : xHp → Prop} (hW : xLay sh R) (hq : xStudy sh R q) (hq2 : q ≠ 23 ∧ q + 1 ≠ 24 ∧ q ≠ 24) (h10 : I 23 10 = nI P.length) (h24 : ∀ j, j < P.length → I 24 j = nI (P.getD j 0)) (h4 : P.length ≤ 4) (k : ∀ I', Fr [q, q + 1] I I' → (∀ j, j ≠ 5 → I' q j = I q j) → I' q 5 = nI P.length → (∀ j, j < P.length → I' (q + 1) j = nI (P.getD j 0)) → Q (sh, I', R)) : CV mX8_takePrefixes [.ref q, .ref 23] (sh, I, R) Q := by
  refine eX8_takePrefixes (bX8_takePrefixes_0 hW hq ?_)
  rw [h10, nclamp (a := 0) (by omega), nclamp (a := P.length) (by omega)]
  refine ⟨fun z => absurd z (nI_nlt h4 (by omega)), fun _ => ⟨⟨⟨by decide, by decide, nI_neg0 (by omega)⟩, by omega, by omega⟩, ?_⟩⟩
  refine k _ ((Fr.rf.xi (by simp)).xa (by simp)) (fun j hj => by rw [xa_p (by omega), xi_s hj]) (by rw [xa_p (by omega), xi_e]) (fun j hj => ?_)
  rw [xa_e, cpy0 hj, xi_p (by omega)]; exact h24 j hj
theorem k_close {σ : St} [NeZero σ.p] {Q : Int32 → xHp → Prop} (hW : clR sh I R σ) (k : ∀ I' R', clR sh I' R' (closeA σ).2 → cFr I I' → Q (closeA σ).1 (sh, I', R')) : CI mX9_close [.ref 0] (sh, I, R) Q := by
  have hp := hW.ok.p
  have hL1 := hW.ok.L1
  have htb := hW.ok.t
  obtain ⟨_, hA4, hokA, -, ht, -⟩ := id htb
  refine eX9_close (bX9_close_0 hW.lay (k_layTable hW (fun I1 R1 K E rc h t o1 hr1 hh1 h91 hs1 hE hb1 => bX9_close_4 (hr1.lay hW.lay) (k_laid hW o1 hr1 hh1 h91 hs1 hE hb1 (fun I2 n P' o2 hs2 hcl _ h4 hb2 => bX9_close_11 (hr1.lay hW.lay) ?_)))))
  have hW2 := hW.scr (sF.of o2) hr1 ⟨_, _, hh1⟩
  refine k_takePrefixes hW2.lay hW2.study (by omega) hb2.1 hb2.2.1 h4 (fun I3 f3 g5 e5 e1 => bX9_close_23 hW2.lay ?_)
  have e := clsP_eq hcl
  have hl := (ClsN_end hcl).2.1
  unfold closeA at k
  rw [e, show P'.length - σ.t.P.length = n by omega] at k
  have hst := hW2.st
  refine k I3 R1 (hW2.t' (τ := σ.t.set_P P') (tbOK_close hp hL1 htb hcl (tabOK_cls hp n _ _ ht hcl)) (fun c hc => f3 c (by simp <;> omega)) (fun j _ => f3.at 0 j (by simp)) (f3.at 169 1 (by simp)) ?_ ?_ rG.rf hW2.ht ?_ (hW2.ls.tb rfl (f3.at 0 11 (by simp)) (fun c h1 h2 => f3 c (by simp <;> omega)))) ((sF.of o2).c.tr (fun c h1 h2 => f3 c (by simp <;> omega)))
  · rw [f3.at 173 1 (by simp)]; exact hW2.mc.1 173 (by decide)
  · rw [f3.at 16 1 (by simp)]; exact hW2.mc.1 16 (by decide)
  · obtain ⟨a1, a2, a3, a4, a5, a6, a7, a8, a9⟩ := hst
    exact ⟨a1.fr f3 (by simp), by rw [g5 8 (by decide)]; exact a2, fun g => (a3 g).fr f3 (by simp), by rw [f3 16 (by simp)]; exact a4, e5, e1, by rw [g5 6 (by decide)]; exact a7, by rw [f3 11 (by simp)]; exact a8, by rw [g5 7 (by decide)]; exact a9⟩
theorem k_isClosed {σ : St} [NeZero σ.p] {Q : Int32 → xHp → Prop} (hW : clR sh I R σ) (k1 : ∀ I' R', clR sh I' R' σ → cFr I I' → clsd (DT σ.p σ.L σ.t.A σ.t.S σ.t.P) σ.L σ.t.P → Q (nI 1) (sh, I', R')) (k0 : ∀ I' R', clR sh I' R' σ → cFr I I' → ¬ clsd (DT σ.p σ.L σ.t.A σ.t.S σ.t.P) σ.L σ.t.P → Q (nI 0) (sh, I', R')) : CI mX9_isClosed [.ref 0] (sh, I, R) Q := by
  refine eX9_isClosed (bX9_isClosed_0 hW.lay (k_layTable hW (fun I1 R1 K E rc h t o1 hr1 hh1 h91 hs1 hE hb1 => bX9_isClosed_4 (hr1.lay hW.lay) (k_laid hW o1 hr1 hh1 h91 hs1 hE hb1 (fun I2 n P' o2 hs2 hcl _ h4 hb2 => bX9_isClosed_11 (hr1.lay hW.lay) ?_)))))
  have hW2 := hW.scr (sF.of o2) hr1 ⟨_, _, hh1⟩
  have hl := (ClsN_end hcl).2.1
  refine ⟨fun z => k0 I2 R1 hW2 (sF.of o2).c (fun y => ?_), fun z => k1 I2 R1 hW2 (sF.of o2).c ?_⟩
  · cases n with
    | zero => exact absurd rfl z
    | succ n => obtain ⟨w, hf, -⟩ := hcl; exact frst_clsd hf y
  · have hn : n = 0 := (nI_eq (a := n) (b := 0) (by omega) (by omega)).mp z
    subst hn
    exact hcl.2
end CTAB
