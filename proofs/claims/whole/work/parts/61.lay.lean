section MODZ2
variable {sh : List xSh} {I : Nat → Nat → Int32} {R : Nat → Nat → Option Nat}
theorem layF_le (o : Option Shf) (i : Int32) (s : Nat) : layF o i s ≤ 4 := by
  have := cellF_le o (nI 2) i
  unfold layF
  split
  · split <;> omega
  · omega
theorem w_lay {σ : St} [NeZero σ.p] {v i m : Int32} {Q : Int32 → xHp → Prop} (hW : xLay sh R) (h : mdR I σ) (k : ∀ I', mdR I' (layA σ v i m).2 → mFr I I' → Q (layA σ v i m).1 (sh, I', R)) : CI mX10_lay [.ref 209, .int v, .int i, .int m] (sh, I, R) Q := by
  have hL3 := h.ok.L3
  unfold layA at k
  refine eX10_lay (bX10_lay_0 hW (w_isShelf hW (fun c hc hclt => ?_) (fun hn => ?_)))
  rotate_left
  · rw [if_neg hn] at k
    exact bX10_lay_4 hW ⟨fun _ => k I h mFr.rf, fun z => absurd rfl z⟩
  subst hc
  rw [if_pos ((inB_n (by omega)).mpr hclt), nN_n (by omega)] at k
  refine bX10_lay_4 hW ⟨fun z => absurd z (by decide), fun _ => w_wrong hW h (fun a I1 hm ha hans h1 hf1 hr hok => ?_) (fun e he hans => ?_)⟩
  rotate_left
  · rw [hans] at k
    exact bX10_lay_12 hW ⟨fun z => absurd z he, fun _ => k I h mFr.rf⟩
  rw [hans] at k
  refine bX10_lay_12 hW ⟨fun _ => w_cellFault hW h1 hclt ?_, fun z => absurd rfl z⟩
  have h3 := cellF_le (σ.shf c) (nI 2) i
  -- writing
  have put : ∀ sort : Nat, sort = (if m = 0 then 0 else 1) → cellF (σ.shf c) (nI 2) i = 0 → ¬ (laneOf (σ.shf c) ≠ 2 ∧ laneOf (σ.shf c) ≠ sort) → vp_in (nI 8 * nI c + i) 24 ∧ CV mX10_copies [.ref 209, .int m, .int (nI 7 + nI 8 * nI c + i)] (sh, xi I1 229 ((nI 8 * nI c + i).toNatClampNeg) (nI sort), R) (fun h1 => Ex mX10_lay 118 [xU, xU, xU, xU, xU, xU, xU] [] h1 0 0 (xqI Q)) := by
    intro sort hsort h0 hlane
    rw [← hsort] at k
    have hl0 : layF (σ.shf c) i sort = 0 := by unfold layF; rw [if_pos h0, if_neg hlane]
    rw [hl0, if_pos rfl] at k
    obtain ⟨s, hs, hin⟩ := cellF_0 h0
    obtain ⟨e1, e2⟩ := inB_N hin
    obtain ⟨o1, o2, o3⟩ := h.ok.shf c s hs
    have hi1 : nI 8 * nI c + i = nI (8 * c + nN i) := by rw [e1, nN_n (by omega), pk_mul, nI_add]
    have hi2 : nI 7 + nI 8 * nI c + i = nI (7 + (8 * c + nN i)) := by rw [e1, nN_n (by omega), pk_mul, nI_add, nI_add, Nat.add_assoc]
    rw [hi1, hi2, nclamp (by omega), hm]
    refine ⟨vp_nI (by omega) (by omega), ?_⟩
    have hfx : Fr [229] I1 (xi I1 229 (8 * c + nN i) (nI sort)) := Fr.rf.xi (by simp)
    refine w_copies (m := a) (m2 := 7 + (8 * c + nN i)) hW (by omega) (by omega) (by omega) (fun I2 hf2 hg2 hc2 => bX10_lay_118 hW ?_)
    have hf : Fr [210, 229] I1 I2 := (hfx.sub (by simp)).tr (hf2.sub (by simp))
    have hM : mRep I2 σ.L (7 + (8 * c + nN i)) (mOf σ a) := (hr.fr hfx (by decide)).copied hL3 hc2
    have hso : sort ≤ 1 := by rw [hsort]; split <;> omega
    have e9 : ∀ b, b ≠ 8 * c + nN i → I2 229 b = I1 229 b := fun b hb => by rw [hf2.at 229 b (by decide), xi_s hb]
    have e9' : I2 229 (8 * c + nN i) = nI sort := by rw [hf2.at 229 _ (by decide), xi_e]
    have pg : ∀ {b A}, b ≠ 7 + (8 * c + nN i) → mRep I1 σ.L b A → mRep I2 σ.L b A := fun hb hA => (hA.fr hfx (by decide)).pg hg2 (by simp; omega) hL3
    refine k I2 (h1.shf' (fun b s' hb => ?_) (hf.sub (by simp)) (fun b hb => ?_) (fun b hb => ?_)) (hf1.tr (mFr.of hf (by simp)))
    · have hb' : (if b = c then (match σ.shf b with | none => none | some s => some (Shf.mk s.lane s.size (fun d => if d = nN i then some (sort, mOf σ a) else s.cell d))) else σ.shf b) = some s' := hb
      by_cases e : b = c
      · subst e
        rw [if_pos rfl, hs] at hb'
        cases hb'
        refine ⟨o1, o2, fun d kk M hd => ?_⟩
        have hd' : (if d = nN i then some (sort, mOf σ a) else s.cell d) = some (kk, M) := hd
        by_cases e3 : d = nN i
        · rw [if_pos e3] at hd'; cases hd'
          exact ⟨by rw [e3]; exact e2, hso, hr.1, hok⟩
        · rw [if_neg e3] at hd'; exact o3 d kk M hd'
      · rw [if_neg e] at hb'; exact h.ok.shf b s' hb'
    · have := hg2 b (fun m' hm' => by rw [List.mem_singleton.mp hm']; omega)
      rw [this, hfx.at 210 b (by decide)]
    · show mShf I2 σ.L b (if b = c then (match σ.shf b with | none => none | some s => some (Shf.mk s.lane s.size (fun d => if d = nN i then some (sort, mOf σ a) else s.cell d))) else σ.shf b)
      have hsb := h1.shf b hb
      by_cases e : b = c
      · subst e
        rw [if_pos rfl, hs]
        rw [hs] at hsb
        refine ⟨by rw [hf.at 227 b (by decide)]; exact hsb.1, by rw [hf.at 228 b (by decide)]; exact hsb.2.1, fun d hd => ?_⟩
        have hd8 : d < s.size := hd
        show match (if d = nN i then some (sort, mOf σ a) else s.cell d) with | none => I2 229 (8 * b + d) = -4 | some (c1, M) => I2 229 (8 * b + d) = nI c1 ∧ mRep I2 σ.L (7 + (8 * b + d)) M
        by_cases e3 : d = nN i
        · subst e3
          rw [if_pos rfl]
          exact ⟨e9', hM⟩
        · rw [if_neg e3]
          have := hsb.2.2 d hd8
          cases hcd : s.cell d with
          | none => rw [hcd] at this; show I2 229 (8 * b + d) = -4; rw [e9 _ (by omega)]; exact this
          | some x =>
            obtain ⟨c1, M⟩ := x
            rw [hcd] at this
            exact ⟨by rw [e9 _ (by omega)]; exact this.1, pg (by omega) this.2⟩
      · rw [if_neg e]
        exact hsb.eq (fun s e => (h.ok.shf b s e).2.1) (by rw [hf.at 227 b (by decide)]) (by rw [hf.at 228 b (by decide)]) (fun d hd => e9 _ (by omega)) (fun d A hd => pg (by omega))
  -- refusals
  have no : ∀ f : Nat, layF (σ.shf c) i (if m = 0 then 0 else 1) = f → f ≠ 0 → Q (-10 - nI f) (sh, I1, R) := fun f hf0 hne => by
    rw [hf0, if_neg hne] at k
    exact k I1 h1 hf1
  have noc : cellF (σ.shf c) (nI 2) i ≠ 0 → Q (-10 - nI (cellF (σ.shf c) (nI 2) i)) (sh, I1, R) := fun hne => no _ (by unfold layF; rw [if_neg hne]) hne
  have lane : ∀ s, σ.shf c = some s → I1 227 c = nI s.lane ∧ s.lane ≤ 2 := fun s hs => by
    have := h1.shf c hclt
    rw [hs] at this
    exact ⟨this.1, (h.ok.shf c s hs).1⟩
  -- both sorts
  have both : ∀ sort : Nat, sort ≤ 1 → sort = (if m = 0 then 0 else 1) → ((¬ nI (cellF (σ.shf c) (nI 2) i) = 0 → ((nI (cellF (σ.shf c) (nI 2) i) ≤ 0 → vp_in (nI 8 * nI c + i) 24 ∧ CV mX10_copies [.ref 209, .int m, .int (nI 7 + nI 8 * nI c + i)] (sh, xi I1 229 ((nI 8 * nI c + i).toNatClampNeg) (nI sort), R) (fun h1 => Ex mX10_lay 118 [xU, xU, xU, xU, xU, xU, xU] [] h1 0 0 (xqI Q))) ∧ (¬ nI (cellF (σ.shf c) (nI 2) i) ≤ 0 → Q (-10 - nI (cellF (σ.shf c) (nI 2) i)) (sh, I1, R)))) ∧ (nI (cellF (σ.shf c) (nI 2) i) = 0 → vp_in (nI c) 3 ∧ ((I1 227 (nI c).toNatClampNeg = nI 2 → ((nI (cellF (σ.shf c) (nI 2) i) ≤ 0 → vp_in (nI 8 * nI c + i) 24 ∧ CV mX10_copies [.ref 209, .int m, .int (nI 7 + nI 8 * nI c + i)] (sh, xi I1 229 ((nI 8 * nI c + i).toNatClampNeg) (nI sort), R) (fun h1 => Ex mX10_lay 118 [xU, xU, xU, xU, xU, xU, xU] [] h1 0 0 (xqI Q))) ∧ (¬ nI (cellF (σ.shf c) (nI 2) i) ≤ 0 → Q (-10 - nI (cellF (σ.shf c) (nI 2) i)) (sh, I1, R)))) ∧ (¬ I1 227 (nI c).toNatClampNeg = nI 2 → vp_in (nI c) 3 ∧ ((I1 227 (nI c).toNatClampNeg = nI sort → ((nI (cellF (σ.shf c) (nI 2) i) ≤ 0 → vp_in (nI 8 * nI c + i) 24 ∧ CV mX10_copies [.ref 209, .int m, .int (nI 7 + nI 8 * nI c + i)] (sh, xi I1 229 ((nI 8 * nI c + i).toNatClampNeg) (nI sort), R) (fun h1 => Ex mX10_lay 118 [xU, xU, xU, xU, xU, xU, xU] [] h1 0 0 (xqI Q))) ∧ (¬ nI (cellF (σ.shf c) (nI 2) i) ≤ 0 → Q (-10 - nI (cellF (σ.shf c) (nI 2) i)) (sh, I1, R)))) ∧ (¬ I1 227 (nI c).toNatClampNeg = nI sort → Q (-10 - nI 4) (sh, I1, R))))))) := by
    intro sort hs1 hsort
    refine ⟨fun q => ⟨fun q2 => ?_, fun _ => noc (fun z => q (by rw [z]; rfl))⟩, fun q => ?_⟩
    · have hne : cellF (σ.shf c) (nI 2) i ≠ 0 := fun z => q (by rw [z]; rfl)
      exact absurd q2 (nI_ge (b := cellF (σ.shf c) (nI 2) i) (a := 0) (by omega) (by omega))
    · have h0 : cellF (σ.shf c) (nI 2) i = 0 := (nI_eq (b := 0) (by omega) (by omega)).mp q
      obtain ⟨s, hs, hin⟩ := cellF_0 h0
      obtain ⟨l1, l2⟩ := lane s hs
      have hlo : laneOf (σ.shf c) = s.lane := by rw [hs]; rfl
      rw [nclamp (by omega), l1]
      refine ⟨vp_nI (by omega) (by omega), fun q2 => ⟨fun _ => put sort hsort h0 (fun z => z.1 (by rw [hlo]; exact (nI_eq (a := s.lane) (b := 2) (by omega) (by omega)).mp q2)), fun z => absurd (by rw [h0]; decide) z⟩, fun q2 => ⟨vp_nI (by omega) (by omega), fun q3 => ⟨fun _ => put sort hsort h0 (fun z => z.2 (by rw [hlo]; exact (nI_eq (a := s.lane) (b := sort) (by omega) (by omega)).mp q3)), fun z => absurd (by rw [h0]; decide) z⟩, fun q3 => no 4 ?_ (by decide)⟩⟩
      rw [← hsort]
      unfold layF
      rw [if_pos h0, if_pos ⟨fun z => q2 (by rw [← hlo, z]), fun z => q3 (by rw [← hlo, z])⟩]
  refine bX10_lay_33 hW ⟨fun q => both 1 (by omega) (by rw [if_neg q]), fun q => both 0 (by omega) (by rw [if_pos q])⟩
end MODZ2
