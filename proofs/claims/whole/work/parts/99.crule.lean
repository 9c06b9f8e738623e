section CRUL
variable {sh : List xSh} {I : Nat → Nat → Int32} {R : Nat → Nat → Option Nat}
theorem k_unlike {σ : St} {Q : Int32 → xHp → Prop} (hW : clR sh I R σ) (k : Q (nI (wdsN σ.L σ.t.P σ.t.S)) (sh, I, R)) : CI mX8_unlikeWords [.ref 9, .int (I 1 1)] (sh, I, R) Q := by
  obtain ⟨_, -, -, -, ht, hsf, -, -, h4, h42⟩ := hW.ok.t
  have hL1 := hW.ok.L1
  have hL3 := hW.ok.L3
  have e5 := hW.st.2.2.2.2.1
  have e6 := hW.st.2.2.2.2.2.2.1
  have hS : 1 ≤ σ.t.S.length := by
    rcases Nat.eq_zero_or_pos σ.t.S.length with z | z
    · have := hsf.1
      rw [List.length_eq_zero_iff.mp z] at this
      exact absurd this (by decide)
    · exact z
  unfold wdsN at k
  refine eX8_unlikeWords (bX8_unlikeWords_0 hW.lay hW.lay.2.2.1 ?_)
  rw [e5, e6, hW.ctx.2.1]
  refine ⟨fun z => ?_, fun z => ?_⟩
  · rw [if_neg (fun y => z (by rw [y]; rfl))] at k
    have hle : σ.t.S.length - 1 ≤ σ.L * σ.t.S.length := by
      have := Nat.mul_le_mul hL1 (Nat.le_refl σ.t.S.length)
      omega
    rw [show nI σ.t.S.length - nI 1 = nI (σ.t.S.length - 1) from pk_sub hS, pk_mul, pk_sub hle, pk_mul, nI_add]
    exact k
  · have := (nI_eq (b := 0) (by omega) (by omega)).mp z
    rw [if_pos this] at k
    exact k
theorem k_keptN {σ : St} {Q : Int32 → xHp → Prop} (hW : clR sh I R σ) (k : Q (nI (kepN σ)) (sh, I, R)) : CI mX9_keptImages [.ref 0] (sh, I, R) Q := by
  have e : ∀ c, c < 2 → (I 21 c = 0 ∧ (σ.kept c).isSome = false) ∨ (¬ I 21 c = 0 ∧ (σ.kept c).isSome = true) := fun c hc => by
    have h0 := hW.kept c hc
    cases hk : σ.kept c with
    | none => rw [hk] at h0; exact Or.inl ⟨h0, rfl⟩
    | some τ => rw [hk] at h0; exact Or.inr ⟨by rw [h0.1]; decide, rfl⟩
  have h0 := e 0 (by omega)
  have h1 := e 1 (by omega)
  unfold kepN at k
  have c0 : (nI 0).toNatClampNeg = 0 := by decide
  have c1 : (nI 1).toNatClampNeg = 1 := by decide
  refine eX9_keptImages (bX9_keptImages_0 hW.lay (bX9_keptImages_4 hW.lay ⟨fun z => absurd z (by decide), fun _ => ⟨vp_nI (by omega) (by omega), ?_⟩⟩))
  have fin : ∀ v1, (∀ n, v1 = nI n → (σ.kept 1).isSome = true → Q (nI (n + 1)) (sh, I, R)) → (∀ n, v1 = nI n → (σ.kept 1).isSome = false → Q (nI n) (sh, I, R)) → ∀ n, v1 = nI n → Ex mX9_keptImages 4 [.ref 0, .int v1, .int (nI 1)] [] (sh, I, R) 0 0 (xqI Q) := by
    intro v1 k1 k0 n hn
    subst hn
    refine bX9_keptImages_4 hW.lay ⟨fun z => absurd z (by decide), fun _ => ⟨vp_nI (by omega) (by omega), ?_⟩⟩
    rw [c1]
    refine ⟨fun y => bX9_keptImages_4 hW.lay ⟨fun _ => ?_, fun z => absurd (by decide) z⟩, fun y => bX9_keptImages_4 hW.lay ⟨fun _ => ?_, fun z => absurd (by decide) z⟩⟩
    · rcases h1 with ⟨a, b⟩ | ⟨a, b⟩
      · have := k0 n rfl b
        rw [nI_add]; exact this
      · exact absurd y a
    · rcases h1 with ⟨a, b⟩ | ⟨a, b⟩
      · exact absurd a y
      · have := k1 n rfl b
        rw [nI_add]; exact this
  rw [c0]
  refine ⟨fun y => ?_, fun y => ?_⟩
  · rcases h0 with ⟨a, b⟩ | ⟨a, b⟩
    · rw [b] at k
      refine fin (nI 0 + nI 0) (fun n hn q => ?_) (fun n hn q => ?_) 0 rfl
      · rw [q] at k; rw [← nI_add, ← hn]; exact k
      · rw [q] at k; rw [← hn]; exact k
    · exact absurd y a
  · rcases h0 with ⟨a, b⟩ | ⟨a, b⟩
    · exact absurd a y
    · rw [b] at k
      refine fin (nI 0 + nI 1) (fun n hn q => ?_) (fun n hn q => ?_) 1 rfl
      · rw [q] at k; rw [← nI_add, ← hn]; exact k
      · rw [q] at k; rw [← hn]; exact k
theorem k_shelves {σ : St} {Q : Int32 → xHp → Prop} (hW : clR sh I R σ) (k : Q (nI (shfN σ 3)) (sh, I, R)) : CI mX9_standingShelves [.ref 0] (sh, I, R) Q := by
  have loop : ∀ j c, c + j = 3 → Ex mX9_standingShelves 4 [.ref 0, .int (nI (shfN σ c)), .int (nI c)] [] (sh, I, R) 0 0 (xqI Q) := by
    intro j
    induction j with
    | zero =>
      intro c hc
      obtain rfl : c = 3 := by omega
      exact bX9_standingShelves_4 hW.lay ⟨fun _ => k, fun q => absurd (nI_le (by omega) (by omega)) q⟩
    | succ j ih =>
      intro c hc
      refine bX9_standingShelves_4 hW.lay ⟨fun q => absurd q (nI_ge (by omega) (by omega)), fun _ => ⟨vp_nI (by omega) (by omega), ?_⟩⟩
      rw [nclamp (a := c) (by omega)]
      simp only [nI_add]
      have hs := hW.shf c (by omega)
      have := ih (c + 1) (by omega)
      have e : shfN σ (c + 1) = shfN σ c + (if (σ.shf c).isSome then 1 else 0) := rfl
      rw [e] at this
      cases hsc : σ.shf c with
      | none =>
        rw [hsc] at hs this
        exact ⟨fun z => absurd (show I (200 + 3 * c) 4 = -1 from hs) z, fun _ => this⟩
      | some s =>
        rw [hsc] at hs this
        have ho := hW.ok.shf c s hsc
        refine ⟨fun _ => this, fun z => absurd (hs.1.symm.trans z) (nI_m1 (by have := ho.2.1; omega))⟩
  exact eX9_standingShelves (bX9_standingShelves_0 hW.lay (loop 3 0 (by omega)))
theorem k_rule {σ : St} [NeZero σ.p] {w : Int32} {Q : Int32 → xHp → Prop} (hW : clR sh I R σ) (k : ∀ I' R', clR sh I' R' σ → cFr I I' → Q (ruleA σ w) (sh, I', R')) : CI mX9_rule [.ref 0, .int w] (sh, I, R) Q := by
  have hin : ∀ n : Nat, n < 13 → w.toInt = (n : Int) → ruleA σ w = ruleN σ n := fun n hn e => by
    unfold ruleA
    rw [if_pos ⟨by omega, by omega⟩]
    congr 1
    unfold nN; omega
  have hst := hW.st
  obtain ⟨a1, a2, a3, a4, a5, a6, a7, a8, a9⟩ := hst
  refine eX9_rule (bX9_rule_0 hW.lay ⟨fun q => ?_, fun q => ?_, fun q => ?_, fun q => ?_, fun q => ?_, fun q => ?_, fun q => ?_, fun q => ?_, fun q => ?_, fun q => ?_, fun q => ?_, fun q => ?_, fun q => ?_, fun q => ?_⟩)
  · refine bX9_rule_199 hW.lay ?_
    have := k I R hW cFr.rf
    unfold ruleA at this
    rwa [if_neg (fun z => by have := z.1; have := z.2; omega)] at this
  · have e := hin 0 (by decide) q
    rw [e] at k
    refine bX9_rule_68 hW.lay ?_
    rw [hW.ctx.1]; exact k I R hW cFr.rf
  · have e := hin 1 (by decide) q
    rw [e] at k
    refine bX9_rule_76 hW.lay ?_
    rw [hW.ctx.2.1]; exact k I R hW cFr.rf
  · have e := hin 2 (by decide) q
    rw [e] at k
    refine bX9_rule_84 hW.lay ?_
    rw [show I 12 2 = _ from a1.2.2.1]; exact k I R hW cFr.rf
  · have e := hin 3 (by decide) q
    rw [e] at k
    have k2 := k I R hW cFr.rf
    unfold ruleN at k2
    refine bX9_rule_95 hW.lay ?_
    rw [a2]
    cases hg : σ.t.g with
    | false => rw [hg, if_neg (by decide)] at k2; exact ⟨fun _ => k2, fun z => absurd rfl z⟩
    | true =>
      rw [hg, if_pos rfl] at k2
      refine ⟨fun z => absurd z (by decide), fun _ => ?_⟩
      rw [show I 16 2 = _ from (a3 hg).2.2.1]; exact k2
  · have e := hin 4 (by decide) q
    rw [e] at k
    refine bX9_rule_121 hW.lay (k_least hW (fun I' R' h' hf hm hc _ => ⟨fun z => absurd z (by simp), fun a ha => ?_⟩))
    cases ha
    refine bX9_rule_125 h'.lay h'.m173 ?_
    rw [hc.2.2.1, hm.1]; exact k I' R' h' hf
  · have e := hin 5 (by decide) q
    rw [e] at k
    refine bX9_rule_129 hW.lay ?_
    rw [a5]; exact k I R hW cFr.rf
  · have e := hin 6 (by decide) q
    rw [e] at k
    refine bX9_rule_137 hW.lay ?_
    rw [a7]; exact k I R hW cFr.rf
  · have e := hin 7 (by decide) q
    rw [e] at k
    refine bX9_rule_145 hW.lay ?_
    rw [a9]; exact k I R hW cFr.rf
  · have e := hin 8 (by decide) q
    rw [e] at k
    unfold ruleN at k
    refine bX9_rule_153 hW.lay (k_isClosed hW (fun I' R' h' hf hcl => bX9_rule_157 h'.lay ?_) (fun I' R' h' hf hcl => bX9_rule_157 h'.lay ?_))
    · rw [cif_pos hcl] at k
      exact ⟨fun z => absurd z (by decide), fun _ => k I' R' h' hf⟩
    · rw [cif_neg hcl] at k
      exact ⟨fun _ => k I' R' h' hf, fun z => absurd rfl z⟩
  · have e := hin 9 (by decide) q
    rw [e] at k
    exact bX9_rule_166 hW.lay (k_unlike hW (bX9_rule_180 hW.lay (k I R hW cFr.rf)))
  · have e := hin 10 (by decide) q
    rw [e] at k
    refine bX9_rule_181 hW.lay ?_
    rw [hW.tape.1]; exact k I R hW cFr.rf
  · have e := hin 11 (by decide) q
    rw [e] at k
    exact bX9_rule_189 hW.lay (k_keptN hW (bX9_rule_193 hW.lay (k I R hW cFr.rf)))
  · have e := hin 12 (by decide) q
    rw [e] at k
    exact bX9_rule_194 hW.lay (k_shelves hW (bX9_rule_198 hW.lay (k I R hW cFr.rf)))
end CRUL
