section MODR2
variable {sh : List xSh} {I : Nat → Nat → Int32} {R : Nat → Nat → Option Nat}
theorem w_leastMany {σ : St} [NeZero σ.p] {Q : Int32 → xHp → Prop} (hW : xLay sh R) (h : mdR I σ) (k : ∀ I', mdR I' σ → mFr I I' → Q (nI (BS σ.p σ.L σ.t.A).length) (sh, I', R)) : CI mX10_leastMany [.ref 209] (sh, I, R) Q := by
  obtain ⟨_, h1, hokA, -⟩ := h.ok.t
  refine eX10_leastMany (bX10_leastMany_0 hW (w_bases (m := 0) hW h.ctx (by decide) h.A hokA (fun I' hf hf9 hB => bX10_leastMany_5 hW ?_)))
  have md : mdR I' σ := h.eq ⟨fun j hj => hf9 j (fun z => by subst z; exact absurd hj (by decide)), pgF.of hf (by decide), fun q hq => hf q (fun z => by revert hq z; simp; omega)⟩
  rw [hB.1]
  exact k I' md (mFr.of hf (by simp))
def shfN (σ : St) : Nat → Nat
  | 0 => 0
  | n + 1 => shfN σ n + (if (σ.shf n).isSome then 1 else 0)
theorem shfN_le (σ : St) : ∀ n, shfN σ n ≤ n := by
  intro n
  induction n with
  | zero => exact Nat.le_refl _
  | succ n ih => show shfN σ n + _ ≤ n + 1; split <;> omega
theorem w_shelvesThere {σ : St} {Q : Int32 → xHp → Prop} (hW : xLay sh R) (h : mdR I σ) (k : Q (nI (shfN σ 3)) (sh, I, R)) : CI mX10_shelvesThere [.ref 209] (sh, I, R) Q := by
  have loop : ∀ j c, c + j = 3 → Ex mX10_shelvesThere 4 [.ref 209, .int (nI (shfN σ c)), .int (nI c)] [] (sh, I, R) 0 0 (xqI Q) := by
    intro j
    induction j with
    | zero =>
      intro c hc
      obtain rfl : c = 3 := by omega
      exact bX10_shelvesThere_4 hW ⟨fun _ => k, fun q => absurd (nI_le (by omega) (by omega)) q⟩
    | succ j ih =>
      intro c hc
      refine bX10_shelvesThere_4 hW ⟨fun q => absurd q (nI_ge (by omega) (by omega)), fun _ => ⟨vp_nI (by omega) (by omega), ?_⟩⟩
      rw [nclamp (by omega)]
      simp only [nI_add]
      have hs := h.shf c (by omega)
      have := ih (c + 1) (by omega)
      have e : shfN σ (c + 1) = shfN σ c + (if (σ.shf c).isSome then 1 else 0) := rfl
      rw [e] at this
      cases hsc : σ.shf c with
      | none =>
        rw [hsc] at hs this
        rw [show I 227 c = -4 from hs]
        exact ⟨fun z => absurd rfl z, fun _ => this⟩
      | some s =>
        rw [hsc] at hs this
        have ho := h.ok.shf c s hsc
        rw [hs.1]
        exact ⟨fun _ => this, fun z => absurd z (nI_m4 (by have := ho.1; omega))⟩
  exact eX10_shelvesThere (bX10_shelvesThere_0 hW (loop 3 0 (by omega)))
end MODR2
