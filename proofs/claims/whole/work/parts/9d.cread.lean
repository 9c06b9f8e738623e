section CREAD
variable {sh : List xSh} {I : Nat → Nat → Int32} {R : Nat → Nat → Option Nat}
/-- the class's tape -/
def cT (I : Nat → Nat → Int32) (T : List Nat) : Prop := I 2 1 = nI T.length ∧ T.length ≤ 200 ∧ (∀ j, j < T.length → I 3 j = nI (T.getD j 0)) ∧ ∀ j, T.getD j 0 < 128
def cE (I : Nat → Nat → Int32) (e : Nat × Nat) : Prop := I 2 13 = nI e.1 ∧ I 2 14 = nI e.2 ∧ 1 ≤ e.1 ∧ e.1 ≤ 5 ∧ e.2 ≤ 200
def cP (I : Nat → Nat → Int32) (T : List Nat) : Pz Nat → Prop
  | .inl e => cE I e
  | .inr i => I 2 13 = nI 0 ∧ I 2 2 = nI i ∧ i ≤ T.length
def cK (I : Nat → Nat → Int32) (T : List Nat) : Pz (Nat × Nat × Nat) → Prop
  | .inl e => cE I e
  | .inr t => I 2 13 = nI 0 ∧ I 2 3 = nI t.1 ∧ I 2 4 = nI t.2.1 ∧ I 2 2 = nI t.2.2 ∧ tkOK T t.1 t.2.1 t.2.2 ∧ (t.1 = 2 → I 2 5 = nI (tvl T t.2.1 t.2.2))
/-- only the token has moved -/
def tF (I I' : Nat → Nat → Int32) : Prop := Fr [2] I I' ∧ ∀ j, j ∉ [2, 3, 4, 5, 13, 14] → I' 2 j = I 2 j
theorem tF.rf {I : Nat → Nat → Int32} : tF I I := ⟨Fr.rf, fun _ _ => rfl⟩
theorem tF.tr {I I1 I2 : Nat → Nat → Int32} (h1 : tF I I1) (h2 : tF I1 I2) : tF I I2 := ⟨h1.1.tr h2.1, fun j hj => (h2.2 j hj).trans (h1.2 j hj)⟩
theorem tF.xi {I I1 : Nat → Nat → Int32} {j : Nat} {v : Int32} (h : tF I I1) (hj : j ∈ [2, 3, 4, 5, 13, 14]) : tF I (xi I1 2 j v) := by
  refine ⟨h.1.xi (by simp), fun i hi => ?_⟩
  have hne : i ≠ j := fun e => hi (by rw [e]; exact hj)
  rw [xi_s hne]; exact h.2 i hi
theorem cT.tF {I I' : Nat → Nat → Int32} {T : List Nat} (h : cT I T) (hf : tF I I') : cT I' T := ⟨by rw [hf.2 1 (by decide)]; exact h.1, h.2.1, fun j hj => by rw [hf.1.at 3 j (by decide)]; exact h.2.2.1 j hj, h.2.2.2⟩
theorem cE.ne {e : Nat × Nat} (h : cE I e) : ¬ I 2 13 = 0 := by rw [h.1]; exact nI_ne0 (by have := h.2.2.1; omega) (by have := h.2.2.2.1; omega)
def kdC (c : Nat) : Nat := if lowC c = true then 1 else if digC c = true then 2 else if c = 59 then 3 else 4
theorem k_kindT {c : Nat} {Q : Int32 → xHp → Prop} (hW : xLay sh R) (hc : c < 128) (k : Q (nI (kdC c)) (sh, I, R)) : CI mX4_kindOfToken [.int (nI c)] (sh, I, R) Q := by
  have n1 : lowC c = true → kdC c = 1 := fun h => by unfold kdC; rw [if_pos h]
  have n2 : ¬ lowC c = true → digC c = true → kdC c = 2 := fun h h2 => by unfold kdC; rw [if_neg h, if_pos h2]
  have n3 : ¬ lowC c = true → ¬ digC c = true → c = 59 → kdC c = 3 := fun h h2 h3 => by unfold kdC; rw [if_neg h, if_neg h2, if_pos h3]
  have n4 : ¬ lowC c = true → ¬ digC c = true → c ≠ 59 → kdC c = 4 := fun h h2 h3 => by unfold kdC; rw [if_neg h, if_neg h2, if_neg h3]
  have lt : ∀ b, b < 128 → (nI c < nI b ↔ c < b) := fun b hb => ⟨fun z => (nI_ltI (by omega) (by omega)).mp z, fun z => nI_lt z (by omega)⟩
  have gt : ∀ b, b < 128 → (nI b < nI c ↔ b < c) := fun b hb => ⟨fun z => (nI_ltI (by omega) (by omega)).mp z, fun z => nI_lt z (by omega)⟩
  have eq : nI c = nI 59 ↔ c = 59 := nI_eq (by omega) (by omega)
  have last : ¬ lowC c = true → ¬ digC c = true → (¬ nI c = nI 59 → Q (nI 4) (sh, I, R)) ∧ (nI c = nI 59 → Q (nI 3) (sh, I, R)) := fun h1 h2 => ⟨fun z => by rw [n4 h1 h2 (fun y => z (eq.mpr y))] at k; exact k, fun z => by rw [n3 h1 h2 (eq.mp z)] at k; exact k⟩
  have dig : ¬ lowC c = true → (nI c < nI 48 → (¬ nI c = nI 59 → Q (nI 4) (sh, I, R)) ∧ (nI c = nI 59 → Q (nI 3) (sh, I, R))) ∧ (¬ nI c < nI 48 → (nI 57 < nI c → (¬ nI c = nI 59 → Q (nI 4) (sh, I, R)) ∧ (nI c = nI 59 → Q (nI 3) (sh, I, R))) ∧ (¬ nI 57 < nI c → Q (nI 2) (sh, I, R))) := fun h1 => by
    refine ⟨fun z => last h1 (fun y => ?_), fun z => ⟨fun y => last h1 (fun w => ?_), fun y => ?_⟩⟩
    · have := digC_iff.mp y; have := (lt 48 (by omega)).mp z; omega
    · have := digC_iff.mp w; have := (gt 57 (by omega)).mp y; omega
    · have a1 : ¬ c < 48 := fun w => z ((lt 48 (by omega)).mpr w)
      have a2 : ¬ 57 < c := fun w => y ((gt 57 (by omega)).mpr w)
      rw [n2 h1 (digC_iff.mpr (by omega))] at k; exact k
  refine eX4_kindOfToken (bX4_kindOfToken_0 hW ⟨fun z => dig (fun y => ?_), fun z => ⟨fun y => dig (fun w => ?_), fun y => ?_⟩⟩)
  · have := lowC_iff.mp y; have := (lt 97 (by omega)).mp z; omega
  · have := lowC_iff.mp w; have := (gt 122 (by omega)).mp y; omega
  · have a1 : ¬ c < 97 := fun w => z ((lt 97 (by omega)).mpr w)
    have a2 : ¬ 122 < c := fun w => y ((gt 122 (by omega)).mpr w)
    rw [n1 (lowC_iff.mpr (by omega))] at k; exact k
theorem k_readName {T : List Nat} {a : Nat} {Q : xHp → Prop} (hW : xLay sh R) (hT : cT I T) (h2 : I 2 2 = nI a) (ha : a ≤ T.length)
    (k : ∀ I', tF I I' → (∀ j, j ≠ 2 → I' 2 j = I 2 j) → I' 2 2 = nI (runE T lowC a) → Q (sh, I', R)) : CV mX4_readName [.ref 2] (sh, I, R) Q := by
  have hT2 := hT.2.1
  have loop : ∀ m i (I1 : Nat → Nat → Int32), i + m = T.length → tF I I1 → (∀ j, j ≠ 2 → I1 2 j = I 2 j) → I1 2 2 = nI i → runE T lowC i = runE T lowC a → Ex mX4_readName 0 [.ref 2] [] (sh, I1, R) 0 0 (xqV Q) := by
    intro m
    induction m with
    | zero =>
      intro i I1 hi hf hs h22 hr
      have hT1 := hT.tF hf
      refine bX4_readName_0 hW ⟨fun _ => k I1 hf hs ?_, fun z => ?_⟩
      · rw [h22, ← hr, runE_n (fun z => absurd z (by omega))]
      · rw [h22, hT1.1] at z; exact absurd (nI_le (by omega) (by omega)) z
    | succ m ih =>
      intro i I1 hi hf hs h22 hr
      have hT1 := hT.tF hf
      have hb := hT1.2.2.2 i
      refine bX4_readName_0 hW ?_
      rw [h22, hT1.1, nclamp (a := i) (by omega), hT1.2.2.1 i (by omega), nI_add]
      have stop : ¬ lowC (T.getD i 0) = true → Q (sh, I1, R) := fun h => k I1 hf hs (by rw [h22, ← hr, runE_n (fun _ => by simpa using h)])
      refine ⟨fun z => absurd z (nI_ge (by omega) (by omega)), fun _ => ⟨vp_nI (by omega) (by omega), fun z => stop (fun y => ?_), fun z => ⟨vp_nI (by omega) (by omega), fun y => stop (fun w => ?_), fun y => ?_⟩⟩⟩
      · have := lowC_iff.mp y; have := (nI_ltI (by omega) (by omega)).mp z; omega
      · have := lowC_iff.mp w; have := (nI_ltI (by omega) (by omega)).mp y; omega
      · have a1 : ¬ T.getD i 0 < 97 := fun w => z (nI_lt w (by omega))
        have a2 : ¬ 122 < T.getD i 0 := fun w => y (nI_lt w (by omega))
        refine ih (i + 1) _ (by omega) (hf.xi (by simp)) (fun j hj => by rw [xi_s hj]; exact hs j hj) xi_e ?_
        rw [← hr]; exact (runE_y (i := i) (by omega) (lowC_iff.mpr (by omega))).symm
  exact eX4_readName (loop (T.length - a) a I (by omega) tF.rf (fun _ _ => rfl) h2 rfl)
theorem k_readNum {T : List Nat} {a : Nat} {Q : xHp → Prop} (hW : xLay sh R) (hT : cT I T) (h2 : I 2 2 = nI a) (ha : a ≤ T.length)
    (k : ∀ I', tF I I' → (∀ j, j ≠ 2 → j ≠ 5 → I' 2 j = I 2 j) → I' 2 2 = nI (runE T digC a) → (runE T digC a = a + 1 ∨ runE T digC a = a + 2 → I' 2 5 = nI (tvl T a (runE T digC a))) → Q (sh, I', R)) : CV mX4_readNumber [.ref 2] (sh, I, R) Q := by
  have hT2 := hT.2.1
  have loop : ∀ m i x (I1 : Nat → Nat → Int32), i + m = T.length → a ≤ i → tF I I1 → (∀ j, j ≠ 2 → j ≠ 5 → I1 2 j = I 2 j) → I1 2 2 = nI i → I1 2 5 = nI x → x ≤ 99 → (i = a → x = 0) → (i = a + 1 ∨ i = a + 2 → x = tvl T a i) → runE T digC i = runE T digC a → Ex mX4_readNumber 5 [.ref 2] [] (sh, I1, R) 0 0 (xqV Q) := by
    intro m
    induction m with
    | zero =>
      intro i x I1 hi hai hf hs h22 h25 hx x0 x1 hr
      have hT1 := hT.tF hf
      have er : runE T digC i = i := runE_n (fun z => absurd z (by omega))
      refine bX4_readNumber_5 hW ⟨fun _ => k I1 hf hs ?_ ?_, fun z => ?_⟩
      · rw [h22, ← hr, er]
      · rw [← hr, er]; intro z; rw [h25, x1 z]
      · rw [h22, hT1.1] at z; exact absurd (nI_le (by omega) (by omega)) z
    | succ m ih =>
      intro i x I1 hi hai hf hs h22 h25 hx x0 x1 hr
      have hT1 := hT.tF hf
      have hb := hT1.2.2.2 i
      refine bX4_readNumber_5 hW ?_
      rw [h22, hT1.1, nclamp (a := i) (by omega), hT1.2.2.1 i (by omega), nI_add, h25]
      have stop : ¬ digC (T.getD i 0) = true → Q (sh, I1, R) := fun h => by
        have er : runE T digC i = i := runE_n (fun _ => by simpa using h)
        refine k I1 hf hs (by rw [h22, ← hr, er]) ?_
        rw [← hr, er]; intro z; rw [h25, x1 z]
      refine ⟨fun z => absurd z (nI_ge (by omega) (by omega)), fun _ => ⟨vp_nI (by omega) (by omega), fun z => stop (fun y => ?_), fun z => ⟨vp_nI (by omega) (by omega), fun y => stop (fun w => ?_), fun y => ?_⟩⟩⟩
      · have := digC_iff.mp y; have := (nI_ltI (by omega) (by omega)).mp z; omega
      · have := digC_iff.mp w; have := (nI_ltI (by omega) (by omega)).mp y; omega
      · have a1 : ¬ T.getD i 0 < 48 := fun w => z (nI_lt w (by omega))
        have a2 : ¬ 57 < T.getD i 0 := fun w => y (nI_lt w (by omega))
        refine ⟨by decide, vp_nI (by omega) (by omega), ?_⟩
        rw [xrem_nI (by omega) (by omega) (by omega), pk_mul, pk_sub (by omega), nI_add]
        refine ih (i + 1) (x % 10 * 10 + (T.getD i 0 - 48)) _ (by omega) (by omega) ((hf.xi (by simp)).xi (by simp)) (fun j hj hj2 => by rw [xi_s hj, xi_s hj2]; exact hs j hj hj2) xi_e (by rw [xi_s (by decide), xi_e]) (by omega) (by omega) (fun w => ?_) ?_
        · unfold tvl
          rcases w with w | w
          · obtain rfl : i = a := by omega
            rw [if_pos w, x0 rfl]; omega
          · obtain rfl : i = a + 1 := by omega
            have := x1 (Or.inl rfl)
            unfold tvl at this
            rw [if_pos rfl] at this
            rw [if_neg (by omega), this]
            have h99 := x1 (Or.inl rfl)
            have hd : T.getD a 0 - 48 ≤ 9 := by
              have hge : runE T digC a ≠ a := fun q => by
                have := runE_ge (T := T) (f := digC) (i := a + 1); omega
              have : digC (T.getD a 0) = true := by
                cases hq : digC (T.getD a 0) with
                | true => rfl
                | false => exact absurd (runE_n (fun _ => hq)) hge
              have := digC_iff.mp this; omega
            omega
        · rw [← hr]; exact (runE_y (i := i) (by omega) (digC_iff.mpr (by omega))).symm
  refine eX4_readNumber (bX4_readNumber_0 hW ?_)
  exact loop (T.length - a) a 0 _ (by omega) (Nat.le_refl _) (tF.rf.xi (by simp)) (fun j hj hj2 => xi_s hj2) (by rw [xi_s (by decide)]; exact h2) xi_e (by omega) (fun _ => rfl) (fun w => by omega) rfl
theorem k_refuse {w p : Nat} {Q : xHp → Prop} (hW : xLay sh R) (h0 : I 2 13 = nI 0) (h1 : 1 ≤ w) (h5 : w ≤ 5) (hp : p ≤ 200) (k : ∀ I', tF I I' → (∀ j, j ≠ 13 → j ≠ 14 → I' 2 j = I 2 j) → cE I' (w, p) → Q (sh, I', R)) : CV mX4_refuse [.ref 2, .int (nI w), .int (nI p)] (sh, I, R) Q := by
  refine eX4_refuse (bX4_refuse_0 hW ⟨fun z => absurd h0 z, fun _ => ?_⟩)
  exact k _ ((tF.rf.xi (by simp)).xi (by simp)) (fun j h1 h2 => by rw [xi_s h2, xi_s h1]) ⟨by rw [xi_s (by decide), xi_e], xi_e, h1, h5, hp⟩
theorem k_refuseF {e : Nat × Nat} {w p : Int32} {Q : xHp → Prop} (hW : xLay sh R) (he : cE I e) (k : Q (sh, I, R)) : CV mX4_refuse [.ref 2, .int w, .int p] (sh, I, R) Q :=
  eX4_refuse (bX4_refuse_0 hW ⟨fun _ => k, fun z => absurd z he.ne⟩)
end CREAD
