/-! THE REFERENCE: the base, the least machine -/
noncomputable def BS (p : Nat) [NeZero p] (L : Nat) (A : Mac) : List Nat := BB (RW p L A (fun i => i)) (fst L 4) (fst L 4)
theorem RW_fun {p L : Nat} [NeZero p] (hL : 0 < L) (A : Mac) (cs : Nat → Nat) : RW p L A cs = rowC A.1 (fS p A) (fW p A) L (bcol p L A cs) := by
  funext w i; exact RW_row hL A cs w i
theorem inS_up {F : Type} [Lean.Grind.CommRing F] {W k k' : Nat} {r : Nat → Nat → F} {v : Nat → F} (hk : k ≤ k') (h : inS W k r v) : inS W k' r v := inS_more hk h
theorem bcol_all {p L : Nat} [NeZero p] (hp : p ∈ PR) (hL : 0 < L) {A : Mac} (hA : A.1 ≤ 4) (l : List Nat) (hl : ∀ x ∈ l, x < L) : inS A.1 (fst L 4) (bcol p L A (fun i => i)) (bvl A.1 (fE p A) (fW p A) l) := inS_more (fst_mono hA) (bvl_short (isF_p hp) hL (fE p A) (fW p A) l hl)
theorem RW_hstp {p L : Nat} [NeZero p] (hp : p ∈ PR) (hL : 0 < L) {A : Mac} (hA : A.1 ≤ 4) : hstp (RW p L A (fun i => i)) (fst L 4) L := by
  rw [RW_fun hL]
  refine rowC_hstp (fun x hx i hi => ?_)
  exact bcol_all hp hL hA (x :: wl L i) (fun y hy => by
    rcases List.mem_cons.mp hy with rfl | hy
    · exact hx
    · exact wl_lt hL i y hy)
theorem BB_le4 {p L C : Nat} [NeZero p] (hp : p ∈ PR) (hL : 0 < L) {A : Mac} {cs : Nat → Nat} (N : Nat) : (BB (RW p L A cs) C N).length ≤ A.1 := indp_states (cs := cs) (C := C) hp hL (BB_ind (isF_p hp) N)
theorem BS_len {p L N : Nat} [NeZero p] (hp : p ∈ PR) (hL : 0 < L) {A : Mac} (hA : A.1 ≤ 4) {w : Nat} (h : w ∈ BB (RW p L A (fun i => i)) (fst L 4) N) : wlen L w ≤ 3 := by
  have h1 := BB_len hL (RW_hstp hp hL hA) w N h
  have h2 := BB_le4 (C := fst L 4) (cs := fun i => i) hp hL (A := A) (w + 1)
  omega
theorem BS_all {p L : Nat} [NeZero p] (hp : p ∈ PR) (hL : 0 < L) {A : Mac} (hA : A.1 ≤ 4) (w : Nat) : dpw (RW p L A (fun i => i)) (fst L 4) (BS p L A) w := by
  by_cases q : w < fst L 4
  · exact BB_dep q
  · have h1 : dpw (RW p L A (fun i => i)) (fst L 4) (BB (RW p L A (fun i => i)) (fst L 4) (w + 1)) w := BB_dep (Nat.lt_succ_self w)
    obtain ⟨t, ht, hx⟩ := BB_ext (row := RW p L A (fun i => i)) (W := fst L 4) (M := fst L 4) (w + 1 - fst L 4)
    rw [show fst L 4 + (w + 1 - fst L 4) = w + 1 by omega] at ht
    have : t = [] := by
      cases t with
      | nil => rfl
      | cons y t =>
        exfalso
        have hy : y ∈ BB (RW p L A (fun i => i)) (fst L 4) (w + 1) := by rw [ht]; simp
        have h3 := BS_len hp hL hA hy
        have h4 := (wlen_lt_iff hL y 4).mp (by omega)
        have h5 := hx y (by simp)
        omega
    rw [this, List.append_nil] at ht
    rw [ht] at h1
    exact h1
theorem gd_mem {B : List Nat} {j : Nat} (h : j < B.length) : B.getD j 0 ∈ B := by rw [gd_el h]; exact List.getElem_mem h
section MODI
variable {sh : List xSh} {I : Nat → Nat → Int32} {R : Nat → Nat → Option Nat}
theorem w_bases {p L m : Nat} [NeZero p] {A : Mac} {Q : xHp → Prop} (hW : xLay sh R) (hc : mCtx I p L) (hm : m < 33) (hA : mRep I L m A) (hok : okM p L A)
    (k : ∀ I', Fr [209, 211, 212, 213, 214, 217] I I' → (∀ j, j ≠ 14 → I' 209 j = I 209 j) → mBas I' (BS p L A) → Q (sh, I', R)) : CV mX10_bases [.ref 209, .int (nI m)] (sh, I, R) Q := by
  obtain ⟨hP, hL, hpr, hL1, hL3⟩ := id hc
  have h40 := fst4 hL3
  have hA4 := hA.1
  have loop : ∀ n w (I1 : Nat → Nat → Int32), w + n = fst L 4 → Fr [209, 211, 212, 213, 214, 217] I I1 → (∀ j, j ≠ 14 → I1 209 j = I 209 j) → mBas I1 (BB (RW p L A (fun i => i)) (fst L 4) w) → Ex mX10_bases 7 [.ref 209, .int (nI m), .int (nI w)] [] (sh, I1, R) 0 0 (xqV Q) := by
    intro n
    induction n with
    | zero =>
      intro w I1 hw hf hf9 hB
      obtain rfl : w = fst L 4 := by omega
      refine bX10_bases_7 hW (w_firstOf hW (by rw [hf9 2 (by decide)]; exact hL) (by omega) (bX10_bases_13 hW ⟨fun _ => k I1 hf hf9 hB, fun q => absurd (nI_le (Nat.le_refl _) (by omega)) q⟩))
    | succ n ih =>
      intro w I1 hw hf hf9 hB
      have hc1 : mCtx I1 p L := ⟨by rw [hf9 1 (by decide)]; exact hP, by rw [hf9 2 (by decide)]; exact hL, hpr, hL1, hL3⟩
      refine bX10_bases_7 hW (w_firstOf hW (by rw [hf9 2 (by decide)]; exact hL) (by omega) (bX10_bases_13 hW ⟨fun q => absurd q (nI_ge (by omega) (by omega)), fun _ => ?_⟩))
      have hwl := (wlen_lt_iff hL1 w 4).mpr (by omega)
      refine w_isBased hW hc1 hm (hA.fr hf (by decide)) hok hB (fun j hj => by have := BS_len hpr hL1 hA4 (gd_mem hj); omega) (by omega) (BB_ind (isF_p hpr) w) (fun I2 c hf2 _ h2 => ?_) (fun I2 hf2 h2 => ?_)
      · refine bX10_bases_22 hW ⟨fun _ => ?_, fun q => absurd q (by decide)⟩
        rw [nI_add]
        refine ih (w + 1) I2 (by omega) (hf.tr (hf2.sub (by simp))) (fun j hj => by rw [hf2.at 209 j (by decide)]; exact hf9 j hj) ?_
        rw [BB_pos ⟨fun j => fo p (c j), h2⟩]
        exact hB.fr hf2 (by decide) (by decide)
      · refine bX10_bases_22 hW ⟨fun q => absurd rfl q, fun _ => ?_⟩
        have hB2 := hB.fr hf2 (by decide) (by decide)
        have hn := BB_le4 (C := fst L 4) (cs := fun i => i) hpr hL1 (A := A) (w + 1)
        have hneg := BB_neg h2
        rw [hneg, List.length_append] at hn
        simp at hn
        rw [hB2.1, nclamp (by omega), nI_add, nI_add]
        refine ⟨vp_nI (by omega) (by omega), ?_⟩
        refine ih (w + 1) _ (by omega) (((hf.tr (hf2.sub (by simp))).xi (by simp)).xi (by simp)) (fun j hj => by rw [xi_s hj, xi_p (by decide), hf2.at 209 j (by decide)]; exact hf9 j hj) ?_
        rw [hneg]
        refine ⟨by rw [xi_e]; simp, by simp; omega, fun j hj => ?_⟩
        rw [xi_p (by decide)]
        simp at hj
        by_cases e : j = (BB (RW p L A (fun i => i)) (fst L 4) w).length
        · subst e; rw [xi_e, gd_last]
        · rw [xi_s e, gd_app (by omega)]; exact hB2.2.2 j (by omega)
  refine eX10_bases (bX10_bases_0 hW ?_)
  refine loop (fst L 4) 0 _ (by omega) (Fr.rf.xi (by simp)) (fun j hj => xi_s hj) ⟨xi_e, by simp [BB], fun j hj => by simp [BB] at hj⟩
end MODI
