/-! endings, more of them -/
section ENDS
theorem wlen_bd {L : Nat} (hL : 0 < L) (v : Nat) : fst L (wlen L v) ≤ v ∧ v - fst L (wlen L v) < L ^ wlen L v := by
  have h := wlen_fst hL v
  have e : fst L (wlen L v + 1) = fst L (wlen L v) + L ^ wlen L v := rfl
  omega
theorem lft_cat {L : Nat} (hL : 0 < L) (u v : Nat) : lft L (wcat L u v) (wlen L u) = v := by
  unfold lft
  rw [wlen_cat hL, Nat.add_sub_cancel_left, fst_add]
  have h1 := wlen_bd hL v
  have h2 := (wlen_fst hL u).1
  have h3 := Nat.mul_le_mul_right (L ^ wlen L v) h2
  have e : wcat L u v - (fst L (wlen L u) * L ^ wlen L v + fst L (wlen L v)) = (u - fst L (wlen L u)) * L ^ wlen L v + (v - fst L (wlen L v)) := by
    unfold wcat; rw [Nat.sub_mul]; omega
  rw [e, Nat.add_comm ((u - _) * _), Nat.add_mul_mod_self_right, Nat.mod_eq_of_lt h1.2]
  omega
theorem wl_inj {L : Nat} (hL : 0 < L) {a b : Nat} (h : wl L a = wl L b) : a = b := by rw [← wnum_wl hL a, ← wnum_wl hL b, h]
theorem wcat_split {L : Nat} (hL : 0 < L) (w j : Nat) (hj : j ≤ wlen L w) : ∃ u v, w = wcat L u v ∧ wlen L u = j := by
  have hlt := wl_lt hL w
  refine ⟨wnum L ((wl L w).take j), wnum L ((wl L w).drop j), wl_inj hL ?_, ?_⟩
  · rw [wl_cat hL, wl_num _ (fun x hx => hlt x (List.mem_of_mem_take hx)), wl_num _ (fun x hx => hlt x (List.mem_of_mem_drop hx)), List.take_append_drop]
  · rw [← wl_len hL, wl_num _ (fun x hx => hlt x (List.mem_of_mem_take hx)), List.length_take, wl_len hL]; omega
theorem lft_split {L : Nat} (hL : 0 < L) (w j : Nat) (hj : j ≤ wlen L w) : ∃ u, w = wcat L u (lft L w j) ∧ wlen L u = j := by
  obtain ⟨u, v, h1, h2⟩ := wcat_split hL w j hj
  refine ⟨u, ?_, h2⟩
  have := lft_cat hL u v
  rw [← h1, h2] at this
  rw [this]; exact h1
theorem wcat_as {L : Nat} (hL : 0 < L) (a b c : Nat) : wcat L (wcat L a b) c = wcat L a (wcat L b c) := wl_inj hL (by simp only [wl_cat hL, List.append_assoc])
theorem lft_lft {L : Nat} (hL : 0 < L) (w i j : Nat) (hi : i ≤ wlen L w) (hj : j ≤ wlen L (lft L w i)) : ∃ k, k ≤ wlen L w ∧ lft L (lft L w i) j = lft L w k := by
  obtain ⟨u, h1, h2⟩ := lft_split hL w i hi
  obtain ⟨u2, h3, h4⟩ := lft_split hL (lft L w i) j hj
  have e : w = wcat L (wcat L u u2) (lft L (lft L w i) j) := by rw [wcat_as hL, ← h3]; exact h1
  refine ⟨wlen L (wcat L u u2), ?_, ?_⟩
  · have := congrArg (wlen L) e
    rw [wlen_cat hL (wcat L u u2)] at this
    omega
  · have := lft_cat hL (wcat L u u2) (lft L (lft L w i) j)
    rw [← e] at this
    exact this.symm
theorem lft_0 {L : Nat} (hL : 0 < L) (w : Nat) : lft L w 0 = w := by
  obtain ⟨u, h1, h2⟩ := lft_split hL w 0 (Nat.zero_le _)
  have hu : u = 0 := by
    apply wl_inj hL
    rw [wl_0]
    exact List.length_eq_zero_iff.mp (by rw [wl_len hL]; exact h2)
  rw [hu] at h1
  unfold wcat at h1
  omega
theorem lft_all {L : Nat} (hL : 0 < L) (w : Nat) : lft L w (wlen L w) = 0 := by
  apply wl_inj hL
  rw [wl_0]
  exact List.length_eq_zero_iff.mp (by rw [wl_len hL, lft_len hL]; omega)
theorem enl_mem {L w : Nat} {S : List Nat} : ∀ i x, x ∈ enl L w S i ↔ x ∈ S ∨ ∃ j, j < i ∧ x = lft L w (wlen L w - j) := by
  intro i
  induction i with
  | zero => intro x; simp [enl]
  | succ i ih =>
    intro x
    rw [enl]
    split
    · rename_i q
      rw [ih]
      constructor
      · rintro (h | ⟨j, h1, h2⟩)
        · exact Or.inl h
        · exact Or.inr ⟨j, by omega, h2⟩
      · rintro (h | ⟨j, h1, h2⟩)
        · exact Or.inl h
        · by_cases e : j = i
          · subst e; rw [h2]; exact Or.inl q
          · exact Or.inr ⟨j, by omega, h2⟩
    · rw [List.mem_append, ih]
      constructor
      · rintro ((h | ⟨j, h1, h2⟩) | h)
        · exact Or.inl h
        · exact Or.inr ⟨j, by omega, h2⟩
        · exact Or.inr ⟨i, by omega, List.mem_singleton.mp h⟩
      · rintro (h | ⟨j, h1, h2⟩)
        · exact Or.inl (Or.inl h)
        · by_cases e : j = i
          · subst e; exact Or.inr (by rw [h2]; simp)
          · exact Or.inl (Or.inr ⟨j, by omega, h2⟩)
theorem ena_mem {L w : Nat} {S : List Nat} (x : Nat) : x ∈ ena L w S ↔ x ∈ S ∨ ∃ j, j ≤ wlen L w ∧ x = lft L w j := by
  unfold ena
  rw [enl_mem]
  constructor
  · rintro (h | ⟨j, h1, h2⟩)
    · exact Or.inl h
    · exact Or.inr ⟨wlen L w - j, by omega, h2⟩
  · rintro (h | ⟨j, h1, h2⟩)
    · exact Or.inl h
    · exact Or.inr ⟨wlen L w - j, by omega, by rw [h2]; congr 1; omega⟩
theorem enl_nodup {L w : Nat} (hL : 0 < L) {S : List Nat} (hS : S.Nodup) : ∀ i, i ≤ wlen L w + 1 → (enl L w S i).Nodup := by
  intro i
  induction i with
  | zero => intro _; exact hS
  | succ i ih =>
    intro hi
    rw [enl]
    split
    · exact ih (by omega)
    · rename_i q
      rw [List.nodup_append]
      refine ⟨ih (by omega), by simp, fun a ha b hb => ?_⟩
      rw [List.mem_singleton.mp hb]
      rintro rfl
      rcases (enl_mem i _).mp ha with h | ⟨j, h1, h2⟩
      · exact q h
      · have := congrArg (wlen L) h2
        rw [lft_len hL, lft_len hL] at this
        omega
theorem enl_count {L w : Nat} (hL : 0 < L) {S : List Nat} (h0 : 0 ∈ S) : ∀ i, (enl L w S (i + 1)).length ≤ S.length + i := by
  intro i
  induction i with
  | zero =>
    rw [enl, Nat.sub_zero, lft_all hL, if_pos h0]
    exact Nat.le_refl _
  | succ i ih =>
    rw [enl]
    split
    · omega
    · rw [List.length_append]; simp; omega
theorem gd0_ext {S t : List Nat} (h : S.getD 0 1 = 0) : (S ++ t).getD 0 1 = 0 := by
  cases S with
  | nil => simp at h
  | cons a S => simpa using h
theorem sfxs_0 {L : Nat} {S : List Nat} (h : sfxs L S) : 0 ∈ S ∧ 0 < S.length := by
  cases S with
  | nil => exact absurd h.1 (by simp)
  | cons a S => have := h.1; simp at this; subst this; simp
theorem ena_sfxs {L w : Nat} (hL : 0 < L) {S : List Nat} (h : sfxs L S) : sfxs L (ena L w S) := by
  obtain ⟨t, ht⟩ := enl_ext L w S (wlen L w + 1)
  refine ⟨by unfold ena; rw [ht]; exact gd0_ext h.1, enl_nodup hL h.2.1 _ (Nat.le_refl _), fun x hx j hj => ?_⟩
  rcases (ena_mem x).mp hx with q | ⟨i, h1, h2⟩
  · exact (ena_mem _).mpr (Or.inl (h.2.2 x q j hj))
  · subst h2
    obtain ⟨k, h3, h4⟩ := lft_lft hL w i j h1 hj
    exact (ena_mem _).mpr (Or.inr ⟨k, h3, h4⟩)
theorem ena_len {L w : Nat} (hL : 0 < L) {S : List Nat} (h : sfxs L S) : (ena L w S).length ≤ S.length + wlen L w := enl_count hL (sfxs_0 h).1 _
theorem ena_ext (L w : Nat) (S : List Nat) : ∃ t, ena L w S = S ++ t := enl_ext L w S _
/-- more columns -/
theorem indp_cols {p L : Nat} [NeZero p] {A : Mac} {P S t : List Nat} (h : indp S.length P.length (fun j => RW p L A (fun i => S.getD i 0) (P.getD j 0))) : indp (S ++ t).length P.length (fun j => RW p L A (fun i => (S ++ t).getD i 0) (P.getD j 0)) := by
  intro c hc
  refine h c (fun i hi => ?_)
  have := hc i (by rw [List.length_append]; omega)
  unfold RW at this ⊢
  dsimp only at this ⊢
  rw [gd_app hi] at this
  exact this
theorem tbB_mono : ∀ {a b : Nat}, a ≤ b → tbB a ≤ tbB b := by
  intro a b h
  induction b with
  | zero => have : a = 0 := by omega
            subst this; exact Nat.le_refl _
  | succ b ih =>
    by_cases e : a = b + 1
    · subst e; exact Nat.le_refl _
    · have := ih (by omega)
      show _ ≤ tbB b + (3 + b)
      omega
theorem tb24 (r : Nat) : 24 ≤ tbB r := tbB_mono (Nat.zero_le r)
/-- the table with more prefixes -/
theorem tbOK_close {p L n : Nat} [NeZero p] (hp : p ∈ PR) (hL : 0 < L) {τ : Tb} {P' : List Nat} (h : tbOK p L τ) (hc : ClsN (DT p L τ.A τ.S) L n τ.P P') (ht : tabOK p L τ.A P' τ.S) : tbOK p L (τ.set_P P') := by
  obtain ⟨_, h1, h2, h3, h4, h5, h6, h7, h8, h9⟩ := h
  obtain ⟨a1, a2, -⟩ := ClsN_end hc
  have h10 : P'.length ≤ 4 := Nat.le_trans (indp_states hp hL ht.2.2) h1
  have key : τ.S.length ≤ tbB P'.length := by
    cases n with
    | zero =>
      obtain ⟨e, hcl⟩ := hc
      rw [e]; exact h6 hcl
    | succ n => exact Nat.le_trans (h7 (by omega)) (tbB_mono (by omega))
  exact ⟨inferInstance, h1, h2, h3, ht, h5, fun _ => key, fun _ => Nat.le_trans key (tbB_mono (by show P'.length ≤ P'.length + 1; omega)), h10, h9⟩
/-- the table with more suffixes, few -/
theorem tbOK_ask {p L w : Nat} [NeZero p] (hL : 0 < L) {τ : Tb} (h : tbOK p L τ) (hw : wlen L w ≤ 7) (h24 : (ena L w τ.S).length ≤ 24) : tbOK p L (τ.set_S (ena L w τ.S)) := by
  obtain ⟨_, h1, h2, h3, h4, h5, h6, h7, h8, h9⟩ := h
  refine ⟨inferInstance, h1, h2, h3, ⟨h4.1, fun c hc => ?_, ?_⟩, ena_sfxs hL h5, fun _ => Nat.le_trans h24 (tb24 _), fun _ => Nat.le_trans h24 (tb24 _), h8, by show (ena L w τ.S).length ≤ 42; omega⟩
  · rcases (ena_mem _).mp (gd_mem hc) with q | ⟨j, q1, q2⟩
    · obtain ⟨i, hi, he⟩ := List.getElem_of_mem q
      have := h4.2.1 i hi
      rw [gd_el hi, he] at this
      exact this
    · show wlen L ((ena L w τ.S).getD c 0) ≤ 7
      rw [q2, lft_len hL]; omega
  · obtain ⟨t, ht⟩ := ena_ext L w τ.S
    show indp (ena L w τ.S).length τ.P.length (fun j => RW p L τ.A (fun i => (ena L w τ.S).getD i 0) (τ.P.getD j 0))
    rw [ht]
    exact indp_cols h4.2.2
end ENDS
