/-! Values of numbers as values of the field -/
section GLUE
def fS (p : Nat) [NeZero p] (A : Mac) : Nat → Fin p := fun s => fo p (A.2.1 s)
def fE (p : Nat) [NeZero p] (A : Mac) : Nat → Fin p := fun s => fo p (A.2.2.1 s)
def fW (p : Nat) [NeZero p] (A : Mac) : Nat → Nat → Nat → Fin p := fun s x t => fo p (A.2.2.2 s x t)
theorem fo_fN {p : Nat} [NeZero p] (A : Mac) (l : List Nat) : ∀ s, fo p (fN p A l s) = fvl A.1 (fS p A) (fW p A) l s := by
  have key : ∀ r : List Nat, ∀ s, fo p (fN p A r.reverse s) = fvl A.1 (fS p A) (fW p A) r.reverse s := by
    intro r
    induction r with
    | nil => intro s; rfl
    | cons x r ih =>
      intro t
      rw [List.reverse_cons, fN_x, fvl_x]
      show fo p (_ % p) = _
      rw [fo_mod, fo_sum]
      exact sm_congr (fun s _ => by rw [fo_mul, ih s]; rfl)
  have := key l.reverse
  rwa [List.reverse_reverse] at this
theorem fo_vN {p : Nat} [NeZero p] (A : Mac) (l : List Nat) : fo p (vN p A l) = vlu A.1 (fS p A) (fE p A) (fW p A) l := by
  unfold vN vlu
  rw [fo_mod, fo_sum]
  exact sm_congr (fun s _ => by rw [fo_mul, fo_fN]; rfl)
/-- the row of a word by some words behind it -/
def RW (p : Nat) [NeZero p] (L : Nat) (A : Mac) (cs : Nat → Nat) (w i : Nat) : Fin p := fo p (vN p A (wl L (wcat L w (cs i))))
def bcol (p : Nat) [NeZero p] (L : Nat) (A : Mac) (cs : Nat → Nat) (i : Nat) : Nat → Fin p := bvl A.1 (fE p A) (fW p A) (wl L (cs i))
theorem RW_row {p L : Nat} [NeZero p] (hL : 0 < L) (A : Mac) (cs : Nat → Nat) (w i : Nat) : RW p L A cs w i = rowC A.1 (fS p A) (fW p A) L (bcol p L A cs) w i := by
  unfold RW rowC bcol
  rw [fo_vN, wl_cat hL, vlu_cat]
theorem indp_fv {p L : Nat} [NeZero p] (hL : 0 < L) {A : Mac} {cs : Nat → Nat} {C : Nat} {P : List Nat} (h : indp C P.length (fun j => RW p L A cs (P.getD j 0))) : indp A.1 P.length (fun j => fvl A.1 (fS p A) (fW p A) (wl L (P.getD j 0))) := by
  intro c hc
  refine h c (fun i hi => ?_)
  have e1 : sm P.length (fun j => c j * RW p L A cs (P.getD j 0) i) = sm P.length (fun j => c j * sm A.1 (fun s => fvl A.1 (fS p A) (fW p A) (wl L (P.getD j 0)) s * bcol p L A cs i s)) := sm_congr (fun j _ => by rw [RW_row hL]; rfl)
  rw [e1]
  have e2 : sm P.length (fun j => c j * sm A.1 (fun s => fvl A.1 (fS p A) (fW p A) (wl L (P.getD j 0)) s * bcol p L A cs i s)) = sm A.1 (fun s => bcol p L A cs i s * sm P.length (fun j => c j * fvl A.1 (fS p A) (fW p A) (wl L (P.getD j 0)) s)) := by
    rw [dot_comb]
    refine sm_congr (fun j _ => ?_)
    congr 1
    exact sm_congr (fun s _ => Lean.Grind.CommRing.mul_comm _ _)
  rw [e2, sm_congr (g := fun _ => 0) (fun s hs => by rw [hc s hs]; grind), sm_zero]
theorem indp_states {p L : Nat} [NeZero p] (hp : p ∈ PR) (hL : 0 < L) {A : Mac} {cs : Nat → Nat} {C : Nat} {P : List Nat} (h : indp C P.length (fun j => RW p L A cs (P.getD j 0))) : P.length ≤ A.1 := indp_le (isF_p hp) (indp_fv hL h)
/-! CLOSING -/
def frst (D : Nat → Prop) (L : Nat) (P : List Nat) (w : Nat) : Prop := (P = [] ∧ w = 0 ∧ ¬ D 0) ∨ ∃ i x, i < P.length ∧ x < L ∧ w = P.getD i 0 * L + x + 1 ∧ ¬ D w ∧ ∀ i' x', i' < P.length → x' < L → (i' < i ∨ (i' = i ∧ x' < x)) → D (P.getD i' 0 * L + x' + 1)
def clsd (D : Nat → Prop) (L : Nat) (P : List Nat) : Prop := (P = [] → D 0) ∧ ∀ i x, i < P.length → x < L → D (P.getD i 0 * L + x + 1)
def ClsN (DD : List Nat → Nat → Prop) (L : Nat) : Nat → List Nat → List Nat → Prop
  | 0, P, P' => P' = P ∧ clsd (DD P) L P
  | n + 1, P, P' => ∃ w, frst (DD P) L P w ∧ ClsN DD L n (P ++ [w]) P'
theorem frst_uniq {D : Nat → Prop} {L : Nat} {P : List Nat} {w w' : Nat} (h : frst D L P w) (h' : frst D L P w') : w = w' := by
  rcases h with ⟨h1, h2, -⟩ | ⟨i, x, hi, hx, hw, hn, ha⟩ <;> rcases h' with ⟨g1, g2, -⟩ | ⟨i', x', hi', hx', hw', hn', ha'⟩
  · rw [h2, g2]
  · subst h1; simp at hi'
  · subst g1; simp at hi
  · rcases Nat.lt_trichotomy i i' with q | q | q
    · exact absurd (ha' i x hi hx (Or.inl q)) (by rw [← hw]; exact hn)
    · subst q
      rcases Nat.lt_trichotomy x x' with q | q | q
      · exact absurd (ha' i x hi hx (Or.inr ⟨rfl, q⟩)) (by rw [← hw]; exact hn)
      · subst q; rw [hw, hw']
      · exact absurd (ha i x' hi' hx' (Or.inr ⟨rfl, q⟩)) (by rw [← hw']; exact hn')
    · exact absurd (ha i' x' hi' hx' (Or.inl q)) (by rw [← hw']; exact hn')
theorem frst_clsd {D : Nat → Prop} {L : Nat} {P : List Nat} {w : Nat} (h : frst D L P w) (hc : clsd D L P) : False := by
  rcases h with ⟨h1, h2, h3⟩ | ⟨i, x, hi, hx, hw, hn, -⟩
  · exact h3 (hc.1 h1)
  · exact hn (by rw [hw]; exact hc.2 i x hi hx)
theorem ClsN_uniq {DD : List Nat → Nat → Prop} {L : Nat} : ∀ {n m : Nat} {P P' P'' : List Nat}, ClsN DD L n P P' → ClsN DD L m P P'' → n = m ∧ P' = P'' := by
  intro n
  induction n with
  | zero =>
    intro m P P' P'' h h'
    cases m with
    | zero => exact ⟨rfl, h.1.trans h'.1.symm⟩
    | succ m => obtain ⟨w, hw, -⟩ := h'; exact absurd h.2 (fun q => frst_clsd hw q)
  | succ n ih =>
    intro m P P' P'' h h'
    obtain ⟨w, hw, hr⟩ := h
    cases m with
    | zero => exact absurd h'.2 (fun q => frst_clsd hw q)
    | succ m =>
      obtain ⟨w', hw', hr'⟩ := h'
      obtain rfl := frst_uniq hw hw'
      obtain ⟨e1, e2⟩ := ih hr hr'
      exact ⟨by rw [e1], e2⟩
theorem ClsN_end {DD : List Nat → Nat → Prop} {L : Nat} : ∀ {n : Nat} {P P' : List Nat}, ClsN DD L n P P' → clsd (DD P') L P' ∧ P'.length = P.length + n ∧ ∃ t, P' = P ++ t := by
  intro n
  induction n with
  | zero => intro P P' h; obtain ⟨rfl, h2⟩ := h; exact ⟨h2, rfl, [], by simp⟩
  | succ n ih =>
    intro P P' h
    obtain ⟨w, -, hr⟩ := h
    obtain ⟨h1, h2, t, h3⟩ := ih hr
    refine ⟨h1, by rw [h2, List.length_append]; simp; omega, w :: t, by rw [h3, List.append_assoc]; rfl⟩
/-- prefixes: each is empty or another that came before with a letter behind it -/
def pfxs (L : Nat) (P : List Nat) : Prop := ∀ i, i < P.length → (i = 0 ∧ P.getD i 0 = 0) ∨ ∃ j x, j < i ∧ x < L ∧ P.getD i 0 = P.getD j 0 * L + x + 1
theorem pfxs_len {L : Nat} (hL : 0 < L) {P : List Nat} (h : pfxs L P) : ∀ i, i < P.length → wlen L (P.getD i 0) ≤ i := by
  intro i
  induction i using Nat.strongRecOn with
  | ind i ih =>
    intro hi
    rcases h i hi with ⟨h1, h2⟩ | ⟨j, x, hj, hx, he⟩
    · rw [h2, wlen_0]; omega
    · rw [he, wlen_x hx]
      have := ih j hj (by omega)
      omega
theorem pfxs_push {D : Nat → Prop} {L : Nat} {P : List Nat} {w : Nat} (h : pfxs L P) (hf : frst D L P w) : pfxs L (P ++ [w]) := by
  intro i hi
  rw [List.length_append] at hi
  simp at hi
  by_cases q : i < P.length
  · rcases h i q with ⟨h1, h2⟩ | ⟨j, x, hj, hx, he⟩
    · exact Or.inl ⟨h1, by rw [gd_app q]; exact h2⟩
    · exact Or.inr ⟨j, x, hj, hx, by rw [gd_app q, gd_app (by omega)]; exact he⟩
  · have hiP : i = P.length := by omega
    subst hiP
    rw [gd_last]
    rcases hf with ⟨h1, h2, -⟩ | ⟨i', x, hi', hx, hw, -⟩
    · subst h1; exact Or.inl ⟨rfl, h2⟩
    · exact Or.inr ⟨i', x, hi', hx, by rw [gd_app hi']; exact hw⟩
end GLUE
