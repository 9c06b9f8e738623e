/-! DIFFERENCES of machines; counters -/
section DIFF
theorem sm_app {F : Type} [Lean.Grind.CommRing F] (a b : Nat) (f : Nat → F) : sm (a + b) f = sm a f + sm b (fun i => f (a + i)) := by
  induction b with
  | zero => show sm a f = sm a f + 0; grind
  | succ b ih =>
    show sm (a + b) f + f (a + b) = sm a f + (sm b (fun i => f (a + i)) + f (a + b))
    rw [ih]; grind
/-- what comes to the states by a word -/
def FV (p : Nat) [NeZero p] (L : Nat) (D : Mac) (w i : Nat) : Fin p := fvl D.1 (fS p D) (fW p D) (wl L w) i
theorem FV_x {p L : Nat} [NeZero p] {D : Mac} {w x : Nat} (hx : x < L) (i : Nat) : FV p L D (w * L + x + 1) i = sm D.1 (fun s => FV p L D w s * fW p D s x i) := by
  unfold FV; rw [wl_x hx, fvl_x]
theorem FV_hstp {p L : Nat} [NeZero p] (D : Mac) : hstp (FV p L D) D.1 L := by
  intro x hx k c b w h i hi
  rw [FV_x hx, sm_congr (g := fun s => fW p D s x i * sm k (fun j => c j * FV p L D (b j) s)) (fun s hs => by rw [h s hs]; grind), dot_comb]
  exact sm_congr (fun j _ => by rw [FV_x hx]; congr 1; exact sm_congr (fun s _ => by grind))
theorem vN_FV {p L : Nat} [NeZero p] (D : Mac) (w : Nat) : fo p (vN p D (wl L w)) = sm D.1 (fun s => fE p D s * FV p L D w s) := by
  rw [fo_vN]
  unfold vlu FV
  exact sm_congr (fun s _ => by grind)
theorem fv_first {p L : Nat} [NeZero p] {D : Mac} {w : Nat} (hne : vN p D (wl L w) ≠ 0) (hall : ∀ u, u < w → vN p D (wl L u) = 0) : ¬ dpw (FV p L D) D.1 (BB (FV p L D) D.1 w) w := by
  rintro ⟨c, hc⟩
  have hp : 0 < p := Nat.pos_of_ne_zero (NeZero.ne p)
  apply hne
  rw [← fo_eq0 (vN_lt hp _), vN_FV, sm_congr (g := fun s => fE p D s * sm (BB (FV p L D) D.1 w).length (fun j => c j * FV p L D ((BB (FV p L D) D.1 w).getD j 0) s)) (fun s hs => by rw [hc s hs]), dot_comb, sm_congr (g := fun _ => 0) (fun j hj => by
    rw [← vN_FV, hall _ (BB_lt (gd_mem hj)), fo_0]; grind), sm_zero]
theorem fv_first_len {p L : Nat} [NeZero p] (hp : p ∈ PR) (hL : 0 < L) {D : Mac} {w : Nat} (hne : vN p D (wl L w) ≠ 0) (hall : ∀ u, u < w → vN p D (wl L u) = 0) : w ∈ BB (FV p L D) D.1 (w + 1) ∧ wlen L w < D.1 := by
  have h1 : w ∈ BB (FV p L D) D.1 (w + 1) := (BB_mem (Nat.lt_succ_self w)).mpr (fv_first hne hall)
  exact ⟨h1, BB_short (isF_p hp) hL (FV_hstp D) h1⟩
/-- two machines side by side, the values of one taken away -/
def DMa (p : Nat) (A B : Mac) : Mac := (A.1 + B.1, fun s => if s < A.1 then A.2.1 s * 1 % p else B.2.1 (s - A.1) * (p - 1) % p, fun s => if s < A.1 then A.2.2.1 s else B.2.2.1 (s - A.1), fun s x t => if s < A.1 then (if t < A.1 then A.2.2.2 s x t else 0) else if t < A.1 then 0 else B.2.2.2 (s - A.1) x (t - A.1))
theorem fvl_DM {p : Nat} [NeZero p] (A B : Mac) (r : List Nat) : ∀ s, s < A.1 + B.1 → fvl (DMa p A B).1 (fS p (DMa p A B)) (fW p (DMa p A B)) r.reverse s = if s < A.1 then fvl A.1 (fS p A) (fW p A) r.reverse s else - fvl B.1 (fS p B) (fW p B) r.reverse (s - A.1) := by
  have hp : 0 < p := Nat.pos_of_ne_zero (NeZero.ne p)
  induction r with
  | nil =>
    intro s hs
    show fo p (if s < A.1 then A.2.1 s * 1 % p else B.2.1 (s - A.1) * (p - 1) % p) = if s < A.1 then fo p (A.2.1 s) else - fo p (B.2.1 (s - A.1))
    split
    · rw [fo_mod, Nat.mul_one]
    · rw [fo_mod, fo_mul, fo_neg (by omega), fo_1]; grind
  | cons x r ih =>
    intro t ht
    rw [List.reverse_cons, fvl_x, fvl_x, fvl_x]
    show sm (A.1 + B.1) (fun s => fvl (DMa p A B).1 (fS p (DMa p A B)) (fW p (DMa p A B)) r.reverse s * fW p (DMa p A B) s x t) = _
    rw [sm_app]
    have e1 : ∀ s, s < A.1 → fvl (DMa p A B).1 (fS p (DMa p A B)) (fW p (DMa p A B)) r.reverse s = fvl A.1 (fS p A) (fW p A) r.reverse s := fun s hs => by rw [ih s (by omega), if_pos hs]
    have e2 : ∀ s, s < B.1 → fvl (DMa p A B).1 (fS p (DMa p A B)) (fW p (DMa p A B)) r.reverse (A.1 + s) = - fvl B.1 (fS p B) (fW p B) r.reverse s := fun s hs => by rw [ih _ (by omega), if_neg (by omega), Nat.add_sub_cancel_left]
    by_cases q : t < A.1
    · have f1 : ∀ s, s < A.1 → fW p (DMa p A B) s x t = fW p A s x t := fun s hs => by unfold fW DMa; simp only [hs, q, if_true]
      have f2 : ∀ s, fW p (DMa p A B) (A.1 + s) x t = 0 := fun s => by unfold fW DMa; simp only [q, if_true, if_neg (show ¬ A.1 + s < A.1 by omega)]; exact fo_0
      rw [if_pos q, sm_congr (g := fun s => fvl A.1 (fS p A) (fW p A) r.reverse s * fW p A s x t) (fun s hs => by rw [e1 s hs, f1 s hs]), sm_congr (n := B.1) (g := fun _ => 0) (fun s hs => by rw [f2 s]; grind), sm_zero]
      grind
    · have f1 : ∀ s, s < A.1 → fW p (DMa p A B) s x t = 0 := fun s hs => by unfold fW DMa; simp only [hs, q, if_true, if_false]; exact fo_0
      have f2 : ∀ s, fW p (DMa p A B) (A.1 + s) x t = fW p B s x (t - A.1) := fun s => by unfold fW DMa; simp only [q, if_false, if_neg (show ¬ A.1 + s < A.1 by omega), Nat.add_sub_cancel_left]
      rw [if_neg q, sm_congr (n := A.1) (g := fun _ => 0) (fun s hs => by rw [f1 s hs]; grind), sm_zero, sm_congr (n := B.1) (g := fun s => (-1) * (fvl B.1 (fS p B) (fW p B) r.reverse s * fW p B s x (t - A.1))) (fun s hs => by rw [e2 s hs, f2 s]; grind), sm_mul]
      grind
theorem vlu_DM {p : Nat} [NeZero p] (A B : Mac) (l : List Nat) : fo p (vN p (DMa p A B) l) = fo p (vN p A l) - fo p (vN p B l) := by
  rw [fo_vN, fo_vN, fo_vN]
  unfold vlu
  have h := fvl_DM A B l.reverse (p := p)
  rw [List.reverse_reverse] at h
  show sm (A.1 + B.1) _ = _
  rw [sm_app, sm_congr (n := A.1) (g := fun s => fvl A.1 (fS p A) (fW p A) l s * fE p A s) (fun s hs => by
    rw [h s (by omega), if_pos hs]; congr 1; unfold fE DMa; simp only [hs, if_true]), sm_congr (n := B.1) (g := fun s => (-1) * (fvl B.1 (fS p B) (fW p B) l s * fE p B s)) (fun s hs => by
    rw [h _ (by omega), if_neg (by omega), Nat.add_sub_cancel_left]
    have : fE p (DMa p A B) (A.1 + s) = fE p B s := by unfold fE DMa; simp only [if_neg (show ¬ A.1 + s < A.1 by omega), Nat.add_sub_cancel_left]
    rw [this]; grind), sm_mul]
  grind
theorem DM_zero {p : Nat} [NeZero p] (A B : Mac) (l : List Nat) : vN p (DMa p A B) l = 0 ↔ vN p A l = vN p B l := by
  have hp : 0 < p := Nat.pos_of_ne_zero (NeZero.ne p)
  rw [← fo_eq0 (vN_lt hp _), vlu_DM]
  constructor
  · intro h
    exact fo_inj (vN_lt hp _) (vN_lt hp _) (by grind)
  · intro h; rw [h]; grind
theorem diff_len {p L : Nat} [NeZero p] (hp : p ∈ PR) (hL : 0 < L) {A B : Mac} {w : Nat} (hne : vN p A (wl L w) ≠ vN p B (wl L w)) (hall : ∀ u, u < w → vN p A (wl L u) = vN p B (wl L u)) : wlen L w < A.1 + B.1 := (fv_first_len (D := DMa p A B) hp hL (fun q => hne ((DM_zero A B _).mp q)) (fun u hu => (DM_zero A B _).mpr (hall u hu))).2
theorem wcat_0l (L u : Nat) : wcat L 0 u = u := by unfold wcat; omega
/-- a first letter -/
theorem w_first {L u : Nat} (hL : 0 < L) (hu : u ≠ 0) : ∃ x, x < L ∧ u = wcat L (x + 1) (lft L u 1) ∧ wl L u = x :: wl L (lft L u 1) := by
  have h1 : 1 ≤ wlen L u := by
    rcases Nat.eq_zero_or_pos (wlen L u) with q | q
    · exact absurd (wl_inj hL (a := u) (b := 0) (by rw [wl_0]; exact List.length_eq_zero_iff.mp (by rw [wl_len hL]; exact q))) hu
    · exact q
  obtain ⟨a, h2, h3⟩ := lft_split hL u 1 h1
  have ha : a ≠ 0 := fun q => by rw [q, wlen_0] at h3; exact absurd h3 (by decide)
  obtain ⟨b, x, hx, hb⟩ := w_split hL ha
  have hb0 : wlen L b = 0 := by rw [hb, wlen_x hx] at h3; omega
  have hb1 : b = 0 := wl_inj hL (by rw [wl_0]; exact List.length_eq_zero_iff.mp (by rw [wl_len hL]; exact hb0))
  subst hb1
  have ha1 : a = x + 1 := by omega
  subst ha1
  refine ⟨x, hx, h2, ?_⟩
  have := congrArg (wl L) h2
  rw [wl_cat hL] at this
  rw [this]
  have e : wl L (x + 1) = [x] := by
    have := wl_x (L := L) (w := 0) hx
    rw [wl_0, Nat.zero_mul, Nat.zero_add] at this
    exact this
  rw [e]; rfl
theorem ctr_exact {p L : Nat} [NeZero p] (hL : 0 < L) {A G : Mac} {P S t : List Nat} (hind : indp S.length P.length (fun j => RW p L A (fun i => S.getD i 0) (P.getD j 0))) (hG : madeOK p L A P S.length (fun i => S.getD i 0) G) (hcl : clsd (DT p L A (S ++ t) P) L P) (hsf : sfxs L (S ++ t)) (hpf : pfxs L P) {u : Nat} (hu : u ∈ S ++ t) : vN p A (wl L u) = vN p G (wl L u) := by
  have hp : 0 < p := Nat.pos_of_ne_zero (NeZero.ne p)
  have claim : ∀ n u, wlen L u = n → u ∈ S ++ t → ∀ s, s < P.length → fo p (vN p A (wl L (wcat L (P.getD s 0) u))) = bvl G.1 (fE p G) (fW p G) (wl L u) s := by
    intro n
    induction n with
    | zero =>
      intro u hn hu s hs
      have hu0 : u = 0 := wl_inj hL (by rw [wl_0]; exact List.length_eq_zero_iff.mp (by rw [wl_len hL]; exact hn))
      subst hu0
      rw [wcat_0, wl_0]
      show _ = fo p (G.2.2.1 s)
      rw [hG.2.2.1 s hs]
    | succ n ih =>
      intro u hn hu s hs
      have hu0 : u ≠ 0 := fun q => by rw [q, wlen_0] at hn; omega
      obtain ⟨x, hx, h1, h2⟩ := w_first hL hu0
      have hl1 : wlen L (lft L u 1) = n := by rw [lft_len hL]; omega
      have hm1 : lft L u 1 ∈ S ++ t := hsf.2.2 u hu 1 (by omega)
      obtain ⟨c, hc⟩ := hcl.2 s x hs hx
      have hcu : ∀ j, j < P.length → c j = fo p (G.2.2.2 s x j) := by
        refine indp_uniq (d := fun j => fo p (G.2.2.2 s x j)) hind (fun i hi => ?_)
        have e1 := hc i (by rw [List.length_append]; omega)
        have e2 := hG.2.2.2.2 s x i hs hx hi
        unfold RW at e1 e2 ⊢
        dsimp only at e1 e2 ⊢
        rw [gd_app hi] at e1
        rw [← e1]; exact e2
      obtain ⟨i, hi, he⟩ := List.getElem_of_mem hm1
      have e1 := hc i hi
      unfold RW at e1
      dsimp only at e1
      rw [gd_el hi, he] at e1
      have e0 : wcat L (P.getD s 0) u = wcat L (P.getD s 0 * L + x + 1) (lft L u 1) := by
        rw [← wcat_one hx, wcat_as hL, ← h1]
      rw [e0, e1, h2, bvl_x, hG.1]
      exact sm_congr (fun j hj => by rw [hcu j hj, ih _ hl1 hm1 j hj, hG.1]; rfl)
  apply fo_inj (vN_lt hp _) (vN_lt hp _)
  rw [fo_vN G]
  have ev := vlu_cat G.1 (fS p G) (fE p G) (fW p G) (wl L u) []
  rw [List.nil_append] at ev
  rw [ev, hG.1]
  by_cases hP : P = []
  · subst hP
    obtain ⟨c, hc⟩ := hcl.1 rfl
    obtain ⟨i, hi, he⟩ := List.getElem_of_mem hu
    have e1 := hc i hi
    unfold RW at e1
    dsimp only at e1
    rw [gd_el hi, he, wcat_0l] at e1
    rw [e1]; rfl
  · have h0 : 0 < P.length := by
      cases P with
      | nil => exact absurd rfl hP
      | cons => simp
    have hP0 : P.getD 0 0 = 0 := by
      rcases hpf 0 h0 with ⟨-, q⟩ | ⟨j, x, hj, -⟩
      · exact q
      · omega
    have := claim _ u rfl hu 0 h0
    rw [hP0, wcat_0l] at this
    rw [this]
    rw [sm_one (k := 0) h0]
    · show _ = fo p (G.2.1 0) * _
      rw [hG.2.1 0 h0, if_pos rfl, fo_1]
      rw [hG.1]
      grind
    · intro i hi hne
      show fo p (G.2.1 i) * _ = 0
      rw [hG.2.1 i hi, if_neg hne, fo_0]; grind
theorem not_clsd {D : Nat → Prop} {L : Nat} {P : List Nat} (h : ¬ clsd D L P) : ∃ w, ¬ D w := by
  apply Classical.byContradiction
  intro hn
  exact h ⟨fun _ => Classical.byContradiction (fun q => hn ⟨0, q⟩), fun i x _ _ => Classical.byContradiction (fun q => hn ⟨_, q⟩)⟩
/-- a round of learning keeps a table -/
theorem tbOK_learn {p L w : Nat} [NeZero p] (hp : p ∈ PR) (hL : 0 < L) {τ : Tb} {G : Mac} {r : Int32} (h : tbOK p L τ) (hcl : clsd (DT p L τ.A τ.S τ.P) L τ.P) (hG : madeOK p L τ.A τ.P τ.S.length (fun i => τ.S.getD i 0) G) (hne : vN p τ.A (wl L w) ≠ vN p G (wl L w)) (hall : ∀ u, u < w → vN p τ.A (wl L u) = vN p G (wl L u)) : (ena L w τ.S).length ≤ 42 ∧ wlen L w ≤ 7 ∧ tbOK p L (Tb.mk τ.A true G τ.P (ena L w τ.S) r) := by
  obtain ⟨_, h1, h2, h3, h4, h5, h6, h7, h8, h9⟩ := h
  have hp2 := (PR_bd p hp).1
  have hlen := diff_len hp hL hne hall
  rw [hG.1] at hlen
  obtain ⟨t, ht⟩ := ena_ext L w τ.S
  have hsf := ena_sfxs (w := w) hL h5
  have hcol : indp (ena L w τ.S).length τ.P.length (fun j => RW p L τ.A (fun i => (ena L w τ.S).getD i 0) (τ.P.getD j 0)) := by rw [ht]; exact indp_cols h4.2.2
  have hnc : ¬ clsd (DT p L τ.A (ena L w τ.S) τ.P) L τ.P := fun q => by
    rw [ht] at q hsf
    refine hne (ctr_exact hL h4.2.2 hG q hsf h4.1 ?_)
    rw [← ht]
    exact (ena_mem w).mpr (Or.inr ⟨0, Nat.zero_le _, (lft_0 hL w).symm⟩)
  obtain ⟨w', hw'⟩ := not_clsd hnc
  have hP1 : τ.P.length + 1 ≤ τ.A.1 := by
    have := indp_states (P := τ.P ++ [w']) (cs := fun i => (ena L w τ.S).getD i 0) (C := (ena L w τ.S).length) hp hL (A := τ.A) (by
      rw [List.length_append]
      refine indp_push (isF_p hp) (indp_congr (fun j hj i _ => by rw [gd_app hj]) hcol) ?_
      rw [gd_last]
      intro h
      exact hw' (inS_congr (fun j hj i _ => by rw [gd_app hj]) (fun _ _ => rfl) h))
    rw [List.length_append] at this
    exact this
  have hS := h6 hcl
  have hSl := ena_len (w := w) hL h5
  have hb : (ena L w τ.S).length ≤ tbB (τ.P.length + 1) := by
    show _ ≤ tbB τ.P.length + (3 + τ.P.length)
    omega
  have h42 : (ena L w τ.S).length ≤ 42 := Nat.le_trans hb (tbB_mono (b := 4) (by omega))
  refine ⟨h42, by omega, inferInstance, h1, h2, fun _ => ⟨by show G.1 ≤ 4; rw [hG.1]; exact h8, hG.ok hp2⟩, ⟨h4.1, fun c hc => ?_, hcol⟩, hsf, fun q => absurd q hnc, fun _ => hb, h8, h42⟩
  rcases (ena_mem _).mp (gd_mem hc) with q | ⟨j, q1, q2⟩
  · obtain ⟨i, hi, he⟩ := List.getElem_of_mem q
    have := h4.2.1 i hi
    rw [gd_el hi, he] at this
    exact this
  · show wlen L ((ena L w τ.S).getD c 0) ≤ 7
    rw [q2, lft_len hL]; omega
theorem tbOK_exact {p L : Nat} [NeZero p] (hp : p ∈ PR) {τ : Tb} {G : Mac} {r : Int32} (h : tbOK p L τ) (hG : madeOK p L τ.A τ.P τ.S.length (fun i => τ.S.getD i 0) G) : tbOK p L (Tb.mk τ.A true G τ.P τ.S r) := by
  obtain ⟨_, h1, h2, h3, h4, h5, h6, h7, h8, h9⟩ := h
  exact ⟨inferInstance, h1, h2, fun _ => ⟨by show G.1 ≤ 4; rw [hG.1]; exact h8, hG.ok (PR_bd p hp).1⟩, h4, h5, h6, h7, h8, h9⟩
end DIFF
