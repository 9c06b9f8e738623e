/-! what the words that come are -/
section CLS
theorem indp_take {F : Type} [Lean.Grind.CommRing F] {W k k' : Nat} {r : Nat → Nat → F} (h : indp W k r) (hk : k' ≤ k) : indp W k' r := by
  intro c hc j hj
  have tr : ∀ m (f : Nat → F), k' ≤ m → sm m (fun j => (if j < k' then c j else 0) * f j) = sm k' (fun j => c j * f j) := by
    intro m f hm
    induction m with
    | zero =>
      obtain rfl : k' = 0 := by omega
      rfl
    | succ m ih =>
      by_cases e : k' = m + 1
      · subst e
        exact sm_congr (fun j hj => by rw [if_pos hj])
      · have := ih (by omega)
        show sm m _ + (if m < k' then c m else 0) * f m = _
        rw [this, if_neg (by omega)]
        grind
  have := h (fun j => if j < k' then c j else 0) (fun i hi => by
    show sm k (fun j => (if j < k' then c j else 0) * r j i) = 0
    rw [tr k (fun j => r j i) hk]; exact hc i hi) j (by omega)
  rwa [if_pos hj] at this
theorem indp_not {F : Type} [Lean.Grind.CommRing F] (hF : isF F) {W i : Nat} {r : Nat → Nat → F} (h : indp W (i + 1) r) : ¬ inS W i r (r i) := by
  rintro ⟨c, hc⟩
  have := h (fun j => if j = i then -1 else c j) (fun d hd => by
    show sm i (fun j => (if j = i then -1 else c j) * r j d) + (if i = i then -1 else c i) * r i d = 0
    have e : sm i (fun j => (if j = i then -1 else c j) * r j d) = r i d := by
      rw [hc d hd]
      exact sm_congr (fun j hj => by rw [if_neg (by omega)])
    rw [e, if_pos rfl]
    grind) i (by omega)
  rw [if_pos rfl] at this
  exact hF.2 (by grind)
theorem ind_dpw {F : Type} [Lean.Grind.CommRing F] (hF : isF F) {row : Nat → Nat → F} {W : Nat} {P : List Nat} (h : indp W P.length (fun j => row (P.getD j 0))) {i : Nat} (hi : i < P.length) : ¬ dpw row W (P.take i) (P.getD i 0) := by
  intro hd
  refine indp_not hF (indp_take h (k' := i + 1) (by omega)) ?_
  unfold dpw at hd
  rw [List.length_take, Nat.min_eq_left (by omega)] at hd
  exact inS_congr (fun j hj c _ => by
    have : (P.take i).getD j 0 = P.getD j 0 := by rw [List.getD_eq_getElem?_getD, List.getD_eq_getElem?_getD, List.getElem?_take, if_pos hj]
    rw [this]) (fun _ _ => rfl) hd
theorem ClsN_congr {DD DD' : List Nat → Nat → Prop} {L : Nat} (h : ∀ P w, DD P w ↔ DD' P w) : ∀ {n : Nat} {P P' : List Nat}, ClsN DD L n P P' → ClsN DD' L n P P' := by
  have e : DD = DD' := funext fun P => funext fun w => propext (h P w)
  subst e
  intro n P P' h; exact h
theorem dpw_congr {F : Type} [Lean.Grind.CommRing F] {row row' : Nat → Nat → F} {W : Nat} (h : ∀ w i, i < W → row w i = row' w i) (B : List Nat) (w : Nat) : dpw row W B w ↔ dpw row' W B w :=
  ⟨fun q => inS_congr (fun j _ i hi => h _ i hi) (fun i hi => h w i hi) q, fun q => inS_congr (fun j _ i hi => (h _ i hi).symm) (fun i hi => (h w i hi).symm) q⟩
theorem dpw_colEq {p L : Nat} [NeZero p] {A : Mac} {K C : Nat} {E : Nat → Nat → Nat} {bc : Nat → Nat → Fin p} (h : colEq p A.1 K E C bc) (B : List Nat) (w : Nat) : dpw (rwE p L A E) K B w ↔ dpw (rowC A.1 (fS p A) (fW p A) L bc) C B w :=
  ⟨fun q => dpw_cols h.1 q, fun q => dpw_cols h.2 q⟩
theorem BB_stab {F : Type} [Lean.Grind.CommRing F] {row : Nat → Nat → F} {W N : Nat} (h : ∀ w, dpw row W (BB row W N) w) : ∀ d, BB row W (N + d) = BB row W N := by
  intro d
  induction d with
  | zero => rfl
  | succ d ih =>
    rw [← Nat.add_assoc, BB_pos (by rw [ih]; exact h _), ih]
theorem BB_sorted {F : Type} [Lean.Grind.CommRing F] {row : Nat → Nat → F} {W : Nat} : ∀ (N i j : Nat), i < j → j < (BB row W N).length → (BB row W N).getD i 0 < (BB row W N).getD j 0 := by
  intro N
  induction N with
  | zero => intro i j h1 h2; exact absurd h2 (Nat.not_lt_zero j)
  | succ N ih =>
    intro i j h1 h2
    by_cases hd : dpw row W (BB row W N) N
    · rw [BB_pos hd] at h2 ⊢; exact ih i j h1 h2
    · rw [BB_neg hd] at h2 ⊢
      rw [List.length_append, List.length_cons, List.length_nil] at h2
      by_cases e : j = (BB row W N).length
      · rw [e, gd_last, gd_app (by omega)]
        exact BB_lt (row := row) (W := W) (gd_mem (show i < (BB row W N).length by omega))
      · rw [gd_app (by omega), gd_app (by omega)]; exact ih i j h1 (by omega)
/-- words that all depend: a closed list tells all -/
theorem cls_all {F : Type} [Lean.Grind.CommRing F] {row : Nat → Nat → F} {W L : Nat} (hL : 0 < L) (hS : hstp row W L) {P : List Nat} (hc : clsd (dpw row W P) L P) (h0 : dpw row W P 0) : ∀ n w, w < n → dpw row W P w := by
  intro n
  induction n with
  | zero => intro w hw; omega
  | succ n ih =>
    intro w hw
    by_cases e : w = 0
    · subst e; exact h0
    · obtain ⟨u, x, hx, rfl⟩ := w_split hL e
      have hu := wx_gt (w := u) (x := x) hL
      obtain ⟨c, hc2⟩ := ih u (by omega)
      have h1 := hS x hx P.length c (fun j => P.getD j 0) u hc2
      exact inS_tr (u := fun j => row (P.getD j 0 * L + x + 1)) ⟨c, h1⟩ (fun j hj => hc.2 j x hj hx)
theorem BB_cls {F : Type} [Lean.Grind.CommRing F] {row : Nat → Nat → F} {W L : Nat} (hL : 0 < L) (hS : hstp row W L) : ∀ (n N : Nat) (P' : List Nat), ClsN (dpw row W) L n (BB row W N) P' → ∃ N', N ≤ N' ∧ P' = BB row W N' ∧ ∀ w, dpw row W P' w := by
  intro n
  induction n with
  | zero =>
    intro N P' h
    obtain ⟨rfl, hc⟩ := h
    refine ⟨N, Nat.le_refl _, rfl, fun w => cls_all hL hS hc ?_ (w + 1) w (by omega)⟩
    by_cases e : BB row W N = []
    · exact hc.1 e
    · refine BB_dep (row := row) (W := W) (N := N) (w := 0) ?_
      rcases Nat.eq_zero_or_pos N with z | z
      · subst z; exact absurd rfl e
      · exact z
  | succ n ih =>
    intro N P' h
    obtain ⟨w, hf, hcl⟩ := h
    -- the candidate is the least word that doesn't depend
    have hnd : ¬ dpw row W (BB row W N) w := by
      rcases hf with ⟨-, h2, h3⟩ | ⟨i, x, hi, hx, hw, hn, -⟩
      · rw [h2]; exact h3
      · exact hn
    have hwN : N ≤ w := by
      rcases Nat.lt_or_ge w N with z | z
      · exact absurd (BB_dep z) hnd
      · exact z
    have least : ∀ m u, u < m → u < w → dpw row W (BB row W N) u := by
      intro m
      induction m with
      | zero => intro u hu; omega
      | succ m ihm =>
        intro u hum huw
        refine Classical.byContradiction (fun hu => ?_)
        have huN : N ≤ u := by
          rcases Nat.lt_or_ge u N with z | z
          · exact absurd (BB_dep z) hu
          · exact z
        -- all below u depend
        have hbel : ∀ v, v < u → dpw row W (BB row W N) v := fun v hv => ihm v (by omega) (by omega)
        have hBB : ∀ d, N + d ≤ u → BB row W (N + d) = BB row W N := by
          intro d
          induction d with
          | zero => intro _; rfl
          | succ d ihd =>
            intro hd
            have e1 := ihd (by omega)
            rw [← Nat.add_assoc, BB_pos (by rw [e1]; exact hbel _ (by omega)), e1]
        have eu : BB row W u = BB row W N := by
          have := hBB (u - N) (by omega)
          rwa [show N + (u - N) = u by omega] at this
        rcases hf with ⟨h1, h2, h3⟩ | ⟨i, x, hi, hx, hw, hn, hall⟩
        · omega
        · have hu0 : u ≠ 0 := fun z => by
            subst z
            have : N = 0 := by omega
            subst this
            exact absurd hi (Nat.not_lt_zero i)
          obtain ⟨v, y, hy, rfl⟩ := w_split hL hu0
          have hvu := wx_gt (w := v) (x := y) hL
          by_cases hvm : v ∈ BB row W N
          · obtain ⟨i', hi', ei⟩ := List.getElem_of_mem hvm
            have e2 : (BB row W N).getD i' 0 = v := by rw [gd_el hi', ei]
            refine hu ?_
            have hlt : i' < i ∨ (i' = i ∧ y < x) := by
              rcases Nat.lt_trichotomy i' i with z | z | z
              · exact Or.inl z
              · refine Or.inr ⟨z, ?_⟩
                rw [z] at e2
                rw [hw, e2] at huw
                omega
              · have h3 := BB_sorted N i i' z hi'
                rw [e2] at h3
                have h4 := wx_mono (L := L) (w := (BB row W N).getD i 0) (u := v) (x := x) (y := y) hx h3
                omega
            have := hall i' y hi' hy hlt
            rwa [e2] at this
          · have hvd : dpw row W (BB row W v) v := by
              by_cases hvN : v < N
              · refine Classical.byContradiction (fun z => hvm ((BB_mem hvN).mpr z))
              · have ev : BB row W v = BB row W N := by
                  have := hBB (v - N) (by omega)
                  rwa [show N + (v - N) = v by omega] at this
                rw [ev]; exact hbel v hvu
            have := BB_step hS hy hvd
            rw [eu] at this
            exact hu this
    have hBw : ∀ d, N + d ≤ w → BB row W (N + d) = BB row W N := by
      intro d
      induction d with
      | zero => intro _; rfl
      | succ d ihd =>
        intro hd
        have e1 := ihd (by omega)
        rw [← Nat.add_assoc, BB_pos (by rw [e1]; exact least (N + d + 1) _ (by omega) (by omega)), e1]
    have ew : BB row W w = BB row W N := by
      have := hBw (w - N) (by omega)
      rwa [show N + (w - N) = w by omega] at this
    have e2 : BB row W N ++ [w] = BB row W (w + 1) := by rw [BB_neg (by rw [ew]; exact hnd), ew]
    rw [e2] at hcl
    obtain ⟨N', h1, h2, h3⟩ := ih (w + 1) P' hcl
    exact ⟨N', by omega, h2, h3⟩
theorem BB_same {F : Type} [Lean.Grind.CommRing F] {row : Nat → Nat → F} {W N N' : Nat} (h : ∀ w, dpw row W (BB row W N) w) (h' : ∀ w, dpw row W (BB row W N') w) : BB row W N = BB row W N' := by
  have a := BB_stab h N'
  have b := BB_stab h' N
  rw [Nat.add_comm] at b
  exact a.symm.trans b
/-- the words of the least machine -/
theorem cls_BS {p L n : Nat} [NeZero p] (hp : p ∈ PR) (hL : 0 < L) {A : Mac} (hA : A.1 ≤ 4) {P' : List Nat} (h : ClsN (dpw (RW p L A (fun i => i)) (fst L 4)) L n [] P') : P' = BS p L A := by
  obtain ⟨N', -, h2, h3⟩ := BB_cls hL (RW_hstp hp hL hA) n 0 P' h
  rw [h2] at h3 ⊢
  exact BB_same h3 (fun w => BS_all hp hL hA w)
theorem uni_FV {p L : Nat} [NeZero p] {A : Mac} (w d : Nat) (hd : d < A.1) : rowC A.1 (fS p A) (fW p A) L (fun d s => if s = d then 1 else 0) w d = FV p L A w d := by
  unfold rowC FV
  rw [sm_one hd _ (fun s _ hne => by dsimp only; rw [if_neg hne]; grind)]
  dsimp only
  rw [if_pos rfl]
  grind
/-- the words that come by states alone -/
theorem cls_FV {p L n K : Nat} [NeZero p] (hL : 0 < L) {A : Mac} {E : Nat → Nat → Nat} {P' : List Nat} (hE : colEq p A.1 K E A.1 (fun d s => if s = d then 1 else 0)) (h : ClsN (dpw (rwE p L A E) K) L n [] P') : ∃ N', P' = BB (FV p L A) A.1 N' ∧ ∀ w, dpw (FV p L A) A.1 P' w := by
  have h2 : ClsN (dpw (FV p L A) A.1) L n [] P' := ClsN_congr (fun P w => (dpw_colEq hE P w).trans (dpw_congr (fun w i hi => uni_FV w i hi) P w)) h
  obtain ⟨N', -, h3, h4⟩ := BB_cls hL (FV_hstp A) n 0 P' h2
  exact ⟨N', h3, h4⟩
theorem FV_len {p L n K : Nat} [NeZero p] (hp : p ∈ PR) (hL : 0 < L) {A : Mac} (hA : A.1 ≤ 4) {E : Nat → Nat → Nat} {P' : List Nat} (hE : colEq p A.1 K E A.1 (fun d s => if s = d then 1 else 0)) (h : ClsN (dpw (rwE p L A E) K) L n [] P') : P' = BB (FV p L A) A.1 (fst L 4) := by
  obtain ⟨N', h3, h4⟩ := cls_FV hL hE h
  rw [h3] at h4 ⊢
  obtain ⟨t, e1, e2⟩ := BB_ext (row := FV p L A) (W := A.1) (M := fst L 4) N'
  have ht : t = [] := by
    rcases List.eq_nil_or_concat t with z | ⟨t', y, z⟩
    · exact z
    · have hy : y ∈ t := by rw [z, List.concat_eq_append]; exact List.mem_append_right _ (List.mem_singleton.mpr rfl)
      have h5 := e2 y hy
      have h6 := BB_short (isF_p hp) hL (FV_hstp A) (show y ∈ BB (FV p L A) A.1 (fst L 4 + N') by rw [e1]; exact List.mem_append_right _ hy)
      have h7 := (wlen_lt_iff hL y 4).mp (by omega)
      omega
  rw [ht, List.append_nil] at e1
  have e3 := BB_stab h4 (fst L 4)
  rw [Nat.add_comm] at e3
  rw [← e3, e1]
/-- how many columns there are -/
theorem col_len {p L K : Nat} [NeZero p] (hp : p ∈ PR) {I : Nat → Nat → Int32} {A : Mac} {E : Nat → Nat → Nat} {rc : Nat → Nat → Fin p} (hs : spS I p 38 A.1 K E rc) (hE : colEq p A.1 K E (fst L 4) (bcol p L A (fun i => i))) : K = (BB (BV p L A) A.1 (fst L 4)).length := by
  obtain ⟨g1, g2, g3⟩ := hs.span
  have hdep : ∀ c, c < fst L 4 → inS A.1 (BB (BV p L A) A.1 (fst L 4)).length (fun j => BV p L A ((BB (BV p L A) A.1 (fst L 4)).getD j 0)) (bcol p L A (fun i => i) c) := fun c hc => BB_dep (row := BV p L A) (W := A.1) hc
  have a : K ≤ (BB (BV p L A) A.1 (fst L 4)).length := indp_steinitz (isF_p hp) g3 (fun j hj => inS_tr (inS_tr (g1 j hj) hE.2) hdep)
  have b : (BB (BV p L A) A.1 (fst L 4)).length ≤ K := indp_steinitz (isF_p hp) (BB_ind (isF_p hp) (row := BV p L A) (fst L 4)) (fun j hj => inS_tr (hE.1 _ (BB_lt (row := BV p L A) (gd_mem hj))) g2)
  omega
/-- the first word by which two machines differ is among the words that come -/
theorem fd_some {p L N : Nat} [NeZero p] (hp : p ∈ PR) (hL : 0 < L) {A B : Mac} {P : List Nat} (hP : P = BB (FV p L (DMa p A B)) (DMa p A B).1 N) (hall : ∀ w, dpw (FV p L (DMa p A B)) (DMa p A B).1 P w) (h8 : A.1 + B.1 ≤ 8) {i : Nat} (hi : i < P.length) (hne : vN p (DMa p A B) (wl L (P.getD i 0)) ≠ 0) (hz : ∀ j, j < i → vN p (DMa p A B) (wl L (P.getD j 0)) = 0) : dfO p L A B = some (P.getD i 0) ∧ wlen L (P.getD i 0) ≤ 7 := by
  -- the least word of some value
  have ex : ∃ w, w ≤ P.getD i 0 ∧ vN p (DMa p A B) (wl L w) ≠ 0 ∧ ∀ u, u < w → vN p (DMa p A B) (wl L u) = 0 := by
    have : ∀ m w, w < m → vN p (DMa p A B) (wl L w) ≠ 0 → ∃ w', w' ≤ w ∧ vN p (DMa p A B) (wl L w') ≠ 0 ∧ ∀ u, u < w' → vN p (DMa p A B) (wl L u) = 0 := by
      intro m
      induction m with
      | zero => intro w hw; omega
      | succ m ih =>
        intro w hw hn
        by_cases q : ∃ u, u < w ∧ vN p (DMa p A B) (wl L u) ≠ 0
        · obtain ⟨u, hu, hun⟩ := q
          obtain ⟨w', h1, h2, h3⟩ := ih u (by omega) hun
          exact ⟨w', by omega, h2, h3⟩
        · exact ⟨w, Nat.le_refl _, hn, fun u hu => Classical.byContradiction (fun z => q ⟨u, hu, z⟩)⟩
    exact this (P.getD i 0 + 1) _ (by omega) hne
  obtain ⟨w, hw1, hw2, hw3⟩ := ex
  obtain ⟨hm, hlen⟩ := fv_first_len hp hL hw2 hw3
  have hlen' : wlen L w < A.1 + B.1 := hlen
  have hmem : w ∈ P := by
    have e1 : BB (FV p L (DMa p A B)) (DMa p A B).1 (N + (w + 1)) = P := by rw [hP] at hall ⊢; exact BB_stab hall (w + 1)
    obtain ⟨t, e2, -⟩ := BB_ext (row := FV p L (DMa p A B)) (W := (DMa p A B).1) (M := w + 1) N
    rw [Nat.add_comm, e1] at e2
    rw [e2]; exact List.mem_append_left _ hm
  obtain ⟨i', hi', ei⟩ := List.getElem_of_mem hmem
  have e3 : P.getD i' 0 = w := by rw [gd_el hi', ei]
  have hii : i' = i := by
    rcases Nat.lt_trichotomy i' i with z | z | z
    · have := hz i' z; rw [e3] at this; exact absurd this hw2
    · exact z
    · have := BB_sorted (row := FV p L (DMa p A B)) (W := (DMa p A B).1) N i i' z (by rw [← hP]; exact hi')
      rw [← hP, e3] at this
      omega
  subst hii
  rw [e3]
  refine ⟨dfO_some ((wlen_lt_iff hL w 8).mp (by omega)) (fun q => hw2 ((DM_zero A B _).mpr q)) (fun u hu => (DM_zero A B _).mp (hw3 u hu)), by omega⟩
theorem fd_none {p L N : Nat} [NeZero p] (hp : p ∈ PR) (hL : 0 < L) {A B : Mac} {P : List Nat} (hP : P = BB (FV p L (DMa p A B)) (DMa p A B).1 N) (hall : ∀ w, dpw (FV p L (DMa p A B)) (DMa p A B).1 P w) (hz : ∀ j, j < P.length → vN p (DMa p A B) (wl L (P.getD j 0)) = 0) : dfO p L A B = none := by
  refine dfO_none (fun u _ => (DM_zero A B _).mp ?_)
  obtain ⟨c, hc⟩ := hall u
  refine fo_inj (vN_lt (Nat.pos_of_ne_zero (NeZero.ne p)) _) (Nat.pos_of_ne_zero (NeZero.ne p)) ?_
  rw [vN_FV, fo_0, sm_congr (g := fun s => sm P.length (fun j => c j * (fE p (DMa p A B) s * FV p L (DMa p A B) (P.getD j 0) s))) (fun s hs => ?_), sm_swap, sm_congr (g := fun _ => (0 : Fin p)) (fun j hj => ?_), sm_zero]
  · have h1 := vN_FV (p := p) (L := L) (DMa p A B) (P.getD j 0)
    rw [hz j hj, fo_0] at h1
    rw [sm_mul, ← h1]
    grind
  · rw [hc s hs, ← sm_mul]
    exact sm_congr (fun j _ => by grind)
end CLS
