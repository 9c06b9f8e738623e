/-! WORDS BY THEIR NUMBERS: w with letter x behind it is w * L + x + 1 -/
def wlen (L w : Nat) : Nat := if w = 0 then 0 else wlen L ((w - 1) / L) + 1
termination_by w
decreasing_by exact Nat.lt_of_le_of_lt (Nat.div_le_self _ _) (by omega)
theorem wlen_0 (L : Nat) : wlen L 0 = 0 := by rw [wlen]; rfl
theorem wx_par {L w x : Nat} (hx : x < L) : (w * L + x + 1 - 1) / L = w := by
  rw [Nat.add_sub_cancel, Nat.mul_comm, Nat.mul_add_div (by omega), Nat.div_eq_of_lt hx]; rfl
theorem wx_let {L w x : Nat} (hx : x < L) : (w * L + x + 1 - 1) % L = x := by
  rw [Nat.add_sub_cancel, Nat.mul_comm, Nat.mul_add_mod, Nat.mod_eq_of_lt hx]
theorem wlen_x {L w x : Nat} (hx : x < L) : wlen L (w * L + x + 1) = wlen L w + 1 := by
  rw [wlen, if_neg (by omega), wx_par hx]
theorem w_split {L w : Nat} (hL : 0 < L) (hw : w ≠ 0) : ∃ u x, x < L ∧ w = u * L + x + 1 := by
  refine ⟨(w - 1) / L, (w - 1) % L, Nat.mod_lt _ hL, ?_⟩
  have := Nat.div_add_mod (w - 1) L
  rw [Nat.mul_comm] at this
  omega
theorem wx_gt {L w x : Nat} (hL : 0 < L) : w < w * L + x + 1 := by
  have : w * 1 ≤ w * L := Nat.mul_le_mul_left w hL
  omega
theorem wx_mono {L w u x y : Nat} (hx : x < L) (h : w < u) : w * L + x + 1 < u * L + y + 1 := by
  have : (w + 1) * L ≤ u * L := Nat.mul_le_mul_right L h
  rw [Nat.add_mul] at this
  omega
/-! COMBINATIONS of rows, of W coordinates -/
def inS {F : Type} [Lean.Grind.CommRing F] (W k : Nat) (r : Nat → Nat → F) (v : Nat → F) : Prop := ∃ c : Nat → F, ∀ i, i < W → v i = sm k (fun j => c j * r j i)
def indp {F : Type} [Lean.Grind.CommRing F] (W k : Nat) (r : Nat → Nat → F) : Prop := ∀ c : Nat → F, (∀ i, i < W → sm k (fun j => c j * r j i) = 0) → ∀ j, j < k → c j = 0
/-- a field: what isn't 0 has an inverse -/
def isF (F : Type) [Lean.Grind.CommRing F] : Prop := (∀ a : F, a ≠ 0 → ∃ b, a * b = 1) ∧ (1 : F) ≠ 0
theorem indp_le {F : Type} [Lean.Grind.CommRing F] (hF : isF F) {W k : Nat} {r : Nat → Nat → F} (h : indp W k r) : k ≤ W := by
  rcases Nat.lt_or_ge W k with q | q
  · obtain ⟨c, ⟨j, h1, h2⟩, h3⟩ := lin_dep hF.1 hF.2 W k r q
    exact absurd (h c h3 j h1) h2
  · exact q
theorem indp_0 {F : Type} [Lean.Grind.CommRing F] (W : Nat) (r : Nat → Nat → F) : indp W 0 r := fun _ _ j hj => by omega
theorem indp_congr {F : Type} [Lean.Grind.CommRing F] {W k : Nat} {r r' : Nat → Nat → F} (h : ∀ j, j < k → ∀ i, i < W → r j i = r' j i) (hi : indp W k r) : indp W k r' := by
  intro c hc j hj
  refine hi c (fun i hiW => ?_) j hj
  rw [← hc i hiW]
  exact sm_congr (fun j hj => by rw [h j hj i hiW])
theorem inS_congr {F : Type} [Lean.Grind.CommRing F] {W k : Nat} {r r' : Nat → Nat → F} {v v' : Nat → F} (h : ∀ j, j < k → ∀ i, i < W → r j i = r' j i) (hv : ∀ i, i < W → v i = v' i) (hi : inS W k r v) : inS W k r' v' := by
  obtain ⟨c, hc⟩ := hi
  exact ⟨c, fun i hiW => by rw [← hv i hiW, hc i hiW]; exact sm_congr (fun j hj => by rw [h j hj i hiW])⟩
theorem indp_push {F : Type} [Lean.Grind.CommRing F] (hF : isF F) {W k : Nat} {r : Nat → Nat → F} (h : indp W k r) (hn : ¬ inS W k r (r k)) : indp W (k + 1) r := by
  intro c hc
  have hk : c k = 0 := by
    rcases Classical.em (c k = 0) with q | q
    · exact q
    · obtain ⟨b, hb⟩ := hF.1 _ q
      refine absurd ⟨fun j => - b * c j, fun i hi => ?_⟩ hn
      have h1 := hc i hi
      simp only [sm] at h1
      have h2 : sm k (fun j => -b * c j * r j i) = -b * sm k (fun j => c j * r j i) := by
        rw [← sm_mul]; exact sm_congr (fun j _ => by grind)
      rw [h2]
      grind
  intro j hj
  by_cases e : j = k
  · rw [e]; exact hk
  · refine h c (fun i hi => ?_) j (by omega)
    have h1 := hc i hi
    simp only [sm] at h1
    rw [hk] at h1
    grind
theorem inS_more {F : Type} [Lean.Grind.CommRing F] {W k k' : Nat} {r : Nat → Nat → F} {v : Nat → F} (hk : k ≤ k') (h : inS W k r v) : inS W k' r v := by
  obtain ⟨c, hc⟩ := h
  refine ⟨fun j => if j < k then c j else 0, fun i hi => ?_⟩
  rw [hc i hi]
  have : ∀ d, sm k (fun j => c j * r j i) = sm (k + d) (fun j => (if j < k then c j else 0) * r j i) := by
    intro d
    induction d with
    | zero => exact sm_congr (fun j hj => by rw [if_pos hj])
    | succ d ih =>
      rw [ih]
      show _ = sm (k + d) _ + (if k + d < k then c (k + d) else 0) * r (k + d) i
      rw [if_neg (by omega)]
      grind
  rw [this (k' - k), Nat.add_sub_cancel' hk]
theorem inS_self {F : Type} [Lean.Grind.CommRing F] {W k j : Nat} {r : Nat → Nat → F} (hj : j < k) : inS W k r (r j) := by
  refine ⟨fun i => if i = j then 1 else 0, fun i _ => ?_⟩
  have e : sm k (fun a => (if a = j then (1 : F) else 0) * r a i) = (if j = j then (1 : F) else 0) * r j i := sm_one hj _ (fun a _ hne => by simp only [if_neg hne]; grind)
  rw [e, if_pos rfl]
  grind
theorem inS_tr {F : Type} [Lean.Grind.CommRing F] {W k n : Nat} {r u : Nat → Nat → F} {v : Nat → F} (h : inS W n u v) (hu : ∀ j, j < n → inS W k r (u j)) : inS W k r v := by
  obtain ⟨c, hc⟩ := h
  have hex : ∀ j, ∃ d : Nat → F, j < n → ∀ i, i < W → u j i = sm k (fun a => d a * r a i) := by
    intro j
    by_cases hj : j < n
    · obtain ⟨d, hd⟩ := hu j hj
      exact ⟨d, fun _ => hd⟩
    · exact ⟨fun _ => 0, fun h => absurd h hj⟩
  obtain ⟨d, hd⟩ := Classical.axiomOfChoice hex
  refine ⟨fun a => sm n (fun j => c j * d j a), fun i hi => ?_⟩
  rw [hc i hi]
  have e1 : sm n (fun j => c j * u j i) = sm n (fun j => sm k (fun a => c j * d j a * r a i)) := by
    apply sm_congr
    intro j hj
    rw [hd j hj i hi, ← sm_mul]
    exact sm_congr (fun a _ => by grind)
  rw [e1, sm_swap]
  apply sm_congr
  intro a _
  have : sm n (fun i_1 => c i_1 * d i_1 a * r a i) = r a i * sm n (fun j => c j * d j a) := by
    rw [← sm_mul]; exact sm_congr (fun j _ => by grind)
  rw [this]
  grind
/-- independent ones among combinations of k are no more than k -/
theorem indp_steinitz {F : Type} [Lean.Grind.CommRing F] (hF : isF F) {W k n : Nat} {r u : Nat → Nat → F} (h : indp W n u) (hu : ∀ j, j < n → inS W k r (u j)) : n ≤ k := by
  have hex : ∀ j, ∃ d : Nat → F, j < n → ∀ i, i < W → u j i = sm k (fun a => d a * r a i) := by
    intro j
    by_cases hj : j < n
    · obtain ⟨d, hd⟩ := hu j hj
      exact ⟨d, fun _ => hd⟩
    · exact ⟨fun _ => 0, fun h => absurd h hj⟩
  obtain ⟨d, hd⟩ := Classical.axiomOfChoice hex
  have : indp k n d := by
    intro c hc
    refine h c (fun i hi => ?_)
    have e1 : sm n (fun j => c j * u j i) = sm n (fun j => sm k (fun a => c j * d j a * r a i)) := by
      apply sm_congr
      intro j hj
      rw [hd j hj i hi, ← sm_mul]
      exact sm_congr (fun a _ => by grind)
    rw [e1, sm_swap, sm_congr (g := fun _ => 0) (fun a ha => ?_), sm_zero]
    have : sm n (fun i_1 => c i_1 * d i_1 a * r a i) = r a i * sm n (fun j => c j * d j a) := by
      rw [← sm_mul]; exact sm_congr (fun j _ => by grind)
    rw [this, hc a ha]
    grind
  exact indp_le hF this
/-- a combination of independent ones is one alone -/
theorem indp_uniq {F : Type} [Lean.Grind.CommRing F] {W k : Nat} {r : Nat → Nat → F} {c d : Nat → F} (h : indp W k r) (he : ∀ i, i < W → sm k (fun j => c j * r j i) = sm k (fun j => d j * r j i)) : ∀ j, j < k → c j = d j := by
  intro j hj
  have := h (fun j => c j - d j) (fun i hi => by
    have e1 : sm k (fun j => (c j - d j) * r j i) = sm k (fun j => c j * r j i) - sm k (fun j => d j * r j i) := by
      rw [← sm_sub]; exact sm_congr (fun j _ => by grind)
    rw [e1, he i hi]
    grind) j hj
  grind
/-! THE BASIS: words by their numbers, each whose row is no combination of those before -/
def dpw {F : Type} [Lean.Grind.CommRing F] (row : Nat → Nat → F) (W : Nat) (B : List Nat) (w : Nat) : Prop := inS W B.length (fun j => row (B.getD j 0)) (row w)
noncomputable def BB {F : Type} [Lean.Grind.CommRing F] (row : Nat → Nat → F) (W : Nat) : Nat → List Nat
  | 0 => []
  | N + 1 => @ite _ (dpw row W (BB row W N) N) (Classical.propDecidable _) (BB row W N) (BB row W N ++ [N])
section GREEDY
theorem gd_app {B t : List Nat} {j d : Nat} (h : j < B.length) : (B ++ t).getD j d = B.getD j d := by simp [List.getD_eq_getElem?_getD, List.getElem?_append_left h]
theorem gd_last {B : List Nat} {x d : Nat} : (B ++ [x]).getD B.length d = x := by simp [List.getD_eq_getElem?_getD]
theorem gd_el {B : List Nat} {j d : Nat} (h : j < B.length) : B.getD j d = B[j] := by simp [List.getD_eq_getElem?_getD, List.getElem?_eq_getElem h]
theorem BB_pos {F : Type} [Lean.Grind.CommRing F] {row : Nat → Nat → F} {W N : Nat} (h : dpw row W (BB row W N) N) : BB row W (N + 1) = BB row W N := by
  show @ite _ _ (Classical.propDecidable _) _ _ = _
  exact if_pos h
theorem BB_neg {F : Type} [Lean.Grind.CommRing F] {row : Nat → Nat → F} {W N : Nat} (h : ¬ dpw row W (BB row W N) N) : BB row W (N + 1) = BB row W N ++ [N] := by
  show @ite _ _ (Classical.propDecidable _) _ _ = _
  exact if_neg h
theorem BB_lt {F : Type} [Lean.Grind.CommRing F] {row : Nat → Nat → F} {W : Nat} : ∀ {N w : Nat}, w ∈ BB row W N → w < N := by
  intro N
  induction N with
  | zero => intro w h; cases h
  | succ N ih =>
    intro w h
    by_cases q : dpw row W (BB row W N) N
    · rw [BB_pos q] at h; have := ih h; omega
    · rw [BB_neg q] at h
      rcases List.mem_append.mp h with h | h
      · have := ih h; omega
      · have := List.mem_singleton.mp h; omega
theorem BB_ext {F : Type} [Lean.Grind.CommRing F] {row : Nat → Nat → F} {W M : Nat} : ∀ d, ∃ t, BB row W (M + d) = BB row W M ++ t ∧ ∀ x ∈ t, M ≤ x := by
  intro d
  induction d with
  | zero => exact ⟨[], by simp, fun x h => by cases h⟩
  | succ d ih =>
    obtain ⟨t, h1, h2⟩ := ih
    by_cases q : dpw row W (BB row W (M + d)) (M + d)
    · exact ⟨t, by rw [← Nat.add_assoc, BB_pos q, h1], h2⟩
    · refine ⟨t ++ [M + d], by rw [← Nat.add_assoc, BB_neg q, h1, List.append_assoc], fun x hx => ?_⟩
      rcases List.mem_append.mp hx with h | h
      · exact h2 x h
      · have := List.mem_singleton.mp h; omega
theorem dpw_app {F : Type} [Lean.Grind.CommRing F] {row : Nat → Nat → F} {W : Nat} {B t : List Nat} {w : Nat} (h : dpw row W B w) : dpw row W (B ++ t) w := by
  unfold dpw at h ⊢
  have h1 : inS W B.length (fun j => row ((B ++ t).getD j 0)) (row w) := inS_congr (fun j hj i _ => by rw [gd_app hj]) (fun _ _ => rfl) h
  exact inS_more (by rw [List.length_append]; omega) h1
theorem dpw_mem {F : Type} [Lean.Grind.CommRing F] {row : Nat → Nat → F} {W : Nat} {B : List Nat} {w : Nat} (h : w ∈ B) : dpw row W B w := by
  obtain ⟨j, hj, rfl⟩ := List.mem_iff_getElem.mp h
  have := inS_self (W := W) (r := fun j => row (B.getD j 0)) hj
  unfold dpw
  rw [gd_el hj] at this
  exact this
theorem BB_dep {F : Type} [Lean.Grind.CommRing F] {row : Nat → Nat → F} {W N w : Nat} (h : w < N) : dpw row W (BB row W N) w := by
  obtain ⟨t, h1, -⟩ := BB_ext (row := row) (W := W) (M := w + 1) (N - (w + 1))
  rw [show w + 1 + (N - (w + 1)) = N by omega] at h1
  rw [h1]
  apply dpw_app
  by_cases q : dpw row W (BB row W w) w
  · rw [BB_pos q]; exact q
  · rw [BB_neg q]; exact dpw_mem (by simp)
theorem BB_mem {F : Type} [Lean.Grind.CommRing F] {row : Nat → Nat → F} {W N w : Nat} (h : w < N) : w ∈ BB row W N ↔ ¬ dpw row W (BB row W w) w := by
  obtain ⟨t, h1, h2⟩ := BB_ext (row := row) (W := W) (M := w + 1) (N - (w + 1))
  rw [show w + 1 + (N - (w + 1)) = N by omega] at h1
  rw [h1]
  constructor
  · intro hm q
    rw [BB_pos q] at hm
    rcases List.mem_append.mp hm with z | z
    · exact absurd (BB_lt z) (Nat.lt_irrefl _)
    · have := h2 w z; omega
  · intro q
    rw [BB_neg q]
    simp
theorem BB_ind {F : Type} [Lean.Grind.CommRing F] (hF : isF F) {row : Nat → Nat → F} {W : Nat} : ∀ N, indp W (BB row W N).length (fun j => row ((BB row W N).getD j 0)) := by
  intro N
  induction N with
  | zero => exact indp_0 _ _
  | succ N ih =>
    by_cases q : dpw row W (BB row W N) N
    · rw [BB_pos q]; exact ih
    · rw [BB_neg q, List.length_append]
      refine indp_push hF (indp_congr (fun j hj i _ => by rw [gd_app hj]) ih) ?_
      rw [gd_last]
      intro h
      exact q (inS_congr (fun j hj i _ => by rw [gd_app hj]) (fun _ _ => rfl) h)
theorem BB_size {F : Type} [Lean.Grind.CommRing F] (hF : isF F) {row : Nat → Nat → F} {W : Nat} (N : Nat) : (BB row W N).length ≤ W := indp_le hF (BB_ind hF N)
/-- what is a combination stays one with a letter behind it -/
def hstp {F : Type} [Lean.Grind.CommRing F] (row : Nat → Nat → F) (W L : Nat) : Prop := ∀ (x : Nat), x < L → ∀ (k : Nat) (c : Nat → F) (b : Nat → Nat) (w : Nat), (∀ i, i < W → row w i = sm k (fun j => c j * row (b j) i)) → ∀ i, i < W → row (w * L + x + 1) i = sm k (fun j => c j * row (b j * L + x + 1) i)
theorem BB_step {F : Type} [Lean.Grind.CommRing F] {row : Nat → Nat → F} {W L w x : Nat} (hS : hstp row W L) (hx : x < L) (h : dpw row W (BB row W w) w) : dpw row W (BB row W (w * L + x + 1)) (w * L + x + 1) := by
  obtain ⟨c, hc⟩ := h
  have h1 := hS x hx _ c (fun j => (BB row W w).getD j 0) w hc
  refine inS_tr (n := (BB row W w).length) (u := fun j => row ((BB row W w).getD j 0 * L + x + 1)) ⟨c, h1⟩ (fun j hj => ?_)
  refine BB_dep (wx_mono hx ?_)
  rw [gd_el hj]
  exact BB_lt (List.getElem_mem hj)
theorem BB_par {F : Type} [Lean.Grind.CommRing F] {row : Nat → Nat → F} {W L w x N : Nat} (hL : 0 < L) (hS : hstp row W L) (hx : x < L) (h : w * L + x + 1 ∈ BB row W N) : w ∈ BB row W N := by
  have h0 := BB_lt h
  have h1 := (BB_mem h0).mp h
  refine (BB_mem (Nat.lt_trans (wx_gt hL) h0)).mpr (fun q => h1 (BB_step hS hx q))
theorem BB_len {F : Type} [Lean.Grind.CommRing F] {row : Nat → Nat → F} {W L : Nat} (hL : 0 < L) (hS : hstp row W L) : ∀ (w N : Nat), w ∈ BB row W N → wlen L w < (BB row W (w + 1)).length := by
  intro w
  induction w using Nat.strongRecOn with
  | ind w ih =>
    intro N h
    have h1 := (BB_mem (BB_lt h)).mp h
    rcases Nat.eq_zero_or_pos w with rfl | hw
    · rw [wlen_0, BB_neg h1]; simp
    · obtain ⟨u, x, hx, rfl⟩ := w_split hL (by omega : w ≠ 0)
      have h2 := ih u (wx_gt hL) N (BB_par hL hS hx h)
      rw [wlen_x hx, BB_neg h1, List.length_append]
      obtain ⟨t, h3, -⟩ := BB_ext (row := row) (W := W) (M := u + 1) (u * L + x + 1 - (u + 1))
      rw [show u + 1 + (u * L + x + 1 - (u + 1)) = u * L + x + 1 by have := @wx_gt L u x hL; omega] at h3
      rw [h3, List.length_append]
      simp
      omega
theorem BB_short {F : Type} [Lean.Grind.CommRing F] (hF : isF F) {row : Nat → Nat → F} {W L w N : Nat} (hL : 0 < L) (hS : hstp row W L) (h : w ∈ BB row W N) : wlen L w < W := Nat.lt_of_lt_of_le (BB_len hL hS w N h) (BB_size hF _)
end GREEDY
