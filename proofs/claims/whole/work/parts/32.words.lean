/-! WORDS: numbers, letters -/
def wl (L w : Nat) : List Nat := if w = 0 then [] else wl L ((w - 1) / L) ++ [(w - 1) % L]
termination_by w
decreasing_by exact Nat.lt_of_le_of_lt (Nat.div_le_self _ _) (by omega)
theorem wl_0 (L : Nat) : wl L 0 = [] := by rw [wl]; rfl
theorem wl_x {L w x : Nat} (hx : x < L) : wl L (w * L + x + 1) = wl L w ++ [x] := by
  rw [wl, if_neg (by omega), wx_par hx, wx_let hx]
theorem wl_len {L : Nat} (hL : 0 < L) : ∀ w, (wl L w).length = wlen L w := by
  intro w
  induction w using Nat.strongRecOn with
  | ind w ih =>
    rcases Nat.eq_zero_or_pos w with rfl | hw
    · rw [wl_0, wlen_0]; rfl
    · obtain ⟨u, x, hx, rfl⟩ := w_split hL (by omega : w ≠ 0)
      rw [wl_x hx, wlen_x hx, List.length_append, ih u (wx_gt hL)]
      rfl
theorem wl_lt {L : Nat} (hL : 0 < L) : ∀ w, ∀ x ∈ wl L w, x < L := by
  intro w
  induction w using Nat.strongRecOn with
  | ind w ih =>
    intro y hy
    rcases Nat.eq_zero_or_pos w with rfl | hw
    · rw [wl_0] at hy; cases hy
    · obtain ⟨u, x, hx, rfl⟩ := w_split hL (by omega : w ≠ 0)
      rw [wl_x hx] at hy
      rcases List.mem_append.mp hy with h | h
      · exact ih u (wx_gt hL) y h
      · rw [List.mem_singleton.mp h]; exact hx
def wnum (L : Nat) (l : List Nat) : Nat := l.foldl (fun w x => w * L + x + 1) 0
theorem wnum_app (L : Nat) (l : List Nat) (x : Nat) : wnum L (l ++ [x]) = wnum L l * L + x + 1 := by simp [wnum]
theorem wl_num {L : Nat} : ∀ l : List Nat, (∀ x ∈ l, x < L) → wl L (wnum L l) = l := by
  have key : ∀ r : List Nat, (∀ x ∈ r, x < L) → wl L (wnum L r.reverse) = r.reverse := by
    intro r
    induction r with
    | nil => intro _; exact wl_0 L
    | cons x r ih =>
      intro h
      rw [List.reverse_cons, wnum_app, wl_x (h x (by simp)), ih (fun y hy => h y (by simp [hy]))]
  intro l h
  have := key l.reverse (fun x hx => h x (List.mem_reverse.mp hx))
  rwa [List.reverse_reverse] at this
theorem wnum_wl {L : Nat} (hL : 0 < L) : ∀ w, wnum L (wl L w) = w := by
  intro w
  induction w using Nat.strongRecOn with
  | ind w ih =>
    rcases Nat.eq_zero_or_pos w with rfl | hw
    · rw [wl_0]; rfl
    · obtain ⟨u, x, hx, rfl⟩ := w_split hL (by omega : w ≠ 0)
      rw [wl_x hx, wnum_app, ih u (wx_gt hL)]
theorem fst_x (L : Nat) : ∀ n, fst L (n + 1) = fst L n * L + 1 := by
  intro n
  induction n with
  | zero => simp [fst]
  | succ n ih =>
    have e : fst L (n + 1 + 1) = fst L (n + 1) + L ^ (n + 1) := rfl
    have e2 : fst L (n + 1) = fst L n + L ^ n := rfl
    rw [e, Nat.pow_succ]
    conv => lhs; rw [ih]
    rw [e2, Nat.add_mul]
    omega
theorem wlen_fst {L : Nat} (hL : 0 < L) : ∀ w, fst L (wlen L w) ≤ w ∧ w < fst L (wlen L w + 1) := by
  intro w
  induction w using Nat.strongRecOn with
  | ind w ih =>
    rcases Nat.eq_zero_or_pos w with rfl | hw
    · rw [wlen_0]; simp [fst]
    · obtain ⟨u, x, hx, rfl⟩ := w_split hL (by omega : w ≠ 0)
      rw [wlen_x hx]
      obtain ⟨h1, h2⟩ := ih u (wx_gt hL)
      rw [fst_x L (wlen L u + 1)]
      rw [fst_x] at h2 ⊢
      refine ⟨?_, ?_⟩
      · have := Nat.mul_le_mul_right L h1; omega
      · have : (u + 1) * L ≤ (fst L (wlen L u) * L + 1) * L := Nat.mul_le_mul_right L h2
        rw [Nat.add_mul] at this
        omega
theorem fst_mono {L : Nat} : ∀ {m n : Nat}, m ≤ n → fst L m ≤ fst L n := by
  intro m n h
  induction n with
  | zero => rw [Nat.le_zero.mp h]; exact Nat.le_refl _
  | succ n ih =>
    by_cases e : m = n + 1
    · rw [e]; exact Nat.le_refl _
    · have := ih (by omega)
      show _ ≤ fst L n + L ^ n
      omega
theorem wlen_lt_iff {L : Nat} (hL : 0 < L) (w n : Nat) : wlen L w < n ↔ w < fst L n := by
  obtain ⟨h1, h2⟩ := wlen_fst hL w
  constructor
  · intro h; exact Nat.lt_of_lt_of_le h2 (fst_mono h)
  · intro h
    rcases Nat.lt_or_ge (wlen L w) n with q | q
    · exact q
    · have := fst_mono (L := L) q; omega
/-- one word behind another -/
def wcat (L w u : Nat) : Nat := w * L ^ wlen L u + u
theorem wcat_0 (L w : Nat) : wcat L w 0 = w := by simp [wcat, wlen_0]
theorem wcat_x {L w u x : Nat} (hx : x < L) : wcat L w (u * L + x + 1) = wcat L w u * L + x + 1 := by
  unfold wcat
  rw [wlen_x hx, Nat.pow_succ, Nat.add_mul, Nat.mul_assoc]
  omega
theorem wl_cat {L : Nat} (hL : 0 < L) (w : Nat) : ∀ u, wl L (wcat L w u) = wl L w ++ wl L u := by
  intro u
  induction u using Nat.strongRecOn with
  | ind u ih =>
    rcases Nat.eq_zero_or_pos u with rfl | hu
    · rw [wcat_0, wl_0, List.append_nil]
    · obtain ⟨v, x, hx, rfl⟩ := w_split hL (by omega : u ≠ 0)
      rw [wcat_x hx, wl_x hx, wl_x hx, ih v (wx_gt hL), List.append_assoc]
theorem wlen_cat {L : Nat} (hL : 0 < L) (w u : Nat) : wlen L (wcat L w u) = wlen L w + wlen L u := by
  rw [← wl_len hL, wl_cat hL, List.length_append, wl_len hL, wl_len hL]
/-! MACHINES over a ring: n states, starts, ends, weights -/
section MACH
def fvl {F : Type} [Lean.Grind.CommRing F] (n : Nat) (st : Nat → F) (wt : Nat → Nat → Nat → F) (l : List Nat) : Nat → F := l.foldl (fun v x t => sm n (fun s => v s * wt s x t)) st
def bvl {F : Type} [Lean.Grind.CommRing F] (n : Nat) (en : Nat → F) (wt : Nat → Nat → Nat → F) (l : List Nat) : Nat → F := l.foldr (fun x v s => sm n (fun t => wt s x t * v t)) en
def vlu {F : Type} [Lean.Grind.CommRing F] (n : Nat) (st en : Nat → F) (wt : Nat → Nat → Nat → F) (l : List Nat) : F := sm n (fun s => fvl n st wt l s * en s)
theorem fvl_x {F : Type} [Lean.Grind.CommRing F] (n : Nat) (st : Nat → F) (wt : Nat → Nat → Nat → F) (l : List Nat) (x : Nat) : fvl n st wt (l ++ [x]) = fun t => sm n (fun s => fvl n st wt l s * wt s x t) := by simp [fvl]
theorem bvl_x {F : Type} [Lean.Grind.CommRing F] (n : Nat) (en : Nat → F) (wt : Nat → Nat → Nat → F) (l : List Nat) (x : Nat) : bvl n en wt (x :: l) = fun s => sm n (fun t => wt s x t * bvl n en wt l t) := rfl
theorem dot_x {F : Type} [Lean.Grind.CommRing F] (n : Nat) (a b : Nat → F) (wt : Nat → Nat → Nat → F) (x : Nat) : sm n (fun t => sm n (fun s => a s * wt s x t) * b t) = sm n (fun s => a s * sm n (fun t => wt s x t * b t)) := by
  have e1 : sm n (fun t => sm n (fun s => a s * wt s x t) * b t) = sm n (fun t => sm n (fun s => a s * wt s x t * b t)) := by
    apply sm_congr
    intro t _
    have : sm n (fun s => a s * wt s x t * b t) = b t * sm n (fun s => a s * wt s x t) := by
      rw [← sm_mul]; exact sm_congr (fun s _ => by grind)
    rw [this]; grind
  rw [e1, sm_swap]
  apply sm_congr
  intro s _
  rw [← sm_mul]
  exact sm_congr (fun t _ => by grind)
theorem vlu_cat {F : Type} [Lean.Grind.CommRing F] (n : Nat) (st en : Nat → F) (wt : Nat → Nat → Nat → F) : ∀ (v u : List Nat), vlu n st en wt (u ++ v) = sm n (fun s => fvl n st wt u s * bvl n en wt v s) := by
  intro v
  induction v with
  | nil => intro u; rw [List.append_nil]; rfl
  | cons x v ih =>
    intro u
    rw [show u ++ x :: v = (u ++ [x]) ++ v by simp, ih, fvl_x, bvl_x, dot_x]
/-- rows by columns -/
def rowC {F : Type} [Lean.Grind.CommRing F] (n : Nat) (st : Nat → F) (wt : Nat → Nat → Nat → F) (L : Nat) (col : Nat → Nat → F) (w i : Nat) : F := sm n (fun s => fvl n st wt (wl L w) s * col i s)
theorem rowC_x {F : Type} [Lean.Grind.CommRing F] {n L w x i : Nat} {st : Nat → F} {wt : Nat → Nat → Nat → F} {col : Nat → Nat → F} (hx : x < L) : rowC n st wt L col (w * L + x + 1) i = sm n (fun s => fvl n st wt (wl L w) s * sm n (fun t => wt s x t * col i t)) := by
  unfold rowC
  rw [wl_x hx, fvl_x, dot_x]
theorem dot_comb {F : Type} [Lean.Grind.CommRing F] (n k : Nat) (a : Nat → F) (d : Nat → F) (col : Nat → Nat → F) : sm n (fun s => a s * sm k (fun j => d j * col j s)) = sm k (fun j => d j * sm n (fun s => a s * col j s)) := by
  have e1 : sm n (fun s => a s * sm k (fun j => d j * col j s)) = sm n (fun s => sm k (fun j => a s * (d j * col j s))) := sm_congr (fun s _ => by rw [sm_mul])
  rw [e1, sm_swap]
  apply sm_congr
  intro j _
  rw [← sm_mul]
  exact sm_congr (fun s _ => by grind)
/-- a combination by some columns is one by all that these span -/
theorem rowC_tr {F : Type} [Lean.Grind.CommRing F] {n L K k w : Nat} {st : Nat → F} {wt : Nat → Nat → Nat → F} {col : Nat → Nat → F} {v : Nat → F} {c : Nat → F} {b : Nat → Nat} (hv : inS n K col v) (h : ∀ i, i < K → rowC n st wt L col w i = sm k (fun j => c j * rowC n st wt L col (b j) i)) :
    sm n (fun s => fvl n st wt (wl L w) s * v s) = sm k (fun j => c j * sm n (fun s => fvl n st wt (wl L (b j)) s * v s)) := by
  obtain ⟨d, hd⟩ := hv
  have e1 : ∀ u, sm n (fun s => fvl n st wt (wl L u) s * v s) = sm K (fun i => d i * rowC n st wt L col u i) := by
    intro u
    rw [sm_congr (g := fun s => fvl n st wt (wl L u) s * sm K (fun j => d j * col j s)) (fun s hs => by rw [hd s hs]), dot_comb]
    rfl
  have e2 : sm k (fun j => c j * sm n (fun s => fvl n st wt (wl L (b j)) s * v s)) = sm k (fun j => sm K (fun i => c j * (d i * rowC n st wt L col (b j) i))) := sm_congr (fun j _ => by rw [e1 (b j), sm_mul])
  rw [e1 w, e2, sm_swap]
  apply sm_congr
  intro i hi
  rw [h i hi, ← sm_mul]
  exact sm_congr (fun j _ => by grind)
theorem rowC_hstp {F : Type} [Lean.Grind.CommRing F] {n L K : Nat} {st : Nat → F} {wt : Nat → Nat → Nat → F} {col : Nat → Nat → F} (hc : ∀ x, x < L → ∀ i, i < K → inS n K col (fun s => sm n (fun t => wt s x t * col i t))) : hstp (rowC n st wt L col) K L := by
  intro x hx k c b w h i hi
  rw [rowC_x hx, rowC_tr (hc x hx i hi) h]
  exact sm_congr (fun j _ => by rw [rowC_x hx])
theorem BB_eq {F : Type} [Lean.Grind.CommRing F] {row row' : Nat → Nat → F} {W W' : Nat} (h : ∀ B w, dpw row W B w ↔ dpw row' W' B w) : ∀ N, BB row W N = BB row' W' N := by
  intro N
  induction N with
  | zero => rfl
  | succ N ih =>
    by_cases q : dpw row W (BB row W N) N
    · rw [BB_pos q, BB_pos (by rw [← ih]; exact (h _ _).mp q), ih]
    · rw [BB_neg q, BB_neg (fun z => q (by rw [← ih] at z; exact (h _ _).mpr z)), ih]
/-- columns that span each other tell the same -/
theorem dpw_cols {F : Type} [Lean.Grind.CommRing F] {n L K K' : Nat} {st : Nat → F} {wt : Nat → Nat → Nat → F} {col col' : Nat → Nat → F} (h : ∀ i, i < K' → inS n K col (col' i)) {B : List Nat} {w : Nat} (hd : dpw (rowC n st wt L col) K B w) : dpw (rowC n st wt L col') K' B w := by
  obtain ⟨c, hc⟩ := hd
  exact ⟨c, fun i hi => rowC_tr (h i hi) hc⟩
/-- what comes by any word to the ends comes by words of fewer letters than there are states -/
theorem bvl_short {F : Type} [Lean.Grind.CommRing F] (hF : isF F) {n L : Nat} (hL : 0 < L) (en : Nat → F) (wt : Nat → Nat → Nat → F) (l : List Nat) (hl : ∀ x ∈ l, x < L) : inS n (fst L n) (fun c => bvl n en wt (wl L c)) (bvl n en wt l) := by
  let row : Nat → Nat → F := fun u => bvl n en wt (wl L u).reverse
  have hrow : ∀ u x, x < L → row (u * L + x + 1) = fun s => sm n (fun t => wt s x t * row u t) := by
    intro u x hx
    show bvl n en wt (wl L (u * L + x + 1)).reverse = _
    rw [wl_x hx, List.reverse_append]
    rfl
  have hS : hstp row n L := by
    intro x hx k c b w h i hi
    rw [hrow w x hx]
    show sm n (fun t => wt i x t * row w t) = _
    rw [sm_congr (g := fun t => wt i x t * sm k (fun j => c j * row (b j) t)) (fun t ht => by rw [h t ht]), dot_comb]
    exact sm_congr (fun j _ => by rw [hrow (b j) x hx])
  let u := wnum L l.reverse
  have hu : wl L u = l.reverse := wl_num _ (fun x hx => hl x (List.mem_reverse.mp hx))
  have h1 : dpw row n (BB row n (u + 1)) u := BB_dep (Nat.lt_succ_self u)
  have e1 : row u = bvl n en wt l := by show bvl n en wt (wl L u).reverse = _; rw [hu, List.reverse_reverse]
  unfold dpw at h1
  rw [e1] at h1
  refine inS_tr h1 (fun j hj => ?_)
  have hm : (BB row n (u + 1)).getD j 0 ∈ BB row n (u + 1) := by rw [gd_el hj]; exact List.getElem_mem hj
  generalize (BB row n (u + 1)).getD j 0 = b at hm
  have hb := BB_short hF hL hS hm
  let c := wnum L (wl L b).reverse
  have hc : wl L c = (wl L b).reverse := wl_num _ (fun x hx => wl_lt hL b x (List.mem_reverse.mp hx))
  have hc2 : c < fst L n := by
    rw [← wlen_lt_iff hL, ← wl_len hL, hc, List.length_reverse, wl_len hL]; exact hb
  have := inS_self (W := n) (r := fun c => bvl n en wt (wl L c)) hc2
  rw [hc] at this
  exact this
end MACH
