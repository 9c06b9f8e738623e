/-! HOW MANY WORDS a table speaks of -/
def insW (W : List Nat) (w : Nat) : List Nat := if w ∈ W then W else W ++ [w]
def adW (W ws : List Nat) : List Nat := ws.foldl insW W
theorem insW_mem {W : List Nat} {w x : Nat} : x ∈ insW W w ↔ x ∈ W ∨ x = w := by
  unfold insW
  split
  · rename_i h
    exact ⟨Or.inl, fun q => q.elim id (fun e => e ▸ h)⟩
  · simp
theorem adW_mem {ws : List Nat} : ∀ {W : List Nat} {x : Nat}, x ∈ adW W ws ↔ x ∈ W ∨ x ∈ ws := by
  induction ws with
  | nil => intro W x; simp [adW]
  | cons a t ih =>
    intro W x
    show x ∈ adW (insW W a) t ↔ _
    rw [ih, insW_mem, List.mem_cons, or_assoc]
theorem adW_len {ws : List Nat} : ∀ {W : List Nat}, ws.Nodup → (adW W ws).length = W.length + (ws.filter (fun w => decide (w ∉ W))).length := by
  induction ws with
  | nil => intro W _; simp [adW]
  | cons a t ih =>
    intro W hn
    obtain ⟨ha, ht⟩ := List.nodup_cons.mp hn
    show (adW (insW W a) t).length = _
    rw [ih ht]
    unfold insW
    by_cases h : a ∈ W
    · rw [if_pos h, List.filter_cons_of_neg (by simpa using h)]
    · rw [if_neg h, List.filter_cons_of_pos (by simpa using h), List.length_append, List.length_cons, List.length_cons, List.length_nil]
      have : t.filter (fun w => decide (w ∉ W ++ [a])) = t.filter (fun w => decide (w ∉ W)) := List.filter_congr (fun x hx => by
        have : x ≠ a := fun z => ha (z ▸ hx)
        simp [this])
      rw [this]
      omega
theorem adW_le {ws : List Nat} : ∀ {W : List Nat}, (adW W ws).length ≤ W.length + ws.length := by
  induction ws with
  | nil => intro W; simp [adW]
  | cons a t ih =>
    intro W
    have h1 := ih (W := insW W a)
    have h2 : (insW W a).length ≤ W.length + 1 := by unfold insW; split <;> simp
    show (adW (insW W a) t).length ≤ _
    rw [List.length_cons]
    omega
def wX (L : Nat) (S : List Nat) (r : Nat) (W : List Nat) : Nat → List Nat
  | 0 => adW W (S.map (wcat L r))
  | x + 1 => adW (wX L S r W x) (S.map (wcat L (r * L + x + 1)))
def wI (L : Nat) (P S : List Nat) : Nat → List Nat
  | 0 => []
  | i + 1 => wX L S (P.getD i 0) (wI L P S i) L
theorem wX_mem {L : Nat} {S : List Nat} {r : Nat} {W : List Nat} {w : Nat} : ∀ x, w ∈ wX L S r W x ↔ w ∈ W ∨ (∃ s, s ∈ S ∧ wcat L r s = w) ∨ ∃ y, y < x ∧ ∃ s, s ∈ S ∧ wcat L (r * L + y + 1) s = w := by
  intro x
  induction x with
  | zero =>
    show w ∈ adW W _ ↔ _
    rw [adW_mem, List.mem_map]
    exact ⟨fun q => q.elim Or.inl (fun z => Or.inr (Or.inl z)), fun q => q.elim Or.inl (fun z => z.elim Or.inr (fun ⟨y, hy, _⟩ => absurd hy (Nat.not_lt_zero y)))⟩
  | succ x ih =>
    show w ∈ adW (wX L S r W x) _ ↔ _
    rw [adW_mem, ih, List.mem_map]
    constructor
    · rintro ((q | q | ⟨y, hy, q⟩) | q)
      · exact Or.inl q
      · exact Or.inr (Or.inl q)
      · exact Or.inr (Or.inr ⟨y, by omega, q⟩)
      · exact Or.inr (Or.inr ⟨x, by omega, q⟩)
    · rintro (q | q | ⟨y, hy, q⟩)
      · exact Or.inl (Or.inl q)
      · exact Or.inl (Or.inr (Or.inl q))
      · by_cases e : y = x
        · subst e; exact Or.inr q
        · exact Or.inl (Or.inr (Or.inr ⟨y, by omega, q⟩))
theorem wI_mem {L : Nat} {P S : List Nat} {w : Nat} : ∀ i, w ∈ wI L P S i ↔ ∃ j, j < i ∧ ((∃ s, s ∈ S ∧ wcat L (P.getD j 0) s = w) ∨ ∃ y, y < L ∧ ∃ s, s ∈ S ∧ wcat L (P.getD j 0 * L + y + 1) s = w) := by
  intro i
  induction i with
  | zero => exact ⟨fun q => absurd q (List.not_mem_nil), fun ⟨j, hj, _⟩ => absurd hj (Nat.not_lt_zero j)⟩
  | succ i ih =>
    show w ∈ wX L S (P.getD i 0) (wI L P S i) L ↔ _
    rw [wX_mem, ih]
    constructor
    · rintro (⟨j, hj, q⟩ | q)
      · exact ⟨j, by omega, q⟩
      · exact ⟨i, by omega, q⟩
    · rintro ⟨j, hj, q⟩
      by_cases e : j = i
      · subst e; exact Or.inr q
      · exact Or.inl ⟨j, by omega, q⟩
theorem sfx_cl {L : Nat} (hL : 0 < L) {S : List Nat} (h : sfxs L S) {u v : Nat} (hm : wcat L u v ∈ S) : v ∈ S := by
  have := h.2.2 _ hm (wlen L u) (by rw [wlen_cat hL]; omega)
  rwa [lft_cat hL] at this
theorem pfx_lt {L : Nat} (hL : 0 < L) {P : List Nat} (h : pfxs L P) (hn : P.Nodup) {i x : Nat} (hi : i < P.length) : ∀ (n j : Nat) (a : List Nat), j < n → j < P.length → wl L (P.getD j 0) = wl L (P.getD i 0) ++ x :: a → i < j := by
  intro n
  induction n with
  | zero => intro j a hj; omega
  | succ n ih =>
    intro j a hj hjl he
    rcases h j hjl with ⟨-, e0⟩ | ⟨k, y, hk, hy, e⟩
    · rw [e0, wl_0] at he
      have := congrArg List.length he
      simp at this
    · rw [e, wl_x hy] at he
      rcases List.eq_nil_or_concat a with rfl | ⟨b, z, rfl⟩
      · have h1 := List.append_inj' he rfl
        have h2 := wl_inj hL h1.1
        rw [gd_el (show k < P.length by omega), gd_el hi] at h2
        have := (List.getElem_inj (h₀ := by omega) (h₁ := hi) hn).mp h2
        omega
      · rw [List.concat_eq_append, ← List.cons_append, ← List.append_assoc] at he
        have h1 := List.append_inj' he rfl
        have := ih k b (by omega) (by omega) h1.1
        omega
/-- behind a prefix and a letter: a word that there was already has its suffix with the letter ahead among the suffixes -/
theorem cnt_key {L : Nat} (hL : 0 < L) {P S : List Nat} (hp : pfxs L P) (hn : P.Nodup) (hs : sfxs L S) {i x s : Nat} (hi : i < P.length) (hx : x < L)
    (hw : wcat L (P.getD i 0 * L + x + 1) s ∈ wX L S (P.getD i 0) (wI L P S i) x) : wcat L (x + 1) s ∈ S := by
  have fin : ∀ q t, t ∈ S → wcat L q t = wcat L (P.getD i 0 * L + x + 1) s → (∀ a, wl L q ≠ wl L (P.getD i 0) ++ x :: a) → wcat L (x + 1) s ∈ S := by
    intro q t ht he hno
    have h1 := congrArg (wl L) he
    rw [wl_cat hL, wl_cat hL, wl_x hx] at h1
    rcases List.append_eq_append_iff.mp h1 with ⟨c, e1, e2⟩ | ⟨c, e1, e2⟩
    · rcases List.eq_nil_or_concat c with rfl | ⟨b, z, rfl⟩
      · exact absurd (by simpa using e1.symm) (hno [])
      · rw [List.concat_eq_append, ← List.append_assoc] at e1
        have h3 := List.append_inj' e1 rfl
        have hz : z = x := by simpa using h3.2.symm
        subst hz
        have e3 : t = wcat L (wnum L b) (wcat L (z + 1) s) := by
          refine wl_inj hL ?_
          have hb : ∀ y ∈ b, y < L := fun y hy => wl_lt hL (P.getD i 0) y (by rw [h3.1]; exact List.mem_append_right _ hy)
          rw [wl_cat hL, wl_cat hL, wl_num b hb, e2, show z + 1 = 0 * L + z + 1 by omega, wl_x hx, wl_0]
          simp
        rw [e3] at ht
        exact sfx_cl hL hs ht
    · exact absurd (by rw [e1]; simp) (hno c)
  have no1 : ∀ j, j ≤ i → ∀ a, wl L (P.getD j 0) ≠ wl L (P.getD i 0) ++ x :: a := fun j hj a he => by
    have := pfx_lt hL hp hn hi (j + 1) j a (by omega) (by omega) he
    omega
  have no2 : ∀ j y, j ≤ i → y < L → (j < i ∨ y < x) → ∀ a, wl L (P.getD j 0 * L + y + 1) ≠ wl L (P.getD i 0) ++ x :: a := fun j y hj hy hlt a he => by
    rw [wl_x hy] at he
    rcases List.eq_nil_or_concat a with rfl | ⟨b, z, rfl⟩
    · have h1 := List.append_inj' he rfl
      have h2 := wl_inj hL h1.1
      rw [gd_el (show j < P.length by omega), gd_el hi] at h2
      have h3 := (List.getElem_inj (h₀ := by omega) (h₁ := hi) hn).mp h2
      have h4 : y = x := by simpa using h1.2
      omega
    · rw [List.concat_eq_append, ← List.cons_append, ← List.append_assoc] at he
      exact no1 j hj b (List.append_inj' he rfl).1
  rw [wX_mem, wI_mem] at hw
  rcases hw with ⟨j, hj, ⟨t, ht, e⟩ | ⟨y, hy, t, ht, e⟩⟩ | ⟨t, ht, e⟩ | ⟨y, hy, t, ht, e⟩
  · exact fin _ t ht e (no1 j (by omega))
  · exact fin _ t ht e (no2 j y (by omega) hy (Or.inl hj))
  · exact fin _ t ht e (no1 i (by omega))
  · exact fin _ t ht e (no2 i y (by omega) (by omega) (Or.inr hy))
theorem wcat_inj {L : Nat} (hL : 0 < L) {q a b : Nat} (h : wcat L q a = wcat L q b) : a = b := by
  have h1 := congrArg (wl L) h
  rw [wl_cat hL, wl_cat hL] at h1
  exact wl_inj hL (List.append_cancel_left h1)
theorem map_nodup {f : Nat → Nat} (hf : ∀ a b, f a = f b → a = b) : ∀ {l : List Nat}, l.Nodup → (l.map f).Nodup := by
  intro l
  induction l with
  | nil => intro _; exact List.nodup_nil
  | cons a t ih =>
    intro h
    obtain ⟨h1, h2⟩ := List.nodup_cons.mp h
    refine List.nodup_cons.mpr ⟨fun q => ?_, ih h2⟩
    obtain ⟨b, hb, e⟩ := List.mem_map.mp q
    exact h1 (hf b a e ▸ hb)
def cN (L : Nat) (S : List Nat) (x : Nat) : Nat := (S.filter (fun s => decide (wcat L (x + 1) s ∉ S))).length
def sE (L : Nat) (S : List Nat) (x : Nat) : List Nat := (S.filter (fun s => decide (wcat L (x + 1) s ∈ S))).map (wcat L (x + 1))
def sT (L : Nat) (S : List Nat) : Nat → List Nat
  | 0 => []
  | x + 1 => sT L S x ++ sE L S x
theorem sE_mem {L : Nat} {S : List Nat} {x w : Nat} : w ∈ sE L S x ↔ ∃ s, s ∈ S ∧ w ∈ S ∧ wcat L (x + 1) s = w := by
  unfold sE
  rw [List.mem_map]
  constructor
  · rintro ⟨s, hs, e⟩
    rw [List.mem_filter, decide_eq_true_eq] at hs
    exact ⟨s, hs.1, e ▸ hs.2, e⟩
  · rintro ⟨s, hs, hw, e⟩
    exact ⟨s, List.mem_filter.mpr ⟨hs, by rw [decide_eq_true_eq, e]; exact hw⟩, e⟩
theorem sT_mem {L : Nat} {S : List Nat} {w : Nat} : ∀ x, w ∈ sT L S x ↔ ∃ y, y < x ∧ ∃ s, s ∈ S ∧ w ∈ S ∧ wcat L (y + 1) s = w := by
  intro x
  induction x with
  | zero => exact ⟨fun q => absurd q List.not_mem_nil, fun ⟨y, hy, _⟩ => absurd hy (Nat.not_lt_zero y)⟩
  | succ x ih =>
    show w ∈ sT L S x ++ sE L S x ↔ _
    rw [List.mem_append, ih, sE_mem]
    constructor
    · rintro (⟨y, hy, q⟩ | q)
      · exact ⟨y, by omega, q⟩
      · exact ⟨x, by omega, q⟩
    · rintro ⟨y, hy, q⟩
      by_cases e : y = x
      · subst e; exact Or.inr q
      · exact Or.inl ⟨y, by omega, q⟩
theorem wl_one {L x : Nat} (hx : x < L) (s : Nat) : wl L (wcat L (x + 1) s) = x :: wl L s := by
  rw [wl_cat (by omega), show x + 1 = 0 * L + x + 1 by omega, wl_x hx, wl_0]
  rfl
theorem sT_nodup {L : Nat} {S : List Nat} (hS : S.Nodup) : ∀ x, x ≤ L → (sT L S x).Nodup := by
  intro x
  induction x with
  | zero => intro _; exact List.nodup_nil
  | succ x ih =>
    intro hx
    have hL : 0 < L := by omega
    show (sT L S x ++ sE L S x).Nodup
    rw [List.nodup_append]
    refine ⟨ih (by omega), map_nodup (fun a b e => wcat_inj hL e) (hS.sublist List.filter_sublist), fun a ha b hb e => ?_⟩
    subst e
    obtain ⟨y, hy, s, -, -, e1⟩ := (sT_mem x).mp ha
    obtain ⟨t, -, -, e2⟩ := sE_mem.mp hb
    have h := congrArg (wl L) (e1.trans e2.symm)
    rw [wl_one (by omega), wl_one (by omega)] at h
    injection h with h1 h2
    omega
theorem filt_two {S : List Nat} (f : Nat → Prop) [DecidablePred f] : (S.filter (fun s => decide (¬ f s))).length + (S.filter (fun s => decide (f s))).length = S.length := by
  induction S with
  | nil => rfl
  | cons a t ih =>
    by_cases h : f a
    · rw [List.filter_cons_of_neg (by simpa using h), List.filter_cons_of_pos (by simpa using h), List.length_cons, List.length_cons]; omega
    · rw [List.filter_cons_of_pos (by simpa using h), List.filter_cons_of_neg (by simpa using h), List.length_cons, List.length_cons]; omega
theorem cN_sum {L : Nat} (hL : 0 < L) {S : List Nat} (hs : sfxs L S) : ∀ x, x ≤ L → sN x (cN L S) + (sT L S x).length = x * S.length := by
  intro x
  induction x with
  | zero => intro _; simp [sN, sT]
  | succ x ih =>
    intro hx
    have h1 := ih (by omega)
    have h2 := filt_two (S := S) (fun s => wcat L (x + 1) s ∈ S)
    show sN x (cN L S) + cN L S x + (sT L S x ++ sE L S x).length = _
    have h3 : (sE L S x).length = (S.filter (fun s => decide (wcat L (x + 1) s ∈ S))).length := List.length_map ..
    rw [List.length_append, h3, Nat.succ_mul]
    have h4 : cN L S x = (S.filter (fun s => decide (¬ wcat L (x + 1) s ∈ S))).length := rfl
    omega
theorem sT_all {L : Nat} (hL : 0 < L) {S : List Nat} (hs : sfxs L S) : (sT L S L).length + 1 = S.length := by
  obtain ⟨h0, hpos⟩ := sfxs_0 hs
  have e1 : (S.erase 0).length = S.length - 1 := List.length_erase_of_mem h0
  have a : (sT L S L).length ≤ (S.erase 0).length := List.Nodup.length_le_of_subset (sT_nodup hs.2.1 L (Nat.le_refl _)) (fun w hw => by
    obtain ⟨y, hy, s, -, hw2, e⟩ := (sT_mem L).mp hw
    refine (List.Nodup.mem_erase_iff hs.2.1).mpr ⟨fun z => ?_, hw2⟩
    have h := congrArg (wl L) (e.trans z)
    rw [wl_one hy, wl_0] at h
    exact absurd h (by simp))
  have b : (S.erase 0).length ≤ (sT L S L).length := List.Nodup.length_le_of_subset (hs.2.1.erase 0) (fun w hw => by
    obtain ⟨hne, hw2⟩ := (List.Nodup.mem_erase_iff hs.2.1).mp hw
    obtain ⟨x, hx, e, -⟩ := w_first hL hne
    rw [e] at hw2
    have h3 := sfx_cl hL hs hw2
    rw [← e] at hw2
    exact (sT_mem L).mpr ⟨x, hx, lft L w 1, h3, hw2, e.symm⟩)
  omega
def wdsN (L : Nat) (P S : List Nat) : Nat := if P.length = 0 then 0 else S.length + P.length * (L * S.length - (S.length - 1))
theorem wX_len {L : Nat} (hL : 0 < L) {P S : List Nat} (hp : pfxs L P) (hn : P.Nodup) (hs : sfxs L S) {i : Nat} (hi : i < P.length) : ∀ x, x ≤ L → (wX L S (P.getD i 0) (wI L P S i) x).length = (wI L P S i).length + (if i = 0 then S.length else 0) + sN x (cN L S) := by
  intro x
  induction x with
  | zero =>
    intro _
    show (adW (wI L P S i) (S.map (wcat L (P.getD i 0)))).length = _
    rw [adW_len (map_nodup (fun a b e => wcat_inj hL e) hs.2.1), List.filter_map, List.length_map]
    show _ = _ + _ + 0
    by_cases e : i = 0
    · subst e
      rw [if_pos rfl]
      have : S.filter ((fun w => decide (w ∉ wI L P S 0)) ∘ wcat L (P.getD 0 0)) = S := List.filter_eq_self.mpr (fun a _ => by simp [wI])
      rw [this]
      omega
    · rw [if_neg e]
      have : S.filter ((fun w => decide (w ∉ wI L P S i)) ∘ wcat L (P.getD i 0)) = [] := List.filter_eq_nil_iff.mpr (fun a ha => by
        have : wcat L (P.getD i 0) a ∈ wI L P S i := by
          rw [wI_mem]
          rcases hp i hi with ⟨z, -⟩ | ⟨k, y, hk, hy, e2⟩
          · exact absurd z e
          · exact ⟨k, hk, Or.inr ⟨y, hy, a, ha, by rw [e2]⟩⟩
        show ¬ decide (_ ∉ _) = true
        rw [decide_eq_true_eq]
        exact fun q => q this)
      rw [this]
      rfl
  | succ x ih =>
    intro hx
    have h1 := ih (by omega)
    show (adW (wX L S (P.getD i 0) (wI L P S i) x) (S.map (wcat L (P.getD i 0 * L + x + 1)))).length = _ + (sN x (cN L S) + cN L S x)
    rw [adW_len (map_nodup (fun a b e => wcat_inj hL e) hs.2.1), List.filter_map, List.length_map, h1]
    have : S.filter ((fun w => decide (w ∉ wX L S (P.getD i 0) (wI L P S i) x)) ∘ wcat L (P.getD i 0 * L + x + 1)) = S.filter (fun s => decide (wcat L (x + 1) s ∉ S)) := List.filter_congr (fun s hsS => by
      show decide (_ ∉ _) = decide (_ ∉ _)
      refine decide_eq_decide.mpr (not_congr ⟨fun q => cnt_key hL hp hn hs hi (by omega) q, fun q => ?_⟩)
      rw [wX_mem]
      refine Or.inr (Or.inl ⟨_, q, ?_⟩)
      rw [← wcat_as hL, wcat_one (by omega)])
    rw [this]
    unfold cN
    omega
theorem wI_len {L : Nat} (hL : 0 < L) {P S : List Nat} (hp : pfxs L P) (hn : P.Nodup) (hs : sfxs L S) : (wI L P S P.length).length = wdsN L P S := by
  have h1 := cN_sum hL hs L (Nat.le_refl _)
  have h2 := sT_all hL hs
  have h3 : ∀ i, i ≤ P.length → (wI L P S i).length = if i = 0 then 0 else S.length + i * sN L (cN L S) := by
    intro i
    induction i with
    | zero => intro _; rfl
    | succ i ih =>
      intro hi
      have h4 := ih (by omega)
      show (wX L S (P.getD i 0) (wI L P S i) L).length = _
      rw [wX_len hL hp hn hs (by omega) L (Nat.le_refl _), h4, if_neg (Nat.succ_ne_zero i), Nat.succ_mul]
      by_cases e : i = 0
      · subst e; simp
      · rw [if_neg e, if_neg e]; omega
  rw [h3 _ (Nat.le_refl _)]
  unfold wdsN
  have e : L * S.length - (S.length - 1) = sN L (cN L S) := by omega
  rw [e]
