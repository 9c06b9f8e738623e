/-! THE TEXT, as both read it -/
abbrev Pz (α : Type) : Type := (Nat × Nat) ⊕ α
def bnd {α β : Type} (x : Pz α) (g : α → Pz β) : Pz β := match x with
  | .inl e => .inl e
  | .inr a => g a
theorem bnd_l {α β : Type} {e : Nat × Nat} {g : α → Pz β} : bnd (.inl e) g = .inl e := rfl
theorem bnd_r {α β : Type} {a : α} {g : α → Pz β} : bnd (.inr a) g = g a := rfl
theorem bnd_as {α β γ : Type} (x : Pz α) (g : α → Pz β) (h : β → Pz γ) : bnd (bnd x g) h = bnd x (fun a => bnd (g a) h) := by cases x <;> rfl
def lowC (c : Nat) : Bool := decide (97 ≤ c ∧ c ≤ 122)
def digC (c : Nat) : Bool := decide (48 ≤ c ∧ c ≤ 57)
def spcC (c : Nat) : Bool := decide (c = 32)
def runE (T : List Nat) (f : Nat → Bool) (i : Nat) : Nat := i + ((T.drop i).takeWhile f).length
theorem runE_y {T : List Nat} {f : Nat → Bool} {i : Nat} (hi : i < T.length) (h : f (T.getD i 0) = true) : runE T f i = runE T f (i + 1) := by
  unfold runE
  rw [gd_el hi] at h
  rw [List.drop_eq_getElem_cons hi, List.takeWhile_cons, if_pos h, List.length_cons]
  omega
theorem runE_n {T : List Nat} {f : Nat → Bool} {i : Nat} (h : i < T.length → f (T.getD i 0) = false) : runE T f i = i := by
  unfold runE
  by_cases hi : i < T.length
  · have h2 := h hi
    rw [gd_el hi] at h2
    rw [List.drop_eq_getElem_cons hi, List.takeWhile_cons, if_neg (by rw [h2]; decide)]
    rfl
  · rw [List.drop_eq_nil_of_le (by omega)]
    rfl
theorem runE_ge {T : List Nat} {f : Nat → Bool} {i : Nat} : i ≤ runE T f i := Nat.le_add_right _ _
theorem runE_le {T : List Nat} {f : Nat → Bool} : ∀ (n i : Nat), i + n = T.length → runE T f i ≤ T.length := by
  intro n
  induction n with
  | zero =>
    intro i hi
    rw [runE_n (fun q => by omega)]; omega
  | succ n ih =>
    intro i hi
    by_cases h : f (T.getD i 0) = true
    · rw [runE_y (by omega) h]; exact ih (i + 1) (by omega)
    · rw [runE_n (fun _ => by simpa using h)]; omega
theorem runE_bd {T : List Nat} {f : Nat → Bool} {i : Nat} (hi : i ≤ T.length) : runE T f i ≤ T.length := runE_le (T.length - i) i (by omega)
/-- a token: its kind (0 none more, 1 a name, 2 a number, 3 the sign, 4 no token), from where, to where -/
def tk (T : List Nat) (i : Nat) : Nat × Nat × Nat :=
  if T.length ≤ runE T spcC i then (0, runE T spcC i, runE T spcC i)
  else if lowC (T.getD (runE T spcC i) 0) = true then (1, runE T spcC i, runE T lowC (runE T spcC i))
  else if digC (T.getD (runE T spcC i) 0) = true then (if runE T digC (runE T spcC i) - runE T spcC i ≤ 2 then 2 else 4, runE T spcC i, runE T digC (runE T spcC i))
  else if T.getD (runE T spcC i) 0 = 59 then (3, runE T spcC i, runE T spcC i + 1) else (4, runE T spcC i, runE T spcC i + 1)
def tvl (T : List Nat) (a b : Nat) : Nat := if b = a + 1 then T.getD a 0 - 48 else 10 * (T.getD a 0 - 48) + (T.getD (a + 1) 0 - 48)
def nx (T : List Nat) (i : Nat) : Pz (Nat × Nat × Nat) := if (tk T i).1 = 4 then .inl (1, (tk T i).2.1) else .inr (tk T i)
/-- what holds of a token -/
def tkOK (T : List Nat) (k a b : Nat) : Prop := k ≤ 3 ∧ a ≤ b ∧ b ≤ T.length ∧ (k = 0 → a = T.length) ∧ (k ≠ 0 → a < b) ∧ (k = 1 → lowC (T.getD a 0) = true) ∧ (k = 2 → (b = a + 1 ∨ b = a + 2) ∧ digC (T.getD a 0) = true ∧ (b = a + 2 → digC (T.getD (a + 1) 0) = true))
theorem runE_1 {T : List Nat} {f : Nat → Bool} {a : Nat} (ha : a < T.length) (h : f (T.getD a 0) = true) : a < runE T f a := by
  rw [runE_y ha h]; have := runE_ge (T := T) (f := f) (i := a + 1); omega
theorem runE_2 {T : List Nat} {f : Nat → Bool} {a : Nat} (ha : a < T.length) (h : f (T.getD a 0) = true) (h2 : runE T f a = a + 2) : f (T.getD (a + 1) 0) = true := by
  rw [runE_y ha h] at h2
  by_cases q : f (T.getD (a + 1) 0) = true
  · exact q
  · rw [runE_n (fun _ => by simpa using q)] at h2; omega
theorem tk_ok {T : List Nat} {i : Nat} (hi : i ≤ T.length) (h4 : (tk T i).1 ≠ 4) : tkOK T (tk T i).1 (tk T i).2.1 (tk T i).2.2 := by
  have hb := runE_bd (f := spcC) hi
  revert h4
  unfold tk
  split
  · intro _
    show tkOK T 0 (runE T spcC i) (runE T spcC i)
    refine ⟨by decide, Nat.le_refl _, hb, fun _ => by omega, fun q => absurd rfl q, fun q => absurd q (by decide), fun q => absurd q (by decide)⟩
  · rename_i h1
    have ha : runE T spcC i < T.length := by omega
    split
    · rename_i h2
      intro _
      show tkOK T 1 (runE T spcC i) (runE T lowC (runE T spcC i))
      exact ⟨by decide, runE_ge, runE_bd hb, fun q => absurd q (by decide), fun _ => runE_1 ha h2, fun _ => h2, fun q => absurd q (by decide)⟩
    · split
      · rename_i h2
        split
        · rename_i h3
          intro _
          have h5 := runE_1 ha h2
          show tkOK T 2 (runE T spcC i) (runE T digC (runE T spcC i))
          exact ⟨by decide, runE_ge, runE_bd hb, fun q => absurd q (by decide), fun _ => h5, fun q => absurd q (by decide), fun _ => ⟨by omega, h2, fun q => runE_2 ha h2 q⟩⟩
        · intro q; exact absurd rfl q
      · split
        · intro _
          show tkOK T 3 (runE T spcC i) (runE T spcC i + 1)
          exact ⟨by decide, by omega, by omega, fun q => absurd q (by decide), fun _ => by omega, fun q => absurd q (by decide), fun q => absurd q (by decide)⟩
        · intro q; exact absurd rfl q
theorem nx_ok {T : List Nat} {i k a b : Nat} (hi : i ≤ T.length) (h : nx T i = .inr (k, a, b)) : tkOK T k a b ∧ i ≤ a := by
  unfold nx at h
  split at h
  · exact absurd h (by simp)
  · rename_i h4
    have h5 := tk_ok hi h4
    have e := Sum.inr.inj h
    rw [e] at h5
    refine ⟨h5, ?_⟩
    have : (tk T i).2.1 = runE T spcC i := by unfold tk; (repeat' split) <;> rfl
    rw [e] at this
    have h6 : a = runE T spcC i := this
    rw [h6]; exact runE_ge
theorem tvl_lt {T : List Nat} {a b : Nat} (h : tkOK T 2 a b) : tvl T a b ≤ 99 := by
  obtain ⟨-, -, -, -, -, -, h⟩ := h
  obtain ⟨h1, h2, h3⟩ := h rfl
  unfold digC at h2 h3
  rw [decide_eq_true_eq] at h2
  unfold tvl
  split
  · omega
  · have := h3 (by omega)
    rw [decide_eq_true_eq] at this
    omega
/-- a number of bounds -/
def numP (T : List Nat) (x : Pz (Nat × Nat × Nat)) (lo hi : Nat) : Pz (Nat × Nat) := bnd x (fun t => if t.1 = 2 then (if lo ≤ tvl T t.2.1 t.2.2 ∧ tvl T t.2.1 t.2.2 ≤ hi then .inr (tvl T t.2.1 t.2.2, t.2.2) else .inl (3, t.2.1)) else .inl (2, t.2.1))
def priP (T : List Nat) (x : Pz (Nat × Nat × Nat)) : Pz (Nat × Nat) := bnd x (fun t => if t.1 = 2 then (if tvl T t.2.1 t.2.2 ∈ PR then .inr (tvl T t.2.1 t.2.2, t.2.2) else .inl (3, t.2.1)) else .inl (2, t.2.1))
def letP (T : List Nat) (x : Pz (Nat × Nat × Nat)) : Pz (Nat × Nat) := bnd x (fun t => if t.1 = 1 ∧ t.2.2 = t.2.1 + 1 ∧ T.getD t.2.1 0 ≤ 99 then .inr (T.getD t.2.1 0 - 97, t.2.2) else .inl (2, t.2.1))
def sgnP (x : Pz (Nat × Nat × Nat)) : Pz Nat := bnd x (fun t => if t.1 = 3 then .inr t.2.2 else .inl (2, t.2.1))
/-- the draft: what has been told, prime, letters, states, greatest state and letter (one more), starts, ends, weights -/
abbrev Dr : Type := (Nat → Bool) × Nat × Nat × Nat × Nat × Nat × (Nat → Nat) × (Nat → Nat) × (Nat → Nat → Nat → Nat)
def nmS : List (List Nat) := [[112, 114, 105, 109, 101], [108, 101, 116, 116, 101, 114, 115], [115, 116, 97, 116, 101, 115], [115, 116, 97, 114, 116], [101, 110, 100], [101, 100, 103, 101]]
def isN (T : List Nat) (a b w : Nat) : Prop := b - a = (nmS.getD w []).length ∧ ∀ i, i < (nmS.getD w []).length → T.getD (a + i) 0 = (nmS.getD w []).getD i 0
noncomputable def nmF (T : List Nat) (a b : Nat) : Nat → Nat → Option Nat
  | 0, _ => none
  | n + 1, w => @ite _ (isN T a b w) (Classical.propDecidable _) (some w) (nmF T a b n (w + 1))
noncomputable def nmW (T : List Nat) (a b : Nat) : Option Nat := nmF T a b 6 0
theorem nmF_lt {T : List Nat} {a b : Nat} : ∀ n w v, nmF T a b n w = some v → w ≤ v ∧ v < w + n := by
  intro n
  induction n with
  | zero => intro w v h; exact absurd h (by simp [nmF])
  | succ n ih =>
    intro w v h
    unfold nmF at h
    split at h
    · cases h; omega
    · have := ih (w + 1) v h; omega
theorem nmW_lt {T : List Nat} {a b w : Nat} (h : nmW T a b = some w) : w < 6 := by have := nmF_lt 6 0 w h; omega
def Dr.tell (D : Dr) (w : Nat) : Dr := (fun i => if i = w then true else D.1 i, D.2)
def markD (D : Dr) (w s v : Nat) : Dr := (D.1, D.2.1, D.2.2.1, D.2.2.2.1, max D.2.2.2.2.1 (s + 1), D.2.2.2.2.2.1, if w = 3 then (fun i => if i = s then v else D.2.2.2.2.2.2.1 i) else D.2.2.2.2.2.2.1, if w = 3 then D.2.2.2.2.2.2.2.1 else (fun i => if i = s then v else D.2.2.2.2.2.2.2.1 i), D.2.2.2.2.2.2.2.2)
def edgeD (D : Dr) (s x t v : Nat) : Dr := (D.1, D.2.1, D.2.2.1, D.2.2.2.1, max (max D.2.2.2.2.1 (s + 1)) (t + 1), max D.2.2.2.2.2.1 (x + 1), D.2.2.2.2.2.2.1, D.2.2.2.2.2.2.2.1, fun a y b => if a = s ∧ y = x ∧ b = t then v else D.2.2.2.2.2.2.2.2 a y b)
/-- the rest of a line behind its name -/
noncomputable def bodyP (T : List Nat) (D : Dr) (w i : Nat) : Pz (Dr × Nat) :=
  if w = 0 then bnd (priP T (nx T i)) (fun r => .inr ((D.1, r.1, D.2.2), r.2))
  else if w = 1 then bnd (numP T (nx T i) 1 3) (fun r => .inr ((D.1, D.2.1, r.1, D.2.2.2), r.2))
  else if w = 2 then bnd (numP T (nx T i) 0 4) (fun r => .inr ((D.1, D.2.1, D.2.2.1, r.1, D.2.2.2.2), r.2))
  else if w = 5 then bnd (numP T (nx T i) 0 3) (fun s => bnd (letP T (nx T s.2)) (fun x => bnd (numP T (nx T x.2) 0 3) (fun t => bnd (numP T (nx T t.2) 0 99) (fun v => .inr (edgeD D s.1 x.1 t.1 v.1, v.2)))))
  else bnd (numP T (nx T i) 0 3) (fun s => bnd (numP T (nx T s.2) 0 99) (fun v => .inr (markD D w s.1 v.1, v.2)))
/-- a line, its first token read: the draft, and where the next begins -/
noncomputable def lineP (T : List Nat) (D : Dr) (t : Nat × Nat × Nat) : Pz (Dr × Nat) :=
  if t.1 = 1 then (match nmW T t.2.1 t.2.2 with
    | none => .inl (2, t.2.1)
    | some w => if w ≤ 2 ∧ D.1 w = true then .inl (4, t.2.1) else bnd (bodyP T (if w ≤ 2 then D.tell w else D) w t.2.2) (fun r => bnd (sgnP (nx T r.2)) (fun i => .inr (r.1, i))))
  else .inl (2, t.2.1)
/-- all lines from a place on -/
noncomputable def linesP (T : List Nat) : Nat → Dr → Nat → Nat → Pz (Dr × Nat)
  | 0, D, _, n => .inr (D, n)
  | m + 1, D, i, n => bnd (nx T i) (fun t => if t.1 = 0 then .inr (D, n) else bnd (lineP T D t) (fun r => linesP T m r.1 r.2 (n + 1)))
def dr0 : Dr := (fun _ => false, 7, 2, 0, 0, 0, fun _ => 0, fun _ => 0, fun _ _ _ => 0)
noncomputable def textP (T : List Nat) : Pz (Dr × Nat) := bnd (linesP T (T.length + 1) dr0 0 0) (fun r => if r.1.2.2.2.2.1 ≤ r.1.2.2.2.1 ∧ r.1.2.2.2.2.2.1 ≤ r.1.2.2.1 then .inr r else .inl (5, T.length))
/-! each step goes on -/
theorem numP_le {T : List Nat} {i lo hi v b : Nat} (hi2 : i ≤ T.length) (h : numP T (nx T i) lo hi = .inr (v, b)) : i ≤ b ∧ b ≤ T.length ∧ lo ≤ v ∧ v ≤ hi := by
  unfold numP at h
  cases hx : nx T i with
  | inl e => rw [hx] at h; exact absurd h (by simp [bnd])
  | inr t =>
    obtain ⟨k, a, c⟩ := t
    rw [hx, bnd_r] at h
    obtain ⟨ok, hia⟩ := nx_ok hi2 hx
    split at h
    · split at h
      · rename_i h2
        have e := Sum.inr.inj h
        cases e
        exact ⟨by have := ok.2.1; show i ≤ c; omega, ok.2.2.1, h2⟩
      · exact absurd h (by simp)
    · exact absurd h (by simp)
theorem priP_le {T : List Nat} {i v b : Nat} (hi2 : i ≤ T.length) (h : priP T (nx T i) = .inr (v, b)) : i ≤ b ∧ b ≤ T.length ∧ v ∈ PR := by
  unfold priP at h
  cases hx : nx T i with
  | inl e => rw [hx] at h; exact absurd h (by simp [bnd])
  | inr t =>
    obtain ⟨k, a, c⟩ := t
    rw [hx, bnd_r] at h
    obtain ⟨ok, hia⟩ := nx_ok hi2 hx
    split at h
    · split at h
      · rename_i h2
        have e := Sum.inr.inj h
        cases e
        exact ⟨by have := ok.2.1; show i ≤ c; omega, ok.2.2.1, h2⟩
      · exact absurd h (by simp)
    · exact absurd h (by simp)
theorem letP_le {T : List Nat} {i v b : Nat} (hi2 : i ≤ T.length) (h : letP T (nx T i) = .inr (v, b)) : i ≤ b ∧ b ≤ T.length ∧ v ≤ 2 := by
  unfold letP at h
  cases hx : nx T i with
  | inl e => rw [hx] at h; exact absurd h (by simp [bnd])
  | inr t =>
    obtain ⟨k, a, c⟩ := t
    rw [hx, bnd_r] at h
    obtain ⟨ok, hia⟩ := nx_ok hi2 hx
    split at h
    · rename_i h2
      have e := Sum.inr.inj h
      cases e
      have h9 : T.getD a 0 ≤ 99 := h2.2.2
      have h10 : T.getD a 0 - 97 ≤ 2 := by omega
      exact ⟨by have := ok.2.1; show i ≤ c; omega, ok.2.2.1, h10⟩
    · exact absurd h (by simp)
theorem sgnP_le {T : List Nat} {i b : Nat} (hi2 : i ≤ T.length) (h : sgnP (nx T i) = .inr b) : i < b ∧ b ≤ T.length := by
  unfold sgnP at h
  cases hx : nx T i with
  | inl e => rw [hx] at h; exact absurd h (by simp [bnd])
  | inr t =>
    obtain ⟨k, a, c⟩ := t
    rw [hx, bnd_r] at h
    obtain ⟨ok, hia⟩ := nx_ok hi2 hx
    split at h
    · rename_i h2
      have e := Sum.inr.inj h
      cases e
      have h3 : k = 3 := h2
      exact ⟨by have := ok.2.2.2.2.1 (by omega); show i < c; omega, ok.2.2.1⟩
    · exact absurd h (by simp)
theorem bnd_inr {α β : Type} {x : Pz α} {g : α → Pz β} {r : β} (h : bnd x g = .inr r) : ∃ a, x = .inr a ∧ g a = .inr r := by
  cases x with
  | inl e => exact absurd h (by simp [bnd])
  | inr a => exact ⟨a, rfl, h⟩
def drOK (D : Dr) : Prop := D.2.1 ∈ PR ∧ (1 ≤ D.2.2.1 ∧ D.2.2.1 ≤ 3) ∧ D.2.2.2.1 ≤ 4 ∧ D.2.2.2.2.1 ≤ 4 ∧ D.2.2.2.2.2.1 ≤ 3 ∧ (∀ s, D.2.2.2.2.2.2.1 s ≤ 99) ∧ (∀ s, D.2.2.2.2.2.2.2.1 s ≤ 99) ∧ ∀ s x t, D.2.2.2.2.2.2.2.2 s x t ≤ 99
theorem dr0_ok : drOK dr0 := ⟨by decide, by decide, by decide, by decide, by decide, fun _ => Nat.zero_le _, fun _ => Nat.zero_le _, fun _ _ _ => Nat.zero_le _⟩
theorem tell_ok {D : Dr} {w : Nat} (h : drOK D) : drOK (D.tell w) := h
theorem markD_ok {D : Dr} {w s v : Nat} (h : drOK D) (hs : s ≤ 3) (hv : v ≤ 99) : drOK (markD D w s v) := by
  obtain ⟨h1, h2, h3, h4, h5, h6, h7, h8⟩ := h
  refine ⟨h1, h2, h3, by show max _ _ ≤ 4; omega, h5, fun i => ?_, fun i => ?_, h8⟩
  · show (if w = 3 then _ else _ : Nat → Nat) i ≤ 99
    split
    · show (if i = s then v else _) ≤ 99
      split
      · exact hv
      · exact h6 i
    · exact h6 i
  · show (if w = 3 then _ else _ : Nat → Nat) i ≤ 99
    split
    · exact h7 i
    · show (if i = s then v else _) ≤ 99
      split
      · exact hv
      · exact h7 i
theorem edgeD_ok {D : Dr} {s x t v : Nat} (h : drOK D) (hs : s ≤ 3) (hx : x ≤ 2) (ht : t ≤ 3) (hv : v ≤ 99) : drOK (edgeD D s x t v) := by
  obtain ⟨h1, h2, h3, h4, h5, h6, h7, h8⟩ := h
  refine ⟨h1, h2, h3, by show max (max _ _) _ ≤ 4; omega, by show max _ _ ≤ 3; omega, h6, h7, fun a y b => ?_⟩
  show (if a = s ∧ y = x ∧ b = t then v else _) ≤ 99
  split
  · exact hv
  · exact h8 a y b
theorem bodyP_ok {T : List Nat} {D D' : Dr} {w i b : Nat} (hi : i ≤ T.length) (hD : drOK D) (h : bodyP T D w i = .inr (D', b)) : drOK D' ∧ i ≤ b ∧ b ≤ T.length := by
  unfold bodyP at h
  split at h
  · obtain ⟨⟨v, c⟩, h1, h2⟩ := bnd_inr h
    cases h2
    have := priP_le hi h1
    exact ⟨⟨this.2.2, hD.2⟩, this.1, this.2.1⟩
  split at h
  · obtain ⟨⟨v, c⟩, h1, h2⟩ := bnd_inr h
    cases h2
    have := numP_le hi h1
    exact ⟨⟨hD.1, this.2.2, hD.2.2⟩, this.1, this.2.1⟩
  split at h
  · obtain ⟨⟨v, c⟩, h1, h2⟩ := bnd_inr h
    cases h2
    have := numP_le hi h1
    exact ⟨⟨hD.1, hD.2.1, this.2.2.2, hD.2.2.2⟩, this.1, this.2.1⟩
  split at h
  · obtain ⟨⟨s, c1⟩, h1, h2⟩ := bnd_inr h
    obtain ⟨⟨x, c2⟩, h3, h4⟩ := bnd_inr h2
    obtain ⟨⟨t, c3⟩, h5, h6⟩ := bnd_inr h4
    obtain ⟨⟨v, c4⟩, h7, h8⟩ := bnd_inr h6
    cases h8
    have a1 := numP_le hi h1
    have a2 := letP_le (i := c1) a1.2.1 h3
    have a3 := numP_le (i := c2) a2.2.1 h5
    have a4 := numP_le (i := c3) a3.2.1 h7
    exact ⟨edgeD_ok hD a1.2.2.2 a2.2.2 a3.2.2.2 a4.2.2.2, by show i ≤ c4; omega, a4.2.1⟩
  · obtain ⟨⟨s, c1⟩, h1, h2⟩ := bnd_inr h
    obtain ⟨⟨v, c4⟩, h7, h8⟩ := bnd_inr h2
    cases h8
    have a1 := numP_le hi h1
    have a4 := numP_le (i := c1) a1.2.1 h7
    exact ⟨markD_ok hD a1.2.2.2 a4.2.2.2, by show i ≤ c4; omega, a4.2.1⟩
theorem lineP_ok {T : List Nat} {D D' : Dr} {k a b i : Nat} (hb : b ≤ T.length) (hD : drOK D) (h : lineP T D (k, a, b) = .inr (D', i)) : drOK D' ∧ b < i ∧ i ≤ T.length := by
  unfold lineP at h
  split at h
  · split at h
    · exact absurd h (by simp)
    · split at h
      · exact absurd h (by simp)
      · obtain ⟨⟨D2, c⟩, h1, h2⟩ := bnd_inr h
        obtain ⟨i2, h3, h4⟩ := bnd_inr h2
        cases h4
        have hD2 : ∀ w, drOK (if w ≤ 2 then D.tell w else D) := fun w => by split; exact tell_ok hD; exact hD
        have a1 := bodyP_ok hb (hD2 _) h1
        have a2 := sgnP_le (i := c) a1.2.2 h3
        exact ⟨a1.1, by have := a1.2.1; omega, a2.2⟩
  · exact absurd h (by simp)
theorem linesP_ok {T : List Nat} : ∀ (m : Nat) {D D' : Dr} {i n n' : Nat}, i ≤ T.length → drOK D → linesP T m D i n = .inr (D', n') → drOK D' ∧ n ≤ n' ∧ n' ≤ n + (T.length - i) := by
  intro m
  induction m with
  | zero => intro D D' i n n' hi hD h; cases h; exact ⟨hD, by omega, by omega⟩
  | succ m ih =>
    intro D D' i n n' hi hD h
    unfold linesP at h
    obtain ⟨⟨k, a, b⟩, h1, h2⟩ := bnd_inr h
    have ok := nx_ok hi h1
    split at h2
    · cases h2; exact ⟨hD, by omega, by omega⟩
    · obtain ⟨⟨D2, i2⟩, h3, h4⟩ := bnd_inr h2
      have a1 := lineP_ok ok.1.2.2.1 hD h3
      have a2 := ih a1.2.2 a1.1 h4
      have := ok.1.2.1
      exact ⟨a2.1, by omega, by omega⟩
theorem textP_ok {T : List Nat} {D : Dr} {n : Nat} (h : textP T = .inr (D, n)) : drOK D ∧ n ≤ T.length ∧ D.2.2.2.2.1 ≤ D.2.2.2.1 ∧ D.2.2.2.2.2.1 ≤ D.2.2.1 := by
  unfold textP at h
  obtain ⟨⟨D2, n2⟩, h1, h2⟩ := bnd_inr h
  split at h2
  · rename_i h3
    cases h2
    have := linesP_ok _ (Nat.zero_le _) dr0_ok h1
    exact ⟨this.1, by omega, h3⟩
  · exact absurd h2 (by simp)
