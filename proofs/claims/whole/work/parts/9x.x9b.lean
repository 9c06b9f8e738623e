section X9B
variable {sh : List xSh} {I : Nat → Nat → Int32} {R : Nat → Nat → Option Nat}
theorem xStudy.gr1 {sh' : List xSh} {R' : Nat → Nat → Option Nat} {q : Nat} (h : xStudy sh R q) (hs : gS sh sh') (hr : ∀ a, q ≤ a → a < q + 11 → R' a = R a) : xStudy sh' R' q := by
  obtain ⟨a, b, c, d, e, f, g, i, j, k⟩ := h
  have l := hr q (by omega) (by omega)
  exact ⟨hs _ _ a, hs _ _ b, hs _ _ c, by rw [l]; exact d, by rw [l]; exact e, by rw [l]; exact f, by rw [l]; exact g, by rw [l]; exact i, j.gr1 hs (hr _ (by omega) (by omega)), k.gr1 hs (hr _ (by omega) (by omega))⟩
theorem xShelf.gr1 {sh' : List xSh} {R' : Nat → Nat → Option Nat} {q : Nat} (h : xShelf sh R q) (hs : gS sh sh') (l : R' q = R q) : xShelf sh' R' q := by
  obtain ⟨a, b, c, d, e, f⟩ := h
  exact ⟨hs _ _ a, hs _ _ b, hs _ _ c, by rw [l]; exact d, by rw [l]; exact e, by rw [l]; exact f⟩
theorem x9_u {tb j v n : Nat} {sh' : List xSh} {I' : Nat → Nat → Int32} {R' R2 : Nat → Nat → Option Nat} (ht : tb = 20 ∨ tb = 22) (g : gS sh sh') (l : sh'.length = sh.length + n) (u : ∀ a, a < sh.length → I' a = I a ∧ R2 a = R a) (e : R' = xr R2 tb j (some v)) : uU sh I R sh' I' R' := ⟨g, by omega, fun a ha h0 h20 h22 => ⟨(u a ha).1, by rw [e]; funext i; rw [xr_p (by omega), (u a ha).2]⟩⟩
/-- what the class's constructor leaves -/
def S9 (sh : List xSh) (I : Nat → Nat → Int32) (R : Nat → Nat → Option Nat) : Prop :=
  ((∀ k r, (k, r) ∈ ([(0, 1), (1, 2), (2, 9), (3, 20), (4, 21), (5, 22), (6, 23), (7, 86), (8, 169), (9, 173), (10, 177)] : List (Nat × Nat)) → R 0 k = some r) ∧ (∀ j, I 0 j = 0)) ∧
  (sh[0]? = some (.inl 9) ∧ sh[1]? = some (.inl 5) ∧ sh[2]? = some (.inl 4) ∧ sh[20]? = some (.inr (4, 2)) ∧ sh[21]? = some (.inr (1, 2)) ∧ sh[22]? = some (.inr (5, 3)) ∧ sh[23]? = some (.inl 0) ∧ sh[86]? = some (.inl 1) ∧ sh[177]? = some (.inr (0, 4))) ∧
  (I 1 0 = nI 7 ∧ I 1 1 = nI 2) ∧ P4 2 sh I R ∧ P8 9 sh I R ∧ (∀ j, I 21 j = 0) ∧ P0 23 sh I R ∧ P1 86 sh I R ∧ (xMach sh R 169 8 ∧ I 169 1 = nI 8) ∧ (xMach sh R 173 4 ∧ I 173 1 = nI 4) ∧ (R 20 0 = some 178 ∧ R 20 1 = some 189) ∧ (P8 178 sh I R ∧ P8 189 sh I R) ∧ (R 22 0 = some 200 ∧ R 22 1 = some 203 ∧ R 22 2 = some 206) ∧ P6 200 sh I R ∧ P6 203 sh I R ∧ P6 206 sh I R
theorem P4.u {sh' : List xSh} {I' : Nat → Nat → Int32} {R' : Nat → Nat → Option Nat} (h : P4 2 sh I R) (hs : gS sh sh') (e : ∀ a, 2 ≤ a → a < 9 → I' a = I a ∧ R' a = R a) : P4 2 sh' I' R' := by
  obtain ⟨a, b, c, d, f, g, i, j⟩ := h
  have r2 := (e 2 (by omega) (by omega)).2
  exact ⟨hs _ _ a, hs _ _ b, c.gr1 hs (e 5 (by omega) (by omega)).2, by rw [r2]; exact d, by rw [r2]; exact f, by rw [r2]; exact g, by rw [(e 2 (by omega) (by omega)).1]; exact i, by rw [(e (2 + 3) (by omega) (by omega)).1]; exact j⟩
theorem P8.u {q : Nat} {sh' : List xSh} {I' : Nat → Nat → Int32} {R' : Nat → Nat → Option Nat} (h : P8 q sh I R) (hs : gS sh sh') (e : ∀ a, q ≤ a → a < q + 11 → I' a = I a ∧ R' a = R a) : P8 q sh' I' R' := by
  obtain ⟨a, b, c, d, f, g, i, j, k, m, n⟩ := h
  have r := (e q (by omega) (by omega)).1
  exact ⟨a.gr1 hs (fun x h1 h2 => (e x h1 h2).2), by rw [r]; exact b, by rw [r]; exact c, by rw [r]; exact d, by rw [r]; exact f, by rw [(e (q + 2) (by omega) (by omega)).1]; exact g, by rw [(e (q + 3) (by omega) (by omega)).1]; exact i, by rw [(e (q + 3) (by omega) (by omega)).1]; exact j, fun x hx y => by rw [(e x (by omega) (by omega)).1]; exact k x hx y, by rw [(e (q + 7) (by omega) (by omega)).1]; exact m, by rw [(e (q + 7) (by omega) (by omega)).1]; exact n⟩
theorem P0.u {q : Nat} {sh' : List xSh} {I' : Nat → Nat → Int32} {R' : Nat → Nat → Option Nat} (h : P0 q sh I R) (hs : gS sh sh') (e : ∀ a, q ≤ a → a < q + 63 → I' a = I a ∧ R' a = R a) : P0 q sh' I' R' := by
  obtain ⟨⟨a0, a1, a2, a3, a4, a5, a6, a7, a8⟩, ⟨b1, b2, b3, b4, b5⟩, c1, c2, c3, c4⟩ := h
  have r := (e q (by omega) (by omega)).2
  exact ⟨⟨by rw [r]; exact a0, by rw [r]; exact a1, by rw [r]; exact a2, by rw [r]; exact a3, by rw [r]; exact a4, by rw [r]; exact a5, by rw [r]; exact a6, by rw [r]; exact a7, by rw [r]; exact a8⟩, ⟨hs _ _ b1, hs _ _ b2, hs _ _ b3, hs _ _ b4, hs _ _ b5⟩, c1.gr1 hs (e _ (by omega) (by omega)).2, c2.gr1 hs (fun x h1 h2 => (e x (by omega) (by omega)).2), c3.gr1 hs (fun x h1 h2 => (e x (by omega) (by omega)).2), c4.gr1 hs (e _ (by omega) (by omega)).2⟩
theorem P1.u {q : Nat} {sh' : List xSh} {I' : Nat → Nat → Int32} {R' : Nat → Nat → Option Nat} (h : P1 q sh I R) (hs : gS sh sh') (e : ∀ a, q ≤ a → a < q + 83 → I' a = I a ∧ R' a = R a) : P1 q sh' I' R' := by
  obtain ⟨a, b, c, d, f⟩ := h
  have r := (e q (by omega) (by omega)).2
  exact ⟨by rw [r]; exact a, by rw [r]; exact b, by rw [r]; exact c, d.gr1 hs (e _ (by omega) (by omega)).2, f.gr1 hs (e _ (by omega) (by omega)).2⟩
theorem P6.u {q : Nat} {sh' : List xSh} {I' : Nat → Nat → Int32} {R' : Nat → Nat → Option Nat} (h : P6 q sh I R) (hs : gS sh sh') (e : ∀ a, q ≤ a → a < q + 3 → I' a = I a ∧ R' a = R a) : P6 q sh' I' R' := by
  obtain ⟨a, b, c⟩ := h
  exact ⟨a.gr1 hs (e q (by omega) (by omega)).2, by rw [(e q (by omega) (by omega)).1]; exact b, by rw [(e (q + 1) (by omega) (by omega)).2]; exact c⟩
end X9B
