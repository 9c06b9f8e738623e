section CLAY
variable {sh : List xSh} {I : Nat → Nat → Int32} {R : Nat → Nat → Option Nat}
theorem k_fLay {σ : St} {c : Nat} {i : Int32} {sort : Nat} {Q : Int32 → xHp → Prop} (hW : clR sh I R σ) (hc : c < 3) (hso : sort ≤ 1) (k : Q (nI (layF (σ.shf c) i sort)) (sh, I, R)) : CI mX6_faultOfLaying [.ref (200 + 3 * c), .int i, .int (nI sort)] (sh, I, R) Q := by
  have hs := hW.shf c hc
  have hq := hW.shelf hc
  cases hsh : σ.shf c with
  | none =>
    rw [hsh] at hs k
    exact eX6_faultOfLaying (bX6_faultOfLaying_0 hW.lay hq ⟨fun z => absurd (show I (200 + 3 * c) 4 = -1 from hs) z, fun _ => k⟩)
  | some s =>
    rw [hsh] at hs k
    obtain ⟨s4, s3, sc⟩ := hs
    have hok := hW.ok.shf c s hsh
    have h2 := hok.1
    have h8 := hok.2.1
    have cf : cellF (some s) (nI 2) i = if nI 2 ≠ nI 2 ∧ nI 2 ≠ nI s.lane then 2 else if inB i s.size then 0 else 3 := rfl
    rw [if_neg (fun z => z.1 rfl)] at cf
    have c3 : ¬ inB i s.size → cellF (some s) (nI 2) i = 3 := fun y => by rw [cf, if_neg y]
    have c0 : inB i s.size → cellF (some s) (nI 2) i = 0 := fun y => by rw [cf, if_pos y]
    unfold layF at k
    refine eX6_faultOfLaying (bX6_faultOfLaying_0 hW.lay hq ⟨fun _ => ?_, fun z => absurd (s4.symm.trans z) (nI_m1 (by omega))⟩)
    refine k_hasCell hW.lay hq s4 (by omega) (fun b hb hblt => bX6_faultOfLaying_15 hW.lay hq ⟨fun _ => ?_, fun z => absurd z (by decide)⟩) (fun hn => bX6_faultOfLaying_15 hW.lay hq ⟨fun z => absurd rfl z, fun _ => ?_⟩)
    · rw [if_pos (c0 (by rw [hb]; exact (inB_n (by omega)).mpr hblt))] at k
      rw [s3]
      have el : laneOf (some s) = s.lane := rfl
      rw [el] at k
      refine ⟨fun y => ?_, fun y => ⟨fun w => ?_, fun w => ?_⟩⟩
      · rw [if_neg (fun q => q.1 ((nI_eq (by omega) (by omega)).mp y))] at k; exact k
      · rw [if_neg (fun q => q.2 ((nI_eq (by omega) (by omega)).mp w))] at k; exact k
      · rw [if_pos ⟨fun q => y (by rw [q]), fun q => w (by rw [q])⟩] at k; exact k
    · rw [if_neg (by rw [c3 hn]; decide), c3 hn] at k; exact k
/-! cells of a shelf changed -/
def cR (R R' : Nat → Nat → Option Nat) : Prop := ∀ a, a ≠ 201 → a ≠ 204 → a ≠ 207 → R' a = R a
theorem xMach.cr {R' : Nat → Nat → Option Nat} {q M : Nat} (h : xMach sh R q M) (hr : cR R R') (hq : q ≠ 201 ∧ q ≠ 204 ∧ q ≠ 207) : xMach sh R' q M := by
  have l := hr q hq.1 hq.2.1 hq.2.2
  obtain ⟨a, b, c, d, e, f, g, i⟩ := h
  exact ⟨a, b, c, d, by rw [l]; exact e, by rw [l]; exact f, by rw [l]; exact g, by rw [l]; exact i⟩
theorem xRows.cr {R' : Nat → Nat → Option Nat} {q N K : Nat} (h : xRows sh R q N K) (hr : cR R R') (hq : q ≠ 201 ∧ q ≠ 204 ∧ q ≠ 207) : xRows sh R' q N K := by
  refine ⟨h.1, fun j hj => ?_⟩
  rw [hr q hq.1 hq.2.1 hq.2.2]; exact h.2 j hj
theorem xStudy.cr {R' : Nat → Nat → Option Nat} {q : Nat} (h : xStudy sh R q) (hr : cR R R') (hq : q + 10 < 200) : xStudy sh R' q := by
  obtain ⟨a, b, c, d, e, f, g, i, j, k⟩ := h
  have l := hr q (by omega) (by omega) (by omega)
  exact ⟨a, b, c, by rw [l]; exact d, by rw [l]; exact e, by rw [l]; exact f, by rw [l]; exact g, by rw [l]; exact i, j.cr hr (by omega), k.cr hr (by omega)⟩
theorem xSpan.cr {R' : Nat → Nat → Option Nat} {q : Nat} (h : xSpan sh R q) (hr : cR R R') (hq : q + 30 < 200) : xSpan sh R' q := by
  obtain ⟨a, b, c, d, e, f, g, i, j, k, m, n⟩ := h
  have l := hr q (by omega) (by omega) (by omega)
  exact ⟨a, by rw [l]; exact b, by rw [l]; exact c, by rw [l]; exact d, by rw [l]; exact e, by rw [l]; exact f, by rw [l]; exact g, i, j, k, m.cr hr (by omega), n.cr hr (by omega)⟩
theorem xlR_c : ∀ e ∈ xlR, e.1 ≠ 201 ∧ e.1 ≠ 204 ∧ e.1 ≠ 207 := by decide
theorem xLay.cr {R' : Nat → Nat → Option Nat} (h : xLay sh R) (hr : cR R R') : xLay sh R' := by
  obtain ⟨a, b, c, d, e, f, g, i, j, k, m, n, o, p⟩ := h
  refine ⟨a, fun x hx => ?_, c.cr hr (by omega), fun x hx => (d x hx).cr hr (by omega), e.cr hr (by omega), f.cr hr (by omega), fun x hx => ?_, i.cr hr (by omega), j.cr hr (by omega), k.cr hr (by omega), m.cr hr (by omega), n.cr hr (by omega), o.cr hr (by omega), p.cr hr (by omega)⟩
  · have h9 := xlR_c x hx
    rw [hr x.1 h9.1 h9.2.1 h9.2.2]; exact b x hx
  · obtain ⟨a1, a2, a3, a4, a5, a6⟩ := g x hx
    have l := hr (200 + 3 * x) (by omega) (by omega) (by omega)
    exact ⟨a1, a2, a3, by rw [l]; exact a4, by rw [l]; exact a5, by rw [l]; exact a6⟩
/-- a machine for an empty cell -/
theorem clR.cell {σ : St} {a i q : Nat} (h : clR sh I R σ) (ha : a < 3) (hi : i < 8) (hn : R (200 + 3 * a + 1) i = none) (hq : 230 ≤ q) (hm : xMach sh R q 4) (hm1 : I q 1 = nI 4) (hd : ∀ k j q', k < 3 → j < 8 → R (200 + 3 * k + 1) j = some q' → q' + 3 < q) : clR sh I (xr R (200 + 3 * a + 1) i (some q)) σ := by
  have hr : cR R (xr R (200 + 3 * a + 1) i (some q)) := fun c h1 h2 h3 => by funext j; rw [xr_p (by omega)]
  have rd : ∀ k j, ¬ (k = a ∧ j = i) → xr R (200 + 3 * a + 1) i (some q) (200 + 3 * k + 1) j = R (200 + 3 * k + 1) j := fun k j hkj => by
    by_cases e : k = a
    · subst e; rw [xr_s (fun z => hkj ⟨rfl, z⟩)]
    · rw [xr_p (by omega)]
  refine ⟨h.ok, h.lay.cr hr, ?_, h.ctx, h.mc, h.st, h.kept, ⟨fun k j q' hk hj e => ?_, fun k j k' j' q1 q2 hk hj hk' hj' e1 e2 => ?_⟩, fun k hk => ?_, h.word, h.tape, h.fault, h.ls⟩
  · obtain ⟨x, y, c1, c2, c3⟩ := h.ht
    exact ⟨x, y, by rw [hr 23 (by decide) (by decide) (by decide)]; exact c1, by rw [hr 23 (by decide) (by decide) (by decide)]; exact c2, c3⟩
  · by_cases z : k = a ∧ j = i
    · obtain ⟨rfl, rfl⟩ := z
      rw [xr_e] at e
      cases e
      exact ⟨hq, hm.cr hr (by omega), hm1⟩
    · rw [rd k j z] at e
      obtain ⟨p1, p2, p3⟩ := h.pl.1 k j q' hk hj e
      exact ⟨p1, p2.cr hr (by omega), p3⟩
  · by_cases z : k = a ∧ j = i
    · by_cases z' : k' = a ∧ j' = i
      · left; omega
      · rw [rd k' j' z'] at e2
        obtain ⟨rfl, rfl⟩ := z
        rw [xr_e] at e1
        cases e1
        have := hd k' j' q2 hk' hj' e2
        right; right; omega
    · rw [rd k j z] at e1
      by_cases z' : k' = a ∧ j' = i
      · obtain ⟨rfl, rfl⟩ := z'
        rw [xr_e] at e2
        cases e2
        have := hd k j q1 hk hj e1
        right; left; omega
      · rw [rd k' j' z'] at e2
        exact h.pl.2 k j k' j' q1 q2 hk hj hk' hj' e1 e2
  · have hs := h.shf k hk
    cases hsh : σ.shf k with
    | none => rw [hsh] at hs; exact hs
    | some s =>
      rw [hsh] at hs
      refine ⟨hs.1, hs.2.1, fun j hj => ?_⟩
      have := hs.2.2 j hj
      cases hc : s.cell j with
      | none => rw [hc] at this; exact this
      | some m =>
        rw [hc] at this
        obtain ⟨e1, q', e2, e3⟩ := this
        refine ⟨e1, q', ?_, e3⟩
        rw [rd k j (fun z => by rw [z.1, z.2, hn] at e2; cases e2)]; exact e2
/-- a machine laid -/
theorem clR.putY {I' : Nat → Nat → Int32} {σ : St} {a i q sort : Nat} {M : Mac} {s : Shf} (h : clR sh I R σ) (ha : a < 3) (hs : σ.shf a = some s) (hi : i < s.size) (hso : sort ≤ 1) (hq : R (200 + 3 * a + 1) i = some q) (hM4 : M.1 ≤ 4) (hokM : okM σ.p σ.L M) (e : ∀ c, c ≠ q → c ≠ q + 1 → c ≠ q + 2 → c ≠ q + 3 → c ≠ 200 + 3 * a + 2 → I' c = I c) (e2 : ∀ j, j ≠ i → I' (200 + 3 * a + 2) j = I (200 + 3 * a + 2) j) (e3 : I' (200 + 3 * a + 2) i = nI sort) (hM : cM I' σ.L q 4 M) : clR sh I' R (putS σ a i sort M) := by
  have hk := h.ok
  have hok := hk.shf a s hs
  have h8 := hok.2.1
  obtain ⟨p1, p2, p3⟩ := h.pl.1 a i q ha (by omega) hq
  have e' : ∀ c, c < 200 ∨ (209 ≤ c ∧ c < 230) → I' c = I c := fun c hc => e c (by omega) (by omega) (by omega) (by omega) (by omega)
  refine ⟨⟨hk.p, hk.L1, hk.L3, hk.t, hk.kept, fun j s' hj => ?_, hk.word, hk.tape⟩, h.lay, h.ht, h.ctx.eq (e' 1 (by omega)), ⟨fun c hc => ?_, by rw [e' 169 (by omega)]; exact h.mc.2⟩, h.st.eq (fun c h1 h2 => e' c (by omega)), fun j hj => (h.kept j hj).eq (by rw [e' 21 (by omega)]) (fun c h1 h2 => e' c (by omega)), ⟨fun k j q' hk hj eq => ?_, h.pl.2⟩, fun j hj => ?_, by rw [e' 0 (by omega)]; exact h.word, ⟨by rw [e' 2 (by omega)]; exact h.tape.1, fun j hj => by rw [e' 3 (by omega)]; exact h.tape.2 j hj⟩, by rw [e' 0 (by omega)]; exact h.fault, ?_⟩
  · have hj2 : (if j = a then (match σ.shf j with | none => none | some s => some (Shf.mk s.lane s.size (fun b => if b = i then some (sort, M) else s.cell b))) else σ.shf j) = some s' := hj
    by_cases ej : j = a
    · subst ej
      rw [if_pos rfl, hs] at hj2
      cases hj2
      refine ⟨hok.1, hok.2.1, fun b k0 M0 hb => ?_⟩
      have hb2 : (if b = i then some (sort, M) else s.cell b) = some (k0, M0) := hb
      by_cases eb : b = i
      · subst eb
        rw [if_pos rfl] at hb2
        cases hb2
        exact ⟨hi, hso, hM4, hokM⟩
      · rw [if_neg eb] at hb2; exact hok.2.2 b k0 M0 hb2
    · rw [if_neg ej] at hj2; exact hk.shf j s' hj2
  · have hq2 : c < 200 := by revert hc; simp; omega
    rw [e' c (by omega)]; exact h.mc.1 c hc
  · obtain ⟨b1, b2, b3⟩ := h.pl.1 k j q' hk hj eq
    refine ⟨b1, b2, ?_⟩
    rcases h.pl.2 k j a i q' q hk hj ha (by omega) eq hq with ⟨rfl, rfl⟩ | z | z
    · obtain rfl : q' = q := Option.some.inj (eq.symm.trans hq)
      exact hM.2.1
    · rw [e q' (by omega) (by omega) (by omega) (by omega) (by omega)]; exact b3
    · rw [e q' (by omega) (by omega) (by omega) (by omega) (by omega)]; exact b3
  · show cSh I' R σ.L j (if j = a then (match σ.shf j with | none => none | some s => some (Shf.mk s.lane s.size (fun b => if b = i then some (sort, M) else s.cell b))) else σ.shf j)
    have other : ∀ k b q' A, k < 3 → b < 8 → R (200 + 3 * k + 1) b = some q' → ¬ (k = a ∧ b = i) → cM I σ.L q' 4 A → cM I' σ.L q' 4 A := fun k b q' A hk hb eq hne hA => by
      obtain ⟨b1, -, -⟩ := h.pl.1 k b q' hk hb eq
      rcases h.pl.2 k b a i q' q hk hb ha (by omega) eq hq with z | z | z
      · exact absurd z hne
      · exact hA.eq (e _ (by omega) (by omega) (by omega) (by omega) (by omega)) (e _ (by omega) (by omega) (by omega) (by omega) (by omega)) (e _ (by omega) (by omega) (by omega) (by omega) (by omega)) (e _ (by omega) (by omega) (by omega) (by omega) (by omega))
      · exact hA.eq (e _ (by omega) (by omega) (by omega) (by omega) (by omega)) (e _ (by omega) (by omega) (by omega) (by omega) (by omega)) (e _ (by omega) (by omega) (by omega) (by omega) (by omega)) (e _ (by omega) (by omega) (by omega) (by omega) (by omega))
    have hj' := h.shf j hj
    by_cases ej : j = a
    · subst ej
      rw [if_pos rfl, hs]
      rw [hs] at hj'
      have e0 : I' (200 + 3 * j) = I (200 + 3 * j) := e _ (by omega) (by omega) (by omega) (by omega) (by omega)
      refine ⟨by rw [e0]; exact hj'.1, by rw [e0]; exact hj'.2.1, fun b hb => ?_⟩
      show cCl I' R σ.L j b (if b = i then some (sort, M) else s.cell b)
      by_cases eb : b = i
      · subst eb
        rw [if_pos rfl]
        exact ⟨e3, q, hq, hM⟩
      · rw [if_neg eb]
        have := hj'.2.2 b hb
        cases hc : s.cell b with
        | none => rw [hc] at this; show I' _ b = _; rw [e2 b eb]; exact this
        | some m =>
          rw [hc] at this
          obtain ⟨x1, q', x2, x3⟩ := this
          exact ⟨by rw [e2 b eb]; exact x1, q', x2, other j b q' _ hj hb x2 (fun z => eb z.2) x3⟩
    · rw [if_neg ej]
      exact hj'.eq (e _ (by omega) (by omega) (by omega) (by omega) (by omega)) (e _ (by omega) (by omega) (by omega) (by omega) (by omega)) (fun _ => rfl) (fun b q' A hb eq hA => other j b q' A hj hb eq (fun z => ej z.1) hA)
  · rcases h.ls with z | ⟨z1, nz, z0, z2, z3⟩
    · exact Or.inl (by rw [e' 0 (by omega)]; exact z)
    · exact Or.inr ⟨by rw [e' 0 (by omega)]; exact z1, nz, z0, z2.eq (e' _ (by omega)) (e' _ (by omega)) (e' _ (by omega)) (e' _ (by omega)), fun j hj => by rw [e' 177 (by omega)]; exact z3 j hj⟩
end CLAY
