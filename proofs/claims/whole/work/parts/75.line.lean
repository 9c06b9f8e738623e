section LINE
variable {sh : List xSh} {I : Nat → Nat → Int32} {R : Nat → Nat → Option Nat}
def nmR (I : Nat → Nat → Int32) : Prop := (∀ j, j < 7 → I 219 j = nI (nmE.getD j 0)) ∧ ∀ j, j < 30 → I 220 j = nI (nmL.getD j 0)
theorem nmR.l {I I' : Nat → Nat → Int32} (h : nmR I) (hf : lF I I') : nmR I' := ⟨by rw [hf.1 219 (by decide)]; exact h.1, by rw [hf.1 220 (by decide)]; exact h.2⟩
theorem nm_tab : ∀ w, w < 6 → nmE.getD w 0 ≤ nmE.getD (w + 1) 0 ∧ nmE.getD (w + 1) 0 ≤ 30 ∧ nmE.getD (w + 1) 0 - nmE.getD w 0 = (nmS.getD w []).length ∧ ∀ i, i < (nmS.getD w []).length → (nmS.getD w []).getD i 0 = nmL.getD (nmE.getD w 0 + i) 0 ∧ nmL.getD (nmE.getD w 0 + i) 0 < 128 := by decide +kernel
theorem w_isName {T : List Nat} {t : Nat × Nat × Nat} {w : Nat} {Q : Int32 → xHp → Prop} (hW : xLay sh R) (hT : tpR I T) (hM : rM I T (.inr t)) (hN : nmR I) (hw : w < 6) (k1 : t.1 = 1 → isN T t.2.1 t.2.2 w → Q (nI 1) (sh, I, R)) (k0 : ¬ (t.1 = 1 ∧ isN T t.2.1 t.2.2 w) → Q (nI 0) (sh, I, R)) : CI mX10_isName [.ref 209, .int (nI w)] (sh, I, R) Q := by
  have hab := rM_a hT hM
  have hT2 := hT.2.1
  obtain ⟨h17, h21, h20, h19, ok, -, -⟩ := hM
  obtain ⟨t1, t2, t3, t4⟩ := nm_tab w hw
  have hk4 := ok.1
  have hle := ok.2.1
  have e0 : I 219 w = nI (nmE.getD w 0) := hN.1 w (by omega)
  have e1 : I 219 (w + 1) = nI (nmE.getD (w + 1) 0) := hN.1 (w + 1) (by omega)
  have no : ∀ j, j ≤ 31 → ¬ (t.1 = 1 ∧ isN T t.2.1 t.2.2 w) → Ex mX10_isName 48 [.ref 209, .int (nI w), .int (nI 0), .int (nI j)] [] (sh, I, R) 0 0 (xqI Q) := fun j _ hn => by
    refine bX10_isName_48 hW ⟨by rw [nI_add]; exact vp_nI (by omega) (by omega), fun _ => ⟨Or.inl rfl, k0 hn⟩, fun _ => ⟨fun _ => ⟨Or.inl rfl, k0 hn⟩, fun z => absurd rfl z⟩⟩
  refine eX10_isName (bX10_isName_0 hW ⟨fun q => ⟨vp_nI (by omega) (by omega), ?_⟩, fun q => ⟨by rw [nI_add]; exact vp_nI (by omega) (by omega), vp_nI (by omega) (by omega), ?_⟩⟩)
  · rw [nclamp (by omega), e0]
    exact no _ (by omega) (fun z => q (by rw [h21, z.1]))
  · rw [h21] at q
    have hk : t.1 = 1 := (nI_eq (by omega) (by omega)).mp q
    rw [nI_add, nclamp (by omega), nclamp (by omega), e0, e1, h19, h20, pk_sub hle, pk_sub t1, t3]
    refine ⟨fun z => ⟨vp_nI (by omega) (by omega), no _ (by omega) (fun y => z (by rw [y.2.1]))⟩, fun z => ⟨vp_nI (by omega) (by omega), ?_⟩⟩
    have hlen : t.2.2 - t.2.1 = (nmS.getD w []).length := (nI_eq (by omega) (by omega)).mp z
    have loop : ∀ m i, i + m = (nmS.getD w []).length → (∀ j, j < i → T.getD (t.2.1 + j) 0 = (nmS.getD w []).getD j 0) → Ex mX10_isName 48 [.ref 209, .int (nI w), .int (nI 1), .int (nI (nmE.getD w 0 + i))] [] (sh, I, R) 0 0 (xqI Q) := by
      intro m
      induction m with
      | zero =>
        intro i hi hall
        refine bX10_isName_48 hW ⟨by rw [nI_add]; exact vp_nI (by omega) (by omega), ?_⟩
        rw [nI_add, nclamp (by omega), e1]
        exact ⟨fun _ => ⟨Or.inr rfl, k1 hk ⟨hlen, fun j hj => hall j (by omega)⟩⟩, fun y => absurd (nI_le (by omega) (by omega)) y⟩
      | succ m ih =>
        intro i hi hall
        obtain ⟨s1, s2⟩ := t4 i (by omega)
        refine bX10_isName_48 hW ⟨by rw [nI_add]; exact vp_nI (by omega) (by omega), ?_⟩
        rw [nI_add, nclamp (by omega), e1]
        refine ⟨fun y => absurd y (nI_ge (by omega) (by omega)), fun _ => ⟨fun y => absurd y (by decide), fun _ => ⟨vp_nI (by omega) (by omega), ?_⟩⟩⟩
        rw [nclamp (by omega), e0, h20, nI_add, pk_sub (by omega), show t.2.1 + (nmE.getD w 0 + i) - nmE.getD w 0 = t.2.1 + i by omega]
        refine w_byteAt hW hT (by omega) (fun _ => bX10_isName_81 hW ⟨vp_nI (by omega) (by omega), ?_⟩) (fun y => by omega)
        rw [nclamp (by omega), hN.2 _ (by omega), nI_add, ← s1]
        have hc := hT.2.2.2 (t.2.1 + i)
        refine ⟨fun y => no _ (by omega) (fun x => y (by rw [x.2.2 i (by omega)])), fun y => ?_⟩
        have he := (nI_eq (by omega) (by omega)).mp y
        refine ih (i + 1) (by omega) (fun j hj => ?_)
        by_cases ej : j = i
        · subst ej; exact he
        · exact hall j (by omega)
    exact loop (nmS.getD w []).length 0 (Nat.zero_add _) (fun j hj => absurd hj (Nat.not_lt_zero j))
theorem w_nameNow {T : List Nat} {t : Nat × Nat × Nat} {Q : Int32 → xHp → Prop} (hW : xLay sh R) (hT : tpR I T) (hM : rM I T (.inr t)) (hN : nmR I) (k1 : ∀ w, t.1 = 1 → nmW T t.2.1 t.2.2 = some w → Q (nI w) (sh, I, R)) (k0 : (t.1 = 1 → nmW T t.2.1 t.2.2 = none) → Q (-4) (sh, I, R)) : CI mX10_nameNow [.ref 209] (sh, I, R) Q := by
  have loop : ∀ n w, w + n = 6 → (t.1 = 1 → nmW T t.2.1 t.2.2 = nmF T t.2.1 t.2.2 n w) → Ex mX10_nameNow 2 [.ref 209, .int (nI w)] [] (sh, I, R) 0 0 (xqI Q) := by
    intro n
    induction n with
    | zero =>
      intro w hw hr
      refine bX10_nameNow_2 hW ⟨fun _ => k0 (fun z => hr z), fun q => absurd (nI_lt (by omega) (by omega)) q⟩
    | succ n ih =>
      intro w hw hr
      refine bX10_nameNow_2 hW ⟨fun q => absurd q (nI_nlt (by omega) (by omega)), fun _ => w_isName hW hT hM hN (by omega) (fun h1 h2 => bX10_nameNow_12 hW ⟨fun z => absurd z (by decide), fun _ => k1 w h1 ?_⟩) (fun hn => bX10_nameNow_12 hW ⟨fun _ => ?_, fun z => absurd rfl z⟩)⟩
      · rw [hr h1]; unfold nmF; exact @if_pos _ (Classical.propDecidable _) h2 _ _ _
      · rw [nI_add]
        refine ih (w + 1) (by omega) (fun h1 => ?_)
        rw [hr h1]
        exact @if_neg _ (Classical.propDecidable _) (fun z => hn ⟨h1, z⟩) _ _ _
  exact eX10_nameNow (bX10_nameNow_0 hW (loop 6 0 (by omega) (fun _ => rfl)))
theorem numP_inr {T : List Nat} {r : Pz (Nat × Nat)} {lo hi : Nat} {v : Nat × Nat} (h : numP T (nxt T r) lo hi = .inr v) : ∃ s, r = .inr s := by
  cases r with
  | inl e => exact absurd h (by simp [numP, bnd])
  | inr s => exact ⟨s, rfl⟩
theorem rM_f {T : List Nat} {x : Pz (Nat × Nat × Nat)} (h : rM I T x) : (∃ e, x = .inl e ∧ I 209 17 ≠ 0) ∨ ∃ t, x = .inr t ∧ I 209 17 = nI 0 := by
  cases x with
  | inl e => exact Or.inl ⟨e, rfl, by rw [h.1]; exact nI_ne0 h.2.1 (by have := h.2.2.1; omega)⟩
  | inr t => exact Or.inr ⟨t, rfl, h.1⟩
theorem nxt_inl {T : List Nat} {r : Pz (Nat × Nat)} {t : Nat × Nat × Nat} (h : nxt T r = .inr t) : ∃ s, r = .inr s := by
  cases r with
  | inl e => exact absurd h (by simp [nxt, bnd])
  | inr s => exact ⟨s, rfl⟩
theorem mark_pl {w s : Nat} (hw : w = 3 ∨ w = 4) : nI (if w = 3 then 1 else 5) + nI s = nI ((if w = 3 then 1 else 5) + s) := nI_add _ _
/-- a mark is written -/
theorem drR_mk {I I2 : Nat → Nat → Int32} {D : Dr} {w s v : Nat} (hD : drR I D) (hw : w = 3 ∨ w = 4) (hs : s ≤ 3) (h9 : ∀ j, 26 ≤ j → j ≤ 29 → j ≠ 28 → I2 209 j = I 209 j) (hg : I2 209 28 = nI (max D.2.2.2.2.1 (s + 1))) (h1 : I2 221 = I 221) (h0 : I2 210 = I 210) : drR (xi I2 210 (57 * 31 + ((if w = 3 then 1 else 5) + s)) (nI v)) (markD D w s v) := by
  obtain ⟨a1, a2, a3, a4, a5, a6, a7, a8, a9⟩ := hD
  have p9 : ∀ j, xi I2 210 (57 * 31 + ((if w = 3 then 1 else 5) + s)) (nI v) 209 j = I2 209 j := fun j => xi_p (by decide)
  refine ⟨by rw [p9, h9 26 (by omega) (by omega) (by omega)]; exact a1, by rw [p9, h9 27 (by omega) (by omega) (by omega)]; exact a2, by rw [p9, hg]; rfl, by rw [p9, h9 29 (by omega) (by omega) (by omega)]; exact a4, fun j hj => by rw [xi_p (by decide), h1]; exact a5 j hj, ?_, fun a ha => ?_, fun a ha => ?_, fun a x t h1 h2 h3 => ?_⟩
  · rw [xi_s (by rcases hw with rfl | rfl <;> simp), h0]; exact a6
  · show _ = nI ((if w = 3 then (fun i => if i = s then v else D.2.2.2.2.2.2.1 i) else D.2.2.2.2.2.2.1) a)
    rcases hw with rfl | rfl
    · simp only [if_true]
      by_cases e : a = s
      · subst e; rw [xi_e, if_pos rfl]
      · rw [xi_s (by omega), if_neg e, h0]; exact a7 a ha
    · rw [xi_s (by simp; omega), h0]; simp only [show ¬ (4 = 3) by decide, if_false]; exact a7 a ha
  · show _ = nI ((if w = 3 then D.2.2.2.2.2.2.2.1 else (fun i => if i = s then v else D.2.2.2.2.2.2.2.1 i)) a)
    rcases hw with rfl | rfl
    · rw [xi_s (by simp; omega), h0]; simp only [if_true]; exact a8 a ha
    · simp only [show ¬ (4 = 3) by decide, if_false]
      by_cases e : a = s
      · subst e; rw [xi_e, if_pos rfl]
      · rw [xi_s (by omega), if_neg e, h0]; exact a8 a ha
  · rw [xi_s (by rcases hw with rfl | rfl <;> simp <;> omega), h0]; exact a9 a x t h1 h2 h3
theorem w_readsMark {T : List Nat} {x : Pz (Nat × Nat × Nat)} {D : Dr} {w : Nat} {Q : xHp → Prop} (hW : xLay sh R) (hT : tpR I T) (hM : rM I T x) (hD : drR I D) (hok : drOK D) (hw : w = 3 ∨ w = 4)
    (k : ∀ I', lF I I' → rM I' T (nxt T (numP T (nxt T (numP T x 0 3)) 0 99)) → (∀ s b v c t, numP T x 0 3 = .inr (s, b) → numP T (nxt T (numP T x 0 3)) 0 99 = .inr (v, c) → nx T c = .inr t → drR I' (markD D w s v)) → Q (sh, I', R)) : CV mX10_readsMark [.ref 209, .int (nI (if w = 3 then 1 else 5))] (sh, I, R) Q := by
  have h3 := vO_le (T := T) (x := x) (lo := 0) (hi := 3)
  refine eX10_readsMark (bX10_readsMark_0 hW (w_readsState hW hT hM (fun I1 hf1 h19 hM1 hg => bX10_readsMark_4 hW ?_)))
  have hl1 : lF I I1 := ⟨hf1.sub (by simp), fun j hj => h19 j (by omega), pgF.of hf1 (by decide)⟩
  refine w_number hW (hT.l hl1) hM1 (by decide) (by decide) (fun I2 hf2 hM2 => bX10_readsMark_12 hW ?_)
  have hl2 : lF I I2 := hl1.tr hf2.l
  rcases rM_f hM2 with ⟨e, he, hne⟩ | ⟨t, ht, h0⟩
  · refine ⟨fun _ => k I2 hl2 hM2 (fun s b v c t q1 q2 q3 => ?_), fun z => absurd z hne⟩
    rw [q2] at he
    exact absurd (q3.symm.trans he) (by simp)
  · refine ⟨fun z => absurd h0 z, fun _ => ?_⟩
    rw [mark_pl hw]
    have h5 : (if w = 3 then 1 else 5) ≤ 5 := by split <;> decide
    refine w_at hW (bX10_readsMark_33 hW ⟨vp_nI (by omega) (by omega), ?_⟩)
    rw [nclamp (by omega)]
    refine k _ (lF_pg hl2 (by omega)) (hM2.eq (fun j _ _ => xi_p (by decide))) (fun s b v c t q1 q2 q3 => ?_)
    rw [q2]
    rw [q1] at h3 ⊢
    have hs : s ≤ 3 := h3
    refine drR_mk hD hw hs (fun j j1 j2 j3 => by rw [hf2.2 j (by omega), h19 j (by omega)]) (by rw [hf2.2 28 (by omega)]; exact hg _ s b hD.2.2.1 hok.2.2.2.1 q1) (by rw [hf2.1 221 (by decide), hf1 221 (by decide)]) (by rw [hf2.1 210 (by decide), hf1 210 (by decide)])
end LINE
