/-! THE CLASS: the basis's rows here and there -/
section CBAS
variable {sh : List xSh}
def hT (R : Nat → Nat → Option Nat) (h t : Nat) : Prop := R 23 7 = some h ∧ R 23 8 = some t ∧ ((h = 36 ∧ t = 37) ∨ (h = 37 ∧ t = 36))
/-- only what is here and there has changed; or the machine too -/
def rF (R R' : Nat → Nat → Option Nat) : Prop := ∀ q k, q ≠ 23 ∨ (k ≠ 7 ∧ k ≠ 8) → R' q k = R q k
def rG (R R' : Nat → Nat → Option Nat) : Prop := ∀ q k, q ≠ 23 ∨ (k ≠ 7 ∧ k ≠ 8 ∧ k ≠ 9) → R' q k = R q k
theorem rF.rf {R : Nat → Nat → Option Nat} : rF R R := fun _ _ _ => rfl
theorem rG.rf {R : Nat → Nat → Option Nat} : rG R R := fun _ _ _ => rfl
theorem rF.tr {R R1 R2 : Nat → Nat → Option Nat} (h1 : rF R R1) (h2 : rF R1 R2) : rF R R2 := fun q k h => (h2 q k h).trans (h1 q k h)
theorem rG.tr {R R1 R2 : Nat → Nat → Option Nat} (h1 : rG R R1) (h2 : rG R1 R2) : rG R R2 := fun q k h => (h2 q k h).trans (h1 q k h)
theorem rF.g {R R1 : Nat → Nat → Option Nat} (h1 : rF R R1) : rG R R1 := fun q k h => h1 q k (by omega)
theorem rG.mach {R R' : Nat → Nat → Option Nat} {q M : Nat} (h : rG R R') (hm : xMach sh R q M) (hq : q ≠ 23) : xMach sh R' q M := by
  obtain ⟨a1, a2, a3, a4, a5, a6, a7, a8⟩ := hm
  exact ⟨a1, a2, a3, a4, by rw [h q 0 (Or.inl hq)]; exact a5, by rw [h q 3 (Or.inl hq)]; exact a6, by rw [h q 4 (Or.inl hq)]; exact a7, by rw [h q 5 (Or.inl hq)]; exact a8⟩
theorem rG.rows {R R' : Nat → Nat → Option Nat} {q N K : Nat} (h : rG R R') (hm : xRows sh R q N K) (hq : q ≠ 23) : xRows sh R' q N K := ⟨hm.1, fun j hj => ⟨by rw [h q j (Or.inl hq)]; exact (hm.2 j hj).1, (hm.2 j hj).2⟩⟩
theorem rG.span {R R' : Nat → Nat → Option Nat} {q : Nat} (h : rG R R') (hm : xSpan sh R q) (hq : 23 < q) : xSpan sh R' q := by
  obtain ⟨a1, a2, a3, a4, a5, a6, a7, a8, a9, a10, a11, a12⟩ := hm
  have g : ∀ k, R' q k = R q k := fun k => h q k (Or.inl (by omega))
  exact ⟨a1, by rw [g]; exact a2, by rw [g]; exact a3, by rw [g]; exact a4, by rw [g]; exact a5, by rw [g]; exact a6, by rw [g]; exact a7, a8, a9, a10, h.rows a11 (by omega), h.rows a12 (by omega)⟩
theorem rG.study {R R' : Nat → Nat → Option Nat} {q : Nat} (h : rG R R') (hm : xStudy sh R q) (hq : q + 7 < 23 ∨ 23 < q) : xStudy sh R' q := by
  obtain ⟨a1, a2, a3, a4, a5, a6, a7, a8, a9, a10⟩ := hm
  have g : ∀ k, R' q k = R q k := fun k => h q k (Or.inl (by omega))
  exact ⟨a1, a2, a3, by rw [g]; exact a4, by rw [g]; exact a5, by rw [g]; exact a6, by rw [g]; exact a7, by rw [g]; exact a8, h.mach a9 (by omega), h.mach a10 (by omega)⟩
theorem rG.shelf {R R' : Nat → Nat → Option Nat} {q : Nat} (h : rG R R') (hm : xShelf sh R q) (hq : 23 < q) : xShelf sh R' q := by
  obtain ⟨a1, a2, a3, a4, a5, a6⟩ := hm
  have g : ∀ k, R' q k = R q k := fun k => h q k (Or.inl (by omega))
  exact ⟨a1, a2, a3, by rw [g]; exact a4, by rw [g]; exact a5, by rw [g]; exact a6⟩
theorem rG.lay {R R' : Nat → Nat → Option Nat} (h : rG R R') (hW : xLay sh R) : xLay sh R' := by
  obtain ⟨a1, a2, a3, a4, a5, a6, a7, a8, a9, a10, a11, a12, a13, a14⟩ := hW
  have hl : ∀ e ∈ xlR, e.1 ≠ 23 ∨ (e.2.1 ≠ 7 ∧ e.2.1 ≠ 8 ∧ e.2.1 ≠ 9) := by decide
  exact ⟨a1, fun e he => by rw [h _ _ (hl e he)]; exact a2 e he, h.study a3 (by omega), fun j hj => h.study (a4 j hj) (by omega), h.span a5 (by omega), h.span a6 (by omega), fun j hj => h.shelf (a7 j hj) (by omega), h.mach a8 (by omega), h.mach a9 (by omega), h.mach a10 (by omega), h.mach a11 (by omega), h.rows a12 (by omega), h.rows a13 (by omega), h.rows a14 (by omega)⟩
variable {I : Nat → Nat → Int32} {R : Nat → Nat → Option Nat}
theorem hT.sz {h t : Nat} (hh : hT R h t) (hW : xLay sh R) : sh[h]? = some (.inr (0, 8)) ∧ sh[t]? = some (.inr (0, 8)) := by
  rcases hh.2.2 with ⟨rfl, rfl⟩ | ⟨rfl, rfl⟩
  · exact ⟨la_36 hW, la_37 hW⟩
  · exact ⟨la_37 hW, la_36 hW⟩
theorem hT.bd {h t : Nat} (hh : hT R h t) : 36 ≤ h ∧ h ≤ 37 ∧ 36 ≤ t ∧ t ≤ 37 ∧ h ≠ t := by
  rcases hh.2.2 with ⟨rfl, rfl⟩ | ⟨rfl, rfl⟩ <;> decide
theorem k_swap {h t : Nat} {Q : xHp → Prop} (hW : xLay sh R) (hh : hT R h t) (k : ∀ R', rF R R' → hT R' t h → Q (sh, I, R')) : CV mX0_swap [.ref 23] (sh, I, R) Q := by
  obtain ⟨s1, s2⟩ := hh.sz hW
  refine eX0_swap (bX0_swap_0 hW hh.1 s1 hh.2.1 s2 (k _ (fun q j hj => ?_) ⟨?_, xr_e, ?_⟩))
  · rcases hj with hj | hj
    · rw [xr_p hj, xr_p hj]
    · by_cases e : q = 23
      · subst e; rw [xr_s hj.2, xr_s hj.1]
      · rw [xr_p e, xr_p e]
  · rw [xr_s (by decide), xr_e]
  · have := hh.2.2; omega
theorem cpy0 {f g : Nat → Int32} {n c : Nat} (h : c < n) : va_cpy f g 0 0 n c = f c := by
  unfold va_cpy
  rw [if_pos ⟨Nat.zero_le _, by omega⟩]
  congr 1; omega
theorem bN_x {p : Nat} {A : Mac} {x : Nat} {l : List Nat} : bN p A (x :: l) = fun s => sN A.1 (fun t => A.2.2.2 s x t * bN p A l t) % p := rfl
/-- what goes on by a word, here -/
theorem k_goBack {p L q M w h t : Nat} {A : Mac} {Q : xHp → Prop} (hW : xLay sh R) (hc : cCtx I p L) (hq : xMach sh R q M) (hqb : q + 3 < 23 ∨ 82 ≤ q) (hM : M ≤ 8) (hA : cM I L q M A) (hok : okM p L A) (hh : hT R h t) (hw : wlen L w ≤ 12)
    (k : ∀ I' R' h' t', rF R R' → hT R' h' t' → Fr [36, 37] I I' → vR I' p h' A.1 (bN p A (wl L w)) → Q (sh, I', R')) : CV mX0_goBack [.ref 23, .ref q, .int (nI w)] (sh, I, R) Q := by
  obtain ⟨hP, hL, hpr, hL1, hL3⟩ := id hc
  obtain ⟨hp2, hp97⟩ := PR_bd p hpr
  have hwb := wl_lt31 hL1 hL3 hw
  have h8 := hA.1
  have loop : ∀ m u i l (I1 : Nat → Nat → Int32) (R1 : Nat → Nat → Option Nat) (h1 t1 : Nat), wlen L u = m → i + m = wlen L w → u < 2 ^ 31 → wl L u ++ l = wl L w → rF R R1 → hT R1 h1 t1 → Fr [36, 37] I I1 → vR I1 p h1 A.1 (bN p A l) → Ex mX0_goBack 32 [.ref 23, .ref q, xU, .int (nI (wlen L w)), .int (nI u), .int (nI i)] [] (sh, I1, R1) 0 0 (xqV Q) := by
    intro m
    induction m with
    | zero =>
      intro u i l I1 R1 h1 t1 hu hi hub hl hr hh1 hf hv
      have hu0 : u = 0 := by
        by_cases e : u = 0
        · exact e
        · rw [wlen_s e] at hu; omega
      subst hu0
      rw [wl_0, List.nil_append] at hl
      subst hl
      have hW1 := hr.g.lay hW
      obtain ⟨s1, s2⟩ := hh1.sz hW1
      refine bX0_goBack_32 hW1 (hr.g.mach hq (by omega)) hh1.1 s1 ⟨fun _ => k I1 R1 h1 t1 hr hh1 hf hv, fun z => absurd (nI_le (by omega) (by omega)) z⟩
    | succ m ih =>
      intro u i l I1 R1 h1 t1 hu hi hub hl hr hh1 hf hv
      have hu0 : u ≠ 0 := fun z => by rw [z, wlen_0] at hu; omega
      have hW1 := hr.g.lay hW
      have hq1 := hr.g.mach hq (show q ≠ 23 by omega)
      obtain ⟨s1, s2⟩ := hh1.sz hW1
      have hbd := hh1.bd
      have hc1 := hc.fr hf (by decide)
      have hA1 : cM I1 L q M A := hA.fr hf (by simp <;> omega)
      refine bX0_goBack_32 hW1 hq1 hh1.1 s1 ⟨fun z => absurd z (nI_ge (by omega) (by omega)), fun _ => k_lastLetter hW1 hc1 hub (bX0_goBack_52 hW1 hq1 s1 hq1 hh1.2.1 s2 ?_)⟩
      have hxL : (u - 1) % L < L := Nat.mod_lt _ (by omega)
      refine k_backward hW1 hc1 hq1 hM hA1 hok s1 s2 (by omega) (by omega) (by omega) (by omega) (by omega) (by omega) (by omega) hxL hv (fun I2 f2 hv2 => bX0_goBack_59 hW1 hq1 (k_withoutLast hW1 (hc1.fr f2 (by simp <;> omega)) hub (bX0_goBack_68 hW1 hq1 ?_)))
      refine k_swap hW1 hh1 (fun R2 hr2 hh2 => bX0_goBack_74 (hr2.g.lay hW1) (hr2.g.mach hq1 (by omega)) ?_)
      rw [nI_add]
      have ew : wl L u = wl L ((u - 1) / L) ++ [(u - 1) % L] := by rw [wl, if_neg hu0]
      refine ih ((u - 1) / L) (i + 1) ((u - 1) % L :: l) I2 R2 t1 h1 (by rw [wlen_s hu0] at hu; omega) (by omega) (div_lt31 hub) (by rw [← hl, ew]; simp) (hr.tr hr2) hh2 (hf.tr (f2.sub (by simp <;> omega))) hv2
  obtain ⟨s1, s2⟩ := hh.sz hW
  refine eX0_goBack (bX0_goBack_0 hW hq (k_lengthOf hW hc hwb hw (bX0_goBack_8 hW hq hh.1 s1 ?_)))
  rw [hA.2.2.1, nclamp (a := 0) (by omega), nclamp (a := A.1) (by omega)]
  refine ⟨⟨⟨by decide, by decide, nI_neg0 (by omega)⟩, by omega, by omega⟩, ?_⟩
  have hbd := hh.bd
  refine loop (wlen L w) w 0 [] _ R h t rfl (by omega) hwb (by simp) rF.rf hh (Fr.rf.xa (by simp <;> omega)) (fun s hs => ?_)
  rw [xa_e, cpy0 hs, hA.E hs]
  exact ⟨rfl, hok.2.1 s hs⟩
theorem sub_n1 (x : Int32) : x + (-1) = x - nI 1 := by
  have : nI 1 = 1 := by decide
  rw [this, Int32.sub_eq_add_neg]
/-- what comes by a word, here -/
theorem k_goForth {p L q M w h t : Nat} {A : Mac} {Q : xHp → Prop} (hW : xLay sh R) (hc : cCtx I p L) (h9 : R 23 9 = some q) (hq : xMach sh R q M) (hqb : q + 3 < 23 ∨ 82 ≤ q) (hM : M ≤ 8) (hA : cM I L q M A) (hok : okM p L A) (hh : hT R h t) (hw : wlen L w ≤ 12)
    (k : ∀ I' R' h' t', rF R R' → hT R' h' t' → Fr [35, 36, 37] I I' → vR I' p h' A.1 (fN p A (wl L w)) → Q (sh, I', R')) : CV mX0_goForth [.ref 23, .int (nI w)] (sh, I, R) Q := by
  obtain ⟨hP, hL, hpr, hL1, hL3⟩ := id hc
  obtain ⟨hp2, hp97⟩ := PR_bd p hpr
  have hwb := wl_lt31 hL1 hL3 hw
  have h8 := hA.1
  have hlen := wl_len hL1 w
  -- letter by letter
  have go : ∀ j i (I1 : Nat → Nat → Int32) (R1 : Nat → Nat → Option Nat) (h1 t1 : Nat), i + j = wlen L w → rF R R1 → hT R1 h1 t1 → Fr [35, 36, 37] I I1 → (∀ c, c < wlen L w → I1 35 c = nI ((wl L w).getD c 0)) → vR I1 p h1 A.1 (fN p A ((wl L w).take i)) → Ex mX0_goForth 77 [.ref 23, xU, .int (nI (wlen L w)), xU, .int (nI i)] [] (sh, I1, R1) 0 0 (xqV Q) := by
    intro j
    induction j with
    | zero =>
      intro i I1 R1 h1 t1 hi hr hh1 hf hlt hv
      obtain rfl : i = wlen L w := by omega
      have hW1 := hr.g.lay hW
      obtain ⟨s1, s2⟩ := hh1.sz hW1
      rw [← hlen, List.take_length] at hv
      exact bX0_goForth_77 hW1 (by rw [hr 23 9 (by omega)]; exact h9) (hr.g.mach hq (by omega)) hh1.1 s1 hh1.2.1 s2 ⟨fun _ => k I1 R1 h1 t1 hr hh1 hf hv, fun z => absurd (nI_le (by omega) (by omega)) z⟩
    | succ j ih =>
      intro i I1 R1 h1 t1 hi hr hh1 hf hlt hv
      have hW1 := hr.g.lay hW
      have hq1 := hr.g.mach hq (show q ≠ 23 by omega)
      obtain ⟨s1, s2⟩ := hh1.sz hW1
      have hbd := hh1.bd
      have hxL : (wl L w).getD i 0 < L := wl_lt hL1 w _ (gd_mem (by omega))
      refine bX0_goForth_77 hW1 (by rw [hr 23 9 (by omega)]; exact h9) hq1 hh1.1 s1 hh1.2.1 s2 ⟨fun z => absurd z (nI_ge (by omega) (by omega)), fun _ => ⟨vp_nI (by omega) (by omega), ?_⟩⟩
      rw [nclamp (by omega), hlt i (by omega)]
      refine k_forward hW1 (hc.fr hf (by decide)) hq1 hM (hA.fr hf (by simp <;> omega)) hok s1 s2 (by omega) (by omega) (by omega) (by omega) (by omega) (by omega) (by omega) hxL hv (fun I2 f2 hv2 => bX0_goForth_105 hW1 (k_swap hW1 hh1 (fun R2 hr2 hh2 => bX0_goForth_109 (hr2.g.lay hW1) ?_)))
      rw [nI_add]
      refine ih (i + 1) I2 R2 t1 h1 (by omega) (hr.tr hr2) hh2 (hf.tr (f2.sub (by simp <;> omega))) (fun c hc0 => by rw [f2.at 35 c (by simp <;> omega)]; exact hlt c hc0) ?_
      rw [take_x (by omega), fN_x]
      exact hv2
  -- the letters, from the last
  obtain ⟨s1, s2⟩ := hh.sz hW
  have lets : ∀ m u (I1 : Nat → Nat → Int32), wlen L u = m → m ≤ wlen L w → u < 2 ^ 31 → wl L u = (wl L w).take m → Fr [35] I I1 → (∀ c, m ≤ c → c < wlen L w → I1 35 c = nI ((wl L w).getD c 0)) → Ex mX0_goForth 16 [.ref 23, xU, .int (nI (wlen L w)), .int (nI u), .int (nI m - nI 1)] [] (sh, I1, R) 0 0 (xqV Q) := by
    intro m
    induction m with
    | zero =>
      intro u I1 hu hm hub hl hf hlt
      have hA1 : cM I1 L q M A := hA.fr hf (by simp <;> omega)
      refine bX0_goForth_16 hW h9 hq hh.1 s1 ⟨fun _ => ?_, fun z => absurd (by decide) z⟩
      rw [hA1.2.2.1, nclamp (a := 0) (by omega), nclamp (a := A.1) (by omega)]
      refine ⟨⟨⟨by decide, by decide, nI_neg0 (by omega)⟩, by omega, by omega⟩, ?_⟩
      have hbd := hh.bd
      refine go (wlen L w) 0 _ R h t (by omega) rF.rf hh ((hf.sub (by simp)).xa (by simp <;> omega)) (fun c hc0 => by rw [xa_p (by omega)]; exact hlt c (Nat.zero_le _) hc0) (fun s hs => ?_)
      rw [xa_e, cpy0 hs, hA1.S hs]
      exact ⟨rfl, hok.1 s hs⟩
    | succ m ih =>
      intro u I1 hu hm hub hl hf hlt
      have hu0 : u ≠ 0 := fun z => by rw [z, wlen_0] at hu; omega
      have hc1 := hc.fr hf (by decide)
      have ew : wl L u = wl L ((u - 1) / L) ++ [(u - 1) % L] := by rw [wl, if_neg hu0]
      have e2 : (wl L w).take (m + 1) = (wl L w).take m ++ [(wl L w).getD m 0] := take_x (by omega)
      have e3 := List.append_inj' (ew.symm.trans (hl.trans e2)) rfl
      have e4 : (u - 1) % L = (wl L w).getD m 0 := by simpa using e3.2
      rw [pk_sub (by omega), Nat.add_sub_cancel]
      refine bX0_goForth_16 hW h9 hq hh.1 s1 ⟨fun z => absurd z (nI_neg0 (by omega)), fun _ => k_lastLetter hW hc1 hub (bX0_goForth_35 hW ⟨vp_nI (by omega) (by omega), ?_⟩)⟩
      rw [nclamp (by omega), e4]
      refine k_withoutLast hW (hc1.fr (Fr.rf.xi (S := [35]) (by simp)) (by decide)) hub (bX0_goForth_44 hW ?_)
      rw [sub_n1]
      refine ih ((u - 1) / L) _ (by rw [wlen_s hu0] at hu; omega) (by omega) (div_lt31 hub) e3.1 (hf.xi (by simp)) (fun c h1 h2 => ?_)
      by_cases e : c = m
      · subst e; exact xi_e
      · rw [xi_s e]; exact hlt c (by omega) h2
  refine eX0_goForth (bX0_goForth_0 hW (k_lengthOf hW hc hwb hw (bX0_goForth_8 hW ?_)))
  exact lets (wlen L w) w I rfl (Nat.le_refl _) hwb (by rw [← hlen, List.take_length]) Fr.rf (fun c h1 h2 => by omega)
/-- the value of a word, from its end -/
theorem vN_bN {p L : Nat} [NeZero p] {A : Mac} (l : List Nat) : sN A.1 (fun s => A.2.1 s * bN p A l s) % p = vN p A l := by
  have hp : 0 < p := Nat.pos_of_ne_zero (NeZero.ne p)
  refine fo_inj (Nat.mod_lt _ hp) (Nat.mod_lt _ hp) ?_
  show fo p (sN A.1 (fun s => A.2.1 s * bN p A l s) % p) = fo p (vN p A l)
  have h2 := vlu_cat A.1 (fS p A) (fE p A) (fW p A) l []
  rw [List.nil_append] at h2
  rw [fo_mod, fo_sum, fo_vN, h2]
  exact sm_congr (fun s _ => by rw [fo_mul, fo_bN]; rfl)
theorem k_valueOf {p L q M w h t : Nat} {A : Mac} {Q : Int32 → xHp → Prop} (hW : xLay sh R) (hc : cCtx I p L) (hq : xMach sh R q M) (hqb : q + 3 < 23 ∨ 82 ≤ q) (hM : M ≤ 8) (hA : cM I L q M A) (hok : okM p L A) (hh : hT R h t) (hw : wlen L w ≤ 12)
    (k : ∀ I' R' h' t', rF R R' → hT R' h' t' → Fr [36, 37] I I' → Q (nI (vN p A (wl L w))) (sh, I', R')) : CI mX0_valueOf [.ref 23, .ref q, .int (nI w)] (sh, I, R) Q := by
  have hnz : NeZero p := ⟨by have := PR_bd p hc.2.2.1; omega⟩
  have h8 := hA.1
  refine eX0_valueOf (bX0_valueOf_0 hW hq (k_goBack hW hc hq hqb hM hA hok hh hw (fun I1 R1 h1 t1 hr hh1 hf hv => ?_)))
  have hW1 := hr.g.lay hW
  have hq1 := hr.g.mach hq (show q ≠ 23 by omega)
  obtain ⟨s1, s2⟩ := hh1.sz hW1
  have hA1 : cM I1 L q M A := hA.fr hf (by simp <;> omega)
  refine bX0_valueOf_6 hW1 hq1 hh1.1 s1 (k_product (u := A.2.1) (v := bN p A (wl L w)) hW1 (hc.fr hf (by decide)) hq1 hM hA1 hq1.2.1 s1 hA.1 (by omega) hM (by omega) (fun s hs => ⟨hA1.S hs, hok.1 s hs⟩) hv (bX0_valueOf_18 hW1 ?_))
  rw [vN_bN (L := L)]
  exact k I1 R1 h1 t1 hr hh1 hf
end CBAS
