/-! THE CLASS: the basis's columns -/
section CSEE
variable {sh : List xSh} {I : Nat → Nat → Int32} {R : Nat → Nat → Option Nat}
/-- columns that span each other -/
def colEq (p : Nat) [NeZero p] (n K : Nat) (E : Nat → Nat → Nat) (C : Nat) (bc : Nat → Nat → Fin p) : Prop := (∀ d, d < C → inS n K (fun i s => fo p (E i s)) (bc d)) ∧ ∀ i, i < K → inS n C bc (fun s => fo p (E i s))
theorem spS.span {p : Nat} [NeZero p] {q W size : Nat} {E : Nat → Nat → Nat} {r : Nat → Nat → Fin p} (h : spS I p q W size E r) : (∀ j, j < size → inS W size (fun i s => fo p (E i s)) (r j)) ∧ (∀ i, i < size → inS W size r (fun s => fo p (E i s))) ∧ indp W size r := by
  obtain ⟨piv, mk, -, h2⟩ := h
  exact ⟨h2.2.2.1, fun i hi => inS_more (k := i + 1) (by omega) ⟨_, h2.2.1 i hi⟩, h2.2.2.2⟩
theorem spS.bd {p : Nat} [NeZero p] {q W size : Nat} {E : Nat → Nat → Nat} {r : Nat → Nat → Fin p} (h : spS I p q W size E r) : I q 7 = nI W ∧ I q 8 = nI size ∧ W ≤ 8 ∧ size ≤ W := by
  obtain ⟨piv, mk, h1, -⟩ := h
  exact ⟨h1.1, h1.2.1, h1.2.2.1, h1.2.2.2.1⟩
theorem colEq_of {p : Nat} [NeZero p] {n K C : Nat} {E : Nat → Nat → Nat} {rc bc : Nat → Nat → Fin p} (h : spS I p 38 n K E rc) (h1 : ∀ d, d < C → inS n K rc (bc d)) (h2 : ∀ j, j < K → inS n C bc (rc j)) : colEq p n K E C bc := by
  obtain ⟨g1, g2, -⟩ := h.span
  exact ⟨fun d hd => inS_tr (h1 d hd) g1, fun i hi => inS_tr (g2 i hi) h2⟩
/-- a full span holds everything -/
theorem full_in {p : Nat} [NeZero p] (hp : p ∈ PR) {n : Nat} {rc : Nat → Nat → Fin p} (h : indp n n rc) (v : Nat → Fin p) : inS n n rc v := by
  refine Classical.byContradiction (fun hn => ?_)
  have hrr : ∀ j, j < n → ∀ i, i < n → rc j i = rPush rc n v j i := fun j hj i _ => by unfold rPush; rw [if_neg (by omega)]
  have := indp_le (isF_p hp) (indp_push (isF_p hp) (indp_congr hrr h) (fun hd => hn (inS_congr (fun j hj i hi => (hrr j hj i hi).symm) (fun i _ => by unfold rPush; rw [if_pos rfl]) hd)))
  omega
theorem push_in {p : Nat} [NeZero p] {n K : Nat} {rc : Nat → Nat → Fin p} {v u : Nat → Fin p} (h : inS n K rc v) : inS n (K + 1) (rPush rc K u) v := inS_more (by omega) (inS_congr (fun j hj i _ => by unfold rPush; rw [if_neg (by omega)]) (fun _ _ => rfl) h)
theorem push_last {p : Nat} [NeZero p] {n K : Nat} {rc : Nat → Nat → Fin p} {u : Nat → Fin p} : inS n (K + 1) (rPush rc K u) u := inS_congr (fun _ _ _ _ => rfl) (fun i _ => by unfold rPush; rw [if_pos rfl]) (inS_self (r := rPush rc K u) (show K < K + 1 by omega))
theorem k_open {p : Nat} [NeZero p] {q M n h t : Nat} {E : Nat → Nat → Nat} {rc : Nat → Nat → Fin p} {Q : xHp → Prop} (hW : xLay sh R) (hq : xMach sh R q M) (hqb : q + 3 < 23 ∨ 82 ≤ q) (h2 : I q 2 = nI n) (hn : n ≤ 8) (hh : hT R h t) (k : ∀ I' R', Fr [23, 38] I I' → rG R R' → hT R' h t → R' 23 9 = some q → I' 23 10 = nI 0 → spS I' p 38 n 0 E rc → Q (sh, I', R')) : CV mX0_open [.ref 23, .ref q] (sh, I, R) Q := by
  refine eX0_open (bX0_open_0 hW hq ?_)
  have hr : rG R (xr R 23 9 (some q)) := fun a j hj => by
    rcases hj with hj | hj
    · rw [xr_p hj]
    · by_cases e : a = 23
      · subst e; rw [xr_s hj.2.2]
      · rw [xr_p e]
  have hW1 := hr.lay hW
  rw [h2]
  refine k_clear (E := E) (r := rc) hW1 hW1.2.2.2.2.1 hn (fun I1 f1 s1 => bX0_open_19 hW1 ?_)
  exact k _ _ ((f1.sub (by simp)).xi (by simp)) hr ⟨by rw [xr_s (by decide)]; exact hh.1, by rw [xr_s (by decide)]; exact hh.2.1, hh.2.2⟩ xr_e xi_e (s1.fr (Fr.rf.xi (S := [23]) (by simp)) (by simp))
theorem k_shut {p L K n : Nat} [NeZero p] {A : Mac} {E : Nat → Nat → Nat} {rc : Nat → Nat → Fin p} {Q : xHp → Prop} (hW : xLay sh R) (hC : spS I p 38 n K E rc) (h10 : I 23 10 = nI 0) (k : ∀ I', Fr [60] I I' → bWd I' p L A K E [] → Q (sh, I', R)) : CV mX0_shut [.ref 23] (sh, I, R) Q := by
  have hb := hC.bd
  refine eX0_shut (bX0_shut_0 hW ?_)
  rw [hb.2.1]
  refine k_clear (E := fun _ _ => 0) (r := fun j => rwE p L A E (([] : List Nat).getD j 0)) hW hW.2.2.2.2.2.1 (by omega) (fun I1 f1 s1 => bX0_shut_14 hW (k I1 f1 ⟨?_, fun j hj => absurd hj (Nat.not_lt_zero j), fun j hj => absurd hj (Nat.not_lt_zero j), _, s1⟩))
  rw [f1.at 23 10 (by decide)]; exact h10
/-- how a vector comes to the columns, or not -/
def cAdd {p : Nat} [NeZero p] (n K K' : Nat) (E E' : Nat → Nat → Nat) (rc rc' : Nat → Nat → Fin p) (v : Nat → Fin p) : Prop := (K' = K ∧ E' = E ∧ rc' = rc ∧ inS n K rc v) ∨ (K' = K + 1 ∧ (∀ i, i < K → E' i = E i) ∧ rc' = rPush rc K v)
theorem k_seeEnding {p L q M n K e h t : Nat} [NeZero p] {A : Mac} {E : Nat → Nat → Nat} {rc : Nat → Nat → Fin p} {Q : xHp → Prop} (hW : xLay sh R) (hc : cCtx I p L) (h9 : R 23 9 = some q) (hq : xMach sh R q M) (hqb : q + 3 < 23 ∨ 82 ≤ q) (hM : M ≤ 8) (hA : cM I L q M A) (hn : A.1 = n) (hok : okM p L A) (hh : hT R h t) (he : wlen L e ≤ 12) (hC : spS I p 38 n K E rc)
    (k : ∀ I' R' h' t' K' E' rc', rF R R' → hT R' h' t' → Ou 36 60 I I' → spS I' p 38 n K' E' rc' → cAdd n K K' E E' rc rc' (bvl A.1 (fE p A) (fW p A) (wl L e)) → Q (sh, I', R')) : CV mX0_seeEnding [.ref 23, .int (nI e)] (sh, I, R) Q := by
  have h8 := hA.1
  have hb := hC.bd
  have hpr := hc.2.2.1
  refine eX0_seeEnding (bX0_seeEnding_0 hW h9 hq ?_)
  rw [hA.2.2.1, hb.2.1]
  refine ⟨fun z => ?_, fun z => ?_⟩
  · have hKn : K = n := by have := (nI_leI (by omega) (by omega)).mp z; omega
    subst hKn
    exact k I R h t K E rc rF.rf hh Ou.rf hC (Or.inl ⟨rfl, rfl, rfl, full_in hpr hC.span.2.2 _⟩)
  · refine k_goBack hW hc hq hqb hM hA hok hh he (fun I1 R1 h1 t1 hr hh1 hf hv => ?_)
    have hW1 := hr.g.lay hW
    obtain ⟨s1, s2⟩ := hh1.sz hW1
    have hbd := hh1.bd
    rw [hn] at hv
    have hC1 : spS I1 p 38 n K E rc := hC.fr hf (by simp)
    have hvv : ∀ s, fo p (bN p A (wl L e) s) = bvl A.1 (fE p A) (fW p A) (wl L e) s := fun s => fo_bN A _ s
    refine bX0_seeEnding_26 hW1 hh1.1 s1 (k_admit hW1 (hc.fr hf (by decide)) hW1.2.2.2.2.1 (by decide) hC1 s1 (by omega) (by omega) hv (fun I2 o2 hin hs2 => bX0_seeEnding_37 hW1 ?_) (fun I2 E' o2 hnin hE hs2 => bX0_seeEnding_37 hW1 ?_))
    · refine k I2 R1 h1 t1 K E rc hr hh1 ((Ou.of hf (by simp)).tr (o2.up (by omega) (by omega))) hs2 (Or.inl ⟨rfl, rfl, rfl, inS_congr (fun _ _ _ _ => rfl) (fun s _ => hvv s) hin⟩)
    · refine k I2 R1 h1 t1 (K + 1) E' (rPush rc K (bvl A.1 (fE p A) (fW p A) (wl L e))) hr hh1 ((Ou.of hf (by simp)).tr (o2.up (by omega) (by omega))) (hs2.r (fun j hj c _ => ?_)) (Or.inr ⟨rfl, hE, rfl⟩)
      unfold rPush
      split
      · exact hvv c
      · rfl
def uE {p : Nat} (d s : Nat) : Fin p → Fin p → Fin p := fun a b => if s = d then a else b
/-- a column for each state -/
theorem k_seeStates {p L q M h t : Nat} [NeZero p] {A : Mac} {Q : xHp → Prop} (hW : xLay sh R) (hc : cCtx I p L) (hq : xMach sh R q M) (hqb : q + 3 < 23 ∨ 82 ≤ q) (hM : M ≤ 8) (hA : cM I L q M A) (hh : hT R h t)
    (k : ∀ I' R' K E rc, Ou 23 82 I I' → rG R R' → hT R' h t → R' 23 9 = some q → spS I' p 38 A.1 K E rc → colEq p A.1 K E A.1 (fun d s => if s = d then 1 else 0) → bWd I' p L A K E [] → Q (sh, I', R')) : CV mX0_seeStates [.ref 23, .ref q] (sh, I, R) Q := by
  have h8 := hA.1
  obtain ⟨hp2, hp97⟩ := PR_bd p hc.2.2.1
  refine eX0_seeStates (bX0_seeStates_0 hW hq (k_open (E := fun _ _ => 0) (rc := fun _ _ => (0 : Fin p)) hW hq hqb hA.2.2.1 (by omega) hh (fun I1 R1 f1 hr1 hh1 h91 h10 hs1 => ?_)))
  have hW1 := hr1.lay hW
  have hq1 := hr1.mach hq (show q ≠ 23 by omega)
  obtain ⟨s1, s2⟩ := hh1.sz hW1
  have hbd := hh1.bd
  refine bX0_seeStates_5 hW1 ?_
  have loop : ∀ j s (I2 : Nat → Nat → Int32) (K : Nat) (E : Nat → Nat → Nat) (rc : Nat → Nat → Fin p), s + j = A.1 → Ou 36 60 I1 I2 → spS I2 p 38 A.1 K E rc → (∀ d, d < s → inS A.1 K rc (fun s => if s = d then 1 else 0)) → (∀ j, j < K → inS A.1 A.1 (fun d s => if s = d then (1 : Fin p) else 0) (rc j)) → Ex mX0_seeStates 7 [.ref 23, xU, .int (nI s)] [] (sh, I2, R1) 0 0 (xqV Q) := by
    intro j
    induction j with
    | zero =>
      intro s I2 K E rc hs o2 hs2 g1 g2
      obtain rfl : s = A.1 := by omega
      refine bX0_seeStates_7 hW1 h91 hq1 hh1.2.1 s2 ⟨fun _ => ?_, fun z => ?_⟩
      · refine k_shut (L := L) (A := A) hW1 hs2 (by rw [o2.at 23 10 (by omega)]; exact h10) (fun I3 f3 hb3 => bX0_seeStates_55 hW1 (k I3 R1 K E rc (fun c hc0 => ?_) hr1 hh1 h91 (hs2.fr f3 (by simp)) (colEq_of hs2 g1 g2) hb3))
        rw [f3 c (by simp <;> omega), o2 c (by omega), f1 c (by simp <;> omega)]
      · rw [o2.at q 2 (by omega), f1.at q 2 (by simp <;> omega), hA.2.2.1] at z
        exact absurd (nI_le (Nat.le_refl _) (by omega)) z
    | succ j ih =>
      intro s I2 K E rc hs o2 hs2 g1 g2
      have hc2 : cCtx I2 p L := (hc.fr f1 (by decide)).ou o2 (by omega)
      refine bX0_seeStates_7 hW1 h91 hq1 hh1.2.1 s2 ⟨fun z => ?_, fun _ => k_fill hW1 s2 (by omega) (fun I3 f3 z3 => bX0_seeStates_26 hW1 hh1.2.1 s2 ⟨vp_nI (by omega) (by omega), ?_⟩)⟩
      · rw [o2.at q 2 (by omega), f1.at q 2 (by simp <;> omega), hA.2.2.1] at z
        exact absurd z (nI_ge (by omega) (by omega))
      rw [nclamp (by omega)]
      have f4 : Fr [t] I2 (xi I3 t s (nI 1)) := f3.xi (by simp)
      have hv : vR (xi I3 t s (nI 1)) p t A.1 (fun c => if c = s then 1 else 0) := fun c hcA => by
        by_cases e : c = s
        · subst e; rw [xi_e]; dsimp only; rw [if_pos rfl]; exact ⟨rfl, by omega⟩
        · rw [xi_s e, z3 c (by omega)]; dsimp only; rw [if_neg e]; exact ⟨rfl, by omega⟩
      have hvv : ∀ c, fo p ((fun c => if c = s then 1 else 0) c) = (if c = s then (1 : Fin p) else 0) := fun c => by
        show fo p (if c = s then 1 else 0) = _
        split
        · exact fo_1
        · exact fo_0
      have self : inS A.1 A.1 (fun d s => if s = d then (1 : Fin p) else 0) (fun c => if c = s then 1 else 0) := inS_self (r := fun d s => if s = d then (1 : Fin p) else 0) (j := s) (by omega)
      refine k_admit hW1 (hc2.fr f4 (by simp <;> omega)) hW1.2.2.2.2.1 (by decide) (hs2.fr f4 (by simp <;> omega)) s2 (by omega) (by omega) hv (fun I5 o5 hin hs5 => bX0_seeStates_44 hW1 ?_) (fun I5 E' o5 hnin hE hs5 => bX0_seeStates_44 hW1 ?_)
      · rw [nI_add]
        refine ih (s + 1) I5 K E rc (by omega) ((o2.tr (Ou.of f4 (by simp <;> omega))).tr (o5.up (by omega) (by omega))) hs5 (fun d hd => ?_) g2
        by_cases e : d = s
        · subst e; exact inS_congr (fun _ _ _ _ => rfl) (fun c _ => hvv c) hin
        · exact g1 d (by omega)
      · rw [nI_add]
        refine ih (s + 1) I5 (K + 1) E' (rPush rc K (fun c => if c = s then 1 else 0)) (by omega) ((o2.tr (Ou.of f4 (by simp <;> omega))).tr (o5.up (by omega) (by omega))) (hs5.r (fun j hj c _ => ?_)) (fun d hd => ?_) (fun j hj => ?_)
        · unfold rPush
          split
          · exact hvv c
          · rfl
        · by_cases e : d = s
          · subst e; exact push_last
          · exact push_in (g1 d (by omega))
        · unfold rPush
          split
          · exact self
          · exact g2 j (by omega)
  exact loop A.1 0 I1 0 _ _ (by omega) Ou.rf hs1 (fun d hd => absurd hd (Nat.not_lt_zero d)) (fun j hj => absurd hj (Nat.not_lt_zero j))
/-- a letter ahead of a column -/
def cStep {p : Nat} [NeZero p] (A : Mac) (x : Nat) (v : Nat → Fin p) : Nat → Fin p := fun s => sm A.1 (fun t => fW p A s x t * v t)
theorem cStep_in {p : Nat} [NeZero p] {A : Mac} {x k : Nat} {r : Nat → Nat → Fin p} {v : Nat → Fin p} (h : inS A.1 k r v) : inS A.1 k (fun j => cStep A x (r j)) (cStep A x v) := by
  obtain ⟨c, hc⟩ := h
  refine ⟨c, fun s hs => ?_⟩
  show sm A.1 (fun t => fW p A s x t * v t) = sm k (fun j => c j * sm A.1 (fun t => fW p A s x t * r j t))
  rw [sm_congr (fun t ht => by rw [hc t ht]), ← dot_comb]
theorem isB_step {p L : Nat} [NeZero p] (hp : p ∈ PR) (hL : 0 < L) {A : Mac} (hA : A.1 ≤ 4) {x : Nat} (hx : x < L) {v : Nat → Fin p} (h : inS A.1 (fst L 4) (bcol p L A (fun i => i)) v) : inS A.1 (fst L 4) (bcol p L A (fun i => i)) (cStep A x v) := by
  refine inS_tr (cStep_in h) (fun j _ => ?_)
  have := bcol_all hp hL hA (x :: wl L j) (fun y hy => by
    rcases List.mem_cons.mp hy with e | e
    · rw [e]; exact hx
    · exact wl_lt hL j y e)
  exact this
/-- the columns of all words -/
theorem k_seeAll {p L q M h t : Nat} [NeZero p] {A : Mac} {Q : xHp → Prop} (hW : xLay sh R) (hc : cCtx I p L) (hq : xMach sh R q M) (hqb : q + 3 < 23 ∨ 82 ≤ q) (hM : M ≤ 8) (hA : cM I L q M A) (h4 : A.1 ≤ 4) (hok : okM p L A) (hh : hT R h t)
    (k : ∀ I' R' K E rc, Ou 23 82 I I' → rG R R' → hT R' h t → R' 23 9 = some q → spS I' p 38 A.1 K E rc → colEq p A.1 K E (fst L 4) (bcol p L A (fun i => i)) → bWd I' p L A K E [] → Q (sh, I', R')) : CV mX0_seeAllEndings [.ref 23, .ref q] (sh, I, R) Q := by
  obtain ⟨hP, hL, hpr, hL1, hL3⟩ := id hc
  obtain ⟨hp2, hp97⟩ := PR_bd p hpr
  refine eX0_seeAllEndings (bX0_seeAllEndings_0 hW hq (k_open (E := fun _ _ => 0) (rc := fun _ _ => (0 : Fin p)) hW hq hqb hA.2.2.1 (by omega) hh (fun I1 R1 f1 hr1 hh1 h91 h10 hs1 => ?_)))
  have hW1 := hr1.lay hW
  have hq1 := hr1.mach hq (show q ≠ 23 by omega)
  obtain ⟨s1, s2⟩ := hh1.sz hW1
  have hbd := hh1.bd
  have hc1 : cCtx I1 p L := hc.fr f1 (by decide)
  have hA1 : cM I1 L q M A := hA.fr f1 (by simp <;> omega)
  have outer : ∀ j i (I2 : Nat → Nat → Int32) (K : Nat) (E : Nat → Nat → Nat) (rc : Nat → Nat → Fin p), i + j = 5 → Ou 36 60 I1 I2 → spS I2 p 38 A.1 K E rc → inS A.1 K rc (fE p A) → (∀ i' x', i' < i → i' < K → x' < L → inS A.1 K rc (cStep A x' (fun s => fo p (E i' s)))) → (∀ j, j < K → inS A.1 (fst L 4) (bcol p L A (fun i => i)) (rc j)) → Ex mX0_seeAllEndings 22 [.ref 23, xU, .int (nI i), xU] [] (sh, I2, R1) 0 0 (xqV Q) := by
    intro j
    have stop : ∀ i (I2 : Nat → Nat → Int32) (K : Nat) (E : Nat → Nat → Nat) (rc : Nat → Nat → Fin p), K ≤ i → i ≤ 5 → Ou 36 60 I1 I2 → spS I2 p 38 A.1 K E rc → inS A.1 K rc (fE p A) → (∀ i' x', i' < i → i' < K → x' < L → inS A.1 K rc (cStep A x' (fun s => fo p (E i' s)))) → (∀ j, j < K → inS A.1 (fst L 4) (bcol p L A (fun i => i)) (rc j)) → Ex mX0_seeAllEndings 22 [.ref 23, xU, .int (nI i), xU] [] (sh, I2, R1) 0 0 (xqV Q) := by
      intro i I2 K E rc hKi hi5 o2 hs2 g0 g1 g2
      have hb2 := hs2.bd
      refine bX0_seeAllEndings_22 hW1 ⟨fun _ => ?_, fun z => ?_⟩
      · have all : ∀ l : List Nat, (∀ x ∈ l, x < L) → inS A.1 K rc (bvl A.1 (fE p A) (fW p A) l) := by
          intro l
          induction l with
          | nil => intro _; exact g0
          | cons x l ihl =>
            intro hl
            have h1 := ihl (fun y hy => hl y (List.mem_cons_of_mem _ hy))
            have h2 : inS A.1 K (fun i s => fo p (E i s)) (bvl A.1 (fE p A) (fW p A) l) := inS_tr h1 hs2.span.1
            exact inS_tr (cStep_in (x := x) h2) (fun j hj => g1 j x (by omega) hj (hl x List.mem_cons_self))
        refine k_shut (L := L) (A := A) hW1 hs2 (by rw [o2.at 23 10 (by omega)]; exact h10) (fun I3 f3 hb3 => bX0_seeAllEndings_101 hW1 (k I3 R1 K E rc (fun c hc0 => ?_) hr1 hh1 h91 (hs2.fr f3 (by simp)) (colEq_of hs2 (fun d _ => all (wl L d) (wl_lt hL1 d)) g2) hb3))
        rw [f3 c (by simp <;> omega), o2 c (by omega), f1 c (by simp <;> omega)]
      · rw [hb2.2.1] at z; exact absurd (nI_le hKi (by omega)) z
    induction j with
    | zero =>
      intro i I2 K E rc hi o2 hs2 g0 g1 g2
      have hb2 := hs2.bd
      exact stop i I2 K E rc (by omega) (by omega) o2 hs2 g0 g1 g2
    | succ j ih =>
      intro i I2 K E rc hi o2 hs2 g0 g1 g2
      by_cases hKi : K ≤ i
      · exact stop i I2 K E rc hKi (by omega) o2 hs2 g0 g1 g2
      have hb2 := hs2.bd
      refine bX0_seeAllEndings_22 hW1 ⟨fun z => ?_, fun _ => ⟨fun z => ?_, fun _ => ?_⟩⟩
      · rw [hb2.2.1] at z; exact absurd z (nI_ge (by omega) (by omega))
      · exact absurd z (nI_ge (by omega) (by omega))
      have inner : ∀ jx x (I3 : Nat → Nat → Int32) (K : Nat) (E : Nat → Nat → Nat) (rc : Nat → Nat → Fin p), x + jx = L → i < K → Ou 36 60 I1 I3 → spS I3 p 38 A.1 K E rc → inS A.1 K rc (fE p A) → (∀ i' x', (i' < i ∨ (i' = i ∧ x' < x)) → i' < K → x' < L → inS A.1 K rc (cStep A x' (fun s => fo p (E i' s)))) → (∀ j, j < K → inS A.1 (fst L 4) (bcol p L A (fun i => i)) (rc j)) → Ex mX0_seeAllEndings 41 [.ref 23, xU, .int (nI i), .int (nI x)] [] (sh, I3, R1) 0 0 (xqV Q) := by
        intro jx
        induction jx with
        | zero =>
          intro x I3 K E rc hx hiK o3 hs3 g0 g1 g2
          obtain rfl : x = L := by omega
          refine bX0_seeAllEndings_41 hW1 h91 hq1 hh1.2.1 s2 ⟨fun _ => ?_, fun z => ?_⟩
          · rw [nI_add]
            exact ih (i + 1) I3 K E rc (by omega) o3 hs3 g0 (fun i' x' h1 h2 h3 => g1 i' x' (by omega) h2 h3) g2
          · rw [(hc1.ou o3 (by omega)).2.1] at z; exact absurd (nI_le (Nat.le_refl _) (by omega)) z
        | succ jx ihx =>
          intro x I3 K E rc hx hiK o3 hs3 g0 g1 g2
          have hb3 := hs3.bd
          have hc3 := hc1.ou o3 (show 1 < 36 by omega)
          have hA3 : cM I3 L q M A := hA1.ou o3 (by omega)
          obtain ⟨piv, mk, hcs, -⟩ := id hs3
          have hrow : sh[39 + 1 + i]? = some (.inr (0, 8)) := (hW1.2.2.2.2.1.2.2.2.2.2.2.2.2.2.2.1.2 i (by omega)).2
          refine bX0_seeAllEndings_41 hW1 h91 hq1 hh1.2.1 s2 ⟨fun z => ?_, fun _ => ⟨vp_nI (by omega) (by omega), ?_⟩⟩
          · rw [hc3.2.1] at z; exact absurd z (nI_ge (by omega) (by omega))
          rw [nclamp (by omega)]
          refine k_backward (u := fun s => E i s) hW1 hc3 hq1 hM hA3 hok hrow s2 (by omega) (by omega) (by omega) (by omega) (by omega) (by omega) (by omega) (by omega) (fun s hs => hcs.2.2.2.2.1 i s hiK hs) (fun I4 f4 hv4 => bX0_seeAllEndings_73 hW1 hh1.2.1 s2 ?_)
          have hvv : ∀ s, fo p ((fun s => sN A.1 (fun t => A.2.2.2 s x t * E i t) % p) s) = cStep A x (fun s => fo p (E i s)) s := fun s => by
            show fo p (sN A.1 (fun t => A.2.2.2 s x t * E i t) % p) = _
            rw [fo_mod, fo_sum]
            exact sm_congr (fun t _ => by rw [fo_mul]; rfl)
          have isb : inS A.1 (fst L 4) (bcol p L A (fun i => i)) (cStep A x (fun s => fo p (E i s))) := isB_step hpr hL1 h4 (by omega) (inS_tr (hs3.span.2.1 i hiK) g2)
          refine k_admit hW1 (hc3.fr f4 (by simp <;> omega)) hW1.2.2.2.2.1 (by decide) (hs3.fr f4 (by simp <;> omega)) s2 (by omega) (by omega) hv4 (fun I5 o5 hin hs5 => bX0_seeAllEndings_84 hW1 ?_) (fun I5 E' o5 hnin hE hs5 => bX0_seeAllEndings_84 hW1 ?_)
          · rw [nI_add]
            refine ihx (x + 1) I5 K E rc (by omega) hiK ((o3.tr (Ou.of f4 (by simp <;> omega))).tr (o5.up (by omega) (by omega))) hs5 g0 (fun i' x' h1 h2 h3 => ?_) g2
            by_cases e : i' = i ∧ x' = x
            · obtain ⟨rfl, rfl⟩ := e; exact inS_congr (fun _ _ _ _ => rfl) (fun c _ => hvv c) hin
            · exact g1 i' x' (by omega) h2 h3
          · rw [nI_add]
            refine ihx (x + 1) I5 (K + 1) E' (rPush rc K (cStep A x (fun s => fo p (E i s)))) (by omega) (by omega) ((o3.tr (Ou.of f4 (by simp <;> omega))).tr (o5.up (by omega) (by omega))) (hs5.r (fun j hj c _ => ?_)) (push_in g0) (fun i' x' h1 h2 h3 => ?_) (fun j hj => ?_)
            · unfold rPush
              split
              · exact hvv c
              · rfl
            · rw [hE i' (by omega)]
              by_cases e : i' = i ∧ x' = x
              · obtain ⟨rfl, rfl⟩ := e; exact push_last
              · exact push_in (g1 i' x' (by omega) (by omega) h3)
            · unfold rPush
              split
              · exact isb
              · exact g2 j (by omega)
      exact inner L 0 I2 K E rc (by omega) (by omega) o2 hs2 g0 (fun i' x' h1 h2 h3 => g1 i' x' (by omega) h2 h3) g2
  have hvE : ∀ s, fo p (A.2.2.1 s) = fE p A s := fun s => rfl
  have isbE : inS A.1 (fst L 4) (bcol p L A (fun i => i)) (fE p A) := bcol_all hpr hL1 h4 [] (fun x hx => absurd hx List.not_mem_nil)
  refine bX0_seeAllEndings_5 hW1 h91 hq1 (k_admit (v := A.2.2.1) hW1 hc1 hW1.2.2.2.2.1 (by decide) hs1 hq1.2.2.1 hA.1 (by omega) (fun s hs => ⟨hA1.E hs, hok.2.1 s hs⟩) (fun I5 o5 hin hs5 => bX0_seeAllEndings_19 hW1 ?_) (fun I5 E' o5 hnin hE hs5 => bX0_seeAllEndings_19 hW1 ?_))
  · exact outer 5 0 I5 0 _ _ (by omega) (o5.up (by omega) (by omega)) hs5 hin (fun i' x' h1 => absurd h1 (Nat.not_lt_zero i')) (fun j hj => absurd hj (Nat.not_lt_zero j))
  · exact outer 5 0 I5 (0 + 1) E' _ (by omega) (o5.up (by omega) (by omega)) hs5 push_last (fun i' x' h1 => absurd h1 (Nat.not_lt_zero i')) (fun j hj => by
      unfold rPush
      rw [if_pos (by omega)]
      exact isbE)
end CSEE
