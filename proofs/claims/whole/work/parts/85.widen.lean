/-! THE CLASS: the basis's words -/
section CWID
variable {sh : List xSh} {I : Nat → Nat → Int32} {R : Nat → Nat → Option Nat}
def rwE (p : Nat) [NeZero p] (L : Nat) (A : Mac) (E : Nat → Nat → Nat) (w i : Nat) : Fin p := rowC A.1 (fS p A) (fW p A) L (fun i s => fo p (E i s)) w i
def bWd (I : Nat → Nat → Int32) (p : Nat) [NeZero p] (L : Nat) (A : Mac) (K : Nat) (E : Nat → Nat → Nat) (B : List Nat) : Prop := I 23 10 = nI B.length ∧ (∀ j, j < B.length → I 24 j = nI (B.getD j 0)) ∧ (∀ j, j < B.length → vR I p (25 + 1 + j) A.1 (fN p A (wl L (B.getD j 0)))) ∧ ∃ E2, spS I p 60 K B.length E2 (fun j => rwE p L A E (B.getD j 0))
theorem bWd.le {p : Nat} [NeZero p] {L : Nat} {A : Mac} {K : Nat} {E : Nat → Nat → Nat} {B : List Nat} (h : bWd I p L A K E B) : B.length ≤ K ∧ K ≤ 8 := by
  obtain ⟨-, -, -, E2, piv, mk, h1, -⟩ := h
  exact ⟨h1.2.2.2.1, h1.2.2.1⟩
theorem bWd.ind {p : Nat} [NeZero p] {L : Nat} {A : Mac} {K : Nat} {E : Nat → Nat → Nat} {B : List Nat} (h : bWd I p L A K E B) : indp K B.length (fun j => rwE p L A E (B.getD j 0)) := by
  obtain ⟨-, -, -, E2, piv, mk, -, h2⟩ := h
  exact h2.2.2.2
theorem bWd.eq {I' : Nat → Nat → Int32} {p : Nat} [NeZero p] {L : Nat} {A : Mac} {K : Nat} {E : Nat → Nat → Nat} {B : List Nat} (h : bWd I p L A K E B) (h10 : I' 23 10 = I 23 10) (hf : ∀ c, (24 ≤ c ∧ c < 34) ∨ (60 ≤ c ∧ c < 82) → I' c = I c) : bWd I' p L A K E B := by
  have hle := h.le
  obtain ⟨a1, a2, a3, E2, a4⟩ := h
  exact ⟨by rw [h10]; exact a1, fun j hj => by rw [hf 24 (by omega)]; exact a2 j hj, fun j hj s hs => by rw [hf (25 + 1 + j) (by omega)]; exact a3 j hj s hs, E2, a4.eq (by rw [hf 60 (by omega)]) (by rw [hf 60 (by omega)]) (fun c h1 h2 => hf c (by omega))⟩
theorem k_makeRow {p L q M h t K : Nat} [NeZero p] {A : Mac} {E : Nat → Nat → Nat} {rc : Nat → Nat → Fin p} {v : Nat → Nat} {Q : xHp → Prop} (hW : xLay sh R) (hc : cCtx I p L) (h9 : R 23 9 = some q) (hq : xMach sh R q M) (hqb : q + 3 < 23 ∨ 82 ≤ q) (hM : M ≤ 8) (hA : cM I L q M A) (hh : hT R h t) (hC : spS I p 38 A.1 K E rc) (hv : vR I p h A.1 v)
    (k : ∀ I', Fr [34] I I' → vR I' p 34 K (fun c => sN A.1 (fun s => v s * E c s) % p) → Q (sh, I', R)) : CV mX0_makeRow [.ref 23] (sh, I, R) Q := by
  obtain ⟨hP, hL, hpr, hL1, hL3⟩ := id hc
  obtain ⟨hp2, hp97⟩ := PR_bd p hpr
  have h8 := hA.1
  obtain ⟨s1, s2⟩ := hh.sz hW
  have hbd := hh.bd
  obtain ⟨piv, mk, hC1, -⟩ := id hC
  obtain ⟨c7, c8, cW, cS, cE, -, -⟩ := hC1
  have loop : ∀ j c (I1 : Nat → Nat → Int32), c + j = K → Fr [34] I I1 → vR I1 p 34 c (fun c => sN A.1 (fun s => v s * E c s) % p) → Ex mX0_makeRow 2 [.ref 23, .int (nI c)] [] (sh, I1, R) 0 0 (xqV Q) := by
    intro j
    induction j with
    | zero =>
      intro c I1 hcK hf hr
      obtain rfl : c = K := by omega
      refine bX0_makeRow_2 hW h9 hq hh.1 s1 ⟨fun _ => k I1 hf hr, fun z => ?_⟩
      rw [hf.at 38 8 (by decide), c8] at z; exact absurd (nI_le (Nat.le_refl _) (by omega)) z
    | succ j ih =>
      intro c I1 hcK hf hr
      refine bX0_makeRow_2 hW h9 hq hh.1 s1 ⟨fun z => ?_, fun _ => ⟨vp_nI (by omega) (by omega), ?_⟩⟩
      · rw [hf.at 38 8 (by decide), c8] at z; exact absurd z (nI_ge (by omega) (by omega))
      rw [nclamp (by omega)]
      have hrow : sh[39 + 1 + c]? = some (.inr (0, 8)) := (hW.2.2.2.2.1.2.2.2.2.2.2.2.2.2.2.1.2 c (by omega)).2
      refine k_product (u := v) (v := fun s => E c s) hW (hc.fr hf (by decide)) hq hM (hA.fr hf (by simp <;> omega)) s1 hrow (by omega) (by omega) (by omega) (by omega) (hv.fr hf (by simp <;> omega)) (fun s hs => ?_) (bX0_makeRow_38 hW ⟨vp_nI (by omega) (by omega), ?_⟩)
      · rw [hf.at (39 + 1 + c) s (by simp <;> omega)]; exact cE c s (by omega) hs
      · rw [nclamp (by omega), nI_add]
        refine ih (c + 1) _ (by omega) (hf.xi (by simp)) (fun d hd => ?_)
        by_cases e : d = c
        · subst e; exact ⟨xi_e, Nat.mod_lt _ (by omega)⟩
        · rw [xi_s e]; exact hr d (by omega)
  exact eX0_makeRow (bX0_makeRow_0 hW (loop K 0 I (by omega) Fr.rf (fun d hd => absurd hd (Nat.not_lt_zero d))))
theorem fo_row {p L : Nat} [NeZero p] {A : Mac} {E : Nat → Nat → Nat} {w c : Nat} : fo p (sN A.1 (fun s => fN p A (wl L w) s * E c s) % p) = rwE p L A E w c := by
  rw [fo_mod, fo_sum]
  exact sm_congr (fun s _ => by rw [fo_mul, fo_fN])
def offF (I I' : Nat → Nat → Int32) : Prop := ∀ c, c < 23 ∨ (34 < c ∧ c < 60) ∨ 82 ≤ c → I' c = I c
theorem k_offerHere {p L q M h t K w : Nat} [NeZero p] {A : Mac} {E : Nat → Nat → Nat} {rc : Nat → Nat → Fin p} {B : List Nat} {Q : xHp → Prop} (hW : xLay sh R) (hc : cCtx I p L) (h9 : R 23 9 = some q) (hq : xMach sh R q M) (hqb : q + 3 < 23 ∨ 82 ≤ q) (hM : M ≤ 8) (hA : cM I L q M A) (hh : hT R h t) (hC : spS I p 38 A.1 K E rc) (hB : bWd I p L A K E B) (hv : vR I p h A.1 (fN p A (wl L w)))
    (ky : ∀ I', offF I I' → ¬ dpw (rwE p L A E) K B w → bWd I' p L A K E (B ++ [w]) → Q (sh, I', R))
    (kn : ∀ I', offF I I' → dpw (rwE p L A E) K B w → bWd I' p L A K E B → Q (sh, I', R)) : CV mX0_offerHere [.ref 23, .int (nI w)] (sh, I, R) Q := by
  obtain ⟨hP, hL, hpr, hL1, hL3⟩ := id hc
  obtain ⟨hp2, hp97⟩ := PR_bd p hpr
  have h8 := hA.1
  obtain ⟨hBK, hK8⟩ := hB.le
  obtain ⟨s1, s2⟩ := hh.sz hW
  have hbd := hh.bd
  refine eX0_offerHere (bX0_offerHere_0 hW (k_makeRow hW hc h9 hq hqb hM hA hh hC hv (fun I1 f1 hr => bX0_offerHere_4 hW ?_)))
  have hB1 : bWd I1 p L A K E B := hB.eq (f1.at 23 10 (by decide)) (fun c hc0 => f1 c (by simp <;> omega))
  obtain ⟨b1, b2, b3, E2, b4⟩ := id hB1
  have hfo : ∀ c, fo p ((fun c => sN A.1 (fun s => fN p A (wl L w) s * E c s) % p) c) = rwE p L A E w c := fun c => fo_row
  rw [b1]
  refine ⟨fun z => kn I1 (fun c hc0 => f1 c (by simp <;> omega)) ?_ hB1, fun _ => ?_⟩
  · have hl8 := (nI_leI (by omega) (by omega)).mp z
    refine Classical.byContradiction (fun hn => ?_)
    have hrr : ∀ j, j < B.length → ∀ i, i < K → rwE p L A E (B.getD j 0) i = rPush (fun j => rwE p L A E (B.getD j 0)) B.length (rwE p L A E w) j i := fun j hj i _ => by unfold rPush; rw [if_neg (by omega)]
    have := indp_le (isF_p hpr) (indp_push (isF_p hpr) (indp_congr hrr hB1.ind) (fun hd => hn (inS_congr (fun j hj i hi => (hrr j hj i hi).symm) (fun i _ => by unfold rPush; rw [if_pos rfl]) hd)))
    omega
  refine k_admit (v := fun c => sN A.1 (fun s => fN p A (wl L w) s * E c s) % p) hW (hc.fr f1 (by decide)) hW.2.2.2.2.2.1 (by decide) b4 (la_34 hW) (by omega) (by omega) hr (fun I2 o2 hin hs2 => ?_) (fun I2 E2' o2 hnin hE' hs2 => ?_)
  · have hd : dpw (rwE p L A E) K B w := inS_congr (fun _ _ _ _ => rfl) (fun c _ => hfo c) hin
    refine bX0_offerHere_27 hW hh.1 s1 h9 hq ⟨fun _ => kn I2 (fun c hc0 => ?_) hd ⟨?_, fun j hj => ?_, fun j hj s hs => ?_, E2, hs2⟩, fun z => absurd rfl z⟩
    · rw [o2 c (by omega), f1 c (by simp <;> omega)]
    · rw [o2.at 23 10 (by omega)]; exact b1
    · rw [o2.at 24 j (by omega)]; exact b2 j hj
    · rw [o2.at (25 + 1 + j) s (by omega)]; exact b3 j hj s hs
  · have hd : ¬ dpw (rwE p L A E) K B w := fun z => hnin (inS_congr (fun _ _ _ _ => rfl) (fun c _ => (hfo c).symm) z)
    obtain ⟨piv9, mk9, hcs, -⟩ := id hs2
    have hlK := hcs.2.2.2.1
    have e10 : I2 23 10 = nI B.length := by rw [o2.at 23 10 (by omega)]; exact b1
    have eq2 : I2 q 2 = nI A.1 := by rw [o2.at q 2 (by omega), f1.at q 2 (by simp <;> omega)]; exact hA.2.2.1
    refine bX0_offerHere_27 hW hh.1 s1 h9 hq ⟨fun z => absurd z (by decide), fun _ => ?_⟩
    rw [e10, nclamp (a := B.length) (by omega), nclamp (a := 0) (by omega), xi_p (a := q) (q := 24) (by omega), eq2, nclamp (a := A.1) (by omega)]
    refine ⟨vp_nI (by omega) (by omega), vp_nI (by omega) (by omega), ⟨⟨by decide, by decide, nI_neg0 (by omega)⟩, by omega, by omega⟩, ?_⟩
    generalize hI3 : xa (xi I2 24 B.length (nI w)) (25 + 1 + B.length) (va_cpy (xi I2 24 B.length (nI w) h) (xi I2 24 B.length (nI w) (25 + 1 + B.length)) 0 0 A.1) = I3
    have g3 : ∀ c, c ≠ 24 → c ≠ 25 + 1 + B.length → I3 c = I2 c := fun c h1 h2 => by rw [← hI3]; funext i; rw [xa_p h2, xi_p h1]
    have g24 : ∀ i, I3 24 i = if i = B.length then nI w else I2 24 i := fun i => by
      rw [← hI3, xa_p (by omega)]
      by_cases e : i = B.length
      · subst e; rw [xi_e, if_pos rfl]
      · rw [xi_s e, if_neg e]
    have gre : ∀ s, s < A.1 → I3 (25 + 1 + B.length) s = I2 h s := fun s hs => by rw [← hI3, xa_e, cpy0 hs, xi_p (by omega)]
    rw [g3 23 (by omega) (by omega), e10, nI_add]
    generalize hI4 : xi I3 23 10 (nI (B.length + 1)) = I4
    have g4 : ∀ c, c ≠ 23 → I4 c = I3 c := fun c h1 => by rw [← hI4]; funext i; rw [xi_p h1]
    refine ky I4 (fun c hc0 => ?_) hd ⟨?_, fun j hj => ?_, fun j hj s hs => ?_, E2', ?_⟩
    · rw [g4 c (by omega), g3 c (by omega) (by omega), o2 c (by omega), f1 c (by simp <;> omega)]
    · rw [← hI4, xi_e, List.length_append]; rfl
    · rw [List.length_append, List.length_cons, List.length_nil] at hj
      rw [g4 24 (by decide), g24]
      by_cases e : j = B.length
      · rw [if_pos e, e, gd_last]
      · rw [if_neg e, o2.at 24 j (by omega), gd_app (by omega)]; exact b2 j (by omega)
    · rw [List.length_append, List.length_cons, List.length_nil] at hj
      rw [g4 _ (by omega)]
      by_cases e : j = B.length
      · subst e
        rw [gre s hs, gd_last, o2.at h s (by omega), f1.at h s (by simp <;> omega)]; exact hv s hs
      · rw [g3 _ (by omega) (by omega), o2.at _ s (by omega), gd_app (by omega)]; exact b3 j (by omega) s hs
    · rw [List.length_append, List.length_cons, List.length_nil]
      refine spS.r (spS.eq hs2 (by rw [g4 60 (by decide), g3 60 (by omega) (by omega)]) (by rw [g4 60 (by decide), g3 60 (by omega) (by omega)]) (fun c h1 h2 => by rw [g4 c (by omega), g3 c (by omega) (by omega)])) (fun j hj c _ => ?_)
      unfold rPush
      by_cases e : j = B.length
      · rw [if_pos e, e, gd_last]; exact hfo c
      · rw [if_neg e, gd_app (by omega)]
def widF (I I' : Nat → Nat → Int32) : Prop := ∀ c, c < 23 ∨ (38 ≤ c ∧ c < 60) ∨ 82 ≤ c → I' c = I c
/-- words come, each with each letter behind it -/
theorem k_widen {p L q M h t K : Nat} [NeZero p] {A : Mac} {E : Nat → Nat → Nat} {rc : Nat → Nat → Fin p} {B : List Nat} {Q : Int32 → xHp → Prop} (hW : xLay sh R) (hc : cCtx I p L) (h9 : R 23 9 = some q) (hq : xMach sh R q M) (hqb : q + 3 < 23 ∨ 82 ≤ q) (hM : M ≤ 8) (hA : cM I L q M A) (hok : okM p L A) (hh : hT R h t) (hC : spS I p 38 A.1 K E rc) (hB : bWd I p L A K E B)
    (k : ∀ I' n B', widF I I' → ClsN (dpw (rwE p L A E) K) L n B B' → bWd I' p L A K E B' → Q (nI n) (sh, I', R)) : CI mX0_widen [.ref 23] (sh, I, R) Q := by
  obtain ⟨hP, hL, hpr, hL1, hL3⟩ := id hc
  obtain ⟨hp2, hp97⟩ := PR_bd p hpr
  have h8 := hA.1
  obtain ⟨s1, s2⟩ := hh.sz hW
  have hbd := hh.bd
  have dapp : ∀ {P : List Nat} {w u : Nat}, dpw (rwE p L A E) K P w → dpw (rwE p L A E) K (P ++ [u]) w := fun hd => dpw_app hd
  have outer : ∀ j i (I1 : Nat → Nat → Int32) (B1 : List Nat), i + j = 9 → widF I I1 → bWd I1 p L A K E B1 → B.length ≤ B1.length → (B1 = [] → dpw (rwE p L A E) K B1 0) → (∀ i' x', i' < i → i' < B1.length → x' < L → dpw (rwE p L A E) K B1 (B1.getD i' 0 * L + x' + 1)) → (∀ m P', ClsN (dpw (rwE p L A E) K) L m B1 P' → ClsN (dpw (rwE p L A E) K) L (B1.length - B.length + m) B P') → Ex mX0_widen 42 [.ref 23, .int (nI B.length), .int (nI i), xU] [] (sh, I1, R) 0 0 (xqI Q) := by
    intro j
    induction j with
    | zero =>
      intro i I1 B1 hi hf hb1 hlen hem hdep hch
      obtain ⟨l1, l2⟩ := hb1.le
      refine bX0_widen_42 hW ⟨fun _ => ?_, fun z => ?_⟩
      · rw [hb1.1, pk_sub hlen]
        have := hch 0 B1 ⟨rfl, hem, fun i' x' h1 h2 => hdep i' x' (by omega) h1 h2⟩
        rw [Nat.add_zero] at this
        exact k I1 _ B1 hf this hb1
      · rw [hb1.1] at z; exact absurd (nI_le (by omega) (by omega)) z
    | succ j ih =>
      intro i I1 B1 hi hf hb1 hlen hem hdep hch
      obtain ⟨l1, l2⟩ := hb1.le
      by_cases hiB : i < B1.length
      · refine bX0_widen_42 hW ⟨fun z => ?_, fun _ => ⟨fun z => ?_, fun _ => ?_⟩⟩
        · rw [hb1.1] at z; exact absurd z (nI_ge (by omega) (by omega))
        · exact absurd z (nI_ge (by omega) (by omega))
        -- letters
        have inner : ∀ jx x (I2 : Nat → Nat → Int32) (B2 : List Nat), x + jx = L → widF I I2 → bWd I2 p L A K E B2 → B.length ≤ B2.length → i < B2.length → (∀ i' x', (i' < i ∨ (i' = i ∧ x' < x)) → i' < B2.length → x' < L → dpw (rwE p L A E) K B2 (B2.getD i' 0 * L + x' + 1)) → (∀ m P', ClsN (dpw (rwE p L A E) K) L m B2 P' → ClsN (dpw (rwE p L A E) K) L (B2.length - B.length + m) B P') → Ex mX0_widen 61 [.ref 23, .int (nI B.length), .int (nI i), .int (nI x)] [] (sh, I2, R) 0 0 (xqI Q) := by
          intro jx
          induction jx with
          | zero =>
            intro x I2 B2 hx hf2 hb2 hlen2 hi2 hdep2 hch2
            obtain rfl : x = L := by omega
            refine bX0_widen_61 hW h9 hq hh.1 s1 ⟨fun _ => ?_, fun z => ?_⟩
            · rw [nI_add]
              exact ih (i + 1) I2 B2 (by omega) hf2 hb2 hlen2 (fun z => by rw [z] at hi2; exact absurd hi2 (Nat.not_lt_zero i)) (fun i' x' h1 h2 h3 => hdep2 i' x' (by omega) h2 h3) hch2
            · rw [show I2 1 1 = I 1 1 by rw [hf2 1 (by omega)], hL] at z
              exact absurd (nI_le (Nat.le_refl _) (by omega)) z
          | succ jx ihx =>
            intro x I2 B2 hx hf2 hb2 hlen2 hi2 hdep2 hch2
            obtain ⟨m1, m2⟩ := hb2.le
            have hc2 : cCtx I2 p L := hc.eq (hf2 1 (by omega))
            have hA2 : cM I2 L q M A := hA.eq (hf2 q (by omega)) (hf2 (q + 1) (by omega)) (hf2 (q + 2) (by omega)) (hf2 (q + 3) (by omega))
            have hC2 : spS I2 p 38 A.1 K E rc := hC.eq (by rw [hf2 38 (by omega)]) (by rw [hf2 38 (by omega)]) (fun c h1 h2 => hf2 c (by omega))
            have hrow : sh[25 + 1 + i]? = some (.inr (0, 8)) := (hW.2.2.2.2.2.2.2.2.2.2.2.1.2 i (by omega)).2
            refine bX0_widen_61 hW h9 hq hh.1 s1 ⟨fun z => ?_, fun _ => ⟨vp_nI (by omega) (by omega), ?_⟩⟩
            · rw [hc2.2.1] at z; exact absurd z (nI_ge (by omega) (by omega))
            rw [nclamp (by omega)]
            refine k_forward hW hc2 hq hM hA2 hok hrow s1 (by omega) (by omega) (by omega) (by omega) (by omega) (by omega) (by omega) (by omega) (hb2.2.2.1 i hi2) (fun I3 f3 hv3 => bX0_widen_90 hW ⟨vp_nI (by omega) (by omega), ?_⟩)
            have hb3 : bWd I3 p L A K E B2 := hb2.eq (f3.at 23 10 (by simp <;> omega)) (fun c hc0 => f3 c (by simp <;> omega))
            have hf3 : widF I I3 := fun c hc0 => by rw [f3 c (by simp <;> omega)]; exact hf2 c hc0
            have hc3 : cCtx I3 p L := hc.eq (hf3 1 (by omega))
            rw [nclamp (by omega), hb3.2.1 i hi2]
            refine k_withLetter hW hc3 (bX0_widen_105 hW ?_)
            have hv4 : vR I3 p h A.1 (fN p A (wl L (B2.getD i 0 * L + x + 1))) := by
              rw [wl_x (by omega), fN_x]
              exact hv3
            refine k_offerHere hW hc3 h9 hq hqb hM (hA2.fr f3 (by simp <;> omega)) hh (hC2.fr f3 (by simp <;> omega)) hb3 hv4 (fun I4 f4 hnd hb4 => bX0_widen_108 hW ?_) (fun I4 f4 hd hb4 => bX0_widen_108 hW ?_)
            · rw [nI_add]
              refine ihx (x + 1) I4 _ (by omega) (fun c hc0 => by rw [f4 c (by omega)]; exact hf3 c hc0) hb4 (by rw [List.length_append]; omega) (by rw [List.length_append]; omega) (fun i' x' h1 h2 h3 => ?_) (fun m P' hm => ?_)
              · rw [List.length_append, List.length_cons, List.length_nil] at h2
                rw [gd_app (by omega)]
                by_cases e : i' = i ∧ x' = x
                · obtain ⟨rfl, rfl⟩ := e
                  exact dpw_mem (List.mem_append_right _ (List.mem_singleton.mpr rfl))
                · exact dapp (hdep2 i' x' (by omega) (by omega) h3)
              · have hfr : frst (dpw (rwE p L A E) K B2) L B2 (B2.getD i 0 * L + x + 1) := Or.inr ⟨i, x, hi2, by omega, rfl, hnd, fun i' x' h1 h2 h3 => hdep2 i' x' (by omega) h1 h2⟩
                have := hch2 (m + 1) P' ⟨_, hfr, hm⟩
                rw [List.length_append, List.length_cons, List.length_nil, show B2.length + (0 + 1) - B.length + m = B2.length - B.length + (m + 1) by omega]
                exact this
            · rw [nI_add]
              refine ihx (x + 1) I4 B2 (by omega) (fun c hc0 => by rw [f4 c (by omega)]; exact hf3 c hc0) hb4 hlen2 hi2 (fun i' x' h1 h2 h3 => ?_) hch2
              by_cases e : i' = i ∧ x' = x
              · obtain ⟨rfl, rfl⟩ := e; exact hd
              · exact hdep2 i' x' (by omega) h2 h3
        exact inner L 0 I1 B1 (by omega) hf hb1 hlen hiB (fun i' x' h1 h2 h3 => hdep i' x' (by omega) h2 h3) hch
      · refine bX0_widen_42 hW ⟨fun _ => ?_, fun z => ?_⟩
        · rw [hb1.1, pk_sub hlen]
          have := hch 0 B1 ⟨rfl, hem, fun i' x' h1 h2 => hdep i' x' (by omega) h1 h2⟩
          rw [Nat.add_zero] at this
          exact k I1 _ B1 hf this hb1
        · rw [hb1.1] at z; exact absurd (nI_le (by omega) (by omega)) z
  obtain ⟨l1, l2⟩ := hB.le
  refine eX0_widen (bX0_widen_0 hW h9 hq hh.1 s1 ?_)
  rw [hB.1]
  refine ⟨fun z => ?_, fun z => ?_⟩
  · have hne : B ≠ [] := fun e => z (by rw [e]; rfl)
    exact outer 9 0 I B (by omega) (fun _ _ => rfl) hB (Nat.le_refl _) (fun e => absurd e hne) (fun i' x' h1 => absurd h1 (Nat.not_lt_zero i')) (fun m P' hm => by rw [Nat.sub_self, Nat.zero_add]; exact hm)
  · have h0 : B.length = 0 := (nI_eq (a := B.length) (b := 0) (by omega) (by omega)).mp z
    have hB0 : B = [] := List.eq_nil_of_length_eq_zero h0
    subst hB0
    rw [hA.2.2.1, nclamp (a := 0) (by omega), nclamp (a := A.1) (by omega)]
    refine ⟨⟨⟨by decide, by decide, nI_neg0 (by omega)⟩, by omega, by omega⟩, ?_⟩
    generalize hI1 : xa I h (va_cpy (I (q + 1)) (I h) 0 0 A.1) = I1
    have f1 : Fr [h] I I1 := by rw [← hI1]; exact Fr.rf.xa (by simp)
    have hv1 : vR I1 p h A.1 (fN p A (wl L 0)) := fun s hs => by
      rw [← hI1, xa_e, cpy0 hs, hA.S hs, wl_0]
      exact ⟨rfl, hok.1 s hs⟩
    have hB1 : bWd I1 p L A K E [] := hB.eq (f1.at 23 10 (by simp <;> omega)) (fun c hc0 => f1 c (by simp <;> omega))
    refine k_offerHere (w := 0) hW (hc.fr f1 (by simp <;> omega)) h9 hq hqb hM (hA.fr f1 (by simp <;> omega)) hh (hC.fr f1 (by simp <;> omega)) hB1 hv1 (fun I4 f4 hnd hb4 => bX0_widen_40 hW ?_) (fun I4 f4 hd hb4 => bX0_widen_40 hW ?_)
    · refine outer 9 0 I4 ([] ++ [0]) (by omega) (fun c hc0 => by rw [f4 c (by omega), f1 c (by simp <;> omega)]) hb4 (Nat.zero_le _) (fun e => absurd e (by simp)) (fun i' x' h1 => absurd h1 (Nat.not_lt_zero i')) (fun m P' hm => ?_)
      show ClsN _ _ (1 - 0 + m) [] P'
      rw [show 1 - 0 + m = m + 1 by omega]
      exact ⟨0, Or.inl ⟨rfl, rfl, hnd⟩, hm⟩
    · exact outer 9 0 I4 [] (by omega) (fun c hc0 => by rw [f4 c (by omega), f1 c (by simp <;> omega)]) hb4 (Nat.le_refl _) (fun _ => hd) (fun i' x' h1 => absurd h1 (Nat.not_lt_zero i')) (fun m P' hm => by rw [Nat.sub_self, Nat.zero_add]; exact hm)
end CWID
