section CLINE
variable {sh : List xSh} {I : Nat → Nat → Int32} {R : Nat → Nat → Option Nat}
/-- one less -/
def pI (n : Nat) : Int32 := nI n - nI 1
theorem pI_s (s : Nat) : pI (s + 1) = nI s := by unfold pI; rw [pk_sub (by omega)]; rfl
theorem pI_toInt {n : Nat} (h : n < 2 ^ 30) : (pI n).toInt = (n : Int) - 1 := pk_sub_toInt h (by omega)
theorem pI_max {g s : Nat} (hg : g < 2 ^ 30) (hs : s < 2 ^ 29) : (if pI g < nI s then nI s else pI g) = pI (max g (s + 1)) := by
  by_cases h : pI g < nI s
  · rw [if_pos h]
    have := Int32.lt_iff_toInt_lt.mp h
    rw [pI_toInt hg, nI_toInt (by omega)] at this
    rw [show max g (s + 1) = s + 1 by omega, pI_s]
  · rw [if_neg h]
    have : ¬ (pI g).toInt < (nI s).toInt := fun q => h (Int32.lt_iff_toInt_lt.mpr q)
    rw [pI_toInt hg, nI_toInt (by omega)] at this
    rw [show max g (s + 1) = g by omega]
theorem nI_max {s t : Nat} (hs : s < 2 ^ 29) (ht : t < 2 ^ 29) : (if nI s < nI t then nI t else nI s) = nI (max s t) := by
  by_cases h : s < t
  · rw [if_pos (nI_lt h (by omega)), show max s t = t by omega]
  · rw [if_neg (fun q => h ((nI_ltI (by omega) (by omega)).mp q)), show max s t = s by omega]
/-- the class's draft -/
def cD (I : Nat → Nat → Int32) (D : Dr) : Prop := I 2 8 = pI D.2.2.2.2.1 ∧ I 2 9 = pI D.2.2.2.2.2.1 ∧ I 2 10 = nI D.2.1 ∧ I 2 11 = nI D.2.2.1 ∧ I 2 12 = nI D.2.2.2.1 ∧ (∀ j, j < 3 → I 4 j = bI (D.1 j)) ∧ (∀ s, s < 4 → I 6 s = nI (D.2.2.2.2.2.2.1 s)) ∧ (∀ s, s < 4 → I 7 s = nI (D.2.2.2.2.2.2.2.1 s)) ∧ ∀ s x t, s < 4 → x < 3 → t < 4 → I 8 ((s * 3 + x) * 4 + t) = nI (D.2.2.2.2.2.2.2.2 s x t)
def dF (I I' : Nat → Nat → Int32) : Prop := Fr [2, 4, 6, 7, 8] I I' ∧ I' 2 1 = I 2 1
theorem dF.rf {I : Nat → Nat → Int32} : dF I I := ⟨Fr.rf, rfl⟩
theorem dF.tr {I I1 I2 : Nat → Nat → Int32} (h1 : dF I I1) (h2 : dF I1 I2) : dF I I2 := ⟨h1.1.tr h2.1, h2.2.trans h1.2⟩
theorem tF.d {I I' : Nat → Nat → Int32} (h : tF I I') : dF I I' := ⟨h.1.sub (by simp), h.2 1 (by decide)⟩
theorem dF.xi {I I1 : Nat → Nat → Int32} {c j : Nat} {v : Int32} (h : dF I I1) (hc : c ∈ [2, 4, 6, 7, 8]) (hj : c = 2 → j ≠ 1) : dF I (xi I1 c j v) := by
  refine ⟨h.1.xi hc, ?_⟩
  by_cases e : c = 2
  · subst e; rw [xi_s (fun q => hj rfl q.symm)]; exact h.2
  · rw [xi_p (fun q => e q.symm)]; exact h.2
theorem cT.dF {I I' : Nat → Nat → Int32} {T : List Nat} (h : cT I T) (hf : dF I I') : cT I' T := ⟨by rw [hf.2]; exact h.1, h.2.1, fun j hj => by rw [hf.1.at 3 j (by decide)]; exact h.2.2.1 j hj, h.2.2.2⟩
theorem cD.tF {I I' : Nat → Nat → Int32} {D : Dr} (h : cD I D) (hf : tF I I') : cD I' D := by
  obtain ⟨a1, a2, a3, a4, a5, a6, a7, a8, a9⟩ := h
  exact ⟨by rw [hf.2 8 (by decide)]; exact a1, by rw [hf.2 9 (by decide)]; exact a2, by rw [hf.2 10 (by decide)]; exact a3, by rw [hf.2 11 (by decide)]; exact a4, by rw [hf.2 12 (by decide)]; exact a5, by rw [hf.1 4 (by decide)]; exact a6, by rw [hf.1 6 (by decide)]; exact a7, by rw [hf.1 7 (by decide)]; exact a8, by rw [hf.1 8 (by decide)]; exact a9⟩
theorem cP.keep {I I' : Nat → Nat → Int32} {T : List Nat} {y : Pz Nat} (h : cP I T y) (h2 : I' 2 2 = I 2 2) (h13 : I' 2 13 = I 2 13) (h14 : I' 2 14 = I 2 14) : cP I' T y := by
  cases y with
  | inl e => exact ⟨by rw [h13]; exact h.1, by rw [h14]; exact h.2.1, h.2.2⟩
  | inr i => exact ⟨by rw [h13]; exact h.1, by rw [h2]; exact h.2.1, h.2.2⟩
theorem numP_v {T : List Nat} {x : Pz (Nat × Nat × Nat)} {lo hi v : Nat} (hl : lo ≤ hi) (h1 : ∀ r, numP T x lo hi = .inr r → v = r.1) (h2 : ∀ e, numP T x lo hi = .inl e → v = lo) : v ≤ hi := by
  cases h : numP T x lo hi with
  | inl e => rw [h2 e h]; exact hl
  | inr r =>
    rw [h1 r h]
    cases x with
    | inl e => exact absurd h (by simp [numP, bnd])
    | inr t =>
      have e0 : numP T (.inr t) lo hi = if t.1 = 2 then (if lo ≤ tvl T t.2.1 t.2.2 ∧ tvl T t.2.1 t.2.2 ≤ hi then .inr (tvl T t.2.1 t.2.2, t.2.2) else .inl (3, t.2.1)) else .inl (2, t.2.1) := rfl
      rw [e0] at h
      split at h
      · split at h
        · rename_i q; cases h; exact q.2
        · cases h
      · cases h
theorem k_stLine {T : List Nat} {y : Pz Nat} {D : Dr} {w : Nat} {Q : xHp → Prop} (hW : xLay sh R) (hT : cT I T) (hP : cP I T y) (hD : ∀ i, y = .inr i → cD I D) (hok : drOK D) (hw : w = 3 ∨ w = 4)
    (k : ∀ I', dF I I' → cP I' T (bnd (bnd y (bodyP T D w)) (fun r => .inr r.2)) → (∀ r, bnd y (bodyP T D w) = .inr r → cD I' r.1) → Q (sh, I', R)) : CV mX4_readStateLine [.ref 2, .int (nI w)] (sh, I, R) Q := by
  refine eX4_readStateLine (bX4_readStateLine_0 hW (k_takeNum hW hT hP (by omega) (by omega) (fun I1 s f1 hs1 hs0 hP1 _ => bX4_readStateLine_6 hW (k_takeNum hW (hT.tF f1) hP1 (by omega) (by omega) (fun I2 v f2 hv1 hv0 hP2 _ => bX4_readStateLine_14 hW ?_)))))
  have hs3 := numP_v (by omega) hs1 hs0
  have hv9 := numP_v (by omega) hv1 hv0
  have hbod : ∀ i, bodyP T D w i = bnd (numP T (nx T i) 0 3) (fun s => bnd (numP T (nx T s.2) 0 99) (fun v => .inr (markD D w s.1 v.1, v.2))) := fun i => by
    unfold bodyP; rw [if_neg (by omega), if_neg (by omega), if_neg (by omega), if_neg (by omega)]
  rw [nclamp (a := s) (by omega)]
  -- the place
  have ez : bnd (bnd y (bodyP T D w)) (fun r => (.inr r.2 : Pz Nat)) = bnd (numP T (bnd (bnd (numP T (bnd y (nx T)) 0 3) (fun r => .inr r.2)) (nx T)) 0 99) (fun r => .inr r.2) := by
    cases y with
    | inl e => rfl
    | inr i =>
      rw [bnd_r, bnd_r, hbod]
      cases numP T (nx T i) 0 3 with
      | inl e => rfl
      | inr r1 =>
        show bnd (bnd (numP T (nx T r1.2) 0 99) _) _ = bnd (numP T (nx T r1.2) 0 99) _
        cases numP T (nx T r1.2) 0 99 with
        | inl e => rfl
        | inr r2 => rfl
  have ed : ∀ r, bnd y (bodyP T D w) = .inr r → r.1 = markD D w s v ∧ ∃ i, y = .inr i := fun r hr => by
    obtain ⟨i, e1, e2⟩ := bnd_inr hr
    rw [hbod] at e2
    obtain ⟨r1, e3, e4⟩ := bnd_inr e2
    obtain ⟨r2, e5, e6⟩ := bnd_inr e4
    cases e6
    have a1 := hs1 r1 (by rw [e1]; exact e3)
    have a2 := hv1 r2 (by rw [e1]; show numP T (bnd (bnd (numP T (nx T i) 0 3) _) (nx T)) 0 99 = _; rw [e3]; exact e5)
    exact ⟨by rw [a1, a2], i, e1⟩
  have f12 := f1.tr f2
  have fin : ∀ c, (c = 6 ∧ w = 3 ∨ c = 7 ∧ w = 4) → Q (sh, xi (xi I2 2 8 (if I2 2 8 < nI s then nI s else I2 2 8)) c s (nI v), R) := by
    intro c hc
    refine k _ ((f12.d.xi (by simp) (by omega)).xi (by simp; omega) (by omega)) ?_ (fun r hr => ?_)
    · rw [ez]
      refine hP2.keep ?_ ?_ ?_ <;> rw [xi_p (by omega), xi_s (by decide)]
    · obtain ⟨er, i, ei⟩ := ed r hr
      obtain ⟨a1, a2, a3, a4, a5, a6, a7, a8, a9⟩ := (hD i ei).tF f12
      have hg4 := hok.2.2.2.1
      rw [er, a1, pI_max (by omega) (by omega)]
      refine ⟨?_, ?_, ?_, ?_, ?_, fun j hj => ?_, fun j hj => ?_, fun j hj => ?_, fun a x b ha hx hb => ?_⟩
      · rw [xi_p (by omega), xi_e]; rfl
      · rw [xi_p (by omega), xi_s (by decide)]; exact a2
      · rw [xi_p (by omega), xi_s (by decide)]; exact a3
      · rw [xi_p (by omega), xi_s (by decide)]; exact a4
      · rw [xi_p (by omega), xi_s (by decide)]; exact a5
      · rw [xi_p (by omega), xi_p (by decide)]; exact a6 j hj
      · rcases hc with ⟨rfl, rfl⟩ | ⟨rfl, rfl⟩
        · by_cases e : j = s
          · subst e; rw [xi_e]; show nI v = nI ((if (3 : Nat) = 3 then (fun i => if i = j then v else D.2.2.2.2.2.2.1 i) else D.2.2.2.2.2.2.1) j); rw [if_pos rfl, if_pos rfl]
          · rw [xi_s e, xi_p (by decide), a7 j hj]; show _ = nI ((if (3 : Nat) = 3 then (fun i => if i = s then v else D.2.2.2.2.2.2.1 i) else D.2.2.2.2.2.2.1) j); rw [if_pos rfl, if_neg e]
        · rw [xi_p (by decide), xi_p (by decide)]; exact a7 j hj
      · rcases hc with ⟨rfl, rfl⟩ | ⟨rfl, rfl⟩
        · rw [xi_p (by decide), xi_p (by decide)]; exact a8 j hj
        · by_cases e : j = s
          · subst e; rw [xi_e]; show nI v = nI ((if (4 : Nat) = 3 then D.2.2.2.2.2.2.2.1 else (fun i => if i = j then v else D.2.2.2.2.2.2.2.1 i)) j); rw [if_neg (by decide), if_pos rfl]
          · rw [xi_s e, xi_p (by decide), a8 j hj]; show _ = nI ((if (4 : Nat) = 3 then D.2.2.2.2.2.2.2.1 else (fun i => if i = s then v else D.2.2.2.2.2.2.2.1 i)) j); rw [if_neg (by decide), if_neg e]
      · rw [xi_p (by omega), xi_p (by decide)]; exact a9 a x b ha hx hb
  exact ⟨fun z => ⟨vp_nI (by omega) (by omega), fin 7 (Or.inr ⟨rfl, by rcases hw with q | q; exact absurd (by rw [q]) z; exact q⟩)⟩, fun z => ⟨vp_nI (by omega) (by omega), fin 6 (Or.inl ⟨rfl, (nI_eq (by omega) (by omega)).mp z⟩)⟩⟩
theorem k_edge' {T : List Nat} {y : Pz Nat} {D : Dr} {Q : xHp → Prop} (hW : xLay sh R) (hT : cT I T) (h51 : I 5 1 = nI 4) (hP : cP I T y) (hD : ∀ i, y = .inr i → cD I D) (hok : drOK D)
    (k : ∀ I', dF I I' → cP I' T (bnd (bnd y (bodyP T D 5)) (fun r => .inr r.2)) → (∀ r, bnd y (bodyP T D 5) = .inr r → cD I' r.1) → Q (sh, I', R)) : CV mX4_readEdge [.ref 2] (sh, I, R) Q := by
  have h5 : xMach sh R 5 4 := hW.2.2.2.2.2.2.2.1
  refine eX4_readEdge (bX4_readEdge_0 hW (k_takeNum hW hT hP (by omega) (by omega) (fun I1 s f1 hs1 hs0 hP1 _ => bX4_readEdge_6 hW (k_takeLet hW (hT.tF f1) hP1 (fun I2 x f2 hx1 hx2 hP2 => bX4_readEdge_11 hW (k_takeNum hW (hT.tF (f1.tr f2)) hP2 (by omega) (by omega) (fun I3 t f3 ht1 ht0 hP3 _ => bX4_readEdge_18 hW ?_)))))))
  have hs3 := numP_v (by omega) hs1 hs0
  have ht3 := numP_v (by omega) ht1 ht0
  have hbod : ∀ i, bodyP T D 5 i = bnd (numP T (nx T i) 0 3) (fun s => bnd (letP T (nx T s.2)) (fun x => bnd (numP T (nx T x.2) 0 3) (fun t => bnd (numP T (nx T t.2) 0 99) (fun v => .inr (edgeD D s.1 x.1 t.1 v.1, v.2))))) := fun i => by
    unfold bodyP; rw [if_neg (by omega), if_neg (by omega), if_neg (by omega), if_pos rfl]
  have f123 := (f1.tr f2).tr f3
  rw [nI_max (by omega) (by omega)]
  generalize hJ : xi (xi I3 2 8 (if I3 2 8 < nI (max s t) then nI (max s t) else I3 2 8)) 2 9 (if I3 2 9 < nI x then nI x else I3 2 9) = J
  have dJ : dF I J := by rw [← hJ]; exact (f123.d.xi (by simp) (by omega)).xi (by simp) (by omega)
  have hPJ := hP3.keep (I' := J) (by rw [← hJ, xi_s (by decide), xi_s (by decide)]) (by rw [← hJ, xi_s (by decide), xi_s (by decide)]) (by rw [← hJ, xi_s (by decide), xi_s (by decide)])
  refine k_at hW h5 (by rw [dJ.1.at 5 1 (by decide)]; exact h51) (bX4_readEdge_64 hW (k_takeNum hW (hT.dF dJ) hPJ (by omega) (by omega) (fun I4 v f4 hv1 hv0 hP4 _ => bX4_readEdge_71 hW ?_)))
  rw [nclamp (a := (s * 3 + x) * 4 + t) (by omega)]
  refine ⟨vp_nI (by omega) (by omega), k _ ((dJ.tr f4.d).xi (by simp) (by omega)) ?_ (fun r hr => ?_)⟩
  · have ez : bnd (bnd y (bodyP T D 5)) (fun r => (.inr r.2 : Pz Nat)) = bnd (numP T (bnd (bnd (numP T (bnd (bnd (letP T (bnd (bnd (numP T (bnd y (nx T)) 0 3) (fun r => .inr r.2)) (nx T))) (fun r => .inr r.2)) (nx T)) 0 3) (fun r => .inr r.2)) (nx T)) 0 99) (fun r => .inr r.2) := by
      cases y with
      | inl e => rfl
      | inr i =>
        rw [bnd_r, bnd_r, hbod]
        cases numP T (nx T i) 0 3 with
        | inl e => rfl
        | inr r1 =>
          show bnd (bnd (letP T (nx T r1.2)) _) _ = bnd (numP T (bnd (bnd (numP T (bnd (bnd (letP T (nx T r1.2)) _) _) 0 3) _) _) 0 99) _
          cases letP T (nx T r1.2) with
          | inl e => rfl
          | inr r2 =>
            show bnd (bnd (numP T (nx T r2.2) 0 3) _) _ = bnd (numP T (bnd (bnd (numP T (nx T r2.2) 0 3) _) _) 0 99) _
            cases numP T (nx T r2.2) 0 3 with
            | inl e => rfl
            | inr r3 =>
              show bnd (bnd (numP T (nx T r3.2) 0 99) _) _ = bnd (numP T (nx T r3.2) 0 99) _
              cases numP T (nx T r3.2) 0 99 with
              | inl e => rfl
              | inr r4 => rfl
    rw [ez]
    refine hP4.keep ?_ ?_ ?_ <;> rw [xi_p (by decide)]
  · obtain ⟨i, e1, e2⟩ := bnd_inr hr
    rw [hbod] at e2
    obtain ⟨r1, e3, e4⟩ := bnd_inr e2
    obtain ⟨r2, e5, e6⟩ := bnd_inr e4
    obtain ⟨r3, e7, e8⟩ := bnd_inr e6
    obtain ⟨r4, e9, e10⟩ := bnd_inr e8
    cases e10
    subst e1
    have b1 : numP T (bnd (.inr i) (nx T)) 0 3 = .inr r1 := e3
    have a1 := hs1 r1 b1
    have b2 : letP T (bnd (bnd (numP T (bnd (.inr i) (nx T)) 0 3) (fun r => .inr r.2)) (nx T)) = .inr r2 := by rw [b1]; exact e5
    have a2 := hx1 r2 b2
    have b3 : numP T (bnd (bnd (letP T (bnd (bnd (numP T (bnd (.inr i) (nx T)) 0 3) (fun r => .inr r.2)) (nx T))) (fun r => .inr r.2)) (nx T)) 0 3 = .inr r3 := by rw [b2]; exact e7
    have a3 := ht1 r3 b3
    have a4 := hv1 r4 (by rw [b3]; exact e9)
    rw [← a1, ← a2, ← a3, ← a4]
    obtain ⟨c1, c2, c3, c4, c5, c6, c7, c8, c9⟩ := (hD i rfl).tF f123
    have hg4 := hok.2.2.2.1
    have hl3 := hok.2.2.2.2.1
    rw [c1, c2, pI_max (by omega) (by omega), pI_max (by omega) (by omega)] at hJ
    have g : ∀ j, j ∉ [2, 3, 4, 5, 13, 14] → xi I4 8 ((s * 3 + x) * 4 + t) (nI v) 2 j = J 2 j := fun j hj => by rw [xi_p (by decide)]; exact f4.2 j hj
    have gr : ∀ c, c ≠ 2 → c ≠ 8 → xi I4 8 ((s * 3 + x) * 4 + t) (nI v) c = I3 c := fun c h2 h8 => by
      funext j; rw [xi_p h8, f4.1.at c j (by simpa using h2), ← hJ, xi_p h2, xi_p h2]
    refine ⟨?_, ?_, ?_, ?_, ?_, fun j hj => ?_, fun j hj => ?_, fun j hj => ?_, fun a z b ha hz hb => ?_⟩
    · rw [g 8 (by decide), ← hJ, xi_s (by decide), xi_e]
      show _ = pI (max (max _ _) _)
      congr 1; omega
    · rw [g 9 (by decide), ← hJ, xi_e]; rfl
    · rw [g 10 (by decide), ← hJ, xi_s (by decide), xi_s (by decide)]; exact c3
    · rw [g 11 (by decide), ← hJ, xi_s (by decide), xi_s (by decide)]; exact c4
    · rw [g 12 (by decide), ← hJ, xi_s (by decide), xi_s (by decide)]; exact c5
    · rw [gr 4 (by decide) (by decide)]; exact c6 j hj
    · rw [gr 6 (by decide) (by decide)]; exact c7 j hj
    · rw [gr 7 (by decide) (by decide)]; exact c8 j hj
    · show _ = nI (if a = s ∧ z = x ∧ b = t then v else D.2.2.2.2.2.2.2.2 a z b)
      by_cases e : a = s ∧ z = x ∧ b = t
      · obtain ⟨rfl, rfl, rfl⟩ := e
        rw [xi_e, if_pos ⟨rfl, rfl, rfl⟩]
      · rw [if_neg e, xi_s (by omega), f4.1.at 8 _ (by decide), ← hJ, xi_p (by decide), xi_p (by decide)]; exact c9 a z b ha hz hb
end CLINE
