section CALL
variable {sh : List xSh} {I : Nat → Nat → Int32} {R : Nat → Nat → Option Nat}
theorem k_body {T : List Nat} {y : Pz Nat} {D : Dr} {w : Nat} {Q : xHp → Prop} (hW : xLay sh R) (hT : cT I T) (h51 : I 5 1 = nI 4) (hP : cP I T y) (hD : ∀ i, y = .inr i → cD I D) (hok : drOK D) (hw : w < 6)
    (k : ∀ I', dF I I' → cP I' T (bnd (bnd y (fun i => bnd (bodyP T D w i) (fun r => bnd (sgnP (nx T r.2)) (fun i => .inr (r.1, i))))) (fun r => .inr r.2)) → (∀ r, bnd y (fun i => bnd (bodyP T D w i) (fun r => bnd (sgnP (nx T r.2)) (fun i => .inr (r.1, i)))) = .inr r → cD I' r.1) → Q (sh, I', R)) :
    (((nI w).toInt < 0 ∨ 5 < (nI w).toInt) → Ex mX4_readLine 132 [.ref 2, .int (nI w)] [] (sh, I, R) 0 0 (xqV Q)) ∧ ((nI w).toInt = 0 → Ex mX4_readLine 88 [.ref 2, xU] [] (sh, I, R) 0 0 (xqV Q)) ∧ ((nI w).toInt = 1 → Ex mX4_readLine 99 [.ref 2, xU] [] (sh, I, R) 0 0 (xqV Q)) ∧ ((nI w).toInt = 2 → Ex mX4_readLine 112 [.ref 2, xU] [] (sh, I, R) 0 0 (xqV Q)) ∧ ((nI w).toInt = 3 → Ex mX4_readLine 132 [.ref 2, .int (nI w)] [] (sh, I, R) 0 0 (xqV Q)) ∧ ((nI w).toInt = 4 → Ex mX4_readLine 132 [.ref 2, .int (nI w)] [] (sh, I, R) 0 0 (xqV Q)) ∧ ((nI w).toInt = 5 → Ex mX4_readLine 125 [.ref 2, xU] [] (sh, I, R) 0 0 (xqV Q)) := by
  rw [nI_toInt (by omega)]
  -- the sign at the end
  have sgn : ∀ (J : Nat → Nat → Int32), dF I J → cP J T (bnd (bnd y (bodyP T D w)) (fun r => .inr r.2)) → (∀ r, bnd y (bodyP T D w) = .inr r → cD J r.1) → CV mX4_takeSign [.ref 2] (sh, J, R) (fun h1 => Ex mX4_readLine 141 [xU, xU] [] h1 0 0 (xqV Q)) := by
    intro J dJ hPJ hDJ
    refine k_takeSign hW (hT.dF dJ) hPJ (fun I' f' hP' => bX4_readLine_141 hW (k I' (dJ.tr f'.d) ?_ (fun r hr => ?_)))
    · have e : bnd (bnd y (fun i => bnd (bodyP T D w i) (fun r => bnd (sgnP (nx T r.2)) (fun i => .inr (r.1, i))))) (fun r => (.inr r.2 : Pz Nat)) = sgnP (bnd (bnd (bnd y (bodyP T D w)) (fun r => .inr r.2)) (nx T)) := by
        cases y with
        | inl e => rfl
        | inr i =>
          show bnd (bnd (bodyP T D w i) _) _ = sgnP (bnd (bnd (bodyP T D w i) _) _)
          cases bodyP T D w i with
          | inl e => rfl
          | inr r =>
            show bnd (bnd (sgnP (nx T r.2)) _) _ = sgnP (nx T r.2)
            cases sgnP (nx T r.2) with
            | inl e => rfl
            | inr i => rfl
      rw [e]; exact hP'
    · obtain ⟨i, e1, e2⟩ := bnd_inr hr
      obtain ⟨r1, e3, e4⟩ := bnd_inr e2
      obtain ⟨i2, e5, e6⟩ := bnd_inr e4
      cases e6
      exact (hDJ r1 (by rw [e1]; exact e3)).tF f'
  have st : w = 3 ∨ w = 4 → Ex mX4_readLine 132 [.ref 2, .int (nI w)] [] (sh, I, R) 0 0 (xqV Q) := fun hw => bX4_readLine_132 hW (k_stLine hW hT hP hD hok hw (fun J dJ hPJ hDJ => bX4_readLine_137 hW (sgn J dJ hPJ hDJ)))
  refine ⟨fun z => by omega, fun z => ?_, fun z => ?_, fun z => ?_, fun z => st (by omega), fun z => st (by omega), fun z => ?_⟩
  · obtain rfl : w = 0 := by omega
    refine bX4_readLine_88 hW (k_takePrime hW hT hP (fun J v f hv hPJ => bX4_readLine_93 hW (sgn _ (f.d.xi (by simp) (by omega)) ?_ (fun r hr => ?_))))
    · have e : bnd (bnd y (bodyP T D 0)) (fun r => (.inr r.2 : Pz Nat)) = bnd (priP T (bnd y (nx T))) (fun r => .inr r.2) := by
        cases y with
        | inl e => rfl
        | inr i =>
          show bnd (bnd (priP T (nx T i)) _) _ = bnd (priP T (nx T i)) _
          cases priP T (nx T i) with
          | inl e => rfl
          | inr r => rfl
      rw [e]
      refine hPJ.keep ?_ ?_ ?_ <;> rw [xi_s (by decide)]
    · obtain ⟨i, e1, e2⟩ := bnd_inr hr
      obtain ⟨r1, e3, e4⟩ := bnd_inr (show bnd (priP T (nx T i)) (fun r => .inr ((D.1, r.1, D.2.2), r.2)) = .inr r from e2)
      cases e4
      have ev := hv r1 (by rw [e1]; exact e3)
      obtain ⟨a1, a2, a3, a4, a5, a6, a7, a8, a9⟩ := (hD i e1).tF f
      exact ⟨by rw [xi_s (by decide)]; exact a1, by rw [xi_s (by decide)]; exact a2, by rw [xi_e, ev], by rw [xi_s (by decide)]; exact a4, by rw [xi_s (by decide)]; exact a5, fun j hj => by rw [xi_p (by decide)]; exact a6 j hj, fun j hj => by rw [xi_p (by decide)]; exact a7 j hj, fun j hj => by rw [xi_p (by decide)]; exact a8 j hj, fun a x b ha hx hb => by rw [xi_p (by decide)]; exact a9 a x b ha hx hb⟩
  · obtain rfl : w = 1 := by omega
    refine bX4_readLine_99 hW (k_takeNum hW hT hP (by omega) (by omega) (fun J v f hv _ hPJ _ => bX4_readLine_106 hW (sgn _ (f.d.xi (by simp) (by omega)) ?_ (fun r hr => ?_))))
    · have e : bnd (bnd y (bodyP T D 1)) (fun r => (.inr r.2 : Pz Nat)) = bnd (numP T (bnd y (nx T)) 1 3) (fun r => .inr r.2) := by
        cases y with
        | inl e => rfl
        | inr i =>
          show bnd (bnd (numP T (nx T i) 1 3) _) _ = bnd (numP T (nx T i) 1 3) _
          cases numP T (nx T i) 1 3 with
          | inl e => rfl
          | inr r => rfl
      rw [e]
      refine hPJ.keep ?_ ?_ ?_ <;> rw [xi_s (by decide)]
    · obtain ⟨i, e1, e2⟩ := bnd_inr hr
      obtain ⟨r1, e3, e4⟩ := bnd_inr (show bnd (numP T (nx T i) 1 3) (fun r => .inr ((D.1, D.2.1, r.1, D.2.2.2), r.2)) = .inr r from e2)
      cases e4
      have ev := hv r1 (by rw [e1]; exact e3)
      obtain ⟨a1, a2, a3, a4, a5, a6, a7, a8, a9⟩ := (hD i e1).tF f
      exact ⟨by rw [xi_s (by decide)]; exact a1, by rw [xi_s (by decide)]; exact a2, by rw [xi_s (by decide)]; exact a3, by rw [xi_e, ev], by rw [xi_s (by decide)]; exact a5, fun j hj => by rw [xi_p (by decide)]; exact a6 j hj, fun j hj => by rw [xi_p (by decide)]; exact a7 j hj, fun j hj => by rw [xi_p (by decide)]; exact a8 j hj, fun a x b ha hx hb => by rw [xi_p (by decide)]; exact a9 a x b ha hx hb⟩
  · obtain rfl : w = 2 := by omega
    refine bX4_readLine_112 hW (k_takeNum hW hT hP (by omega) (by omega) (fun J v f hv _ hPJ _ => bX4_readLine_119 hW (sgn _ (f.d.xi (by simp) (by omega)) ?_ (fun r hr => ?_))))
    · have e : bnd (bnd y (bodyP T D 2)) (fun r => (.inr r.2 : Pz Nat)) = bnd (numP T (bnd y (nx T)) 0 4) (fun r => .inr r.2) := by
        cases y with
        | inl e => rfl
        | inr i =>
          show bnd (bnd (numP T (nx T i) 0 4) _) _ = bnd (numP T (nx T i) 0 4) _
          cases numP T (nx T i) 0 4 with
          | inl e => rfl
          | inr r => rfl
      rw [e]
      refine hPJ.keep ?_ ?_ ?_ <;> rw [xi_s (by decide)]
    · obtain ⟨i, e1, e2⟩ := bnd_inr hr
      obtain ⟨r1, e3, e4⟩ := bnd_inr (show bnd (numP T (nx T i) 0 4) (fun r => .inr ((D.1, D.2.1, D.2.2.1, r.1, D.2.2.2.2), r.2)) = .inr r from e2)
      cases e4
      have ev := hv r1 (by rw [e1]; exact e3)
      obtain ⟨a1, a2, a3, a4, a5, a6, a7, a8, a9⟩ := (hD i e1).tF f
      exact ⟨by rw [xi_s (by decide)]; exact a1, by rw [xi_s (by decide)]; exact a2, by rw [xi_s (by decide)]; exact a3, by rw [xi_s (by decide)]; exact a4, by rw [xi_e, ev], fun j hj => by rw [xi_p (by decide)]; exact a6 j hj, fun j hj => by rw [xi_p (by decide)]; exact a7 j hj, fun j hj => by rw [xi_p (by decide)]; exact a8 j hj, fun a x b ha hx hb => by rw [xi_p (by decide)]; exact a9 a x b ha hx hb⟩
  · obtain rfl : w = 5 := by omega
    exact bX4_readLine_125 hW (k_edge' hW hT h51 hP hD hok (fun J dJ hPJ hDJ => bX4_readLine_129 hW (sgn J dJ hPJ hDJ)))
theorem cP_line {T : List Nat} {J J' : Nat → Nat → Int32} {y : Pz Nat} {c j : Nat} {v : Int32} (hJ : J' = xi J c j v) (hc : c ≠ 2) (h : cP J T y) : cP J' T y := by
  subst hJ
  refine h.keep ?_ ?_ ?_ <;> rw [xi_p (fun e => hc e.symm)]
theorem k_readLine {T : List Nat} {t : Nat × Nat × Nat} {D : Dr} {Q : xHp → Prop} (hW : xLay sh R) (hT : cT I T) (h51 : I 5 1 = nI 4) (hK : cK I T (.inr t)) (hD : cD I D) (hok : drOK D)
    (k : ∀ I', dF I I' → cP I' T (bnd (lineP T D t) (fun r => .inr r.2)) → (∀ r, lineP T D t = .inr r → cD I' r.1) → Q (sh, I', R)) : CV mX4_readLine [.ref 2] (sh, I, R) Q := by
  obtain ⟨h13, h3, h4, h2, htk, h5⟩ := id hK
  have hT2 := hT.2.1
  have ha : t.2.1 ≤ 200 := by have := htk.2.1; have := htk.2.2.1; omega
  refine eX4_readLine (bX4_readLine_0 hW (k_kindL hW hT hK (fun w ht1 hw => bX4_readLine_4 hW ?_) (fun hno => bX4_readLine_4 hW ?_)))
  · have hw6 := nmW_lt hw
    have el : lineP T D t = if w ≤ 2 ∧ D.1 w = true then .inl (4, t.2.1) else bnd (bodyP T (if w ≤ 2 then D.tell w else D) w t.2.2) (fun r => bnd (sgnP (nx T r.2)) (fun i => .inr (r.1, i))) := by
      unfold lineP; rw [if_pos ht1, hw]
    have hP : cP I T (.inr t.2.2) := ⟨h13, h2, htk.2.2.1⟩
    refine ⟨fun _ => ⟨fun z => ?_, fun z => ?_⟩, fun z => absurd z (nI_m1 (by omega))⟩
    · have hw2 := (nI_ltI (by omega) (by omega)).mp z
      rw [if_neg (by omega), if_neg (by omega)] at el
      exact k_body hW hT h51 hP (fun _ _ => hD) hok hw6 (fun I' d' hP' hD' => k I' d' (by rw [el]; exact hP') (fun r hr => hD' r (by rw [el] at hr; exact hr)))
    · have hw2 : w ≤ 2 := by
        rcases Nat.lt_or_ge 2 w with q | q
        · exact absurd (nI_lt q (by omega)) z
        · exact q
      have hi4 := hD.2.2.2.2.2.1 w (by omega)
      rw [nclamp (a := w) (by omega), nar1, hi4]
      refine ⟨vp_nI (by omega) (by omega), fun y => ⟨vp_nI (by omega) (by omega), ?_⟩, fun y => ?_⟩
      · have hf : D.1 w = false := by
          cases q : D.1 w with
          | false => rfl
          | true => rw [q] at y; exact absurd y (by decide)
        rw [if_neg (fun q => by rw [hf] at q; exact absurd q.2 (by decide)), if_pos hw2] at el
        have dJ : dF I (xi I 4 w (nI 1)) := dF.rf.xi (by simp) (by omega)
        refine k_body (D := D.tell w) hW (hT.dF dJ) (by rw [xi_p (by decide)]; exact h51) (cP_line rfl (by decide) hP) (fun _ _ => ?_) (tell_ok hok) hw6 (fun I' d' hP' hD' => k I' (dJ.tr d') (by rw [el]; exact hP') (fun r hr => hD' r (by rw [el] at hr; exact hr)))
        obtain ⟨a1, a2, a3, a4, a5, a6, a7, a8, a9⟩ := hD
        refine ⟨by rw [xi_p (by decide)]; exact a1, by rw [xi_p (by decide)]; exact a2, by rw [xi_p (by decide)]; exact a3, by rw [xi_p (by decide)]; exact a4, by rw [xi_p (by decide)]; exact a5, fun j hj => ?_, fun j hj => by rw [xi_p (by decide)]; exact a7 j hj, fun j hj => by rw [xi_p (by decide)]; exact a8 j hj, fun a x b ha hx hb => by rw [xi_p (by decide)]; exact a9 a x b ha hx hb⟩
        show _ = bI (if j = w then true else D.1 j)
        by_cases e : j = w
        · subst e; rw [xi_e, if_pos rfl]; rfl
        · rw [xi_s e, if_neg e]; exact a6 j hj
      · have ht : D.1 w = true := by
          cases q : D.1 w with
          | true => rfl
          | false => rw [q] at y; exact absurd rfl y
        rw [if_pos ⟨hw2, ht⟩] at el
        rw [h4]
        refine k_refuse hW h13 (by omega) (by omega) ha (fun I1 f1 _ c1 => bX4_readLine_43 hW ?_)
        rw [nclamp (a := w) (by omega), nar1]
        have dJ : dF I (xi I1 4 w (nI 1)) := f1.d.xi (by simp) (by omega)
        refine ⟨vp_nI (by omega) (by omega), k_body (D := D) (y := .inl (4, t.2.1)) hW (hT.dF dJ) (by rw [dJ.1.at 5 1 (by decide)]; exact h51) (cP_line rfl (by decide) c1) (fun i hi => absurd hi (by simp)) hok hw6 (fun I' d' hP' hD' => k I' (dJ.tr d') (by rw [el]; exact hP') (fun r hr => by rw [el] at hr; cases hr))⟩
  · have el : lineP T D t = .inl (2, t.2.1) := by
      unfold lineP
      by_cases q : t.1 = 1
      · rw [if_pos q, hno q]
      · rw [if_neg q]
    refine ⟨fun z => absurd rfl z, fun _ => ?_⟩
    rw [h4]
    exact k_refuse hW h13 (by omega) (by omega) ha (fun I1 f1 _ c1 => bX4_readLine_19 hW (k I1 f1.d (by rw [el]; exact c1) (fun r hr => by rw [el] at hr; cases hr)))
end CALL
