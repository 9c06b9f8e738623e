section INITS
variable {sh : List xSh} {I : Nat → Nat → Int32} {R : Nat → Nat → Option Nat}
theorem xRows.gr1 {sh' : List xSh} {R' : Nat → Nat → Option Nat} {p N K : Nat} (h : xRows sh R p N K) (hs : gS sh sh') (hr : R' p = R p) : xRows sh' R' p N K := ⟨hs _ _ h.1, fun j hj => by rw [hr]; exact ⟨(h.2 j hj).1, hs _ _ (h.2 j hj).2⟩⟩
theorem x5_init {q : Nat} {Q : xHp → Prop} (hq : sh[q]? = some (.inl 5)) (k : Q (sh, xi (xi I q 0 (nI 7)) q 1 (nI 2), R)) : Cl mX5_init [.ref q] (sh, I, R) 0 0 (xqV Q) := by
  show Ex mX5_init 0 [.ref q] [] (sh, I, R) 0 0 (xqV Q)
  refine xw_aload_n dX5_init_0 rfl rfl ?_
  refine xw_objInit dX5_init_1 lX5_3 ko_i ko_c (Nat.le_of_ble_eq_true rfl) (Nat.le_of_ble_eq_true rfl) (Nat.le_of_ble_eq_true rfl) ?_
  refine xw_aload_n dX5_init_4 rfl rfl ?_
  refine xw_bipush (v := nI 7) dX5_init_5 (by decide) ?_
  refine yw_putI dX5_init_7 fX5_11 (fun r h => by cases h; first | exact Or.inl rfl | exact Or.inr ⟨rfl, rfl, rfl⟩) rfl hq ?_
  refine xw_aload_n dX5_init_10 rfl rfl ?_
  refine xw_iconst (v := nI 2) dX5_init_11 rfl ?_
  refine yw_putI dX5_init_12 fX5_15 (fun r h => by cases h; first | exact Or.inl rfl | exact Or.inr ⟨rfl, rfl, rfl⟩) rfl hq ?_
  exact yw_vret dX5_init_15 rfl k
theorem x6_init {q : Nat} {Q : xHp → Prop} (hq : sh[q]? = some (.inl 6)) (hq1 : q + 1 = sh.length) (h1 : sh[1]? = some (.inl 5)) (h1q : 1 < q) (hl : sh.length + 2 ≤ 1000000)
    (k : ∀ sh' I' R', gS sh sh' → sh'.length = sh.length + 2 → (∀ a, a < q → I' a = I a ∧ R' a = R a) → xShelf sh' R' q → I' q 4 = -1 → (∀ j, R' (q + 1) j = none) → Q (sh', I', R')) : Cl mX6_init [.ref q, .ref 1] (sh, I, R) (0 + 1 + 1) (0 + 8 + 8) (xqV Q) := by
  show Ex mX6_init 0 [.ref q, .ref 1] [] (sh, I, R) (0 + 1 + 1) (0 + 8 + 8) (xqV Q)
  refine xw_aload_n dX6_init_0 rfl rfl ?_
  refine xw_objInit dX6_init_1 lX6_3 ko_i ko_c (Nat.le_of_ble_eq_true rfl) (Nat.le_of_ble_eq_true rfl) (Nat.le_of_ble_eq_true rfl) ?_
  refine xw_aload_n dX6_init_4 rfl rfl ?_
  refine xw_bipush (v := nI 8) dX6_init_5 (by decide) ?_
  refine ev_art (N := 8) (r := _) dX6_init_7 dX6_init_10 (Or.inr (Or.inr ⟨rfl, rfl⟩)) rfl qX6_9 rfl (by omega) fX6_11 (fun r h => by cases h; first | exact Or.inl rfl | exact Or.inr ⟨rfl, rfl, rfl⟩) rfl hq (by omega) (fun sh1 I1 R1 e1 => ?_)
  have l1 := e1.len
  have a1 := e1.S _ _ hq
  refine xw_aload_n dX6_init_13 rfl rfl ?_
  refine xw_bipush (v := nI 8) dX6_init_14 (by decide) ?_
  refine ev_arr (N := 8) dX6_init_16 dX6_init_18 (Or.inl ⟨rfl, rfl⟩) k_arrI rfl (by omega) fX6_17 (fun r h => by cases h; first | exact Or.inl rfl | exact Or.inr ⟨rfl, rfl, rfl⟩) rfl a1 (by omega) (fun sh2 I2 R2 e2 => ?_)
  have l2 := e2.len
  have a2 := e2.S _ _ a1
  have p1 : sh.length = q + 1 := hq1.symm
  have p2 : sh1.length = q + 2 := by omega
  refine xw_aload_n dX6_init_21 rfl rfl ?_
  refine xw_iconst (v := (-1)) dX6_init_22 rfl ?_
  refine yw_putI dX6_init_23 fX6_21 (fun r h => by cases h; first | exact Or.inl rfl | exact Or.inr ⟨rfl, rfl, rfl⟩) rfl a2 ?_
  refine xw_aload_n dX6_init_26 rfl rfl ?_
  refine xw_aload_n dX6_init_27 rfl rfl ?_
  refine yw_putR dX6_init_28 fX6_25 (fun r h => by cases h; first | exact Or.inl rfl | exact Or.inr ⟨rfl, rfl, rfl⟩) rfl a2 (e2.S _ _ (e1.S _ _ h1)) ?_
  refine yw_vret dX6_init_31 rfl ?_
  have s1 := e1.at; rw [p1] at s1
  have s2 := e2.at; rw [p2] at s2
  refine k sh2 _ _ (e1.S.tr e2.S) (by omega) (fun a ha => ⟨?_, ?_⟩) ⟨a2, e2.S _ _ s1, s2, ?_, ?_, ?_⟩ xi_e (fun j => ?_)
  · funext j; rw [xi_p (by omega), (e2.2.1 a (by omega) (by omega)).1, (e1.2.1 a (by omega) (by omega)).1]
  · funext j; rw [xr_p (by omega), (e2.2.1 a (by omega) (by omega)).2, (e1.2.1 a (by omega) (by omega)).2]
  · rw [xr_e]
  · rw [xr_s (by decide), e2.2.2.2.1 1 (by decide), e1.2.2.2.2.1, p1]
  · rw [xr_s (by decide), e2.2.2.2.2.1, p2]
  · rw [xr_p (by omega), (e2.2.1 (q + 1) (by omega) (by omega)).2, ← p1]; exact e1.2.2.2.2.2.2 j
theorem x7_init {q : Nat} {Q : xHp → Prop} (hq : sh[q]? = some (.inl 7)) (hq1 : q + 1 = sh.length) (h1 : sh[1]? = some (.inl 5)) (h1q : 1 < q) (hl : sh.length + 22 ≤ 1000000)
    (k : ∀ sh' I' R', gS sh sh' → sh'.length = sh.length + 21 → (∀ a, a < q → I' a = I a ∧ R' a = R a) → xSpan sh' R' q → Q (sh', I', R')) : Cl mX7_init [.ref q, .ref 1] (sh, I, R) (0 + 1 + 1 + 1 + (1 + 8) + (1 + 8)) (0 + 8 + 8 + 8 + (8 + 8 * 8) + (8 + 8 * 8)) (xqV Q) := by
  show Ex mX7_init 0 [.ref q, .ref 1] [] (sh, I, R) (0 + 1 + 1 + 1 + (1 + 8) + (1 + 8)) (0 + 8 + 8 + 8 + (8 + 8 * 8) + (8 + 8 * 8)) (xqV Q)
  refine xw_aload_n dX7_init_0 rfl rfl ?_
  refine xw_objInit dX7_init_1 lX7_3 ko_i ko_c (Nat.le_of_ble_eq_true rfl) (Nat.le_of_ble_eq_true rfl) (Nat.le_of_ble_eq_true rfl) ?_
  refine xw_aload_n dX7_init_4 rfl rfl ?_
  refine xw_bipush (v := nI 8) dX7_init_5 (by decide) ?_
  refine xw_bipush (v := nI 8) dX7_init_7 (by decide) ?_
  refine ev_mul (N := 8) (K := 8) dX7_init_9 dX7_init_13 qX7_11 rfl rfl (by omega) (by omega) fX7_13 (fun r h => by cases h; first | exact Or.inl rfl | exact Or.inr ⟨rfl, rfl, rfl⟩) rfl hq (by omega) (fun sh1 I1 R1 e1 => ?_)
  obtain ⟨g1, l1, u1, i1, r1, t1, z1, w1⟩ := e1
  have a1 := g1 _ _ hq
  refine xw_aload_n dX7_init_16 rfl rfl ?_
  refine xw_bipush (v := nI 8) dX7_init_17 (by decide) ?_
  refine xw_bipush (v := nI 8) dX7_init_19 (by decide) ?_
  refine ev_mul (N := 8) (K := 8) dX7_init_21 dX7_init_25 qX7_11 rfl rfl (by omega) (by omega) fX7_16 (fun r h => by cases h; first | exact Or.inl rfl | exact Or.inr ⟨rfl, rfl, rfl⟩) rfl a1 (by omega) (fun sh2 I2 R2 e2 => ?_)
  obtain ⟨g2, l2, u2, i2, r2, t2, z2, w2⟩ := e2
  have a2 := g2 _ _ a1
  refine xw_aload_n dX7_init_28 rfl rfl ?_
  refine xw_bipush (v := nI 8) dX7_init_29 (by decide) ?_
  refine ev_arr (N := 8) dX7_init_31 dX7_init_33 (Or.inl ⟨rfl, rfl⟩) k_arrI rfl (by omega) fX7_19 (fun r h => by cases h; first | exact Or.inl rfl | exact Or.inr ⟨rfl, rfl, rfl⟩) rfl a2 (by omega) (fun sh3 I3 R3 e3 => ?_)
  have l3 := e3.len
  have a3 := e3.S _ _ a2
  refine xw_aload_n dX7_init_36 rfl rfl ?_
  refine xw_bipush (v := nI 8) dX7_init_37 (by decide) ?_
  refine ev_arr (N := 8) dX7_init_39 dX7_init_41 (Or.inl ⟨rfl, rfl⟩) k_arrI rfl (by omega) fX7_23 (fun r h => by cases h; first | exact Or.inl rfl | exact Or.inr ⟨rfl, rfl, rfl⟩) rfl a3 (by omega) (fun sh4 I4 R4 e4 => ?_)
  have l4 := e4.len
  have a4 := e4.S _ _ a3
  refine xw_aload_n dX7_init_44 rfl rfl ?_
  refine xw_bipush (v := nI 8) dX7_init_45 (by decide) ?_
  refine ev_arr (N := 8) dX7_init_47 dX7_init_49 (Or.inl ⟨rfl, rfl⟩) k_arrI rfl (by omega) fX7_26 (fun r h => by cases h; first | exact Or.inl rfl | exact Or.inr ⟨rfl, rfl, rfl⟩) rfl a4 (by omega) (fun sh5 I5 R5 e5 => ?_)
  have l5 := e5.len
  have a5 := e5.S _ _ a4
  have g25 : gS sh2 sh5 := e3.S.tr (e4.S.tr e5.S)
  have g15 : gS sh1 sh5 := g2.tr g25
  refine xw_aload_n dX7_init_52 rfl rfl ?_
  refine xw_aload_n dX7_init_53 rfl rfl ?_
  refine yw_putR dX7_init_54 fX7_29 (fun r h => by cases h; first | exact Or.inl rfl | exact Or.inr ⟨rfl, rfl, rfl⟩) rfl a5 (g15 _ _ (g1 _ _ h1)) ?_
  refine yw_vret dX7_init_57 rfl ?_
  have p1 : sh.length = q + 1 := hq1.symm
  have p2 : sh1.length = q + 10 := by omega
  have p3 : sh2.length = q + 19 := by omega
  have p4 : sh3.length = q + 20 := by omega
  have p5 : sh4.length = q + 21 := by omega
  rw [p1] at w1 t1
  rw [p2] at w2 t2
  have s3 := e3.at; rw [p3] at s3
  have s4 := e4.at; rw [p4] at s4
  have s5 := e5.at; rw [p5] at s5
  have v3 := e3.2.2.2.2.1; rw [p3] at v3
  have v4 := e4.2.2.2.2.1; rw [p4] at v4
  have v5 := e5.2.2.2.2.1; rw [p5] at v5
  have ur : ∀ a, a ≠ q → a < sh2.length → xr R5 q 0 (some 1) a = R2 a := fun a h1 h2 => by
    funext j; rw [xr_p h1, (e5.2.1 a (by omega) h1).2, (e4.2.1 a (by omega) h1).2, (e3.2.1 a (by omega) h1).2]
  refine k sh5 I5 _ (g1.tr g15) (by omega) (fun a ha => ⟨?_, ?_⟩) ⟨a5, xr_e, ?_, ?_, ?_, ?_, ?_, (e4.S.tr e5.S) _ _ s3, e5.S _ _ s4, s5, ?_, ?_⟩
  · rw [(e5.2.1 a (by omega) (by omega)).1, (e4.2.1 a (by omega) (by omega)).1, (e3.2.1 a (by omega) (by omega)).1, (u2 a (by omega) (by omega)).1, (u1 a (by omega) (by omega)).1]
  · rw [ur a (by omega) (by omega), (u2 a (by omega) (by omega)).2, (u1 a (by omega) (by omega)).2]
  · rw [xr_s (by decide), e5.2.2.2.1 1 (by decide), e4.2.2.2.1 1 (by decide), e3.2.2.2.1 1 (by decide), r2 1 (by decide), t1]
  · rw [xr_s (by decide), e5.2.2.2.1 2 (by decide), e4.2.2.2.1 2 (by decide), e3.2.2.2.1 2 (by decide), t2]
  · rw [xr_s (by decide), e5.2.2.2.1 3 (by decide), e4.2.2.2.1 3 (by decide), v3]
  · rw [xr_s (by decide), e5.2.2.2.1 4 (by decide), v4]
  · rw [xr_s (by decide), v5]
  · exact w1.gr1 g15 (by rw [ur (q + 1) (by omega) (by omega), (u2 (q + 1) (by omega) (by omega)).2])
  · exact w2.gr1 g25 (ur (q + 10) (by omega) (by omega))
theorem x1_init {q : Nat} {Q : xHp → Prop} (hq : sh[q]? = some (.inl 1)) (hq1 : q + 1 = sh.length) (h1 : sh[1]? = some (.inl 5)) (h1q : 1 < q) (hl : sh.length + 90 ≤ 1000000)
    (k : ∀ sh' I' R', gS sh sh' → sh'.length = sh.length + 82 → (∀ a, a < q → I' a = I a ∧ R' a = R a) → sh'[q]? = some (.inl 1) → R' q 0 = some 1 → R' q 1 = some (q + 1) → R' q 2 = some (q + 42) → xRows sh' R' (q + 1) 40 4 → xRows sh' R' (q + 42) 40 4 → Q (sh', I', R')) : Cl mX1_init [.ref q, .ref 1] (sh, I, R) (0 + (1 + 40) + (1 + 40)) (0 + (40 + 40 * 4) + (40 + 40 * 4)) (xqV Q) := by
  show Ex mX1_init 0 [.ref q, .ref 1] [] (sh, I, R) (0 + (1 + 40) + (1 + 40)) (0 + (40 + 40 * 4) + (40 + 40 * 4)) (xqV Q)
  refine xw_aload_n dX1_init_0 rfl rfl ?_
  refine xw_objInit dX1_init_1 lX1_3 ko_i ko_c (Nat.le_of_ble_eq_true rfl) (Nat.le_of_ble_eq_true rfl) (Nat.le_of_ble_eq_true rfl) ?_
  refine xw_aload_n dX1_init_4 rfl rfl ?_
  refine xw_bipush (v := nI 40) dX1_init_5 (by decide) ?_
  refine xw_iconst (v := nI 4) dX1_init_7 rfl ?_
  refine ev_mul (N := 40) (K := 4) dX1_init_8 dX1_init_12 qX1_11 rfl rfl (by omega) (by omega) fX1_13 (fun r h => by cases h; first | exact Or.inl rfl | exact Or.inr ⟨rfl, rfl, rfl⟩) rfl hq (by omega) (fun sh1 I1 R1 e1 => ?_)
  obtain ⟨g1, l1, u1, i1, r1, t1, z1, w1⟩ := e1
  have a1 := g1 _ _ hq
  refine xw_aload_n dX1_init_15 rfl rfl ?_
  refine xw_bipush (v := nI 40) dX1_init_16 (by decide) ?_
  refine xw_iconst (v := nI 4) dX1_init_18 rfl ?_
  refine ev_mul (N := 40) (K := 4) dX1_init_19 dX1_init_23 qX1_11 rfl rfl (by omega) (by omega) fX1_16 (fun r h => by cases h; first | exact Or.inl rfl | exact Or.inr ⟨rfl, rfl, rfl⟩) rfl a1 (by omega) (fun sh2 I2 R2 e2 => ?_)
  obtain ⟨g2, l2, u2, i2, r2, t2, z2, w2⟩ := e2
  have a2 := g2 _ _ a1
  refine xw_aload_n dX1_init_26 rfl rfl ?_
  refine xw_aload_n dX1_init_27 rfl rfl ?_
  refine yw_putR dX1_init_28 fX1_19 (fun r h => by cases h; first | exact Or.inl rfl | exact Or.inr ⟨rfl, rfl, rfl⟩) rfl a2 (g2 _ _ (g1 _ _ h1)) ?_
  refine yw_vret dX1_init_31 rfl ?_
  have p1 : sh.length = q + 1 := hq1.symm
  have p2 : sh1.length = q + 42 := by omega
  rw [p1] at w1 t1
  rw [p2] at w2 t2
  refine k sh2 I2 _ (g1.tr g2) (by omega) (fun a ha => ⟨by rw [(u2 a (by omega) (by omega)).1, (u1 a (by omega) (by omega)).1], by funext j; rw [xr_p (by omega), (u2 a (by omega) (by omega)).2, (u1 a (by omega) (by omega)).2]⟩) a2 xr_e ?_ ?_ (w1.gr1 g2 ?_) (w2.gr1 (fun _ _ h => h) ?_)
  · rw [xr_s (by decide), r2 1 (by decide), t1]
  · rw [xr_s (by decide), t2]
  · funext j; rw [xr_p (by omega), (u2 (q + 1) (by omega) (by omega)).2]
  · funext j; rw [xr_p (by omega)]
end INITS
