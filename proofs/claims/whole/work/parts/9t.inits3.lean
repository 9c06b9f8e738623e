section INIT3
variable {sh : List xSh} {I : Nat → Nat → Int32} {R : Nat → Nat → Option Nat}
abbrev bcM : Nat := 0 + 1 + 1 + 1
abbrev bsM (M : Nat) : Nat := 0 + M * 3 * M + M + M
abbrev bcT : Nat := ((bcM + ((bcM + 0) + 1)) + 1) + 1 + 1
abbrev bsT : Nat := ((bsM 4 + ((bsM 4 + 0) + xN 3)) + xN 3) + 48 + 4
theorem x8_renew {q : Nat} {Q : xHp → Prop} (hq : xStudy sh R q) (k : Q (sh, (xi (xi (xi (xi (xi I q 5 (nI 0)) (q + 2) 0 (nI 0)) q 6 (nI 1)) q 7 (nI 0)) q 8 (nI 0)), R)) : CV mX8_renew [.ref q] (sh, I, R) Q := by
  refine eX8_renew ?_
  refine xw_aload_n dX8_renew_0 rfl rfl ?_
  refine xw_iconst (v := nI 0) dX8_renew_1 rfl ?_
  refine yw_putI dX8_renew_2 fX8_37 (fun r h => by cases h; exact Or.inl rfl) rfl hq.1 ?_
  refine xw_aload_n dX8_renew_5 rfl rfl ?_
  refine yw_getR (r := (q + 2)) dX8_renew_6 fX8_15 rfl hq.1 hq.2.2.2.2.2.1 ?_
  refine xw_iconst (v := nI 0) dX8_renew_9 rfl ?_
  refine xw_iconst (v := nI 0) dX8_renew_10 rfl ?_
  refine yw_iastore dX8_renew_11 hq.2.2.1 (vp_nI (by omega) (by omega)) ?_
  rw [nclamp (a := 0) (by omega)]
  refine xw_aload_n dX8_renew_12 rfl rfl ?_
  refine xw_iconst (v := nI 1) dX8_renew_13 rfl ?_
  refine yw_putI dX8_renew_14 fX8_41 (fun r h => by cases h; exact Or.inl rfl) rfl hq.1 ?_
  refine xw_aload_n dX8_renew_17 rfl rfl ?_
  refine xw_iconst (v := nI 0) dX8_renew_18 rfl ?_
  refine yw_putI dX8_renew_19 fX8_44 (fun r h => by cases h; exact Or.inl rfl) rfl hq.1 ?_
  refine xw_aload_n dX8_renew_22 rfl rfl ?_
  refine xw_iconst (v := nI 0) dX8_renew_23 rfl ?_
  refine yw_putZ dX8_renew_24 fX8_47 (fun r h => by cases h; exact Or.inl rfl) rfl (Or.inl rfl) hq.1 ?_
  exact yw_vret dX8_renew_27 rfl k
theorem x8_init {q : Nat} {Q : xHp → Prop} (hq : sh[q]? = some (.inl 8)) (hq1 : q + 1 = sh.length) (h1 : sh[1]? = some (.inl 5)) (h1q : 1 < q) (hl : sh.length + 20 ≤ 1000000)
    (k : ∀ sh' I' R', gS sh sh' → sh'.length = sh.length + 10 → (∀ a, a < q → I' a = I a ∧ R' a = R a) → xStudy sh' R' q → I' q 5 = nI 0 → I' q 6 = nI 1 → I' q 7 = nI 0 → I' q 8 = nI 0 → I' (q + 2) 0 = nI 0 → I' (q + 3) 1 = nI 4 → (∀ j, j ≠ 1 → I' (q + 3) j = 0) → (∀ c, c = q + 4 ∨ c = q + 5 ∨ c = q + 6 → ∀ j, I' c j = 0) → I' (q + 7) 1 = nI 4 → (∀ j, j ≠ 1 → I' (q + 7) j = 0) → Q (sh', I', R')) : Cl mX8_init [.ref q, .ref 1] (sh, I, R) bcT bsT (xqV Q) := by
  show Ex mX8_init 0 [.ref q, .ref 1] [] (sh, I, R) bcT bsT (xqV Q)
  refine xw_aload_n dX8_init_0 rfl rfl ?_
  refine xw_objInit dX8_init_1 lX8_3 ko_i ko_c (Nat.le_of_ble_eq_true rfl) (Nat.le_of_ble_eq_true rfl) (Nat.le_of_ble_eq_true rfl) ?_
  refine xw_aload_n dX8_init_4 rfl rfl ?_
  refine xw_iconst (v := nI 4) dX8_init_5 rfl ?_
  refine ev_arr (N := 4) (mc := ((bcM + ((bcM + 0) + 1)) + 1) + 1) (ms := ((bsM 4 + ((bsM 4 + 0) + xN 3)) + xN 3) + 48) dX8_init_6 dX8_init_8 (Or.inl ⟨rfl, rfl⟩) k_arrI rfl (by omega) fX8_9 (fun r h => by cases h; first | exact Or.inl rfl | exact Or.inr ⟨rfl, rfl, rfl⟩) rfl hq (by omega) (fun sh1 I1 R1 e1 => ?_)
  have l1 := e1.len
  have a1 := e1.S _ _ hq
  refine xw_aload_n dX8_init_11 rfl rfl ?_
  refine xw_bipush (v := nI 48) dX8_init_12 (by decide) ?_
  refine ev_arr (N := 48) (mc := (bcM + ((bcM + 0) + 1)) + 1) (ms := (bsM 4 + ((bsM 4 + 0) + xN 3)) + xN 3) dX8_init_14 dX8_init_16 (Or.inl ⟨rfl, rfl⟩) k_arrI rfl (by omega) fX8_15 (fun r h => by cases h; first | exact Or.inl rfl | exact Or.inr ⟨rfl, rfl, rfl⟩) rfl a1 (by omega) (fun sh2 I2 R2 e2 => ?_)
  have l2 := e2.len
  have a2 := e2.S _ _ a1
  have b1 := e2.S _ _ (e1.S _ _ h1)
  refine xw_aload_n dX8_init_19 rfl rfl ?_
  refine xw_aload_n dX8_init_20 rfl rfl ?_
  refine yw_putR dX8_init_21 fX8_18 (fun r h => by cases h; first | exact Or.inl rfl | exact Or.inr ⟨rfl, rfl, rfl⟩) rfl a2 b1 ?_
  refine xw_aload_n dX8_init_24 rfl rfl ?_
  refine ev_mach (M := 4) (mc := (bcM + 0) + 1) (ms := (bsM 4 + 0) + xN 3) dX8_init_25 dX8_init_28 dX8_init_29 dX8_init_30 rfl dX8_init_31 dX8_init_34 nX8_22 lX8_24 (xB_of rfl) fX8_27 (fun r h => by cases h; first | exact Or.inl rfl | exact Or.inr ⟨rfl, rfl, rfl⟩) rfl a2 (by omega) b1 h1q (by omega) (fun sh3 I3 R3 e3 m3 i31 i32 i33 => ?_)
  obtain ⟨g3, l3, u3, i3, r3, t3⟩ := e3
  have a3 := g3 _ _ a2
  refine xw_aload_n dX8_init_37 rfl rfl ?_
  refine ev_mach (M := 4) (mc := 0) (ms := 0) dX8_init_38 dX8_init_41 dX8_init_42 dX8_init_43 rfl dX8_init_44 dX8_init_47 nX8_22 lX8_24 (xB_of rfl) fX8_31 (fun r h => by cases h; first | exact Or.inl rfl | exact Or.inr ⟨rfl, rfl, rfl⟩) rfl a3 (by omega) (g3 _ _ b1) h1q (by omega) (fun sh4 I4 R4 e4 m4 i41 i42 i43 => ?_)
  obtain ⟨g4, l4, u4, i4, r4, t4⟩ := e4
  have a4 := g4 _ _ a3
  have p1 : sh.length = q + 1 := hq1.symm
  have p2 : sh1.length = q + 2 := by omega
  have p3 : sh2.length = q + 3 := by omega
  have p4 : sh3.length = q + 7 := by omega
  have s1 := e1.at; rw [p1] at s1
  have s2 := e2.at; rw [p2] at s2
  have v1 := e1.2.2.2.2.1; rw [p1] at v1
  have v2 := e2.2.2.2.2.1; rw [p2] at v2
  rw [p3] at m3 t3 i31 i32 i33
  rw [p4] at m4 t4 i41 i42 i43
  have hst : xStudy sh4 R4 q := by
    refine ⟨a4, g4 _ _ (g3 _ _ (e2.S _ _ s1)), g4 _ _ (g3 _ _ s2), ?_, ?_, ?_, ?_, t4, m3.gr1 g4 (u4 (q + 3) (by omega) (by omega)).2, m4⟩
    · rw [r4 0 (by decide), r3 0 (by decide), xr_e]
    · rw [r4 3 (by decide), r3 3 (by decide), xr_s (by decide), e2.2.2.2.1 3 (by decide), v1]
    · rw [r4 4 (by decide), r3 4 (by decide), xr_s (by decide), v2]
    · rw [r4 1 (by decide), t3]
  refine xw_aload_n dX8_init_50 rfl rfl ?_
  refine yw_cV (As := []) (b := q) (st := []) dX8_init_51 lX8_34 kiX8_renew kvX8_renew rfl rfl rfl a4 rfl (Nat.le_of_ble_eq_true rfl) rfl (xk_V (x8_renew hst ?_))
  refine yw_vret dX8_init_54 rfl ?_
  generalize hJ : xi (xi (xi (xi (xi I4 q 5 (nI 0)) (q + 2) 0 (nI 0)) q 6 (nI 1)) q 7 (nI 0)) q 8 (nI 0) = J
  have gJ : ∀ c, c ≠ q → c ≠ q + 2 → J c = I4 c := fun c h1 h2 => by funext j; rw [← hJ, xi_p h1, xi_p h1, xi_p h1, xi_p h2, xi_p h1]
  refine k sh4 J R4 (e1.S.tr (e2.S.tr (g3.tr g4))) (by omega) (fun a ha => ⟨?_, ?_⟩) hst ?_ ?_ ?_ ?_ ?_ ?_ (fun j hj => ?_) (fun c hc j => ?_) ?_ (fun j hj => ?_)
  · rw [gJ a (by omega) (by omega), (u4 a (by omega) (by omega)).1, (u3 a (by omega) (by omega)).1, (e2.2.1 a (by omega) (by omega)).1, (e1.2.1 a (by omega) (by omega)).1]
  · rw [(u4 a (by omega) (by omega)).2, (u3 a (by omega) (by omega)).2]; funext j; rw [xr_p (by omega), (e2.2.1 a (by omega) (by omega)).2, (e1.2.1 a (by omega) (by omega)).2]
  · rw [← hJ, xi_s (by decide), xi_s (by decide), xi_s (by decide), xi_p (by omega), xi_e]
  · rw [← hJ, xi_s (by decide), xi_s (by decide), xi_e]
  · rw [← hJ, xi_s (by decide), xi_e]
  · rw [← hJ, xi_e]
  · rw [← hJ, xi_p (by omega), xi_p (by omega), xi_p (by omega), xi_e]
  · rw [gJ _ (by omega) (by omega), (u4 (q + 3) (by omega) (by omega)).1]; exact i31
  · rw [gJ _ (by omega) (by omega), (u4 (q + 3) (by omega) (by omega)).1]; exact i32 j hj
  · rw [gJ _ (by omega) (by omega), (u4 c (by omega) (by omega)).1]; exact i33 c (by omega) j
  · rw [gJ _ (by omega) (by omega)]; exact i41
  · rw [gJ _ (by omega) (by omega)]; exact i42 j hj
abbrev bcB1 : Nat := (bcM + 0) + 1
abbrev bsB1 : Nat := (bsM 0 + 0) + xN 3
abbrev bcB2 : Nat := (bcS + bcB1) + 1
abbrev bsB2 : Nat := (bsS + bsB1) + xN 7
abbrev bcB3 : Nat := (bcS + bcB2) + 1
abbrev bsB3 : Nat := (bsS + bsB2) + xN 7
abbrev bcB : Nat := bcB3 + 1 + 1 + 1 + 1 + (1 + 8) + 1
abbrev bsB : Nat := bsB3 + 8 + 8 + 12 + 8 + (8 + 8 * 8) + 8
theorem x0_init {q : Nat} {Q : xHp → Prop} (hq : sh[q]? = some (.inl 0)) (hq1 : q + 1 = sh.length) (h1 : sh[1]? = some (.inl 5)) (h1q : 1 < q) (hl : sh.length + 100 ≤ 1000000)
    (k : ∀ sh' I' R', gS sh sh' → sh'.length = sh.length + 62 → (∀ a, a < q → I' a = I a ∧ R' a = R a) → sh'[q]? = some (.inl 0) → R' q 0 = some 1 → R' q 1 = some (q + 15) → R' q 2 = some (q + 37) → R' q 3 = some (q + 1) → R' q 4 = some (q + 2) → R' q 5 = some (q + 11) → R' q 6 = some (q + 12) → R' q 7 = some (q + 13) → R' q 8 = some (q + 14) → sh'[q + 1]? = some (.inr (0, 8)) → sh'[q + 11]? = some (.inr (0, 8)) → sh'[q + 12]? = some (.inr (0, 12)) → sh'[q + 13]? = some (.inr (0, 8)) → sh'[q + 14]? = some (.inr (0, 8)) → xRows sh' R' (q + 2) 8 8 → xSpan sh' R' (q + 15) → xSpan sh' R' (q + 37) → xMach sh' R' (q + 59) 0 → Q (sh', I', R')) : Cl mX0_init [.ref q, .ref 1] (sh, I, R) bcB bsB (xqV Q) := by
  show Ex mX0_init 0 [.ref q, .ref 1] [] (sh, I, R) bcB bsB (xqV Q)
  refine xw_aload_n dX0_init_0 rfl rfl ?_
  refine xw_objInit dX0_init_1 lX0_3 ko_i ko_c (Nat.le_of_ble_eq_true rfl) (Nat.le_of_ble_eq_true rfl) (Nat.le_of_ble_eq_true rfl) ?_
  refine xw_aload_n dX0_init_4 rfl rfl ?_
  refine xw_bipush (v := nI 8) dX0_init_5 (by decide) ?_
  refine ev_arr (N := 8) (mc := bcB3 + 1 + 1 + 1 + 1 + (1 + 8)) (ms := bsB3 + 8 + 8 + 12 + 8 + (8 + 8 * 8)) dX0_init_7 dX0_init_9 (Or.inl ⟨rfl, rfl⟩) k_arrI rfl (by omega) fX0_11 (fun r h => by cases h; first | exact Or.inl rfl | exact Or.inr ⟨rfl, rfl, rfl⟩) rfl hq (by omega) (fun sh1 I1 R1 e1 => ?_)
  have l1 := e1.len
  have a1 := e1.S _ _ hq
  refine xw_aload_n dX0_init_12 rfl rfl ?_
  refine xw_bipush (v := nI 8) dX0_init_13 (by decide) ?_
  refine xw_bipush (v := nI 8) dX0_init_15 (by decide) ?_
  refine ev_mul (N := 8) (K := 8) (mc := bcB3 + 1 + 1 + 1 + 1) (ms := bsB3 + 8 + 8 + 12 + 8) dX0_init_17 dX0_init_21 qX0_17 rfl rfl (by omega) (by omega) fX0_19 (fun r h => by cases h; first | exact Or.inl rfl | exact Or.inr ⟨rfl, rfl, rfl⟩) rfl a1 (by omega) (fun sh2 I2 R2 e2 => ?_)
  obtain ⟨g2, l2, u2, i2, r2, t2, z2, w2⟩ := e2
  have a2 := g2 _ _ a1
  refine xw_aload_n dX0_init_24 rfl rfl ?_
  refine xw_bipush (v := nI 8) dX0_init_25 (by decide) ?_
  refine ev_arr (N := 8) (mc := bcB3 + 1 + 1 + 1) (ms := bsB3 + 8 + 8 + 12) dX0_init_27 dX0_init_29 (Or.inl ⟨rfl, rfl⟩) k_arrI rfl (by omega) fX0_22 (fun r h => by cases h; first | exact Or.inl rfl | exact Or.inr ⟨rfl, rfl, rfl⟩) rfl a2 (by omega) (fun sh3 I3 R3 e3 => ?_)
  have l3 := e3.len
  have a3 := e3.S _ _ a2
  refine xw_aload_n dX0_init_32 rfl rfl ?_
  refine xw_bipush (v := nI 12) dX0_init_33 (by decide) ?_
  refine ev_arr (N := 12) (mc := bcB3 + 1 + 1) (ms := bsB3 + 8 + 8) dX0_init_35 dX0_init_37 (Or.inl ⟨rfl, rfl⟩) k_arrI rfl (by omega) fX0_25 (fun r h => by cases h; first | exact Or.inl rfl | exact Or.inr ⟨rfl, rfl, rfl⟩) rfl a3 (by omega) (fun sh4 I4 R4 e4 => ?_)
  have l4 := e4.len
  have a4 := e4.S _ _ a3
  refine xw_aload_n dX0_init_40 rfl rfl ?_
  refine xw_bipush (v := nI 8) dX0_init_41 (by decide) ?_
  refine ev_arr (N := 8) (mc := bcB3 + 1) (ms := bsB3 + 8) dX0_init_43 dX0_init_45 (Or.inl ⟨rfl, rfl⟩) k_arrI rfl (by omega) fX0_28 (fun r h => by cases h; first | exact Or.inl rfl | exact Or.inr ⟨rfl, rfl, rfl⟩) rfl a4 (by omega) (fun sh5 I5 R5 e5 => ?_)
  have l5 := e5.len
  have a5 := e5.S _ _ a4
  refine xw_aload_n dX0_init_48 rfl rfl ?_
  refine xw_bipush (v := nI 8) dX0_init_49 (by decide) ?_
  refine ev_arr (N := 8) (mc := bcB3) (ms := bsB3) dX0_init_51 dX0_init_53 (Or.inl ⟨rfl, rfl⟩) k_arrI rfl (by omega) fX0_31 (fun r h => by cases h; first | exact Or.inl rfl | exact Or.inr ⟨rfl, rfl, rfl⟩) rfl a5 (by omega) (fun sh6 I6 R6 e6 => ?_)
  have l6 := e6.len
  have a6 := e6.S _ _ a5
  have g26 : gS sh2 sh6 := e3.S.tr (e4.S.tr (e5.S.tr e6.S))
  have b6 : sh6[1]? = some (.inl 5) := g26 _ _ (g2 _ _ (e1.S _ _ h1))
  refine xw_aload_n dX0_init_56 rfl rfl ?_
  refine xw_aload_n dX0_init_57 rfl rfl ?_
  refine yw_putR dX0_init_58 fX0_34 (fun r h => by cases h; first | exact Or.inl rfl | exact Or.inr ⟨rfl, rfl, rfl⟩) rfl a6 b6 ?_
  refine xw_aload_n dX0_init_61 rfl rfl ?_
  refine ev_span (mc := bcB2) (ms := bsB2) dX0_init_62 dX0_init_65 dX0_init_66 dX0_init_67 dX0_init_70 nX0_9 lX0_38 (xB_of rfl) fX0_41 (fun r h => by cases h; first | exact Or.inl rfl | exact Or.inr ⟨rfl, rfl, rfl⟩) rfl a6 b6 h1q (by omega) (fun sh7 I7 R7 e7 m7 => ?_)
  obtain ⟨g7, l7, u7, i7, r7, t7⟩ := e7
  have a7 := g7 _ _ a6
  refine xw_aload_n dX0_init_73 rfl rfl ?_
  refine ev_span (mc := bcB1) (ms := bsB1) dX0_init_74 dX0_init_77 dX0_init_78 dX0_init_79 dX0_init_82 nX0_9 lX0_38 (xB_of rfl) fX0_45 (fun r h => by cases h; first | exact Or.inl rfl | exact Or.inr ⟨rfl, rfl, rfl⟩) rfl a7 (g7 _ _ b6) h1q (by omega) (fun sh8 I8 R8 e8 m8 => ?_)
  obtain ⟨g8, l8, u8, i8, r8, t8⟩ := e8
  have a8 := g8 _ _ a7
  refine xw_aload_n dX0_init_85 rfl rfl ?_
  refine ev_mach (M := 0) (mc := 0) (ms := 0) dX0_init_86 dX0_init_89 dX0_init_90 dX0_init_91 rfl dX0_init_92 dX0_init_95 nX0_48 lX0_50 (xB_of rfl) fX0_53 (fun r h => by cases h; first | exact Or.inl rfl | exact Or.inr ⟨rfl, rfl, rfl⟩) rfl a8 (by omega) (g8 _ _ (g7 _ _ b6)) h1q (by omega) (fun sh9 I9 R9 e9 m9 _ _ _ => ?_)
  obtain ⟨g9, l9, u9, i9, r9, t9⟩ := e9
  refine yw_vret dX0_init_98 rfl ?_
  have p1 : sh.length = q + 1 := hq1.symm
  have p2 : sh1.length = q + 2 := by omega
  have p3 : sh2.length = q + 11 := by omega
  have p4 : sh3.length = q + 12 := by omega
  have p5 : sh4.length = q + 13 := by omega
  have p6 : sh5.length = q + 14 := by omega
  have p7 : sh6.length = q + 15 := by omega
  have p8 : sh7.length = q + 37 := by omega
  have p9 : sh8.length = q + 59 := by omega
  have s1 := e1.at; rw [p1] at s1
  have s3 := e3.at; rw [p3] at s3
  have s4 := e4.at; rw [p4] at s4
  have s5 := e5.at; rw [p5] at s5
  have s6 := e6.at; rw [p6] at s6
  have v1 := e1.2.2.2.2.1; rw [p1] at v1
  have v3 := e3.2.2.2.2.1; rw [p3] at v3
  have v4 := e4.2.2.2.2.1; rw [p4] at v4
  have v5 := e5.2.2.2.2.1; rw [p5] at v5
  have v6 := e6.2.2.2.2.1; rw [p6] at v6
  rw [p2] at t2 w2
  rw [p7] at m7 t7
  rw [p8] at m8 t8
  rw [p9] at m9
  have g69 : gS sh6 sh9 := g7.tr (g8.tr g9)
  have x6 : ∀ j, j ≠ 0 → j ≠ 1 → j ≠ 2 → j ≠ 9 → R9 q j = R6 q j := fun j h0 h1 h2 h9 => by rw [r9 j h9, r8 j h2, r7 j h1, xr_s h0]
  have ua : ∀ a, a ≠ q → a < sh2.length → I9 a = I2 a ∧ R9 a = R2 a := fun a h1 h2 => by
    refine ⟨?_, ?_⟩
    · rw [(u9 a (by omega) h1).1, (u8 a (by omega) h1).1, (u7 a (by omega) h1).1, (e6.2.1 a (by omega) h1).1, (e5.2.1 a (by omega) h1).1, (e4.2.1 a (by omega) h1).1, (e3.2.1 a (by omega) h1).1]
    · rw [(u9 a (by omega) h1).2, (u8 a (by omega) h1).2, (u7 a (by omega) h1).2]; funext j; rw [xr_p h1, (e6.2.1 a (by omega) h1).2, (e5.2.1 a (by omega) h1).2, (e4.2.1 a (by omega) h1).2, (e3.2.1 a (by omega) h1).2]
  refine k sh9 I9 R9 (e1.S.tr (g2.tr (g26.tr g69))) (by omega) (fun a ha => ⟨?_, ?_⟩) (g9 _ _ a8) ?_ ?_ ?_ ?_ ?_ ?_ ?_ ?_ ?_ (g69 _ _ (g26 _ _ (g2 _ _ s1))) (g69 _ _ (e6.S _ _ (e5.S _ _ (e4.S _ _ s3)))) (g69 _ _ (e6.S _ _ (e5.S _ _ s4))) (g69 _ _ (e6.S _ _ s5)) (g69 _ _ s6) (w2.gr1 (g26.tr g69) (ua _ (by omega) (by omega)).2) (m7.gr1 (g8.tr g9) (fun a h1 h2 => ?_)) (m8.gr1 g9 (fun a h1 h2 => (u9 a (by omega) (by omega)).2)) m9
  · rw [(ua a (by omega) (by omega)).1, (u2 a (by omega) (by omega)).1, (e1.2.1 a (by omega) (by omega)).1]
  · rw [(ua a (by omega) (by omega)).2, (u2 a (by omega) (by omega)).2, (e1.2.1 a (by omega) (by omega)).2]
  · rw [r9 0 (by decide), r8 0 (by decide), r7 0 (by decide), xr_e]
  · rw [r9 1 (by decide), r8 1 (by decide), t7]
  · rw [r9 2 (by decide), t8]
  · rw [x6 3 (by decide) (by decide) (by decide) (by decide), e6.2.2.2.1 3 (by decide), e5.2.2.2.1 3 (by decide), e4.2.2.2.1 3 (by decide), e3.2.2.2.1 3 (by decide), r2 3 (by decide), v1]
  · rw [x6 4 (by decide) (by decide) (by decide) (by decide), e6.2.2.2.1 4 (by decide), e5.2.2.2.1 4 (by decide), e4.2.2.2.1 4 (by decide), e3.2.2.2.1 4 (by decide), t2]
  · rw [x6 5 (by decide) (by decide) (by decide) (by decide), e6.2.2.2.1 5 (by decide), e5.2.2.2.1 5 (by decide), e4.2.2.2.1 5 (by decide), v3]
  · rw [x6 6 (by decide) (by decide) (by decide) (by decide), e6.2.2.2.1 6 (by decide), e5.2.2.2.1 6 (by decide), v4]
  · rw [x6 7 (by decide) (by decide) (by decide) (by decide), e6.2.2.2.1 7 (by decide), v5]
  · rw [x6 8 (by decide) (by decide) (by decide) (by decide), v6]
  · rw [(u9 a (by omega) (by omega)).2, (u8 a (by omega) (by omega)).2]
end INIT3
