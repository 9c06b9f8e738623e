section X10A
variable {sh : List xSh} {I : Nat → Nat → Int32} {R : Nat → Nat → Option Nat}
abbrev xc0 : Nat := ((((((((((((((((((((0 + 1) + 1) + 1) + 1) + 1) + 1) + 1) + 1) + 1) + 1) + 1) + 1) + 1) + 1) + 1) + 1) + 1) + 1) + 1) + 1)
abbrev xs0 : Nat := ((((((((((((((((((((0 + 24) + 3) + 3) + 140) + 2) + 16) + 12) + 1000) + 3) + 30) + 7) + 200) + 5) + 60) + 5) + 4) + 300) + 4) + 4) + 1881)
theorem x10_walk {Q : Option Value → xHp → Prop} (z0 : sh[209]? = some (.inl 10)) (n0 : sh.length = 210) (hz : ∀ j, I 209 j = 0) (k : ∀ sh' I' R', sh'.length = 230 → gS sh sh' → (∀ a, a < 209 → I' a = I a ∧ R' a = R a) → (sh'[210]? = some (.inr (0, 1881)) ∧ sh'[211]? = some (.inr (0, 4)) ∧ sh'[212]? = some (.inr (0, 4)) ∧ sh'[213]? = some (.inr (0, 300)) ∧ sh'[214]? = some (.inr (0, 4)) ∧ sh'[215]? = some (.inr (0, 5)) ∧ sh'[216]? = some (.inr (0, 60)) ∧ sh'[217]? = some (.inr (0, 5)) ∧ sh'[218]? = some (.inr (0, 200)) ∧ sh'[219]? = some (.inr (0, 7)) ∧ sh'[220]? = some (.inr (0, 30)) ∧ sh'[221]? = some (.inr (1, 3)) ∧ sh'[222]? = some (.inr (0, 1000)) ∧ sh'[223]? = some (.inr (0, 12)) ∧ sh'[224]? = some (.inr (0, 16)) ∧ sh'[225]? = some (.inr (1, 2)) ∧ sh'[226]? = some (.inr (0, 140)) ∧ sh'[227]? = some (.inr (0, 3)) ∧ sh'[228]? = some (.inr (0, 3)) ∧ sh'[229]? = some (.inr (0, 24))) → (R' 209 0 = some 210 ∧ R' 209 4 = some 211 ∧ R' 209 5 = some 212 ∧ R' 209 6 = some 213 ∧ R' 209 7 = some 214 ∧ R' 209 8 = some 215 ∧ R' 209 9 = some 216 ∧ R' 209 13 = some 217 ∧ R' 209 15 = some 218 ∧ R' 209 23 = some 219 ∧ R' 209 24 = some 220 ∧ R' 209 25 = some 221 ∧ R' 209 30 = some 222 ∧ R' 209 31 = some 223 ∧ R' 209 33 = some 224 ∧ R' 209 36 = some 225 ∧ R' 209 37 = some 226 ∧ R' 209 38 = some 227 ∧ R' 209 39 = some 228 ∧ R' 209 40 = some 229) → ((∀ j, I' 210 j = 0) ∧ (∀ j, I' 211 j = 0) ∧ (∀ j, I' 212 j = 0) ∧ (∀ j, I' 213 j = 0) ∧ (∀ j, I' 214 j = 0) ∧ (∀ j, I' 215 j = 0) ∧ (∀ j, I' 216 j = 0) ∧ (∀ j, I' 217 j = 0) ∧ (∀ j, I' 218 j = 0) ∧ (∀ j, I' 221 j = 0) ∧ (∀ j, I' 222 j = 0) ∧ (∀ j, I' 223 j = 0) ∧ (∀ j, I' 224 j = 0) ∧ (∀ j, I' 225 j = 0) ∧ (∀ j, I' 226 j = 0) ∧ (∀ j, I' 227 j = 0) ∧ (∀ j, I' 228 j = 0) ∧ (∀ j, I' 229 j = 0)) → (∀ j, j < 7 → I' 219 j = nI (nmE.getD j 0)) → (∀ j, j < 30 → I' 220 j = nI (nmL.getD j 0)) → (I' 209 1 = nI 7 ∧ I' 209 2 = nI 2 ∧ ∀ j, j ≠ 1 → j ≠ 2 → I' 209 j = 0) → Ex mX10_init 379 [.ref 209, xU] [] (sh', I', R') 0 0 Q) : Ex mX10_init 0 [.ref 209, xU] [] (sh, I, R) xc0 xs0 Q := by
  refine xw_aload_n dX10_init_0 rfl rfl ?_
  refine xw_objInit dX10_init_1 lX10_1 ko_i ko_c (Nat.le_of_ble_eq_true rfl) (Nat.le_of_ble_eq_true rfl) (Nat.le_of_ble_eq_true rfl) ?_
  refine xw_aload_n dX10_init_4 rfl rfl ?_
  refine xw_sipush (v := nI 1881) dX10_init_5 (by decide) ?_
  refine ev_arr (N := 1881) (q := 209) (mc := (((((((((((((((((((0 + 1) + 1) + 1) + 1) + 1) + 1) + 1) + 1) + 1) + 1) + 1) + 1) + 1) + 1) + 1) + 1) + 1) + 1) + 1)) (ms := (((((((((((((((((((0 + 24) + 3) + 3) + 140) + 2) + 16) + 12) + 1000) + 3) + 30) + 7) + 200) + 5) + 60) + 5) + 4) + 300) + 4) + 4)) dX10_init_8 dX10_init_10 (Or.inl ⟨rfl, rfl⟩) k_arrI rfl (by omega) fX10_7 (fun r h => by cases h; first | exact Or.inl rfl | exact Or.inr ⟨rfl, rfl, rfl⟩) rfl z0 (by omega) (fun sh1 I1 R1 e1 => ?_)
  have n1 : sh1.length = 211 := by have := e1.len; omega
  have z1 := e1.S _ _ z0
  have c1 := e1.at
  have t1 := e1.2.2.2.2.1
  rw [n0] at c1 t1
  refine xw_aload_n dX10_init_13 rfl rfl ?_
  refine xw_bipush (v := nI 7) dX10_init_14 (by decide) ?_
  refine yw_putI dX10_init_16 fX10_13 (fun r h => by cases h; first | exact Or.inl rfl | exact Or.inr ⟨rfl, rfl, rfl⟩) rfl z1 ?_
  refine xw_aload_n dX10_init_19 rfl rfl ?_
  refine xw_iconst (v := nI 2) dX10_init_20 rfl ?_
  refine yw_putI dX10_init_21 fX10_17 (fun r h => by cases h; first | exact Or.inl rfl | exact Or.inr ⟨rfl, rfl, rfl⟩) rfl z1 ?_
  generalize hK1 : xi (xi I1 209 1 (nI 7)) 209 2 (nI 2) = K1
  refine xw_aload_n dX10_init_24 rfl rfl ?_
  refine xw_iconst (v := nI 4) dX10_init_25 rfl ?_
  refine ev_arr (N := 4) (q := 209) (mc := ((((((((((((((((((0 + 1) + 1) + 1) + 1) + 1) + 1) + 1) + 1) + 1) + 1) + 1) + 1) + 1) + 1) + 1) + 1) + 1) + 1)) (ms := ((((((((((((((((((0 + 24) + 3) + 3) + 140) + 2) + 16) + 12) + 1000) + 3) + 30) + 7) + 200) + 5) + 60) + 5) + 4) + 300) + 4)) dX10_init_26 dX10_init_28 (Or.inl ⟨rfl, rfl⟩) k_arrI rfl (by omega) fX10_20 (fun r h => by cases h; first | exact Or.inl rfl | exact Or.inr ⟨rfl, rfl, rfl⟩) rfl z1 (by omega) (fun sh2 I2 R2 e2 => ?_)
  have n2 : sh2.length = 212 := by have := e2.len; omega
  have z2 := e2.S _ _ z1
  have c2 := e2.at
  have t2 := e2.2.2.2.2.1
  rw [n1] at c2 t2
  refine xw_aload_n dX10_init_31 rfl rfl ?_
  refine xw_iconst (v := nI 4) dX10_init_32 rfl ?_
  refine ev_arr (N := 4) (q := 209) (mc := (((((((((((((((((0 + 1) + 1) + 1) + 1) + 1) + 1) + 1) + 1) + 1) + 1) + 1) + 1) + 1) + 1) + 1) + 1) + 1)) (ms := (((((((((((((((((0 + 24) + 3) + 3) + 140) + 2) + 16) + 12) + 1000) + 3) + 30) + 7) + 200) + 5) + 60) + 5) + 4) + 300)) dX10_init_33 dX10_init_35 (Or.inl ⟨rfl, rfl⟩) k_arrI rfl (by omega) fX10_23 (fun r h => by cases h; first | exact Or.inl rfl | exact Or.inr ⟨rfl, rfl, rfl⟩) rfl z2 (by omega) (fun sh3 I3 R3 e3 => ?_)
  have n3 : sh3.length = 213 := by have := e3.len; omega
  have z3 := e3.S _ _ z2
  have c3 := e3.at
  have t3 := e3.2.2.2.2.1
  rw [n2] at c3 t3
  refine xw_aload_n dX10_init_38 rfl rfl ?_
  refine xw_sipush (v := nI 300) dX10_init_39 (by decide) ?_
  refine ev_arr (N := 300) (q := 209) (mc := ((((((((((((((((0 + 1) + 1) + 1) + 1) + 1) + 1) + 1) + 1) + 1) + 1) + 1) + 1) + 1) + 1) + 1) + 1)) (ms := ((((((((((((((((0 + 24) + 3) + 3) + 140) + 2) + 16) + 12) + 1000) + 3) + 30) + 7) + 200) + 5) + 60) + 5) + 4)) dX10_init_42 dX10_init_44 (Or.inl ⟨rfl, rfl⟩) k_arrI rfl (by omega) fX10_26 (fun r h => by cases h; first | exact Or.inl rfl | exact Or.inr ⟨rfl, rfl, rfl⟩) rfl z3 (by omega) (fun sh4 I4 R4 e4 => ?_)
  have n4 : sh4.length = 214 := by have := e4.len; omega
  have z4 := e4.S _ _ z3
  have c4 := e4.at
  have t4 := e4.2.2.2.2.1
  rw [n3] at c4 t4
  refine xw_aload_n dX10_init_47 rfl rfl ?_
  refine xw_iconst (v := nI 4) dX10_init_48 rfl ?_
  refine ev_arr (N := 4) (q := 209) (mc := (((((((((((((((0 + 1) + 1) + 1) + 1) + 1) + 1) + 1) + 1) + 1) + 1) + 1) + 1) + 1) + 1) + 1)) (ms := (((((((((((((((0 + 24) + 3) + 3) + 140) + 2) + 16) + 12) + 1000) + 3) + 30) + 7) + 200) + 5) + 60) + 5)) dX10_init_49 dX10_init_51 (Or.inl ⟨rfl, rfl⟩) k_arrI rfl (by omega) fX10_29 (fun r h => by cases h; first | exact Or.inl rfl | exact Or.inr ⟨rfl, rfl, rfl⟩) rfl z4 (by omega) (fun sh5 I5 R5 e5 => ?_)
  have n5 : sh5.length = 215 := by have := e5.len; omega
  have z5 := e5.S _ _ z4
  have c5 := e5.at
  have t5 := e5.2.2.2.2.1
  rw [n4] at c5 t5
  refine xw_aload_n dX10_init_54 rfl rfl ?_
  refine xw_iconst (v := nI 5) dX10_init_55 rfl ?_
  refine ev_arr (N := 5) (q := 209) (mc := ((((((((((((((0 + 1) + 1) + 1) + 1) + 1) + 1) + 1) + 1) + 1) + 1) + 1) + 1) + 1) + 1)) (ms := ((((((((((((((0 + 24) + 3) + 3) + 140) + 2) + 16) + 12) + 1000) + 3) + 30) + 7) + 200) + 5) + 60)) dX10_init_56 dX10_init_58 (Or.inl ⟨rfl, rfl⟩) k_arrI rfl (by omega) fX10_32 (fun r h => by cases h; first | exact Or.inl rfl | exact Or.inr ⟨rfl, rfl, rfl⟩) rfl z5 (by omega) (fun sh6 I6 R6 e6 => ?_)
  have n6 : sh6.length = 216 := by have := e6.len; omega
  have z6 := e6.S _ _ z5
  have c6 := e6.at
  have t6 := e6.2.2.2.2.1
  rw [n5] at c6 t6
  refine xw_aload_n dX10_init_61 rfl rfl ?_
  refine xw_bipush (v := nI 60) dX10_init_62 (by decide) ?_
  refine ev_arr (N := 60) (q := 209) (mc := (((((((((((((0 + 1) + 1) + 1) + 1) + 1) + 1) + 1) + 1) + 1) + 1) + 1) + 1) + 1)) (ms := (((((((((((((0 + 24) + 3) + 3) + 140) + 2) + 16) + 12) + 1000) + 3) + 30) + 7) + 200) + 5)) dX10_init_64 dX10_init_66 (Or.inl ⟨rfl, rfl⟩) k_arrI rfl (by omega) fX10_35 (fun r h => by cases h; first | exact Or.inl rfl | exact Or.inr ⟨rfl, rfl, rfl⟩) rfl z6 (by omega) (fun sh7 I7 R7 e7 => ?_)
  have n7 : sh7.length = 217 := by have := e7.len; omega
  have z7 := e7.S _ _ z6
  have c7 := e7.at
  have t7 := e7.2.2.2.2.1
  rw [n6] at c7 t7
  refine xw_aload_n dX10_init_69 rfl rfl ?_
  refine xw_iconst (v := nI 5) dX10_init_70 rfl ?_
  refine ev_arr (N := 5) (q := 209) (mc := ((((((((((((0 + 1) + 1) + 1) + 1) + 1) + 1) + 1) + 1) + 1) + 1) + 1) + 1)) (ms := ((((((((((((0 + 24) + 3) + 3) + 140) + 2) + 16) + 12) + 1000) + 3) + 30) + 7) + 200)) dX10_init_71 dX10_init_73 (Or.inl ⟨rfl, rfl⟩) k_arrI rfl (by omega) fX10_38 (fun r h => by cases h; first | exact Or.inl rfl | exact Or.inr ⟨rfl, rfl, rfl⟩) rfl z7 (by omega) (fun sh8 I8 R8 e8 => ?_)
  have n8 : sh8.length = 218 := by have := e8.len; omega
  have z8 := e8.S _ _ z7
  have c8 := e8.at
  have t8 := e8.2.2.2.2.1
  rw [n7] at c8 t8
  refine xw_aload_n dX10_init_76 rfl rfl ?_
  refine xw_sipush (v := nI 200) dX10_init_77 (by decide) ?_
  refine ev_arr (N := 200) (q := 209) (mc := (((((((((((0 + 1) + 1) + 1) + 1) + 1) + 1) + 1) + 1) + 1) + 1) + 1)) (ms := (((((((((((0 + 24) + 3) + 3) + 140) + 2) + 16) + 12) + 1000) + 3) + 30) + 7)) dX10_init_80 dX10_init_82 (Or.inl ⟨rfl, rfl⟩) k_arrI rfl (by omega) fX10_41 (fun r h => by cases h; first | exact Or.inl rfl | exact Or.inr ⟨rfl, rfl, rfl⟩) rfl z8 (by omega) (fun sh9 I9 R9 e9 => ?_)
  have n9 : sh9.length = 219 := by have := e9.len; omega
  have z9 := e9.S _ _ z8
  have c9 := e9.at
  have t9 := e9.2.2.2.2.1
  rw [n8] at c9 t9
  refine xw_aload_n dX10_init_85 rfl rfl ?_
  refine xw_bipush (v := nI 7) dX10_init_86 (by decide) ?_
  refine yw_newI (N := 7) (mc := ((((((((((0 + 1) + 1) + 1) + 1) + 1) + 1) + 1) + 1) + 1) + 1)) (ms := ((((((((((0 + 24) + 3) + 3) + 140) + 2) + 16) + 12) + 1000) + 3) + 30)) dX10_init_88 rfl (by omega) (by omega) (fun sh10 J10 S10 pp10 => ?_)
  rw [n9]
  have n10 : sh10.length = 220 := by have := pp10.len; omega
  have z10 := pp10.S _ _ z9
  have w10 := pp10.at
  rw [n9] at w10
  refine xw_dup dX10_init_90 rfl ?_
  refine xw_iconst (v := nI 0) dX10_init_91 rfl ?_
  refine xw_iconst (v := nI 0) dX10_init_92 rfl ?_
  refine yw_iastore dX10_init_93 w10 (vp_nI (by omega) (by omega)) ?_
  refine xw_dup dX10_init_94 rfl ?_
  refine xw_iconst (v := nI 1) dX10_init_95 rfl ?_
  refine xw_iconst (v := nI 5) dX10_init_96 rfl ?_
  refine yw_iastore dX10_init_97 w10 (vp_nI (by omega) (by omega)) ?_
  refine xw_dup dX10_init_98 rfl ?_
  refine xw_iconst (v := nI 2) dX10_init_99 rfl ?_
  refine xw_bipush (v := nI 12) dX10_init_100 (by decide) ?_
  refine yw_iastore dX10_init_102 w10 (vp_nI (by omega) (by omega)) ?_
  refine xw_dup dX10_init_103 rfl ?_
  refine xw_iconst (v := nI 3) dX10_init_104 rfl ?_
  refine xw_bipush (v := nI 18) dX10_init_105 (by decide) ?_
  refine yw_iastore dX10_init_107 w10 (vp_nI (by omega) (by omega)) ?_
  refine xw_dup dX10_init_108 rfl ?_
  refine xw_iconst (v := nI 4) dX10_init_109 rfl ?_
  refine xw_bipush (v := nI 23) dX10_init_110 (by decide) ?_
  refine yw_iastore dX10_init_112 w10 (vp_nI (by omega) (by omega)) ?_
  refine xw_dup dX10_init_113 rfl ?_
  refine xw_iconst (v := nI 5) dX10_init_114 rfl ?_
  refine xw_bipush (v := nI 26) dX10_init_115 (by decide) ?_
  refine yw_iastore dX10_init_117 w10 (vp_nI (by omega) (by omega)) ?_
  refine xw_dup dX10_init_118 rfl ?_
  refine xw_bipush (v := nI 6) dX10_init_119 (by decide) ?_
  refine xw_bipush (v := nI 30) dX10_init_121 (by decide) ?_
  refine yw_iastore dX10_init_123 w10 (vp_nI (by omega) (by omega)) ?_
  refine yw_putR dX10_init_124 fX10_44 (fun r h => by cases h; first | exact Or.inl rfl | exact Or.inr ⟨rfl, rfl, rfl⟩) rfl z10 w10 ?_
  generalize hK10 : (xi (xi (xi (xi (xi (xi (xi J10 219 (nI 0).toNatClampNeg (nI 0)) 219 (nI 1).toNatClampNeg (nI 5)) 219 (nI 2).toNatClampNeg (nI 12)) 219 (nI 3).toNatClampNeg (nI 18)) 219 (nI 4).toNatClampNeg (nI 23)) 219 (nI 5).toNatClampNeg (nI 26)) 219 (nI 6).toNatClampNeg (nI 30)) = K10
  generalize hT10 : xr S10 209 23 (some 219) = T10
  refine xw_aload_n dX10_init_127 rfl rfl ?_
  refine xw_bipush (v := nI 30) dX10_init_128 (by decide) ?_
  refine yw_newI (N := 30) (mc := (((((((((0 + 1) + 1) + 1) + 1) + 1) + 1) + 1) + 1) + 1)) (ms := (((((((((0 + 24) + 3) + 3) + 140) + 2) + 16) + 12) + 1000) + 3)) dX10_init_130 rfl (by omega) (by omega) (fun sh11 J11 S11 pp11 => ?_)
  rw [n10]
  have n11 : sh11.length = 221 := by have := pp11.len; omega
  have z11 := pp11.S _ _ z10
  have w11 := pp11.at
  rw [n10] at w11
  refine xw_dup dX10_init_132 rfl ?_
  refine xw_iconst (v := nI 0) dX10_init_133 rfl ?_
  refine xw_bipush (v := nI 112) dX10_init_134 (by decide) ?_
  refine yw_iastore dX10_init_136 w11 (vp_nI (by omega) (by omega)) ?_
  refine xw_dup dX10_init_137 rfl ?_
  refine xw_iconst (v := nI 1) dX10_init_138 rfl ?_
  refine xw_bipush (v := nI 114) dX10_init_139 (by decide) ?_
  refine yw_iastore dX10_init_141 w11 (vp_nI (by omega) (by omega)) ?_
  refine xw_dup dX10_init_142 rfl ?_
  refine xw_iconst (v := nI 2) dX10_init_143 rfl ?_
  refine xw_bipush (v := nI 105) dX10_init_144 (by decide) ?_
  refine yw_iastore dX10_init_146 w11 (vp_nI (by omega) (by omega)) ?_
  refine xw_dup dX10_init_147 rfl ?_
  refine xw_iconst (v := nI 3) dX10_init_148 rfl ?_
  refine xw_bipush (v := nI 109) dX10_init_149 (by decide) ?_
  refine yw_iastore dX10_init_151 w11 (vp_nI (by omega) (by omega)) ?_
  refine xw_dup dX10_init_152 rfl ?_
  refine xw_iconst (v := nI 4) dX10_init_153 rfl ?_
  refine xw_bipush (v := nI 101) dX10_init_154 (by decide) ?_
  refine yw_iastore dX10_init_156 w11 (vp_nI (by omega) (by omega)) ?_
  refine xw_dup dX10_init_157 rfl ?_
  refine xw_iconst (v := nI 5) dX10_init_158 rfl ?_
  refine xw_bipush (v := nI 108) dX10_init_159 (by decide) ?_
  refine yw_iastore dX10_init_161 w11 (vp_nI (by omega) (by omega)) ?_
  refine xw_dup dX10_init_162 rfl ?_
  refine xw_bipush (v := nI 6) dX10_init_163 (by decide) ?_
  refine xw_bipush (v := nI 101) dX10_init_165 (by decide) ?_
  refine yw_iastore dX10_init_167 w11 (vp_nI (by omega) (by omega)) ?_
  refine xw_dup dX10_init_168 rfl ?_
  refine xw_bipush (v := nI 7) dX10_init_169 (by decide) ?_
  refine xw_bipush (v := nI 116) dX10_init_171 (by decide) ?_
  refine yw_iastore dX10_init_173 w11 (vp_nI (by omega) (by omega)) ?_
  refine xw_dup dX10_init_174 rfl ?_
  refine xw_bipush (v := nI 8) dX10_init_175 (by decide) ?_
  refine xw_bipush (v := nI 116) dX10_init_177 (by decide) ?_
  refine yw_iastore dX10_init_179 w11 (vp_nI (by omega) (by omega)) ?_
  refine xw_dup dX10_init_180 rfl ?_
  refine xw_bipush (v := nI 9) dX10_init_181 (by decide) ?_
  refine xw_bipush (v := nI 101) dX10_init_183 (by decide) ?_
  refine yw_iastore dX10_init_185 w11 (vp_nI (by omega) (by omega)) ?_
  refine xw_dup dX10_init_186 rfl ?_
  refine xw_bipush (v := nI 10) dX10_init_187 (by decide) ?_
  refine xw_bipush (v := nI 114) dX10_init_189 (by decide) ?_
  refine yw_iastore dX10_init_191 w11 (vp_nI (by omega) (by omega)) ?_
  refine xw_dup dX10_init_192 rfl ?_
  refine xw_bipush (v := nI 11) dX10_init_193 (by decide) ?_
  refine xw_bipush (v := nI 115) dX10_init_195 (by decide) ?_
  refine yw_iastore dX10_init_197 w11 (vp_nI (by omega) (by omega)) ?_
  refine xw_dup dX10_init_198 rfl ?_
  refine xw_bipush (v := nI 12) dX10_init_199 (by decide) ?_
  refine xw_bipush (v := nI 115) dX10_init_201 (by decide) ?_
  refine yw_iastore dX10_init_203 w11 (vp_nI (by omega) (by omega)) ?_
  refine xw_dup dX10_init_204 rfl ?_
  refine xw_bipush (v := nI 13) dX10_init_205 (by decide) ?_
  refine xw_bipush (v := nI 116) dX10_init_207 (by decide) ?_
  refine yw_iastore dX10_init_209 w11 (vp_nI (by omega) (by omega)) ?_
  refine xw_dup dX10_init_210 rfl ?_
  refine xw_bipush (v := nI 14) dX10_init_211 (by decide) ?_
  refine xw_bipush (v := nI 97) dX10_init_213 (by decide) ?_
  refine yw_iastore dX10_init_215 w11 (vp_nI (by omega) (by omega)) ?_
  refine xw_dup dX10_init_216 rfl ?_
  refine xw_bipush (v := nI 15) dX10_init_217 (by decide) ?_
  refine xw_bipush (v := nI 116) dX10_init_219 (by decide) ?_
  refine yw_iastore dX10_init_221 w11 (vp_nI (by omega) (by omega)) ?_
  refine xw_dup dX10_init_222 rfl ?_
  refine xw_bipush (v := nI 16) dX10_init_223 (by decide) ?_
  refine xw_bipush (v := nI 101) dX10_init_225 (by decide) ?_
  refine yw_iastore dX10_init_227 w11 (vp_nI (by omega) (by omega)) ?_
  refine xw_dup dX10_init_228 rfl ?_
  refine xw_bipush (v := nI 17) dX10_init_229 (by decide) ?_
  refine xw_bipush (v := nI 115) dX10_init_231 (by decide) ?_
  refine yw_iastore dX10_init_233 w11 (vp_nI (by omega) (by omega)) ?_
  refine xw_dup dX10_init_234 rfl ?_
  refine xw_bipush (v := nI 18) dX10_init_235 (by decide) ?_
  refine xw_bipush (v := nI 115) dX10_init_237 (by decide) ?_
  refine yw_iastore dX10_init_239 w11 (vp_nI (by omega) (by omega)) ?_
  refine xw_dup dX10_init_240 rfl ?_
  refine xw_bipush (v := nI 19) dX10_init_241 (by decide) ?_
  refine xw_bipush (v := nI 116) dX10_init_243 (by decide) ?_
  refine yw_iastore dX10_init_245 w11 (vp_nI (by omega) (by omega)) ?_
  refine xw_dup dX10_init_246 rfl ?_
  refine xw_bipush (v := nI 20) dX10_init_247 (by decide) ?_
  refine xw_bipush (v := nI 97) dX10_init_249 (by decide) ?_
  refine yw_iastore dX10_init_251 w11 (vp_nI (by omega) (by omega)) ?_
  refine xw_dup dX10_init_252 rfl ?_
  refine xw_bipush (v := nI 21) dX10_init_253 (by decide) ?_
  refine xw_bipush (v := nI 114) dX10_init_255 (by decide) ?_
  refine yw_iastore dX10_init_257 w11 (vp_nI (by omega) (by omega)) ?_
  refine xw_dup dX10_init_258 rfl ?_
  refine xw_bipush (v := nI 22) dX10_init_259 (by decide) ?_
  refine xw_bipush (v := nI 116) dX10_init_261 (by decide) ?_
  refine yw_iastore dX10_init_263 w11 (vp_nI (by omega) (by omega)) ?_
  refine xw_dup dX10_init_264 rfl ?_
  refine xw_bipush (v := nI 23) dX10_init_265 (by decide) ?_
  refine xw_bipush (v := nI 101) dX10_init_267 (by decide) ?_
  refine yw_iastore dX10_init_269 w11 (vp_nI (by omega) (by omega)) ?_
  refine xw_dup dX10_init_270 rfl ?_
  refine xw_bipush (v := nI 24) dX10_init_271 (by decide) ?_
  refine xw_bipush (v := nI 110) dX10_init_273 (by decide) ?_
  refine yw_iastore dX10_init_275 w11 (vp_nI (by omega) (by omega)) ?_
  refine xw_dup dX10_init_276 rfl ?_
  refine xw_bipush (v := nI 25) dX10_init_277 (by decide) ?_
  refine xw_bipush (v := nI 100) dX10_init_279 (by decide) ?_
  refine yw_iastore dX10_init_281 w11 (vp_nI (by omega) (by omega)) ?_
  refine xw_dup dX10_init_282 rfl ?_
  refine xw_bipush (v := nI 26) dX10_init_283 (by decide) ?_
  refine xw_bipush (v := nI 101) dX10_init_285 (by decide) ?_
  refine yw_iastore dX10_init_287 w11 (vp_nI (by omega) (by omega)) ?_
  refine xw_dup dX10_init_288 rfl ?_
  refine xw_bipush (v := nI 27) dX10_init_289 (by decide) ?_
  refine xw_bipush (v := nI 100) dX10_init_291 (by decide) ?_
  refine yw_iastore dX10_init_293 w11 (vp_nI (by omega) (by omega)) ?_
  refine xw_dup dX10_init_294 rfl ?_
  refine xw_bipush (v := nI 28) dX10_init_295 (by decide) ?_
  refine xw_bipush (v := nI 103) dX10_init_297 (by decide) ?_
  refine yw_iastore dX10_init_299 w11 (vp_nI (by omega) (by omega)) ?_
  refine xw_dup dX10_init_300 rfl ?_
  refine xw_bipush (v := nI 29) dX10_init_301 (by decide) ?_
  refine xw_bipush (v := nI 101) dX10_init_303 (by decide) ?_
  refine yw_iastore dX10_init_305 w11 (vp_nI (by omega) (by omega)) ?_
  refine yw_putR dX10_init_306 fX10_47 (fun r h => by cases h; first | exact Or.inl rfl | exact Or.inr ⟨rfl, rfl, rfl⟩) rfl z11 w11 ?_
  generalize hK11 : (xi (xi (xi (xi (xi (xi (xi (xi (xi (xi (xi (xi (xi (xi (xi (xi (xi (xi (xi (xi (xi (xi (xi (xi (xi (xi (xi (xi (xi (xi J11 220 (nI 0).toNatClampNeg (nI 112)) 220 (nI 1).toNatClampNeg (nI 114)) 220 (nI 2).toNatClampNeg (nI 105)) 220 (nI 3).toNatClampNeg (nI 109)) 220 (nI 4).toNatClampNeg (nI 101)) 220 (nI 5).toNatClampNeg (nI 108)) 220 (nI 6).toNatClampNeg (nI 101)) 220 (nI 7).toNatClampNeg (nI 116)) 220 (nI 8).toNatClampNeg (nI 116)) 220 (nI 9).toNatClampNeg (nI 101)) 220 (nI 10).toNatClampNeg (nI 114)) 220 (nI 11).toNatClampNeg (nI 115)) 220 (nI 12).toNatClampNeg (nI 115)) 220 (nI 13).toNatClampNeg (nI 116)) 220 (nI 14).toNatClampNeg (nI 97)) 220 (nI 15).toNatClampNeg (nI 116)) 220 (nI 16).toNatClampNeg (nI 101)) 220 (nI 17).toNatClampNeg (nI 115)) 220 (nI 18).toNatClampNeg (nI 115)) 220 (nI 19).toNatClampNeg (nI 116)) 220 (nI 20).toNatClampNeg (nI 97)) 220 (nI 21).toNatClampNeg (nI 114)) 220 (nI 22).toNatClampNeg (nI 116)) 220 (nI 23).toNatClampNeg (nI 101)) 220 (nI 24).toNatClampNeg (nI 110)) 220 (nI 25).toNatClampNeg (nI 100)) 220 (nI 26).toNatClampNeg (nI 101)) 220 (nI 27).toNatClampNeg (nI 100)) 220 (nI 28).toNatClampNeg (nI 103)) 220 (nI 29).toNatClampNeg (nI 101)) = K11
  generalize hT11 : xr S11 209 24 (some 220) = T11
  refine xw_aload_n dX10_init_309 rfl rfl ?_
  refine xw_iconst (v := nI 3) dX10_init_310 rfl ?_
  refine ev_arr (N := 3) (q := 209) (mc := ((((((((0 + 1) + 1) + 1) + 1) + 1) + 1) + 1) + 1)) (ms := ((((((((0 + 24) + 3) + 3) + 140) + 2) + 16) + 12) + 1000)) dX10_init_311 dX10_init_313 (Or.inr (Or.inl ⟨rfl, rfl⟩)) k_arrZ rfl (by omega) fX10_50 (fun r h => by cases h; first | exact Or.inl rfl | exact Or.inr ⟨rfl, rfl, rfl⟩) rfl z11 (by omega) (fun sh12 I12 R12 e12 => ?_)
  have n12 : sh12.length = 222 := by have := e12.len; omega
  have z12 := e12.S _ _ z11
  have c12 := e12.at
  have t12 := e12.2.2.2.2.1
  rw [n11] at c12 t12
  refine xw_aload_n dX10_init_316 rfl rfl ?_
  refine xw_sipush (v := nI 1000) dX10_init_317 (by decide) ?_
  refine ev_arr (N := 1000) (q := 209) (mc := (((((((0 + 1) + 1) + 1) + 1) + 1) + 1) + 1)) (ms := (((((((0 + 24) + 3) + 3) + 140) + 2) + 16) + 12)) dX10_init_320 dX10_init_322 (Or.inl ⟨rfl, rfl⟩) k_arrI rfl (by omega) fX10_54 (fun r h => by cases h; first | exact Or.inl rfl | exact Or.inr ⟨rfl, rfl, rfl⟩) rfl z12 (by omega) (fun sh13 I13 R13 e13 => ?_)
  have n13 : sh13.length = 223 := by have := e13.len; omega
  have z13 := e13.S _ _ z12
  have c13 := e13.at
  have t13 := e13.2.2.2.2.1
  rw [n12] at c13 t13
  refine xw_aload_n dX10_init_325 rfl rfl ?_
  refine xw_bipush (v := nI 12) dX10_init_326 (by decide) ?_
  refine ev_arr (N := 12) (q := 209) (mc := ((((((0 + 1) + 1) + 1) + 1) + 1) + 1)) (ms := ((((((0 + 24) + 3) + 3) + 140) + 2) + 16)) dX10_init_328 dX10_init_330 (Or.inl ⟨rfl, rfl⟩) k_arrI rfl (by omega) fX10_57 (fun r h => by cases h; first | exact Or.inl rfl | exact Or.inr ⟨rfl, rfl, rfl⟩) rfl z13 (by omega) (fun sh14 I14 R14 e14 => ?_)
  have n14 : sh14.length = 224 := by have := e14.len; omega
  have z14 := e14.S _ _ z13
  have c14 := e14.at
  have t14 := e14.2.2.2.2.1
  rw [n13] at c14 t14
  refine xw_aload_n dX10_init_333 rfl rfl ?_
  refine xw_bipush (v := nI 16) dX10_init_334 (by decide) ?_
  refine ev_arr (N := 16) (q := 209) (mc := (((((0 + 1) + 1) + 1) + 1) + 1)) (ms := (((((0 + 24) + 3) + 3) + 140) + 2)) dX10_init_336 dX10_init_338 (Or.inl ⟨rfl, rfl⟩) k_arrI rfl (by omega) fX10_60 (fun r h => by cases h; first | exact Or.inl rfl | exact Or.inr ⟨rfl, rfl, rfl⟩) rfl z14 (by omega) (fun sh15 I15 R15 e15 => ?_)
  have n15 : sh15.length = 225 := by have := e15.len; omega
  have z15 := e15.S _ _ z14
  have c15 := e15.at
  have t15 := e15.2.2.2.2.1
  rw [n14] at c15 t15
  refine xw_aload_n dX10_init_341 rfl rfl ?_
  refine xw_iconst (v := nI 2) dX10_init_342 rfl ?_
  refine ev_arr (N := 2) (q := 209) (mc := ((((0 + 1) + 1) + 1) + 1)) (ms := ((((0 + 24) + 3) + 3) + 140)) dX10_init_343 dX10_init_345 (Or.inr (Or.inl ⟨rfl, rfl⟩)) k_arrZ rfl (by omega) fX10_63 (fun r h => by cases h; first | exact Or.inl rfl | exact Or.inr ⟨rfl, rfl, rfl⟩) rfl z15 (by omega) (fun sh16 I16 R16 e16 => ?_)
  have n16 : sh16.length = 226 := by have := e16.len; omega
  have z16 := e16.S _ _ z15
  have c16 := e16.at
  have t16 := e16.2.2.2.2.1
  rw [n15] at c16 t16
  refine xw_aload_n dX10_init_348 rfl rfl ?_
  refine xw_sipush (v := nI 140) dX10_init_349 (by decide) ?_
  refine ev_arr (N := 140) (q := 209) (mc := (((0 + 1) + 1) + 1)) (ms := (((0 + 24) + 3) + 3)) dX10_init_352 dX10_init_354 (Or.inl ⟨rfl, rfl⟩) k_arrI rfl (by omega) fX10_66 (fun r h => by cases h; first | exact Or.inl rfl | exact Or.inr ⟨rfl, rfl, rfl⟩) rfl z16 (by omega) (fun sh17 I17 R17 e17 => ?_)
  have n17 : sh17.length = 227 := by have := e17.len; omega
  have z17 := e17.S _ _ z16
  have c17 := e17.at
  have t17 := e17.2.2.2.2.1
  rw [n16] at c17 t17
  refine xw_aload_n dX10_init_357 rfl rfl ?_
  refine xw_iconst (v := nI 3) dX10_init_358 rfl ?_
  refine ev_arr (N := 3) (q := 209) (mc := ((0 + 1) + 1)) (ms := ((0 + 24) + 3)) dX10_init_359 dX10_init_361 (Or.inl ⟨rfl, rfl⟩) k_arrI rfl (by omega) fX10_69 (fun r h => by cases h; first | exact Or.inl rfl | exact Or.inr ⟨rfl, rfl, rfl⟩) rfl z17 (by omega) (fun sh18 I18 R18 e18 => ?_)
  have n18 : sh18.length = 228 := by have := e18.len; omega
  have z18 := e18.S _ _ z17
  have c18 := e18.at
  have t18 := e18.2.2.2.2.1
  rw [n17] at c18 t18
  refine xw_aload_n dX10_init_364 rfl rfl ?_
  refine xw_iconst (v := nI 3) dX10_init_365 rfl ?_
  refine ev_arr (N := 3) (q := 209) (mc := (0 + 1)) (ms := (0 + 24)) dX10_init_366 dX10_init_368 (Or.inl ⟨rfl, rfl⟩) k_arrI rfl (by omega) fX10_72 (fun r h => by cases h; first | exact Or.inl rfl | exact Or.inr ⟨rfl, rfl, rfl⟩) rfl z18 (by omega) (fun sh19 I19 R19 e19 => ?_)
  have n19 : sh19.length = 229 := by have := e19.len; omega
  have z19 := e19.S _ _ z18
  have c19 := e19.at
  have t19 := e19.2.2.2.2.1
  rw [n18] at c19 t19
  refine xw_aload_n dX10_init_371 rfl rfl ?_
  refine xw_bipush (v := nI 24) dX10_init_372 (by decide) ?_
  refine ev_arr (N := 24) (q := 209) (mc := 0) (ms := 0) dX10_init_374 dX10_init_376 (Or.inl ⟨rfl, rfl⟩) k_arrI rfl (by omega) fX10_75 (fun r h => by cases h; first | exact Or.inl rfl | exact Or.inr ⟨rfl, rfl, rfl⟩) rfl z19 (by omega) (fun sh20 I20 R20 e20 => ?_)
  have n20 : sh20.length = 230 := by have := e20.len; omega
  have z20 := e20.S _ _ z19
  have c20 := e20.at
  have t20 := e20.2.2.2.2.1
  rw [n19] at c20 t20
  have q1 : ∀ a, a ≠ 210 → a ≠ 209 → K1 a = I a ∧ R1 a = R a := fun a h1 h2 => by
    obtain ⟨x, y⟩ := e1.2.1 a (by omega) h2
    exact ⟨by rw [← hK1]; funext j; rw [xi_p h2, xi_p h2, x], y⟩
  have b1 : ∀ j, j ≠ 0 → R1 209 j = R 209 j := e1.2.2.2.1
  have a1 : ∀ j, j ≠ 1 → j ≠ 2 → K1 209 j = 0 := fun j h1 h2 => by rw [← hK1, xi_s h2, xi_s h1, e1.2.2.1 j]; exact hz j
  have y1 : ∀ j, K1 210 j = 0 := fun j => by rw [← hK1, xi_p (by decide), xi_p (by decide)]; have := e1.2.2.2.2.2.1 j; rw [n0] at this; exact this
  have s1 : gS sh sh1 := e1.S
  have q2 : ∀ a, a ≠ 211 → a ≠ 209 → I2 a = K1 a ∧ R2 a = R1 a := fun a h1 h2 => e2.2.1 a (by omega) h2
  have b2 : ∀ j, j ≠ 4 → R2 209 j = R1 209 j := e2.2.2.2.1
  have a2 : ∀ j, I2 209 j = K1 209 j := e2.2.2.1
  have y2 : ∀ j, I2 211 j = 0 := fun j => by have := e2.2.2.2.2.2.1 j; rw [n1] at this; exact this
  have s2 : gS sh1 sh2 := e2.S
  have q3 : ∀ a, a ≠ 212 → a ≠ 209 → I3 a = I2 a ∧ R3 a = R2 a := fun a h1 h2 => e3.2.1 a (by omega) h2
  have b3 : ∀ j, j ≠ 5 → R3 209 j = R2 209 j := e3.2.2.2.1
  have a3 : ∀ j, I3 209 j = I2 209 j := e3.2.2.1
  have y3 : ∀ j, I3 212 j = 0 := fun j => by have := e3.2.2.2.2.2.1 j; rw [n2] at this; exact this
  have s3 : gS sh2 sh3 := e3.S
  have q4 : ∀ a, a ≠ 213 → a ≠ 209 → I4 a = I3 a ∧ R4 a = R3 a := fun a h1 h2 => e4.2.1 a (by omega) h2
  have b4 : ∀ j, j ≠ 6 → R4 209 j = R3 209 j := e4.2.2.2.1
  have a4 : ∀ j, I4 209 j = I3 209 j := e4.2.2.1
  have y4 : ∀ j, I4 213 j = 0 := fun j => by have := e4.2.2.2.2.2.1 j; rw [n3] at this; exact this
  have s4 : gS sh3 sh4 := e4.S
  have q5 : ∀ a, a ≠ 214 → a ≠ 209 → I5 a = I4 a ∧ R5 a = R4 a := fun a h1 h2 => e5.2.1 a (by omega) h2
  have b5 : ∀ j, j ≠ 7 → R5 209 j = R4 209 j := e5.2.2.2.1
  have a5 : ∀ j, I5 209 j = I4 209 j := e5.2.2.1
  have y5 : ∀ j, I5 214 j = 0 := fun j => by have := e5.2.2.2.2.2.1 j; rw [n4] at this; exact this
  have s5 : gS sh4 sh5 := e5.S
  have q6 : ∀ a, a ≠ 215 → a ≠ 209 → I6 a = I5 a ∧ R6 a = R5 a := fun a h1 h2 => e6.2.1 a (by omega) h2
  have b6 : ∀ j, j ≠ 8 → R6 209 j = R5 209 j := e6.2.2.2.1
  have a6 : ∀ j, I6 209 j = I5 209 j := e6.2.2.1
  have y6 : ∀ j, I6 215 j = 0 := fun j => by have := e6.2.2.2.2.2.1 j; rw [n5] at this; exact this
  have s6 : gS sh5 sh6 := e6.S
  have q7 : ∀ a, a ≠ 216 → a ≠ 209 → I7 a = I6 a ∧ R7 a = R6 a := fun a h1 h2 => e7.2.1 a (by omega) h2
  have b7 : ∀ j, j ≠ 9 → R7 209 j = R6 209 j := e7.2.2.2.1
  have a7 : ∀ j, I7 209 j = I6 209 j := e7.2.2.1
  have y7 : ∀ j, I7 216 j = 0 := fun j => by have := e7.2.2.2.2.2.1 j; rw [n6] at this; exact this
  have s7 : gS sh6 sh7 := e7.S
  have q8 : ∀ a, a ≠ 217 → a ≠ 209 → I8 a = I7 a ∧ R8 a = R7 a := fun a h1 h2 => e8.2.1 a (by omega) h2
  have b8 : ∀ j, j ≠ 13 → R8 209 j = R7 209 j := e8.2.2.2.1
  have a8 : ∀ j, I8 209 j = I7 209 j := e8.2.2.1
  have y8 : ∀ j, I8 217 j = 0 := fun j => by have := e8.2.2.2.2.2.1 j; rw [n7] at this; exact this
  have s8 : gS sh7 sh8 := e8.S
  have q9 : ∀ a, a ≠ 218 → a ≠ 209 → I9 a = I8 a ∧ R9 a = R8 a := fun a h1 h2 => e9.2.1 a (by omega) h2
  have b9 : ∀ j, j ≠ 15 → R9 209 j = R8 209 j := e9.2.2.2.1
  have a9 : ∀ j, I9 209 j = I8 209 j := e9.2.2.1
  have y9 : ∀ j, I9 218 j = 0 := fun j => by have := e9.2.2.2.2.2.1 j; rw [n8] at this; exact this
  have s9 : gS sh8 sh9 := e9.S
  have q10 : ∀ a, a ≠ 219 → a ≠ 209 → K10 a = I9 a ∧ T10 a = R9 a := fun a h1 h2 => by
    obtain ⟨x, y⟩ := pp10.2.1 a (by omega)
    exact ⟨by rw [← hK10]; funext j; simp only [xi_p h1]; rw [x], by rw [← hT10]; funext j; rw [xr_p h2, y]⟩
  have b10 : ∀ j, j ≠ 23 → T10 209 j = R9 209 j := fun j hj => by rw [← hT10, xr_s hj, (pp10.2.1 209 (by omega)).2]
  have t10 : T10 209 23 = some 219 := by rw [← hT10, xr_e]
  have c10 := w10
  have a10 : ∀ j, K10 209 j = I9 209 j := fun j => by
    rw [← hK10]
    simp only [xi_p (show (209 : Nat) ≠ 219 by decide)]
    rw [(pp10.2.1 209 (by omega)).1]
  have s10 : gS sh9 sh10 := pp10.S
  have q11 : ∀ a, a ≠ 220 → a ≠ 209 → K11 a = K10 a ∧ T11 a = T10 a := fun a h1 h2 => by
    obtain ⟨x, y⟩ := pp11.2.1 a (by omega)
    exact ⟨by rw [← hK11]; funext j; simp only [xi_p h1]; rw [x], by rw [← hT11]; funext j; rw [xr_p h2, y]⟩
  have b11 : ∀ j, j ≠ 24 → T11 209 j = T10 209 j := fun j hj => by rw [← hT11, xr_s hj, (pp11.2.1 209 (by omega)).2]
  have t11 : T11 209 24 = some 220 := by rw [← hT11, xr_e]
  have c11 := w11
  have a11 : ∀ j, K11 209 j = K10 209 j := fun j => by
    rw [← hK11]
    simp only [xi_p (show (209 : Nat) ≠ 220 by decide)]
    rw [(pp11.2.1 209 (by omega)).1]
  have s11 : gS sh10 sh11 := pp11.S
  have q12 : ∀ a, a ≠ 221 → a ≠ 209 → I12 a = K11 a ∧ R12 a = T11 a := fun a h1 h2 => e12.2.1 a (by omega) h2
  have b12 : ∀ j, j ≠ 25 → R12 209 j = T11 209 j := e12.2.2.2.1
  have a12 : ∀ j, I12 209 j = K11 209 j := e12.2.2.1
  have y12 : ∀ j, I12 221 j = 0 := fun j => by have := e12.2.2.2.2.2.1 j; rw [n11] at this; exact this
  have s12 : gS sh11 sh12 := e12.S
  have q13 : ∀ a, a ≠ 222 → a ≠ 209 → I13 a = I12 a ∧ R13 a = R12 a := fun a h1 h2 => e13.2.1 a (by omega) h2
  have b13 : ∀ j, j ≠ 30 → R13 209 j = R12 209 j := e13.2.2.2.1
  have a13 : ∀ j, I13 209 j = I12 209 j := e13.2.2.1
  have y13 : ∀ j, I13 222 j = 0 := fun j => by have := e13.2.2.2.2.2.1 j; rw [n12] at this; exact this
  have s13 : gS sh12 sh13 := e13.S
  have q14 : ∀ a, a ≠ 223 → a ≠ 209 → I14 a = I13 a ∧ R14 a = R13 a := fun a h1 h2 => e14.2.1 a (by omega) h2
  have b14 : ∀ j, j ≠ 31 → R14 209 j = R13 209 j := e14.2.2.2.1
  have a14 : ∀ j, I14 209 j = I13 209 j := e14.2.2.1
  have y14 : ∀ j, I14 223 j = 0 := fun j => by have := e14.2.2.2.2.2.1 j; rw [n13] at this; exact this
  have s14 : gS sh13 sh14 := e14.S
  have q15 : ∀ a, a ≠ 224 → a ≠ 209 → I15 a = I14 a ∧ R15 a = R14 a := fun a h1 h2 => e15.2.1 a (by omega) h2
  have b15 : ∀ j, j ≠ 33 → R15 209 j = R14 209 j := e15.2.2.2.1
  have a15 : ∀ j, I15 209 j = I14 209 j := e15.2.2.1
  have y15 : ∀ j, I15 224 j = 0 := fun j => by have := e15.2.2.2.2.2.1 j; rw [n14] at this; exact this
  have s15 : gS sh14 sh15 := e15.S
  have q16 : ∀ a, a ≠ 225 → a ≠ 209 → I16 a = I15 a ∧ R16 a = R15 a := fun a h1 h2 => e16.2.1 a (by omega) h2
  have b16 : ∀ j, j ≠ 36 → R16 209 j = R15 209 j := e16.2.2.2.1
  have a16 : ∀ j, I16 209 j = I15 209 j := e16.2.2.1
  have y16 : ∀ j, I16 225 j = 0 := fun j => by have := e16.2.2.2.2.2.1 j; rw [n15] at this; exact this
  have s16 : gS sh15 sh16 := e16.S
  have q17 : ∀ a, a ≠ 226 → a ≠ 209 → I17 a = I16 a ∧ R17 a = R16 a := fun a h1 h2 => e17.2.1 a (by omega) h2
  have b17 : ∀ j, j ≠ 37 → R17 209 j = R16 209 j := e17.2.2.2.1
  have a17 : ∀ j, I17 209 j = I16 209 j := e17.2.2.1
  have y17 : ∀ j, I17 226 j = 0 := fun j => by have := e17.2.2.2.2.2.1 j; rw [n16] at this; exact this
  have s17 : gS sh16 sh17 := e17.S
  have q18 : ∀ a, a ≠ 227 → a ≠ 209 → I18 a = I17 a ∧ R18 a = R17 a := fun a h1 h2 => e18.2.1 a (by omega) h2
  have b18 : ∀ j, j ≠ 38 → R18 209 j = R17 209 j := e18.2.2.2.1
  have a18 : ∀ j, I18 209 j = I17 209 j := e18.2.2.1
  have y18 : ∀ j, I18 227 j = 0 := fun j => by have := e18.2.2.2.2.2.1 j; rw [n17] at this; exact this
  have s18 : gS sh17 sh18 := e18.S
  have q19 : ∀ a, a ≠ 228 → a ≠ 209 → I19 a = I18 a ∧ R19 a = R18 a := fun a h1 h2 => e19.2.1 a (by omega) h2
  have b19 : ∀ j, j ≠ 39 → R19 209 j = R18 209 j := e19.2.2.2.1
  have a19 : ∀ j, I19 209 j = I18 209 j := e19.2.2.1
  have y19 : ∀ j, I19 228 j = 0 := fun j => by have := e19.2.2.2.2.2.1 j; rw [n18] at this; exact this
  have s19 : gS sh18 sh19 := e19.S
  have q20 : ∀ a, a ≠ 229 → a ≠ 209 → I20 a = I19 a ∧ R20 a = R19 a := fun a h1 h2 => e20.2.1 a (by omega) h2
  have b20 : ∀ j, j ≠ 40 → R20 209 j = R19 209 j := e20.2.2.2.1
  have a20 : ∀ j, I20 209 j = I19 209 j := e20.2.2.1
  have y20 : ∀ j, I20 229 j = 0 := fun j => by have := e20.2.2.2.2.2.1 j; rw [n19] at this; exact this
  have s20 : gS sh19 sh20 := e20.S
  have y10 : ∀ j, j < 7 → K10 219 j = nI (nmE.getD j 0) := fun j hj => by
    have hc : j = 0 ∨ j = 1 ∨ j = 2 ∨ j = 3 ∨ j = 4 ∨ j = 5 ∨ j = 6 := by omega
    rw [← hK10]
    rcases hc with rfl | rfl | rfl | rfl | rfl | rfl | rfl <;> rfl
  have y11 : ∀ j, j < 30 → K11 220 j = nI (nmL.getD j 0) := fun j hj => by
    have hc : j = 0 ∨ j = 1 ∨ j = 2 ∨ j = 3 ∨ j = 4 ∨ j = 5 ∨ j = 6 ∨ j = 7 ∨ j = 8 ∨ j = 9 ∨ j = 10 ∨ j = 11 ∨ j = 12 ∨ j = 13 ∨ j = 14 ∨ j = 15 ∨ j = 16 ∨ j = 17 ∨ j = 18 ∨ j = 19 ∨ j = 20 ∨ j = 21 ∨ j = 22 ∨ j = 23 ∨ j = 24 ∨ j = 25 ∨ j = 26 ∨ j = 27 ∨ j = 28 ∨ j = 29 := by omega
    rw [← hK11]
    rcases hc with rfl | rfl | rfl | rfl | rfl | rfl | rfl | rfl | rfl | rfl | rfl | rfl | rfl | rfl | rfl | rfl | rfl | rfl | rfl | rfl | rfl | rfl | rfl | rfl | rfl | rfl | rfl | rfl | rfl | rfl <;> rfl
  have G20 : gS sh20 sh20 := fun _ _ h => h
  have G19 := s20.tr G20
  have G18 := s19.tr G19
  have G17 := s18.tr G18
  have G16 := s17.tr G17
  have G15 := s16.tr G16
  have G14 := s15.tr G15
  have G13 := s14.tr G14
  have G12 := s13.tr G13
  have G11 := s12.tr G12
  have G10 := s11.tr G11
  have G9 := s10.tr G10
  have G8 := s9.tr G9
  have G7 := s8.tr G8
  have G6 := s7.tr G7
  have G5 := s6.tr G6
  have G4 := s5.tr G5
  have G3 := s4.tr G4
  have G2 := s3.tr G3
  have G1 := s2.tr G2
  have G0 := s1.tr G1
  have V20 : ∀ a, a < 230 → a ≠ 209 → I20 a = I20 a ∧ R20 a = R20 a := fun a _ _ => ⟨rfl, rfl⟩
  have V19 : ∀ a, a < 229 → a ≠ 209 → I20 a = I19 a ∧ R20 a = R19 a := fun a h1 h2 => ⟨(V20 a (by omega) h2).1.trans (q20 a (by omega) h2).1, (V20 a (by omega) h2).2.trans (q20 a (by omega) h2).2⟩
  have V18 : ∀ a, a < 228 → a ≠ 209 → I20 a = I18 a ∧ R20 a = R18 a := fun a h1 h2 => ⟨(V19 a (by omega) h2).1.trans (q19 a (by omega) h2).1, (V19 a (by omega) h2).2.trans (q19 a (by omega) h2).2⟩
  have V17 : ∀ a, a < 227 → a ≠ 209 → I20 a = I17 a ∧ R20 a = R17 a := fun a h1 h2 => ⟨(V18 a (by omega) h2).1.trans (q18 a (by omega) h2).1, (V18 a (by omega) h2).2.trans (q18 a (by omega) h2).2⟩
  have V16 : ∀ a, a < 226 → a ≠ 209 → I20 a = I16 a ∧ R20 a = R16 a := fun a h1 h2 => ⟨(V17 a (by omega) h2).1.trans (q17 a (by omega) h2).1, (V17 a (by omega) h2).2.trans (q17 a (by omega) h2).2⟩
  have V15 : ∀ a, a < 225 → a ≠ 209 → I20 a = I15 a ∧ R20 a = R15 a := fun a h1 h2 => ⟨(V16 a (by omega) h2).1.trans (q16 a (by omega) h2).1, (V16 a (by omega) h2).2.trans (q16 a (by omega) h2).2⟩
  have V14 : ∀ a, a < 224 → a ≠ 209 → I20 a = I14 a ∧ R20 a = R14 a := fun a h1 h2 => ⟨(V15 a (by omega) h2).1.trans (q15 a (by omega) h2).1, (V15 a (by omega) h2).2.trans (q15 a (by omega) h2).2⟩
  have V13 : ∀ a, a < 223 → a ≠ 209 → I20 a = I13 a ∧ R20 a = R13 a := fun a h1 h2 => ⟨(V14 a (by omega) h2).1.trans (q14 a (by omega) h2).1, (V14 a (by omega) h2).2.trans (q14 a (by omega) h2).2⟩
  have V12 : ∀ a, a < 222 → a ≠ 209 → I20 a = I12 a ∧ R20 a = R12 a := fun a h1 h2 => ⟨(V13 a (by omega) h2).1.trans (q13 a (by omega) h2).1, (V13 a (by omega) h2).2.trans (q13 a (by omega) h2).2⟩
  have V11 : ∀ a, a < 221 → a ≠ 209 → I20 a = K11 a ∧ R20 a = T11 a := fun a h1 h2 => ⟨(V12 a (by omega) h2).1.trans (q12 a (by omega) h2).1, (V12 a (by omega) h2).2.trans (q12 a (by omega) h2).2⟩
  have V10 : ∀ a, a < 220 → a ≠ 209 → I20 a = K10 a ∧ R20 a = T10 a := fun a h1 h2 => ⟨(V11 a (by omega) h2).1.trans (q11 a (by omega) h2).1, (V11 a (by omega) h2).2.trans (q11 a (by omega) h2).2⟩
  have V9 : ∀ a, a < 219 → a ≠ 209 → I20 a = I9 a ∧ R20 a = R9 a := fun a h1 h2 => ⟨(V10 a (by omega) h2).1.trans (q10 a (by omega) h2).1, (V10 a (by omega) h2).2.trans (q10 a (by omega) h2).2⟩
  have V8 : ∀ a, a < 218 → a ≠ 209 → I20 a = I8 a ∧ R20 a = R8 a := fun a h1 h2 => ⟨(V9 a (by omega) h2).1.trans (q9 a (by omega) h2).1, (V9 a (by omega) h2).2.trans (q9 a (by omega) h2).2⟩
  have V7 : ∀ a, a < 217 → a ≠ 209 → I20 a = I7 a ∧ R20 a = R7 a := fun a h1 h2 => ⟨(V8 a (by omega) h2).1.trans (q8 a (by omega) h2).1, (V8 a (by omega) h2).2.trans (q8 a (by omega) h2).2⟩
  have V6 : ∀ a, a < 216 → a ≠ 209 → I20 a = I6 a ∧ R20 a = R6 a := fun a h1 h2 => ⟨(V7 a (by omega) h2).1.trans (q7 a (by omega) h2).1, (V7 a (by omega) h2).2.trans (q7 a (by omega) h2).2⟩
  have V5 : ∀ a, a < 215 → a ≠ 209 → I20 a = I5 a ∧ R20 a = R5 a := fun a h1 h2 => ⟨(V6 a (by omega) h2).1.trans (q6 a (by omega) h2).1, (V6 a (by omega) h2).2.trans (q6 a (by omega) h2).2⟩
  have V4 : ∀ a, a < 214 → a ≠ 209 → I20 a = I4 a ∧ R20 a = R4 a := fun a h1 h2 => ⟨(V5 a (by omega) h2).1.trans (q5 a (by omega) h2).1, (V5 a (by omega) h2).2.trans (q5 a (by omega) h2).2⟩
  have V3 : ∀ a, a < 213 → a ≠ 209 → I20 a = I3 a ∧ R20 a = R3 a := fun a h1 h2 => ⟨(V4 a (by omega) h2).1.trans (q4 a (by omega) h2).1, (V4 a (by omega) h2).2.trans (q4 a (by omega) h2).2⟩
  have V2 : ∀ a, a < 212 → a ≠ 209 → I20 a = I2 a ∧ R20 a = R2 a := fun a h1 h2 => ⟨(V3 a (by omega) h2).1.trans (q3 a (by omega) h2).1, (V3 a (by omega) h2).2.trans (q3 a (by omega) h2).2⟩
  have V1 : ∀ a, a < 211 → a ≠ 209 → I20 a = K1 a ∧ R20 a = R1 a := fun a h1 h2 => ⟨(V2 a (by omega) h2).1.trans (q2 a (by omega) h2).1, (V2 a (by omega) h2).2.trans (q2 a (by omega) h2).2⟩
  have V0 : ∀ a, a < 210 → a ≠ 209 → I20 a = I a ∧ R20 a = R a := fun a h1 h2 => ⟨(V1 a (by omega) h2).1.trans (q1 a (by omega) h2).1, (V1 a (by omega) h2).2.trans (q1 a (by omega) h2).2⟩
  have B20 : ∀ j, R20 209 j = R20 209 j := fun _ => rfl
  refine k sh20 I20 R20 n20 G0 (fun a h => V0 a (by omega) (by omega)) ⟨G1 _ _ c1, G2 _ _ c2, G3 _ _ c3, G4 _ _ c4, G5 _ _ c5, G6 _ _ c6, G7 _ _ c7, G8 _ _ c8, G9 _ _ c9, G10 _ _ c10, G11 _ _ c11, G12 _ _ c12, G13 _ _ c13, G14 _ _ c14, G15 _ _ c15, G16 _ _ c16, G17 _ _ c17, G18 _ _ c18, G19 _ _ c19, G20 _ _ c20⟩ ⟨?_, ?_, ?_, ?_, ?_, ?_, ?_, ?_, ?_, ?_, ?_, ?_, ?_, ?_, ?_, ?_, ?_, ?_, ?_, ?_⟩ ⟨fun j => by rw [(V1 210 (by omega) (by decide)).1]; exact y1 j, fun j => by rw [(V2 211 (by omega) (by decide)).1]; exact y2 j, fun j => by rw [(V3 212 (by omega) (by decide)).1]; exact y3 j, fun j => by rw [(V4 213 (by omega) (by decide)).1]; exact y4 j, fun j => by rw [(V5 214 (by omega) (by decide)).1]; exact y5 j, fun j => by rw [(V6 215 (by omega) (by decide)).1]; exact y6 j, fun j => by rw [(V7 216 (by omega) (by decide)).1]; exact y7 j, fun j => by rw [(V8 217 (by omega) (by decide)).1]; exact y8 j, fun j => by rw [(V9 218 (by omega) (by decide)).1]; exact y9 j, fun j => by rw [(V12 221 (by omega) (by decide)).1]; exact y12 j, fun j => by rw [(V13 222 (by omega) (by decide)).1]; exact y13 j, fun j => by rw [(V14 223 (by omega) (by decide)).1]; exact y14 j, fun j => by rw [(V15 224 (by omega) (by decide)).1]; exact y15 j, fun j => by rw [(V16 225 (by omega) (by decide)).1]; exact y16 j, fun j => by rw [(V17 226 (by omega) (by decide)).1]; exact y17 j, fun j => by rw [(V18 227 (by omega) (by decide)).1]; exact y18 j, fun j => by rw [(V19 228 (by omega) (by decide)).1]; exact y19 j, fun j => by rw [(V20 229 (by omega) (by decide)).1]; exact y20 j⟩ ?_ ?_ ⟨?_, ?_, ?_⟩
  · rw [b20 0 (by decide), b19 0 (by decide), b18 0 (by decide), b17 0 (by decide), b16 0 (by decide), b15 0 (by decide), b14 0 (by decide), b13 0 (by decide), b12 0 (by decide), b11 0 (by decide), b10 0 (by decide), b9 0 (by decide), b8 0 (by decide), b7 0 (by decide), b6 0 (by decide), b5 0 (by decide), b4 0 (by decide), b3 0 (by decide), b2 0 (by decide)]; exact t1
  · rw [b20 4 (by decide), b19 4 (by decide), b18 4 (by decide), b17 4 (by decide), b16 4 (by decide), b15 4 (by decide), b14 4 (by decide), b13 4 (by decide), b12 4 (by decide), b11 4 (by decide), b10 4 (by decide), b9 4 (by decide), b8 4 (by decide), b7 4 (by decide), b6 4 (by decide), b5 4 (by decide), b4 4 (by decide), b3 4 (by decide)]; exact t2
  · rw [b20 5 (by decide), b19 5 (by decide), b18 5 (by decide), b17 5 (by decide), b16 5 (by decide), b15 5 (by decide), b14 5 (by decide), b13 5 (by decide), b12 5 (by decide), b11 5 (by decide), b10 5 (by decide), b9 5 (by decide), b8 5 (by decide), b7 5 (by decide), b6 5 (by decide), b5 5 (by decide), b4 5 (by decide)]; exact t3
  · rw [b20 6 (by decide), b19 6 (by decide), b18 6 (by decide), b17 6 (by decide), b16 6 (by decide), b15 6 (by decide), b14 6 (by decide), b13 6 (by decide), b12 6 (by decide), b11 6 (by decide), b10 6 (by decide), b9 6 (by decide), b8 6 (by decide), b7 6 (by decide), b6 6 (by decide), b5 6 (by decide)]; exact t4
  · rw [b20 7 (by decide), b19 7 (by decide), b18 7 (by decide), b17 7 (by decide), b16 7 (by decide), b15 7 (by decide), b14 7 (by decide), b13 7 (by decide), b12 7 (by decide), b11 7 (by decide), b10 7 (by decide), b9 7 (by decide), b8 7 (by decide), b7 7 (by decide), b6 7 (by decide)]; exact t5
  · rw [b20 8 (by decide), b19 8 (by decide), b18 8 (by decide), b17 8 (by decide), b16 8 (by decide), b15 8 (by decide), b14 8 (by decide), b13 8 (by decide), b12 8 (by decide), b11 8 (by decide), b10 8 (by decide), b9 8 (by decide), b8 8 (by decide), b7 8 (by decide)]; exact t6
  · rw [b20 9 (by decide), b19 9 (by decide), b18 9 (by decide), b17 9 (by decide), b16 9 (by decide), b15 9 (by decide), b14 9 (by decide), b13 9 (by decide), b12 9 (by decide), b11 9 (by decide), b10 9 (by decide), b9 9 (by decide), b8 9 (by decide)]; exact t7
  · rw [b20 13 (by decide), b19 13 (by decide), b18 13 (by decide), b17 13 (by decide), b16 13 (by decide), b15 13 (by decide), b14 13 (by decide), b13 13 (by decide), b12 13 (by decide), b11 13 (by decide), b10 13 (by decide), b9 13 (by decide)]; exact t8
  · rw [b20 15 (by decide), b19 15 (by decide), b18 15 (by decide), b17 15 (by decide), b16 15 (by decide), b15 15 (by decide), b14 15 (by decide), b13 15 (by decide), b12 15 (by decide), b11 15 (by decide), b10 15 (by decide)]; exact t9
  · rw [b20 23 (by decide), b19 23 (by decide), b18 23 (by decide), b17 23 (by decide), b16 23 (by decide), b15 23 (by decide), b14 23 (by decide), b13 23 (by decide), b12 23 (by decide), b11 23 (by decide)]; exact t10
  · rw [b20 24 (by decide), b19 24 (by decide), b18 24 (by decide), b17 24 (by decide), b16 24 (by decide), b15 24 (by decide), b14 24 (by decide), b13 24 (by decide), b12 24 (by decide)]; exact t11
  · rw [b20 25 (by decide), b19 25 (by decide), b18 25 (by decide), b17 25 (by decide), b16 25 (by decide), b15 25 (by decide), b14 25 (by decide), b13 25 (by decide)]; exact t12
  · rw [b20 30 (by decide), b19 30 (by decide), b18 30 (by decide), b17 30 (by decide), b16 30 (by decide), b15 30 (by decide), b14 30 (by decide)]; exact t13
  · rw [b20 31 (by decide), b19 31 (by decide), b18 31 (by decide), b17 31 (by decide), b16 31 (by decide), b15 31 (by decide)]; exact t14
  · rw [b20 33 (by decide), b19 33 (by decide), b18 33 (by decide), b17 33 (by decide), b16 33 (by decide)]; exact t15
  · rw [b20 36 (by decide), b19 36 (by decide), b18 36 (by decide), b17 36 (by decide)]; exact t16
  · rw [b20 37 (by decide), b19 37 (by decide), b18 37 (by decide)]; exact t17
  · rw [b20 38 (by decide), b19 38 (by decide)]; exact t18
  · rw [b20 39 (by decide)]; exact t19
  · exact t20
  · intro j hj; rw [(V10 219 (by omega) (by decide)).1]; exact y10 j hj
  · intro j hj; rw [(V11 220 (by omega) (by decide)).1]; exact y11 j hj
  · rw [a20, a19, a18, a17, a16, a15, a14, a13, a12, a11, a10, a9, a8, a7, a6, a5, a4, a3, a2, ← hK1, xi_s (by decide), xi_e]
  · rw [a20, a19, a18, a17, a16, a15, a14, a13, a12, a11, a10, a9, a8, a7, a6, a5, a4, a3, a2, ← hK1, xi_e]
  · intro j h1 h2; rw [a20, a19, a18, a17, a16, a15, a14, a13, a12, a11, a10, a9, a8, a7, a6, a5, a4, a3, a2]; exact a1 j h1 h2
end X10A
