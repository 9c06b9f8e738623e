section X9C
variable {sh : List xSh} {I : Nat → Nat → Int32} {R : Nat → Nat → Option Nat}
theorem x9_init {Q : xHp → Prop} (h0 : sh[0]? = some (.inl 9)) (hlen : sh.length = 1) (hz : ∀ j, I 0 j = 0) (k : ∀ sh' I' R', sh'.length = 209 → S9 sh' I' R' → Q (sh', I', R')) : Cl mX9_init [.ref 0] (sh, I, R) tcA tsA (xqV Q) := by
  show Ex mX9_init 0 [.ref 0, xU] [] (sh, I, R) tcA tsA (xqV Q)
  refine xw_aload_n dX9_init_0 rfl rfl ?_
  refine xw_objInit dX9_init_1 lX9_1 ko_i ko_c (Nat.le_of_ble_eq_true rfl) (Nat.le_of_ble_eq_true rfl) (Nat.le_of_ble_eq_true rfl) ?_
  refine xw_aload_n dX9_init_4 rfl rfl ?_
  refine yw_newO (mc := 0 + tc0) (ms := 0 + ts0) dX9_init_5 nX9_7 (by omega) (fun sh1 I1 R1 p1 => ?_)
  have l1 := p1.len
  have q1 := p1.at
  rw [hlen] at q1
  have z1 := p1.S _ _ h0
  have y1 := p1.2.1 0 (by omega)
  refine xw_dup dX9_init_8 rfl ?_
  rw [hlen]
  refine xw_callIN (mc1 := 0) (ms1 := 0) (mc := tc0) (ms := ts0) (Y' := mX5_init) (As := []) (b := 1) (st := [.ref 1, .ref 0]) dX9_init_9 rfl rfl kcX5_init knX5 (by decide +kernel) (by decide +kernel) rfl kiX5_init rfl rfl (xB_of rfl) rfl rfl (Nat.le_of_ble_eq_true rfl) (Nat.le_of_ble_eq_true rfl) ?_
  refine xk_W (x5_init q1 ?_)
  refine yw_putR dX9_init_12 fX9_10 (fun r h => by cases h; first | exact Or.inl rfl | exact Or.inr ⟨rfl, rfl, rfl⟩) rfl z1 q1 ?_
  generalize hJ1 : xi (xi I1 1 0 (nI 7)) 1 1 (nI 2) = J1
  generalize hS1 : xr R1 0 0 (some 1) = S1
  have i10 : J1 1 0 = nI 7 := by rw [← hJ1, xi_s (by decide), xi_e]
  have i11 : J1 1 1 = nI 2 := by rw [← hJ1, xi_e]
  have i1z : ∀ j, J1 0 j = 0 := fun j => by rw [← hJ1, xi_p (by decide), xi_p (by decide), y1.1]; exact hz j
  have r1 : S1 0 0 = some 1 := by rw [← hS1, xr_e]
  have n1 : sh1.length = 2 := by omega
  refine xw_aload_n dX9_init_15 rfl rfl ?_
  refine ev_ob (Y' := mX4_init) (P := P4) (mc := tc1) (ms := ts1) dX9_init_16 dX9_init_19 dX9_init_20 dX9_init_21 dX9_init_24 dX9_init_27 nX9_16 fX9_10 lX9_18 kiX4_init rfl rfl (xB_of rfl) rfl fX9_21 (fun r h => by cases h; first | exact Or.inl rfl | exact Or.inr ⟨rfl, rfl, rfl⟩) rfl rfl z1 q1 r1 (by omega) (by omega) ctor4 (fun sh2 I2 R2 X2 e2 P2 x2 c2 => ?_)
  obtain ⟨g2, m2, u2, a2, b2, t2⟩ := id e2
  rw [n1] at m2 t2 P2 c2
  have n2 : sh2.length = 9 := by omega
  have z2 := g2 _ _ z1
  have q2 := g2 _ _ q1
  have r2 : R2 0 0 = some 1 := by rw [b2 0 (by decide)]; exact r1
  refine xw_aload_n dX9_init_30 rfl rfl ?_
  refine ev_ob (Y' := mX8_init) (P := P8) (mc := tc2) (ms := ts2) dX9_init_31 dX9_init_34 dX9_init_35 dX9_init_36 dX9_init_39 dX9_init_42 nX9_25 fX9_10 lX9_27 kiX8_init rfl rfl (xB_of rfl) rfl fX9_28 (fun r h => by cases h; first | exact Or.inl rfl | exact Or.inr ⟨rfl, rfl, rfl⟩) rfl rfl z2 q2 r2 (by omega) (by omega) ctor8 (fun sh3 I3 R3 X3 e3 P3 x3 c3 => ?_)
  obtain ⟨g3, m3, u3, a3, b3, t3⟩ := id e3
  rw [n2] at m3 t3 P3 c3
  have n3 : sh3.length = 20 := by omega
  have z3 := g3 _ _ z2
  have q3 := g3 _ _ q2
  have r3 : R3 0 0 = some 1 := by rw [b3 0 (by decide)]; exact r2
  refine xw_aload_n dX9_init_45 rfl rfl ?_
  refine xw_iconst (v := nI 2) dX9_init_46 rfl ?_
  refine ev_art (N := 2) (q := 0) (mc := tc3) (ms := ts3) dX9_init_47 dX9_init_50 (Or.inl ⟨rfl, rfl⟩) rfl qX9_25 rfl (by omega) fX9_32 (fun r h => by cases h; first | exact Or.inl rfl | exact Or.inr ⟨rfl, rfl, rfl⟩) rfl z3 (by omega) (fun sh4 I4 R4 e4 => ?_)
  have g4 := e4.S
  have m4 := e4.len
  have t4 := e4.2.2.2.2.1
  have c4 := e4.at
  rw [n3] at t4 c4
  have b4 := e4.2.2.2.1
  have a4 := e4.2.2.1
  have n4 : sh4.length = 21 := by omega
  have z4 := g4 _ _ z3
  have q4 := g4 _ _ q3
  have r4 : R4 0 0 = some 1 := by rw [b4 0 (by decide)]; exact r3
  refine xw_aload_n dX9_init_53 rfl rfl ?_
  refine xw_iconst (v := nI 2) dX9_init_54 rfl ?_
  refine ev_arr (N := 2) (q := 0) (mc := tc4) (ms := ts4) dX9_init_55 dX9_init_57 (Or.inr (Or.inl ⟨rfl, rfl⟩)) k_arrZ rfl (by omega) fX9_36 (fun r h => by cases h; first | exact Or.inl rfl | exact Or.inr ⟨rfl, rfl, rfl⟩) rfl z4 (by omega) (fun sh5 I5 R5 e5 => ?_)
  have g5 := e5.S
  have m5 := e5.len
  have t5 := e5.2.2.2.2.1
  have c5 := e5.at
  rw [n4] at t5 c5
  have b5 := e5.2.2.2.1
  have a5 := e5.2.2.1
  have n5 : sh5.length = 22 := by omega
  have z5 := g5 _ _ z4
  have q5 := g5 _ _ q4
  have r5 : R5 0 0 = some 1 := by rw [b5 0 (by decide)]; exact r4
  refine xw_aload_n dX9_init_60 rfl rfl ?_
  refine xw_iconst (v := nI 3) dX9_init_61 rfl ?_
  refine ev_art (N := 3) (q := 0) (mc := tc5) (ms := ts5) dX9_init_62 dX9_init_65 (Or.inr (Or.inl ⟨rfl, rfl⟩)) rfl qX9_40 rfl (by omega) fX9_42 (fun r h => by cases h; first | exact Or.inl rfl | exact Or.inr ⟨rfl, rfl, rfl⟩) rfl z5 (by omega) (fun sh6 I6 R6 e6 => ?_)
  have g6 := e6.S
  have m6 := e6.len
  have t6 := e6.2.2.2.2.1
  have c6 := e6.at
  rw [n5] at t6 c6
  have b6 := e6.2.2.2.1
  have a6 := e6.2.2.1
  have n6 : sh6.length = 23 := by omega
  have z6 := g6 _ _ z5
  have q6 := g6 _ _ q5
  have r6 : R6 0 0 = some 1 := by rw [b6 0 (by decide)]; exact r5
  refine xw_aload_n dX9_init_68 rfl rfl ?_
  refine ev_ob (Y' := mX0_init) (P := P0) (mc := tc6) (ms := ts6) dX9_init_69 dX9_init_72 dX9_init_73 dX9_init_74 dX9_init_77 dX9_init_80 nX9_46 fX9_10 lX9_48 kiX0_init rfl rfl (xB_of rfl) rfl fX9_49 (fun r h => by cases h; first | exact Or.inl rfl | exact Or.inr ⟨rfl, rfl, rfl⟩) rfl rfl z6 q6 r6 (by omega) (by omega) ctor0 (fun sh7 I7 R7 X7 e7 P7 x7 c7 => ?_)
  obtain ⟨g7, m7, u7, a7, b7, t7⟩ := id e7
  rw [n6] at m7 t7 P7 c7
  have n7 : sh7.length = 86 := by omega
  have z7 := g7 _ _ z6
  have q7 := g7 _ _ q6
  have r7 : R7 0 0 = some 1 := by rw [b7 0 (by decide)]; exact r6
  refine xw_aload_n dX9_init_83 rfl rfl ?_
  refine ev_ob (Y' := mX1_init) (P := P1) (mc := tc7) (ms := ts7) dX9_init_84 dX9_init_87 dX9_init_88 dX9_init_89 dX9_init_92 dX9_init_95 nX9_53 fX9_10 lX9_55 kiX1_init rfl rfl (xB_of rfl) rfl fX9_56 (fun r h => by cases h; first | exact Or.inl rfl | exact Or.inr ⟨rfl, rfl, rfl⟩) rfl rfl z7 q7 r7 (by omega) (by omega) ctor1 (fun sh8 I8 R8 X8 e8 P8 x8 c8 => ?_)
  obtain ⟨g8, m8, u8, a8, b8, t8⟩ := id e8
  rw [n7] at m8 t8 P8 c8
  have n8 : sh8.length = 169 := by omega
  have z8 := g8 _ _ z7
  have q8 := g8 _ _ q7
  have r8 : R8 0 0 = some 1 := by rw [b8 0 (by decide)]; exact r7
  refine xw_aload_n dX9_init_98 rfl rfl ?_
  refine x9_mac (M := 8) (pc1 := 109) (pc2 := 112) (mc := tc8) (ms := ts8) dX9_init_99 dX9_init_102 dX9_init_103 dX9_init_104 (fun kk => xw_bipush (v := nI 8) dX9_init_107 (by decide) kk) dX9_init_109 rfl dX9_init_112 fX9_67 (fun r h => by cases h; first | exact Or.inl rfl | exact Or.inr ⟨rfl, rfl, rfl⟩) rfl (by omega) z8 q8 r8 (by omega) (by omega) (fun sh9 I9 R9 e9 P9 x9 => ?_)
  obtain ⟨g9, m9, u9, a9, b9, t9⟩ := id e9
  rw [n8] at m9 t9 P9 x9
  have n9 : sh9.length = 173 := by omega
  have z9 := g9 _ _ z8
  have q9 := g9 _ _ q8
  have r9 : R9 0 0 = some 1 := by rw [b9 0 (by decide)]; exact r8
  refine xw_aload_n dX9_init_115 rfl rfl ?_
  refine x9_mac (M := 4) (pc1 := 125) (pc2 := 128) (mc := tc9) (ms := ts9) dX9_init_116 dX9_init_119 dX9_init_120 dX9_init_121 (fun kk => xw_iconst (v := nI 4) dX9_init_124 rfl kk) dX9_init_125 rfl dX9_init_128 fX9_71 (fun r h => by cases h; first | exact Or.inl rfl | exact Or.inr ⟨rfl, rfl, rfl⟩) rfl (by omega) z9 q9 r9 (by omega) (by omega) (fun sh10 I10 R10 e10 P10 x10 => ?_)
  obtain ⟨g10, m10, u10, a10, b10, t10⟩ := id e10
  rw [n9] at m10 t10 P10 x10
  have n10 : sh10.length = 177 := by omega
  have z10 := g10 _ _ z9
  have q10 := g10 _ _ q9
  have r10 : R10 0 0 = some 1 := by rw [b10 0 (by decide)]; exact r9
  refine xw_aload_n dX9_init_131 rfl rfl ?_
  refine xw_iconst (v := nI 4) dX9_init_132 rfl ?_
  refine ev_arr (N := 4) (q := 0) (mc := tc10) (ms := ts10) dX9_init_133 dX9_init_135 (Or.inl ⟨rfl, rfl⟩) k_arrI rfl (by omega) fX9_74 (fun r h => by cases h; first | exact Or.inl rfl | exact Or.inr ⟨rfl, rfl, rfl⟩) rfl z10 (by omega) (fun sh11 I11 R11 e11 => ?_)
  have g11 := e11.S
  have m11 := e11.len
  have t11 := e11.2.2.2.2.1
  have c11 := e11.at
  rw [n10] at t11 c11
  have b11 := e11.2.2.2.1
  have a11 := e11.2.2.1
  have n11 : sh11.length = 178 := by omega
  have z11 := g11 _ _ z10
  have q11 := g11 _ _ q10
  have r11 : R11 0 0 = some 1 := by rw [b11 0 (by decide)]; exact r10
  refine xw_iconst (v := nI 0) dX9_init_138 rfl ?_
  refine yw_istore_n (lv' := [.ref 0, .int (nI 0)]) dX9_init_139 rfl rfl rfl rfl ?_
  have f3 : ∀ s, s ∈ [(3 : Nat), 5] → R11 0 s = R6 0 s := fun s hs => by
    have hs2 : s = 3 ∨ s = 5 := by simpa using hs
    rw [b11 s (by omega), b10 s (by omega), b9 s (by omega), b8 s (by omega), b7 s (by omega)]
  have r3 : R11 0 3 = some 20 := by rw [f3 3 (by simp), b6 3 (by decide), b5 3 (by decide), t4]
  have r5 : R11 0 5 = some 22 := by rw [f3 5 (by simp), t6]
  have g6b : gS sh6 sh11 := g7.tr (g8.tr (g9.tr (g10.tr g11)))
  have h20 := g6b _ _ (g6 _ _ (g5 _ _ c4))
  have h22 := g6b _ _ c6
  refine x9_img (j := 0) (mc := tc11) (ms := ts11) (by omega) z11 q11 r11 r3 h20 (by omega) (fun sh12 I12 R12 X12 g12 m12 u12 P12 x12 => ?_)
  have v12 := x9_u (tb := 20) (by omega) g12 m12 u12 x12
  have k12 : R12 0 = R11 0 := by rw [x12]; funext s; rw [xr_p (by decide), (u12 0 (by omega)).2]
  have n12 : sh12.length = 189 := by omega
  rw [n11] at P12 x12
  have z12 := g12 _ _ z11
  have q12 := g12 _ _ q11
  have r12 : R12 0 0 = some 1 := by rw [k12]; exact r11
  refine x9_img (j := 1) (mc := tc12) (ms := ts12) (by omega) z12 q12 r12 (by rw [k12]; exact r3) (g12 _ _ h20) (by omega) (fun sh13 I13 R13 X13 g13 m13 u13 P13 x13 => ?_)
  have v13 := x9_u (tb := 20) (by omega) g13 m13 u13 x13
  have k13 : R13 0 = R12 0 := by rw [x13]; funext s; rw [xr_p (by decide), (u13 0 (by omega)).2]
  have n13 : sh13.length = 200 := by omega
  rw [n12] at P13 x13
  have z13 := g13 _ _ z12
  have q13 := g13 _ _ q12
  have r13 : R13 0 0 = some 1 := by rw [k13]; exact r12
  refine xw_iload_n dX9_init_140 rfl rfl ?_
  refine xw_iconst (v := nI 2) dX9_init_141 rfl ?_
  refine xw_icge (tgt := 168) dX9_init_142 (by decide) (fun _ => ?_) (fun z => absurd (by decide) z)
  refine xw_iconst (v := nI 0) dX9_init_168 rfl ?_
  refine yw_istore_n (lv' := [.ref 0, .int (nI 0)]) dX9_init_169 rfl rfl rfl rfl ?_
  have r5c : R13 0 5 = some 22 := by rw [k13, k12]; exact r5
  have h22c := g13 _ _ (g12 _ _ h22)
  refine x9_shf (j := 0) (mc := tc13) (ms := ts13) (by omega) z13 q13 r13 r5c h22c (by omega) (fun sh14 I14 R14 X14 g14 m14 u14 P14 x14 => ?_)
  have v14 := x9_u (tb := 22) (by omega) g14 m14 u14 x14
  have k14 : R14 0 = R13 0 := by rw [x14]; funext s; rw [xr_p (by decide), (u14 0 (by omega)).2]
  have n14 : sh14.length = 203 := by omega
  rw [n13] at P14 x14
  have z14 := g14 _ _ z13
  have q14 := g14 _ _ q13
  have r14 : R14 0 0 = some 1 := by rw [k14]; exact r13
  refine x9_shf (j := 1) (mc := tc14) (ms := ts14) (by omega) z14 q14 r14 (by rw [k14]; exact r5c) (g14 _ _ h22c) (by omega) (fun sh15 I15 R15 X15 g15 m15 u15 P15 x15 => ?_)
  have v15 := x9_u (tb := 22) (by omega) g15 m15 u15 x15
  have k15 : R15 0 = R14 0 := by rw [x15]; funext s; rw [xr_p (by decide), (u15 0 (by omega)).2]
  have n15 : sh15.length = 206 := by omega
  rw [n14] at P15 x15
  have z15 := g15 _ _ z14
  have q15 := g15 _ _ q14
  have r15 : R15 0 0 = some 1 := by rw [k15]; exact r14
  refine x9_shf (j := 2) (mc := 0) (ms := 0) (by omega) z15 q15 r15 (by rw [k15, k14]; exact r5c) (g15 _ _ (g14 _ _ h22c)) (by omega) (fun sh16 I16 R16 X16 g16 m16 u16 P16 x16 => ?_)
  have v16 := x9_u (tb := 22) (by omega) g16 m16 u16 x16
  have k16 : R16 0 = R15 0 := by rw [x16]; funext s; rw [xr_p (by decide), (u16 0 (by omega)).2]
  have n16 : sh16.length = 209 := by omega
  rw [n15] at P16 x16
  have z16 := g16 _ _ z15
  have q16 := g16 _ _ q15
  have r16 : R16 0 0 = some 1 := by rw [k16]; exact r15
  refine xw_iload_n dX9_init_170 rfl rfl ?_
  refine xw_iconst (v := nI 3) dX9_init_171 rfl ?_
  refine xw_icge (tgt := 198) dX9_init_172 (by decide) (fun _ => ?_) (fun z => absurd (by decide) z)
  refine yw_vret dX9_init_198 rfl ?_
  have w15 : uU sh15 I15 R15 sh16 I16 R16 := v16
  have w14 := v15.tr w15
  have w13 := v14.tr w14
  have w12 := v13.tr w13
  have w11 := v12.tr w12
  have w10 := e11.u.tr w11
  have w9 := e10.u.tr w10
  have w8 := e9.u.tr w9
  have w7 := e8.u.tr w8
  have w6 := e7.u.tr w7
  have w5 := e6.u.tr w6
  have w4 := e5.u.tr w5
  have w3 := e4.u.tr w4
  have w2 := e3.u.tr w3
  have w1 : uU sh1 J1 S1 sh16 I16 R16 := e2.u.tr w2
  have k16b : R16 0 = R11 0 := by rw [k16, k15, k14, k13, k12]
  refine k sh16 I16 R16 n16 ⟨⟨?_, ?_⟩, ⟨z16, q16, w2.1 _ _ c2, w4.1 _ _ c4, w5.1 _ _ c5, w6.1 _ _ c6, w7.1 _ _ c7, w8.1 _ _ c8, w11.1 _ _ c11⟩, ⟨?_, ?_⟩, ?_, ?_, ?_, ?_, ?_, ⟨?_, ?_⟩, ⟨?_, ?_⟩, ⟨?_, ?_⟩, ⟨?_, ?_⟩, ⟨?_, ?_, ?_⟩, ?_, ?_, ?_⟩
  · intro s v h
    rw [k16b]
    simp at h
    rcases h with ⟨rfl, rfl⟩ | ⟨rfl, rfl⟩ | ⟨rfl, rfl⟩ | ⟨rfl, rfl⟩ | ⟨rfl, rfl⟩ | ⟨rfl, rfl⟩ | ⟨rfl, rfl⟩ | ⟨rfl, rfl⟩ | ⟨rfl, rfl⟩ | ⟨rfl, rfl⟩ | ⟨rfl, rfl⟩
    · exact r11
    · rw [b11 1 (by decide), b10 1 (by decide), b9 1 (by decide), b8 1 (by decide), b7 1 (by decide), b6 1 (by decide), b5 1 (by decide), b4 1 (by decide), b3 1 (by decide)]; exact t2
    · rw [b11 2 (by decide), b10 2 (by decide), b9 2 (by decide), b8 2 (by decide), b7 2 (by decide), b6 2 (by decide), b5 2 (by decide), b4 2 (by decide)]; exact t3
    · rw [b11 3 (by decide), b10 3 (by decide), b9 3 (by decide), b8 3 (by decide), b7 3 (by decide), b6 3 (by decide), b5 3 (by decide)]; exact t4
    · rw [b11 4 (by decide), b10 4 (by decide), b9 4 (by decide), b8 4 (by decide), b7 4 (by decide), b6 4 (by decide)]; exact t5
    · rw [b11 5 (by decide), b10 5 (by decide), b9 5 (by decide), b8 5 (by decide), b7 5 (by decide)]; exact t6
    · rw [b11 6 (by decide), b10 6 (by decide), b9 6 (by decide), b8 6 (by decide)]; exact t7
    · rw [b11 7 (by decide), b10 7 (by decide), b9 7 (by decide)]; exact t8
    · rw [b11 8 (by decide), b10 8 (by decide)]; exact t9
    · rw [b11 9 (by decide)]; exact t10
    · exact t11
  · intro s
    rw [(u16 0 (by omega)).1, (u15 0 (by omega)).1, (u14 0 (by omega)).1, (u13 0 (by omega)).1, (u12 0 (by omega)).1, a11 s, a10 s, a9 s, a8 s, a7 s, a6 s, a5 s, a4 s, a3 s, a2 s]; exact i1z s
  · rw [(w1.2.2 1 (by omega) (by decide) (by decide) (by decide)).1]; exact i10
  · rw [(w1.2.2 1 (by omega) (by decide) (by decide) (by decide)).1]; exact i11
  · exact P2.u w2.1 (fun a h1 h2 => ⟨(w2.2.2 a (by omega) (by omega) (by omega) (by omega)).1, (w2.2.2 a (by omega) (by omega) (by omega) (by omega)).2.trans (x2 a (by omega))⟩)
  · exact P3.u w3.1 (fun a h1 h2 => ⟨(w3.2.2 a (by omega) (by omega) (by omega) (by omega)).1, (w3.2.2 a (by omega) (by omega) (by omega) (by omega)).2.trans (x3 a (by omega))⟩)
  · intro s; rw [(w5.2.2 21 (by omega) (by decide) (by decide) (by decide)).1]; have := e5.2.2.2.2.2.1 s; rw [n4] at this; exact this
  · exact P7.u w7.1 (fun a h1 h2 => ⟨(w7.2.2 a (by omega) (by omega) (by omega) (by omega)).1, (w7.2.2 a (by omega) (by omega) (by omega) (by omega)).2.trans (x7 a (by omega))⟩)
  · exact P8.u w8.1 (fun a h1 h2 => ⟨(w8.2.2 a (by omega) (by omega) (by omega) (by omega)).1, (w8.2.2 a (by omega) (by omega) (by omega) (by omega)).2.trans (x8 a (by omega))⟩)
  · exact P9.gr1 w9.1 (w9.2.2 169 (by omega) (by decide) (by decide) (by decide)).2
  · rw [(w9.2.2 169 (by omega) (by decide) (by decide) (by decide)).1]; exact x9
  · exact P10.gr1 w10.1 (w10.2.2 173 (by omega) (by decide) (by decide) (by decide)).2
  · rw [(w10.2.2 173 (by omega) (by decide) (by decide) (by decide)).1]; exact x10
  · rw [x16, xr_p (by decide), (u16 20 (by omega)).2, x15, xr_p (by decide), (u15 20 (by omega)).2, x14, xr_p (by decide), (u14 20 (by omega)).2, x13, xr_s (by decide), (u13 20 (by omega)).2, x12, xr_e]
  · rw [x16, xr_p (by decide), (u16 20 (by omega)).2, x15, xr_p (by decide), (u15 20 (by omega)).2, x14, xr_p (by decide), (u14 20 (by omega)).2, x13, xr_e]
  · exact P12.u w12.1 (fun a h1 h2 => ⟨(w12.2.2 a (by omega) (by omega) (by omega) (by omega)).1, by rw [(w12.2.2 a (by omega) (by omega) (by omega) (by omega)).2, x12]; funext s; rw [xr_p (by omega)]⟩)
  · exact P13.u w13.1 (fun a h1 h2 => ⟨(w13.2.2 a (by omega) (by omega) (by omega) (by omega)).1, by rw [(w13.2.2 a (by omega) (by omega) (by omega) (by omega)).2, x13]; funext s; rw [xr_p (by omega)]⟩)
  · rw [x16, xr_s (by decide), (u16 22 (by omega)).2, x15, xr_s (by decide), (u15 22 (by omega)).2, x14, xr_e]
  · rw [x16, xr_s (by decide), (u16 22 (by omega)).2, x15, xr_e]
  · rw [x16, xr_e]
  · exact P14.u w14.1 (fun a h1 h2 => ⟨(w14.2.2 a (by omega) (by omega) (by omega) (by omega)).1, by rw [(w14.2.2 a (by omega) (by omega) (by omega) (by omega)).2, x14]; funext s; rw [xr_p (by omega)]⟩)
  · exact P15.u w15.1 (fun a h1 h2 => ⟨(w15.2.2 a (by omega) (by omega) (by omega) (by omega)).1, by rw [(w15.2.2 a (by omega) (by omega) (by omega) (by omega)).2, x15]; funext s; rw [xr_p (by omega)]⟩)
  · exact P16.u (fun _ _ h => h) (fun a h1 h2 => ⟨rfl, by rw [x16]; funext s; rw [xr_p (by omega)]⟩)
end X9C
