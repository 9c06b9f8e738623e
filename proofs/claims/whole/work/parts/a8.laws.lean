section LAWS
variable {sh sh' : List xSh} {I I' : Nat → Nat → Int32} {R R' : Nat → Nat → Option Nat} {L : Nat} {xs : Nat → Int32}
theorem S9.gr (h : S9 sh I R) (g : gS sh sh') (u : ∀ a, a < 209 → I' a = I a ∧ R' a = R a) : S9 sh' I' R' := by
  obtain ⟨⟨hR, hz⟩, ⟨s0, s1, s2, s20, s21, s22, s23, s86, s177⟩, hI1, p4, p8, z21, p0, p1, ⟨m169, i169⟩, ⟨m173, i173⟩, ⟨r200, r201⟩, ⟨p178, p189⟩, ⟨r220, r221, r222⟩, p200, p203, p206⟩ := h
  have q4 : P4 2 sh' I' R' := p4.u g (fun a h1 h2 => u a (by omega))
  have q9 : P8 9 sh' I' R' := p8.u g (fun a h1 h2 => u a (by omega))
  have q0 : P0 23 sh' I' R' := p0.u g (fun a h1 h2 => u a (by omega))
  have q1 : P1 86 sh' I' R' := p1.u g (fun a h1 h2 => u a (by omega))
  have q178 : P8 178 sh' I' R' := p178.u g (fun a h1 h2 => u a (by omega))
  have q189 : P8 189 sh' I' R' := p189.u g (fun a h1 h2 => u a (by omega))
  have q200 : P6 200 sh' I' R' := p200.u g (fun a h1 h2 => u a (by omega))
  have q203 : P6 203 sh' I' R' := p203.u g (fun a h1 h2 => u a (by omega))
  have q206 : P6 206 sh' I' R' := p206.u g (fun a h1 h2 => u a (by omega))
  have m1 := m169.gr1 g (u 169 (by omega)).2
  have m2 := m173.gr1 g (u 173 (by omega)).2
  have e0 := (u 0 (by omega)).2
  have e20 := (u 20 (by omega)).2
  have e22 := (u 22 (by omega)).2
  exact ⟨⟨fun k r hk => by rw [e0]; exact hR k r hk, by rw [(u 0 (by omega)).1]; exact hz⟩, ⟨g _ _ s0, g _ _ s1, g _ _ s2, g _ _ s20, g _ _ s21, g _ _ s22, g _ _ s23, g _ _ s86, g _ _ s177⟩, by rw [(u 1 (by omega)).1]; exact hI1, q4, q9, by rw [(u 21 (by omega)).1]; exact z21, q0, q1, ⟨m1, by rw [(u 169 (by omega)).1]; exact i169⟩, ⟨m2, by rw [(u 173 (by omega)).1]; exact i173⟩, by rw [e20]; exact ⟨r200, r201⟩, ⟨q178, q189⟩, by rw [e22]; exact ⟨r220, r221, r222⟩, q200, q203, q206⟩
/-- what the law makes in all -/
abbrev lwc : Nat := (tcA + ((xc0 + 4 * 513) + 1)) + 1
abbrev lwt : Nat := (tsA + ((xs0 + 100 * 513) + xN 10)) + xN 9
/-- the law, from its first instruction -/
theorem lw_all (hL : L ≤ 2560) : Ex (mL_law L xs) 0 [.ref 1000000, xU, xU, xU] [] ([], fun _ _ => 0, fun _ _ => none) lwc lwt (xqI lwQ) := by
  refine yw_newO dL_law_0 nL_7 (by decide) (fun sh1 I1 R1 p1 => ?_)
  have l1 : sh1.length = 1 := p1.len
  have z1 : sh1[0]? = some (.inl 9) := p1.at
  have i1 : ∀ j, I1 0 j = 0 := p1.2.2.1
  refine xw_dup dL_law_3 rfl ?_
  refine xw_callI (h := (sh1, I1, R1)) (Y' := mX9_init) (As := []) (b := 0) (st := [.ref 0]) dL_law_4 lL_9 kiX9_init rfl rfl (xB_of rfl) rfl rfl (Nat.le_of_ble_eq_true rfl) (Nat.le_of_ble_eq_true rfl) ?_
  refine xk_W (x9_init z1 l1 i1 (fun sh2 I2 R2 l2 s2 => ?_))
  refine yw_astore_n (lv' := [.ref 1000000, .ref 0, xU, xU]) dL_law_7 rfl rfl rfl rfl ?_
  refine yw_newO dL_law_8 nL_10 (by omega) (fun sh3 I3 R3 p3 => ?_)
  have l3 : sh3.length = 210 := by rw [p3.len, l2]
  have z3 := p3.at
  have i3 := p3.2.2.1
  rw [l2] at z3 i3 ⊢
  have s3 : S9 sh3 I3 R3 := s2.gr p3.S (fun a ha => p3.2.1 a (by omega))
  refine xw_dup dL_law_11 rfl ?_
  refine xw_callI (h := (sh3, I3, R3)) (Y' := mX10_init) (As := []) (b := 209) (st := [.ref 209]) dL_law_12 lL_12 kiX10_init rfl rfl (xB_of rfl) rfl rfl (Nat.le_of_ble_eq_true rfl) (Nat.le_of_ble_eq_true rfl) ?_
  refine xk_W (x10_init z3 l3 i3 s3 (fun sh4 I4 R4 l4 c4 m4 => ?_))
  refine yw_astore_n (lv' := [.ref 1000000, .ref 0, .ref 209, xU]) dL_law_15 rfl rfl rfl rfl ?_
  refine xw_iconst (v := nI 0) dL_law_16 rfl ?_
  refine yw_istore_n (lv' := lwL 0) dL_law_17 rfl rfl rfl rfl ?_
  exact lw_loop hL 513 0 sh4 I4 R4 st0 (Nat.zero_le _) (by omega) c4 m4 (by omega)
theorem lwc_le : lwc ≤ 600000 := Nat.le_of_ble_eq_true rfl
theorem lwt_le : lwt ≤ 7302249 := Nat.le_of_ble_eq_true rfl
end LAWS
