section LAYOF
variable {sh sh' : List xSh} {I I' : Nat → Nat → Int32} {R R' : Nat → Nat → Option Nat}
theorem lay_of (h : S9 sh I R) (g : gS sh sh') (u : ∀ a, a < 209 → I' a = I a ∧ R' a = R a) (hM : sh'[209]? = some (.inl 10)) (hs : sh'[210]? = some (.inr (0, 1881)) ∧ sh'[211]? = some (.inr (0, 4)) ∧ sh'[212]? = some (.inr (0, 4)) ∧ sh'[213]? = some (.inr (0, 300)) ∧ sh'[214]? = some (.inr (0, 4)) ∧ sh'[215]? = some (.inr (0, 5)) ∧ sh'[216]? = some (.inr (0, 60)) ∧ sh'[217]? = some (.inr (0, 5)) ∧ sh'[218]? = some (.inr (0, 200)) ∧ sh'[219]? = some (.inr (0, 7)) ∧ sh'[220]? = some (.inr (0, 30)) ∧ sh'[221]? = some (.inr (1, 3)) ∧ sh'[222]? = some (.inr (0, 1000)) ∧ sh'[223]? = some (.inr (0, 12)) ∧ sh'[224]? = some (.inr (0, 16)) ∧ sh'[225]? = some (.inr (1, 2)) ∧ sh'[226]? = some (.inr (0, 140)) ∧ sh'[227]? = some (.inr (0, 3)) ∧ sh'[228]? = some (.inr (0, 3)) ∧ sh'[229]? = some (.inr (0, 24))) (hf : R' 209 0 = some 210 ∧ R' 209 4 = some 211 ∧ R' 209 5 = some 212 ∧ R' 209 6 = some 213 ∧ R' 209 7 = some 214 ∧ R' 209 8 = some 215 ∧ R' 209 9 = some 216 ∧ R' 209 13 = some 217 ∧ R' 209 15 = some 218 ∧ R' 209 23 = some 219 ∧ R' 209 24 = some 220 ∧ R' 209 25 = some 221 ∧ R' 209 30 = some 222 ∧ R' 209 31 = some 223 ∧ R' 209 33 = some 224 ∧ R' 209 36 = some 225 ∧ R' 209 37 = some 226 ∧ R' 209 38 = some 227 ∧ R' 209 39 = some 228 ∧ R' 209 40 = some 229) : xLay sh' R' ∧ S9 sh' I' R' := by
  obtain ⟨t1, t2, t3, t4, t5, t6, t7, t8, t9, t10, t11, t12, t13, t14, t15, t16, t17, t18, t19, t20⟩ := hs
  obtain ⟨f1, f2, f3, f4, f5, f6, f7, f8, f9, f10, f11, f12, f13, f14, f15, f16, f17, f18, f19, f20⟩ := hf
  obtain ⟨⟨hR, hz⟩, ⟨s0, s1, s2, s20, s21, s22, s23, s86, s177⟩, hI1, p4, p8, z21, p0, p1, ⟨m169, i169⟩, ⟨m173, i173⟩, ⟨r200, r201⟩, ⟨p178, p189⟩, ⟨r220, r221, r222⟩, p200, p203, p206⟩ := h
  have q4 : P4 2 sh' I' R' := p4.u g (fun a h1 h2 => u a (by omega))
  have q9 : P8 9 sh' I' R' := p8.u g (fun a h1 h2 => u a (by omega))
  have q0 : P0 23 sh' I' R' := p0.u g (fun a h1 h2 => u a (by omega))
  have q1 : P1 86 sh' I' R' := p1.u g (fun a h1 h2 => u a (by omega))
  have q178 : P8 178 sh' I' R' := p178.u g (fun a h1 h2 => u a (by omega))
  have q189 : P8 189 sh' I' R' := p189.u g (fun a h1 h2 => u a (by omega))
  have q200 : P6 200 sh' I' R' := p200.u g (fun a h1 h2 => u a (by omega))
  have q203 : P6 203 sh' I' R' := p203.u g (fun a h1 h2 => u a (by omega))
  have q206 : P6 206 sh' I' R' := p206.u g (fun a h1 h2 => u a (by omega))
  have m1 := m169.gr1 g (u 169 (by omega)).2
  have m2 := m173.gr1 g (u 173 (by omega)).2
  have e0 := (u 0 (by omega)).2
  have e20 := (u 20 (by omega)).2
  have e22 := (u 22 (by omega)).2
  obtain ⟨⟨a0, a1, a2, a3, a4, a5, a6, a7, a8⟩, ⟨b1, b2, b3, b4, b5⟩, c1, c2, c3, c4⟩ := id q0
  refine ⟨⟨fun e he => ?_, fun e he => ?_, q9.1, fun j hj => ?_, c2, c3, fun j hj => ?_, q4.2.2.1, c4, m1, m2, c1, q1.2.2.2.1, q1.2.2.2.2⟩, ⟨fun k r hk => by rw [e0]; exact hR k r hk, by rw [(u 0 (by omega)).1]; exact hz⟩, ⟨g _ _ s0, g _ _ s1, g _ _ s2, g _ _ s20, g _ _ s21, g _ _ s22, g _ _ s23, g _ _ s86, g _ _ s177⟩, by rw [(u 1 (by omega)).1]; exact hI1, q4, q9, by rw [(u 21 (by omega)).1]; exact z21, q0, q1, ⟨m1, by rw [(u 169 (by omega)).1]; exact i169⟩, ⟨m2, by rw [(u 173 (by omega)).1]; exact i173⟩, by rw [e20]; exact ⟨r200, r201⟩, ⟨q178, q189⟩, by rw [e22]; exact ⟨r220, r221, r222⟩, q200, q203, q206⟩
  · unfold xlSh at he
    simp only [List.mem_cons, List.not_mem_nil, or_false] at he
    rcases he with rfl | rfl | rfl | rfl | rfl | rfl | rfl | rfl | rfl | rfl | rfl | rfl | rfl | rfl | rfl | rfl | rfl | rfl | rfl | rfl | rfl | rfl | rfl | rfl | rfl | rfl | rfl | rfl | rfl | rfl | rfl | rfl | rfl | rfl | rfl | rfl | rfl
    · exact g _ _ s0
    · exact g _ _ s1
    · exact g _ _ s2
    · exact q4.1
    · exact q4.2.1
    · exact g _ _ s20
    · exact g _ _ s21
    · exact g _ _ s22
    · exact g _ _ s23
    · exact b1
    · exact b2
    · exact b3
    · exact b4
    · exact b5
    · exact g _ _ s86
    · exact g _ _ s177
    · exact hM
    · exact t1
    · exact t2
    · exact t3
    · exact t4
    · exact t5
    · exact t6
    · exact t7
    · exact t8
    · exact t9
    · exact t10
    · exact t11
    · exact t12
    · exact t13
    · exact t14
    · exact t15
    · exact t16
    · exact t17
    · exact t18
    · exact t19
    · exact t20
  · unfold xlR at he
    simp only [List.mem_cons, List.not_mem_nil, or_false] at he
    rcases he with rfl | rfl | rfl | rfl | rfl | rfl | rfl | rfl | rfl | rfl | rfl | rfl | rfl | rfl | rfl | rfl | rfl | rfl | rfl | rfl | rfl | rfl | rfl | rfl | rfl | rfl | rfl | rfl | rfl | rfl | rfl | rfl | rfl | rfl | rfl | rfl | rfl | rfl | rfl | rfl | rfl | rfl | rfl | rfl | rfl | rfl | rfl | rfl | rfl
    · show R' 0 0 = _; rw [e0]; exact hR 0 1 (by simp)
    · show R' 0 1 = _; rw [e0]; exact hR 1 2 (by simp)
    · show R' 0 2 = _; rw [e0]; exact hR 2 9 (by simp)
    · show R' 0 3 = _; rw [e0]; exact hR 3 20 (by simp)
    · show R' 0 4 = _; rw [e0]; exact hR 4 21 (by simp)
    · show R' 0 5 = _; rw [e0]; exact hR 5 22 (by simp)
    · show R' 0 6 = _; rw [e0]; exact hR 6 23 (by simp)
    · show R' 0 7 = _; rw [e0]; exact hR 7 86 (by simp)
    · show R' 0 8 = _; rw [e0]; exact hR 8 169 (by simp)
    · show R' 0 9 = _; rw [e0]; exact hR 9 173 (by simp)
    · show R' 0 10 = _; rw [e0]; exact hR 10 177 (by simp)
    · exact q4.2.2.2.1
    · exact q4.2.2.2.2.2.1
    · exact q4.2.2.2.2.1
    · show R' 20 0 = _; rw [e20]; exact r200
    · show R' 20 1 = _; rw [e20]; exact r201
    · show R' 22 0 = _; rw [e22]; exact r220
    · show R' 22 1 = _; rw [e22]; exact r221
    · show R' 22 2 = _; rw [e22]; exact r222
    · exact a0
    · exact a1
    · exact a2
    · exact a3
    · exact a4
    · exact a5
    · exact a6
    · exact q1.1
    · exact q1.2.1
    · exact q1.2.2.1
    · exact f1
    · exact f2
    · exact f3
    · exact f4
    · exact f5
    · exact f6
    · exact f7
    · exact f8
    · exact f9
    · exact f10
    · exact f11
    · exact f12
    · exact f13
    · exact f14
    · exact f15
    · exact f16
    · exact f17
    · exact f18
    · exact f19
    · exact f20
  · rcases (by omega : j = 0 ∨ j = 1) with rfl | rfl
    · exact q178.1
    · exact q189.1
  · rcases (by omega : j = 0 ∨ j = 1 ∨ j = 2) with rfl | rfl | rfl
    · exact q200.1
    · exact q203.1
    · exact q206.1
end LAYOF
