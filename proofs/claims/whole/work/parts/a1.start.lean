section START
variable {sh : List xSh} {I : Nat → Nat → Int32} {R : Nat → Nat → Option Nat}
/-- where both begin -/
def st0 : St := St.mk 7 2 (Tb.nw (mZ 0)) (fun _ => none) (fun _ => none) [] [] 0
theorem mZ0_ok : okM 7 2 (mZ 0) := ⟨fun s hs => absurd hs (Nat.not_lt_zero s), fun s hs => absurd hs (Nat.not_lt_zero s), fun s x t hs _ _ => absurd hs (Nat.not_lt_zero s)⟩
theorem st0_ok : stOK st0 := ⟨by decide, by decide, by decide, tbOK_nw (by decide) (by decide) (Nat.zero_le _) mZ0_ok, fun k τ q => absurd (show none = some τ from q) (by simp), fun k s q => absurd (show none = some s from q) (by simp), ⟨Nat.zero_le _, fun x hx => absurd hx List.not_mem_nil⟩, ⟨Nat.zero_le _, fun x hx => absurd hx List.not_mem_nil⟩⟩
theorem clR_start (hL : xLay sh R) (h : S9 sh I R) : clR sh I R st0 := by
  obtain ⟨⟨hR, hz⟩, -, hI1, p4, p8, z21, p0, p1, ⟨m169, i169⟩, ⟨m173, i173⟩, -, ⟨p178, p189⟩, -, p200, p203, p206⟩ := h
  obtain ⟨-, a1, a2, a3, a4, a5, a6, a7, a8, a9, a10⟩ := id p8
  have hcell : ∀ k j, k < 3 → R (200 + 3 * k + 1) j = none := fun k j hk => by
    rcases (by omega : k = 0 ∨ k = 1 ∨ k = 2) with rfl | rfl | rfl
    · exact p200.2.2 j
    · exact p203.2.2 j
    · exact p206.2.2 j
  have h0 : (0 : Int32) = nI 0 := by decide
  refine ⟨st0_ok, hL, ⟨36, 37, p0.1.2.2.2.2.2.2.2.1, p0.1.2.2.2.2.2.2.2.2, Or.inl ⟨rfl, rfl⟩⟩, ⟨hI1.1, hI1.2, by decide, by decide, by decide⟩, ⟨fun q hq => ?_, i169⟩, ⟨⟨Nat.zero_le _, a6, (a7 2 (by decide)).trans h0, fun s hs => ?_, fun s hs => ?_, fun s x t hs hx ht => ?_⟩, a4, fun q => absurd (show false = true from q) (by decide), ⟨0, by omega, (a10 2 (by decide)).trans h0⟩, a1, fun j hj => absurd hj (Nat.not_lt_zero j), a2, fun j hj => ?_, a3⟩, fun k hk => (z21 k).trans h0, ⟨fun k i q hk hi e => ?_, fun k i k' i' q q' hk hi hk' hi' e e' => ?_⟩, fun k hk => ?_, ⟨(hz 12).trans h0, (hz 13).trans h0⟩, ⟨(p4.2.2.2.2.2.2.1 1).trans h0, fun j hj => absurd hj (Nat.not_lt_zero j)⟩, hz 14, Or.inl ((hz 11).trans h0)⟩
  · simp only [List.mem_cons, List.not_mem_nil, or_false] at hq
    rcases hq with rfl | rfl | rfl | rfl | rfl | rfl | rfl | rfl
    · exact p4.2.2.2.2.2.2.2
    · exact a6
    · exact a9
    · exact i173
    · exact p178.2.2.2.2.2.2.1
    · exact p178.2.2.2.2.2.2.2.2.2.1
    · exact p189.2.2.2.2.2.2.1
    · exact p189.2.2.2.2.2.2.2.2.2.1
  · rw [if_neg (show ¬ s < st0.t.A.1 from Nat.not_lt_zero s)]; exact (a8 13 (by omega) s).trans h0
  · rw [if_neg (show ¬ s < st0.t.A.1 from Nat.not_lt_zero s)]; exact (a8 14 (by omega) s).trans h0
  · rw [if_neg (fun q => Nat.not_lt_zero s q.1)]; exact (a8 15 (by omega) _).trans h0
  · have hj1 : j < 1 := hj
    obtain rfl : j = 0 := by omega
    exact a5
  · rw [hcell k i hk] at e; cases e
  · rw [hcell k i hk] at e; cases e
  · show I (200 + 3 * k) 4 = -1
    rcases (by omega : k = 0 ∨ k = 1 ∨ k = 2) with rfl | rfl | rfl
    · exact p200.2.1
    · exact p203.2.1
    · exact p206.2.1
end START
