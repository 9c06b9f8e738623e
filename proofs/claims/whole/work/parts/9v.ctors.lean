section CTORS
abbrev bcC : Nat := 0 + (1 + 40) + (1 + 40)
abbrev bsC : Nat := 0 + (40 + 40 * 4) + (40 + 40 * 4)
abbrev bcH : Nat := 0 + 1 + 1
abbrev bsH : Nat := 0 + 8 + 8
def P4 (q : Nat) (sh : List xSh) (I : Nat → Nat → Int32) (R : Nat → Nat → Option Nat) : Prop := sh[q + 1]? = some (.inr (2, 200)) ∧ sh[q + 2]? = some (.inr (1, 3)) ∧ xMach sh R (q + 3) 4 ∧ R q 0 = some (q + 1) ∧ R q 7 = some (q + 2) ∧ R q 6 = some (q + 3) ∧ (∀ j, I q j = 0) ∧ I (q + 3) 1 = nI 4
def P8 (q : Nat) (sh : List xSh) (I : Nat → Nat → Int32) (R : Nat → Nat → Option Nat) : Prop := xStudy sh R q ∧ I q 5 = nI 0 ∧ I q 6 = nI 1 ∧ I q 7 = nI 0 ∧ I q 8 = nI 0 ∧ I (q + 2) 0 = nI 0 ∧ I (q + 3) 1 = nI 4 ∧ (∀ j, j ≠ 1 → I (q + 3) j = 0) ∧ (∀ c, c = q + 4 ∨ c = q + 5 ∨ c = q + 6 → ∀ j, I c j = 0) ∧ I (q + 7) 1 = nI 4 ∧ ∀ j, j ≠ 1 → I (q + 7) j = 0
def P0 (q : Nat) (sh : List xSh) (I : Nat → Nat → Int32) (R : Nat → Nat → Option Nat) : Prop := (R q 0 = some 1 ∧ R q 1 = some (q + 15) ∧ R q 2 = some (q + 37) ∧ R q 3 = some (q + 1) ∧ R q 4 = some (q + 2) ∧ R q 5 = some (q + 11) ∧ R q 6 = some (q + 12) ∧ R q 7 = some (q + 13) ∧ R q 8 = some (q + 14)) ∧ (sh[q + 1]? = some (.inr (0, 8)) ∧ sh[q + 11]? = some (.inr (0, 8)) ∧ sh[q + 12]? = some (.inr (0, 12)) ∧ sh[q + 13]? = some (.inr (0, 8)) ∧ sh[q + 14]? = some (.inr (0, 8))) ∧ xRows sh R (q + 2) 8 8 ∧ xSpan sh R (q + 15) ∧ xSpan sh R (q + 37) ∧ xMach sh R (q + 59) 0
def P1 (q : Nat) (sh : List xSh) (I : Nat → Nat → Int32) (R : Nat → Nat → Option Nat) : Prop := R q 0 = some 1 ∧ R q 1 = some (q + 1) ∧ R q 2 = some (q + 42) ∧ xRows sh R (q + 1) 40 4 ∧ xRows sh R (q + 42) 40 4
def P6 (q : Nat) (sh : List xSh) (I : Nat → Nat → Int32) (R : Nat → Nat → Option Nat) : Prop := xShelf sh R q ∧ I q 4 = -1 ∧ ∀ j, R (q + 1) j = none
theorem ctor4 : ctor mX4_init [] bcR bsR 4 6 P4 := fun sh1 I1 R1 q Q' hq hq1 h1 h1q hl hz k => x4_init hq hq1 h1 h1q (by omega) (fun sh' I' R' g l u a b c d e f i j m => k sh' I' R' g l u ⟨b, c, d, e, f, i, fun x => by rw [j x, hz x], m⟩)
theorem ctor8 : ctor mX8_init [] bcT bsT 8 10 P8 := fun sh1 I1 R1 q Q' hq hq1 h1 h1q hl hz k => x8_init hq hq1 h1 h1q (by omega) (fun sh' I' R' g l u a b c d e f i j m n o => k sh' I' R' g l u ⟨a, b, c, d, e, f, i, j, m, n, o⟩)
theorem ctor0 : ctor mX0_init [] bcB bsB 0 62 P0 := fun sh1 I1 R1 q Q' hq hq1 h1 h1q hl hz k => x0_init hq hq1 h1 h1q (by omega) (fun sh' I' R' g l u _ a0 a1 a2 a3 a4 a5 a6 a7 a8 b1 b2 b3 b4 b5 c1 c2 c3 c4 => k sh' I' R' g l u ⟨⟨a0, a1, a2, a3, a4, a5, a6, a7, a8⟩, ⟨b1, b2, b3, b4, b5⟩, c1, c2, c3, c4⟩)
theorem ctor1 : ctor mX1_init [] bcC bsC 1 82 P1 := fun sh1 I1 R1 q Q' hq hq1 h1 h1q hl hz k => x1_init hq hq1 h1 h1q (by omega) (fun sh' I' R' g l u _ a b c d e => k sh' I' R' g l u ⟨a, b, c, d, e⟩)
theorem ctor6 : ctor mX6_init [] bcH bsH 6 2 P6 := fun sh1 I1 R1 q Q' hq hq1 h1 h1q hl hz k => x6_init hq hq1 h1 h1q (by omega) (fun sh' I' R' g l u a b c => k sh' I' R' g l u ⟨a, b, c⟩)
/-! budgets of the whole object, from its end on -/
abbrev tc14 : Nat := (bcH + 0) + 1
abbrev ts14 : Nat := (bsH + 0) + xN 6
abbrev tc13 : Nat := (bcH + tc14) + 1
abbrev ts13 : Nat := (bsH + ts14) + xN 6
abbrev tc12 : Nat := (bcH + tc13) + 1
abbrev ts12 : Nat := (bsH + ts13) + xN 6
abbrev tc11 : Nat := (bcT + tc12) + 1
abbrev ts11 : Nat := (bsT + ts12) + xN 8
abbrev tc10 : Nat := (bcT + tc11) + 1
abbrev ts10 : Nat := (bsT + ts11) + xN 8
abbrev tc9 : Nat := tc10 + 1
abbrev ts9 : Nat := ts10 + 4
abbrev tc8 : Nat := (bcM + tc9) + 1
abbrev ts8 : Nat := (bsM 4 + ts9) + xN 3
abbrev tc7 : Nat := (bcM + tc8) + 1
abbrev ts7 : Nat := (bsM 8 + ts8) + xN 3
abbrev tc6 : Nat := (bcC + tc7) + 1
abbrev ts6 : Nat := (bsC + ts7) + xN 1
abbrev tc5 : Nat := (bcB + tc6) + 1
abbrev ts5 : Nat := (bsB + ts6) + xN 0
abbrev tc4 : Nat := tc5 + 1
abbrev ts4 : Nat := ts5 + 3
abbrev tc3 : Nat := tc4 + 1
abbrev ts3 : Nat := ts4 + 2
abbrev tc2 : Nat := tc3 + 1
abbrev ts2 : Nat := ts3 + 2
abbrev tc1 : Nat := (bcT + tc2) + 1
abbrev ts1 : Nat := (bsT + ts2) + xN 8
abbrev tc0 : Nat := (bcR + tc1) + 1
abbrev ts0 : Nat := (bsR + ts1) + xN 4
abbrev tcA : Nat := (0 + tc0) + 1
abbrev tsA : Nat := (0 + ts0) + xN 5
end CTORS
