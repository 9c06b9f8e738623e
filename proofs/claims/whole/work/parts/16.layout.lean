/-! THE LAYOUT: where the objects of the class and of the reference lie, from their constructors on -/
def xRows (sh : List xSh) (R : Nat → Nat → Option Nat) (q N K : Nat) : Prop := sh[q]? = some (.inr (3, N)) ∧ ∀ j, j < N → R q j = some (q + 1 + j) ∧ sh[q + 1 + j]? = some (.inr (0, K))
def xMach (sh : List xSh) (R : Nat → Nat → Option Nat) (q M : Nat) : Prop := sh[q]? = some (.inl 3) ∧ sh[q + 1]? = some (.inr (0, M)) ∧ sh[q + 2]? = some (.inr (0, M)) ∧ sh[q + 3]? = some (.inr (0, M * 3 * M)) ∧ R q 0 = some 1 ∧ R q 3 = some (q + 1) ∧ R q 4 = some (q + 2) ∧ R q 5 = some (q + 3)
def xStudy (sh : List xSh) (R : Nat → Nat → Option Nat) (q : Nat) : Prop := sh[q]? = some (.inl 8) ∧ sh[q + 1]? = some (.inr (0, 4)) ∧ sh[q + 2]? = some (.inr (0, 48)) ∧ R q 0 = some 1 ∧ R q 3 = some (q + 1) ∧ R q 4 = some (q + 2) ∧ R q 1 = some (q + 3) ∧ R q 2 = some (q + 7) ∧ xMach sh R (q + 3) 4 ∧ xMach sh R (q + 7) 4
def xSpan (sh : List xSh) (R : Nat → Nat → Option Nat) (q : Nat) : Prop := sh[q]? = some (.inl 7) ∧ R q 0 = some 1 ∧ R q 1 = some (q + 1) ∧ R q 2 = some (q + 10) ∧ R q 3 = some (q + 19) ∧ R q 4 = some (q + 20) ∧ R q 6 = some (q + 21) ∧ sh[q + 19]? = some (.inr (0, 8)) ∧ sh[q + 20]? = some (.inr (0, 8)) ∧ sh[q + 21]? = some (.inr (0, 8)) ∧ xRows sh R (q + 1) 8 8 ∧ xRows sh R (q + 10) 8 8
def xShelf (sh : List xSh) (R : Nat → Nat → Option Nat) (q : Nat) : Prop := sh[q]? = some (.inl 6) ∧ sh[q + 1]? = some (.inr (6, 8)) ∧ sh[q + 2]? = some (.inr (0, 8)) ∧ R q 0 = some 1 ∧ R q 1 = some (q + 1) ∧ R q 2 = some (q + 2)
def xlSh : List (Nat × xSh) := [(0, .inl 9), (1, .inl 5), (2, .inl 4), (3, .inr (2, 200)), (4, .inr (1, 3)), (20, .inr (4, 2)), (21, .inr (1, 2)), (22, .inr (5, 3)), (23, .inl 0), (24, .inr (0, 8)), (34, .inr (0, 8)), (35, .inr (0, 12)), (36, .inr (0, 8)), (37, .inr (0, 8)), (86, .inl 1), (177, .inr (0, 4)), (209, .inl 10), (210, .inr (0, 1881)), (211, .inr (0, 4)), (212, .inr (0, 4)), (213, .inr (0, 300)), (214, .inr (0, 4)), (215, .inr (0, 5)), (216, .inr (0, 60)), (217, .inr (0, 5)), (218, .inr (0, 200)), (219, .inr (0, 7)), (220, .inr (0, 30)), (221, .inr (1, 3)), (222, .inr (0, 1000)), (223, .inr (0, 12)), (224, .inr (0, 16)), (225, .inr (1, 2)), (226, .inr (0, 140)), (227, .inr (0, 3)), (228, .inr (0, 3)), (229, .inr (0, 24))]
def xlR : List (Nat × Nat × Nat) := [(0, 0, 1), (0, 1, 2), (0, 2, 9), (0, 3, 20), (0, 4, 21), (0, 5, 22), (0, 6, 23), (0, 7, 86), (0, 8, 169), (0, 9, 173), (0, 10, 177), (2, 0, 3), (2, 6, 5), (2, 7, 4), (20, 0, 178), (20, 1, 189), (22, 0, 200), (22, 1, 203), (22, 2, 206), (23, 0, 1), (23, 1, 38), (23, 2, 60), (23, 3, 24), (23, 4, 25), (23, 5, 34), (23, 6, 35), (86, 0, 1), (86, 1, 87), (86, 2, 128), (209, 0, 210), (209, 4, 211), (209, 5, 212), (209, 6, 213), (209, 7, 214), (209, 8, 215), (209, 9, 216), (209, 13, 217), (209, 15, 218), (209, 23, 219), (209, 24, 220), (209, 25, 221), (209, 30, 222), (209, 31, 223), (209, 33, 224), (209, 36, 225), (209, 37, 226), (209, 38, 227), (209, 39, 228), (209, 40, 229)]
def xLay (sh : List xSh) (R : Nat → Nat → Option Nat) : Prop := (∀ e ∈ xlSh, sh[e.1]? = some e.2) ∧ (∀ e ∈ xlR, R e.1 e.2.1 = some e.2.2) ∧ xStudy sh R 9 ∧ (∀ j, j < 2 → xStudy sh R (178 + 11 * j)) ∧ xSpan sh R 38 ∧ xSpan sh R 60 ∧ (∀ j, j < 3 → xShelf sh R (200 + 3 * j)) ∧ xMach sh R 5 4 ∧ xMach sh R 82 0 ∧ xMach sh R 169 8 ∧ xMach sh R 173 4 ∧ xRows sh R 25 8 8 ∧ xRows sh R 87 40 4 ∧ xRows sh R 128 40 4
section XLAY
variable {sh : List xSh} {R : Nat → Nat → Option Nat}
theorem la_0 (hW : xLay sh R) : sh[0]? = some (.inl 9) := hW.1 _ (List.mem_of_getElem? (i := 0) rfl)
theorem la_1 (hW : xLay sh R) : sh[1]? = some (.inl 5) := hW.1 _ (List.mem_of_getElem? (i := 1) rfl)
theorem la_2 (hW : xLay sh R) : sh[2]? = some (.inl 4) := hW.1 _ (List.mem_of_getElem? (i := 2) rfl)
theorem la_3 (hW : xLay sh R) : sh[3]? = some (.inr (2, 200)) := hW.1 _ (List.mem_of_getElem? (i := 3) rfl)
theorem la_4 (hW : xLay sh R) : sh[4]? = some (.inr (1, 3)) := hW.1 _ (List.mem_of_getElem? (i := 4) rfl)
theorem la_20 (hW : xLay sh R) : sh[20]? = some (.inr (4, 2)) := hW.1 _ (List.mem_of_getElem? (i := 5) rfl)
theorem la_21 (hW : xLay sh R) : sh[21]? = some (.inr (1, 2)) := hW.1 _ (List.mem_of_getElem? (i := 6) rfl)
theorem la_22 (hW : xLay sh R) : sh[22]? = some (.inr (5, 3)) := hW.1 _ (List.mem_of_getElem? (i := 7) rfl)
theorem la_23 (hW : xLay sh R) : sh[23]? = some (.inl 0) := hW.1 _ (List.mem_of_getElem? (i := 8) rfl)
theorem la_24 (hW : xLay sh R) : sh[24]? = some (.inr (0, 8)) := hW.1 _ (List.mem_of_getElem? (i := 9) rfl)
theorem la_34 (hW : xLay sh R) : sh[34]? = some (.inr (0, 8)) := hW.1 _ (List.mem_of_getElem? (i := 10) rfl)
theorem la_35 (hW : xLay sh R) : sh[35]? = some (.inr (0, 12)) := hW.1 _ (List.mem_of_getElem? (i := 11) rfl)
theorem la_36 (hW : xLay sh R) : sh[36]? = some (.inr (0, 8)) := hW.1 _ (List.mem_of_getElem? (i := 12) rfl)
theorem la_37 (hW : xLay sh R) : sh[37]? = some (.inr (0, 8)) := hW.1 _ (List.mem_of_getElem? (i := 13) rfl)
theorem la_86 (hW : xLay sh R) : sh[86]? = some (.inl 1) := hW.1 _ (List.mem_of_getElem? (i := 14) rfl)
theorem la_177 (hW : xLay sh R) : sh[177]? = some (.inr (0, 4)) := hW.1 _ (List.mem_of_getElem? (i := 15) rfl)
theorem la_209 (hW : xLay sh R) : sh[209]? = some (.inl 10) := hW.1 _ (List.mem_of_getElem? (i := 16) rfl)
theorem la_210 (hW : xLay sh R) : sh[210]? = some (.inr (0, 1881)) := hW.1 _ (List.mem_of_getElem? (i := 17) rfl)
theorem la_211 (hW : xLay sh R) : sh[211]? = some (.inr (0, 4)) := hW.1 _ (List.mem_of_getElem? (i := 18) rfl)
theorem la_212 (hW : xLay sh R) : sh[212]? = some (.inr (0, 4)) := hW.1 _ (List.mem_of_getElem? (i := 19) rfl)
theorem la_213 (hW : xLay sh R) : sh[213]? = some (.inr (0, 300)) := hW.1 _ (List.mem_of_getElem? (i := 20) rfl)
theorem la_214 (hW : xLay sh R) : sh[214]? = some (.inr (0, 4)) := hW.1 _ (List.mem_of_getElem? (i := 21) rfl)
theorem la_215 (hW : xLay sh R) : sh[215]? = some (.inr (0, 5)) := hW.1 _ (List.mem_of_getElem? (i := 22) rfl)
theorem la_216 (hW : xLay sh R) : sh[216]? = some (.inr (0, 60)) := hW.1 _ (List.mem_of_getElem? (i := 23) rfl)
theorem la_217 (hW : xLay sh R) : sh[217]? = some (.inr (0, 5)) := hW.1 _ (List.mem_of_getElem? (i := 24) rfl)
theorem la_218 (hW : xLay sh R) : sh[218]? = some (.inr (0, 200)) := hW.1 _ (List.mem_of_getElem? (i := 25) rfl)
theorem la_219 (hW : xLay sh R) : sh[219]? = some (.inr (0, 7)) := hW.1 _ (List.mem_of_getElem? (i := 26) rfl)
theorem la_220 (hW : xLay sh R) : sh[220]? = some (.inr (0, 30)) := hW.1 _ (List.mem_of_getElem? (i := 27) rfl)
theorem la_221 (hW : xLay sh R) : sh[221]? = some (.inr (1, 3)) := hW.1 _ (List.mem_of_getElem? (i := 28) rfl)
theorem la_222 (hW : xLay sh R) : sh[222]? = some (.inr (0, 1000)) := hW.1 _ (List.mem_of_getElem? (i := 29) rfl)
theorem la_223 (hW : xLay sh R) : sh[223]? = some (.inr (0, 12)) := hW.1 _ (List.mem_of_getElem? (i := 30) rfl)
theorem la_224 (hW : xLay sh R) : sh[224]? = some (.inr (0, 16)) := hW.1 _ (List.mem_of_getElem? (i := 31) rfl)
theorem la_225 (hW : xLay sh R) : sh[225]? = some (.inr (1, 2)) := hW.1 _ (List.mem_of_getElem? (i := 32) rfl)
theorem la_226 (hW : xLay sh R) : sh[226]? = some (.inr (0, 140)) := hW.1 _ (List.mem_of_getElem? (i := 33) rfl)
theorem la_227 (hW : xLay sh R) : sh[227]? = some (.inr (0, 3)) := hW.1 _ (List.mem_of_getElem? (i := 34) rfl)
theorem la_228 (hW : xLay sh R) : sh[228]? = some (.inr (0, 3)) := hW.1 _ (List.mem_of_getElem? (i := 35) rfl)
theorem la_229 (hW : xLay sh R) : sh[229]? = some (.inr (0, 24)) := hW.1 _ (List.mem_of_getElem? (i := 36) rfl)
theorem lr_0_0 (hW : xLay sh R) : R 0 0 = some 1 := hW.2.1 _ (List.mem_of_getElem? (i := 0) rfl)
theorem lr_0_1 (hW : xLay sh R) : R 0 1 = some 2 := hW.2.1 _ (List.mem_of_getElem? (i := 1) rfl)
theorem lr_0_2 (hW : xLay sh R) : R 0 2 = some 9 := hW.2.1 _ (List.mem_of_getElem? (i := 2) rfl)
theorem lr_0_3 (hW : xLay sh R) : R 0 3 = some 20 := hW.2.1 _ (List.mem_of_getElem? (i := 3) rfl)
theorem lr_0_4 (hW : xLay sh R) : R 0 4 = some 21 := hW.2.1 _ (List.mem_of_getElem? (i := 4) rfl)
theorem lr_0_5 (hW : xLay sh R) : R 0 5 = some 22 := hW.2.1 _ (List.mem_of_getElem? (i := 5) rfl)
theorem lr_0_6 (hW : xLay sh R) : R 0 6 = some 23 := hW.2.1 _ (List.mem_of_getElem? (i := 6) rfl)
theorem lr_0_7 (hW : xLay sh R) : R 0 7 = some 86 := hW.2.1 _ (List.mem_of_getElem? (i := 7) rfl)
theorem lr_0_8 (hW : xLay sh R) : R 0 8 = some 169 := hW.2.1 _ (List.mem_of_getElem? (i := 8) rfl)
theorem lr_0_9 (hW : xLay sh R) : R 0 9 = some 173 := hW.2.1 _ (List.mem_of_getElem? (i := 9) rfl)
theorem lr_0_10 (hW : xLay sh R) : R 0 10 = some 177 := hW.2.1 _ (List.mem_of_getElem? (i := 10) rfl)
theorem lr_2_0 (hW : xLay sh R) : R 2 0 = some 3 := hW.2.1 _ (List.mem_of_getElem? (i := 11) rfl)
theorem lr_2_6 (hW : xLay sh R) : R 2 6 = some 5 := hW.2.1 _ (List.mem_of_getElem? (i := 12) rfl)
theorem lr_2_7 (hW : xLay sh R) : R 2 7 = some 4 := hW.2.1 _ (List.mem_of_getElem? (i := 13) rfl)
theorem lr_20_0 (hW : xLay sh R) : R 20 0 = some 178 := hW.2.1 _ (List.mem_of_getElem? (i := 14) rfl)
theorem lr_20_1 (hW : xLay sh R) : R 20 1 = some 189 := hW.2.1 _ (List.mem_of_getElem? (i := 15) rfl)
theorem lr_22_0 (hW : xLay sh R) : R 22 0 = some 200 := hW.2.1 _ (List.mem_of_getElem? (i := 16) rfl)
theorem lr_22_1 (hW : xLay sh R) : R 22 1 = some 203 := hW.2.1 _ (List.mem_of_getElem? (i := 17) rfl)
theorem lr_22_2 (hW : xLay sh R) : R 22 2 = some 206 := hW.2.1 _ (List.mem_of_getElem? (i := 18) rfl)
theorem lr_23_0 (hW : xLay sh R) : R 23 0 = some 1 := hW.2.1 _ (List.mem_of_getElem? (i := 19) rfl)
theorem lr_23_1 (hW : xLay sh R) : R 23 1 = some 38 := hW.2.1 _ (List.mem_of_getElem? (i := 20) rfl)
theorem lr_23_2 (hW : xLay sh R) : R 23 2 = some 60 := hW.2.1 _ (List.mem_of_getElem? (i := 21) rfl)
theorem lr_23_3 (hW : xLay sh R) : R 23 3 = some 24 := hW.2.1 _ (List.mem_of_getElem? (i := 22) rfl)
theorem lr_23_4 (hW : xLay sh R) : R 23 4 = some 25 := hW.2.1 _ (List.mem_of_getElem? (i := 23) rfl)
theorem lr_23_5 (hW : xLay sh R) : R 23 5 = some 34 := hW.2.1 _ (List.mem_of_getElem? (i := 24) rfl)
theorem lr_23_6 (hW : xLay sh R) : R 23 6 = some 35 := hW.2.1 _ (List.mem_of_getElem? (i := 25) rfl)
theorem lr_86_0 (hW : xLay sh R) : R 86 0 = some 1 := hW.2.1 _ (List.mem_of_getElem? (i := 26) rfl)
theorem lr_86_1 (hW : xLay sh R) : R 86 1 = some 87 := hW.2.1 _ (List.mem_of_getElem? (i := 27) rfl)
theorem lr_86_2 (hW : xLay sh R) : R 86 2 = some 128 := hW.2.1 _ (List.mem_of_getElem? (i := 28) rfl)
theorem lr_209_0 (hW : xLay sh R) : R 209 0 = some 210 := hW.2.1 _ (List.mem_of_getElem? (i := 29) rfl)
theorem lr_209_4 (hW : xLay sh R) : R 209 4 = some 211 := hW.2.1 _ (List.mem_of_getElem? (i := 30) rfl)
theorem lr_209_5 (hW : xLay sh R) : R 209 5 = some 212 := hW.2.1 _ (List.mem_of_getElem? (i := 31) rfl)
theorem lr_209_6 (hW : xLay sh R) : R 209 6 = some 213 := hW.2.1 _ (List.mem_of_getElem? (i := 32) rfl)
theorem lr_209_7 (hW : xLay sh R) : R 209 7 = some 214 := hW.2.1 _ (List.mem_of_getElem? (i := 33) rfl)
theorem lr_209_8 (hW : xLay sh R) : R 209 8 = some 215 := hW.2.1 _ (List.mem_of_getElem? (i := 34) rfl)
theorem lr_209_9 (hW : xLay sh R) : R 209 9 = some 216 := hW.2.1 _ (List.mem_of_getElem? (i := 35) rfl)
theorem lr_209_13 (hW : xLay sh R) : R 209 13 = some 217 := hW.2.1 _ (List.mem_of_getElem? (i := 36) rfl)
theorem lr_209_15 (hW : xLay sh R) : R 209 15 = some 218 := hW.2.1 _ (List.mem_of_getElem? (i := 37) rfl)
theorem lr_209_23 (hW : xLay sh R) : R 209 23 = some 219 := hW.2.1 _ (List.mem_of_getElem? (i := 38) rfl)
theorem lr_209_24 (hW : xLay sh R) : R 209 24 = some 220 := hW.2.1 _ (List.mem_of_getElem? (i := 39) rfl)
theorem lr_209_25 (hW : xLay sh R) : R 209 25 = some 221 := hW.2.1 _ (List.mem_of_getElem? (i := 40) rfl)
theorem lr_209_30 (hW : xLay sh R) : R 209 30 = some 222 := hW.2.1 _ (List.mem_of_getElem? (i := 41) rfl)
theorem lr_209_31 (hW : xLay sh R) : R 209 31 = some 223 := hW.2.1 _ (List.mem_of_getElem? (i := 42) rfl)
theorem lr_209_33 (hW : xLay sh R) : R 209 33 = some 224 := hW.2.1 _ (List.mem_of_getElem? (i := 43) rfl)
theorem lr_209_36 (hW : xLay sh R) : R 209 36 = some 225 := hW.2.1 _ (List.mem_of_getElem? (i := 44) rfl)
theorem lr_209_37 (hW : xLay sh R) : R 209 37 = some 226 := hW.2.1 _ (List.mem_of_getElem? (i := 45) rfl)
theorem lr_209_38 (hW : xLay sh R) : R 209 38 = some 227 := hW.2.1 _ (List.mem_of_getElem? (i := 46) rfl)
theorem lr_209_39 (hW : xLay sh R) : R 209 39 = some 228 := hW.2.1 _ (List.mem_of_getElem? (i := 47) rfl)
theorem lr_209_40 (hW : xLay sh R) : R 209 40 = some 229 := hW.2.1 _ (List.mem_of_getElem? (i := 48) rfl)
theorem la_img (hW : xLay sh R) {j : Nat} (hj : j < 2) : R 20 j = some (178 + 11 * j) := by
  match j, hj with
  | 0, _ => exact lr_20_0 hW
  | 1, _ => exact lr_20_1 hW
  | j + 2, h => omega
theorem la_shf (hW : xLay sh R) {j : Nat} (hj : j < 3) : R 22 j = some (200 + 3 * j) := by
  match j, hj with
  | 0, _ => exact lr_22_0 hW
  | 1, _ => exact lr_22_1 hW
  | 2, _ => exact lr_22_2 hW
  | j + 3, h => omega
end XLAY
section XREAD
variable {I : Nat → Nat → Int32} {R : Nat → Nat → Option Nat} {q k a j : Nat} {v : Int32} {f : Nat → Int32} {r : Option Nat}
theorem xi_p (h : a ≠ q) : xi I q k v a j = I a j := by simp [xi, h]
theorem xi_s (h : j ≠ k) : xi I q k v q j = I q j := by simp [xi, upd, h]
theorem xi_e : xi I q k v q k = v := by simp [xi, upd]
theorem xa_p (h : a ≠ q) : xa I q f a j = I a j := by simp [xa, h]
theorem xa_e : xa I q f q j = f j := by simp [xa]
theorem xr_p (h : a ≠ q) : xr R q k r a j = R a j := by simp [xr, h]
theorem xr_s (h : j ≠ k) : xr R q k r q j = R q j := by simp [xr, va_up, h]
theorem xr_e : xr R q k r q k = r := by simp [xr, va_up]
theorem vp_lt {i : Int32} {n : Nat} (h : vp_in i n) : i.toNatClampNeg < n := Nat.not_le.mp fun q => h (Or.inr q)
end XREAD
