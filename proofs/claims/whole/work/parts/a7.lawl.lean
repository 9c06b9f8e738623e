theorem lw_gt {i L : Nat} (hi : i ≤ 2560) (hL : L ≤ 2560) (c : ¬ nI L - nI 5 < nI i) : i + 5 ≤ L := by
  rw [Int32.lt_iff_toInt_lt, pk_sub_toInt (by omega) (by omega), nI_toInt (by omega)] at c
  omega
section LAWL
variable {sh : List xSh} {I : Nat → Nat → Int32} {R : Nat → Nat → Option Nat} {σ : St} {L i mc ms : Nat} {xs : Nat → Int32}
/-- one step, from its switch -/
theorem lw_sw {x : Int32} (hi : i + 5 ≤ L) (hL : L ≤ 2560) (h : clR sh I R σ) (hm : mdR I σ) (hl : sh.length + 4 ≤ 1000000) (nx : lwN L xs i sh mc ms) : Ex (mL_law L xs) 32 (lwL i) [.int x] (sh, I, R) (4 + mc) (100 + ms) (xqI lwQ) := by
  rcases Int.lt_or_le x.toInt 0 with z | z
  · exact xw_tableOut (tgt := 1269) dL_law_32 (Or.inl z) (by decide) (Ex.up (nx sh I R σ h hm (by omega)) (by omega) (by omega))
  rcases Int.lt_or_le 39 x.toInt with z9 | z9
  · exact xw_tableOut (tgt := 1269) dL_law_32 (Or.inr z9) (by decide) (Ex.up (nx sh I R σ h hm (by omega)) (by omega) (by omega))
  obtain ⟨n, hn⟩ : ∃ n : Nat, x.toInt = (n : Int) := ⟨x.toInt.toNat, by omega⟩
  have hn9 : n < 40 := by omega
  match n, hn9, hn with
  | 0, _, e => exact xw_tableIn (off := 176) (tgt := 208) dL_law_32 (by omega) (by omega) (by rw [e]; rfl) (by decide) (lc_0 hi hL h hm hl nx)
  | 1, _, e => exact xw_tableIn (off := 199) (tgt := 231) dL_law_32 (by omega) (by omega) (by rw [e]; rfl) (by decide) (lc_1 hi hL h hm hl nx)
  | 2, _, e => exact xw_tableIn (off := 222) (tgt := 254) dL_law_32 (by omega) (by omega) (by rw [e]; rfl) (by decide) (lc_2 hi hL h hm hl nx)
  | 3, _, e => exact xw_tableIn (off := 235) (tgt := 267) dL_law_32 (by omega) (by omega) (by rw [e]; rfl) (by decide) (lc_3 hi hL h hm hl nx)
  | 4, _, e => exact xw_tableIn (off := 248) (tgt := 280) dL_law_32 (by omega) (by omega) (by rw [e]; rfl) (by decide) (lc_4 hi hL h hm hl nx)
  | 5, _, e => exact xw_tableIn (off := 271) (tgt := 303) dL_law_32 (by omega) (by omega) (by rw [e]; rfl) (by decide) (lc_5 hi hL h hm hl nx)
  | 6, _, e => exact xw_tableIn (off := 304) (tgt := 336) dL_law_32 (by omega) (by omega) (by rw [e]; rfl) (by decide) (lc_6 hi hL h hm hl nx)
  | 7, _, e => exact xw_tableIn (off := 337) (tgt := 369) dL_law_32 (by omega) (by omega) (by rw [e]; rfl) (by decide) (lc_7 hi hL h hm hl nx)
  | 8, _, e => exact xw_tableIn (off := 390) (tgt := 422) dL_law_32 (by omega) (by omega) (by rw [e]; rfl) (by decide) (lc_8 hi hL h hm hl nx)
  | 9, _, e => exact xw_tableIn (off := 413) (tgt := 445) dL_law_32 (by omega) (by omega) (by rw [e]; rfl) (by decide) (lc_9 hi hL h hm hl nx)
  | 10, _, e => exact xw_tableIn (off := 426) (tgt := 458) dL_law_32 (by omega) (by omega) (by rw [e]; rfl) (by decide) (lc_10 hi hL h hm hl nx)
  | 11, _, e => exact xw_tableIn (off := 449) (tgt := 481) dL_law_32 (by omega) (by omega) (by rw [e]; rfl) (by decide) (lc_11 hi hL h hm hl nx)
  | 12, _, e => exact xw_tableIn (off := 482) (tgt := 514) dL_law_32 (by omega) (by omega) (by rw [e]; rfl) (by decide) (lc_12 hi hL h hm hl nx)
  | 13, _, e => exact xw_tableIn (off := 515) (tgt := 547) dL_law_32 (by omega) (by omega) (by rw [e]; rfl) (by decide) (lc_13 hi hL h hm hl nx)
  | 14, _, e => exact xw_tableIn (off := 549) (tgt := 581) dL_law_32 (by omega) (by omega) (by rw [e]; rfl) (by decide) (lc_14 hi hL h hm hl nx)
  | 15, _, e => exact xw_tableIn (off := 572) (tgt := 604) dL_law_32 (by omega) (by omega) (by rw [e]; rfl) (by decide) (lc_15 hi hL h hm hl nx)
  | 16, _, e => exact xw_tableIn (off := 595) (tgt := 627) dL_law_32 (by omega) (by omega) (by rw [e]; rfl) (by decide) (lc_16 hi hL h hm hl nx)
  | 17, _, e => exact xw_tableIn (off := 628) (tgt := 660) dL_law_32 (by omega) (by omega) (by rw [e]; rfl) (by decide) (lc_17 hi hL h hm hl nx)
  | 18, _, e => exact xw_tableIn (off := 661) (tgt := 693) dL_law_32 (by omega) (by omega) (by rw [e]; rfl) (by decide) (lc_18 hi hL h hm hl nx)
  | 19, _, e => exact xw_tableIn (off := 674) (tgt := 706) dL_law_32 (by omega) (by omega) (by rw [e]; rfl) (by decide) (lc_19 hi hL h hm hl nx)
  | 20, _, e => exact xw_tableIn (off := 687) (tgt := 719) dL_law_32 (by omega) (by omega) (by rw [e]; rfl) (by decide) (lc_20 hi hL h hm hl nx)
  | 21, _, e => exact xw_tableIn (off := 700) (tgt := 732) dL_law_32 (by omega) (by omega) (by rw [e]; rfl) (by decide) (lc_21 hi hL h hm hl nx)
  | 22, _, e => exact xw_tableIn (off := 723) (tgt := 755) dL_law_32 (by omega) (by omega) (by rw [e]; rfl) (by decide) (lc_22 hi hL h hm hl nx)
  | 23, _, e => exact xw_tableIn (off := 746) (tgt := 778) dL_law_32 (by omega) (by omega) (by rw [e]; rfl) (by decide) (lc_23 hi hL h hm hl nx)
  | 24, _, e => exact xw_tableIn (off := 779) (tgt := 811) dL_law_32 (by omega) (by omega) (by rw [e]; rfl) (by decide) (lc_24 hi hL h hm hl nx)
  | 25, _, e => exact xw_tableIn (off := 812) (tgt := 844) dL_law_32 (by omega) (by omega) (by rw [e]; rfl) (by decide) (lc_25 hi hL h hm hl nx)
  | 26, _, e => exact xw_tableIn (off := 865) (tgt := 897) dL_law_32 (by omega) (by omega) (by rw [e]; rfl) (by decide) (lc_26 hi hL h hm hl nx)
  | 27, _, e => exact xw_tableIn (off := 878) (tgt := 910) dL_law_32 (by omega) (by omega) (by rw [e]; rfl) (by decide) (lc_27 hi hL h hm hl nx)
  | 28, _, e => exact xw_tableIn (off := 901) (tgt := 933) dL_law_32 (by omega) (by omega) (by rw [e]; rfl) (by decide) (lc_28 hi hL h hm hl nx)
  | 29, _, e => exact xw_tableIn (off := 914) (tgt := 946) dL_law_32 (by omega) (by omega) (by rw [e]; rfl) (by decide) (lc_29 hi hL h hm hl nx)
  | 30, _, e => exact xw_tableIn (off := 937) (tgt := 969) dL_law_32 (by omega) (by omega) (by rw [e]; rfl) (by decide) (lc_30 hi hL h hm hl nx)
  | 31, _, e => exact xw_tableIn (off := 950) (tgt := 982) dL_law_32 (by omega) (by omega) (by rw [e]; rfl) (by decide) (lc_31 hi hL h hm hl nx)
  | 32, _, e => exact xw_tableIn (off := 973) (tgt := 1005) dL_law_32 (by omega) (by omega) (by rw [e]; rfl) (by decide) (lc_32 hi hL h hm hl nx)
  | 33, _, e => exact xw_tableIn (off := 1006) (tgt := 1038) dL_law_32 (by omega) (by omega) (by rw [e]; rfl) (by decide) (lc_33 hi hL h hm hl nx)
  | 34, _, e => exact xw_tableIn (off := 1029) (tgt := 1061) dL_law_32 (by omega) (by omega) (by rw [e]; rfl) (by decide) (lc_34 hi hL h hm hl nx)
  | 35, _, e => exact xw_tableIn (off := 1052) (tgt := 1084) dL_law_32 (by omega) (by omega) (by rw [e]; rfl) (by decide) (lc_35 hi hL h hm hl nx)
  | 36, _, e => exact xw_tableIn (off := 1075) (tgt := 1107) dL_law_32 (by omega) (by omega) (by rw [e]; rfl) (by decide) (lc_36 hi hL h hm hl nx)
  | 37, _, e => exact xw_tableIn (off := 1118) (tgt := 1150) dL_law_32 (by omega) (by omega) (by rw [e]; rfl) (by decide) (lc_37 hi hL h hm hl nx)
  | 38, _, e => exact xw_tableIn (off := 1161) (tgt := 1193) dL_law_32 (by omega) (by omega) (by rw [e]; rfl) (by decide) (lc_38 hi hL h hm hl nx)
  | 39, _, e => exact xw_tableIn (off := 1204) (tgt := 1236) dL_law_32 (by omega) (by omega) (by rw [e]; rfl) (by decide) (lc_39 hi hL h hm hl nx)
  | n + 40, hc, _ => omega
/-- the loop: k steps at most are left -/
theorem lw_loop (hL : L ≤ 2560) : ∀ (k i : Nat) (sh : List xSh) (I : Nat → Nat → Int32) (R : Nat → Nat → Option Nat) (σ : St), i ≤ L → L < i + 5 * k → clR sh I R σ → mdR I σ → sh.length + 4 * k ≤ 1000000 → Ex (mL_law L xs) 18 (lwL i) [] (sh, I, R) (4 * k) (100 * k) (xqI lwQ) := by
  intro k
  induction k with
  | zero => intro i sh I R σ h1 h2; omega
  | succ k ih =>
    intro i sh I R σ h1 h2 h hm hl
    refine xw_iload_n dL_law_18 rfl rfl ?_
    refine xw_aload_n dL_law_19 rfl rfl ?_
    refine xw_slen (L := L) (xs := xs) rfl dL_law_20 ?_
    refine xw_iconst (v := nI 5) dL_law_21 rfl ?_
    refine xw_isub dL_law_22 ?_
    refine xw_icgt (tgt := 1275) dL_law_23 (by decide) (fun _ => ?_) (fun c => ?_)
    · refine xw_iconst (v := 1) dL_law_1275 rfl ?_
      exact yw_zret dL_law_1276 rfl (narrow_z _ (Or.inr rfl)) rfl
    · have hi : i + 5 ≤ L := lw_gt (by omega) (by omega) c
      refine xw_aload_n dL_law_26 rfl rfl ?_
      refine xw_iload_n dL_law_27 rfl rfl ?_
      refine xw_sld (L := L) (xs := xs) rfl dL_law_28 (vp_nI (by omega) (by omega)) ?_
      refine xw_bipush (v := nI 63) dL_law_29 (by decide) ?_
      refine xw_iand dL_law_31 ?_
      have e1 : 4 * (k + 1) = 4 + 4 * k := by omega
      have e2 : 100 * (k + 1) = 100 + 100 * k := by omega
      rw [e1, e2]
      refine lw_sw hi hL h hm (by omega) (fun sh1 I1 R1 σ1 c1 m1 l1 => ?_)
      refine yw_iinc (lv' := [.ref 1000000, .ref 0, .ref 209, .int (nI i + nI 5)]) (v := nI 5) dL_law_1269 rfl rfl rfl rfl rfl ?_
      refine xw_goto (tgt := 18) dL_law_1272 (by decide) ?_
      rw [nI_add]
      exact ih (i + 5) sh1 I1 R1 σ1 hi (by omega) c1 m1 (by omega)
end LAWL
