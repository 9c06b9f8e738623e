section BITS
variable {sh : List xSh} {I : Nat → Nat → Int32} {R : Nat → Nat → Option Nat}
theorem p32 : ((FP.Core.b32.p - 1 : Nat) : Int) = 23 := rfl
theorem p64 : ((FP.Core.b64.p - 1 : Nat) : Int) = 52 := rfl
theorem q32 : FP.Core.b32.qmin = -149 ∧ FP.Core.b32.qmax = 104 := by decide
theorem q64 : FP.Core.b64.qmin = -1074 ∧ FP.Core.b64.qmax = 971 := by decide
theorem nrm.mv {f : FP.Core.Fmt} {c : Nat} {q r : Int} (h : nrm f c q) (h1 : f.qmin ≤ r) (h2 : r ≤ f.qmax) : nrm f c r := ⟨h.1, h.2.1, h1, h2⟩
theorem mv32 {c : Nat} {q r : Int} (h : nrm FP.Core.b32 c q) (h1 : -90 ≤ r) (h2 : r ≤ 40) : nrm FP.Core.b32 c r := h.mv (by have := q32; omega) (by have := q32; omega)
theorem mv64 {c : Nat} {q r : Int} (h : nrm FP.Core.b64 c q) (h1 : -90 ≤ r) (h2 : r ≤ 40) : nrm FP.Core.b64 c r := h.mv (by have := q64; omega) (by have := q64; omega)
theorem pw32 {r : Int} (h1 : -40 ≤ r) (h2 : r ≤ 40) : nrm FP.Core.b32 FP.Core.b32.tails r := ⟨Nat.le_refl _, by decide, by have := q32; omega, by have := q32; omega⟩
theorem pw64 {r : Int} (h1 : -70 ≤ r) (h2 : r ≤ 40) : nrm FP.Core.b64 FP.Core.b64.tails r := ⟨Nat.le_refl _, by decide, by have := q64; omega, by have := q64; omega⟩
def e32 (c : Nat) (q : Int) : UInt32 := UInt32.ofNat (nE FP.Core.b32 c q)
def e64 (c : Nat) (q : Int) : UInt64 := UInt64.ofNat (nE FP.Core.b64 c q)
theorem e32n {c : Nat} {q : Int} (h : nrm FP.Core.b32 c q) : (e32 c q).toNat = nE FP.Core.b32 c q := UInt32.toNat_ofNat_of_lt' (Nat.lt_trans (nE32 h) (by decide))
theorem e64n {c : Nat} {q : Int} (h : nrm FP.Core.b64 c q) : (e64 c q).toNat = nE FP.Core.b64 c q := UInt64.toNat_ofNat_of_lt' (Nat.lt_trans (nE64 h) (by decide))
theorem mul32 {c : Nat} {q r : Int} (h : nrm FP.Core.b32 c q) (q1 : -35 ≤ q) (q2 : q ≤ 0) (r1 : -40 ≤ r) (r2 : r ≤ 0) : FP.fmul (e32 c q) (e32 FP.Core.b32.tails r) = e32 c (q + r + 23) := by
  have := mul_pow ft32 h (pw32 r1 (by omega)) (mv32 h (by rw [p32]; omega) (by rw [p32]; omega))
  show UInt32.ofNat (FP.Core.mul FP.Core.b32 (e32 c q).toNat (e32 FP.Core.b32.tails r).toNat) = _
  rw [e32n h, e32n (pw32 r1 (by omega)), this, p32]; rfl
theorem mul64 {c : Nat} {q r : Int} (h : nrm FP.Core.b64 c q) (q1 : -65 ≤ q) (q2 : q ≤ -30) (r1 : -60 ≤ r) (r2 : r ≤ 0) : FP.dmul (e64 c q) (e64 FP.Core.b64.tails r) = e64 c (q + r + 52) := by
  have := mul_pow ft64 h (pw64 (r := r) (by omega) (by omega)) (mv64 h (by rw [p64]; omega) (by rw [p64]; omega))
  show UInt64.ofNat (FP.Core.mul FP.Core.b64 (e64 c q).toNat (e64 FP.Core.b64.tails r).toNat) = _
  rw [e64n h, e64n (pw64 (by omega) (by omega)), this, p64]; rfl
theorem half64 {c : Nat} {q : Int} (h : nrm FP.Core.b64 c q) (q1 : -65 ≤ q) (q2 : q ≤ -30) : FP.ddiv (e64 c q) (e64 FP.Core.b64.tails (-51)) = e64 c (q - 1) := by
  have := div_two ft64 h (pw64 (r := -51) (by omega) (by omega)) (mv64 h (by rw [p64]; omega) (by rw [p64]; omega))
  show UInt64.ofNat (FP.Core.div FP.Core.b64 (e64 c q).toNat (e64 FP.Core.b64.tails (-51)).toNat) = _
  rw [e64n h, e64n (pw64 (by omega) (by omega)), this, p64, show q - -51 - 52 = q - 1 by omega]; rfl
theorem c32 {c : Nat} {q r : Int} (h : nrm FP.Core.b32 c q) (r1 : -40 ≤ r) (r2 : r ≤ 0) : (r ≤ q → 0 ≤ Op.cmpValue (FP.fcmp (e32 c q) (e32 FP.Core.b32.tails r)) .g) ∧ (q < r → ¬ 0 ≤ Op.cmpValue (FP.fcmp (e32 c q) (e32 FP.Core.b32.tails r)) .g) := by
  have := cmp_norm ft32 h (pw32 r1 (by omega))
  have e : FP.fcmp (e32 c q) (e32 FP.Core.b32.tails r) = FP.Core.cmp FP.Core.b32 (nE FP.Core.b32 c q) (nE FP.Core.b32 FP.Core.b32.tails r) := by
    show FP.Core.cmp FP.Core.b32 (e32 c q).toNat (e32 FP.Core.b32.tails r).toNat = _
    rw [e32n h, e32n (pw32 r1 (by omega))]
  rw [e]
  refine ⟨fun z => ?_, fun z => ?_⟩
  · rcases this.1 z with y | y <;> rw [y] <;> decide
  · rw [this.2 z]; decide
theorem c64 {c : Nat} {q r : Int} {o : CmpOp} (h : nrm FP.Core.b64 c q) (r1 : -70 ≤ r) (r2 : r ≤ 0) : (r ≤ q → 0 ≤ Op.cmpValue (FP.dcmp (e64 c q) (e64 FP.Core.b64.tails r)) o) ∧ (q < r → Op.cmpValue (FP.dcmp (e64 c q) (e64 FP.Core.b64.tails r)) o < 0) := by
  have := cmp_norm ft64 h (pw64 r1 (by omega))
  have e : FP.dcmp (e64 c q) (e64 FP.Core.b64.tails r) = FP.Core.cmp FP.Core.b64 (nE FP.Core.b64 c q) (nE FP.Core.b64 FP.Core.b64.tails r) := by
    show FP.Core.cmp FP.Core.b64 (e64 c q).toNat (e64 FP.Core.b64.tails r).toNat = _
    rw [e64n h, e64n (pw64 r1 (by omega))]
  rw [e]
  refine ⟨fun z => ?_, fun z => ?_⟩
  · rcases this.1 z with y | y
    · rw [y]; show (0 : Int32) ≤ 1; decide
    · rw [y]; show (0 : Int32) ≤ 0; decide
  · rw [this.2 z]; show (-1 : Int32) < 0; decide
theorem f2i_e {c : Nat} (h : nrm FP.Core.b32 c 0) : FP.f2i (e32 c 0) = nI c := by
  show FP.Core.toI (FP.Core.decode FP.Core.b32 (e32 c 0).toNat) = _
  have h2 := h.2.1
  have e3 : (2 : Nat) ^ FP.Core.b32.p = 16777216 := by decide
  rw [e3] at h2
  rw [e32n h, nE_dec ft32 h]
  unfold FP.Core.toI FP.Core.toInt FP.Core.truncate FP.Core.signed
  simp only [Bool.false_eq_true, if_false, Int.toNat_zero, Int.neg_zero, Nat.pow_zero, Nat.mul_one, Nat.div_one]
  rw [show max (-2 ^ 31 : Int) (min (2 ^ 31 - 1) (c : Int)) = (c : Int) by omega]
  exact Int32.ofInt_eq_ofNat
theorem d2l_e {c : Nat} (h : nrm FP.Core.b64 c 0) : FP.d2l (e64 c 0) = Int64.ofNat c := by
  show FP.Core.toL (FP.Core.decode FP.Core.b64 (e64 c 0).toNat) = _
  have h2 := h.2.1
  have e3 : (2 : Nat) ^ FP.Core.b64.p = 9007199254740992 := by decide
  rw [e3] at h2
  rw [e64n h, nE_dec ft64 h]
  unfold FP.Core.toL FP.Core.toInt FP.Core.truncate FP.Core.signed
  simp only [Bool.false_eq_true, if_false, Int.toNat_zero, Int.neg_zero, Nat.pow_zero, Nat.mul_one, Nat.div_one]
  rw [show max (-2 ^ 63 : Int) (min (2 ^ 63 - 1) (c : Int)) = (c : Int) by omega]
  exact Int64.ofInt_eq_ofNat
theorem vf32e {c : Nat} {q : Int} (h : nrm FP.Core.b32 c q) (hq : q ≤ 50) : vf_n32 (e32 c q) := vf32 (nE32b h hq)
theorem vf64e {c : Nat} {q : Int} (h : nrm FP.Core.b64 c q) (hq : q ≤ 50) : vf_n64 (e64 c q) := vf64 (nE64b h hq)
theorem one32 : FP.fconst1 = e32 FP.Core.b32.tails (-23) := by decide
theorem two32 : FP.fconst2 = e32 FP.Core.b32.tails (-22) := by decide
theorem top32 : (1258291200 : UInt32) = e32 FP.Core.b32.tails 0 := by decide
theorem one64 : FP.dconst1 = e64 FP.Core.b64.tails (-52) := by decide
theorem two64 : (4611686018427387904 : UInt64) = e64 FP.Core.b64.tails (-51) := by decide
theorem top64 : (4841369599423283200 : UInt64) = e64 FP.Core.b64.tails 0 := by decide
theorem shl32 : ∀ a, a < 128 → nI a <<< (nI 23 &&& 31) = nI (a * 8388608) := by decide +kernel
theorem shl64 : ∀ a, a < 60 → (nI (1000 + a)).toInt64 <<< ((nI 52).toInt64 &&& 63) = Int64.ofNat ((1000 + a) * 4503599627370496) := by decide +kernel
theorem c32z {c : Nat} {q : Int} (h : nrm FP.Core.b32 c q) : 0 < Op.cmpValue (FP.fcmp (e32 c q) FP.fconst0) .g := by
  have e : FP.fcmp (e32 c q) FP.fconst0 = FP.Core.cmp FP.Core.b32 (nE FP.Core.b32 c q) 0 := by
    show FP.Core.cmp FP.Core.b32 (e32 c q).toNat 0 = _
    rw [e32n h]
  rw [e, cmp_zero ft32 h]; decide
theorem c64z {c : Nat} {q : Int} (h : nrm FP.Core.b64 c q) : 0 < Op.cmpValue (FP.dcmp (e64 c q) FP.dconst0) .g := by
  have e : FP.dcmp (e64 c q) FP.dconst0 = FP.Core.cmp FP.Core.b64 (nE FP.Core.b64 c q) 0 := by
    show FP.Core.cmp FP.Core.b64 (e64 c q).toNat 0 = _
    rw [e64n h]
  rw [e, cmp_zero ft64 h]; decide
theorem k_fbits {x : UInt32} {Q : Int32 → xHp → Prop} (hW : xLay sh R) (h : x = 0 ∨ ∃ c q, nrm FP.Core.b32 c q ∧ -33 ≤ q ∧ q ≤ -23 ∧ x = e32 c q) (k : Q x.toInt32 (sh, I, R)) : CI mX1_bitsOfFloat [.float x] (sh, I, R) Q := by
  rcases h with rfl | ⟨c, q, n, q1, q2, rfl⟩
  · exact eX1_bitsOfFloat (bX1_bitsOfFloat_0 hW ⟨fun z => absurd z (by decide), fun _ => k⟩)
  · have loop : ∀ (j v : Nat), (v : Int) + j = -23 - q → Ex mX1_bitsOfFloat 15 [xU, .float (e32 c (q + v)), .int (nI (127 - v)), .int (nI v)] [] (sh, I, R) 0 0 (xqI Q) := by
      intro j
      induction j with
      | zero =>
        intro v hv
        have nv := mv32 (r := q + v) n (by omega) (by omega)
        have n0 := mv32 (r := 0) n (by omega) (by omega)
        refine bX1_bitsOfFloat_15 hW ⟨fun z => absurd z (nI_ge (by omega) (by omega)), fun _ => ⟨fun _ => ?_, fun z => absurd ?_ z⟩⟩
        · rw [top32, mul32 nv (by omega) (by omega) (by omega) (by omega), show q + v + 0 + 23 = 0 by omega, f2i_e n0, shl32 _ (by omega)]
          refine ⟨vf32e n0 (by omega), ?_⟩
          have hc := n.1
          have e2 : FP.Core.b32.tails = 8388608 := by decide
          rw [e2] at hc
          rw [show (8388608 : Int32) = nI 8388608 by decide, pk_sub hc, nI_add]
          have e9 : (127 - v) * 8388608 + (c - 8388608) = nE FP.Core.b32 c q := by
            unfold nE
            rw [e2, show FP.Core.b32.qmin = -149 by decide]
            omega
          rw [e9]; exact k
        · rw [one32]; exact (c32 nv (by omega) (by omega)).1 (by omega)
      | succ j ih =>
        intro v hv
        have nv := mv32 (r := q + v) n (by omega) (by omega)
        refine bX1_bitsOfFloat_15 hW ⟨fun z => absurd z (nI_ge (by omega) (by omega)), fun _ => ⟨fun z => absurd z ?_, fun _ => ?_⟩⟩
        · rw [one32]; exact (c32 nv (by omega) (by omega)).2 (by omega)
        · rw [two32, mul32 nv (by omega) (by omega) (by omega) (by omega), sub_n1, pk_sub (by omega), show q + v + -22 + 23 = q + ((v + 1 : Nat) : Int) by omega]
          refine ⟨vf32e (mv32 n (by omega) (by omega)) (by omega), ?_⟩
          have := ih (v + 1) (by omega)
          rw [show 127 - v - 1 = 127 - (v + 1) by omega, show nI v + nI 1 = nI (v + 1) from nI_add v 1]
          exact this
    refine eX1_bitsOfFloat (bX1_bitsOfFloat_0 hW ⟨fun _ => ?_, fun z => absurd (c32z n) z⟩)
    have := loop (-23 - q).toNat 0 (by omega)
    rw [show q + ((0 : Nat) : Int) = q by omega] at this
    exact this
theorem lpk_sub {a b : Nat} (h : b ≤ a) : Int64.ofNat a - Int64.ofNat b = Int64.ofNat (a - b) := by
  have : Int64.ofNat a = Int64.ofNat (a - b) + Int64.ofNat b := by rw [← Int64.ofNat_add, Nat.sub_add_cancel h]
  rw [this, Int64.add_sub_cancel]
theorem k_dbits {x : UInt64} {Q : Int64 → xHp → Prop} (hW : xLay sh R) (h : ddq x) (k : Q x.toInt64 (sh, I, R)) : CJ mX1_bitsOfDouble [.double x] (sh, I, R) Q := by
  rcases h with rfl | ⟨c, q, n, q1, q2, hx⟩
  · exact eX1_bitsOfDouble (bX1_bitsOfDouble_0 hW ⟨fun z => absurd z (by decide), fun _ => k⟩)
  · have hx2 : x = e64 c q := hx
    rw [hx2] at k ⊢
    have fin : ∀ (j v : Nat), ∀ r : Int, r = -52 + j → r ≤ -35 → -62 ≤ q - j → (v : Int) + j ≤ 60 → Ex mX1_bitsOfDouble 49 [xU, xU, .double (e64 c r), xU, .int (nI (1075 + (q - j)).toNat), .int (nI v)] [] (sh, I, R) 0 0 (xqJ Q) := by
      intro j
      induction j with
      | zero =>
        intro v r hr hr2 hv hb
        have nv := mv64 (r := r) n (by omega) (by omega)
        have n0 := mv64 (r := 0) n (by omega) (by omega)
        refine bX1_bitsOfDouble_49 hW ⟨fun z => absurd z (nI_ge (by omega) (by omega)), fun _ => ⟨fun _ => ?_, fun z => absurd ?_ z⟩⟩
        · rw [top64, mul64 nv (by omega) (by omega) (by omega) (by omega), show r + 0 + 52 = 0 by omega, d2l_e n0]
          refine ⟨vf64e n0 (by omega), ?_⟩
          have hc := n.1
          have e2 : FP.Core.b64.tails = 4503599627370496 := by decide
          rw [e2] at hc
          have es := shl64 ((1075 + q).toNat - 1000) (by omega)
          rw [show 1000 + ((1075 + q).toNat - 1000) = (1075 + q).toNat by omega] at es
          rw [show 1075 + (q - ((0 : Nat) : Int)) = 1075 + q by omega, es, show (4503599627370496 : Int64) = Int64.ofNat 4503599627370496 by decide, lpk_sub hc, ← Int64.ofNat_add]
          have e9 : (1075 + q).toNat * 4503599627370496 + (c - 4503599627370496) = nE FP.Core.b64 c q := by
            unfold nE
            rw [e2, show FP.Core.b64.qmin = -1074 by decide]
            omega
          rw [e9]; exact k
        · rw [two64]; exact (c64 nv (by omega) (by omega)).2 (by omega)
      | succ j ih =>
        intro v r hr hr2 hv hb
        have nv := mv64 (r := r) n (by omega) (by omega)
        refine bX1_bitsOfDouble_49 hW ⟨fun z => absurd z (nI_ge (by omega) (by omega)), fun _ => ⟨fun z => absurd ((c64 (r := -51) (o := .l) nv (by omega) (by omega)).1 (by omega)) ?_, fun _ => ?_⟩⟩
        · rw [two64] at z
          exact fun y => absurd z (Int32.not_lt.mpr y)
        · rw [two64, half64 nv (by omega) (by omega)]
          refine ⟨vf64e (mv64 n (by omega) (by omega)) (by omega), ?_⟩
          have := ih (v + 1) (r - 1) (by omega) (by omega) (by omega) (by omega)
          rw [show nI v + nI 1 = nI (v + 1) from nI_add v 1, show nI (1075 + (q - ((j + 1 : Nat) : Int))).toNat + nI 1 = nI (1075 + (q - (j : Int))).toNat by
            rw [nI_add]; congr 1; omega]
          exact this
    have up : ∀ (j v : Nat), ∀ r : Int, r = q + v → (r + j = -52 ∨ (j = 0 ∧ v = 0 ∧ -52 ≤ r ∧ r ≤ -35)) → v + j ≤ 30 → (-52 ≤ q → v = 0) → Ex mX1_bitsOfDouble 18 [xU, xU, .double (e64 c r), xU, .int (nI (1023 - v)), .int (nI v)] [] (sh, I, R) 0 0 (xqJ Q) := by
      intro j
      induction j with
      | zero =>
        intro v r hr hj hb h0
        have nv := mv64 (r := r) n (by omega) (by omega)
        have go : Ex mX1_bitsOfDouble 49 [xU, xU, .double (e64 c r), xU, .int (nI (1023 - v)), .int (nI 0)] [] (sh, I, R) 0 0 (xqJ Q) := by
          have := fin (r + 52).toNat 0 r (by omega) (by omega) (by omega) (by omega)
          rw [show (1075 + (q - ((r + 52).toNat : Int))).toNat = 1023 - v by omega] at this
          exact this
        refine bX1_bitsOfDouble_18 hW ⟨fun z => absurd z (nI_ge (by omega) (by omega)), fun _ => ⟨fun _ => go, fun z => absurd ?_ z⟩⟩
        rw [one64]; exact (c64 nv (by omega) (by omega)).1 (by omega)
      | succ j ih =>
        intro v r hr hj hb h0
        have nv := mv64 (r := r) n (by omega) (by omega)
        refine bX1_bitsOfDouble_18 hW ⟨fun z => absurd z (nI_ge (by omega) (by omega)), fun _ => ⟨fun z => ?_, fun _ => ?_⟩⟩
        · rw [one64] at z
          exact absurd z (Int32.not_le.mpr ((c64 (r := -52) (o := .g) nv (by omega) (by omega)).2 (by omega)))
        · rw [two64, mul64 nv (by omega) (by omega) (by omega) (by omega), sub_n1, pk_sub (by omega), show r + -51 + 52 = r + 1 by omega]
          refine ⟨vf64e (mv64 n (by omega) (by omega)) (by omega), ?_⟩
          have := ih (v + 1) (r + 1) (by omega) (by omega) (by omega) (by omega)
          rw [show 1023 - v - 1 = 1023 - (v + 1) by omega, show nI v + nI 1 = nI (v + 1) from nI_add v 1]
          exact this
    refine eX1_bitsOfDouble (bX1_bitsOfDouble_0 hW ⟨fun _ => ?_, fun z => absurd (c64z n) z⟩)
    exact up (-52 - q).toNat 0 q (by omega) (by omega) (by omega) (by omega)
end BITS
