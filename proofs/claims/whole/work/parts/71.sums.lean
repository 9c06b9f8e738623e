section SUMS
variable {sh : List xSh} {I : Nat → Nat → Int32} {R : Nat → Nat → Option Nat}
/-- a sum over all words of n letters -/
def smS (L n : Nat) (g : List Nat → Nat) : Nat := sN (L ^ n) (fun i => g (wl L (fst L n + i)))
def zrN (p L : Nat) (A : Mac) (n : Nat) : Nat := smS L n (fun l => if vN p A l = 0 then 1 else 0)
def vsN (p L : Nat) (A : Mac) (n : Nat) : Nat := smS L n (fun l => vN p A l)
theorem smS_le {L n b : Nat} {g : List Nat → Nat} (h : ∀ l, g l ≤ b) : smS L n g ≤ L ^ n * b := sN_le (fun i _ => h _)
theorem pow6 {L n : Nat} (hL : L ≤ 3) (hn : n ≤ 6) : L ^ n ≤ 729 := Nat.le_trans (Nat.pow_le_pow_left hL n) (Nat.le_trans (Nat.pow_le_pow_right (by omega) hn) (by decide +kernel))
theorem zrN_le {p L n : Nat} {A : Mac} (hL : L ≤ 3) (hn : n ≤ 6) : zrN p L A n ≤ 729 := by
  have := smS_le (L := L) (n := n) (b := 1) (g := fun l => if vN p A l = 0 then 1 else 0) (fun l => by split <;> omega)
  have := pow6 hL hn
  unfold zrN; omega
theorem vsN_le {p L n : Nat} {A : Mac} (hp : 0 < p) (hp2 : p ≤ 97) (hL : L ≤ 3) (hn : n ≤ 6) : vsN p L A n ≤ 69984 := by
  have := smS_le (L := L) (n := n) (b := 96) (g := fun l => vN p A l) (fun l => by have := vN_lt (A := A) hp l; omega)
  have := pow6 hL hn
  unfold vsN; omega
theorem sN_mono {f : Nat → Nat} {a b : Nat} (h : a ≤ b) : sN a f ≤ sN b f := by
  induction b with
  | zero => obtain rfl : a = 0 := by omega
            exact Nat.le_refl _
  | succ b ih =>
    by_cases e : a = b + 1
    · subst e; exact Nat.le_refl _
    · show sN a f ≤ sN b f + f b
      have := ih (by omega); omega
theorem fst_succ (L n : Nat) : fst L (n + 1) = fst L n + L ^ n := rfl
theorem w_summed {p L m n : Nat} {A : Mac} {b : Bool} {Q : Int32 → xHp → Prop} (hW : xLay sh R) (hc : mCtx I p L) (hm : m < 33) (hA : mRep I L m A) (hok : okM p L A) (hn : n ≤ 6)
    (k : ∀ I', Fr [211, 212] I I' → Q (nI (if b = true then zrN p L A n else vsN p L A n)) (sh, I', R)) : CI mX10_summed [.ref 209, .int (nI m), .int (nI n), .int (bI b)] (sh, I, R) Q := by
  obtain ⟨hP, hL, hpr, hL1, hL3⟩ := id hc
  obtain ⟨hp2, hp97⟩ := PR_bd p hpr
  have h729 := pow6 hL3 hn
  have hfb : fst L (n + 1) ≤ 797161 := fst_bd hL3 _ (by omega)
  have hfs := fst_succ L n
  generalize hg : (fun i => (if b = true then (if vN p A (wl L (fst L n + i)) = 0 then 1 else 0) else vN p A (wl L (fst L n + i)) : Nat)) = g
  have hres : (if b = true then zrN p L A n else vsN p L A n) = sN (L ^ n) g := by
    rw [← hg]
    cases b with
    | true => rfl
    | false => rfl
  rw [hres] at k
  have hgb : ∀ i, g i ≤ 96 := fun i => by
    rw [← hg]
    dsimp only
    have := vN_lt (A := A) (p := p) (by omega) (wl L (fst L n + i))
    cases b with
    | true => simp only [if_true]; split <;> omega
    | false => simp only [Bool.false_eq_true, if_false]; omega
  have hsb : ∀ i, i ≤ L ^ n → sN i g ≤ 69984 := fun i hi => by
    have := sN_le (n := i) (b := 96) (f := g) (fun j _ => hgb j)
    omega
  have loop : ∀ j i (I1 : Nat → Nat → Int32), i + j = L ^ n → Fr [211, 212] I I1 → Ex mX10_summed 10 [.ref 209, .int (nI m), .int (nI n), .int (bI b), .int (nI (sN i g)), .int (nI (fst L n + i)), xU] [] (sh, I1, R) 0 0 (xqI Q) := by
    intro j
    induction j with
    | zero =>
      intro i I1 hi hf
      obtain rfl : i = L ^ n := by omega
      refine bX10_summed_10 hW ?_
      rw [nI_add]
      refine w_firstOf hW (hc.fr hf (by decide)).2.1 (by omega) (bX10_summed_19 hW ⟨fun _ => k I1 hf, fun q => absurd (nI_le (by omega) (by omega)) q⟩)
    | succ j ih =>
      intro i I1 hi hf
      have hc1 := hc.fr hf (by decide)
      have hwl : wlen L (fst L n + i) ≤ 12 := by have := (wlen_lt_iff hL1 (fst L n + i) (n + 1)).mpr (by omega); omega
      refine bX10_summed_10 hW ?_
      rw [nI_add]
      refine w_firstOf hW hc1.2.1 (by omega) (bX10_summed_19 hW ⟨fun q => absurd q (nI_ge (by omega) (by omega)), fun _ => ?_⟩)
      refine w_valueOf hW hc1 hm (hA.fr hf (by decide)) hok hwl (fun I2 hf2 => bX10_summed_29 hW ?_)
      have hv := vN_lt (A := A) (p := p) (by omega) (wl L (fst L n + i))
      have nxt : ∀ w, g i = w → Ex mX10_summed 10 [.ref 209, .int (nI m), .int (nI n), .int (bI b), .int (nI (sN i g) + nI w), .int (nI (fst L n + i) + nI 1), xU] [] (sh, I2, R) 0 0 (xqI Q) := by
        intro w hw
        rw [nI_add, nI_add, ← hw]
        exact ih (i + 1) I2 (by omega) (hf.tr hf2)
      refine ⟨fun q => nxt _ ?_, fun q => ⟨fun q2 => nxt 0 ?_, fun q2 => nxt 1 ?_⟩⟩
      · have hb : b = false := by cases b with | true => exact absurd q (by decide) | false => rfl
        rw [← hg, hb]; rfl
      · have hb : b = true := by cases b with | false => exact absurd rfl q | true => rfl
        rw [← hg, hb]
        simp only [if_true]
        rw [if_neg (fun z => q2 (by rw [z]; rfl))]
      · have hb : b = true := by cases b with | false => exact absurd rfl q | true => rfl
        rw [← hg, hb]
        simp only [if_true]
        rw [if_pos ((nI_eq (a := vN p A (wl L (fst L n + i))) (b := 0) (by omega) (by omega)).mp q2)]
  refine eX10_summed (bX10_summed_0 hW (w_firstOf hW hL (by omega) (bX10_summed_8 hW ?_)))
  exact loop (L ^ n) 0 I (by omega) Fr.rf
/-! the quotient of two whole numbers -/
theorem div_ints {f : FP.Core.Fmt} (hf : ft f) (hp : 20 ≤ f.p) {z w : Nat} (hz : z ≠ 0) (hz2 : z < 2 ^ 17) (hw : w ≠ 0) (hw2 : w < 2 ^ 10) : ∃ c q, nrm f c q ∧ -9 - (f.p : Int) ≤ q ∧ q ≤ 18 - (f.p : Int) ∧ FP.Core.div f (FP.Core.fromInt f (z : Int)) (FP.Core.fromInt f (w : Int)) = nE f c q := by
  have hb : ∀ n, n ≤ 17 → (2 : Nat) ^ n < 2 ^ f.p := fun n hn => Nat.pow_lt_pow_right (by decide) (by omega)
  obtain ⟨c1, n1, e1⟩ := int_norm hf hz (Nat.lt_trans hz2 (hb 17 (by omega)))
  obtain ⟨c2, n2, e2⟩ := int_norm hf hw (Nat.lt_trans hw2 (hb 10 (by omega)))
  have l1 : z.log2 < 17 := (Nat.log2_lt hz).mpr hz2
  have l2 : w.log2 < 10 := (Nat.log2_lt hw).mpr hw2
  obtain ⟨c, q, n3, q1, q2, e3⟩ := div_norm hf n1 n2 (by omega) (by omega)
  exact ⟨c, q, n3, by omega, by omega, by rw [e1, e2, e3]⟩
theorem div_zero {f : FP.Core.Fmt} (hf : ft f) {w : Nat} (hw : w ≠ 0) (hw2 : w < 2 ^ f.p) : FP.Core.div f (FP.Core.fromInt f 0) (FP.Core.fromInt f (w : Int)) = 0 := by
  obtain ⟨c2, n2, e2⟩ := int_norm hf hw hw2
  have hp := ft_pos (f := f)
  have z0 : FP.Core.encode f (.fin false 0 f.qmin) = 0 := by
    show (if 0 < f.tails then FP.Core.assemble f false 0 0 else _) = 0
    unfold FP.Core.assemble
    rw [if_pos hp]
    simp
  have h0 : FP.Core.decode f 0 = .fin false 0 f.qmin := by
    unfold FP.Core.decode FP.Core.fieldE FP.Core.fieldT FP.Core.fieldS
    rw [Nat.zero_div, Nat.zero_mod, Nat.zero_mod, Nat.zero_div, if_neg (by have := hf.2.2.2.2; omega), if_pos rfl]
    rfl
  have e0 : FP.Core.fromInt f 0 = 0 := by
    unfold FP.Core.fromInt FP.Core.ofInt FP.Core.round FP.Core.roundRatio
    exact z0
  rw [e0, e2]
  unfold FP.Core.div
  rw [h0, nE_dec hf n2]
  show FP.Core.encode f (if c2 = 0 then _ else FP.Core.roundRatio f (false != false) 0 c2 _) = 0
  rw [if_neg (by have := n2.1; omega)]
  exact z0
/-- a share, a mean: nothing, or positive and normal -/
def fdq (x : UInt32) : Prop := x = 0 ∨ ∃ c q, nrm FP.Core.b32 c q ∧ -33 ≤ q ∧ q ≤ -6 ∧ x = UInt32.ofNat (nE FP.Core.b32 c q)
def ddq (x : UInt64) : Prop := x = 0 ∨ ∃ c q, nrm FP.Core.b64 c q ∧ -62 ≤ q ∧ q ≤ -35 ∧ x = UInt64.ofNat (nE FP.Core.b64 c q)
theorem nE32 {c : Nat} {q : Int} (h : nrm FP.Core.b32 c q) : nE FP.Core.b32 c q < 2 ^ 31 := Nat.lt_of_lt_of_le (nE_lt ft32 h) (by decide)
theorem nE64 {c : Nat} {q : Int} (h : nrm FP.Core.b64 c q) : nE FP.Core.b64 c q < 2 ^ 63 := Nat.lt_of_lt_of_le (nE_lt ft64 h) (by decide)
theorem frI32 {z : Nat} (hz : z < 2 ^ 17) : FP.Core.fromInt FP.Core.b32 (z : Int) < 2 ^ 32 := by
  by_cases h : z = 0
  · subst h; decide
  · obtain ⟨c, n, e⟩ := int_norm ft32 h (Nat.lt_trans hz (by decide))
    rw [e]; exact Nat.lt_trans (nE32 n) (by decide)
theorem frI64 {z : Nat} (hz : z < 2 ^ 17) : FP.Core.fromInt FP.Core.b64 (z : Int) < 2 ^ 64 := by
  by_cases h : z = 0
  · subst h; decide
  · obtain ⟨c, n, e⟩ := int_norm ft64 h (Nat.lt_trans hz (by decide))
    rw [e]; exact Nat.lt_trans (nE64 n) (by decide)
theorem i2f_n {z : Nat} (hz : z < 2 ^ 17) : (FP.i2f (nI z)).toNat = FP.Core.fromInt FP.Core.b32 (z : Int) := by
  show (UInt32.ofNat (FP.Core.fromInt FP.Core.b32 (nI z).toInt)).toNat = _
  rw [nI_toInt (by omega), UInt32.toNat_ofNat_of_lt' (frI32 hz)]
theorem i2d_n {z : Nat} (hz : z < 2 ^ 17) : (FP.i2d (nI z)).toNat = FP.Core.fromInt FP.Core.b64 (z : Int) := by
  show (UInt64.ofNat (FP.Core.fromInt FP.Core.b64 (nI z).toInt)).toNat = _
  rw [nI_toInt (by omega), UInt64.toNat_ofNat_of_lt' (frI64 hz)]
theorem fdq_of {z w : Nat} (hz : z < 2 ^ 17) (hw : w ≠ 0) (hw2 : w < 2 ^ 10) : fdq (FP.fdiv (FP.i2f (nI z)) (FP.i2f (nI w))) := by
  have e : FP.fdiv (FP.i2f (nI z)) (FP.i2f (nI w)) = UInt32.ofNat (FP.Core.div FP.Core.b32 (FP.Core.fromInt FP.Core.b32 (z : Int)) (FP.Core.fromInt FP.Core.b32 (w : Int))) := by
    show UInt32.ofNat (FP.Core.div FP.Core.b32 (FP.i2f (nI z)).toNat (FP.i2f (nI w)).toNat) = _
    rw [i2f_n hz, i2f_n (by omega)]
  rw [e]
  by_cases h : z = 0
  · subst h
    left
    rw [show ((0 : Nat) : Int) = 0 from rfl, div_zero ft32 hw (Nat.lt_trans hw2 (by decide))]
    rfl
  · obtain ⟨c, q, n, q1, q2, e2⟩ := div_ints ft32 (by decide) h hz hw hw2
    rw [e2]
    have : (FP.Core.b32.p : Int) = 24 := rfl
    exact Or.inr ⟨c, q, n, by omega, by omega, rfl⟩
theorem ddq_of {z w : Nat} (hz : z < 2 ^ 17) (hw : w ≠ 0) (hw2 : w < 2 ^ 10) : ddq (FP.ddiv (FP.i2d (nI z)) (FP.i2d (nI w))) := by
  have e : FP.ddiv (FP.i2d (nI z)) (FP.i2d (nI w)) = UInt64.ofNat (FP.Core.div FP.Core.b64 (FP.Core.fromInt FP.Core.b64 (z : Int)) (FP.Core.fromInt FP.Core.b64 (w : Int))) := by
    show UInt64.ofNat (FP.Core.div FP.Core.b64 (FP.i2d (nI z)).toNat (FP.i2d (nI w)).toNat) = _
    rw [i2d_n hz, i2d_n (by omega)]
  rw [e]
  by_cases h : z = 0
  · subst h
    left
    rw [show ((0 : Nat) : Int) = 0 from rfl, div_zero ft64 hw (Nat.lt_trans hw2 (by decide))]
    rfl
  · obtain ⟨c, q, n, q1, q2, e2⟩ := div_ints ft64 (by decide) h hz hw hw2
    rw [e2]
    have : (FP.Core.b64.p : Int) = 53 := rfl
    exact Or.inr ⟨c, q, n, by omega, by omega, rfl⟩
theorem vf32 {n : Nat} (h : n ≤ 2139095040) : vf_n32 (UInt32.ofNat n) := by
  unfold vf_n32
  rw [UInt32.le_iff_toNat_le, UInt32.toNat_and]
  refine Nat.le_trans Nat.and_le_left ?_
  rw [UInt32.toNat_ofNat_of_lt' (Nat.lt_of_le_of_lt h (by decide))]
  exact h
theorem vf64 {n : Nat} (h : n ≤ 9218868437227405312) : vf_n64 (UInt64.ofNat n) := by
  unfold vf_n64
  rw [UInt64.le_iff_toNat_le, UInt64.toNat_and]
  refine Nat.le_trans Nat.and_le_left ?_
  rw [UInt64.toNat_ofNat_of_lt' (Nat.lt_of_le_of_lt h (by decide))]
  exact h
theorem nE32b {c : Nat} {q : Int} (h : nrm FP.Core.b32 c q) (hq : q ≤ 50) : nE FP.Core.b32 c q ≤ 2139095040 := by
  obtain ⟨h1, h2, h3, h4⟩ := h
  have e1 : FP.Core.b32.qmin = -149 := by decide
  have e2 : FP.Core.b32.tails = 8388608 := by decide
  have e3 : (2 : Nat) ^ FP.Core.b32.p = 16777216 := by decide
  unfold nE
  rw [e1] at h3 ⊢
  rw [e2] at h1 ⊢
  rw [e3] at h2
  have : (q - -149).toNat ≤ 199 := by omega
  omega
theorem nE64b {c : Nat} {q : Int} (h : nrm FP.Core.b64 c q) (hq : q ≤ 50) : nE FP.Core.b64 c q ≤ 9218868437227405312 := by
  obtain ⟨h1, h2, h3, h4⟩ := h
  have e1 : FP.Core.b64.qmin = -1074 := by decide
  have e2 : FP.Core.b64.tails = 4503599627370496 := by decide
  have e3 : (2 : Nat) ^ FP.Core.b64.p = 9007199254740992 := by decide
  unfold nE
  rw [e1] at h3 ⊢
  rw [e2] at h1 ⊢
  rw [e3] at h2
  have : (q - -1074).toNat ≤ 1124 := by omega
  omega
theorem fdq_nan {x : UInt32} (h : fdq x) : vf_n32 x ∧ FP.fcmp x x = some .eq := by
  rcases h with rfl | ⟨c, q, n, q1, q2, rfl⟩
  · exact ⟨by unfold vf_n32; decide, by decide⟩
  · refine ⟨vf32 (nE32b n (by omega)), ?_⟩
    show FP.Core.cmp FP.Core.b32 _ _ = _
    rw [UInt32.toNat_ofNat_of_lt' (Nat.lt_trans (nE32 n) (by decide))]
    exact cmp_self ft32 n
theorem ddq_nan {x : UInt64} (h : ddq x) : vf_n64 x ∧ FP.dcmp x x = some .eq := by
  rcases h with rfl | ⟨c, q, n, q1, q2, rfl⟩
  · exact ⟨by unfold vf_n64; decide, by decide⟩
  · refine ⟨vf64 (nE64b n (by omega)), ?_⟩
    show FP.Core.cmp FP.Core.b64 _ _ = _
    rw [UInt64.toNat_ofNat_of_lt' (Nat.lt_trans (nE64 n) (by decide))]
    exact cmp_self ft64 n
theorem w_fbits {x : UInt32} {Q : Int32 → xHp → Prop} (hW : xLay sh R) (h : fdq x) (k : Q x.toInt32 (sh, I, R)) : CI mJxf58ca_floatToIntBits_5c35a [.float x] (sh, I, R) Q := by
  have e := (fdq_nan h).2
  refine eJxf58ca_floatToIntBits_5c35a (bJxf58ca_floatToIntBits_5c35a_0 hW (eJxf58ca_isNaN_12338 (bJxf58ca_isNaN_12338_0 hW ?_)))
  rw [e]
  exact ⟨fun _ => bJxf58ca_floatToIntBits_5c35a_4 hW ⟨fun q => absurd rfl q, fun _ => k⟩, fun q => absurd rfl q⟩
theorem w_dbits {x : UInt64} {Q : Int64 → xHp → Prop} (hW : xLay sh R) (h : ddq x) (k : Q x.toInt64 (sh, I, R)) : CJ mJxe99ae_doubleToLongBits_ccdee [.double x] (sh, I, R) Q := by
  have e := (ddq_nan h).2
  refine eJxe99ae_doubleToLongBits_ccdee (bJxe99ae_doubleToLongBits_ccdee_0 hW (eJxe99ae_isNaN_b9ae7 (bJxe99ae_isNaN_b9ae7_0 hW ?_)))
  rw [e]
  exact ⟨fun _ => bJxe99ae_doubleToLongBits_ccdee_4 hW ⟨fun q => absurd rfl q, fun _ => k⟩, fun q => absurd rfl q⟩
noncomputable def shareA (σ : St) [NeZero σ.p] (m n : Int32) : Int32 := if inB n 7 then ansM σ m (fun M => (FP.fdiv (FP.i2f (nI (zrN σ.p σ.L M (nN n)))) (FP.i2f (nI (σ.L ^ nN n)))).toInt32) id else -1
noncomputable def meanA (σ : St) [NeZero σ.p] (m n : Int32) : Int64 := if inB n 7 then ansM σ m (fun M => (FP.ddiv (FP.i2d (nI (vsN σ.p σ.L M (nN n)))) (FP.i2d (nI (σ.L ^ nN n)))).toInt64) (fun v => v.toInt64) else (-1 : Int32).toInt64
theorem w_share {σ : St} [NeZero σ.p] {m v : Int32} {Q : Int32 → xHp → Prop} (hW : xLay sh R) (h : mdR I σ) (k : ∀ I', mdR I' σ → mFr I I' → Q (shareA σ m v) (sh, I', R)) : CI mX10_share [.ref 209, .int m, .int v] (sh, I, R) Q := by
  unfold shareA at k
  have hL1 := h.ok.L1
  have hL3 := h.ok.L3
  refine eX10_share (bX10_share_0 hW (w_inB (n := 7) hW (by decide) (by decide) (fun n hn hlt => ?_) (fun hn => ?_)))
  · subst hn
    rw [if_pos ((inB_n (by omega)).mpr hlt), nN_n (by omega)] at k
    refine bX10_share_9 hW ⟨fun q => absurd q (by decide), fun _ => w_wrong hW h (fun a I' hm ha hans h' hf hr hok => ?_) (fun v hv hans => bX10_share_17 hW ⟨fun z => absurd z hv, fun _ => ?_⟩)⟩
    · subst hm
      rw [hans] at k
      refine bX10_share_17 hW ⟨fun _ => w_summed (b := true) hW h'.ctx (by omega) hr hok (by omega) (fun I2 hf2 => bX10_share_35 hW ?_), fun z => absurd rfl z⟩
      have md2 := h'.eq (mdF.of hf2 (by decide))
      refine w_power hW md2.c2 (by omega) (bX10_share_41 hW ?_)
      have hz := zrN_le (p := σ.p) (A := mOf σ a) hL3 (show n ≤ 6 by omega)
      have hw := pow6 hL3 (show n ≤ 6 by omega)
      have hw0 : σ.L ^ n ≠ 0 := Nat.pos_iff_ne_zero.mp (Nat.pow_pos hL1)
      have hd := fdq_of (z := zrN σ.p σ.L (mOf σ a) n) (w := σ.L ^ n) (by omega) hw0 (by omega)
      exact ⟨(fdq_nan hd).1, w_fbits hW hd (bX10_share_46 hW (k I2 md2 (hf.tr (mFr.of hf2 (by simp)))))⟩
    · rw [hans] at k
      exact k I h mFr.rf
  · rw [if_neg hn] at k
    exact bX10_share_9 hW ⟨fun _ => k I h mFr.rf, fun z => absurd rfl z⟩
theorem w_mean {σ : St} [NeZero σ.p] {m v : Int32} {Q : Int64 → xHp → Prop} (hW : xLay sh R) (h : mdR I σ) (k : ∀ I', mdR I' σ → mFr I I' → Q (meanA σ m v) (sh, I', R)) : CJ mX10_mean [.ref 209, .int m, .int v] (sh, I, R) Q := by
  unfold meanA at k
  have hL1 := h.ok.L1
  have hL3 := h.ok.L3
  have hp := PR_bd _ h.ok.p
  refine eX10_mean (bX10_mean_0 hW (w_inB (n := 7) hW (by decide) (by decide) (fun n hn hlt => ?_) (fun hn => ?_)))
  · subst hn
    rw [if_pos ((inB_n (by omega)).mpr hlt), nN_n (by omega)] at k
    refine bX10_mean_9 hW ⟨fun q => absurd q (by decide), fun _ => w_wrong hW h (fun a I' hm ha hans h' hf hr hok => ?_) (fun v hv hans => bX10_mean_17 hW ⟨fun z => absurd z hv, fun _ => ?_⟩)⟩
    · subst hm
      rw [hans] at k
      refine bX10_mean_17 hW ⟨fun _ => w_summed (b := false) hW h'.ctx (by omega) hr hok (by omega) (fun I2 hf2 => bX10_mean_36 hW ?_), fun z => absurd rfl z⟩
      have md2 := h'.eq (mdF.of hf2 (by decide))
      refine w_power hW md2.c2 (by omega) (bX10_mean_42 hW ?_)
      have hz := vsN_le (p := σ.p) (A := mOf σ a) (by omega) hp.2 hL3 (show n ≤ 6 by omega)
      have hw := pow6 hL3 (show n ≤ 6 by omega)
      have hw0 : σ.L ^ n ≠ 0 := Nat.pos_iff_ne_zero.mp (Nat.pow_pos hL1)
      have hd := ddq_of (z := vsN σ.p σ.L (mOf σ a) n) (w := σ.L ^ n) (by omega) hw0 (by omega)
      exact ⟨(ddq_nan hd).1, w_dbits hW hd (bX10_mean_47 hW (k I2 md2 (hf.tr (mFr.of hf2 (by simp)))))⟩
    · rw [hans] at k
      exact k I h mFr.rf
  · rw [if_neg hn] at k
    exact bX10_mean_9 hW ⟨fun _ => k I h mFr.rf, fun z => absurd rfl z⟩
end SUMS
