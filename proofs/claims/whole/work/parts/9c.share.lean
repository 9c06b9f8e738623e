section CSHA
variable {sh : List xSh} {I : Nat → Nat → Int32} {R : Nat → Nat → Option Nat}
theorem half6 : ∀ n, n < 7 → nI n / nI 2 = nI (n / 2) := by decide +kernel
theorem fst40 : ∀ L, L < 4 → ∀ a, a < 5 → fst L a ≤ 40 := by decide +kernel
theorem k_count {p L q n : Nat} {A : Mac} {Q : xHp → Prop} (hW : xLay sh R) (hc : cCtx I p L) (hq : xMach sh R q 4) (hqb : q + 3 < 86 ∨ 169 ≤ q) (hA : cM I L q 4 A) (hok : okM p L A) (hn : n ≤ 6)
    (k : ∀ I', Ou 86 169 I I' → I' 86 3 = nI (L ^ n) → I' 86 4 = nI (zrN p L A n) → I' 86 5 = nI (vsN p L A n) → Q (sh, I', R)) : CV mX1_count [.ref 86, .ref q, .int (nI n)] (sh, I, R) Q := by
  obtain ⟨hP, hL, hpr, hL1, hL3⟩ := id hc
  obtain ⟨hp2, hp97⟩ := PR_bd p hpr
  have hnz : NeZero p := ⟨by omega⟩
  have h4 := hA.1
  have hab : n / 2 + (n - n / 2) = n := by omega
  have hpow : L ^ n = L ^ (n / 2) * L ^ (n - n / 2) := by rw [← Nat.pow_add, hab]
  have hz2 : zrN p L A n = smS L (n / 2) (fun l => smS L (n - n / 2) (fun m => if vN p A (l ++ m.reverse) = 0 then 1 else 0)) := by
    unfold zrN; rw [← smS_two (fun l => if vN p A l = 0 then 1 else 0), hab]
  have hv2 : vsN p L A n = smS L (n / 2) (fun l => smS L (n - n / 2) (fun m => vN p A (l ++ m.reverse))) := by
    unfold vsN; rw [← smS_two (fun l => vN p A l), hab]
  rw [hz2, hv2, hpow] at k
  have ha3 : n / 2 ≤ 3 := by omega
  have hb3 : n - n / 2 ≤ 3 := by omega
  have e1 := half6 n (by omega)
  refine eX1_count (bX1_count_0 hW hq ⟨by decide, ?_⟩)
  rw [e1, pk_sub (by omega)]
  generalize n / 2 = a at *
  generalize n - a = b at *
  have fa := fst40 L (by omega) (a + 1) (by omega)
  have fb := fst40 L (by omega) (b + 1) (by omega)
  rw [fst_succ] at fa fb
  have pa : 1 ≤ L ^ a := Nat.pow_pos hL1
  have pb : 1 ≤ L ^ b := Nat.pow_pos hL1
  refine k_firstOfLength hW hc (by omega) (bX1_count_17 hW hq (k_firstOfLength hW hc (by omega) (bX1_count_28 hW hq (k_power hW hc (by omega) (bX1_count_38 hW hq (k_power hW hc (by omega) (bX1_count_49 hW hq ?_)))))))
  rw [nI_add]
  refine k_heads hW hc hq hqb hA hok fa (by omega) (fun I1 o1 hh => bX1_count_61 hW hq ?_)
  have hc1 : cCtx I1 p L := hc.eq (o1 1 (by omega))
  have hA1 : cM I1 L q 4 A := hA.eq (o1 _ (by omega)) (o1 _ (by omega)) (o1 _ (by omega)) (o1 _ (by omega))
  rw [nI_add]
  refine k_tails hW hc1 hq hqb hA1 hok fb (by omega) (fun I2 o2 ht => bX1_count_71 hW hq ?_)
  have hc2 : cCtx I2 p L := hc1.eq (o2 1 (by omega))
  have hA2 : cM I2 L q 4 A := hA1.eq (o2 _ (by omega)) (o2 _ (by omega)) (o2 _ (by omega)) (o2 _ (by omega))
  have hh2 : ∀ i, i < fst L a + L ^ a → vR I2 p (88 + i) A.1 (fN p A (wl L i)) := fun i hi s hs => by rw [o2 (88 + i) (by omega)]; exact hh i hi s hs
  rw [pk_mul]
  let z : Nat → Nat → Nat := fun i j => if vN p A (wl L (fst L a + i) ++ (wl L (fst L b + j)).reverse) = 0 then 1 else 0
  let v : Nat → Nat → Nat := fun i j => vN p A (wl L (fst L a + i) ++ (wl L (fst L b + j)).reverse)
  have hoR : xRows sh R 87 40 4 := hW.2.2.2.2.2.2.2.2.2.2.2.2.1
  have htR : xRows sh R 128 40 4 := hW.2.2.2.2.2.2.2.2.2.2.2.2.2
  let inv : (Nat → Nat → Int32) → Nat → Nat → Prop := fun J i j => Fr [86] I2 J ∧ J 86 3 = nI (L ^ a * L ^ b) ∧ J 86 4 = nI (sN i (fun i => sN (L ^ b) (z i)) + sN j (z i)) ∧ J 86 5 = nI (sN i (fun i => sN (L ^ b) (v i)) + sN j (v i))
  have outer : ∀ m i (J : Nat → Nat → Int32), i + m = L ^ a → inv J i 0 → Ex mX1_count 94 [.ref 86, .ref q, xU, xU, xU, .int (nI (fst L a)), .int (nI (fst L b)), .int (nI (L ^ a)), .int (nI (L ^ b)), .int (nI (fst L a + i)), xU, xU] [] (sh, J, R) 0 0 (xqV Q) := by
    intro m
    induction m with
    | zero =>
      intro i J hi hJ
      obtain rfl : i = L ^ a := by omega
      refine bX1_count_94 hW hq ?_
      rw [nI_add]
      refine ⟨fun _ => ?_, fun y => absurd (nI_le (Nat.le_refl _) (by omega)) y⟩
      obtain ⟨f, j3, j4, j5⟩ := hJ
      refine k J ((o1.up (by omega) (by omega)).tr ((o2.up (by omega) (by omega)).tr (Ou.of f (by simp)))) j3 j4 j5
    | succ m ih =>
      intro i J hi hJ
      refine bX1_count_94 hW hq ?_
      rw [nI_add]
      refine ⟨fun y => absurd y (nI_ge (by omega) (by omega)), fun _ => ?_⟩
      have inner : ∀ m2 j (J1 : Nat → Nat → Int32), j + m2 = L ^ b → inv J1 i j → Ex mX1_count 108 [.ref 86, .ref q, xU, xU, xU, .int (nI (fst L a)), .int (nI (fst L b)), .int (nI (L ^ a)), .int (nI (L ^ b)), .int (nI (fst L a + i)), .int (nI (fst L b + j)), xU] [] (sh, J1, R) 0 0 (xqV Q) := by
        intro m2
        induction m2 with
        | zero =>
          intro j J1 hj hJ1
          obtain rfl : j = L ^ b := by omega
          refine bX1_count_108 hW hq ?_
          rw [nI_add]
          refine ⟨fun _ => ?_, fun y => absurd (nI_le (Nat.le_refl _) (by omega)) y⟩
          rw [show nI (fst L a + i) + nI 1 = nI (fst L a + (i + 1)) from nI_add _ 1]
          exact ih (i + 1) J1 (by omega) hJ1
        | succ m2 ih2 =>
          intro j J1 hj hJ1
          obtain ⟨f, j3, j4, j5⟩ := hJ1
          refine bX1_count_108 hW hq ?_
          rw [nI_add]
          refine ⟨fun y => absurd y (nI_ge (by omega) (by omega)), fun _ => ⟨vp_nI (by omega) (by omega), vp_nI (by omega) (by omega), ?_⟩⟩
          rw [nclamp (a := fst L a + i) (by omega), nclamp (a := fst L b + j) (by omega)]
          have hAJ : cM J1 L q 4 A := hA2.fr f (by simp <;> omega)
          refine k_product hW (hc2.fr f (by simp)) hq (by omega) hAJ (hoR.2 (fst L a + i) (by omega)).2 (htR.2 (fst L b + j) (by omega)).2 (by omega) (by omega) (by omega) (by omega) ((hh2 (fst L a + i) (by omega)).fr f (by simp <;> omega)) ((ht (fst L b + j) (by omega)).fr f (by simp <;> omega)) (bX1_count_136 hW hq ?_)
          rw [vN_cat, j4, j5, show nI (fst L b + j) + nI 1 = nI (fst L b + (j + 1)) from nI_add _ 1]
          have hvl := vN_lt (A := A) (p := p) (by omega) (wl L (fst L a + i) ++ (wl L (fst L b + j)).reverse)
          have nxt : ∀ y, z i j = y → Ex mX1_count 108 [.ref 86, .ref q, xU, xU, xU, .int (nI (fst L a)), .int (nI (fst L b)), .int (nI (L ^ a)), .int (nI (L ^ b)), .int (nI (fst L a + i)), .int (nI (fst L b + (j + 1))), xU] [] (sh, xi (xi J1 86 4 (nI (sN i (fun i => sN (L ^ b) (z i)) + sN j (z i)) + nI y)) 86 5 (xi J1 86 4 (nI (sN i (fun i => sN (L ^ b) (z i)) + sN j (z i)) + nI y) 86 5 + nI (v i j)), R) 0 0 (xqV Q) := by
            intro y hy
            refine ih2 (j + 1) _ (by omega) ⟨(f.xi (by simp)).xi (by simp), ?_, ?_, ?_⟩
            · rw [xi_s (by decide), xi_s (by decide)]; exact j3
            · rw [xi_s (by decide), xi_e, nI_add, ← hy, Nat.add_assoc]; rfl
            · rw [xi_e, xi_s (by decide), j5, nI_add, Nat.add_assoc]; rfl
          refine ⟨fun y => ?_, fun y => ?_⟩
          · have := nxt 0 (if_neg (fun w => y (by rw [w]; rfl)))
            rw [xi_s (show (5 : Nat) ≠ 4 by decide), j5] at this
            exact this
          · have := nxt 1 (if_pos ((nI_eq (b := 0) (by omega) (by omega)).mp y))
            rw [xi_s (show (5 : Nat) ≠ 4 by decide), j5] at this
            exact this
      exact inner (L ^ b) 0 J (by omega) hJ
  refine outer (L ^ a) 0 _ (by omega) ⟨((Fr.rf.xi (by simp)).xi (by simp)).xi (by simp), ?_, ?_, ?_⟩
  · rw [xi_s (by decide), xi_s (by decide), xi_e]
  · rw [xi_s (by decide), xi_e]; rfl
  · rw [xi_e]; rfl
theorem k_shareB {L n z : Nat} {Q : Int32 → xHp → Prop} (hW : xLay sh R) (hL1 : 1 ≤ L) (hL3 : L ≤ 3) (hn : n ≤ 6) (hz : z ≤ L ^ n) (h3 : I 86 3 = nI (L ^ n)) (h4 : I 86 4 = nI z) (k : Q (FP.fdiv (FP.i2f (nI z)) (FP.i2f (nI (L ^ n)))).toInt32 (sh, I, R)) : CI mX1_shareBits [.ref 86] (sh, I, R) Q := by
  have hw := pow6 hL3 hn
  have hw0 : L ^ n ≠ 0 := Nat.pos_iff_ne_zero.mp (Nat.pow_pos hL1)
  refine eX1_shareBits (bX1_shareBits_0 hW ?_)
  rw [h3, h4]
  have hd := fdq_of (z := z) (w := L ^ n) (by omega) hw0 (by omega)
  refine ⟨fun y => absurd ((nI_leI (a := L ^ n) (b := 0) (by omega) (by omega)).mp y) (by omega), fun _ => ⟨(fdq_nan hd).1, k_fbits hW (shr2 hL1 hL3 hn hz) (bX1_shareBits_21 hW k)⟩⟩
theorem k_meanB {L n z : Nat} {Q : Int64 → xHp → Prop} (hW : xLay sh R) (hL1 : 1 ≤ L) (hL3 : L ≤ 3) (hn : n ≤ 6) (hz : z ≤ 69984) (h3 : I 86 3 = nI (L ^ n)) (h4 : I 86 5 = nI z) (k : Q (FP.ddiv (FP.i2d (nI z)) (FP.i2d (nI (L ^ n)))).toInt64 (sh, I, R)) : CJ mX1_meanBits [.ref 86] (sh, I, R) Q := by
  have hw := pow6 hL3 hn
  have hw0 : L ^ n ≠ 0 := Nat.pos_iff_ne_zero.mp (Nat.pow_pos hL1)
  refine eX1_meanBits (bX1_meanBits_0 hW ?_)
  rw [h3, h4]
  have hd := ddq_of (z := z) (w := L ^ n) (by omega) hw0 (by omega)
  refine ⟨fun y => absurd ((nI_leI (a := L ^ n) (b := 0) (by omega) (by omega)).mp y) (by omega), fun _ => ⟨(ddq_nan hd).1, k_dbits hW hd (bX1_meanBits_21 hW k)⟩⟩
theorem sF.cens {I I' : Nat → Nat → Int32} (h : Ou 86 169 I I') : sF I I' := ⟨fun c hc => h c (by omega), by rw [h 169 (by omega)]⟩
theorem zrN_pow {p L n : Nat} {A : Mac} : zrN p L A n ≤ L ^ n := by
  have := smS_le (L := L) (n := n) (b := 1) (g := fun l => if vN p A l = 0 then 1 else 0) (fun l => by split <;> omega)
  unfold zrN; omega
theorem le6 {v : Int32} : v ≤ nI 6 ↔ v.toInt ≤ 6 := by rw [Int32.le_iff_toInt_le, nI_toInt (by omega)]; rfl
theorem k_share {σ : St} [NeZero σ.p] {m v : Int32} {Q : Int32 → xHp → Prop} (hW : clR sh I R σ) (k : ∀ I' R', clR sh I' R' σ → cFr I I' → Q (shareA σ m v) (sh, I', R')) : CI mX9_share [.ref 0, .int m, .int v] (sh, I, R) Q := by
  unfold shareA at k
  have hL1 := hW.ok.L1
  have hL3 := hW.ok.L3
  have out : ¬ inB v 7 → Q (-1) (sh, I, R) := fun hn => by have := k I R hW cFr.rf; rw [if_neg hn] at this; exact this
  refine eX9_share (bX9_share_0 hW.lay (k_isMachine hW.lay (fun a ha hlt => bX9_share_4 hW.lay ⟨fun z => absurd z (by decide), fun _ => ⟨fun z => out (fun y => by have := lt0.mp z; have := y.1; omega), fun z => ⟨fun y => ?_, fun y => out (fun w => y (le6.mpr (by have := w.2; omega)))⟩⟩⟩) (fun hn => bX9_share_4 hW.lay ⟨fun _ => ?_, fun z => absurd rfl z⟩)))
  · have h0 : 0 ≤ v.toInt := by
      by_cases w : v.toInt < 0
      · exact absurd (lt0.mpr w) z
      · omega
    have h6 := le6.mp y
    have hv6 : nN v ≤ 6 := by unfold nN; omega
    rw [if_pos ⟨h0, by omega⟩] at k
    subst ha
    refine k_machineOf hW hlt (fun I1 R1 q hW1 hf hans hc h4 hok hq hqs => ⟨fun z => absurd z (by simp), fun b hb => ?_⟩) (fun hans => ⟨fun _ => bX9_share_24N hW.lay ?_, fun b hb => absurd hb (by simp)⟩)
    · cases hb
      refine bX9_share_24 hW1.lay hq ?_
      rw [← nI_N h0]
      refine k_count hW1.lay hW1.ctx hq (by omega) hc hok hv6 (fun I2 o2 e3 e4 e5 => bX9_share_41 hW1.lay ?_)
      have hW2 := hW1.scr (sF.cens o2) rG.rf hW1.ht
      refine k_shareB hW2.lay hL1 hL3 hv6 zrN_pow e3 e4 (bX9_share_48 hW2.lay ?_)
      have k2 := k I2 R1 hW2 (hf.tr (sF.cens o2).c)
      rw [hans] at k2; exact k2
    · have k2 := k I R hW cFr.rf
      rw [hans] at k2; exact k2
  · have k2 := k I R hW cFr.rf
    unfold ansM at k2
    rw [if_neg hn] at k2
    by_cases e : inB v 7
    · rw [if_pos e] at k2; exact k2
    · rw [if_neg e] at k2; exact k2
theorem k_mean {σ : St} [NeZero σ.p] {m v : Int32} {Q : Int64 → xHp → Prop} (hW : clR sh I R σ) (k : ∀ I' R', clR sh I' R' σ → cFr I I' → Q (meanA σ m v) (sh, I', R')) : CJ mX9_mean [.ref 0, .int m, .int v] (sh, I, R) Q := by
  unfold meanA at k
  have hL1 := hW.ok.L1
  have hL3 := hW.ok.L3
  have hp := PR_bd _ hW.ok.p
  have em1 : (-1 : Int32).toInt64 = (-1 : Int64) := by decide
  have em2 : (-2 : Int32).toInt64 = (-2 : Int64) := by decide
  have out : ¬ inB v 7 → Q (-1) (sh, I, R) := fun hn => by have := k I R hW cFr.rf; rw [if_neg hn, em1] at this; exact this
  refine eX9_mean (bX9_mean_0 hW.lay (k_isMachine hW.lay (fun a ha hlt => bX9_mean_4 hW.lay ⟨fun z => absurd z (by decide), fun _ => ⟨fun z => out (fun y => by have := lt0.mp z; have := y.1; omega), fun z => ⟨fun y => ?_, fun y => out (fun w => y (le6.mpr (by have := w.2; omega)))⟩⟩⟩) (fun hn => bX9_mean_4 hW.lay ⟨fun _ => ?_, fun z => absurd rfl z⟩)))
  · have h0 : 0 ≤ v.toInt := by
      by_cases w : v.toInt < 0
      · exact absurd (lt0.mpr w) z
      · omega
    have h6 := le6.mp y
    have hv6 : nN v ≤ 6 := by unfold nN; omega
    rw [if_pos ⟨h0, by omega⟩] at k
    subst ha
    refine k_machineOf hW hlt (fun I1 R1 q hW1 hf hans hc h4 hok hq hqs => ⟨fun z => absurd z (by simp), fun b hb => ?_⟩) (fun hans => ⟨fun _ => bX9_mean_26N hW.lay ?_, fun b hb => absurd hb (by simp)⟩)
    · cases hb
      refine bX9_mean_26 hW1.lay hq ?_
      rw [← nI_N h0]
      refine k_count hW1.lay hW1.ctx hq (by omega) hc hok hv6 (fun I2 o2 e3 e4 e5 => bX9_mean_44 hW1.lay ?_)
      have hW2 := hW1.scr (sF.cens o2) rG.rf hW1.ht
      refine k_meanB hW2.lay hL1 hL3 hv6 (vsN_le (by omega) hp.2 hL3 hv6) e3 e5 (bX9_mean_51 hW2.lay ?_)
      have k2 := k I2 R1 hW2 (hf.tr (sF.cens o2).c)
      rw [hans] at k2; exact k2
    · have k2 := k I R hW cFr.rf
      rw [hans] at k2; rw [← em2]; exact k2
  · have k2 := k I R hW cFr.rf
    unfold ansM at k2
    rw [if_neg hn] at k2
    by_cases e : inB v 7
    · rw [if_pos e] at k2; rw [← em1]; exact k2
    · rw [if_neg e] at k2; rw [← em1]; exact k2
end CSHA
