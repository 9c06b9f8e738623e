section CENS
variable {sh : List xSh} {I : Nat → Nat → Int32} {R : Nat → Nat → Option Nat}
theorem shr1 : ∀ w ∈ ([1, 2, 4, 8, 16, 32, 64, 3, 9, 27, 81, 243, 729] : List Nat), ∀ z : Nat, z < w + 1 → FP.Core.div FP.Core.b32 (FP.Core.fromInt FP.Core.b32 (z : Int)) (FP.Core.fromInt FP.Core.b32 (w : Int)) ≤ 1065353216 := by decide +kernel
theorem pwL : ∀ L, L < 4 → L ≠ 0 → ∀ n, n < 7 → L ^ n ∈ [1, 2, 4, 8, 16, 32, 64, 3, 9, 27, 81, 243, 729] := by decide +kernel
theorem shr2 {L n z : Nat} (hL1 : 1 ≤ L) (hL3 : L ≤ 3) (hn : n ≤ 6) (hz : z ≤ L ^ n) : FP.fdiv (FP.i2f (nI z)) (FP.i2f (nI (L ^ n))) = 0 ∨ ∃ c q, nrm FP.Core.b32 c q ∧ -33 ≤ q ∧ q ≤ -23 ∧ FP.fdiv (FP.i2f (nI z)) (FP.i2f (nI (L ^ n))) = e32 c q := by
  have h729 := pow6 hL3 hn
  have hw0 : L ^ n ≠ 0 := Nat.pos_iff_ne_zero.mp (Nat.pow_pos hL1)
  have h1 := shr1 (L ^ n) (pwL L (by omega) (by omega) n (by omega)) z (by omega)
  have e : FP.fdiv (FP.i2f (nI z)) (FP.i2f (nI (L ^ n))) = UInt32.ofNat (FP.Core.div FP.Core.b32 (FP.Core.fromInt FP.Core.b32 (z : Int)) (FP.Core.fromInt FP.Core.b32 ((L ^ n : Nat) : Int))) := by
    show UInt32.ofNat (FP.Core.div FP.Core.b32 (FP.i2f (nI z)).toNat (FP.i2f (nI (L ^ n))).toNat) = _
    rw [i2f_n (by omega), i2f_n (by omega)]
  rcases fdq_of (z := z) (w := L ^ n) (by omega) hw0 (by omega) with y | ⟨c, q, nn, q1, q2, y⟩
  · exact Or.inl y
  · right
    refine ⟨c, q, nn, q1, ?_, y⟩
    have e3 : nE FP.Core.b32 c q = FP.Core.div FP.Core.b32 (FP.Core.fromInt FP.Core.b32 (z : Int)) (FP.Core.fromInt FP.Core.b32 ((L ^ n : Nat) : Int)) := by
      have e4 : (UInt32.ofNat (nE FP.Core.b32 c q)).toNat = (UInt32.ofNat (FP.Core.div FP.Core.b32 (FP.Core.fromInt FP.Core.b32 (z : Int)) (FP.Core.fromInt FP.Core.b32 ((L ^ n : Nat) : Int)))).toNat := by rw [← y, e]
      rw [UInt32.toNat_ofNat_of_lt' (Nat.lt_trans (nE32 nn) (by decide)), UInt32.toNat_ofNat_of_lt' (Nat.lt_of_le_of_lt h1 (by decide))] at e4
      exact e4
    rw [← e3] at h1
    unfold nE at h1
    have := nn.1
    have e2 : FP.Core.b32.tails = 8388608 := by decide
    rw [q32.1, e2] at h1
    rw [e2] at this
    omega
/-! sums over words -/
theorem sN_add (a : Nat) (f : Nat → Nat) : ∀ b, sN (a + b) f = sN a f + sN b (fun j => f (a + j)) := by
  intro b
  induction b with
  | zero => rfl
  | succ b ih => show sN (a + b) f + f (a + b) = sN a f + (sN b (fun j => f (a + j)) + f (a + b)); rw [ih]; omega
theorem sN_mul (b : Nat) (f : Nat → Nat) : ∀ a, sN (a * b) f = sN a (fun i => sN b (fun j => f (i * b + j))) := by
  intro a
  induction a with
  | zero => rw [Nat.zero_mul]; rfl
  | succ a ih => rw [Nat.add_mul, Nat.one_mul, sN_add, ih]; rfl
theorem sN_plus (f g : Nat → Nat) : ∀ n, sN n (fun i => f i + g i) = sN n f + sN n g := by
  intro n
  induction n with
  | zero => rfl
  | succ n ih => show sN n (fun i => f i + g i) + (f n + g n) = sN n f + f n + (sN n g + g n); rw [ih]; omega
theorem sN_sw (f : Nat → Nat → Nat) (b : Nat) : ∀ a, sN a (fun i => sN b (fun j => f i j)) = sN b (fun j => sN a (fun i => f i j)) := by
  intro a
  induction a with
  | zero =>
    show 0 = sN b (fun _ => 0)
    induction b with
    | zero => rfl
    | succ b ih => show 0 = sN b (fun _ => 0) + 0; omega
  | succ a ih =>
    show sN a (fun i => sN b (fun j => f i j)) + sN b (fun j => f a j) = sN b (fun j => sN a (fun i => f i j) + f a j)
    rw [ih, sN_plus]
theorem smS_x {L : Nat} (n : Nat) (g : List Nat → Nat) : smS L (n + 1) g = smS L n (fun l => sN L (fun x => g (l ++ [x]))) := by
  unfold smS
  rw [Nat.pow_succ, sN_mul]
  refine sN_congr (fun i _ => sN_congr (fun x hx => ?_))
  rw [fst_x, show fst L n * L + 1 + (i * L + x) = (fst L n + i) * L + x + 1 by rw [Nat.add_mul]; omega, wl_x hx]
theorem smS_congr {L n : Nat} {g h : List Nat → Nat} (e : ∀ l, g l = h l) : smS L n g = smS L n h := sN_congr (fun _ _ => e _)
theorem smS_0 (L : Nat) (g : List Nat → Nat) : smS L 0 g = g [] := by
  show 0 + g (wl L (fst L 0 + 0)) = _
  rw [show fst L 0 + 0 = 0 from rfl, wl_0]; omega
theorem smS_sw {L n m : Nat} (f : Nat → List Nat → Nat) : smS L n (fun l => sN m (fun x => f x l)) = sN m (fun x => smS L n (fun l => f x l)) := sN_sw _ _ _
theorem smS_c {L : Nat} : ∀ (n : Nat) (g : List Nat → Nat), smS L (n + 1) g = sN L (fun x => smS L n (fun l => g (x :: l))) := by
  intro n
  induction n with
  | zero =>
    intro g
    rw [smS_x, smS_0]
    exact sN_congr (fun x _ => by rw [smS_0]; rfl)
  | succ n ih =>
    intro g
    rw [smS_x, ih]
    refine sN_congr (fun x _ => ?_)
    rw [smS_x]
    rfl
theorem smS_rev {L : Nat} : ∀ (n : Nat) (g : List Nat → Nat), smS L n (fun l => g l.reverse) = smS L n g := by
  intro n
  induction n with
  | zero => intro g; rw [smS_0, smS_0]; rfl
  | succ n ih =>
    intro g
    rw [smS_x, smS_c, ← smS_sw, ← ih (fun l => sN L (fun x => g (x :: l)))]
    refine smS_congr (fun l => sN_congr (fun x _ => ?_))
    rw [List.reverse_append]; rfl
theorem smS_app {L a : Nat} : ∀ (b : Nat) (g : List Nat → Nat), smS L (a + b) g = smS L a (fun l => smS L b (fun m => g (l ++ m))) := by
  intro b
  induction b with
  | zero =>
    intro g
    refine smS_congr (fun l => ?_)
    rw [smS_0, List.append_nil]
  | succ b ih =>
    intro g
    rw [show a + (b + 1) = a + b + 1 by omega, smS_x, ih]
    refine smS_congr (fun l => ?_)
    rw [smS_x]
    refine smS_congr (fun m => sN_congr (fun x _ => ?_))
    rw [List.append_assoc]
theorem smS_two {L a b : Nat} (g : List Nat → Nat) : smS L (a + b) g = smS L a (fun l => smS L b (fun m => g (l ++ m.reverse))) := by
  rw [smS_app]
  refine smS_congr (fun l => ?_)
  exact (smS_rev b (fun m => g (l ++ m))).symm
theorem vN_cat {p : Nat} [NeZero p] {A : Mac} (l m : List Nat) : sN A.1 (fun s => fN p A l s * bN p A m s) % p = vN p A (l ++ m) := by
  have hp : 0 < p := Nat.pos_of_ne_zero (NeZero.ne p)
  refine fo_inj (Nat.mod_lt _ hp) (Nat.mod_lt _ hp) ?_
  show fo p (sN A.1 (fun s => fN p A l s * bN p A m s) % p) = fo p (vN p A (l ++ m))
  have h2 := vlu_cat A.1 (fS p A) (fE p A) (fW p A) m l
  rw [fo_mod, fo_sum, fo_vN, h2]
  exact sm_congr (fun s _ => by rw [fo_mul, fo_bN, fo_fN])
/-! the walks -/
theorem wl_s {L i : Nat} (h : i ≠ 0) : wl L i = wl L ((i - 1) / L) ++ [(i - 1) % L] := by rw [wl, if_neg h]
theorem k_heads {p L q N : Nat} {A : Mac} {Q : xHp → Prop} (hW : xLay sh R) (hc : cCtx I p L) (hq : xMach sh R q 4) (hqb : q + 3 < 86 ∨ 169 ≤ q) (hA : cM I L q 4 A) (hok : okM p L A) (hN : N ≤ 40) (hN1 : 1 ≤ N)
    (k : ∀ I', Ou 88 128 I I' → (∀ i, i < N → vR I' p (88 + i) A.1 (fN p A (wl L i))) → Q (sh, I', R)) : CV mX1_walkHeads [.ref 86, .ref q, .int (nI N)] (sh, I, R) Q := by
  obtain ⟨hP, hL, hpr, hL1, hL3⟩ := id hc
  have h4 := hA.1
  have hR : xRows sh R 87 40 4 := hW.2.2.2.2.2.2.2.2.2.2.2.2.1
  have loop : ∀ j i (I1 : Nat → Nat → Int32), i + j = N → 1 ≤ i → Ou 88 128 I I1 → (∀ i', i' < i → vR I1 p (88 + i') A.1 (fN p A (wl L i'))) → Ex mX1_walkHeads 21 [.ref 86, .ref q, .int (nI N), .int (nI i)] [] (sh, I1, R) 0 0 (xqV Q) := by
    intro j
    induction j with
    | zero =>
      intro i I1 hi h1 ho hv
      obtain rfl : i = N := by omega
      exact bX1_walkHeads_21 hW hq ⟨fun _ => k I1 ho hv, fun z => absurd (nI_le (Nat.le_refl _) (by omega)) z⟩
    | succ j ih =>
      intro i I1 hi h1 ho hv
      have hc1 : cCtx I1 p L := hc.eq (ho 1 (by omega))
      have hA1 : cM I1 L q 4 A := hA.eq (ho _ (by omega)) (ho _ (by omega)) (ho _ (by omega)) (ho _ (by omega))
      have hu : (i - 1) / L < i := Nat.lt_of_le_of_lt (Nat.div_le_self _ _) (by omega)
      refine bX1_walkHeads_21 hW hq ⟨fun z => absurd z (nI_ge (by omega) (by omega)), fun _ => k_withoutLast hW hc1 (by omega) (bX1_walkHeads_39 hW hq hq ⟨vp_nI (by omega) (by omega), k_lastLetter hW hc1 (by omega) ?_⟩)⟩
      rw [nclamp (a := (i - 1) / L) (by omega)]
      refine bX1_walkHeads_48 hW hq (hR.2 ((i - 1) / L) (by omega)).2 hq ⟨vp_nI (by omega) (by omega), ?_⟩
      rw [nclamp (a := i) (by omega)]
      refine k_forward hW hc1 hq (by omega) hA1 hok (hR.2 ((i - 1) / L) (by omega)).2 (hR.2 i (by omega)).2 (by omega) (by omega) (by omega) (by omega) (by omega) (by omega) (by omega) (Nat.mod_lt _ (by omega)) (hv _ hu) (fun I2 f2 hv2 => bX1_walkHeads_57 hW hq ?_)
      rw [show nI i + nI 1 = nI (i + 1) from nI_add i 1]
      refine ih (i + 1) I2 (by omega) (by omega) (ho.tr (Ou.of f2 (by simp <;> omega))) (fun i' hi' => ?_)
      by_cases e : i' = i
      · subst e
        rw [wl_s (by omega), fN_x]
        exact hv2
      · exact (hv i' (by omega)).fr f2 (by simp <;> omega)
  refine eX1_walkHeads (bX1_walkHeads_0 hW hq ⟨vp_nI (by omega) (by omega), ?_⟩)
  rw [hA.2.2.1, nclamp (a := 0) (by omega), nclamp (a := A.1) (by omega)]
  refine ⟨⟨⟨by decide, by decide, nI_neg0 (by omega)⟩, by omega, by omega⟩, ?_⟩
  refine loop (N - 1) 1 _ (by omega) (by omega) (Ou.of (Fr.rf.xa (S := [87 + 1 + 0]) (by simp)) (by simp)) (fun i hi s hs => ?_)
  obtain rfl : i = 0 := by omega
  rw [show 88 + 0 = 87 + 1 + 0 by omega, xa_e, cpy0 hs, hA.S hs, wl_0]
  exact ⟨rfl, hok.1 s hs⟩
theorem k_tails {p L q N : Nat} {A : Mac} {Q : xHp → Prop} (hW : xLay sh R) (hc : cCtx I p L) (hq : xMach sh R q 4) (hqb : q + 3 < 86 ∨ 169 ≤ q) (hA : cM I L q 4 A) (hok : okM p L A) (hN : N ≤ 40) (hN1 : 1 ≤ N)
    (k : ∀ I', Ou 129 169 I I' → (∀ i, i < N → vR I' p (129 + i) A.1 (bN p A (wl L i).reverse)) → Q (sh, I', R)) : CV mX1_walkTails [.ref 86, .ref q, .int (nI N)] (sh, I, R) Q := by
  obtain ⟨hP, hL, hpr, hL1, hL3⟩ := id hc
  have h4 := hA.1
  have hR : xRows sh R 128 40 4 := hW.2.2.2.2.2.2.2.2.2.2.2.2.2
  have loop : ∀ j i (I1 : Nat → Nat → Int32), i + j = N → 1 ≤ i → Ou 129 169 I I1 → (∀ i', i' < i → vR I1 p (129 + i') A.1 (bN p A (wl L i').reverse)) → Ex mX1_walkTails 21 [.ref 86, .ref q, .int (nI N), .int (nI i)] [] (sh, I1, R) 0 0 (xqV Q) := by
    intro j
    induction j with
    | zero =>
      intro i I1 hi h1 ho hv
      obtain rfl : i = N := by omega
      exact bX1_walkTails_21 hW hq ⟨fun _ => k I1 ho hv, fun z => absurd (nI_le (Nat.le_refl _) (by omega)) z⟩
    | succ j ih =>
      intro i I1 hi h1 ho hv
      have hc1 : cCtx I1 p L := hc.eq (ho 1 (by omega))
      have hA1 : cM I1 L q 4 A := hA.eq (ho _ (by omega)) (ho _ (by omega)) (ho _ (by omega)) (ho _ (by omega))
      have hu : (i - 1) / L < i := Nat.lt_of_le_of_lt (Nat.div_le_self _ _) (by omega)
      refine bX1_walkTails_21 hW hq ⟨fun z => absurd z (nI_ge (by omega) (by omega)), fun _ => k_withoutLast hW hc1 (by omega) (bX1_walkTails_39 hW hq hq ⟨vp_nI (by omega) (by omega), k_lastLetter hW hc1 (by omega) ?_⟩)⟩
      rw [nclamp (a := (i - 1) / L) (by omega)]
      refine bX1_walkTails_48 hW hq (hR.2 ((i - 1) / L) (by omega)).2 hq ⟨vp_nI (by omega) (by omega), ?_⟩
      rw [nclamp (a := i) (by omega)]
      refine k_backward hW hc1 hq (by omega) hA1 hok (hR.2 ((i - 1) / L) (by omega)).2 (hR.2 i (by omega)).2 (by omega) (by omega) (by omega) (by omega) (by omega) (by omega) (by omega) (Nat.mod_lt _ (by omega)) (hv _ hu) (fun I2 f2 hv2 => bX1_walkTails_57 hW hq ?_)
      rw [show nI i + nI 1 = nI (i + 1) from nI_add i 1]
      refine ih (i + 1) I2 (by omega) (by omega) (ho.tr (Ou.of f2 (by simp <;> omega))) (fun i' hi' => ?_)
      by_cases e : i' = i
      · subst e
        rw [wl_s (by omega), List.reverse_append]
        exact hv2
      · exact (hv i' (by omega)).fr f2 (by simp <;> omega)
  refine eX1_walkTails (bX1_walkTails_0 hW hq ⟨vp_nI (by omega) (by omega), ?_⟩)
  rw [hA.2.2.1, nclamp (a := 0) (by omega), nclamp (a := A.1) (by omega)]
  refine ⟨⟨⟨by decide, by decide, nI_neg0 (by omega)⟩, by omega, by omega⟩, ?_⟩
  refine loop (N - 1) 1 _ (by omega) (by omega) (Ou.of (Fr.rf.xa (S := [128 + 1 + 0]) (by simp)) (by simp)) (fun i hi s hs => ?_)
  obtain rfl : i = 0 := by omega
  rw [show 129 + 0 = 128 + 1 + 0 by omega, xa_e, cpy0 hs, hA.E hs, wl_0]
  exact ⟨rfl, hok.2.1 s hs⟩
end CENS
