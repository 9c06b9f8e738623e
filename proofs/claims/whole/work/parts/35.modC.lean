section MODC
variable {sh : List xSh} {I : Nat → Nat → Int32} {R : Nat → Nat → Option Nat}
theorem wl_dig {L : Nat} (hL : 0 < L) : ∀ (w j : Nat), 1 ≤ j → j ≤ wlen L w → (wl L w).getD (wlen L w - j) 0 = (w - fst L (wlen L w)) / L ^ (j - 1) % L := by
  intro w
  induction w using Nat.strongRecOn with
  | ind w ih =>
    intro j h1 h2
    rcases Nat.eq_zero_or_pos w with rfl | hw
    · rw [wlen_0] at h2; omega
    · obtain ⟨u, x, hx, rfl⟩ := w_split hL (by omega : w ≠ 0)
      have hfu := (wlen_fst hL u).1
      have hlu := wl_len hL u
      rw [wlen_x hx] at h2 ⊢
      rw [wl_x hx, fst_x]
      have e1 : u * L + x + 1 - (fst L (wlen L u) * L + 1) = (u - fst L (wlen L u)) * L + x := by
        have := Nat.mul_le_mul_right L hfu
        rw [Nat.sub_mul]
        omega
      rw [e1]
      by_cases hj : j = 1
      · subst hj
        simp only [Nat.sub_self, Nat.pow_zero, Nat.div_one]
        rw [Nat.mul_comm, Nat.mul_add_mod, Nat.mod_eq_of_lt hx, show wlen L u + 1 - 1 = (wl L u).length by omega, gd_last]
      · obtain ⟨i, rfl⟩ : ∃ i, j = i + 1 := ⟨j - 1, by omega⟩
        rw [gd_app (by omega), show wlen L u + 1 - (i + 1) = wlen L u - i by omega, ih u (wx_gt hL) i (by omega) (by omega)]
        congr 1
        rw [show i + 1 - 1 = (i - 1) + 1 by omega, Nat.pow_succ, Nat.mul_comm (L ^ (i - 1)) L, ← Nat.div_div_eq_div_mul]
        congr 1
        rw [Nat.mul_comm (u - fst L (wlen L u)) L, Nat.mul_add_div hL, Nat.div_eq_of_lt hx]
        rfl
theorem take_x {l : List Nat} {i : Nat} (h : i < l.length) : l.take (i + 1) = l.take i ++ [l.getD i 0] := by
  rw [gd_el h, List.take_add_one, List.getElem?_eq_getElem h]
  rfl
theorem w_goes {p L m w : Nat} {A : Mac} {Q : xHp → Prop} (hW : xLay sh R) (hc : mCtx I p L) (hm : m < 33) (hA : mRep I L m A) (hok : okM p L A) (hw : wlen L w ≤ 12)
    (k : ∀ I', Fr [211, 212] I I' → (∀ s, s < A.1 → I' 211 s = nI (fN p A (wl L w) s)) → Q (sh, I', R)) : CV mX10_goes [.ref 209, .int (nI m), .int (nI w)] (sh, I, R) Q := by
  obtain ⟨hP, hL, hpr, hL1, hL3⟩ := id hc
  obtain ⟨hp2, hp97⟩ := PR_bd p hpr
  obtain ⟨hn4, hAn, hAs, hAe, hAw⟩ := id hA
  have hwf := wlen_fst hL1 w
  have hwb : w < 2 ^ 31 := Nat.lt_of_lt_of_le hwf.2 (Nat.le_trans (fst_bd hL3 _ (by omega)) (by omega))
  have hll := wl_len hL1 w
  -- the letters
  have loop2 : ∀ j (I1 : Nat → Nat → Int32), j ≤ wlen L w → Fr [211, 212] I I1 → (∀ s, s < A.1 → I1 211 s = nI (fN p A ((wl L w).take (wlen L w - j)) s)) → Ex mX10_goes 56 [.ref 209, .int (nI m), xU, xU, .int (nI ((w - fst L (wlen L w)) % L ^ j)), .int (nI j - nI 1), xU] [] (sh, I1, R) 0 0 (xqV Q) := by
    intro j
    induction j with
    | zero =>
      intro I1 _ hf h1
      refine bX10_goes_56 hW ⟨fun _ => k I1 hf (fun s hs => ?_), fun c => absurd (by decide) c⟩
      rw [h1 s hs, Nat.sub_zero, ← hll, List.take_length]
    | succ j ih =>
      intro I1 hj hf h1
      have hc1 := hc.fr hf (by decide)
      have hpw : L ^ j < 2 ^ 31 := Nat.lt_of_le_of_lt (pow_bd hL3 (by omega)) (by omega)
      have hpp : 0 < L ^ j := Nat.pow_pos hL1
      have hmb : (w - fst L (wlen L w)) % L ^ (j + 1) ≤ w - fst L (wlen L w) := Nat.mod_le _ _
      rw [pk_sub (by omega), Nat.add_sub_cancel]
      refine bX10_goes_56 hW ⟨fun c => absurd c (nI_pos (by omega)), fun _ => ?_⟩
      refine w_power hW hc1.2.1 (by omega) (bX10_goes_67 hW ⟨nI_ne0 hpp hpw, ?_⟩)
      rw [pk_div (by omega) hpp hpw]
      have hdig := wl_dig hL1 w (j + 1) (by omega) hj
      rw [Nat.add_sub_cancel] at hdig
      have e1 : (w - fst L (wlen L w)) % L ^ (j + 1) / L ^ j = (wl L w).getD (wlen L w - (j + 1)) 0 := by
        rw [hdig, Nat.pow_succ, Nat.mod_mul_right_div_self]
      rw [e1]
      have hlt : (wl L w).getD (wlen L w - (j + 1)) 0 < L := by rw [hdig]; exact Nat.mod_lt _ hL1
      refine w_steps hW hc1 hm hlt (hA.fr hf (by decide)) hok (fun s hs => ⟨h1 s hs, fN_lt (by omega) hok _ s hs⟩) (fun I2 hf2 h2 => ?_)
      refine bX10_goes_79 hW ⟨nI_ne0 hpp hpw, ?_⟩
      have e2 : xrem (nI ((w - fst L (wlen L w)) % L ^ (j + 1))) (nI (L ^ j)) = nI ((w - fst L (wlen L w)) % L ^ j) := by
        rw [xrem_nI (by omega) hpp hpw, Nat.pow_succ, Nat.mod_mul_right_mod]
      have e3 : nI j + (-1) = nI j - nI 1 := by
        show nI j + (-(1 : Int32)) = nI j - 1
        rw [Int32.sub_eq_add_neg]
      rw [e2, e3]
      refine ih I2 (by omega) (hf.tr hf2) (fun s hs => ?_)
      rw [h2 s hs, show wlen L w - j = wlen L w - (j + 1) + 1 by omega, take_x (by omega), fN_x]
  -- the starts
  have loop1 : ∀ j s (I1 : Nat → Nat → Int32), s + j = A.1 → Fr [211, 212] I I1 → (∀ t, t < s → I1 211 t = nI (A.2.1 t)) → Ex mX10_goes 2 [.ref 209, .int (nI m), .int (nI w), .int (nI s), xU, xU, xU] [] (sh, I1, R) 0 0 (xqV Q) := by
    intro j
    induction j with
    | zero =>
      intro s I1 hs hf h1
      obtain rfl : s = A.1 := by omega
      have hc1 := hc.fr hf (by decide)
      refine bX10_goes_2 hW (w_many hW hm ?_)
      rw [(hA.fr hf (by decide)).2.1]
      refine bX10_goes_8 hW ⟨fun _ => ?_, fun c => absurd (nI_le (Nat.le_refl _) (by omega)) c⟩
      refine w_lengthOf hW hc1 hw (bX10_goes_41 hW ?_)
      refine w_firstOf hW hc1.2.1 (by omega) (bX10_goes_48 hW ?_)
      rw [pk_sub hwf.1]
      have hmod : (w - fst L (wlen L w)) % L ^ wlen L w = w - fst L (wlen L w) := by
        apply Nat.mod_eq_of_lt
        have : fst L (wlen L w + 1) = fst L (wlen L w) + L ^ wlen L w := rfl
        omega
      rw [← hmod]
      refine loop2 (wlen L w) I1 (Nat.le_refl _) hf (fun s hs => ?_)
      rw [Nat.sub_self, List.take_zero, h1 s hs]
      rfl
    | succ j ih =>
      intro s I1 hs hf h1
      have hA1 := hA.fr hf (by decide)
      refine bX10_goes_2 hW (w_many hW hm ?_)
      rw [hA1.2.1]
      refine bX10_goes_8 hW ⟨fun c => absurd c (nI_ge (by omega) (by omega)), fun _ => ?_⟩
      rw [nI_add]
      refine w_at hW (bX10_goes_28 hW ⟨vp_nI (by omega) (by omega), vp_nI (by omega) (by omega), ?_⟩)
      rw [nclamp (by omega), nclamp (by omega), nI_add, hA1.2.2.1 s (by omega)]
      refine ih (s + 1) _ (by omega) (hf.xi (by simp)) (fun t ht => ?_)
      by_cases e : t = s
      · subst e; rw [xi_e]
      · rw [xi_s e]; exact h1 t (by omega)
  exact eX10_goes (bX10_goes_0 hW (loop1 A.1 0 I (by omega) Fr.rf (fun t ht => by omega)))
theorem w_ended {p L m : Nat} {A : Mac} {v : Nat → Nat} {Q : Int32 → xHp → Prop} (hW : xLay sh R) (hc : mCtx I p L) (hm : m < 33) (hA : mRep I L m A) (hok : okM p L A) (hv : ∀ s, s < A.1 → I 211 s = nI (v s) ∧ v s < p)
    (k : Q (nI (sN A.1 (fun s => v s * A.2.2.1 s) % p)) (sh, I, R)) : CI mX10_ended [.ref 209, .int (nI m)] (sh, I, R) Q := by
  obtain ⟨hP, hL, hpr, hL1, hL3⟩ := id hc
  obtain ⟨hp2, hp97⟩ := PR_bd p hpr
  obtain ⟨hn4, hAn, hAs, hAe, hAw⟩ := id hA
  have hbd : ∀ n, n ≤ A.1 → sN n (fun s => v s * A.2.2.1 s) ≤ 36864 := fun n hn => Nat.le_trans (sN_le (b := 9216) (fun s hs => mul_bd hp97 (hv s (by omega)).2 (hok.2.1 s (by omega)))) (by omega)
  have loop : ∀ j s, s + j = A.1 → Ex mX10_ended 4 [.ref 209, .int (nI m), .int (nI (sN s (fun s => v s * A.2.2.1 s))), .int (nI s)] [] (sh, I, R) 0 0 (xqI Q) := by
    intro j
    induction j with
    | zero =>
      intro s hs
      obtain rfl : s = A.1 := by omega
      refine bX10_ended_4 hW (w_many hW hm ?_)
      rw [hAn]
      refine bX10_ended_10 hW ⟨fun _ => ?_, fun c => absurd (nI_le (Nat.le_refl _) (by omega)) c⟩
      have := hbd A.1 (Nat.le_refl _)
      rw [hP, xrem_nI (by omega) (by omega) (by omega)]
      exact ⟨nI_ne0 (by omega) (by omega), k⟩
    | succ j ih =>
      intro s hs
      refine bX10_ended_4 hW (w_many hW hm ?_)
      rw [hAn]
      refine bX10_ended_10 hW ⟨fun c => absurd c (nI_ge (by omega) (by omega)), fun _ => ⟨vp_nI (by omega) (by omega), ?_⟩⟩
      rw [nI_add]
      refine w_at hW (bX10_ended_32 hW ⟨vp_nI (by omega) (by omega), ?_⟩)
      rw [nclamp (by omega), nclamp (by omega), nI_add, hAe s (by omega), (hv s (by omega)).1, pk_mul, nI_add]
      exact ih (s + 1) (by omega)
  exact eX10_ended (bX10_ended_0 hW (loop A.1 0 (by omega)))
theorem w_valueOf {p L m w : Nat} {A : Mac} {Q : Int32 → xHp → Prop} (hW : xLay sh R) (hc : mCtx I p L) (hm : m < 33) (hA : mRep I L m A) (hok : okM p L A) (hw : wlen L w ≤ 12)
    (k : ∀ I', Fr [211, 212] I I' → Q (nI (vN p A (wl L w))) (sh, I', R)) : CI mX10_valueOf [.ref 209, .int (nI m), .int (nI w)] (sh, I, R) Q := by
  obtain ⟨hp2, hp97⟩ := PR_bd p hc.2.2.1
  refine eX10_valueOf (bX10_valueOf_0 hW (w_goes hW hc hm hA hok hw (fun I1 hf h1 => ?_)))
  refine bX10_valueOf_6 hW (w_ended hW (hc.fr hf (by decide)) hm (hA.fr hf (by decide)) hok (fun s hs => ⟨h1 s hs, fN_lt (by omega) hok _ s hs⟩) (bX10_valueOf_11 hW ?_))
  exact k I1 hf
/-- the first word by which two machines of the page differ, of seven letters at most -/
theorem w_unlike {p L m1 m2 : Nat} {A B : Mac} {Q : Int32 → xHp → Prop} (hW : xLay sh R) (hc : mCtx I p L) (hm1 : m1 < 33) (hm2 : m2 < 33) (hA : mRep I L m1 A) (hB : mRep I L m2 B) (hoA : okM p L A) (hoB : okM p L B)
    (k1 : ∀ I' w, Fr [211, 212] I I' → w < fst L 8 → vN p A (wl L w) ≠ vN p B (wl L w) → (∀ u, u < w → vN p A (wl L u) = vN p B (wl L u)) → Q (nI w) (sh, I', R))
    (k2 : ∀ I', Fr [211, 212] I I' → (∀ u, u < fst L 8 → vN p A (wl L u) = vN p B (wl L u)) → Q (-4) (sh, I', R)) : CI mX10_unlike [.ref 209, .int (nI m1), .int (nI m2)] (sh, I, R) Q := by
  obtain ⟨hP, hL, hpr, hL1, hL3⟩ := id hc
  obtain ⟨hp2, hp97⟩ := PR_bd p hpr
  have hf8 : fst L 8 < 2 ^ 31 := Nat.lt_of_le_of_lt (fst_bd hL3 8 (by omega)) (by omega)
  have loop : ∀ j w (I1 : Nat → Nat → Int32), w + j = fst L 8 → Fr [211, 212] I I1 → (∀ u, u < w → vN p A (wl L u) = vN p B (wl L u)) → Ex mX10_unlike 2 [.ref 209, .int (nI m1), .int (nI m2), .int (nI w)] [] (sh, I1, R) 0 0 (xqI Q) := by
    intro j
    induction j with
    | zero =>
      intro w I1 hw hf h1
      refine bX10_unlike_2 hW (w_firstOf hW (hc.fr hf (by decide)).2.1 (by omega) (bX10_unlike_9 hW ⟨fun _ => ?_, fun c => absurd (nI_le (by omega) (by omega)) c⟩))
      exact k2 I1 hf (fun u hu => h1 u (by omega))
    | succ j ih =>
      intro w I1 hw hf h1
      have hwl : wlen L w ≤ 12 := by have := (wlen_lt_iff hL1 w 8).mpr (by omega); omega
      have hc1 := hc.fr hf (by decide)
      refine bX10_unlike_2 hW (w_firstOf hW hc1.2.1 (by omega) (bX10_unlike_9 hW ⟨fun c => absurd c (nI_ge (by omega) (by omega)), fun _ => ?_⟩))
      refine w_valueOf hW hc1 hm1 (hA.fr hf (by decide)) hoA hwl (fun I2 hf2 => bX10_unlike_18 hW ?_)
      refine w_valueOf hW (hc1.fr hf2 (by decide)) hm2 ((hB.fr hf (by decide)).fr hf2 (by decide)) hoB hwl (fun I3 hf3 => bX10_unlike_24 hW ⟨fun e => ?_, fun e => ?_⟩)
      · rw [nI_add]
        have hv1 := vN_lt (p := p) (A := A) (by omega) (wl L w)
        have hv2 := vN_lt (p := p) (A := B) (by omega) (wl L w)
        have e' := (nI_eq (by omega) (by omega)).mp e
        refine ih (w + 1) I3 (by omega) ((hf.tr hf2).tr hf3) (fun u hu => ?_)
        by_cases hu2 : u = w
        · subst hu2; exact e'
        · exact h1 u (by omega)
      · exact k1 I3 w ((hf.tr hf2).tr hf3) (by omega) (fun z => e (by rw [z])) h1
  exact eX10_unlike (bX10_unlike_0 hW (loop (fst L 8) 0 I (by omega) Fr.rf (fun u hu => by omega)))
end MODC
