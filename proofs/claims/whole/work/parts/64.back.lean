section MODS3
/-- what goes on from each state by a word -/
def bN (p : Nat) (A : Mac) (l : List Nat) : Nat → Nat := l.foldr (fun x v s => sN A.1 (fun t => A.2.2.2 s x t * v t) % p) A.2.2.1
theorem bN_lt {p L : Nat} {A : Mac} (hp : 0 < p) (hok : okM p L A) (l : List Nat) : ∀ s, s < A.1 → bN p A l s < p := by
  intro s hs
  cases l with
  | nil => exact hok.2.1 s hs
  | cons x l => exact Nat.mod_lt _ hp
theorem fo_bN {p : Nat} [NeZero p] (A : Mac) (l : List Nat) : ∀ s, fo p (bN p A l s) = bvl A.1 (fE p A) (fW p A) l s := by
  induction l with
  | nil => intro s; rfl
  | cons x l ih =>
    intro s
    show fo p (sN A.1 (fun t => A.2.2.2 s x t * bN p A l t) % p) = _
    rw [fo_mod, fo_sum, bvl_x]
    exact sm_congr (fun t _ => by rw [fo_mul, ih t]; rfl)
variable {sh : List xSh} {I : Nat → Nat → Int32} {R : Nat → Nat → Option Nat}
theorem w_comesBack {p L m w : Nat} {A : Mac} {Q : xHp → Prop} (hW : xLay sh R) (hc : mCtx I p L) (hm : m < 33) (hA : mRep I L m A) (hok : okM p L A) (hw : wlen L w ≤ 12)
    (k : ∀ I', Fr [211, 212] I I' → (∀ s, s < A.1 → I' 211 s = nI (bN p A (wl L w) s)) → Q (sh, I', R)) : CV mX10_comesBack [.ref 209, .int (nI m), .int (nI w)] (sh, I, R) Q := by
  obtain ⟨hP, hL, hpr, hL1, hL3⟩ := id hc
  obtain ⟨hp2, hp97⟩ := PR_bd p hpr
  obtain ⟨hn4, hAn, hAs, hAe, hAw⟩ := id hA
  have hwb := wlen_fst hL1 w
  have hwb2 : w < 2 ^ 31 := Nat.lt_of_lt_of_le hwb.2 (Nat.le_trans (fst_bd hL3 _ (by omega)) (by omega))
  have hlen := wl_len hL1 w
  have loop2 : ∀ j i (I1 : Nat → Nat → Int32), i + j = wlen L w → Fr [211, 212] I I1 → (∀ s, s < A.1 → I1 211 s = nI (bN p A ((wl L w).drop (wlen L w - i)) s)) → Ex mX10_comesBack 54 [.ref 209, .int (nI m), xU, .int (nI (wlen L w)), .int (nI ((w - fst L (wlen L w)) / L ^ i)), .int (nI i)] [] (sh, I1, R) 0 0 (xqV Q) := by
    intro j
    induction j with
    | zero =>
      intro i I1 hi hf h1
      obtain rfl : i = wlen L w := by omega
      refine bX10_comesBack_54 hW ⟨fun _ => k I1 hf (fun s hs => ?_), fun c => absurd (nI_le (Nat.le_refl _) (by omega)) c⟩
      rw [h1 s hs, Nat.sub_self, List.drop_zero]
    | succ j ih =>
      intro i I1 hi hf h1
      have hc1 := hc.fr hf (by decide)
      have hd := wl_dig hL1 w (i + 1) (by omega) (by omega)
      rw [Nat.add_sub_cancel] at hd
      have hdb : (w - fst L (wlen L w)) / L ^ i < 2 ^ 31 := Nat.lt_of_le_of_lt (Nat.div_le_self _ _) (by omega)
      refine bX10_comesBack_54 hW ⟨fun c => absurd c (nI_ge (by omega) (by omega)), fun _ => ?_⟩
      rw [hc1.2.1, xrem_nI hdb hL1 (by omega)]
      refine ⟨nI_ne0 hL1 (by omega), ?_⟩
      refine w_stepsBack (v := bN p A ((wl L w).drop (wlen L w - i))) hW hc1 hm (Nat.mod_lt _ hL1) (hA.fr hf (by decide)) hok (fun s hs => ⟨h1 s hs, bN_lt (by omega) hok _ s hs⟩) (fun I2 hf2 h2 => bX10_comesBack_72 hW ?_)
      have hc2 := hc1.fr hf2 (by decide)
      rw [hc2.2.1, pk_div hdb hL1 (by omega), nI_add]
      refine ⟨nI_ne0 hL1 (by omega), ?_⟩
      have := ih (i + 1) I2 (by omega) (hf.tr hf2) (fun s hs => ?_)
      · rw [Nat.pow_succ, ← Nat.div_div_eq_div_mul] at this
        exact this
      · rw [h2 s hs, ← hd]
        have e : (wl L w).drop (wlen L w - (i + 1)) = (wl L w).getD (wlen L w - (i + 1)) 0 :: (wl L w).drop (wlen L w - i) := by
          rw [gd_el (by omega), List.drop_eq_getElem_cons (by omega)]
          congr 2
          omega
        rw [e]; rfl
  have loop1 : ∀ j s (I1 : Nat → Nat → Int32), s + j = A.1 → Fr [211, 212] I I1 → (∀ a, a < s → I1 211 a = nI (A.2.2.1 a)) → Ex mX10_comesBack 2 [.ref 209, .int (nI m), .int (nI w), .int (nI s), xU, xU] [] (sh, I1, R) 0 0 (xqV Q) := by
    intro j
    induction j with
    | zero =>
      intro s I1 hs hf h1
      have hA1 := hA.fr hf (by decide)
      have hc1 := hc.fr hf (by decide)
      refine bX10_comesBack_2 hW (w_many hW hm ?_)
      rw [hA1.2.1]
      refine bX10_comesBack_8 hW ⟨fun _ => ?_, fun c => absurd (nI_le (by omega) (by omega)) c⟩
      refine w_lengthOf hW hc1 hw (bX10_comesBack_41 hW (w_firstOf hW hc1.2.1 (by omega) (bX10_comesBack_48 hW ?_)))
      rw [pk_sub hwb.1]
      have := loop2 (wlen L w) 0 I1 (by omega) hf (fun a ha => ?_)
      · rw [Nat.pow_zero, Nat.div_one] at this; exact this
      · rw [h1 a (by omega), Nat.sub_zero, ← hlen, List.drop_length]; rfl
    | succ j ih =>
      intro s I1 hs hf h1
      have hA1 := hA.fr hf (by decide)
      refine bX10_comesBack_2 hW (w_many hW hm ?_)
      rw [hA1.2.1]
      refine bX10_comesBack_8 hW ⟨fun c => absurd c (nI_ge (by omega) (by omega)), fun _ => ?_⟩
      rw [nI_add]
      refine w_at hW (bX10_comesBack_28 hW ⟨vp_nI (by omega) (by omega), vp_nI (by omega) (by omega), ?_⟩)
      rw [nclamp (by omega), nclamp (by omega), hA1.2.2.2.1 s (by omega), nI_add]
      refine ih (s + 1) _ (by omega) (hf.xi (by simp)) (fun a ha => ?_)
      by_cases e : a = s
      · subst e; rw [xi_e]
      · rw [xi_s e]; exact h1 a (by omega)
  exact eX10_comesBack (bX10_comesBack_0 hW (loop1 A.1 0 I (by omega) Fr.rf (fun a ha => by omega)))
end MODS3
