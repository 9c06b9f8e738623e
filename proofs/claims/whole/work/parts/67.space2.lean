section SPACE2
variable {sh : List xSh} {I : Nat → Nat → Int32} {R : Nat → Nat → Option Nat}
/-- what goes on from the states by a word -/
def BV (p : Nat) [NeZero p] (L : Nat) (D : Mac) (w i : Nat) : Fin p := bvl D.1 (fE p D) (fW p D) (wl L w) i
theorem w_dimension {p L m : Nat} [NeZero p] {A : Mac} {b : Bool} {row : Nat → Nat → Fin p} {Q : Int32 → xHp → Prop} (hW : xLay sh R) (hc : mCtx I p L) (hm : m < 33) (hA : mRep I L m A) (hok : okM p L A) (hrow : row = if b = true then FV p L A else BV p L A)
    (k : ∀ I', Fr [209, 211, 212, 224] I I' → (∀ j, j ≠ 34 → I' 209 j = I 209 j) → Q (nI (BB row A.1 (fst L 4)).length) (sh, I', R)) : CI mX10_dimension [.ref 209, .int (nI m), .int (bI b)] (sh, I, R) Q := by
  obtain ⟨hP, hL, hpr, hL1, hL3⟩ := id hc
  obtain ⟨hp2, hp97⟩ := PR_bd p hpr
  have h40 := fst4 hL3
  have h4 := hA.1
  have loop : ∀ j N (I1 : Nat → Nat → Int32) (E : Nat → Nat → Nat) (piv : Nat → Nat) (mk : Nat → Nat → Fin p), N + j = fst L 4 → Fr [209, 211, 212, 224] I I1 → (∀ j, j ≠ 34 → I1 209 j = I 209 j) → mSp I1 p A.1 (BB row A.1 N).length E piv → spI A.1 (BB row A.1 N).length (fun j c => fo p (E j c)) piv mk (fun j => row ((BB row A.1 N).getD j 0)) → Ex mX10_dimension 7 [.ref 209, .int (nI m), .int (bI b), .int (nI N)] [] (sh, I1, R) 0 0 (xqI Q) := by
    intro j
    induction j with
    | zero =>
      intro N I1 E piv mk hN hf h9 hS hI
      obtain rfl : N = fst L 4 := by omega
      refine bX10_dimension_7 hW (w_firstOf hW (by rw [h9 2 (by decide)]; exact hL) (by decide) (bX10_dimension_13 hW ⟨fun _ => ?_, fun q => absurd (nI_le (Nat.le_refl _) (by omega)) q⟩))
      rw [hS.1]
      exact k I1 hf h9
    | succ j ih =>
      intro N I1 E piv mk hN hf h9 hS hI
      have hc1 : mCtx I1 p L := ⟨by rw [h9 1 (by decide)]; exact hP, by rw [h9 2 (by decide)]; exact hL, hpr, hL1, hL3⟩
      have hA1 : mRep I1 L m A := hA.fr hf (by decide)
      have hwl : wlen L N ≤ 12 := by have := (wlen_lt_iff hL1 N 4).mpr (by omega); omega
      have step : ∀ (I2 : Nat → Nat → Int32) (v : Nat → Nat), Fr [211, 212] I1 I2 → (∀ s, s < A.1 → I2 211 s = nI (v s) ∧ v s < p) → (∀ s, s < A.1 → row N s = fo p (v s)) → Ex mX10_dimension 41 [.ref 209, .int (nI m), .int (bI b), .int (nI N)] [.int (nI A.1), .ref 209] (sh, I2, R) 0 0 (xqI Q) := by
        intro I2 v hf2 hv hr
        have hS2 : mSp I2 p A.1 (BB row A.1 N).length E piv := ⟨by rw [hf2.at 209 34 (by decide)]; exact hS.1, hS.2.1, hS.2.2.1, fun j c a b => by rw [hf2.at 224 _ (by decide)]; exact hS.2.2.2.1 j c a b, hS.2.2.2.2⟩
        refine bX10_dimension_41 hW (w_spans hW (hc1.fr hf2 (by decide)) hS2 hI hv hr (fun I3 hf3 hd => ?_) (fun I3 E' piv' mk' hf3 h39 hd hS3 hI3 => ?_))
        · refine bX10_dimension_44 hW ?_
          rw [nI_add]
          have e := BB_pos hd
          refine ih (N + 1) I3 E piv mk (by omega) ((hf.tr (hf2.sub (by simp))).tr (hf3.sub (by simp))) (fun j hj => by rw [hf3.at 209 j (by decide), hf2.at 209 j (by decide), h9 j hj]) ?_ ?_
          · rw [e]; exact ⟨by rw [hf3.at 209 34 (by decide)]; exact hS2.1, hS.2.1, hS.2.2.1, fun j c a b => by rw [hf3.at 224 _ (by decide)]; exact hS2.2.2.2.1 j c a b, hS.2.2.2.2⟩
          · rw [e]; exact hI
        · refine bX10_dimension_44 hW ?_
          rw [nI_add]
          have e := BB_neg hd
          refine ih (N + 1) I3 E' piv' mk' (by omega) ((hf.tr (hf2.sub (by simp))).tr (hf3.sub (by simp))) (fun j hj => by rw [h39 j hj, hf2.at 209 j (by decide), h9 j hj]) ?_ ?_
          · rw [e]; exact hS3
          · rw [e]; exact hI3
      refine bX10_dimension_7 hW (w_firstOf hW hc1.2.1 (by decide) (bX10_dimension_13 hW ⟨fun q => absurd q (nI_ge (by omega) (by omega)), fun _ => ⟨fun q => ?_, fun q => ?_⟩⟩))
      · have hb : b = false := by cases b with | true => exact absurd q (by decide) | false => rfl
        refine w_comesBack hW hc1 hm hA1 hok hwl (fun I2 hf2 h2 => bX10_dimension_35 hW (w_many hW hm ?_))
        rw [(hA1.fr hf2 (by decide)).2.1]
        refine step I2 (bN p A (wl L N)) hf2 (fun s hs => ⟨h2 s hs, bN_lt (by omega) hok _ s hs⟩) (fun s hs => ?_)
        rw [hrow, hb, fo_bN]; rfl
      · have hb : b = true := by cases b with | false => exact absurd rfl q | true => rfl
        refine w_goes hW hc1 hm hA1 hok hwl (fun I2 hf2 h2 => bX10_dimension_26 hW (w_many hW hm ?_))
        rw [(hA1.fr hf2 (by decide)).2.1]
        refine step I2 (fN p A (wl L N)) hf2 (fun s hs => ⟨h2 s hs, fN_lt (by omega) hok _ s hs⟩) (fun s hs => ?_)
        rw [hrow, hb, fo_fN]; rfl
  refine eX10_dimension (bX10_dimension_0 hW ?_)
  refine loop (fst L 4) 0 _ (fun _ _ => 0) (fun _ => 0) (fun _ _ => 0) (by omega) (Fr.rf.xi (by simp)) (fun j hj => xi_s hj) ⟨xi_e, Nat.zero_le _, h4, fun j c hj => absurd hj (Nat.not_lt_zero j), fun j hj => absurd hj (Nat.not_lt_zero j)⟩ ⟨fun j hj => absurd hj (Nat.not_lt_zero j), fun j hj => absurd hj (Nat.not_lt_zero j), fun j hj => absurd hj (Nat.not_lt_zero j), indp_0 _ _⟩
noncomputable def dimN (p : Nat) [NeZero p] (L : Nat) (A : Mac) (what : Nat) : Nat := if what = 0 then (BB (FV p L A) A.1 (fst L 4)).length else if what = 1 then (BB (BV p L A) A.1 (fst L 4)).length else (BS p L A).length
noncomputable def spaceA (σ : St) [NeZero σ.p] (m what : Int32) : Int32 := if inB what 3 then ansM σ m (fun M => nI (dimN σ.p σ.L M (nN what))) id else -1
theorem w_space {σ : St} [NeZero σ.p] {m what : Int32} {Q : Int32 → xHp → Prop} (hW : xLay sh R) (h : mdR I σ) (k : ∀ I', mdR I' σ → mFr I I' → Q (spaceA σ m what) (sh, I', R)) : CI mX10_space [.ref 209, .int m, .int what] (sh, I, R) Q := by
  unfold spaceA at k
  refine eX10_space (bX10_space_0 hW (w_inB (n := 3) hW (by decide) (by decide) (fun c hc hlt => ?_) (fun hn => ?_)))
  · subst hc
    rw [if_pos ((inB_n (by omega)).mpr hlt), nN_n (by omega)] at k
    refine bX10_space_9 hW ⟨fun q => absurd q (by decide), fun _ => w_wrong hW h (fun a I' hm ha hans h' hf hr hok => ?_) (fun v hv hans => bX10_space_17 hW ⟨fun z => absurd z hv, fun _ => ?_⟩)⟩
    · subst hm
      rw [hans] at k
      unfold dimN at k
      have md : ∀ I2, Fr [209, 211, 212, 224] I' I2 → (∀ j, j ≠ 34 → I2 209 j = I' 209 j) → mdR I2 σ := fun I2 hf2 h29 => h'.eq ⟨fun j hj => h29 j (fun z => by subst z; exact absurd hj (by decide)), pgF.of hf2 (by decide), fun q hq => hf2 q (fun z => by revert hq z; simp; omega)⟩
      refine bX10_space_17 hW ⟨fun _ => ⟨fun q => ?_, fun q => ⟨fun q2 => ?_, fun q2 => ?_⟩⟩, fun z => absurd rfl z⟩
      · have e2 : c = 2 := by
          rcases Nat.lt_or_ge c 2 with y | y
          · exact absurd q (nI_ge (by omega) (by omega))
          · omega
        subst e2
        refine w_bases hW h'.ctx (by omega) hr hok (fun I2 hf2 hf29 hB => bX10_space_53 hW ?_)
        rw [hB.1]
        have md : mdR I2 σ := h'.eq ⟨fun j hj => hf29 j (fun z => by subst z; exact absurd hj (by decide)), pgF.of hf2 (by decide), fun q hq => hf2 q (fun z => by revert hq z; simp; omega)⟩
        exact k I2 md (hf.tr (mFr.of hf2 (by simp)))
      · have e2 : c = 1 := by
          have h2 : c < 2 := by
            rcases Nat.lt_or_ge c 2 with y | y
            · exact y
            · exact absurd (nI_le y (by omega)) q
          have h0 : c ≠ 0 := fun z => q2 (by rw [z]; rfl)
          omega
        subst e2
        refine w_dimension (b := false) hW h'.ctx (by omega) hr hok rfl (fun I2 hf2 h29 => bX10_space_47 hW ?_)
        exact k I2 (md I2 hf2 h29) (hf.tr (mFr.of hf2 (by simp)))
      · have e2 : c = 0 := (nI_eq (a := c) (b := 0) (by omega) (by omega)).mp q2
        subst e2
        refine w_dimension (b := true) hW h'.ctx (by omega) hr hok rfl (fun I2 hf2 h29 => bX10_space_47 hW ?_)
        exact k I2 (md I2 hf2 h29) (hf.tr (mFr.of hf2 (by simp)))
    · rw [hans] at k
      exact k I h mFr.rf
  · rw [if_neg hn] at k
    exact bX10_space_9 hW ⟨fun _ => k I h mFr.rf, fun z => absurd rfl z⟩
end SPACE2
