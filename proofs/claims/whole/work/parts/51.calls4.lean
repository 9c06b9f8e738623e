section MODP
variable {sh : List xSh} {I : Nat → Nat → Int32} {R : Nat → Nat → Option Nat}
theorem tb_set (τ : Tb) : τ.set_P τ.P = τ := rfl
theorem w_close {σ : St} [NeZero σ.p] {Q : Int32 → xHp → Prop} (hW : xLay sh R) (h : mdR I σ) (k : ∀ I', mdR I' (closeA σ).2 → mFr I I' → Q (closeA σ).1 (sh, I', R)) : CI mX10_close [.ref 209] (sh, I, R) Q := by
  have htb := h.ok.t
  obtain ⟨_, h1, hokA, -, ht, -⟩ := id htb
  refine eX10_close (bX10_close_0 hW (w_closes hW h.ctx h.A hokA h.tab ht (fun I' n P' hf hf9 hc hT ht' => bX10_close_4 hW ?_)))
  have e := clsP_eq hc
  have hl := (ClsN_end hc).2.1
  unfold closeA at k
  rw [e, show P'.length - σ.t.P.length = n by omega] at k
  refine k I' (h.t' (tbOK_close h.ok.p h.ok.L1 htb hc ht') (fr_q hf (by decide)) (fun j hj => hf9 j (fun z => by subst z; exact absurd hj (by decide))) (pgF.of hf (by decide)) (h.A.fr hf (by decide)) (by rw [hf9 3 (by decide)]; exact h.g) (fun q => (h.G q).fr hf (by decide)) ⟨hT.1, hT.2.2.2.2.1⟩ ⟨hT.2.1, hT.2.2.2.2.2⟩ (by rw [hf9 12 (by decide)]; exact h.r)) (mFr.of hf (by simp))
theorem dfO_len {p L : Nat} [NeZero p] (hp : p ∈ PR) (hL : 0 < L) {A B : Mac} {w : Nat} (h1 : vN p A (wl L w) ≠ vN p B (wl L w)) (h2 : ∀ u, u < w → vN p A (wl L u) = vN p B (wl L u)) : wlen L w < A.1 + B.1 := diff_len hp hL h1 h2
theorem w_learn {σ : St} [NeZero σ.p] {Q : Int32 → xHp → Prop} (hW : xLay sh R) (h : mdR I σ) (k : ∀ I', mdR I' (learnA σ).2 → mFr I I' → Q (learnA σ).1 (sh, I', R)) : CI mX10_learn [.ref 209] (sh, I, R) Q := by
  have htb := h.ok.t
  have hp := h.ok.p
  have hL1 := h.ok.L1
  have hL3 := h.ok.L3
  obtain ⟨_, h1, hokA, -, ht, -⟩ := id htb
  refine eX10_learn (bX10_learn_0 hW (w_closes hW h.ctx h.A hokA h.tab ht (fun I1 n P' hf1 hf19 hc hT1 ht1 => bX10_learn_4 hW ?_)))
  have hcl := (ClsN_end hc).1
  have eP := clsP_eq hc
  have htb1 : tbOK σ.p σ.L (σ.t.set_P P') := tbOK_close hp hL1 htb hc ht1
  have hc1 : mCtx I1 σ.p σ.L := ⟨by rw [hf19 1 (by decide)]; exact h.c1, by rw [hf19 2 (by decide)]; exact h.c2, hp, hL1, hL3⟩
  refine w_guesses hW hc1 (h.A.fr hf1 (by decide)) hokA hT1 ht1 hcl (fun I2 G hf2 hf29 hg2 hpg2 hG hrG => bX10_learn_9 hW ?_)
  have eG := gsM_made hG
  have hrG2 : mRep I2 σ.L 1 (gsM σ.p σ.L σ.t.A P' σ.t.S) := made_rep ht1.2.2 hG eG hrG
  have hokG := eG.ok (PR_bd _ hp).1
  generalize hgg : gsM σ.p σ.L σ.t.A P' σ.t.S = G2 at eG hrG2 hokG
  have hf : Fr [209, 210, 211, 212, 213, 214, 215] I I2 := (hf1.sub (by simp)).tr (hf2.sub (by simp))
  have h9 : ∀ j, j ≠ 10 → j ≠ 3 → I2 209 j = I 209 j := fun j a b => (hf29 j b).trans (hf19 j a)
  have hpg : pgF [1] I I2 := (pgF.of hf1 (by decide)).tr hpg2
  rw [h9 12 (by decide) (by decide), h.r]
  generalize hI3 : xi I2 209 12 (σ.t.r + nI 1) = I3
  have hf3 : Fr [209] I2 I3 := by rw [← hI3]; exact Fr.rf.xi (by simp)
  have h39 : ∀ j, j ≠ 12 → I3 209 j = I2 209 j := fun j hj => by rw [← hI3, xi_s hj]
  have hc3 : mCtx I3 σ.p σ.L := ⟨by rw [h39 1 (by decide), h9 1 (by decide) (by decide)]; exact h.c1, by rw [h39 2 (by decide), h9 2 (by decide) (by decide)]; exact h.c2, hp, hL1, hL3⟩
  have hA3 : mRep I3 σ.L 0 σ.t.A := (h.A.pg hpg (by decide) hL3).fr hf3 (by decide)
  have hG3 : mRep I3 σ.L 1 G2 := hrG2.fr hf3 (by decide)
  -- what is there behind the search
  have fin : ∀ (I4 : Nat → Nat → Int32) (S' : List Nat), Fr [211, 212, 216] I3 I4 ∨ (Fr [209, 211, 212, 216] I3 I4 ∧ ∀ j, j ≠ 11 → I4 209 j = I3 209 j) → tbOK σ.p σ.L (Tb.mk σ.t.A true G2 P' S' (σ.t.r + 1)) → lsR I4 216 11 S' → mdR I4 (σ.set_t (Tb.mk σ.t.A true G2 P' S' (σ.t.r + 1))) ∧ mFr I I4 := by
    intro I4 S' h4 hok hS'
    have hf4 : Fr [209, 211, 212, 216] I3 I4 := by rcases h4 with q | q; exact q.sub (by simp); exact q.1
    have h49 : ∀ j, j ≠ 11 → I4 209 j = I3 209 j := by rcases h4 with q | q; exact fun j _ => q.at 209 j (by decide); exact q.2
    have hfa : Fr [209, 210, 211, 212, 213, 214, 215, 216] I I4 := ((hf.sub (by simp)).tr (hf3.sub (by simp))).tr (hf4.sub (by simp))
    refine ⟨h.t' hok (fr_q hfa (by decide)) (fun j hj => ?_) (((hpg.up (by simp)).tr (pgF.of hf3 (by decide))).tr (pgF.of hf4 (by decide))) (hA3.fr hf4 (by decide)) ?_ (fun _ => hG3.fr hf4 (by decide)) ⟨?_, fun j hj => ?_⟩ hS' ?_, mFr.of hfa (by simp)⟩
    · have hj2 : j ≠ 11 ∧ j ≠ 12 ∧ j ≠ 10 ∧ j ≠ 3 := by revert hj; simp; omega
      rw [h49 j hj2.1, h39 j hj2.2.1, h9 j hj2.2.2.1 hj2.2.2.2]
    · rw [h49 3 (by decide), h39 3 (by decide), hg2]; rfl
    · rw [h49 10 (by decide), h39 10 (by decide), hf29 10 (by decide)]; exact hT1.1
    · show I4 215 j = nI (P'.getD j 0)
      rw [hf4.at 215 j (by decide), hf3.at 215 j (by decide), hf2.at 215 j (by decide)]; exact hT1.2.2.2.2.1 j hj
    · rw [h49 12 (by decide), ← hI3, xi_e]; rfl
  have hS3 : lsR I3 216 11 σ.t.S := h.S.eq (by rw [h39 11 (by decide), h9 11 (by decide) (by decide)]) (by rw [hf3 216 (by decide), hf 216 (by decide)])
  unfold learnA at k
  dsimp only at k
  rw [eP, hgg] at k
  refine w_unlike hW hc3 (by decide) (by decide) hA3 hG3 hokA hokG (fun I4 w hf4 hw hne hall => ?_) (fun I4 hf4 hall => ?_)
  · rw [dfO_some hw hne hall] at k
    obtain ⟨t42, t7, tok⟩ := tbOK_learn (r := σ.t.r + 1) hp hL1 htb1 hcl eG hne hall
    have hwl : wlen σ.L w ≤ 7 := t7
    have hwb : w < 2 ^ 31 := Nat.lt_of_lt_of_le hw (Nat.le_trans (fst_bd hL3 _ (by omega)) (by omega))
    refine bX10_learn_25 hW ⟨fun z => absurd z (nI_m4 hwb), fun _ => ?_⟩
    have hS4 : lsR I4 216 11 σ.t.S := hS3.eq (hf4.at 209 11 (by decide)) (hf4 216 (by decide))
    have hSb : ∀ s ∈ σ.t.S, s < 2 ^ 31 := fun s hs => by
      obtain ⟨i, hi, he⟩ := List.getElem_of_mem hs
      have := ht.2.1 i hi
      rw [gd_el hi, he] at this
      exact Nat.lt_of_lt_of_le (wlen_fst hL1 s).2 (Nat.le_trans (fst_bd hL3 _ (by omega)) (by omega))
    refine w_endings (b := true) (S := σ.t.S) hW (hc3.fr hf4 (by decide)) (by omega) (Nat.le_trans t42 (by decide)) hSb hS4.1 hS4.2 (fun I5 hf5 h59 h511 h5S => bX10_learn_38 hW ?_)
    obtain ⟨r1, r2⟩ := fin I5 (ena σ.L w σ.t.S) (Or.inr ⟨(hf4.sub (by simp)).tr (hf5.sub (by simp)), fun j hj => (h59 j hj).trans (hf4.at 209 j (by decide))⟩) tok ⟨h511, h5S⟩
    exact k I5 r1 r2
  · rw [dfO_none hall] at k
    refine bX10_learn_25 hW ⟨fun _ => ?_, fun z => absurd rfl z⟩
    obtain ⟨r1, r2⟩ := fin I4 σ.t.S (Or.inl (hf4.sub (by simp))) (tbOK_exact (r := σ.t.r + 1) hp htb1 eG) (hS3.eq (hf4.at 209 11 (by decide)) (hf4 216 (by decide)))
    exact k I4 r1 r2
theorem w_counter {σ : St} [NeZero σ.p] {Q : Int32 → xHp → Prop} (hW : xLay sh R) (h : mdR I σ) (k : ∀ I', mdR I' σ → mFr I I' → Q (counterA σ) (sh, I', R)) : CI mX10_counter [.ref 209] (sh, I, R) Q := by
  obtain ⟨_, h1, hokA, hokG, ht, -⟩ := h.ok.t
  unfold counterA at k
  refine eX10_counter (bX10_counter_0 hW ⟨fun q => ?_, fun q => ?_⟩)
  · rw [h.g] at q
    cases hg : σ.t.g with
    | true => rw [hg] at q; exact absurd q (by decide)
    | false => rw [hg] at k; exact k I h mFr.rf
  · rw [h.g] at q
    cases hg : σ.t.g with
    | false => rw [hg] at q; exact absurd rfl q
    | true =>
      rw [hg] at k
      refine w_unlike (m1 := 0) (m2 := 1) hW h.ctx (by decide) (by decide) h.A (h.G hg) hokA (hokG hg).2 (fun I4 w hf4 hw hne hall => bX10_counter_13 hW ?_) (fun I4 hf4 hall => bX10_counter_13 hW ?_)
      · rw [dfO_some hw hne hall] at k
        exact k I4 (h.eq (mdF.of hf4 (by decide))) (mFr.of hf4 (by simp))
      · rw [dfO_none hall] at k
        exact k I4 (h.eq (mdF.of hf4 (by decide))) (mFr.of hf4 (by simp))
theorem w_differ {σ : St} [NeZero σ.p] {i : Int32} {Q : Int32 → xHp → Prop} (hW : xLay sh R) (h : mdR I σ) (k : ∀ I', mdR I' σ → mFr I I' → Q (differA σ i) (sh, I', R)) : CI mX10_differ [.ref 209, .int i] (sh, I, R) Q := by
  obtain ⟨_, h1, hokA, hokG, ht, -⟩ := h.ok.t
  unfold differA at k
  refine eX10_differ (bX10_differ_0 hW (w_inB (n := 2) hW (by decide) (by decide) (fun a ha hlt => ?_) (fun hn => ?_)))
  · subst ha
    rw [if_pos ((inB_n (by omega)).mpr hlt), nN_n (by omega)] at k
    refine bX10_differ_7 hW ⟨fun _ => ⟨vp_nI (by omega) (by omega), ?_⟩, fun z => absurd z (by decide)⟩
    rw [nclamp (by omega), nI_add]
    have hk := h.kept a hlt
    cases hkp : σ.kept a with
    | none =>
      rw [hkp] at hk k
      have hk2 : I 225 a = nI 0 := hk
      rw [hk2]
      exact ⟨fun _ => k I h mFr.rf, fun z => absurd rfl z⟩
    | some τ =>
      rw [hkp] at hk k
      obtain ⟨_, -, hokB, -⟩ := h.ok.kept a τ hkp
      rw [hk.1]
      refine ⟨fun z => absurd z (by decide), fun _ => ?_⟩
      refine w_unlike (m1 := 0) (m2 := 3 + a) hW h.ctx (by decide) (by omega) h.A hk.2.1 hokA hokB (fun I4 w hf4 hw hne hall => bX10_differ_29 hW ?_) (fun I4 hf4 hall => bX10_differ_29 hW ?_)
      · simp only at k
        rw [dfO_some hw hne hall] at k
        exact k I4 (h.eq (mdF.of hf4 (by decide))) (mFr.of hf4 (by simp))
      · simp only at k
        rw [dfO_none hall] at k
        exact k I4 (h.eq (mdF.of hf4 (by decide))) (mFr.of hf4 (by simp))
  · rw [if_neg hn] at k
    exact bX10_differ_7 hW ⟨fun z => absurd rfl z, fun _ => k I h mFr.rf⟩
theorem w_ask {σ : St} [NeZero σ.p] {n : Int32} {Q : Int32 → xHp → Prop} (hW : xLay sh R) (h : mdR I σ) (k : ∀ I', mdR I' (askA σ n).2 → mFr I I' → Q (askA σ n).1 (sh, I', R)) : CI mX10_ask [.ref 209, .int n] (sh, I, R) Q := by
  have htb := h.ok.t
  have hp := h.ok.p
  have hL1 := h.ok.L1
  have hL3 := h.ok.L3
  obtain ⟨_, h1, hokA, -, ht, hsf, -, -, -, h42⟩ := id htb
  have hf6 := fst_bd hL3 6 (by omega)
  unfold askA at k
  refine eX10_ask (bX10_ask_0 hW (w_firstOf hW h.c2 (by omega) (bX10_ask_9 hW (w_inB (n := fst σ.L 6) hW (nI64m (by omega)) (by omega) (fun a ha hlt => ?_) (fun hn => ?_)))))
  · subst ha
    have hwl := (wlen_lt_iff hL1 a 6).mpr hlt
    have hSb : ∀ s ∈ σ.t.S, s < 2 ^ 31 := fun s hs => by
      obtain ⟨i, hi, he⟩ := List.getElem_of_mem hs
      have := ht.2.1 i hi
      rw [gd_el hi, he] at this
      exact Nat.lt_of_lt_of_le (wlen_fst hL1 s).2 (Nat.le_trans (fst_bd hL3 _ (by omega)) (by omega))
    have hlen := ena_len (w := a) hL1 hsf
    rw [if_pos ((inB_n (by omega)).mpr hlt), nN_n (by omega)] at k
    refine bX10_ask_15 hW ⟨fun _ => ?_, fun z => absurd z (by decide)⟩
    refine w_endings (b := false) (S := σ.t.S) hW h.ctx (by omega) (by omega) hSb h.S.1 h.S.2 (fun I1 hf1 h19 h111 h1S => ?_)
    obtain ⟨t, het⟩ := ena_ext σ.L a σ.t.S
    have hS1 : lsR I1 216 11 σ.t.S := ⟨h111, fun j hj => by rw [h1S j (by rw [het, List.length_append]; omega), het, gd_app hj]⟩
    have md1 : mdR I1 σ := h.t' (τ := σ.t) htb (fr_q hf1 (by decide)) (fun j hj => h19 j (fun z => by subst z; exact absurd hj (by decide))) (pgF.of hf1 (by decide)) (h.A.fr hf1 (by decide)) (by rw [h19 3 (by decide)]; exact h.g) (fun q => (h.G q).fr hf1 (by decide)) (h.P.eq (h19 10 (by decide)) (hf1 215 (by decide))) hS1 (by rw [h19 12 (by decide)]; exact h.r)
    refine bX10_ask_26 hW ⟨fun z => ?_, fun z => ?_⟩
    · have h24 : ¬ 24 < (ena σ.L a σ.t.S).length := fun y => absurd z (nI_ge y (by omega))
      rw [if_neg h24] at k
      refine w_endings (b := true) (S := σ.t.S) hW md1.ctx (by omega) (by omega) hSb hS1.1 hS1.2 (fun I2 hf2 h29 h211 h2S => bX10_ask_40 hW ?_)
      refine k I2 (md1.t' (tbOK_ask hL1 htb (by omega) (by omega)) (fr_q hf2 (by decide)) (fun j hj => h29 j (fun z => by subst z; exact absurd hj (by decide))) (pgF.of hf2 (by decide)) (md1.A.fr hf2 (by decide)) (by rw [h29 3 (by decide)]; exact md1.g) (fun q => (md1.G q).fr hf2 (by decide)) (md1.P.eq (h29 10 (by decide)) (hf2 215 (by decide))) ⟨h211, h2S⟩ (by rw [h29 12 (by decide)]; exact md1.r)) (mFr.of (hf1.tr hf2) (by simp))
    · have h24 : 24 < (ena σ.L a σ.t.S).length := by
        rcases Nat.lt_or_ge 24 (ena σ.L a σ.t.S).length with y | y
        · exact y
        · exact absurd (nI_le y (by omega)) z
      rw [if_pos h24] at k
      exact k I1 md1 (mFr.of hf1 (by simp))
  · rw [if_neg hn] at k
    exact bX10_ask_15 hW ⟨fun z => absurd rfl z, fun _ => k I h mFr.rf⟩
theorem w_basis {σ : St} [NeZero σ.p] {i : Int32} {Q : Int32 → xHp → Prop} (hW : xLay sh R) (h : mdR I σ) (k : ∀ I', mdR I' σ → mFr I I' → Q (basisA σ i) (sh, I', R)) : CI mX10_basis [.ref 209, .int i] (sh, I, R) Q := by
  obtain ⟨_, h1, hokA, -⟩ := h.ok.t
  unfold basisA at k
  refine eX10_basis (bX10_basis_0 hW ⟨fun q => ?_, fun q => ?_⟩)
  · have q0 := le0_n q
    have hi := nI_N q0
    have hib : nN i < 2 ^ 31 := by have := Int32.toInt_lt i; unfold nN; omega
    rw [if_neg (by omega)] at k
    refine w_bases (m := 0) hW h.ctx (by decide) h.A hokA (fun I' hf hf9 hB => bX10_basis_11 hW ?_)
    have md : mdR I' σ := h.eq ⟨fun j hj => hf9 j (fun z => by subst z; exact absurd hj (by decide)), pgF.of hf (by decide), fun q hq => hf q (fun z => by revert hq z; simp; omega)⟩
    have hm : mFr I I' := mFr.of hf (by simp)
    have hb4 := hB.2.1
    rw [hB.1, ← hi]
    have lt : ¬ nI (BS σ.p σ.L σ.t.A).length ≤ nI (nN i) → nN i < (BS σ.p σ.L σ.t.A).length := fun z => by
      rcases Nat.lt_or_ge (nN i) (BS σ.p σ.L σ.t.A).length with y | y
      · exact y
      · exact absurd (nI_le y hib) z
    refine ⟨fun z => ?_, fun z => ⟨vp_nI (by have := lt z; omega) (by omega), ?_⟩⟩
    · rw [if_neg (fun y => absurd z (nI_ge y (by omega)))] at k; exact k I' md hm
    · rw [if_pos (lt z)] at k
      rw [nclamp (by omega), hB.2.2 _ (lt z)]; exact k I' md hm
  · rw [if_pos] at k
    · exact k I h mFr.rf
    · by_cases y : i.toInt < 0
      · exact y
      · exact absurd (Int32.le_iff_toInt_le.mpr (by simp; omega)) q
end MODP
