section MODN
variable {sh : List xSh} {I : Nat → Nat → Int32} {R : Nat → Nat → Option Nat}
theorem shf_same {I I' : Nat → Nat → Int32} {σ : St} (h : mdR I σ) (e1 : I' 227 = I 227) (e2 : I' 228 = I 228) (e3 : I' 229 = I 229) (h4 : ∀ m A, 7 ≤ m → m < 31 → mRep I σ.L m A → mRep I' σ.L m A) : ∀ k, k < 3 → mShf I' σ.L k (σ.shf k) := fun k hk => (h.shf k hk).eq (fun s e => (h.ok.shf k s e).2.1) (by rw [e1]) (by rw [e2]) (fun i _ => by rw [e3]) (fun i A hi => h4 _ A (by omega) (by omega))
theorem mdR.tape' {I I' : Nat → Nat → Int32} {σ : St} {l : List Nat} (h : mdR I σ) (hl : l.length ≤ 200 ∧ ∀ x ∈ l, x < 128) (hf : Fr [209, 218] I I') (h9 : ∀ j, j ≠ 16 → I' 209 j = I 209 j) (h' : lsR I' 218 16 l) : mdR I' (σ.set_tape l) := by
  have pg : ∀ {m A}, mRep I σ.L m A → mRep I' σ.L m A := fun hA => hA.fr hf (by decide)
  exact ⟨⟨h.ok.p, h.ok.L1, h.ok.L3, h.ok.t, h.ok.kept, h.ok.shf, h.ok.word, hl⟩, by rw [h9 1 (by decide)]; exact h.c1, by rw [h9 2 (by decide)]; exact h.c2, pg h.A, by rw [h9 3 (by decide)]; exact h.g, fun q => pg (h.G q), h.P.eq (h9 10 (by decide)) (hf _ (by decide)), h.S.eq (h9 11 (by decide)) (hf _ (by decide)), by rw [h9 12 (by decide)]; exact h.r, fun k hk => (h.kept k hk).eq (hf _ (by decide)) (hf _ (by decide)) (fun A => pg) (fun A => pg), shf_same (σ := σ) h (hf _ (by decide)) (hf _ (by decide)) (hf _ (by decide)) (fun m A _ _ => pg), h.word.eq (h9 32 (by decide)) (hf _ (by decide)), h', by rw [h9 17 (by decide)]; exact h.fault, fun j hj => by rw [hf 219 (by decide)]; exact h.nmE j hj, fun j hj => by rw [hf 220 (by decide)]; exact h.nmL j hj⟩
theorem mdR.word' {I I' : Nat → Nat → Int32} {σ : St} {l : List Nat} (h : mdR I σ) (hl : l.length ≤ 12 ∧ ∀ x ∈ l, x < σ.L) (hf : Fr [209, 223] I I') (h9 : ∀ j, j ≠ 32 → I' 209 j = I 209 j) (h' : lsR I' 223 32 l) : mdR I' (σ.set_word l) := by
  have pg : ∀ {m A}, mRep I σ.L m A → mRep I' σ.L m A := fun hA => hA.fr hf (by decide)
  exact ⟨⟨h.ok.p, h.ok.L1, h.ok.L3, h.ok.t, h.ok.kept, h.ok.shf, hl, h.ok.tape⟩, by rw [h9 1 (by decide)]; exact h.c1, by rw [h9 2 (by decide)]; exact h.c2, pg h.A, by rw [h9 3 (by decide)]; exact h.g, fun q => pg (h.G q), h.P.eq (h9 10 (by decide)) (hf _ (by decide)), h.S.eq (h9 11 (by decide)) (hf _ (by decide)), by rw [h9 12 (by decide)]; exact h.r, fun k hk => (h.kept k hk).eq (hf _ (by decide)) (hf _ (by decide)) (fun A => pg) (fun A => pg), shf_same (σ := σ) h (hf _ (by decide)) (hf _ (by decide)) (hf _ (by decide)) (fun m A _ _ => pg), h', h.tape.eq (h9 16 (by decide)) (hf _ (by decide)), by rw [h9 17 (by decide)]; exact h.fault, fun j hj => by rw [hf 219 (by decide)]; exact h.nmE j hj, fun j hj => by rw [hf 220 (by decide)]; exact h.nmL j hj⟩
theorem lsR_push {I : Nat → Nat → Int32} {q n c : Nat} {l : List Nat} (h : lsR I q n l) (hq : q ≠ 209) : lsR (xi (xi I q l.length (nI c)) 209 n (nI (l.length + 1))) q n (l ++ [c]) := by
  refine ⟨by rw [xi_e]; simp, fun j hj => ?_⟩
  rw [xi_p hq]
  simp at hj
  by_cases e : j = l.length
  · subst e; rw [xi_e, gd_last]
  · rw [xi_s e, gd_app (by omega)]; exact h.2 j (by omega)
theorem w_feed {σ : St} {c : Int32} {Q : Int32 → xHp → Prop} (hW : xLay sh R) (h : mdR I σ) (k : ∀ I', mdR I' (feedA σ c).2 → mFr I I' → Q (feedA σ c).1 (sh, I', R)) : CI mX10_feed [.ref 209, .int c] (sh, I, R) Q := by
  have ht := h.ok.tape
  refine eX10_feed (bX10_feed_0 hW (w_inB (n := 128) hW (by decide) (by decide) (fun a ha hlt => ?_) (fun hn => ?_)))
  · refine bX10_feed_9 hW ⟨fun _ => ?_, fun q => absurd q (by decide)⟩
    have hin : inB c 128 := by rw [ha, inB_n (by omega)]; exact hlt
    rw [h.tape.1]
    refine ⟨fun q => ⟨vp_nI (by have : σ.tape.length ≠ 200 := fun z => q (by rw [z]); omega) (by omega), ?_⟩, fun q => ?_⟩
    · have hne : σ.tape.length ≠ 200 := fun z => q (by rw [z])
      have e : feedA σ c = (nI (σ.tape.length + 1), σ.set_tape (σ.tape ++ [a])) := by unfold feedA; rw [if_pos hin, if_neg hne, ha, nN_n (by omega)]
      rw [e] at k
      rw [nclamp (by omega), nI_add, ha]
      refine k _ (h.tape' ⟨by simp; omega, fun x hx => ?_⟩ ((Fr.rf.xi (by simp)).xi (by simp)) (fun j hj => by rw [xi_s hj, xi_p (by decide)]) (lsR_push h.tape (by decide))) (mFr.of (T := [209, 218]) ((Fr.rf.xi (by simp)).xi (by simp)) (by simp))
      rcases List.mem_append.mp hx with hx | hx
      · exact ht.2 x hx
      · rw [List.mem_singleton.mp hx]; exact hlt
    · have hne : σ.tape.length = 200 := (nI_eq (a := σ.tape.length) (b := 200) (by omega) (by omega)).mp q
      have e : feedA σ c = (-3, σ) := by unfold feedA; rw [if_pos hin, if_pos hne]
      rw [e] at k
      exact k I h mFr.rf
  · refine bX10_feed_9 hW ⟨fun q => absurd rfl q, fun _ => ?_⟩
    have e : feedA σ c = (-1, σ) := by unfold feedA; rw [if_neg hn]
    rw [e] at k
    exact k I h mFr.rf
theorem w_letter {σ : St} {c : Int32} {Q : Int32 → xHp → Prop} (hW : xLay sh R) (h : mdR I σ) (k : ∀ I', mdR I' (letterA σ c).2 → mFr I I' → Q (letterA σ c).1 (sh, I', R)) : CI mX10_letter [.ref 209, .int c] (sh, I, R) Q := by
  have ht := h.ok.word
  have hL3 := h.ok.L3
  refine eX10_letter (bX10_letter_0 hW (w_isLetter hW h.ctx (fun a ha hlt => ?_) (fun hn => ?_)))
  · refine bX10_letter_5 hW ⟨fun _ => ?_, fun q => absurd q (by decide)⟩
    have hin : inB c σ.L := by rw [ha, inB_n (by omega)]; exact hlt
    rw [h.word.1]
    refine ⟨fun q => ⟨vp_nI (by have : σ.word.length ≠ 12 := fun z => q (by rw [z]); omega) (by omega), ?_⟩, fun q => ?_⟩
    · have hne : σ.word.length ≠ 12 := fun z => q (by rw [z])
      have e : letterA σ c = (nI (σ.word.length + 1), σ.set_word (σ.word ++ [a])) := by unfold letterA; rw [if_pos hin, if_neg hne, ha, nN_n (by omega)]
      rw [e] at k
      rw [nclamp (by omega), nI_add, ha]
      refine k _ (h.word' ⟨by simp; omega, fun x hx => ?_⟩ ((Fr.rf.xi (by simp)).xi (by simp)) (fun j hj => by rw [xi_s hj, xi_p (by decide)]) (lsR_push h.word (by decide))) (mFr.of (T := [209, 223]) ((Fr.rf.xi (by simp)).xi (by simp)) (by simp))
      rcases List.mem_append.mp hx with hx | hx
      · exact ht.2 x hx
      · rw [List.mem_singleton.mp hx]; exact hlt
    · have hne : σ.word.length = 12 := (nI_eq (a := σ.word.length) (b := 12) (by omega) (by omega)).mp q
      have e : letterA σ c = (-3, σ) := by unfold letterA; rw [if_pos hin, if_pos hne]
      rw [e] at k
      exact k I h mFr.rf
  · refine bX10_letter_5 hW ⟨fun q => absurd rfl q, fun _ => ?_⟩
    have e : letterA σ c = (-1, σ) := by unfold letterA; rw [if_neg hn]
    rw [e] at k
    exact k I h mFr.rf
theorem w_wipe {σ : St} {Q : Int32 → xHp → Prop} (hW : xLay sh R) (h : mdR I σ) (k : ∀ I', mdR I' (wipeA σ).2 → mFr I I' → Q (wipeA σ).1 (sh, I', R)) : CI mX10_wipe [.ref 209] (sh, I, R) Q := by
  refine eX10_wipe (bX10_wipe_0 hW ?_)
  rw [h.word.1]
  exact k _ (h.word' ⟨by simp, fun x hx => by simp at hx⟩ (Fr.rf.xi (by simp)) (fun j hj => by rw [xi_s hj]) ⟨xi_e, fun j hj => by simp at hj⟩) (mFr.of (T := [209]) (Fr.rf.xi (by simp)) (by simp))
theorem w_end {σ : St} {c : Int32} {Q : Int32 → xHp → Prop} (hW : xLay sh R) (h : mdR I σ) (k : ∀ I', mdR I' (endA σ c).2 → mFr I I' → Q (endA σ c).1 (sh, I', R)) : CI mX10_end [.ref 209, .int c] (sh, I, R) Q := by
  have ht := h.ok.tape
  refine eX10_end (bX10_end_0 hW ?_)
  rw [h.tape.1]
  refine w_inB (n := σ.tape.length + 1) hW (by rw [nI64 (by omega)]; omega) (by omega) (fun a ha hlt => ?_) (fun hn => ?_)
  · refine bX10_end_11 hW ⟨fun _ => ?_, fun q => absurd q (by decide)⟩
    have e : endA σ c = (nI σ.tape.length, σ.set_tape (σ.tape.take a)) := by unfold endA; rw [if_pos (by rw [ha, inB_n (by omega)]; exact hlt), ha, nN_n (by omega)]
    rw [e] at k
    rw [h.tape.1, ha]
    have hl : (σ.tape.take a).length = a := by rw [List.length_take]; omega
    refine k _ (h.tape' ⟨by omega, fun x hx => ht.2 x (List.mem_of_mem_take hx)⟩ (Fr.rf.xi (by simp)) (fun j hj => by rw [xi_s hj]) ⟨by rw [xi_e, hl], fun j hj => ?_⟩) (mFr.of (T := [209]) (Fr.rf.xi (by simp)) (by simp))
    rw [hl] at hj
    rw [xi_p (by decide), h.tape.2 j (by omega)]
    simp [List.getD_eq_getElem?_getD, List.getElem?_take, hj]
  · refine bX10_end_11 hW ⟨fun q => absurd rfl q, fun _ => ?_⟩
    have e : endA σ c = (-1, σ) := by unfold endA; rw [if_neg hn]
    rw [e] at k
    exact k I h mFr.rf
theorem w_fault {σ : St} {Q : Int32 → xHp → Prop} (hW : xLay sh R) (h : mdR I σ) (k : Q σ.fault (sh, I, R)) : CI mX10_fault [.ref 209] (sh, I, R) Q := eX10_fault (bX10_fault_0 hW (by rw [h.fault]; exact k))
theorem le0_n {i : Int32} (h : 0 ≤ i) : 0 ≤ i.toInt := by have := Int32.le_iff_toInt_le.mp h; simpa using this
theorem w_prefix {σ : St} {i : Int32} {Q : Int32 → xHp → Prop} (hW : xLay sh R) (h : mdR I σ) (k : Q (prefixA σ i) (sh, I, R)) : CI mX10_prefix [.ref 209, .int i] (sh, I, R) Q := by
  have h4 := h.tab.2.2.1
  unfold prefixA at k
  refine eX10_prefix (bX10_prefix_0 hW ⟨fun q => ?_, fun q => ?_⟩)
  · have q0 := le0_n q
    have hi := nI_N q0
    have hib : nN i < 2 ^ 31 := by have := Int32.toInt_lt i; unfold nN; omega
    rw [if_neg (by omega)] at k
    rw [h.P.1, ← hi]
    refine ⟨fun z => ?_, fun z => ⟨vp_nI ?_ (by omega), ?_⟩⟩
    · rw [if_neg (fun y => absurd z (nI_ge y (by omega)))] at k; exact k
    · have : nN i < σ.t.P.length := by
        rcases Nat.lt_or_ge (nN i) σ.t.P.length with y | y
        · exact y
        · exact absurd (nI_le y hib) z
      omega
    · have : nN i < σ.t.P.length := by
        rcases Nat.lt_or_ge (nN i) σ.t.P.length with y | y
        · exact y
        · exact absurd (nI_le y hib) z
      rw [if_pos this] at k
      rw [nclamp (by omega), h.P.2 _ this]; exact k
  · rw [if_pos] at k
    · exact k
    · by_cases y : i.toInt < 0
      · exact y
      · exact absurd (Int32.le_iff_toInt_le.mpr (by simp; omega)) q
theorem w_suffix {σ : St} {i : Int32} {Q : Int32 → xHp → Prop} (hW : xLay sh R) (h : mdR I σ) (k : Q (suffixA σ i) (sh, I, R)) : CI mX10_suffix [.ref 209, .int i] (sh, I, R) Q := by
  have h4 := h.tab.2.2.2.1
  unfold suffixA at k
  refine eX10_suffix (bX10_suffix_0 hW ⟨fun q => ?_, fun q => ?_⟩)
  · have q0 := le0_n q
    have hi := nI_N q0
    have hib : nN i < 2 ^ 31 := by have := Int32.toInt_lt i; unfold nN; omega
    rw [if_neg (by omega)] at k
    rw [h.S.1, ← hi]
    have lt : ¬ nI σ.t.S.length ≤ nI (nN i) → nN i < σ.t.S.length := fun z => by
      rcases Nat.lt_or_ge (nN i) σ.t.S.length with y | y
      · exact y
      · exact absurd (nI_le y hib) z
    refine ⟨fun z => ?_, fun z => ⟨vp_nI (by have := lt z; omega) (by omega), ?_⟩⟩
    · rw [if_neg (fun y => absurd z (nI_ge y (by omega)))] at k; exact k
    · rw [if_pos (lt z)] at k
      rw [nclamp (by omega), h.S.2 _ (lt z)]; exact k
  · rw [if_pos] at k
    · exact k
    · by_cases y : i.toInt < 0
      · exact y
      · exact absurd (Int32.le_iff_toInt_le.mpr (by simp; omega)) q
theorem w_value {σ : St} [NeZero σ.p] {m : Int32} {Q : Int32 → xHp → Prop} (hW : xLay sh R) (h : mdR I σ) (k : ∀ I', mdR I' σ → mFr I I' → Q (valueA σ m) (sh, I', R)) : CI mX10_value [.ref 209, .int m] (sh, I, R) Q := by
  have hw := h.ok.word
  have hp2 := PR_bd _ h.ok.p
  refine eX10_value (bX10_value_0 hW (w_wrong hW h (fun a I' hm ha hans h' hf hr hok => ?_) (fun v hv hans => bX10_value_5 hW ⟨fun z => absurd z hv, fun _ => ?_⟩)))
  · subst hm
    refine bX10_value_5 hW ⟨fun _ => w_goes (w := 0) hW h'.ctx (by omega) hr hok (by rw [wlen_0]; omega) (fun I1 hf1 h1 => bX10_value_18 hW ?_), fun z => absurd rfl z⟩
    have loop : ∀ n j (I2 : Nat → Nat → Int32), j + n = σ.word.length → Fr [211, 212] I' I2 → (∀ s, s < (mOf σ a).1 → I2 211 s = nI (fN σ.p (mOf σ a) (σ.word.take j) s)) → Ex mX10_value 20 [.ref 209, .int (nI a), xU, .int (nI j)] [] (sh, I2, R) 0 0 (xqI Q) := by
      intro n
      induction n with
      | zero =>
        intro j I2 hj hf2 h2
        obtain rfl : j = σ.word.length := by omega
        have hd2 := h'.eq (mdF.of hf2 (by decide))
        refine bX10_value_20 hW ⟨fun _ => ?_, fun z => ?_⟩
        · refine w_ended (v := fN σ.p (mOf σ a) σ.word) hW hd2.ctx (by omega) (hr.fr hf2 (by decide)) hok (fun s hs => ⟨by rw [h2 s hs, List.take_length], fN_lt (by omega) hok _ s hs⟩) (bX10_value_50 hW ?_)
          have := k I2 hd2 (hf.tr (mFr.of hf2 (by simp)))
          unfold valueA at this
          rw [hans] at this
          exact this
        · rw [hd2.word.1] at z; exact absurd (nI_le (Nat.le_refl _) (by omega)) z
      | succ n ih =>
        intro j I2 hj hf2 h2
        have hd2 := h'.eq (mdF.of hf2 (by decide))
        refine bX10_value_20 hW ⟨fun z => ?_, fun z => ⟨vp_nI (by omega) (by omega), ?_⟩⟩
        · rw [hd2.word.1] at z; exact absurd z (nI_ge (by omega) (by omega))
        · rw [nclamp (by omega), hd2.word.2 j (by omega)]
          refine w_steps (v := fN σ.p (mOf σ a) (σ.word.take j)) hW hd2.ctx (by omega) (hw.2 _ (gd_mem (by omega))) (hr.fr hf2 (by decide)) hok (fun s hs => ⟨h2 s hs, fN_lt (by omega) hok _ s hs⟩) (fun I3 hf3 h3 => bX10_value_39 hW ?_)
          rw [nI_add]
          refine ih (j + 1) I3 (by omega) (hf2.tr hf3) (fun s hs => ?_)
          rw [h3 s hs, List.take_add_one, List.getElem?_eq_getElem (by omega), Option.toList_some, fN_x, gd_el (by omega)]
    refine loop σ.word.length 0 I1 (by omega) hf1 (fun s hs => by rw [h1 s hs, wl_0]; rfl)
  · have := k I h mFr.rf
    unfold valueA at this
    rw [hans] at this
    exact this
end MODN
