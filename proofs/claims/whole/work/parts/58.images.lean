section MODX
variable {sh : List xSh} {I : Nat → Nat → Int32} {R : Nat → Nat → Option Nat}
def keepA (σ : St) (v : Int32) : Int32 × St := if inB v 2 then (bI (σ.kept (nN v)).isSome, σ.set_kept (fun i => if i = nN v then some σ.t else σ.kept i)) else (-1, σ)
def backA (σ : St) (v : Int32) : Int32 × St := if inB v 2 then (match σ.kept (nN v) with | none => (-2, σ) | some τ => (nI τ.A.1, σ.set_t τ)) else (-1, σ)
theorem tbOK.bd {p L : Nat} {τ : Tb} (h : tbOK p L τ) : τ.P.length ≤ 4 ∧ τ.S.length ≤ 42 := by
  obtain ⟨_, -, -, -, -, -, -, -, h4, h42⟩ := h
  exact ⟨h4, h42⟩
theorem mKep.eq2 {I I' : Nat → Nat → Int32} {L k : Nat} {o : Option Tb} (h : mKep I L k o) (hb : ∀ τ, o = some τ → τ.P.length ≤ 4 ∧ τ.S.length ≤ 42) (h1 : I' 225 k = I 225 k) (h2 : ∀ c, c < 70 → I' 226 (70 * k + c) = I 226 (70 * k + c)) (h3 : ∀ A, mRep I L (3 + k) A → mRep I' L (3 + k) A) (h4 : ∀ A, mRep I L (5 + k) A → mRep I' L (5 + k) A) : mKep I' L k o := by
  cases o with
  | none => show I' 225 k = _; rw [h1]; exact h
  | some τ =>
    obtain ⟨b1, b2⟩ := hb τ rfl
    obtain ⟨a1, a2, a3, a4, a5, a6, a7, a8, a9⟩ := h
    refine ⟨by rw [h1]; exact a1, h3 _ a2, fun q => h4 _ (a3 q), fun j hj => by rw [h2 j (by omega)]; exact a4 j hj, fun j hj => ?_, by rw [h2 65 (by omega)]; exact a6, by rw [h2 66 (by omega)]; exact a7, by rw [h2 67 (by omega)]; exact a8, by rw [h2 68 (by omega)]; exact a9⟩
    have := h2 (5 + j) (by omega)
    rw [← Nat.add_assoc] at this
    rw [this]; exact a5 j hj
theorem w_keep {σ : St} {v : Int32} {Q : Int32 → xHp → Prop} (hW : xLay sh R) (h : mdR I σ) (k : ∀ I', mdR I' (keepA σ v).2 → mFr I I' → Q (keepA σ v).1 (sh, I', R)) : CI mX10_keep [.ref 209, .int v] (sh, I, R) Q := by
  have hL3 := h.ok.L3
  have hbd := h.ok.t.bd
  unfold keepA at k
  refine eX10_keep (bX10_keep_0 hW (w_inB (n := 2) hW (by decide) (by decide) (fun c hc hclt => ?_) (fun hn => ?_)))
  rotate_left
  · rw [if_neg hn] at k
    exact bX10_keep_7 hW ⟨fun z => absurd rfl z, fun _ => k I h mFr.rf⟩
  subst hc
  rw [if_pos ((inB_n (by omega)).mpr hclt), nN_n (by omega)] at k
  refine bX10_keep_7 hW ⟨fun _ => ⟨vp_nI (by omega) (by omega), ?_⟩, fun z => absurd z (by decide)⟩
  rw [nclamp (by omega), pk_mul]
  have hk := h.kept c hclt
  -- all that follows, whatever was there
  have rest : ∀ b : Int32, b = bI (σ.kept c).isSome → Ex mX10_keep 35 [.ref 209, .int (nI c), .int b, .int (nI (70 * c)), .int (nI 0)] [] (sh, I, R) 0 0 (xqI Q) := by
    intro b hb
    subst hb
    -- the end
    have fin : ∀ (I3 : Nat → Nat → Int32), Fr [226] I I3 → (∀ i, (i < 70 * c ∨ 70 * c + 70 ≤ i) → I3 226 i = I 226 i) → (∀ i, i < 5 → I3 226 (70 * c + i) = I 215 i) → (∀ i, i < 60 → I3 226 (70 * c + 5 + i) = I 216 i) → I3 226 (70 * c + 65) = I 209 10 → I3 226 (70 * c + 66) = I 209 11 → I3 226 (70 * c + 67) = I 209 12 → I3 226 (70 * c + 68) = bI σ.t.g → CV mX10_copies [.ref 209, .int (nI 0), .int (nI (3 + c))] (sh, I3, R) (fun h1 => Ex mX10_keep 165 [.ref 209, .int (nI c), .int (bI (σ.kept c).isSome), xU, xU] [] h1 0 0 (xqI Q)) := by
      intro I3 hf3 ho h5 h60 e65 e66 e67 e68
      refine w_copies (m := 0) (m2 := 3 + c) hW (by decide) (by omega) (by omega) (fun I4 hf4 hg4 hc4 => bX10_keep_165 hW ?_)
      rw [nI_add]
      refine w_copies (m := 1) (m2 := 5 + c) hW (by decide) (by omega) (by omega) (fun I5 hf5 hg5 hc5 => bX10_keep_173 hW ⟨vp_nI (by omega) (by omega), ?_⟩)
      rw [nclamp (by omega), show vp_nar .boolean (nI 1) = nI 1 from rfl]
      have hfx : Fr [225] I5 (xi I5 225 c (nI 1)) := Fr.rf.xi (by simp)
      have hf : Fr [210, 225, 226] I (xi I5 225 c (nI 1)) := (((hf3.sub (by simp)).tr (hf4.sub (by simp))).tr (hf5.sub (by simp))).tr (hfx.sub (by simp))
      have hg : pgF [3 + c, 5 + c] I (xi I5 225 c (nI 1)) := (((pgF.of hf3 (by decide)).tr (hg4.up (by simp))).tr (hg5.up (by simp))).tr (pgF.of hfx (by decide))
      have pg : ∀ {m A}, m ≠ 3 + c → m ≠ 5 + c → mRep I σ.L m A → mRep (xi I5 225 c (nI 1)) σ.L m A := fun h1 h2 hA => hA.pg hg (by simp; omega) hL3
      have hA : mRep (xi I5 225 c (nI 1)) σ.L (3 + c) σ.t.A := by
        have a1 : mRep I4 σ.L (3 + c) σ.t.A := (h.A.fr hf3 (by decide)).copied hL3 hc4
        exact (a1.pg hg5 (by simp) hL3).fr hfx (by decide)
      have hG : σ.t.g = true → mRep (xi I5 225 c (nI 1)) σ.L (5 + c) σ.t.G := fun q => by
        have a1 : mRep I4 σ.L 1 σ.t.G := ((h.G q).fr hf3 (by decide)).pg hg4 (by simp; omega) hL3
        exact (a1.copied hL3 hc5).fr hfx (by decide)
      have e6 : ∀ i, xi I5 225 c (nI 1) 226 i = I3 226 i := fun i => by rw [xi_p (by decide), hf5.at 226 i (by decide), hf4.at 226 i (by decide)]
      have q9 : ∀ j, xi I5 225 c (nI 1) 209 j = I 209 j := fun j => hf.at 209 j (by decide)
      refine k _ ⟨⟨h.ok.p, h.ok.L1, h.ok.L3, h.ok.t, fun i τ hi => ?_, h.ok.shf, h.ok.word, h.ok.tape⟩, by rw [q9]; exact h.c1, by rw [q9]; exact h.c2, pg (by omega) (by omega) h.A, by rw [q9]; exact h.g, fun q => pg (by omega) (by omega) (h.G q), h.P.eq (q9 10) (hf _ (by decide)), h.S.eq (q9 11) (hf _ (by decide)), by rw [q9]; exact h.r, fun i hi => ?_, shf_same (σ := σ) h (hf _ (by decide)) (hf _ (by decide)) (hf _ (by decide)) (fun m A a b => pg (by omega) (by omega)), h.word.eq (q9 32) (hf _ (by decide)), h.tape.eq (q9 16) (hf _ (by decide)), by rw [q9]; exact h.fault, fun j hj => by rw [hf.at 219 j (by decide)]; exact h.nmE j hj, fun j hj => by rw [hf.at 220 j (by decide)]; exact h.nmL j hj⟩ (mFr.of hf (by simp))
      · have hi' : (if i = c then some σ.t else σ.kept i) = some τ := hi
        by_cases e : i = c
        · rw [if_pos e] at hi'; cases hi'; exact h.ok.t
        · rw [if_neg e] at hi'; exact h.ok.kept i τ hi'
      · show mKep _ σ.L i (if i = c then some σ.t else σ.kept i)
        by_cases e : i = c
        · subst e
          rw [if_pos rfl]
          refine ⟨xi_e, hA, hG, fun j hj => ?_, fun j hj => ?_, ?_, ?_, ?_, ?_⟩
          · rw [e6, h5 j (by omega)]; exact h.P.2 j hj
          · rw [e6, h60 j (by omega)]; exact h.S.2 j hj
          · rw [e6, e65]; exact h.P.1
          · rw [e6, e66]; exact h.S.1
          · rw [e6, e67]; exact h.r
          · rw [e6, e68]
        · rw [if_neg e]
          refine (h.kept i hi).eq2 (fun τ ht => (h.ok.kept i τ ht).bd) ?_ (fun d hd => ?_) (fun A => pg (by omega) (by omega)) (fun A => pg (by omega) (by omega))
          · rw [xi_s e, hf5.at 225 i (by decide), hf4.at 225 i (by decide), hf3.at 225 i (by decide)]
          · rw [e6, ho _ (by omega)]
    have loop2 : ∀ j i (I2 : Nat → Nat → Int32), i + j = 60 → Fr [226] I I2 → (∀ a, (a < 70 * c ∨ 70 * c + 70 ≤ a) → I2 226 a = I 226 a) → (∀ a, a < 5 → I2 226 (70 * c + a) = I 215 a) → (∀ a, a < i → I2 226 (70 * c + 5 + a) = I 216 a) → Ex mX10_keep 66 [.ref 209, .int (nI c), .int (bI (σ.kept c).isSome), .int (nI (70 * c)), .int (nI i)] [] (sh, I2, R) 0 0 (xqI Q) := by
      intro j
      induction j with
      | zero =>
        intro i I2 hi hf ho h5 h60
        refine bX10_keep_66 hW ⟨fun _ => ?_, fun q => absurd (nI_le (by omega) (by omega)) q⟩
        simp only [nI_add]
        refine ⟨vp_nI (by omega) (by omega), vp_nI (by omega) (by omega), vp_nI (by omega) (by omega), ?_⟩
        have w9 : ∀ j, I2 209 j = I 209 j := fun j => hf.at 209 j (by decide)
        rw [nclamp (by omega), nclamp (by omega), nclamp (by omega), nclamp (by omega), w9, w9, w9, w9, h.g]
        have go : ∀ g : Int32, g = bI σ.t.g → CV mX10_copies [.ref 209, .int (nI 0), .int (nI (3 + c))] (sh, xi (xi (xi (xi I2 226 (70 * c + 65) (I 209 10)) 226 (70 * c + 66) (I 209 11)) 226 (70 * c + 67) (I 209 12)) 226 (70 * c + 68) g, R) (fun h1 => Ex mX10_keep 165 [.ref 209, .int (nI c), .int (bI (σ.kept c).isSome), xU, xU] [] h1 0 0 (xqI Q)) := by
          intro g hg
          refine fin _ ((((hf.xi (by simp)).xi (by simp)).xi (by simp)).xi (by simp)) (fun a ha => by rw [xi_s (by omega), xi_s (by omega), xi_s (by omega), xi_s (by omega)]; exact ho a ha) (fun a ha => by rw [xi_s (by omega), xi_s (by omega), xi_s (by omega), xi_s (by omega)]; exact h5 a ha) (fun a ha => by rw [xi_s (by omega), xi_s (by omega), xi_s (by omega), xi_s (by omega)]; exact h60 a (by omega)) (by rw [xi_s (by omega), xi_s (by omega), xi_s (by omega), xi_e]) (by rw [xi_s (by omega), xi_s (by omega), xi_e]) (by rw [xi_s (by omega), xi_e]) (by rw [xi_e, hg])
        cases hgg : σ.t.g with
        | true => exact ⟨fun z => absurd z (by decide), fun _ => ⟨vp_nI (by omega) (by omega), go _ (by rw [hgg]; rfl)⟩⟩
        | false => exact ⟨fun _ => ⟨vp_nI (by omega) (by omega), go _ (by rw [hgg]; rfl)⟩, fun z => absurd rfl z⟩
      | succ j ih =>
        intro i I2 hi hf ho h5 h60
        refine bX10_keep_66 hW ⟨fun q => absurd q (nI_ge (by omega) (by omega)), fun _ => ?_⟩
        simp only [nI_add]
        refine ⟨vp_nI (by omega) (by omega), vp_nI (by omega) (by omega), ?_⟩
        rw [nclamp (by omega), nclamp (by omega)]
        refine ih (i + 1) _ (by omega) (hf.xi (by simp)) (fun a ha => by rw [xi_s (by omega)]; exact ho a ha) (fun a ha => by rw [xi_s (by omega)]; exact h5 a ha) (fun a ha => ?_)
        by_cases e : a = i
        · subst e; rw [xi_e, hf.at 216 a (by decide)]
        · rw [xi_s (by omega)]; exact h60 a (by omega)
    have loop1 : ∀ j i (I2 : Nat → Nat → Int32), i + j = 5 → Fr [226] I I2 → (∀ a, (a < 70 * c ∨ 70 * c + 70 ≤ a) → I2 226 a = I 226 a) → (∀ a, a < i → I2 226 (70 * c + a) = I 215 a) → Ex mX10_keep 35 [.ref 209, .int (nI c), .int (bI (σ.kept c).isSome), .int (nI (70 * c)), .int (nI i)] [] (sh, I2, R) 0 0 (xqI Q) := by
      intro j
      induction j with
      | zero =>
        intro i I2 hi hf ho h5
        exact bX10_keep_35 hW ⟨fun _ => loop2 60 0 I2 (by omega) hf ho (fun a ha => h5 a (by omega)) (fun a ha => by omega), fun q => absurd (nI_le (by omega) (by omega)) q⟩
      | succ j ih =>
        intro i I2 hi hf ho h5
        refine bX10_keep_35 hW ⟨fun q => absurd q (nI_ge (by omega) (by omega)), fun _ => ?_⟩
        simp only [nI_add]
        refine ⟨vp_nI (by omega) (by omega), vp_nI (by omega) (by omega), ?_⟩
        rw [nclamp (by omega), nclamp (by omega)]
        refine ih (i + 1) _ (by omega) (hf.xi (by simp)) (fun a ha => by rw [xi_s (by omega)]; exact ho a ha) (fun a ha => ?_)
        by_cases e : a = i
        · subst e; rw [xi_e, hf.at 215 a (by decide)]
        · rw [xi_s (by omega)]; exact h5 a (by omega)
    exact loop1 5 0 I (by omega) Fr.rf (fun a _ => rfl) (fun a ha => by omega)
  cases hkp : σ.kept c with
  | none =>
    rw [hkp] at hk
    have hk2 : I 225 c = nI 0 := hk
    rw [hk2]
    exact ⟨fun _ => rest _ (by rw [hkp]; rfl), fun z => absurd rfl z⟩
  | some τ =>
    rw [hkp] at hk
    rw [hk.1]
    exact ⟨fun z => absurd z (by decide), fun _ => rest _ (by rw [hkp]; rfl)⟩
theorem w_back {σ : St} {v : Int32} {Q : Int32 → xHp → Prop} (hW : xLay sh R) (h : mdR I σ) (k : ∀ I', mdR I' (backA σ v).2 → mFr I I' → Q (backA σ v).1 (sh, I', R)) : CI mX10_back [.ref 209, .int v] (sh, I, R) Q := by
  have hL3 := h.ok.L3
  unfold backA at k
  refine eX10_back (bX10_back_0 hW (w_inB (n := 2) hW (by decide) (by decide) (fun c hc hclt => ?_) (fun hn => ?_)))
  rotate_left
  · rw [if_neg hn] at k
    exact bX10_back_7 hW ⟨fun z => absurd rfl z, fun _ => k I h mFr.rf⟩
  subst hc
  rw [if_pos ((inB_n (by omega)).mpr hclt), nN_n (by omega)] at k
  refine bX10_back_7 hW ⟨fun _ => ⟨vp_nI (by omega) (by omega), ?_⟩, fun z => absurd z (by decide)⟩
  rw [nclamp (by omega), pk_mul]
  have hk := h.kept c hclt
  cases hkp : σ.kept c with
  | none =>
    rw [hkp] at hk k
    have hk2 : I 225 c = nI 0 := hk
    rw [hk2]
    exact ⟨fun z => absurd rfl z, fun _ => k I h mFr.rf⟩
  | some τ =>
    rw [hkp] at hk k
    dsimp only at k
    have htb := h.ok.kept c τ hkp
    have hbd := htb.bd
    obtain ⟨a1, a2, a3, a4, a5, a6, a7, a8, a9⟩ := id hk
    rw [a1]
    refine ⟨fun _ => ?_, fun z => absurd z (by decide)⟩
    have loop2 : ∀ j i (I2 : Nat → Nat → Int32), i + j = 60 → Fr [215, 216] I I2 → (∀ a, a < 5 → I2 215 a = I 226 (70 * c + a)) → (∀ a, a < i → I2 216 a = I 226 (70 * c + 5 + a)) → Ex mX10_back 58 [.ref 209, .int (nI c), .int (nI (70 * c)), .int (nI i)] [] (sh, I2, R) 0 0 (xqI Q) := by
      intro j
      induction j with
      | zero =>
        intro i I2 hi hf h5 h60
        refine bX10_back_58 hW ⟨fun _ => ?_, fun q => absurd (nI_le (by omega) (by omega)) q⟩
        simp only [nI_add]
        refine ⟨vp_nI (by omega) (by omega), vp_nI (by omega) (by omega), vp_nI (by omega) (by omega), vp_nI (by omega) (by omega), ?_⟩
        have w6 : ∀ j, I2 226 j = I 226 j := fun j => hf.at 226 j (by decide)
        rw [nclamp (by omega), nclamp (by omega), nclamp (by omega), nclamp (by omega), w6, w6, w6, w6, a6, a7, a8, a9]
        have go : ∀ g : Int32, g = bI τ.g → CV mX10_copies [.ref 209, .int (nI (3 + c)), .int (nI 0)] (sh, xi (xi (xi (xi I2 209 10 (nI τ.P.length)) 209 11 (nI τ.S.length)) 209 12 τ.r) 209 3 g, R) (fun h1 => Ex mX10_back 155 [.ref 209, .int (nI c), xU, xU] [] h1 0 0 (xqI Q)) := by
          intro g hg
          generalize hI3 : xi (xi (xi (xi I2 209 10 (nI τ.P.length)) 209 11 (nI τ.S.length)) 209 12 τ.r) 209 3 g = I3
          have hf3 : Fr [209] I2 I3 := by rw [← hI3]; exact (((Fr.rf.xi (by simp)).xi (by simp)).xi (by simp)).xi (by simp)
          have h39 : ∀ j, j ≠ 10 → j ≠ 11 → j ≠ 12 → j ≠ 3 → I3 209 j = I 209 j := fun j b1 b2 b3 b4 => by rw [← hI3, xi_s b4, xi_s b3, xi_s b2, xi_s b1, hf.at 209 j (by decide)]
          refine w_copies (m := 3 + c) (m2 := 0) hW (by omega) (by decide) (by omega) (fun I4 hf4 hg4 hc4 => bX10_back_155 hW ?_)
          rw [nI_add]
          refine w_copies (m := 5 + c) (m2 := 1) hW (by omega) (by decide) (by omega) (fun I5 hf5 hg5 hc5 => bX10_back_163 hW (w_many (m := 0) hW (by decide) (bX10_back_168 hW ?_)))
          have f03 : Fr [209, 215, 216] I I3 := (hf.sub (by simp)).tr (hf3.sub (by simp))
          have f35 : Fr [210] I3 I5 := hf4.tr hf5
          have fa : Fr [209, 210, 215, 216] I I5 := (f03.sub (by simp)).tr (f35.sub (by simp))
          have g05 : pgF [0, 1] I I5 := ((pgF.of f03 (by decide)).tr (hg4.up (by simp))).tr (hg5.up (by simp))
          have rA : mRep I5 σ.L 0 τ.A := ((a2.fr f03 (by decide)).copied hL3 hc4).pg hg5 (by simp) hL3
          have q9 : ∀ j, I5 209 j = I3 209 j := fun j => f35.at 209 j (by decide)
          have rG : τ.g = true → mRep I5 σ.L 1 τ.G := fun q => (((a3 q).fr f03 (by decide)).pg hg4 (by simp) hL3).copied hL3 hc5
          rw [rA.2.1]
          refine k I5 (h.t' htb (fr_q fa (by decide)) (fun j hj => ?_) (g05.up (by simp)) rA ?_ rG ⟨?_, fun j hj => ?_⟩ ⟨?_, fun j hj => ?_⟩ ?_) (mFr.of fa (by simp))
          · have : j ≠ 10 ∧ j ≠ 11 ∧ j ≠ 12 ∧ j ≠ 3 := by revert hj; simp; omega
            rw [q9, h39 j this.1 this.2.1 this.2.2.1 this.2.2.2]
          · rw [q9, ← hI3, xi_e, hg]
          · rw [q9, ← hI3, xi_s (by decide), xi_s (by decide), xi_s (by decide), xi_e]
          · rw [f35.at 215 j (by decide), hf3.at 215 j (by decide), h5 j (by omega)]; exact a4 j hj
          · rw [q9, ← hI3, xi_s (by decide), xi_s (by decide), xi_e]
          · rw [f35.at 216 j (by decide), hf3.at 216 j (by decide), h60 j (by omega)]; exact a5 j hj
          · rw [q9, ← hI3, xi_s (by decide), xi_e]
        cases hgg : τ.g with
        | true => exact ⟨fun z => absurd rfl z, fun _ => go _ (by rw [hgg]; rfl)⟩
        | false => exact ⟨fun _ => go _ (by rw [hgg]; rfl), fun z => absurd z (by decide)⟩
      | succ j ih =>
        intro i I2 hi hf h5 h60
        refine bX10_back_58 hW ⟨fun q => absurd q (nI_ge (by omega) (by omega)), fun _ => ?_⟩
        simp only [nI_add]
        refine ⟨vp_nI (by omega) (by omega), vp_nI (by omega) (by omega), ?_⟩
        rw [nclamp (by omega), nclamp (by omega)]
        refine ih (i + 1) _ (by omega) (hf.xi (by simp)) (fun a ha => by rw [xi_p (by decide)]; exact h5 a ha) (fun a ha => ?_)
        by_cases e : a = i
        · subst e; rw [xi_e, hf.at 226 _ (by decide)]
        · rw [xi_s (by omega)]; exact h60 a (by omega)
    have loop1 : ∀ j i (I2 : Nat → Nat → Int32), i + j = 5 → Fr [215, 216] I I2 → (∀ a, a < i → I2 215 a = I 226 (70 * c + a)) → Ex mX10_back 31 [.ref 209, .int (nI c), .int (nI (70 * c)), .int (nI i)] [] (sh, I2, R) 0 0 (xqI Q) := by
      intro j
      induction j with
      | zero =>
        intro i I2 hi hf h5
        exact bX10_back_31 hW ⟨fun _ => loop2 60 0 I2 (by omega) hf (fun a ha => h5 a (by omega)) (fun a ha => by omega), fun q => absurd (nI_le (by omega) (by omega)) q⟩
      | succ j ih =>
        intro i I2 hi hf h5
        refine bX10_back_31 hW ⟨fun q => absurd q (nI_ge (by omega) (by omega)), fun _ => ?_⟩
        simp only [nI_add]
        refine ⟨vp_nI (by omega) (by omega), vp_nI (by omega) (by omega), ?_⟩
        rw [nclamp (by omega), nclamp (by omega)]
        refine ih (i + 1) _ (by omega) (hf.xi (by simp)) (fun a ha => ?_)
        by_cases e : a = i
        · subst e; rw [xi_e, hf.at 226 _ (by decide)]
        · rw [xi_s (by omega)]; exact h5 a (by omega)
    exact loop1 5 0 I (by omega) Fr.rf (fun a ha => by omega)
end MODX
