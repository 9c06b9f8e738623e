section MODZ
variable {sh : List xSh} {I : Nat → Nat → Int32} {R : Nat → Nat → Option Nat}
theorem mdR.shf' {I I' : Nat → Nat → Int32} {σ : St} {f : Nat → Option Shf} (h : mdR I σ) (ok : ∀ k s, f k = some s → shOK σ.p σ.L s) (hf : Fr [210, 227, 228, 229] I I') (hpg : ∀ i, i < 57 * 7 → I' 210 i = I 210 i) (hs : ∀ k, k < 3 → mShf I' σ.L k (f k)) : mdR I' (σ.set_shf f) := by
  have pg : ∀ {m A}, m < 7 → mRep I σ.L m A → mRep I' σ.L m A := fun hm hA => by
    have hL := h.ok.L3
    obtain ⟨h1, h2, h3, h4, h5⟩ := hA
    exact ⟨h1, by rw [hpg _ (by omega)]; exact h2, fun s hs => by rw [hpg _ (by omega)]; exact h3 s hs, fun s hs => by rw [hpg _ (by omega)]; exact h4 s hs, fun s x t a b c => by rw [hpg _ (by omega)]; exact h5 s x t a b c⟩
  have q9 : ∀ j, I' 209 j = I 209 j := fun j => hf.at 209 j (by decide)
  exact ⟨⟨h.ok.p, h.ok.L1, h.ok.L3, h.ok.t, h.ok.kept, ok, h.ok.word, h.ok.tape⟩, by rw [q9]; exact h.c1, by rw [q9]; exact h.c2, pg (by decide) h.A, by rw [q9]; exact h.g, fun q => pg (by decide) (h.G q), h.P.eq (q9 10) (hf _ (by decide)), h.S.eq (q9 11) (hf _ (by decide)), by rw [q9]; exact h.r, fun k hk => (h.kept k hk).eq (hf _ (by decide)) (hf _ (by decide)) (fun A => pg (by omega)) (fun A => pg (by omega)), hs, h.word.eq (q9 32) (hf _ (by decide)), h.tape.eq (q9 16) (hf _ (by decide)), by rw [q9]; exact h.fault, fun j hj => by rw [hf 219 (by decide)]; exact h.nmE j hj, fun j hj => by rw [hf 220 (by decide)]; exact h.nmL j hj⟩
theorem w_take {σ : St} {v lane i : Int32} {Q : Int32 → xHp → Prop} (hW : xLay sh R) (h : mdR I σ) (k : ∀ I', mdR I' (takeA σ v lane i).2 → mFr I I' → Q (takeA σ v lane i).1 (sh, I', R)) : CI mX10_take [.ref 209, .int v, .int lane, .int i] (sh, I, R) Q := by
  have hL3 := h.ok.L3
  unfold takeA at k
  refine eX10_take (bX10_take_0 hW (w_isShelf hW (fun c hc hclt => ?_) (fun hn => ?_)))
  · subst hc
    refine bX10_take_4 hW ⟨fun z => absurd z (by decide), fun _ => w_inB (n := 3) hW (by decide) (by decide) (fun l hl hllt => ?_) (fun hn => ?_)⟩
    rotate_left
    · rw [if_neg (fun z => hn z.2)] at k
      exact bX10_take_16 hW ⟨fun z => absurd rfl z, fun _ => k I h mFr.rf⟩
    have hlane : inB lane 3 := by rw [hl, inB_n (by omega)]; exact hllt
    rw [if_pos ⟨(inB_n (by omega)).mpr hclt, hlane⟩, nN_n (by omega)] at k
    have h5 := foundF_le (σ.shf c) lane i
    refine bX10_take_16 hW ⟨fun _ => w_foundIn hW h hclt (bX10_take_28 hW ⟨fun q => ?_, fun q => ?_⟩), fun z => absurd z (by decide)⟩
    · have h0 : foundF (σ.shf c) lane i = 0 := by
        rcases Nat.eq_zero_or_pos (foundF (σ.shf c) lane i) with z | z
        · exact z
        · exact absurd q (nI_ge (b := foundF (σ.shf c) lane i) (a := 0) z (by omega))
      rw [if_pos h0] at k
      have hc0 : cellF (σ.shf c) lane i = 0 := by
        unfold foundF at h0
        by_cases z : cellF (σ.shf c) lane i = 0
        · exact z
        · rw [if_neg z] at h0; exact h0
      obtain ⟨s, hs, hin⟩ := cellF_0 hc0
      obtain ⟨e1, e2⟩ := inB_N hin
      obtain ⟨o1, o2, o3⟩ := h.ok.shf c s hs
      have hsh := h.shf c hclt
      rw [hs] at hsh
      have hcell := hsh.2.2 (nN i) e2
      have ecell : cellAt (σ.shf c) (nN i) = s.cell (nN i) := by rw [hs]; rfl
      have hi2 : nI 7 + nI 8 * nI c + i = nI (7 + (8 * c + nN i)) := by rw [e1, nN_n (by omega), pk_mul, nI_add, nI_add, Nat.add_assoc]
      rw [hi2]
      rw [ecell] at k
      unfold foundF at h0
      rw [if_pos hc0, ecell] at h0
      cases hce : s.cell (nN i) with
      | none => rw [hce] at h0; exact absurd h0 (by decide)
      | some x =>
        obtain ⟨sc, M⟩ := x
        rw [hce] at hcell k
        have hM := o3 (nN i) sc M hce
        refine w_copies (m := 7 + (8 * c + nN i)) (m2 := 0) hW (by omega) (by decide) (by omega) (fun I2 hf2 hg2 hc2 => bX10_take_55 hW ?_)
        refine w_anewP (A := M) hW h hf2 (hg2.up (by simp)) (hcell.2.copied hL3 hc2) hM.2.2.2 (fun I' h1 h2 h3 => bX10_take_59 hW (w_many (m := 0) hW (by decide) (bX10_take_64 hW ?_)))
        rw [h3.2.1]
        exact k I' h1 h2
    · have h0 : foundF (σ.shf c) lane i ≠ 0 := fun z => q (by rw [z]; decide)
      rw [if_neg h0] at k
      exact k I h mFr.rf
  · rw [if_neg (fun z => hn z.1)] at k
    exact bX10_take_4 hW ⟨fun _ => k I h mFr.rf, fun z => absurd rfl z⟩
theorem w_shelf {σ : St} {v lane n : Int32} {Q : Int32 → xHp → Prop} (hW : xLay sh R) (h : mdR I σ) (k : ∀ I', mdR I' (shelfA σ v lane n).2 → mFr I I' → Q (shelfA σ v lane n).1 (sh, I', R)) : CI mX10_shelf [.ref 209, .int v, .int lane, .int n] (sh, I, R) Q := by
  have hL3 := h.ok.L3
  unfold shelfA at k
  have no : ¬ (inB v 3 ∧ inB lane 3 ∧ n.toInt ≤ 8) → Q (-1) (sh, I, R) := fun hn => by
    rw [if_neg hn] at k
    exact k I h mFr.rf
  have e8 : (nI 8).toInt = 8 := by decide
  refine eX10_shelf (bX10_shelf_0 hW (w_isShelf hW (fun c hc hclt => ?_) (fun hn => bX10_shelf_4 hW ⟨fun _ => no (fun z => hn z.1), fun z => absurd rfl z⟩)))
  refine bX10_shelf_4 hW ⟨fun z => absurd z (by decide), fun _ => w_inB (n := 3) hW (by decide) (by decide) (fun l hl hllt => ?_) (fun hn => bX10_shelf_16 hW ⟨fun _ => no (fun z => hn z.2.1), fun z => absurd rfl z⟩)⟩
  refine bX10_shelf_16 hW ⟨fun z => absurd z (by decide), fun _ => ⟨fun q => ?_, fun q => no (fun z => q (Int32.le_iff_toInt_le.mpr (by rw [e8]; exact z.2.2)))⟩⟩
  have hn8 : n.toInt ≤ 8 := by have := Int32.le_iff_toInt_le.mp q; rw [e8] at this; exact this
  subst hc; subst hl
  rw [if_pos ⟨(inB_n (by omega)).mpr hclt, (inB_n (by omega)).mpr hllt, hn8⟩, nN_n (by omega), nN_n (by omega)] at k
  refine ⟨fun q0 => ⟨vp_nI (by omega) (by omega), vp_nI (by omega) (by omega), ?_⟩, fun q0 => ?_⟩
  · have hn0 := le0_n q0
    rw [if_neg (by omega)] at k
    obtain ⟨e1, e2⟩ := inB_N (v := n) (n := 9) ⟨hn0, by omega⟩
    generalize nN n = m at *
    subst e1
    rw [nclamp (by omega)]
    have loop : ∀ j i (I2 : Nat → Nat → Int32), i + j = 8 → Fr [227, 228, 229] I I2 → I2 227 c = nI l → I2 228 c = nI m → (∀ a, a ≠ c → I2 227 a = I 227 a ∧ I2 228 a = I 228 a) → (∀ a, (a < 8 * c ∨ 8 * c + 8 ≤ a) → I2 229 a = I 229 a) → (∀ a, a < i → I2 229 (8 * c + a) = -4) → Ex mX10_shelf 51 [.ref 209, .int (nI c), xU, xU, .int (nI i)] [] (sh, I2, R) 0 0 (xqI Q) := by
      intro j
      induction j with
      | zero =>
        intro i I2 hi hf h7 h8 ho1 ho2 hz
        refine bX10_shelf_51 hW ⟨fun _ => ?_, fun q => absurd (nI_le (by omega) (by omega)) q⟩
        refine k I2 (h.shf' (fun a s ha => ?_) (hf.sub (by simp)) (fun i _ => hf.at 210 i (by decide)) (fun a ha => ?_)) (mFr.of hf (by simp))
        · have ha' : (if a = c then some (Shf.mk l m (fun _ => none)) else σ.shf a) = some s := ha
          by_cases e : a = c
          · rw [if_pos e] at ha'; cases ha'
            exact ⟨by show l ≤ 2; omega, by show m ≤ 8; omega, fun i k M hM => absurd (show none = some (k, M) from hM) (by simp)⟩
          · rw [if_neg e] at ha'; exact h.ok.shf a s ha'
        · show mShf I2 σ.L a (if a = c then some (Shf.mk l m (fun _ => none)) else σ.shf a)
          by_cases e : a = c
          · subst e
            rw [if_pos rfl]
            exact ⟨h7, h8, fun i hi2 => hz i (by have : i < m := hi2; omega)⟩
          · rw [if_neg e]
            exact (h.shf a ha).eq (fun s e => (h.ok.shf a s e).2.1) (ho1 a e).1 (ho1 a e).2 (fun i hi => ho2 _ (by omega)) (fun i A hi hA => hA.fr hf (by decide))
      | succ j ih =>
        intro i I2 hi hf h7 h8 ho1 ho2 hz
        refine bX10_shelf_51 hW ⟨fun q => absurd q (nI_ge (by omega) (by omega)), fun _ => ?_⟩
        simp only [pk_mul, nI_add]
        refine ⟨vp_nI (by omega) (by omega), ?_⟩
        rw [nclamp (by omega)]
        refine ih (i + 1) _ (by omega) (hf.xi (by simp)) (by rw [xi_p (by decide)]; exact h7) (by rw [xi_p (by decide)]; exact h8) (fun a ha => by rw [xi_p (by decide), xi_p (by decide)]; exact ho1 a ha) (fun a ha => by rw [xi_s (by omega)]; exact ho2 a ha) (fun a ha => ?_)
        by_cases e : a = i
        · subst e; rw [xi_e]
        · rw [xi_s (by omega)]; exact hz a (by omega)
    refine loop 8 0 _ (by omega) ((Fr.rf.xi (by simp)).xi (by simp)) (by rw [xi_p (by decide), xi_e]) xi_e (fun a ha => ⟨by rw [xi_p (by decide), xi_s ha], by rw [xi_s ha, xi_p (by decide)]⟩) (fun a _ => by rw [xi_p (by decide), xi_p (by decide)]) (fun a ha => by omega)
  · rw [if_pos] at k
    · exact k I h mFr.rf
    · by_cases y : n.toInt < 0
      · exact y
      · exact absurd (Int32.le_iff_toInt_le.mpr (by simp; omega)) q0
end MODZ
