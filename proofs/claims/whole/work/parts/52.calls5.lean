/-! THE REFERENCE'S CALLS: changes of the teacher -/
def mNil : Mac := (0, fun _ => 0, fun _ => 0, fun _ _ _ => 0)
def Tb.nw (A : Mac) : Tb := Tb.mk A false mNil [] [0] 0
def mSetS (A : Mac) (s v : Nat) : Mac := (A.1, fun a => if a = s then v else A.2.1 a, A.2.2)
def mSetE (A : Mac) (s v : Nat) : Mac := (A.1, A.2.1, fun a => if a = s then v else A.2.2.1 a, A.2.2.2)
def mSetW (A : Mac) (s x t v : Nat) : Mac := (A.1, A.2.1, A.2.2.1, fun a y b => if a = s ∧ y = x ∧ b = t then v else A.2.2.2 a y b)
def mGrow (A : Mac) : Mac := (A.1 + 1, fun a => if a = A.1 then 0 else A.2.1 a, fun a => if a = A.1 then 0 else A.2.2.1 a, fun a y b => if a = A.1 ∨ b = A.1 then 0 else A.2.2.2 a y b)
def mScale (p : Nat) (A : Mac) (v : Nat) : Mac := (A.1, fun a => A.2.1 a * v % p, A.2.2)
def mTurn (A : Mac) : Mac := (A.1, A.2.2.1, A.2.1, fun a y b => A.2.2.2 b y a)
def dropI (s a : Nat) : Nat := if a < s then a else a + 1
def mDrop (A : Mac) (s : Nat) : Mac := (A.1 - 1, fun a => A.2.1 (dropI s a), fun a => A.2.2.1 (dropI s a), fun a y b => A.2.2.2 (dropI s a) y (dropI s b))
def mJoin (A B : Mac) : Mac := (A.1 + B.1, fun a => if a < A.1 then A.2.1 a else B.2.1 (a - A.1), fun a => if a < A.1 then A.2.2.1 a else B.2.2.1 (a - A.1), fun a y b => if a < A.1 then (if b < A.1 then A.2.2.2 a y b else 0) else if b < A.1 then 0 else B.2.2.2 (a - A.1) y (b - A.1))
theorem tbOK_nw {p L : Nat} (hp : p ∈ PR) (hL : 0 < L) {A : Mac} (h4 : A.1 ≤ 4) (hok : okM p L A) : tbOK p L (Tb.nw A) := by
  have hnz : NeZero p := ⟨by have := PR_bd p hp; omega⟩
  refine ⟨hnz, h4, hok, fun q => absurd (show false = true from q) (by decide), ⟨fun i hi => absurd hi (Nat.not_lt_zero i), fun c hc => ?_, indp_0 _ _⟩, ⟨rfl, by show [0].Nodup; simp, fun w hw j hj => ?_⟩, fun _ => show 1 ≤ tbB 0 by decide, fun _ => show 1 ≤ tbB 1 by decide, show 0 ≤ 4 by decide, show 1 ≤ 42 by decide⟩
  · have hc1 : c < 1 := hc
    have : c = 0 := by omega
    subst this
    show wlen L 0 ≤ 7
    rw [wlen_0]; omega
  · have hw0 : w = 0 := by have : w ∈ [0] := hw; simpa using this
    subst hw0
    rw [wlen_0] at hj
    have : j = 0 := by omega
    subst this
    rw [lft_0 hL]
    show 0 ∈ [0]
    simp
section MODQ
variable {sh : List xSh} {I : Nat → Nat → Int32} {R : Nat → Nat → Option Nat}
theorem w_anew {σ : St} {A : Mac} {I1 : Nat → Nat → Int32} {Q : xHp → Prop} (hW : xLay sh R) (h : mdR I σ) (hq : ∀ q, q ∈ [218, 219, 220, 223, 225, 226, 227, 228, 229] → I1 q = I q) (h9 : ∀ j, j ∈ [1, 2, 16, 17, 32] → I1 209 j = I 209 j) (hpg : pgF [0, 1, 2, 31, 32] I I1) (hm : mFr I I1) (hA : mRep I1 σ.L 0 A) (hok : okM σ.p σ.L A)
    (k : ∀ I', mdR I' (σ.set_t (Tb.nw A)) → mFr I I' → mRep I' σ.L 0 A → Q (sh, I', R)) : CV mX10_anew [.ref 209] (sh, I1, R) Q := by
  refine eX10_anew (bX10_anew_0 hW ⟨vp_nI (by omega) (by omega), ?_⟩)
  generalize hI2 : xi (xi (xi (xi (xi I1 209 10 (nI 0)) 209 11 (nI 1)) 216 ((nI 0).toNatClampNeg) (nI 0)) 209 12 (nI 0)) 209 3 (nI 0) = I2
  have hf : Fr [209, 216] I1 I2 := by rw [← hI2]; exact ((((Fr.rf.xi (by simp)).xi (by simp)).xi (by simp)).xi (by simp)).xi (by simp)
  have h29 : ∀ j, j ≠ 10 → j ≠ 11 → j ≠ 12 → j ≠ 3 → I2 209 j = I1 209 j := fun j a b c d => by rw [← hI2, xi_s d, xi_s c, xi_p (by decide), xi_s b, xi_s a]
  refine k I2 (h.t' (tbOK_nw h.ok.p h.ok.L1 hA.1 hok) (fun q hq2 => by rw [hf q (fun z => by revert hq2 z; simp; omega)]; exact hq q hq2) (fun j hj => ?_) (hpg.tr (pgF.of hf (by decide))) (hA.fr hf (by decide)) ?_ (fun q => absurd (show false = true from q) (by decide)) ⟨?_, fun j hj => absurd hj (Nat.not_lt_zero j)⟩ ⟨?_, fun j hj => ?_⟩ ?_) (hm.tr (mFr.of hf (by simp))) (hA.fr hf (by decide))
  · have : j ≠ 10 ∧ j ≠ 11 ∧ j ≠ 12 ∧ j ≠ 3 := by revert hj; simp; omega
    rw [h29 j this.1 this.2.1 this.2.2.1 this.2.2.2]; exact h9 j hj
  · rw [← hI2, xi_e]; rfl
  · rw [← hI2, xi_s (by decide), xi_s (by decide), xi_p (by decide), xi_s (by decide), xi_e]; rfl
  · rw [← hI2, xi_s (by decide), xi_s (by decide), xi_p (by decide), xi_e]; rfl
  · have : j < 1 := hj
    have : j = 0 := by omega
    subst this
    rw [← hI2, xi_p (by decide), xi_p (by decide), nclamp (by omega), xi_e]; rfl
  · rw [← hI2, xi_s (by decide), xi_e]; rfl
/-- only the page has changed, at the teacher (and before) -/
theorem w_anewP {σ : St} {A : Mac} {I1 : Nat → Nat → Int32} {Q : xHp → Prop} (hW : xLay sh R) (h : mdR I σ) (hf : Fr [210] I I1) (hpg : pgF [0, 32] I I1) (hA : mRep I1 σ.L 0 A) (hok : okM σ.p σ.L A)
    (k : ∀ I', mdR I' (σ.set_t (Tb.nw A)) → mFr I I' → mRep I' σ.L 0 A → Q (sh, I', R)) : CV mX10_anew [.ref 209] (sh, I1, R) Q := w_anew hW h (fr_q hf (by decide)) (fun j _ => hf.at 209 j (by decide)) (hpg.up (by simp)) (mFr.of hf (by simp)) hA hok k
theorem w_isResidue {p L : Nat} {x : Int32} {Q : Int32 → xHp → Prop} (hW : xLay sh R) (hc : mCtx I p L) (k1 : ∀ b, x = nI b → b < p → Q (nI 1) (sh, I, R)) (k0 : ¬ inB x p → Q (nI 0) (sh, I, R)) : CI mX10_isResidue [.ref 209, .int x] (sh, I, R) Q := by
  obtain ⟨hp, -, hpr, -, -⟩ := hc
  have := PR_bd p hpr
  refine eX10_isResidue (bX10_isResidue_0 hW ?_)
  rw [hp]
  exact w_inB (n := p) hW (nI64m (by omega)) (by omega) (fun b hb hlt => bX10_isResidue_13 hW ⟨Or.inr rfl, k1 b hb hlt⟩) (fun hn => bX10_isResidue_13 hW ⟨Or.inl rfl, k0 hn⟩)
theorem mRep.setS {I : Nat → Nat → Int32} {L m s v : Nat} {A : Mac} (h : mRep I L m A) (hs : s < 4) (hL : L ≤ 3) : mRep (xi I 210 (57 * m + (1 + s)) (nI v)) L m (mSetS A s v) := by
  have h4 := h.1
  refine ⟨h4, by rw [xi_s (by omega)]; exact h.2.1, fun a ha => ?_, fun a ha => ?_, fun a y b ha hy hb => ?_⟩
  · show _ = nI (if a = s then v else A.2.1 a)
    by_cases e : a = s
    · subst e; rw [xi_e, if_pos rfl]
    · rw [xi_s (by omega), if_neg e]; exact h.2.2.1 a ha
  · have ha' : a < A.1 := ha
    rw [xi_s (by omega)]; exact h.2.2.2.1 a ha
  · have ha' : a < A.1 := ha
    have hb' : b < A.1 := hb
    rw [xi_s (by omega)]; exact h.2.2.2.2 a y b ha hy hb
theorem mRep.setE {I : Nat → Nat → Int32} {L m s v : Nat} {A : Mac} (h : mRep I L m A) (hs : s < 4) (hL : L ≤ 3) : mRep (xi I 210 (57 * m + (5 + s)) (nI v)) L m (mSetE A s v) := by
  have h4 := h.1
  refine ⟨h4, by rw [xi_s (by omega)]; exact h.2.1, fun a ha => ?_, fun a ha => ?_, fun a y b ha hy hb => ?_⟩
  · have ha' : a < A.1 := ha
    rw [xi_s (by omega)]; exact h.2.2.1 a ha
  · show _ = nI (if a = s then v else A.2.2.1 a)
    by_cases e : a = s
    · subst e; rw [xi_e, if_pos rfl]
    · have ha' : a < A.1 := ha
      rw [xi_s (by omega), if_neg e]; exact h.2.2.2.1 a ha
  · have ha' : a < A.1 := ha
    have hb' : b < A.1 := hb
    rw [xi_s (by omega)]; exact h.2.2.2.2 a y b ha hy hb
theorem mRep.setW {I : Nat → Nat → Int32} {L m s x t v : Nat} {A : Mac} (h : mRep I L m A) (hs : s < 4) (hx : x < 3) (ht : t < 4) (hL : L ≤ 3) : mRep (xi I 210 (57 * m + (9 + 12 * s + 4 * x + t)) (nI v)) L m (mSetW A s x t v) := by
  have h4 := h.1
  refine ⟨h4, by rw [xi_s (by omega)]; exact h.2.1, fun a ha => ?_, fun a ha => ?_, fun a y b ha hy hb => ?_⟩
  · have ha' : a < A.1 := ha
    rw [xi_s (by omega)]; exact h.2.2.1 a ha
  · have ha' : a < A.1 := ha
    rw [xi_s (by omega)]; exact h.2.2.2.1 a ha
  · have ha' : a < A.1 := ha
    have hb' : b < A.1 := hb
    show _ = nI (if a = s ∧ y = x ∧ b = t then v else A.2.2.2 a y b)
    by_cases e : a = s ∧ y = x ∧ b = t
    · obtain ⟨rfl, rfl, rfl⟩ := e; rw [xi_e, if_pos ⟨rfl, rfl, rfl⟩]
    · rw [xi_s (by omega), if_neg e]; exact h.2.2.2.2 a y b ha hy hb
def beginsA (σ : St) (s v : Int32) : Int32 × St := if inB s σ.t.A.1 ∧ inB v σ.p then (nI (σ.t.A.2.1 (nN s)), σ.set_t (Tb.nw (mSetS σ.t.A (nN s) (nN v)))) else (-1, σ)
def endsA (σ : St) (s v : Int32) : Int32 × St := if inB s σ.t.A.1 ∧ inB v σ.p then (nI (σ.t.A.2.2.1 (nN s)), σ.set_t (Tb.nw (mSetE σ.t.A (nN s) (nN v)))) else (-1, σ)
def leadsA (σ : St) (s x t v : Int32) : Int32 × St := if inB s σ.t.A.1 ∧ inB x σ.L ∧ inB t σ.t.A.1 ∧ inB v σ.p then (nI (σ.t.A.2.2.2 (nN s) (nN x) (nN t)), σ.set_t (Tb.nw (mSetW σ.t.A (nN s) (nN x) (nN t) (nN v)))) else (-1, σ)
theorem w_begins {σ : St} {s v : Int32} {Q : Int32 → xHp → Prop} (hW : xLay sh R) (h : mdR I σ) (k : ∀ I', mdR I' (beginsA σ s v).2 → mFr I I' → Q (beginsA σ s v).1 (sh, I', R)) : CI mX10_begins [.ref 209, .int s, .int v] (sh, I, R) Q := by
  obtain ⟨_, h4, hok, -⟩ := h.ok.t
  have hp := PR_bd _ h.ok.p
  unfold beginsA at k
  refine eX10_begins (bX10_begins_0 hW (eX10_marks (bX10_marks_0 hW (w_isState (a := 0) hW (by decide) rfl h.A (fun b hb hlt => ?_) (fun hn => ?_)))))
  · refine bX10_marks_6 hW ⟨fun z => absurd z (by decide), fun _ => w_isResidue hW h.ctx (fun c hc hclt => ?_) (fun hn => ?_)⟩
    · subst hb; subst hc
      rw [if_pos ⟨(inB_n (by omega)).mpr hlt, (inB_n (by omega)).mpr hclt⟩, nN_n (by omega), nN_n (by omega)] at k
      refine bX10_marks_14 hW ⟨fun _ => ?_, fun z => absurd z (by decide)⟩
      rw [nI_add]
      refine w_at (m := 0) hW (bX10_marks_31 hW ⟨vp_nI (by omega) (by omega), ?_⟩)
      rw [nI_add, nclamp (by omega), h.A.2.2.1 b hlt]
      refine w_at (m := 0) hW (bX10_marks_46 hW ⟨vp_nI (by omega) (by omega), ?_⟩)
      rw [nclamp (by omega)]
      refine w_anewP hW h (Fr.rf.xi (by simp)) (pgF.rf.xi (m := 0) (by simp) (by omega)) (h.A.setS (by omega) h.ok.L3) ⟨fun a ha => ?_, hok.2.1, hok.2.2⟩ (fun I' h1 h2 _ => bX10_marks_52 hW (bX10_begins_7 hW (k I' h1 h2)))
      show (if a = b then c else σ.t.A.2.1 a) < σ.p
      split
      · exact hclt
      · exact hok.1 a ha
    · rw [if_neg (fun z => hn z.2)] at k
      exact bX10_marks_14 hW ⟨fun z => absurd rfl z, fun _ => bX10_begins_7 hW (k I h mFr.rf)⟩
  · rw [if_neg (fun z => hn z.1)] at k
    exact bX10_marks_6 hW ⟨fun _ => bX10_begins_7 hW (k I h mFr.rf), fun z => absurd rfl z⟩
theorem w_ends {σ : St} {s v : Int32} {Q : Int32 → xHp → Prop} (hW : xLay sh R) (h : mdR I σ) (k : ∀ I', mdR I' (endsA σ s v).2 → mFr I I' → Q (endsA σ s v).1 (sh, I', R)) : CI mX10_ends [.ref 209, .int s, .int v] (sh, I, R) Q := by
  obtain ⟨_, h4, hok, -⟩ := h.ok.t
  have hp := PR_bd _ h.ok.p
  unfold endsA at k
  refine eX10_ends (bX10_ends_0 hW (eX10_marks (bX10_marks_0 hW (w_isState (a := 0) hW (by decide) rfl h.A (fun b hb hlt => ?_) (fun hn => ?_)))))
  · refine bX10_marks_6 hW ⟨fun z => absurd z (by decide), fun _ => w_isResidue hW h.ctx (fun c hc hclt => ?_) (fun hn => ?_)⟩
    · subst hb; subst hc
      rw [if_pos ⟨(inB_n (by omega)).mpr hlt, (inB_n (by omega)).mpr hclt⟩, nN_n (by omega), nN_n (by omega)] at k
      refine bX10_marks_14 hW ⟨fun _ => ?_, fun z => absurd z (by decide)⟩
      rw [nI_add]
      refine w_at (m := 0) hW (bX10_marks_31 hW ⟨vp_nI (by omega) (by omega), ?_⟩)
      rw [nI_add, nclamp (by omega), h.A.2.2.2.1 b hlt]
      refine w_at (m := 0) hW (bX10_marks_46 hW ⟨vp_nI (by omega) (by omega), ?_⟩)
      rw [nclamp (by omega)]
      refine w_anewP hW h (Fr.rf.xi (by simp)) (pgF.rf.xi (m := 0) (by simp) (by omega)) (h.A.setE (by omega) h.ok.L3) ⟨hok.1, fun a ha => ?_, hok.2.2⟩ (fun I' h1 h2 _ => bX10_marks_52 hW (bX10_ends_7 hW (k I' h1 h2)))
      show (if a = b then c else σ.t.A.2.2.1 a) < σ.p
      split
      · exact hclt
      · exact hok.2.1 a ha
    · rw [if_neg (fun z => hn z.2)] at k
      exact bX10_marks_14 hW ⟨fun z => absurd rfl z, fun _ => bX10_ends_7 hW (k I h mFr.rf)⟩
  · rw [if_neg (fun z => hn z.1)] at k
    exact bX10_marks_6 hW ⟨fun _ => bX10_ends_7 hW (k I h mFr.rf), fun z => absurd rfl z⟩
theorem w_leads {σ : St} {s x t v : Int32} {Q : Int32 → xHp → Prop} (hW : xLay sh R) (h : mdR I σ) (k : ∀ I', mdR I' (leadsA σ s x t v).2 → mFr I I' → Q (leadsA σ s x t v).1 (sh, I', R)) : CI mX10_leads [.ref 209, .int s, .int x, .int t, .int v] (sh, I, R) Q := by
  obtain ⟨_, h4, hok, -⟩ := h.ok.t
  have hp := PR_bd _ h.ok.p
  have hL3 := h.ok.L3
  unfold leadsA at k
  have no : ¬ (inB s σ.t.A.1 ∧ inB x σ.L ∧ inB t σ.t.A.1 ∧ inB v σ.p) → Q (-1) (sh, I, R) := fun hn => by
    rw [if_neg hn] at k
    exact k I h mFr.rf
  refine eX10_leads (bX10_leads_0 hW (w_isState (a := 0) hW (by decide) rfl h.A (fun b hb hlt => ?_) (fun hn => bX10_leads_6 hW ⟨fun _ => no (fun z => hn z.1), fun z => absurd rfl z⟩)))
  refine bX10_leads_6 hW ⟨fun z => absurd z (by decide), fun _ => w_isLetter hW h.ctx (fun y hy hylt => ?_) (fun hn => bX10_leads_14 hW ⟨fun _ => no (fun z => hn z.2.1), fun z => absurd rfl z⟩)⟩
  refine bX10_leads_14 hW ⟨fun z => absurd z (by decide), fun _ => w_isState (a := 0) hW (by decide) rfl h.A (fun d hd hdlt => ?_) (fun hn => bX10_leads_23 hW ⟨fun _ => no (fun z => hn z.2.2.1), fun z => absurd rfl z⟩)⟩
  refine bX10_leads_23 hW ⟨fun z => absurd z (by decide), fun _ => w_isResidue hW h.ctx (fun c hc hclt => ?_) (fun hn => bX10_leads_32 hW ⟨fun z => absurd rfl z, fun _ => no (fun z => hn z.2.2.2)⟩)⟩
  subst hb; subst hc; subst hd; subst hy
  rw [if_pos ⟨(inB_n (by omega)).mpr hlt, (inB_n (by omega)).mpr hylt, (inB_n (by omega)).mpr hdlt, (inB_n (by omega)).mpr hclt⟩, nN_n (by omega), nN_n (by omega), nN_n (by omega), nN_n (by omega)] at k
  refine bX10_leads_32 hW ⟨fun _ => w_weight (m := 0) hW (by decide) (by omega) (by omega) (by omega) (bX10_leads_45 hW ?_), fun z => absurd z (by decide)⟩
  rw [h.A.2.2.2.2 b y d hlt hylt hdlt]
  refine w_weighs (m := 0) hW (by decide) (by omega) (by omega) (by omega) (bX10_leads_57 hW ?_)
  refine w_anewP hW h (Fr.rf.xi (by simp)) (pgF.rf.xi (m := 0) (by simp) (by omega)) (h.A.setW (by omega) (by omega) (by omega) hL3) ⟨hok.1, hok.2.1, fun a z e ha hz he => ?_⟩ (fun I' h1 h2 _ => bX10_leads_61 hW (k I' h1 h2))
  show (if a = b ∧ z = y ∧ e = d then c else σ.t.A.2.2.2 a z e) < σ.p
  split
  · exact hclt
  · exact hok.2.2 a z e ha hz he
end MODQ
