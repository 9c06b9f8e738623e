/-! THE CLASS'S CALLS: changes of the teacher, images, shelves, tape, word -/
section CCHG
variable {sh : List xSh} {I : Nat → Nat → Int32} {R : Nat → Nat → Option Nat}
theorem k_changed {σ : St} {A : Mac} {I1 : Nat → Nat → Int32} {R1 : Nat → Nat → Option Nat} {Q : xHp → Prop} (h : clR sh I R σ) (e : ∀ c, (1 ≤ c ∧ c < 12) ∨ (16 ≤ c ∧ c < 23) ∨ 178 ≤ c → I1 c = I c) (e0 : ∀ j, j ≠ 11 → I1 0 j = I 0 j) (e9 : I1 169 1 = I 169 1) (e3 : I1 173 1 = nI 4) (hr : rG R R1) (hh : ∃ a b, hT R1 a b) (hA : cM I1 σ.L 12 4 A) (hok : okM σ.p σ.L A)
    (k : ∀ I', clR sh I' R1 (σ.set_t (Tb.nw A)) → cFr I I' → I' 12 2 = nI A.1 → Q (sh, I', R1)) : CV mX9_changed [.ref 0] (sh, I1, R1) Q := by
  have hW1 := hr.lay h.lay
  refine eX9_changed (bX9_changed_0 hW1 (eX8_renew (bX8_renew_0 hW1 hW1.2.2.1 ⟨vp_nI (by omega) (by omega), bX9_changed_12 hW1 ?_⟩)))
  rw [nclamp (by omega)]
  generalize hI2 : xi (xi (xi (xi (xi (xi I1 0 11 (nI 0)) 9 5 (nI 0)) (9 + 2) 0 (nI 0)) 9 6 (nI 1)) 9 7 (nI 0)) 9 8 (nI 0) = I2
  have g : ∀ c, c ≠ 0 → c ≠ 9 → c ≠ 11 → I2 c = I1 c := fun c h1 h2 h3 => by rw [← hI2]; funext j; rw [xi_p h2, xi_p h2, xi_p h2, xi_p (by omega), xi_p h2, xi_p h1]
  have g0 : ∀ j, j ≠ 11 → I2 0 j = I1 0 j := fun j hj => by rw [← hI2, xi_p (by decide), xi_p (by decide), xi_p (by decide), xi_p (by decide), xi_p (by decide), xi_s hj]
  have hst := h.st
  refine k I2 (h.t' (τ := Tb.nw A) (tbOK_nw h.ok.p h.ok.L1 hA.1 hok) (fun c hc => ?_) (fun j hj => by rw [g0 j hj, e0 j hj]) (by rw [g 169 (by decide) (by decide) (by decide)]; exact e9) (by rw [g 173 (by decide) (by decide) (by decide)]; exact e3) ?_ hr hh ⟨?_, ?_, fun q => absurd (show false = true from q) (by decide), ?_, ?_, fun j hj => absurd hj (Nat.not_lt_zero j), ?_, fun j hj => ?_, ?_⟩ (Or.inl ?_)) (fun c h1 h2 => by rw [g c (by omega) (by omega) (by omega)]; exact e c (by omega)) ?_
  · rw [g c (by omega) (by omega) (by omega)]; exact e c (by omega)
  · rw [g 16 (by decide) (by decide) (by decide), e 16 (by omega)]; exact h.mc.1 16 (by decide)
  · exact hA.eq (g 12 (by decide) (by decide) (by decide)) (g 13 (by decide) (by decide) (by decide)) (g 14 (by decide) (by decide) (by decide)) (g 15 (by decide) (by decide) (by decide))
  · rw [← hI2, xi_e]; rfl
  · rw [g 16 (by decide) (by decide) (by decide), e 16 (by omega)]; exact hst.2.2.2.1
  · rw [← hI2, xi_s (by decide), xi_s (by decide), xi_s (by decide), xi_p (by decide), xi_e]; rfl
  · rw [← hI2, xi_s (by decide), xi_s (by decide), xi_e]; rfl
  · have hj0 : j = 0 := by have : j < 1 := hj; omega
    subst hj0
    show I2 11 0 = _
    rw [← hI2, xi_p (by decide), xi_p (by decide), xi_p (by decide), xi_e]; rfl
  · rw [← hI2, xi_s (by decide), xi_e]; rfl
  · rw [← hI2, xi_p (by decide), xi_p (by decide), xi_p (by decide), xi_p (by decide), xi_p (by decide), xi_e]
  · rw [g 12 (by decide) (by decide) (by decide)]; exact hA.2.2.1
/-- only the teacher's rows have changed -/
theorem k_changedT {σ : St} {A : Mac} {I1 : Nat → Nat → Int32} {Q : xHp → Prop} (h : clR sh I R σ) (f : Fr (mPl 12) I I1) (hA : cM I1 σ.L 12 4 A) (hok : okM σ.p σ.L A)
    (k : ∀ I', clR sh I' R (σ.set_t (Tb.nw A)) → cFr I I' → I' 12 2 = nI A.1 → Q (sh, I', R)) : CV mX9_changed [.ref 0] (sh, I1, R) Q :=
  k_changed h (fun c hc => f c (by simp <;> omega)) (fun j _ => f.at 0 j (by simp)) (f.at 169 1 (by simp)) (by rw [f.at 173 1 (by simp)]; exact h.mc.1 173 (by decide)) rG.rf h.ht hA hok k
theorem okM_setS {p L s v : Nat} {A : Mac} (h : okM p L A) (hv : v < p) : okM p L (mSetS A s v) := ⟨fun a ha => by show (if a = s then v else A.2.1 a) < p; split; exact hv; exact h.1 a ha, h.2⟩
theorem okM_setE {p L s v : Nat} {A : Mac} (h : okM p L A) (hv : v < p) : okM p L (mSetE A s v) := ⟨h.1, fun a ha => by show (if a = s then v else A.2.2.1 a) < p; split; exact hv; exact h.2.1 a ha, h.2.2⟩
theorem okM_setW {p L s x t v : Nat} {A : Mac} (h : okM p L A) (hv : v < p) : okM p L (mSetW A s x t v) := ⟨h.1, h.2.1, fun a y b ha hy hb => by show (if a = s ∧ y = x ∧ b = t then v else A.2.2.2 a y b) < p; split; exact hv; exact h.2.2 a y b ha hy hb⟩
theorem k_begins {σ : St} {s v : Int32} {Q : Int32 → xHp → Prop} (hW : clR sh I R σ) (k : ∀ I' R', clR sh I' R' (beginsA σ s v).2 → cFr I I' → Q (beginsA σ s v).1 (sh, I', R')) : CI mX9_begins [.ref 0, .int s, .int v] (sh, I, R) Q := by
  obtain ⟨hA4, hokA⟩ := hW.okA
  have hp2 := PR_bd _ hW.ok.p
  have hA := hW.A
  unfold beginsA at k
  have no : ¬ (inB s σ.t.A.1 ∧ inB v σ.p) → Q (-1) (sh, I, R) := fun hn => by rw [if_neg hn] at k; exact k I R hW cFr.rf
  refine eX9_begins (bX9_begins_0 hW.lay (k_has hW.lay hW.m12 hA.2.2.1 (by omega) (fun b hb hblt => bX9_begins_11 hW.lay ⟨fun z => absurd z (by decide), fun _ => k_hasResidue hW.lay hW.ctx (fun c hc hclt => bX9_begins_22 hW.lay ⟨fun _ => ?_, fun z => absurd z (by decide)⟩) (fun hn => bX9_begins_22 hW.lay ⟨fun z => absurd rfl z, fun _ => no (fun z => hn z.2)⟩)⟩) (fun hn => bX9_begins_11 hW.lay ⟨fun _ => no (fun z => hn z.1), fun z => absurd rfl z⟩)))
  subst hb
  subst hc
  rw [if_pos ⟨(inB_n (by omega)).mpr hblt, (inB_n (by omega)).mpr hclt⟩, nN_n (by omega), nN_n (by omega)] at k
  rw [nclamp (by omega), show I 13 b = nI (σ.t.A.2.1 b) from hA.S hblt]
  refine ⟨vp_nI (by omega) (by omega), vp_nI (by omega) (by omega), k_changedT (A := mSetS σ.t.A b c) hW (Fr.rf.xi (by simp)) ?_ (okM_setS hokA hclt) (fun I2 hW2 hf _ => bX9_begins_57 hW2.lay (k I2 R hW2 hf))⟩
  obtain ⟨a1, a2, a3, a4, a5, a6⟩ := id hA
  refine ⟨a1, by rw [xi_p (by decide)]; exact a2, by rw [xi_p (by decide)]; exact a3, fun i hi => ?_, fun i hi => by rw [xi_p (by decide)]; exact a5 i hi, fun i y j h1 h2 h3 => by rw [xi_p (by decide)]; exact a6 i y j h1 h2 h3⟩
  show xi I 13 b (nI c) 13 i = nI (if i < σ.t.A.1 then (if i = b then c else σ.t.A.2.1 i) else 0)
  by_cases e : i = b
  · subst e; rw [xi_e, if_pos hblt, if_pos rfl]
  · rw [xi_s e, if_neg e]; exact a4 i hi
theorem k_ends {σ : St} {s v : Int32} {Q : Int32 → xHp → Prop} (hW : clR sh I R σ) (k : ∀ I' R', clR sh I' R' (endsA σ s v).2 → cFr I I' → Q (endsA σ s v).1 (sh, I', R')) : CI mX9_ends [.ref 0, .int s, .int v] (sh, I, R) Q := by
  obtain ⟨hA4, hokA⟩ := hW.okA
  have hp2 := PR_bd _ hW.ok.p
  have hA := hW.A
  unfold endsA at k
  have no : ¬ (inB s σ.t.A.1 ∧ inB v σ.p) → Q (-1) (sh, I, R) := fun hn => by rw [if_neg hn] at k; exact k I R hW cFr.rf
  refine eX9_ends (bX9_ends_0 hW.lay (k_has hW.lay hW.m12 hA.2.2.1 (by omega) (fun b hb hblt => bX9_ends_11 hW.lay ⟨fun z => absurd z (by decide), fun _ => k_hasResidue hW.lay hW.ctx (fun c hc hclt => bX9_ends_22 hW.lay ⟨fun _ => ?_, fun z => absurd z (by decide)⟩) (fun hn => bX9_ends_22 hW.lay ⟨fun z => absurd rfl z, fun _ => no (fun z => hn z.2)⟩)⟩) (fun hn => bX9_ends_11 hW.lay ⟨fun _ => no (fun z => hn z.1), fun z => absurd rfl z⟩)))
  subst hb
  subst hc
  rw [if_pos ⟨(inB_n (by omega)).mpr hblt, (inB_n (by omega)).mpr hclt⟩, nN_n (by omega), nN_n (by omega)] at k
  rw [nclamp (by omega), show I 14 b = nI (σ.t.A.2.2.1 b) from hA.E hblt]
  refine ⟨vp_nI (by omega) (by omega), vp_nI (by omega) (by omega), k_changedT (A := mSetE σ.t.A b c) hW (Fr.rf.xi (by simp)) ?_ (okM_setE hokA hclt) (fun I2 hW2 hf _ => bX9_ends_57 hW2.lay (k I2 R hW2 hf))⟩
  obtain ⟨a1, a2, a3, a4, a5, a6⟩ := id hA
  refine ⟨a1, by rw [xi_p (by decide)]; exact a2, by rw [xi_p (by decide)]; exact a3, fun i hi => by rw [xi_p (by decide)]; exact a4 i hi, fun i hi => ?_, fun i y j h1 h2 h3 => by rw [xi_p (by decide)]; exact a6 i y j h1 h2 h3⟩
  show xi I 14 b (nI c) 14 i = nI (if i < σ.t.A.1 then (if i = b then c else σ.t.A.2.2.1 i) else 0)
  by_cases e : i = b
  · subst e; rw [xi_e, if_pos hblt, if_pos rfl]
  · rw [xi_s e, if_neg e]; exact a5 i hi
theorem k_leads {σ : St} {s x t v : Int32} {Q : Int32 → xHp → Prop} (hW : clR sh I R σ) (k : ∀ I' R', clR sh I' R' (leadsA σ s x t v).2 → cFr I I' → Q (leadsA σ s x t v).1 (sh, I', R')) : CI mX9_leads [.ref 0, .int s, .int x, .int t, .int v] (sh, I, R) Q := by
  obtain ⟨hA4, hokA⟩ := hW.okA
  have hp2 := PR_bd _ hW.ok.p
  have hL3 := hW.ok.L3
  have hA := hW.A
  unfold leadsA at k
  have no : ¬ (inB s σ.t.A.1 ∧ inB x σ.L ∧ inB t σ.t.A.1 ∧ inB v σ.p) → Q (-1) (sh, I, R) := fun hn => by rw [if_neg hn] at k; exact k I R hW cFr.rf
  refine eX9_leads (bX9_leads_0 hW.lay (k_has hW.lay hW.m12 hA.2.2.1 (by omega) (fun b hb hblt => bX9_leads_15 hW.lay ⟨fun z => absurd z (by decide), fun _ => ?_⟩) (fun hn => bX9_leads_15 hW.lay ⟨fun _ => no (fun z => hn z.1), fun z => absurd rfl z⟩)))
  refine k_hasLetter hW.lay hW.ctx (fun y hy hylt => bX9_leads_26 hW.lay ⟨fun z => absurd z (by decide), fun _ => ?_⟩) (fun hn => bX9_leads_26 hW.lay ⟨fun _ => no (fun z => hn z.2.1), fun z => absurd rfl z⟩)
  refine k_has hW.lay hW.m12 hA.2.2.1 (by omega) (fun d hd hdlt => bX9_leads_35 hW.lay ⟨fun z => absurd z (by decide), fun _ => ?_⟩) (fun hn => bX9_leads_35 hW.lay ⟨fun _ => no (fun z => hn z.2.2.1), fun z => absurd rfl z⟩)
  refine k_hasResidue hW.lay hW.ctx (fun c hc hclt => bX9_leads_47 hW.lay ⟨fun _ => ?_, fun z => absurd z (by decide)⟩) (fun hn => bX9_leads_47 hW.lay ⟨fun z => absurd rfl z, fun _ => no (fun z => hn z.2.2.2)⟩)
  subst hb
  subst hy
  subst hd
  subst hc
  rw [if_pos ⟨(inB_n (by omega)).mpr hblt, (inB_n (by omega)).mpr hylt, (inB_n (by omega)).mpr hdlt, (inB_n (by omega)).mpr hclt⟩, nN_n (by omega), nN_n (by omega), nN_n (by omega), nN_n (by omega)] at k
  have hi := wix_lt (M := 4) (s := b) (x := y) (t := d) (by omega) (by omega) (by omega)
  refine k_at hW.lay hW.m12 hA.2.1 (bX9_leads_60 hW.lay ⟨vp_nI hi (by omega), vp_nI hi (by omega), ?_⟩)
  rw [nclamp (by omega), show I 15 ((b * 3 + y) * 4 + d) = nI (σ.t.A.2.2.2 b y d) from hA.W hblt hylt hdlt]
  refine k_changedT (A := mSetW σ.t.A b y d c) hW (Fr.rf.xi (by simp)) ?_ (okM_setW hokA hclt) (fun I2 hW2 hf _ => bX9_leads_86 hW2.lay (k I2 R hW2 hf))
  obtain ⟨a1, a2, a3, a4, a5, a6⟩ := id hA
  refine ⟨a1, by rw [xi_p (by decide)]; exact a2, by rw [xi_p (by decide)]; exact a3, fun i hi => by rw [xi_p (by decide)]; exact a4 i hi, fun i hi => by rw [xi_p (by decide)]; exact a5 i hi, fun i z j h1 h2 h3 => ?_⟩
  show xi I 15 ((b * 3 + y) * 4 + d) (nI c) 15 ((i * 3 + z) * 4 + j) = nI (if i < σ.t.A.1 ∧ j < σ.t.A.1 then (if i = b ∧ z = y ∧ j = d then c else σ.t.A.2.2.2 i z j) else 0)
  by_cases e : i = b ∧ z = y ∧ j = d
  · obtain ⟨rfl, rfl, rfl⟩ := e
    rw [xi_e, if_pos ⟨hblt, hdlt⟩, if_pos ⟨rfl, rfl, rfl⟩]
  · rw [xi_s (fun e2 => e (wix_inj h3 (show d < 4 by omega) (by omega) (by omega) e2)), if_neg e]; exact a6 i z j h1 h2 h3
theorem okM_grow {p L : Nat} {A : Mac} (hp : 0 < p) (h : okM p L A) : okM p L (mGrow A) := by
  refine ⟨fun a ha => ?_, fun a ha => ?_, fun a y b ha hy hb => ?_⟩
  · have ha2 : a < A.1 + 1 := ha
    show (if a = A.1 then 0 else A.2.1 a) < p
    split
    · exact hp
    · exact h.1 a (by omega)
  · have ha2 : a < A.1 + 1 := ha
    show (if a = A.1 then 0 else A.2.2.1 a) < p
    split
    · exact hp
    · exact h.2.1 a (by omega)
  · have ha2 : a < A.1 + 1 := ha
    have hb2 : b < A.1 + 1 := hb
    show (if a = A.1 ∨ b = A.1 then 0 else A.2.2.2 a y b) < p
    split
    · exact hp
    · exact h.2.2 a y b (by omega) hy (by omega)
theorem k_grow {σ : St} {Q : Int32 → xHp → Prop} (hW : clR sh I R σ) (k : ∀ I' R', clR sh I' R' (growA σ).2 → cFr I I' → Q (growA σ).1 (sh, I', R')) : CI mX9_grow [.ref 0] (sh, I, R) Q := by
  obtain ⟨hA4, hokA⟩ := hW.okA
  have hp2 := PR_bd _ hW.ok.p
  obtain ⟨a1, a2, a3, a4, a5, a6⟩ := id hW.A
  unfold growA at k
  refine eX9_grow (bX9_grow_0 hW.lay ?_)
  rw [a3]
  refine ⟨fun z => ?_, fun z => ?_⟩
  · have hlt := (nI_ltI (by omega) (by omega)).mp z
    rw [if_neg (by omega)] at k
    rw [nI_add]
    refine k_changedT (A := mGrow σ.t.A) hW (Fr.rf.xi (by simp)) ⟨by show σ.t.A.1 + 1 ≤ 4; omega, by rw [xi_s (by decide)]; exact a2, xi_e, fun i hi => ?_, fun i hi => ?_, fun i y j h1 h2 h3 => ?_⟩ (okM_grow (by omega) hokA) (fun I2 hW2 hf e2 => bX9_grow_37 hW2.lay ?_)
    · rw [xi_p (by decide), a4 i hi]
      show _ = nI (if i < σ.t.A.1 + 1 then (if i = σ.t.A.1 then 0 else σ.t.A.2.1 i) else 0)
      by_cases e : i < σ.t.A.1
      · rw [if_pos e, if_pos (by omega), if_neg (by omega)]
      · rw [if_neg e]; split
        · rw [if_pos (by omega)]
        · rfl
    · rw [xi_p (by decide), a5 i hi]
      show _ = nI (if i < σ.t.A.1 + 1 then (if i = σ.t.A.1 then 0 else σ.t.A.2.2.1 i) else 0)
      by_cases e : i < σ.t.A.1
      · rw [if_pos e, if_pos (by omega), if_neg (by omega)]
      · rw [if_neg e]; split
        · rw [if_pos (by omega)]
        · rfl
    · rw [xi_p (by decide), a6 i y j h1 h2 h3]
      show _ = nI (if i < σ.t.A.1 + 1 ∧ j < σ.t.A.1 + 1 then (if i = σ.t.A.1 ∨ j = σ.t.A.1 then 0 else σ.t.A.2.2.2 i y j) else 0)
      by_cases e : i < σ.t.A.1 ∧ j < σ.t.A.1
      · rw [if_pos e, if_pos (by omega), if_neg (by omega)]
      · rw [if_neg e]; split
        · rw [if_pos (by omega)]
        · rfl
    · rw [e2]; exact k I2 R hW2 hf
  · have h4 : σ.t.A.1 = 4 := by
      rcases Nat.lt_or_ge σ.t.A.1 4 with w | w
      · exact absurd (nI_lt w (by omega)) z
      · omega
    rw [if_pos h4] at k
    exact k I R hW cFr.rf
theorem okM_drop {p L s : Nat} {A : Mac} (h : okM p L A) : okM p L (mDrop A s) :=
  ⟨fun a ha => h.1 _ (dropI_lt ha), fun a ha => h.2.1 _ (dropI_lt ha), fun a y b ha hy hb => h.2.2 _ y _ (dropI_lt ha) hy (dropI_lt hb)⟩
theorem okM_turn {p L : Nat} {A : Mac} (h : okM p L A) : okM p L (mTurn A) := ⟨h.2.1, h.1, fun a y b ha hy hb => h.2.2 b y a hb hy ha⟩
theorem okM_scale {p L v : Nat} {A : Mac} (hp : 0 < p) (h : okM p L A) : okM p L (mScale p A v) := ⟨fun a _ => Nat.mod_lt _ hp, h.2⟩
theorem k_drop {σ : St} {v : Int32} {Q : Int32 → xHp → Prop} (hW : clR sh I R σ) (k : ∀ I' R', clR sh I' R' (dropA σ v).2 → cFr I I' → Q (dropA σ v).1 (sh, I', R')) : CI mX9_drop [.ref 0, .int v] (sh, I, R) Q := by
  obtain ⟨hA4, hokA⟩ := hW.okA
  unfold dropA at k
  refine eX9_drop (bX9_drop_0 hW.lay (k_has hW.lay hW.m12 hW.A.2.2.1 (by omega) (fun b hb hblt => bX9_drop_11 hW.lay ⟨fun _ => ?_, fun z => absurd z (by decide)⟩) (fun hn => bX9_drop_11 hW.lay ⟨fun z => absurd rfl z, fun _ => ?_⟩)))
  · subst hb
    rw [if_pos ((inB_n (by omega)).mpr hblt), nN_n (by omega)] at k
    refine k_omit hW.lay hW.ctx hW.m12 (by omega) (by omega) hW.A hblt (fun I1 f1 c1 => bX9_drop_27 hW.lay (k_changedT hW f1 c1 (okM_drop hokA) (fun I2 hW2 hf e2 => bX9_drop_31 hW2.lay ?_)))
    rw [e2]; exact k I2 R hW2 hf
  · rw [if_neg hn] at k; exact k I R hW cFr.rf
theorem k_turn {σ : St} {Q : Int32 → xHp → Prop} (hW : clR sh I R σ) (k : ∀ I' R', clR sh I' R' (turnA σ).2 → cFr I I' → Q (turnA σ).1 (sh, I', R')) : CI mX9_turn [.ref 0] (sh, I, R) Q := by
  obtain ⟨hA4, hokA⟩ := hW.okA
  unfold turnA at k
  refine eX9_turn (bX9_turn_0 hW.lay (k_reverse hW.lay hW.ctx hW.m12 (by omega) (by omega) hW.A (fun I1 f1 c1 => bX9_turn_10 hW.lay (k_changedT hW f1 c1 (okM_turn hokA) (fun I2 hW2 hf e2 => bX9_turn_14 hW2.lay ?_)))))
  rw [e2]; exact k I2 R hW2 hf
theorem k_scale {σ : St} {v : Int32} {Q : Int32 → xHp → Prop} (hW : clR sh I R σ) (k : ∀ I' R', clR sh I' R' (scaleA σ v).2 → cFr I I' → Q (scaleA σ v).1 (sh, I', R')) : CI mX9_scale [.ref 0, .int v] (sh, I, R) Q := by
  obtain ⟨hA4, hokA⟩ := hW.okA
  have hp2 := PR_bd _ hW.ok.p
  unfold scaleA at k
  refine eX9_scale (bX9_scale_0 hW.lay (k_hasResidue hW.lay hW.ctx (fun c hc hclt => bX9_scale_8 hW.lay ⟨fun _ => ?_, fun z => absurd z (by decide)⟩) (fun hn => bX9_scale_8 hW.lay ⟨fun z => absurd rfl z, fun _ => ?_⟩)))
  · subst hc
    rw [if_pos ((inB_n (by omega)).mpr hclt), nN_n (by omega)] at k
    refine k_multiplyStarts hW.lay hW.ctx hW.m12 (by omega) (by omega) hW.A hokA hclt (fun I1 f1 c1 => bX9_scale_24 hW.lay (k_changedT hW f1 c1 (okM_scale (by omega) hokA) (fun I2 hW2 hf e2 => bX9_scale_28 hW2.lay ?_)))
    rw [e2]; exact k I2 R hW2 hf
  · rw [if_neg hn] at k; exact k I R hW cFr.rf
theorem k_shrink {σ : St} [NeZero σ.p] {Q : Int32 → xHp → Prop} (hW : clR sh I R σ) (k : ∀ I' R', clR sh I' R' (shrinkA σ).2 → cFr I I' → Q (shrinkA σ).1 (sh, I', R')) : CI mX9_shrink [.ref 0] (sh, I, R) Q := by
  have hp2 := PR_bd _ hW.ok.p
  unfold shrinkA at k
  refine eX9_shrink (bX9_shrink_0 hW.lay (k_least hW (fun I1 R1 hW1 hf1 hmade hc1 _ => ⟨fun z => absurd z (by simp), fun b hb => ?_⟩)))
  cases hb
  have hokL := hmade.ok hp2.1
  refine bX9_shrink_11 hW1.lay hW1.m173 (k_copy hW1.lay hW1.ctx hW1.m12 hW1.m173 (by omega) (by omega) (by omega) (by omega) (hW1.mc.1 12 (by decide)) hc1 hokL hc1.1 (fun I2 f2 c2 => bX9_shrink_14 hW1.lay (k_changedT hW1 f2 c2 hokL (fun I3 hW3 hf3 e3 => bX9_shrink_18 hW3.lay ?_))))
  rw [e3, hmade.1]; exact k I3 R1 hW3 (hf1.tr hf3)
theorem okM_join {p L : Nat} {A B : Mac} (hp : 0 < p) (hA : okM p L A) (hB : okM p L B) : okM p L (mJoin A B) := by
  refine ⟨fun a ha => ?_, fun a ha => ?_, fun a y b ha hy hb => ?_⟩
  · have ha2 : a < A.1 + B.1 := ha
    show (if a < A.1 then A.2.1 a else B.2.1 (a - A.1)) < p
    split
    · exact hA.1 a (by omega)
    · exact hB.1 _ (by omega)
  · have ha2 : a < A.1 + B.1 := ha
    show (if a < A.1 then A.2.2.1 a else B.2.2.1 (a - A.1)) < p
    split
    · exact hA.2.1 a (by omega)
    · exact hB.2.1 _ (by omega)
  · have ha2 : a < A.1 + B.1 := ha
    have hb2 : b < A.1 + B.1 := hb
    show (if a < A.1 then (if b < A.1 then A.2.2.2 a y b else 0) else if b < A.1 then 0 else B.2.2.2 (a - A.1) y (b - A.1)) < p
    split
    · split
      · exact hA.2.2 a y b (by omega) hy (by omega)
      · exact hp
    · split
      · exact hp
      · exact hB.2.2 _ y _ (by omega) hy (by omega)
theorem k_join {σ : St} {v : Int32} {Q : Int32 → xHp → Prop} (hW : clR sh I R σ) (k : ∀ I' R', clR sh I' R' (joinA σ v).2 → cFr I I' → Q (joinA σ v).1 (sh, I', R')) : CI mX9_join [.ref 0, .int v] (sh, I, R) Q := by
  obtain ⟨hA4, hokA⟩ := hW.okA
  have hp2 := PR_bd _ hW.ok.p
  unfold joinA at k
  refine eX9_join (bX9_join_0 hW.lay (k_isImage hW.lay (fun a ha hlt => bX9_join_4 hW.lay ⟨fun _ => ⟨?_, ?_⟩, fun z => absurd z (by decide)⟩) (fun hn => bX9_join_4 hW.lay ⟨fun z => absurd rfl z, fun _ => ?_⟩)))
  · rw [ha]; exact vp_nI hlt (by omega)
  · subst ha
    rw [if_pos ((inB_n (by omega)).mpr hlt), nN_n (by omega)] at k
    rw [nclamp (by omega)]
    have hk := hW.kept a hlt
    cases hkp : σ.kept a with
    | none =>
      rw [hkp] at hk k
      rw [show I 21 a = nI 0 from hk]
      exact ⟨fun z => absurd rfl z, fun _ => k I R hW cFr.rf⟩
    | some τ =>
      rw [hkp] at hk k
      obtain ⟨_, hB4, hokB, -⟩ := hW.ok.kept a τ hkp
      have hBc := hk.2.1
      rw [hk.1, hW.A.2.2.1, hBc.2.2.1, nI_add]
      refine ⟨fun _ => ⟨vp_nI hlt (by omega), fun z => ?_, fun z => ?_⟩, fun z => absurd z (by decide)⟩
      · have h4 := (nI_leI (by omega) (by omega)).mp z
        dsimp only at k
        rw [if_neg (by omega)] at k
        refine k_append (f := 1) hW.lay hW.ctx hW.m12 (hW.img hlt).2.2.2.2.2.2.2.2.1 (by omega) (by omega) (by omega) (by omega) hW.A hBc hokB (by omega) h4 (fun I1 f1 c1 => bX9_join_65 hW.lay ?_)
        have c1' : cM I1 σ.L 12 4 (mJoin σ.t.A τ.A) := c1.same rfl (fun s hs => by
          have hs2 : s < σ.t.A.1 + τ.A.1 := hs
          show (if s < σ.t.A.1 then σ.t.A.2.1 s else τ.A.2.1 (s - σ.t.A.1)) = (if s < σ.t.A.1 then σ.t.A.2.1 s else τ.A.2.1 (s - σ.t.A.1) * 1 % σ.p)
          split
          · rfl
          · rw [Nat.mul_one, Nat.mod_eq_of_lt (hokB.1 _ (by omega))]) (fun _ _ => rfl) (fun _ _ _ _ _ _ => rfl)
        refine k_changedT hW f1 c1' (okM_join (by omega) hokA hokB) (fun I2 hW2 hf e2 => bX9_join_69 hW2.lay ?_)
        rw [e2]; exact k I2 R hW2 hf
      · have h4 : 4 < σ.t.A.1 + τ.A.1 := by
          rcases Nat.lt_or_ge 4 (σ.t.A.1 + τ.A.1) with w | w
          · exact w
          · exact absurd (nI_le w (by omega)) z
        dsimp only at k
        rw [if_pos h4] at k
        exact k I R hW cFr.rf
  · rw [if_neg hn] at k; exact k I R hW cFr.rf
end CCHG
