section TEXT
variable {sh : List xSh} {I : Nat → Nat → Int32} {R : Nat → Nat → Option Nat}
def txM (D : Dr) : Mac := (D.2.2.2.1, fun s => D.2.2.2.2.2.2.1 s % D.2.1, fun s => D.2.2.2.2.2.2.2.1 s % D.2.1, fun s x t => D.2.2.2.2.2.2.2.2 s x t % D.2.1)
def txS (D : Dr) : St := St.mk D.2.1 D.2.2.1 (Tb.nw (txM D)) (fun _ => none) (fun _ => none) [] [] 0
noncomputable def textA (σ : St) : Int32 × St := match textP σ.tape with
  | .inl e => (-10 - nI e.2, (σ.set_tape []).set_fault (nI e.1))
  | .inr r => (nI r.2, txS r.1)
theorem txM_ok {D : Dr} (h : drOK D) : okM D.2.1 D.2.2.1 (txM D) := by
  have hp := (PR_bd _ h.1).1
  exact ⟨fun s _ => Nat.mod_lt _ (by omega), fun s _ => Nat.mod_lt _ (by omega), fun s x t _ _ _ => Nat.mod_lt _ (by omega)⟩
theorem txS_ok {D : Dr} (h : drOK D) : stOK (txS D) := ⟨h.1, h.2.1.1, h.2.1.2, tbOK_nw h.1 h.2.1.1 h.2.2.1 (txM_ok h), fun k τ q => absurd (show none = some τ from q) (by simp), fun k s q => absurd (show none = some s from q) (by simp), ⟨Nat.zero_le _, fun x hx => absurd hx List.not_mem_nil⟩, ⟨Nat.zero_le _, fun x hx => absurd hx List.not_mem_nil⟩⟩
/-- the draft is taken -/
theorem w_takesDraft {D : Dr} {Q : xHp → Prop} (hW : xLay sh R) (hD : drR I D) (hok : drOK D) (hN : nmR I) (h16 : I 209 16 = nI 0) (h17 : I 209 17 = nI 0) (k : ∀ I', mdR I' (txS D) → mFr I I' → Q (sh, I', R)) : CV mX10_takesDraft [.ref 209] (sh, I, R) Q := by
  obtain ⟨a1, a2, a3, a4, a5, a6, a7, a8, a9⟩ := id hD
  obtain ⟨hp2, hp97⟩ := PR_bd _ hok.1
  refine eX10_takesDraft (bX10_takesDraft_0 hW ?_)
  rw [a1, a2]
  generalize hI1 : xi (xi I 209 1 (nI D.2.1)) 209 2 (nI D.2.2.1) = I1
  have f1 : Fr [209] I I1 := by rw [← hI1]; exact (Fr.rf.xi (by simp)).xi (by simp)
  have g1 : ∀ j, j ≠ 1 → j ≠ 2 → I1 209 j = I 209 j := fun j h1 h2 => by rw [← hI1, xi_s h2, xi_s h1]
  have g11 : I1 209 1 = nI D.2.1 := by rw [← hI1, xi_s (by decide), xi_e]
  have g12 : I1 209 2 = nI D.2.2.1 := by rw [← hI1, xi_e]
  refine w_copies (m := 31) (m2 := 0) hW (by decide) (by decide) (by decide) (fun I2 f2 p2 c2 => bX10_takesDraft_23 hW ?_)
  have e210 : ∀ i, I1 210 i = I 210 i := fun i => f1.at 210 i (by decide)
  have loop : ∀ j c (I3 : Nat → Nat → Int32), c + j = 57 → 1 ≤ c → Fr [210] I2 I3 → (∀ i, 1 ≤ i → i < c → ∀ v, I 210 (57 * 31 + i) = nI v → v ≤ 99 → I3 210 (57 * 0 + i) = nI (v % D.2.1)) → (∀ i, i < 57 → (i < 1 ∨ c ≤ i) → I3 210 (57 * 0 + i) = I 210 (57 * 31 + i)) → Ex mX10_takesDraft 25 [.ref 209, .int (nI c)] [] (sh, I3, R) 0 0 (xqV Q) := by
    intro j
    induction j with
    | zero =>
      intro c I3 hc hc1 f3 hm ho
      obtain rfl : c = 57 := by omega
      refine bX10_takesDraft_25 hW ⟨fun _ => eX10_anew (bX10_anew_0 hW ⟨vp_nI (by omega) (by omega), ?_⟩), fun q => absurd (nI_le (Nat.le_refl _) (by omega)) q⟩
      rw [nclamp (by omega)]
      generalize hI4 : xi (xi (xi (xi (xi I3 209 10 (nI 0)) 209 11 (nI 1)) 216 0 (nI 0)) 209 12 (nI 0)) 209 3 (nI 0) = I4
      have f4 : Fr [209, 216] I3 I4 := by rw [← hI4]; exact ((((Fr.rf.xi (by simp)).xi (by simp)).xi (by simp)).xi (by simp)).xi (by simp)
      have g4 : ∀ j, j ≠ 10 → j ≠ 11 → j ≠ 12 → j ≠ 3 → I4 209 j = I3 209 j := fun j h1 h2 h3 h4 => by rw [← hI4, xi_s h4, xi_s h3, xi_p (by decide), xi_s h2, xi_s h1]
      have g410 : I4 209 10 = nI 0 := by rw [← hI4, xi_s (by decide), xi_s (by decide), xi_p (by decide), xi_s (by decide), xi_e]
      have g411 : I4 209 11 = nI 1 := by rw [← hI4, xi_s (by decide), xi_s (by decide), xi_p (by decide), xi_e]
      have g412 : I4 209 12 = nI 0 := by rw [← hI4, xi_s (by decide), xi_e]
      have g43 : I4 209 3 = nI 0 := by rw [← hI4, xi_e]
      have g4s : I4 216 0 = nI 0 := by rw [← hI4, xi_p (by decide), xi_p (by decide), xi_e]
      refine bX10_takesDraft_59 hW ?_
      generalize hI5 : xi I4 209 32 (nI 0) = I5
      have f5 : Fr [209] I4 I5 := by rw [← hI5]; exact Fr.rf.xi (by simp)
      have g5 : ∀ j, j ≠ 32 → I5 209 j = I4 209 j := fun j h1 => by rw [← hI5, xi_s h1]
      have g532 : I5 209 32 = nI 0 := by rw [← hI5, xi_e]
      have keepL : ∀ j c (I6 : Nat → Nat → Int32), c + j = 2 → Fr [225] I5 I6 → (∀ i, i < c → I6 225 i = nI 0) → Ex mX10_takesDraft 66 [.ref 209, .int (nI c)] [] (sh, I6, R) 0 0 (xqV Q) := by
        intro j
        induction j with
        | zero =>
          intro c I6 hc f6 hk
          obtain rfl : c = 2 := by omega
          refine bX10_takesDraft_66 hW ⟨fun _ => ?_, fun q => absurd (nI_le (Nat.le_refl _) (by omega)) q⟩
          have laneL : ∀ j c (I7 : Nat → Nat → Int32), c + j = 3 → Fr [227] I6 I7 → (∀ i, i < c → I7 227 i = -4) → Ex mX10_takesDraft 86 [.ref 209, .int (nI c)] [] (sh, I7, R) 0 0 (xqV Q) := by
            intro j
            induction j with
            | zero =>
              intro c I7 hc f7 hl
              obtain rfl : c = 3 := by omega
              refine bX10_takesDraft_86 hW ⟨fun _ => ?_, fun q => absurd (nI_le (Nat.le_refl _) (by omega)) q⟩
              have r9 : ∀ j, I7 209 j = I5 209 j := fun j => by rw [f7.at 209 j (by decide), f6.at 209 j (by decide)]
              have r0 : ∀ i, I7 210 i = I3 210 i := fun i => by rw [f7.at 210 i (by decide), f6.at 210 i (by decide), f5.at 210 i (by decide), f4.at 210 i (by decide)]
              have s9 : ∀ j, j ≠ 1 → j ≠ 2 → j ≠ 3 → j ≠ 10 → j ≠ 11 → j ≠ 12 → j ≠ 32 → I7 209 j = I 209 j := fun j h1 h2 h3 h4 h5 h6 h7 => by rw [r9, g5 j h7, g4 j h4 h5 h6 h3, f3.at 209 j (by decide), f2.at 209 j (by decide), g1 j h1 h2]
              have hall : ∀ q, q ∉ [209, 210, 216, 225, 227] → I7 q = I q := fun q hq => by
                have hq2 : q ≠ 209 ∧ q ≠ 210 ∧ q ≠ 216 ∧ q ≠ 225 ∧ q ≠ 227 := by simpa using hq
                rw [f7 q (by simp; omega), f6 q (by simp; omega), f5 q (by simp; omega), f4 q (by simp; omega), f3 q (by simp; omega), f2 q (by simp; omega), f1 q (by simp; omega)]
              have rep : mRep I7 D.2.2.1 0 (txM D) := by
                refine ⟨hok.2.2.1, ?_, fun s hs => ?_, fun s hs => ?_, fun s x t h1 h2 h3 => ?_⟩
                · rw [r0, show 57 * 0 = 57 * 0 + 0 from rfl, ho 0 (by omega) (by omega)]; exact a6
                · have hs4 : s < 4 := Nat.lt_of_lt_of_le hs hok.2.2.1
                  rw [r0, hm (1 + s) (by omega) (by omega) _ (a7 s hs4) (hok.2.2.2.2.2.1 s)]; rfl
                · have hs4 : s < 4 := Nat.lt_of_lt_of_le hs hok.2.2.1
                  rw [r0, hm (5 + s) (by omega) (by omega) _ (a8 s hs4) (hok.2.2.2.2.2.2.1 s)]; rfl
                · have hs4 : s < 4 := Nat.lt_of_lt_of_le h1 hok.2.2.1
                  have ht4 : t < 4 := Nat.lt_of_lt_of_le h3 hok.2.2.1
                  have hx3 : x < 3 := Nat.lt_of_lt_of_le h2 hok.2.1.2
                  rw [r0, hm (9 + 12 * s + 4 * x + t) (by omega) (by omega) _ (a9 s x t hs4 hx3 ht4) (hok.2.2.2.2.2.2.2 s x t)]; rfl
              refine k I7 ⟨txS_ok hok, ?_, ?_, rep, ?_, fun q => absurd (show false = true from q) (by decide), ⟨?_, fun j hj => absurd hj (Nat.not_lt_zero j)⟩, ⟨?_, fun j hj => ?_⟩, ?_, fun j hj => ?_, fun j hj => hl j hj, ⟨?_, fun j hj => absurd hj (Nat.not_lt_zero j)⟩, ⟨?_, fun j hj => absurd hj (Nat.not_lt_zero j)⟩, ?_, ?_, ?_⟩ (fun q hq => hall q (by simp; omega))
              · rw [r9, g5 1 (by decide), g4 1 (by decide) (by decide) (by decide) (by decide), f3.at 209 1 (by decide), f2.at 209 1 (by decide)]; exact g11
              · rw [r9, g5 2 (by decide), g4 2 (by decide) (by decide) (by decide) (by decide), f3.at 209 2 (by decide), f2.at 209 2 (by decide)]; exact g12
              · rw [r9, g5 3 (by decide)]; exact g43
              · rw [r9, g5 10 (by decide)]; exact g410
              · rw [r9, g5 11 (by decide)]; exact g411
              · have hj0 : j = 0 := by have : j < 1 := hj; omega
                subst hj0
                rw [f7.at 216 0 (by decide), f6.at 216 0 (by decide), f5.at 216 0 (by decide)]; exact g4s
              · rw [r9, g5 12 (by decide)]; exact g412
              · show I7 225 j = nI 0
                rw [f7.at 225 j (by decide)]; exact hk j hj
              · rw [r9]; exact g532
              · rw [s9 16 (by decide) (by decide) (by decide) (by decide) (by decide) (by decide) (by decide)]; exact h16
              · rw [s9 17 (by decide) (by decide) (by decide) (by decide) (by decide) (by decide) (by decide)]; exact h17
              · rw [hall 219 (by decide)]; exact hN.1
              · rw [hall 220 (by decide)]; exact hN.2
            | succ j ih =>
              intro c I7 hc f7 hl
              refine bX10_takesDraft_86 hW ⟨fun q => absurd q (nI_ge (by omega) (by omega)), fun _ => ⟨vp_nI (by omega) (by omega), ?_⟩⟩
              rw [nclamp (by omega), nI_add]
              refine ih (c + 1) _ (by omega) (f7.xi (by simp)) (fun i hi => ?_)
              by_cases e : i = c
              · subst e; exact xi_e
              · rw [xi_s e]; exact hl i (by omega)
          exact laneL 3 0 I6 (by omega) Fr.rf (fun i hi => absurd hi (Nat.not_lt_zero i))
        | succ j ih =>
          intro c I6 hc f6 hk
          refine bX10_takesDraft_66 hW ⟨fun q => absurd q (nI_ge (by omega) (by omega)), fun _ => ⟨vp_nI (by omega) (by omega), ?_⟩⟩
          rw [nclamp (by omega), nI_add, nar0]
          refine ih (c + 1) _ (by omega) (f6.xi (by simp)) (fun i hi => ?_)
          by_cases e : i = c
          · subst e; exact xi_e
          · rw [xi_s e]; exact hk i (by omega)
      exact keepL 2 0 I5 (by omega) Fr.rf (fun i hi => absurd hi (Nat.not_lt_zero i))
    | succ j ih =>
      intro c I3 hc hc1 f3 hm ho
      refine bX10_takesDraft_25 hW ⟨fun q => absurd q (nI_ge (by omega) (by omega)), fun _ => w_at hW (bX10_takesDraft_41 hW ⟨vp_nI (by omega) (by omega), ?_, vp_nI (by omega) (by omega), ?_⟩)⟩
      · rw [f3.at 209 1 (by decide), f2.at 209 1 (by decide), g11]; exact nI_ne0 (by omega) (by omega)
      · rw [nclamp (by omega), f3.at 209 1 (by decide), f2.at 209 1 (by decide), g11, ho c (by omega) (by omega), nI_add]
        refine ih (c + 1) _ (by omega) (by omega) (f3.xi (by simp)) (fun i h1 h2 v hv hv2 => ?_) (fun i h1 h2 => ?_)
        · by_cases e : i = c
          · subst e; rw [xi_e, hv, xrem_nI (by omega) (by omega) (by omega)]
          · rw [xi_s (by omega)]; exact hm i h1 (by omega) v hv hv2
        · rw [xi_s (by omega)]; exact ho i h1 (by omega)
  refine loop 56 1 I2 (by omega) (by omega) Fr.rf (fun i h1 h2 => by omega) (fun i h1 h2 => ?_)
  rw [c2 i h1, e210]
theorem w_text {σ : St} {Q : Int32 → xHp → Prop} (hW : xLay sh R) (h : mdR I σ) (k : ∀ I', mdR I' (textA σ).2 → mFr I I' → Q (textA σ).1 (sh, I', R)) : CI mX10_text [.ref 209] (sh, I, R) Q := by
  have hT0 : tpR I σ.tape := ⟨h.tape.1, h.ok.tape.1, h.tape.2, fun j => by
    by_cases hj : j < σ.tape.length
    · exact h.ok.tape.2 _ (gd_mem hj)
    · rw [List.getD_eq_getElem?_getD, List.getElem?_eq_none (by omega)]; decide⟩
  have hN0 : nmR I := ⟨h.nmE, h.nmL⟩
  generalize hT : σ.tape = T at hT0
  have hT2 := hT0.2.1
  have hans : textA σ = match textP T with
    | .inl e => (-10 - nI e.2, (σ.set_tape []).set_fault (nI e.1))
    | .inr r => (nI r.2, txS r.1) := by unfold textA; rw [hT]
  -- the end, by a fault
  have bad : ∀ (I1 : Nat → Nat → Int32) (e : Nat × Nat) (v n : Int32), lF I I1 → rB I1 T (.inl e) → textP T = .inl e → Ex mX10_text 128 [.ref 209, .int n] [.int v] (sh, I1, R) 0 0 (xqI Q) := by
    intro I1 e v n hl hb he
    rw [he] at hans
    refine bX10_text_128 hW ⟨fun q => ?_, fun _ => ?_⟩
    · rw [hb.1] at q; exact absurd q (nI_npos hb.2.1 (by have := hb.2.2.1; omega))
    · rw [hb.2.2.2.1]
      rw [hans] at k
      have hq : ∀ q, q ∉ [209, 210, 221] → xi I1 209 16 (nI 0) q = I q := fun q hq => by
        have : q ≠ 209 := fun z => hq (by rw [z]; decide)
        funext j
        rw [xi_p this, hl.1.at q j hq]
      have h9 : ∀ j, j ≠ 16 → (j < 17 ∨ 29 < j) → xi I1 209 16 (nI 0) 209 j = I 209 j := fun j h1 h2 => by rw [xi_s h1]; exact hl.2.1 j h2
      have hpg : pgF [31] I (xi I1 209 16 (nI 0)) := hl.2.2.tr (pgF.of (Fr.rf.xi (S := [209]) (by simp)) (by decide))
      have hL3 := h.ok.L3
      have pg : ∀ {m A}, m ∉ [31] → mRep I σ.L m A → mRep (xi I1 209 16 (nI 0)) σ.L m A := fun hm hA => hA.pg hpg hm hL3
      refine k _ ⟨⟨h.ok.p, h.ok.L1, h.ok.L3, h.ok.t, h.ok.kept, h.ok.shf, h.ok.word, ⟨Nat.zero_le _, fun x hx => absurd hx List.not_mem_nil⟩⟩, ?_, ?_, pg (by decide) h.A, ?_, fun q => pg (by decide) (h.G q), h.P.eq (h9 10 (by decide) (by omega)) (hq _ (by decide)), h.S.eq (h9 11 (by decide) (by omega)) (hq _ (by decide)), ?_, fun j hj => (h.kept j hj).eq (hq _ (by decide)) (hq _ (by decide)) (fun A => pg (by simp; omega)) (fun A => pg (by simp; omega)), fun j hj => (h.shf j hj).eq (fun s e => (h.ok.shf j s e).2.1) (by rw [hq 227 (by decide)]) (by rw [hq 228 (by decide)]) (fun i _ => by rw [hq 229 (by decide)]) (fun i A hi => pg (by simp; omega)), h.word.eq (h9 32 (by decide) (by omega)) (hq _ (by decide)), ⟨xi_e, fun j hj => absurd hj (Nat.not_lt_zero j)⟩, ?_, fun j hj => by rw [hq 219 (by decide)]; exact h.nmE j hj, fun j hj => by rw [hq 220 (by decide)]; exact h.nmL j hj⟩ (fun q hq2 => hq q (by simp; omega))
      · rw [h9 1 (by decide) (by omega)]; exact h.c1
      · rw [h9 2 (by decide) (by omega)]; exact h.c2
      · rw [h9 3 (by decide) (by omega)]; exact h.g
      · rw [h9 12 (by decide) (by omega)]; exact h.r
      · rw [xi_s (by decide)]; exact hb.1
  -- where a fault has come
  have badL : ∀ (I1 : Nat → Nat → Int32) (e : Nat × Nat) (n : Int32), lF I I1 → rB I1 T (.inl e) → textP T = .inl e → Ex mX10_text 63 [.ref 209, .int n] [] (sh, I1, R) 0 0 (xqI Q) := by
    intro I1 e n hl hb he
    have hpos : (0 : Int32) < I1 209 17 := by rw [hb.1]; exact nI_lt (a := 0) hb.2.1 (by have := hb.2.2.1; omega)
    refine bX10_text_63 hW ⟨fun _ => ⟨fun _ => must_y hW (fun v => bad I1 e v n hl hb he), fun q => absurd hpos q⟩, fun q => ?_⟩
    rw [hb.1] at q; exact absurd q (nI_ne0 hb.2.1 (by have := hb.2.2.1; omega))
  have loop : ∀ m i n (D : Dr) (I1 : Nat → Nat → Int32), T.length + 1 ≤ i + m → i ≤ T.length → n ≤ i → lF I I1 → rM I1 T (nx T i) → drR I1 D → drOK D → textP T = bnd (linesP T m D i n) (fun r => if r.1.2.2.2.2.1 ≤ r.1.2.2.2.1 ∧ r.1.2.2.2.2.2.1 ≤ r.1.2.2.1 then .inr r else .inl (5, T.length)) → Ex mX10_text 63 [.ref 209, .int (nI n)] [] (sh, I1, R) 0 0 (xqI Q) := by
    intro m
    induction m with
    | zero => intro i n D I1 h1 h2; omega
    | succ m ih =>
      intro i n D I1 h1 h2 hni hl hM hD hok htx
      unfold linesP at htx
      cases hx : nx T i with
      | inl e =>
        rw [hx] at hM htx
        exact badL I1 e _ hl hM htx
      | inr t =>
        rw [hx] at hM htx
        rw [bnd_r] at htx
        have hT1 := hT0.l hl
        have hab := rM_a hT1 hM
        have hM0 := hM
        obtain ⟨h17, h21, h20, h19, ok, -, -⟩ := hM
        have hk4 := ok.1
        obtain ⟨-, hia⟩ := nx_ok (k := t.1) (a := t.2.1) (b := t.2.2) h2 hx
        refine bX10_text_63 hW ⟨fun q => absurd h17 q, fun _ => ⟨fun q => ⟨fun z => ?_, fun _ => ?_⟩, fun q => ?_⟩⟩
        · rw [h17] at z; exact absurd z (by decide)
        · rw [h21] at q
          have hk0 : t.1 = 0 := (nI_eq (a := t.1) (b := 0) (by omega) (by omega)).mp q
          rw [if_pos hk0, bnd_r] at htx
          have hao : t.2.1 = T.length := ok.2.2.2.1 hk0
          have hg4 := hok.2.2.2.1
          have hn4 := hok.2.2.1
          have hl3 := hok.2.2.2.2.1
          have hL3 := hok.2.1.2
          obtain ⟨f1, f2⟩ := flt (T := T) (c := 5) h20 (by decide) (by decide) hab.1
          rw [hao] at f2
          refine w_many hW (by decide) (bX10_text_105 hW ?_)
          rw [hD.2.2.2.2.2.1, hD.2.2.1, hD.2.1, hD.2.2.2.1]
          refine ⟨fun z => ?_, fun z => ⟨fun y => ?_, fun y => ?_⟩⟩
          · have := (nI_ltI (by omega) (by omega)).mp z
            rw [if_neg (fun w => by have : D.2.2.2.2.1 ≤ D.2.2.2.1 := w.1; omega)] at htx
            exact must_n hW h17 (fun v => bad _ (5, T.length) v _ (hl.tr f1.l) f2 htx)
          · have := (nI_ltI (by omega) (by omega)).mp y
            rw [if_neg (fun w => by have : D.2.2.2.2.2.1 ≤ D.2.2.1 := w.2; omega)] at htx
            exact must_n hW h17 (fun v => bad _ (5, T.length) v _ (hl.tr f1.l) f2 htx)
          · have y1 : D.2.2.2.2.1 ≤ D.2.2.2.1 := by
              rcases Nat.lt_or_ge D.2.2.2.1 D.2.2.2.2.1 with w | w
              · exact absurd (nI_lt w (by omega)) z
              · exact w
            have y2 : D.2.2.2.2.2.1 ≤ D.2.2.1 := by
              rcases Nat.lt_or_ge D.2.2.1 D.2.2.2.2.2.1 with w | w
              · exact absurd (nI_lt w (by omega)) y
              · exact w
            rw [if_pos ⟨y1, y2⟩] at htx
            refine must_y hW (fun v => bX10_text_128 hW ⟨fun _ => ?_, fun w => ?_⟩)
            · rw [htx] at hans
              rw [hans] at k
              refine w_takesDraft (D := D) hW (hD.eq (fun j h1 h2 => xi_s (by omega)) (by funext j; exact xi_p (by decide)) (by funext j; exact xi_p (by decide))) hok ?_ xi_e (by rw [xi_s (by decide)]; exact h17) (fun I2 md hf2 => bX10_text_153 hW (k I2 md ?_))
              · have := hN0.l hl
                exact ⟨fun j hj => by rw [xi_p (by decide)]; exact this.1 j hj, fun j hj => by rw [xi_p (by decide)]; exact this.2 j hj⟩
              · refine mFr.tr ?_ hf2
                intro q hq
                funext j
                rw [xi_p (by omega), hl.1.at q j (by simp; omega)]
            · rw [h17] at w; exact absurd (by decide) w
        · rw [h21] at q
          have hk0 : t.1 ≠ 0 := fun z => q (by rw [z]; rfl)
          rw [if_neg hk0] at htx
          refine w_readsLine hW hT1 hM0 (hN0.l hl) hD hok (fun I2 hl2 hM2 hd2 => bX10_text_81 hW ?_)
          rw [nI_add]
          cases hz : lineP T D t with
          | inl e =>
            rw [hz] at hM2 htx
            exact badL I2 e _ (hl.tr hl2) hM2 htx
          | inr r =>
            rw [hz, bnd_r] at hM2 htx
            have hlo := lineP_ok (k := t.1) (a := t.2.1) (b := t.2.2) (i := r.2) (D' := r.1) hab.2 hok hz
            have := ok.2.1
            exact ih r.2 (n + 1) r.1 I2 (by omega) hlo.2.2 (by omega) (hl.tr hl2) hM2 (hd2 r.1 r.2 hz) hlo.1 htx
  refine eX10_text (bX10_text_0 hW ?_)
  generalize hI1 : xi (xi I 209 17 (nI 0)) 209 19 (nI 0) = I1
  have l1 : lF I I1 := by rw [← hI1]; exact (lF.rf.xi (by omega) (by omega)).xi (by omega) (by omega)
  have u17 : I1 209 17 = nI 0 := by rw [← hI1, xi_s (by decide), xi_e]
  have u19 : I1 209 19 = nI 0 := by rw [← hI1, xi_e]
  refine w_empties hW (by decide) (fun I2 f2 p2 c2 => bX10_text_16 hW ?_)
  have l2 : lF I I2 := l1.tr ⟨f2.sub (by simp), fun j _ => f2.at 209 j (by decide), p2⟩
  generalize hI3 : xi (xi (xi (xi I2 209 26 (nI 7)) 209 27 (nI 2)) 209 28 (nI 0)) 209 29 (nI 0) = I3
  have l3 : lF I I3 := by rw [← hI3]; exact (((l2.xi (by omega) (by omega)).xi (by omega) (by omega)).xi (by omega) (by omega)).xi (by omega) (by omega)
  have v9 : ∀ j, j < 26 → I3 209 j = I2 209 j := fun j hj => by rw [← hI3, xi_s (by omega), xi_s (by omega), xi_s (by omega), xi_s (by omega)]
  have v26 : I3 209 26 = nI 7 := by rw [← hI3, xi_s (by decide), xi_s (by decide), xi_s (by decide), xi_e]
  have v27 : I3 209 27 = nI 2 := by rw [← hI3, xi_s (by decide), xi_s (by decide), xi_e]
  have v28 : I3 209 28 = nI 0 := by rw [← hI3, xi_s (by decide), xi_e]
  have v29 : I3 209 29 = nI 0 := by rw [← hI3, xi_e]
  have v0 : ∀ c, c < 57 → I3 210 (57 * 31 + c) = 0 := fun c hc => by rw [← hI3, xi_p (by decide), xi_p (by decide), xi_p (by decide), xi_p (by decide)]; exact c2 c hc
  have toldL : ∀ j c (I4 : Nat → Nat → Int32), c + j = 3 → Fr [221] I3 I4 → (∀ i, i < c → I4 221 i = nI 0) → Ex mX10_text 39 [.ref 209, .int (nI c)] [] (sh, I4, R) 0 0 (xqI Q) := by
    intro j
    induction j with
    | zero =>
      intro c I4 hc f4 ht
      obtain rfl : c = 3 := by omega
      have l4 : lF I I4 := l3.tr ⟨f4.sub (by simp), fun j _ => f4.at 209 j (by decide), pgF.of f4 (by decide)⟩
      refine bX10_text_39 hW ⟨fun _ => ?_, fun q => absurd (nI_le (Nat.le_refl _) (by omega)) q⟩
      refine w_reads (y := .inr 0) hW (hT0.l l4) ⟨by rw [f4.at 209 17 (by decide), v9 17 (by omega), f2.at 209 17 (by decide)]; exact u17, by rw [f4.at 209 19 (by decide), v9 19 (by omega), f2.at 209 19 (by decide)]; exact u19, Nat.zero_le _⟩ (fun I5 hf5 hM5 => ?_)
      refine loop (T.length + 1) 0 0 dr0 I5 (by omega) (Nat.zero_le _) (Nat.le_refl _) (l4.tr hf5.l) hM5 ?_ dr0_ok rfl
      refine drR.pF (I := I4) ?_ hf5
      have w0 : ∀ c, c < 57 → I4 210 (57 * 31 + c) = nI 0 := fun c hc => by rw [f4.at 210 _ (by decide), v0 c hc]; rfl
      exact ⟨by rw [f4.at 209 26 (by decide)]; exact v26, by rw [f4.at 209 27 (by decide)]; exact v27, by rw [f4.at 209 28 (by decide)]; exact v28, by rw [f4.at 209 29 (by decide)]; exact v29, fun j hj => by rw [ht j hj]; rfl, w0 0 (by omega), fun s hs => w0 (1 + s) (by omega), fun s hs => w0 (5 + s) (by omega), fun s x t h1 h2 h3 => w0 (9 + 12 * s + 4 * x + t) (by omega)⟩
    | succ j ih =>
      intro c I4 hc f4 ht
      refine bX10_text_39 hW ⟨fun q => absurd q (nI_ge (by omega) (by omega)), fun _ => ⟨vp_nI (by omega) (by omega), ?_⟩⟩
      rw [nclamp (by omega), nI_add, nar0]
      refine ih (c + 1) _ (by omega) (f4.xi (by simp)) (fun i hi => ?_)
      by_cases e : i = c
      · subst e; exact xi_e
      · rw [xi_s e]; exact ht i (by omega)
  exact toldL 3 0 I3 (by omega) Fr.rf (fun i hi => absurd hi (Nat.not_lt_zero i))
end TEXT
