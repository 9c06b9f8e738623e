section CLRN
variable {sh : List xSh} {I : Nat → Nat → Int32} {R : Nat → Nat → Option Nat}
theorem k_hasSuffix {q w : Nat} {S : List Nat} {Q : Int32 → xHp → Prop} (hW : xLay sh R) (hq : xStudy sh R q) (h6 : I q 6 = nI S.length) (hS : ∀ j, j < S.length → I (q + 2) j = nI (S.getD j 0)) (h48 : S.length ≤ 48) (hb : ∀ s ∈ S, s < 2 ^ 31) (hw : w < 2 ^ 31) (k1 : w ∈ S → Q (nI 1) (sh, I, R)) (k0 : w ∉ S → Q (nI 0) (sh, I, R)) : CI mX8_hasSuffix [.ref q, .int (nI w)] (sh, I, R) Q := by
  have loop : ∀ j i, i + j = S.length → (∀ c, c < i → S.getD c 0 ≠ w) → Ex mX8_hasSuffix 2 [.ref q, .int (nI w), .int (nI i)] [] (sh, I, R) 0 0 (xqI Q) := by
    intro j
    induction j with
    | zero =>
      intro i hi hno
      obtain rfl : i = S.length := by omega
      refine bX8_hasSuffix_2 hW hq ⟨fun _ => k0 (fun z => ?_), fun z => ?_⟩
      · obtain ⟨c, hc, e⟩ := List.getElem_of_mem z
        exact hno c hc (by rw [gd_el hc, e])
      · rw [h6] at z; exact absurd (nI_le (Nat.le_refl _) (by omega)) z
    | succ j ih =>
      intro i hi hno
      refine bX8_hasSuffix_2 hW hq ⟨fun z => ?_, fun _ => ⟨vp_nI (by omega) (by omega), ?_⟩⟩
      · rw [h6] at z; exact absurd z (nI_ge (by omega) (by omega))
      rw [nclamp (by omega), hS i (by omega)]
      have hm : S.getD i 0 ∈ S := gd_mem (by omega)
      refine ⟨fun z => ?_, fun z => k1 ?_⟩
      · rw [nI_add]
        refine ih (i + 1) (by omega) (fun c hc => ?_)
        by_cases e : c = i
        · subst e; exact fun y => z (by rw [y])
        · exact hno c (by omega)
      · have e := (nI_eq (hb _ hm) hw).mp z
        rw [← e]; exact hm
  exact eX8_hasSuffix (bX8_hasSuffix_0 hW hq (loop S.length 0 (by omega) (fun c hc => absurd hc (Nat.not_lt_zero c))))
theorem lft_new {L w : Nat} (hL : 0 < L) {S : List Nat} {i : Nat} (hi : i ≤ wlen L w) : lft L w (wlen L w - i) ∈ enl L w S i ↔ lft L w (wlen L w - i) ∈ S := by
  rw [enl_mem]
  constructor
  · rintro (h | ⟨j, h1, h2⟩)
    · exact h
    · have e := congrArg (wlen L) h2
      rw [lft_len hL, lft_len hL] at e
      omega
  · exact Or.inl
theorem lft_bd {L w : Nat} (hL : 0 < L) (hL3 : L ≤ 3) (hw : wlen L w ≤ 12) (j : Nat) : lft L w j < 2 ^ 31 := wl_lt31 hL hL3 (by rw [lft_len hL]; omega)
theorem enl_bd {L w : Nat} (hL : 0 < L) (hL3 : L ≤ 3) (hw : wlen L w ≤ 12) {S : List Nat} (hS : ∀ s ∈ S, s < 2 ^ 31) (i : Nat) : ∀ s ∈ enl L w S i, s < 2 ^ 31 := fun s hs => by
  rcases (enl_mem i s).mp hs with h | ⟨j, -, h⟩
  · exact hS s h
  · rw [h]; exact lft_bd hL hL3 hw _
theorem k_newEndings {p L q w : Nat} {S : List Nat} {Q : Int32 → xHp → Prop} (hW : xLay sh R) (hc : cCtx I p L) (hq : xStudy sh R q) (h6 : I q 6 = nI S.length) (hS : ∀ j, j < S.length → I (q + 2) j = nI (S.getD j 0)) (h48 : S.length ≤ 48) (hb : ∀ s ∈ S, s < 2 ^ 31) (hw : wlen L w ≤ 12) (k : Q (nI ((ena L w S).length - S.length)) (sh, I, R)) : CI mX8_newEndings [.ref q, .int (nI w)] (sh, I, R) Q := by
  obtain ⟨-, -, -, hL1, hL3⟩ := id hc
  have loop : ∀ j i, i + j = wlen L w + 1 → Ex mX8_newEndings 14 [.ref q, .int (nI w), .int (nI ((enl L w S i).length - S.length)), .int (nI (wlen L w)), .int (nI i)] [] (sh, I, R) 0 0 (xqI Q) := by
    intro j
    induction j with
    | zero =>
      intro i hi
      obtain rfl : i = wlen L w + 1 := by omega
      exact bX8_newEndings_14 hW hq ⟨fun _ => k, fun z => absurd (nI_lt (by omega) (by omega)) z⟩
    | succ j ih =>
      intro i hi
      have hle := enl_le L w S 0 i
      rw [Nat.zero_add] at hle
      have hle2 : S.length ≤ (enl L w S i).length := hle
      refine bX8_newEndings_14 hW hq ⟨fun z => absurd z (nI_nlt (by omega) (by omega)), fun _ => k_ending hW hc hw (by omega) (bX8_newEndings_32 hW hq (k_hasSuffix hW hq h6 hS h48 hb (lft_bd hL1 hL3 hw _) (fun hin => bX8_newEndings_35 hW hq ⟨fun z => absurd z (by decide), fun _ => ?_⟩) (fun hin => bX8_newEndings_35 hW hq ⟨fun _ => ?_, fun z => absurd rfl z⟩)))⟩
      · have := ih (i + 1) (by omega)
        rw [enl, if_pos hin] at this
        rw [nI_add, nI_add, Nat.add_zero]; exact this
      · have := ih (i + 1) (by omega)
        rw [enl, if_neg hin, List.length_append, List.length_cons, List.length_nil, show (enl L w S i).length + (0 + 1) - S.length = (enl L w S i).length - S.length + 1 by omega] at this
        rw [nI_add, nI_add]; exact this
  have := loop (wlen L w + 1) 0 (by omega)
  have e0 : (enl L w S 0).length - S.length = 0 := Nat.sub_self _
  rw [e0] at this
  exact eX8_newEndings (bX8_newEndings_0 hW hq (k_lengthOf hW hc (wl_lt31 hL1 hL3 hw) hw (bX8_newEndings_10 hW hq this)))
theorem k_addEndings {p L q w : Nat} {S : List Nat} {Q : xHp → Prop} (hW : xLay sh R) (hc : cCtx I p L) (hq : xStudy sh R q) (hq1 : 1 < q) (h6 : I q 6 = nI S.length) (hS : ∀ j, j < S.length → I (q + 2) j = nI (S.getD j 0)) (h48 : (ena L w S).length ≤ 47) (hb : ∀ s ∈ S, s < 2 ^ 31) (hw : wlen L w ≤ 12) (k : ∀ I', Fr [q, q + 2] I I' → (∀ j, j ≠ 6 → I' q j = I q j) → I' q 6 = nI (ena L w S).length → (∀ j, j < (ena L w S).length → I' (q + 2) j = nI ((ena L w S).getD j 0)) → Q (sh, I', R)) : CV mX8_addEndings [.ref q, .int (nI w)] (sh, I, R) Q := by
  obtain ⟨-, -, -, hL1, hL3⟩ := id hc
  have loop : ∀ j i (I1 : Nat → Nat → Int32), i + j = wlen L w + 1 → Fr [q, q + 2] I I1 → (∀ j, j ≠ 6 → I1 q j = I q j) → I1 q 6 = nI (enl L w S i).length → (∀ j, j < (enl L w S i).length → I1 (q + 2) j = nI ((enl L w S i).getD j 0)) → Ex mX8_addEndings 11 [.ref q, .int (nI w), .int (nI (wlen L w)), .int (nI i), xU] [] (sh, I1, R) 0 0 (xqV Q) := by
    intro j
    induction j with
    | zero =>
      intro i I1 hi f1 g1 g6 gS
      obtain rfl : i = wlen L w + 1 := by omega
      exact bX8_addEndings_11 hW hq ⟨fun _ => k I1 f1 g1 g6 gS, fun z => absurd (nI_lt (by omega) (by omega)) z⟩
    | succ j ih =>
      intro i I1 hi f1 g1 g6 gS
      have hle := enl_le L w S i (wlen L w + 1 - i)
      rw [show i + (wlen L w + 1 - i) = wlen L w + 1 by omega] at hle
      have hle2 : (enl L w S i).length ≤ (ena L w S).length := hle
      have hc1 := hc.fr f1 (by simp <;> omega)
      refine bX8_addEndings_11 hW hq ⟨fun z => absurd z (nI_nlt (by omega) (by omega)), fun _ => k_ending hW hc1 hw (by omega) (bX8_addEndings_25 hW hq ?_)⟩
      rw [g6]
      refine ⟨fun z => absurd z (nI_ge (by omega) (by omega)), fun _ => k_hasSuffix hW hq g6 gS (by omega) (enl_bd hL1 hL3 hw hb i) (lft_bd hL1 hL3 hw _) (fun hin => bX8_addEndings_42 hW hq ⟨fun _ => ?_, fun z => absurd z (by decide)⟩) (fun hin => bX8_addEndings_42 hW hq ⟨fun z => absurd rfl z, fun _ => ?_⟩)⟩
      · have hin2 := (lft_new hL1 (by omega)).mp hin
        rw [nI_add]
        refine ih (i + 1) I1 (by omega) f1 g1 ?_ ?_
        · rw [enl, if_pos hin2]; exact g6
        · rw [enl, if_pos hin2]; exact gS
      · have hin2 : lft L w (wlen L w - i) ∉ S := fun z => hin ((lft_new hL1 (by omega)).mpr z)
        rw [g6, nclamp (by omega), nI_add, nI_add]
        refine ⟨vp_nI (by omega) (by omega), ih (i + 1) _ (by omega) ((f1.xi (by simp)).xi (by simp)) (fun j hj => by rw [xi_s hj, xi_p (by omega)]; exact g1 j hj) ?_ (fun j hj => ?_)⟩
        · rw [xi_e, enl, if_neg hin2, List.length_append]; rfl
        · rw [enl, if_neg hin2] at hj ⊢
          rw [List.length_append, List.length_cons, List.length_nil] at hj
          rw [xi_p (by omega)]
          by_cases e : j = (enl L w S i).length
          · subst e; rw [xi_e, gd_last]
          · rw [xi_s e, gd_app (by omega)]; exact gS j (by omega)
  exact eX8_addEndings (bX8_addEndings_0 hW hq (k_lengthOf hW hc (wl_lt31 hL1 hL3 hw) hw (bX8_addEndings_8 hW hq (loop (wlen L w + 1) 0 I (by omega) Fr.rf (fun _ _ => rfl) h6 hS))))
theorem sfx_bd {p L : Nat} [NeZero p] (hL : 0 < L) (hL3 : L ≤ 3) {A : Mac} {P S : List Nat} (ht : tabOK p L A P S) : ∀ s ∈ S, s < 2 ^ 31 := fun s hs => by
  obtain ⟨i, hi, he⟩ := List.getElem_of_mem hs
  have := ht.2.1 i hi
  rw [gd_el hi, he] at this
  exact wl_lt31 hL hL3 (by omega)
theorem k_ask {σ : St} [NeZero σ.p] {n : Int32} {Q : Int32 → xHp → Prop} (hW : clR sh I R σ) (k : ∀ I' R', clR sh I' R' (askA σ n).2 → cFr I I' → Q (askA σ n).1 (sh, I', R')) : CI mX9_ask [.ref 0, .int n] (sh, I, R) Q := by
  have hL1 := hW.ok.L1
  have hL3 := hW.ok.L3
  have htb := hW.ok.t
  have hbd := htb.bd
  obtain ⟨_, hA4, hokA, -, ht, -⟩ := id htb
  have hst := hW.st
  have hfb : fst σ.L 6 ≤ 797161 := fst_bd hL3 6 (by omega)
  unfold askA at k
  refine eX9_ask (bX9_ask_0 hW.lay ⟨fun z => ?_, fun z => k_firstOfLength hW.lay hW.ctx (by omega) (bX9_ask_14 hW.lay ?_)⟩)
  · rw [if_neg (fun y => by have := lt0.mp z; have := y.1; omega)] at k
    exact k I R hW cFr.rf
  have h0 : 0 ≤ n.toInt := by
    by_cases y : n.toInt < 0
    · exact absurd (lt0.mpr y) z
    · omega
  have hnb : nN n < 2 ^ 31 := by have := Int32.toInt_lt n; unfold nN; omega
  rw [← nI_N h0] at k ⊢
  rw [nN_n hnb] at k
  generalize hc : nN n = c at k hnb ⊢
  refine ⟨fun y => ?_, fun y => ?_⟩
  · have hlt := (nI_ltI hnb (by omega)).mp y
    rw [if_pos ((inB_n hnb).mpr hlt)] at k
    have hwl : wlen σ.L c ≤ 5 := by have := (wlen_lt_iff hL1 c 6).mpr hlt; omega
    have hsb := sfx_bd hL1 hL3 ht
    have hge : σ.t.S.length ≤ (ena σ.L c σ.t.S).length := enl_le σ.L c σ.t.S 0 (wlen σ.L c + 1) |> fun h => by rw [Nat.zero_add] at h; exact h
    have hle2 : (ena σ.L c σ.t.S).length ≤ σ.t.S.length + wlen σ.L c := by obtain ⟨-, -, -, -, -, hsf, -⟩ := id htb; exact ena_len hL1 hsf
    refine k_newEndings hW.lay hW.ctx hW.study hst.2.2.2.2.2.2.1 hst.2.2.2.2.2.2.2.1 (by omega) hsb (by omega) (bX9_ask_34 hW.lay ?_)
    rw [hst.2.2.2.2.2.2.1, nI_add, show σ.t.S.length + ((ena σ.L c σ.t.S).length - σ.t.S.length) = (ena σ.L c σ.t.S).length by omega]
    refine ⟨fun w => ?_, fun w => ?_⟩
    · have h24 := (nI_leI (by omega) (by omega)).mp w
      rw [if_neg (by omega)] at k
      refine k_addEndings hW.lay hW.ctx hW.study (by omega) hst.2.2.2.2.2.2.1 hst.2.2.2.2.2.2.2.1 (by omega) hsb (by omega) (fun I1 f1 g6 e6 eS => bX9_ask_51 hW.lay ?_)
      rw [e6]
      refine k I1 R (hW.t' (τ := σ.t.set_S (ena σ.L c σ.t.S)) (tbOK_ask hL1 htb (by omega) h24) (fun c hc => f1 c (by simp <;> omega)) (fun j _ => f1.at 0 j (by simp)) (f1.at 169 1 (by simp)) ?_ ?_ rG.rf hW.ht ?_ (hW.ls.tb rfl (f1.at 0 11 (by simp)) (fun c h1 h2 => f1 c (by simp <;> omega)))) (fun c h1 h2 => f1 c (by simp <;> omega))
      · rw [f1.at 173 1 (by simp)]; exact hW.mc.1 173 (by decide)
      · rw [f1.at 16 1 (by simp)]; exact hW.mc.1 16 (by decide)
      · obtain ⟨a1, a2, a3, a4, a5, a6, a7, a8, a9⟩ := hst
        exact ⟨a1.fr f1 (by simp), by rw [g6 8 (by decide)]; exact a2, fun g => (a3 g).fr f1 (by simp), by rw [f1 16 (by simp)]; exact a4, by rw [g6 5 (by decide)]; exact a5, by rw [f1 10 (by simp)]; exact a6, e6, eS, by rw [g6 7 (by decide)]; exact a9⟩
    · have h24 : 24 < (ena σ.L c σ.t.S).length := by
        rcases Nat.lt_or_ge 24 (ena σ.L c σ.t.S).length with u | u
        · exact u
        · exact absurd (nI_le u (by omega)) w
      rw [if_pos h24] at k
      exact k I R hW cFr.rf
  · rw [if_neg (fun w => y (nI_lt ((inB_n hnb).mp w) (by omega)))] at k
    exact k I R hW cFr.rf
theorem dfO_spec {p L w : Nat} {A B : Mac} (h : dfO p L A B = some w) : vN p A (wl L w) ≠ vN p B (wl L w) ∧ ∀ u, u < w → vN p A (wl L u) = vN p B (wl L u) := by
  by_cases e : ∃ w, w < fst L 8 ∧ vN p A (wl L w) ≠ vN p B (wl L w)
  · have : ∀ m w, w < m → w < fst L 8 → vN p A (wl L w) ≠ vN p B (wl L w) → ∃ w', w' < fst L 8 ∧ vN p A (wl L w') ≠ vN p B (wl L w') ∧ ∀ u, u < w' → vN p A (wl L u) = vN p B (wl L u) := by
      intro m
      induction m with
      | zero => intro w hw; omega
      | succ m ih =>
        intro w hw h8 hn
        by_cases q : ∃ u, u < w ∧ vN p A (wl L u) ≠ vN p B (wl L u)
        · obtain ⟨u, hu, hun⟩ := q
          exact ih u (by omega) (by omega) hun
        · exact ⟨w, h8, hn, fun u hu => Classical.byContradiction (fun z => q ⟨u, hu, z⟩)⟩
    obtain ⟨w0, h0, hn0⟩ := e
    obtain ⟨w', g1, g2, g3⟩ := this (w0 + 1) w0 (by omega) h0 hn0
    rw [dfO_some g1 g2 g3] at h
    cases h
    exact ⟨g2, g3⟩
  · unfold dfO at h
    rw [cif_neg e] at h
    exact absurd h (by simp)
theorem made_cM {p L q M C : Nat} [NeZero p] {A G G2 : Mac} {P : List Nat} {cs : Nat → Nat} (hi : indp C P.length (fun j => RW p L A cs (P.getD j 0))) (h : madeOK p L A P C cs G) (h2 : madeOK p L A P C cs G2) (hr : cM I L q M G) : cM I L q M G2 := hr.same (by rw [h2.1, h.1]) (fun s hs => by rw [h2.2.1 s (by rw [← h.1]; exact hs), h.2.1 s (by rw [← h.1]; exact hs)]) (fun s hs => by rw [h2.2.2.1 s (by rw [← h.1]; exact hs), h.2.2.1 s (by rw [← h.1]; exact hs)]) (fun s x t a b c => madeOK.uniq hi h2 h s x t (by rw [← h.1]; exact a) b (by rw [← h.1]; exact c))
theorem k_learn {σ : St} [NeZero σ.p] {Q : Int32 → xHp → Prop} (hW : clR sh I R σ) (k : ∀ I' R', clR sh I' R' (learnA σ).2 → cFr I I' → Q (learnA σ).1 (sh, I', R')) : CI mX9_learn [.ref 0] (sh, I, R) Q := by
  have hp := hW.ok.p
  have hL1 := hW.ok.L1
  have hL3 := hW.ok.L3
  have hp2 := PR_bd _ hp
  have htb := hW.ok.t
  obtain ⟨_, hA4, hokA, -, ht, -⟩ := id htb
  -- the round is counted
  have hst0 := hW.st
  refine eX9_learn (bX9_learn_0 hW.lay ?_)
  rw [hst0.2.2.2.2.2.2.2.2]
  generalize hI0 : xi I 9 7 (σ.t.r + nI 1) = I0
  have f0 : Fr [9] I I0 := by rw [← hI0]; exact Fr.rf.xi (by simp)
  have g0 : ∀ j, j ≠ 7 → I0 9 j = I 9 j := fun j hj => by rw [← hI0, xi_s hj]
  have hW0 : clR sh I0 R (σ.set_t (σ.t.set_r (σ.t.r + 1))) := by
    obtain ⟨a1, a2, a3, a4, a5, a6, a7, a8, a9⟩ := hst0
    refine hW.t' (τ := σ.t.set_r (σ.t.r + 1)) htb (fun c hc => f0 c (by simp <;> omega)) (fun j _ => f0.at 0 j (by simp)) (f0.at 169 1 (by simp)) ?_ ?_ rG.rf hW.ht ⟨a1.fr f0 (by simp), by rw [g0 8 (by decide)]; exact a2, fun g => (a3 g).fr f0 (by simp), by rw [f0 16 (by simp)]; exact a4, by rw [g0 5 (by decide)]; exact a5, by rw [f0 10 (by simp)]; exact a6, by rw [g0 6 (by decide)]; exact a7, by rw [f0 11 (by simp)]; exact a8, by rw [← hI0, xi_e]; rfl⟩ (hW.ls.tb rfl (f0.at 0 11 (by simp)) (fun c h1 h2 => f0 c (by simp <;> omega)))
    · rw [f0.at 173 1 (by simp)]; exact hW.mc.1 173 (by decide)
    · rw [f0.at 16 1 (by simp)]; exact hW.mc.1 16 (by decide)
  have hnz : NeZero (σ.set_t (σ.t.set_r (σ.t.r + 1))).p := (inferInstance : NeZero σ.p)
  refine k_layTable hW0 (fun I1 R1 K E rc h t o1 hr1 hh1 h91 hs1 hE hb1 => bX9_learn_17 (hr1.lay hW.lay) (k_laid hW0 o1 hr1 hh1 h91 hs1 hE hb1 (fun I2 n P' o2 hs2 hcl hclE h4 hb2 => bX9_learn_24 (hr1.lay hW.lay) ?_)))
  have hcl' : ClsN (DT σ.p σ.L σ.t.A σ.t.S) σ.L n σ.t.P P' := hcl
  have hW2 := hW0.scr (sF.of o2) hr1 ⟨_, _, hh1⟩
  have ht1 := tabOK_cls hp n _ _ ht hcl'
  have htb1 : tbOK σ.p σ.L (σ.t.set_P P') := tbOK_close hp hL1 htb hcl' ht1
  refine k_takePrefixes hW2.lay hW2.study (by omega) hb2.1 hb2.2.1 h4 (fun I3 f3 g5 e5 e1 => bX9_learn_36 hW2.lay ?_)
  have hb3 : bWd I3 σ.p σ.L σ.t.A K E P' := hb2.eq (f3.at 23 10 (by simp)) (fun c hc => f3 c (by simp <;> omega))
  have h16 : I3 16 1 = nI 4 := by rw [f3.at 16 1 (by simp)]; exact hW2.mc.1 16 (by decide)
  refine k_build hW2.lay (hW2.ctx.fr f3 (by simp)) h91 hW2.m12 (by omega) (by omega) (hW2.A.fr f3 (by simp)) hokA hh1 (hs2.fr f3 (by simp)) hb3 hW2.m16 (by omega) (by omega) (by omega) (by omega) h16 h4 hclE (fun I4 G f4 hG hcM => bX9_learn_50 hW2.lay ?_)
  have hmade : madeOK σ.p σ.L σ.t.A P' σ.t.S.length (fun i => σ.t.S.getD i 0) G := hG.ok hL1 hE.1
  have eG := gsM_made hmade
  have hcG : cM I4 σ.L 16 4 (gsM σ.p σ.L σ.t.A P' σ.t.S) := made_cM ht1.2.2 hmade eG hcM
  have hokG := eG.ok hp2.1
  have eP := clsP_eq hcl'
  unfold learnA at k
  dsimp only at k
  rw [eP] at k
  generalize hgg : gsM σ.p σ.L σ.t.A P' σ.t.S = G2 at eG hcG hokG k
  generalize hI5 : xi I4 9 8 (nI 1) = I5
  have f5 : Fr [9] I4 I5 := by rw [← hI5]; exact Fr.rf.xi (by simp)
  have g5' : ∀ j, j ≠ 8 → I5 9 j = I4 9 j := fun j hj => by rw [← hI5, xi_s hj]
  have b4 : ∀ c, c ≠ 34 → c ≠ 36 → c ≠ 37 → c ≠ 60 → c ≠ 80 → c ≠ 81 → c < 16 ∨ 19 < c → c ≠ 9 → I5 c = I3 c := fun c c1 c2 c3 c4 c5 c6 c7 c8 => by rw [f5 c (by simp <;> omega), f4 c c1 c2 c3 c4 c5 c6 (by omega)]
  have n4 : ∀ j, I4 9 j = I3 9 j := fun j => by rw [f4 9 (by decide) (by decide) (by decide) (by decide) (by decide) (by decide) (by omega)]
  have hok5 : tbOK σ.p σ.L (Tb.mk σ.t.A true G2 P' σ.t.S (σ.t.r + 1)) := tbOK_exact hp htb1 eG
  have hst2 := hW2.st
  have hW5 : clR sh I5 R1 (σ.set_t (Tb.mk σ.t.A true G2 P' σ.t.S (σ.t.r + 1))) := by
    obtain ⟨a1, a2, a3, a4, a5, a6, a7, a8, a9⟩ := hst2
    have hx : ∀ c, (c < 9 ∨ (20 ≤ c ∧ c < 23) ∨ 169 ≤ c) → I5 c = I2 c := fun c hc => by rw [b4 c (by omega) (by omega) (by omega) (by omega) (by omega) (by omega) (by omega) (by omega), f3 c (by simp <;> omega)]
    refine hW2.t' (τ := Tb.mk σ.t.A true G2 P' σ.t.S (σ.t.r + 1)) hok5 (fun c hc => hx c (by omega)) (fun j _ => by rw [hx 0 (by omega)]) (by rw [hx 169 (by omega)]) (by rw [hx 173 (by omega)]; exact hW2.mc.1 173 (by decide)) ?_ rG.rf hW2.ht ⟨?_, ?_, fun _ => hcG.fr f5 (by simp), ⟨G2.1, hcG.1, by rw [f5 16 (by simp)]; exact hcG.2.2.1⟩, ?_, ?_, ?_, ?_, ?_⟩ (hW2.ls.tb rfl (by rw [hx 0 (by omega)]) (fun c h1 h2 => hx c (by omega)))
    · rw [f5 16 (by simp)]; exact hcG.2.1
    · exact a1.eq (by rw [b4 12 (by decide) (by decide) (by decide) (by decide) (by decide) (by decide) (by omega) (by decide), f3 12 (by simp)]) (by rw [b4 13 (by decide) (by decide) (by decide) (by decide) (by decide) (by decide) (by omega) (by decide), f3 13 (by simp)]) (by rw [b4 14 (by decide) (by decide) (by decide) (by decide) (by decide) (by decide) (by omega) (by decide), f3 14 (by simp)]) (by rw [b4 15 (by decide) (by decide) (by decide) (by decide) (by decide) (by decide) (by omega) (by decide), f3 15 (by simp)])
    · rw [← hI5, xi_e]; rfl
    · rw [g5' 5 (by decide), n4]; exact e5
    · intro j hj
      show I5 10 j = _
      rw [b4 10 (by decide) (by decide) (by decide) (by decide) (by decide) (by decide) (by omega) (by decide)]; exact e1 j hj
    · rw [g5' 6 (by decide), n4, g5 6 (by decide)]; exact a7
    · intro j hj
      show I5 11 j = _
      rw [b4 11 (by decide) (by decide) (by decide) (by decide) (by decide) (by decide) (by omega) (by decide), f3 11 (by simp)]; exact a8 j hj
    · rw [g5' 7 (by decide), n4, g5 7 (by decide)]; exact a9
  have cf5 : cFr I I5 := fun c h1 h2 => by rw [b4 c (by omega) (by omega) (by omega) (by omega) (by omega) (by omega) (by omega) (by omega), f3 c (by simp <;> omega), o2 c (by omega), f0 c (by simp <;> omega)]
  have hnz5 : NeZero (σ.set_t (Tb.mk σ.t.A true G2 P' σ.t.S (σ.t.r + 1))).p := (inferInstance : NeZero σ.p)
  refine k_fd hW5 hW5.m16 (by omega) (by omega) (hcG.fr f5 (by simp)) hokG (fun I6 R6 hW6 hs6 hlen => bX9_learn_69 hW6.lay ?_)
  have hW6' : clR sh I6 R6 (σ.set_t (Tb.mk σ.t.A true G2 P' σ.t.S (σ.t.r + 1))) := hW6
  have e9 : dfO (σ.set_t (Tb.mk σ.t.A true G2 P' σ.t.S (σ.t.r + 1))).p (σ.set_t (Tb.mk σ.t.A true G2 P' σ.t.S (σ.t.r + 1))).L (σ.set_t (Tb.mk σ.t.A true G2 P' σ.t.S (σ.t.r + 1))).t.A G2 = dfO σ.p σ.L σ.t.A G2 := rfl
  rw [e9]
  have hlen' : ∀ w, dfO σ.p σ.L σ.t.A G2 = some w → wlen σ.L w ≤ 7 := hlen
  cases hdf : dfO σ.p σ.L σ.t.A G2 with
  | none =>
    rw [hdf] at k
    exact ⟨fun _ => k I6 R6 hW6' (cf5.tr hs6.c), fun z => absurd rfl z⟩
  | some w =>
    rw [hdf] at k
    have hwl := hlen' w hdf
    have hwb : w < 2 ^ 31 := wl_lt31 hL1 hL3 (by omega)
    refine ⟨fun z => absurd z (nI_m4 hwb), fun _ => ?_⟩
    -- what differs, and before it nothing
    have hdif : vN σ.p σ.t.A (wl σ.L w) ≠ vN σ.p G2 (wl σ.L w) ∧ ∀ u, u < w → vN σ.p σ.t.A (wl σ.L u) = vN σ.p G2 (wl σ.L u) := dfO_spec hdf
    obtain ⟨t42, t7, tok⟩ := tbOK_learn (r := σ.t.r + 1) hp hL1 htb1 (ClsN_end hcl').1 eG hdif.1 hdif.2
    have t42' : (ena σ.L w σ.t.S).length ≤ 42 := t42
    have hst6 := hW6'.st
    refine k_addEndings hW6.lay hW6.ctx hW6.study (by omega) hst6.2.2.2.2.2.2.1 hst6.2.2.2.2.2.2.2.1 (by show (ena σ.L w σ.t.S).length ≤ 47; omega) (sfx_bd hL1 hL3 ht) (by show wlen σ.L w ≤ 12; omega) (fun I7 f7 g7 e6 eS => bX9_learn_84 hW6.lay ?_)
    refine k I7 R6 (hW6'.t' (τ := Tb.mk σ.t.A true G2 P' (ena σ.L w σ.t.S) (σ.t.r + 1)) tok (fun c hc => f7 c (by simp <;> omega)) (fun j _ => f7.at 0 j (by simp)) (f7.at 169 1 (by simp)) ?_ ?_ rG.rf hW6.ht ?_ (hW6'.ls.tb rfl (f7.at 0 11 (by simp)) (fun c h1 h2 => f7 c (by simp <;> omega)))) ((cf5.tr hs6.c).tr (fun c h1 h2 => f7 c (by simp <;> omega)))
    · rw [f7.at 173 1 (by simp)]; exact hW6.mc.1 173 (by decide)
    · rw [f7.at 16 1 (by simp)]; exact hW6.mc.1 16 (by decide)
    · obtain ⟨a1, a2, a3, a4, a5, a6, a7, a8, a9⟩ := hst6
      exact ⟨a1.fr f7 (by simp), by rw [g7 8 (by decide)]; exact a2, fun g => (a3 g).fr f7 (by simp), by rw [f7 16 (by simp)]; exact a4, by rw [g7 5 (by decide)]; exact a5, by rw [f7 10 (by simp)]; exact a6, e6, eS, by rw [g7 7 (by decide)]; exact a9⟩
end CLRN
