section RULE2
variable {sh : List xSh} {I : Nat → Nat → Int32} {R : Nat → Nat → Option Nat}
theorem wcat_bd {L w u : Nat} (hL : 0 < L) (hL3 : L ≤ 3) (h : wlen L w + wlen L u ≤ 12) : wcat L w u < 2 ^ 31 := by
  have h1 := (wlen_fst hL (wcat L w u)).2
  rw [wlen_cat hL] at h1
  exact Nat.lt_of_lt_of_le h1 (Nat.le_trans (fst_bd hL3 _ (by omega)) (by omega))
theorem adW_take {W S : List Nat} {f : Nat → Nat} {c : Nat} (hc : c < S.length) : adW W ((S.take (c + 1)).map f) = insW (adW W ((S.take c).map f)) (f (S.getD c 0)) := by
  rw [take_x hc, List.map_append]
  unfold adW
  rw [List.foldl_append]
  rfl
theorem map_take_len {S : List Nat} {f : Nat → Nat} {c : Nat} (hc : c ≤ S.length) : ((S.take c).map f).length = c := by
  rw [List.length_map, List.length_take]; omega
theorem w_wordsIn {p L : Nat} {P S : List Nat} {Q : Int32 → xHp → Prop} (hW : xLay sh R) (hc : mCtx I p L) (hT : mTab I P S) (hS42 : S.length ≤ 42) (hl : ∀ i, i < P.length → wlen L (P.getD i 0) ≤ 3) (hs : ∀ c, c < S.length → wlen L (S.getD c 0) ≤ 7)
    (k : ∀ I', Fr [222] I I' → Q (nI (wI L P S P.length).length) (sh, I', R)) : CI mX10_wordsIn [.ref 209] (sh, I, R) Q := by
  obtain ⟨hP, hL, hpr, hL1, hL3⟩ := id hc
  obtain ⟨hT1, hT2, hT3, hT4, hT5, hT6⟩ := id hT
  -- words held
  let held : (Nat → Nat → Int32) → List Nat → Prop := fun I1 W => (∀ j, j < W.length → I1 222 j = nI (W.getD j 0)) ∧ ∀ w ∈ W, w < 2 ^ 31
  -- the suffixes behind a row
  have rowL : ∀ (W0 : List Nat) (r i : Nat) (v4 : Int32) (n0 : Nat) (I0 : Nat → Nat → Int32), W0.length ≤ n0 → n0 + S.length ≤ 900 → i < P.length → wlen L r ≤ 4 → Fr [222] I I0 → held I0 W0 →
      (∀ I2, Fr [222] I I2 → held I2 (adW W0 (S.map (wcat L r))) → Ex mX10_wordsIn 20 [.ref 209, .ref 222, .int (nI (adW W0 (S.map (wcat L r))).length), .int (nI i), .int (v4 + nI 1), xU, xU, xU, xU, xU] [] (sh, I2, R) 0 0 (xqI Q)) →
      Ex mX10_wordsIn 63 [.ref 209, .ref 222, .int (nI W0.length), .int (nI i), .int v4, .int (nI r), .int (nI 0), xU, xU, xU] [] (sh, I0, R) 0 0 (xqI Q) := by
    intro W0 r i v4 n0 I0 hn0 hn hi hr hf0 hh0 kk
    have loop : ∀ j c (I1 : Nat → Nat → Int32), c + j = S.length → Fr [222] I I1 → held I1 (adW W0 ((S.take c).map (wcat L r))) → Ex mX10_wordsIn 63 [.ref 209, .ref 222, .int (nI (adW W0 ((S.take c).map (wcat L r))).length), .int (nI i), .int v4, .int (nI r), .int (nI c), xU, xU, xU] [] (sh, I1, R) 0 0 (xqI Q) := by
      intro j
      induction j with
      | zero =>
        intro c I1 hcj hf hh
        obtain rfl : c = S.length := by omega
        refine bX10_wordsIn_63 hW ⟨fun _ => ?_, fun q => ?_⟩
        · rw [List.take_length] at hh ⊢
          exact kk I1 hf hh
        · rw [hf.at 209 11 (by decide), hT2] at q
          exact absurd (nI_le (Nat.le_refl _) (by omega)) q
      | succ j ih =>
        intro c I1 hcj hf hh
        have hcS : c < S.length := by omega
        have hc1 := hc.fr hf (by decide)
        have hle := adW_le (ws := (S.take c).map (wcat L r)) (W := W0)
        rw [map_take_len (by omega)] at hle
        have e := adW_take (W := W0) (f := wcat L r) hcS
        generalize hWc : adW W0 ((S.take c).map (wcat L r)) = W at hh hle e ⊢
        have hsc := hs c hcS
        refine bX10_wordsIn_63 hW ⟨fun q => ?_, fun _ => ⟨vp_nI (by omega) (by omega), ?_⟩⟩
        · rw [hf.at 209 11 (by decide), hT2] at q
          exact absurd q (nI_ge (by omega) (by omega))
        rw [nclamp (by omega), hf.at 216 c (by decide), hT6 c hcS]
        refine w_joined hW hc1 (by omega) (bX10_wordsIn_85 hW ?_)
        have hwb := wcat_bd (w := r) (u := S.getD c 0) hL1 hL3 (by omega)
        -- is it new?
        have scan : ∀ m a, a + m = W.length → (∀ b, b < a → W.getD b 0 ≠ wcat L r (S.getD c 0)) → Ex mX10_wordsIn 93 [.ref 209, .ref 222, .int (nI W.length), .int (nI i), .int v4, .int (nI r), .int (nI c), .int (nI (wcat L r (S.getD c 0))), .int (nI 1), .int (nI a)] [] (sh, I1, R) 0 0 (xqI Q) := by
          intro m
          induction m with
          | zero =>
            intro a ha hno
            obtain rfl : a = W.length := by omega
            have hnot : wcat L r (S.getD c 0) ∉ W := fun q => by
              obtain ⟨b, hb, eb⟩ := List.getElem_of_mem q
              exact hno b hb (by rw [gd_el hb, eb])
            refine bX10_wordsIn_93 hW ⟨fun _ => ⟨fun q => absurd q (by decide), fun _ => ⟨vp_nI (by omega) (by omega), ?_⟩⟩, fun q => absurd (nI_le (Nat.le_refl _) (by omega)) q⟩
            rw [nclamp (by omega)]
            simp only [nI_add]
            unfold insW at e
            rw [if_neg hnot] at e
            have := ih (c + 1) (xi I1 222 W.length (nI (wcat L r (S.getD c 0)))) (by omega) (hf.xi (by simp))
            rw [e, List.length_append] at this
            refine this ⟨fun b hb => ?_, fun w hw => ?_⟩
            · by_cases eb : b = W.length
              · subst eb; rw [xi_e, gd_last]
              · rw [List.length_append, List.length_cons, List.length_nil] at hb
                rw [xi_s eb, gd_app (by omega)]; exact hh.1 b (by omega)
            · rcases List.mem_append.mp hw with q | q
              · exact hh.2 w q
              · rw [List.mem_singleton.mp q]; exact hwb
          | succ m ih2 =>
            intro a ha hno
            refine bX10_wordsIn_93 hW ⟨fun q => absurd q (nI_ge (by omega) (by omega)), fun _ => ⟨fun q => absurd q (by decide), fun _ => ⟨vp_nI (by omega) (by omega), ?_⟩⟩⟩
            rw [nclamp (by omega), hh.1 a (by omega)]
            have hab : W.getD a 0 < 2 ^ 31 := hh.2 _ (gd_mem (by omega))
            refine ⟨fun q => ?_, fun q => ?_⟩
            · have eq := (nI_eq hab hwb).mp q
              have hin : wcat L r (S.getD c 0) ∈ W := eq ▸ gd_mem (show a < W.length by omega)
              have done : Ex mX10_wordsIn 63 [.ref 209, .ref 222, .int (nI W.length), .int (nI i), .int v4, .int (nI r), .int (nI c + nI 1), xU, xU, xU] [] (sh, I1, R) 0 0 (xqI Q) := by
                unfold insW at e
                rw [if_pos hin] at e
                have := ih (c + 1) I1 (by omega) hf
                rw [e] at this
                have e1 : nI c + nI 1 = nI (c + 1) := nI_add c 1
                rw [e1]
                exact this hh
              exact bX10_wordsIn_93 hW ⟨fun _ => ⟨fun _ => done, fun z => absurd rfl z⟩, fun _ => ⟨fun _ => ⟨fun _ => done, fun z => absurd rfl z⟩, fun z => absurd rfl z⟩⟩
            · have e1 : nI a + nI 1 = nI (a + 1) := nI_add a 1
              rw [e1]
              refine ih2 (a + 1) (by omega) (fun b hb => ?_)
              by_cases eb : b = a
              · subst eb; exact fun z => q (by rw [z])
              · exact hno b (by omega)
        exact scan W.length 0 (by omega) (fun b hb => absurd hb (Nat.not_lt_zero b))
    have := loop S.length 0 I0 (by omega) hf0 hh0
    exact this
  -- the letters
  have hS1 := hT2
  have letL : ∀ (i : Nat) (I0 : Nat → Nat → Int32), i < P.length → (wI L P S i).length ≤ 168 * i → Fr [222] I I0 → held I0 (wI L P S i) →
      (∀ I2, Fr [222] I I2 → held I2 (wI L P S (i + 1)) → (wI L P S (i + 1)).length ≤ 168 * (i + 1) → Ex mX10_wordsIn 9 [.ref 209, .ref 222, .int (nI (wI L P S (i + 1)).length), .int (nI i + nI 1), xU, xU, xU, xU, xU, xU] [] (sh, I2, R) 0 0 (xqI Q)) →
      Ex mX10_wordsIn 20 [.ref 209, .ref 222, .int (nI (wI L P S i).length), .int (nI i), .int (-1), xU, xU, xU, xU, xU] [] (sh, I0, R) 0 0 (xqI Q) := by
    intro i I0 hi hb hf0 hh0 kk
    have hli := hl i hi
    have hb4 : (wI L P S i).length + 42 ≤ 546 := by omega
    have loop : ∀ j x (I1 : Nat → Nat → Int32), x + j = L → Fr [222] I I1 → held I1 (wX L S (P.getD i 0) (wI L P S i) x) → (wX L S (P.getD i 0) (wI L P S i) x).length ≤ (wI L P S i).length + 42 * (x + 1) → Ex mX10_wordsIn 20 [.ref 209, .ref 222, .int (nI (wX L S (P.getD i 0) (wI L P S i) x).length), .int (nI i), .int (nI x), xU, xU, xU, xU, xU] [] (sh, I1, R) 0 0 (xqI Q) := by
      intro j
      induction j with
      | zero =>
        intro x I1 hx hf hh hlen
        obtain rfl : x = L := by omega
        refine bX10_wordsIn_20 hW ⟨fun _ => ?_, fun q => ?_⟩
        · exact kk I1 hf hh (by show (wX x S (P.getD i 0) (wI x P S i) x).length ≤ _; omega)
        · rw [hf.at 209 2 (by decide), hL] at q
          exact absurd (nI_le (Nat.le_refl _) (by omega)) q
      | succ j ih =>
        intro x I1 hx hf hh hlen
        refine bX10_wordsIn_20 hW ⟨fun q => ?_, fun _ => ⟨fun _ => ⟨vp_nI (by omega) (by omega), ?_⟩, fun q => absurd (nI_le (Nat.zero_le _) (by omega)) q⟩⟩
        · rw [hf.at 209 2 (by decide), hL] at q
          exact absurd q (nI_ge (by omega) (by omega))
        rw [nclamp (by omega), hf.at 215 i (by decide), hT5 i hi]
        refine w_oneOf hW (bX10_wordsIn_55 hW (w_joined hW (hc.fr hf (by decide)) (by rw [wlen_one (by omega)]; omega) (bX10_wordsIn_58 hW ?_)))
        rw [wcat_one (by omega)]
        refine rowL _ (P.getD i 0 * L + x + 1) i (nI x) _ I1 (Nat.le_refl _) (by omega) hi (by rw [wlen_x (by omega)]; omega) hf hh (fun I2 hf2 hh2 => ?_)
        have e1 : nI x + nI 1 = nI (x + 1) := nI_add x 1
        rw [e1]
        refine ih (x + 1) I2 (by omega) hf2 hh2 ?_
        have hle := adW_le (ws := S.map (wcat L (P.getD i 0 * L + x + 1))) (W := wX L S (P.getD i 0) (wI L P S i) x)
        rw [List.length_map] at hle
        show (adW (wX L S (P.getD i 0) (wI L P S i) x) (S.map (wcat L (P.getD i 0 * L + x + 1)))).length ≤ _
        omega
    refine bX10_wordsIn_20 hW ⟨fun q => ?_, fun _ => ⟨fun q => absurd q (by decide), fun _ => ⟨vp_nI (by omega) (by omega), ?_⟩⟩⟩
    · rw [hf0.at 209 2 (by decide), hL, Int32.le_iff_toInt_le, nI_toInt (by omega)] at q
      exact absurd q (by have : (-1 : Int32).toInt = -1 := by decide
                         omega)
    rw [nclamp (by omega), hf0.at 215 i (by decide), hT5 i hi]
    refine rowL _ (P.getD i 0) i (-1) _ I0 (Nat.le_refl _) (by omega) hi (by omega) hf0 hh0 (fun I2 hf2 hh2 => ?_)
    refine loop L 0 I2 (by omega) hf2 hh2 ?_
    have hle := adW_le (ws := S.map (wcat L (P.getD i 0))) (W := wI L P S i)
    rw [List.length_map] at hle
    show (adW (wI L P S i) (S.map (wcat L (P.getD i 0)))).length ≤ _
    omega
  have loop : ∀ j i (I1 : Nat → Nat → Int32), i + j = P.length → (wI L P S i).length ≤ 168 * i → Fr [222] I I1 → held I1 (wI L P S i) → Ex mX10_wordsIn 9 [.ref 209, .ref 222, .int (nI (wI L P S i).length), .int (nI i), xU, xU, xU, xU, xU, xU] [] (sh, I1, R) 0 0 (xqI Q) := by
    intro j
    induction j with
    | zero =>
      intro i I1 hi hb hf hh
      obtain rfl : i = P.length := by omega
      refine bX10_wordsIn_9 hW ⟨fun _ => k I1 hf, fun q => ?_⟩
      rw [hf.at 209 10 (by decide), hT1] at q
      exact absurd (nI_le (Nat.le_refl _) (by omega)) q
    | succ j ih =>
      intro i I1 hi hb hf hh
      refine bX10_wordsIn_9 hW ⟨fun q => ?_, fun _ => letL i I1 (by omega) hb hf hh (fun I2 hf2 hh2 hb2 => ?_)⟩
      · rw [hf.at 209 10 (by decide), hT1] at q
        exact absurd q (nI_ge (by omega) (by omega))
      · have e1 : nI i + nI 1 = nI (i + 1) := nI_add i 1
        rw [e1]
        exact ih (i + 1) I2 (by omega) hb2 hf2 hh2
  exact eX10_wordsIn (bX10_wordsIn_0 hW (loop P.length 0 I (by omega) (Nat.le_refl _) Fr.rf ⟨fun j hj => absurd hj (Nat.not_lt_zero j), fun w hw => absurd hw List.not_mem_nil⟩))
theorem indp_nodup {p L C : Nat} [NeZero p] (hp : p ∈ PR) {A : Mac} {cs : Nat → Nat} {P : List Nat} (h : indp C P.length (fun j => RW p L A cs (P.getD j 0))) : P.Nodup := by
  rw [List.nodup_iff_pairwise_ne, List.pairwise_iff_getElem]
  intro i j hi hj hij e
  have one : ∀ a d, a < P.length → sm P.length (fun t => (if t = a then (1 : Fin p) else 0) * RW p L A cs (P.getD t 0) d) = RW p L A cs (P.getD a 0) d := fun a d ha => by
    rw [sm_one ha _ (fun t _ hne => by rw [if_neg hne]; grind), if_pos rfl]
    grind
  have h1 := h (fun t => (if t = i then 1 else 0) - (if t = j then 1 else 0)) (fun d hd => ?_) i hi
  · have h2 : (if i = i then (1 : Fin p) else 0) - (if i = j then 1 else 0) = 0 := h1
    rw [if_pos rfl, if_neg (by omega)] at h2
    exact (isF_p hp).2 (by grind)
  · have h3 : sm P.length (fun t => ((if t = i then (1 : Fin p) else 0) - (if t = j then 1 else 0)) * RW p L A cs (P.getD t 0) d) = sm P.length (fun t => (if t = i then (1 : Fin p) else 0) * RW p L A cs (P.getD t 0) d) - sm P.length (fun t => (if t = j then (1 : Fin p) else 0) * RW p L A cs (P.getD t 0) d) := by
      rw [← sm_sub]
      exact sm_congr (fun t _ => by grind)
    show sm P.length (fun t => ((if t = i then (1 : Fin p) else 0) - (if t = j then 1 else 0)) * RW p L A cs (P.getD t 0) d) = 0
    rw [h3, one i d hi, one j d hj, gd_el hi, gd_el hj, e]
    grind
def kepN (σ : St) : Nat := (if (σ.kept 0).isSome then 1 else 0) + (if (σ.kept 1).isSome then 1 else 0)
noncomputable def ruleN (σ : St) [NeZero σ.p] : Nat → Int32
  | 0 => nI σ.p
  | 1 => nI σ.L
  | 2 => nI σ.t.A.1
  | 3 => if σ.t.g = true then nI σ.t.G.1 else -4
  | 4 => nI (BS σ.p σ.L σ.t.A).length
  | 5 => nI σ.t.P.length
  | 6 => nI σ.t.S.length
  | 7 => σ.t.r
  | 8 => cif (clsd (DT σ.p σ.L σ.t.A σ.t.S σ.t.P) σ.L σ.t.P) (nI 1) (nI 0)
  | 9 => nI (wdsN σ.L σ.t.P σ.t.S)
  | 10 => nI σ.tape.length
  | 11 => nI (kepN σ)
  | 12 => nI (shfN σ 3)
  | _ => -1
noncomputable def ruleA (σ : St) [NeZero σ.p] (w : Int32) : Int32 := if inB w 13 then ruleN σ (nN w) else -1
theorem w_rule {σ : St} [NeZero σ.p] {w : Int32} {Q : Int32 → xHp → Prop} (hW : xLay sh R) (h : mdR I σ) (k : ∀ I', mdR I' σ → mFr I I' → Q (ruleA σ w) (sh, I', R)) : CI mX10_rule [.ref 209, .int w] (sh, I, R) Q := by
  have htb := h.ok.t
  have hp := h.ok.p
  have hL1 := h.ok.L1
  obtain ⟨_, h1, hokA, -, ht, hsf, -, -, h4, h42⟩ := id htb
  have hin : ∀ n : Nat, n < 13 → w.toInt = (n : Int) → ruleA σ w = ruleN σ n := fun n hn e => by
    unfold ruleA
    rw [if_pos ⟨by omega, by omega⟩]
    congr 1
    unfold nN; omega
  refine eX10_rule (bX10_rule_0 hW ⟨fun q => ?_, fun q => ?_, fun q => ?_, fun q => ?_, fun q => ?_, fun q => ?_, fun q => ?_, fun q => ?_, fun q => ?_, fun q => ?_, fun q => ?_, fun q => ?_, fun q => ?_, fun q => ?_⟩)
  · refine bX10_rule_182 hW ?_
    have := k I h mFr.rf
    unfold ruleA at this
    rwa [if_neg (fun z => by have := z.1; have := z.2; omega)] at this
  · have e := hin 0 (by decide) q
    rw [e] at k
    refine bX10_rule_68 hW ?_
    rw [h.c1]; exact k I h mFr.rf
  · have e := hin 1 (by decide) q
    rw [e] at k
    refine bX10_rule_73 hW ?_
    rw [h.c2]; exact k I h mFr.rf
  · have e := hin 2 (by decide) q
    rw [e] at k
    refine bX10_rule_78 hW (w_many hW (by decide) (bX10_rule_83 hW ?_))
    rw [h.A.2.1]; exact k I h mFr.rf
  · have e := hin 3 (by decide) q
    rw [e] at k
    have k2 := k I h mFr.rf
    unfold ruleN at k2
    refine bX10_rule_84 hW ?_
    rw [h.g]
    cases hg : σ.t.g with
    | false => rw [hg, if_neg (by decide)] at k2; exact ⟨fun _ => k2, fun z => absurd rfl z⟩
    | true =>
      rw [hg, if_pos rfl] at k2
      refine ⟨fun z => absurd z (by decide), fun _ => w_many hW (by decide) (bX10_rule_96 hW ?_)⟩
      rw [(h.G hg).2.1]; exact k2
  · have e := hin 4 (by decide) q
    rw [e] at k
    exact bX10_rule_102 hW (w_leastMany hW h (fun I' h' hf => bX10_rule_106 hW (k I' h' hf)))
  · have e := hin 5 (by decide) q
    rw [e] at k
    refine bX10_rule_107 hW ?_
    rw [h.P.1]; exact k I h mFr.rf
  · have e := hin 6 (by decide) q
    rw [e] at k
    refine bX10_rule_112 hW ?_
    rw [h.S.1]; exact k I h mFr.rf
  · have e := hin 7 (by decide) q
    rw [e] at k
    refine bX10_rule_117 hW ?_
    rw [h.r]; exact k I h mFr.rf
  · have e := hin 8 (by decide) q
    rw [e] at k
    unfold ruleN at k
    refine bX10_rule_122 hW (w_lacking hW h.ctx h.A hokA h.tab ht (fun I' w hf hfr hwl => bX10_rule_126 hW ?_) (fun I' hf hcl => bX10_rule_126 hW ?_))
    · have md := h.eq (mdF.of hf (by decide))
      rw [cif_neg (fun z => frst_clsd hfr z)] at k
      exact ⟨fun _ => k I' md (mFr.of hf (by simp)), fun z => absurd z (nI_m4 (by
        exact Nat.lt_of_lt_of_le (wlen_fst hL1 w).2 (Nat.le_trans (fst_bd h.ok.L3 _ (by omega)) (by omega))))⟩
    · have md := h.eq (mdF.of hf (by decide))
      rw [cif_pos hcl] at k
      exact ⟨fun z => absurd rfl z, fun _ => k I' md (mFr.of hf (by simp))⟩
  · have e := hin 9 (by decide) q
    rw [e] at k
    unfold ruleN at k
    have hlP := pfxs_len hL1 ht.1
    refine bX10_rule_137 hW (w_wordsIn hW h.ctx h.tab h42 (fun i hi => by have := hlP i hi; omega) (fun c hc => ht.2.1 c hc) (fun I' hf => bX10_rule_141 hW ?_))
    rw [wI_len hL1 ht.1 (indp_nodup hp ht.2.2) hsf]
    exact k I' (h.eq (mdF.of hf (by decide))) (mFr.of hf (by simp))
  · have e := hin 10 (by decide) q
    rw [e] at k
    refine bX10_rule_142 hW ?_
    rw [h.tape.1]; exact k I h mFr.rf
  · have e := hin 11 (by decide) q
    rw [e] at k
    have k2 := k I h mFr.rf
    unfold ruleN kepN at k2
    have h0 := h.kept 0 (by decide)
    have h1 := h.kept 1 (by decide)
    have e0 : (I 225 0 = 0 ∧ (σ.kept 0).isSome = false) ∨ (I 225 0 ≠ 0 ∧ (σ.kept 0).isSome = true) := by
      cases hk : σ.kept 0 with
      | none => rw [hk] at h0; exact Or.inl ⟨h0, rfl⟩
      | some τ => rw [hk] at h0; exact Or.inr ⟨by rw [h0.1]; decide, rfl⟩
    have e1 : (I 225 1 = 0 ∧ (σ.kept 1).isSome = false) ∨ (I 225 1 ≠ 0 ∧ (σ.kept 1).isSome = true) := by
      cases hk : σ.kept 1 with
      | none => rw [hk] at h1; exact Or.inl ⟨h1, rfl⟩
      | some τ => rw [hk] at h1; exact Or.inr ⟨by rw [h1.1]; decide, rfl⟩
    refine bX10_rule_147 hW ⟨vp_nI (by decide) (by decide), ?_⟩
    rw [nclamp (by decide), nclamp (by decide)]
    refine ⟨fun q0 => ⟨vp_nI (by decide) (by decide), fun q1 => ?_, fun q1 => ?_⟩, fun q0 => ⟨vp_nI (by decide) (by decide), fun q1 => ?_, fun q1 => ?_⟩⟩
    all_goals
      rcases e0 with ⟨a, b⟩ | ⟨a, b⟩ <;> rcases e1 with ⟨c, d⟩ | ⟨c, d⟩ <;> first | exact absurd q0 a | exact absurd a q0 | exact absurd q1 c | exact absurd c q1 | (rw [b, d] at k2; exact k2)
  · have e := hin 12 (by decide) q
    rw [e] at k
    exact bX10_rule_177 hW (w_shelvesThere hW h (bX10_rule_181 hW (k I h mFr.rf)))
end RULE2
