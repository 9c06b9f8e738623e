section CSHF
variable {sh : List xSh} {I : Nat → Nat → Int32} {R : Nat → Nat → Option Nat}
theorem clR.shelf {σ : St} (h : clR sh I R σ) {k : Nat} (hk : k < 3) : xShelf sh R (200 + 3 * k) := h.lay.2.2.2.2.2.2.1 k hk
theorem m1t : (-1 : Int32).toInt = -1 := by decide
theorem nI_m1 {a : Nat} (h : a < 2 ^ 31) : nI a ≠ -1 := fun q => by
  have : (nI a).toInt = (-1 : Int32).toInt := by rw [q]
  rw [nI_toInt h, m1t] at this
  omega
theorem k_hasCell {q n : Nat} {v : Int32} {Q : Int32 → xHp → Prop} (hW : xLay sh R) (hq : xShelf sh R q) (h4 : I q 4 = nI n) (hn : n < 2 ^ 31) (k1 : ∀ b, v = nI b → b < n → Q (nI 1) (sh, I, R)) (k0 : ¬ inB v n → Q (nI 0) (sh, I, R)) : CI mX6_hasCell [.ref q, .int v] (sh, I, R) Q := by
  refine eX6_hasCell (bX6_hasCell_0 hW hq ⟨fun q => k0 (fun z => by have := lt0.mp q; have := z.1; omega), fun q => ?_⟩)
  have h0 : 0 ≤ v.toInt := by
    by_cases y : v.toInt < 0
    · exact absurd (lt0.mpr y) q
    · omega
  have hvb : nN v < 2 ^ 31 := by have := Int32.toInt_lt v; unfold nN; omega
  rw [h4, ← nI_N h0]
  refine ⟨fun q2 => k0 (fun z => ?_), fun q2 => k1 (nN v) (nI_N h0).symm ?_⟩
  · have h2 := (nI_leI (by omega) hvb).mp q2
    have := z.2
    unfold nN at h2; omega
  · rcases Nat.lt_or_ge (nN v) n with y | y
    · exact y
    · exact absurd (nI_le y hvb) q2
theorem k_fTake {σ : St} {c : Nat} {lane i : Int32} {Q : Int32 → xHp → Prop} (hW : clR sh I R σ) (hc : c < 3) (k : Q (nI (foundF (σ.shf c) lane i)) (sh, I, R)) : CI mX6_faultOfTaking [.ref (200 + 3 * c), .int lane, .int i] (sh, I, R) Q := by
  have hs := hW.shf c hc
  have hq := hW.shelf hc
  cases hsh : σ.shf c with
  | none =>
    rw [hsh] at hs k
    refine eX6_faultOfTaking (bX6_faultOfTaking_0 hW.lay hq ⟨fun z => absurd (show I (200 + 3 * c) 4 = -1 from hs) z, fun _ => k⟩)
  | some s =>
    rw [hsh] at hs k
    obtain ⟨s4, s3, sc⟩ := hs
    have hok := hW.ok.shf c s hsh
    have h2 := hok.1
    have h8 := hok.2.1
    have c2 : (lane ≠ nI 2 ∧ lane ≠ nI s.lane) → cellF (some s) lane i = 2 := fun z => if_pos z
    have c3 : ¬ (lane ≠ nI 2 ∧ lane ≠ nI s.lane) → ¬ inB i s.size → cellF (some s) lane i = 3 := fun z y => (if_neg z).trans (if_neg y)
    have c0 : ¬ (lane ≠ nI 2 ∧ lane ≠ nI s.lane) → inB i s.size → cellF (some s) lane i = 0 := fun z y => (if_neg z).trans (if_pos y)
    -- behind the lane
    have cell : ¬ (lane ≠ nI 2 ∧ lane ≠ nI s.lane) → CI mX6_hasCell [.ref (200 + 3 * c), .int i] (sh, I, R) (fun w h1 => Ex mX6_faultOfTaking 30 [.ref (200 + 3 * c), xU, .int i] (.int w :: []) h1 0 0 (xqI Q)) := by
      intro hl
      refine k_hasCell hW.lay hq s4 (by omega) (fun b hb hblt => bX6_faultOfTaking_30 hW.lay hq ⟨fun _ => ?_, fun z => absurd z (by decide)⟩) (fun hn => bX6_faultOfTaking_30 hW.lay hq ⟨fun z => absurd rfl z, fun _ => ?_⟩)
      · subst hb
        unfold foundF at k
        rw [if_pos (c0 hl ((inB_n (by omega)).mpr hblt)), nN_n (by omega)] at k
        have hcl := sc b (by omega)
        refine ⟨vp_nI (by omega) (by omega), ?_⟩
        rw [nclamp (by omega)]
        cases hce : s.cell b with
        | none =>
          have hce2 : cellAt (some s) b = none := hce
          rw [hce2] at k
          rw [hce] at hcl
          exact ⟨fun _ => k, fun z => absurd hcl z⟩
        | some m =>
          have hce2 : cellAt (some s) b = some m := hce
          rw [hce2] at k
          rw [hce] at hcl
          obtain ⟨e1, q, e2, e3⟩ := hcl
          have hm := (hok.2.2 b m.1 m.2 (by rw [hce])).2.1
          refine ⟨fun z => absurd (e1.symm.trans z) (nI_m1 (by omega)), fun _ => ⟨vp_nI (by omega) (by omega), fun z => absurd (e2.symm.trans z) (by simp), fun r1 hr => ⟨(hW.pl.1 c b r1 hc (by omega) hr).2.1, k⟩⟩⟩
      · have h3 := c3 hl hn
        unfold foundF at k
        rw [if_neg (by omega), h3] at k; exact k
    refine eX6_faultOfTaking (bX6_faultOfTaking_0 hW.lay hq ⟨fun _ => ⟨fun z => cell (fun y => y.1 z), fun z => ?_⟩, fun z => absurd (s4.symm.trans z) (nI_m1 (by omega))⟩)
    rw [s3]
    refine ⟨fun y => cell (fun w => w.2 y), fun y => ?_⟩
    have h3 := c2 ⟨z, y⟩
    unfold foundF at k
    rw [if_neg (by omega), h3] at k
    exact k
theorem k_kind {σ : St} {v i : Int32} {Q : Int32 → xHp → Prop} (hW : clR sh I R σ) (k : Q (kindA σ v i) (sh, I, R)) : CI mX9_kind [.ref 0, .int v, .int i] (sh, I, R) Q := by
  unfold kindA at k
  refine eX9_kind (bX9_kind_0 hW.lay (k_isShelf hW.lay (fun a ha hlt => bX9_kind_4 hW.lay ⟨fun _ => ⟨?_, ?_⟩, fun z => absurd z (by decide)⟩) (fun hn => bX9_kind_4 hW.lay ⟨fun z => absurd rfl z, fun _ => ?_⟩)))
  · rw [ha]; exact vp_nI hlt (by omega)
  · subst ha
    rw [if_pos ((inB_n (by omega)).mpr hlt), nN_n (by omega)] at k
    rw [nclamp (by omega)]
    refine k_fTake hW hlt (bX9_kind_20 hW.lay ⟨fun z => ?_, fun z => ?_⟩)
    · have hle := foundF_le (σ.shf a) (nI 2) i
      have h0 : foundF (σ.shf a) (nI 2) i = 0 := (nI_eq (a := foundF (σ.shf a) (nI 2) i) (b := 0) (by omega) (by omega)).mp z
      rw [if_pos h0] at k
      refine ⟨vp_nI hlt (by omega), ?_⟩
      have hs := hW.shf a hlt
      unfold foundF at h0
      split at h0
      · rename_i hc0
        obtain ⟨s, es, hib⟩ := cellF_0 hc0
        have h8 := (hW.ok.shf a s es).2.1
        obtain ⟨ei, hi⟩ := inB_N hib
        rw [es] at hs h0 k
        obtain ⟨s4, s3, sc⟩ := hs
        have hcl := sc (nN i) (by omega)
        rw [ei, nclamp (by omega), nclamp (by omega)]
        refine ⟨vp_nI (by omega) (by omega), ?_⟩
        have h0' : (match s.cell (nN i) with | none => 5 | some _ => 0) = 0 := h0
        have k' : Q (nI (sortAt (s.cell (nN i)))) (sh, I, R) := k
        cases hce : s.cell (nN i) with
        | none => rw [hce] at h0'; exact absurd h0' (by decide)
        | some m =>
          rw [hce] at hcl k'
          rw [hcl.1]; exact k'
      · rename_i hc0; exact absurd h0 hc0
    · rw [if_neg (fun y => z (by rw [y]; rfl))] at k
      exact k
  · rw [if_neg hn] at k; exact k
theorem k_take {σ : St} {v lane i : Int32} {Q : Int32 → xHp → Prop} (hW : clR sh I R σ) (k : ∀ I' R', clR sh I' R' (takeA σ v lane i).2 → cFr I I' → Q (takeA σ v lane i).1 (sh, I', R')) : CI mX9_take [.ref 0, .int v, .int lane, .int i] (sh, I, R) Q := by
  unfold takeA at k
  have no : ¬ (inB v 3 ∧ inB lane 3) → Q (-1) (sh, I, R) := fun hn => by rw [if_neg hn] at k; exact k I R hW cFr.rf
  refine eX9_take (bX9_take_0 hW.lay (k_isShelf hW.lay (fun a ha hlt => bX9_take_4 hW.lay ⟨fun z => absurd z (by decide), fun _ => k_isLane hW.lay (fun b hb hblt => bX9_take_11 hW.lay ⟨fun _ => ⟨?_, ?_⟩, fun z => absurd z (by decide)⟩) (fun hn => bX9_take_11 hW.lay ⟨fun z => absurd rfl z, fun _ => no (fun z => hn z.2)⟩)⟩) (fun hn => bX9_take_4 hW.lay ⟨fun _ => no (fun z => hn z.1), fun z => absurd rfl z⟩)))
  · rw [ha]; exact vp_nI hlt (by omega)
  · subst ha
    rw [if_pos ⟨(inB_n (by omega)).mpr hlt, by rw [hb]; exact (inB_n (by omega)).mpr hblt⟩, nN_n (by omega)] at k
    rw [nclamp (by omega)]
    refine k_fTake hW hlt (bX9_take_27 hW.lay ⟨fun z => ?_, fun z => ?_⟩)
    · have hle := foundF_le (σ.shf a) lane i
      have h0 : foundF (σ.shf a) lane i = 0 := (nI_eq (a := foundF (σ.shf a) lane i) (b := 0) (by omega) (by omega)).mp z
      rw [if_pos h0] at k
      refine ⟨vp_nI hlt (by omega), ?_⟩
      have hs := hW.shf a hlt
      unfold foundF at h0
      split at h0
      · rename_i hc0
        obtain ⟨s, es, hib⟩ := cellF_0 hc0
        have hok := hW.ok.shf a s es
        have h8 := hok.2.1
        obtain ⟨ei, hi⟩ := inB_N hib
        rw [es] at hs h0 k
        obtain ⟨s4, s3, sc⟩ := hs
        have hcl := sc (nN i) (by omega)
        rw [ei, nclamp (by omega), nclamp (by omega)]
        refine ⟨vp_nI (by omega) (by omega), ?_⟩
        have h0' : (match s.cell (nN i) with | none => 5 | some _ => 0) = 0 := h0
        cases hce : s.cell (nN i) with
        | none => rw [hce] at h0'; exact absurd h0' (by decide)
        | some m =>
          rw [hce] at hcl
          obtain ⟨e1, q, e2, e3⟩ := hcl
          have hce2 : cellAt (some s) (nN i) = some m := hce
          rw [hce2] at k
          obtain ⟨-, -, hM4, hokM⟩ := hok.2.2 (nN i) m.1 m.2 (by rw [hce])
          have k' : ∀ I' R', clR sh I' R' (σ.set_t (Tb.nw m.2)) → cFr I I' → Q (nI m.2.1) (sh, I', R') := k
          refine ⟨fun y => absurd (e2.symm.trans y) (by simp), fun r2 hr2 => ?_⟩
          obtain ⟨p1, p2, p3⟩ := hW.pl.1 a (nN i) r2 hlt (by omega) hr2
          have eq : r2 = q := Option.some.inj (hr2.symm.trans e2)
          subst eq
          refine ⟨p2, k_copy hW.lay hW.ctx hW.m12 p2 (by omega) (by omega) (by omega) (by omega) (hW.mc.1 12 (by decide)) e3 hokM hM4 (fun I1 f1 c1 => bX9_take_61 hW.lay (k_changedT hW f1 c1 hokM (fun I2 hW2 hf e2 => bX9_take_65 hW2.lay ?_)))⟩
          rw [e2]; exact k' I2 R hW2 hf
      · rename_i hc0; exact absurd h0 hc0
    · rw [if_neg (fun y => z (by rw [y]; rfl))] at k
      exact k I R hW cFr.rf
theorem clR.shf' {I' : Nat → Nat → Int32} {σ : St} {f : Nat → Option Shf} (h : clR sh I R σ) (ok : ∀ k s, f k = some s → shOK σ.p σ.L s) (e : ∀ c, c < 200 ∨ 209 ≤ c → I' c = I c) (hs : ∀ k, k < 3 → cSh I' R σ.L k (f k)) : clR sh I' R (σ.set_shf f) := by
  have hk := h.ok
  refine ⟨⟨hk.p, hk.L1, hk.L3, hk.t, hk.kept, ok, hk.word, hk.tape⟩, h.lay, h.ht, h.ctx.eq (e 1 (by omega)), ⟨fun q hq => ?_, by rw [e 169 (by omega)]; exact h.mc.2⟩, h.st.eq (fun c h1 h2 => e c (by omega)), fun k hk => (h.kept k hk).eq (by rw [e 21 (by omega)]) (fun c h1 h2 => e c (by omega)), h.pl.eq rG.rf (fun q hq => e q (by omega)), hs, by rw [e 0 (by omega)]; exact h.word, ⟨by rw [e 2 (by omega)]; exact h.tape.1, fun j hj => by rw [e 3 (by omega)]; exact h.tape.2 j hj⟩, by rw [e 0 (by omega)]; exact h.fault, ?_⟩
  · have hq2 : q < 200 := by revert hq; simp; omega
    rw [e q (by omega)]; exact h.mc.1 q hq
  · rcases h.ls with z | ⟨z1, nz, z0, z2, z3⟩
    · exact Or.inl (by rw [e 0 (by omega)]; exact z)
    · exact Or.inr ⟨by rw [e 0 (by omega)]; exact z1, nz, z0, z2.eq (e _ (by omega)) (e _ (by omega)) (e _ (by omega)) (e _ (by omega)), fun j hj => by rw [e 177 (by omega)]; exact z3 j hj⟩
theorem k_shelf {σ : St} {v lane n : Int32} {Q : Int32 → xHp → Prop} (hW : clR sh I R σ) (k : ∀ I' R', clR sh I' R' (shelfA σ v lane n).2 → cFr I I' → Q (shelfA σ v lane n).1 (sh, I', R')) : CI mX9_shelf [.ref 0, .int v, .int lane, .int n] (sh, I, R) Q := by
  unfold shelfA at k
  have no : ¬ (inB v 3 ∧ inB lane 3 ∧ n.toInt ≤ 8) → Q (-1) (sh, I, R) := fun hn => by rw [if_neg hn] at k; exact k I R hW cFr.rf
  have e8 : (nI 8).toInt = 8 := nI_toInt (by omega)
  refine eX9_shelf (bX9_shelf_0 hW.lay (k_isShelf hW.lay (fun a ha hlt => bX9_shelf_4 hW.lay ⟨fun z => absurd z (by decide), fun _ => k_isLane hW.lay (fun b hb hblt => bX9_shelf_11 hW.lay ⟨fun z => absurd z (by decide), fun _ => ⟨fun z => ?_, fun z => no (fun y => z ?_)⟩⟩) (fun hn => bX9_shelf_11 hW.lay ⟨fun _ => no (fun z => hn z.2.1), fun z => absurd rfl z⟩)⟩) (fun hn => bX9_shelf_4 hW.lay ⟨fun _ => no (fun z => hn z.1), fun z => absurd rfl z⟩)))
  · have h8 : n.toInt ≤ 8 := by have := Int32.le_iff_toInt_le.mp z; omega
    subst ha
    subst hb
    rw [if_pos ⟨(inB_n (by omega)).mpr hlt, (inB_n (by omega)).mpr hblt, h8⟩, nN_n (by omega), nN_n (by omega)] at k
    refine ⟨fun y => ⟨vp_nI hlt (by omega), ?_⟩, fun y => ?_⟩
    · have h0 := le0_n y
      rw [if_neg (by omega)] at k
      rw [nclamp (by omega)]
      have hq := hW.shelf hlt
      refine eX6_stand (bX6_stand_0 hW.lay hq (k_fill hW.lay hq.2.2.1 (by omega) (fun I1 f1 z1 => bX6_stand_18 hW.lay (bX9_shelf_40 hW.lay ?_))))
      have fa : Fr [200 + 3 * a, 200 + 3 * a + 2] I I1 := ((Fr.rf.xi (by simp)).xi (by simp)).tr (f1.sub (by simp))
      refine k I1 R (hW.shf' (fun j s hj => ?_) (fun c hc => fa c (by simp <;> omega)) (fun j hj => ?_)) (fun c h1 h2 => fa c (by simp <;> omega))
      · have hj2 : (if j = a then some (Shf.mk b (nN n) (fun _ => none)) else σ.shf j) = some s := hj
        split at hj2
        · cases hj2
          exact ⟨by show b ≤ 2; omega, by show nN n ≤ 8; unfold nN; omega, fun i c M hc => absurd (show none = some (c, M) from hc) (by simp)⟩
        · exact hW.ok.shf j s hj2
      · show cSh I1 R σ.L j (if j = a then some (Shf.mk b (nN n) (fun _ => none)) else σ.shf j)
        by_cases ej : j = a
        · subst ej
          rw [if_pos rfl]
          refine ⟨?_, ?_, fun i hi => ?_⟩
          · rw [f1.at _ 4 (by simp), xi_e]; exact (nI_N h0).symm
          · rw [f1.at _ 3 (by simp), xi_s (by decide), xi_e]; rfl
          · show I1 (200 + 3 * j + 2) i = -1
            exact z1 i hi
        · rw [if_neg ej]
          refine (hW.shf j hj).eq (fa _ (by simp <;> omega)) (fa _ (by simp <;> omega)) (fun _ => rfl) (fun i q A hi eq hA => ?_)
          have := (hW.pl.1 j i q hj hi eq).1
          exact hA.eq (fa _ (by simp <;> omega)) (fa _ (by simp <;> omega)) (fa _ (by simp <;> omega)) (fa _ (by simp <;> omega))
    · rw [if_pos (by by_cases w : n.toInt < 0
                     · exact w
                     · exact absurd (Int32.le_iff_toInt_le.mpr (by simp; omega)) y)] at k
      exact k I R hW cFr.rf
  · exact Int32.le_iff_toInt_le.mpr (by rw [e8]; exact y.2.2)
/-! tape and word -/
theorem clR.tape' {I' : Nat → Nat → Int32} {σ : St} {l : List Nat} (h : clR sh I R σ) (hl : l.length ≤ 200 ∧ ∀ x ∈ l, x < 128) (e : ∀ c, c ≠ 2 → c ≠ 3 → I' c = I c) (e1 : I' 2 1 = nI l.length) (e2 : ∀ j, j < l.length → I' 3 j = nI (l.getD j 0)) : clR sh I' R (σ.set_tape l) := by
  have hk := h.ok
  refine ⟨⟨hk.p, hk.L1, hk.L3, hk.t, hk.kept, hk.shf, hk.word, hl⟩, h.lay, h.ht, h.ctx.eq (e 1 (by omega) (by omega)), ⟨fun q hq => ?_, by rw [e 169 (by omega) (by omega)]; exact h.mc.2⟩, h.st.eq (fun c h1 h2 => e c (by omega) (by omega)), fun k hk => (h.kept k hk).eq (by rw [e 21 (by omega) (by omega)]) (fun c h1 h2 => e c (by omega) (by omega)), h.pl.eq rG.rf (fun q hq => e q (by omega) (by omega)), fun j hj => (h.shf j hj).eq (e _ (by omega) (by omega)) (e _ (by omega) (by omega)) (fun _ => rfl) (fun i q A hi eq hA => ?_), by rw [e 0 (by omega) (by omega)]; exact h.word, ⟨e1, e2⟩, by rw [e 0 (by omega) (by omega)]; exact h.fault, ?_⟩
  · have hq2 : q ≠ 2 ∧ q ≠ 3 := by revert hq; simp; omega
    rw [e q hq2.1 hq2.2]; exact h.mc.1 q hq
  · have := (h.pl.1 j i q hj hi eq).1
    exact hA.eq (e _ (by omega) (by omega)) (e _ (by omega) (by omega)) (e _ (by omega) (by omega)) (e _ (by omega) (by omega))
  · rcases h.ls with z | ⟨z1, nz, z0, z2, z3⟩
    · exact Or.inl (by rw [e 0 (by omega) (by omega)]; exact z)
    · exact Or.inr ⟨by rw [e 0 (by omega) (by omega)]; exact z1, nz, z0, z2.eq (e _ (by omega) (by omega)) (e _ (by omega) (by omega)) (e _ (by omega) (by omega)) (e _ (by omega) (by omega)), fun j hj => by rw [e 177 (by omega) (by omega)]; exact z3 j hj⟩
theorem nar_byte : ∀ c, c < 128 → vp_nar .byte (nI c).toInt8.toInt32 = nI c := by decide +kernel
theorem k_feed {σ : St} {c : Int32} {Q : Int32 → xHp → Prop} (hW : clR sh I R σ) (k : ∀ I' R', clR sh I' R' (feedA σ c).2 → cFr I I' → Q (feedA σ c).1 (sh, I', R')) : CI mX9_feed [.ref 0, .int c] (sh, I, R) Q := by
  have hk := hW.ok.tape
  have ht := hW.tape
  unfold feedA at k
  have e127 : (nI 127).toInt = 127 := nI_toInt (by omega)
  have no : ¬ inB c 128 → Q (-1) (sh, I, R) := fun hn => by rw [if_neg hn] at k; exact k I R hW cFr.rf
  refine eX9_feed (bX9_feed_0 hW.lay ⟨fun z => no (fun y => by have := lt0.mp z; have := y.1; omega), fun z => ⟨fun y => ?_, fun y => no (fun w => y (Int32.le_iff_toInt_le.mpr (by rw [e127]; have := w.2; omega)))⟩⟩)
  have h0 : 0 ≤ c.toInt := by
    by_cases w : c.toInt < 0
    · exact absurd (lt0.mpr w) z
    · omega
  have h127 : c.toInt ≤ 127 := by have := Int32.le_iff_toInt_le.mp y; omega
  have hlt : nN c < 128 := by unfold nN; omega
  rw [if_pos ⟨h0, by omega⟩] at k
  refine eX4_put (bX4_put_0 hW.lay ?_)
  rw [ht.1]
  refine ⟨fun w => ?_, fun w => ?_⟩
  · have h200 := (nI_ltI (by omega) (by omega)).mp w
    rw [if_neg (by omega)] at k
    rw [nclamp (by omega), nI_add, show vp_nar .byte c.toInt8.toInt32 = nI (nN c) by have := nar_byte (nN c) hlt; rw [nI_N h0] at this ⊢; exact this]
    refine ⟨vp_nI (by omega) (by omega), bX9_feed_20 hW.lay ⟨fun u => absurd u (by decide), fun _ => ?_⟩⟩
    rw [xi_e]
    refine k _ R (hW.tape' ⟨by rw [List.length_append]; show _ + 1 ≤ 200; omega, fun x hx => ?_⟩ (fun c h1 h2 => by funext j; rw [xi_p h1, xi_p h2]) (by rw [xi_e, List.length_append]; rfl) (fun j hj => ?_)) (fun c h1 h2 => by funext j; rw [xi_p (by omega), xi_p (by omega)])
    · rcases List.mem_append.mp hx with u | u
      · exact hk.2 x u
      · rw [List.mem_singleton.mp u]; exact hlt
    · rw [xi_p (by decide)]
      rw [List.length_append, List.length_cons, List.length_nil] at hj
      by_cases e : j = σ.tape.length
      · subst e; rw [xi_e, gd_last]
      · rw [xi_s e, gd_app (by omega)]; exact ht.2 j (by omega)
  · have h200 : σ.tape.length = 200 := by
      rcases Nat.lt_or_ge σ.tape.length 200 with u | u
      · exact absurd (nI_lt u (by omega)) w
      · omega
    rw [if_pos h200] at k
    exact bX9_feed_20 hW.lay ⟨fun _ => k I R hW cFr.rf, fun u => absurd rfl u⟩
theorem k_end {σ : St} {c : Int32} {Q : Int32 → xHp → Prop} (hW : clR sh I R σ) (k : ∀ I' R', clR sh I' R' (endA σ c).2 → cFr I I' → Q (endA σ c).1 (sh, I', R')) : CI mX9_end [.ref 0, .int c] (sh, I, R) Q := by
  have hk := hW.ok.tape
  have ht := hW.tape
  unfold endA at k
  have no : ¬ inB c (σ.tape.length + 1) → Q (-1) (sh, I, R) := fun hn => by rw [if_neg hn] at k; exact k I R hW cFr.rf
  refine eX9_end (bX9_end_0 hW.lay ⟨fun z => no (fun y => by have := lt0.mp z; have := y.1; omega), fun z => ?_⟩)
  have h0 : 0 ≤ c.toInt := by
    by_cases w : c.toInt < 0
    · exact absurd (lt0.mpr w) z
    · omega
  have hcb : nN c < 2 ^ 31 := by have := Int32.toInt_lt c; unfold nN; omega
  rw [ht.1, ← nI_N h0]
  refine ⟨fun y => ?_, fun y => no (fun w => y (nI_le ?_ (by omega)))⟩
  · have hle := (nI_leI hcb (by omega)).mp y
    rw [if_pos ⟨h0, by unfold nN at hle; omega⟩] at k
    refine k _ R (hW.tape' (l := σ.tape.take (nN c)) ⟨by rw [List.length_take]; omega, fun x hx => hk.2 x (List.mem_of_mem_take hx)⟩ (fun c h1 h2 => by funext j; rw [xi_p h1]) (by rw [xi_e, List.length_take, Nat.min_eq_left hle]) (fun j hj => ?_)) (fun c h1 h2 => by funext j; rw [xi_p (by omega)])
    rw [List.length_take] at hj
    rw [xi_p (by decide), gd_take (by omega)]; exact ht.2 j (by omega)
  · have := w.2; unfold nN; omega
theorem clR.word' {I' : Nat → Nat → Int32} {σ : St} {l : List Nat} (h : clR sh I R σ) (hl : l.length ≤ 12 ∧ ∀ x ∈ l, x < σ.L) (e : ∀ c, c ≠ 0 → I' c = I c) (e0 : ∀ j, j ≠ 12 → j ≠ 13 → I' 0 j = I 0 j) (e1 : I' 0 12 = nI (wnum σ.L l)) (e2 : I' 0 13 = nI l.length) : clR sh I' R (σ.set_word l) := by
  have hk := h.ok
  refine ⟨⟨hk.p, hk.L1, hk.L3, hk.t, hk.kept, hk.shf, hl, hk.tape⟩, h.lay, h.ht, h.ctx.eq (e 1 (by omega)), ⟨fun q hq => ?_, by rw [e 169 (by omega)]; exact h.mc.2⟩, h.st.eq (fun c h1 h2 => e c (by omega)), fun k hk => (h.kept k hk).eq (by rw [e 21 (by omega)]) (fun c h1 h2 => e c (by omega)), h.pl.eq rG.rf (fun q hq => e q (by omega)), fun j hj => (h.shf j hj).eq (e _ (by omega)) (e _ (by omega)) (fun _ => rfl) (fun i q A hi eq hA => ?_), ⟨e1, e2⟩, ⟨by rw [e 2 (by omega)]; exact h.tape.1, fun j hj => by rw [e 3 (by omega)]; exact h.tape.2 j hj⟩, by rw [e0 14 (by decide) (by decide)]; exact h.fault, ?_⟩
  · have hq2 : q ≠ 0 := by revert hq; simp; omega
    rw [e q hq2]; exact h.mc.1 q hq
  · have := (h.pl.1 j i q hj hi eq).1
    exact hA.eq (e _ (by omega)) (e _ (by omega)) (e _ (by omega)) (e _ (by omega))
  · rcases h.ls with z | ⟨z1, nz, z0, z2, z3⟩
    · exact Or.inl (by rw [e0 11 (by decide) (by decide)]; exact z)
    · exact Or.inr ⟨by rw [e0 11 (by decide) (by decide)]; exact z1, nz, z0, z2.eq (e _ (by omega)) (e _ (by omega)) (e _ (by omega)) (e _ (by omega)), fun j hj => by rw [e 177 (by omega)]; exact z3 j hj⟩
theorem k_letter {σ : St} {c : Int32} {Q : Int32 → xHp → Prop} (hW : clR sh I R σ) (k : ∀ I' R', clR sh I' R' (letterA σ c).2 → cFr I I' → Q (letterA σ c).1 (sh, I', R')) : CI mX9_letter [.ref 0, .int c] (sh, I, R) Q := by
  have hw := hW.ok.word
  have hL3 := hW.ok.L3
  unfold letterA at k
  refine eX9_letter (bX9_letter_0 hW.lay (k_hasLetter hW.lay hW.ctx (fun b hb hblt => bX9_letter_8 hW.lay ⟨fun _ => ?_, fun z => absurd z (by decide)⟩) (fun hn => bX9_letter_8 hW.lay ⟨fun z => absurd rfl z, fun _ => ?_⟩)))
  · subst hb
    rw [if_pos ((inB_n (by omega)).mpr hblt), nN_n (by omega)] at k
    rw [hW.word.2, hW.word.1]
    refine ⟨fun z => ?_, fun z => ?_⟩
    · have h12 := (nI_ltI (by omega) (by omega)).mp z
      rw [if_neg (by omega)] at k
      refine k_withLetter hW.lay hW.ctx (bX9_letter_38 hW.lay ?_)
      rw [hW.word.2, nI_add]
      refine k _ R (hW.word' ⟨by rw [List.length_append]; show _ + 1 ≤ 12; omega, fun x hx => ?_⟩ (fun c h1 => by funext j; rw [xi_p h1, xi_p h1]) (fun j h1 h2 => by rw [xi_s h2, xi_s h1]) (by rw [xi_s (by decide), xi_e, wnum_app]) (by rw [xi_e, List.length_append]; rfl)) (fun c h1 h2 => by funext j; rw [xi_p (by omega), xi_p (by omega)])
      rcases List.mem_append.mp hx with u | u
      · exact hw.2 x u
      · rw [List.mem_singleton.mp u]; exact hblt
    · have h12 : σ.word.length = 12 := by
        rcases Nat.lt_or_ge σ.word.length 12 with u | u
        · exact absurd (nI_lt u (by omega)) z
        · omega
      rw [if_pos h12] at k
      exact k I R hW cFr.rf
  · rw [if_neg hn] at k; exact k I R hW cFr.rf
theorem k_wipe {σ : St} {Q : Int32 → xHp → Prop} (hW : clR sh I R σ) (k : ∀ I' R', clR sh I' R' (wipeA σ).2 → cFr I I' → Q (wipeA σ).1 (sh, I', R')) : CI mX9_wipe [.ref 0] (sh, I, R) Q := by
  unfold wipeA at k
  refine eX9_wipe (bX9_wipe_0 hW.lay ?_)
  rw [hW.word.2]
  exact k _ R (hW.word' ⟨Nat.zero_le _, fun x hx => absurd hx List.not_mem_nil⟩ (fun c h1 => by funext j; rw [xi_p h1, xi_p h1]) (fun j h1 h2 => by rw [xi_s h2, xi_s h1]) (by rw [xi_s (by decide), xi_e]; rfl) (by rw [xi_e]; rfl)) (fun c h1 h2 => by funext j; rw [xi_p (by omega), xi_p (by omega)])
end CSHF
