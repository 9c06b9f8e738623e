/-! CALLS: a method's judgement gives its contract, the contract its callers' step -/
theorem xsl_len (ad : Nat → Nat) : ∀ vs : List Value, (lg_sl (vs.map (xval ad))).length = (xargs vs).length := by
  intro vs
  induction vs with
  | nil => rfl
  | cons v vs ih =>
    simp only [lg_sl, List.map_cons, List.flatMap_cons, List.length_append] at ih ⊢
    have e : xargs (v :: vs) = if v.category = 2 then v :: .retAddr 0 :: xargs vs else v :: xargs vs := rfl
    rw [ih, e, xval_cat]
    by_cases hc : v.category = 2
    · simp [hc]; omega
    · simp [hc]; omega
/-- as Met.ofW, of a method that no native entry stands for -/
theorem xofW {l : Launch} {y : MethodName} {ws ws' : List Cond} {rm : Room} {Pc : Array Value → State → Prop} {Qc : Array Value → State → Outcome → State → Prop} {mc ms : Nat} {free : Addr → Prop} {cc : ByteArray} {maxL : Nat} {ret : Option FieldType}
    (hy : plainFor y = true) (hw : ws = Cond.code y cc maxL ret :: ws')
    (body : ∀ p e s m args below meth c s₁, BodyLoose p l y (headSpec ws rm) cc maxL ret e s m args below meth c s₁ → c.maxLocals = maxL → Pc args s →
      W p l e (headSpec ws rm).room s m args below meth c s.heap [] 0 0 (MQ below Qc args s mc ms free) (entryFrame m args maxL)) : Met l y ws rm Pc Qc mc ms free := by
  refine MetFree.of_bodySF (code := cc) (maxLocals := maxL) (ret := ret) hy ?_ ?_
  · intro args s m h hn
    obtain ⟨meth, c, h1, h2, h3, h4, h5, h6, -, -⟩ := Cond.code_spec hn (atoms_spec (ws := ws) h _ (by rw [hw]; exact List.mem_cons_self))
    exact ⟨meth, c, h1, h2, h3, h4, h5, h6⟩
  · intro p e s m args below meth c s₁ B hml hP _
    have hh0 : s₁.heap = s.heap := by rw [B.state]; rfl
    obtain ⟨t, a1, o, b1, b2, b3⟩ := body p e s m args below meth c s₁ B hml hP s₁ hh0 (Stand.of_body B)
    exact ⟨t, o, a1, b1, b2, ⟨b3.1, b3.2⟩⟩
/-- the contract's end -/
def xQc (dC : Nat → ClassId) (dI : Nat → Nat → Nat) (dA : Nat → ClassId) (ad : Nat → Nat) (A : Nat → Prop) (n : Nat) (Q : Option Value → xHp → Prop) : Array Value → State → Outcome → State → Prop := fun _ st o t =>
  ∃ (v : Option Value) (h' : xHp) (ad' : Nat → Nat), o = .returned (v.map (xval ad')) ∧ Q v h' ∧ n ≤ h'.1.length ∧ xag n ad ad' ∧ va_P (dC, dI) xcl (xW dA ad' h') t.heap ∧ va_D A (xW dA ad' h') ∧ xwf h' ∧ xvs h'.1.length v.toList ∧ va_F A st t
def xPc (dC : Nat → ClassId) (dI : Nat → Nat → Nat) (dA : Nat → ClassId) (ad : Nat → Nat) (A : Nat → Prop) (vs : List Value) (h : xHp) : Array Value → State → Prop := fun a U =>
  a = (vs.map (xval ad)).toArray ∧ xG dC dI dA ad A U ∧ va_P (dC, dI) xcl (xW dA ad h) U.heap ∧ va_D A (xW dA ad h) ∧ xwf h ∧ xvs h.1.length vs
abbrev xrm (Y : xM) (mc ms : Nat) : Room := { frames := Y.2.2.2.2.1, cells := mc, slots := ms, locals := Y.2.2.2.2.2.1 }
abbrev xws (Y : xM) : List Cond := Cond.code Y.1 Y.2.1 Y.2.2.1 Y.2.2.2.1 :: xtbl
theorem xMet {Y : xM} {vs : List Value} {h : xHp} {mc ms : Nat} {Q : Option Value → xHp → Prop} (hCl : Cl Y vs h mc ms Q) (hpl : plainFor Y.1 = true) (hscr : Y.2.2.2.2.2.2 = none) (hvs : (xargs vs).length ≤ Y.2.2.1)
    (l : Launch) (dC : Nat → ClassId) (dI : Nat → Nat → Nat) (dA : Nat → ClassId) (ad : Nat → Nat) (A : Nat → Prop) : Met l Y.1 (xws Y) (xrm Y mc ms) (xPc dC dI dA ad A vs h) (xQc dC dI dA ad A h.1.length Q) mc ms A := by
  refine xofW (cc := Y.2.1) (maxL := Y.2.2.1) (ret := Y.2.2.2.1) hpl rfl ?_
  intro p e s m args below meth c s₁ B hml hv
  obtain ⟨rfl, hG, hP, hD, hw, hv⟩ := hv
  have hts := atoms_spec (ws := xws Y) B.pre
  have hnm : meth.name = Y.1.name := (name_of_methodNamed B.named B.method).1
  rw [lg_entry_eq]
  have hl := lv_entry (vs.map (xval ad)) (n := Y.2.2.1) (by rw [xsl_len]; exact hvs)
  generalize (lg_sl (vs.map (xval ad)) ++ List.replicate (Y.2.2.1 - (lg_sl (vs.map (xval ad))).length) Slot.unset).toArray = ls at hl ⊢
  refine hCl p l e (xrm Y mc ms) s m _ below meth c dC dI dA ad A s.heap [] 0 0 _ ls ⟨B.exec, B.bytes, hml, findClass_of_methodNamed B.named, fun w hw => hts w (List.mem_cons_of_mem _ hw), B.returns, B.notSynchronized, hnm, Nat.le_refl _, Nat.le_refl _, hG, by unfold xX; rw [hscr]; trivial⟩ ⟨hP, hD, va_S.rf, hw⟩ ?_ (fun v hv => by cases hv) (by simp) (by simp) ⟨hl.1, hl.2.1, fun i v hi hne => ?_⟩ ?_
  · refine xvs_app.mpr ⟨xargs_vs hv, fun v hv => ?_⟩
    rw [(List.mem_replicate.mp hv).2]
    exact fun _ e => by cases e
  · by_cases hlt : i < (xargs vs).length
    · rw [List.getElem?_append_left hlt] at hi
      have h9 := xargs_mem ad vs 0 i v hi hne
      rw [Nat.zero_add] at h9
      exact hl.2.2 _ h9
    · rw [List.getElem?_append_right (by omega)] at hi
      exact absurd (List.mem_replicate.mp (List.mem_of_getElem? hi)).2 hne
  · intro v h' ad' H' locs' cells' slots' pc' ls' i hq hle hag hH' hv' hc hs hd hr
    refine W.widen (k := mc) (n := ms) hc hs ?_
    have hq' : ∀ t : State, t.heap = H' → s.WarmedH t.vm → xQc dC dI dA ad A h.1.length Q (vs.map (xval ad)).toArray s (.returned (v.map (xval ad'))) t := fun t ht hW => ⟨v, h', ad', rfl, hq, hle, hag, by rw [ht]; exact hH'.1, hH'.2.1, hH'.2.2.2, hv', hH'.2.2.1.F ht⟩
    have hlk := B.notSynchronized
    have hret := B.returns
    rcases hr with ⟨x, ty, rfl, rfl, hy, hn⟩ | ⟨x, rfl, rfl, hy⟩ | ⟨w, ty, rfl, rfl, hw, hy, hty⟩ | ⟨rfl, rfl, hy⟩
    · exact W.zret (ty := ty) B.exec B.bytes (hret.trans hy) hn hq' hH'.2.2.1.2.2 hd hlk
    · exact W.lret B.exec B.bytes (hret.trans hy) hq' hH'.2.2.1.2.2 hd hlk
    · exact W.aret (rt := ty) B.exec B.bytes (hret.trans hy) hty (by rcases hw with rfl | ⟨a, rfl⟩; exact Or.inl rfl; exact Or.inr ⟨_, rfl⟩) hq' hH'.2.2.1.2.2 hd hlk
    · exact W.vret B.exec B.bytes (hret.trans hy) hq' hH'.2.2.1.2.2 hd hlk
theorem xPc_blind {dC : Nat → ClassId} {dI : Nat → Nat → Nat} {dA : Nat → ClassId} {ad : Nat → Nat} {A : Nat → Prop} {vs : List Value} {h : xHp} : FrameBlind (xPc dC dI dA ad A vs h) := by
  intro a U g mk hp
  obtain ⟨h1, h2, h3, h4⟩ := hp
  exact ⟨h1, h2.calling, h3, h4⟩
theorem xgood (Y : xM) (hc : Cond.code Y.1 Y.2.1 Y.2.2.1 Y.2.2.2.1 ∈ xtbl) : GoodIn xtbl (xws Y) := fun w hw => by
  rcases List.mem_cons.mp hw with rfl | hw
  · exact xt_good _ hc
  · exact xt_good _ hw
/-- what a call needs of its callee: its code, its class, its parameters -/
def xL (own : String) (idx : Nat) (Y : xM) (n : Nat) : Prop :=
  Cond.methodLink own idx Y.1 ∈ xtbl ∧ Cond.code Y.1 Y.2.1 Y.2.2.1 Y.2.2.2.1 ∈ xtbl ∧ Cond.initialized Y.1.cls ∈ xtbl ∧ plainFor Y.1 = true ∧ (Y.1.cls ≠ "java/lang/invoke/MethodHandle" ∧ Y.1.cls ≠ "java/lang/invoke/VarHandle" ∧ (parseMethodDescriptor Y.1.desc).map (fun d => d.parameters.length) = some n) ∧ Y.2.2.2.2.2.2 = none
/-- the callee fits below the caller -/
def xB (Y Y' : xM) : Prop := Y'.2.2.2.2.1 + 1 ≤ Y.2.2.2.2.1 ∧ 8 + (Y'.2.2.1 + 11) + Y'.2.2.2.2.2.1 ≤ Y.2.2.2.2.2.1
section XR6
variable {Y Y' : xM} {pc : Nat} {lv st : List Value} {h : xHp} {mc ms mc1 ms1 : Nat} {Q : Option Value → xHp → Prop}
theorem xcallB {own : String} {idx n : Nat} {R : Room} {s : State} {args : Array Value} {Y Y' : xM} (hts : ∀ w ∈ xtbl, w.before args s = true) (hL : xL own idx Y' n) (hB : xB Y Y') (hfr : Y.2.2.2.2.1 ≤ R.frames) (hlo : Y.2.2.2.2.2.1 ≤ R.locals) (mc ms : Nat) : CallB R s args own idx Y'.1 Y'.2.1 Y'.2.2.1 Y'.2.2.2.1 (xws Y') (xrm Y' mc ms) mc ms n := by
  obtain ⟨l1, l2, l3, l4, l5, l6⟩ := hL
  exact callB_of n hts (xgood Y' l2) rfl rfl rfl (hts _ l3) (hts _ l1) l5 ⟨Nat.le_trans hB.1 hfr, Nat.le_trans hB.2 hlo⟩
/-- behind the call -/
theorem xw_after {p : Program} {l : Launch} {e : Env} {R : Room} {s : State} {m : MethodId} {args : Array Value} {below : List Frame} {meth : Method} {c : Code} {dC : Nat → ClassId} {dI : Nat → Nat → Nat} {dA : Nat → ClassId} {ad : Nat → Nat} {A : Nat → Prop} {H : Heap} {locs : List Loc} {cells slots : Nat} {Qw : State → Prop} {ls : Array Slot} {st0 : List Value} {a : Array Value}
    (hC : xC Y p R s m args meth c dC dI dA ad A) (hH : xH dC dI dA A s ad h H locs) (a1 : xvs h.1.length lv) (a2 : xvs h.1.length st) (a3 : cells + (mc1 + mc) ≤ R.cells) (a4 : slots + (ms1 + ms) ≤ R.slots) (a5 : xls ad ls Y.2.2.1 lv) (a6 : xR Y p l e R s m args below meth c dC dI dA A Qw ad h.1.length Q)
    (hr : va_Run p l e R s m args below meth c H locs cells slots mc1 ms1 (F0 m pc ls st0) (st.map (xval ad)) (xQc dC dI dA ad A h.1.length (fun v h' => Ex Y (pc + 3) lv (v.toList ++ st) h' mc ms Q) a) A) :
    W p l e R s m args below meth c H locs cells slots Qw (F0 m pc ls st0) := by
  intro T hT X
  obtain ⟨v0, st₀, t, T', L, h0, X', hL, e1, e2, hq, step⟩ := hr T hT X
  obtain ⟨v, h', ad', ho, hE, hlen, hag, hP', hD', hw', hv', hF⟩ := hq
  cases ho
  rw [← e1] at hP'
  have hS : va_S A s.heap T'.heap (locs ++ L) := by
    obtain ⟨z1, z2⟩ := hF
    rw [h0] at z1 z2
    rw [← e1] at z1 z2
    refine ⟨Nat.le_trans hH.2.2.1.1 z1, fun q q1 q2 => (z2 q (Nat.lt_of_lt_of_le q1 hH.2.2.1.1) q2).trans (hH.2.2.1.2.1 q q1 q2), fun q hq => ?_⟩
    rcases List.mem_append.mp hq with z | z
    · exact hH.2.2.1.2.2 q z
    · exact hL q z
  have K := hE p l e R s m args below meth c dC dI dA ad' A T'.heap (locs ++ L) (cells + mc1) (slots + ms1) Qw ls (hC.ag hag) ⟨hP', hD', hS, hw'⟩ (a1.mono hlen) (xvs_app.mpr ⟨hv', a2.mono hlen⟩) (by omega) (by omega) (a5.ag hag a1) (a6.grow hlen hag)
  obtain ⟨t2, b1, b2⟩ := K T' rfl X'
  refine ⟨t2, step t2 ?_, b2⟩
  have e9 : (v.map (xval ad')).toList ++ st.map (xval ad) = (v.toList ++ st).map (xval ad') := by
    rw [List.map_append, xmap_ag hag a2]
    cases v <;> rfl
  show Steps _ _ _ (T'.setTop { (F0 m pc ls st0) with pc := pc + 3, stack := (v.map (xval ad')).toList ++ st.map (xval ad) }) t2
  rw [e9]
  exact b1
theorem xpre {vs : List Value} {s : State} {dC : Nat → ClassId} {dI : Nat → Nat → Nat} {dA : Nat → ClassId} {ad : Nat → Nat} {A : Nat → Prop} {H : Heap} {locs : List Loc} (hG : xG dC dI dA ad A s) (hH : xH dC dI dA A s ad h H locs) (hv : xvs h.1.length vs) : ∀ U : State, U.heap = H → s.WarmedH U.vm → xPc dC dI dA ad A vs h (vs.map (xval ad)).toArray U :=
  fun U hU hW => ⟨rfl, hG.move hH.2.2.1 hU hW, by rw [hU]; exact hH.1, hH.2.1, hH.2.2.2, hv⟩
theorem xrev {n : Nat} {As : List Value} (h : xvs n As.reverse) : xvs n As := fun v hv => h v (List.mem_reverse.mpr hv)
theorem xw_callV {idx n b ci : Nat} {As st0 : List Value} (hd : decode Y.2.1 pc = .ok (.invokevirtual idx, 3)) (hL : xL Y.1.cls idx Y' n) (hl1 : Cond.instanceMethod Y'.1 ∈ xtbl) (hl2 : Cond.selects Y'.1.cls Y'.1 Y'.1 ∈ xtbl) (hB : xB Y Y') (hst : st0 = As.reverse ++ .ref b :: st) (hn : As.length = n) (hb : h.1[b]? = some (.inl ci)) (hc : (xcl[ci]?).map (fun r => r.1) = some Y'.1.cls) (hs : (st.map fun v => v.category).sum ≤ 8) (hvs : (xargs (.ref b :: As)).length ≤ Y'.2.2.1)
    (kk : Cl Y' (.ref b :: As) h mc1 ms1 (fun v h' => Ex Y (pc + 3) lv (v.toList ++ st) h' mc ms Q)) : Ex Y pc lv st0 h (mc1 + mc) (ms1 + ms) Q := by
  subst hst
  intro p l e R s m args below meth c dC dI dA ad A H locs cells slots Qw ls hC hH a1 a2 a3 a4 a5 a6
  obtain ⟨hx, hb9, hml, hown, hts, hr, hlk, hnm, hfr, hlo, hG, hX⟩ := id hC
  obtain ⟨b1, b2⟩ := xvs_app.mp a2
  obtain ⟨b3, b4⟩ := xvs_cons.mp b2
  obtain ⟨r, hr1, hr2⟩ : ∃ r, xcl[ci]? = some r ∧ r.1 = Y'.1.cls := by
    cases hq : xcl[ci]? with
    | none => rw [hq] at hc; cases hc
    | some r => rw [hq] at hc; exact ⟨r, rfl, Option.some.inj hc⟩
  have hrecv := va_recv hG.1 hH.1 hr1 (xW_at hb)
  rw [hr2] at hrecv
  have hrun := va_runV (C := Y'.1.cls) (b := ad b) (As := As.map (xval ad)) (rest := st.map (xval ad)) (g := F0 m pc ls ((As.reverse ++ .ref b :: st).map (xval ad))) (below := below) (e := e) (cells := cells) (slots := slots) (locs := locs) (meth := meth) ⟨hx, hb9, hml, hown, hts⟩ (xMet kk hL.2.2.2.1 hL.2.2.2.2.2 hvs l dC dI dA ad A) ⟨xcallB hts hL hB hfr hlo mc1 ms1, hts _ hl1, hts _ hl2⟩ ⟨xPc_blind, hrecv, xpre hG hH (xvs_cons.mpr ⟨b3, xrev b1⟩)⟩ rfl (by rw [List.length_map]; exact hn) a5.1 (by show List.map _ _ = _; rw [List.map_append, List.map_reverse]; rfl) (lv_room (by rw [xcat]; exact hs)) hd ⟨by omega, by omega⟩
  exact xw_after hC hH a1 b4 a3 a4 a5 a6 hrun
/-- the receiver is the text i -/
theorem xw_callT {idx n i : Nat} {As st0 : List Value} (hi : i < 6) (hd : decode Y.2.1 pc = .ok (.invokevirtual idx, 3)) (hL : xL Y.1.cls idx Y' n) (hl1 : Cond.instanceMethod Y'.1 ∈ xtbl) (hl2 : Cond.selects Y'.1.cls Y'.1 Y'.1 ∈ xtbl) (hB : xB Y Y') (hst : st0 = As.reverse ++ .ref (1000001 + i) :: st) (hn : As.length = n) (hc : Y'.1.cls = "java/lang/String") (hs : (st.map fun v => v.category).sum ≤ 8) (hvs : (xargs (.ref (1000001 + i) :: As)).length ≤ Y'.2.2.1)
    (kk : Cl Y' (.ref (1000001 + i) :: As) h mc1 ms1 (fun v h' => Ex Y (pc + 3) lv (v.toList ++ st) h' mc ms Q)) : Ex Y pc lv st0 h (mc1 + mc) (ms1 + ms) Q := by
  subst hst
  intro p l e R s m args below meth c dC dI dA ad A H locs cells slots Qw ls hC hH a1 a2 a3 a4 a5 a6
  obtain ⟨hx, hb9, hml, hown, hts, hr, hlk, hnm, hfr, hlo, hG, hX⟩ := id hC
  obtain ⟨b1, b2⟩ := xvs_app.mp a2
  obtain ⟨b3, b4⟩ := xvs_cons.mp b2
  have hrecv := vk_recv hG.2.2.1 hi hH.2.2.1
  rw [← hc] at hrecv
  have hrun := va_runV (C := Y'.1.cls) (b := ad (1000001 + i)) (As := As.map (xval ad)) (rest := st.map (xval ad)) (g := F0 m pc ls ((As.reverse ++ .ref (1000001 + i) :: st).map (xval ad))) (below := below) (e := e) (cells := cells) (slots := slots) (locs := locs) (meth := meth) ⟨hx, hb9, hml, hown, hts⟩ (xMet kk hL.2.2.2.1 hL.2.2.2.2.2 hvs l dC dI dA ad A) ⟨xcallB hts hL hB hfr hlo mc1 ms1, hts _ hl1, hts _ hl2⟩ ⟨xPc_blind, hrecv, xpre hG hH (xvs_cons.mpr ⟨b3, xrev b1⟩)⟩ rfl (by rw [List.length_map]; exact hn) a5.1 (by show List.map _ _ = _; rw [List.map_append, List.map_reverse]; rfl) (lv_room (by rw [xcat]; exact hs)) hd ⟨by omega, by omega⟩
  exact xw_after hC hH a1 b4 a3 a4 a5 a6 hrun
theorem xw_callS {idx n : Nat} {As st0 : List Value} (hd : decode Y.2.1 pc = .ok (.invokestatic idx, 3)) (hL : xL Y.1.cls idx Y' n) (hl1 : Cond.static Y'.1 ∈ xtbl) (hB : xB Y Y') (hst : st0 = As.reverse ++ st) (hn : As.length = n) (hs : (st.map fun v => v.category).sum ≤ 8) (hvs : (xargs As).length ≤ Y'.2.2.1)
    (kk : Cl Y' As h mc1 ms1 (fun v h' => Ex Y (pc + 3) lv (v.toList ++ st) h' mc ms Q)) : Ex Y pc lv st0 h (mc1 + mc) (ms1 + ms) Q := by
  subst hst
  intro p l e R s m args below meth c dC dI dA ad A H locs cells slots Qw ls hC hH a1 a2 a3 a4 a5 a6
  obtain ⟨hx, hb9, hml, hown, hts, hr, hlk, hnm, hfr, hlo, hG, hX⟩ := id hC
  obtain ⟨b1, b4⟩ := xvs_app.mp a2
  have hrun := va_runS (As := As.map (xval ad)) (rest := st.map (xval ad)) (g := F0 m pc ls ((As.reverse ++ st).map (xval ad))) (H := H) (below := below) (e := e) (cells := cells) (slots := slots) (locs := locs) (meth := meth) ⟨hx, hb9, hml, hown, hts⟩ (xMet kk hL.2.2.2.1 hL.2.2.2.2.2 hvs l dC dI dA ad A) ⟨xcallB hts hL hB hfr hlo mc1 ms1, hts _ hl1⟩ ⟨xPc_blind, xpre hG hH (xrev b1)⟩ rfl (by rw [List.length_map]; exact hn) a5.1 (by show List.map _ _ = _; rw [List.map_append, List.map_reverse]) (lv_room (by rw [xcat]; exact hs)) hd ⟨by omega, by omega⟩
  exact xw_after hC hH a1 b4 a3 a4 a5 a6 hrun
theorem xw_callI {idx n b : Nat} {As st0 : List Value} (hd : decode Y.2.1 pc = .ok (.invokespecial idx, 3)) (hL : xL Y.1.cls idx Y' n) (hl1 : Cond.instanceMethod Y'.1 ∈ xtbl) (hnm9 : Y'.1.name = "<init>") (hv9 : Y'.2.2.2.1 = none) (hB : xB Y Y') (hst : st0 = As.reverse ++ .ref b :: st) (hn : As.length = n) (hs : (st.map fun v => v.category).sum ≤ 8) (hvs : (xargs (.ref b :: As)).length ≤ Y'.2.2.1)
    (kk : Cl Y' (.ref b :: As) h mc1 ms1 (fun v h' => Ex Y (pc + 3) lv (v.toList ++ st) h' mc ms Q)) : Ex Y pc lv st0 h (mc1 + mc) (ms1 + ms) Q := by
  subst hst
  intro p l e R s m args below meth c dC dI dA ad A H locs cells slots Qw ls hC hH a1 a2 a3 a4 a5 a6
  obtain ⟨hx, hb9, hml, hown, hts, hr, hlk, hnm, hfr, hlo, hG, hX⟩ := id hC
  obtain ⟨b1, b2⟩ := xvs_app.mp a2
  obtain ⟨b3, b4⟩ := xvs_cons.mp b2
  have hcb := xcallB (R := R) hts hL hB hfr hlo mc1 ms1
  rw [hv9] at hcb
  have hrun := va_runI (b := ad b) (As := As.map (xval ad)) (rest := st.map (xval ad)) (g := F0 m pc ls ((As.reverse ++ .ref b :: st).map (xval ad))) (H := H) (below := below) (e := e) (cells := cells) (slots := slots) (locs := locs) (meth := meth) ⟨hx, hb9, hml, hown, hts⟩ (xMet kk hL.2.2.2.1 hL.2.2.2.2.2 hvs l dC dI dA ad A) ⟨hcb, hnm9, hts _ hl1⟩ ⟨xPc_blind, xpre hG hH (xvs_cons.mpr ⟨b3, xrev b1⟩)⟩ rfl (by rw [List.length_map]; exact hn) a5.1 (by show List.map _ _ = _; rw [List.map_append, List.map_reverse]; rfl) (lv_room (by rw [xcat]; exact hs)) hd ⟨by omega, by omega⟩
  exact xw_after hC hH a1 b4 a3 a4 a5 a6 hrun
/-- a nest mate's constructor -/
theorem xw_callIN {n b : Nat} {As st0 : List Value} (hd : decode Y.2.1 pc = .ok (.invokespecial 9, 3)) (hY1 : Y.1.cls = "WeightedWords") (hY2 : Y'.1 = ⟨"WeightedWords$Realm", "<init>", "()V"⟩) (l2 : Cond.code Y'.1 Y'.2.1 Y'.2.2.1 Y'.2.2.2.1 ∈ xtbl) (l3 : Cond.initialized Y'.1.cls ∈ xtbl) (l4 : plainFor Y'.1 = true) (l5 : Y'.1.cls ≠ "java/lang/invoke/MethodHandle" ∧ Y'.1.cls ≠ "java/lang/invoke/VarHandle" ∧ (parseMethodDescriptor Y'.1.desc).map (fun d => d.parameters.length) = some n) (l6 : Y'.2.2.2.2.2.2 = none) (hl1 : Cond.instanceMethod Y'.1 ∈ xtbl) (hnm9 : Y'.1.name = "<init>") (hv9 : Y'.2.2.2.1 = none) (hB : xB Y Y') (hst : st0 = As.reverse ++ .ref b :: st) (hn : As.length = n) (hs : (st.map fun v => v.category).sum ≤ 8) (hvs : (xargs (.ref b :: As)).length ≤ Y'.2.2.1)
    (kk : Cl Y' (.ref b :: As) h mc1 ms1 (fun v h' => Ex Y (pc + 3) lv (v.toList ++ st) h' mc ms Q)) : Ex Y pc lv st0 h (mc1 + mc) (ms1 + ms) Q := by
  subst hst
  intro p l e R s m args below meth c dC dI dA ad A H locs cells slots Qw ls hC hH a1 a2 a3 a4 a5 a6
  obtain ⟨hx, hb9, hml, hown, hts, hr, hlk, hnm, hfr, hlo, hG, hX⟩ := id hC
  obtain ⟨b1, b2⟩ := xvs_app.mp a2
  obtain ⟨b3, b4⟩ := xvs_cons.mp b2
  have hcb : va_CN R s args Y.1.cls 9 Y'.1 "WeightedWords" Y'.2.1 Y'.2.2.1 none (xws Y') (xrm Y' mc1 ms1) mc1 ms1 n := va_cnB n hts (xgood Y' l2) (by unfold xws; rw [hv9]) rfl rfl (by rw [hY1, hY2]; exact hG.2.2.2.2.2.2.2.2.2.2) (hts _ l3) l5 ⟨Nat.le_trans hB.1 hfr, Nat.le_trans hB.2 hlo⟩
  have hrun := va_runIN (b := ad b) (As := As.map (xval ad)) (rest := st.map (xval ad)) (g := F0 m pc ls ((As.reverse ++ .ref b :: st).map (xval ad))) (H := H) (below := below) (e := e) (cells := cells) (slots := slots) (locs := locs) (meth := meth) ⟨hx, hb9, hml, hown, hts⟩ (xMet kk l4 l6 hvs l dC dI dA ad A) ⟨hcb, hnm9, hts _ hl1⟩ ⟨xPc_blind, xpre hG hH (xvs_cons.mpr ⟨b3, xrev b1⟩)⟩ rfl (by rw [List.length_map]; exact hn) a5.1 (by show List.map _ _ = _; rw [List.map_append, List.map_reverse]; rfl) (lv_room (by rw [xcat]; exact hs)) hd ⟨by omega, by omega⟩
  exact xw_after hC hH a1 b4 a3 a4 a5 a6 hrun
end XR6
