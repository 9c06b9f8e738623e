/-! NEW CELLS -/
/-- one cell more, of a shape, all 0 -/
def xpush (h : xHp) (sh : xSh) : xHp := (h.1 ++ [sh], fun a => if a = h.1.length then (fun _ => 0) else h.2.1 a, fun a => if a = h.1.length then (fun _ => none) else h.2.2 a)
theorem xpush_len {h : xHp} {sh : xSh} : (xpush h sh).1.length = h.1.length + 1 := by simp [xpush]
theorem xpush_wf {h : xHp} {sh : xSh} (hw : xwf h) (hn : h.1.length < 1000000) : xwf (xpush h sh) := by
  refine ⟨by rw [xpush_len]; omega, fun q j r hq hr => ?_⟩
  rw [xpush_len] at hq ⊢
  by_cases e : q = h.1.length
  · simp [xpush, e] at hr
  · simp [xpush, e] at hr
    have := hw.2 q j r (by omega) hr
    omega
theorem xup_ag {n q : Nat} {ad : Nat → Nat} (hn : n < 1000000) : xag n ad (va_up ad n q) := by
  intro k hk
  unfold va_up
  rw [if_neg]
  rintro rfl
  rcases hk with h | h
  · exact absurd h (Nat.lt_irrefl _)
  · omega
theorem xW_push {dA : Nat → ClassId} {ad : Nat → Nat} {h : xHp} {sh : xSh} {q : Nat} (hw : xwf h) (hn : h.1.length < 1000000) : xW dA (va_up ad h.1.length q) (xpush h sh) = xW dA ad h ++ [(q, xE dA (va_up ad h.1.length q) (xpush h sh) h.1.length sh)] := by
  apply List.ext_getElem?
  intro k
  have hA := xup_ag (ad := ad) (q := q) hn
  by_cases hk : k < h.1.length
  · rw [List.getElem?_append_left (by rw [xW_len]; exact hk)]
    obtain ⟨s2, hs2⟩ : ∃ s2, h.1[k]? = some s2 := ⟨_, List.getElem?_eq_getElem hk⟩
    have hs3 : (xpush h sh).1[k]? = some s2 := by
      show (h.1 ++ [sh])[k]? = _
      rw [List.getElem?_append_left hk]; exact hs2
    rw [xW_at hs2, xW_at hs3, hA k (Or.inl hk)]
    rw [xE_congr (ad := ad) (h := h) s2 (by simp [xpush, Nat.ne_of_lt hk]) (fun j => ?_)]
    have he : (xpush h sh).2.2 k j = h.2.2 k j := by simp [xpush, Nat.ne_of_lt hk]
    rw [he]
    cases hr : h.2.2 k j with
    | none => rfl
    | some r => show some _ = some _; rw [hA r (Or.inl (hw.2 k j r hk hr))]
  · by_cases hk2 : k = h.1.length
    · subst hk2
      have hs3 : (xpush h sh).1[h.1.length]? = some sh := by
        show (h.1 ++ [sh])[_]? = _
        simp
      rw [xW_at hs3, List.getElem?_append_right (by rw [xW_len]; exact Nat.le_refl _), xW_len, Nat.sub_self]
      simp [va_up]
    · rw [List.getElem?_eq_none (by rw [xW_len, xpush_len]; omega), List.getElem?_eq_none (by rw [List.length_append, xW_len]; simp; omega)]
/-- the fields of a new object -/
theorem xc_df : ∀ (ci : Nat) (r : vw_C), xcl[ci]? = some r → ∀ k, k < r.2.2 → defaultValue (xft ci k) = if xref (xft ci k) = true then .null else .int 0 := by
  intro ci r h
  match ci, h with
  | 0, h => cases h; decide +kernel
  | 1, h => cases h; decide +kernel
  | 2, h => cases h; decide +kernel
  | 3, h => cases h; decide +kernel
  | 4, h => cases h; decide +kernel
  | 5, h => cases h; decide +kernel
  | 6, h => cases h; decide +kernel
  | 7, h => cases h; decide +kernel
  | 8, h => cases h; decide +kernel
  | 9, h => cases h; decide +kernel
  | 10, h => cases h; decide +kernel
  | k + 11, h => simp [xcl] at h
/-- a class by its place in the class file of 'own' -/
def xK (own : String) (idx ci : Nat) : Prop := ∃ r : vw_C, xcl[ci]? = some r ∧ Cond.classLink own idx r.1 ∈ xtbl ∧ Cond.instantiable r.1 r.2.2 ∈ xtbl ∧ Cond.initialized r.1 ∈ xtbl
section XR3
variable {Y : xM} {pc : Nat} {lv st : List Value} {h : xHp} {mc ms : Nat} {Q : Option Value → xHp → Prop}
/-- how a state goes on with a longer heap -/
theorem xR.grow {Y : xM} {p : Program} {l : Launch} {e : Env} {R : Room} {s : State} {m : MethodId} {args : Array Value} {below : List Frame} {meth : Method} {c : Code} {dC : Nat → ClassId} {dI : Nat → Nat → Nat} {dA : Nat → ClassId} {A : Nat → Prop} {Qw : State → Prop} {ad ad' : Nat → Nat} {n n' : Nat} {Q : Option Value → xHp → Prop}
    (h : xR Y p l e R s m args below meth c dC dI dA A Qw ad n Q) (hn : n ≤ n') (ha : xag n ad ad') : xR Y p l e R s m args below meth c dC dI dA A Qw ad' n' Q :=
  fun v h' ad2 H' locs' cells' slots' pc' ls' i hq hl hag => h v h' ad2 H' locs' cells' slots' pc' ls' i hq (Nat.le_trans hn hl) (ha.tr hag hn)
theorem xC.ag {Y : xM} {p : Program} {R : Room} {s : State} {m : MethodId} {args : Array Value} {meth : Method} {c : Code} {dC : Nat → ClassId} {dI : Nat → Nat → Nat} {dA : Nat → ClassId} {ad ad' : Nat → Nat} {A : Nat → Prop} {n : Nat} (h : xC Y p R s m args meth c dC dI dA ad A) (ha : xag n ad ad') : xC Y p R s m args meth c dC dI dA ad' A := by
  obtain ⟨hx, hb, hml, hown, hts, hr, hlk, hnm, hfr, hlo, hG, hX⟩ := h
  exact ⟨hx, hb, hml, hown, hts, hr, hlk, hnm, hfr, hlo, hG.ag ha, hX.ag ha⟩
theorem xw_new {idx ci : Nat} (hd : decode Y.2.1 pc = .ok (.new idx, 3)) (hK : xK Y.1.cls idx ci) (hn : h.1.length < 1000000) (kk : Ex Y (pc + 3) lv (.ref h.1.length :: st) (xpush h (.inl ci)) mc ms Q) : Ex Y pc lv st h (mc + 1) (ms + xN ci) Q := by
  intro p l e R s m args below meth c dC dI dA ad A H locs cells slots Qw ls hC hH h1 h2 h3 h4 h5 h6
  obtain ⟨r, hc, hl1, hl2, hl3⟩ := hK
  obtain ⟨hx, hb, hml, hown, hts, hr, hlk, hnm, hfr, hlo, hG, hX⟩ := id hC
  rw [xN_of hc] at h4
  refine va_new (D := (dC, dI)) (cl := xcl) (ci := ci) (fs := (List.range (xN ci)).map (fun j => if xref (xft ci j) = true then Value.null else .int 0)) (C := r.1) (T := r.2.1) (N := r.2.2) hx hb hts (xc_in ci r hc) (xft ci) (xc_ty ci r hc) hown (hts _ hl1) (hts _ hl2) (hts _ hl3) hG.1 hH.1 hH.2.1 hH.2.2.1 hG.2.1 hc (fun j hj => ?_) (by omega) (by omega) hd (fun q H1 g1 g2 g3 => ?_)
  · rw [xc_df ci r hc j hj, vp_V, xN_of hc, List.getD_eq_getElem?_getD, List.getElem?_map, List.getElem?_range hj]; rfl
  · have hA := xup_ag (ad := ad) (q := q) hn
    have hw : xW dA ad h ++ [(q, .inr (ci, (List.range (xN ci)).map (fun j => if xref (xft ci j) = true then Value.null else .int 0)))] = xW dA (va_up ad h.1.length q) (xpush h (.inl ci)) := by
      rw [xW_push hH.2.2.2 hn]
      have : xfd (va_up ad h.1.length q) (xpush h (.inl ci)) h.1.length ci = (fun j => if xref (xft ci j) = true then Value.null else .int 0) := by
        funext j; simp [xfd, xpush, va_rf]
      simp only [xE, this]
    rw [hw] at g1 g2
    have hk := kk p l e R s m args below meth c dC dI dA (va_up ad h.1.length q) A H1 locs (cells + 1) (slots + r.2.2) Qw ls (hC.ag hA) ⟨g1, g2, g3, xpush_wf hH.2.2.2 hn⟩ (h1.mono (by rw [xpush_len]; omega)) (xvs_cons.mpr ⟨xvok_ref.mpr (Or.inl (by rw [xpush_len]; omega)), h2.mono (by rw [xpush_len]; omega)⟩) (by omega) (by omega) (h5.ag hA h1) (h6.grow (by rw [xpush_len]; omega) hA)
    rw [List.map_cons, xmap_ag hA h2] at hk
    have e1 : xval (va_up ad h.1.length q) (.ref h.1.length) = .ref q := by simp [xval, va_up]
    rw [e1] at hk
    exact hk
theorem xw_newcore {t N' q : Nat} {n : Int32} {ad : Nat → Nat} {pc' : Nat} {p : Program} {l : Launch} {e : Env} {R : Room} {s : State} {m : MethodId} {args : Array Value} {below : List Frame} {meth : Method} {c : Code} {dC : Nat → ClassId} {dI : Nat → Nat → Nat} {dA : Nat → ClassId} {A : Nat → Prop} {H1 : Heap} {locs : List Loc} {cells slots : Nat} {Qw : State → Prop} {ls : Array Slot}
    (hn : h.1.length < 1000000) (hC : xC Y p R s m args meth c dC dI dA ad A) (hw : xwf h) (h1 : xvs h.1.length lv) (h2 : xvs h.1.length (.int n :: st)) (h3 : cells + (mc + 1) ≤ R.cells) (h4 : slots + (ms + N') ≤ R.slots) (h5 : xls ad ls Y.2.2.1 lv) (h6 : xR Y p l e R s m args below meth c dC dI dA A Qw ad h.1.length Q)
    (g1 : va_P (dC, dI) xcl (xW dA ad h ++ [(q, xE dA (va_up ad h.1.length q) (xpush h (.inr (t, N'))) h.1.length (.inr (t, N')))]) H1) (g2 : va_D A (xW dA ad h ++ [(q, xE dA (va_up ad h.1.length q) (xpush h (.inr (t, N'))) h.1.length (.inr (t, N')))])) (g3 : va_S A s.heap H1 locs)
    (kk : Ex Y pc' lv (.ref h.1.length :: st) (xpush h (.inr (t, N'))) mc ms Q) : W p l e R s m args below meth c H1 locs (cells + 1) (slots + N') Qw (F0 m pc' ls (.ref q :: st.map (xval ad))) := by
  have hA := xup_ag (ad := ad) (q := q) hn
  rw [← xW_push hw hn] at g1 g2
  have h2' := (xvs_cons.mp h2).2
  have hk := kk p l e R s m args below meth c dC dI dA (va_up ad h.1.length q) A H1 locs (cells + 1) (slots + N') Qw ls (hC.ag hA) ⟨g1, g2, g3, xpush_wf hw hn⟩ (h1.mono (by rw [xpush_len]; omega)) (xvs_cons.mpr ⟨xvok_ref.mpr (Or.inl (by rw [xpush_len]; omega)), h2'.mono (by rw [xpush_len]; omega)⟩) (by omega) (by omega) (h5.ag hA h1) (h6.grow (by rw [xpush_len]; omega) hA)
  rw [List.map_cons, xmap_ag hA h2'] at hk
  have e1 : xval (va_up ad h.1.length q) (.ref h.1.length) = .ref q := by simp [xval, va_up]
  rw [e1] at hk
  exact hk
/-- which kind an array type has -/
def xat (at9 : ArrayType) (t : Nat) : Prop := (at9 = .int ∧ t = 0) ∨ (at9 = .boolean ∧ t = 1) ∨ (at9 = .byte ∧ t = 2)
theorem xw_newarray {at9 : ArrayType} {t N' : Nat} {n : Int32} (hd : decode Y.2.1 pc = .ok (.newarray at9, 2)) (ht : xat at9 t) (hwd : Cond.arrayClass (newarray.typeOf at9) ∈ xtbl) (hn0 : ¬ n < 0) (hN : n.toNatClampNeg = N') (hsz : N' ≤ 100000) (hn : h.1.length < 1000000) (kk : Ex Y (pc + 2) lv (.ref h.1.length :: st) (xpush h (.inr (t, N'))) mc ms Q) : Ex Y pc lv (.int n :: st) h (mc + 1) (ms + N') Q := by
  intro p l e R s m args below meth c dC dI dA ad A H locs cells slots Qw ls hC hH h1 h2 h3 h4 h5 h6
  obtain ⟨hx, hb, hml, hown, hts, hr, hlk, hnm, hfr, hlo, hG, hX⟩ := id hC
  have fin : ∀ (q : Nat) (cA : ClassId) (H1 : Heap) (ty : FieldType), (xtys dA)[t]? = some (dA t, ty) → va_RA s cA ty → (∀ cC, va_RA s cC ty ↔ s.vm.findClass ("[" ++ ty.toString) = some cC) → va_P (dC, dI) xcl (xW dA ad h ++ [(q, .inl (cA, N', .inl (fun _ => 0)))]) H1 → va_D A (xW dA ad h ++ [(q, .inl (cA, N', .inl (fun _ => 0)))]) → va_S A s.heap H1 locs → W p l e R s m args below meth c H1 locs (cells + 1) (slots + N') Qw (F0 m (pc + 2) ls (.ref q :: st.map (xval ad))) := by
    intro q cA H1 ty htt hra hiff g1 g2 g3
    have hcA : cA = dA t := by
      have a1 := (hiff _).mp hra
      have a2 := (hiff _).mp (hG.1.2 t _ htt).2
      exact Option.some.inj (a1.symm.trans a2)
    subst hcA
    have ht3 : t < 3 := by rcases ht with ⟨-, rfl⟩ | ⟨-, rfl⟩ | ⟨-, rfl⟩ <;> decide
    have he : (.inl (dA t, N', .inl (fun _ => 0)) : va_E) = xE dA (va_up ad h.1.length q) (xpush h (.inr (t, N'))) h.1.length (.inr (t, N')) := by
      rw [xE_i ht3]; simp [xpush]
    rw [he] at g1 g2
    exact xw_newcore hn hC hH.2.2.2 h1 h2 h3 h4 h5 h6 g1 g2 g3 kk
  rcases ht with ⟨rfl, rfl⟩ | ⟨rfl, rfl⟩ | ⟨rfl, rfl⟩
  · refine va_newa (atype := .int) (a0 := (N', .inl (fun _ => 0))) hx hb (hts _ hwd) rfl hG.1 hH.1 hH.2.1 hH.2.2.1 hG.2.1 (fun cA => rfl) hn0 hN (by simp [newarray.typeOf, componentBytes]; omega) (by omega) (by omega) hd (fun q cA H1 g0 g1 g2 g3 => ?_)
    exact fin q cA H1 .int rfl (g0.2 7 (cA, .int) rfl).2 (fun _ => Iff.rfl) g1 g2 g3
  · refine va_newa (atype := .boolean) (a0 := (N', .inl (fun _ => 0))) hx hb (hts _ hwd) rfl hG.1 hH.1 hH.2.1 hH.2.2.1 hG.2.1 (fun cA => rfl) hn0 hN (by simp [newarray.typeOf, componentBytes]; omega) (by omega) (by omega) hd (fun q cA H1 g0 g1 g2 g3 => ?_)
    exact fin q cA H1 .boolean rfl (g0.2 7 (cA, .boolean) rfl).2 (fun _ => Iff.rfl) g1 g2 g3
  · refine va_newa (atype := .byte) (a0 := (N', .inl (fun _ => 0))) hx hb (hts _ hwd) rfl hG.1 hH.1 hH.2.1 hH.2.2.1 hG.2.1 (fun cA => rfl) hn0 hN (by simp [newarray.typeOf, componentBytes]; omega) (by omega) (by omega) hd (fun q cA H1 g0 g1 g2 g3 => ?_)
    exact fin q cA H1 .byte rfl (g0.2 7 (cA, .byte) rfl).2 (fun _ => Iff.rfl) g1 g2 g3
theorem xw_anewarray {idx ci t N' : Nat} {n : Int32} {r : vw_C} (hd : decode Y.2.1 pc = .ok (.anewarray idx, 3)) (ht : xcomp t ci) (hc : xcl[ci]? = some r) (hl1 : Cond.classLink Y.1.cls idx r.1 ∈ xtbl) (hn0 : ¬ n < 0) (hN : n.toNatClampNeg = N') (hsz : N' ≤ 100000) (hn : h.1.length < 1000000) (kk : Ex Y (pc + 3) lv (.ref h.1.length :: st) (xpush h (.inr (t, N'))) mc ms Q) : Ex Y pc lv (.int n :: st) h (mc + 1) (ms + N') Q := by
  intro p l e R s m args below meth c dC dI dA ad A H locs cells slots Qw ls hC hH h1 h2 h3 h4 h5 h6
  obtain ⟨hx, hb, hml, hown, hts, hr, hlk, hnm, hfr, hlo, hG, hX⟩ := id hC
  obtain ⟨hty, ht3⟩ : (xtys dA)[t]? = some (dA t, .object r.1) ∧ ¬ t < 3 := by
    rcases ht with ⟨rfl, rfl⟩ | ⟨rfl, rfl⟩ | ⟨rfl, rfl⟩ <;> (cases hc; exact ⟨rfl, by decide⟩)
  have hover : va_AO r.1 s := by
    rcases ht with ⟨rfl, rfl⟩ | ⟨rfl, rfl⟩ | ⟨rfl, rfl⟩ <;> cases hc
    · exact hG.2.2.2.2.2.2.1
    · exact hG.2.2.2.2.2.2.2.1
    · exact hG.2.2.2.2.2.2.2.2.1
  refine va_newq (C := r.1) hx hb hown (hts _ hl1) hover hG.1 hH.1 hH.2.1 hH.2.2.1 hG.2.1 hn0 hN (by omega) (by omega) (by omega) hd (fun q cA H1 g0 g1 g2 g3 => ?_)
  have hcA : cA = dA t := by
    obtain ⟨_, _, -, -, -, a1⟩ := (g0.2 7 (cA, .object r.1) rfl).2
    obtain ⟨_, _, -, -, -, a2⟩ := (hG.1.2 t _ hty).2
    exact Option.some.inj (a1.symm.trans a2)
  subst hcA
  have he : (.inl (dA t, N', .inr (.inr (.inr (.inr (fun _ => none))))) : va_E) = xE dA (va_up ad h.1.length q) (xpush h (.inr (t, N'))) h.1.length (.inr (t, N')) := by
    rw [xE_r ht3]; simp [xpush]
  rw [he] at g1 g2
  exact xw_newcore hn hC hH.2.2.2 h1 h2 h3 h4 h5 h6 g1 g2 g3 kk
end XR3
