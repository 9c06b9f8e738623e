/-! ===== BEGIN new T[n][m]: the outer array a place, the inner ones among the pooled ===== -/
/-- f, but v at every address of l -/
def vr_up {α : Type} (f : Nat → α) (l : List Nat) (v : α) : Nat → α := fun a => if a ∈ l then v else f a
theorem vr_up_in {α : Type} {f : Nat → α} {l : List Nat} {v : α} {a : Nat} (h : a ∈ l) : vr_up f l v a = v := if_pos h
theorem vr_up_ne {α : Type} {f : Nat → α} {l : List Nat} {v : α} {a : Nat} (h : a ∉ l) : vr_up f l v a = f a := if_neg h
theorem vr_rows {L l : List Nat} {f : Nat → va_E} {e : va_E} (h : ∀ a, a ∈ l → a ∉ L) : va_pl L f ++ l.map (fun a => (a, e)) = va_pl (L ++ l) (vr_up f l e) := by
  unfold va_pl
  rw [List.map_append]
  congr 1
  · apply List.map_congr_left
    intro a ha
    rw [vr_up_ne (fun q => h a q ha)]
  · apply List.map_congr_left
    intro a ha
    rw [vr_up_in ha]
theorem vr_lay {X rows : va_W} {x : Nat × va_E} {pl : va_W} {D : va_G} {cl : List vw_C} {H : Heap} (hP : va_P D cl (((X ++ pl) ++ [x]) ++ rows) H) : va_P D cl ((X ++ [x]) ++ (pl ++ rows)) H := by
  rw [List.append_assoc (X ++ pl)] at hP
  have h := va_P.swap hP
  rw [← List.append_assoc X] at h
  have h2 := va_P.swap h
  rw [List.append_assoc (X ++ [x])] at h2
  exact h2
theorem vr_layD {X rows : va_W} {x : Nat × va_E} {pl : va_W} {A : Nat → Prop} (hD : va_D A (((X ++ pl) ++ [x]) ++ rows)) : va_D A ((X ++ [x]) ++ (pl ++ rows)) := by
  rw [List.append_assoc (X ++ pl)] at hD
  have h := va_D.swap hD
  rw [← List.append_assoc X] at h
  have h2 := va_D.swap h
  rw [List.append_assoc (X ++ [x])] at h2
  exact h2
theorem vr_outer (c : ClassId) (N h0 : Nat) : ∀ i : Nat, Jvm.Free.Multi.outerC c N h0 i = arrV c N (fun j => va_rf (if j < i then some (h0 + 1 + j) else none))
  | 0 => by
    show ({ cls := c, slots := Array.replicate N .null, vm := .none } : Cell) = _
    rw [arrV_new]
    refine congrArg (arrV c N) (funext fun j => ?_)
    simp [va_rf]
  | i + 1 => by
    show (Jvm.Free.Multi.outerC c N h0 i).setSlot i (.ref (h0 + 1 + i)) = _
    rw [vr_outer c N h0 i, arrV_store]
    refine congrArg (arrV c N) (funext fun j => ?_)
    by_cases e : j = i
    · subst e
      simp [updV, va_rf]
    · by_cases h : j < i
      · simp [updV, e, h, Nat.lt_succ_of_lt h]
      · simp [updV, e, h, show ¬ j < i + 1 by omega]
section VGM
variable {p : Program} {l : Launch} {e : Env} {R : Room} {s : State} {m : MethodId} {args : Array Value} {below : List Frame} {meth : Method} {c : Code} {H : Heap} {locs : List Loc} {cells slots : Nat} {Q : State → Prop}
variable {cc : ByteArray} {pc : Nat} {ls : Array Slot} {rest : List Value} {D : va_G} {cl : List vw_C} {A : Nat → Prop} {a : Nat} {tys : List (ClassId × FieldType)} {ws : va_W} {H0 : Heap}
theorem va_mna {X : va_W} {L : List Nat} {f : Nat → va_E} {cc : ByteArray} (hexec : p.tables.exec = Jvm.exec) (hb : c.code = cc) {own : String} {index : Nat} {ty : FieldType} {cy : ClassId} (hown : s.vm.findClass own = some m.cls) (hclink : (Cond.classLink own index ("[" ++ (FieldType.array ty).toString)).before args s = true) (hover : (Cond.arrayOver (.array ty)).before args s = true) (harr : (Cond.arrayClass ty).before args s = true) (hcy : s.vm.findClass (FieldType.array ty).toString = some cy)
    (hK : va_K D cl tys s) (hP : va_P D cl (X ++ va_pl L f) H) (hD : va_D A (X ++ va_pl L f)) (hS : va_S A H0 H locs) (hA : ∀ q, H0.size ≤ q → A q) {n k : Int32} {N' K' : Nat} {z : vp_A} (hn : ¬ n < 0) (hk : ¬ k < 0) (hN : n.toNatClampNeg = N') (hM : k.toNatClampNeg = K')
    (hb1 : N' * 4 ≤ 536870912) (hb2 : K' * componentBytes ty ≤ 536870912) (hb3 : K' ≤ 536870912) (hdf : fits ty (defaultValue ty) = true) (hdd : (defaultValue ty).isDefault = true) (hcells : cells + (1 + N') ≤ R.cells) (hslots : slots + (N' + N' * K') ≤ R.slots) (hz : ∀ c : ClassId, Jvm.Free.Multi.innerC c K' (defaultValue ty) = vp_cell c z) (hdg : decode cc pc = .ok (.multianewarray index 2, 4))
    (kk : ∀ (q : Nat) (r : Nat → Nat) (cA : ClassId) (H1 : Heap), (∀ i j : Nat, i < N' → j < N' → r i = r j → i = j) → (∀ i : Nat, i < N' → r i ∉ L) → va_K D cl (tys ++ [(cA, .array ty)]) s →
      va_P D cl ((X ++ [(q, .inl (cA, N', .inr (.inr (.inr (.inr (fun i => if i < N' then some (r i) else none))))))]) ++ va_pl (L ++ (List.range N').map r) (vr_up f ((List.range N').map r) (.inl (cy, z)))) H1 → va_D A ((X ++ [(q, .inl (cA, N', .inr (.inr (.inr (.inr (fun i => if i < N' then some (r i) else none))))))]) ++ va_pl (L ++ (List.range N').map r) (vr_up f ((List.range N').map r) (.inl (cy, z)))) → va_S A H0 H1 locs →
      W p l e R s m args below meth c H1 locs (cells + 1 + N') (slots + N' + N' * K') Q (F0 m (pc + 4) ls (.ref q :: rest))) : W p l e R s m args below meth c H locs cells slots Q (F0 m pc ls (.int k :: .int n :: rest)) := by
  subst hN
  subst hM
  intro T hT Xs
  obtain ⟨vm₁, cA, comp, -, fA, fC, hO, -, X', step⟩ := Xs.multianewarray2F hexec hown hclink hover harr (g := F0 m pc ls (.int k :: .int n :: rest)) rfl (by rw [hb]; exact hdg) rfl hn hk hb1 hb2 hb3 hdf hdd hcells hslots
  have ec : some cy = some comp := hcy.symm.trans fC
  cases ec
  generalize hF : Jvm.Free.Multi.fill (T.setVm vm₁) cA cy n.toNatClampNeg k.toNatClampNeg (defaultValue ty) n.toNatClampNeg = F at X' step
  have hTh : (T.setVm vm₁).heap = H := hT
  obtain ⟨f1, f2, -, -⟩ := Jvm.Free.Multi.fill_facts (T.setVm vm₁) cA cy n.toNatClampNeg k.toNatClampNeg (defaultValue ty) n.toNatClampNeg
  rw [hF, hTh] at f1 f2
  have hold : ∀ x : Nat, x < H.size → F.heap[x]? = H[x]? := fun x hx => by
    have := Jvm.Free.Multi.fill_old (T.setVm vm₁) cA cy n.toNatClampNeg k.toNatClampNeg (defaultValue ty) (a := x) (by rw [hTh]; exact hx) n.toNatClampNeg
    rw [hF, hTh] at this
    exact this
  have hrow : ∀ j : Nat, j < n.toNatClampNeg → F.heap[H.size + 1 + j]? = some (vp_cell cy z) := fun j hj => by
    have := Jvm.Free.Multi.fill_inner (T.setVm vm₁) cA cy n.toNatClampNeg k.toNatClampNeg (defaultValue ty) n.toNatClampNeg j hj
    rw [hF, hTh, hz] at this
    exact this
  have hout : Jvm.Free.Multi.outerC cA n.toNatClampNeg H.size n.toNatClampNeg = vp_cell cA (n.toNatClampNeg, .inr (.inr (.inr (.inr (fun i => if i < n.toNatClampNeg then some (H.size + 1 + i) else none))))) := by
    rw [vp_cell_q]
    exact vr_outer cA n.toNatClampNeg H.size n.toNatClampNeg
  rw [hout] at f2
  have hlt : ∀ a, a ∈ L → a < H.size := fun a ha => by
    obtain ⟨k9, hk9⟩ := va_pl_get (X := X) (f := f) ha
    exact (hP k9 _ hk9).lt
  have hnl : ∀ i : Nat, i < n.toNatClampNeg → H.size + 1 + i ∉ L := fun i _ h => by
    have := hlt _ h
    omega
  have hnm : ∀ a, a ∈ (List.range n.toNatClampNeg).map (fun i => H.size + 1 + i) → a ∉ L := fun a ha h => by
    obtain ⟨i, -, rfl⟩ := List.mem_map.mp ha
    have := hlt _ h
    omega
  have hP0 : va_P D cl (X ++ va_pl L f) F.heap := hP.kept (fun k9 x hx => hold x.1 ((hP k9 x hx).lt))
  have hP1 : va_P D cl ((X ++ va_pl L f) ++ [(H.size, .inl (cA, n.toNatClampNeg, .inr (.inr (.inr (.inr (fun i => if i < n.toNatClampNeg then some (H.size + 1 + i) else none))))))]) F.heap := hP0.app (fun k9 x hx => by
    have h0 : k9 < 1 := (List.getElem?_eq_some_iff.mp hx).1
    rw [show k9 = 0 by omega] at hx
    cases hx
    exact f2)
  have hP2 : va_P D cl (((X ++ va_pl L f) ++ [(H.size, .inl (cA, n.toNatClampNeg, .inr (.inr (.inr (.inr (fun i => if i < n.toNatClampNeg then some (H.size + 1 + i) else none))))))]) ++ ((List.range n.toNatClampNeg).map (fun i => H.size + 1 + i)).map (fun a => (a, .inl (cy, z)))) F.heap := hP1.app (fun k9 x hx => by
    obtain ⟨a, ha, rfl⟩ := List.mem_map.mp (List.mem_of_getElem? hx)
    obtain ⟨i, hi, rfl⟩ := List.mem_map.mp ha
    exact hrow i (List.mem_range.mp hi))
  have hD2 : va_D A (((X ++ va_pl L f) ++ [(H.size, .inl (cA, n.toNatClampNeg, .inr (.inr (.inr (.inr (fun i => if i < n.toNatClampNeg then some (H.size + 1 + i) else none))))))]) ++ ((List.range n.toNatClampNeg).map (fun i => H.size + 1 + i)).map (fun a => (a, .inl (cy, z)))) := by
    have hD1 := hD.push (e := .inl (cA, n.toNatClampNeg, .inr (.inr (.inr (.inr (fun i => if i < n.toNatClampNeg then some (H.size + 1 + i) else none)))))) hP rfl (hA _ hS.1)
    generalize hW1 : (X ++ va_pl L f) ++ [(H.size, .inl (cA, n.toNatClampNeg, .inr (.inr (.inr (.inr (fun i => if i < n.toNatClampNeg then some (H.size + 1 + i) else none))))))] = W1 at hD1 hP1 ⊢
    have hle : ∀ (k9 : Nat) (x : Nat × va_E), W1[k9]? = some x → x.1 ≤ H.size := fun k9 x hx => by
      rw [← hW1] at hx
      by_cases hl : k9 < (X ++ va_pl L f).length
      · rw [List.getElem?_append_left hl] at hx
        exact Nat.le_of_lt ((hP k9 x hx).lt)
      · rw [List.getElem?_append_right (by omega)] at hx
        have h0 : k9 - (X ++ va_pl L f).length < 1 := (List.getElem?_eq_some_iff.mp hx).1
        rw [show k9 - (X ++ va_pl L f).length = 0 by omega] at hx
        cases hx
        exact Nat.le_refl _
    have hr : ∀ (k9 : Nat) (x : Nat × va_E), (((List.range n.toNatClampNeg).map (fun i => H.size + 1 + i)).map (fun a => ((a, .inl (cy, z)) : Nat × va_E)))[k9]? = some x → x.1 = H.size + 1 + k9 := fun k9 x hx => by
      rw [List.getElem?_map, List.getElem?_map] at hx
      by_cases h9 : k9 < n.toNatClampNeg
      · rw [List.getElem?_range h9] at hx
        cases hx
        rfl
      · have hn0 : (List.range n.toNatClampNeg)[k9]? = none := List.getElem?_eq_none (by rw [List.length_range]; omega)
        rw [hn0] at hx
        cases hx
    refine ⟨fun i j x y hi hj hxy => ?_, fun k9 x hx => ?_⟩
    · by_cases h1 : i < W1.length <;> by_cases h2 : j < W1.length
      · rw [List.getElem?_append_left h1] at hi
        rw [List.getElem?_append_left h2] at hj
        exact hD1.1 i j x y hi hj hxy
      · rw [List.getElem?_append_left h1] at hi
        rw [List.getElem?_append_right (by omega)] at hj
        have := hle _ _ hi
        have := hr _ _ hj
        omega
      · rw [List.getElem?_append_right (by omega)] at hi
        rw [List.getElem?_append_left h2] at hj
        have := hle _ _ hj
        have := hr _ _ hi
        omega
      · rw [List.getElem?_append_right (by omega)] at hi hj
        have := hr _ _ hi
        have := hr _ _ hj
        omega
    · by_cases h1 : k9 < W1.length
      · rw [List.getElem?_append_left h1] at hx
        exact hD1.2 k9 x hx
      · rw [List.getElem?_append_right (by omega)] at hx
        have := hr _ _ hx
        exact hA _ (by have := hS.1; omega)
  have hAr : ArrOfT s cA (.array ty) := fun N9 z9 => by
    obtain ⟨-, k9, hk9, cm9, hkk9⟩ := (hO 0 0 0).1
    exact ⟨(fun q hq => by cases hq), k9, hk9, cm9, hkk9⟩
  have hK2 : va_K D cl (tys ++ [(cA, .array ty)]) s := ⟨hK.1, fun k9 x hx => by
    by_cases hl : k9 < tys.length
    · rw [List.getElem?_append_left hl] at hx
      exact hK.2 k9 x hx
    · rw [List.getElem?_append_right (by omega)] at hx
      have h0 : k9 - tys.length < 1 := (List.getElem?_eq_some_iff.mp hx).1
      rw [show k9 - tys.length = 0 by omega] at hx
      cases hx
      exact ⟨hAr, fA⟩⟩
  obtain ⟨t, a1, b1⟩ := kk H.size (fun i => H.size + 1 + i) cA F.heap (fun i j _ _ h => by have h9 : H.size + 1 + i = H.size + 1 + j := h; omega) hnl hK2 (by rw [← vr_rows hnm]; exact vr_lay hP2) (by rw [← vr_rows hnm]; exact vr_layD hD2) ⟨by rw [f1]; have := hS.1; omega, fun x h1 h2 => (hold x (Nat.lt_of_lt_of_le h1 hS.1)).trans (hS.2.1 x h1 h2), hS.2.2⟩ F rfl X'
  refine ⟨t, step t ?_, b1⟩
  have e : T.heap.size = H.size := by rw [hT]
  rw [e]
  exact a1
end VGM
/-- an array of N arrays of K whole numbers, new -/
def xmulti (h : xHp) (N K : Nat) : xHp := (h.1 ++ .inr (3, N) :: List.replicate N (.inr (0, K)), fun a => if h.1.length ≤ a then (fun _ => 0) else h.2.1 a,
  fun a => if a = h.1.length then (fun j => if j < N then some (h.1.length + 1 + j) else none) else if h.1.length ≤ a then (fun _ => none) else h.2.2 a)
theorem xmulti_len {h : xHp} {N K : Nat} : (xmulti h N K).1.length = h.1.length + 1 + N := by simp [xmulti]; omega
theorem xmulti_wf {h : xHp} {N K : Nat} (hw : xwf h) (hn : h.1.length + 1 + N ≤ 1000000) : xwf (xmulti h N K) := by
  refine ⟨by rw [xmulti_len]; exact hn, fun q j r hq hr => ?_⟩
  rw [xmulti_len] at hq ⊢
  by_cases e : q = h.1.length
  · subst e
    simp only [xmulti, if_true] at hr
    split at hr
    · cases hr; omega
    · cases hr
  · simp only [xmulti, e, if_false] at hr
    split at hr
    · cases hr
    · have := hw.2 q j r (by omega) hr
      omega
section XR4
variable {Y : xM} {pc : Nat} {lv st : List Value} {h : xHp} {mc ms : Nat} {Q : Option Value → xHp → Prop}
theorem xw_multi {idx N' K' : Nat} {n k : Int32} (hd : decode Y.2.1 pc = .ok (.multianewarray idx 2, 4)) (hl1 : Cond.classLink Y.1.cls idx "[[I" ∈ xtbl) (hl3 : Cond.arrayClass .int ∈ xtbl) (hn0 : ¬ n < 0) (hk0 : ¬ k < 0) (hN : n.toNatClampNeg = N') (hK : k.toNatClampNeg = K') (hsz : N' ≤ 100000 ∧ K' ≤ 100000) (hn : h.1.length + 1 + N' < 1000000)
    (kk : Ex Y (pc + 4) lv (.ref h.1.length :: st) (xmulti h N' K') mc ms Q) : Ex Y pc lv (.int k :: .int n :: st) h (mc + (1 + N')) (ms + (N' + N' * K')) Q := by
  intro p l e R s m args below meth c dC dI dA ad A H locs cells slots Qw ls hC hH h1 h2 h3 h4 h5 h6
  obtain ⟨hx, hb, hml, hown, hts, hr, hlk, hnm, hfr, hlo, hG, hX⟩ := id hC
  have hcy : s.vm.findClass (FieldType.array .int).toString = some (dA 0) := (hG.1.2 0 (dA 0, .int) rfl).2
  have hP0 : va_P (dC, dI) xcl (xW dA ad h ++ va_pl [] (fun _ => .inr (0, []))) H := by simpa [va_pl] using hH.1
  have hD0 : va_D A (xW dA ad h ++ va_pl [] (fun _ => .inr (0, []))) := by simpa [va_pl] using hH.2.1
  refine va_mna (X := xW dA ad h) (L := []) (f := fun _ => .inr (0, [])) (z := (K', .inl (fun _ => 0))) (ty := .int) hx hb hown (hts _ hl1) hG.2.2.2.2.2.2.2.2.2.1 (hts _ hl3) hcy hG.1 hP0 hD0 hH.2.2.1 hG.2.1 hn0 hk0 hN hK (by omega) (by simp [componentBytes]; omega) (by omega) rfl rfl (by omega) (by omega) (fun c => by show _ = arrV c K' (fun _ => .int 0); rw [← arrV_new]; rfl) hd (fun q r cA H1 g4 g5 g0 g1 g2 g3 => ?_)
  have hcA : cA = dA 3 := by
    have a1 : s.vm.findClass ("[" ++ (FieldType.array .int).toString) = some cA := (g0.2 7 (cA, .array .int) rfl).2
    have a2 : s.vm.findClass ("[" ++ (FieldType.array .int).toString) = some (dA 3) := (hG.1.2 3 (dA 3, .array .int) rfl).2
    exact Option.some.inj (a1.symm.trans a2)
  subst hcA
  generalize had : (fun a => if a = h.1.length then q else if h.1.length < a ∧ a ≤ h.1.length + N' then r (a - h.1.length - 1) else ad a) = ad2
  have hA : xag h.1.length ad ad2 := by
    intro a ha
    rw [← had]
    rcases ha with ha | ha
    · simp [show ¬ a = h.1.length by omega, show ¬ h.1.length < a by omega]
    · simp [show ¬ a = h.1.length by omega, show ¬ a ≤ h.1.length + N' by omega]
  have hq1 : ad2 h.1.length = q := by rw [← had]; simp
  have hr1 : ∀ j, j < N' → ad2 (h.1.length + 1 + j) = r j := by
    intro j hj
    rw [← had]
    simp only [show ¬ h.1.length + 1 + j = h.1.length by omega, if_false]
    rw [if_pos (by omega)]
    congr 1
    omega
  have hw : ((xW dA ad h ++ [(q, .inl (dA 3, N', .inr (.inr (.inr (.inr (fun i => if i < N' then some (r i) else none))))))]) ++ va_pl ([] ++ (List.range N').map r) (vr_up (fun _ => .inr (0, [])) ((List.range N').map r) (.inl (dA 0, (K', .inl (fun _ => 0)))))) = xW dA ad2 (xmulti h N' K') := by
    apply List.ext_getElem?
    intro a
    by_cases c1 : a < h.1.length
    · obtain ⟨s2, hs2⟩ : ∃ s2, h.1[a]? = some s2 := ⟨_, List.getElem?_eq_getElem c1⟩
      have hs3 : (xmulti h N' K').1[a]? = some s2 := by
        show (h.1 ++ _)[a]? = _
        rw [List.getElem?_append_left c1]; exact hs2
      rw [List.getElem?_append_left (by simp [xW_len]; omega), List.getElem?_append_left (by rw [xW_len]; exact c1), xW_at hs2, xW_at hs3, hA a (Or.inl c1)]
      rw [xE_congr (ad := ad) (ad' := ad2) (h := h) (h' := xmulti h N' K') s2 (by simp [xmulti, show ¬ h.1.length ≤ a by omega]) (fun j => ?_)]
      have he : (xmulti h N' K').2.2 a j = h.2.2 a j := by simp [xmulti, show ¬ a = h.1.length by omega, show ¬ h.1.length ≤ a by omega]
      rw [he]
      cases hr9 : h.2.2 a j with
      | none => rfl
      | some r9 => show some _ = some _; rw [hA r9 (Or.inl (hH.2.2.2.2 a j r9 c1 hr9))]
    · by_cases c2 : a = h.1.length
      · subst c2
        have hs3 : (xmulti h N' K').1[h.1.length]? = some (.inr (3, N')) := by
          show (h.1 ++ _)[_]? = _
          simp
        rw [xW_at hs3, List.getElem?_append_left (by simp [xW_len]), List.getElem?_append_right (by rw [xW_len]; exact Nat.le_refl _), xW_len, Nat.sub_self, hq1, xE_r (by decide)]
        have hf : (fun j => ((xmulti h N' K').2.2 h.1.length j).map ad2) = (fun i => if i < N' then some (r i) else none) := by
          funext j
          by_cases hj : j < N'
          · simp [xmulti, hj, hr1 j hj]
          · simp [xmulti, hj]
        rw [hf]
        rfl
      · by_cases c3 : a < h.1.length + 1 + N'
        · obtain ⟨j, rfl⟩ : ∃ j, a = h.1.length + 1 + j := ⟨a - h.1.length - 1, by omega⟩
          have hj : j < N' := by omega
          have hs3 : (xmulti h N' K').1[h.1.length + 1 + j]? = some (.inr (0, K')) := by
            show (h.1 ++ _)[_]? = _
            rw [List.getElem?_append_right (by omega), show h.1.length + 1 + j - h.1.length = j + 1 by omega]
            simp [hj]
          rw [xW_at hs3, List.getElem?_append_right (by simp [xW_len])]
          rw [hr1 j hj, xE_i (by decide)]
          have e9 : h.1.length + 1 + j - (xW dA ad h ++ [(q, (.inl (dA 3, N', .inr (.inr (.inr (.inr (fun i => if i < N' then some (r i) else none))))) : va_E))]).length = j := by simp [xW_len]
          rw [e9]
          unfold va_pl
          rw [List.nil_append, List.getElem?_map, List.getElem?_map, List.getElem?_range hj]
          show some (r j, vr_up _ _ _ (r j)) = _
          rw [vr_up_in (List.mem_map.mpr ⟨j, List.mem_range.mpr hj, rfl⟩)]
          simp [xmulti, show h.1.length ≤ h.1.length + 1 + j by omega]
        · rw [List.getElem?_eq_none (by simp [xW_len, va_pl]; omega), List.getElem?_eq_none (by rw [xW_len, xmulti_len]; omega)]
  rw [hw] at g1 g2
  have h2' := (xvs_cons.mp (xvs_cons.mp h2).2).2
  have hk := kk p l e R s m args below meth c dC dI dA ad2 A H1 locs (cells + 1 + N') (slots + N' + N' * K') Qw ls (hC.ag hA) ⟨g1, g2, g3, xmulti_wf hH.2.2.2 (by omega)⟩ (h1.mono (by rw [xmulti_len]; omega)) (xvs_cons.mpr ⟨xvok_ref.mpr (Or.inl (by rw [xmulti_len]; omega)), h2'.mono (by rw [xmulti_len]; omega)⟩) (by omega) (by omega) (h5.ag hA h1) (h6.grow (by rw [xmulti_len]; omega) hA)
  rw [List.map_cons, xmap_ag hA h2'] at hk
  have e1 : xval ad2 (.ref h.1.length) = .ref q := by show Value.ref (ad2 _) = _; rw [hq1]
  rw [e1] at hk
  exact hk
end XR4
