/-! THE ABSTRACT HEAP: places in place of addresses. A shape a place (object of class ci, or array of kind t and length n), whole numbers I, references R. -/
abbrev xSh : Type := Nat ⊕ (Nat × Nat)
abbrev xHp : Type := List xSh × (Nat → Nat → Int32) × (Nat → Nat → Option Nat)
/-- a method: name, bytes, locals, return type, frames and words that it needs below it, the script that it may read -/
abbrev xM : Type := MethodName × ByteArray × Nat × Option FieldType × Nat × Nat × Option (Nat × (Nat → Int32))
def xref (ty : FieldType) : Bool := match ty with
  | .object _ => true
  | .array _ => true
  | _ => false
def xval (ad : Nat → Nat) (v : Value) : Value := match v with
  | .ref k => .ref (ad k)
  | w => w
theorem xval_rf (ad : Nat → Nat) (r : Option Nat) : xval ad (va_rf r) = va_rf (r.map ad) := by cases r <;> rfl
theorem xval_cat (ad : Nat → Nat) (v : Value) : (xval ad v).category = v.category := by cases v <;> rfl
def xN (ci : Nat) : Nat := match xcl[ci]? with
  | some r => r.2.2
  | none => 0
def xfd (ad : Nat → Nat) (h : xHp) (k ci j : Nat) : Value := if xref (xft ci j) = true then va_rf ((h.2.2 k j).map ad) else .int (h.2.1 k j)
def xE (dA : Nat → ClassId) (ad : Nat → Nat) (h : xHp) (k : Nat) (sh : xSh) : va_E := match sh with
  | .inl ci => .inr (ci, (List.range (xN ci)).map (xfd ad h k ci))
  | .inr (t, n) => .inl (dA t, n, if t < 3 then .inl (h.2.1 k) else .inr (.inr (.inr (.inr (fun j => (h.2.2 k j).map ad)))))
def xW (dA : Nat → ClassId) (ad : Nat → Nat) (h : xHp) : va_W := h.1.mapIdx (fun k sh => (ad k, xE dA ad h k sh))
def xtys (dA : Nat → ClassId) : List (ClassId × FieldType) := [(dA 0, .int), (dA 1, .boolean), (dA 2, .byte), (dA 3, .array .int), (dA 4, .object "WeightedWords$Study"), (dA 5, .object "WeightedWords$Shelf"), (dA 6, .object "WeightedWords$Machine")]
theorem xW_at {dA : Nat → ClassId} {ad : Nat → Nat} {h : xHp} {k : Nat} {sh : xSh} (hk : h.1[k]? = some sh) : (xW dA ad h)[k]? = some (ad k, xE dA ad h k sh) := by
  unfold xW
  rw [List.getElem?_mapIdx, hk]
  rfl
theorem xW_len (dA : Nat → ClassId) (ad : Nat → Nat) (h : xHp) : (xW dA ad h).length = h.1.length := by
  unfold xW
  rw [List.length_mapIdx]
/-- places that may stand in a state of n cells: those, and the foreign ones -/
def xok (n k : Nat) : Prop := k < n ∨ 1000000 ≤ k
def xvok (n : Nat) (v : Value) : Prop := ∀ k, v = .ref k → xok n k
def xvs (n : Nat) (vs : List Value) : Prop := ∀ v ∈ vs, xvok n v
def xwf (h : xHp) : Prop := h.1.length ≤ 1000000 ∧ ∀ q j r, q < h.1.length → h.2.2 q j = some r → r < h.1.length
def xag (n : Nat) (ad ad' : Nat → Nat) : Prop := ∀ k, xok n k → ad' k = ad k
theorem xag.rf {n : Nat} {ad : Nat → Nat} : xag n ad ad := fun _ _ => rfl
theorem xok.mono {n n' k : Nat} (h : xok n k) (hn : n ≤ n') : xok n' k := h.elim (fun q => Or.inl (Nat.lt_of_lt_of_le q hn)) Or.inr
theorem xag.tr {n n' : Nat} {a b c : Nat → Nat} (h1 : xag n a b) (h2 : xag n' b c) (hn : n ≤ n') : xag n a c := fun k hk => (h2 k (hk.mono hn)).trans (h1 k hk)
theorem xval_ag {n : Nat} {ad ad' : Nat → Nat} (h : xag n ad ad') {v : Value} (hv : xvok n v) : xval ad' v = xval ad v := by
  cases v with
  | ref k => show Value.ref _ = Value.ref _; rw [h k (hv k rfl)]
  | _ => rfl
theorem xmap_ag {n : Nat} {ad ad' : Nat → Nat} (h : xag n ad ad') {vs : List Value} (hv : xvs n vs) : vs.map (xval ad') = vs.map (xval ad) := List.map_congr_left fun v hm => xval_ag h (hv v hm)
theorem xvs.mono {n n' : Nat} {vs : List Value} (h : xvs n vs) (hn : n ≤ n') : xvs n' vs := fun v hv k hk => (h v hv k hk).mono hn
theorem xvs_cons {n : Nat} {v : Value} {vs : List Value} : xvs n (v :: vs) ↔ xvok n v ∧ xvs n vs := List.forall_mem_cons
theorem xvs_app {n : Nat} {a b : List Value} : xvs n (a ++ b) ↔ xvs n a ∧ xvs n b := List.forall_mem_append
theorem xvok_int {n : Nat} {x : Int32} : xvok n (.int x) := fun _ h => by cases h
theorem xvok_long {n : Nat} {x : Int64} : xvok n (.long x) := fun _ h => by cases h
theorem xvok_float {n : Nat} {x : UInt32} : xvok n (.float x) := fun _ h => by cases h
theorem xvok_double {n : Nat} {x : UInt64} : xvok n (.double x) := fun _ h => by cases h
theorem xvok_null {n : Nat} : xvok n .null := fun _ h => by cases h
theorem xvok_ref {n k : Nat} : xvok n (.ref k) ↔ xok n k := ⟨fun h => h k rfl, fun h _ e => by cases e; exact h⟩
theorem xvok_rf {n : Nat} {r : Option Nat} (h : ∀ k, r = some k → xok n k) : xvok n (va_rf r) := by
  cases r with
  | none => exact xvok_null
  | some k => exact xvok_ref.mpr (h k rfl)
/-! locals by position; .retAddr 0 stands where nothing is known -/
def xls (ad : Nat → Nat) (ls : Array Slot) (nL : Nat) (lv : List Value) : Prop := ls.size = nL ∧ lv_wf ls ∧ ∀ (i : Nat) (v : Value), lv[i]? = some v → v ≠ .retAddr 0 → ls[i]? = some (.val (xval ad v))
def xlist (ad : Nat → Nat) (lv : List Value) : List (Nat × Value) := (List.range lv.length).filterMap (fun i => match lv[i]? with
  | some v => if v = .retAddr 0 then none else some (i, xval ad v)
  | none => none)
theorem xlist_mem {ad : Nat → Nat} {lv : List Value} {i : Nat} {v : Value} (h : lv[i]? = some v) (hv : v ≠ .retAddr 0) : (i, xval ad v) ∈ xlist ad lv := by
  unfold xlist
  refine List.mem_filterMap.mpr ⟨i, List.mem_range.mpr (List.getElem?_eq_some_iff.mp h).1, ?_⟩
  simp [h, hv]
theorem xlist_of {ad : Nat → Nat} {lv : List Value} {q : Nat × Value} (h : q ∈ xlist ad lv) : ∃ v, lv[q.1]? = some v ∧ v ≠ .retAddr 0 ∧ q.2 = xval ad v := by
  unfold xlist at h
  obtain ⟨i, -, hi⟩ := List.mem_filterMap.mp h
  cases hl : lv[i]? with
  | none => simp [hl] at hi
  | some v =>
    by_cases hv : v = .retAddr 0
    · simp [hl, hv] at hi
    · simp only [hl, hv, if_false, Option.some.injEq] at hi
      subst hi
      exact ⟨v, hl, hv, rfl⟩
theorem xls.has {ad : Nat → Nat} {ls : Array Slot} {nL : Nat} {lv : List Value} (h : xls ad ls nL lv) : lv_has ls nL (xlist ad lv) := by
  refine ⟨h.1, h.2.1, fun q hq => ?_⟩
  obtain ⟨v, h1, h2, h3⟩ := xlist_of hq
  rw [h3]
  exact h.2.2 q.1 v h1 h2
theorem xls.get {ad : Nat → Nat} {ls : Array Slot} {nL : Nat} {lv : List Value} (h : xls ad ls nL lv) {i : Nat} {v : Value} (hi : lv[i]? = some v) (hv : v ≠ .retAddr 0) : ls[i]? = some (.val (xval ad v)) := h.2.2 i v hi hv
theorem xls.ag {n : Nat} {ad ad' : Nat → Nat} {ls : Array Slot} {nL : Nat} {lv : List Value} (h : xls ad ls nL lv) (ha : xag n ad ad') (hv : xvs n lv) : xls ad' ls nL lv :=
  ⟨h.1, h.2.1, fun i v hi hne => by rw [xval_ag ha (hv v (List.mem_of_getElem? hi))]; exact h.2.2 i v hi hne⟩
/-- what may stay of the locals when slot i is written: no long or double just ahead of it -/
def xfree1 (lv : List Value) (i : Nat) : Bool := match i with
  | 0 => true
  | j + 1 => match lv[j]? with
    | some (.long _) => false
    | some (.double _) => false
    | _ => true
theorem xset1 {ad : Nat → Nat} {nL i : Nat} {lv : List Value} {v : Value} (hf : xfree1 lv i = true)
    {ls' : Array Slot} (h' : lv_has ls' nL ((i, xval ad v) :: (xlist ad lv).filter (fun q => !(q.1 == i) && !(q.1 + 1 == i && q.2.category == 2)))) : xls ad ls' nL (lv.set i v) := by
  refine ⟨h'.1, h'.2.1, fun j w hj hw => ?_⟩
  by_cases hij : j = i
  · subst hij
    have hlt : j < lv.length := by
      have := (List.getElem?_eq_some_iff.mp hj).1
      simpa using this
    rw [List.getElem?_set_self hlt] at hj
    cases hj
    exact h'.2.2 (j, xval ad v) List.mem_cons_self
  · rw [List.getElem?_set_ne (Ne.symm hij)] at hj
    refine h'.2.2 (j, xval ad w) (List.mem_cons_of_mem _ (List.mem_filter.mpr ⟨xlist_mem hj hw, ?_⟩))
    have hc : ¬ (j + 1 = i ∧ (xval ad w).category = 2) := by
      rintro ⟨q1, q2⟩
      subst q1
      rw [xval_cat] at q2
      unfold xfree1 at hf
      simp only [hj] at hf
      cases w <;> simp_all [Value.category]
    by_cases q : j + 1 = i
    · have := fun z => hc ⟨q, z⟩
      simp [hij]
      exact Or.inr this
    · simp [hij, q]
theorem xset2 {ad : Nat → Nat} {nL i : Nat} {lv : List Value} {v : Value} (hf : xfree1 lv i = true)
    {ls' : Array Slot} (h' : lv_has ls' nL ((i, xval ad v) :: (xlist ad lv).filter (fun q => !(q.1 == i) && (!(q.1 == i + 1) && !(q.1 + 1 == i && q.2.category == 2))))) : xls ad ls' nL ((lv.set i v).set (i + 1) (.retAddr 0)) := by
  refine ⟨h'.1, h'.2.1, fun j w hj hw => ?_⟩
  by_cases hj1 : j = i + 1
  · subst hj1
    have hlt : i + 1 < (lv.set i v).length := by
      have := (List.getElem?_eq_some_iff.mp hj).1
      simpa using this
    rw [List.getElem?_set_self hlt] at hj
    cases hj
    exact absurd rfl hw
  · rw [List.getElem?_set_ne (Ne.symm hj1)] at hj
    by_cases hij : j = i
    · subst hij
      have hlt : j < lv.length := by
        have := (List.getElem?_eq_some_iff.mp hj).1
        simpa using this
      rw [List.getElem?_set_self hlt] at hj
      cases hj
      exact h'.2.2 (j, xval ad v) List.mem_cons_self
    · rw [List.getElem?_set_ne (Ne.symm hij)] at hj
      refine h'.2.2 (j, xval ad w) (List.mem_cons_of_mem _ (List.mem_filter.mpr ⟨xlist_mem hj hw, ?_⟩))
      have hc : ¬ (j + 1 = i ∧ (xval ad w).category = 2) := by
        rintro ⟨q1, q2⟩
        subst q1
        rw [xval_cat] at q2
        unfold xfree1 at hf
        simp only [hj] at hf
        cases w <;> simp_all [Value.category]
      by_cases q : j + 1 = i
      · have := fun z => hc ⟨q, z⟩
        simp [hij, hj1]
        exact Or.inr this
      · simp [hij, hj1, q]
/-- the locals at a method's entry -/
def xargs : List Value → List Value
  | [] => []
  | v :: vs => if v.category = 2 then v :: .retAddr 0 :: xargs vs else v :: xargs vs
theorem xargs_mem (ad : Nat → Nat) : ∀ (vs : List Value) (n i : Nat) (v : Value), (xargs vs)[i]? = some v → v ≠ .retAddr 0 → (n + i, xval ad v) ∈ lv_args n (vs.map (xval ad)) := by
  intro vs
  induction vs with
  | nil => intro n i v h; simp [xargs] at h
  | cons w vs ih =>
    intro n i v h hv
    unfold xargs at h
    simp only [List.map_cons, lv_args, xval_cat]
    by_cases hc : w.category = 2
    · rw [if_pos hc] at h
      rw [if_pos hc]
      match i, h with
      | 0, h => cases h; exact List.mem_cons_self
      | 1, h => cases h; exact absurd rfl hv
      | i + 2, h => exact List.mem_cons_of_mem _ (by have := ih (n + 2) i v h hv; rwa [show n + 2 + i = n + (i + 2) by omega] at this)
    · rw [if_neg hc] at h
      rw [if_neg hc]
      match i, h with
      | 0, h => cases h; exact List.mem_cons_self
      | i + 1, h => exact List.mem_cons_of_mem _ (by have := ih (n + 1) i v h hv; rwa [show n + 1 + i = n + (i + 1) by omega] at this)
theorem xargs_vs {n : Nat} : ∀ {vs : List Value}, xvs n vs → xvs n (xargs vs) := by
  intro vs
  induction vs with
  | nil => exact fun h => h
  | cons w vs ih =>
    intro h
    obtain ⟨h1, h2⟩ := xvs_cons.mp h
    unfold xargs
    split
    · exact xvs_cons.mpr ⟨h1, xvs_cons.mpr ⟨fun _ e => (by cases e), ih h2⟩⟩
    · exact xvs_cons.mpr ⟨h1, ih h2⟩
/-! THE CONTEXT of a frame -/
def xSlen : List Nat := [5, 7, 6, 5, 3, 4]
def xSbyt : List (List Int32) := [[112, 114, 105, 109, 101], [108, 101, 116, 116, 101, 114, 115], [115, 116, 97, 116, 101, 115], [115, 116, 97, 114, 116], [101, 110, 100], [101, 100, 103, 101]]
def xSidx : List Nat := [109, 114, 115, 116, 118, 120]
def xStx : List String := ["prime", "letters", "states", "start", "end", "edge"]
/-- words that don't stay by themselves: arrays of references can be made, a nest mate's constructor -/
theorem xAOA_moved {t : FieldType} {u U : State} (hvm : u.vm.Alike U.vm) (h : (Cond.arrayOver (.array t)).before #[] u = true) : (Cond.arrayOver (.array t)).before #[] U = true := by
  have h0 := h
  simp only [Cond.before, Cond.holds, Cond.value, beq_iff_eq] at h0
  cases hc : u.vm.findClass (FieldType.array t).toString with
  | none => simp [hc] at h0
  | some comp =>
    simp only [hc, Option.bind_some, Option.bind_eq_some_iff, Option.map_eq_some_iff] at h0
    obtain ⟨c, hi, k, hk, hb⟩ := h0
    obtain ⟨k', hk', he⟩ := hvm.2.2 _ _ hk
    have hi' : (U.vm.classes.findIdx? fun (x : Class) => match x.kind with | .array component _ => component == comp | _ => false) = some c := by
      have hb9 : U.vm.bare = u.vm.bare := by first | exact hvm.bare_eq | exact hvm.bare_eq.symm
      refine (va_idx_bare U.vm comp).symm.trans ?_
      rw [hb9]
      exact (va_idx_bare u.vm comp).trans hi
    cases hkind : k.kind with
    | array component ty =>
      rw [hkind] at hb
      simp at hb
      have hkind' : k'.kind = .array component (.array t) := by rw [he]; simp [hkind, hb.1]
      have f1 : U.vm.findClass (FieldType.array t).toString = some comp := by rw [hvm.findClass]; exact hc
      have f2 : U.vm.findClass ("[" ++ (FieldType.array t).toString) = some c := by rw [hvm.findClass]; exact hb.2
      unfold Cond.before Cond.holds
      simp only [Cond.value]
      rw [f1, Option.bind_some]
      refine (congrArg (fun o : Option Nat => (o.bind (fun c => (U.vm.classes[c]?).map fun (k : Class) => match k.kind with | .array _ ty => decide (ty = FieldType.array t) && decide (U.vm.findClass ("[" ++ (FieldType.array t).toString) = some c) | _ => false) == some true)) hi').trans ?_
      simp [hk', hkind', f2]
    | _ => rw [hkind] at hb; simp at hb
def xO (U : State) : Prop := va_AO "WeightedWords$Study" U ∧ va_AO "WeightedWords$Shelf" U ∧ va_AO "WeightedWords$Machine" U ∧ (Cond.arrayOver (.array .int)).before #[] U = true ∧ va_Nw (.methodLinkNest "WeightedWords" 9 ⟨"WeightedWords$Realm", "<init>", "()V"⟩ "WeightedWords") U
theorem xO.warm {s U : State} (hW : s.WarmedH U.vm) (h : xO s) : xO U := ⟨va_AO.moved hW.alike h.1, va_AO.moved hW.alike h.2.1, va_AO.moved hW.alike h.2.2.1, xAOA_moved hW.alike h.2.2.2.1, va_Nw.warmM hW h.2.2.2.2⟩
theorem xO.same {s U : State} (hv : s.vm = U.vm) (h : xO s) : xO U := by
  have hvm : s.vm.Alike U.vm := hv ▸ Vm.Alike.refl s.vm
  exact ⟨va_AO.moved hvm h.1, va_AO.moved hvm h.2.1, va_AO.moved hvm h.2.2.1, xAOA_moved hvm h.2.2.2.1, va_Nw.same rfl hv h.2.2.2.2⟩
/-- what holds of the machine's tables and of the cells that nobody changes, at a state U -/
def xG (dC : Nat → ClassId) (dI : Nat → Nat → Nat) (dA : Nat → ClassId) (ad : Nat → Nat) (A : Nat → Prop) (U : State) : Prop :=
  va_K (dC, dI) xcl (xtys dA) U ∧ (∀ q, U.heap.size ≤ q → A q) ∧ vk_S 6 xSlen xSbyt (fun i => ad (1000001 + i)) (fun i => ad (1000011 + i)) A U U.heap ∧
  (∀ i, i < 6 → vk_R "WeightedWords$Reader" (xSidx.getD i 0) (xStx.getD i "") (ad (1000001 + i)) U) ∧
  va_Z "java/lang/String" "COMPACT_STRINGS" "Z" (.int 1) A U U.heap ∧
  (va_Z "jdk/internal/util/Preconditions" "SIOOBE_FORMATTER" "Ljava/util/function/BiFunction;" .null A U U.heap ∨ va_Z "jdk/internal/util/Preconditions" "SIOOBE_FORMATTER" "Ljava/util/function/BiFunction;" (.ref (ad 1000020)) A U U.heap) ∧ xO U
def xX (scr : Option (Nat × (Nat → Int32))) (ad : Nat → Nat) (A : Nat → Prop) (U : State) : Prop := match scr with
  | none => True
  | some q => va_X (ad 1000000) q.1 q.2 U U.heap ∧ ad 1000000 < U.heap.size ∧ ¬ A (ad 1000000)
theorem xG.ag {dC : Nat → ClassId} {dI : Nat → Nat → Nat} {dA : Nat → ClassId} {ad ad' : Nat → Nat} {A : Nat → Prop} {U : State} {n : Nat} (h : xG dC dI dA ad A U) (ha : xag n ad ad') : xG dC dI dA ad' A U := by
  have e : ∀ k, 1000000 ≤ k → ad' k = ad k := fun k hk => ha k (Or.inr hk)
  have e1 : (fun i => ad' (1000001 + i)) = (fun i => ad (1000001 + i)) := funext fun i => e _ (by omega)
  have e2 : (fun i => ad' (1000011 + i)) = (fun i => ad (1000011 + i)) := funext fun i => e _ (by omega)
  obtain ⟨h1, h2, h3, h4, h5, h6, h7⟩ := h
  refine ⟨h1, h2, by rw [e1, e2]; exact h3, fun i hi => by rw [e _ (by omega)]; exact h4 i hi, h5, by rw [e _ (by omega)]; exact h6, h7⟩
theorem xX.ag {scr : Option (Nat × (Nat → Int32))} {ad ad' : Nat → Nat} {A : Nat → Prop} {U : State} {n : Nat} (h : xX scr ad A U) (ha : xag n ad ad') : xX scr ad' A U := by
  have e : ad' 1000000 = ad 1000000 := ha _ (Or.inr (Nat.le_refl _))
  unfold xX at h ⊢
  cases scr with
  | none => trivial
  | some q => rw [e]; exact h
theorem xG.move {dC : Nat → ClassId} {dI : Nat → Nat → Nat} {dA : Nat → ClassId} {ad : Nat → Nat} {A : Nat → Prop} {s U : State} {H : Heap} {locs : List Loc} (h : xG dC dI dA ad A s) (hS : va_S A s.heap H locs) (hU : U.heap = H) (hW : s.WarmedH U.vm) : xG dC dI dA ad A U := by
  obtain ⟨h1, h2, h3, h4, h5, h6, h7⟩ := h
  have hvm := hW.alike
  subst hU
  refine ⟨va_K.moved hvm h1, fun q hq => h2 q (Nat.le_trans hS.1 hq), vk_S.moved hvm (h3.kept hS.2.1), fun i hi => (h4 i hi).warm hW, va_Z.moved hvm (h5.kept hS.2.1), h6.elim (fun z => Or.inl (va_Z.moved hvm (z.kept hS.2.1))) (fun z => Or.inr (va_Z.moved hvm (z.kept hS.2.1))), h7.warm hW⟩
theorem xG.calling {dC : Nat → ClassId} {dI : Nat → Nat → Nat} {dA : Nat → ClassId} {ad : Nat → Nat} {A : Nat → Prop} {U : State} {g : JFrame} {mk : MethodId} {a : Array Value} (h : xG dC dI dA ad A U) : xG dC dI dA ad A (U.calling g mk a) := by
  obtain ⟨h1, h2, h3, h4, h5, h6, h7⟩ := h
  have hvm : U.vm.Alike (U.calling g mk a).vm := Vm.Alike.refl U.vm
  refine ⟨va_K.moved hvm h1, h2, vk_S.moved hvm h3, fun i hi => vk_R.same (u := U) rfl (h4 i hi), va_Z.moved hvm h5, h6.elim (fun z => Or.inl (va_Z.moved hvm z)) (fun z => Or.inr (va_Z.moved hvm z)), xO.same (s := U) rfl h7⟩
def xC (Y : xM) (p : Program) (R : Room) (s : State) (m : MethodId) (args : Array Value) (meth : Method) (c : Code) (dC : Nat → ClassId) (dI : Nat → Nat → Nat) (dA : Nat → ClassId) (ad : Nat → Nat) (A : Nat → Prop) : Prop :=
  p.tables.exec = Jvm.exec ∧ c.code = Y.2.1 ∧ c.maxLocals = Y.2.2.1 ∧ s.vm.findClass Y.1.cls = some m.cls ∧ (∀ w ∈ xtbl, w.before args s = true) ∧ meth.sig.returnType = Y.2.2.2.1 ∧ meth.locks = false ∧ meth.name = Y.1.name ∧
  Y.2.2.2.2.1 ≤ R.frames ∧ Y.2.2.2.2.2.1 ≤ R.locals ∧ xG dC dI dA ad A s ∧ xX Y.2.2.2.2.2.2 ad A s
/-- the heap holds the abstract one -/
def xH (dC : Nat → ClassId) (dI : Nat → Nat → Nat) (dA : Nat → ClassId) (A : Nat → Prop) (s : State) (ad : Nat → Nat) (h : xHp) (H : Heap) (locs : List Loc) : Prop :=
  va_P (dC, dI) xcl (xW dA ad h) H ∧ va_D A (xW dA ad h) ∧ va_S A s.heap H locs ∧ xwf h
/-- an instruction that returns v -/
def xret (i : Instr) (v : Option Value) (ret : Option FieldType) : Prop :=
  (∃ x ty, i = .ireturn ∧ v = some (.int x) ∧ ret = some ty ∧ narrow ty (.int x) = .int x) ∨ (∃ x, i = .lreturn ∧ v = some (.long x) ∧ ret = some .long) ∨
  (∃ w ty, i = .areturn ∧ v = some w ∧ (w = .null ∨ ∃ a, w = .ref a) ∧ ret = some ty ∧ ((∃ n, ty = .object n) ∨ ∃ t, ty = .array t)) ∨ (i = .return_ ∧ v = none ∧ ret = none)
/-- how the frame goes on where it returns -/
def xR (Y : xM) (p : Program) (l : Launch) (e : Env) (R : Room) (s : State) (m : MethodId) (args : Array Value) (below : List Frame) (meth : Method) (c : Code) (dC : Nat → ClassId) (dI : Nat → Nat → Nat) (dA : Nat → ClassId) (A : Nat → Prop) (Qw : State → Prop) (ad : Nat → Nat) (n0 : Nat) (Q : Option Value → xHp → Prop) : Prop :=
  ∀ (v : Option Value) (h' : xHp) (ad' : Nat → Nat) (H' : Heap) (locs' : List Loc) (cells' slots' pc' : Nat) (ls' : Array Slot) (i : Instr), Q v h' → n0 ≤ h'.1.length → xag n0 ad ad' → xH dC dI dA A s ad' h' H' locs' → xvs h'.1.length v.toList → cells' ≤ R.cells → slots' ≤ R.slots →
    decode Y.2.1 pc' = .ok (i, 1) → xret i v Y.2.2.2.1 → W p l e R s m args below meth c H' locs' cells' slots' Qw (F0 m pc' ls' (v.toList.map (xval ad')))
/-- from here the method comes to its end, with Q of its answer and of the heap; at most mc cells of ms slots are made -/
def Ex (Y : xM) (pc : Nat) (lv st : List Value) (h : xHp) (mc ms : Nat) (Q : Option Value → xHp → Prop) : Prop :=
  ∀ (p : Program) (l : Launch) (e : Env) (R : Room) (s : State) (m : MethodId) (args : Array Value) (below : List Frame) (meth : Method) (c : Code) (dC : Nat → ClassId) (dI : Nat → Nat → Nat) (dA : Nat → ClassId) (ad : Nat → Nat) (A : Nat → Prop) (H : Heap) (locs : List Loc) (cells slots : Nat) (Qw : State → Prop) (ls : Array Slot),
    xC Y p R s m args meth c dC dI dA ad A → xH dC dI dA A s ad h H locs → xvs h.1.length lv → xvs h.1.length st → cells + mc ≤ R.cells → slots + ms ≤ R.slots → xls ad ls Y.2.2.1 lv →
    xR Y p l e R s m args below meth c dC dI dA A Qw ad h.1.length Q → W p l e R s m args below meth c H locs cells slots Qw (F0 m pc ls (st.map (xval ad)))
/-- a call of the method -/
def Cl (Y : xM) (vs : List Value) (h : xHp) (mc ms : Nat) (Q : Option Value → xHp → Prop) : Prop := Ex Y 0 (xargs vs ++ List.replicate (Y.2.2.1 - (xargs vs).length) (.retAddr 0)) [] h mc ms Q
