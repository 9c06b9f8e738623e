section XR1
variable {Y : xM} {pc : Nat} {lv st : List Value} {h : xHp} {mc ms : Nat} {Q : Option Value → xHp → Prop}
/-- an instruction that changes the operand stack alone -/
theorem xw_pure {pc' : Nat} {st' : List Value}
    (hw : ∀ (p : Program) (l : Launch) (e : Env) (R : Room) (s : State) (m : MethodId) (args : Array Value) (below : List Frame) (meth : Method) (c : Code) (H : Heap) (locs : List Loc) (cells slots : Nat) (Qw : State → Prop) (ad : Nat → Nat) (ls : Array Slot), p.tables.exec = Jvm.exec → c.code = Y.2.1 → xls ad ls Y.2.2.1 lv →
      W p l e R s m args below meth c H locs cells slots Qw (F0 m pc' ls (st'.map (xval ad))) → W p l e R s m args below meth c H locs cells slots Qw (F0 m pc ls (st.map (xval ad))))
    (hk : ∀ n, xvs n lv → xvs n st → xvs n st') (k : Ex Y pc' lv st' h mc ms Q) : Ex Y pc lv st h mc ms Q := by
  intro p l e R s m args below meth c dC dI dA ad A H locs cells slots Qw ls hC hH h1 h2 h3 h4 h5 h6
  exact hw p l e R s m args below meth c H locs cells slots Qw ad ls hC.1 hC.2.1 h5 (k p l e R s m args below meth c dC dI dA ad A H locs cells slots Qw ls hC hH h1 (hk _ h1 h2) h3 h4 h5 h6)
/-- fewer locals known -/
def xsub : List Value → List Value → Prop
  | _, [] => True
  | [], _ => False
  | v :: l, w :: l' => (w = .retAddr 0 ∨ w = v) ∧ xsub l l'
theorem xsub_at : ∀ {l l' : List Value}, xsub l l' → ∀ (i : Nat) (w : Value), l'[i]? = some w → w ≠ .retAddr 0 → l[i]? = some w := by
  intro l
  induction l with
  | nil =>
    intro l' h i w hi
    cases l' with
    | nil => simp at hi
    | cons a b => exact absurd h (by simp [xsub])
  | cons v l ih =>
    intro l' h i w hi hw
    cases l' with
    | nil => simp at hi
    | cons a b =>
      match i, hi with
      | 0, hi => cases hi; rcases h.1 with q | q
                 · exact absurd q hw
                 · rw [q]; rfl
      | i + 1, hi => exact ih h.2 i w hi hw
theorem xw_sub {lv' : List Value} (hs : xsub lv lv') (k : Ex Y pc lv' st h mc ms Q) : Ex Y pc lv st h mc ms Q := by
  intro p l e R s m args below meth c dC dI dA ad A H locs cells slots Qw ls hC hH h1 h2 h3 h4 h5 h6
  refine k p l e R s m args below meth c dC dI dA ad A H locs cells slots Qw ls hC hH (fun v hv => ?_) h2 h3 h4 ⟨h5.1, h5.2.1, fun i v hi hv => h5.2.2 i v (xsub_at hs i v hi hv) hv⟩ h6
  by_cases q : v = .retAddr 0
  · subst q; exact fun _ e => by cases e
  · obtain ⟨i, hi⟩ := List.getElem?_of_mem hv
    exact h1 v (List.mem_of_getElem? (xsub_at hs i v hi q))
theorem Ex.mono {Q' : Option Value → xHp → Prop} (hq : ∀ v h', Q v h' → Q' v h') (k : Ex Y pc lv st h mc ms Q) : Ex Y pc lv st h mc ms Q' := by
  intro p l e R s m args below meth c dC dI dA ad A H locs cells slots Qw ls hC hH h1 h2 h3 h4 h5 h6
  exact k p l e R s m args below meth c dC dI dA ad A H locs cells slots Qw ls hC hH h1 h2 h3 h4 h5 (fun v h' ad' H' locs' cells' slots' pc' ls' i hq1 => h6 v h' ad' H' locs' cells' slots' pc' ls' i (hq v h' hq1))
theorem Ex.more {mc' ms' : Nat} (h1 : mc' ≤ mc) (h2 : ms' ≤ ms) (k : Ex Y pc lv st h mc' ms' Q) : Ex Y pc lv st h mc ms Q := by
  intro p l e R s m args below meth c dC dI dA ad A H locs cells slots Qw ls hC hH a1 a2 a3 a4 a5 a6
  exact k p l e R s m args below meth c dC dI dA ad A H locs cells slots Qw ls hC hH a1 a2 (by omega) (by omega) a5 a6
theorem Cl.mono {vs : List Value} {Q' : Option Value → xHp → Prop} (k : Cl Y vs h mc ms Q) (hq : ∀ v h', Q v h' → Q' v h') : Cl Y vs h mc ms Q' := Ex.mono hq k
theorem Ex.at {pc2 : Nat} {lv2 st2 : List Value} (k : Ex Y pc2 lv2 st2 h mc ms Q) (e1 : pc = pc2) (e2 : lv = lv2) (e3 : st = st2) : Ex Y pc lv st h mc ms Q := by subst e1; subst e2; subst e3; exact k
/-- a return -/
theorem xw_ret {i : Instr} {v : Option Value} (hst : st = v.toList) (hd : decode Y.2.1 pc = .ok (i, 1)) (hr : xret i v Y.2.2.2.1) (k : Q v h) : Ex Y pc lv st h mc ms Q := by
  subst hst
  intro p l e R s m args below meth c dC dI dA ad A H locs cells slots Qw ls hC hH h1 h2 h3 h4 h5 h6
  exact h6 v h ad H locs cells slots pc ls i k (Nat.le_refl _) xag.rf hH h2 (by omega) (by omega) hd hr
theorem xw_iret {x : Int32} (hd : decode Y.2.1 pc = .ok (.ireturn, 1)) (hr : Y.2.2.2.1 = some .int) (k : Q (some (.int x)) h) : Ex Y pc lv [.int x] h mc ms Q := xw_ret rfl hd (Or.inl ⟨x, .int, rfl, rfl, hr, rfl⟩) k
theorem xw_zret {x : Int32} {ty : FieldType} (hd : decode Y.2.1 pc = .ok (.ireturn, 1)) (hr : Y.2.2.2.1 = some ty) (hn : narrow ty (.int x) = .int x) (k : Q (some (.int x)) h) : Ex Y pc lv [.int x] h mc ms Q := xw_ret rfl hd (Or.inl ⟨x, ty, rfl, rfl, hr, hn⟩) k
theorem xw_lret {x : Int64} (hd : decode Y.2.1 pc = .ok (.lreturn, 1)) (hr : Y.2.2.2.1 = some .long) (k : Q (some (.long x)) h) : Ex Y pc lv [.long x] h mc ms Q := xw_ret rfl hd (Or.inr (Or.inl ⟨x, rfl, rfl, hr⟩)) k
theorem xw_aret {r : Option Nat} {n : String} (hd : decode Y.2.1 pc = .ok (.areturn, 1)) (hr : Y.2.2.2.1 = some (.object n)) (k : Q (some (va_rf r)) h) : Ex Y pc lv [va_rf r] h mc ms Q := xw_ret rfl hd (Or.inr (Or.inr (Or.inl ⟨va_rf r, _, rfl, rfl, by cases r; exact Or.inl rfl; exact Or.inr ⟨_, rfl⟩, hr, Or.inl ⟨n, rfl⟩⟩))) k
theorem xw_aretR {r : Nat} {n : String} (hd : decode Y.2.1 pc = .ok (.areturn, 1)) (hr : Y.2.2.2.1 = some (.object n)) (k : Q (some (.ref r)) h) : Ex Y pc lv [.ref r] h mc ms Q := xw_aret (r := some r) hd hr k
theorem xw_aretN {n : String} (hd : decode Y.2.1 pc = .ok (.areturn, 1)) (hr : Y.2.2.2.1 = some (.object n)) (k : Q (some .null) h) : Ex Y pc lv [.null] h mc ms Q := xw_aret (r := none) hd hr k
theorem xw_vret (hd : decode Y.2.1 pc = .ok (.return_, 1)) (hr : Y.2.2.2.1 = none) (k : Q none h) : Ex Y pc lv [] h mc ms Q := xw_ret (v := none) rfl hd (Or.inr (Or.inr (Or.inr ⟨rfl, rfl, hr⟩))) k
theorem xw_iconst {n : Int} {v : Int32} (hd : decode Y.2.1 pc = .ok (.iconst n, 1)) (hv : Int32.ofInt n = v) (k : Ex Y (pc + 1) lv (.int v :: st) h mc ms Q) : Ex Y pc lv (st) h mc ms Q :=
  xw_pure (st := st) (fun p l e R s m args below meth c H locs cells slots Qw ad ls hx hb hl kk => lv_iconst hx hb hd hv kk) (fun n hl hs => xvs_cons.mpr ⟨xvok_int, hs⟩) k
theorem xw_bipush {n : Int} {v : Int32} (hd : decode Y.2.1 pc = .ok (.bipush n, 2)) (hv : (Int8.ofInt n).toInt32 = v) (k : Ex Y (pc + 2) lv (.int v :: st) h mc ms Q) : Ex Y pc lv (st) h mc ms Q :=
  xw_pure (st := st) (fun p l e R s m args below meth c H locs cells slots Qw ad ls hx hb hl kk => lv_bipush hx hb hd hv kk) (fun n hl hs => xvs_cons.mpr ⟨xvok_int, hs⟩) k
theorem xw_sipush {n : Int} {v : Int32} (hd : decode Y.2.1 pc = .ok (.sipush n, 3)) (hv : (Int16.ofInt n).toInt32 = v) (k : Ex Y (pc + 3) lv (.int v :: st) h mc ms Q) : Ex Y pc lv (st) h mc ms Q :=
  xw_pure (st := st) (fun p l e R s m args below meth c H locs cells slots Qw ad ls hx hb hl kk => lv_sipush hx hb hd hv kk) (fun n hl hs => xvs_cons.mpr ⟨xvok_int, hs⟩) k
theorem xw_lconst {n : Fin 2} {v : Int64} (hd : decode Y.2.1 pc = .ok (.lconst n, 1)) (hv : Int64.ofNat (n : Nat) = v) (k : Ex Y (pc + 1) lv (.long v :: st) h mc ms Q) : Ex Y pc lv (st) h mc ms Q :=
  xw_pure (st := st) (fun p l e R s m args below meth c H locs cells slots Qw ad ls hx hb hl kk => lv_lconst hx hb hd hv kk) (fun n hl hs => xvs_cons.mpr ⟨xvok_long, hs⟩) k
theorem xw_null  (hd : decode Y.2.1 pc = .ok (.aconst_null, 1)) (k : Ex Y (pc + 1) lv (.null :: st) h mc ms Q) : Ex Y pc lv (st) h mc ms Q :=
  xw_pure (st := st) (fun p l e R s m args below meth c H locs cells slots Qw ad ls hx hb hl kk => lv_null hx hb hd kk) (fun n hl hs => xvs_cons.mpr ⟨xvok_null, hs⟩) k
theorem xw_iload_n {k9 : Fin 4} {i : Nat} {x : Int32} (hd : decode Y.2.1 pc = .ok (.iload_n k9, 1)) (hi : (k9 : Nat) = i) (hv : lv[i]? = some (.int x)) (k : Ex Y (pc + 1) lv (.int x :: st) h mc ms Q) : Ex Y pc lv (st) h mc ms Q :=
  xw_pure (st := st) (fun p l e R s m args below meth c H locs cells slots Qw ad ls hx hb hl kk => lv_iload_n hx hb hd hi (hl.get hv (by simp)) kk) (fun n hl hs => xvs_cons.mpr ⟨xvok_int, hs⟩) k
theorem xw_iload {i : Nat} {x : Int32} (hd : decode Y.2.1 pc = .ok (.iload i, 2)) (hv : lv[i]? = some (.int x)) (k : Ex Y (pc + 2) lv (.int x :: st) h mc ms Q) : Ex Y pc lv (st) h mc ms Q :=
  xw_pure (st := st) (fun p l e R s m args below meth c H locs cells slots Qw ad ls hx hb hl kk => lv_iload hx hb hd (hl.get hv (by simp)) kk) (fun n hl hs => xvs_cons.mpr ⟨xvok_int, hs⟩) k
theorem xw_lload_n {k9 : Fin 4} {i : Nat} {x : Int64} (hd : decode Y.2.1 pc = .ok (.lload_n k9, 1)) (hi : (k9 : Nat) = i) (hv : lv[i]? = some (.long x)) (k : Ex Y (pc + 1) lv (.long x :: st) h mc ms Q) : Ex Y pc lv (st) h mc ms Q :=
  xw_pure (st := st) (fun p l e R s m args below meth c H locs cells slots Qw ad ls hx hb hl kk => lv_lload_n hx hb hd hi (hl.get hv (by simp)) kk) (fun n hl hs => xvs_cons.mpr ⟨xvok_long, hs⟩) k
theorem xw_lload {i : Nat} {x : Int64} (hd : decode Y.2.1 pc = .ok (.lload i, 2)) (hv : lv[i]? = some (.long x)) (k : Ex Y (pc + 2) lv (.long x :: st) h mc ms Q) : Ex Y pc lv (st) h mc ms Q :=
  xw_pure (st := st) (fun p l e R s m args below meth c H locs cells slots Qw ad ls hx hb hl kk => lv_lload hx hb hd (hl.get hv (by simp)) kk) (fun n hl hs => xvs_cons.mpr ⟨xvok_long, hs⟩) k
theorem xw_fload_n {k9 : Fin 4} {i : Nat} {x : UInt32} (hd : decode Y.2.1 pc = .ok (.fload_n k9, 1)) (hi : (k9 : Nat) = i) (hv : lv[i]? = some (.float x)) (k : Ex Y (pc + 1) lv (.float x :: st) h mc ms Q) : Ex Y pc lv (st) h mc ms Q :=
  xw_pure (st := st) (fun p l e R s m args below meth c H locs cells slots Qw ad ls hx hb hl kk => lv_fload_n hx hb hd hi (hl.get hv (by simp)) kk) (fun n hl hs => xvs_cons.mpr ⟨xvok_float, hs⟩) k
theorem xw_fload {i : Nat} {x : UInt32} (hd : decode Y.2.1 pc = .ok (.fload i, 2)) (hv : lv[i]? = some (.float x)) (k : Ex Y (pc + 2) lv (.float x :: st) h mc ms Q) : Ex Y pc lv (st) h mc ms Q :=
  xw_pure (st := st) (fun p l e R s m args below meth c H locs cells slots Qw ad ls hx hb hl kk => lv_fload hx hb hd (hl.get hv (by simp)) kk) (fun n hl hs => xvs_cons.mpr ⟨xvok_float, hs⟩) k
theorem xw_dload_n {k9 : Fin 4} {i : Nat} {x : UInt64} (hd : decode Y.2.1 pc = .ok (.dload_n k9, 1)) (hi : (k9 : Nat) = i) (hv : lv[i]? = some (.double x)) (k : Ex Y (pc + 1) lv (.double x :: st) h mc ms Q) : Ex Y pc lv (st) h mc ms Q :=
  xw_pure (st := st) (fun p l e R s m args below meth c H locs cells slots Qw ad ls hx hb hl kk => lv_dload_n hx hb hd hi (hl.get hv (by simp)) kk) (fun n hl hs => xvs_cons.mpr ⟨xvok_double, hs⟩) k
theorem xw_dload {i : Nat} {x : UInt64} (hd : decode Y.2.1 pc = .ok (.dload i, 2)) (hv : lv[i]? = some (.double x)) (k : Ex Y (pc + 2) lv (.double x :: st) h mc ms Q) : Ex Y pc lv (st) h mc ms Q :=
  xw_pure (st := st) (fun p l e R s m args below meth c H locs cells slots Qw ad ls hx hb hl kk => lv_dload hx hb hd (hl.get hv (by simp)) kk) (fun n hl hs => xvs_cons.mpr ⟨xvok_double, hs⟩) k
theorem xw_aload_n {k9 : Fin 4} {i x : Nat} (hd : decode Y.2.1 pc = .ok (.aload_n k9, 1)) (hi : (k9 : Nat) = i) (hv : lv[i]? = some (.ref x)) (k : Ex Y (pc + 1) lv (.ref x :: st) h mc ms Q) : Ex Y pc lv (st) h mc ms Q :=
  xw_pure (st := st) (fun p l e R s m args below meth c H locs cells slots Qw ad ls hx hb hl kk => lv_aload_n hx hb hd hi (hl.get hv (by simp)) kk) (fun n hl hs => xvs_cons.mpr ⟨hl _ (List.mem_of_getElem? hv), hs⟩) k
theorem xw_aload {i x : Nat} (hd : decode Y.2.1 pc = .ok (.aload i, 2)) (hv : lv[i]? = some (.ref x)) (k : Ex Y (pc + 2) lv (.ref x :: st) h mc ms Q) : Ex Y pc lv (st) h mc ms Q :=
  xw_pure (st := st) (fun p l e R s m args below meth c H locs cells slots Qw ad ls hx hb hl kk => lv_aload hx hb hd (hl.get hv (by simp)) kk) (fun n hl hs => xvs_cons.mpr ⟨hl _ (List.mem_of_getElem? hv), hs⟩) k
theorem xw_aload_nN {k9 : Fin 4} {i : Nat} (hd : decode Y.2.1 pc = .ok (.aload_n k9, 1)) (hi : (k9 : Nat) = i) (hv : lv[i]? = some .null) (k : Ex Y (pc + 1) lv (.null :: st) h mc ms Q) : Ex Y pc lv (st) h mc ms Q :=
  xw_pure (st := st) (fun p l e R s m args below meth c H locs cells slots Qw ad ls hx hb hl kk => lv_aload_nN hx hb hd hi (hl.get hv (by simp)) kk) (fun n hl hs => xvs_cons.mpr ⟨hl _ (List.mem_of_getElem? hv), hs⟩) k
theorem xw_aloadN {i : Nat} (hd : decode Y.2.1 pc = .ok (.aload i, 2)) (hv : lv[i]? = some .null) (k : Ex Y (pc + 2) lv (.null :: st) h mc ms Q) : Ex Y pc lv (st) h mc ms Q :=
  xw_pure (st := st) (fun p l e R s m args below meth c H locs cells slots Qw ad ls hx hb hl kk => lv_aloadN hx hb hd (hl.get hv (by simp)) kk) (fun n hl hs => xvs_cons.mpr ⟨hl _ (List.mem_of_getElem? hv), hs⟩) k
theorem xw_iadd {x y : Int32} (hd : decode Y.2.1 pc = .ok (.iadd, 1)) (k : Ex Y (pc + 1) lv (.int (x + y) :: st) h mc ms Q) : Ex Y pc lv (.int y :: .int x :: st) h mc ms Q :=
  xw_pure (st := .int y :: .int x :: st) (fun p l e R s m args below meth c H locs cells slots Qw ad ls hx hb hl kk => lv_iadd hx hb hd kk) (fun n hl hs => xvs_cons.mpr ⟨xvok_int, (xvs_cons.mp (xvs_cons.mp hs).2).2⟩) k
theorem xw_isub {x y : Int32} (hd : decode Y.2.1 pc = .ok (.isub, 1)) (k : Ex Y (pc + 1) lv (.int (x - y) :: st) h mc ms Q) : Ex Y pc lv (.int y :: .int x :: st) h mc ms Q :=
  xw_pure (st := .int y :: .int x :: st) (fun p l e R s m args below meth c H locs cells slots Qw ad ls hx hb hl kk => lv_isub hx hb hd kk) (fun n hl hs => xvs_cons.mpr ⟨xvok_int, (xvs_cons.mp (xvs_cons.mp hs).2).2⟩) k
theorem xw_imul {x y : Int32} (hd : decode Y.2.1 pc = .ok (.imul, 1)) (k : Ex Y (pc + 1) lv (.int (x * y) :: st) h mc ms Q) : Ex Y pc lv (.int y :: .int x :: st) h mc ms Q :=
  xw_pure (st := .int y :: .int x :: st) (fun p l e R s m args below meth c H locs cells slots Qw ad ls hx hb hl kk => lv_imul hx hb hd kk) (fun n hl hs => xvs_cons.mpr ⟨xvok_int, (xvs_cons.mp (xvs_cons.mp hs).2).2⟩) k
theorem xw_iand {x y : Int32} (hd : decode Y.2.1 pc = .ok (.iand, 1)) (k : Ex Y (pc + 1) lv (.int (x &&& y) :: st) h mc ms Q) : Ex Y pc lv (.int y :: .int x :: st) h mc ms Q :=
  xw_pure (st := .int y :: .int x :: st) (fun p l e R s m args below meth c H locs cells slots Qw ad ls hx hb hl kk => lv_iand hx hb hd kk) (fun n hl hs => xvs_cons.mpr ⟨xvok_int, (xvs_cons.mp (xvs_cons.mp hs).2).2⟩) k
theorem xw_ior {x y : Int32} (hd : decode Y.2.1 pc = .ok (.ior, 1)) (k : Ex Y (pc + 1) lv (.int (x ||| y) :: st) h mc ms Q) : Ex Y pc lv (.int y :: .int x :: st) h mc ms Q :=
  xw_pure (st := .int y :: .int x :: st) (fun p l e R s m args below meth c H locs cells slots Qw ad ls hx hb hl kk => lv_ior hx hb hd kk) (fun n hl hs => xvs_cons.mpr ⟨xvok_int, (xvs_cons.mp (xvs_cons.mp hs).2).2⟩) k
theorem xw_ishl {x y : Int32} (hd : decode Y.2.1 pc = .ok (.ishl, 1)) (k : Ex Y (pc + 1) lv (.int (x <<< (y &&& 31)) :: st) h mc ms Q) : Ex Y pc lv (.int y :: .int x :: st) h mc ms Q :=
  xw_pure (st := .int y :: .int x :: st) (fun p l e R s m args below meth c H locs cells slots Qw ad ls hx hb hl kk => lv_ishl hx hb hd kk) (fun n hl hs => xvs_cons.mpr ⟨xvok_int, (xvs_cons.mp (xvs_cons.mp hs).2).2⟩) k
theorem xw_ishr {x y : Int32} (hd : decode Y.2.1 pc = .ok (.ishr, 1)) (k : Ex Y (pc + 1) lv (.int (x >>> (y &&& 31)) :: st) h mc ms Q) : Ex Y pc lv (.int y :: .int x :: st) h mc ms Q :=
  xw_pure (st := .int y :: .int x :: st) (fun p l e R s m args below meth c H locs cells slots Qw ad ls hx hb hl kk => lv_ishr hx hb hd kk) (fun n hl hs => xvs_cons.mpr ⟨xvok_int, (xvs_cons.mp (xvs_cons.mp hs).2).2⟩) k
theorem xw_iushr {x y : Int32} (hd : decode Y.2.1 pc = .ok (.iushr, 1)) (k : Ex Y (pc + 1) lv (.int ((x.toUInt32 >>> (y.toUInt32 &&& Int32.toUInt32 31)).toInt32) :: st) h mc ms Q) : Ex Y pc lv (.int y :: .int x :: st) h mc ms Q :=
  xw_pure (st := .int y :: .int x :: st) (fun p l e R s m args below meth c H locs cells slots Qw ad ls hx hb hl kk => lv_iushr hx hb hd rfl kk) (fun n hl hs => xvs_cons.mpr ⟨xvok_int, (xvs_cons.mp (xvs_cons.mp hs).2).2⟩) k
theorem xw_idiv {x y : Int32} (hd : decode Y.2.1 pc = .ok (.idiv, 1)) (hne : ¬ y = 0) (k : Ex Y (pc + 1) lv (.int (x / y) :: st) h mc ms Q) : Ex Y pc lv (.int y :: .int x :: st) h mc ms Q :=
  xw_pure (st := .int y :: .int x :: st) (fun p l e R s m args below meth c H locs cells slots Qw ad ls hx hb hl kk => lv_idiv hx hb hd hne kk) (fun n hl hs => xvs_cons.mpr ⟨xvok_int, (xvs_cons.mp (xvs_cons.mp hs).2).2⟩) k
theorem xw_irem {x y : Int32} (hd : decode Y.2.1 pc = .ok (.irem, 1)) (hne : ¬ y = 0) (k : Ex Y (pc + 1) lv (.int (x - x / y * y) :: st) h mc ms Q) : Ex Y pc lv (.int y :: .int x :: st) h mc ms Q :=
  xw_pure (st := .int y :: .int x :: st) (fun p l e R s m args below meth c H locs cells slots Qw ad ls hx hb hl kk => lv_irem hx hb hd hne kk) (fun n hl hs => xvs_cons.mpr ⟨xvok_int, (xvs_cons.mp (xvs_cons.mp hs).2).2⟩) k
theorem xw_ladd {x y : Int64} (hd : decode Y.2.1 pc = .ok (.ladd, 1)) (k : Ex Y (pc + 1) lv (.long (x + y) :: st) h mc ms Q) : Ex Y pc lv (.long y :: .long x :: st) h mc ms Q :=
  xw_pure (st := .long y :: .long x :: st) (fun p l e R s m args below meth c H locs cells slots Qw ad ls hx hb hl kk => lv_ladd hx hb hd kk) (fun n hl hs => xvs_cons.mpr ⟨xvok_long, (xvs_cons.mp (xvs_cons.mp hs).2).2⟩) k
theorem xw_lsub {x y : Int64} (hd : decode Y.2.1 pc = .ok (.lsub, 1)) (k : Ex Y (pc + 1) lv (.long (x - y) :: st) h mc ms Q) : Ex Y pc lv (.long y :: .long x :: st) h mc ms Q :=
  xw_pure (st := .long y :: .long x :: st) (fun p l e R s m args below meth c H locs cells slots Qw ad ls hx hb hl kk => lv_lsub hx hb hd kk) (fun n hl hs => xvs_cons.mpr ⟨xvok_long, (xvs_cons.mp (xvs_cons.mp hs).2).2⟩) k
theorem xw_lshl {x : Int64} {y : Int32} (hd : decode Y.2.1 pc = .ok (.lshl, 1)) (k : Ex Y (pc + 1) lv (.long (x <<< (y.toInt64 &&& 63)) :: st) h mc ms Q) : Ex Y pc lv (.int y :: .long x :: st) h mc ms Q :=
  xw_pure (st := .int y :: .long x :: st) (fun p l e R s m args below meth c H locs cells slots Qw ad ls hx hb hl kk => lv_lshl hx hb hd rfl kk) (fun n hl hs => xvs_cons.mpr ⟨xvok_long, (xvs_cons.mp (xvs_cons.mp hs).2).2⟩) k
theorem xw_i2l {x : Int32} (hd : decode Y.2.1 pc = .ok (.i2l, 1)) (k : Ex Y (pc + 1) lv (.long x.toInt64 :: st) h mc ms Q) : Ex Y pc lv (.int x :: st) h mc ms Q :=
  xw_pure (st := .int x :: st) (fun p l e R s m args below meth c H locs cells slots Qw ad ls hx hb hl kk => lv_i2l hx hb hd rfl kk) (fun n hl hs => xvs_cons.mpr ⟨xvok_long, (xvs_cons.mp hs).2⟩) k
theorem xw_i2b {x : Int32} (hd : decode Y.2.1 pc = .ok (.i2b, 1)) (k : Ex Y (pc + 1) lv (.int x.toInt8.toInt32 :: st) h mc ms Q) : Ex Y pc lv (.int x :: st) h mc ms Q :=
  xw_pure (st := .int x :: st) (fun p l e R s m args below meth c H locs cells slots Qw ad ls hx hb hl kk => lv_i2b hx hb hd rfl kk) (fun n hl hs => xvs_cons.mpr ⟨xvok_int, (xvs_cons.mp hs).2⟩) k
theorem xw_i2c {x : Int32} (hd : decode Y.2.1 pc = .ok (.i2c, 1)) (k : Ex Y (pc + 1) lv (.int (x.toUInt32 % 65536).toInt32 :: st) h mc ms Q) : Ex Y pc lv (.int x :: st) h mc ms Q :=
  xw_pure (st := .int x :: st) (fun p l e R s m args below meth c H locs cells slots Qw ad ls hx hb hl kk => lv_i2c hx hb hd rfl kk) (fun n hl hs => xvs_cons.mpr ⟨xvok_int, (xvs_cons.mp hs).2⟩) k
theorem xw_i2f {x : Int32} (hd : decode Y.2.1 pc = .ok (.i2f, 1)) (k : Ex Y (pc + 1) lv (.float (FP.i2f x) :: st) h mc ms Q) : Ex Y pc lv (.int x :: st) h mc ms Q :=
  xw_pure (st := .int x :: st) (fun p l e R s m args below meth c H locs cells slots Qw ad ls hx hb hl kk => lv_i2f hx hb hd kk) (fun n hl hs => xvs_cons.mpr ⟨xvok_float, (xvs_cons.mp hs).2⟩) k
theorem xw_i2d {x : Int32} (hd : decode Y.2.1 pc = .ok (.i2d, 1)) (k : Ex Y (pc + 1) lv (.double (FP.i2d x) :: st) h mc ms Q) : Ex Y pc lv (.int x :: st) h mc ms Q :=
  xw_pure (st := .int x :: st) (fun p l e R s m args below meth c H locs cells slots Qw ad ls hx hb hl kk => lv_i2d hx hb hd kk) (fun n hl hs => xvs_cons.mpr ⟨xvok_double, (xvs_cons.mp hs).2⟩) k
theorem xw_f2i {x : UInt32} (hd : decode Y.2.1 pc = .ok (.f2i, 1)) (k : Ex Y (pc + 1) lv (.int (FP.f2i x) :: st) h mc ms Q) : Ex Y pc lv (.float x :: st) h mc ms Q :=
  xw_pure (st := .float x :: st) (fun p l e R s m args below meth c H locs cells slots Qw ad ls hx hb hl kk => lv_f2i hx hb hd kk) (fun n hl hs => xvs_cons.mpr ⟨xvok_int, (xvs_cons.mp hs).2⟩) k
theorem xw_d2l {x : UInt64} (hd : decode Y.2.1 pc = .ok (.d2l, 1)) (k : Ex Y (pc + 1) lv (.long (FP.d2l x) :: st) h mc ms Q) : Ex Y pc lv (.double x :: st) h mc ms Q :=
  xw_pure (st := .double x :: st) (fun p l e R s m args below meth c H locs cells slots Qw ad ls hx hb hl kk => lv_d2l hx hb hd kk) (fun n hl hs => xvs_cons.mpr ⟨xvok_long, (xvs_cons.mp hs).2⟩) k
theorem xw_fmul {x y : UInt32} (hd : decode Y.2.1 pc = .ok (.fmul, 1)) (hne : vf_n32 (FP.fmul x y)) (k : Ex Y (pc + 1) lv (.float (FP.fmul x y) :: st) h mc ms Q) : Ex Y pc lv (.float y :: .float x :: st) h mc ms Q :=
  xw_pure (st := .float y :: .float x :: st) (fun p l e R s m args below meth c H locs cells slots Qw ad ls hx hb hl kk => lv_fmul hx hb hd hne kk) (fun n hl hs => xvs_cons.mpr ⟨xvok_float, (xvs_cons.mp (xvs_cons.mp hs).2).2⟩) k
theorem xw_fdiv {x y : UInt32} (hd : decode Y.2.1 pc = .ok (.fdiv, 1)) (hne : vf_n32 (FP.fdiv x y)) (k : Ex Y (pc + 1) lv (.float (FP.fdiv x y) :: st) h mc ms Q) : Ex Y pc lv (.float y :: .float x :: st) h mc ms Q :=
  xw_pure (st := .float y :: .float x :: st) (fun p l e R s m args below meth c H locs cells slots Qw ad ls hx hb hl kk => lv_fdiv hx hb hd hne kk) (fun n hl hs => xvs_cons.mpr ⟨xvok_float, (xvs_cons.mp (xvs_cons.mp hs).2).2⟩) k
theorem xw_dmul {x y : UInt64} (hd : decode Y.2.1 pc = .ok (.dmul, 1)) (hne : vf_n64 (FP.dmul x y)) (k : Ex Y (pc + 1) lv (.double (FP.dmul x y) :: st) h mc ms Q) : Ex Y pc lv (.double y :: .double x :: st) h mc ms Q :=
  xw_pure (st := .double y :: .double x :: st) (fun p l e R s m args below meth c H locs cells slots Qw ad ls hx hb hl kk => lv_dmul hx hb hd hne kk) (fun n hl hs => xvs_cons.mpr ⟨xvok_double, (xvs_cons.mp (xvs_cons.mp hs).2).2⟩) k
theorem xw_ddiv {x y : UInt64} (hd : decode Y.2.1 pc = .ok (.ddiv, 1)) (hne : vf_n64 (FP.ddiv x y)) (k : Ex Y (pc + 1) lv (.double (FP.ddiv x y) :: st) h mc ms Q) : Ex Y pc lv (.double y :: .double x :: st) h mc ms Q :=
  xw_pure (st := .double y :: .double x :: st) (fun p l e R s m args below meth c H locs cells slots Qw ad ls hx hb hl kk => lv_ddiv hx hb hd hne kk) (fun n hl hs => xvs_cons.mpr ⟨xvok_double, (xvs_cons.mp (xvs_cons.mp hs).2).2⟩) k
theorem xw_fcmp {x y : UInt32} {op : CmpOp} (hd : decode Y.2.1 pc = .ok (.fcmp op, 1)) (k : Ex Y (pc + 1) lv (.int (Op.cmpValue (FP.fcmp x y) op) :: st) h mc ms Q) : Ex Y pc lv (.float y :: .float x :: st) h mc ms Q :=
  xw_pure (st := .float y :: .float x :: st) (fun p l e R s m args below meth c H locs cells slots Qw ad ls hx hb hl kk => lv_fcmp hx hb hd kk) (fun n hl hs => xvs_cons.mpr ⟨xvok_int, (xvs_cons.mp (xvs_cons.mp hs).2).2⟩) k
theorem xw_dcmp {x y : UInt64} {op : CmpOp} (hd : decode Y.2.1 pc = .ok (.dcmp op, 1)) (k : Ex Y (pc + 1) lv (.int (Op.cmpValue (FP.dcmp x y) op) :: st) h mc ms Q) : Ex Y pc lv (.double y :: .double x :: st) h mc ms Q :=
  xw_pure (st := .double y :: .double x :: st) (fun p l e R s m args below meth c H locs cells slots Qw ad ls hx hb hl kk => lv_dcmp hx hb hd kk) (fun n hl hs => xvs_cons.mpr ⟨xvok_int, (xvs_cons.mp (xvs_cons.mp hs).2).2⟩) k
theorem xw_dup {v : Value} (hd : decode Y.2.1 pc = .ok (.dup, 1)) (hc : v.category = 1) (k : Ex Y (pc + 1) lv (v :: v :: st) h mc ms Q) : Ex Y pc lv (v :: st) h mc ms Q :=
  xw_pure (st := v :: st) (fun p l e R s m args below meth c H locs cells slots Qw ad ls hx hb hl kk => lv_dup hx hb hd ((xval_cat ad v).trans hc) kk) (fun n hl hs => xvs_cons.mpr ⟨(xvs_cons.mp hs).1, hs⟩) k
theorem xw_pop {v : Value} (hd : decode Y.2.1 pc = .ok (.pop, 1)) (hc : v.category = 1) (k : Ex Y (pc + 1) lv (st) h mc ms Q) : Ex Y pc lv (v :: st) h mc ms Q :=
  xw_pure (st := v :: st) (fun p l e R s m args below meth c H locs cells slots Qw ad ls hx hb hl kk => lv_pop hx hb hd ((xval_cat ad v).trans hc) kk) (fun n hl hs => (xvs_cons.mp hs).2) k
theorem xw_dup2 {v w : Value} (hd : decode Y.2.1 pc = .ok (.dup2, 1)) (hc : v.category = 1) (hc2 : w.category = 1) (k : Ex Y (pc + 1) lv (v :: w :: v :: w :: st) h mc ms Q) : Ex Y pc lv (v :: w :: st) h mc ms Q :=
  xw_pure (st := v :: w :: st) (fun p l e R s m args below meth c H locs cells slots Qw ad ls hx hb hl kk => lv_dup2_11 hx hb hd ((xval_cat ad v).trans hc) ((xval_cat ad w).trans hc2) kk) (fun n hl hs => xvs_cons.mpr ⟨(xvs_cons.mp hs).1, xvs_cons.mpr ⟨(xvs_cons.mp (xvs_cons.mp hs).2).1, hs⟩⟩) k
theorem xw_goto {off : Int} {tgt : Nat} (hd : decode Y.2.1 pc = .ok (.goto off, 3)) (ht : (pc : Int) + off = (tgt : Int)) (k : Ex Y tgt lv st h mc ms Q) : Ex Y pc lv st h mc ms Q :=
  xw_pure (st := st) (fun p l e R s m args below meth c H locs cells slots Qw ad ls hx hb hl kk => lv_goto hx hb hd ht kk) (fun n hl hs => hs) k
/-- an instruction that branches on the stack alone -/
theorem xw_branch {P : Prop} {pc1 pc2 : Nat} {st' : List Value}
    (hw : ∀ (p : Program) (l : Launch) (e : Env) (R : Room) (s : State) (m : MethodId) (args : Array Value) (below : List Frame) (meth : Method) (c : Code) (H : Heap) (locs : List Loc) (cells slots : Nat) (Qw : State → Prop) (ad : Nat → Nat) (ls : Array Slot), p.tables.exec = Jvm.exec → c.code = Y.2.1 →
      (P → W p l e R s m args below meth c H locs cells slots Qw (F0 m pc1 ls (st'.map (xval ad)))) → (¬ P → W p l e R s m args below meth c H locs cells slots Qw (F0 m pc2 ls (st'.map (xval ad)))) → W p l e R s m args below meth c H locs cells slots Qw (F0 m pc ls (st.map (xval ad))))
    (hk : ∀ n, xvs n st → xvs n st') (kt : P → Ex Y pc1 lv st' h mc ms Q) (kf : ¬ P → Ex Y pc2 lv st' h mc ms Q) : Ex Y pc lv st h mc ms Q := by
  intro p l e R s m args below meth c dC dI dA ad A H locs cells slots Qw ls hC hH h1 h2 h3 h4 h5 h6
  exact hw p l e R s m args below meth c H locs cells slots Qw ad ls hC.1 hC.2.1 (fun q => kt q p l e R s m args below meth c dC dI dA ad A H locs cells slots Qw ls hC hH h1 (hk _ h2) h3 h4 h5 h6) (fun q => kf q p l e R s m args below meth c dC dI dA ad A H locs cells slots Qw ls hC hH h1 (hk _ h2) h3 h4 h5 h6)
theorem xw_ifeq {x : Int32} {off : Int} {tgt : Nat} (hd : decode Y.2.1 pc = .ok (.ifCond .eq off, 3)) (ht : (pc : Int) + off = (tgt : Int)) (kt : x = 0 → Ex Y tgt lv st h mc ms Q) (kf : ¬ x = 0 → Ex Y (pc + 3) lv st h mc ms Q) : Ex Y pc lv (.int x :: st) h mc ms Q :=
  xw_branch (st := .int x :: st) (fun p l e R s m args below meth c H locs cells slots Qw ad ls hx hb k1 k2 => lv_if_eq hx hb hd ht k1 k2) (fun n hs => (xvs_cons.mp hs).2) kt kf
theorem xw_iceq {x y : Int32} {off : Int} {tgt : Nat} (hd : decode Y.2.1 pc = .ok (.if_icmp .eq off, 3)) (ht : (pc : Int) + off = (tgt : Int)) (kt : x = y → Ex Y tgt lv st h mc ms Q) (kf : ¬ x = y → Ex Y (pc + 3) lv st h mc ms Q) : Ex Y pc lv (.int y :: .int x :: st) h mc ms Q :=
  xw_branch (st := .int y :: .int x :: st) (fun p l e R s m args below meth c H locs cells slots Qw ad ls hx hb k1 k2 => lv_icmp_eq hx hb hd ht k1 k2) (fun n hs => (xvs_cons.mp (xvs_cons.mp hs).2).2) kt kf
theorem xw_iflt {x : Int32} {off : Int} {tgt : Nat} (hd : decode Y.2.1 pc = .ok (.ifCond .lt off, 3)) (ht : (pc : Int) + off = (tgt : Int)) (kt : x < 0 → Ex Y tgt lv st h mc ms Q) (kf : ¬ x < 0 → Ex Y (pc + 3) lv st h mc ms Q) : Ex Y pc lv (.int x :: st) h mc ms Q :=
  xw_branch (st := .int x :: st) (fun p l e R s m args below meth c H locs cells slots Qw ad ls hx hb k1 k2 => lv_if_lt hx hb hd ht k1 k2) (fun n hs => (xvs_cons.mp hs).2) kt kf
theorem xw_iclt {x y : Int32} {off : Int} {tgt : Nat} (hd : decode Y.2.1 pc = .ok (.if_icmp .lt off, 3)) (ht : (pc : Int) + off = (tgt : Int)) (kt : x < y → Ex Y tgt lv st h mc ms Q) (kf : ¬ x < y → Ex Y (pc + 3) lv st h mc ms Q) : Ex Y pc lv (.int y :: .int x :: st) h mc ms Q :=
  xw_branch (st := .int y :: .int x :: st) (fun p l e R s m args below meth c H locs cells slots Qw ad ls hx hb k1 k2 => lv_icmp_lt hx hb hd ht k1 k2) (fun n hs => (xvs_cons.mp (xvs_cons.mp hs).2).2) kt kf
theorem xw_ifge {x : Int32} {off : Int} {tgt : Nat} (hd : decode Y.2.1 pc = .ok (.ifCond .ge off, 3)) (ht : (pc : Int) + off = (tgt : Int)) (kt : 0 ≤ x → Ex Y tgt lv st h mc ms Q) (kf : ¬ 0 ≤ x → Ex Y (pc + 3) lv st h mc ms Q) : Ex Y pc lv (.int x :: st) h mc ms Q :=
  xw_branch (st := .int x :: st) (fun p l e R s m args below meth c H locs cells slots Qw ad ls hx hb k1 k2 => lv_if_ge hx hb hd ht k1 k2) (fun n hs => (xvs_cons.mp hs).2) kt kf
theorem xw_icge {x y : Int32} {off : Int} {tgt : Nat} (hd : decode Y.2.1 pc = .ok (.if_icmp .ge off, 3)) (ht : (pc : Int) + off = (tgt : Int)) (kt : y ≤ x → Ex Y tgt lv st h mc ms Q) (kf : ¬ y ≤ x → Ex Y (pc + 3) lv st h mc ms Q) : Ex Y pc lv (.int y :: .int x :: st) h mc ms Q :=
  xw_branch (st := .int y :: .int x :: st) (fun p l e R s m args below meth c H locs cells slots Qw ad ls hx hb k1 k2 => lv_icmp_ge hx hb hd ht k1 k2) (fun n hs => (xvs_cons.mp (xvs_cons.mp hs).2).2) kt kf
theorem xw_ifgt {x : Int32} {off : Int} {tgt : Nat} (hd : decode Y.2.1 pc = .ok (.ifCond .gt off, 3)) (ht : (pc : Int) + off = (tgt : Int)) (kt : 0 < x → Ex Y tgt lv st h mc ms Q) (kf : ¬ 0 < x → Ex Y (pc + 3) lv st h mc ms Q) : Ex Y pc lv (.int x :: st) h mc ms Q :=
  xw_branch (st := .int x :: st) (fun p l e R s m args below meth c H locs cells slots Qw ad ls hx hb k1 k2 => lv_if_gt hx hb hd ht k1 k2) (fun n hs => (xvs_cons.mp hs).2) kt kf
theorem xw_icgt {x y : Int32} {off : Int} {tgt : Nat} (hd : decode Y.2.1 pc = .ok (.if_icmp .gt off, 3)) (ht : (pc : Int) + off = (tgt : Int)) (kt : y < x → Ex Y tgt lv st h mc ms Q) (kf : ¬ y < x → Ex Y (pc + 3) lv st h mc ms Q) : Ex Y pc lv (.int y :: .int x :: st) h mc ms Q :=
  xw_branch (st := .int y :: .int x :: st) (fun p l e R s m args below meth c H locs cells slots Qw ad ls hx hb k1 k2 => lv_icmp_gt hx hb hd ht k1 k2) (fun n hs => (xvs_cons.mp (xvs_cons.mp hs).2).2) kt kf
theorem xw_ifle {x : Int32} {off : Int} {tgt : Nat} (hd : decode Y.2.1 pc = .ok (.ifCond .le off, 3)) (ht : (pc : Int) + off = (tgt : Int)) (kt : x ≤ 0 → Ex Y tgt lv st h mc ms Q) (kf : ¬ x ≤ 0 → Ex Y (pc + 3) lv st h mc ms Q) : Ex Y pc lv (.int x :: st) h mc ms Q :=
  xw_branch (st := .int x :: st) (fun p l e R s m args below meth c H locs cells slots Qw ad ls hx hb k1 k2 => lv_if_le hx hb hd ht k1 k2) (fun n hs => (xvs_cons.mp hs).2) kt kf
theorem xw_icle {x y : Int32} {off : Int} {tgt : Nat} (hd : decode Y.2.1 pc = .ok (.if_icmp .le off, 3)) (ht : (pc : Int) + off = (tgt : Int)) (kt : x ≤ y → Ex Y tgt lv st h mc ms Q) (kf : ¬ x ≤ y → Ex Y (pc + 3) lv st h mc ms Q) : Ex Y pc lv (.int y :: .int x :: st) h mc ms Q :=
  xw_branch (st := .int y :: .int x :: st) (fun p l e R s m args below meth c H locs cells slots Qw ad ls hx hb k1 k2 => lv_icmp_le hx hb hd ht k1 k2) (fun n hs => (xvs_cons.mp (xvs_cons.mp hs).2).2) kt kf
theorem xw_ifne {x : Int32} {off : Int} {tgt : Nat} (hd : decode Y.2.1 pc = .ok (.ifCond .ne off, 3)) (ht : (pc : Int) + off = (tgt : Int)) (kt : ¬ x = 0 → Ex Y tgt lv st h mc ms Q) (kf : x = 0 → Ex Y (pc + 3) lv st h mc ms Q) : Ex Y pc lv (.int x :: st) h mc ms Q :=
  xw_branch (P := ¬ x = 0) (st := .int x :: st) (fun p l e R s m args below meth c H locs cells slots Qw ad ls hx hb k1 k2 => lv_if_ne hx hb hd ht k1 (fun q => k2 (fun z => z q))) (fun n hs => (xvs_cons.mp hs).2) kt (fun q => kf (Classical.not_not.mp q))
theorem xw_icne {x y : Int32} {off : Int} {tgt : Nat} (hd : decode Y.2.1 pc = .ok (.if_icmp .ne off, 3)) (ht : (pc : Int) + off = (tgt : Int)) (kt : ¬ x = y → Ex Y tgt lv st h mc ms Q) (kf : x = y → Ex Y (pc + 3) lv st h mc ms Q) : Ex Y pc lv (.int y :: .int x :: st) h mc ms Q :=
  xw_branch (P := ¬ x = y) (st := .int y :: .int x :: st) (fun p l e R s m args below meth c H locs cells slots Qw ad ls hx hb k1 k2 => lv_icmp_ne hx hb hd ht k1 (fun q => k2 (fun z => z q))) (fun n hs => (xvs_cons.mp (xvs_cons.mp hs).2).2) kt (fun q => kf (Classical.not_not.mp q))
theorem xw_ifnonnull {x : Nat} {off : Int} {tgt : Nat} (hd : decode Y.2.1 pc = .ok (.ifnonnull off, 3)) (ht : (pc : Int) + off = (tgt : Int)) (k : Ex Y tgt lv st h mc ms Q) : Ex Y pc lv (.ref x :: st) h mc ms Q :=
  xw_pure (st := .ref x :: st) (fun p l e R s m args below meth c H locs cells slots Qw ad ls hx hb hl kk => lv_ifnonnull hx hb hd ht kk) (fun n hl hs => (xvs_cons.mp hs).2) k
theorem xw_ifnonnullN {off : Int} (hd : decode Y.2.1 pc = .ok (.ifnonnull off, 3)) (k : Ex Y (pc + 3) lv st h mc ms Q) : Ex Y pc lv (.null :: st) h mc ms Q :=
  xw_pure (st := .null :: st) (fun p l e R s m args below meth c H locs cells slots Qw ad ls hx hb hl kk => lv_ifnonnullN hx hb hd kk) (fun n hl hs => (xvs_cons.mp hs).2) k
theorem xw_tableOut {dflt lo hi : Int} {offs : Array Int} {len : Nat} {x : Int32} {tgt : Nat} (hd : decode Y.2.1 pc = .ok (.tableswitch dflt lo hi offs, len)) (hx : x.toInt < lo ∨ hi < x.toInt) (ht : (pc : Int) + dflt = (tgt : Int)) (k : Ex Y tgt lv st h mc ms Q) : Ex Y pc lv (.int x :: st) h mc ms Q :=
  xw_pure (st := .int x :: st) (fun p l e R s m args below meth c H locs cells slots Qw ad ls hxx hb hl kk => lv_tableOut hxx hb hd hx ht kk) (fun n hl hs => (xvs_cons.mp hs).2) k
theorem xw_tableIn {dflt lo hi : Int} {offs : Array Int} {len : Nat} {x : Int32} {off : Int} {tgt : Nat} (hd : decode Y.2.1 pc = .ok (.tableswitch dflt lo hi offs, len)) (h1 : ¬ x.toInt < lo) (h2 : ¬ hi < x.toInt) (ho : offs[(x.toInt - lo).toNat]? = some off) (ht : (pc : Int) + off = (tgt : Int)) (k : Ex Y tgt lv st h mc ms Q) : Ex Y pc lv (.int x :: st) h mc ms Q :=
  xw_pure (st := .int x :: st) (fun p l e R s m args below meth c H locs cells slots Qw ad ls hxx hb hl kk => lv_tableIn hxx hb hd h1 h2 ho ht kk) (fun n hl hs => (xvs_cons.mp hs).2) k
theorem xw_lcmp {x y : Int64} (hd : decode Y.2.1 pc = .ok (.lcmp, 1)) (k : Ex Y (pc + 1) lv (.int (lg_cmp x y) :: st) h mc ms Q) : Ex Y pc lv (.long y :: .long x :: st) h mc ms Q :=
  xw_pure (st := .long y :: .long x :: st) (fun p l e R s m args below meth c H locs cells slots Qw ad ls hx hb hl kk => W.lcmp hx hb hd kk) (fun n hl hs => xvs_cons.mpr ⟨xvok_int, (xvs_cons.mp (xvs_cons.mp hs).2).2⟩) k
/-- an instruction that writes a local -/
theorem xw_local {pc' : Nat} {lv' st' : List Value}
    (hw : ∀ (p : Program) (l : Launch) (e : Env) (R : Room) (s : State) (m : MethodId) (args : Array Value) (below : List Frame) (meth : Method) (c : Code) (H : Heap) (locs : List Loc) (cells slots : Nat) (Qw : State → Prop) (ad : Nat → Nat) (ls : Array Slot), p.tables.exec = Jvm.exec → c.code = Y.2.1 → xls ad ls Y.2.2.1 lv →
      (∀ ls' : Array Slot, xls ad ls' Y.2.2.1 lv' → W p l e R s m args below meth c H locs cells slots Qw (F0 m pc' ls' (st'.map (xval ad)))) → W p l e R s m args below meth c H locs cells slots Qw (F0 m pc ls (st.map (xval ad))))
    (hk : ∀ n, xvs n lv → xvs n st → xvs n lv' ∧ xvs n st') (k : Ex Y pc' lv' st' h mc ms Q) : Ex Y pc lv st h mc ms Q := by
  intro p l e R s m args below meth c dC dI dA ad A H locs cells slots Qw ls hC hH h1 h2 h3 h4 h5 h6
  exact hw p l e R s m args below meth c H locs cells slots Qw ad ls hC.1 hC.2.1 h5 (fun ls' h7 => k p l e R s m args below meth c dC dI dA ad A H locs cells slots Qw ls' hC hH (hk _ h1 h2).1 (hk _ h1 h2).2 h3 h4 h7 h6)
theorem xvs_set {n i : Nat} {v : Value} {lv : List Value} (h : xvs n lv) (hv : xvok n v) : xvs n (lv.set i v) := by
  intro w hw
  rcases List.mem_or_eq_of_mem_set hw with q | q
  · exact h w q
  · rw [q]; exact hv
theorem xw_istore_n {k9 : Fin 4} {i : Nat} {x : Int32} (hd : decode Y.2.1 pc = .ok (.istore_n k9, 1)) (hi : (k9 : Nat) = i) (hn : i < Y.2.2.1) (hf : xfree1 lv i = true) (k : Ex Y (pc + 1) (lv.set i (.int x)) st h mc ms Q) : Ex Y pc lv (.int x :: st) h mc ms Q :=
  xw_local (st := .int x :: st) (fun p l e R s m args below meth c H locs cells slots Qw ad ls hx hb hl kk => lv_istore_n hx hb hd hi hl.has hn rfl (fun ls' h' => kk ls' (xset1 (v := .int x) hf h'))) (fun n hl hs => ⟨xvs_set hl (xvs_cons.mp hs).1, (xvs_cons.mp hs).2⟩) k
theorem xw_istore {i : Nat} {x : Int32} (hd : decode Y.2.1 pc = .ok (.istore i, 2)) (hn : i < Y.2.2.1) (hf : xfree1 lv i = true) (k : Ex Y (pc + 2) (lv.set i (.int x)) st h mc ms Q) : Ex Y pc lv (.int x :: st) h mc ms Q :=
  xw_local (st := .int x :: st) (fun p l e R s m args below meth c H locs cells slots Qw ad ls hx hb hl kk => lv_istore hx hb hd hl.has hn rfl (fun ls' h' => kk ls' (xset1 (v := .int x) hf h'))) (fun n hl hs => ⟨xvs_set hl (xvs_cons.mp hs).1, (xvs_cons.mp hs).2⟩) k
theorem xw_fstore_n {k9 : Fin 4} {i : Nat} {x : UInt32} (hd : decode Y.2.1 pc = .ok (.fstore_n k9, 1)) (hi : (k9 : Nat) = i) (hn : i < Y.2.2.1) (hf : xfree1 lv i = true) (k : Ex Y (pc + 1) (lv.set i (.float x)) st h mc ms Q) : Ex Y pc lv (.float x :: st) h mc ms Q :=
  xw_local (st := .float x :: st) (fun p l e R s m args below meth c H locs cells slots Qw ad ls hx hb hl kk => lv_fstore_n hx hb hd hi hl.has hn rfl (fun ls' h' => kk ls' (xset1 (v := .float x) hf h'))) (fun n hl hs => ⟨xvs_set hl (xvs_cons.mp hs).1, (xvs_cons.mp hs).2⟩) k
theorem xw_fstore {i : Nat} {x : UInt32} (hd : decode Y.2.1 pc = .ok (.fstore i, 2)) (hn : i < Y.2.2.1) (hf : xfree1 lv i = true) (k : Ex Y (pc + 2) (lv.set i (.float x)) st h mc ms Q) : Ex Y pc lv (.float x :: st) h mc ms Q :=
  xw_local (st := .float x :: st) (fun p l e R s m args below meth c H locs cells slots Qw ad ls hx hb hl kk => lv_fstore hx hb hd hl.has hn rfl (fun ls' h' => kk ls' (xset1 (v := .float x) hf h'))) (fun n hl hs => ⟨xvs_set hl (xvs_cons.mp hs).1, (xvs_cons.mp hs).2⟩) k
theorem xw_astore_n {k9 : Fin 4} {i : Nat} {x : Nat} (hd : decode Y.2.1 pc = .ok (.astore_n k9, 1)) (hi : (k9 : Nat) = i) (hn : i < Y.2.2.1) (hf : xfree1 lv i = true) (k : Ex Y (pc + 1) (lv.set i (.ref x)) st h mc ms Q) : Ex Y pc lv (.ref x :: st) h mc ms Q :=
  xw_local (st := .ref x :: st) (fun p l e R s m args below meth c H locs cells slots Qw ad ls hx hb hl kk => lv_astore_n hx hb hd hi hl.has hn rfl (fun ls' h' => kk ls' (xset1 (v := .ref x) hf h'))) (fun n hl hs => ⟨xvs_set hl (xvs_cons.mp hs).1, (xvs_cons.mp hs).2⟩) k
theorem xw_astore {i : Nat} {x : Nat} (hd : decode Y.2.1 pc = .ok (.astore i, 2)) (hn : i < Y.2.2.1) (hf : xfree1 lv i = true) (k : Ex Y (pc + 2) (lv.set i (.ref x)) st h mc ms Q) : Ex Y pc lv (.ref x :: st) h mc ms Q :=
  xw_local (st := .ref x :: st) (fun p l e R s m args below meth c H locs cells slots Qw ad ls hx hb hl kk => lv_astore hx hb hd hl.has hn rfl (fun ls' h' => kk ls' (xset1 (v := .ref x) hf h'))) (fun n hl hs => ⟨xvs_set hl (xvs_cons.mp hs).1, (xvs_cons.mp hs).2⟩) k
theorem xw_dstore_n {k9 : Fin 4} {i : Nat} {x : UInt64} (hd : decode Y.2.1 pc = .ok (.dstore_n k9, 1)) (hi : (k9 : Nat) = i) (hn : i + 1 < Y.2.2.1) (hf : xfree1 lv i = true) (k : Ex Y (pc + 1) ((lv.set i (.double x)).set (i + 1) (.retAddr 0)) st h mc ms Q) : Ex Y pc lv (.double x :: st) h mc ms Q :=
  xw_local (st := .double x :: st) (fun p l e R s m args below meth c H locs cells slots Qw ad ls hx hb hl kk => lv_dstore_n hx hb hd hi hl.has hn rfl (fun ls' h' => kk ls' (xset2 (v := .double x) hf h'))) (fun n hl hs => ⟨xvs_set (xvs_set hl (xvs_cons.mp hs).1) (fun _ e => by cases e), (xvs_cons.mp hs).2⟩) k
theorem xw_dstore {i : Nat} {x : UInt64} (hd : decode Y.2.1 pc = .ok (.dstore i, 2)) (hn : i + 1 < Y.2.2.1) (hf : xfree1 lv i = true) (k : Ex Y (pc + 2) ((lv.set i (.double x)).set (i + 1) (.retAddr 0)) st h mc ms Q) : Ex Y pc lv (.double x :: st) h mc ms Q :=
  xw_local (st := .double x :: st) (fun p l e R s m args below meth c H locs cells slots Qw ad ls hx hb hl kk => lv_dstore hx hb hd hl.has hn rfl (fun ls' h' => kk ls' (xset2 (v := .double x) hf h'))) (fun n hl hs => ⟨xvs_set (xvs_set hl (xvs_cons.mp hs).1) (fun _ e => by cases e), (xvs_cons.mp hs).2⟩) k
theorem xw_astore_nN {k9 : Fin 4} {i : Nat} (hd : decode Y.2.1 pc = .ok (.astore_n k9, 1)) (hi : (k9 : Nat) = i) (hn : i < Y.2.2.1) (hf : xfree1 lv i = true) (k : Ex Y (pc + 1) (lv.set i .null) st h mc ms Q) : Ex Y pc lv (.null :: st) h mc ms Q :=
  xw_local (st := .null :: st) (fun p l e R s m args below meth c H locs cells slots Qw ad ls hx hb hl kk => lv_astore_nN hx hb hd hi hl.has hn rfl (fun ls' h' => kk ls' (xset1 (v := .null) hf h'))) (fun n hl hs => ⟨xvs_set hl (xvs_cons.mp hs).1, (xvs_cons.mp hs).2⟩) k
theorem xw_astoreN {i : Nat} (hd : decode Y.2.1 pc = .ok (.astore i, 2)) (hn : i < Y.2.2.1) (hf : xfree1 lv i = true) (k : Ex Y (pc + 2) (lv.set i .null) st h mc ms Q) : Ex Y pc lv (.null :: st) h mc ms Q :=
  xw_local (st := .null :: st) (fun p l e R s m args below meth c H locs cells slots Qw ad ls hx hb hl kk => lv_astoreN hx hb hd hl.has hn rfl (fun ls' h' => kk ls' (xset1 (v := .null) hf h'))) (fun n hl hs => ⟨xvs_set hl (xvs_cons.mp hs).1, (xvs_cons.mp hs).2⟩) k
theorem xw_iinc {i : Nat} {n : Int} {x v : Int32} (hd : decode Y.2.1 pc = .ok (.iinc i n, 3)) (hv : lv[i]? = some (.int x)) (he : x + Int32.ofInt n = v) (hn : i < Y.2.2.1) (hf : xfree1 lv i = true) (k : Ex Y (pc + 3) (lv.set i (.int v)) st h mc ms Q) : Ex Y pc lv st h mc ms Q :=
  xw_local (st := st) (fun p l e R s m args below meth c H locs cells slots Qw ad ls hx hb hl kk => by
    obtain ⟨k0, hk0⟩ := List.getElem?_of_mem (xlist_mem (ad := ad) hv (by simp))
    exact lv_iinc hx hb hd hl.has hk0 he hn rfl (fun ls' h' => kk ls' (xset1 (v := .int v) hf h'))) (fun n hl hs => ⟨xvs_set hl xvok_int, hs⟩) k
end XR1
