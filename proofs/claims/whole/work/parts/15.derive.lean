/-! JUDGEMENTS BY THE ANSWER'S KIND -/
def xqI (Q : Int32 → xHp → Prop) : Option Value → xHp → Prop := fun v h => ∃ w, v = some (.int w) ∧ Q w h
def xqJ (Q : Int64 → xHp → Prop) : Option Value → xHp → Prop := fun v h => ∃ w, v = some (.long w) ∧ Q w h
def xqV (Q : xHp → Prop) : Option Value → xHp → Prop := fun v h => v = none ∧ Q h
def xqR (Q : Option Nat → xHp → Prop) : Option Value → xHp → Prop := fun v h => ∃ r, v = some (va_rf r) ∧ Q r h
def CI (Y : xM) (vs : List Value) (h : xHp) (Q : Int32 → xHp → Prop) : Prop := Cl Y vs h 0 0 (xqI Q)
def CJ (Y : xM) (vs : List Value) (h : xHp) (Q : Int64 → xHp → Prop) : Prop := Cl Y vs h 0 0 (xqJ Q)
def CV (Y : xM) (vs : List Value) (h : xHp) (Q : xHp → Prop) : Prop := Cl Y vs h 0 0 (xqV Q)
def CR (Y : xM) (vs : List Value) (h : xHp) (Q : Option Nat → xHp → Prop) : Prop := Cl Y vs h 0 0 (xqR Q)
theorem CI.mono {Y : xM} {vs : List Value} {h : xHp} {Q Q' : Int32 → xHp → Prop} (k : CI Y vs h Q) (hq : ∀ w h', Q w h' → Q' w h') : CI Y vs h Q' := Cl.mono k (fun _ _ ⟨w, e, q⟩ => ⟨w, e, hq _ _ q⟩)
theorem CJ.mono {Y : xM} {vs : List Value} {h : xHp} {Q Q' : Int64 → xHp → Prop} (k : CJ Y vs h Q) (hq : ∀ w h', Q w h' → Q' w h') : CJ Y vs h Q' := Cl.mono k (fun _ _ ⟨w, e, q⟩ => ⟨w, e, hq _ _ q⟩)
theorem CV.mono {Y : xM} {vs : List Value} {h : xHp} {Q Q' : xHp → Prop} (k : CV Y vs h Q) (hq : ∀ h', Q h' → Q' h') : CV Y vs h Q' := Cl.mono k (fun _ _ ⟨e, q⟩ => ⟨e, hq _ q⟩)
theorem CR.mono {Y : xM} {vs : List Value} {h : xHp} {Q Q' : Option Nat → xHp → Prop} (k : CR Y vs h Q) (hq : ∀ w h', Q w h' → Q' w h') : CR Y vs h Q' := Cl.mono k (fun _ _ ⟨w, e, q⟩ => ⟨w, e, hq _ _ q⟩)
/-- writes, on the numbers and on the references alone -/
def xi (I : Nat → Nat → Int32) (q k : Nat) (v : Int32) : Nat → Nat → Int32 := fun a => if a = q then upd (I q) k v else I a
def xa (I : Nat → Nat → Int32) (q : Nat) (f : Nat → Int32) : Nat → Nat → Int32 := fun a => if a = q then f else I a
def xr (R : Nat → Nat → Option Nat) (q k : Nat) (r : Option Nat) : Nat → Nat → Option Nat := fun a => if a = q then va_up (R q) k r else R a
def xrem (x y : Int32) : Int32 := x - x / y * y
/-- room of a call, by numbers -/
def xBb (Y Y' : xM) : Bool := Nat.ble (Y'.2.2.2.2.1 + 1) Y.2.2.2.2.1 && Nat.ble (8 + (Y'.2.2.1 + 11) + Y'.2.2.2.2.2.1) Y.2.2.2.2.2.1
theorem xB_of {Y Y' : xM} (h : xBb Y Y' = true) : xB Y Y' := by
  unfold xBb at h
  rw [Bool.and_eq_true] at h
  exact ⟨Nat.le_of_ble_eq_true h.1, Nat.le_of_ble_eq_true h.2⟩
section XR7
variable {Y Y' : xM} {pc : Nat} {lv lv' st : List Value} {sh : List xSh} {I : Nat → Nat → Int32} {R : Nat → Nat → Option Nat} {h : xHp} {mc ms : Nat} {Q : Option Value → xHp → Prop}
theorem Ex.z (k : Ex Y pc lv st h (0 + mc) (0 + ms) Q) : Ex Y pc lv st h mc ms Q := by
  rw [Nat.zero_add, Nat.zero_add] at k
  exact k
theorem yw_irem {x y : Int32} (hd : decode Y.2.1 pc = .ok (.irem, 1)) (hne : ¬ y = 0) (k : Ex Y (pc + 1) lv (.int (xrem x y) :: st) h mc ms Q) : Ex Y pc lv (.int y :: .int x :: st) h mc ms Q := xw_irem hd hne k
theorem yw_iastore {n q : Nat} {i x : Int32} (hd : decode Y.2.1 pc = .ok (.iastore, 1)) (hq : sh[q]? = some (.inr (0, n))) (hin : vp_in i n) (k : Ex Y (pc + 1) lv st (sh, xi I q i.toNatClampNeg x, R) mc ms Q) : Ex Y pc lv (.int x :: .int i :: .ref q :: st) (sh, I, R) mc ms Q := xw_iastore (h := (sh, I, R)) hd hq hin k
theorem yw_bastore {n q : Nat} {i x : Int32} (hd : decode Y.2.1 pc = .ok (.bastore, 1)) (hq : sh[q]? = some (.inr (2, n))) (hin : vp_in i n) (k : Ex Y (pc + 1) lv st (sh, xi I q i.toNatClampNeg (vp_nar .byte x), R) mc ms Q) : Ex Y pc lv (.int x :: .int i :: .ref q :: st) (sh, I, R) mc ms Q := xw_bastore (h := (sh, I, R)) hd hq hin k
theorem yw_zastore {n q : Nat} {i x : Int32} (hd : decode Y.2.1 pc = .ok (.bastore, 1)) (hq : sh[q]? = some (.inr (1, n))) (hin : vp_in i n) (k : Ex Y (pc + 1) lv st (sh, xi I q i.toNatClampNeg (vp_nar .boolean x), R) mc ms Q) : Ex Y pc lv (.int x :: .int i :: .ref q :: st) (sh, I, R) mc ms Q := xw_zastore (h := (sh, I, R)) hd hq hin k
theorem yw_putI {idx ci k q : Nat} {v : Int32} (hd : decode Y.2.1 pc = .ok (.putfield idx, 3)) (hF : xF Y.1.cls idx ci k) (hP : xP Y ci k) (hty : xft ci k = .int) (hq : sh[q]? = some (.inl ci)) (kk : Ex Y (pc + 3) lv st (sh, xi I q k v, R) mc ms Q) : Ex Y pc lv (.int v :: .ref q :: st) (sh, I, R) mc ms Q := xw_putI (h := (sh, I, R)) hd hF hP (by rw [hty]; rfl) (by rw [hty]; exact xfit_int) hq kk
theorem yw_putZ {idx ci k q : Nat} {v : Int32} (hd : decode Y.2.1 pc = .ok (.putfield idx, 3)) (hF : xF Y.1.cls idx ci k) (hP : xP Y ci k) (hty : xft ci k = .boolean) (hb : v = 0 ∨ v = 1) (hq : sh[q]? = some (.inl ci)) (kk : Ex Y (pc + 3) lv st (sh, xi I q k v, R) mc ms Q) : Ex Y pc lv (.int v :: .ref q :: st) (sh, I, R) mc ms Q := xw_putI (h := (sh, I, R)) hd hF hP (by rw [hty]; rfl) (by rw [hty]; exact xfit_bool hb) hq kk
theorem yw_putR {idx ci k q r : Nat} {s9 : xSh} (hd : decode Y.2.1 pc = .ok (.putfield idx, 3)) (hF : xF Y.1.cls idx ci k) (hP : xP Y ci k) (hty : xref (xft ci k) = true) (hq : sh[q]? = some (.inl ci)) (hr : sh[r]? = some s9) (kk : Ex Y (pc + 3) lv st (sh, I, xr R q k (some r)) mc ms Q) : Ex Y pc lv (.ref r :: .ref q :: st) (sh, I, R) mc ms Q := xw_putR (h := (sh, I, R)) hd hF hP hty hq (xlen (h := (sh, I, R)) hr) kk
theorem yw_aastore {t n q r ci : Nat} {i : Int32} (hd : decode Y.2.1 pc = .ok (.aastore, 1)) (hq : sh[q]? = some (.inr (t, n))) (hv : sh[r]? = some (.inl ci)) (ht : xcomp t ci) (hin : vp_in i n) (kk : Ex Y (pc + 1) lv st (sh, I, xr R q i.toNatClampNeg (some r)) mc ms Q) : Ex Y pc lv (.ref r :: .int i :: .ref q :: st) (sh, I, R) mc ms Q := xw_aastore (h := (sh, I, R)) hd hq hv ht hin kk
theorem yw_acopy {idx q0 q1 n0 n1 : Nat} {sp dp n : Int32} (hd : decode Y.2.1 pc = .ok (.invokestatic idx, 3)) (hl1 : Cond.methodLink Y.1.cls idx arraycopyName ∈ xtbl) (hq0 : sh[q0]? = some (.inr (0, n0))) (hq1 : sh[q1]? = some (.inr (0, n1))) (hf : Nat.ble 1 Y.2.2.2.2.1 = true) (ho : Nat.ble 26 Y.2.2.2.2.2.1 = true) (hs : (st.map fun v => v.category).sum ≤ 8) (hc : (¬ sp < 0 ∧ ¬ dp < 0 ∧ ¬ n < 0) ∧ sp.toNatClampNeg + n.toNatClampNeg ≤ n0 ∧ dp.toNatClampNeg + n.toNatClampNeg ≤ n1)
    (kk : Ex Y (pc + 3) lv st (sh, xa I q1 (va_cpy (I q0) (I q1) sp.toNatClampNeg dp.toNatClampNeg n.toNatClampNeg), R) mc ms Q) : Ex Y pc lv (.int n :: .int dp :: .ref q1 :: .int sp :: .ref q0 :: st) (sh, I, R) mc ms Q :=
  xw_acopy (h := (sh, I, R)) hd hl1 kt_acopy ku_acopy knJ10 hq0 hq1 (Nat.le_of_ble_eq_true hf) (Nat.le_of_ble_eq_true ho) hs hc.1.1 hc.1.2.1 hc.1.2.2 hc.2.1 hc.2.2 kk
theorem yw_sub (hs : xsub lv lv') (k : Ex Y pc lv' st h mc ms Q) : Ex Y pc lv st h mc ms Q := xw_sub hs k
theorem yw_istore_n {k9 : Fin 4} {i : Nat} {x : Int32} (hd : decode Y.2.1 pc = .ok (.istore_n k9, 1)) (hi : (k9 : Nat) = i) (hn : Nat.ble (i + 1) Y.2.2.1 = true) (hf : xfree1 lv i = true) (hl : lv.set i (.int x) = lv') (k : Ex Y (pc + 1) lv' st h mc ms Q) : Ex Y pc lv (.int x :: st) h mc ms Q := xw_istore_n hd hi (Nat.le_of_ble_eq_true hn) hf (hl ▸ k)
theorem yw_istore {i : Nat} {x : Int32} (hd : decode Y.2.1 pc = .ok (.istore i, 2)) (hn : Nat.ble (i + 1) Y.2.2.1 = true) (hf : xfree1 lv i = true) (hl : lv.set i (.int x) = lv') (k : Ex Y (pc + 2) lv' st h mc ms Q) : Ex Y pc lv (.int x :: st) h mc ms Q := xw_istore hd (Nat.le_of_ble_eq_true hn) hf (hl ▸ k)
theorem yw_astore_n {k9 : Fin 4} {i x : Nat} (hd : decode Y.2.1 pc = .ok (.astore_n k9, 1)) (hi : (k9 : Nat) = i) (hn : Nat.ble (i + 1) Y.2.2.1 = true) (hf : xfree1 lv i = true) (hl : lv.set i (.ref x) = lv') (k : Ex Y (pc + 1) lv' st h mc ms Q) : Ex Y pc lv (.ref x :: st) h mc ms Q := xw_astore_n hd hi (Nat.le_of_ble_eq_true hn) hf (hl ▸ k)
theorem yw_astore {i x : Nat} (hd : decode Y.2.1 pc = .ok (.astore i, 2)) (hn : Nat.ble (i + 1) Y.2.2.1 = true) (hf : xfree1 lv i = true) (hl : lv.set i (.ref x) = lv') (k : Ex Y (pc + 2) lv' st h mc ms Q) : Ex Y pc lv (.ref x :: st) h mc ms Q := xw_astore hd (Nat.le_of_ble_eq_true hn) hf (hl ▸ k)
theorem yw_astore_nN {k9 : Fin 4} {i : Nat} (hd : decode Y.2.1 pc = .ok (.astore_n k9, 1)) (hi : (k9 : Nat) = i) (hn : Nat.ble (i + 1) Y.2.2.1 = true) (hf : xfree1 lv i = true) (hl : lv.set i .null = lv') (k : Ex Y (pc + 1) lv' st h mc ms Q) : Ex Y pc lv (.null :: st) h mc ms Q := xw_astore_nN hd hi (Nat.le_of_ble_eq_true hn) hf (hl ▸ k)
theorem yw_astoreN {i : Nat} (hd : decode Y.2.1 pc = .ok (.astore i, 2)) (hn : Nat.ble (i + 1) Y.2.2.1 = true) (hf : xfree1 lv i = true) (hl : lv.set i .null = lv') (k : Ex Y (pc + 2) lv' st h mc ms Q) : Ex Y pc lv (.null :: st) h mc ms Q := xw_astoreN hd (Nat.le_of_ble_eq_true hn) hf (hl ▸ k)
theorem yw_fstore_n {k9 : Fin 4} {i : Nat} {x : UInt32} (hd : decode Y.2.1 pc = .ok (.fstore_n k9, 1)) (hi : (k9 : Nat) = i) (hn : Nat.ble (i + 1) Y.2.2.1 = true) (hf : xfree1 lv i = true) (hl : lv.set i (.float x) = lv') (k : Ex Y (pc + 1) lv' st h mc ms Q) : Ex Y pc lv (.float x :: st) h mc ms Q := xw_fstore_n hd hi (Nat.le_of_ble_eq_true hn) hf (hl ▸ k)
theorem yw_dstore_n {k9 : Fin 4} {i : Nat} {x : UInt64} (hd : decode Y.2.1 pc = .ok (.dstore_n k9, 1)) (hi : (k9 : Nat) = i) (hn : Nat.ble (i + 2) Y.2.2.1 = true) (hf : xfree1 lv i = true) (hl : (lv.set i (.double x)).set (i + 1) (.retAddr 0) = lv') (k : Ex Y (pc + 1) lv' st h mc ms Q) : Ex Y pc lv (.double x :: st) h mc ms Q := xw_dstore_n hd hi (Nat.le_of_ble_eq_true hn) hf (hl ▸ k)
theorem yw_iinc {i : Nat} {n : Int} {x v : Int32} (hd : decode Y.2.1 pc = .ok (.iinc i n, 3)) (hv : lv[i]? = some (.int x)) (he : Int32.ofInt n = v) (hn : Nat.ble (i + 1) Y.2.2.1 = true) (hf : xfree1 lv i = true) (hl : lv.set i (.int (x + v)) = lv') (k : Ex Y (pc + 3) lv' st h mc ms Q) : Ex Y pc lv st h mc ms Q := xw_iinc hd hv (by rw [he]) (Nat.le_of_ble_eq_true hn) hf (hl ▸ k)
/-- calls: virtual, static; the answer whole, long, reference, none -/
theorem yw_cV {idx n b ci : Nat} {As st0 : List Value} (hd : decode Y.2.1 pc = .ok (.invokevirtual idx, 3)) (hL : xL Y.1.cls idx Y' n) (hl1 : Cond.instanceMethod Y'.1 ∈ xtbl) (hl2 : Cond.selects Y'.1.cls Y'.1 Y'.1 ∈ xtbl) (hB : xBb Y Y' = true) (hst : st0 = As.reverse ++ .ref b :: st) (hn : As.length = n) (hb : sh[b]? = some (.inl ci)) (hc : (xcl[ci]?).map (fun r => r.1) = some Y'.1.cls) (hs : (st.map fun v => v.category).sum ≤ 8) (hvs : Nat.ble (xargs (.ref b :: As)).length Y'.2.2.1 = true)
    (kk : Cl Y' (.ref b :: As) (sh, I, R) 0 0 (fun v h' => Ex Y (pc + 3) lv (v.toList ++ st) h' mc ms Q)) : Ex Y pc lv st0 (sh, I, R) mc ms Q := Ex.z (xw_callV (h := (sh, I, R)) hd hL hl1 hl2 (xB_of hB) hst hn hb hc hs (Nat.le_of_ble_eq_true hvs) kk)
theorem yw_cS {idx n : Nat} {As st0 : List Value} (hd : decode Y.2.1 pc = .ok (.invokestatic idx, 3)) (hL : xL Y.1.cls idx Y' n) (hl1 : Cond.static Y'.1 ∈ xtbl) (hB : xBb Y Y' = true) (hst : st0 = As.reverse ++ st) (hn : As.length = n) (hs : (st.map fun v => v.category).sum ≤ 8) (hvs : Nat.ble (xargs As).length Y'.2.2.1 = true)
    (kk : Cl Y' As h 0 0 (fun v h' => Ex Y (pc + 3) lv (v.toList ++ st) h' mc ms Q)) : Ex Y pc lv st0 h mc ms Q := Ex.z (xw_callS hd hL hl1 (xB_of hB) hst hn hs (Nat.le_of_ble_eq_true hvs) kk)
theorem xk_I {vs : List Value} {pc' : Nat} (k : CI Y' vs h (fun w h' => Ex Y pc' lv (.int w :: st) h' mc ms Q)) : Cl Y' vs h 0 0 (fun v h' => Ex Y pc' lv (v.toList ++ st) h' mc ms Q) := Cl.mono k (fun v h' ⟨w, e, q⟩ => by subst e; exact q)
theorem xk_J {vs : List Value} {pc' : Nat} (k : CJ Y' vs h (fun w h' => Ex Y pc' lv (.long w :: st) h' mc ms Q)) : Cl Y' vs h 0 0 (fun v h' => Ex Y pc' lv (v.toList ++ st) h' mc ms Q) := Cl.mono k (fun v h' ⟨w, e, q⟩ => by subst e; exact q)
theorem xk_V {vs : List Value} {pc' : Nat} (k : CV Y' vs h (fun h' => Ex Y pc' lv st h' mc ms Q)) : Cl Y' vs h 0 0 (fun v h' => Ex Y pc' lv (v.toList ++ st) h' mc ms Q) := Cl.mono k (fun v h' ⟨e, q⟩ => by subst e; exact q)
theorem xk_R {vs : List Value} {pc' : Nat} (k : CR Y' vs h (fun r h' => (r = none → Ex Y pc' lv (.null :: st) h' mc ms Q) ∧ ∀ a, r = some a → Ex Y pc' lv (.ref a :: st) h' mc ms Q)) : Cl Y' vs h 0 0 (fun v h' => Ex Y pc' lv (v.toList ++ st) h' mc ms Q) := Cl.mono k (fun v h' ⟨r, e, q⟩ => by
  subst e
  cases r with
  | none => exact q.1 rfl
  | some a => exact q.2 a rfl)
/-- returns -/
theorem yw_iret {x : Int32} {Q : Int32 → xHp → Prop} (hd : decode Y.2.1 pc = .ok (.ireturn, 1)) (hr : Y.2.2.2.1 = some .int) (k : Q x h) : Ex Y pc lv [.int x] h mc ms (xqI Q) := xw_iret hd hr ⟨x, rfl, k⟩
theorem yw_zret {x : Int32} {ty : FieldType} {Q : Int32 → xHp → Prop} (hd : decode Y.2.1 pc = .ok (.ireturn, 1)) (hr : Y.2.2.2.1 = some ty) (hn : narrow ty (.int x) = .int x) (k : Q x h) : Ex Y pc lv [.int x] h mc ms (xqI Q) := xw_zret hd hr hn ⟨x, rfl, k⟩
theorem yw_lret {x : Int64} {Q : Int64 → xHp → Prop} (hd : decode Y.2.1 pc = .ok (.lreturn, 1)) (hr : Y.2.2.2.1 = some .long) (k : Q x h) : Ex Y pc lv [.long x] h mc ms (xqJ Q) := xw_lret hd hr ⟨x, rfl, k⟩
theorem yw_vret {Q : xHp → Prop} (hd : decode Y.2.1 pc = .ok (.return_, 1)) (hr : Y.2.2.2.1 = none) (k : Q h) : Ex Y pc lv [] h mc ms (xqV Q) := xw_vret hd hr ⟨rfl, k⟩
theorem yw_aretR {r : Nat} {n : String} {Q : Option Nat → xHp → Prop} (hd : decode Y.2.1 pc = .ok (.areturn, 1)) (hr : Y.2.2.2.1 = some (.object n)) (k : Q (some r) h) : Ex Y pc lv [.ref r] h mc ms (xqR Q) := xw_aretR hd hr ⟨some r, rfl, k⟩
theorem yw_aretN {n : String} {Q : Option Nat → xHp → Prop} (hd : decode Y.2.1 pc = .ok (.areturn, 1)) (hr : Y.2.2.2.1 = some (.object n)) (k : Q none h) : Ex Y pc lv [.null] h mc ms (xqR Q) := xw_aretN hd hr ⟨none, rfl, k⟩
theorem narrow_z (x : Int32) (h : x = 0 ∨ x = 1) : narrow .boolean (.int x) = .int x := by rcases h with rfl | rfl <;> decide
end XR7
