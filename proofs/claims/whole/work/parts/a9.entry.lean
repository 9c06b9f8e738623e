/-! THE LAW'S ENTRY: what the machine's start gives -/
section ENTRY
variable {s : State} {args : Array Value}
theorem lt_s1 {w : Cond} (i : Nat) (h : tables_1_1[i]? = some w) : w ∈ lw_tbl := List.mem_append_right _ (List.mem_append_left _ (List.mem_of_getElem? h))
theorem lt_s2 {w : Cond} (i : Nat) (h : tables_1_2[i]? = some w) : w ∈ lw_tbl := List.mem_append_right _ (List.mem_append_right _ (List.mem_append_left _ (List.mem_of_getElem? h)))
theorem lt_s3 {w : Cond} (i : Nat) (h : tables_1_3[i]? = some w) : w ∈ lw_tbl := List.mem_append_right _ (List.mem_append_right _ (List.mem_append_right _ (List.mem_append_left _ (List.mem_of_getElem? h))))
theorem xt_lw {w : Cond} (h : w ∈ xtbl) : w ∈ lw_tbl := (List.mem_filter.mp h).1
theorem ar_p {ty : FieldType} (h : (Cond.arrayClass ty).before args s = true) : ∃ cA, ArrOfT s cA ty ∧ s.vm.findClass ("[" ++ ty.toString) = some cA := by
  obtain ⟨cA, kA, comp, h1, h2, h3⟩ := Cond.arrayClass_spec h
  exact ⟨cA, fun N z => ⟨(fun k h => by cases h), kA, h2, comp, h3⟩, h1⟩
theorem ar_o {C : String} (h : (Cond.arrayOver (.object C)).before args s = true) : ∃ cA, ArrOfT s cA (.object C) ∧ va_RA s cA (.object C) := by
  obtain ⟨comp, cA, kA, hcomp, hidx, hkA, hkind, hname⟩ := Cond.arrayOver_spec h
  exact ⟨cA, fun N z => ⟨(fun k h => by cases h), kA, hkA, comp, hkind⟩, kA, comp, hkA, hkind, hcomp, hname⟩
theorem ar_a {t : FieldType} (h : (Cond.arrayOver (.array t)).before args s = true) : ∃ cA, ArrOfT s cA (.array t) ∧ va_RA s cA (.array t) := by
  have h0 := h
  simp only [Cond.before, Cond.holds, Cond.value, beq_iff_eq] at h0
  cases hc : s.vm.findClass (FieldType.array t).toString with
  | none => simp [hc] at h0
  | some comp =>
    simp only [hc, Option.bind_some, Option.bind_eq_some_iff, Option.map_eq_some_iff] at h0
    obtain ⟨c, hi, k, hk, hb⟩ := h0
    cases hkind : k.kind with
    | array component ty =>
      rw [hkind] at hb
      simp at hb
      obtain ⟨b1, b2⟩ := hb
      subst b1
      exact ⟨c, fun N z => ⟨(fun k h => by cases h), k, hk, component, hkind⟩, b2⟩
    | _ => rw [hkind] at hb; simp at hb
def stm (i : Nat) : Term := .string "WeightedWords$Reader" (xSidx.getD i 0)
abbrev lw_fl : List Cond := flatC (Cond.and given_1 narrow_1)
theorem fl_ex : ∀ i, i < 6 → Cond.exactly (stm i) "java/lang/String" ∈ lw_fl := by decide +kernel
theorem fl_co : ∀ i, i < 6 → Cond.eq (.field (stm i) "java/lang/String" "coder" "B") (.int 0) ∈ lw_fl := by decide +kernel
theorem fl_ar : ∀ i, i < 6 → Cond.arrayOf (.field (stm i) "java/lang/String" "value" "[B") .byte ∈ lw_fl := by decide +kernel
theorem fl_le : ∀ i, i < 6 → Cond.eq (.length (.field (stm i) "java/lang/String" "value" "[B")) (.int (Int32.ofNat (xSlen.getD i 0))) ∈ lw_fl := by decide +kernel
theorem fl_el : ∀ i, i < 6 → ∀ j, j < xSlen.getD i 0 → Cond.eq (.elem (.field (stm i) "java/lang/String" "value" "[B") (.int (Int32.ofNat j))) (.int ((xSbyt.getD i []).getD j 0)) ∈ lw_fl := by decide +kernel
theorem fl_ne : ∀ i, i < 6 → ∀ j, j < 6 → i ≠ j → Cond.not (Cond.eq (stm i) (stm j)) ∈ lw_fl ∨ Cond.not (Cond.eq (stm j) (stm i)) ∈ lw_fl := by decide +kernel
theorem fl_cs : Cond.eq (.static "java/lang/String" "COMPACT_STRINGS" "Z") (.int 1) ∈ lw_fl := by decide +kernel
theorem fl_fm : Cond.isRef (.static "jdk/internal/util/Preconditions" "SIOOBE_FORMATTER" "Ljava/util/function/BiFunction;") ∈ lw_fl := by decide +kernel
theorem fl_len : ∀ i, i < 6 → xSlen.getD i 0 < 2 ^ 31 := by decide
theorem sr_all (hts : ∀ w ∈ lw_tbl, w.before args s = true) : ∀ i, i < 6 → (Cond.stringRef "WeightedWords$Reader" (xSidx.getD i 0) (xStx.getD i "")).before args s = true := by
  intro i hi
  match i, hi with
  | 0, _ => exact hts _ (lt_s2 208 (by decide +kernel))
  | 1, _ => exact hts _ (lt_s3 21 (by decide +kernel))
  | 2, _ => exact hts _ (lt_s3 22 (by decide +kernel))
  | 3, _ => exact hts _ (lt_s3 23 (by decide +kernel))
  | 4, _ => exact hts _ (lt_s3 24 (by decide +kernel))
  | 5, _ => exact hts _ (lt_s3 25 (by decide +kernel))
  | i + 6, h => omega
theorem xO_start (hts : ∀ w ∈ lw_tbl, w.before args s = true) : xO s :=
  ⟨va_AO.of (hts _ (lt_s1 197 (by decide +kernel))), va_AO.of (hts _ (lt_s1 199 (by decide +kernel))), va_AO.of (hts _ (lt_s2 84 (by decide +kernel))), hts (Cond.arrayOver (.array .int)) (lt_s1 207 (by decide +kernel)), va_Nw.of rfl (hts _ (lt_s1 32 (by decide +kernel)))⟩
/-- the classes and the array classes -/
theorem K_start (hts : ∀ w ∈ lw_tbl, w.before args s = true) : ∃ (dC : Nat → ClassId) (dI : Nat → Nat → Nat) (dA : Nat → ClassId), va_K (dC, dI) xcl (xtys dA) s := by
  have htx : ∀ w ∈ xtbl, w.before args s = true := fun w hw => hts w (xt_lw hw)
  obtain ⟨c0, i0, k0⟩ := u_known (C := RX0) (T := TX0) (N := 11) (n := 11) htx inX0 (hts (.instantiable "WeightedWords$Basis" 11) (lt_s1 201 (by decide +kernel)))
  obtain ⟨c1, i1, k1⟩ := u_known (C := RX1) (T := TX1) (N := 6) (n := 6) htx inX1 (hts (.instantiable "WeightedWords$Census" 6) (lt_s2 51 (by decide +kernel)))
  obtain ⟨c2, i2, k2⟩ := u_known (C := RX2) (T := TX2) (N := 2) (n := 2) htx inX2 (htx (.instantiable "WeightedWords$Dice" 2) (xt_s5 13 (by decide +kernel) rfl))
  obtain ⟨c3, i3, k3⟩ := u_known (C := RX3) (T := TX3) (N := 6) (n := 6) htx inX3 (hts (.instantiable "WeightedWords$Machine" 6) (lt_s1 56 (by decide +kernel)))
  obtain ⟨c4, i4, k4⟩ := u_known (C := RX4) (T := TX4) (N := 15) (n := 15) htx inX4 (hts (.instantiable "WeightedWords$Reader" 15) (lt_s1 50 (by decide +kernel)))
  obtain ⟨c5, i5, k5⟩ := u_known (C := RX5) (T := TX5) (N := 2) (n := 2) htx inX5 (hts (.instantiable "WeightedWords$Realm" 2) (lt_s1 31 (by decide +kernel)))
  obtain ⟨c6, i6, k6⟩ := u_known (C := RX6) (T := TX6) (N := 5) (n := 5) htx inX6 (hts (.instantiable "WeightedWords$Shelf" 5) (lt_s2 78 (by decide +kernel)))
  obtain ⟨c7, i7, k7⟩ := u_known (C := RX7) (T := TX7) (N := 9) (n := 9) htx inX7 (hts (.instantiable "WeightedWords$Span" 9) (lt_s1 209 (by decide +kernel)))
  obtain ⟨c8, i8, k8⟩ := u_known (C := RX8) (T := TX8) (N := 9) (n := 9) htx inX8 (hts (.instantiable "WeightedWords$Study" 9) (lt_s1 150 (by decide +kernel)))
  obtain ⟨c9, i9, k9⟩ := u_known (C := RX9) (T := TX9) (N := 15) (n := 15) htx inX9 (hts (.instantiable "WeightedWords" 15) (lt_s1 23 (by decide +kernel)))
  obtain ⟨c10, i10, k10⟩ := u_known (C := RX10) (T := TX10) (N := 41) (n := 41) htx inX10 (htx (.instantiable "WeightedWordsModel" 41) (xt_s5 93 (by decide +kernel) rfl))
  obtain ⟨a0, b0, e0⟩ := ar_p (hts _ (xt_lw k_arrI))
  obtain ⟨a1, b1, e1⟩ := ar_p (hts _ (xt_lw k_arrZ))
  obtain ⟨a2, b2, e2⟩ := ar_p (hts _ (xt_lw k_arrB))
  have ho := xO_start hts
  obtain ⟨a3, b3, e3⟩ := ar_a (args := #[]) (s := s) ho.2.2.2.1
  obtain ⟨a4, b4, e4⟩ := ar_o (args := #[]) (s := s) ho.1
  obtain ⟨a5, b5, e5⟩ := ar_o (args := #[]) (s := s) ho.2.1
  obtain ⟨a6, b6, e6⟩ := ar_o (args := #[]) (s := s) ho.2.2.1
  refine ⟨fun k => [c0, c1, c2, c3, c4, c5, c6, c7, c8, c9, c10].getD k 0, fun k => [i0, i1, i2, i3, i4, i5, i6, i7, i8, i9, i10].getD k i0, fun k => [a0, a1, a2, a3, a4, a5, a6].getD k 0, ?_, ?_⟩
  · intro k q hq
    match k, hq with
    | 0, hq => cases hq; exact k0
    | 1, hq => cases hq; exact k1
    | 2, hq => cases hq; exact k2
    | 3, hq => cases hq; exact k3
    | 4, hq => cases hq; exact k4
    | 5, hq => cases hq; exact k5
    | 6, hq => cases hq; exact k6
    | 7, hq => cases hq; exact k7
    | 8, hq => cases hq; exact k8
    | 9, hq => cases hq; exact k9
    | 10, hq => cases hq; exact k10
    | k + 11, hq => simp [xcl] at hq
  · intro k q hq
    match k, hq with
    | 0, hq => cases hq; exact ⟨b0, e0⟩
    | 1, hq => cases hq; exact ⟨b1, e1⟩
    | 2, hq => cases hq; exact ⟨b2, e2⟩
    | 3, hq => cases hq; exact ⟨b3, e3⟩
    | 4, hq => cases hq; exact ⟨b4, e4⟩
    | 5, hq => cases hq; exact ⟨b5, e5⟩
    | 6, hq => cases hq; exact ⟨b6, e6⟩
    | k + 7, hq => simp [xtys] at hq
/-- all that the frames stand on, at the start -/
theorem G_start {b : Nat} (hts : ∀ w ∈ lw_tbl, w.before args s = true) (hgv : (Jvm.Cond.and given_1 narrow_1).before args s = true) : ∃ (dC : Nat → ClassId) (dI : Nat → Nat → Nat) (dA : Nat → ClassId) (ad : Nat → Nat), ad 1000000 = b ∧ xG dC dI dA ad (fun q => s.heap.size ≤ q) s := by
  have hs := flat_of_before _ hgv
  have hA : ∀ a : Nat, a < s.heap.size → ¬ (fun q : Nat => s.heap.size ≤ q) a := fun a ha => Nat.not_le.mpr ha
  obtain ⟨dC, dI, dA, hK⟩ := K_start hts
  obtain ⟨adK, adV, hS, hR⟩ := vk_Sof (args := args) (s := s) (N := 6) (tm := stm) (len := xSlen) (byt := xSbyt) (A := fun q => s.heap.size ≤ q) fl_len (fun i hi => hs _ (fl_ex i hi)) (fun i hi => hs _ (fl_co i hi)) (fun i hi => hs _ (fl_ar i hi)) (fun i hi => hs _ (fl_le i hi)) (fun i hi j hj => hs _ (fl_el i hi j hj)) (fun i j hi hj hij => (fl_ne i hi j hj hij).imp (fun h => hs _ h) (fun h => hs _ h)) hA
  have hZ := va_Zof (A := fun q => s.heap.size ≤ q) (hts _ (lt_s2 222 (by decide +kernel))) (hts _ (xt_lw knJ0)) (va_eqi (hs _ fl_cs)) hA
  obtain ⟨v, hv, hvr⟩ := Cond.isRef_spec (hs _ fl_fm)
  have hF := va_Zof (A := fun q => s.heap.size ≤ q) (hts _ (lt_s2 238 (by decide +kernel))) (hts _ (xt_lw knJ3)) hv hA
  obtain ⟨fm, hfm⟩ : ∃ fm : Nat, v = .null ∨ v = .ref fm := by
    cases v with
    | null => exact ⟨0, Or.inl rfl⟩
    | ref a => exact ⟨a, Or.inr rfl⟩
    | _ => simp [Value.isRef] at hvr
  obtain ⟨ad, h0, hk, hvv, hf⟩ : ∃ ad : Nat → Nat, ad 1000000 = b ∧ (∀ i, i < 6 → ad (1000001 + i) = adK i) ∧ (∀ i, i < 6 → ad (1000011 + i) = adV i) ∧ ad 1000020 = fm := by
    refine ⟨fun k => if k = 1000000 then b else if k = 1000020 then fm else if k < 1000011 then adK (k - 1000001) else adV (k - 1000011), rfl, fun i hi => ?_, fun i hi => ?_, rfl⟩
    · show (if 1000001 + i = 1000000 then b else if 1000001 + i = 1000020 then fm else if 1000001 + i < 1000011 then adK (1000001 + i - 1000001) else adV (1000001 + i - 1000011)) = adK i
      rw [if_neg (by omega), if_neg (by omega), if_pos (by omega), Nat.add_sub_cancel_left]
    · show (if 1000011 + i = 1000000 then b else if 1000011 + i = 1000020 then fm else if 1000011 + i < 1000011 then adK (1000011 + i - 1000001) else adV (1000011 + i - 1000011)) = adV i
      rw [if_neg (by omega), if_neg (by omega), if_neg (by omega), Nat.add_sub_cancel_left]
  refine ⟨dC, dI, dA, ad, h0, hK, fun q hq => hq, ⟨fun i hi => ?_, fun i j hi hj e => ?_⟩, fun i hi => ?_, hZ, ?_, xO_start hts⟩
  · dsimp only
    rw [hk i hi, hvv i hi]; exact hS.1 i hi
  · dsimp only at e
    rw [hk i hi, hk j hj] at e; exact hS.2 i j hi hj e
  · rw [hk i hi]; exact vk_R.of (sr_all hts i hi) (hR i hi)
  · rcases hfm with rfl | rfl
    · exact Or.inl hF
    · rw [hf]; exact Or.inr hF
end ENTRY
