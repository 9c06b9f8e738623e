section GROW
variable {sh sh' : List xSh} {I I' : Nat → Nat → Int32} {R R' : Nat → Nat → Option Nat}
/-- more cells, all before as it was -/
def gS (sh sh' : List xSh) : Prop := ∀ (q : Nat) (s : xSh), sh[q]? = some s → sh'[q]? = some s
def gR (n : Nat) (R R' : Nat → Nat → Option Nat) : Prop := ∀ a, a < n → R' a = R a
theorem lt_of {sh : List xSh} {q : Nat} {s : xSh} (h : sh[q]? = some s) : q < sh.length := by
  rcases Nat.lt_or_ge q sh.length with z | z
  · exact z
  · rw [List.getElem?_eq_none z] at h; cases h
theorem xMach.gr {q M : Nat} (h : xMach sh R q M) (hs : gS sh sh') (hr : gR sh.length R R') : xMach sh' R' q M := by
  obtain ⟨a, b, c, d, e, f, g, i⟩ := h
  have l := hr q (lt_of a)
  exact ⟨hs _ _ a, hs _ _ b, hs _ _ c, hs _ _ d, by rw [l]; exact e, by rw [l]; exact f, by rw [l]; exact g, by rw [l]; exact i⟩
theorem xRows.gr {q N K : Nat} (h : xRows sh R q N K) (hs : gS sh sh') (hr : gR sh.length R R') : xRows sh' R' q N K := by
  refine ⟨hs _ _ h.1, fun j hj => ?_⟩
  rw [hr q (lt_of h.1)]
  exact ⟨(h.2 j hj).1, hs _ _ (h.2 j hj).2⟩
theorem xStudy.gr {q : Nat} (h : xStudy sh R q) (hs : gS sh sh') (hr : gR sh.length R R') : xStudy sh' R' q := by
  obtain ⟨a, b, c, d, e, f, g, i, j, k⟩ := h
  have l := hr q (lt_of a)
  exact ⟨hs _ _ a, hs _ _ b, hs _ _ c, by rw [l]; exact d, by rw [l]; exact e, by rw [l]; exact f, by rw [l]; exact g, by rw [l]; exact i, j.gr hs hr, k.gr hs hr⟩
theorem xSpan.gr {q : Nat} (h : xSpan sh R q) (hs : gS sh sh') (hr : gR sh.length R R') : xSpan sh' R' q := by
  obtain ⟨a, b, c, d, e, f, g, i, j, k, m, n⟩ := h
  have l := hr q (lt_of a)
  exact ⟨hs _ _ a, by rw [l]; exact b, by rw [l]; exact c, by rw [l]; exact d, by rw [l]; exact e, by rw [l]; exact f, by rw [l]; exact g, hs _ _ i, hs _ _ j, hs _ _ k, m.gr hs hr, n.gr hs hr⟩
theorem xShelf.gr {q : Nat} (h : xShelf sh R q) (hs : gS sh sh') (hr : gR sh.length R R') : xShelf sh' R' q := by
  obtain ⟨a, b, c, d, e, f⟩ := h
  have l := hr q (lt_of a)
  exact ⟨hs _ _ a, hs _ _ b, hs _ _ c, by rw [l]; exact d, by rw [l]; exact e, by rw [l]; exact f⟩
theorem xLay.len (h : xLay sh R) : 230 ≤ sh.length := by
  have := lt_of (h.1 (229, .inr (0, 24)) (by unfold xlSh; simp))
  exact this
theorem xlR_lt : ∀ e ∈ xlR, e.1 < 230 := by decide
theorem xLay.gr (h : xLay sh R) (hs : gS sh sh') (hr : gR sh.length R R') : xLay sh' R' := by
  have hl := h.len
  obtain ⟨a, b, c, d, e, f, g, i, j, k, m, n, o, p⟩ := h
  exact ⟨fun x hx => hs _ _ (a x hx), fun x hx => by rw [hr x.1 (by have := xlR_lt x hx; omega)]; exact b x hx, c.gr hs hr, fun x hx => (d x hx).gr hs hr, e.gr hs hr, f.gr hs hr, fun x hx => (g x hx).gr hs hr, i.gr hs hr, j.gr hs hr, k.gr hs hr, m.gr hs hr, n.gr hs hr, o.gr hs hr, p.gr hs hr⟩
theorem clR.gr {σ : St} (h : clR sh I R σ) (hs : gS sh sh') (hr : gR sh.length R R') (e : ∀ c, c < sh.length → I' c = I c) : clR sh' I' R' σ := by
  have hl := h.lay.len
  have e' : ∀ c, c < 230 → I' c = I c := fun c hc => e c (by omega)
  refine ⟨h.ok, h.lay.gr hs hr, ?_, h.ctx.eq (e' 1 (by omega)), ⟨fun q hq => ?_, by rw [e' 169 (by omega)]; exact h.mc.2⟩, h.st.eq (fun c h1 h2 => e' c (by omega)), fun k hk => (h.kept k hk).eq (by rw [e' 21 (by omega)]) (fun c h1 h2 => e' c (by omega)), ⟨fun k i q hk hi eq => ?_, fun k i k' i' q q' hk hi hk' hi' eq eq' => ?_⟩, fun k hk => (h.shf k hk).eq (e' _ (by omega)) (e' _ (by omega)) (fun i => by rw [hr _ (by omega)]) (fun i q A hi eq hA => ?_), by rw [e' 0 (by omega)]; exact h.word, ⟨by rw [e' 2 (by omega)]; exact h.tape.1, fun j hj => by rw [e' 3 (by omega)]; exact h.tape.2 j hj⟩, by rw [e' 0 (by omega)]; exact h.fault, ?_⟩
  · obtain ⟨a, b, c1, c2, c3⟩ := h.ht
    exact ⟨a, b, by rw [hr 23 (by omega)]; exact c1, by rw [hr 23 (by omega)]; exact c2, c3⟩
  · have hq2 : q < 230 := by revert hq; simp; omega
    rw [e' q hq2]; exact h.mc.1 q hq
  · rw [hr _ (by omega)] at eq
    obtain ⟨a1, a2, a3⟩ := h.pl.1 k i q hk hi eq
    exact ⟨a1, a2.gr hs hr, by rw [e q (lt_of a2.1)]; exact a3⟩
  · rw [hr _ (by omega)] at eq eq'
    exact h.pl.2 k i k' i' q q' hk hi hk' hi' eq eq'
  · have hx := (h.pl.1 k i q hk hi eq).2.1
    exact hA.eq (e _ (lt_of hx.1)) (e _ (lt_of hx.2.1)) (e _ (lt_of hx.2.2.1)) (e _ (lt_of hx.2.2.2.1))
  · rcases h.ls with z | ⟨z1, nz, z0, z2, z3⟩
    · exact Or.inl (by rw [e' 0 (by omega)]; exact z)
    · exact Or.inr ⟨by rw [e' 0 (by omega)]; exact z1, nz, z0, z2.eq (e' _ (by omega)) (e' _ (by omega)) (e' _ (by omega)) (e' _ (by omega)), fun j hj => by rw [e' 177 (by omega)]; exact z3 j hj⟩
theorem push_S {s : xSh} : gS sh (sh ++ [s]) := fun q _ h => by rw [List.getElem?_append_left (lt_of h)]; exact h
theorem push_at {s : xSh} : (sh ++ [s])[sh.length]? = some s := by simp
theorem gS.tr {sh2 : List xSh} (h : gS sh sh') (h2 : gS sh' sh2) : gS sh sh2 := fun q s e => h2 q s (h q s e)
section EXB
variable {Y : xM} {pc : Nat} {lv st : List Value} {h : xHp} {mc ms mc' ms' : Nat} {Q : Option Value → xHp → Prop}
theorem Ex.up (k : Ex Y pc lv st h mc ms Q) (h1 : mc ≤ mc') (h2 : ms ≤ ms') : Ex Y pc lv st h mc' ms' Q := fun p l e R s m args below meth c dC dI dA ad A H locs cells slots Qw ls a1 a2 a3 a4 a5 a6 => k p l e R s m args below meth c dC dI dA ad A H locs cells slots Qw ls a1 a2 a3 a4 (by omega) (by omega)
end EXB
theorem dgot_u (y : Int32) : (y.toUInt32 >>> ((nI 16).toUInt32 &&& Int32.toUInt32 31)).toInt32 &&& nI 32767 = (y >>> (nI 16 &&& 31)) &&& nI 32767 := by
  have h1 : (nI 16).toUInt32 &&& Int32.toUInt32 31 = 16 := by decide
  have h2 : nI 16 &&& (31 : Int32) = 16 := by decide
  rw [h1, h2]
  apply Int32.toBitVec.inj
  rw [Int32.toBitVec_and, Int32.toBitVec_and]
  show (y.toBitVec >>> 16#32) &&& 32767#32 = (y.toBitVec.sshiftRight 16) &&& 32767#32
  apply BitVec.eq_of_getLsbD_eq
  intro i hi
  rw [BitVec.getLsbD_and, BitVec.getLsbD_and]
  have hm : (32767#32).getLsbD i = decide (i < 15) := by
    rw [BitVec.getLsbD_ofNat]
    have h9 : Nat.testBit 32767 i = decide (i < 15) := Nat.testBit_two_pow_sub_one 15 i
    rw [h9]
    simp [hi]
  rw [hm]
  by_cases h15 : i < 15
  · congr 1
    rw [show y.toBitVec >>> 16#32 = y.toBitVec >>> (16 : Nat) from rfl, BitVec.getLsbD_ushiftRight, BitVec.getLsbD_sshiftRight]
    have h32 : ¬ 32 ≤ i := by omega
    have h16 : 16 + i < 32 := by omega
    simp [h32, h16]
  · simp [h15]
theorem k_next2 {p q : Nat} {d : Int32} {Q : Int32 → xHp → Prop} (hW : xLay sh R) (hq : sh[q]? = some (.inl 2)) (hp1 : 1 ≤ p) (hp2 : p < 2 ^ 31) (h0 : I q 0 = nI p) (h1 : I q 1 = d) (k : Q (nI (rsd p d)) (sh, xi I q 1 (dStep d), R)) : CI mX2_nextResidue [.ref q] (sh, I, R) Q := by
  subst h1
  refine eX2_nextResidue (bX2_nextResidue_0 hW hq ?_)
  rw [dgot_u, h0]
  have hg : (((I q 1 * (1103515245 : Int32)) + nI 12345) >>> (nI 16 &&& 31)) &&& nI 32767 = dGot (I q 1) := rfl
  have hs : (I q 1 * (1103515245 : Int32)) + nI 12345 = dStep (I q 1) := rfl
  rw [hg, hs]
  refine ⟨by decide, by decide, fun z => ?_, fun z => ⟨fun _ => ⟨nI_ne0 hp1 hp2, ?_⟩, fun w => absurd (nI_le hp1 hp2) w⟩⟩
  · unfold rsd at k
    rw [if_pos z] at k; exact k
  · obtain ⟨g, hgl, he⟩ := and_n (dStep (I q 1) >>> (nI 16 &&& 31))
    have he2 : dGot (I q 1) = nI g := he
    unfold rsd at k
    rw [if_neg z, he2, nN_n (by omega)] at k
    rw [he2, xrem_nI (by omega) (by omega) (by omega)]
    exact k
theorem x2_init {q : Nat} {a b : Int32} {Q : xHp → Prop} (hq : sh[q]? = some (.inl 2)) (k : Q (sh, xi (xi I q 1 a) q 0 b, R)) : Cl mX2_init [.ref q, .int a, .int b] (sh, I, R) 0 0 (xqV Q) := by
  show Ex mX2_init 0 [.ref q, .int a, .int b] [] (sh, I, R) 0 0 (xqV Q)
  refine xw_aload_n dX2_init_0 rfl rfl ?_
  refine xw_objInit dX2_init_1 lX2_1 ko_i ko_c (Nat.le_of_ble_eq_true rfl) (Nat.le_of_ble_eq_true rfl) (Nat.le_of_ble_eq_true rfl) ?_
  refine xw_aload_n dX2_init_4 rfl rfl ?_
  refine xw_iload_n dX2_init_5 rfl rfl ?_
  refine yw_putI dX2_init_6 fX2_7 (fun r h => by cases h; first | exact Or.inl rfl | exact Or.inr ⟨rfl, rfl, rfl⟩) rfl hq ?_
  refine xw_aload_n dX2_init_9 rfl rfl ?_
  refine xw_iload_n dX2_init_10 rfl rfl ?_
  refine yw_putI dX2_init_11 fX2_13 (fun r h => by cases h; first | exact Or.inl rfl | exact Or.inr ⟨rfl, rfl, rfl⟩) rfl hq ?_
  exact yw_vret dX2_init_14 rfl k
end GROW
