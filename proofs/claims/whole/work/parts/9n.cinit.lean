section CINIT
variable {sh : List xSh} {I : Nat → Nat → Int32} {R : Nat → Nat → Option Nat}
variable {Y : xM} {pc : Nat} {lv st : List Value} {mc ms : Nat} {Q : Option Value → xHp → Prop}
/-- one cell more -/
def pS (sh : List xSh) (I : Nat → Nat → Int32) (R : Nat → Nat → Option Nat) (s : xSh) (sh' : List xSh) (I' : Nat → Nat → Int32) (R' : Nat → Nat → Option Nat) : Prop := sh' = sh ++ [s] ∧ (∀ a, a ≠ sh.length → I' a = I a ∧ R' a = R a) ∧ (∀ j, I' sh.length j = 0) ∧ ∀ j, R' sh.length j = none
theorem pS_push {s : xSh} : ∃ sh' I' R', xpush (sh, I, R) s = (sh', I', R') ∧ pS sh I R s sh' I' R' := ⟨_, _, _, rfl, rfl, fun a ha => ⟨if_neg ha, if_neg ha⟩, fun j => congrFun (if_pos rfl) j, fun j => congrFun (if_pos rfl) j⟩
theorem pS.S {s : xSh} {sh' : List xSh} {I' : Nat → Nat → Int32} {R' : Nat → Nat → Option Nat} (h : pS sh I R s sh' I' R') : gS sh sh' := by rw [h.1]; exact push_S
theorem pS.at {s : xSh} {sh' : List xSh} {I' : Nat → Nat → Int32} {R' : Nat → Nat → Option Nat} (h : pS sh I R s sh' I' R') : sh'[sh.length]? = some s := by rw [h.1]; exact push_at
theorem pS.len {s : xSh} {sh' : List xSh} {I' : Nat → Nat → Int32} {R' : Nat → Nat → Option Nat} (h : pS sh I R s sh' I' R') : sh'.length = sh.length + 1 := by rw [h.1, List.length_append]; rfl
theorem yw_newI {N : Nat} {n : Int32} (hd : decode Y.2.1 pc = .ok (.newarray .int, 2)) (hn : n = nI N) (hN : N ≤ 100000) (hl : sh.length < 1000000) (kk : ∀ sh' I' R', pS sh I R (.inr (0, N)) sh' I' R' → Ex Y (pc + 2) lv (.ref sh.length :: st) (sh', I', R') mc ms Q) : Ex Y pc lv (.int n :: st) (sh, I, R) (mc + 1) (ms + N) Q := by
  subst hn
  obtain ⟨sh', I', R', e, hp⟩ := pS_push (sh := sh) (I := I) (R := R) (s := .inr (0, N))
  refine xw_newarray (h := (sh, I, R)) hd (Or.inl ⟨rfl, rfl⟩) k_arrI (nI_neg0 (by omega)) (nclamp (by omega)) hN hl ?_
  rw [e]; exact kk sh' I' R' hp
theorem yw_newO {idx ci : Nat} (hd : decode Y.2.1 pc = .ok (.new idx, 3)) (hK : xK Y.1.cls idx ci) (hl : sh.length < 1000000) (kk : ∀ sh' I' R', pS sh I R (.inl ci) sh' I' R' → Ex Y (pc + 3) lv (.ref sh.length :: st) (sh', I', R') mc ms Q) : Ex Y pc lv st (sh, I, R) (mc + 1) (ms + xN ci) Q := by
  obtain ⟨sh', I', R', e, hp⟩ := pS_push (sh := sh) (I := I) (R := R) (s := .inl ci)
  refine xw_new (h := (sh, I, R)) hd hK hl ?_
  rw [e]; exact kk sh' I' R' hp
theorem x3_init {q M : Nat} {Q : xHp → Prop} (hM : M ≤ 8) (hq : sh[q]? = some (.inl 3)) (hq1 : q + 1 = sh.length) (h1 : sh[1]? = some (.inl 5)) (h1q : 1 < q) (hl : sh.length + 3 ≤ 1000000)
    (k : ∀ sh' I' R', gS sh sh' → sh'.length = sh.length + 3 → (∀ a, a < q → I' a = I a ∧ R' a = R a) → xMach sh' R' q M → I' q 1 = nI M → (∀ j, j ≠ 1 → I' q j = I q j) → (∀ c, c = q + 1 ∨ c = q + 2 ∨ c = q + 3 → ∀ j, I' c j = 0) → Q (sh', I', R')) : Cl mX3_init [.ref q, .ref 1, .int (nI M)] (sh, I, R) (0 + 1 + 1 + 1) (0 + M * 3 * M + M + M) (xqV Q) := by
  show Ex mX3_init 0 [.ref q, .ref 1, .int (nI M)] [] (sh, I, R) (0 + 1 + 1 + 1) (0 + M * 3 * M + M + M) (xqV Q)
  have hm := m3m hM
  refine xw_aload_n dX3_init_0 rfl rfl ?_
  refine xw_objInit dX3_init_1 lX3_3 ko_i ko_c (Nat.le_of_ble_eq_true rfl) (Nat.le_of_ble_eq_true rfl) (Nat.le_of_ble_eq_true rfl) ?_
  refine xw_aload_n dX3_init_4 rfl rfl ?_
  refine xw_aload_n dX3_init_5 rfl rfl ?_
  refine yw_putR dX3_init_6 fX3_9 (fun r h => by cases h; first | exact Or.inl rfl | exact Or.inr ⟨rfl, rfl, rfl⟩) rfl hq h1 ?_
  refine xw_aload_n dX3_init_9 rfl rfl ?_
  refine xw_iload_n dX3_init_10 rfl rfl ?_
  refine xw_iflt (tgt := 24) dX3_init_11 (by decide) (fun z => absurd z (nI_neg0 (by omega))) (fun _ => ?_)
  refine xw_iload_n dX3_init_14 rfl rfl ?_
  refine xw_bipush (v := nI 8) dX3_init_15 (by decide) ?_
  refine xw_icgt (tgt := 24) dX3_init_17 (by decide) (fun z => absurd z (nI_nlt hM (by omega))) (fun _ => ?_)
  refine xw_iload_n dX3_init_20 rfl rfl ?_
  refine xw_goto (tgt := 25) dX3_init_21 (by decide) ?_
  refine yw_putI dX3_init_25 fX3_17 (fun r h => by cases h; first | exact Or.inl rfl | exact Or.inr ⟨rfl, rfl, rfl⟩) rfl hq ?_
  generalize hI1 : xi I q 1 (nI M) = I1
  generalize hR1 : xr R q 0 (some 1) = R1
  have q1 : I1 q 1 = nI M := by rw [← hI1, xi_e]
  refine xw_aload_n dX3_init_28 rfl rfl ?_
  refine xw_aload_n dX3_init_29 rfl rfl ?_
  refine yw_getI (v := nI M) dX3_init_30 fX3_17 rfl hq q1 ?_
  refine yw_newI dX3_init_33 rfl (by omega) (by omega) (fun sh2 I2 R2 p2 => ?_)
  have l2 := p2.len
  have hq2 := p2.S _ _ hq
  have e2 : ∀ a, a ≠ sh.length → I2 a = I1 a ∧ R2 a = R1 a := p2.2.1
  refine yw_putR dX3_init_35 fX3_21 (fun r h => by cases h; first | exact Or.inl rfl | exact Or.inr ⟨rfl, rfl, rfl⟩) rfl hq2 p2.at ?_
  refine xw_aload_n dX3_init_38 rfl rfl ?_
  refine xw_aload_n dX3_init_39 rfl rfl ?_
  refine yw_getI (v := nI M) dX3_init_40 fX3_17 rfl hq2 (by rw [(e2 q (by omega)).1]; exact q1) ?_
  refine yw_newI dX3_init_43 rfl (by omega) (by omega) (fun sh3 I3 R3 p3 => ?_)
  have l3 := p3.len
  have hq3 := p3.S _ _ hq2
  have e3 : ∀ a, a ≠ sh2.length → I3 a = I2 a ∧ R3 a = xr R2 q 3 (some sh.length) a := p3.2.1
  refine yw_putR dX3_init_45 fX3_25 (fun r h => by cases h; first | exact Or.inl rfl | exact Or.inr ⟨rfl, rfl, rfl⟩) rfl hq3 p3.at ?_
  refine xw_aload_n dX3_init_48 rfl rfl ?_
  refine xw_aload_n dX3_init_49 rfl rfl ?_
  have q3 : I3 q 1 = nI M := by rw [(e3 q (by omega)).1, (e2 q (by omega)).1]; exact q1
  refine yw_getI (v := nI M) dX3_init_50 fX3_17 rfl hq3 q3 ?_
  refine xw_iconst (v := nI 3) dX3_init_53 rfl ?_
  refine xw_imul dX3_init_54 ?_
  refine xw_aload_n dX3_init_55 rfl rfl ?_
  refine yw_getI (v := nI M) dX3_init_56 fX3_17 rfl hq3 q3 ?_
  refine xw_imul dX3_init_59 ?_
  refine yw_newI (N := M * 3 * M) dX3_init_60 (by rw [pk_mul, pk_mul]) (by omega) (by omega) (fun sh4 I4 R4 p4 => ?_)
  have l4 := p4.len
  have hq4 := p4.S _ _ hq3
  have e4 : ∀ a, a ≠ sh3.length → I4 a = I3 a ∧ R4 a = xr R3 q 4 (some sh2.length) a := p4.2.1
  refine yw_putR dX3_init_62 fX3_28 (fun r h => by cases h; first | exact Or.inl rfl | exact Or.inr ⟨rfl, rfl, rfl⟩) rfl hq4 p4.at ?_
  refine yw_vret dX3_init_65 rfl ?_
  have ra : ∀ a, a ≠ q → a < sh.length → xr R4 q 5 (some sh3.length) a = R a := fun a h2 h3 => by
    funext j
    rw [xr_p h2, (e4 a (by omega)).2, xr_p h2, (e3 a (by omega)).2, xr_p h2, (e2 a (by omega)).2, ← hR1, xr_p h2]
  have rq : ∀ j, j ≠ 0 → j ≠ 3 → j ≠ 4 → j ≠ 5 → xr R4 q 5 (some sh3.length) q j = R q j := fun j h0 h3 h4 h5 => by
    rw [xr_s h5, (e4 q (by omega)).2, xr_s h4, (e3 q (by omega)).2, xr_s h3, (e2 q (by omega)).2, ← hR1, xr_s h0]
  refine k sh4 I4 _ (p2.S.tr (p3.S.tr p4.S)) (by omega) (fun a ha => ⟨?_, ra a (by omega) (by omega)⟩) ⟨hq4, ?_, ?_, ?_, ?_, ?_, ?_, ?_⟩ ?_ (fun j hj => ?_) (fun c hc j => ?_)
  · rw [(e4 a (by omega)).1, (e3 a (by omega)).1, (e2 a (by omega)).1, ← hI1]; funext j; rw [xi_p (by omega)]
  · have := p4.S _ _ (p3.S _ _ p2.at); rw [← hq1] at this; exact this
  · have := p4.S _ _ p3.at; rw [l2, ← hq1] at this; exact this
  · have := p4.at; rw [l3, l2, ← hq1] at this; exact this
  · rw [xr_s (by decide), (e4 q (by omega)).2, xr_s (by decide), (e3 q (by omega)).2, xr_s (by decide), (e2 q (by omega)).2, ← hR1, xr_e]
  · rw [xr_s (by decide), (e4 q (by omega)).2, xr_s (by decide), (e3 q (by omega)).2, xr_e, hq1]
  · rw [xr_s (by decide), (e4 q (by omega)).2, xr_e, l2]; congr 1; omega
  · rw [xr_e, l3, l2]; congr 1; omega
  · rw [(e4 q (by omega)).1]; exact q3
  · rw [(e4 q (by omega)).1, (e3 q (by omega)).1, (e2 q (by omega)).1, ← hI1, xi_s hj]
  · rcases hc with rfl | rfl | rfl
    · rw [(e4 _ (by omega)).1, (e3 _ (by omega)).1, hq1]; exact p2.2.2.1 j
    · rw [(e4 _ (by omega)).1, show q + 2 = sh2.length by omega]; exact p3.2.2.1 j
    · rw [show q + 3 = sh3.length by omega]; exact p4.2.2.1 j
end CINIT
