section X9A
variable {sh : List xSh} {I : Nat → Nat → Int32} {R : Nat → Nat → Option Nat}
variable {mc ms : Nat} {Q : Option Value → xHp → Prop}
theorem x9_img {j : Nat} (hj : j < 2) (h0 : sh[0]? = some (.inl 9)) (h1 : sh[1]? = some (.inl 5)) (hR0 : R 0 0 = some 1) (hR3 : R 0 3 = some 20) (h20 : sh[20]? = some (.inr (4, 2))) (hl : sh.length + 110 ≤ 1000000)
    (kk : ∀ sh' I' R' R2, gS sh sh' → sh'.length = sh.length + 11 → (∀ a, a < sh.length → I' a = I a ∧ R2 a = R a) → P8 sh.length sh' I' R2 → R' = xr R2 20 j (some sh.length) → Ex mX9_init 140 [.ref 0, .int (nI (j + 1))] [] (sh', I', R') mc ms Q) : Ex mX9_init 140 [.ref 0, .int (nI j)] [] (sh, I, R) ((bcT + mc) + 1) ((bsT + ms) + xN 8) Q := by
  have hlen := lt_of h20
  refine xw_iload_n dX9_init_140 rfl rfl ?_
  refine xw_iconst (v := nI 2) dX9_init_141 rfl ?_
  refine xw_icge (tgt := 168) dX9_init_142 (by decide) (fun z => absurd z (nI_ge hj (by omega))) (fun _ => ?_)
  refine xw_aload_n dX9_init_145 rfl rfl ?_
  refine yw_getR (r := 20) dX9_init_146 fX9_32 rfl h0 hR3 ?_
  refine xw_iload_n dX9_init_149 rfl rfl ?_
  refine ev_st (Y' := mX8_init) (P := P8) (tb := 20) (t := 4) (N := 2) dX9_init_150 dX9_init_153 dX9_init_154 dX9_init_155 dX9_init_158 dX9_init_161 nX9_25 fX9_10 lX9_27 kiX8_init rfl rfl (xB_of rfl) rfl rfl (Or.inl ⟨rfl, rfl⟩) (vp_nI hj (by omega)) h0 h1 hR0 h20 (by omega) hl ctor8 (fun sh' I' R' R2 g l u p e => ?_)
  refine yw_iinc (lv' := [.ref 0, .int (nI j + nI 1)]) (v := nI 1) dX9_init_162 rfl rfl rfl rfl rfl ?_
  refine xw_goto (tgt := 140) dX9_init_165 (by decide) ?_
  rw [nI_add]
  exact kk sh' I' R' R2 g l u p (by rw [e, nclamp (by omega)])
theorem x9_shf {j : Nat} (hj : j < 3) (h0 : sh[0]? = some (.inl 9)) (h1 : sh[1]? = some (.inl 5)) (hR0 : R 0 0 = some 1) (hR5 : R 0 5 = some 22) (h22 : sh[22]? = some (.inr (5, 3))) (hl : sh.length + 110 ≤ 1000000)
    (kk : ∀ sh' I' R' R2, gS sh sh' → sh'.length = sh.length + 3 → (∀ a, a < sh.length → I' a = I a ∧ R2 a = R a) → P6 sh.length sh' I' R2 → R' = xr R2 22 j (some sh.length) → Ex mX9_init 170 [.ref 0, .int (nI (j + 1))] [] (sh', I', R') mc ms Q) : Ex mX9_init 170 [.ref 0, .int (nI j)] [] (sh, I, R) ((bcH + mc) + 1) ((bsH + ms) + xN 6) Q := by
  have hlen := lt_of h22
  refine xw_iload_n dX9_init_170 rfl rfl ?_
  refine xw_iconst (v := nI 3) dX9_init_171 rfl ?_
  refine xw_icge (tgt := 198) dX9_init_172 (by decide) (fun z => absurd z (nI_ge hj (by omega))) (fun _ => ?_)
  refine xw_aload_n dX9_init_175 rfl rfl ?_
  refine yw_getR (r := 22) dX9_init_176 fX9_42 rfl h0 hR5 ?_
  refine xw_iload_n dX9_init_179 rfl rfl ?_
  refine ev_st (Y' := mX6_init) (P := P6) (tb := 22) (t := 5) (N := 3) dX9_init_180 dX9_init_183 dX9_init_184 dX9_init_185 dX9_init_188 dX9_init_191 nX9_40 fX9_10 lX9_78 kiX6_init rfl rfl (xB_of rfl) rfl rfl (Or.inr (Or.inl ⟨rfl, rfl⟩)) (vp_nI hj (by omega)) h0 h1 hR0 h22 (by omega) hl ctor6 (fun sh' I' R' R2 g l u p e => ?_)
  refine yw_iinc (lv' := [.ref 0, .int (nI j + nI 1)]) (v := nI 1) dX9_init_192 rfl rfl rfl rfl rfl ?_
  refine xw_goto (tgt := 170) dX9_init_195 (by decide) ?_
  rw [nI_add]
  exact kk sh' I' R' R2 g l u p (by rw [e, nclamp (by omega)])
/-- a machine into a field of 0 -/
theorem x9_mac {idxF k M pc1 pc2 : Nat} {pc : Nat} (hd0 : decode mX9_init.2.1 pc = .ok (.new 60, 3)) (hd1 : decode mX9_init.2.1 (pc + 3) = .ok (.dup, 1)) (hd2 : decode mX9_init.2.1 (pc + 4) = .ok (.aload_n 0, 1)) (hd3 : decode mX9_init.2.1 (pc + 5) = .ok (.getfield 10, 3)) (hpush : ∀ {h : xHp} {st : List Value} {mc ms : Nat}, Ex mX9_init pc1 [.ref 0, xU] (.int (nI M) :: st) h mc ms Q → Ex mX9_init (pc + 8) [.ref 0, xU] st h mc ms Q) (hd4 : decode mX9_init.2.1 pc1 = .ok (.invokespecial 64, 3)) (e12 : pc1 + 3 = pc2) (hd5 : decode mX9_init.2.1 pc2 = .ok (.putfield idxF, 3))
    (hF : xF mX9_init.1.cls idxF 9 k) (hP : xP mX9_init 9 k) (hty : xref (xft 9 k) = true) (hM : M ≤ 8)
    (hq : sh[0]? = some (.inl 9)) (h1 : sh[1]? = some (.inl 5)) (hR0 : R 0 0 = some 1) (h1q : 1 < sh.length) (hl : sh.length + 110 ≤ 1000000)
    (kk : ∀ sh' I' R', evK sh I R 0 k 4 sh' I' R' → xMach sh' R' sh.length M → I' sh.length 1 = nI M → Ex mX9_init (pc2 + 3) [.ref 0, xU] [] (sh', I', R') mc ms Q) : Ex mX9_init pc [.ref 0, xU] [.ref 0] (sh, I, R) ((bcM + mc) + 1) ((bsM M + ms) + xN 3) Q := by
  subst e12
  refine yw_newO hd0 nX9_60 (by omega) (fun sh1 I1 R1 p1 => ?_)
  have l1 := p1.len
  refine xw_dup hd1 rfl ?_
  refine xw_aload_n hd2 rfl rfl ?_
  refine yw_getR (r := 1) hd3 fX9_10 rfl (p1.S _ _ hq) (by rw [(p1.2.1 0 (by omega)).2]; exact hR0) ?_
  refine hpush ?_
  refine xw_callI (Y' := mX3_init) (mc1 := bcM) (ms1 := bsM M) (mc := mc) (ms := ms) (As := [.ref 1, .int (nI M)]) (b := sh.length) (st := [.ref sh.length, .ref 0]) hd4 lX9_64 kiX3_init rfl rfl (xB_of rfl) rfl rfl (Nat.le_of_ble_eq_true rfl) (Nat.le_of_ble_eq_true rfl) ?_
  refine xk_W (x3_init hM p1.at l1.symm (p1.S _ _ h1) h1q (by omega) (fun sh2 I2 R2 s2 l2 e2 m2 i1 i2 z2 => ?_))
  refine yw_putR hd5 hF hP hty (s2 _ _ (p1.S _ _ hq)) m2.1 (kk sh2 I2 _ ⟨p1.S.tr s2, by omega, fun a ha hne => ⟨?_, ?_⟩, fun j => ?_, fun j hj => ?_, xr_e⟩ (m2.gr1 (fun _ _ h => h) (by funext j; rw [xr_p (by omega)])) i1)
  · rw [(e2 a ha).1, (p1.2.1 a (by omega)).1]
  · funext j; rw [xr_p hne, (e2 a ha).2, (p1.2.1 a (by omega)).2]
  · rw [(e2 0 (by omega)).1, (p1.2.1 0 (by omega)).1]
  · rw [xr_s hj, (e2 0 (by omega)).2, (p1.2.1 0 (by omega)).2]
end X9A
