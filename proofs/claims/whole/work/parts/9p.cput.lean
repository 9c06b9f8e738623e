section CPUT
variable {sh : List xSh} {I : Nat → Nat → Int32} {R : Nat → Nat → Option Nat}
abbrev bcP : Nat := ((0 + 1 + 1 + 1) + 0) + 1
abbrev bsP : Nat := ((0 + 4 * 3 * 4 + 4 + 4) + 0) + xN 3
theorem xk_W {Y Y' : xM} {pc' : Nat} {lv st vs : List Value} {h : xHp} {mc ms mc1 ms1 : Nat} {Q : Option Value → xHp → Prop} (k : Cl Y' vs h mc1 ms1 (xqV (fun h' => Ex Y pc' lv st h' mc ms Q))) : Cl Y' vs h mc1 ms1 (fun v h' => Ex Y pc' lv (v.toList ++ st) h' mc ms Q) := Cl.mono k (fun v h' ⟨e, q⟩ => by subst e; exact q)
theorem k_put {σ : St} {a i sort q2 : Nat} {M : Mac} {s : Shf} {Q : xHp → Prop} (hW : clR sh I R σ) (ha : a < 3) (hs : σ.shf a = some s) (hi : i < s.size) (hso : sort ≤ 1) (hm2 : xMach sh R q2 4) (hq2 : q2 = 12 ∨ q2 = 16 ∨ q2 = 173) (hM4 : M.1 ≤ 4) (hokM : okM σ.p σ.L M) (hcM : cM I σ.L q2 4 M) (hlen : sh.length + 4 ≤ 1000000)
    (k : ∀ sh' I' R', clR sh' I' R' (putS σ a i sort M) → cFr I I' → sh'.length ≤ sh.length + 4 → Q (sh', I', R')) : Cl mX6_put [.ref (200 + 3 * a), .int (nI i), .ref q2, .int (nI sort)] (sh, I, R) bcP bsP (xqV Q) := by
  show Ex mX6_put 0 [.ref (200 + 3 * a), .int (nI i), .ref q2, .int (nI sort)] [] (sh, I, R) bcP bsP (xqV Q)
  have hok := hW.ok.shf a s hs
  have h8 := hok.2.1
  have hsh := hW.shf a ha
  rw [hs] at hsh
  have hl := hW.lay.len
  have tail : ∀ (sh1 : List xSh) (I1 : Nat → Nat → Int32) (R1 : Nat → Nat → Option Nat) (q : Nat), clR sh1 I1 R1 σ → cFr I I1 → sh1.length ≤ sh.length + 4 → xMach sh1 R1 q2 4 → cM I1 σ.L q2 4 M → R1 (200 + 3 * a + 1) i = some q → Ex mX6_put 36 [.ref (200 + 3 * a), .int (nI i), .ref q2, .int (nI sort)] [] (sh1, I1, R1) 0 0 (xqV Q) := by
    intro sh1 I1 R1 q h1 hf1 hl1 hm1 hc1 hq
    obtain ⟨b1, b2, b3⟩ := h1.pl.1 a i q ha (by omega) hq
    refine bX6_put_36 h1.lay (h1.shelf ha) hm1 ⟨vp_nI (by omega) (by omega), ?_⟩
    rw [nclamp (a := i) (by omega)]
    refine ⟨fun z => absurd (hq.symm.trans z) (by simp), fun r1 hr1 => ?_⟩
    obtain rfl : r1 = q := Option.some.inj (hr1.symm.trans hq)
    refine ⟨b2, k_copy h1.lay h1.ctx b2 hm1 (by omega) (by omega) (by omega) (by omega) b3 hc1 hokM hM4 (fun I2 f2 c2 => bX6_put_46 h1.lay (h1.shelf ha) ⟨vp_nI (by omega) (by omega), ?_⟩)⟩
    rw [nclamp (a := i) (by omega)]
    refine k sh1 _ R1 (h1.putY ha hs hi hso hq hM4 hokM (fun c x1 x2 x3 x4 x5 => ?_) (fun j hj => ?_) xi_e ?_) (fun c x1 x2 => ?_) hl1
    · funext j; rw [xi_p x5]; exact f2.at c j (by simp; omega)
    · rw [xi_s hj]; exact f2.at _ j (by simp; omega)
    · exact c2.eq (by funext j; rw [xi_p (by omega)]) (by funext j; rw [xi_p (by omega)]) (by funext j; rw [xi_p (by omega)]) (by funext j; rw [xi_p (by omega)])
    · funext j; rw [xi_p (by omega), f2.at c j (by simp; omega), hf1 c x1 x2]
  refine bX6_put_0 hW.lay (hW.shelf ha) hm2 (k_hasCell hW.lay (hW.shelf ha) hsh.1 (by omega) (fun b hb hblt => bX6_put_5 hW.lay (hW.shelf ha) hm2 ⟨fun _ => ⟨vp_nI (by omega) (by omega), ?_⟩, fun z => absurd z (by decide)⟩) (fun hn => absurd ((inB_n (by omega)).mpr hi) hn))
  rw [nclamp (a := i) (by omega)]
  refine ⟨fun hno => ?_, fun r1 hr1 => ⟨(hW.pl.1 a i r1 ha (by omega) hr1).2.1, (tail sh I R r1 hW cFr.rf (by omega) hm2 hcM hr1).up (Nat.zero_le _) (Nat.zero_le _)⟩⟩
  refine yw_newO dX6_put_23 nX6_9 (by omega) (fun sh1 I1 R1 p1 => ?_)
  have l1 := p1.len
  have hn1 := p1.at
  have hL1 : xLay sh1 R1 := hW.lay.gr p1.S (fun c hc => (p1.2.1 c (by omega)).2)
  have hq1 : xShelf sh1 R1 (200 + 3 * a) := hL1.2.2.2.2.2.2.1 a ha
  refine xw_dup dX6_put_26 rfl ?_
  refine xw_aload_n dX6_put_27 rfl rfl ?_
  refine yw_getR (r := 1) dX6_put_28 fX6_25 rfl hq1.1 hq1.2.2.2.1 ?_
  refine xw_iconst (v := nI 4) dX6_put_31 rfl ?_
  refine xw_callI (mc1 := 0 + 1 + 1 + 1) (ms1 := 0 + 4 * 3 * 4 + 4 + 4) (mc := 0) (ms := 0) (Y' := mX3_init) (As := [.ref 1, .int (nI 4)]) (b := sh.length) (st := [.ref sh.length, .int (nI i), .ref (200 + 3 * a + 1)]) dX6_put_32 lX6_42 kiX3_init rfl rfl (xB_of rfl) rfl rfl (Nat.le_of_ble_eq_true rfl) (Nat.le_of_ble_eq_true rfl) ?_
  refine xk_W (x3_init (M := 4) (by omega) hn1 l1.symm (la_1 hL1) (by omega) (by omega) (fun sh2 I2 R2 s2 l2 e2 m2 i1 i2 z2 => (?_ : Ex mX6_put 35 [.ref (200 + 3 * a), .int (nI i), .ref q2, .int (nI sort)] [.ref sh.length, .int (nI i), .ref (200 + 3 * a + 1)] (sh2, I2, R2) 0 0 (xqV Q))))
  have gs : gS sh sh2 := p1.S.tr s2
  have gr : gR sh.length R R2 := fun c hc => by rw [(e2 c hc).2, (p1.2.1 c (by omega)).2]
  have gi : ∀ c, c < sh.length → I2 c = I c := fun c hc => by rw [(e2 c hc).1, (p1.2.1 c (by omega)).1]
  have hW2 : clR sh2 I2 R2 σ := hW.gr gs gr gi
  refine yw_aastore dX6_put_35 (gs _ _ (hW.shelf ha).2.1) m2.1 (Or.inr (Or.inr ⟨rfl, rfl⟩)) (vp_nI (by omega) (by omega)) ?_
  rw [nclamp (a := i) (by omega)]
  have hW3 := hW2.cell (q := sh.length) ha (show i < 8 by omega) (by rw [gr _ (by omega)]; exact hno) (by omega) m2 i1 (fun k0 j0 q' hk hj eq => by
    rw [gr _ (by omega)] at eq
    exact lt_of (hW.pl.1 k0 j0 q' hk hj eq).2.1.2.2.2.1)
  exact tail sh2 I2 _ sh.length hW3 (fun c x1 x2 => gi c (by omega)) (by omega) ((hm2.gr gs gr).cr (fun c h1 h2 h3 => by funext j; rw [xr_p (by omega)]) (by omega)) (hcM.eq (gi _ (by omega)) (gi _ (by omega)) (gi _ (by omega)) (gi _ (by omega))) xr_e
theorem k_lay {σ : St} [NeZero σ.p] {v i m : Int32} {Q : Int32 → xHp → Prop} (hW : clR sh I R σ) (hlen : sh.length + 4 ≤ 1000000) (k : ∀ sh' I' R', clR sh' I' R' (layA σ v i m).2 → cFr I I' → sh'.length ≤ sh.length + 4 → Q (layA σ v i m).1 (sh', I', R')) : Ex mX9_lay 0 [.ref 0, .int v, .int i, .int m, xU, xU, xU] [] (sh, I, R) (bcP + 0) (bsP + 0) (xqI Q) := by
  unfold layA at k
  have no : ¬ inB v 3 → Q (-1) (sh, I, R) := fun hn => by rw [if_neg hn] at k; exact k sh I R hW cFr.rf (by omega)
  refine bX9_lay_0 hW.lay (k_isShelf hW.lay (fun a ha hlt => bX9_lay_4 hW.lay ⟨fun z => absurd z (by decide), fun _ => ?_⟩) (fun hn => bX9_lay_4 hW.lay ⟨fun _ => no hn, fun z => absurd rfl z⟩))
  subst ha
  rw [if_pos ((inB_n (by omega)).mpr hlt), nN_n (by omega)] at k
  refine k_isMachine hW.lay (fun b hb hblt => bX9_lay_11 hW.lay ⟨fun _ => ?_, fun z => absurd z (by decide)⟩) (fun hn => bX9_lay_11 hW.lay ⟨fun z => absurd rfl z, fun _ => ?_⟩)
  · subst hb
    refine k_machineOf hW hblt (fun I1 R1 q hW1 hf hans hc h4 hok hq hqs => ⟨fun z => absurd z (by simp), fun r hr => ?_⟩) (fun hans => ⟨fun _ => bX9_lay_21N hW.lay ?_, fun r hr => absurd hr (by simp)⟩)
    · cases hr
      rw [hans] at k
      have fin : ∀ sort, sort ≤ 1 → (if nI b = 0 then 0 else 1) = sort → CI mX6_faultOfLaying [.ref (200 + 3 * a), .int i, .int (nI sort)] (sh, I1, R1) (fun w h1 => Ex mX9_lay 54 [.ref 0, .int (nI a), .int i, xU, .ref q, .int (nI sort), xU] (.int w :: []) h1 (bcP + 0) (bsP + 0) (xqI Q)) := by
        intro sort hso es
        rw [es] at k
        refine k_fLay hW1 hlt hso (bX9_lay_54 hW1.lay hq ⟨fun z => ?_, fun z => ?_⟩)
        · have hle : layF (σ.shf a) i sort ≤ 5 := by
            unfold layF
            split
            · split <;> omega
            · rename_i h
              have := foundF_le (σ.shf a) (nI 2) i
              unfold foundF at this
              rw [if_neg h] at this
              exact this
          have h0 : layF (σ.shf a) i sort = 0 := (nI_eq (b := 0) (by omega) (by omega)).mp z
          rw [if_pos h0] at k
          have hc0 : cellF (σ.shf a) (nI 2) i = 0 := by
            by_cases e : cellF (σ.shf a) (nI 2) i = 0
            · exact e
            · unfold layF at h0; rw [if_neg e] at h0; exact absurd h0 e
          obtain ⟨s, es2, hib⟩ := cellF_0 hc0
          obtain ⟨ei, hi⟩ := inB_N hib
          refine xw_aload_n dX9_lay_67 rfl rfl ?_
          refine yw_getR (r := 22) dX9_lay_68 fX9_42 rfl (la_0 hW1.lay) (lr_0_5 hW1.lay) ?_
          refine xw_iload_n dX9_lay_71 rfl rfl ?_
          refine yw_aaload (r := 200 + 3 * a) dX9_lay_72 (la_22 hW1.lay) (by decide) (vp_nI hlt (by omega)) (by rw [nclamp (by omega)]; exact la_shf hW1.lay hlt) ?_
          refine xw_iload_n dX9_lay_73 rfl rfl ?_
          refine xw_aload dX9_lay_74 rfl ?_
          refine xw_iload dX9_lay_76 rfl ?_
          refine xw_callV (h := (sh, I1, R1)) (Y' := mX6_put) (As := [.int i, .ref q, .int (nI sort)]) (b := 200 + 3 * a) (ci := 6) (st := []) dX9_lay_78 lX9_330 kiX6_put kvX6_put (xB_of rfl) rfl rfl (hW1.shelf hlt).1 rfl (Nat.le_of_ble_eq_true rfl) (Nat.le_of_ble_eq_true rfl) ?_
          rw [ei]
          refine xk_W (k_put (i := nN i) hW1 hlt es2 hi hso hq hqs h4 hok hc (by omega) (fun sh2 I2 R2 h2 f2 l2 => (?_ : Ex mX9_lay 81 [.ref 0, .int (nI a), .int (nI (nN i)), xU, .ref q, .int (nI sort), xU] [] (sh2, I2, R2) 0 0 (xqI Q))))
          refine xw_iconst (v := nI 1) dX9_lay_81 rfl ?_
          exact yw_iret dX9_lay_82 rfl (k sh2 I2 R2 h2 (hf.tr f2) l2)
        · rw [if_neg (fun y => z (by rw [y]; rfl))] at k
          exact k sh I1 R1 hW1 hf (by omega)
      refine bX9_lay_21 hW1.lay hq ⟨fun z => ⟨vp_nI hlt (by omega), ?_⟩, fun z => ⟨vp_nI hlt (by omega), ?_⟩⟩
      · rw [nclamp (a := a) (by omega)]; exact fin 1 (by omega) (if_neg z)
      · rw [nclamp (a := a) (by omega)]; exact fin 0 (by omega) (if_pos z)
    · rw [hans] at k
      exact k sh I R hW cFr.rf (by omega)
  · unfold ansM at k
    rw [if_neg hn] at k
    exact k sh I R hW cFr.rf (by omega)
end CPUT
