section CNAME
variable {sh : List xSh} {I : Nat → Nat → Int32} {R : Nat → Nat → Option Nat}
theorem sl_sh : ∀ i, i < 6 → nI (xSlen.getD i 0) >>> (nI 0 &&& 31) = nI (xSlen.getD i 0) := by decide +kernel
theorem sl_nm : ∀ i, i < 6 → xSlen.getD i 0 = (nmS.getD i []).length ∧ xSlen.getD i 0 ≤ 7 := by decide +kernel
theorem sl_ch : ∀ i, i < 6 → ∀ j, j < xSlen.getD i 0 → ((((xSbyt.getD i []).getD j 0) &&& (nI 255)).toUInt32 % 65536).toInt32 = nI ((nmS.getD i []).getD j 0) ∧ (nmS.getD i []).getD j 0 < 128 := by decide +kernel
theorem nar_ch : ∀ c, c < 128 → narrow .char (.int (nI c)) = .int (nI c) := by decide +kernel
theorem k_len {i : Nat} {Q : Int32 → xHp → Prop} (hW : xLay sh R) (hi : i < 6) (k : Q (nI (xSlen.getD i 0)) (sh, I, R)) : CI mJ0_length_8abf5 [.ref (1000001 + i)] (sh, I, R) Q := by
  refine eJ0_length_8abf5 (bJ0_length_8abf5_0 hW hi (eJ0_coder_7d493 (bJ0_coder_7d493_0 hW hi ⟨by decide, bJ0_length_8abf5_9 hW ?_⟩)))
  rw [sl_sh i hi]; exact k
theorem k_char {i j : Nat} {Q : Int32 → xHp → Prop} (hW : xLay sh R) (hi : i < 6) (hj : j < xSlen.getD i 0) (k : Q (nI ((nmS.getD i []).getD j 0)) (sh, I, R)) : CI mJ0_charAt_5068e [.ref (1000001 + i), .int (nI j)] (sh, I, R) Q := by
  obtain ⟨e, hlt⟩ := sl_ch i hi j hj
  have h7 := (sl_nm i hi).2
  have ck : ∀ {P : Prop}, P → (nI j < 0 → False) ∧ (¬ nI j < 0 → (nI j < nI (xSlen.getD i 0) → P) ∧ (¬ nI j < nI (xSlen.getD i 0) → False)) := fun q => ⟨fun z => by have := lt0.mp z; rw [nI_toInt (by omega)] at this; omega, fun _ => ⟨fun _ => q, fun z => z (nI_lt hj (by omega))⟩⟩
  refine eJ0_charAt_5068e (bJ0_charAt_5068e_0 hW hi (eJ0_isLatin1_aae02 (bJ0_isLatin1_aae02_0 hW hi (bJ0_charAt_5068e_4 hW hi ⟨fun z => absurd z (by decide), fun _ => eJ1_charAt_3b067 (bJ1_charAt_3b067_0 hW hi (eJ0_checkIndex_df160 (bJ0_checkIndex_df160_0 hW ⟨eJ3_checkIndex_8e157 (bJ3_checkIndex_8e157_0 hW (ck ?_)), eJ3_checkIndex_8e157R (bJ3_checkIndex_8e157_0R hW (ck ?_))⟩)))⟩))))
  all_goals
    refine bJ0_checkIndex_df160_8 hW (bJ1_charAt_3b067_6 hW hi ⟨vp_nI hj (by omega), ?_⟩)
    rw [nclamp (a := j) (by omega), e]
    exact ⟨nar_ch _ hlt, bJ0_charAt_5068e_15 hW ⟨nar_ch _ hlt, k⟩⟩
theorem k_isNamed {T : List Nat} {a b i : Nat} {Q : Int32 → xHp → Prop} (hW : xLay sh R) (hT : cT I T) (h4 : I 2 4 = nI a) (h2 : I 2 2 = nI b) (hab : a ≤ b) (hb : b ≤ T.length) (hi : i < 6) (k1 : isN T a b i → Q (nI 1) (sh, I, R)) (k0 : ¬ isN T a b i → Q (nI 0) (sh, I, R)) : CI mX4_isNamed [.ref 2, .ref (1000001 + i)] (sh, I, R) Q := by
  have hT2 := hT.2.1
  obtain ⟨el, h7⟩ := sl_nm i hi
  have loop : ∀ m j, j + m = xSlen.getD i 0 → b - a = xSlen.getD i 0 → (∀ c, c < j → T.getD (a + c) 0 = (nmS.getD i []).getD c 0) → Ex mX4_isNamed 20 [.ref 2, .ref (1000001 + i), .int (nI j)] [] (sh, I, R) 0 0 (xqI Q) := by
    intro m
    induction m with
    | zero =>
      intro j hj hba hc
      obtain rfl : j = xSlen.getD i 0 := by omega
      refine bX4_isNamed_20 hW hi (k_len hW hi (bX4_isNamed_25 hW hi ⟨fun _ => k1 ⟨by rw [← el]; exact hba, fun c hlt => hc c (by rw [el]; exact hlt)⟩, fun z => absurd (nI_le (Nat.le_refl _) (by omega)) z⟩))
    | succ m ih =>
      intro j hj hba hc
      refine bX4_isNamed_20 hW hi (k_len hW hi (bX4_isNamed_25 hW hi ⟨fun z => absurd z (nI_ge (by omega) (by omega)), fun _ => ?_⟩))
      rw [h4, nI_add, nclamp (a := a + j) (by omega), hT.2.2.1 (a + j) (by omega)]
      refine ⟨vp_nI (by omega) (by omega), k_char hW hi (by omega) (bX4_isNamed_44 hW hi ⟨fun z => ?_, fun z => ?_⟩)⟩
      · rw [show nI j + nI 1 = nI (j + 1) from nI_add j 1]
        refine ih (j + 1) (by omega) hba (fun c hlt => ?_)
        by_cases e : c = j
        · subst e
          exact (nI_eq (by have := hT.2.2.2 (a + c); omega) (by have := (sl_ch i hi c (by omega)).2; omega)).mp z
        · exact hc c (by omega)
      · exact k0 (fun q => z (by rw [q.2 j (by rw [← el]; omega)]))
  refine eX4_isNamed (bX4_isNamed_0 hW hi (k_len hW hi (bX4_isNamed_13 hW hi ?_)))
  rw [h4, h2, pk_sub hab]
  refine ⟨fun z => loop (xSlen.getD i 0) 0 (by omega) ((nI_eq (by omega) (by omega)).mp z) (fun c hc => absurd hc (Nat.not_lt_zero c)), fun z => k0 (fun q => z ?_)⟩
  rw [q.1, el]
/-- which line it is -/
theorem k_kindL {T : List Nat} {t : Nat × Nat × Nat} {Q : Int32 → xHp → Prop} (hW : xLay sh R) (hT : cT I T) (hK : cK I T (.inr t)) (k1 : ∀ w, t.1 = 1 → nmW T t.2.1 t.2.2 = some w → Q (nI w) (sh, I, R)) (k0 : (t.1 = 1 → nmW T t.2.1 t.2.2 = none) → Q (-1) (sh, I, R)) : CI mX4_kindOfLine [.ref 2] (sh, I, R) Q := by
  obtain ⟨h13, h3, h4, h2, hok, h5⟩ := hK
  have hk3 := hok.1
  have y : ∀ n w, isN T t.2.1 t.2.2 w → nmF T t.2.1 t.2.2 (n + 1) w = some w := fun n w h => by unfold nmF; exact if_pos h
  have no : ∀ n w, ¬ isN T t.2.1 t.2.2 w → nmF T t.2.1 t.2.2 (n + 1) w = nmF T t.2.1 t.2.2 n (w + 1) := fun n w h => by rw [nmF]; exact if_neg h
  refine eX4_kindOfLine (bX4_kindOfLine_0 hW ⟨fun z => ?_, fun z => k0 (fun q => absurd (by rw [h3, q]) z)⟩)
  have ht1 : t.1 = 1 := (nI_eq (by omega) (by omega)).mp (h3.symm.trans z)
  have nm : ∀ {i : Nat} {Q : Int32 → xHp → Prop}, i < 6 → (isN T t.2.1 t.2.2 i → Q (nI 1) (sh, I, R)) → (¬ isN T t.2.1 t.2.2 i → Q (nI 0) (sh, I, R)) → CI mX4_isNamed [.ref 2, .ref (1000001 + i)] (sh, I, R) Q := fun hi a b => k_isNamed hW hT h4 h2 hok.2.1 hok.2.2.1 hi a b
  refine nm (i := 0) (by omega) (fun q => bX4_kindOfLine_16 hW ⟨fun z => absurd z (by decide), fun _ => k1 0 ht1 (y 5 0 q)⟩) (fun q0 => bX4_kindOfLine_16 hW ⟨fun _ => ?_, fun z => absurd rfl z⟩)
  refine nm (i := 1) (by omega) (fun q => bX4_kindOfLine_27 hW ⟨fun z => absurd z (by decide), fun _ => k1 1 ht1 ((no 5 0 q0).trans (y 4 1 q))⟩) (fun q1 => bX4_kindOfLine_27 hW ⟨fun _ => ?_, fun z => absurd rfl z⟩)
  refine nm (i := 2) (by omega) (fun q => bX4_kindOfLine_38 hW ⟨fun z => absurd z (by decide), fun _ => k1 2 ht1 ((no 5 0 q0).trans ((no 4 1 q1).trans (y 3 2 q)))⟩) (fun q2 => bX4_kindOfLine_38 hW ⟨fun _ => ?_, fun z => absurd rfl z⟩)
  refine nm (i := 3) (by omega) (fun q => bX4_kindOfLine_49 hW ⟨fun z => absurd z (by decide), fun _ => k1 3 ht1 ((no 5 0 q0).trans ((no 4 1 q1).trans ((no 3 2 q2).trans (y 2 3 q))))⟩) (fun q3 => bX4_kindOfLine_49 hW ⟨fun _ => ?_, fun z => absurd rfl z⟩)
  refine nm (i := 4) (by omega) (fun q => bX4_kindOfLine_60 hW ⟨fun z => absurd z (by decide), fun _ => k1 4 ht1 ((no 5 0 q0).trans ((no 4 1 q1).trans ((no 3 2 q2).trans ((no 2 3 q3).trans (y 1 4 q)))))⟩) (fun q4 => bX4_kindOfLine_60 hW ⟨fun _ => ?_, fun z => absurd rfl z⟩)
  refine nm (i := 5) (by omega) (fun q => bX4_kindOfLine_71 hW ⟨fun z => absurd z (by decide), fun _ => k1 5 ht1 ((no 5 0 q0).trans ((no 4 1 q1).trans ((no 3 2 q2).trans ((no 2 3 q3).trans ((no 1 4 q4).trans (y 0 5 q))))))⟩) (fun q5 => bX4_kindOfLine_71 hW ⟨fun _ => ?_, fun z => absurd rfl z⟩)
  exact k0 (fun _ => (no 5 0 q0).trans ((no 4 1 q1).trans ((no 3 2 q2).trans ((no 2 3 q3).trans ((no 1 4 q4).trans (no 0 5 q5))))))
/-! the other takings -/
theorem pz_ok {T : List Nat} {y : Pz Nat} {t : Nat × Nat × Nat} (hP : cP I T y) (h : bnd y (nx T) = .inr t) : tkOK T t.1 t.2.1 t.2.2 := by
  cases y with
  | inl e => exact absurd h (by simp [bnd])
  | inr i => rw [bnd_r] at h; exact (nx_ok hP.2.2 h).1
theorem k_takePrime {T : List Nat} {y : Pz Nat} {Q : Int32 → xHp → Prop} (hW : xLay sh R) (hT : cT I T) (hP : cP I T y)
    (k : ∀ I' v, tF I I' → (∀ r, priP T (bnd y (nx T)) = .inr r → v = r.1) → cP I' T (bnd (priP T (bnd y (nx T))) (fun r => .inr r.2)) → Q (nI v) (sh, I', R)) : CI mX4_takePrime [.ref 2] (sh, I, R) Q := by
  refine eX4_takePrime (bX4_takePrime_0 hW (k_takeNum hW hT hP (by omega) (by omega) (fun I1 v f1 hv _ hP1 hfr => ?_)))
  have hok : ∀ t, bnd y (nx T) = .inr t → tkOK T t.1 t.2.1 t.2.2 := fun t => pz_ok hP
  generalize bnd y (nx T) = x at *
  have hT2 := hT.2.1
  cases x with
  | inl e =>
    have hn := cE.ne (I := I1) (e := e) hP1
    exact bX4_takePrime_7 hW ⟨fun _ => k I1 v f1 (fun r hr => absurd hr (by simp [priP, bnd])) hP1, fun z => absurd z hn⟩
  | inr t =>
    have hokt := hok t rfl
    have e0 : numP T (.inr t) 0 99 = if t.1 = 2 then (if 0 ≤ tvl T t.2.1 t.2.2 ∧ tvl T t.2.1 t.2.2 ≤ 99 then .inr (tvl T t.2.1 t.2.2, t.2.2) else .inl (3, t.2.1)) else .inl (2, t.2.1) := rfl
    have e1 : priP T (.inr t) = if t.1 = 2 then (if tvl T t.2.1 t.2.2 ∈ PR then .inr (tvl T t.2.1 t.2.2, t.2.2) else .inl (3, t.2.1)) else .inl (2, t.2.1) := rfl
    by_cases hk2 : t.1 = 2
    · rw [hk2] at hokt
      have hvl := tvl_lt hokt
      rw [if_pos hk2, if_pos ⟨Nat.zero_le _, hvl⟩] at e0
      rw [if_pos hk2] at e1
      have hv2 := hv _ e0
      rw [e0, bnd_r] at hP1
      obtain ⟨p13, p2, pl⟩ := hP1
      obtain ⟨a, ha, h4, t', et, hta⟩ := hfr p13
      cases et
      refine bX4_takePrime_7 hW ⟨fun z => absurd p13 z, fun _ => ?_⟩
      rw [hv2]
      refine k_isPrime hW hvl (fun hp => bX4_takePrime_19 hW ⟨fun _ => ?_, fun z => absurd z (by decide)⟩) (fun hp => bX4_takePrime_19 hW ⟨fun z => absurd rfl z, fun _ => ?_⟩)
      · rw [if_pos hp] at e1
        exact k I1 _ f1 (fun r hr => by rw [e1] at hr; cases hr; rfl) (by rw [e1]; exact ⟨p13, p2, pl⟩)
      · rw [if_neg hp] at e1
        rw [h4]
        refine k_refuse hW p13 (by omega) (by omega) ha (fun I2 f2 _ c2 => bX4_takePrime_31 hW ?_)
        exact k I2 _ (f1.tr f2) (fun r hr => by rw [e1] at hr; cases hr) (by rw [e1, hta]; exact c2)
    · rw [if_neg hk2] at e0 e1
      rw [e0] at hP1
      have hn := cE.ne (I := I1) (e := (2, t.2.1)) hP1
      exact bX4_takePrime_7 hW ⟨fun _ => k I1 v f1 (fun r hr => by rw [e1] at hr; cases hr) (by rw [e1]; exact hP1), fun z => absurd z hn⟩
theorem k_takeLet {T : List Nat} {y : Pz Nat} {Q : Int32 → xHp → Prop} (hW : xLay sh R) (hT : cT I T) (hP : cP I T y)
    (k : ∀ I' v, tF I I' → (∀ r, letP T (bnd y (nx T)) = .inr r → v = r.1) → v ≤ 2 → cP I' T (bnd (letP T (bnd y (nx T))) (fun r => .inr r.2)) → Q (nI v) (sh, I', R)) : CI mX4_takeLetter [.ref 2] (sh, I, R) Q := by
  refine eX4_takeLetter (bX4_takeLetter_0 hW (k_next hW hT hP (fun I1 f1 hK => ?_)))
  generalize bnd y (nx T) = x at *
  have hT2 := hT.2.1
  cases x with
  | inl e =>
    have hn := cE.ne (I := I1) (e := e) hK
    exact bX4_takeLetter_4 hW ⟨fun z => absurd z hn, fun _ => k I1 0 f1 (fun r hr => absurd hr (by simp [letP, bnd])) (by omega) hK⟩
  | inr t =>
    obtain ⟨h13, h3, h4, h2, hok, h5⟩ := hK
    have hk3 := hok.1
    have ha : t.2.1 ≤ 200 := by have := hok.2.1; have := hok.2.2.1; omega
    have e1 : letP T (.inr t) = if t.1 = 1 ∧ t.2.2 = t.2.1 + 1 ∧ T.getD t.2.1 0 ≤ 99 then .inr (T.getD t.2.1 0 - 97, t.2.2) else .inl (2, t.2.1) := rfl
    have bad : ¬ (t.1 = 1 ∧ t.2.2 = t.2.1 + 1 ∧ T.getD t.2.1 0 ≤ 99) → CV mX4_refuse [.ref 2, .int (nI 2), .int (I1 2 4)] (sh, I1, R) (fun h1 => Ex mX4_takeLetter 65 [xU, xU] [] h1 0 0 (xqI Q)) := fun h => by
      rw [if_neg h] at e1
      rw [h4]
      refine k_refuse hW h13 (by omega) (by omega) ha (fun I2 f2 _ c2 => bX4_takeLetter_65 hW ?_)
      exact k I2 0 (f1.tr f2) (fun r hr => by rw [e1] at hr; cases hr) (by omega) (by rw [e1]; exact c2)
    have hbl := hok.2.2.1
    have hab := hok.2.1
    have key : (I1 2 2 - I1 2 4) = nI (t.2.2 - t.2.1) := by rw [h2, h4, pk_sub hab]
    have hlow := hok.2.2.2.2.2.1
    have hlt := hok.2.2.2.2.1
    have hchr := hT.2.2.2 t.2.1
    refine bX4_takeLetter_4 hW ⟨fun _ => ⟨fun z => ⟨fun w => absurd w (by decide), fun _ => bad (fun q => z (by rw [h3, q.1]))⟩, fun z => ⟨fun w => ⟨fun u => absurd u (by decide), fun _ => bad (fun q => w ?_)⟩, fun w => ⟨?_, fun u => ?_, fun u => ?_⟩⟩⟩, fun z => absurd h13 z⟩
    · rw [key, q.2.1]; congr 1; omega
    · have ht1 : t.1 = 1 := (nI_eq (by omega) (by omega)).mp (h3.symm.trans z)
      have := hlt (by omega)
      rw [h4]; exact vp_nI (by omega) (by omega)
    all_goals
      have ht1 : t.1 = 1 := (nI_eq (by omega) (by omega)).mp (h3.symm.trans z)
      have hl := lowC_iff.mp (hlow ht1)
      have hb1 : t.2.2 = t.2.1 + 1 := by have := (nI_eq (by omega) (by omega)).mp (key.symm.trans w); have := hlt (by omega); omega
      have ec : I1 3 ((I1 2 4).toNatClampNeg) = nI (T.getD t.2.1 0) := by rw [h4, nclamp (by omega)]; exact (hT.tF f1).2.2.1 _ (by omega)
      rw [ec, pk_sub hl.1] at u
    · have h3' := (nI_ltI (by omega) (by omega)).mp u
      rw [if_pos ⟨ht1, hb1, by omega⟩] at e1
      rw [ec, pk_sub hl.1]
      exact k I1 _ f1 (fun r hr => by rw [e1] at hr; cases hr; rfl) (by omega) (by rw [e1]; exact ⟨h13, h2, hbl⟩)
    · exact bad (fun q => u (nI_lt (by omega) (by omega)))
theorem k_takeSign {T : List Nat} {y : Pz Nat} {Q : xHp → Prop} (hW : xLay sh R) (hT : cT I T) (hP : cP I T y)
    (k : ∀ I', tF I I' → cP I' T (sgnP (bnd y (nx T))) → Q (sh, I', R)) : CV mX4_takeSign [.ref 2] (sh, I, R) Q := by
  refine eX4_takeSign (bX4_takeSign_0 hW (k_next hW hT hP (fun I1 f1 hK => ?_)))
  generalize bnd y (nx T) = x at *
  have hT2 := hT.2.1
  cases x with
  | inl e => exact bX4_takeSign_4 hW ⟨fun _ => k I1 f1 hK, fun z => absurd z (cE.ne (I := I1) (e := e) hK)⟩
  | inr t =>
    obtain ⟨h13, h3, h4, h2, hok, h5⟩ := hK
    have hk3 := hok.1
    have ha : t.2.1 ≤ 200 := by have := hok.2.1; have := hok.2.2.1; omega
    have e1 : sgnP (.inr t) = if t.1 = 3 then .inr t.2.2 else .inl (2, t.2.1) := rfl
    refine bX4_takeSign_4 hW ⟨fun z => absurd h13 z, fun _ => ⟨fun z => ?_, fun z => ?_⟩⟩
    · rw [if_pos ((nI_eq (by omega) (by omega)).mp (h3.symm.trans z))] at e1
      exact k I1 f1 (by rw [e1]; exact ⟨h13, h2, hok.2.2.1⟩)
    · rw [if_neg (fun q => z (by rw [h3, q]))] at e1
      rw [h4]
      exact k_refuse hW h13 (by omega) (by omega) ha (fun I2 f2 _ c2 => bX4_takeSign_28 hW (k I2 (f1.tr f2) (by rw [e1]; exact c2)))
end CNAME
