section READS
variable {sh : List xSh} {I : Nat → Nat → Int32} {R : Nat → Nat → Option Nat}
def tpR (I : Nat → Nat → Int32) (T : List Nat) : Prop := I 209 16 = nI T.length ∧ T.length ≤ 200 ∧ (∀ j, j < T.length → I 218 j = nI (T.getD j 0)) ∧ ∀ j, T.getD j 0 < 128
def rB (I : Nat → Nat → Int32) (T : List Nat) : Pz Nat → Prop
  | .inl e => I 209 17 = nI e.1 ∧ 1 ≤ e.1 ∧ e.1 ≤ 5 ∧ I 209 18 = nI e.2 ∧ e.2 ≤ 200
  | .inr i => I 209 17 = nI 0 ∧ I 209 19 = nI i ∧ i ≤ T.length
def rM (I : Nat → Nat → Int32) (T : List Nat) : Pz (Nat × Nat × Nat) → Prop
  | .inl e => I 209 17 = nI e.1 ∧ 1 ≤ e.1 ∧ e.1 ≤ 5 ∧ I 209 18 = nI e.2 ∧ e.2 ≤ 200
  | .inr t => I 209 17 = nI 0 ∧ I 209 21 = nI t.1 ∧ I 209 20 = nI t.2.1 ∧ I 209 19 = nI t.2.2 ∧ tkOK T t.1 t.2.1 t.2.2 ∧ (t.1 = 2 → I 209 22 = nI (tvl T t.2.1 t.2.2)) ∧ (t.1 = 1 → I 209 22 = nI (T.getD t.2.1 0))
/-- reading changes but these -/
def pF (I I' : Nat → Nat → Int32) : Prop := Fr [209] I I' ∧ ∀ j, j < 17 ∨ 22 < j → I' 209 j = I 209 j
theorem pF.rf {I : Nat → Nat → Int32} : pF I I := ⟨Fr.rf, fun _ _ => rfl⟩
theorem pF.tr {I I1 I2 : Nat → Nat → Int32} (h1 : pF I I1) (h2 : pF I1 I2) : pF I I2 := ⟨h1.1.tr h2.1, fun j hj => (h2.2 j hj).trans (h1.2 j hj)⟩
theorem pF.xi {I I1 : Nat → Nat → Int32} {j : Nat} {v : Int32} (h : pF I I1) (h1 : 17 ≤ j) (h2 : j ≤ 22) : pF I (xi I1 209 j v) := ⟨h.1.xi (by simp), fun i hi => by rw [xi_s (by omega)]; exact h.2 i hi⟩
theorem tpR.eq {I I' : Nat → Nat → Int32} {T : List Nat} (h : tpR I T) (h1 : I' 209 16 = I 209 16) (h2 : I' 218 = I 218) : tpR I' T := ⟨by rw [h1]; exact h.1, h.2.1, fun j hj => by rw [h2]; exact h.2.2.1 j hj, h.2.2.2⟩
theorem tpR.pF {I I' : Nat → Nat → Int32} {T : List Nat} (h : tpR I T) (hf : pF I I') : tpR I' T := h.eq (hf.2 16 (by omega)) (hf.1 218 (by decide))
theorem w_byteAt {T : List Nat} {i : Nat} {Q : Int32 → xHp → Prop} (hW : xLay sh R) (hT : tpR I T) (hi : i < 2 ^ 31) (k1 : i < T.length → Q (nI (T.getD i 0)) (sh, I, R)) (k0 : T.length ≤ i → Q (-4) (sh, I, R)) : CI mX10_byteAt [.ref 209, .int (nI i)] (sh, I, R) Q := by
  have h2 := hT.2.1
  refine eX10_byteAt (bX10_byteAt_0 hW ?_)
  rw [hT.1]
  refine ⟨fun q => k0 ((nI_leI (by omega) hi).mp q), fun q => ?_⟩
  have hlt : i < T.length := by
    rcases Nat.lt_or_ge i T.length with y | y
    · exact y
    · exact absurd (nI_le y hi) q
  refine ⟨vp_nI (by omega) (by omega), ?_⟩
  rw [nclamp hi, hT.2.2.1 i hlt]
  exact k1 hlt
theorem w_inL {v : Int32} {b c : Int64} {lo hi : Int} {Q : Int32 → xHp → Prop} (hW : xLay sh R) (hb : b.toInt = lo) (hc : c.toInt = hi) (k1 : lo ≤ v.toInt ∧ v.toInt ≤ hi → Q (nI 1) (sh, I, R)) (k0 : ¬ (lo ≤ v.toInt ∧ v.toInt ≤ hi) → Q (nI 0) (sh, I, R)) : CI mX10_in [.long v.toInt64, .long b, .long c] (sh, I, R) Q := by
  have e : v.toInt64.toInt = v.toInt := Int32.toInt_toInt64 v
  refine w_in hW (fun h => k1 ?_) (fun h => k0 ?_)
  · rw [hb, hc, e] at h; exact h
  · rw [hb, hc, e] at h; exact h
theorem must_y {c : Int32} {Q : Int32 → xHp → Prop} (hW : xLay sh R) (k : ∀ v, Q v (sh, I, R)) : CI mX10_must [.ref 209, .int (nI 1), .int c] (sh, I, R) Q :=
  eX10_must (bX10_must_0 hW ⟨fun _ => ⟨fun _ => k _, fun _ => k _⟩, fun q => absurd q (by decide)⟩)
theorem must_f {b c : Int32} {Q : Int32 → xHp → Prop} (hW : xLay sh R) (hf : I 209 17 ≠ 0) (k : ∀ v, Q v (sh, I, R)) : CI mX10_must [.ref 209, .int b, .int c] (sh, I, R) Q :=
  eX10_must (bX10_must_0 hW ⟨fun _ => ⟨fun _ => k _, fun _ => k _⟩, fun _ => ⟨fun _ => ⟨fun _ => k _, fun _ => k _⟩, fun q => absurd q hf⟩⟩)
theorem must_n {c : Int32} {Q : Int32 → xHp → Prop} (hW : xLay sh R) (hf : I 209 17 = nI 0) (k : ∀ v, Q v (sh, xi (xi I 209 17 c) 209 18 (I 209 20), R)) : CI mX10_must [.ref 209, .int (nI 0), .int c] (sh, I, R) Q :=
  eX10_must (bX10_must_0 hW ⟨fun q => absurd rfl q, fun _ => ⟨fun q => absurd hf q, fun _ => ⟨fun _ => k _, fun _ => k _⟩⟩⟩)
theorem m4t : (-4 : Int32).toInt = -4 := by decide
theorem nI_npos {c : Nat} (h : 1 ≤ c) (h2 : c < 2 ^ 31) : ¬ nI c ≤ 0 := fun q => by
  have := Int32.le_iff_toInt_le.mp q
  rw [nI_toInt h2] at this
  have h0 : (0 : Int32).toInt = 0 := by decide
  omega
theorem lowC_iff {c : Nat} : lowC c = true ↔ 97 ≤ c ∧ c ≤ 122 := by unfold lowC; rw [decide_eq_true_eq]
theorem digC_iff {c : Nat} : digC c = true ↔ 48 ≤ c ∧ c ≤ 57 := by unfold digC; rw [decide_eq_true_eq]
theorem nI0 : nI 0 = 0 := by decide
theorem w_reads {T : List Nat} {y : Pz Nat} {Q : xHp → Prop} (hW : xLay sh R) (hT : tpR I T) (hB : rB I T y) (k : ∀ I', pF I I' → rM I' T (bnd y (nx T)) → Q (sh, I', R)) : CV mX10_reads [.ref 209] (sh, I, R) Q := by
  have hT2 := hT.2.1
  refine eX10_reads ?_
  cases y with
  | inl e =>
    refine bX10_reads_0 hW ⟨fun q => ?_, fun _ => k I pF.rf hB⟩
    rw [hB.1] at q
    exact absurd q (nI_npos hB.2.1 (by have := hB.2.2.1; omega))
  | inr i =>
    obtain ⟨hB1, hB2, hB3⟩ := hB
    rw [bnd_r] at k
    -- the token at a
    have tok : ∀ (a : Nat) (I1 : Nat → Nat → Int32), runE T spcC i = a → (a < T.length → T.getD a 0 ≠ 32) → a ≤ T.length → pF I I1 → I1 209 17 = nI 0 → I1 209 19 = nI a → CI mX10_byteAt [.ref 209, .int (nI a)] (sh, (xi I1 209 20 (nI a)), R) (fun w h1 => Ex mX10_reads 50 [.ref 209, xU] (.int w :: []) h1 0 0 (xqV Q)) := by
      intro a I1 hra hne hal hf h17 h19
      generalize hI2 : xi I1 209 20 (nI a) = I2
      have hf2 : pF I I2 := by rw [← hI2]; exact hf.xi (by omega) (by omega)
      have f17 : I2 209 17 = nI 0 := by rw [← hI2, xi_s (by decide)]; exact h17
      have f19 : I2 209 19 = nI a := by rw [← hI2, xi_s (by decide)]; exact h19
      have f20 : I2 209 20 = nI a := by rw [← hI2, xi_e]
      have hTk : tk T i = if T.length ≤ a then (0, a, a) else if lowC (T.getD a 0) = true then (1, a, runE T lowC a) else if digC (T.getD a 0) = true then (if runE T digC a - a ≤ 2 then 2 else 4, a, runE T digC a) else if T.getD a 0 = 59 then (3, a, a + 1) else (4, a, a + 1) := by unfold tk; rw [hra]
      have okr : ∀ t, tk T i = t → t.1 ≠ 4 → nx T i = .inr t ∧ tkOK T t.1 t.2.1 t.2.2 := fun t e h4 => by
        have h := tk_ok (T := T) hB3 (by rw [e]; exact h4)
        rw [e] at h
        exact ⟨by unfold nx; rw [e, if_neg h4], h⟩
      refine w_byteAt hW (hT.pF hf2) (by omega) (fun hlt => ?_) (fun hge => ?_)
      · rw [if_neg (by omega)] at hTk
        have hc128 := hT.2.2.2 a
        have hct : (nI (T.getD a 0)).toInt = (T.getD a 0 : Int) := nI_toInt (by omega)
        refine bX10_reads_50 hW ⟨fun _ => ?_, fun q => absurd q (nI_m4 (by omega))⟩
        generalize hI3 : xi I2 209 22 (nI (T.getD a 0)) = I3
        have hf3 : pF I I3 := by rw [← hI3]; exact hf2.xi (by omega) (by omega)
        have g17 : I3 209 17 = nI 0 := by rw [← hI3, xi_s (by decide)]; exact f17
        have g19 : I3 209 19 = nI a := by rw [← hI3, xi_s (by decide)]; exact f19
        have g20 : I3 209 20 = nI a := by rw [← hI3, xi_s (by decide)]; exact f20
        have g22 : I3 209 22 = nI (T.getD a 0) := by rw [← hI3, xi_e]
        refine w_inL (lo := 97) (hi := 122) hW (by decide) (by decide) (fun hin => ?_) (fun hnin => ?_)
        · -- a name
          rw [hct] at hin
          have hlow : lowC (T.getD a 0) = true := lowC_iff.mpr ⟨by omega, by omega⟩
          rw [if_pos hlow] at hTk
          obtain ⟨e1, e2⟩ := okr _ hTk (by simp)
          refine bX10_reads_81 hW ⟨fun q => absurd q (by decide), fun _ => ?_⟩
          have loop : ∀ n j (I4 : Nat → Nat → Int32), j + n = T.length → runE T lowC j = runE T lowC a → pF I I4 → I4 209 17 = nI 0 → I4 209 19 = nI j → I4 209 20 = nI a → I4 209 21 = nI 1 → I4 209 22 = nI (T.getD a 0) → Ex mX10_reads 89 [.ref 209, xU] [] (sh, I4, R) 0 0 (xqV Q) := by
            intro n
            induction n with
            | zero =>
              intro j I4 hj hr hf4 a17 a19 a20 a21 a22
              refine bX10_reads_89 hW ?_
              rw [a19]
              refine w_byteAt hW (hT.pF hf4) (by omega) (fun hlt => by omega) (fun _ => bX10_reads_97 hW (w_inL (lo := 97) (hi := 122) hW (by decide) (by decide) (fun q => by rw [m4t] at q; omega) (fun _ => bX10_reads_107 hW ⟨fun _ => ?_, fun q => absurd rfl q⟩)))
              rw [runE_n (fun q => by omega)] at hr
              refine k I4 hf4 ?_
              rw [e1]
              exact ⟨a17, a21, a20, by rw [a19, hr], e2, fun q => absurd q (by simp), fun _ => a22⟩
            | succ n ih =>
              intro j I4 hj hr hf4 a17 a19 a20 a21 a22
              have hcj := hT.2.2.2 j
              refine bX10_reads_89 hW ?_
              rw [a19]
              refine w_byteAt hW (hT.pF hf4) (by omega) (fun hlt => bX10_reads_97 hW (w_inL (lo := 97) (hi := 122) hW (by decide) (by decide) (fun q => bX10_reads_107 hW ⟨fun z => absurd z (by decide), fun _ => ?_⟩) (fun q => bX10_reads_107 hW ⟨fun _ => ?_, fun z => absurd rfl z⟩))) (fun hge => by omega)
              · rw [nI_toInt (by omega)] at q
                have hl : lowC (T.getD j 0) = true := lowC_iff.mpr ⟨by omega, by omega⟩
                rw [a19, nI_add]
                exact ih (j + 1) _ (by omega) (by rw [← hr, runE_y (by omega) hl]) (hf4.xi (by omega) (by omega)) (by rw [xi_s (by decide)]; exact a17) xi_e (by rw [xi_s (by decide)]; exact a20) (by rw [xi_s (by decide)]; exact a21) (by rw [xi_s (by decide)]; exact a22)
              · rw [nI_toInt (by omega)] at q
                have hl : lowC (T.getD j 0) = false := by
                  cases hh : lowC (T.getD j 0) with
                  | false => rfl
                  | true => exact absurd (lowC_iff.mp hh) (by omega)
                rw [runE_n (fun _ => hl)] at hr
                refine k I4 hf4 ?_
                rw [e1]
                exact ⟨a17, a21, a20, by rw [a19, hr], e2, fun q => absurd q (by simp), fun _ => a22⟩
          exact loop (T.length - a) a _ (by omega) rfl (hf3.xi (by omega) (by omega)) (by rw [xi_s (by decide)]; exact g17) (by rw [xi_s (by decide)]; exact g19) (by rw [xi_s (by decide)]; exact g20) xi_e (by rw [xi_s (by decide)]; exact g22)
        · rw [hct] at hnin
          have hlow : ¬ lowC (T.getD a 0) = true := fun z => hnin (by have := lowC_iff.mp z; omega)
          rw [if_neg hlow] at hTk
          refine bX10_reads_81 hW ⟨fun _ => w_inL (lo := 48) (hi := 57) hW (by decide) (by decide) (fun hin => ?_) (fun hnd => ?_), fun q => absurd rfl q⟩
          · -- a number
            rw [hct] at hin
            have hdig : digC (T.getD a 0) = true := digC_iff.mpr ⟨by omega, by omega⟩
            rw [if_pos hdig] at hTk
            refine bX10_reads_134 hW ⟨fun q => absurd q (by decide), fun _ => ?_⟩
            have loop : ∀ n j (I4 : Nat → Nat → Int32), j + n = T.length → a ≤ j → runE T digC j = runE T digC a → pF I I4 → I4 209 17 = nI 0 → I4 209 19 = nI j → I4 209 20 = nI a → I4 209 21 = nI 2 → I4 209 22 = nI (if j = a then 0 else tvl T a j) → (j = a + 1 ∨ j = a → True) → Ex mX10_reads 147 [.ref 209, xU] [] (sh, I4, R) 0 0 (xqV Q) := by
              intro n
              have stop : ∀ j (I4 : Nat → Nat → Int32), j ≤ T.length → a < j → runE T digC a = j → pF I I4 → I4 209 17 = nI 0 → I4 209 19 = nI j → I4 209 20 = nI a → I4 209 21 = nI 2 → I4 209 22 = nI (if j = a then 0 else tvl T a j) → Ex mX10_reads 165 [.ref 209, xU] [.int (nI 0)] (sh, I4, R) 0 0 (xqV Q) := by
                intro j I4 hj haj hr hf4 a17 a19 a20 a21 a22
                rw [if_neg (by omega)] at a22
                refine bX10_reads_165 hW ⟨fun _ => ?_, fun q => absurd rfl q⟩
                rw [a19, a20, pk_sub (by omega)]
                rw [hr] at hTk
                refine ⟨fun q => ?_, fun q => ?_⟩
                · have h3 := (nI_ltI (by omega) (by omega)).mp q
                  rw [if_neg (by omega)] at hTk
                  have e : nx T i = .inl (1, a) := by unfold nx; rw [hTk, if_pos rfl]
                  refine must_n hW a17 (fun v => bX10_reads_247 hW ?_)
                  refine k _ ((hf4.xi (by omega) (by omega)).xi (by omega) (by omega)) ?_
                  rw [e]
                  exact ⟨by rw [xi_s (by decide), xi_e], Nat.le_refl 1, (by show 1 ≤ 5; decide), by rw [xi_e, a20], by show a ≤ 200; omega⟩
                · have h3 : j - a ≤ 2 := by
                    rcases Nat.lt_or_ge 2 (j - a) with z | z
                    · exact absurd (nI_lt z (by omega)) q
                    · exact z
                  rw [if_pos h3] at hTk
                  obtain ⟨e1, e2⟩ := okr _ hTk (by simp)
                  refine must_y hW (fun v => bX10_reads_247 hW (k I4 hf4 ?_))
                  rw [e1]
                  exact ⟨a17, a21, a20, a19, e2, fun _ => a22, fun q => absurd q (by simp)⟩
              induction n with
              | zero =>
                intro j I4 hj haj hr hf4 a17 a19 a20 a21 a22 _
                refine bX10_reads_147 hW ?_
                rw [a19]
                refine w_byteAt hW (hT.pF hf4) (by omega) (fun hlt => by omega) (fun _ => bX10_reads_155 hW (w_inL (lo := 48) (hi := 57) hW (by decide) (by decide) (fun q => by rw [m4t] at q; omega) (fun _ => ?_)))
                rw [runE_n (fun q => by omega)] at hr
                exact stop j I4 (by omega) (by rw [hr]; exact runE_1 hlt hdig) hr.symm hf4 a17 a19 a20 a21 a22
              | succ n ih =>
                intro j I4 hj haj hr hf4 a17 a19 a20 a21 a22 _
                have hcj := hT.2.2.2 j
                refine bX10_reads_147 hW ?_
                rw [a19]
                refine w_byteAt hW (hT.pF hf4) (by omega) (fun hjlt => bX10_reads_155 hW (w_inL (lo := 48) (hi := 57) hW (by decide) (by decide) (fun q => bX10_reads_165 hW ⟨fun z => absurd z (by decide), fun _ => ?_⟩) (fun q => ?_))) (fun hge => by omega)
                · rw [nI_toInt (by omega)] at q
                  have hl : digC (T.getD j 0) = true := digC_iff.mpr ⟨by omega, by omega⟩
                  rw [a19, a20, pk_sub (by omega)]
                  refine ⟨fun z => ?_, fun z => ?_⟩
                  · have h2 := (nI_leI (by omega) (by omega)).mp z
                    rw [nI_add, a22]
                    refine ih (j + 1) _ (by omega) (by omega) (by rw [← hr, runE_y (by omega) hl]) ((hf4.xi (by omega) (by omega)).xi (by omega) (by omega)) (by rw [xi_s (by decide), xi_s (by decide)]; exact a17) xi_e (by rw [xi_s (by decide), xi_s (by decide)]; exact a20) (by rw [xi_s (by decide), xi_s (by decide)]; exact a21) ?_ (fun _ => trivial)
                    rw [xi_s (by decide), xi_e, if_neg (by omega), if_neg (by omega)]
                    unfold tvl
                    rw [if_neg (by omega), if_neg (by omega)]
                  · have h2 : j - a < 2 := by
                      rcases Nat.lt_or_ge (j - a) 2 with y | y
                      · exact y
                      · exact absurd (nI_le y (by omega)) z
                    refine w_byteAt hW (hT.pF hf4) (by omega) (fun _ => bX10_reads_197 hW ?_) (fun hge => by omega)
                    have e9 : nI 10 * I4 209 22 + nI (T.getD j 0) - nI 48 = nI (tvl T a (j + 1)) := by
                      rw [a22, pk_mul, nI_add, pk_sub (by omega)]
                      unfold tvl
                      by_cases ej : j = a
                      · subst ej
                        rw [if_pos rfl, if_pos rfl]
                        congr 1; omega
                      · have ej2 : j = a + 1 := by omega
                        subst ej2
                        rw [if_neg (by omega), if_pos rfl, if_neg (by omega)]
                        congr 1; omega
                    rw [e9, a19, nI_add]
                    refine ih (j + 1) _ (by omega) (by omega) (by rw [← hr, runE_y (by omega) hl]) ((hf4.xi (by omega) (by omega)).xi (by omega) (by omega)) (by rw [xi_s (by decide), xi_s (by decide)]; exact a17) xi_e (by rw [xi_s (by decide), xi_s (by decide)]; exact a20) (by rw [xi_s (by decide), xi_s (by decide)]; exact a21) ?_ (fun _ => trivial)
                    rw [xi_s (by decide), xi_e, if_neg (by omega)]
                · rw [nI_toInt (by omega)] at q
                  have hl : digC (T.getD j 0) = false := by
                    cases hh : digC (T.getD j 0) with
                    | false => rfl
                    | true => exact absurd (digC_iff.mp hh) (by omega)
                  rw [runE_n (fun _ => hl)] at hr
                  exact stop j I4 (by omega) (by rw [hr]; exact runE_1 hlt hdig) hr.symm hf4 a17 a19 a20 a21 a22
            exact loop (T.length - a) a _ (by omega) (Nat.le_refl _) rfl ((hf3.xi (by omega) (by omega)).xi (by omega) (by omega)) (by rw [xi_s (by decide), xi_s (by decide)]; exact g17) (by rw [xi_s (by decide), xi_s (by decide)]; exact g19) (by rw [xi_s (by decide), xi_s (by decide)]; exact g20) (by rw [xi_s (by decide), xi_e]) (by rw [xi_e, if_pos rfl]) (fun _ => trivial)
          · -- a sign, or none
            rw [hct] at hnd
            have hdig : ¬ digC (T.getD a 0) = true := fun z => hnd (by have := digC_iff.mp z; omega)
            rw [if_neg hdig] at hTk
            refine bX10_reads_134 hW ⟨fun _ => ⟨fun q => ?_, fun q => ?_⟩, fun q => absurd rfl q⟩
            · have hne59 : T.getD a 0 ≠ 59 := fun z => q (by rw [z])
              rw [if_neg hne59] at hTk
              have e : nx T i = .inl (1, a) := by unfold nx; rw [hTk, if_pos rfl]
              refine must_n hW (by rw [xi_s (by decide)]; exact g17) (fun v => bX10_reads_272 hW ?_)
              refine k _ ((((hf3.xi (by omega) (by omega)).xi (by omega) (by omega)).xi (by omega) (by omega)).xi (by omega) (by omega)) ?_
              rw [e]
              exact ⟨by rw [xi_s (by decide), xi_s (by decide), xi_e], Nat.le_refl 1, (by show 1 ≤ 5; decide), by rw [xi_s (by decide), xi_e, xi_s (by decide), g20], by show a ≤ 200; omega⟩
            · have h59 : T.getD a 0 = 59 := (nI_eq (by omega) (by omega)).mp q
              rw [if_pos h59] at hTk
              obtain ⟨e1, e2⟩ := okr _ hTk (by simp)
              refine must_y hW (fun v => bX10_reads_272 hW ?_)
              rw [xi_s (by decide), g19, nI_add]
              refine k _ ((hf3.xi (by omega) (by omega)).xi (by omega) (by omega)) ?_
              rw [e1]
              exact ⟨by rw [xi_s (by decide), xi_s (by decide)]; exact g17, by rw [xi_s (by decide), xi_e], by rw [xi_s (by decide), xi_s (by decide)]; exact g20, xi_e, e2, fun q => absurd q (by simp), fun q => absurd q (by simp)⟩
      · rw [if_pos hge] at hTk
        obtain ⟨e1, e2⟩ := okr _ hTk (by simp)
        refine bX10_reads_50 hW ⟨fun q => absurd rfl q, fun _ => ?_⟩
        refine k _ ((hf2.xi (by omega) (by omega)).xi (by omega) (by omega)) ?_
        rw [e1]
        exact ⟨by rw [xi_s (by decide), xi_s (by decide)]; exact f17, xi_e, by rw [xi_s (by decide), xi_s (by decide)]; exact f20, by rw [xi_s (by decide), xi_s (by decide)]; exact f19, e2, fun q => absurd q (by simp), fun q => absurd q (by simp)⟩
    -- spaces
    have loop : ∀ n j (I1 : Nat → Nat → Int32), j + n = T.length → runE T spcC j = runE T spcC i → pF I I1 → I1 209 17 = nI 0 → I1 209 19 = nI j → Ex mX10_reads 8 [.ref 209, xU] [] (sh, I1, R) 0 0 (xqV Q) := by
      intro n
      induction n with
      | zero =>
        intro j I1 hj hr hf a17 a19
        refine bX10_reads_8 hW ?_
        rw [a19]
        refine w_byteAt hW (hT.pF hf) (by omega) (fun hlt => by omega) (fun _ => bX10_reads_16 hW ⟨fun _ => ?_, fun q => absurd q (by decide)⟩)
        rw [a19]
        rw [runE_n (fun q => by omega)] at hr
        exact tok j I1 hr.symm (fun q => by omega) (by omega) hf a17 a19
      | succ n ih =>
        intro j I1 hj hr hf a17 a19
        have hcj := hT.2.2.2 j
        refine bX10_reads_8 hW ?_
        rw [a19]
        refine w_byteAt hW (hT.pF hf) (by omega) (fun hlt => bX10_reads_16 hW ⟨fun q => ?_, fun q => ?_⟩) (fun hge => by omega)
        · have hne : T.getD j 0 ≠ 32 := fun z => q (by rw [z])
          rw [a19]
          rw [runE_n (fun _ => by unfold spcC; simpa using hne)] at hr
          exact tok j I1 hr.symm (fun _ => hne) (by omega) hf a17 a19
        · have he : T.getD j 0 = 32 := (nI_eq (by omega) (by omega)).mp q
          rw [a19, nI_add]
          exact ih (j + 1) _ (by omega) (by rw [← runE_y (T := T) (f := spcC) (i := j) (by omega) (by unfold spcC; simpa using he)]; exact hr) (hf.xi (by omega) (by omega)) (by rw [xi_s (by decide)]; exact a17) xi_e
    refine bX10_reads_0 hW ⟨fun _ => loop (T.length - i) i I (by omega) rfl pF.rf hB1 hB2, fun q => ?_⟩
    rw [hB1] at q
    exact absurd (by decide) q
end READS
