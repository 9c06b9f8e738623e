/-! THE CLASS: machines -/
section CMACH
variable {sh : List xSh} {I : Nat → Nat → Int32} {R : Nat → Nat → Option Nat}
theorem rw_iff {M r r' t A n : Nat} (ht : t < M) (hA : A + n ≤ M) : (r * M + A ≤ r' * M + t ∧ r' * M + t < r * M + A + n) ↔ (r' = r ∧ A ≤ t ∧ t < A + n) := by
  rcases Nat.lt_trichotomy r' r with h | h | h
  · have := Nat.mul_le_mul_right M (show r' + 1 ≤ r by omega)
    rw [Nat.succ_mul] at this
    constructor <;> intro q <;> omega
  · subst h; constructor <;> intro q <;> omega
  · have := Nat.mul_le_mul_right M (show r + 1 ≤ r' by omega)
    rw [Nat.succ_mul] at this
    constructor <;> intro q <;> omega
theorem wix_inj {M s x t s' x' t' : Nat} (ht : t < M) (ht' : t' < M) (hx : x < 3) (hx' : x' < 3) (h : (s * 3 + x) * M + t = (s' * 3 + x') * M + t') : s = s' ∧ x = x' ∧ t = t' := by
  have h1 : s * 3 + x = s' * 3 + x' := by
    have a : ((s * 3 + x) * M + t) / M = s * 3 + x := by rw [Nat.add_comm, Nat.add_mul_div_right _ _ (by omega), Nat.div_eq_of_lt ht]; omega
    have b : ((s' * 3 + x') * M + t') / M = s' * 3 + x' := by rw [Nat.add_comm, Nat.add_mul_div_right _ _ (by omega), Nat.div_eq_of_lt ht']; omega
    rw [← a, ← b, h]
  rw [h1] at h
  omega
theorem wix_lt {M s x t : Nat} (hs : s < M) (hx : x < 3) (ht : t < M) : (s * 3 + x) * M + t < M * 3 * M := by
  have := Nat.mul_le_mul_right M (show s * 3 + x + 1 ≤ M * 3 by omega)
  rw [Nat.succ_mul] at this
  omega
theorem m3m {M : Nat} (h : M ≤ 8) : M * 3 * M ≤ 192 := Nat.mul_le_mul (Nat.mul_le_mul_right 3 h) h
/-- a machine of the class; what no state has is 0 -/
def cM (I : Nat → Nat → Int32) (L q M : Nat) (A : Mac) : Prop := A.1 ≤ M ∧ I q 1 = nI M ∧ I q 2 = nI A.1 ∧ (∀ s, s < M → I (q + 1) s = nI (if s < A.1 then A.2.1 s else 0)) ∧ (∀ s, s < M → I (q + 2) s = nI (if s < A.1 then A.2.2.1 s else 0)) ∧ ∀ s x t, s < M → x < L → t < M → I (q + 3) ((s * 3 + x) * M + t) = nI (if s < A.1 ∧ t < A.1 then A.2.2.2 s x t else 0)
abbrev mPl (q : Nat) : List Nat := [q, q + 1, q + 2, q + 3]
theorem cM.eq {I I' : Nat → Nat → Int32} {L q M : Nat} {A : Mac} (h : cM I L q M A) (h0 : I' q = I q) (h1 : I' (q + 1) = I (q + 1)) (h2 : I' (q + 2) = I (q + 2)) (h3 : I' (q + 3) = I (q + 3)) : cM I' L q M A := by
  obtain ⟨a1, a2, a3, a4, a5, a6⟩ := h
  exact ⟨a1, by rw [h0]; exact a2, by rw [h0]; exact a3, by rw [h1]; exact a4, by rw [h2]; exact a5, by rw [h3]; exact a6⟩
theorem cM.fr {S : List Nat} {I I' : Nat → Nat → Int32} {L q M : Nat} {A : Mac} (h : cM I L q M A) (hf : Fr S I I') (hs : ∀ c ∈ S, c < q ∨ q + 3 < c) : cM I' L q M A :=
  h.eq (hf q (fun z => by have := hs _ z; omega)) (hf (q + 1) (fun z => by have := hs _ z; omega)) (hf (q + 2) (fun z => by have := hs _ z; omega)) (hf (q + 3) (fun z => by have := hs _ z; omega))
theorem cM.same {I : Nat → Nat → Int32} {L q M : Nat} {A B : Mac} (h : cM I L q M A) (h1 : B.1 = A.1) (h2 : ∀ s, s < A.1 → B.2.1 s = A.2.1 s) (h3 : ∀ s, s < A.1 → B.2.2.1 s = A.2.2.1 s) (h4 : ∀ s x t, s < A.1 → x < L → t < A.1 → B.2.2.2 s x t = A.2.2.2 s x t) : cM I L q M B := by
  obtain ⟨a1, a2, a3, a4, a5, a6⟩ := h
  refine ⟨by rw [h1]; exact a1, a2, by rw [h1]; exact a3, fun s hs => ?_, fun s hs => ?_, fun s x t hs hx ht => ?_⟩
  · rw [a4 s hs, h1]
    by_cases e : s < A.1
    · rw [if_pos e, if_pos e, h2 s e]
    · rw [if_neg e, if_neg e]
  · rw [a5 s hs, h1]
    by_cases e : s < A.1
    · rw [if_pos e, if_pos e, h3 s e]
    · rw [if_neg e, if_neg e]
  · rw [a6 s x t hs hx ht, h1]
    by_cases e : s < A.1 ∧ t < A.1
    · rw [if_pos e, if_pos e, h4 s x t e.1 hx e.2]
    · rw [if_neg e, if_neg e]
theorem cM.S {I : Nat → Nat → Int32} {L q M s : Nat} {A : Mac} (h : cM I L q M A) (hs : s < A.1) : I (q + 1) s = nI (A.2.1 s) := by rw [h.2.2.2.1 s (Nat.lt_of_lt_of_le hs h.1), if_pos hs]
theorem cM.E {I : Nat → Nat → Int32} {L q M s : Nat} {A : Mac} (h : cM I L q M A) (hs : s < A.1) : I (q + 2) s = nI (A.2.2.1 s) := by rw [h.2.2.2.2.1 s (Nat.lt_of_lt_of_le hs h.1), if_pos hs]
theorem cM.W {I : Nat → Nat → Int32} {L q M s x t : Nat} {A : Mac} (h : cM I L q M A) (hs : s < A.1) (hx : x < L) (ht : t < A.1) : I (q + 3) ((s * 3 + x) * M + t) = nI (A.2.2.2 s x t) := by rw [h.2.2.2.2.2 s x t (Nat.lt_of_lt_of_le hs h.1) hx (Nat.lt_of_lt_of_le ht h.1), if_pos ⟨hs, ht⟩]
theorem k_at {q M s x t : Nat} {Q : Int32 → xHp → Prop} (hW : xLay sh R) (hq : xMach sh R q M) (h1 : I q 1 = nI M) (k : Q (nI ((s * 3 + x) * M + t)) (sh, I, R)) : CI mX3_at [.ref q, .int (nI s), .int (nI x), .int (nI t)] (sh, I, R) Q := by
  refine eX3_at (bX3_at_0 hW hq ?_)
  rw [h1]
  simp only [pk_mul, nI_add]
  exact k
theorem k_has {q M n : Nat} {v : Int32} {Q : Int32 → xHp → Prop} (hW : xLay sh R) (hq : xMach sh R q M) (h2 : I q 2 = nI n) (hn : n < 2 ^ 31) (k1 : ∀ b, v = nI b → b < n → Q (nI 1) (sh, I, R)) (k0 : ¬ inB v n → Q (nI 0) (sh, I, R)) : CI mX3_has [.ref q, .int v] (sh, I, R) Q := by
  have z0 : (0 : Int32).toInt = 0 := by decide
  refine eX3_has (bX3_has_0 hW hq ⟨fun q => k0 (fun z => ?_), fun q => ?_⟩)
  · have := Int32.lt_iff_toInt_lt.mp q; have := z.1; omega
  · have h0 : 0 ≤ v.toInt := by
      by_cases y : v.toInt < 0
      · exact absurd (Int32.lt_iff_toInt_lt.mpr (by omega)) q
      · omega
    rw [h2, ← nI_N h0]
    have hvb : nN v < 2 ^ 31 := by have := Int32.toInt_lt v; unfold nN; omega
    refine ⟨fun q2 => k0 (fun z => ?_), fun q2 => k1 (nN v) (nI_N h0).symm ?_⟩
    · have h2 := (nI_leI (by omega) hvb).mp q2
      have := z.2
      unfold nN at h2; omega
    · rcases Nat.lt_or_ge (nN v) n with y | y
      · exact y
      · exact absurd (nI_le y hvb) q2
def mZ (n : Nat) : Mac := (n, fun _ => 0, fun _ => 0, fun _ _ _ => 0)
theorem k_become {q M n L : Nat} {Q : xHp → Prop} (hW : xLay sh R) (hq : xMach sh R q M) (hM : M ≤ 8) (hL : L ≤ 3) (hn : n ≤ M) (h1 : I q 1 = nI M) (k : ∀ I', Fr (mPl q) I I' → cM I' L q M (mZ n) → Q (sh, I', R)) : CV mX3_become [.ref q, .int (nI n)] (sh, I, R) Q := by
  have hm := m3m hM
  obtain ⟨s0, s1, s2, s3, -⟩ := id hq
  refine eX3_become (bX3_become_0 hW hq ⟨fun z => ?_, fun _ => ?_⟩)
  · rw [h1] at z; exact absurd z (nI_nlt hn (by omega))
  refine k_fill hW s1 (by omega) (fun I1 f1 z1 => bX3_become_28 hW hq (k_fill hW s2 (by omega) (fun I2 f2 z2 => bX3_become_36 hW hq (k_fill hW s3 (by omega) (fun I3 f3 z3 => bX3_become_44 hW ?_)))))
  have g0 : ∀ j, I3 q j = xi I q 2 (nI n) q j := fun j => by rw [f3.at q j (by simp), f2.at q j (by simp), f1.at q j (by simp)]
  have w0 : ∀ c : Prop, ∀ _ : Decidable c, nI 0 = nI (if c then 0 else 0) := fun c _ => by split <;> rfl
  refine k I3 ?_ ⟨hn, by rw [g0, xi_s (by decide)]; exact h1, by rw [g0, xi_e]; rfl, fun s hs => ?_, fun s hs => ?_, fun s x t hs hx ht => ?_⟩
  · exact (((Fr.rf.xi (by simp)).tr (f1.sub (by simp))).tr (f2.sub (by simp))).tr (f3.sub (by simp))
  · rw [f3.at (q + 1) s (by simp), f2.at (q + 1) s (by simp), z1 s hs]; exact w0 _ _
  · rw [f3.at (q + 2) s (by simp), z2 s hs]; exact w0 _ _
  · rw [z3 _ (wix_lt hs (by omega) ht)]; exact w0 _ _
/-- the states of another behind its own, their starts multiplied -/
def mApp (p f : Nat) (A B : Mac) : Mac := (A.1 + B.1, fun s => if s < A.1 then A.2.1 s else B.2.1 (s - A.1) * f % p, fun s => if s < A.1 then A.2.2.1 s else B.2.2.1 (s - A.1), fun s x t => if s < A.1 then (if t < A.1 then A.2.2.2 s x t else 0) else if t < A.1 then 0 else B.2.2.2 (s - A.1) x (t - A.1))
theorem k_append {p L q M a Ma f : Nat} {A B : Mac} {Q : xHp → Prop} (hW : xLay sh R) (hc : cCtx I p L) (hq : xMach sh R q M) (ha : xMach sh R a Ma) (hM : M ≤ 8) (hMa : Ma ≤ 8) (hd : a + 3 < q ∨ q + 3 < a) (hq1 : 1 < q) (hA : cM I L q M A) (hB : cM I L a Ma B) (hokB : okM p L B) (hf : f < p) (hle : A.1 + B.1 ≤ M)
    (k : ∀ I', Fr (mPl q) I I' → cM I' L q M (mApp p f A B) → Q (sh, I', R)) : CV mX3_append [.ref q, .ref a, .int (nI f)] (sh, I, R) Q := by
  obtain ⟨hP, hL, hpr, hL1, hL3⟩ := id hc
  obtain ⟨hp2, hp97⟩ := PR_bd p hpr
  have hm := m3m hM
  have hma := m3m hMa
  obtain ⟨a1, a2, a3, a4, a5, a6⟩ := id hA
  obtain ⟨b1, b2, b3, b4, b5, b6⟩ := id hB
  have e1 : ∀ s, s < B.1 → (mApp p f A B).2.1 (A.1 + s) = B.2.1 s * f % p := fun s _ => by show (if A.1 + s < A.1 then _ else _) = _; rw [if_neg (by omega), show A.1 + s - A.1 = s by omega]
  have e2 : ∀ s, s < B.1 → (mApp p f A B).2.2.1 (A.1 + s) = B.2.2.1 s := fun s _ => by show (if A.1 + s < A.1 then _ else _) = _; rw [if_neg (by omega), show A.1 + s - A.1 = s by omega]
  have e3 : ∀ s x t, (mApp p f A B).2.2.2 (A.1 + s) x t = if t < A.1 then 0 else B.2.2.2 s x (t - A.1) := fun s x t => by show (if A.1 + s < A.1 then _ else _) = _; rw [if_neg (by omega), show A.1 + s - A.1 = s by omega]
  have loop : ∀ j s (I1 : Nat → Nat → Int32), s + j = B.1 → Fr [q + 1, q + 2, q + 3] I I1 → (∀ i, i < M → I1 (q + 1) i = nI (if i < A.1 + s then (mApp p f A B).2.1 i else 0)) → (∀ i, i < M → I1 (q + 2) i = nI (if i < A.1 + s then (mApp p f A B).2.2.1 i else 0)) → (∀ i y t, i < M → y < L → t < M → I1 (q + 3) ((i * 3 + y) * M + t) = nI (if i < A.1 + s ∧ t < A.1 + B.1 then (mApp p f A B).2.2.2 i y t else 0)) → Ex mX3_append 25 [.ref q, .ref a, .int (nI f), .int (nI A.1), .int (nI s), xU] [] (sh, I1, R) 0 0 (xqV Q) := by
    intro j
    induction j with
    | zero =>
      intro s I1 hs f1 g1 g2 g3
      obtain rfl : s = B.1 := by omega
      refine bX3_append_25 hW hq ha ⟨fun _ => ?_, fun z => ?_⟩
      · rw [f1.at q 2 (by simp), f1.at a 2 (by simp; omega), a3, b3, nI_add]
        refine k _ ((f1.sub (by simp)).xi (by simp)) ⟨hle, by rw [xi_s (by decide), f1.at q 1 (by simp)]; exact a2, xi_e, fun i hi => by rw [xi_p (by omega)]; exact g1 i hi, fun i hi => by rw [xi_p (by omega)]; exact g2 i hi, fun i y t h1 h2 h3 => by rw [xi_p (by omega)]; exact g3 i y t h1 h2 h3⟩
      · rw [f1.at a 2 (by simp; omega), b3] at z
        exact absurd (nI_le (Nat.le_refl _) (by omega)) z
    | succ j ih =>
      intro s I1 hs f1 g1 g2 g3
      have hsB : s < B.1 := by omega
      have hbs := mul_bd hp97 (hokB.1 s hsB) hf
      refine bX3_append_25 hW hq ha ⟨fun z => ?_, fun _ => ⟨vp_nI (by omega) (by omega), ?_, ?_, vp_nI (by omega) (by omega), ?_, ?_⟩⟩
      · rw [f1.at a 2 (by simp; omega), b3] at z
        exact absurd z (nI_ge (by omega) (by omega))
      · rw [f1.at 1 0 (by simp; omega), hP]; exact nI_ne0 (by omega) (by omega)
      · rw [nI_add]; exact vp_nI (by omega) (by omega)
      · rw [nI_add]; exact vp_nI (by omega) (by omega)
      · rw [nI_add, nclamp (by omega), nclamp (by omega), f1.at (a + 1) s (by simp; omega), hB.S hsB, f1.at 1 0 (by simp; omega), hP, pk_mul, xrem_nI (by omega) (by omega) (by omega), xi_p (by omega), f1.at (a + 2) s (by simp; omega), hB.E hsB]
        generalize hI2 : xi (xi I1 (q + 1) (A.1 + s) (nI (B.2.1 s * f % p))) (q + 2) (A.1 + s) (nI (B.2.2.1 s)) = I2
        have f2 : Fr [q + 1, q + 2, q + 3] I I2 := by rw [← hI2]; exact (f1.xi (by simp)).xi (by simp)
        have u1 : ∀ i, i < M → I2 (q + 1) i = nI (if i < A.1 + (s + 1) then (mApp p f A B).2.1 i else 0) := fun i hi => by
          rw [← hI2, xi_p (by omega)]
          by_cases e : i = A.1 + s
          · subst e; rw [xi_e, if_pos (by omega), e1 s hsB]
          · rw [xi_s e, g1 i hi]
            by_cases e' : i < A.1 + s
            · rw [if_pos e', if_pos (by omega)]
            · rw [if_neg e', if_neg (by omega)]
        have u2 : ∀ i, i < M → I2 (q + 2) i = nI (if i < A.1 + (s + 1) then (mApp p f A B).2.2.1 i else 0) := fun i hi => by
          rw [← hI2]
          by_cases e : i = A.1 + s
          · subst e; rw [xi_e, if_pos (by omega), e2 s hsB]
          · rw [xi_s e, xi_p (by omega), g2 i hi]
            by_cases e' : i < A.1 + s
            · rw [if_pos e', if_pos (by omega)]
            · rw [if_neg e', if_neg (by omega)]
        have u3 : ∀ i, I2 (q + 3) i = I1 (q + 3) i := fun i => by rw [← hI2, xi_p (by omega), xi_p (by omega)]
        have lx : ∀ jx x (I3 : Nat → Nat → Int32), x + jx = L → Fr [q + 3] I2 I3 → (∀ i y t, i < M → y < L → t < M → I3 (q + 3) ((i * 3 + y) * M + t) = nI (if (i < A.1 + s ∨ (i = A.1 + s ∧ y < x)) ∧ t < A.1 + B.1 then (mApp p f A B).2.2.2 i y t else 0)) → Ex mX3_append 79 [.ref q, .ref a, .int (nI f), .int (nI A.1), .int (nI s), .int (nI x)] [] (sh, I3, R) 0 0 (xqV Q) := by
          intro jx
          induction jx with
          | zero =>
            intro x I3 hx f3 g
            obtain rfl : x = L := by omega
            refine bX3_append_79 hW hq ha ⟨fun _ => ?_, fun z => ?_⟩
            · rw [nI_add]
              refine ih (s + 1) I3 (by omega) (f2.tr (f3.sub (by simp))) (fun i hi => by rw [f3.at (q + 1) i (by simp)]; exact u1 i hi) (fun i hi => by rw [f3.at (q + 2) i (by simp)]; exact u2 i hi) (fun i y t h1 h2 h3 => ?_)
              rw [g i y t h1 h2 h3]
              by_cases e : i < A.1 + (s + 1) ∧ t < A.1 + B.1
              · rw [if_pos e, if_pos ⟨by omega, e.2⟩]
              · rw [if_neg e, if_neg (by omega)]
            · rw [f3.at 1 1 (by simp <;> omega), f2.at 1 1 (by simp; omega), hL] at z
              exact absurd (nI_le (Nat.le_refl _) (by omega)) z
          | succ jx ihx =>
            intro x I3 hx f3 g
            have f3' : Fr [q + 1, q + 2, q + 3] I I3 := f2.tr (f3.sub (by simp))
            refine bX3_append_79 hW hq ha ⟨fun z => ?_, fun _ => k_at hW ha (by rw [f3'.at a 1 (by simp; omega)]; exact b2) (bX3_append_104 hW hq ha ha.2.2.2.1 ?_)⟩
            · rw [f3.at 1 1 (by simp <;> omega), f2.at 1 1 (by simp; omega), hL] at z
              exact absurd z (nI_ge (by omega) (by omega))
            rw [nI_add]
            have i1 : (s * 3 + x) * Ma + B.1 ≤ Ma * 3 * Ma := by
              have := wix_lt (M := Ma) (s := s) (x := x) (t := B.1 - 1) (by omega) (by omega) (by omega)
              omega
            have i2 : ((A.1 + s) * 3 + x) * M + A.1 + B.1 ≤ M * 3 * M := by
              have := wix_lt (M := M) (s := A.1 + s) (x := x) (t := A.1 + B.1 - 1) (by omega) (by omega) (by omega)
              omega
            refine k_at hW hq (by rw [f3'.at q 1 (by simp)]; exact a2) (bX3_append_119 hW hq ha ha.2.2.2.1 ?_)
            rw [f3'.at a 2 (by simp; omega), b3, nclamp (by omega), nclamp (by omega), nclamp (by omega), Nat.add_zero]
            refine ⟨⟨⟨nI_neg0 (by omega), nI_neg0 (by omega), nI_neg0 (by omega)⟩, i1, i2⟩, ?_⟩
            rw [nI_add]
            refine ihx (x + 1) _ (by omega) (f3.xa (by simp)) (fun i y t h1 h2 h3 => ?_)
            rw [xa_e]
            unfold va_cpy
            have hri := rw_iff (M := M) (r := (A.1 + s) * 3 + x) (r' := i * 3 + y) (t := t) (A := A.1) (n := B.1) h3 hle
            by_cases e : i * 3 + y = (A.1 + s) * 3 + x ∧ A.1 ≤ t ∧ t < A.1 + B.1
            · rw [if_pos (hri.mpr e)]
              have ei : i = A.1 + s ∧ y = x := by omega
              obtain ⟨rfl, rfl⟩ := ei
              rw [show (s * 3 + y) * Ma + (((A.1 + s) * 3 + y) * M + t - (((A.1 + s) * 3 + y) * M + A.1)) = (s * 3 + y) * Ma + (t - A.1) by omega, f3'.at (a + 3) _ (by simp; omega), hB.W hsB h2 (by omega), if_pos ⟨Or.inr ⟨rfl, by omega⟩, e.2.2⟩, e3, if_neg (by omega)]
            · rw [if_neg (fun z => e (hri.mp z)), g i y t h1 h2 h3]
              by_cases e5 : (i < A.1 + s ∨ (i = A.1 + s ∧ y < x)) ∧ t < A.1 + B.1
              · rw [if_pos e5, if_pos ⟨by omega, e5.2⟩]
              · rw [if_neg e5]
                by_cases e6 : (i < A.1 + s ∨ (i = A.1 + s ∧ y < x + 1)) ∧ t < A.1 + B.1
                · have ei : i = A.1 + s ∧ y = x := by omega
                  obtain ⟨rfl, rfl⟩ := ei
                  rw [if_pos e6, e3, if_pos (by omega)]
                · rw [if_neg e6]
        refine lx L 0 I2 (by omega) Fr.rf (fun i y t h1 h2 h3 => ?_)
        rw [u3, g3 i y t h1 h2 h3]
        by_cases e : i < A.1 + s ∧ t < A.1 + B.1
        · rw [if_pos e, if_pos ⟨Or.inl e.1, e.2⟩]
        · rw [if_neg e, if_neg (by omega)]
  refine eX3_append (bX3_append_0 hW hq ha ⟨fun _ => ?_, fun z => ?_⟩)
  · rw [a3]
    refine loop B.1 0 I (by omega) Fr.rf (fun i hi => ?_) (fun i hi => ?_) (fun i y t h1 h2 h3 => ?_)
    · rw [a4 i hi, Nat.add_zero]
      by_cases e : i < A.1
      · rw [if_pos e, if_pos e]; show _ = nI (if i < A.1 then _ else _); rw [if_pos e]
      · rw [if_neg e, if_neg e]
    · rw [a5 i hi, Nat.add_zero]
      by_cases e : i < A.1
      · rw [if_pos e, if_pos e]; show _ = nI (if i < A.1 then _ else _); rw [if_pos e]
      · rw [if_neg e, if_neg e]
    · rw [a6 i y t h1 h2 h3, Nat.add_zero]
      by_cases e : i < A.1 ∧ t < A.1 + B.1
      · rw [if_pos e]
        show _ = nI (if i < A.1 then (if t < A.1 then _ else _) else _)
        rw [if_pos e.1]
        by_cases e5 : t < A.1
        · rw [if_pos ⟨e.1, e5⟩, if_pos e5]
        · rw [if_neg (by omega), if_neg e5]
      · rw [if_neg e, if_neg (by omega)]
  · rw [a3, b3, a2, nI_add] at z
    exact absurd (nI_le hle (by omega)) z
theorem mApp0 {p L : Nat} {B : Mac} (hok : okM p L B) : (mApp p 1 (mZ 0) B).1 = B.1 ∧ (∀ s, s < B.1 → (mApp p 1 (mZ 0) B).2.1 s = B.2.1 s) ∧ (∀ s, s < B.1 → (mApp p 1 (mZ 0) B).2.2.1 s = B.2.2.1 s) ∧ ∀ s x t, s < B.1 → x < L → t < B.1 → (mApp p 1 (mZ 0) B).2.2.2 s x t = B.2.2.2 s x t := by
  refine ⟨Nat.zero_add _, fun s hs => ?_, fun s hs => ?_, fun s x t hs hx ht => ?_⟩
  · show (if s < 0 then 0 else B.2.1 (s - 0) * 1 % p) = _
    rw [if_neg (by omega), Nat.sub_zero, Nat.mul_one, Nat.mod_eq_of_lt (hok.1 s hs)]
  · show (if s < 0 then 0 else B.2.2.1 (s - 0)) = _
    rw [if_neg (by omega), Nat.sub_zero]
  · show (if s < 0 then (if t < 0 then 0 else 0) else if t < 0 then 0 else B.2.2.2 (s - 0) x (t - 0)) = _
    rw [if_neg (by omega), if_neg (by omega), Nat.sub_zero, Nat.sub_zero]
theorem k_copy {p L q M a Ma : Nat} {B : Mac} {Q : xHp → Prop} (hW : xLay sh R) (hc : cCtx I p L) (hq : xMach sh R q M) (ha : xMach sh R a Ma) (hM : M ≤ 8) (hMa : Ma ≤ 8) (hd : a + 3 < q ∨ q + 3 < a) (hq1 : 1 < q) (h1 : I q 1 = nI M) (hB : cM I L a Ma B) (hokB : okM p L B) (hle : B.1 ≤ M)
    (k : ∀ I', Fr (mPl q) I I' → cM I' L q M B → Q (sh, I', R)) : CV mX3_copy [.ref q, .ref a] (sh, I, R) Q := by
  have hp := PR_bd p hc.2.2.1
  refine eX3_copy (bX3_copy_0 hW hq ha (k_become (n := 0) hW hq hM hc.2.2.2.2 (Nat.zero_le _) h1 (fun I1 f1 c1 => bX3_copy_5 hW hq ha ?_)))
  refine k_append (f := 1) hW (hc.fr f1 (by simp; omega)) hq ha hM hMa hd hq1 c1 (hB.fr f1 (by simp; omega)) hokB (by omega) (by show 0 + B.1 ≤ M; omega) (fun I2 f2 c2 => bX3_copy_11 hW ?_)
  obtain ⟨m1, m2, m3, m4⟩ := mApp0 (p := p) hokB
  refine k I2 (f1.tr f2) (c2.same (by rw [m1]) (fun s hs => ?_) (fun s hs => ?_) (fun s x t hs hx ht => ?_))
  · rw [m1] at hs; exact (m2 s hs).symm
  · rw [m1] at hs; exact (m3 s hs).symm
  · rw [m1] at hs ht; exact (m4 s x t hs hx ht).symm
end CMACH
