section PARSE
variable {sh : List xSh} {I : Nat → Nat → Int32} {R : Nat → Nat → Option Nat}
def vO : Pz (Nat × Nat) → Nat
  | .inl _ => 0
  | .inr r => r.1
/-- where a step has ended the next token is read -/
abbrev nxt (T : List Nat) (r : Pz (Nat × Nat)) : Pz (Nat × Nat × Nat) := bnd r (fun r => nx T r.2)
theorem flt {T : List Nat} {c a : Nat} (h20 : I 209 20 = nI a) (h1 : 1 ≤ c) (h5 : c ≤ 5) (ha : a ≤ 200) : pF I (xi (xi I 209 17 (nI c)) 209 18 (I 209 20)) ∧ rB (xi (xi I 209 17 (nI c)) 209 18 (I 209 20)) T (.inl (c, a)) :=
  ⟨(pF.rf.xi (by omega) (by omega)).xi (by omega) (by omega), ⟨by rw [xi_s (by decide), xi_e], h1, h5, by rw [xi_e]; exact h20, ha⟩⟩
theorem rM_a {T : List Nat} {t : Nat × Nat × Nat} (hT : tpR I T) (h : rM I T (.inr t)) : t.2.1 ≤ 200 ∧ t.2.2 ≤ T.length := by
  have h3 := h.2.2.2.2.1
  have h2 := hT.2.1
  exact ⟨by have := h3.2.1; have := h3.2.2.1; omega, h3.2.2.1⟩
theorem w_number {T : List Nat} {x : Pz (Nat × Nat × Nat)} {lo hi : Nat} {Q : Int32 → xHp → Prop} (hW : xLay sh R) (hT : tpR I T) (hM : rM I T x) (hlo : lo ≤ 99) (hhi : hi ≤ 99)
    (k : ∀ I', pF I I' → rM I' T (nxt T (numP T x lo hi)) → Q (nI (vO (numP T x lo hi))) (sh, I', R)) : CI mX10_number [.ref 209, .int (nI lo), .int (nI hi)] (sh, I, R) Q := by
  refine eX10_number ?_
  -- a fault that there is
  have bad : ∀ (I1 : Nat → Nat → Int32) (e : Nat × Nat) (v : Int32), pF I I1 → rB I1 T (.inl e) → numP T x lo hi = .inl e → Ex mX10_number 51 [.ref 209, xU, xU, xU] [.int v] (sh, I1, R) 0 0 (xqI Q) := by
    intro I1 e v hf hb he
    refine bX10_number_51 hW ⟨fun q => ?_, fun _ => w_reads hW (hT.pF hf) hb (fun I2 hf2 hM2 => bX10_number_72 hW ?_)⟩
    · rw [hb.1] at q; exact absurd q (nI_npos hb.2.1 (by have := hb.2.2.1; omega))
    · rw [he] at k; exact k I2 (hf.tr hf2) hM2
  have bad18 : ∀ (I1 : Nat → Nat → Int32) (e : Nat × Nat) (v : Int32), pF I I1 → rB I1 T (.inl e) → numP T x lo hi = .inl e → Ex mX10_number 18 [.ref 209, .int (nI lo), .int (nI hi), xU] [.int v] (sh, I1, R) 0 0 (xqI Q) := by
    intro I1 e v hf hb he
    refine bX10_number_18 hW ⟨fun _ => must_y hW (fun v => bad I1 e v hf hb he), fun q => ?_⟩
    rw [hb.1] at q; exact absurd (nI_lt (a := 0) hb.2.1 (by have := hb.2.2.1; omega)) q
  cases x with
  | inl e =>
    have hne : I 209 17 ≠ 0 := by rw [hM.1]; exact nI_ne0 hM.2.1 (by have := hM.2.2.1; omega)
    exact bX10_number_0 hW ⟨fun _ => must_f hW hne (fun v => bad18 I e v pF.rf hM rfl), fun _ => must_f hW hne (fun v => bad18 I e v pF.rf hM rfl)⟩
  | inr t =>
    have hab := rM_a hT hM
    obtain ⟨h17, h21, h20, h19, ok, hv, -⟩ := hM
    have hk4 := ok.1
    have hun : numP T (.inr t) lo hi = if t.1 = 2 then (if lo ≤ tvl T t.2.1 t.2.2 ∧ tvl T t.2.1 t.2.2 ≤ hi then .inr (tvl T t.2.1 t.2.2, t.2.2) else .inl (3, t.2.1)) else .inl (2, t.2.1) := rfl
    refine bX10_number_0 hW ⟨fun q => ?_, fun q => ?_⟩
    · rw [h21] at q
      have hk : t.1 ≠ 2 := fun z => q (by rw [z])
      rw [if_neg hk] at hun
      obtain ⟨f1, f2⟩ := flt (T := T) (c := 2) h20 (by decide) (by decide) hab.1
      exact must_n hW h17 (fun v => bad18 _ (2, t.2.1) v f1 f2 hun)
    · rw [h21] at q
      have hk : t.1 = 2 := (nI_eq (by omega) (by omega)).mp q
      rw [if_pos hk] at hun
      have hvv := hv hk
      have h99 := tvl_lt (T := T) (a := t.2.1) (b := t.2.2) (by rw [hk] at ok; exact ok)
      refine must_y hW (fun v => bX10_number_18 hW ⟨fun z => ?_, fun _ => ?_⟩)
      · rw [h17] at z; exact absurd z (by decide)
      · refine w_inL (lo := (lo : Int)) (hi := (hi : Int)) hW (nI64 (by omega)) (nI64 (by omega)) (fun hin => ?_) (fun hnin => ?_)
        · rw [hvv, nI_toInt (by omega)] at hin
          rw [if_pos ⟨by omega, by omega⟩] at hun
          refine bX10_number_39 hW ⟨fun z => absurd z (by decide), fun _ => must_y hW (fun v => bX10_number_51 hW ⟨fun _ => ?_, fun z => ?_⟩)⟩
          · refine w_reads (y := .inr t.2.2) hW hT ⟨h17, h19, hab.2⟩ (fun I2 hf2 hM2 => bX10_number_72 hW ?_)
            rw [hvv]
            rw [hun] at k
            exact k I2 hf2 hM2
          · rw [h17] at z; exact absurd (by decide) z
        · rw [hvv, nI_toInt (by omega)] at hnin
          rw [if_neg (by omega)] at hun
          obtain ⟨f1, f2⟩ := flt (T := T) (c := 3) h20 (by decide) (by decide) hab.1
          exact bX10_number_39 hW ⟨fun _ => must_n hW h17 (fun v => bad _ (3, t.2.1) v f1 f2 hun), fun z => absurd rfl z⟩
/-! primes -/
theorem pr_PR : ∀ v, v ≤ 97 → (2 ≤ v ∧ (∀ d, d < v → 2 ≤ d → v % d ≠ 0) ↔ v ∈ PR) := by decide +kernel
theorem w_isPrime {v : Nat} {Q : Int32 → xHp → Prop} (hW : xLay sh R) (hv : v ≤ 97) (k1 : v ∈ PR → Q (nI 1) (sh, I, R)) (k0 : v ∉ PR → Q (nI 0) (sh, I, R)) : CI mX10_isPrime [.int (nI v)] (sh, I, R) Q := by
  have loop0 : ∀ j d, d + j = v ∨ (v ≤ d ∧ j = 0) → d ≤ 100 → v ∉ PR → Ex mX10_isPrime 13 [.int (nI v), .int (nI 0), .int (nI d)] [] (sh, I, R) 0 0 (xqI Q) := by
    intro j
    induction j with
    | zero => intro d hd hd2 hn; exact bX10_isPrime_13 hW ⟨fun _ => ⟨Or.inl rfl, k0 hn⟩, fun q => absurd (nI_le (by omega) (by omega)) q⟩
    | succ j ih =>
      intro d hd hd2 hn
      refine bX10_isPrime_13 hW ⟨fun q => absurd q (nI_ge (by omega) (by omega)), fun _ => ⟨fun _ => ?_, fun q => absurd rfl q⟩⟩
      rw [nI_add]
      exact ih (d + 1) (by omega) (by omega) hn
  have loop1 : ∀ j d, d + j = v → 2 ≤ d → (∀ e, e < d → 2 ≤ e → v % e ≠ 0) → Ex mX10_isPrime 13 [.int (nI v), .int (nI 1), .int (nI d)] [] (sh, I, R) 0 0 (xqI Q) := by
    intro j
    induction j with
    | zero =>
      intro d hd h2 hno
      obtain rfl : d = v := by omega
      exact bX10_isPrime_13 hW ⟨fun _ => ⟨Or.inr rfl, k1 ((pr_PR d hv).mp ⟨h2, hno⟩)⟩, fun q => absurd (nI_le (by omega) (by omega)) q⟩
    | succ j ih =>
      intro d hd h2 hno
      refine bX10_isPrime_13 hW ⟨fun q => absurd q (nI_ge (by omega) (by omega)), fun _ => ⟨fun q => absurd q (by decide), fun _ => ⟨nI_ne0 (by omega) (by omega), ?_⟩⟩⟩
      rw [xrem_nI (by omega) (by omega) (by omega), nI_add]
      have hm := Nat.mod_lt v (show 0 < d by omega)
      refine ⟨fun q => ?_, fun q => ?_⟩
      · have h0 := (nI_eq (a := v % d) (b := 0) (by omega) (by omega)).mp q
        exact loop0 j (d + 1) (by omega) (by omega) (fun z => ((pr_PR v hv).mpr z).2 d (by omega) h2 h0)
      · refine ih (d + 1) (by omega) (by omega) (fun e he he2 => ?_)
        by_cases ee : e = d
        · subst ee; exact fun z => q (by rw [z]; rfl)
        · exact hno e (by omega) he2
  refine eX10_isPrime (bX10_isPrime_0 hW ⟨fun q => ?_, fun q => ?_⟩)
  · have := (nI_leI (by omega) (by omega)).mp q
    exact loop0 0 2 (by omega) (by omega) (fun z => by have := ((pr_PR v hv).mpr z).1; omega)
  · have h1 : 1 < v := by
      rcases Nat.lt_or_ge 1 v with y | y
      · exact y
      · exact absurd (nI_le y (by omega)) q
    exact loop1 (v - 2) 2 (by omega) (Nat.le_refl _) (fun e he he2 => by omega)
/-! the draft of the reference -/
def drR (I : Nat → Nat → Int32) (D : Dr) : Prop := I 209 26 = nI D.2.1 ∧ I 209 27 = nI D.2.2.1 ∧ I 209 28 = nI D.2.2.2.2.1 ∧ I 209 29 = nI D.2.2.2.2.2.1 ∧ (∀ j, j < 3 → I 221 j = bI (D.1 j)) ∧ I 210 (57 * 31) = nI D.2.2.2.1 ∧ (∀ s, s < 4 → I 210 (57 * 31 + (1 + s)) = nI (D.2.2.2.2.2.2.1 s)) ∧ (∀ s, s < 4 → I 210 (57 * 31 + (5 + s)) = nI (D.2.2.2.2.2.2.2.1 s)) ∧ ∀ s x t, s < 4 → x < 3 → t < 4 → I 210 (57 * 31 + (9 + 12 * s + 4 * x + t)) = nI (D.2.2.2.2.2.2.2.2 s x t)
theorem drR.eq {I I' : Nat → Nat → Int32} {D : Dr} (h : drR I D) (h9 : ∀ j, 26 ≤ j → j ≤ 29 → I' 209 j = I 209 j) (h1 : I' 221 = I 221) (h0 : I' 210 = I 210) : drR I' D := by
  obtain ⟨a1, a2, a3, a4, a5, a6, a7, a8, a9⟩ := h
  exact ⟨by rw [h9 26 (by omega) (by omega)]; exact a1, by rw [h9 27 (by omega) (by omega)]; exact a2, by rw [h9 28 (by omega) (by omega)]; exact a3, by rw [h9 29 (by omega) (by omega)]; exact a4, by rw [h1]; exact a5, by rw [h0]; exact a6, by rw [h0]; exact a7, by rw [h0]; exact a8, by rw [h0]; exact a9⟩
theorem drR.pF {I I' : Nat → Nat → Int32} {D : Dr} (h : drR I D) (hf : pF I I') : drR I' D := h.eq (fun j h1 h2 => hf.2 j (by omega)) (hf.1 221 (by decide)) (hf.1 210 (by decide))
/-- what a line changes -/
def lF (I I' : Nat → Nat → Int32) : Prop := Fr [209, 210, 221] I I' ∧ (∀ j, j < 17 ∨ 29 < j → I' 209 j = I 209 j) ∧ pgF [31] I I'
theorem lF.rf {I : Nat → Nat → Int32} : lF I I := ⟨Fr.rf, fun _ _ => rfl, pgF.rf⟩
theorem lF.tr {I I1 I2 : Nat → Nat → Int32} (h1 : lF I I1) (h2 : lF I1 I2) : lF I I2 := ⟨h1.1.tr h2.1, fun j hj => (h2.2.1 j hj).trans (h1.2.1 j hj), h1.2.2.tr h2.2.2⟩
theorem pF.l {I I1 : Nat → Nat → Int32} (h : pF I I1) : lF I I1 := ⟨h.1.sub (by simp), fun j hj => h.2 j (by omega), pgF.of h.1 (by decide)⟩
theorem lF.xi {I I1 : Nat → Nat → Int32} {j : Nat} {v : Int32} (h : lF I I1) (h1 : 17 ≤ j) (h2 : j ≤ 29) : lF I (xi I1 209 j v) := ⟨h.1.xi (by simp), fun i hi => by rw [xi_s (by omega)]; exact h.2.1 i hi, h.2.2.tr (pgF.of (Fr.rf.xi (S := [209]) (by simp)) (by decide))⟩
theorem lF_pg {I I1 : Nat → Nat → Int32} {c : Nat} {v : Int32} (h : lF I I1) (hc : c < 57) : lF I (xi I1 210 (57 * 31 + c) v) := ⟨h.1.xi (by simp), fun i hi => by rw [xi_p (by decide)]; exact h.2.1 i hi, h.2.2.xi (by simp) hc⟩
theorem tpR.l {I I' : Nat → Nat → Int32} {T : List Nat} (h : tpR I T) (hf : lF I I') : tpR I' T := h.eq (hf.2.1 16 (by omega)) (hf.1 218 (by decide))
theorem rM.eq {I I' : Nat → Nat → Int32} {T : List Nat} {x : Pz (Nat × Nat × Nat)} (h : rM I T x) (h9 : ∀ j, 17 ≤ j → j ≤ 22 → I' 209 j = I 209 j) : rM I' T x := by
  cases x with
  | inl e => exact ⟨by rw [h9 17 (by omega) (by omega)]; exact h.1, h.2.1, h.2.2.1, by rw [h9 18 (by omega) (by omega)]; exact h.2.2.2.1, h.2.2.2.2⟩
  | inr t =>
    obtain ⟨a1, a2, a3, a4, a5, a6, a7⟩ := h
    exact ⟨by rw [h9 17 (by omega) (by omega)]; exact a1, by rw [h9 21 (by omega) (by omega)]; exact a2, by rw [h9 20 (by omega) (by omega)]; exact a3, by rw [h9 19 (by omega) (by omega)]; exact a4, a5, by rw [h9 22 (by omega) (by omega)]; exact a6, by rw [h9 22 (by omega) (by omega)]; exact a7⟩
theorem w_readsPrime {T : List Nat} {x : Pz (Nat × Nat × Nat)} {D : Dr} {Q : xHp → Prop} (hW : xLay sh R) (hT : tpR I T) (hM : rM I T x) (hD : drR I D)
    (k : ∀ I', lF I I' → rM I' T (nxt T (priP T x)) → (∀ v b, priP T x = .inr (v, b) → drR I' (D.1, v, D.2.2)) → Q (sh, I', R)) : CV mX10_readsPrime [.ref 209] (sh, I, R) Q := by
  refine eX10_readsPrime ?_
  have bad : ∀ (I1 : Nat → Nat → Int32) (e : Nat × Nat) (v : Int32), pF I I1 → rB I1 T (.inl e) → priP T x = .inl e → Ex mX10_readsPrime 63 [.ref 209] [.int v] (sh, I1, R) 0 0 (xqV Q) := by
    intro I1 e v hf hb he
    have hb2 : rB (xi I1 209 26 (I1 209 26)) T (.inl e) := ⟨by rw [xi_s (by decide)]; exact hb.1, hb.2.1, hb.2.2.1, by rw [xi_s (by decide)]; exact hb.2.2.2.1, hb.2.2.2.2⟩
    refine bX10_readsPrime_63 hW ⟨fun q => ?_, fun _ => w_reads hW (hT.l (hf.l.xi (by omega) (by omega))) hb2 (fun I2 hf2 hM2 => bX10_readsPrime_90 hW ?_)⟩
    · rw [hb.1] at q; exact absurd q (nI_npos hb.2.1 (by have := hb.2.2.1; omega))
    · rw [he] at k; exact k I2 ((hf.l.xi (by omega) (by omega)).tr hf2.l) hM2 (fun v b z => absurd z (by simp))
  have bad18 : ∀ (I1 : Nat → Nat → Int32) (e : Nat × Nat) (v : Int32), pF I I1 → rB I1 T (.inl e) → priP T x = .inl e → Ex mX10_readsPrime 18 [.ref 209] [.int v] (sh, I1, R) 0 0 (xqV Q) := by
    intro I1 e v hf hb he
    refine bX10_readsPrime_18 hW ⟨fun _ => must_y hW (fun v => bad I1 e v hf hb he), fun q => ?_⟩
    rw [hb.1] at q; exact absurd (nI_lt (a := 0) hb.2.1 (by have := hb.2.2.1; omega)) q
  cases x with
  | inl e =>
    have hne : I 209 17 ≠ 0 := by rw [hM.1]; exact nI_ne0 hM.2.1 (by have := hM.2.2.1; omega)
    exact bX10_readsPrime_0 hW ⟨fun _ => must_f hW hne (fun v => bad18 I e v pF.rf hM rfl), fun _ => must_f hW hne (fun v => bad18 I e v pF.rf hM rfl)⟩
  | inr t =>
    have hab := rM_a hT hM
    obtain ⟨h17, h21, h20, h19, ok, hv, -⟩ := hM
    have hk4 := ok.1
    have hun : priP T (.inr t) = if t.1 = 2 then (if tvl T t.2.1 t.2.2 ∈ PR then .inr (tvl T t.2.1 t.2.2, t.2.2) else .inl (3, t.2.1)) else .inl (2, t.2.1) := rfl
    refine bX10_readsPrime_0 hW ⟨fun q => ?_, fun q => ?_⟩
    · rw [h21] at q
      have hk : t.1 ≠ 2 := fun z => q (by rw [z])
      rw [if_neg hk] at hun
      obtain ⟨f1, f2⟩ := flt (T := T) (c := 2) h20 (by decide) (by decide) hab.1
      exact must_n hW h17 (fun v => bad18 _ (2, t.2.1) v f1 f2 hun)
    · rw [h21] at q
      have hk : t.1 = 2 := (nI_eq (by omega) (by omega)).mp q
      rw [if_pos hk] at hun
      have hvv := hv hk
      have h99 := tvl_lt (T := T) (a := t.2.1) (b := t.2.2) (by rw [hk] at ok; exact ok)
      obtain ⟨f1, f2⟩ := flt (T := T) (c := 3) h20 (by decide) (by decide) hab.1
      refine must_y hW (fun v => bX10_readsPrime_18 hW ⟨fun z => ?_, fun _ => ?_⟩)
      · rw [h17] at z; exact absurd z (by decide)
      · refine w_inL (lo := 2) (hi := 97) hW (by decide) (by decide) (fun hin => ?_) (fun hnin => ?_)
        · rw [hvv, nI_toInt (by omega)] at hin
          refine bX10_readsPrime_41 hW ⟨fun z => absurd z (by decide), fun _ => ?_⟩
          rw [hvv]
          refine w_isPrime hW (by omega) (fun hp => ?_) (fun hnp => ?_)
          · rw [if_pos hp] at hun
            refine bX10_readsPrime_51 hW ⟨fun z => absurd z (by decide), fun _ => must_y hW (fun v => bX10_readsPrime_63 hW ⟨fun _ => ?_, fun z => ?_⟩)⟩
            · rw [hvv]
              refine w_reads (y := .inr t.2.2) hW (hT.l (lF.rf.xi (by omega) (by omega))) ⟨by rw [xi_s (by decide)]; exact h17, by rw [xi_s (by decide)]; exact h19, hab.2⟩ (fun I2 hf2 hM2 => bX10_readsPrime_90 hW ?_)
              rw [hun] at k
              refine k I2 ((lF.rf.xi (by omega) (by omega)).tr hf2.l) hM2 (fun v b z => ?_)
              cases z
              refine drR.pF ?_ hf2
              obtain ⟨a1, a2⟩ := hD
              exact ⟨xi_e, by rw [xi_s (by decide)]; exact a2.1, by rw [xi_s (by decide)]; exact a2.2.1, by rw [xi_s (by decide)]; exact a2.2.2.1, fun j hj => by rw [xi_p (by decide)]; exact a2.2.2.2.1 j hj, by rw [xi_p (by decide)]; exact a2.2.2.2.2.1, fun s hs => by rw [xi_p (by decide)]; exact a2.2.2.2.2.2.1 s hs, fun s hs => by rw [xi_p (by decide)]; exact a2.2.2.2.2.2.2.1 s hs, fun s x t h1 h2 h3 => by rw [xi_p (by decide)]; exact a2.2.2.2.2.2.2.2 s x t h1 h2 h3⟩
            · rw [h17] at z; exact absurd (by decide) z
          · rw [if_neg hnp] at hun
            exact bX10_readsPrime_51 hW ⟨fun _ => must_n hW h17 (fun v => bad _ (3, t.2.1) v f1 f2 hun), fun z => absurd rfl z⟩
        · rw [hvv, nI_toInt (by omega)] at hnin
          rw [if_neg (fun z => by have := PR_bd _ z; omega)] at hun
          exact bX10_readsPrime_41 hW ⟨fun _ => must_n hW h17 (fun v => bad _ (3, t.2.1) v f1 f2 hun), fun z => absurd rfl z⟩
theorem vO_le {T : List Nat} {x : Pz (Nat × Nat × Nat)} {lo hi : Nat} : vO (numP T x lo hi) ≤ hi := by
  cases x with
  | inl e => exact Nat.zero_le _
  | inr t =>
    show vO (if t.1 = 2 then (if lo ≤ tvl T t.2.1 t.2.2 ∧ tvl T t.2.1 t.2.2 ≤ hi then .inr (tvl T t.2.1 t.2.2, t.2.2) else .inl (3, t.2.1)) else .inl (2, t.2.1)) ≤ hi
    split
    · split
      · rename_i h; exact h.2
      · exact Nat.zero_le _
    · exact Nat.zero_le _
theorem w_readsState {T : List Nat} {x : Pz (Nat × Nat × Nat)} {Q : Int32 → xHp → Prop} (hW : xLay sh R) (hT : tpR I T) (hM : rM I T x)
    (k : ∀ I', Fr [209] I I' → (∀ j, j < 17 ∨ (22 < j ∧ j ≠ 28) → I' 209 j = I 209 j) → rM I' T (nxt T (numP T x 0 3)) → (∀ g s b, I 209 28 = nI g → g ≤ 4 → numP T x 0 3 = .inr (s, b) → I' 209 28 = nI (max g (s + 1))) → Q (nI (vO (numP T x 0 3))) (sh, I', R)) : CI mX10_readsState [.ref 209] (sh, I, R) Q := by
  have h3 := vO_le (T := T) (x := x) (lo := 0) (hi := 3)
  refine eX10_readsState (bX10_readsState_0 hW (w_number hW hT hM (by decide) (by decide) (fun I1 hf hM1 => bX10_readsState_6 hW ?_)))
  rw [nI_add]
  have fin : ∀ u : Int32, (∀ g s b, I 209 28 = nI g → g ≤ 4 → numP T x 0 3 = .inr (s, b) → u = nI (max g (s + 1))) → Q (nI (vO (numP T x 0 3))) (sh, xi I1 209 28 u, R) := fun u hu =>
    k _ (hf.1.xi (by simp)) (fun j hj => by rw [xi_s (by omega)]; exact hf.2 j (by omega)) (hM1.eq (fun j h1 h2 => xi_s (by omega))) (fun g s b hg hg4 hs => by rw [xi_e]; exact hu g s b hg hg4 hs)
  refine ⟨fun q => fin _ (fun g s b hg hg4 hs => ?_), fun q => fin _ (fun g s b hg hg4 hs => ?_)⟩
  · rw [hf.2 28 (by omega), hg] at q ⊢
    rw [hs] at q h3
    have h3' : s ≤ 3 := h3
    have : s + 1 ≤ g := (nI_leI (by show s + 1 < _; omega) (by omega)).mp q
    rw [show max g (s + 1) = g by omega]
  · rw [hf.2 28 (by omega), hg] at q
    rw [hs] at q h3 ⊢
    have h3' : s ≤ 3 := h3
    have : g ≤ s + 1 := by
      rcases Nat.lt_or_ge g (s + 1) with y | y
      · omega
      · exact absurd (nI_le y (by omega)) q
    show nI (s + 1) = _
    rw [show max g (s + 1) = s + 1 by omega]
end PARSE
