/-! THE CLASS: spans -/
section CSPAN
variable {sh : List xSh} {I : Nat → Nat → Int32} {R : Nat → Nat → Option Nat}
/-- the numbers outside an interval of places stay -/
def Ou (a b : Nat) (I I' : Nat → Nat → Int32) : Prop := ∀ c, c < a ∨ b ≤ c → I' c = I c
theorem Ou.rf {a b : Nat} {I : Nat → Nat → Int32} : Ou a b I I := fun _ _ => rfl
theorem Ou.tr {a b : Nat} {I I1 I2 : Nat → Nat → Int32} (h1 : Ou a b I I1) (h2 : Ou a b I1 I2) : Ou a b I I2 := fun c hc => (h2 c hc).trans (h1 c hc)
theorem Ou.of {a b : Nat} {S : List Nat} {I I' : Nat → Nat → Int32} (h : Fr S I I') (hs : ∀ c ∈ S, a ≤ c ∧ c < b) : Ou a b I I' := fun c hc => h c (fun z => by have := hs c z; omega)
theorem Ou.at {a b : Nat} {I I' : Nat → Nat → Int32} (h : Ou a b I I') (c j : Nat) (hc : c < a ∨ b ≤ c) : I' c j = I c j := congrFun (h c hc) j
theorem Ou.up {a b a' b' : Nat} {I I' : Nat → Nat → Int32} (h : Ou a b I I') (h1 : a' ≤ a) (h2 : b ≤ b') : Ou a' b' I I' := fun c hc => h c (by omega)
theorem vR.ou {a b : Nat} {I I' : Nat → Nat → Int32} {p q n : Nat} {v : Nat → Nat} (h : vR I p q n v) (hf : Ou a b I I') (hs : q < a ∨ b ≤ q) : vR I' p q n v := fun s hn => by rw [hf.at q s hs]; exact h s hn
theorem cCtx.ou {a b : Nat} {I I' : Nat → Nat → Int32} {p L : Nat} (h : cCtx I p L) (hf : Ou a b I I') (hs : 1 < a) : cCtx I' p L := h.eq (hf 1 (Or.inl hs))
theorem cM.ou {a b : Nat} {I I' : Nat → Nat → Int32} {L q M : Nat} {A : Mac} (h : cM I L q M A) (hf : Ou a b I I') (hs : q + 3 < a ∨ b ≤ q) : cM I' L q M A := h.eq (hf q (by omega)) (hf (q + 1) (by omega)) (hf (q + 2) (by omega)) (hf (q + 3) (by omega))
def cSp (I : Nat → Nat → Int32) (p q W size : Nat) (E : Nat → Nat → Nat) (piv : Nat → Nat) (mk : Nat → Nat → Nat) : Prop :=
  I q 7 = nI W ∧ I q 8 = nI size ∧ W ≤ 8 ∧ size ≤ W ∧ (∀ i c, i < size → c < W → I ((q + 1) + 1 + i) c = nI (E i c) ∧ E i c < p) ∧ (∀ i, i < size → I (q + 19) i = nI (piv i) ∧ piv i < W) ∧ ∀ i j, i < size → j ≤ i → I ((q + 10) + 1 + i) j = nI (mk i j) ∧ mk i j < p
def spS (I : Nat → Nat → Int32) (p : Nat) [NeZero p] (q W size : Nat) (E : Nat → Nat → Nat) (r : Nat → Nat → Fin p) : Prop := ∃ piv mk, cSp I p q W size E piv mk ∧ spI W size (fun j c => fo p (E j c)) piv (fun i j => fo p (mk i j)) r
theorem cSp.eq {I I' : Nat → Nat → Int32} {p q W size : Nat} {E : Nat → Nat → Nat} {piv : Nat → Nat} {mk : Nat → Nat → Nat} (h : cSp I p q W size E piv mk) (h7 : I' q 7 = I q 7) (h8 : I' q 8 = I q 8) (hf : ∀ c, q < c → c < q + 20 → I' c = I c) : cSp I' p q W size E piv mk := by
  obtain ⟨a1, a2, a3, a4, a5, a6, a7⟩ := h
  exact ⟨by rw [h7]; exact a1, by rw [h8]; exact a2, a3, a4, fun i c hi hc => by rw [hf _ (by omega) (by omega)]; exact a5 i c hi hc, fun i hi => by rw [hf _ (by omega) (by omega)]; exact a6 i hi, fun i j hi hj => by rw [hf _ (by omega) (by omega)]; exact a7 i j hi hj⟩
theorem spS.eq {I I' : Nat → Nat → Int32} {p : Nat} [NeZero p] {q W size : Nat} {E : Nat → Nat → Nat} {r : Nat → Nat → Fin p} (h : spS I p q W size E r) (h7 : I' q 7 = I q 7) (h8 : I' q 8 = I q 8) (hf : ∀ c, q < c → c < q + 20 → I' c = I c) : spS I' p q W size E r := by
  obtain ⟨piv, mk, h1, h2⟩ := h
  exact ⟨piv, mk, h1.eq h7 h8 hf, h2⟩
theorem spS.ou {a b : Nat} {I I' : Nat → Nat → Int32} {p : Nat} [NeZero p] {q W size : Nat} {E : Nat → Nat → Nat} {r : Nat → Nat → Fin p} (h : spS I p q W size E r) (hf : Ou a b I I') (hs : q + 21 < a ∨ b ≤ q) : spS I' p q W size E r := h.eq (hf.at q 7 (by omega)) (hf.at q 8 (by omega)) (fun c h1 h2 => hf c (by omega))
theorem spS.fr {S : List Nat} {I I' : Nat → Nat → Int32} {p : Nat} [NeZero p] {q W size : Nat} {E : Nat → Nat → Nat} {r : Nat → Nat → Fin p} (h : spS I p q W size E r) (hf : Fr S I I') (hs : ∀ c ∈ S, c < q ∨ q + 21 < c) : spS I' p q W size E r := h.eq (hf.at q 7 (fun z => by have := hs _ z; omega)) (hf.at q 8 (fun z => by have := hs _ z; omega)) (fun c h1 h2 => hf c (fun z => by have := hs _ z; omega))
theorem spS.r {I : Nat → Nat → Int32} {p : Nat} [NeZero p] {q W size : Nat} {E : Nat → Nat → Nat} {r r' : Nat → Nat → Fin p} (h : spS I p q W size E r) (hr : ∀ j, j < size → ∀ c, c < W → r j c = r' j c) : spS I p q W size E r' := by
  obtain ⟨piv, mk, h1, h2⟩ := h
  exact ⟨piv, mk, h1, spI_r h2 hr⟩
theorem k_clear {p : Nat} [NeZero p] {q W : Nat} {E : Nat → Nat → Nat} {r : Nat → Nat → Fin p} {Q : xHp → Prop} (hW : xLay sh R) (hq : xSpan sh R q) (hw : W ≤ 8) (k : ∀ I', Fr [q] I I' → spS I' p q W 0 E r → Q (sh, I', R)) : CV mX7_clear [.ref q, .int (nI W)] (sh, I, R) Q := by
  refine eX7_clear (bX7_clear_0 hW hq ⟨fun z => absurd z (nI_nlt hw (by omega)), fun _ => ?_⟩)
  exact k _ ((Fr.rf.xi (by simp)).xi (by simp)) ⟨fun _ => 0, fun _ _ => 0, ⟨by rw [xi_s (by decide), xi_e], xi_e, hw, Nat.zero_le _, fun i c hi => absurd hi (Nat.not_lt_zero i), fun i hi => absurd hi (Nat.not_lt_zero i), fun i j hi => absurd hi (Nat.not_lt_zero i)⟩, ⟨fun j hj => absurd hj (Nat.not_lt_zero j), fun j hj => absurd hj (Nat.not_lt_zero j), fun j hj => absurd hj (Nat.not_lt_zero j), indp_0 _ _⟩⟩
/-- what is changed by asking whether a row is a combination -/
def coF (q : Nat) (I I' : Nat → Nat → Int32) : Prop := Fr [q, q + 20, q + 21] I I' ∧ ∀ j, j ≠ 5 → I' q j = I q j
theorem k_combines {p L : Nat} [NeZero p] {q W size a na : Nat} {E : Nat → Nat → Nat} {piv : Nat → Nat} {mk : Nat → Nat → Nat} {r : Nat → Nat → Fin p} {v : Nat → Nat} {Q : Int32 → xHp → Prop} (hW : xLay sh R) (hc : cCtx I p L) (hq : xSpan sh R q) (hq1 : 1 < q) (hS : cSp I p q W size E piv mk) (hI : spI W size (fun j c => fo p (E j c)) piv (fun i j => fo p (mk i j)) r) (ha : sh[a]? = some (.inr (0, na))) (hna : W ≤ na) (haq : a < q ∨ q + 21 < a) (hv : vR I p a W v)
    (k1 : ∀ I' parts, coF q I I' → vR I' p (q + 21) 8 parts → (∀ j, size ≤ j → parts j = 0) → (∀ c, c < W → fo p (v c) = sm size (fun j => fo p (parts j) * r j c)) → Q (nI 1) (sh, I', R))
    (k0 : ∀ I' parts rest c0, coF q I I' → vR I' p (q + 21) 8 parts → (∀ j, size ≤ j → parts j = 0) → vR I' p (q + 20) W rest → I' q 5 = nI c0 → c0 < W → rest c0 ≠ 0 → spR W size piv r (fun c => fo p (v c)) (fun c => fo p (rest c)) (fun j => fo p (parts j)) → Q (nI 0) (sh, I', R)) : CI mX7_combines [.ref q, .ref a] (sh, I, R) Q := by
  obtain ⟨hP, hL, hpr, hL1, hL3⟩ := id hc
  obtain ⟨hp2, hp97⟩ := PR_bd p hpr
  obtain ⟨s7, s8, sW, sS, sE, sP, sM⟩ := id hS
  -- the look at what is left
  have fin : ∀ (I1 : Nat → Nat → Int32) (rest parts : Nat → Nat), Fr [q + 20, q + 21] I I1 → vR I1 p (q + 20) W rest → vR I1 p (q + 21) 8 parts → (∀ j, size ≤ j → parts j = 0) → spR W size piv r (fun c => fo p (v c)) (fun c => fo p (rest c)) (fun j => fo p (parts j)) → Ex mX7_combines 162 [.ref q, xU, xU, .int (nI 0), xU, xU] [] (sh, I1, R) 0 0 (xqI Q) := by
    intro I1 rest parts f1 hrest hparts hz hR
    have loop : ∀ j c, c + j = W → (∀ d, d < c → rest d = 0) → Ex mX7_combines 162 [.ref q, xU, xU, .int (nI c), xU, xU] [] (sh, I1, R) 0 0 (xqI Q) := by
      intro j
      induction j with
      | zero =>
        intro c hc0 hall
        obtain rfl : c = W := by omega
        refine bX7_combines_162 hW hq ⟨fun _ => k1 I1 parts ⟨f1.sub (by simp), fun j _ => f1.at q j (by simp)⟩ hparts hz (fun d hd => ?_), fun z => ?_⟩
        · exact spR_yes hR (fun d hd => by show fo p (rest d) = 0; rw [hall d hd, fo_0]) d hd
        · rw [f1.at q 7 (by simp), s7] at z; exact absurd (nI_le (Nat.le_refl _) (by omega)) z
      | succ j ih =>
        intro c hc0 hall
        have hrc := hrest c (by omega)
        refine bX7_combines_162 hW hq ⟨fun z => ?_, fun _ => ⟨vp_nI (by omega) (by omega), ?_⟩⟩
        · rw [f1.at q 7 (by simp), s7] at z; exact absurd z (nI_ge (by omega) (by omega))
        rw [nclamp (by omega), hrc.1]
        refine ⟨fun z => ?_, fun z => ?_⟩
        · have h0 := (nI_eq (a := rest c) (b := 0) (by omega) (by omega)).mp z
          rw [nI_add]
          refine ih (c + 1) (by omega) (fun d hd => ?_)
          by_cases e : d = c
          · subst e; exact h0
          · exact hall d (by omega)
        · refine k0 _ parts rest c ⟨(f1.sub (by simp)).xi (by simp), fun j hj => by rw [xi_s hj]; exact f1.at q j (by simp)⟩ (fun s hs => by rw [xi_p (by omega)]; exact hparts s hs) hz (fun s hs => by rw [xi_p (by omega)]; exact hrest s hs) xi_e (by omega) (fun y => z (by rw [y]; rfl)) hR
    exact loop W 0 (by omega) (fun d hd => absurd hd (Nat.not_lt_zero d))
  -- row by row
  have rows : ∀ j i (I1 : Nat → Nat → Int32) (rest parts : Nat → Nat), i + j = size → Fr [q + 20, q + 21] I I1 → vR I1 p (q + 20) W rest → vR I1 p (q + 21) 8 parts → (∀ j, i ≤ j → parts j = 0) → spR W i piv r (fun c => fo p (v c)) (fun c => fo p (rest c)) (fun j => fo p (parts j)) → Ex mX7_combines 32 [.ref q, xU, .int (nI p), .int (nI i), xU, xU] [] (sh, I1, R) 0 0 (xqI Q) := by
    intro j
    induction j with
    | zero =>
      intro i I1 rest parts hi f1 hrest hparts hz hR
      obtain rfl : i = size := by omega
      refine bX7_combines_32 hW hq ⟨fun _ => fin I1 rest parts f1 hrest hparts hz hR, fun z => ?_⟩
      rw [f1.at q 8 (by simp), s8] at z; exact absurd (nI_le (Nat.le_refl _) (by omega)) z
    | succ j ih =>
      intro i I1 rest parts hi f1 hrest hparts hz hR
      obtain ⟨p1, p2⟩ := sP i (by omega)
      have hrp := hrest (piv i) p2
      refine bX7_combines_32 hW hq ⟨fun z => ?_, fun _ => ⟨vp_nI (by omega) (by omega), ?_⟩⟩
      · rw [f1.at q 8 (by simp), s8] at z; exact absurd z (nI_ge (by omega) (by omega))
      rw [nclamp (a := i) (by omega), f1.at (q + 19) i (by simp), p1, nclamp (a := piv i) (by omega), hrp.1]
      refine ⟨vp_nI (by omega) (by omega), fun z => ?_, fun z => ?_⟩
      · -- the row is taken away
        have step1 : ∀ j1 c (I2 : Nat → Nat → Int32), c + j1 = W → Fr [q + 20] I1 I2 → (∀ d, d < W → I2 (q + 20) d = nI (if d < c then (rest d + (p - rest (piv i)) * E i d) % p else rest d)) → Ex mX7_combines 64 [.ref q, xU, .int (nI p), .int (nI i), .int (nI (rest (piv i))), .int (nI c)] [] (sh, I2, R) 0 0 (xqI Q) := by
          intro j1
          induction j1 with
          | zero =>
            intro c I2 hc0 f2 g2
            obtain rfl : c = W := by omega
            refine bX7_combines_64 hW hq ⟨fun _ => ?_, fun y => ?_⟩
            · have step2 : ∀ j2 b (I3 : Nat → Nat → Int32), b + j2 = i + 1 → Fr [q + 21] I2 I3 → (∀ d, d < 8 → I3 (q + 21) d = nI (if d < b then (parts d + rest (piv i) * mk i d) % p else parts d)) → Ex mX7_combines 113 [.ref q, xU, .int (nI p), .int (nI i), .int (nI (rest (piv i))), .int (nI b)] [] (sh, I3, R) 0 0 (xqI Q) := by
                intro j2
                induction j2 with
                | zero =>
                  intro b I3 hb f3 g3
                  obtain rfl : b = i + 1 := by omega
                  refine bX7_combines_113 hW hq ⟨fun _ => ?_, fun y => absurd (nI_lt (by omega) (by omega)) y⟩
                  rw [nI_add]
                  refine ih (i + 1) I3 (fun d => (rest d + (p - rest (piv i)) * E i d) % p) (fun d => if d < i + 1 then (parts d + rest (piv i) * mk i d) % p else parts d) (by omega) ((f1.tr (f2.sub (by simp))).tr (f3.sub (by simp))) (fun d hd => ⟨?_, Nat.mod_lt _ (by omega)⟩) (fun d hd => ⟨g3 d hd, ?_⟩) (fun d hd => ?_) ?_
                  · rw [f3.at (q + 20) d (by simp), g2 d hd, if_pos hd]
                  · try dsimp only
                    split
                    · exact Nat.mod_lt _ (by omega)
                    · exact (hparts d hd).2
                  · try dsimp only
                    rw [if_neg (by omega)]; exact hz d (by omega)
                  · refine spR_step (i := i) hI (by omega) hR (fun d hd => ?_) (fun d hd => ?_) ?_
                    · show fo p ((rest d + (p - rest (piv i)) * E i d) % p) = fo p (rest d) - fo p (rest (piv i)) * fo p (E i d)
                      rw [fo_mod, fo_add, fo_mul, fo_neg (by omega)]
                      grind
                    · show fo p (if d < i + 1 then (parts d + rest (piv i) * mk i d) % p else parts d) = fo p (parts d) + fo p (rest (piv i)) * fo p (mk i d)
                      rw [if_pos (by omega), fo_mod, fo_add, fo_mul]
                    · show fo p (if i < i + 1 then (parts i + rest (piv i) * mk i i) % p else parts i) = fo p (rest (piv i)) * fo p (mk i i)
                      rw [if_pos (by omega), fo_mod, fo_add, fo_mul, hz i (Nat.le_refl _), fo_0]
                      grind
                | succ j2 ih2 =>
                  intro b I3 hb f3 g3
                  have hmk := sM i b (by omega) (by omega)
                  have hpb := (hparts b (by omega)).2
                  have hbd := mul_bd hp97 hrp.2 hmk.2
                  refine bX7_combines_113 hW hq ⟨fun y => absurd y (nI_nlt (by omega) (by omega)), fun _ => ⟨vp_nI (by omega) (by omega), vp_nI (by omega) (by omega), vp_nI (by omega) (by omega), nI_ne0 (by omega) (by omega), vp_nI (by omega) (by omega), ?_⟩⟩
                  rw [nclamp (a := b) (by omega), nclamp (a := i) (by omega), g3 b (by omega), if_neg (Nat.lt_irrefl b), f3.at _ b (by simp <;> omega), f2.at _ b (by simp <;> omega), f1.at _ b (by simp <;> omega), hmk.1]
                  simp only [pk_mul, nI_add]
                  rw [xrem_nI (by omega) (by omega) (by omega)]
                  refine ih2 (b + 1) _ (by omega) (f3.xi (by simp)) (fun d hd => ?_)
                  by_cases e : d = b
                  · subst e; rw [xi_e, if_pos (by omega)]
                  · rw [xi_s e, g3 d hd]
                    by_cases e2 : d < b
                    · rw [if_pos e2, if_pos (by omega)]
                    · rw [if_neg e2, if_neg (by omega)]
              exact step2 (i + 1) 0 I2 (by omega) Fr.rf (fun d hd => by rw [f2.at (q + 21) d (by simp), if_neg (Nat.not_lt_zero d)]; exact (hparts d hd).1)
            · rw [f2.at q 7 (by simp), f1.at q 7 (by simp), s7] at y; exact absurd (nI_le (Nat.le_refl _) (by omega)) y
          | succ j1 ih1 =>
            intro c I2 hc0 f2 g2
            have hE := sE i c (by omega) (by omega)
            have hrc := (hrest c (by omega)).2
            have hbig : (p - rest (piv i)) * E i c ≤ 97 * 96 := Nat.mul_le_mul (by omega) (by omega)
            refine bX7_combines_64 hW hq ⟨fun y => ?_, fun _ => ⟨vp_nI (by omega) (by omega), vp_nI (by omega) (by omega), vp_nI (by omega) (by omega), nI_ne0 (by omega) (by omega), vp_nI (by omega) (by omega), ?_⟩⟩
            · rw [f2.at q 7 (by simp), f1.at q 7 (by simp), s7] at y; exact absurd y (nI_ge (by omega) (by omega))
            rw [nclamp (a := c) (by omega), nclamp (a := i) (by omega), g2 c (by omega), if_neg (Nat.lt_irrefl c), f2.at _ c (by simp <;> omega), f1.at _ c (by simp <;> omega), hE.1, pk_sub (by omega)]
            simp only [pk_mul, nI_add]
            rw [xrem_nI (by omega) (by omega) (by omega)]
            refine ih1 (c + 1) _ (by omega) (f2.xi (by simp)) (fun d hd => ?_)
            by_cases e : d = c
            · subst e; rw [xi_e, if_pos (by omega)]
            · rw [xi_s e, g2 d hd]
              by_cases e2 : d < c
              · rw [if_pos e2, if_pos (by omega)]
              · rw [if_neg e2, if_neg (by omega)]
        exact step1 W 0 I1 (by omega) Fr.rf (fun d hd => by rw [if_neg (Nat.not_lt_zero d)]; exact (hrest d hd).1)
      · -- nothing there
        have h0 := (nI_eq (a := rest (piv i)) (b := 0) (by omega) (by omega)).mp z
        rw [nI_add]
        refine ih (i + 1) I1 rest parts (by omega) f1 hrest hparts (fun d hd => hz d (by omega)) ?_
        refine spR_step (i := i) hI (by omega) hR (fun d hd => ?_) (fun d hd => ?_) ?_
        · show fo p (rest d) = fo p (rest d) - fo p (rest (piv i)) * fo p (E i d)
          rw [h0, fo_0]; grind
        · show fo p (parts d) = fo p (parts d) + fo p (rest (piv i)) * fo p (mk i d)
          rw [h0, fo_0]; grind
        · show fo p (parts i) = fo p (rest (piv i)) * fo p (mk i i)
          rw [h0, hz i (Nat.le_refl _), fo_0]; grind
  refine eX7_combines (bX7_combines_0 hW hq ha ?_)
  rw [s7, hP, nclamp (a := 0) (by omega), nclamp (a := W) (by omega)]
  refine ⟨⟨⟨by decide, by decide, nI_neg0 (by omega)⟩, by omega, by omega⟩, k_fill hW hq.2.2.2.2.2.2.2.2.2.1 (by omega) (fun I1 f1 z1 => bX7_combines_30 hW hq ?_)⟩
  refine rows size 0 I1 v (fun _ => 0) (by omega) ((Fr.rf.xa (by simp)).tr (f1.sub (by simp))) (fun c hcW => ⟨?_, (hv c hcW).2⟩) (fun c hc8 => ⟨z1 c hc8, show 0 < p by omega⟩) (fun _ _ => rfl) ⟨fun c hcW => by simp only [sm]; grind, fun k hk => absurd hk (Nat.not_lt_zero k)⟩
  rw [f1.at (q + 20) c (by simp), xa_e]
  unfold va_cpy
  rw [if_pos ⟨Nat.zero_le _, by omega⟩, show 0 + (c - 0) = c by omega]
  exact (hv c hcW).1
/-- the rows with one more -/
def rPush {p : Nat} (r : Nat → Nat → Fin p) (size : Nat) (w : Nat → Fin p) : Nat → Nat → Fin p := fun j => if j = size then w else r j
theorem k_admit {p L : Nat} [NeZero p] {q W size a na : Nat} {E : Nat → Nat → Nat} {r : Nat → Nat → Fin p} {v : Nat → Nat} {Q : Int32 → xHp → Prop} (hW : xLay sh R) (hc : cCtx I p L) (hq : xSpan sh R q) (hq1 : 1 < q) (hS : spS I p q W size E r) (ha : sh[a]? = some (.inr (0, na))) (hna : W ≤ na) (haq : a < q ∨ q + 21 < a) (hv : vR I p a W v)
    (kn : ∀ I', Ou q (q + 22) I I' → inS W size r (fun c => fo p (v c)) → spS I' p q W size E r → Q (nI 0) (sh, I', R))
    (ky : ∀ I' E', Ou q (q + 22) I I' → ¬ inS W size r (fun c => fo p (v c)) → (∀ i, i < size → E' i = E i) → spS I' p q W (size + 1) E' (rPush r size (fun c => fo p (v c))) → Q (nI 1) (sh, I', R)) : CI mX7_admit [.ref q, .ref a] (sh, I, R) Q := by
  obtain ⟨hP, hL, hpr, hL1, hL3⟩ := id hc
  obtain ⟨hp2, hp97⟩ := PR_bd p hpr
  obtain ⟨piv, mk, hC, hI⟩ := hS
  obtain ⟨s7, s8, sW, sS, sE, sP, sM⟩ := id hC
  refine eX7_admit (bX7_admit_0 hW hq ha (k_combines hW hc hq hq1 hC hI ha hna haq hv (fun I1 parts f1 hp1 hz hsum => bX7_admit_5 hW hq ⟨fun _ => ?_, fun z => absurd z (by decide)⟩) (fun I1 parts rest c0 f1 hp1 hz hrest h5 hc0 hne hR => bX7_admit_5 hW hq ⟨fun z => absurd rfl z, fun _ => ?_⟩)))
  · exact kn I1 (Ou.of f1.1 (by simp <;> omega)) ⟨_, hsum⟩ ⟨piv, mk, hC.eq (f1.2 7 (by decide)) (f1.2 8 (by decide)) (fun c h1 h2 => f1.1 c (by simp <;> omega)), hI⟩
  · have hno : ¬ inS W size r (fun c => fo p (v c)) := spR_no hI hR hc0 (fun z => hne ((fo_eq0 (hrest c0 hc0).2).mp z))
    have hI2 : spI W size (fun j c => fo p (E j c)) piv (fun i j => fo p (mk i j)) (rPush r size (fun c => fo p (v c))) := spI_r hI (fun j hj c _ => by unfold rPush; rw [if_neg (by omega)])
    have hlast : rPush r size (fun c => fo p (v c)) size = (fun c => fo p (v c)) := by unfold rPush; rw [if_pos rfl]
    have hlt : size + 1 ≤ W := indp_le (isF_p hpr) (indp_push (isF_p hpr) hI2.2.2.2 (fun hd => hno (inS_congr (fun j hj i _ => by unfold rPush; rw [if_neg (by omega)]) (fun i _ => by rw [hlast]) hd)))
    have hc1 : cCtx I1 p L := hc.fr f1.1 (by simp <;> omega)
    have t7 : I1 q 7 = nI W := by rw [f1.2 7 (by decide)]; exact s7
    have t8 : I1 q 8 = nI size := by rw [f1.2 8 (by decide)]; exact s8
    have hr0 := hrest c0 hc0
    rw [t8, h5]
    refine ⟨fun _ => ⟨vp_nI (by omega) (by omega), ?_⟩, fun z => absurd (nI_lt (by omega) (by omega)) z⟩
    rw [nclamp (a := c0) (by omega), hr0.1, hc1.1]
    refine k_inverse hW hc1 hr0.2 hne (fun b hb hb1 => bX7_admit_43 hW hq ?_)
    rw [t8, h5]
    refine ⟨vp_nI (by omega) (by omega), ?_⟩
    rw [nclamp (a := size) (by omega)]
    -- the echelon's new row
    have st1 : ∀ j c (I2 : Nat → Nat → Int32), c + j = W → Fr [q + 19, (q + 1) + 1 + size] I1 I2 → (∀ i, I2 (q + 19) i = if i = size then nI c0 else I1 (q + 19) i) → (∀ d, d < c → I2 ((q + 1) + 1 + size) d = nI (rest d * b % p)) → Ex mX7_admit 60 [.ref q, xU, .int (nI p), .int (nI b), .int (nI c)] [] (sh, I2, R) 0 0 (xqI Q) := by
      intro j
      induction j with
      | zero =>
        intro c I2 hcW f2 g19 gE
        obtain rfl : c = W := by omega
        refine bX7_admit_60 hW hq ⟨fun _ => ?_, fun z => ?_⟩
        · have st2 : ∀ j2 e (I3 : Nat → Nat → Int32), e + j2 = size → Fr [(q + 10) + 1 + size] I2 I3 → (∀ d, d < e → I3 ((q + 10) + 1 + size) d = nI ((p - parts d) * b % p)) → Ex mX7_admit 101 [.ref q, xU, .int (nI p), .int (nI b), .int (nI e)] [] (sh, I3, R) 0 0 (xqI Q) := by
            intro j2
            induction j2 with
            | zero =>
              intro e I3 he f3 gM
              obtain rfl : e = size := by omega
              have v8 : I3 q 8 = nI e := by rw [f3.at q 8 (by simp <;> omega), f2.at q 8 (by simp <;> omega)]; exact t8
              refine bX7_admit_101 hW hq ⟨fun _ => ?_, fun z => ?_⟩
              · rw [v8]
                refine ⟨vp_nI (by omega) (by omega), vp_nI (by omega) (by omega), ?_⟩
                rw [nclamp (a := e) (by omega), xi_p (by omega), v8, nI_add]
                generalize hI4 : xi (xi I3 ((q + 10) + 1 + e) e (nI b)) q 8 (nI (e + 1)) = I4
                have f4 : ∀ c, c ≠ q → c ≠ (q + 10) + 1 + e → I4 c = I3 c := fun c h1 h2 => by rw [← hI4]; funext i; rw [xi_p h1, xi_p h2]
                have w7 : I4 q 7 = nI c := by rw [← hI4, xi_s (by decide), xi_p (by omega), f3.at q 7 (by simp <;> omega), f2.at q 7 (by simp <;> omega)]; exact t7
                have w8 : I4 q 8 = nI (e + 1) := by rw [← hI4, xi_e]
                have wm : ∀ i, I4 ((q + 10) + 1 + e) i = if i = e then nI b else I3 ((q + 10) + 1 + e) i := fun i => by
                  rw [← hI4, xi_p (by omega)]
                  by_cases ee : i = e
                  · subst ee; rw [xi_e, if_pos rfl]
                  · rw [xi_s ee, if_neg ee]
                have old : ∀ c, q < c → c < q + 20 → c ≠ (q + 10) + 1 + e → c ≠ (q + 1) + 1 + e → c ≠ q + 19 → I4 c = I c := fun c h1 h2 h3 h4 h5 => by rw [f4 c (by omega) h3, f3 c (by simp <;> omega), f2 c (by simp <;> omega), f1.1 c (by simp <;> omega)]
                refine ky I4 (fun i d => if i = e then rest d * b % p else E i d) (fun c hcq => ?_) hno (fun i hi => by funext d; rw [if_neg (by omega)]) ⟨fun i => if i = e then c0 else piv i, fun i j => if i = e then (if j = e then b else (p - parts j) * b % p) else mk i j, ⟨w7, w8, sW, by omega, fun i d hi hd => ?_, fun i hi => ?_, fun i j hi hj => ?_⟩, ?_⟩
                · rw [f4 c (by omega) (by omega), f3 c (by simp <;> omega), f2 c (by simp <;> omega), f1.1 c (by simp <;> omega)]
                · try dsimp only
                  by_cases ee : i = e
                  · subst ee
                    rw [if_pos rfl, f4 _ (by omega) (by omega), f3 _ (by simp <;> omega), gE d hd]
                    exact ⟨rfl, Nat.mod_lt _ (by omega)⟩
                  · rw [if_neg ee, old _ (by omega) (by omega) (by omega) (by omega) (by omega)]; exact sE i d (by omega) hd
                · try dsimp only
                  rw [f4 _ (by omega) (by omega), f3 _ (by simp <;> omega), g19]
                  by_cases ee : i = e
                  · rw [if_pos ee, if_pos ee]; exact ⟨rfl, hc0⟩
                  · rw [if_neg ee, if_neg ee, f1.1.at _ i (by simp <;> omega)]; exact sP i (by omega)
                · try dsimp only
                  by_cases ee : i = e
                  · subst ee
                    rw [if_pos rfl, wm]
                    by_cases ej : j = i
                    · rw [if_pos ej, if_pos ej]; exact ⟨rfl, hb⟩
                    · rw [if_neg ej, if_neg ej, gM j (by omega)]; exact ⟨rfl, Nat.mod_lt _ (by omega)⟩
                  · rw [if_neg ee, old _ (by omega) (by omega) (by omega) (by omega) (by omega)]; exact sM i j (by omega) hj
                · refine spI_push (b := fo p b) (c0 := c0) (rest := fun c => fo p (rest c)) (parts := fun j => fo p (parts j)) (isF_p hpr) hI2 ⟨fun d hd => ?_, hR.2⟩ hc0 ?_ (fun i hi d _ => by (try dsimp only); rw [if_neg (by omega)]) (fun d _ => by (try dsimp only); rw [if_pos rfl, fo_mod, fo_mul]) (fun i hi => by (try dsimp only); rw [if_neg (by omega)]) (by (try dsimp only); rw [if_pos rfl]) (fun i hi j _ => by (try dsimp only); rw [if_neg (by omega)]) (fun j hj => ?_) (by (try dsimp only); rw [if_pos rfl, if_pos rfl])
                  · rw [hlast, hR.1 d hd]
                    congr 1
                    exact sm_congr (fun j hj => by unfold rPush; rw [if_neg (by omega)])
                  · show fo p (rest c0) * fo p b = 1
                    rw [← fo_mul, ← fo_mod, hb1, fo_1]
                  · try dsimp only
                    rw [if_pos rfl, if_neg (by omega), fo_mod, fo_mul, fo_neg (by have := (hp1 j (by omega)).2; omega)]
              · rw [v8] at z; exact absurd (nI_le (Nat.le_refl _) (by omega)) z
            | succ j2 ih2 =>
              intro e I3 he f3 gM
              have v8 : I3 q 8 = nI size := by rw [f3.at q 8 (by simp <;> omega), f2.at q 8 (by simp <;> omega)]; exact t8
              have hpe := hp1 e (by omega)
              have hbig : (p - parts e) * b ≤ 97 * 96 := Nat.mul_le_mul (by omega) (by omega)
              refine bX7_admit_101 hW hq ⟨fun z => ?_, fun _ => ?_⟩
              · rw [v8] at z; exact absurd z (nI_ge (by omega) (by omega))
              rw [v8, nclamp (a := size) (by omega), nclamp (a := e) (by omega), f3.at (q + 21) e (by simp <;> omega), f2.at (q + 21) e (by simp <;> omega), hpe.1, pk_sub (by omega)]
              simp only [pk_mul, nI_add]
              rw [xrem_nI (by omega) (by omega) (by omega)]
              refine ⟨vp_nI (by omega) (by omega), vp_nI (by omega) (by omega), nI_ne0 (by omega) (by omega), vp_nI (by omega) (by omega), ih2 (e + 1) _ (by omega) (f3.xi (by simp)) (fun d hd => ?_)⟩
              by_cases ee : d = e
              · subst ee; rw [xi_e]
              · rw [xi_s ee]; exact gM d (by omega)
          exact st2 size 0 I2 (by omega) Fr.rf (fun d hd => absurd hd (Nat.not_lt_zero d))
        · rw [f2.at q 7 (by simp <;> omega), t7] at z; exact absurd (nI_le (Nat.le_refl _) (by omega)) z
      | succ j ih =>
        intro c I2 hcW f2 g19 gE
        have hrc := hrest c (by omega)
        have hbd := mul_bd hp97 hrc.2 hb
        have v8 : I2 q 8 = nI size := by rw [f2.at q 8 (by simp <;> omega)]; exact t8
        refine bX7_admit_60 hW hq ⟨fun z => ?_, fun _ => ?_⟩
        · rw [f2.at q 7 (by simp <;> omega), t7] at z; exact absurd z (nI_ge (by omega) (by omega))
        rw [v8, nclamp (a := size) (by omega), nclamp (a := c) (by omega), f2.at (q + 20) c (by simp <;> omega), hrc.1]
        simp only [pk_mul, nI_add]
        rw [xrem_nI (by omega) (by omega) (by omega)]
        refine ⟨vp_nI (by omega) (by omega), vp_nI (by omega) (by omega), nI_ne0 (by omega) (by omega), vp_nI (by omega) (by omega), ih (c + 1) _ (by omega) (f2.xi (by simp)) (fun i => by rw [xi_p (by omega)]; exact g19 i) (fun d hd => ?_)⟩
        by_cases ee : d = c
        · subst ee; rw [xi_e]
        · rw [xi_s ee]; exact gE d (by omega)
    refine st1 W 0 _ (by omega) (Fr.rf.xi (by simp)) (fun i => ?_) (fun d hd => absurd hd (Nat.not_lt_zero d))
    by_cases ee : i = size
    · subst ee; rw [xi_e, if_pos rfl]
    · rw [xi_s ee, if_neg ee]
end CSPAN
