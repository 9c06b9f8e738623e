section SPANS2
variable {sh : List xSh} {I : Nat → Nat → Int32} {R : Nat → Nat → Option Nat}
/-- a row comes, in now, if it is no combination -/
theorem w_spans {p L n : Nat} [NeZero p] {B : List Nat} {row : Nat → Nat → Fin p} {w : Nat} {v : Nat → Nat} {E : Nat → Nat → Nat} {piv : Nat → Nat} {mk : Nat → Nat → Fin p} {Q : xHp → Prop} (hW : xLay sh R) (hc : mCtx I p L) (hS : mSp I p n B.length E piv) (hI : spI n B.length (fun j c => fo p (E j c)) piv mk (fun j => row (B.getD j 0)))
    (hv : ∀ s, s < n → I 211 s = nI (v s) ∧ v s < p) (hrow : ∀ s, s < n → row w s = fo p (v s))
    (ky : ∀ I', Fr [211] I I' → dpw row n B w → Q (sh, I', R))
    (kn : ∀ I' E' piv' mk', Fr [209, 211, 224] I I' → (∀ j, j ≠ 34 → I' 209 j = I 209 j) → ¬ dpw row n B w → mSp I' p n (B ++ [w]).length E' piv' → spI n (B ++ [w]).length (fun j c => fo p (E' j c)) piv' mk' (fun j => row ((B ++ [w]).getD j 0)) → Q (sh, I', R)) : CV mX10_spans [.ref 209, .int (nI n)] (sh, I, R) Q := by
  obtain ⟨hP, hL, hpr, hL1, hL3⟩ := id hc
  obtain ⟨hp2, hp97⟩ := PR_bd p hpr
  obtain ⟨hS1, hS2, hS3, hS4, hS5⟩ := id hS
  have hI2 : spI n B.length (fun j c => fo p (E j c)) piv mk (fun j => row ((B ++ [w]).getD j 0)) := spI_r hI (fun j hj c _ => by rw [gd_app hj])
  have hlast : ∀ c, row ((B ++ [w]).getD B.length 0) c = row w c := fun c => by rw [gd_last]
  -- the row comes in, or not
  have fin : ∀ (I1 : Nat → Nat → Int32) (u : Nat → Nat) (parts : Nat → Fin p), Fr [211] I I1 → (∀ s, s < n → I1 211 s = nI (u s) ∧ u s < p) → spR n B.length piv (fun j => row ((B ++ [w]).getD j 0)) (row w) (fun s => fo p (u s)) parts → Ex mX10_spans 87 [.ref 209, .int (nI n), .int (nI 0), xU, xU, xU] [] (sh, I1, R) 0 0 (xqV Q) := by
    intro I1 u parts hf hu hR
    have hc1 := hc.fr hf (by decide)
    have loop : ∀ j a, a + j = n → (∀ s, s < a → u s = 0) → Ex mX10_spans 87 [.ref 209, .int (nI n), .int (nI a), xU, xU, xU] [] (sh, I1, R) 0 0 (xqV Q) := by
      intro j
      induction j with
      | zero =>
        intro a ha hz
        obtain rfl : a = n := by omega
        refine bX10_spans_87 hW ⟨fun _ => ⟨fun _ => ky I1 hf ?_, fun q => absurd (nI_le (Nat.le_refl _) (by omega)) q⟩, fun q => absurd (nI_le (Nat.le_refl _) (by omega)) q⟩
        have := spR_yes hR (fun c hc => by rw [hz c hc, fo_0])
        refine ⟨parts, fun i hi => ?_⟩
        rw [this i hi]
        exact sm_congr (fun j hj => by dsimp only; rw [gd_app hj])
      | succ j ih =>
        intro a ha hz
        refine bX10_spans_87 hW ⟨fun q => absurd q (nI_ge (by omega) (by omega)), fun _ => ⟨vp_nI (by omega) (by omega), ?_⟩⟩
        rw [nclamp (by omega), (hu a (by omega)).1]
        have hua := (hu a (by omega)).2
        refine ⟨fun q => ⟨fun q2 => absurd q2 (nI_ge (by omega) (by omega)), fun _ => ⟨vp_nI (by omega) (by omega), ?_⟩⟩, fun q => ?_⟩
        · have hne : u a ≠ 0 := fun z => q (by rw [z]; rfl)
          refine w_inverse hW hc1 hua hne (fun b hb hb1 => bX10_spans_122 hW ?_)
          have hno : ¬ dpw row n B w := fun hd => by
            refine spR_no hI2 hR (c := a) (by omega) (fun z => hne ((fo_eq0 hua).mp z)) ?_
            exact inS_congr (fun j hj i _ => by rw [gd_app hj]) (fun _ _ => rfl) hd
          have hlen := indp_le (isF_p hpr) (indp_push (isF_p hpr) hI2.2.2.2 (fun hd => hno (inS_congr (fun j hj i _ => by rw [gd_app hj]) (fun i _ => hlast i) hd)))
          have hw4 : ∀ j2 s (I2 : Nat → Nat → Int32), s + j2 = n → Fr [224] I1 I2 → (∀ i, i < 4 * B.length → I2 224 i = I1 224 i) → (∀ c, c < s → I2 224 (4 * B.length + c) = nI (u c * b % p)) → Ex mX10_spans 126 [.ref 209, .int (nI n), xU, .int (nI b), .int (nI s), xU] [] (sh, I2, R) 0 0 (xqV Q) := by
            intro j2
            induction j2 with
            | zero =>
              intro s I2 hs hf2 ho hn2
              refine bX10_spans_126 hW ⟨fun _ => ?_, fun q => absurd (nI_le (by omega) (by omega)) q⟩
              have e34 : I2 209 34 = nI B.length := by rw [hf2.at 209 34 (by decide), hf.at 209 34 (by decide)]; exact hS1
              rw [e34, nI_add]
              generalize hI3 : xi I2 209 34 (nI (B.length + 1)) = I3
              have hf3 : Fr [209] I2 I3 := by rw [← hI3]; exact Fr.rf.xi (by simp)
              have h224 : ∀ i, I3 224 i = I2 224 i := fun i => hf3.at 224 i (by decide)
              refine kn I3 (fun j c => if j < B.length then E j c else u c * b % p) (fun j => if j < B.length then piv j else a) (fun i j => if i < B.length then mk i j else if j < B.length then - parts j * fo p b else fo p b) (((hf.sub (by simp)).tr (hf2.sub (by simp))).tr (hf3.sub (by simp))) (fun j hj => by rw [← hI3, xi_s hj, hf2.at 209 j (by decide), hf.at 209 j (by decide)]) hno ⟨by rw [← hI3, xi_e]; simp, by simp; omega, hS3, fun j c hj hcn => ?_, fun j hj => ?_⟩ ?_
              · simp at hj
                rw [h224]
                by_cases e : j < B.length
                · simp only [e, if_true]; rw [ho _ (by omega), hf.at 224 _ (by decide)]; exact hS4 j c e hcn
                · obtain rfl : j = B.length := by omega
                  simp only [Nat.lt_irrefl, if_false]; rw [hn2 c (by omega)]
                  exact ⟨rfl, Nat.mod_lt _ (by omega)⟩
              · simp at hj
                by_cases e : j < B.length
                · simp only [e, if_true]; exact hS5 j e
                · simp only [e, if_false]
                  refine ⟨by omega, fun z => ?_, fun c hca => by rw [hz c hca, Nat.zero_mul]; exact Nat.zero_mod _⟩
                  rw [Nat.mul_comm, hb1] at z; exact absurd z (by decide)
              · rw [List.length_append]
                refine spI_push (b := fo p b) (c0 := a) (ech' := fun j c => fo p (if j < B.length then E j c else u c * b % p)) (piv' := fun j => if j < B.length then piv j else a) (mk' := fun i j => if i < B.length then mk i j else if j < B.length then - parts j * fo p b else fo p b) (isF_p hpr) hI2 (parts := parts) (rest := fun s => fo p (u s)) ⟨fun c hcn => by rw [hlast c]; exact hR.1 c hcn, hR.2⟩ (by omega) ?_ (fun i hi c _ => by simp only [hi, if_true]) (fun c _ => by simp only [Nat.lt_irrefl, if_false]; rw [fo_mod, fo_mul]) (fun i hi => by simp only [hi, if_true]) (by simp only [Nat.lt_irrefl, if_false]) (fun i hi j _ => by simp only [hi, if_true]) (fun j hj => by simp only [Nat.lt_irrefl, hj, if_true, if_false]) (by simp only [Nat.lt_irrefl, if_false])
                rw [← fo_mul, ← fo_mod, Nat.mul_comm, hb1, fo_1]
            | succ j2 ih2 =>
              intro s I2 hs hf2 ho hn2
              have e34 : I2 209 34 = nI B.length := by rw [hf2.at 209 34 (by decide), hf.at 209 34 (by decide)]; exact hS1
              have hub : u s * b ≤ 9216 := mul_bd hp97 (hu s (by omega)).2 hb
              refine bX10_spans_126 hW ⟨fun q => absurd q (nI_ge (by omega) (by omega)), fun _ => ⟨vp_nI (by omega) (by omega), ?_⟩⟩
              rw [e34, hf2.at 209 1 (by decide), hc1.1, nclamp (by omega), hf2.at 211 s (by decide), (hu s (by omega)).1]
              simp only [pk_mul, nI_add]
              rw [xrem_nI (by omega) (by omega) (by omega), nclamp (by omega)]
              refine ⟨nI_ne0 (by omega) (by omega), vp_nI (by omega) (by omega), ih2 (s + 1) _ (by omega) (hf2.xi (by simp)) (fun i hi => by rw [xi_s (by omega)]; exact ho i hi) (fun c hcs => ?_)⟩
              by_cases e : c = s
              · subst e; rw [xi_e]
              · rw [xi_s (by omega)]; exact hn2 c (by omega)
          exact hw4 n 0 I1 (by omega) Fr.rf (fun _ _ => rfl) (fun c hcs => by omega)
        · have h0 := (nI_eq (a := u a) (b := 0) (by omega) (by omega)).mp q
          rw [nI_add]
          refine ih (a + 1) (by omega) (fun s hs => ?_)
          by_cases e : s = a
          · subst e; exact h0
          · exact hz s (by omega)
    exact loop n 0 (by omega) (fun s hs => by omega)
  -- rows taken away
  have loop1 : ∀ j i (I1 : Nat → Nat → Int32) (u : Nat → Nat) (parts : Nat → Fin p), i + j = B.length → Fr [211] I I1 → (∀ s, s < n → I1 211 s = nI (u s) ∧ u s < p) → spR n i piv (fun j => row ((B ++ [w]).getD j 0)) (row w) (fun s => fo p (u s)) parts → Ex mX10_spans 2 [.ref 209, .int (nI n), .int (nI i), xU, xU, xU] [] (sh, I1, R) 0 0 (xqV Q) := by
    intro j
    induction j with
    | zero =>
      intro i I1 u parts hi hf hu hR
      obtain rfl : i = B.length := by omega
      refine bX10_spans_2 hW ⟨fun _ => fin I1 u parts hf hu hR, fun q => ?_⟩
      rw [hf.at 209 34 (by decide), hS1] at q
      exact absurd (nI_le (Nat.le_refl _) (by omega)) q
    | succ j ih =>
      intro i I1 u parts hi hf hu hR
      have hS9 : mSp I1 p n B.length E piv := ⟨by rw [hf.at 209 34 (by decide)]; exact hS1, hS2, hS3, fun j c a b => by rw [hf.at 224 _ (by decide)]; exact hS4 j c a b, hS5⟩
      obtain ⟨q1, q2, q3⟩ := hS5 i (by omega)
      refine bX10_spans_2 hW ⟨fun q => ?_, fun _ => w_leadOf hW hp97 hS9 (by omega) (bX10_spans_16 hW ⟨vp_nI (by omega) (by omega), ?_⟩)⟩
      · rw [hf.at 209 34 (by decide), hS1] at q
        exact absurd q (nI_ge (by omega) (by omega))
      · rw [nclamp (by omega), (hu _ q1).1]
        have hby := (hu _ q1).2
        have loop2 : ∀ j2 s (I2 : Nat → Nat → Int32), s + j2 = n → Fr [211] I I2 → (∀ c, c < n → I2 211 c = nI (if c < s then (u c + (p - u (piv i)) * E i c) % p else u c)) → Ex mX10_spans 28 [.ref 209, .int (nI n), .int (nI i), xU, .int (nI (u (piv i))), .int (nI s)] [] (sh, I2, R) 0 0 (xqV Q) := by
          intro j2
          induction j2 with
          | zero =>
            intro s I2 hs hf2 h2
            refine bX10_spans_28 hW ⟨fun _ => ?_, fun q => absurd (nI_le (by omega) (by omega)) q⟩
            rw [nI_add]
            refine ih (i + 1) I2 (fun c => (u c + (p - u (piv i)) * E i c) % p) (fun j => if j < i then parts j + fo p (u (piv i)) * mk i j else fo p (u (piv i)) * mk i i) (by omega) hf2 (fun c hcn => ⟨by rw [h2 c hcn, if_pos (by omega)], Nat.mod_lt _ (by omega)⟩) ?_
            refine spR_step (i := i) (rest' := fun c => fo p ((u c + (p - u (piv i)) * E i c) % p)) (parts' := fun j => if j < i then parts j + fo p (u (piv i)) * mk i j else fo p (u (piv i)) * mk i i) hI2 (by omega) hR (fun c hcn => ?_) (fun j hj => by simp only [hj, if_true]) (by simp only [Nat.lt_irrefl, if_false])
            show fo p ((u c + (p - u (piv i)) * E i c) % p) = fo p (u c) - fo p (u (piv i)) * fo p (E i c)
            rw [fo_mod, fo_add, fo_mul, fo_neg (by omega)]
            grind
          | succ j2 ih2 =>
            intro s I2 hs hf2 h2
            have hE := hS4 i s (by omega) (by omega)
            have hus := (hu s (by omega)).2
            have hbig : (p - u (piv i)) * E i s ≤ 97 * 96 := Nat.mul_le_mul (by omega) (by omega)
            refine bX10_spans_28 hW ⟨fun q => absurd q (nI_ge (by omega) (by omega)), fun _ => ⟨vp_nI (by omega) (by omega), ?_⟩⟩
            rw [hf2.at 209 1 (by decide), hP, nclamp (by omega)]
            simp only [pk_mul, nI_add]
            rw [nclamp (by omega), h2 s (by omega), if_neg (Nat.lt_irrefl _), hf2.at 224 _ (by decide), hE.1, pk_sub (by omega), pk_mul, nI_add, xrem_nI (by omega) (by omega) (by omega)]
            refine ⟨vp_nI (by omega) (by omega), nI_ne0 (by omega) (by omega), vp_nI (by omega) (by omega), ih2 (s + 1) _ (by omega) (hf2.xi (by simp)) (fun c hcn => ?_)⟩
            by_cases e : c = s
            · subst e; rw [xi_e, if_pos (by omega)]
            · rw [xi_s e, h2 c hcn]
              by_cases e2 : c < s
              · rw [if_pos e2, if_pos (by omega)]
              · rw [if_neg e2, if_neg (by omega)]
        exact loop2 n 0 I1 (by omega) hf (fun c hcn => by rw [if_neg (Nat.not_lt_zero c)]; exact (hu c hcn).1)
  refine eX10_spans (bX10_spans_0 hW (loop1 B.length 0 I v (fun _ => 0) (by omega) Fr.rf hv ?_))
  exact ⟨fun c hcn => by rw [hrow c hcn]; simp only [sm]; grind, fun k hk => by omega⟩
end SPANS2
