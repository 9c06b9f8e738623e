section MODE
variable {sh : List xSh} {I : Nat → Nat → Int32} {R : Nat → Nat → Option Nat}
theorem w_isSolved {p L C k : Nat} [NeZero p] {e : Nat → Nat → Nat} {Q : Int32 → xHp → Prop} (hW : xLay sh R) (hc : mCtx I p L) (hC : C ≤ 60) (hk : k ≤ 4) (he : mEq I p C k e) (hind : indp C k (fun j d => fo p (e d j)))
    (ky : ∀ I' (c : Nat → Nat), Fr [213, 214] I I' → (∀ j, j < k → I' 214 j = nI (c j) ∧ c j < p) → (∀ d, d < C → fo p (e d k) = sm k (fun j => fo p (c j) * fo p (e d j))) → Q (nI 1) (sh, I', R))
    (kn : ∀ I', Fr [213, 214] I I' → ¬ inS C k (fun j d => fo p (e d j)) (fun d => fo p (e d k)) → Q (nI 0) (sh, I', R)) : CI mX10_isSolved [.ref 209, .int (nI k), .int (nI C)] (sh, I, R) Q := by
  obtain ⟨hP, -, hpr, -, -⟩ := id hc
  obtain ⟨hp2, hp97⟩ := PR_bd p hpr
  have hF := isF_p hpr
  have hkC : k ≤ C := indp_le hF hind
  let fe : (Nat → Nat → Nat) → Nat → Nat → Fin p := fun e d i => fo p (e d i)
  have hn0 : ∀ x : Nat → Fin p, slv C k (fe e) x 0 → ∀ i, i < k → x i = 0 := fun x hs => hind x (fun d hd => by
    have := hs d hd
    show sm k (fun j => x j * fe e d j) = 0
    rw [this]; grind)
  -- the end: solved
  have loop193 : ∀ (v3 : Int32) (e1 : Nat → Nat → Nat) (K : ∀ I', Fr [213, 214] I I' → (∀ j, j < k → I' 214 j = nI (e1 j k)) → Q v3 (sh, I', R)) (hv3 : v3 = 0 ∨ v3 = 1), ∀ n j (I1 : Nat → Nat → Int32), j + n = k → Fr [213, 214] I I1 → mEq I1 p C k e1 → (∀ i, i < j → I1 214 i = nI (e1 i k)) → Ex mX10_isSolved 193 [.ref 209, .int (nI k), xU, .int v3, .int (nI j), xU, xU] [] (sh, I1, R) 0 0 (xqI Q) := by
    intro v3 e1 K hv3 n
    induction n with
    | zero =>
      intro j I1 hj hf h1 h2
      obtain rfl : j = k := by omega
      exact bX10_isSolved_193 hW ⟨fun _ => ⟨hv3, K I1 hf h2⟩, fun c => absurd (nI_le (Nat.le_refl _) (by omega)) c⟩
    | succ n ih =>
      intro j I1 hj hf h1 h2
      refine bX10_isSolved_193 hW ⟨fun c => absurd c (nI_ge (by omega) (by omega)), fun _ => ?_⟩
      simp only [pk_mul, nI_add]
      rw [nclamp (by omega), nclamp (by omega), (h1 j (by omega) k (Nat.le_refl k)).1]
      refine ⟨vp_nI (by omega) (by omega), vp_nI (by omega) (by omega), ih (j + 1) _ (by omega) (hf.xi (by simp)) (fun d hd t ht => ?_) (fun i hi => ?_)⟩
      · rw [xi_p (by decide)]; exact h1 d hd t ht
      · by_cases q : i = j
        · subst q; rw [xi_e]
        · rw [xi_s q]; exact h2 i (by omega)
  have loop154 : ∀ (e1 : Nat → Nat → Nat) (I1 : Nat → Nat → Int32), Fr [213] I I1 → mEq I1 p C k e1 → (∀ x y, slv C k (fe e1) x y ↔ slv C k (fe e) x y) → clr C k (fe e1) → ∀ n d (v3 : Int32), d + n = C → k ≤ d → ((v3 = nI 1 ∧ ∀ a, k ≤ a → a < d → e1 a k = 0) ∨ (v3 = nI 0 ∧ ∃ a, k ≤ a ∧ a < C ∧ e1 a k ≠ 0)) → Ex mX10_isSolved 154 [.ref 209, .int (nI k), .int (nI C), .int v3, .int (nI d), xU, xU] [] (sh, I1, R) 0 0 (xqI Q) := by
    intro e1 I1 hf h1 hs hcl n
    induction n with
    | zero =>
      intro d v3 hd hkd hv
      obtain rfl : d = C := by omega
      refine bX10_isSolved_154 hW ⟨fun _ => ?_, fun c => absurd (nI_le (Nat.le_refl _) (by omega)) c⟩
      rcases hv with ⟨rfl, hz⟩ | ⟨rfl, a, ha1, ha2, ha3⟩
      · refine loop193 (nI 1) e1 (fun I' hf' hs' => ?_) (Or.inr rfl) k 0 I1 (by omega) (hf.sub (by simp)) h1 (fun i hi => by omega)
        refine ky I' (fun j => e1 j k) hf' (fun j hj => ⟨hs' j hj, (h1 j (by omega) k (Nat.le_refl k)).2⟩) (fun a ha => ?_)
        have h3 := (hs (fun j => fo p (e1 j k)) 1).mp ((clr_end hkC hcl _).mpr ⟨fun i hi => rfl, fun a h1 h2 => by show fo p (e1 a k) = 0; rw [hz a h1 h2, fo_0]⟩) a ha
        have h4 : (1 : Fin p) * fe e a k = fo p (e a k) := by show 1 * fo p (e a k) = _; grind
        rw [h4] at h3
        exact h3.symm
      · refine loop193 (nI 0) e1 (fun I' hf' hs' => ?_) (Or.inl rfl) k 0 I1 (by omega) (hf.sub (by simp)) h1 (fun i hi => by omega)
        refine kn I' hf' ?_
        rintro ⟨x, hx⟩
        have h3 : slv d k (fe e) x 1 := fun a ha => by
          have h8 : fo p (e a k) = sm k (fun j => x j * fo p (e a j)) := hx a ha
          show sm k (fun j => x j * fo p (e a j)) = 1 * fo p (e a k)
          rw [h8]; grind
        have h4 := ((clr_end hkC hcl _).mp ((hs x 1).mpr h3)).2 a ha1 ha2
        exact ha3 ((fo_eq0 (h1 a ha2 k (Nat.le_refl k)).2).mp h4)
    | succ n ih =>
      intro d v3 hd hkd hv
      refine bX10_isSolved_154 hW ⟨fun c => absurd c (nI_ge (by omega) (by omega)), fun _ => ⟨fun c => ?_, fun c => ?_⟩⟩
      · rw [nI_add]
        refine ih (d + 1) (nI 0) (by omega) (by omega) (Or.inr ⟨rfl, ?_⟩)
        rcases hv with ⟨rfl, -⟩ | ⟨-, h⟩
        · exact absurd c (by decide)
        · exact h
      · simp only [pk_mul, nI_add]
        have hk9 := h1 d (by omega) k (Nat.le_refl k)
        rw [nclamp (by omega), hk9.1]
        refine ⟨vp_nI (by omega) (by omega), fun c2 => ?_, fun c2 => ?_⟩
        · refine ih (d + 1) (nI 0) (by omega) (by omega) (Or.inr ⟨rfl, d, hkd, by omega, fun z => c2 (by rw [z]; rfl)⟩)
        · refine ih (d + 1) (nI 1) (by omega) (by omega) (Or.inl ⟨rfl, fun a h2 h3 => ?_⟩)
          have hd0 : e1 d k = 0 := by
            have := hk9.2
            exact (nI_eq (by omega) (by omega)).mp c2
          by_cases q : a = d
          · rw [q]; exact hd0
          · rcases hv with ⟨-, hz⟩ | ⟨rfl, -⟩
            · exact hz a h2 (by omega)
            · exact absurd rfl c
  -- the columns one by one
  have loop2 : ∀ n j (e1 : Nat → Nat → Nat) (I1 : Nat → Nat → Int32), j + n = k → Fr [213] I I1 → mEq I1 p C k e1 → (∀ x y, slv C k (fe e1) x y ↔ slv C k (fe e) x y) → clr C j (fe e1) → Ex mX10_isSolved 2 [.ref 209, .int (nI k), .int (nI C), .int (nI j), xU, xU, xU] [] (sh, I1, R) 0 0 (xqI Q) := by
    intro n
    induction n with
    | zero =>
      intro j e1 I1 hj hf h1 hs hcl
      obtain rfl : j = k := by omega
      exact bX10_isSolved_2 hW ⟨fun _ => loop154 e1 I1 hf h1 hs hcl (C - j) j (nI 1) (by omega) (Nat.le_refl _) (Or.inl ⟨rfl, fun a h2 h3 => by omega⟩), fun c => absurd (nI_le (Nat.le_refl _) (by omega)) c⟩
    | succ n ih =>
      intro j e1 I1 hj hf h1 hs hcl
      refine bX10_isSolved_2 hW ⟨fun c => absurd c (nI_ge (by omega) (by omega)), fun _ => ?_⟩
      have hn1 : ∀ x : Nat → Fin p, slv C k (fe e1) x 0 → ∀ i, i < k → x i = 0 := fun x hx => hn0 x ((hs x 0).mp hx)
      obtain ⟨d0, hd0, hd0C, hd0n⟩ := clr_pivot hF (show j < k by omega) hcl hn1
      -- clearing the column
      have elim : ∀ m d (e2 : Nat → Nat → Nat) (I2 : Nat → Nat → Int32), d + m = C → Fr [213] I I2 → mEq I2 p C k e2 → (∀ x y, slv C k (fe e2) x y ↔ slv C k (fe e) x y) → clr C j (fe e2) → fe e2 j j = 1 → (∀ a, a < d → a ≠ j → fe e2 a j = 0) → Ex mX10_isSolved 116 [.ref 209, .int (nI k), .int (nI C), .int (nI j), xU, xU, .int (nI d)] [] (sh, I2, R) 0 0 (xqI Q) := by
        intro m
        induction m with
        | zero =>
          intro d e2 I2 hd hf2 h2 hs2 hcl2 hjj hz
          refine bX10_isSolved_116 hW ⟨fun _ => ?_, fun c => absurd (nI_le (by omega) (by omega)) c⟩
          rw [nI_add]
          refine ih (j + 1) e2 I2 (by omega) hf2 h2 hs2 (fun a ha i hi => ?_)
          by_cases q : i = j
          · subst q
            by_cases q2 : a = i
            · subst q2; rw [if_pos rfl]; exact hjj
            · rw [if_neg q2]; exact hz a (by omega) q2
          · exact hcl2 a ha i (by omega)
        | succ m ihm =>
          intro d e2 I2 hd hf2 h2 hs2 hcl2 hjj hz
          refine bX10_isSolved_116 hW ⟨fun c => absurd c (nI_ge (by omega) (by omega)), fun _ => ⟨fun c => ?_, fun c => ?_⟩⟩
          · rw [nI_add]
            have c' := (nI_eq (by omega) (by omega)).mp c
            exact ihm (d + 1) e2 I2 (by omega) hf2 h2 hs2 hcl2 hjj (fun a ha hne => hz a (by omega) hne)
          · have hdj : d ≠ j := fun z => c (by rw [z])
            refine w_takesAway hW (hc.fr hf2 (by decide)) hC hk (by omega) (by omega) hdj (by omega) h2 (fun I3 hf3 h3 => bX10_isSolved_137 hW ?_)
            rw [nI_add]
            have hfe : ∀ a, a < C → ∀ t, t ≤ k → fe (fun d' i => if d' = d then (e2 d i + (p - e2 d j) * e2 j i) % p else e2 d' i) a t = if a = d then fe e2 d t - fe e2 d j * fe e2 j t else fe e2 a t := by
              intro a ha t ht
              show fo p (if a = d then _ else _) = _
              by_cases q : a = d
              · rw [if_pos q, if_pos q, fo_mod, fo_add, fo_mul, fo_neg (Nat.le_of_lt (h2 d (by omega) j (by omega)).2)]
                show _ = fo p (e2 d t) - fo p (e2 d j) * fo p (e2 j t)
                grind
              · rw [if_neg q, if_neg q]
            refine ihm (d + 1) _ I3 (by omega) (hf2.tr hf3) h3 (fun x y => (slv_elim (by omega) hdj hfe).trans (hs2 x y)) (fun a ha i hi => ?_) ?_ (fun a ha hne => ?_)
            · rw [hfe a ha i (by omega)]
              by_cases q : a = d
              · subst q
                rw [if_pos rfl, hcl2 j (by omega) i hi, if_neg (show ¬ j = i by omega), hcl2 a ha i hi]
                grind
              · rw [if_neg q]; exact hcl2 a ha i hi
            · rw [hfe j (by omega) j (by omega), if_neg (Ne.symm hdj)]; exact hjj
            · rw [hfe a (by omega) j (by omega)]
              by_cases q : a = d
              · subst q; rw [if_pos rfl, hjj]; grind
              · rw [if_neg q]; exact hz a (by omega) hne
      -- the row is scaled
      have scale : ∀ (e2 : Nat → Nat → Nat) (b : Nat), b < p → b * e2 j j % p = 1 → (∀ x y, slv C k (fe e2) x y ↔ slv C k (fe e) x y) → clr C j (fe e2) → (∀ a, a < C → ∀ t, t ≤ k → e2 a t < p) → ∀ m t (I2 : Nat → Nat → Int32), t + m = k + 1 → Fr [213] I I2 → mEq I2 p C k (fun a i => if a = j ∧ i < t then e2 j i * b % p else e2 a i) → Ex mX10_isSolved 71 [.ref 209, .int (nI k), .int (nI C), .int (nI j), xU, .int (nI b), .int (nI t)] [] (sh, I2, R) 0 0 (xqI Q) := by
        intro e2 b hb hb1 hs2 hcl2 hlt m
        induction m with
        | zero =>
          intro t I2 ht hf2 h2
          refine bX10_isSolved_71 hW ⟨fun _ => ?_, fun c => absurd (nI_lt (by omega) (by omega)) c⟩
          have hfe : ∀ a, a < C → ∀ i, i ≤ k → fe (fun a i => if a = j ∧ i < t then e2 j i * b % p else e2 a i) a i = if a = j then fe e2 j i * fo p b else fe e2 a i := by
            intro a ha i hi
            show fo p (if a = j ∧ i < t then _ else _) = _
            by_cases q : a = j
            · rw [if_pos ⟨q, by omega⟩, if_pos q, fo_mod, fo_mul]
            · rw [if_neg (fun z => q z.1), if_neg q]
          have hbb : fo p b * fo p (e2 j j) = 1 := by rw [← fo_mul, ← fo_mod, hb1, fo_1]
          refine elim C 0 _ I2 (by omega) hf2 h2 (fun x y => (slv_scale hbb hfe).trans (hs2 x y)) (fun a ha i hi => ?_) ?_ (fun a ha => by omega)
          · rw [hfe a ha i (by omega)]
            by_cases q : a = j
            · subst q
              rw [if_pos rfl, hcl2 a ha i hi, if_neg (show ¬ a = i by omega)]
              grind
            · rw [if_neg q]; exact hcl2 a ha i hi
          · rw [hfe j (by omega) j (by omega), if_pos rfl]
            show fo p (e2 j j) * fo p b = 1
            rw [← hbb]; grind
        | succ m ihm =>
          intro t I2 ht hf2 h2
          refine bX10_isSolved_71 hW ⟨fun c => absurd c (nI_nlt (by omega) (by omega)), fun _ => ?_⟩
          have hP2 : I2 209 1 = nI p := by rw [hf2.at 209 1 (by decide)]; exact hP
          have hj9 := h2 j (by omega) t (by omega)
          simp only [Nat.lt_irrefl, and_false, if_false] at hj9
          have hbd := mul_bd hp97 hj9.2 hb
          simp only [pk_mul, nI_add]
          rw [nclamp (by omega), hP2, hj9.1, pk_mul, xrem_nI (by omega) (by omega) (by omega)]
          refine ⟨vp_nI (by omega) (by omega), nI_ne0 (by omega) (by omega), vp_nI (by omega) (by omega), ihm (t + 1) _ (by omega) (hf2.xi (by simp)) (fun a ha i hi => ?_)⟩
          by_cases q1 : a = j ∧ i = t
          · obtain ⟨rfl, rfl⟩ := q1
            rw [xi_e]
            simp only [true_and, Nat.lt_succ_self, if_true]
            exact Nat.mod_lt _ (by omega)
          · rw [xi_s (by omega)]
            have e1 : (a = j ∧ i < t + 1) ↔ (a = j ∧ i < t) := by omega
            simp only [e1]
            exact h2 a ha i hi
      -- the pivot is found
      have found : ∀ c, j ≤ c → c < C → e1 c j ≠ 0 → CV mX10_swaps [.ref 209, .int (nI j), .int (nI c), .int (nI k)] (sh, I1, R) (fun h1 => Ex mX10_isSolved 52 [.ref 209, .int (nI k), .int (nI C), .int (nI j), xU, xU, xU] [] h1 0 0 (xqI Q)) := by
        intro c hjc hcC hne
        refine w_swaps hW hC hk hp97 (by omega) hcC h1 (fun I2 hf2 h2 => ?_)
        have h2j := h2 j (by omega) j (by omega)
        simp only [if_true] at h2j
        refine bX10_isSolved_52 hW ?_
        simp only [pk_mul, nI_add]
        rw [nclamp (by omega), show 5 * j + j = 5 * j + j from rfl, h2j.1]
        refine ⟨vp_nI (by omega) (by omega), w_inverse hW (hc.fr (hf.tr hf2) (by decide)) h2j.2 hne (fun b hb hb1 => bX10_isSolved_66 hW ?_)⟩
        refine scale (fun d i => if d = j then e1 c i else if d = c then e1 j i else e1 d i) b hb (by simp only [if_true]; exact hb1) (fun x y => (slv_swap (a := j) (b := c) (e := fe e1) (by omega) hcC (fun d hd i hi => ?_)).trans (hs x y)) (fun a ha i hi => ?_) (fun a ha t ht => (h2 a ha t ht).2) (k + 1) 0 I2 (by omega) (hf.tr hf2) (fun a ha i hi => ?_)
        · show fo p (if d = j then _ else _) = _
          by_cases q : d = j
          · rw [if_pos q, if_pos q]
          · rw [if_neg q, if_neg q]
            by_cases q2 : d = c
            · rw [if_pos q2, if_pos q2]
            · rw [if_neg q2, if_neg q2]
        · show fo p (if a = j then _ else _) = _
          by_cases q : a = j
          · subst q
            rw [if_pos rfl, if_neg (show ¬ a = i by omega)]
            have := hcl c hcC i hi
            rw [if_neg (show ¬ c = i by omega)] at this
            exact this
          · rw [if_neg q]
            by_cases q2 : a = c
            · subst q2
              rw [if_pos rfl, if_neg (show ¬ a = i by omega)]
              have := hcl j (by omega) i hi
              rw [if_neg (show ¬ j = i by omega)] at this
              exact this
            · rw [if_neg q2]; exact hcl a ha i hi
        · have := h2 a ha i hi
          simp only [Nat.not_lt_zero, and_false, if_false]
          exact this
      have search : ∀ m c, c + m = C → j ≤ c → (∀ a, j ≤ a → a < c → e1 a j = 0) → Ex mX10_isSolved 10 [.ref 209, .int (nI k), .int (nI C), .int (nI j), .int (nI c), xU, xU] [] (sh, I1, R) 0 0 (xqI Q) := by
        intro m
        induction m with
        | zero =>
          intro c hcm hjc hz
          exact absurd (show fe e1 d0 j = 0 by show fo p (e1 d0 j) = 0; rw [hz d0 hd0 (by omega), fo_0]) hd0n
        | succ m ihm =>
          intro c hcm hjc hz
          have h9 := h1 c (by omega) j (by omega)
          refine bX10_isSolved_10 hW ⟨fun z => absurd z (nI_ge (by omega) (by omega)), fun _ => ?_⟩
          simp only [pk_mul, nI_add]
          rw [nclamp (by omega), h9.1]
          refine ⟨vp_nI (by omega) (by omega), fun z => ⟨fun _ => found c hjc (by omega) (fun q => z (by rw [q]; rfl)), fun q => ?_⟩, fun z => ?_⟩
          · have := (nI_eq (by omega) (by omega)).mp q; omega
          · have hz0 : e1 c j = 0 := by
              have := h9.2
              exact (nI_eq (by omega) (by omega)).mp z
            refine ihm (c + 1) (by omega) (by omega) (fun a h2 h3 => ?_)
            by_cases q : a = c
            · rw [q]; exact hz0
            · exact hz a h2 (by omega)
      exact search (C - j) j (by omega) (Nat.le_refl _) (fun a h2 h3 => by omega)
  exact eX10_isSolved (bX10_isSolved_0 hW (loop2 k 0 e I (by omega) Fr.rf he (fun x y => Iff.rfl) (fun d hd i hi => by omega)))
end MODE
