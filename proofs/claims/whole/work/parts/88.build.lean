/-! THE CLASS: machines made of words; the first word of some value -/
section CBUILD
variable {sh : List xSh} {I : Nat → Nat → Int32} {R : Nat → Nat → Option Nat}
def buF (a : Nat) (I I' : Nat → Nat → Int32) : Prop := ∀ c, c ≠ 34 → c ≠ 36 → c ≠ 37 → c ≠ 60 → c ≠ 80 → c ≠ 81 → c < a ∨ a + 3 < c → I' c = I c
def madeE (p : Nat) [NeZero p] (L : Nat) (A : Mac) (B : List Nat) (K : Nat) (E : Nat → Nat → Nat) (G : Mac) : Prop := G.1 = B.length ∧ (∀ s, s < B.length → G.2.1 s = if s = 0 then 1 else 0) ∧ (∀ s, s < B.length → G.2.2.1 s = vN p A (wl L (B.getD s 0))) ∧ (∀ s x t, s < B.length → x < L → t < B.length → G.2.2.2 s x t < p) ∧
  ∀ s x c, s < B.length → x < L → c < K → rwE p L A E (B.getD s 0 * L + x + 1) c = sm B.length (fun t => fo p (G.2.2.2 s x t) * rwE p L A E (B.getD t 0) c)
theorem madeE.ok {p L K C : Nat} [NeZero p] (hL : 0 < L) {A G : Mac} {B : List Nat} {E : Nat → Nat → Nat} {cs : Nat → Nat} (h : madeE p L A B K E G) (hE : ∀ d, d < C → inS A.1 K (fun i s => fo p (E i s)) (bcol p L A cs d)) : madeOK p L A B C cs G := by
  obtain ⟨h1, h2, h3, h4, h5⟩ := h
  refine ⟨h1, h2, h3, h4, fun s x d hs hx hd => ?_⟩
  rw [RW_row hL]
  rw [sm_congr (g := fun t => fo p (G.2.2.2 s x t) * rowC A.1 (fS p A) (fW p A) L (bcol p L A cs) (B.getD t 0) d) (fun t _ => by rw [RW_row hL])]
  exact rowC_tr (hE d hd) (fun c hc => h5 s x c hs hx hc)
theorem k_build {p L q M a Ma h t K : Nat} [NeZero p] {A : Mac} {E : Nat → Nat → Nat} {rc : Nat → Nat → Fin p} {B : List Nat} {Q : xHp → Prop} (hW : xLay sh R) (hc : cCtx I p L) (h9 : R 23 9 = some q) (hq : xMach sh R q M) (hqb : q + 3 < 23 ∨ 82 ≤ q) (hM : M ≤ 8) (hA : cM I L q M A) (hok : okM p L A) (hh : hT R h t) (hC : spS I p 38 A.1 K E rc) (hB : bWd I p L A K E B) (ha : xMach sh R a Ma) (hab : a + 3 < 23 ∨ 82 ≤ a) (ha1 : 1 < a) (hMa : Ma ≤ 8) (haq : a + 3 < q ∨ q + 3 < a) (h1 : I a 1 = nI Ma) (hBa : B.length ≤ Ma) (hcl : ∀ s x, s < B.length → x < L → dpw (rwE p L A E) K B (B.getD s 0 * L + x + 1))
    (k : ∀ I' G, buF a I I' → madeE p L A B K E G → cM I' L a Ma G → Q (sh, I', R)) : CV mX0_build [.ref 23, .ref a] (sh, I, R) Q := by
  obtain ⟨hP, hL, hpr, hL1, hL3⟩ := id hc
  obtain ⟨hp2, hp97⟩ := PR_bd p hpr
  have h8 := hA.1
  obtain ⟨hBK, hK8⟩ := hB.le
  obtain ⟨s1, s2⟩ := hh.sz hW
  have hbd := hh.bd
  have hm3 := m3m hMa
  refine eX0_build (bX0_build_0 hW ha ?_)
  rw [hB.1]
  refine k_become (L := L) hW ha hMa hL3 hBa h1 (fun I1 f1 c1 => bX0_build_8 hW ha ?_)
  -- what stays
  have keepQ : ∀ I2, buF a I I2 → cM I2 L q M A := fun I2 hf => hA.eq (hf q (by omega) (by omega) (by omega) (by omega) (by omega) (by omega) (by omega)) (hf (q + 1) (by omega) (by omega) (by omega) (by omega) (by omega) (by omega) (by omega)) (hf (q + 2) (by omega) (by omega) (by omega) (by omega) (by omega) (by omega) (by omega)) (hf (q + 3) (by omega) (by omega) (by omega) (by omega) (by omega) (by omega) (by omega))
  have keepC : ∀ I2, buF a I I2 → cCtx I2 p L := fun I2 hf => hc.eq (hf 1 (by omega) (by omega) (by omega) (by omega) (by omega) (by omega) (by omega))
  have keepS : ∀ I2, buF a I I2 → spS I2 p 38 A.1 K E rc := fun I2 hf => hC.eq (by rw [hf 38 (by omega) (by omega) (by omega) (by omega) (by omega) (by omega) (by omega)]) (by rw [hf 38 (by omega) (by omega) (by omega) (by omega) (by omega) (by omega) (by omega)]) (fun c g1 g2 => hf c (by omega) (by omega) (by omega) (by omega) (by omega) (by omega) (by omega))
  have keepR : ∀ I2, buF a I I2 → ∀ j, j < B.length → vR I2 p (25 + 1 + j) A.1 (fN p A (wl L (B.getD j 0))) := fun I2 hf j hj s hs => by
    rw [hf (25 + 1 + j) (by omega) (by omega) (by omega) (by omega) (by omega) (by omega) (by omega)]; exact hB.2.2.1 j hj s hs
  obtain ⟨E2, piv2, mk2, hcs2, hsp2⟩ := hB.2.2.2
  have st : Nat → Nat := fun s => if s = 0 then 1 else 0
  have row60 : ∀ i, i < 8 → sh[25 + 1 + i]? = some (.inr (0, 8)) := fun i hi => (hW.2.2.2.2.2.2.2.2.2.2.2.1.2 i hi).2
  have outer : ∀ j i (I2 : Nat → Nat → Int32) (cf : Nat → Nat → Nat → Nat), i + j = B.length → buF a I I2 → I2 a 1 = nI Ma → I2 a 2 = nI B.length → I2 60 7 = I 60 7 → I2 60 8 = I 60 8 → (∀ s, s < Ma → I2 (a + 1) s = nI (if s < i then (if s = 0 then 1 else 0) else 0)) → (∀ s, s < Ma → I2 (a + 2) s = nI (if s < i then vN p A (wl L (B.getD s 0)) else 0)) → (∀ s y u, s < Ma → y < L → u < Ma → I2 (a + 3) ((s * 3 + y) * Ma + u) = nI (if s < i ∧ u < B.length then cf s y u else 0)) → (∀ s y u, s < i → y < L → u < B.length → cf s y u < p) → (∀ s y c, s < i → y < L → c < K → rwE p L A E (B.getD s 0 * L + y + 1) c = sm B.length (fun u => fo p (cf s y u) * rwE p L A E (B.getD u 0) c)) → Ex mX0_build 10 [.ref 23, .ref a, .int (nI i), xU] [] (sh, I2, R) 0 0 (xqV Q) := by
    intro j
    induction j with
    | zero =>
      intro i I2 cf hi hf e1 e2 e7 e8 g1 g2 g3 g4 g5
      obtain rfl : i = B.length := by omega
      refine bX0_build_10 hW ha h9 hq ⟨fun _ => ?_, fun z => ?_⟩
      · refine k I2 (B.length, fun s => if s = 0 then 1 else 0, fun s => vN p A (wl L (B.getD s 0)), cf) hf ⟨rfl, fun _ _ => rfl, fun _ _ => rfl, g4, g5⟩ ⟨hBa, e1, e2, g1, g2, g3⟩
      · rw [e2] at z; exact absurd (nI_le (Nat.le_refl _) (by omega)) z
    | succ j ih =>
      intro i I2 cf hi hf e1 e2 e7 e8 g1 g2 g3 g4 g5
      have hvr := keepR I2 hf i (by omega)
      -- behind the start
      have ends : ∀ u : Nat, u = (if i = 0 then 1 else 0) → CI mX3_product [.ref q, .ref (25 + 1 + i), .ref (q + 2)] (sh, xi I2 (a + 1) i (nI u), R) (fun w h1 => Ex mX0_build 58 [.ref 23, .ref a, .int (nI i), xU] (.int w :: [.int (nI i), .ref (a + 2)]) h1 0 0 (xqV Q)) := by
        intro u hu
        generalize hI3 : xi I2 (a + 1) i (nI u) = I3
        have f3 : Fr [a + 1] I2 I3 := by rw [← hI3]; exact Fr.rf.xi (by simp)
        have hf3 : buF a I I3 := fun c c1 c2 c3 c4 c5 c6 c7 => by rw [f3 c (by simp <;> omega)]; exact hf c c1 c2 c3 c4 c5 c6 c7
        have hA3 := keepQ I3 hf3
        refine k_product (u := fN p A (wl L (B.getD i 0))) (v := A.2.2.1) hW (keepC I3 hf3) hq hM hA3 (row60 i (by omega)) hq.2.2.1 (by omega) hA.1 (by omega) hM (keepR I3 hf3 i (by omega)) (fun s hs => ⟨hA3.E hs, hok.2.1 s hs⟩) (bX0_build_58 hW ha ha.2.2.1 ⟨vp_nI (by omega) (by omega), ?_⟩)
        rw [nclamp (by omega)]
        show Ex mX0_build 61 [.ref 23, .ref a, .int (nI i), .int (nI 0)] [] (sh, xi I3 (a + 2) i (nI (vN p A (wl L (B.getD i 0)))), R) 0 0 (xqV Q)
        generalize hI4 : xi I3 (a + 2) i (nI (vN p A (wl L (B.getD i 0)))) = I4
        have f4 : Fr [a + 2] I3 I4 := by rw [← hI4]; exact Fr.rf.xi (by simp)
        have hf4 : buF a I I4 := fun c c1 c2 c3 c4 c5 c6 c7 => by rw [f4 c (by simp <;> omega)]; exact hf3 c c1 c2 c3 c4 c5 c6 c7
        have w1 : ∀ s, s < Ma → I4 (a + 1) s = nI (if s < i + 1 then (if s = 0 then 1 else 0) else 0) := fun s hs => by
          rw [f4.at (a + 1) s (by simp), ← hI3]
          by_cases e : s = i
          · subst e; rw [xi_e, if_pos (by omega), hu]
          · rw [xi_s e, g1 s hs]
            by_cases e' : s < i
            · rw [if_pos e', if_pos (show s < i + 1 by omega)]
            · rw [if_neg e', if_neg (show ¬ s < i + 1 by omega)]
        have w2 : ∀ s, s < Ma → I4 (a + 2) s = nI (if s < i + 1 then vN p A (wl L (B.getD s 0)) else 0) := fun s hs => by
          rw [← hI4]
          by_cases e : s = i
          · subst e; rw [xi_e, if_pos (by omega)]
          · rw [xi_s e, f3.at (a + 2) s (by simp), g2 s hs]
            by_cases e' : s < i
            · rw [if_pos e', if_pos (show s < i + 1 by omega)]
            · rw [if_neg e', if_neg (show ¬ s < i + 1 by omega)]
        have inner : ∀ jx x (I5 : Nat → Nat → Int32) (cf : Nat → Nat → Nat → Nat), x + jx = L → buF a I I5 → I5 a = I4 a → I5 (a + 1) = I4 (a + 1) → I5 (a + 2) = I4 (a + 2) → I5 60 7 = I 60 7 → I5 60 8 = I 60 8 → (∀ s y u, s < Ma → y < L → u < Ma → I5 (a + 3) ((s * 3 + y) * Ma + u) = nI (if (s < i ∨ (s = i ∧ y < x)) ∧ u < B.length then cf s y u else 0)) → (∀ s y u, (s < i ∨ (s = i ∧ y < x)) → y < L → u < B.length → cf s y u < p) → (∀ s y c, (s < i ∨ (s = i ∧ y < x)) → y < L → c < K → rwE p L A E (B.getD s 0 * L + y + 1) c = sm B.length (fun u => fo p (cf s y u) * rwE p L A E (B.getD u 0) c)) → Ex mX0_build 61 [.ref 23, .ref a, .int (nI i), .int (nI x)] [] (sh, I5, R) 0 0 (xqV Q) := by
          intro jx
          induction jx with
          | zero =>
            intro x I5 cf hx hf5 a0 a1 a2 e7 e8 g3 g4 g5
            obtain rfl : x = L := by omega
            refine bX0_build_61 hW ha h9 hq hh.1 s1 ⟨fun _ => ?_, fun z => ?_⟩
            · rw [nI_add]
              refine ih (i + 1) I5 cf (by omega) hf5 (by rw [a0, f4.at a 1 (by simp), f3.at a 1 (by simp)]; exact e1) (by rw [a0, f4.at a 2 (by simp), f3.at a 2 (by simp)]; exact e2) e7 e8 (fun s hs => by rw [a1]; exact w1 s hs) (fun s hs => by rw [a2]; exact w2 s hs) (fun s y u hs hy hu => ?_) (fun s y u hs hy hu => g4 s y u (by omega) hy hu) (fun s y c hs hy hc0 => g5 s y c (by omega) hy hc0)
              rw [g3 s y u hs hy hu]
              by_cases e : s < i + 1 ∧ u < B.length
              · rw [if_pos e, if_pos ⟨by omega, e.2⟩]
              · rw [if_neg e, if_neg (by omega)]
            · rw [(keepC I5 hf5).2.1] at z; exact absurd (nI_le (Nat.le_refl _) (by omega)) z
          | succ jx ihx =>
            intro x I5 cf hx hf5 a0 a1 a2 e7 e8 g3 g4 g5
            have hA5 := keepQ I5 hf5
            refine bX0_build_61 hW ha h9 hq hh.1 s1 ⟨fun z => ?_, fun _ => ⟨vp_nI (by omega) (by omega), ?_⟩⟩
            · rw [(keepC I5 hf5).2.1] at z; exact absurd z (nI_ge (by omega) (by omega))
            rw [nclamp (by omega)]
            refine k_forward hW (keepC I5 hf5) hq hM hA5 hok (row60 i (by omega)) s1 (by omega) (by omega) (by omega) (by omega) (by omega) (by omega) (by omega) (by omega) (keepR I5 hf5 i (by omega)) (fun I6 f6 hv6 => bX0_build_90 hW ha ?_)
            have hf6 : buF a I I6 := fun c c1 c2 c3 c4 c5 c6 c7 => by rw [f6 c (by simp <;> omega)]; exact hf5 c c1 c2 c3 c4 c5 c6 c7
            have hv6' : vR I6 p h A.1 (fN p A (wl L (B.getD i 0 * L + x + 1))) := by
              rw [wl_x (by omega), fN_x]; exact hv6
            refine k_makeRow hW (keepC I6 hf6) h9 hq hqb hM (keepQ I6 hf6) hh (keepS I6 hf6) hv6' (fun I7 f7 hr7 => bX0_build_94 hW ha ?_)
            have hf7 : buF a I I7 := fun c c1 c2 c3 c4 c5 c6 c7 => by rw [f7 c (by simp <;> omega)]; exact hf6 c c1 c2 c3 c4 c5 c6 c7
            have b7 : ∀ c, c = a ∨ c = a + 1 ∨ c = a + 2 ∨ c = a + 3 ∨ (c = 60) → I7 c = I5 c := fun c hc0 => by rw [f7 c (by simp <;> omega), f6 c (by simp <;> omega)]
            have hcs7 : cSp I7 p 60 K B.length E2 piv2 mk2 := hcs2.eq (by rw [b7 60 (by omega)]; exact e7) (by rw [b7 60 (by omega)]; exact e8) (fun c g1 g2 => hf7 c (by omega) (by omega) (by omega) (by omega) (by omega) (by omega) (by omega))
            have hdep := hcl i x (by omega) (by omega)
            refine k_combines (v := fun c => sN A.1 (fun s => fN p A (wl L (B.getD i 0 * L + x + 1)) s * E c s) % p) hW (keepC I7 hf7) hW.2.2.2.2.2.1 (by decide) hcs7 hsp2 (la_34 hW) (by omega) (by omega) hr7 (fun I8 parts f8 hp8 hz8 hsum => bX0_build_105 hW ha ?_) (fun I8 parts rest c0 f8 hp8 hz8 hrest h5 hc0 hne hR => ?_)
            · have hf8 : buF a I I8 := fun c c1 c2 c3 c4 c5 c6 c7 => by rw [f8.1 c (by simp <;> omega)]; exact hf7 c c1 c2 c3 c4 c5 c6 c7
              have b8 : ∀ c, c = a ∨ c = a + 1 ∨ c = a + 2 ∨ c = a + 3 → I8 c = I5 c := fun c hc0 => by rw [f8.1 c (by simp <;> omega), b7 c (by omega)]
              have v1 : I8 a 1 = nI Ma := by rw [b8 a (by omega), a0, f4.at a 1 (by simp), f3.at a 1 (by simp)]; exact e1
              have v2 : I8 a 2 = nI B.length := by rw [b8 a (by omega), a0, f4.at a 2 (by simp), f3.at a 2 (by simp)]; exact e2
              refine k_at hW ha v1 (bX0_build_125 hW ha ha.2.2.2.1 ?_)
              have i2 : (i * 3 + x) * Ma + B.length ≤ Ma * 3 * Ma := by
                have := wix_lt (M := Ma) (s := i) (x := x) (t := B.length - 1) (by omega) (by omega) (by omega)
                omega
              rw [v2, Nat.add_zero, nclamp (a := 0) (by omega), nclamp (a := B.length) (by omega), nclamp (a := (i * 3 + x) * Ma) (by omega)]
              refine ⟨⟨⟨by decide, nI_neg0 (by omega), nI_neg0 (by omega)⟩, by omega, i2⟩, ?_⟩
              rw [nI_add]
              refine ihx (x + 1) _ (fun s y u => if s = i ∧ y = x then parts u else cf s y u) (by omega) (fun c c1 c2 c3 c4 c5 c6 c7 => ?_) ?_ ?_ ?_ ?_ ?_ (fun s y u hs hy hu => ?_) (fun s y u hs hy hu => ?_) (fun s y c hs hy hcK => ?_)
              · rw [show xa I8 (a + 3) _ c = I8 c from by funext i; exact xa_p (by omega)]; exact hf8 c c1 c2 c3 c4 c5 c6 c7
              · rw [show xa I8 (a + 3) _ a = I8 a from by funext i; exact xa_p (by omega), b8 a (by omega)]; exact a0
              · rw [show xa I8 (a + 3) _ (a + 1) = I8 (a + 1) from by funext i; exact xa_p (by omega), b8 _ (by omega)]; exact a1
              · rw [show xa I8 (a + 3) _ (a + 2) = I8 (a + 2) from by funext i; exact xa_p (by omega), b8 _ (by omega)]; exact a2
              · rw [xa_p (by omega), f8.2 7 (by decide), b7 60 (by omega)]; exact e7
              · rw [xa_p (by omega), f8.2 8 (by decide), b7 60 (by omega)]; exact e8
              · rw [xa_e]
                unfold va_cpy
                have hri := rw_iff (M := Ma) (r := i * 3 + x) (r' := s * 3 + y) (t := u) (A := 0) (n := B.length) hu (by omega)
                rw [Nat.add_zero] at hri
                by_cases e : s * 3 + y = i * 3 + x ∧ 0 ≤ u ∧ u < 0 + B.length
                · rw [if_pos (hri.mpr e)]
                  have es : s = i ∧ y = x := by omega
                  obtain ⟨rfl, rfl⟩ := es
                  rw [show 0 + ((s * 3 + y) * Ma + u - (s * 3 + y) * Ma) = u by omega, if_pos ⟨Or.inr ⟨rfl, by omega⟩, by omega⟩, if_pos ⟨rfl, rfl⟩]
                  exact (hp8 u (by omega)).1
                · rw [if_neg (fun z => e (hri.mp z)), b8 (a + 3) (by omega), g3 s y u hs hy hu]
                  by_cases e5 : (s < i ∨ (s = i ∧ y < x)) ∧ u < B.length
                  · rw [if_pos e5, if_pos ⟨by omega, e5.2⟩, if_neg (by omega)]
                  · rw [if_neg e5, if_neg (by omega)]
              · try dsimp only
                by_cases e : s = i ∧ y = x
                · rw [if_pos e]; exact (hp8 u (by omega)).2
                · rw [if_neg e]; exact g4 s y u (by omega) hy hu
              · by_cases e : s = i ∧ y = x
                · obtain ⟨rfl, rfl⟩ := e
                  have := hsum c hcK
                  rw [fo_row] at this
                  rw [this]
                  exact sm_congr (fun u _ => by rw [if_pos ⟨rfl, rfl⟩])
                · rw [g5 s y c (by omega) hy hcK]
                  exact sm_congr (fun u _ => by rw [if_neg e])
            · refine absurd ?_ (spR_no hsp2 hR hc0 (fun z => hne ((fo_eq0 (hrest c0 hc0).2).mp z)))
              exact inS_congr (fun _ _ _ _ => rfl) (fun c _ => fo_row.symm) hdep
        refine inner L 0 I4 cf (by omega) hf4 rfl rfl rfl ?_ ?_ (fun s y u hs hy hu => ?_) (fun s y u hs hy hu => g4 s y u (by omega) hy hu) (fun s y c hs hy hc0 => g5 s y c (by omega) hy hc0)
        · rw [f4.at 60 7 (by simp <;> omega), f3.at 60 7 (by simp <;> omega)]; exact e7
        · rw [f4.at 60 8 (by simp <;> omega), f3.at 60 8 (by simp <;> omega)]; exact e8
        · rw [f4.at (a + 3) _ (by simp), f3.at (a + 3) _ (by simp), g3 s y u hs hy hu]
          by_cases e : s < i ∧ u < B.length
          · rw [if_pos e, if_pos ⟨Or.inl e.1, e.2⟩]
          · rw [if_neg e, if_neg (by omega)]
      refine bX0_build_10 hW ha h9 hq ⟨fun z => ?_, fun _ => ⟨fun z => ⟨vp_nI (by omega) (by omega), vp_nI (by omega) (by omega), ?_⟩, fun z => ⟨vp_nI (by omega) (by omega), vp_nI (by omega) (by omega), ?_⟩⟩⟩
      · rw [e2] at z; exact absurd z (nI_ge (by omega) (by omega))
      · rw [nclamp (by omega)]
        exact ends 0 (by rw [if_neg (fun e => z (by rw [e]; rfl))])
      · rw [nclamp (by omega)]
        exact ends 1 (by rw [if_pos ((nI_eq (a := i) (b := 0) (by omega) (by omega)).mp z)])
  refine outer B.length 0 I1 (fun _ _ _ => 0) (by omega) (fun c c1 c2 c3 c4 c5 c6 c7 => f1 c (by simp <;> omega)) c1.2.1 c1.2.2.1 (f1.at 60 7 (by simp <;> omega)) (f1.at 60 8 (by simp <;> omega)) (fun s hs => ?_) (fun s hs => ?_) (fun s y u hs hy hu => ?_) (fun s y u hs => absurd hs (Nat.not_lt_zero s)) (fun s y c hs => absurd hs (Nat.not_lt_zero s))
  · rw [c1.2.2.2.1 s hs, if_neg (Nat.not_lt_zero s)]; unfold mZ; split <;> rfl
  · rw [c1.2.2.2.2.1 s hs, if_neg (Nat.not_lt_zero s)]; unfold mZ; split <;> rfl
  · rw [c1.2.2.2.2.2 s y u hs hy hu, if_neg (show ¬ (s < 0 ∧ u < B.length) from fun z => Nat.not_lt_zero s z.1)]; unfold mZ; split <;> rfl
/-- the row of a word comes, if it is no combination -/
theorem k_offer {p L q M h t K w : Nat} [NeZero p] {A : Mac} {E : Nat → Nat → Nat} {rc : Nat → Nat → Fin p} {B : List Nat} {Q : xHp → Prop} (hW : xLay sh R) (hc : cCtx I p L) (h9 : R 23 9 = some q) (hq : xMach sh R q M) (hqb : q + 3 < 23 ∨ 82 ≤ q) (hM : M ≤ 8) (hA : cM I L q M A) (hok : okM p L A) (hh : hT R h t) (hC : spS I p 38 A.1 K E rc) (hB : bWd I p L A K E B) (hw : wlen L w ≤ 12)
    (ky : ∀ I' R' h' t', widF I I' → rF R R' → hT R' h' t' → ¬ dpw (rwE p L A E) K B w → bWd I' p L A K E (B ++ [w]) → Q (sh, I', R'))
    (kn : ∀ I' R' h' t', widF I I' → rF R R' → hT R' h' t' → dpw (rwE p L A E) K B w → bWd I' p L A K E B → Q (sh, I', R')) : CV mX0_offer [.ref 23, .int (nI w)] (sh, I, R) Q := by
  refine eX0_offer (bX0_offer_0 hW (k_goForth hW hc h9 hq hqb hM hA hok hh hw (fun I1 R1 h1 t1 hr1 hh1 f1 hv1 => ?_)))
  have hW1 := hr1.g.lay hW
  refine bX0_offer_5 hW1 (k_offerHere hW1 (hc.fr f1 (by decide)) (by rw [hr1 23 9 (by omega)]; exact h9) (hr1.g.mach hq (by omega)) hqb hM (hA.fr f1 (by simp <;> omega)) hh1 (hC.fr f1 (by simp)) (hB.eq (f1.at 23 10 (by decide)) (fun c hc0 => f1 c (by simp <;> omega))) hv1 (fun I2 f2 hnd hb2 => bX0_offer_10 hW1 ?_) (fun I2 f2 hd hb2 => bX0_offer_10 hW1 ?_))
  · exact ky I2 R1 h1 t1 (fun c hc0 => by rw [f2 c (by omega), f1 c (by simp <;> omega)]) hr1 hh1 hnd hb2
  · exact kn I2 R1 h1 t1 (fun c hc0 => by rw [f2 c (by omega), f1 c (by simp <;> omega)]) hr1 hh1 hd hb2
/-- whether the row of a word is a combination, and of what parts -/
theorem k_comb {p L q M h t K w : Nat} [NeZero p] {A : Mac} {E : Nat → Nat → Nat} {rc : Nat → Nat → Fin p} {B : List Nat} {Q : Int32 → xHp → Prop} (hW : xLay sh R) (hc : cCtx I p L) (h9 : R 23 9 = some q) (hq : xMach sh R q M) (hqb : q + 3 < 23 ∨ 82 ≤ q) (hM : M ≤ 8) (hA : cM I L q M A) (hok : okM p L A) (hh : hT R h t) (hC : spS I p 38 A.1 K E rc) (hB : bWd I p L A K E B) (hw : wlen L w ≤ 12)
    (ky : ∀ I' R' h' t' parts, Ou 23 82 I I' → rF R R' → hT R' h' t' → vR I' p 81 8 parts → (∀ c, c < K → rwE p L A E w c = sm B.length (fun j => fo p (parts j) * rwE p L A E (B.getD j 0) c)) → Q (nI 1) (sh, I', R'))
    (kn : ∀ I' R' h' t', Ou 23 82 I I' → rF R R' → hT R' h' t' → ¬ dpw (rwE p L A E) K B w → Q (nI 0) (sh, I', R')) : CI mX0_combines [.ref 23, .int (nI w)] (sh, I, R) Q := by
  obtain ⟨hBK, hK8⟩ := hB.le
  refine eX0_combines (bX0_combines_0 hW (k_goForth hW hc h9 hq hqb hM hA hok hh hw (fun I1 R1 h1 t1 hr1 hh1 f1 hv1 => ?_)))
  have hW1 := hr1.g.lay hW
  have hbd := hh1.bd
  refine bX0_combines_5 hW1 (k_makeRow hW1 (hc.fr f1 (by decide)) (by rw [hr1 23 9 (by omega)]; exact h9) (hr1.g.mach hq (by omega)) hqb hM (hA.fr f1 (by simp <;> omega)) hh1 (hC.fr f1 (by simp)) hv1 (fun I2 f2 hr2 => bX0_combines_9 hW1 ?_))
  obtain ⟨E2, piv2, mk2, hcs2, hsp2⟩ := hB.2.2.2
  have hcs : cSp I2 p 60 K B.length E2 piv2 mk2 := hcs2.eq (by rw [f2.at 60 7 (by decide), f1.at 60 7 (by decide)]) (by rw [f2.at 60 8 (by decide), f1.at 60 8 (by decide)]) (fun c g1 g2 => by rw [f2 c (by simp <;> omega), f1 c (by simp <;> omega)])
  have o2 : Ou 23 82 I I2 := (Ou.of f1 (by simp)).tr (Ou.of f2 (by simp))
  refine k_combines (v := fun c => sN A.1 (fun s => fN p A (wl L w) s * E c s) % p) hW1 ((hc.fr f1 (by decide)).fr f2 (by decide)) hW1.2.2.2.2.2.1 (by decide) hcs hsp2 (la_34 hW1) (by omega) (by omega) hr2 (fun I3 parts f3 hp3 hz3 hsum => bX0_combines_20 hW1 ⟨Or.inr rfl, ?_⟩) (fun I3 parts rest c0 f3 hp3 hz3 hrest h5 hc0 hne hR => bX0_combines_20 hW1 ⟨Or.inl rfl, ?_⟩)
  · refine ky I3 R1 h1 t1 parts (o2.tr (Ou.of f3.1 (by simp))) hr1 hh1 hp3 (fun c hcK => ?_)
    have := hsum c hcK
    rw [fo_row] at this
    exact this
  · refine kn I3 R1 h1 t1 (o2.tr (Ou.of f3.1 (by simp))) hr1 hh1 (fun hd => spR_no hsp2 hR hc0 (fun z => hne ((fo_eq0 (hrest c0 hc0).2).mp z)) ?_)
    exact inS_congr (fun _ _ _ _ => rfl) (fun c _ => fo_row.symm) hd
/-- the first word of some value -/
theorem k_first {p L q M h t : Nat} [NeZero p] {A : Mac} {Q : Int32 → xHp → Prop} (hW : xLay sh R) (hc : cCtx I p L) (hq : xMach sh R q M) (hqb : q + 3 < 23 ∨ 82 ≤ q) (hM : M ≤ 8) (hA : cM I L q M A) (hok : okM p L A) (hh : hT R h t)
    (ky : ∀ I' R' N P i, Ou 23 82 I I' → rG R R' → hT R' h t → P = BB (FV p L A) A.1 N → (∀ w, dpw (FV p L A) A.1 P w) → i < P.length → vN p A (wl L (P.getD i 0)) ≠ 0 → (∀ j, j < i → vN p A (wl L (P.getD j 0)) = 0) → Q (nI (P.getD i 0)) (sh, I', R'))
    (kn : ∀ I' R' N P, Ou 23 82 I I' → rG R R' → hT R' h t → P = BB (FV p L A) A.1 N → (∀ w, dpw (FV p L A) A.1 P w) → (∀ j, j < P.length → vN p A (wl L (P.getD j 0)) = 0) → Q (-4) (sh, I', R')) : CI mX0_firstOfSomeValue [.ref 23, .ref q] (sh, I, R) Q := by
  obtain ⟨hP, hL, hpr, hL1, hL3⟩ := id hc
  obtain ⟨hp2, hp97⟩ := PR_bd p hpr
  have h8 := hA.1
  refine eX0_firstOfSomeValue (bX0_firstOfSomeValue_0 hW hq (k_seeStates hW hc hq hqb hM hA hh (fun I1 R1 K E rc o1 hr1 hh1 h91 hs1 hE hb1 => ?_)))
  have hW1 := hr1.lay hW
  have hq1 := hr1.mach hq (show q ≠ 23 by omega)
  have hc1 := hc.ou o1 (by omega)
  have hA1 : cM I1 L q M A := hA.ou o1 (by omega)
  refine bX0_firstOfSomeValue_5 hW1 (k_widen hW1 hc1 h91 hq1 hqb hM hA1 hok hh1 hs1 hb1 (fun I2 n P f2 hcl hb2 => bX0_firstOfSomeValue_9 hW1 ?_))
  obtain ⟨N, hPN, hall⟩ := cls_FV hL1 hE hcl
  obtain ⟨l1, l2⟩ := hb2.le
  have o2 : Ou 23 82 I I2 := o1.tr (fun c hc0 => f2 c (by omega))
  have hA2 : cM I2 L q M A := hA.ou o2 (by omega)
  have hc2 := hc.ou o2 (show 1 < 23 by omega)
  have loop : ∀ j i, i + j = P.length → (∀ j, j < i → vN p A (wl L (P.getD j 0)) = 0) → Ex mX0_firstOfSomeValue 12 [.ref 23, xU, .int (nI i)] [] (sh, I2, R1) 0 0 (xqI Q) := by
    intro j
    induction j with
    | zero =>
      intro i hi hz
      obtain rfl : i = P.length := by omega
      refine bX0_firstOfSomeValue_12 hW1 h91 hq1 ⟨fun _ => kn I2 R1 N P o2 hr1 hh1 hPN hall hz, fun z => ?_⟩
      rw [hb2.1] at z; exact absurd (nI_le (Nat.le_refl _) (by omega)) z
    | succ j ih =>
      intro i hi hz
      refine bX0_firstOfSomeValue_12 hW1 h91 hq1 ⟨fun z => ?_, fun _ => ⟨vp_nI (by omega) (by omega), ?_⟩⟩
      · rw [hb2.1] at z; exact absurd z (nI_ge (by omega) (by omega))
      rw [nclamp (by omega)]
      refine k_product (u := fN p A (wl L (P.getD i 0))) (v := A.2.2.1) hW1 hc2 hq1 hM hA2 (hW1.2.2.2.2.2.2.2.2.2.2.2.1.2 i (by omega)).2 hq1.2.2.1 (by omega) hA.1 (by omega) hM (hb2.2.2.1 i (by omega)) (fun s hs => ⟨hA2.E hs, hok.2.1 s hs⟩) (bX0_firstOfSomeValue_40 hW1 ?_)
      have hlt : vN p A (wl L (P.getD i 0)) < p := vN_lt (by omega) _
      refine ⟨fun z => ?_, fun z => ⟨vp_nI (by omega) (by omega), ?_⟩⟩
      · have h0 : vN p A (wl L (P.getD i 0)) = 0 := (nI_eq (a := vN p A (wl L (P.getD i 0))) (b := 0) (by omega) (by omega)).mp z
        rw [nI_add]
        refine ih (i + 1) (by omega) (fun j hj => ?_)
        by_cases e : j = i
        · subst e; exact h0
        · exact hz j (by omega)
      · rw [nclamp (by omega), hb2.2.1 i (by omega)]
        exact ky I2 R1 N P i o2 hr1 hh1 hPN hall (by omega) (fun e => z (by show nI (vN p A (wl L (P.getD i 0))) = _; rw [e]; rfl)) hz
  exact loop P.length 0 (by omega) (fun j hj => absurd hj (Nat.not_lt_zero j))
end CBUILD
