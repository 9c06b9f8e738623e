section CKEEP
variable {sh : List xSh} {I : Nat → Nat → Int32} {R : Nat → Nat → Option Nat}
/-- a copy of a machine of which nothing is known but how many states it has -/
theorem k_copyJ {p L q a n : Nat} {Q : xHp → Prop} (hW : xLay sh R) (hc : cCtx I p L) (hq : xMach sh R q 4) (ha : xMach sh R a 4) (hd : a + 3 < q ∨ q + 3 < a) (hq1 : 1 < q) (h1 : I q 1 = nI 4) (ha1 : I a 1 = nI 4) (hn : I a 2 = nI n) (hn4 : n ≤ 4)
    (k : ∀ I', Fr (mPl q) I I' → I' q 1 = nI 4 → I' q 2 = nI n → Q (sh, I', R)) : CV mX3_copy [.ref q, .ref a] (sh, I, R) Q := by
  obtain ⟨hP, hL, hpr, hL1, hL3⟩ := id hc
  obtain ⟨hp2, hp97⟩ := PR_bd p hpr
  refine eX3_copy (bX3_copy_0 hW hq ha (k_become (n := 0) hW hq (by omega) hL3 (Nat.zero_le _) h1 (fun I1 f1 c1 => bX3_copy_5 hW hq ha ?_)))
  have e1 : I1 q 1 = nI 4 := c1.2.1
  have e2 : I1 q 2 = nI 0 := c1.2.2.1
  have ea : I1 a 2 = nI n := by rw [f1.at a 2 (by simp <;> omega)]; exact hn
  have ea1 : I1 a 1 = nI 4 := by rw [f1.at a 1 (by simp <;> omega)]; exact ha1
  have eP : I1 1 0 = nI p := by rw [f1.at 1 0 (by simp <;> omega)]; exact hP
  have eL : I1 1 1 = nI L := by rw [f1.at 1 1 (by simp <;> omega)]; exact hL
  have loop : ∀ j s (I2 : Nat → Nat → Int32), s + j = n → Fr [q + 1, q + 2, q + 3] I1 I2 → Ex mX3_append 25 [.ref q, .ref a, .int (nI 1), .int (nI 0), .int (nI s), xU] [] (sh, I2, R) 0 0 (xqV (fun h1 => Ex mX3_copy 11 [xU, xU] [] h1 0 0 (xqV Q))) := by
    intro j
    induction j with
    | zero =>
      intro s I2 hs f2
      obtain rfl : s = n := by omega
      refine bX3_append_25 hW hq ha ⟨fun _ => bX3_copy_11 hW ?_, fun z => ?_⟩
      · rw [f2.at q 2 (by simp), f2.at a 2 (by simp <;> omega), e2, ea, nI_add, Nat.zero_add]
        exact k _ (f1.tr ((f2.sub (by simp)).xi (by simp))) (by rw [xi_s (by decide), f2.at q 1 (by simp)]; exact e1) xi_e
      · rw [f2.at a 2 (by simp <;> omega), ea] at z; exact absurd (nI_le (Nat.le_refl _) (by omega)) z
    | succ j ih =>
      intro s I2 hs f2
      refine bX3_append_25 hW hq ha ⟨fun z => ?_, fun _ => ⟨vp_nI (by omega) (by omega), ?_, ?_, vp_nI (by omega) (by omega), ?_, ?_⟩⟩
      · rw [f2.at a 2 (by simp <;> omega), ea] at z; exact absurd z (nI_ge (by omega) (by omega))
      · rw [f2.at 1 0 (by simp <;> omega), eP]; exact nI_ne0 (by omega) (by omega)
      · rw [nI_add]; exact vp_nI (by omega) (by omega)
      · rw [nI_add]; exact vp_nI (by omega) (by omega)
      · have lx : ∀ jx x (I3 : Nat → Nat → Int32), x + jx = L → Fr [q + 1, q + 2, q + 3] I1 I3 → Ex mX3_append 79 [.ref q, .ref a, .int (nI 1), .int (nI 0), .int (nI s), .int (nI x)] [] (sh, I3, R) 0 0 (xqV (fun h1 => Ex mX3_copy 11 [xU, xU] [] h1 0 0 (xqV Q))) := by
          intro jx
          induction jx with
          | zero =>
            intro x I3 hx f3
            obtain rfl : x = L := by omega
            refine bX3_append_79 hW hq ha ⟨fun _ => ?_, fun z => ?_⟩
            · rw [nI_add]; exact ih (s + 1) I3 (by omega) f3
            · rw [f3.at 1 1 (by simp <;> omega), eL] at z; exact absurd (nI_le (Nat.le_refl _) (by omega)) z
          | succ jx ihx =>
            intro x I3 hx f3
            refine bX3_append_79 hW hq ha ⟨fun z => ?_, fun _ => k_at hW ha (by rw [f3.at a 1 (by simp <;> omega)]; exact ea1) (bX3_append_104 hW hq ha ha.2.2.2.1 ?_)⟩
            · rw [f3.at 1 1 (by simp <;> omega), eL] at z; exact absurd z (nI_ge (by omega) (by omega))
            rw [nI_add]
            refine k_at hW hq (by rw [f3.at q 1 (by simp)]; exact e1) (bX3_append_119 hW hq ha ha.2.2.2.1 ?_)
            rw [f3.at a 2 (by simp <;> omega), ea, nclamp (a := (s * 3 + x) * 4 + 0) (by omega), nclamp (a := ((0 + s) * 3 + x) * 4 + 0) (by omega), nclamp (a := n) (by omega)]
            refine ⟨⟨⟨nI_neg0 (by omega), nI_neg0 (by omega), nI_neg0 (by omega)⟩, by omega, by omega⟩, ?_⟩
            rw [nI_add]
            exact ihx (x + 1) _ (by omega) (f3.xa (by simp))
        exact lx L 0 _ (by omega) ((f2.xi (by simp)).xi (by simp))
  refine eX3_append (bX3_append_0 hW hq ha ⟨fun _ => ?_, fun z => ?_⟩)
  · rw [e2]; exact loop n 0 I1 (by omega) Fr.rf
  · rw [e1, e2, ea, nI_add] at z; exact absurd (nI_le (by omega) (by omega)) z
/-- a study is copied -/
theorem k_studyCopy {p L q a : Nat} {τ : Tb} {Q : xHp → Prop} (hW : xLay sh R) (hc : cCtx I p L) (hq : xStudy sh R q) (ha : xStudy sh R a) (hd : a + 10 < q ∨ q + 10 < a) (hq1 : 1 < q) (h3 : I (q + 3) 1 = nI 4) (h7 : I (q + 7) 1 = nI 4) (ha7 : I (a + 7) 1 = nI 4) (hS : stC I L a τ) (ok : tbOK p L τ)
    (k : ∀ I', Ou q (q + 11) I I' → stC I' L q τ → I' (q + 7) 1 = nI 4 → Q (sh, I', R)) : CV mX8_copy [.ref q, .ref a] (sh, I, R) Q := by
  obtain ⟨a1, a2, a3, a4, a5, a6, a7, a8, a9⟩ := id hS
  obtain ⟨hP4, hS42⟩ := ok.bd
  obtain ⟨_, hA4, hokA, hokG, -⟩ := id ok
  have q3 : xMach sh R (q + 3) 4 := hq.2.2.2.2.2.2.2.2.1
  have q7 : xMach sh R (q + 7) 4 := hq.2.2.2.2.2.2.2.2.2
  have b3 : xMach sh R (a + 3) 4 := ha.2.2.2.2.2.2.2.2.1
  have b7 : xMach sh R (a + 7) 4 := ha.2.2.2.2.2.2.2.2.2
  refine eX8_copy (bX8_copy_0 hW hq ha (k_copy hW hc q3 b3 (by omega) (by omega) (by omega) (by omega) h3 a1 hokA hA4 (fun I1 f1 c1 => bX8_copy_11 hW hq ha ?_)))
  have o1 : Ou q (q + 11) I I1 := Ou.of f1 (by simp <;> omega)
  have hS1 : stC I1 L a τ := hS.eq (fun c g1 g2 => o1 c (by omega))
  -- behind the guess
  have rest : ∀ I2, Fr (mPl (q + 7)) I1 I2 → I2 (q + 7) 1 = nI 4 → (∃ n, n ≤ 4 ∧ I2 (q + 7) 2 = nI n) → (τ.g = true → cM I2 L (q + 7) 4 τ.G) → Ex mX8_copy 22 [.ref q, .ref a] [] (sh, I2, R) 0 0 (xqV Q) := by
    intro I2 f2 e71 e72 hG
    have o2 : Ou q (q + 11) I I2 := o1.tr (Ou.of f2 (by simp <;> omega))
    have hS2 : stC I2 L a τ := hS.eq (fun c g1 g2 => o2 c (by omega))
    obtain ⟨s1, s2, s3, s4, s5, s6, s7, s8, s9⟩ := hS2
    have c2 : cM I2 L (q + 3) 4 τ.A := c1.fr f2 (by simp <;> omega)
    refine bX8_copy_22 hW hq ha ?_
    generalize hJ1 : xa I2 (q + 1) (va_cpy (I2 (a + 1)) (I2 (q + 1)) (nI 0).toNatClampNeg (nI 0).toNatClampNeg (I2 a 5).toNatClampNeg) = J1
    generalize hJ2 : xa J1 (q + 2) (va_cpy (J1 (a + 2)) (J1 (q + 2)) (nI 0).toNatClampNeg (nI 0).toNatClampNeg (J1 a 6).toNatClampNeg) = J2
    generalize hJ3 : xi J2 q 5 (J2 a 5) = J3
    generalize hJ4 : xi J3 q 6 (J3 a 6) = J4
    generalize hJ5 : xi J4 q 7 (J4 a 7) = J5
    have f3 : Fr [q + 1] I2 J1 := by rw [← hJ1]; exact Fr.rf.xa (by simp)
    have f4 : Fr [q + 2] J1 J2 := by rw [← hJ2]; exact Fr.rf.xa (by simp)
    have f5 : Fr [q] J2 J3 := by rw [← hJ3]; exact Fr.rf.xi (by simp)
    have f6 : Fr [q] J3 J4 := by rw [← hJ4]; exact Fr.rf.xi (by simp)
    have f7 : Fr [q] J4 J5 := by rw [← hJ5]; exact Fr.rf.xi (by simp)
    have ja : ∀ j, J5 a j = I2 a j := fun j => by rw [f7.at a j (by simp <;> omega), f6.at a j (by simp <;> omega), f5.at a j (by simp <;> omega), f4.at a j (by simp <;> omega), f3.at a j (by simp <;> omega)]
    have j1a : J1 a 6 = nI τ.S.length := by rw [f3.at a 6 (by simp <;> omega)]; exact s7
    rw [s5, j1a, nclamp (a := 0) (by omega), nclamp (a := τ.P.length) (by omega), nclamp (a := τ.S.length) (by omega), ja, s2]
    refine ⟨⟨⟨by decide, by decide, nI_neg0 (by omega)⟩, by omega, by omega⟩, ⟨⟨by decide, by decide, nI_neg0 (by omega)⟩, by omega, by omega⟩, ?_, ?_⟩
    · cases τ.g
      · exact Or.inl rfl
      · exact Or.inr rfl
    · have f8 : Fr [q] J5 (xi J5 q 8 (bI τ.g)) := Fr.rf.xi (by simp)
      have fa : Fr [q, q + 1, q + 2] I2 (xi J5 q 8 (bI τ.g)) := (((((f3.sub (by simp)).tr (f4.sub (by simp))).tr (f5.sub (by simp))).tr (f6.sub (by simp))).tr (f7.sub (by simp))).tr (f8.sub (by simp))
      refine k _ (o2.tr (Ou.of fa (by simp <;> omega))) ⟨c2.fr fa (by simp <;> omega), xi_e, fun g => (hG g).fr fa (by simp <;> omega), ?_, ?_, fun j hj => ?_, ?_, fun j hj => ?_, ?_⟩ (by rw [fa.at (q + 7) 1 (by simp <;> omega)]; exact e71)
      · rw [fa (q + 7) (by simp <;> omega)]; exact e72
      · rw [xi_s (by decide), ← hJ5, xi_s (by decide), ← hJ4, xi_s (by decide), ← hJ3, xi_e, f4.at a 5 (by simp <;> omega), f3.at a 5 (by simp <;> omega)]; exact s5
      · rw [xi_p (by omega), f7.at (q + 1) j (by simp), f6.at (q + 1) j (by simp), f5.at (q + 1) j (by simp), f4.at (q + 1) j (by simp), ← hJ1, xa_e, s5, nclamp (a := 0) (by omega), nclamp (a := τ.P.length) (by omega), cpy0 hj]; exact s6 j hj
      · rw [xi_s (by decide), ← hJ5, xi_s (by decide), ← hJ4, xi_e, f5.at a 6 (by simp <;> omega), f4.at a 6 (by simp <;> omega)]; exact j1a
      · rw [xi_p (by omega), f7.at (q + 2) j (by simp), f6.at (q + 2) j (by simp), f5.at (q + 2) j (by simp), ← hJ2, xa_e, j1a, nclamp (a := 0) (by omega), nclamp (a := τ.S.length) (by omega), cpy0 hj, f3.at (a + 2) j (by simp <;> omega)]; exact s8 j hj
      · rw [xi_s (by decide), ← hJ5, xi_e, f6.at a 7 (by simp <;> omega), f5.at a 7 (by simp <;> omega), f4.at a 7 (by simp <;> omega), f3.at a 7 (by simp <;> omega)]; exact s9
  have hc1 : cCtx I1 p L := hc.ou o1 (by omega)
  have e7 : I1 (q + 7) 1 = nI 4 := by rw [f1.at (q + 7) 1 (by simp <;> omega)]; exact h7
  have ea7 : I1 (a + 7) 1 = nI 4 := by rw [f1.at (a + 7) 1 (by simp <;> omega)]; exact ha7
  cases hg : τ.g with
  | true =>
    have hcG := hS1.2.2.1 hg
    refine k_copy hW hc1 q7 b7 (by omega) (by omega) (by omega) (by omega) e7 hcG (hokG hg).2 (hokG hg).1 (fun I2 f2 c2 => ?_)
    exact rest I2 f2 c2.2.1 ⟨_, c2.1, c2.2.2.1⟩ (fun _ => c2)
  | false =>
    obtain ⟨n, hn4, hn⟩ := hS1.2.2.2.1
    refine k_copyJ hW hc1 q7 b7 (by omega) (by omega) e7 ea7 hn hn4 (fun I2 f2 e1 e2 => ?_)
    exact rest I2 f2 e1 ⟨n, hn4, e2⟩ (fun g => by rw [hg] at g; exact absurd g (by decide))
theorem k_keep {σ : St} {v : Int32} {Q : Int32 → xHp → Prop} (hW : clR sh I R σ) (k : ∀ I' R', clR sh I' R' (keepA σ v).2 → cFr I I' → Q (keepA σ v).1 (sh, I', R')) : CI mX9_keep [.ref 0, .int v] (sh, I, R) Q := by
  unfold keepA at k
  refine eX9_keep (bX9_keep_0 hW.lay (k_isImage hW.lay (fun a ha hlt => bX9_keep_4 hW.lay ⟨fun _ => ⟨?_, ?_⟩, fun z => absurd z (by decide)⟩) (fun hn => bX9_keep_4 hW.lay ⟨fun z => absurd rfl z, fun _ => ?_⟩)))
  · rw [ha]; exact vp_nI hlt (by omega)
  · subst ha
    rw [if_pos ((inB_n (by omega)).mpr hlt), nN_n (by omega)] at k
    have hmc : I (178 + 11 * a + 3) 1 = nI 4 ∧ I (178 + 11 * a + 7) 1 = nI 4 := by
      rcases (show a = 0 ∨ a = 1 by omega) with rfl | rfl
      · exact ⟨hW.mc.1 181 (by decide), hW.mc.1 185 (by decide)⟩
      · exact ⟨hW.mc.1 192 (by decide), hW.mc.1 196 (by decide)⟩
    have go : ∀ u : Int32, u = bI (σ.kept a).isSome → CV mX8_copy [.ref (178 + 11 * a), .ref 9] (sh, I, R) (fun h1 => Ex mX9_keep 37 [.ref 0, .int (nI a), .int u] [] h1 0 0 (xqI Q)) := by
      intro u hu
      refine k_studyCopy hW.lay hW.ctx (hW.img hlt) hW.study (by omega) (by omega) hmc.1 hmc.2 (hW.mc.1 16 (by decide)) hW.st hW.ok.t (fun I1 o1 s1 e71 => bX9_keep_37 hW.lay ⟨vp_nI hlt (by omega), ?_⟩)
      rw [nclamp (by omega), nar1, hu]
      have e : ∀ c, c ≠ 21 → (c < 178 + 11 * a ∨ 178 + 11 * a + 11 ≤ c) → xi I1 21 a (nI 1) c = I c := fun c h1 h2 => by
        have : xi I1 21 a (nI 1) c = I1 c := by funext j; exact xi_p h1
        rw [this, o1 c h2]
      have hk := hW.ok
      refine k _ R ⟨⟨hk.p, hk.L1, hk.L3, hk.t, fun i τ hi => ?_, hk.shf, hk.word, hk.tape⟩, hW.lay, hW.ht, hW.ctx.eq (e 1 (by decide) (by omega)), ⟨fun q hq => ?_, by rw [e 169 (by decide) (by omega)]; exact hW.mc.2⟩, hW.st.eq (fun c h1 h2 => e c (by omega) (by omega)), fun i hi => ?_, hW.pl.eq rG.rf (fun q hq => e q (by omega) (by omega)), fun j hj => (hW.shf j hj).eq (e _ (by omega) (by omega)) (e _ (by omega) (by omega)) (fun _ => rfl) (fun i q A hi eq hA => ?_), by rw [e 0 (by decide) (by omega)]; exact hW.word, ⟨by rw [e 2 (by decide) (by omega)]; exact hW.tape.1, fun j hj => by rw [e 3 (by decide) (by omega)]; exact hW.tape.2 j hj⟩, by rw [e 0 (by decide) (by omega)]; exact hW.fault, ?_⟩ (fun c h1 h2 => e c (by omega) (by omega))
      · have hi2 : (if i = a then some σ.t else σ.kept i) = some τ := hi
        split at hi2
        · cases hi2; exact hk.t
        · exact hk.kept i τ hi2
      · have hcase : q = 178 + 11 * a + 3 ∨ q = 178 + 11 * a + 7 ∨ ((q < 178 + 11 * a ∨ 178 + 11 * a + 11 ≤ q) ∧ q ≠ 21) := by revert hq; simp; omega
        rcases hcase with rfl | rfl | ⟨h1, h2⟩
        · rw [xi_p (by omega)]; exact s1.1.2.1
        · rw [xi_p (by omega)]; exact e71
        · rw [e q h2 h1]; exact hW.mc.1 q hq
      · show cKep _ σ.L i (if i = a then some σ.t else σ.kept i)
        by_cases ei : i = a
        · subst ei
          rw [if_pos rfl]
          exact ⟨xi_e, s1.eq (fun c h1 h2 => by funext j; exact xi_p (by omega))⟩
        · rw [if_neg ei]
          exact (hW.kept i hi).eq (by rw [xi_s ei, o1 21 (by omega)]) (fun c h1 h2 => e c (by omega) (by omega))
      · have := (hW.pl.1 j i q hj hi eq).1
        exact hA.eq (e _ (by omega) (by omega)) (e _ (by omega) (by omega)) (e _ (by omega) (by omega)) (e _ (by omega) (by omega))
      · rcases hW.ls with z | ⟨z1, nz, z0, z2, z3⟩
        · exact Or.inl (by rw [e 0 (by decide) (by omega)]; exact z)
        · exact Or.inr ⟨by rw [e 0 (by decide) (by omega)]; exact z1, nz, z0, z2.eq (e _ (by omega) (by omega)) (e _ (by omega) (by omega)) (e _ (by omega) (by omega)) (e _ (by omega) (by omega)), fun j hj => by rw [e 177 (by omega) (by omega)]; exact z3 j hj⟩
    rw [nclamp (by omega)]
    have hk := hW.kept a hlt
    cases hkp : σ.kept a with
    | none =>
      rw [hkp] at hk
      rw [show I 21 a = nI 0 from hk]
      exact ⟨fun _ => ⟨vp_nI hlt (by omega), go _ (by rw [hkp]; rfl)⟩, fun z => absurd rfl z⟩
    | some τ =>
      rw [hkp] at hk
      rw [hk.1]
      exact ⟨fun z => absurd z (by decide), fun _ => ⟨vp_nI hlt (by omega), go _ (by rw [hkp]; rfl)⟩⟩
  · rw [if_neg hn] at k; exact k I R hW cFr.rf
theorem k_back {σ : St} {v : Int32} {Q : Int32 → xHp → Prop} (hW : clR sh I R σ) (k : ∀ I' R', clR sh I' R' (backA σ v).2 → cFr I I' → Q (backA σ v).1 (sh, I', R')) : CI mX9_back [.ref 0, .int v] (sh, I, R) Q := by
  unfold backA at k
  refine eX9_back (bX9_back_0 hW.lay (k_isImage hW.lay (fun a ha hlt => bX9_back_4 hW.lay ⟨fun _ => ⟨?_, ?_⟩, fun z => absurd z (by decide)⟩) (fun hn => bX9_back_4 hW.lay ⟨fun z => absurd rfl z, fun _ => ?_⟩)))
  · rw [ha]; exact vp_nI hlt (by omega)
  · subst ha
    rw [if_pos ((inB_n (by omega)).mpr hlt), nN_n (by omega)] at k
    rw [nclamp (by omega)]
    have hk := hW.kept a hlt
    cases hkp : σ.kept a with
    | none =>
      rw [hkp] at hk k
      rw [show I 21 a = nI 0 from hk]
      exact ⟨fun z => absurd rfl z, fun _ => k I R hW cFr.rf⟩
    | some τ =>
      rw [hkp] at hk k
      rw [hk.1]
      have hok := hW.ok.kept a τ hkp
      have ha7 : I (178 + 11 * a + 7) 1 = nI 4 := by
        rcases (show a = 0 ∨ a = 1 by omega) with rfl | rfl
        · exact hW.mc.1 185 (by decide)
        · exact hW.mc.1 196 (by decide)
      refine ⟨fun _ => ⟨vp_nI hlt (by omega), k_studyCopy hW.lay hW.ctx hW.study (hW.img hlt) (by omega) (by omega) (hW.mc.1 12 (by decide)) (hW.mc.1 16 (by decide)) ha7 hk.2 hok (fun I1 o1 s1 e71 => bX9_back_34 hW.lay ?_)⟩, fun z => absurd z (by decide)⟩
      have g : ∀ c, c ≠ 0 → xi I1 0 11 (nI 0) c = I1 c := fun c h1 => by funext j; exact xi_p h1
      rw [s1.1.2.2.1]
      refine k _ R (hW.t' (τ := τ) hok (fun c hc => by rw [g c (by omega), o1 c (by omega)]) (fun j hj => by rw [xi_s hj, o1 0 (by omega)]) (by rw [g 169 (by decide), o1 169 (by omega)]) (by rw [g 173 (by decide), o1 173 (by omega)]; exact hW.mc.1 173 (by decide)) (by rw [g 16 (by decide)]; exact e71) rG.rf hW.ht (s1.eq (fun c h1 h2 => g c (by omega))) (Or.inl xi_e)) (fun c h1 h2 => by rw [g c (by omega), o1 c (by omega)])
  · rw [if_neg hn] at k; exact k I R hW cFr.rf
end CKEEP
