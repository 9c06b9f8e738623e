section X10B
variable {sh : List xSh} {I : Nat → Nat → Int32} {R : Nat → Nat → Option Nat}
theorem x10_tail {Q : xHp → Prop} (hL : xLay sh R) (h1 : I 209 1 = nI 7) (h2 : I 209 2 = nI 2) (hz : ∀ j, j ≠ 1 → j ≠ 2 → I 209 j = 0) (z210 : ∀ j, I 210 j = 0) (z225 : ∀ j, I 225 j = 0) (h219 : ∀ j, j < 7 → I 219 j = nI (nmE.getD j 0)) (h220 : ∀ j, j < 30 → I 220 j = nI (nmL.getD j 0)) (k : ∀ I', mdR I' st0 → (∀ a, a < 209 → I' a = I a) → Q (sh, I', R)) : Ex mX10_init 379 [.ref 209, xU] [] (sh, I, R) 0 0 (xqV Q) := by
  refine xw_iconst (v := nI 0) dX10_init_379 rfl ?_
  refine yw_istore_n (lv' := [.ref 209, .int (nI 0)]) dX10_init_380 rfl rfl rfl rfl ?_
  have h0 : (0 : Int32) = nI 0 := by decide
  have loop : ∀ m j (J : Nat → Nat → Int32), j + m = 3 → Fr [227] I J → (∀ i, i < j → J 227 i = -4) → Ex mX10_init 381 [.ref 209, .int (nI j)] [] (sh, J, R) 0 0 (xqV Q) := by
    intro m
    induction m with
    | zero =>
      intro j J hj hf hv
      obtain rfl : j = 3 := by omega
      refine xw_iload_n dX10_init_381 rfl rfl ?_
      refine xw_iconst (v := nI 3) dX10_init_382 rfl ?_
      refine xw_icge (tgt := 400) dX10_init_383 (by decide) (fun _ => ?_) (fun z => absurd (by decide) z)
      refine xw_aload_n dX10_init_400 rfl rfl ?_
      refine yw_cV (As := []) (b := 209) (st := []) dX10_init_401 lX10_78 kiX10_anew kvX10_anew rfl rfl rfl (la_209 hL) rfl (Nat.le_of_ble_eq_true rfl) rfl (xk_V (eX10_anew (bX10_anew_0 hL ⟨vp_nI (by omega) (by omega), ?_⟩)))
      refine yw_vret dX10_init_404 rfl ?_
      rw [nclamp (a := 0) (by omega)]
      generalize hI2 : xi (xi (xi (xi (xi J 209 10 (nI 0)) 209 11 (nI 1)) 216 0 (nI 0)) 209 12 (nI 0)) 209 3 (nI 0) = I2
      have gr : ∀ c, c ≠ 209 → c ≠ 216 → I2 c = J c := fun c h1 h2 => by funext i; rw [← hI2, xi_p h1, xi_p h1, xi_p h2, xi_p h1, xi_p h1]
      have gs : ∀ i, i ∉ [3, 10, 11, 12] → I2 209 i = I 209 i := fun i hi => by
        simp at hi
        rw [← hI2, xi_s hi.1, xi_s hi.2.2.2, xi_p (by decide), xi_s hi.2.2.1, xi_s hi.2.1]; exact hf.at 209 i (by decide)
      have g210 : ∀ i, I2 210 i = nI 0 := fun i => by rw [gr 210 (by decide) (by decide), hf.at 210 i (by decide), z210 i]; exact h0
      refine k I2 ⟨st0_ok, by rw [gs 1 (by decide)]; exact h1, by rw [gs 2 (by decide)]; exact h2, ⟨Nat.zero_le _, g210 _, fun s hs => absurd hs (Nat.not_lt_zero s), fun s hs => absurd hs (Nat.not_lt_zero s), fun s x t hs => absurd hs (Nat.not_lt_zero s)⟩, ?_, fun q => absurd (show false = true from q) (by decide), ⟨?_, fun j hj => absurd hj (Nat.not_lt_zero j)⟩, ⟨?_, fun j hj => ?_⟩, ?_, fun c hc => ?_, fun c hc => ?_, ⟨?_, fun j hj => absurd hj (Nat.not_lt_zero j)⟩, ⟨?_, fun j hj => absurd hj (Nat.not_lt_zero j)⟩, ?_, fun j hj => ?_, fun j hj => ?_⟩ (fun a ha => ?_)
      · rw [← hI2, xi_e]; rfl
      · rw [← hI2, xi_s (by decide), xi_s (by decide), xi_p (by decide), xi_s (by decide), xi_e]; rfl
      · rw [← hI2, xi_s (by decide), xi_s (by decide), xi_p (by decide), xi_e]; rfl
      · have hj1 : j < 1 := hj
        obtain rfl : j = 0 := by omega
        rw [← hI2, xi_p (by decide), xi_p (by decide), xi_e]; rfl
      · rw [← hI2, xi_s (by decide), xi_e]; rfl
      · show I2 225 c = nI 0
        rw [gr 225 (by decide) (by decide), hf.at 225 c (by decide), z225 c]; exact h0
      · show I2 227 c = -4
        rw [gr 227 (by decide) (by decide)]; exact hv c hc
      · rw [gs 32 (by decide), hz 32 (by decide) (by decide)]; exact h0
      · rw [gs 16 (by decide), hz 16 (by decide) (by decide)]; exact h0
      · rw [gs 17 (by decide)]; exact hz 17 (by decide) (by decide)
      · rw [gr 219 (by decide) (by decide), hf.at 219 j (by decide)]; exact h219 j hj
      · rw [gr 220 (by decide) (by decide), hf.at 220 j (by decide)]; exact h220 j hj
      · rw [gr a (by omega) (by omega)]; exact hf a (by simp; omega)
    | succ m ih =>
      intro j J hj hf hv
      refine xw_iload_n dX10_init_381 rfl rfl ?_
      refine xw_iconst (v := nI 3) dX10_init_382 rfl ?_
      refine xw_icge (tgt := 400) dX10_init_383 (by decide) (fun z => absurd z (nI_ge (by omega) (by omega))) (fun _ => ?_)
      refine xw_aload_n dX10_init_386 rfl rfl ?_
      refine yw_getR (r := 227) dX10_init_387 fX10_69 rfl (la_209 hL) (lr_209_38 hL) ?_
      refine xw_iload_n dX10_init_390 rfl rfl ?_
      refine xw_bipush (v := (-4)) dX10_init_391 (by decide) ?_
      refine yw_iastore dX10_init_393 (la_227 hL) (vp_nI (by omega) (by omega)) ?_
      refine yw_iinc (lv' := [.ref 209, .int (nI j + nI 1)]) (v := nI 1) dX10_init_394 rfl rfl rfl rfl rfl ?_
      refine xw_goto (tgt := 381) dX10_init_397 (by decide) ?_
      rw [nI_add, nclamp (a := j) (by omega)]
      refine ih (j + 1) _ (by omega) (hf.xi (by simp)) (fun i hi => ?_)
      by_cases e : i = j
      · subst e; exact xi_e
      · rw [xi_s e]; exact hv i (by omega)
  exact loop 3 0 I (by omega) Fr.rf (fun i hi => absurd hi (Nat.not_lt_zero i))
end X10B
