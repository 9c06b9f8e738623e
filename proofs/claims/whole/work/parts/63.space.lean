section MODS2
variable {sh : List xSh} {I : Nat → Nat → Int32} {R : Nat → Nat → Option Nat}
/-- a letter ahead: what goes on from each state, in now -/
theorem w_stepsBack {p L m x : Nat} {A : Mac} {v : Nat → Nat} {Q : xHp → Prop} (hW : xLay sh R) (hc : mCtx I p L) (hm : m < 33) (hx : x < L) (hA : mRep I L m A) (hok : okM p L A) (hv : ∀ s, s < A.1 → I 211 s = nI (v s) ∧ v s < p)
    (k : ∀ I', Fr [211, 212] I I' → (∀ s, s < A.1 → I' 211 s = nI (sN A.1 (fun t => A.2.2.2 s x t * v t) % p)) → Q (sh, I', R)) : CV mX10_stepsBack [.ref 209, .int (nI m), .int (nI x)] (sh, I, R) Q := by
  obtain ⟨hP, -, hpr, hL1, hL3⟩ := id hc
  obtain ⟨hp2, hp97⟩ := PR_bd p hpr
  obtain ⟨hn4, hAn, hAs, hAe, hAw⟩ := id hA
  have hbd : ∀ n s, n ≤ A.1 → s < A.1 → sN n (fun t => A.2.2.2 s x t * v t) ≤ 36864 := fun n s hn hs => Nat.le_trans (sN_le (b := 9216) (fun t ht => mul_bd hp97 (hok.2.2 s x t hs hx (by omega)) (hv t (by omega)).2)) (by omega)
  refine eX10_stepsBack (bX10_stepsBack_0 hW (w_many hW hm ?_))
  rw [hAn]
  refine bX10_stepsBack_5 hW ?_
  generalize hg : (fun s => sN A.1 (fun t => A.2.2.2 s x t * v t) % p) = g at k
  have loop3 : ∀ j t (I1 : Nat → Nat → Int32), t + j = A.1 → Fr [211, 212] I I1 → (∀ s, s < A.1 → I1 212 s = nI (g s)) → (∀ s, s < t → I1 211 s = nI (g s)) → Ex mX10_stepsBack 79 [.ref 209, xU, xU, .int (nI A.1), .int (nI t), xU, xU] [] (sh, I1, R) 0 0 (xqV Q) := by
    intro j
    induction j with
    | zero =>
      intro t I1 ht hf h2 h1
      obtain rfl : t = A.1 := by omega
      exact bX10_stepsBack_79 hW ⟨fun _ => k I1 hf (fun s hs => by rw [h1 s hs, ← hg]), fun c => absurd (nI_le (Nat.le_refl _) (by omega)) c⟩
    | succ j ih =>
      intro t I1 ht hf h2 h1
      refine bX10_stepsBack_79 hW ⟨fun c => absurd c (nI_ge (by omega) (by omega)), fun _ => ⟨vp_nI (by omega) (by omega), vp_nI (by omega) (by omega), ?_⟩⟩
      rw [nclamp (by omega), nI_add]
      refine ih (t + 1) _ (by omega) (hf.xi (by simp)) (fun s hs => ?_) (fun s hs => ?_)
      · rw [xi_p (by decide)]; exact h2 s hs
      · by_cases e : s = t
        · subst e; rw [xi_e]; exact h2 s (by omega)
        · rw [xi_s e]; exact h1 s (by omega)
  have loop1 : ∀ j s (I1 : Nat → Nat → Int32), s + j = A.1 → Fr [212] I I1 → (∀ a, a < s → I1 212 a = nI (g a)) → Ex mX10_stepsBack 9 [.ref 209, .int (nI m), .int (nI x), .int (nI A.1), .int (nI s), xU, xU] [] (sh, I1, R) 0 0 (xqV Q) := by
    intro j
    induction j with
    | zero =>
      intro s I1 hs hf h1
      exact bX10_stepsBack_9 hW ⟨fun _ => loop3 A.1 0 I1 (by omega) (hf.sub (by simp)) (fun a ha => h1 a (by omega)) (fun a ha => by omega), fun c => absurd (nI_le (by omega) (by omega)) c⟩
    | succ j ih =>
      intro s I1 hs hf h1
      have loop2 : ∀ j2 t, t + j2 = A.1 → Ex mX10_stepsBack 21 [.ref 209, .int (nI m), .int (nI x), .int (nI A.1), .int (nI s), .int (nI (sN t (fun t => A.2.2.2 s x t * v t))), .int (nI t)] [] (sh, I1, R) 0 0 (xqV Q) := by
        intro j2
        induction j2 with
        | zero =>
          intro t ht
          obtain rfl : t = A.1 := by omega
          have := hbd A.1 s (Nat.le_refl _) (by omega)
          refine bX10_stepsBack_21 hW ⟨fun _ => ?_, fun c => absurd (nI_le (Nat.le_refl _) (by omega)) c⟩
          rw [hf.at 209 1 (by decide), hP, xrem_nI (by omega) (by omega) (by omega), nclamp (by omega), nI_add]
          refine ⟨nI_ne0 (by omega) (by omega), vp_nI (by omega) (by omega), ih (s + 1) _ (by omega) (hf.xi (by simp)) (fun a ha => ?_)⟩
          by_cases e : a = s
          · subst e; rw [xi_e, ← hg]
          · rw [xi_s e]; exact h1 a (by omega)
        | succ j2 ih2 =>
          intro t ht
          refine bX10_stepsBack_21 hW ⟨fun c => absurd c (nI_ge (by omega) (by omega)), fun _ => w_weight hW hm (by omega) (by omega) (by omega) (bX10_stepsBack_39 hW ⟨vp_nI (by omega) (by omega), ?_⟩)⟩
          rw [nclamp (by omega), hf.at 211 t (by decide), (hv t (by omega)).1, hf.at 210 _ (by decide), hAw s x t (by omega) hx (by omega), pk_mul, nI_add, nI_add]
          exact ih2 (t + 1) (by omega)
      exact bX10_stepsBack_9 hW ⟨fun c => absurd c (nI_ge (by omega) (by omega)), fun _ => loop2 A.1 0 (by omega)⟩
  exact loop1 A.1 0 I (by omega) Fr.rf (fun a ha => by omega)
end MODS2
