/-! THE REFERENCE'S CALLS: tape, word, machines -/
noncomputable def LeM (p : Nat) [NeZero p] (L : Nat) (A : Mac) : Mac := Classical.epsilon (fun G => madeOK p L A (BS p L A) (fst L 4) (fun i => i) G)
noncomputable def mOf (σ : St) [NeZero σ.p] (a : Nat) : Mac := if a = 0 then σ.t.A else if a = 1 then σ.t.G else LeM σ.p σ.L σ.t.A
noncomputable def ansM {α : Type} (σ : St) [NeZero σ.p] (m : Int32) (f : Mac → α) (e : Int32 → α) : α := if inB m 3 then (if nN m = 1 ∧ σ.t.g = false then e (-2) else f (mOf σ (nN m))) else e (-1)
theorem LeM_made {p L : Nat} [NeZero p] {A G : Mac} (h : madeOK p L A (BS p L A) (fst L 4) (fun i => i) G) : madeOK p L A (BS p L A) (fst L 4) (fun i => i) (LeM p L A) := Classical.epsilon_spec (p := fun G => madeOK p L A (BS p L A) (fst L 4) (fun i => i) G) ⟨G, h⟩
theorem LeM_rep {p L m : Nat} [NeZero p] (hp : p ∈ PR) {A G : Mac} {I : Nat → Nat → Int32} (h : madeOK p L A (BS p L A) (fst L 4) (fun i => i) G) (hr : mRep I L m G) : mRep I L m (LeM p L A) := by
  have h2 := LeM_made h
  have hi : indp (fst L 4) (BS p L A).length (fun j => RW p L A (fun i => i) ((BS p L A).getD j 0)) := BB_ind (isF_p hp) _
  exact hr.same (by rw [h2.1, h.1]) (fun s hs => by rw [h2.2.1 s (by rw [← h.1]; exact hs), h.2.1 s (by rw [← h.1]; exact hs)]) (fun s hs => by rw [h2.2.2.1 s (by rw [← h.1]; exact hs), h.2.2.1 s (by rw [← h.1]; exact hs)]) (fun s x t a b c => madeOK.uniq hi h2 h s x t (by rw [← h.1]; exact a) b (by rw [← h.1]; exact c))
theorem stOK.nz {σ : St} (h : stOK σ) : NeZero σ.p := ⟨by have := PR_bd _ h.p; omega⟩
section MODM
variable {sh : List xSh} {I : Nat → Nat → Int32} {R : Nat → Nat → Option Nat}
theorem nI_m4 {a : Nat} (h : a < 2 ^ 31) : nI a ≠ -4 := fun q => by
  have : (nI a).toInt = (-4 : Int32).toInt := by rw [q]
  rw [nI_toInt h] at this
  have h4 : (-4 : Int32).toInt = -4 := by decide
  omega
theorem w_wrong {σ : St} [NeZero σ.p] {m : Int32} {Q : Int32 → xHp → Prop} (hW : xLay sh R) (h : mdR I σ)
    (k1 : ∀ a I', m = nI a → a < 3 → (∀ (α : Type) (f : Mac → α) (e : Int32 → α), ansM σ m f e = f (mOf σ a)) → mdR I' σ → mFr I I' → mRep I' σ.L a (mOf σ a) → okM σ.p σ.L (mOf σ a) → Q (nI 0) (sh, I', R))
    (k0 : ∀ v : Int32, v ≠ 0 → (∀ (α : Type) (f : Mac → α) (e : Int32 → α), ansM σ m f e = e v) → Q v (sh, I, R)) : CI mX10_wrong [.ref 209, .int m] (sh, I, R) Q := by
  obtain ⟨-, hA4, hokA, hokG, -⟩ := h.ok.t
  have hp2 := PR_bd _ h.ok.p
  refine eX10_wrong (bX10_wrong_0 hW (w_inB (n := 3) hW (by decide) (by decide) (fun a ha hlt => ?_) (fun hn => ?_)))
  · subst ha
    have hin : inB (nI a) 3 := (inB_n (by omega)).mpr hlt
    have hN : nN (nI a) = a := nN_n (by omega)
    refine bX10_wrong_9 hW ⟨fun _ => ?_, fun q => absurd q (by decide)⟩
    have fin : a ≠ 1 ∨ σ.t.g = true → ((¬ nI a = nI 2 → Q (nI 0) (sh, I, R)) ∧ (nI a = nI 2 → CV mX10_lessens [.ref 209] (sh, I, R) (fun h1 => Ex mX10_wrong 38 [xU, xU] [] h1 0 0 (xqI Q)))) := by
      intro hg
      have hans : ∀ (α : Type) (f : Mac → α) (e : Int32 → α), ansM σ (nI a) f e = f (mOf σ a) := fun α f e => by
        unfold ansM
        rw [if_pos hin, hN, if_neg (fun q => by rcases hg with z | z; exact z q.1; rw [q.2] at z; exact absurd z (by decide))]
      refine ⟨fun q => ?_, fun q => ?_⟩
      · have ha2 : a ≠ 2 := fun z => q (by rw [z])
        by_cases e0 : a = 0
        · subst e0
          refine k1 0 I rfl hlt hans h mFr.rf ?_ ?_
          · unfold mOf; rw [if_pos rfl]; exact h.A
          · unfold mOf; rw [if_pos rfl]; exact hokA
        · have e1 : a = 1 := by omega
          subst e1
          have hg2 : σ.t.g = true := by rcases hg with z | z; exact absurd rfl z; exact z
          refine k1 1 I rfl hlt hans h mFr.rf ?_ ?_
          · unfold mOf; rw [if_neg (by decide), if_pos rfl]; exact h.G hg2
          · unfold mOf; rw [if_neg (by decide), if_pos rfl]; exact (hokG hg2).2
      · have e2 := (nI_eq (a := a) (b := 2) (by omega) (by omega)).mp q
        subst e2
        refine w_lessens hW h.ctx h.A hokA (fun I' G hf hf9 hB hpg hG hr => bX10_wrong_38 hW ?_)
        refine k1 2 I' rfl hlt hans (h.eq ⟨fun j hj => hf9 j (fun z => by subst z; exact absurd hj (by decide)), fun i hi => hpg i (fun m' hm' => hi m' (by rw [List.mem_singleton.mp hm']; decide)), fun q hq => hf q (fun z => by revert hq z; simp; omega)⟩) (mFr.of hf (by simp)) ?_ ?_
        · unfold mOf; rw [if_neg (by decide), if_neg (by decide)]; exact LeM_rep h.ok.p hG hr
        · unfold mOf; rw [if_neg (by decide), if_neg (by decide)]; exact (LeM_made hG).ok hp2.1
    refine ⟨fun q => fin (Or.inl (fun z => q (by rw [z]))), fun q => ?_⟩
    have e1 := (nI_eq (a := a) (b := 1) (by omega) (by omega)).mp q
    subst e1
    rw [h.g]
    cases hg : σ.t.g with
    | true => exact ⟨fun _ => fin (Or.inr hg), fun z => absurd z (by decide)⟩
    | false =>
      refine ⟨fun z => absurd rfl z, fun _ => k0 (-2) (by decide) (fun α f e => ?_)⟩
      unfold ansM
      rw [if_pos hin, if_pos ⟨hN, hg⟩]
  · refine bX10_wrong_9 hW ⟨fun q => absurd rfl q, fun _ => k0 (-1) (by decide) (fun α f e => ?_)⟩
    unfold ansM
    rw [if_neg hn]
theorem w_isState {m s : Int32} {a L : Nat} {A : Mac} {Q : Int32 → xHp → Prop} (hW : xLay sh R) (ha : a < 33) (hm : m = nI a) (hA : mRep I L a A) (k1 : ∀ b, s = nI b → b < A.1 → Q (nI 1) (sh, I, R)) (k0 : ¬ inB s A.1 → Q (nI 0) (sh, I, R)) : CI mX10_isState [.ref 209, .int m, .int s] (sh, I, R) Q := by
  subst hm
  have := hA.1
  refine eX10_isState (bX10_isState_0 hW (w_many hW ha (bX10_isState_8 hW ?_)))
  rw [hA.2.1]
  exact w_inB (n := A.1) hW (nI64m (by omega)) (by omega) (fun b hb hlt => bX10_isState_14 hW ⟨Or.inr rfl, k1 b hb hlt⟩) (fun hn => bX10_isState_14 hW ⟨Or.inl rfl, k0 hn⟩)
theorem w_isLetter {p L : Nat} {x : Int32} {Q : Int32 → xHp → Prop} (hW : xLay sh R) (hc : mCtx I p L) (k1 : ∀ b, x = nI b → b < L → Q (nI 1) (sh, I, R)) (k0 : ¬ inB x L → Q (nI 0) (sh, I, R)) : CI mX10_isLetter [.ref 209, .int x] (sh, I, R) Q := by
  obtain ⟨-, hL, -, hL1, hL3⟩ := hc
  refine eX10_isLetter (bX10_isLetter_0 hW ?_)
  rw [hL]
  exact w_inB (n := L) hW (nI64m (by omega)) (by omega) (fun b hb hlt => bX10_isLetter_13 hW ⟨Or.inr rfl, k1 b hb hlt⟩) (fun hn => bX10_isLetter_13 hW ⟨Or.inl rfl, k0 hn⟩)
/-! answers -/
noncomputable def startA (σ : St) [NeZero σ.p] (m s : Int32) : Int32 := ansM σ m (fun M => if inB s M.1 then nI (M.2.1 (nN s)) else -1) id
noncomputable def finishA (σ : St) [NeZero σ.p] (m s : Int32) : Int32 := ansM σ m (fun M => if inB s M.1 then nI (M.2.2.1 (nN s)) else -1) id
noncomputable def edgeA (σ : St) [NeZero σ.p] (m s x t : Int32) : Int32 := ansM σ m (fun M => if inB s M.1 ∧ inB x σ.L ∧ inB t M.1 then nI (M.2.2.2 (nN s) (nN x) (nN t)) else -1) id
noncomputable def valueA (σ : St) [NeZero σ.p] (m : Int32) : Int32 := ansM σ m (fun M => nI (vN σ.p M σ.word)) id
def feedA (σ : St) (c : Int32) : Int32 × St := if inB c 128 then (if σ.tape.length = 200 then (-3, σ) else (nI (σ.tape.length + 1), σ.set_tape (σ.tape ++ [nN c]))) else (-1, σ)
def endA (σ : St) (n : Int32) : Int32 × St := if inB n (σ.tape.length + 1) then (nI σ.tape.length, σ.set_tape (σ.tape.take (nN n))) else (-1, σ)
def letterA (σ : St) (c : Int32) : Int32 × St := if inB c σ.L then (if σ.word.length = 12 then (-3, σ) else (nI (σ.word.length + 1), σ.set_word (σ.word ++ [nN c]))) else (-1, σ)
def wipeA (σ : St) : Int32 × St := (nI σ.word.length, σ.set_word [])
def prefixA (σ : St) (i : Int32) : Int32 := if i.toInt < 0 then -1 else if nN i < σ.t.P.length then nI (σ.t.P.getD (nN i) 0) else -4
def suffixA (σ : St) (i : Int32) : Int32 := if i.toInt < 0 then -1 else if nN i < σ.t.S.length then nI (σ.t.S.getD (nN i) 0) else -4
theorem w_start {σ : St} [NeZero σ.p] {m s : Int32} {Q : Int32 → xHp → Prop} (hW : xLay sh R) (h : mdR I σ) (k : ∀ I', mdR I' σ → mFr I I' → Q (startA σ m s) (sh, I', R)) : CI mX10_start [.ref 209, .int m, .int s] (sh, I, R) Q := by
  refine eX10_start (bX10_start_0 hW (w_wrong hW h (fun a I' hm ha hans h' hf hr hok => ?_) (fun v hv hans => bX10_start_5 hW ⟨fun z => absurd z hv, fun _ => ?_⟩)))
  · refine bX10_start_5 hW ⟨fun _ => w_isState hW (by omega) hm hr (fun b hb hlt => ?_) (fun hn => ?_), fun z => absurd rfl z⟩
    · have h4 := hr.1
      refine bX10_start_20 hW ⟨fun z => absurd z (by decide), fun _ => ?_⟩
      rw [hm, hb, nI_add]
      refine w_at hW (bX10_start_35 hW ⟨vp_nI (by omega) (by omega), ?_⟩)
      rw [nclamp (by omega), hr.2.2.1 b hlt]
      have := k I' h' hf
      unfold startA at this
      rw [hans, if_pos (by rw [hb, inB_n (by omega)]; exact hlt), hb, nN_n (by omega)] at this
      exact this
    · refine bX10_start_20 hW ⟨fun _ => ?_, fun z => absurd rfl z⟩
      have := k I' h' hf
      unfold startA at this
      rw [hans, if_neg hn] at this
      exact this
  · have := k I h mFr.rf
    unfold startA at this
    rw [hans] at this
    exact this
theorem w_finish {σ : St} [NeZero σ.p] {m s : Int32} {Q : Int32 → xHp → Prop} (hW : xLay sh R) (h : mdR I σ) (k : ∀ I', mdR I' σ → mFr I I' → Q (finishA σ m s) (sh, I', R)) : CI mX10_finish [.ref 209, .int m, .int s] (sh, I, R) Q := by
  refine eX10_finish (bX10_finish_0 hW (w_wrong hW h (fun a I' hm ha hans h' hf hr hok => ?_) (fun v hv hans => bX10_finish_5 hW ⟨fun z => absurd z hv, fun _ => ?_⟩)))
  · refine bX10_finish_5 hW ⟨fun _ => w_isState hW (by omega) hm hr (fun b hb hlt => ?_) (fun hn => ?_), fun z => absurd rfl z⟩
    · have h4 := hr.1
      refine bX10_finish_20 hW ⟨fun z => absurd z (by decide), fun _ => ?_⟩
      rw [hm, hb, nI_add]
      refine w_at hW (bX10_finish_35 hW ⟨vp_nI (by omega) (by omega), ?_⟩)
      rw [nclamp (by omega), hr.2.2.2.1 b hlt]
      have := k I' h' hf
      unfold finishA at this
      rw [hans, if_pos (by rw [hb, inB_n (by omega)]; exact hlt), hb, nN_n (by omega)] at this
      exact this
    · refine bX10_finish_20 hW ⟨fun _ => ?_, fun z => absurd rfl z⟩
      have := k I' h' hf
      unfold finishA at this
      rw [hans, if_neg hn] at this
      exact this
  · have := k I h mFr.rf
    unfold finishA at this
    rw [hans] at this
    exact this
theorem w_edge {σ : St} [NeZero σ.p] {m s x t : Int32} {Q : Int32 → xHp → Prop} (hW : xLay sh R) (h : mdR I σ) (k : ∀ I', mdR I' σ → mFr I I' → Q (edgeA σ m s x t) (sh, I', R)) : CI mX10_edge [.ref 209, .int m, .int s, .int x, .int t] (sh, I, R) Q := by
  refine eX10_edge (bX10_edge_0 hW (w_wrong hW h (fun a I' hm ha hans h' hf hr hok => ?_) (fun v hv hans => bX10_edge_5 hW ⟨fun z => absurd z hv, fun _ => ?_⟩)))
  · have h4 := hr.1
    have hL3 := h.ok.L3
    have no : ¬ (inB s (mOf σ a).1 ∧ inB x σ.L ∧ inB t (mOf σ a).1) → Q (-1) (sh, I', R) := fun hn => by
      have := k I' h' hf
      unfold edgeA at this
      rw [hans, if_neg hn] at this
      exact this
    refine bX10_edge_5 hW ⟨fun _ => w_isState hW (by omega) hm hr (fun b hb hlt => ?_) (fun hn => bX10_edge_23 hW ⟨fun _ => no (fun z => hn z.1), fun z => absurd rfl z⟩), fun z => absurd rfl z⟩
    refine bX10_edge_23 hW ⟨fun z => absurd z (by decide), fun _ => w_isLetter hW h'.ctx (fun y hy hylt => ?_) (fun hn => bX10_edge_31 hW ⟨fun _ => no (fun z => hn z.2.1), fun z => absurd rfl z⟩)⟩
    refine bX10_edge_31 hW ⟨fun z => absurd z (by decide), fun _ => w_isState hW (by omega) hm hr (fun c hc hclt => ?_) (fun hn => bX10_edge_41 hW ⟨fun _ => no (fun z => hn z.2.2), fun z => absurd rfl z⟩)⟩
    refine bX10_edge_41 hW ⟨fun z => absurd z (by decide), fun _ => ?_⟩
    rw [hm, hb, hy, hc]
    refine w_weight hW (by omega) (by omega) (by omega) (by omega) (bX10_edge_53 hW ?_)
    rw [hr.2.2.2.2 b y c hlt hylt hclt]
    have := k I' h' hf
    unfold edgeA at this
    rw [hans, if_pos ⟨by rw [hb, inB_n (by omega)]; exact hlt, by rw [hy, inB_n (by omega)]; exact hylt, by rw [hc, inB_n (by omega)]; exact hclt⟩, hb, hy, hc, nN_n (by omega), nN_n (by omega), nN_n (by omega)] at this
    exact this
  · have := k I h mFr.rf
    unfold edgeA at this
    rw [hans] at this
    exact this
end MODM
