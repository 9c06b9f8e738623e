/-! THE REFERENCE'S CALLS: the table -/
noncomputable def cif {α : Type} (c : Prop) (a b : α) : α := @ite α c (Classical.propDecidable c) a b
theorem cif_pos {α : Type} {c : Prop} {a b : α} (h : c) : cif c a b = a := @if_pos c (Classical.propDecidable c) h α a b
theorem cif_neg {α : Type} {c : Prop} {a b : α} (h : ¬ c) : cif c a b = b := @if_neg c (Classical.propDecidable c) h α a b
noncomputable def clsP (p : Nat) [NeZero p] (L : Nat) (A : Mac) (S P : List Nat) : List Nat := Classical.epsilon (fun P' => ∃ n, ClsN (DT p L A S) L n P P')
theorem clsP_eq {p L n : Nat} [NeZero p] {A : Mac} {S P P' : List Nat} (h : ClsN (DT p L A S) L n P P') : clsP p L A S P = P' := by
  obtain ⟨m, hm⟩ := Classical.epsilon_spec (p := fun P' => ∃ n, ClsN (DT p L A S) L n P P') ⟨P', n, h⟩
  exact (ClsN_uniq hm h).2
noncomputable def gsM (p : Nat) [NeZero p] (L : Nat) (A : Mac) (P S : List Nat) : Mac := Classical.epsilon (fun G => madeOK p L A P S.length (fun i => S.getD i 0) G)
theorem gsM_made {p L : Nat} [NeZero p] {A G : Mac} {P S : List Nat} (h : madeOK p L A P S.length (fun i => S.getD i 0) G) : madeOK p L A P S.length (fun i => S.getD i 0) (gsM p L A P S) := Classical.epsilon_spec (p := fun G => madeOK p L A P S.length (fun i => S.getD i 0) G) ⟨G, h⟩
theorem made_rep {p L m C : Nat} [NeZero p] {A G G2 : Mac} {P : List Nat} {cs : Nat → Nat} {I : Nat → Nat → Int32} (hi : indp C P.length (fun j => RW p L A cs (P.getD j 0))) (h : madeOK p L A P C cs G) (h2 : madeOK p L A P C cs G2) (hr : mRep I L m G) : mRep I L m G2 := hr.same (by rw [h2.1, h.1]) (fun s hs => by rw [h2.2.1 s (by rw [← h.1]; exact hs), h.2.1 s (by rw [← h.1]; exact hs)]) (fun s hs => by rw [h2.2.2.1 s (by rw [← h.1]; exact hs), h.2.2.1 s (by rw [← h.1]; exact hs)]) (fun s x t a b c => madeOK.uniq hi h2 h s x t (by rw [← h.1]; exact a) b (by rw [← h.1]; exact c))
/-- the first word by which two machines differ -/
noncomputable def dfO (p L : Nat) (A B : Mac) : Option Nat := cif (∃ w, w < fst L 8 ∧ vN p A (wl L w) ≠ vN p B (wl L w)) (some (Classical.epsilon (fun w => vN p A (wl L w) ≠ vN p B (wl L w) ∧ ∀ u, u < w → vN p A (wl L u) = vN p B (wl L u)))) none
theorem dfO_some {p L w : Nat} {A B : Mac} (hw : w < fst L 8) (h1 : vN p A (wl L w) ≠ vN p B (wl L w)) (h2 : ∀ u, u < w → vN p A (wl L u) = vN p B (wl L u)) : dfO p L A B = some w := by
  unfold dfO
  rw [cif_pos ⟨w, hw, h1⟩]
  have h3 := Classical.epsilon_spec (p := fun w => vN p A (wl L w) ≠ vN p B (wl L w) ∧ ∀ u, u < w → vN p A (wl L u) = vN p B (wl L u)) ⟨w, h1, h2⟩
  congr 1
  rcases Nat.lt_trichotomy (Classical.epsilon (fun w => vN p A (wl L w) ≠ vN p B (wl L w) ∧ ∀ u, u < w → vN p A (wl L u) = vN p B (wl L u))) w with q | q | q
  · exact absurd (h2 _ q) h3.1
  · exact q
  · exact absurd (h3.2 _ q) h1
theorem dfO_none {p L : Nat} {A B : Mac} (h : ∀ u, u < fst L 8 → vN p A (wl L u) = vN p B (wl L u)) : dfO p L A B = none := by
  unfold dfO
  rw [cif_neg (fun ⟨w, h1, h2⟩ => h2 (h w h1))]
def oI : Option Nat → Int32
  | none => -4
  | some w => nI w
/-- the coefficients of a row -/
noncomputable def cfO (p : Nat) [NeZero p] (L : Nat) (A : Mac) (P S : List Nat) (w : Nat) : Nat → Nat := Classical.epsilon (fun c => (∀ j, j < P.length → c j < p) ∧ ∀ d, d < S.length → RW p L A (fun i => S.getD i 0) w d = sm P.length (fun j => fo p (c j) * RW p L A (fun i => S.getD i 0) (P.getD j 0) d))
theorem cfO_eq {p L : Nat} [NeZero p] {A : Mac} {P S : List Nat} {w : Nat} {c : Nat → Nat} (hi : indp S.length P.length (fun j => RW p L A (fun i => S.getD i 0) (P.getD j 0))) (h1 : ∀ j, j < P.length → c j < p) (h2 : ∀ d, d < S.length → RW p L A (fun i => S.getD i 0) w d = sm P.length (fun j => fo p (c j) * RW p L A (fun i => S.getD i 0) (P.getD j 0) d)) : ∀ j, j < P.length → cfO p L A P S w j = c j := by
  have h3 := Classical.epsilon_spec (p := fun c : Nat → Nat => (∀ j, j < P.length → c j < p) ∧ ∀ d, d < S.length → RW p L A (fun i => S.getD i 0) w d = sm P.length (fun j => fo p (c j) * RW p L A (fun i => S.getD i 0) (P.getD j 0) d)) ⟨c, h1, h2⟩
  intro j hj
  refine fo_inj (h3.1 j hj) (h1 j hj) ?_
  exact indp_uniq (c := fun j => fo p (cfO p L A P S w j)) (d := fun j => fo p (c j)) hi (fun d hd => (h3.2 d hd).symm.trans (h2 d hd)) j hj
def rowW (L : Nat) (P : List Nat) (r : Nat) : Nat := if r < P.length then P.getD r 0 else P.getD ((r - P.length) / L) 0 * L + (r - P.length) % L + 1
noncomputable def cellA (σ : St) (r c : Int32) : Int32 := if inB r (σ.t.P.length * (σ.L + 1)) ∧ inB c σ.t.S.length then nI (vN σ.p σ.t.A (wl σ.L (wcat σ.L (rowW σ.L σ.t.P (nN r)) (σ.t.S.getD (nN c) 0)))) else -1
noncomputable def partA (σ : St) [NeZero σ.p] (r j : Int32) : Int32 := if inB r (σ.t.P.length * (σ.L + 1)) ∧ inB j σ.t.P.length then cif (DT σ.p σ.L σ.t.A σ.t.S σ.t.P (rowW σ.L σ.t.P (nN r))) (nI (cfO σ.p σ.L σ.t.A σ.t.P σ.t.S (rowW σ.L σ.t.P (nN r)) (nN j))) (-4) else -1
noncomputable def closeA (σ : St) [NeZero σ.p] : Int32 × St := (nI ((clsP σ.p σ.L σ.t.A σ.t.S σ.t.P).length - σ.t.P.length), σ.set_t (σ.t.set_P (clsP σ.p σ.L σ.t.A σ.t.S σ.t.P)))
noncomputable def learnA (σ : St) [NeZero σ.p] : Int32 × St :=
  let P := clsP σ.p σ.L σ.t.A σ.t.S σ.t.P
  let G := gsM σ.p σ.L σ.t.A P σ.t.S
  (oI (dfO σ.p σ.L σ.t.A G), σ.set_t (Tb.mk σ.t.A true G P (match dfO σ.p σ.L σ.t.A G with | none => σ.t.S | some w => ena σ.L w σ.t.S) (σ.t.r + 1)))
noncomputable def counterA (σ : St) : Int32 := if σ.t.g then oI (dfO σ.p σ.L σ.t.A σ.t.G) else -2
def askA (σ : St) (n : Int32) : Int32 × St := if inB n (fst σ.L 6) then (if 24 < (ena σ.L (nN n) σ.t.S).length then (-3, σ) else (nI (ena σ.L (nN n) σ.t.S).length, σ.set_t (σ.t.set_S (ena σ.L (nN n) σ.t.S)))) else (-1, σ)
noncomputable def basisA (σ : St) [NeZero σ.p] (i : Int32) : Int32 := if i.toInt < 0 then -1 else if nN i < (BS σ.p σ.L σ.t.A).length then nI ((BS σ.p σ.L σ.t.A).getD (nN i) 0) else -4
noncomputable def differA (σ : St) (k : Int32) : Int32 := if inB k 2 then (match σ.kept (nN k) with | none => -2 | some τ => oI (dfO σ.p σ.L σ.t.A τ.A)) else -1
section MODO
variable {sh : List xSh} {I : Nat → Nat → Int32} {R : Nat → Nat → Option Nat}
theorem mdR.t' {I I' : Nat → Nat → Int32} {σ : St} {τ : Tb} (h : mdR I σ) (ok : tbOK σ.p σ.L τ) (hq : ∀ q, q ∈ [218, 219, 220, 223, 225, 226, 227, 228, 229] → I' q = I q) (h9 : ∀ j, j ∈ [1, 2, 16, 17, 32] → I' 209 j = I 209 j) (hpg : pgF [0, 1, 2, 31, 32] I I') (A : mRep I' σ.L 0 τ.A) (g : I' 209 3 = bI τ.g) (G : τ.g = true → mRep I' σ.L 1 τ.G) (P : lsR I' 215 10 τ.P) (S : lsR I' 216 11 τ.S) (r : I' 209 12 = τ.r) : mdR I' (σ.set_t τ) := by
  have pg : ∀ {m A}, m ∉ [0, 1, 2, 31, 32] → mRep I σ.L m A → mRep I' σ.L m A := fun hm hA => hA.pg hpg hm h.ok.L3
  exact ⟨⟨h.ok.p, h.ok.L1, h.ok.L3, ok, h.ok.kept, h.ok.shf, h.ok.word, h.ok.tape⟩, by rw [h9 1 (by decide)]; exact h.c1, by rw [h9 2 (by decide)]; exact h.c2, A, g, G, P, S, r, fun k hk => (h.kept k hk).eq (hq _ (by decide)) (hq _ (by decide)) (fun A => pg (by simp; omega)) (fun A => pg (by simp; omega)), shf_same (σ := σ) h (hq _ (by decide)) (hq _ (by decide)) (hq _ (by decide)) (fun m A h1 h2 => pg (by simp; omega)), h.word.eq (h9 32 (by decide)) (hq _ (by decide)), h.tape.eq (h9 16 (by decide)) (hq _ (by decide)), by rw [h9 17 (by decide)]; exact h.fault, fun j hj => by rw [hq 219 (by decide)]; exact h.nmE j hj, fun j hj => by rw [hq 220 (by decide)]; exact h.nmL j hj⟩
theorem fr_q {T : List Nat} {I I' : Nat → Nat → Int32} (h : Fr T I I') (hT : ∀ q, q ∈ [218, 219, 220, 223, 225, 226, 227, 228, 229] → q ∉ T) : ∀ q, q ∈ [218, 219, 220, 223, 225, 226, 227, 228, 229] → I' q = I q := fun q hq => h q (hT q hq)
theorem pgF.up {ms ms' : List Nat} {I I' : Nat → Nat → Int32} (h : pgF ms I I') (hs : ∀ m ∈ ms, m ∈ ms') : pgF ms' I I' := fun i hi => h i (fun m hm => hi m (hs m hm))
theorem w_isRow {σ : St} {r : Int32} {Q : Int32 → xHp → Prop} (hW : xLay sh R) (h : mdR I σ) (k1 : ∀ b, r = nI b → b < σ.t.P.length * (σ.L + 1) → Q (nI 1) (sh, I, R)) (k0 : ¬ inB r (σ.t.P.length * (σ.L + 1)) → Q (nI 0) (sh, I, R)) : CI mX10_isRow [.ref 209, .int r] (sh, I, R) Q := by
  have h4 := h.tab.2.2.1
  have hL3 := h.ok.L3
  have hm : σ.t.P.length * (σ.L + 1) ≤ 4 * 4 := Nat.mul_le_mul h4 (by omega)
  refine eX10_isRow (bX10_isRow_0 hW ?_)
  rw [h.P.1, h.c2, nI_add, pk_mul]
  exact w_inB (n := σ.t.P.length * (σ.L + 1)) hW (nI64m (by omega)) (by omega) (fun b hb hlt => bX10_isRow_20 hW ⟨Or.inr rfl, k1 b hb hlt⟩) (fun hn => bX10_isRow_20 hW ⟨Or.inl rfl, k0 hn⟩)
theorem rowW_len {L r : Nat} (hL : 0 < L) {P : List Nat} (hpf : pfxs L P) (hr : r < P.length * (L + 1)) (h4 : P.length ≤ 4) : wlen L (rowW L P r) ≤ 4 := by
  have hPl := pfxs_len hL hpf
  unfold rowW
  split
  · rename_i q; have := hPl r q; omega
  · rename_i q
    have hd : (r - P.length) / L < P.length := by
      rw [Nat.div_lt_iff_lt_mul hL]
      rw [Nat.mul_add, Nat.mul_one] at hr
      omega
    rw [wlen_x (Nat.mod_lt _ hL)]
    have := hPl _ hd
    omega
theorem nI_neg {a b : Nat} (ha : a < 2 ^ 30) (hb : b < 2 ^ 30) : 0 ≤ nI a - nI b ↔ b ≤ a := by
  have e : (nI a - nI b).toInt = (a : Int) - b := by
    rw [Int32.toInt_sub, nI_toInt (by omega), nI_toInt (by omega)]
    apply Int.bmod_eq_of_le <;> omega
  rw [Int32.le_iff_toInt_le, e]
  have : (0 : Int32).toInt = 0 := by decide
  omega
theorem w_rowWord {σ : St} {r : Nat} {Q : Int32 → xHp → Prop} (hW : xLay sh R) (h : mdR I σ) (hr : r < σ.t.P.length * (σ.L + 1)) (k : Q (nI (rowW σ.L σ.t.P r)) (sh, I, R)) : CI mX10_rowWord [.ref 209, .int (nI r)] (sh, I, R) Q := by
  have h4 := h.tab.2.2.1
  have hL3 := h.ok.L3
  have hL1 := h.ok.L1
  obtain ⟨_, -, -, -, ht, -⟩ := h.ok.t
  have hPl := pfxs_len hL1 ht.1
  have hm : σ.t.P.length * (σ.L + 1) ≤ 4 * 4 := Nat.mul_le_mul h4 (by omega)
  refine eX10_rowWord (bX10_rowWord_0 hW ?_)
  rw [h.P.1, h.c2]
  refine ⟨fun q => ?_, fun q => ?_⟩
  · rw [nI_neg (by omega) (by omega)] at q
    have hd : (r - σ.t.P.length) / σ.L < σ.t.P.length := by
      rw [Nat.div_lt_iff_lt_mul hL1]
      rw [Nat.mul_add, Nat.mul_one] at hr
      omega
    rw [pk_sub q, pk_div (by omega) (by omega) (by omega), xrem_nI (by omega) hL1 (by omega), nclamp (by omega), h.P.2 _ hd]
    have hne : ¬ nI σ.L = 0 := nI_ne0 hL1 (by omega)
    refine ⟨hne, vp_nI (by omega) (by omega), hne, w_oneOf hW (bX10_rowWord_41 hW ?_)⟩
    have hxl : (r - σ.t.P.length) % σ.L < σ.L := Nat.mod_lt _ hL1
    refine w_joined hW h.ctx (by rw [wlen_one hxl]; have := hPl _ hd; omega) (bX10_rowWord_44 hW ?_)
    rw [wcat_one hxl]
    unfold rowW at k
    rw [if_neg (by omega)] at k
    exact k
  · rw [nI_neg (by omega) (by omega)] at q
    refine ⟨vp_nI (by omega) (by omega), ?_⟩
    rw [nclamp (by omega), h.P.2 r (by omega)]
    unfold rowW at k
    rw [if_pos (by omega)] at k
    exact k
theorem w_cell {σ : St} {r c : Int32} {Q : Int32 → xHp → Prop} (hW : xLay sh R) (h : mdR I σ) (k : ∀ I', mdR I' σ → mFr I I' → Q (cellA σ r c) (sh, I', R)) : CI mX10_cell [.ref 209, .int r, .int c] (sh, I, R) Q := by
  have h4 := h.tab.2.2.1
  have h60 := h.tab.2.2.2.1
  obtain ⟨_, -, hokA, -, ht, -⟩ := h.ok.t
  have no : ¬ (inB r (σ.t.P.length * (σ.L + 1)) ∧ inB c σ.t.S.length) → Q (-1) (sh, I, R) := fun hn => by
    have := k I h mFr.rf
    unfold cellA at this
    rw [if_neg hn] at this
    exact this
  refine eX10_cell (bX10_cell_0 hW (w_isRow hW h (fun b hb hlt => ?_) (fun hn => bX10_cell_5 hW ⟨fun _ => no (fun z => hn z.1), fun z => absurd rfl z⟩)))
  refine bX10_cell_5 hW ⟨fun z => absurd z (by decide), fun _ => ?_⟩
  rw [h.S.1]
  refine w_inB (n := σ.t.S.length) hW (nI64m (by omega)) (by omega) (fun d hd hdlt => ?_) (fun hn => bX10_cell_21 hW ⟨fun _ => no (fun z => hn z.2), fun z => absurd rfl z⟩)
  refine bX10_cell_21 hW ⟨fun z => absurd z (by decide), fun _ => ?_⟩
  rw [hb, hd]
  refine w_rowWord hW h hlt (bX10_cell_32 hW ⟨vp_nI (by omega) (by omega), ?_⟩)
  rw [nclamp (by omega), h.S.2 d hdlt]
  have hl1 := rowW_len h.ok.L1 ht.1 hlt h4
  have hl2 := ht.2.1 d hdlt
  refine w_joined hW h.ctx (by omega) (bX10_cell_41 hW (w_valueOf (m := 0) hW h.ctx (by decide) h.A hokA (by rw [wlen_cat h.ok.L1]; omega) (fun I' hf => bX10_cell_44 hW ?_)))
  have := k I' (h.eq (mdF.of hf (by decide))) (mFr.of hf (by simp))
  have hm : σ.t.P.length * (σ.L + 1) ≤ 4 * 4 := Nat.mul_le_mul h4 (by have := h.ok.L3; omega)
  unfold cellA at this
  rw [if_pos ⟨by rw [hb, inB_n (by omega)]; exact hlt, by rw [hd, inB_n (by omega)]; exact hdlt⟩, hb, hd, nN_n (by omega), nN_n (by omega)] at this
  exact this
theorem w_part {σ : St} [NeZero σ.p] {r c : Int32} {Q : Int32 → xHp → Prop} (hW : xLay sh R) (h : mdR I σ) (k : ∀ I', mdR I' σ → mFr I I' → Q (partA σ r c) (sh, I', R)) : CI mX10_part [.ref 209, .int r, .int c] (sh, I, R) Q := by
  have h4 := h.tab.2.2.1
  obtain ⟨_, -, hokA, -, ht, -⟩ := h.ok.t
  have hPl := pfxs_len h.ok.L1 ht.1
  have no : ¬ (inB r (σ.t.P.length * (σ.L + 1)) ∧ inB c σ.t.P.length) → Q (-1) (sh, I, R) := fun hn => by
    have := k I h mFr.rf
    unfold partA at this
    rw [if_neg hn] at this
    exact this
  refine eX10_part (bX10_part_0 hW (w_isRow hW h (fun b hb hlt => ?_) (fun hn => bX10_part_5 hW ⟨fun _ => no (fun z => hn z.1), fun z => absurd rfl z⟩)))
  refine bX10_part_5 hW ⟨fun z => absurd z (by decide), fun _ => ?_⟩
  rw [h.P.1]
  refine w_inB (n := σ.t.P.length) hW (nI64m (by omega)) (by omega) (fun d hd hdlt => ?_) (fun hn => bX10_part_21 hW ⟨fun z => absurd rfl z, fun _ => no (fun z => hn z.2)⟩)
  refine bX10_part_21 hW ⟨fun _ => ?_, fun z => absurd z (by decide)⟩
  rw [hb, hd]
  have hl1 := rowW_len h.ok.L1 ht.1 hlt h4
  have hm : σ.t.P.length * (σ.L + 1) ≤ 4 * 4 := Nat.mul_le_mul h4 (by have := h.ok.L3; omega)
  have hin : inB r (σ.t.P.length * (σ.L + 1)) ∧ inB c σ.t.P.length := ⟨by rw [hb, inB_n (by omega)]; exact hlt, by rw [hd, inB_n (by omega)]; exact hdlt⟩
  refine w_rowWord hW h hlt (bX10_part_32 hW ?_)
  refine w_isTold hW h.ctx h.A hokA h.tab (fun j c hj hc => by have := hPl j hj; have := ht.2.1 c hc; omega) (fun c hc => by have := ht.2.1 c hc; omega) ht.2.2 (fun I' c2 hf a1 a2 => ?_) (fun I' hf hn => ?_)
  · refine bX10_part_35 hW ⟨fun z => absurd z (by decide), fun _ => ⟨vp_nI (by omega) (by omega), ?_⟩⟩
    rw [nclamp (by omega), (a1 d hdlt).1]
    have := k I' (h.eq (mdF.of hf (by decide))) (mFr.of hf (by simp))
    unfold partA at this
    rw [if_pos hin, hb, hd, nN_n (by omega), nN_n (by omega), cif_pos ⟨fun j => fo σ.p (c2 j), a2⟩, cfO_eq ht.2.2 (fun j hj => (a1 j hj).2) a2 d hdlt] at this
    exact this
  · refine bX10_part_35 hW ⟨fun _ => ?_, fun z => absurd rfl z⟩
    have := k I' (h.eq (mdF.of hf (by decide))) (mFr.of hf (by simp))
    unfold partA at this
    rw [if_pos hin, hb, nN_n (by omega), cif_neg hn] at this
    exact this
end MODO
