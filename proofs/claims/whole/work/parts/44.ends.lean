/-! THE REFERENCE: suffixes, endings -/
def lft (L w j : Nat) : Nat := fst L (wlen L w - j) + (w - fst L (wlen L w)) % L ^ (wlen L w - j)
/-- the suffixes with the endings of a word, of i letters and fewer -/
def enl (L w : Nat) (S : List Nat) : Nat → List Nat
  | 0 => S
  | i + 1 => if lft L w (wlen L w - i) ∈ S then enl L w S i else enl L w S i ++ [lft L w (wlen L w - i)]
def ena (L w : Nat) (S : List Nat) : List Nat := enl L w S (wlen L w + 1)
theorem enl_ext (L w : Nat) (S : List Nat) : ∀ i, ∃ t, enl L w S i = S ++ t := by
  intro i
  induction i with
  | zero => exact ⟨[], by simp [enl]⟩
  | succ i ih =>
    obtain ⟨t, ht⟩ := ih
    unfold enl
    split
    · exact ⟨t, ht⟩
    · exact ⟨t ++ [_], by rw [ht, List.append_assoc]⟩
theorem enl_mono (L w : Nat) (S : List Nat) (i : Nat) : (enl L w S i).length ≤ (enl L w S (i + 1)).length := by
  rw [enl]; split
  · exact Nat.le_refl _
  · simp
theorem enl_le (L w : Nat) (S : List Nat) (i : Nat) : ∀ d, (enl L w S i).length ≤ (enl L w S (i + d)).length := by
  intro d
  induction d with
  | zero => exact Nat.le_refl _
  | succ d ih => exact Nat.le_trans ih (enl_mono L w S (i + d))
theorem lft_len {L : Nat} (hL : 0 < L) (w j : Nat) : wlen L (lft L w j) = wlen L w - j := by
  have h1 : fst L (wlen L w - j) ≤ lft L w j := Nat.le_add_right _ _
  have h2 : lft L w j < fst L (wlen L w - j + 1) := by
    rw [fst_add]
    have := Nat.mod_lt (w - fst L (wlen L w)) (Nat.pow_pos (n := wlen L w - j) hL)
    show fst L (wlen L w - j) + _ < _
    have h4 : fst L (wlen L w - j + 1) = fst L (wlen L w - j) + L ^ (wlen L w - j) := rfl
    rw [fst_add] at h4
    omega
  have h3 := (wlen_lt_iff hL (lft L w j) (wlen L w - j + 1)).mpr h2
  have h4 : ¬ wlen L (lft L w j) < wlen L w - j := fun q => by
    have := (wlen_lt_iff hL (lft L w j) (wlen L w - j)).mp q
    omega
  omega
section MODK
variable {sh : List xSh} {I : Nat → Nat → Int32} {R : Nat → Nat → Option Nat}
theorem nI_inj {a b : Nat} (ha : a < 2 ^ 31) (hb : b < 2 ^ 31) : nI a = nI b ↔ a = b := nI_eq ha hb
theorem w_isSuffix {w : Nat} {S : List Nat} {Q : Int32 → xHp → Prop} (hW : xLay sh R) (hw : w < 2 ^ 31) (hS : S.length ≤ 60) (hb : ∀ s ∈ S, s < 2 ^ 31) (hT : ∀ c, c < S.length → I 216 c = nI (S.getD c 0)) (k1 : w ∈ S → Q (nI 1) (sh, I, R)) (k0 : w ∉ S → Q (nI 0) (sh, I, R)) : CI mX10_isSuffix [.ref 209, .int (nI w), .int (nI S.length)] (sh, I, R) Q := by
  have loop : ∀ n c (v : Int32), c + n = S.length → ((v = nI 1 ∧ w ∈ S) ∨ (v = nI 0 ∧ ∀ i, i < c → S.getD i 0 ≠ w)) → Ex mX10_isSuffix 5 [.ref 209, .int (nI w), .int (nI S.length), .int v, .int (nI c)] [] (sh, I, R) 0 0 (xqI Q) := by
    intro n
    induction n with
    | zero =>
      intro c v hc hv
      refine bX10_isSuffix_5 hW ⟨fun _ => ?_, fun q => absurd (nI_le (by omega) (by omega)) q⟩
      rcases hv with ⟨rfl, h⟩ | ⟨rfl, h⟩
      · exact ⟨Or.inr rfl, k1 h⟩
      · refine ⟨Or.inl rfl, k0 (fun hm => ?_)⟩
        obtain ⟨i, hi, he⟩ := List.getElem_of_mem hm
        exact h i (by omega) (by rw [gd_el hi, he])
    | succ n ih =>
      intro c v hc hv
      refine bX10_isSuffix_5 hW ⟨fun q => absurd q (nI_ge (by omega) (by omega)), fun _ => ?_⟩
      rw [nI_add]
      rcases hv with ⟨rfl, h⟩ | ⟨rfl, h⟩
      · exact ⟨fun _ => ih (c + 1) _ (by omega) (Or.inl ⟨rfl, h⟩), fun q => absurd q (by decide)⟩
      · refine ⟨fun q => absurd rfl q, fun _ => ⟨vp_nI (by omega) (by omega), ?_⟩⟩
        rw [nclamp (by omega), hT c (by omega)]
        have hcb := hb _ (gd_mem (show c < S.length by omega))
        refine ⟨fun q => ih (c + 1) _ (by omega) (Or.inr ⟨rfl, fun i hi => ?_⟩), fun q => ih (c + 1) _ (by omega) (Or.inl ⟨rfl, ?_⟩)⟩
        · by_cases e : i = c
          · subst e; exact fun z => q (by rw [z])
          · exact h i (by omega)
        · rw [← (nI_eq hcb hw).mp q]; exact gd_mem (by omega)
  exact eX10_isSuffix (bX10_isSuffix_0 hW (loop S.length 0 _ (by omega) (Or.inr ⟨rfl, fun i hi => by omega⟩)))
theorem w_endings {p L w : Nat} {S : List Nat} {b : Bool} {Q : Int32 → xHp → Prop} (hW : xLay sh R) (hc : mCtx I p L) (hw : wlen L w ≤ 12) (hS : (ena L w S).length ≤ 60) (hb : ∀ s ∈ S, s < 2 ^ 31) (h11 : I 209 11 = nI S.length) (hT : ∀ c, c < S.length → I 216 c = nI (S.getD c 0))
    (k : ∀ I', Fr [209, 216] I I' → (∀ j, j ≠ 11 → I' 209 j = I 209 j) → I' 209 11 = nI (if b then (ena L w S).length else S.length) → (∀ c, c < (ena L w S).length → I' 216 c = nI ((ena L w S).getD c 0)) → Q (nI (ena L w S).length) (sh, I', R)) : CI mX10_endings [.ref 209, .int (nI w), .int (nI (if b then 1 else 0))] (sh, I, R) Q := by
  obtain ⟨hP, hL, hpr, hL1, hL3⟩ := id hc
  have hS0 : S.length ≤ (ena L w S).length := by obtain ⟨t, ht⟩ := enl_ext L w S (wlen L w + 1); unfold ena; rw [ht]; simp
  have loop : ∀ n i (v : Int32) (I1 : Nat → Nat → Int32), i + n = wlen L w + 1 → v = nI (wlen L w + 1 - i) - 1 → Fr [216] I I1 → (∀ c, c < (enl L w S i).length → I1 216 c = nI ((enl L w S i).getD c 0)) → Ex mX10_endings 15 [.ref 209, .int (nI w), .int (nI (if b then 1 else 0)), xU, .int (nI (enl L w S i).length), .int v, xU] [] (sh, I1, R) 0 0 (xqI Q) := by
    intro n
    induction n with
    | zero =>
      intro i v I1 hi hv hf h1
      obtain rfl : i = wlen L w + 1 := by omega
      have e11 : I1 209 11 = nI S.length := by rw [hf.at 209 11 (by decide)]; exact h11
      refine bX10_endings_15 hW ⟨fun _ => ?_, fun q => absurd (by rw [hv, Nat.sub_self]; decide) q⟩
      cases b with
      | true =>
        refine ⟨fun q => absurd q (by decide), fun _ => ?_⟩
        exact k _ ((hf.sub (by simp)).xi (by simp)) (fun j hj => by rw [xi_s hj, hf.at 209 j (by decide)]) xi_e (fun c hc => by rw [xi_p (by decide)]; exact h1 c hc)
      | false =>
        refine ⟨fun _ => ?_, fun q => absurd rfl q⟩
        exact k _ ((hf.sub (by simp)).xi (by simp)) (fun j hj => by rw [xi_s hj, hf.at 209 j (by decide)]) (by rw [xi_e]; exact e11) (fun c hc => by rw [xi_p (by decide)]; exact h1 c hc)
    | succ n ih =>
      intro i v I1 hi hv hf h1
      have e11 : I1 209 11 = nI S.length := by rw [hf.at 209 11 (by decide)]; exact h11
      have hv2 : v = nI (wlen L w - i) := by rw [hv]; show _ - nI 1 = _; rw [pk_sub (by omega)]; congr 1; omega
      rw [hv2]
      refine bX10_endings_15 hW ⟨fun q => absurd q ?_, fun _ => ?_⟩
      · exact nI_nlt (a := wlen L w - i) (b := 0) (by omega) (by omega)
      · refine w_leftOf hW (hc.fr hf (by decide)) hw (by omega) (bX10_endings_27 hW ?_)
        rw [e11]
        have hlen : wlen L (lft L w (wlen L w - i)) ≤ 12 := by rw [lft_len hL1]; omega
        have hlb : lft L w (wlen L w - i) < 2 ^ 31 := Nat.lt_of_lt_of_le (wlen_fst hL1 _).2 (Nat.le_trans (fst_bd hL3 _ (by omega)) (by omega))
        have hmono : (enl L w S (i + 1)).length ≤ 60 := Nat.le_trans (by have := enl_le L w S (i + 1) n; rwa [show i + 1 + n = wlen L w + 1 by omega] at this) hS
        have hSi : S.length ≤ (enl L w S i).length := by obtain ⟨t, ht⟩ := enl_ext L w S i; rw [ht]; simp
        have hv3 : nI (wlen L w - i) + (-1) = nI (wlen L w + 1 - (i + 1)) - 1 := by rw [show wlen L w + 1 - (i + 1) = wlen L w - i by omega]; exact (Int32.sub_eq_add_neg _ _).symm
        refine w_isSuffix hW hlb (by omega) hb (fun c hc => ?_) (fun (hm : lft L w (wlen L w - i) ∈ S) => ?_) (fun (hm : lft L w (wlen L w - i) ∉ S) => ?_)
        · obtain ⟨t, ht⟩ := enl_ext L w S i
          rw [h1 c (by omega), ht, gd_app hc]
        · refine bX10_endings_39 hW ⟨fun _ => ?_, fun q => absurd q (by decide)⟩
          have e : enl L w S (i + 1) = enl L w S i := by rw [enl, if_pos hm]
          rw [← e]
          refine ih (i + 1) _ I1 (by omega) hv3 hf (by rw [e]; exact h1)
        · refine bX10_endings_39 hW ⟨fun q => absurd rfl q, fun _ => ?_⟩
          have e : enl L w S (i + 1) = enl L w S i ++ [lft L w (wlen L w - i)] := by rw [enl, if_neg hm]
          have e2 : (enl L w S (i + 1)).length = (enl L w S i).length + 1 := by rw [e]; simp
          rw [nclamp (by omega), nI_add, ← e2]
          refine ⟨vp_nI (by omega) (by omega), ih (i + 1) _ _ (by omega) hv3 (hf.xi (by simp)) (fun c hc => ?_)⟩
          rw [e]
          by_cases q : c = (enl L w S i).length
          · subst q; rw [xi_e, gd_last]; rfl
          · rw [xi_s q, gd_app (by omega)]; exact h1 c (by omega)
  refine eX10_endings (bX10_endings_0 hW (w_lengthOf hW hc hw (bX10_endings_5 hW ?_)))
  rw [h11]
  refine loop (wlen L w + 1) 0 _ I (by omega) ?_ Fr.rf hT
  show nI (wlen L w) = nI (wlen L w + 1 - 0) - nI 1
  rw [pk_sub (by omega)]; rfl
end MODK
