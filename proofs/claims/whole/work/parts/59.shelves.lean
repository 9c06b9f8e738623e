/-! THE REFERENCE'S CALLS: shelves -/
def cellF (o : Option Shf) (lane i : Int32) : Nat := match o with
  | none => 1
  | some s => if lane ≠ nI 2 ∧ lane ≠ nI s.lane then 2 else if inB i s.size then 0 else 3
def cellAt (o : Option Shf) (i : Nat) : Option (Nat × Mac) := match o with
  | none => none
  | some s => s.cell i
def laneOf (o : Option Shf) : Nat := match o with
  | none => 0
  | some s => s.lane
def foundF (o : Option Shf) (lane i : Int32) : Nat := if cellF o lane i = 0 then (match cellAt o (nN i) with | none => 5 | some _ => 0) else cellF o lane i
def layF (o : Option Shf) (i : Int32) (sort : Nat) : Nat := if cellF o (nI 2) i = 0 then (if laneOf o ≠ 2 ∧ laneOf o ≠ sort then 4 else 0) else cellF o (nI 2) i
def shelfA (σ : St) (k lane n : Int32) : Int32 × St := if inB k 3 ∧ inB lane 3 ∧ n.toInt ≤ 8 then (if n.toInt < 0 then (-16, σ) else (nI 1, σ.set_shf (fun j => if j = nN k then some (Shf.mk (nN lane) (nN n) (fun _ => none)) else σ.shf j))) else (-1, σ)
def putS (σ : St) (k i sort : Nat) (M : Mac) : St := σ.set_shf (fun j => if j = k then (match σ.shf j with | none => none | some s => some (Shf.mk s.lane s.size (fun a => if a = i then some (sort, M) else s.cell a))) else σ.shf j)
noncomputable def layA (σ : St) [NeZero σ.p] (k i m : Int32) : Int32 × St := if inB k 3 then ansM σ m (fun M => if layF (σ.shf (nN k)) i (if m = 0 then 0 else 1) = 0 then (nI 1, putS σ (nN k) (nN i) (if m = 0 then 0 else 1) M) else (-10 - nI (layF (σ.shf (nN k)) i (if m = 0 then 0 else 1)), σ)) (fun e => (e, σ)) else (-1, σ)
def macAt (o : Option (Nat × Mac)) : Mac := match o with
  | none => mNil
  | some (_, M) => M
def sortAt (o : Option (Nat × Mac)) : Nat := match o with
  | none => 0
  | some (s, _) => s
def takeA (σ : St) (k lane i : Int32) : Int32 × St := if inB k 3 ∧ inB lane 3 then (if foundF (σ.shf (nN k)) lane i = 0 then (nI (macAt (cellAt (σ.shf (nN k)) (nN i))).1, σ.set_t (Tb.nw (macAt (cellAt (σ.shf (nN k)) (nN i))))) else (-10 - nI (foundF (σ.shf (nN k)) lane i), σ)) else (-1, σ)
def kindA (σ : St) (k i : Int32) : Int32 := if inB k 3 then (if foundF (σ.shf (nN k)) (nI 2) i = 0 then nI (sortAt (cellAt (σ.shf (nN k)) (nN i))) else -10 - nI (foundF (σ.shf (nN k)) (nI 2) i)) else -1
theorem cellF_le (o : Option Shf) (lane i : Int32) : cellF o lane i ≤ 3 := by
  unfold cellF
  split
  · omega
  · split
    · omega
    · split <;> omega
theorem foundF_le (o : Option Shf) (lane i : Int32) : foundF o lane i ≤ 5 := by
  have := cellF_le o lane i
  unfold foundF
  split
  · split <;> omega
  · omega
theorem cellF_0 {o : Option Shf} {lane i : Int32} (h : cellF o lane i = 0) : ∃ s, o = some s ∧ inB i s.size := by
  cases o with
  | none => exact absurd (show 1 = 0 from h) (by decide)
  | some s =>
    refine ⟨s, rfl, ?_⟩
    unfold cellF at h
    dsimp only at h
    by_cases q : lane ≠ nI 2 ∧ lane ≠ nI s.lane
    · rw [if_pos q] at h; exact absurd h (by decide)
    · rw [if_neg q] at h
      by_cases q2 : inB i s.size
      · exact q2
      · rw [if_neg q2] at h; exact absurd h (by decide)
theorem inB_N {v : Int32} {n : Nat} (h : inB v n) : v = nI (nN v) ∧ nN v < n := ⟨(nI_N h.1).symm, by have := h.2; have := h.1; unfold nN; omega⟩
section MODY
variable {sh : List xSh} {I : Nat → Nat → Int32} {R : Nat → Nat → Option Nat}
theorem w_isShelf {x : Int32} {Q : Int32 → xHp → Prop} (hW : xLay sh R) (k1 : ∀ b, x = nI b → b < 3 → Q (nI 1) (sh, I, R)) (k0 : ¬ inB x 3 → Q (nI 0) (sh, I, R)) : CI mX10_isShelf [.int x] (sh, I, R) Q := eX10_isShelf (bX10_isShelf_0 hW (w_inB (n := 3) hW (by decide) (by decide) (fun b hb hlt => bX10_isShelf_9 hW ⟨Or.inr rfl, k1 b hb hlt⟩) (fun hn => bX10_isShelf_9 hW ⟨Or.inl rfl, k0 hn⟩)))
theorem w_cellFault {σ : St} {c : Nat} {lane i : Int32} {Q : Int32 → xHp → Prop} (hW : xLay sh R) (h : mdR I σ) (hc : c < 3) (k : Q (nI (cellF (σ.shf c) lane i)) (sh, I, R)) : CI mX10_cellFault [.ref 209, .int (nI c), .int lane, .int i] (sh, I, R) Q := by
  refine eX10_cellFault (bX10_cellFault_0 hW ⟨vp_nI (by omega) (by omega), ?_⟩)
  rw [nclamp (by omega)]
  have hs := h.shf c hc
  unfold cellF at k
  cases hsc : σ.shf c with
  | none =>
    rw [hsc] at hs k
    have hs2 : I 227 c = -4 := hs
    rw [hs2]
    exact ⟨fun z => absurd rfl z, fun _ => k⟩
  | some s =>
    rw [hsc] at hs k
    obtain ⟨o1, o2, -⟩ := h.ok.shf c s hsc
    rw [hs.1, hs.2.1]
    dsimp only at k
    have fin : ¬ (lane ≠ nI 2 ∧ lane ≠ nI s.lane) → vp_in (nI c) 3 ∧ CI mX10_in [.long i.toInt64, .long (lN 0), .long ((nI s.size - nI 1).toInt64)] (sh, I, R) (fun w h1 => Ex mX10_cellFault 45 [xU, xU, xU, xU] (.int w :: []) h1 0 0 (xqI Q)) := fun q => by
      rw [if_neg q] at k
      refine ⟨vp_nI (by omega) (by omega), w_inB (n := s.size) hW (nI64m (by omega)) (by omega) (fun b hb hlt => ?_) (fun hn => ?_)⟩
      · rw [if_pos (by rw [hb, inB_n (by omega)]; exact hlt)] at k
        exact bX10_cellFault_45 hW ⟨fun z => absurd z (by decide), fun _ => k⟩
      · rw [if_neg hn] at k
        exact bX10_cellFault_45 hW ⟨fun _ => k, fun z => absurd rfl z⟩
    refine ⟨fun _ => ⟨fun q => fin (fun z => z.1 q), fun q => ⟨vp_nI (by omega) (by omega), fun q2 => fin (fun z => z.2 q2), fun q2 => ?_⟩⟩, fun z => absurd z (nI_m4 (by omega))⟩
    rw [if_pos ⟨q, q2⟩] at k
    exact k
theorem w_foundIn {σ : St} {c : Nat} {lane i : Int32} {Q : Int32 → xHp → Prop} (hW : xLay sh R) (h : mdR I σ) (hc : c < 3) (k : Q (nI (foundF (σ.shf c) lane i)) (sh, I, R)) : CI mX10_foundIn [.ref 209, .int (nI c), .int lane, .int i] (sh, I, R) Q := by
  refine eX10_foundIn (bX10_foundIn_0 hW (w_cellFault hW h hc (bX10_foundIn_7 hW ⟨fun q => ?_, fun q => ?_⟩)))
  · have hne : cellF (σ.shf c) lane i ≠ 0 := fun z => q (by rw [z]; rfl)
    unfold foundF at k
    rw [if_neg hne] at k
    exact k
  · have h3 := cellF_le (σ.shf c) lane i
    have h0 : cellF (σ.shf c) lane i = 0 := (nI_eq (b := 0) (by omega) (by omega)).mp q
    obtain ⟨s, hs, hin⟩ := cellF_0 h0
    obtain ⟨e1, e2⟩ := inB_N hin
    obtain ⟨o1, o2, o3⟩ := h.ok.shf c s hs
    have hsh := h.shf c hc
    rw [hs] at hsh
    have hcell := hsh.2.2 (nN i) e2
    unfold foundF at k
    rw [if_pos h0] at k
    have ecell : cellAt (σ.shf c) (nN i) = s.cell (nN i) := by rw [hs]; rfl
    have hi2 : nI 8 * nI c + i = nI (8 * c + nN i) := by rw [e1, nN_n (by omega), pk_mul, nI_add]
    rw [hi2, h0]
    refine ⟨vp_nI (by omega) (by omega), ?_⟩
    rw [nclamp (by omega)]
    rw [ecell] at k
    cases hce : s.cell (nN i) with
    | none =>
      rw [hce] at hcell k
      rw [show I 229 (8 * c + nN i) = -4 from hcell]
      exact ⟨fun z => absurd rfl z, fun _ => k⟩
    | some x =>
      obtain ⟨sc, M⟩ := x
      rw [hce] at hcell k
      have := o3 (nN i) sc M hce
      rw [hcell.1]
      exact ⟨fun _ => k, fun z => absurd z (nI_m4 (by omega))⟩
theorem w_kind {σ : St} {v i : Int32} {Q : Int32 → xHp → Prop} (hW : xLay sh R) (h : mdR I σ) (k : Q (kindA σ v i) (sh, I, R)) : CI mX10_kind [.ref 209, .int v, .int i] (sh, I, R) Q := by
  unfold kindA at k
  refine eX10_kind (bX10_kind_0 hW (w_isShelf hW (fun c hc hclt => ?_) (fun hn => ?_)))
  · subst hc
    rw [if_pos ((inB_n (by omega)).mpr hclt), nN_n (by omega)] at k
    have h5 := foundF_le (σ.shf c) (nI 2) i
    refine bX10_kind_4 hW ⟨fun _ => w_foundIn hW h hclt (bX10_kind_16 hW ⟨fun q => ?_, fun q => ?_⟩), fun z => absurd z (by decide)⟩
    · have h0 : foundF (σ.shf c) (nI 2) i = 0 := by
        rcases Nat.eq_zero_or_pos (foundF (σ.shf c) (nI 2) i) with z | z
        · exact z
        · exact absurd q (nI_ge (b := foundF (σ.shf c) (nI 2) i) (a := 0) z (by omega))
      rw [if_pos h0] at k
      have hc0 : cellF (σ.shf c) (nI 2) i = 0 := by
        unfold foundF at h0
        by_cases z : cellF (σ.shf c) (nI 2) i = 0
        · exact z
        · rw [if_neg z] at h0; exact h0
      obtain ⟨s, hs, hin⟩ := cellF_0 hc0
      obtain ⟨e1, e2⟩ := inB_N hin
      obtain ⟨o1, o2, o3⟩ := h.ok.shf c s hs
      have hsh := h.shf c hclt
      rw [hs] at hsh
      have hcell := hsh.2.2 (nN i) e2
      have ecell : cellAt (σ.shf c) (nN i) = s.cell (nN i) := by rw [hs]; rfl
      have hi2 : nI 8 * nI c + i = nI (8 * c + nN i) := by rw [e1, nN_n (by omega), pk_mul, nI_add]
      rw [hi2]
      refine ⟨vp_nI (by omega) (by omega), ?_⟩
      rw [nclamp (by omega)]
      rw [ecell] at k
      unfold foundF at h0
      rw [if_pos hc0, ecell] at h0
      cases hce : s.cell (nN i) with
      | none => rw [hce] at h0; exact absurd h0 (by decide)
      | some x =>
        obtain ⟨sc, M⟩ := x
        rw [hce] at hcell k
        rw [hcell.1]; exact k
    · have h0 : foundF (σ.shf c) (nI 2) i ≠ 0 := fun z => q (by rw [z]; decide)
      rw [if_neg h0] at k
      exact k
  · rw [if_neg hn] at k
    exact bX10_kind_4 hW ⟨fun z => absurd rfl z, fun _ => k⟩
end MODY
