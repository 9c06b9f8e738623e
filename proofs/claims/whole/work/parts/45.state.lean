/-! THE STATE, as both have it -/
def Tb : Type := (Mac) × (Bool) × (Mac) × (List Nat) × (List Nat) × (Int32)
def Tb.A (h : Tb) : Mac := h.1
def Tb.g (h : Tb) : Bool := h.2.1
def Tb.G (h : Tb) : Mac := h.2.2.1
def Tb.P (h : Tb) : List Nat := h.2.2.2.1
def Tb.S (h : Tb) : List Nat := h.2.2.2.2.1
def Tb.r (h : Tb) : Int32 := h.2.2.2.2.2
def Tb.mk (A : Mac) (g : Bool) (G : Mac) (P : List Nat) (S : List Nat) (r : Int32) : Tb := (A, g, G, P, S, r)
def Tb.set_A (h : Tb) (A : Mac) : Tb := (A, h.g, h.G, h.P, h.S, h.r)
def Tb.set_g (h : Tb) (g : Bool) : Tb := (h.A, g, h.G, h.P, h.S, h.r)
def Tb.set_G (h : Tb) (G : Mac) : Tb := (h.A, h.g, G, h.P, h.S, h.r)
def Tb.set_P (h : Tb) (P : List Nat) : Tb := (h.A, h.g, h.G, P, h.S, h.r)
def Tb.set_S (h : Tb) (S : List Nat) : Tb := (h.A, h.g, h.G, h.P, S, h.r)
def Tb.set_r (h : Tb) (r : Int32) : Tb := (h.A, h.g, h.G, h.P, h.S, r)
def Shf : Type := (Nat) × (Nat) × (Nat → Option (Nat × Mac))
def Shf.lane (h : Shf) : Nat := h.1
def Shf.size (h : Shf) : Nat := h.2.1
def Shf.cell (h : Shf) : Nat → Option (Nat × Mac) := h.2.2
def Shf.mk (lane : Nat) (size : Nat) (cell : Nat → Option (Nat × Mac)) : Shf := (lane, size, cell)
def Shf.set_lane (h : Shf) (lane : Nat) : Shf := (lane, h.size, h.cell)
def Shf.set_size (h : Shf) (size : Nat) : Shf := (h.lane, size, h.cell)
def Shf.set_cell (h : Shf) (cell : Nat → Option (Nat × Mac)) : Shf := (h.lane, h.size, cell)
def St : Type := (Nat) × (Nat) × (Tb) × (Nat → Option Tb) × (Nat → Option Shf) × (List Nat) × (List Nat) × (Int32)
def St.p (h : St) : Nat := h.1
def St.L (h : St) : Nat := h.2.1
def St.t (h : St) : Tb := h.2.2.1
def St.kept (h : St) : Nat → Option Tb := h.2.2.2.1
def St.shf (h : St) : Nat → Option Shf := h.2.2.2.2.1
def St.word (h : St) : List Nat := h.2.2.2.2.2.1
def St.tape (h : St) : List Nat := h.2.2.2.2.2.2.1
def St.fault (h : St) : Int32 := h.2.2.2.2.2.2.2
def St.mk (p : Nat) (L : Nat) (t : Tb) (kept : Nat → Option Tb) (shf : Nat → Option Shf) (word : List Nat) (tape : List Nat) (fault : Int32) : St := (p, L, t, kept, shf, word, tape, fault)
def St.set_p (h : St) (p : Nat) : St := (p, h.L, h.t, h.kept, h.shf, h.word, h.tape, h.fault)
def St.set_L (h : St) (L : Nat) : St := (h.p, L, h.t, h.kept, h.shf, h.word, h.tape, h.fault)
def St.set_t (h : St) (t : Tb) : St := (h.p, h.L, t, h.kept, h.shf, h.word, h.tape, h.fault)
def St.set_kept (h : St) (kept : Nat → Option Tb) : St := (h.p, h.L, h.t, kept, h.shf, h.word, h.tape, h.fault)
def St.set_shf (h : St) (shf : Nat → Option Shf) : St := (h.p, h.L, h.t, h.kept, shf, h.word, h.tape, h.fault)
def St.set_word (h : St) (word : List Nat) : St := (h.p, h.L, h.t, h.kept, h.shf, word, h.tape, h.fault)
def St.set_tape (h : St) (tape : List Nat) : St := (h.p, h.L, h.t, h.kept, h.shf, h.word, tape, h.fault)
def St.set_fault (h : St) (fault : Int32) : St := (h.p, h.L, h.t, h.kept, h.shf, h.word, h.tape, fault)
def bI (b : Bool) : Int32 := nI (if b then 1 else 0)
/-- a number as an index below n -/
abbrev inB (v : Int32) (n : Nat) : Prop := 0 ≤ v.toInt ∧ v.toInt < n
def nN (v : Int32) : Nat := v.toInt.toNat
theorem nN_n {a : Nat} (h : a < 2 ^ 31) : nN (nI a) = a := by unfold nN; rw [nI_toInt h]; rfl
theorem nI_N {v : Int32} (h : 0 ≤ v.toInt) : nI (nN v) = v := by
  have h1 : v.toInt < 2 ^ 31 := Int32.toInt_lt v
  rw [← Int32.toInt_inj, nI_toInt (by unfold nN; omega)]
  unfold nN; omega
theorem inB_n {a n : Nat} (h : a < 2 ^ 31) : inB (nI a) n ↔ a < n := by unfold inB; rw [nI_toInt h]; omega
/-- tables that can be -/
def sfxs (L : Nat) (S : List Nat) : Prop := S.getD 0 1 = 0 ∧ S.Nodup ∧ ∀ w ∈ S, ∀ j, j ≤ wlen L w → lft L w j ∈ S
def tbB : Nat → Nat
  | 0 => 24
  | r + 1 => tbB r + (3 + r)
def tbOK (p L : Nat) (τ : Tb) : Prop := ∃ _ : NeZero p, τ.A.1 ≤ 4 ∧ okM p L τ.A ∧ (τ.g = true → τ.G.1 ≤ 4 ∧ okM p L τ.G) ∧ tabOK p L τ.A τ.P τ.S ∧ sfxs L τ.S ∧ (clsd (DT p L τ.A τ.S τ.P) L τ.P → τ.S.length ≤ tbB τ.P.length) ∧ (τ.P.length < 4 → τ.S.length ≤ tbB (τ.P.length + 1)) ∧ τ.P.length ≤ 4 ∧ τ.S.length ≤ 42
def shOK (p L : Nat) (s : Shf) : Prop := s.lane ≤ 2 ∧ s.size ≤ 8 ∧ ∀ i k M, s.cell i = some (k, M) → i < s.size ∧ k ≤ 1 ∧ M.1 ≤ 4 ∧ okM p L M
def stOK (σ : St) : Prop := (σ.p ∈ PR) ∧ (1 ≤ σ.L) ∧ (σ.L ≤ 3) ∧ (tbOK σ.p σ.L σ.t) ∧ (∀ k τ, σ.kept k = some τ → tbOK σ.p σ.L τ) ∧ (∀ k s, σ.shf k = some s → shOK σ.p σ.L s) ∧ (σ.word.length ≤ 12 ∧ ∀ x ∈ σ.word, x < σ.L) ∧ (σ.tape.length ≤ 200 ∧ ∀ x ∈ σ.tape, x < 128)
theorem stOK.p {σ : St} (h : stOK σ) : σ.p ∈ PR := h.1
theorem stOK.L1 {σ : St} (h : stOK σ) : 1 ≤ σ.L := h.2.1
theorem stOK.L3 {σ : St} (h : stOK σ) : σ.L ≤ 3 := h.2.2.1
theorem stOK.t {σ : St} (h : stOK σ) : tbOK σ.p σ.L σ.t := h.2.2.2.1
theorem stOK.kept {σ : St} (h : stOK σ) : ∀ k τ, σ.kept k = some τ → tbOK σ.p σ.L τ := h.2.2.2.2.1
theorem stOK.shf {σ : St} (h : stOK σ) : ∀ k s, σ.shf k = some s → shOK σ.p σ.L s := h.2.2.2.2.2.1
theorem stOK.word {σ : St} (h : stOK σ) : σ.word.length ≤ 12 ∧ ∀ x ∈ σ.word, x < σ.L := h.2.2.2.2.2.2.1
theorem stOK.tape {σ : St} (h : stOK σ) : σ.tape.length ≤ 200 ∧ ∀ x ∈ σ.tape, x < 128 := h.2.2.2.2.2.2.2
/-! THE REFERENCE'S ROWS of a state -/
def lsR (I : Nat → Nat → Int32) (q n : Nat) (l : List Nat) : Prop := I 209 n = nI l.length ∧ ∀ j, j < l.length → I q j = nI (l.getD j 0)
def mKep (I : Nat → Nat → Int32) (L k : Nat) : Option Tb → Prop
  | none => I 225 k = nI 0
  | some τ => I 225 k = nI 1 ∧ mRep I L (3 + k) τ.A ∧ (τ.g = true → mRep I L (5 + k) τ.G) ∧ (∀ j, j < τ.P.length → I 226 (70 * k + j) = nI (τ.P.getD j 0)) ∧ (∀ j, j < τ.S.length → I 226 (70 * k + 5 + j) = nI (τ.S.getD j 0)) ∧ I 226 (70 * k + 65) = nI τ.P.length ∧ I 226 (70 * k + 66) = nI τ.S.length ∧ I 226 (70 * k + 67) = τ.r ∧ I 226 (70 * k + 68) = bI τ.g
def mShf (I : Nat → Nat → Int32) (L k : Nat) : Option Shf → Prop
  | none => I 227 k = -4
  | some s => I 227 k = nI s.lane ∧ I 228 k = nI s.size ∧ ∀ i, i < s.size → match s.cell i with
    | none => I 229 (8 * k + i) = -4
    | some (c, M) => I 229 (8 * k + i) = nI c ∧ mRep I L (7 + (8 * k + i)) M
def nmE : List Nat := [0, 5, 12, 18, 23, 26, 30]
def nmL : List Nat := [112, 114, 105, 109, 101, 108, 101, 116, 116, 101, 114, 115, 115, 116, 97, 116, 101, 115, 115, 116, 97, 114, 116, 101, 110, 100, 101, 100, 103, 101]
def mdR (I : Nat → Nat → Int32) (σ : St) : Prop := (stOK σ) ∧ (I 209 1 = nI σ.p) ∧ (I 209 2 = nI σ.L) ∧ (mRep I σ.L 0 σ.t.A) ∧ (I 209 3 = bI σ.t.g) ∧ (σ.t.g = true → mRep I σ.L 1 σ.t.G) ∧ (lsR I 215 10 σ.t.P) ∧ (lsR I 216 11 σ.t.S) ∧ (I 209 12 = σ.t.r) ∧ (∀ k, k < 2 → mKep I σ.L k (σ.kept k)) ∧ (∀ k, k < 3 → mShf I σ.L k (σ.shf k)) ∧ (lsR I 223 32 σ.word) ∧ (lsR I 218 16 σ.tape) ∧ (I 209 17 = σ.fault) ∧ (∀ j, j < 7 → I 219 j = nI (nmE.getD j 0)) ∧ (∀ j, j < 30 → I 220 j = nI (nmL.getD j 0))
theorem mdR.ok {I : Nat → Nat → Int32} {σ : St} (h : mdR I σ) : stOK σ := h.1
theorem mdR.c1 {I : Nat → Nat → Int32} {σ : St} (h : mdR I σ) : I 209 1 = nI σ.p := h.2.1
theorem mdR.c2 {I : Nat → Nat → Int32} {σ : St} (h : mdR I σ) : I 209 2 = nI σ.L := h.2.2.1
theorem mdR.A {I : Nat → Nat → Int32} {σ : St} (h : mdR I σ) : mRep I σ.L 0 σ.t.A := h.2.2.2.1
theorem mdR.g {I : Nat → Nat → Int32} {σ : St} (h : mdR I σ) : I 209 3 = bI σ.t.g := h.2.2.2.2.1
theorem mdR.G {I : Nat → Nat → Int32} {σ : St} (h : mdR I σ) : σ.t.g = true → mRep I σ.L 1 σ.t.G := h.2.2.2.2.2.1
theorem mdR.P {I : Nat → Nat → Int32} {σ : St} (h : mdR I σ) : lsR I 215 10 σ.t.P := h.2.2.2.2.2.2.1
theorem mdR.S {I : Nat → Nat → Int32} {σ : St} (h : mdR I σ) : lsR I 216 11 σ.t.S := h.2.2.2.2.2.2.2.1
theorem mdR.r {I : Nat → Nat → Int32} {σ : St} (h : mdR I σ) : I 209 12 = σ.t.r := h.2.2.2.2.2.2.2.2.1
theorem mdR.kept {I : Nat → Nat → Int32} {σ : St} (h : mdR I σ) : ∀ k, k < 2 → mKep I σ.L k (σ.kept k) := h.2.2.2.2.2.2.2.2.2.1
theorem mdR.shf {I : Nat → Nat → Int32} {σ : St} (h : mdR I σ) : ∀ k, k < 3 → mShf I σ.L k (σ.shf k) := h.2.2.2.2.2.2.2.2.2.2.1
theorem mdR.word {I : Nat → Nat → Int32} {σ : St} (h : mdR I σ) : lsR I 223 32 σ.word := h.2.2.2.2.2.2.2.2.2.2.2.1
theorem mdR.tape {I : Nat → Nat → Int32} {σ : St} (h : mdR I σ) : lsR I 218 16 σ.tape := h.2.2.2.2.2.2.2.2.2.2.2.2.1
theorem mdR.fault {I : Nat → Nat → Int32} {σ : St} (h : mdR I σ) : I 209 17 = σ.fault := h.2.2.2.2.2.2.2.2.2.2.2.2.2.1
theorem mdR.nmE {I : Nat → Nat → Int32} {σ : St} (h : mdR I σ) : ∀ j, j < 7 → I 219 j = nI (nmE.getD j 0) := h.2.2.2.2.2.2.2.2.2.2.2.2.2.2.1
theorem mdR.nmL {I : Nat → Nat → Int32} {σ : St} (h : mdR I σ) : ∀ j, j < 30 → I 220 j = nI (nmL.getD j 0) := h.2.2.2.2.2.2.2.2.2.2.2.2.2.2.2
/-- the rows that are the reference's -/
def mFr (I I' : Nat → Nat → Int32) : Prop := ∀ q, q < 209 ∨ 230 ≤ q → I' q = I q
theorem mFr.rf {I : Nat → Nat → Int32} : mFr I I := fun _ _ => rfl
theorem mFr.tr {I I1 I2 : Nat → Nat → Int32} (h1 : mFr I I1) (h2 : mFr I1 I2) : mFr I I2 := fun q hq => (h2 q hq).trans (h1 q hq)
theorem mFr.of {T : List Nat} {I I' : Nat → Nat → Int32} (h : Fr T I I') (hT : ∀ q ∈ T, 209 ≤ q ∧ q < 230) : mFr I I' := fun q hq => h q (fun z => by have := hT q z; omega)
/-- nothing that a state shows has changed -/
def mdF (I I' : Nat → Nat → Int32) : Prop := (∀ j, j ∈ [1, 2, 3, 10, 11, 12, 16, 17, 32] → I' 209 j = I 209 j) ∧ pgF [2, 31, 32] I I' ∧ ∀ q, q ∈ [215, 216, 218, 219, 220, 223, 225, 226, 227, 228, 229] → I' q = I q
theorem mdF.rf {I : Nat → Nat → Int32} : mdF I I := ⟨fun _ _ => rfl, pgF.rf, fun _ _ => rfl⟩
theorem mdF.tr {I I1 I2 : Nat → Nat → Int32} (h1 : mdF I I1) (h2 : mdF I1 I2) : mdF I I2 := ⟨fun j hj => (h2.1 j hj).trans (h1.1 j hj), h1.2.1.tr h2.2.1, fun q hq => (h2.2.2 q hq).trans (h1.2.2 q hq)⟩
theorem mdF.of {T : List Nat} {I I' : Nat → Nat → Int32} (h : Fr T I I') (hT : ∀ q, q ∈ [209, 210, 215, 216, 218, 219, 220, 223, 225, 226, 227, 228, 229] → q ∉ T) : mdF I I' := ⟨fun j _ => h.at 209 j (hT _ (by decide)), pgF.of h (hT _ (by decide)), fun q hq => h q (hT q (List.mem_cons_of_mem _ (List.mem_cons_of_mem _ hq)))⟩
theorem lsR.eq {I I' : Nat → Nat → Int32} {q n : Nat} {l : List Nat} (h : lsR I q n l) (h1 : I' 209 n = I 209 n) (h2 : I' q = I q) : lsR I' q n l := ⟨by rw [h1]; exact h.1, fun j hj => by rw [h2]; exact h.2 j hj⟩
theorem mKep.eq {I I' : Nat → Nat → Int32} {L k : Nat} {o : Option Tb} (h : mKep I L k o) (h1 : I' 225 = I 225) (h2 : I' 226 = I 226) (h3 : ∀ A, mRep I L (3 + k) A → mRep I' L (3 + k) A) (h4 : ∀ A, mRep I L (5 + k) A → mRep I' L (5 + k) A) : mKep I' L k o := by
  cases o with
  | none => show I' 225 k = _; rw [h1]; exact h
  | some τ =>
    obtain ⟨a1, a2, a3, a4⟩ := h
    show I' 225 k = _ ∧ _
    rw [h1, h2]
    exact ⟨a1, h3 _ a2, fun q => h4 _ (a3 q), a4⟩
theorem mShf.eq {I I' : Nat → Nat → Int32} {L k : Nat} {o : Option Shf} (h : mShf I L k o) (hs : ∀ s, o = some s → s.size ≤ 8) (h1 : I' 227 k = I 227 k) (h2 : I' 228 k = I 228 k) (h3 : ∀ i, i < 8 → I' 229 (8 * k + i) = I 229 (8 * k + i)) (h4 : ∀ i A, i < 8 → mRep I L (7 + (8 * k + i)) A → mRep I' L (7 + (8 * k + i)) A) : mShf I' L k o := by
  cases o with
  | none => show I' 227 k = _; rw [h1]; exact h
  | some s =>
    obtain ⟨a1, a2, a3⟩ := h
    have h8 := hs s rfl
    refine ⟨by rw [h1]; exact a1, by rw [h2]; exact a2, fun i hi => ?_⟩
    have := a3 i hi
    revert this
    split
    · intro z; rw [h3 i (by omega)]; exact z
    · intro z; exact ⟨by rw [h3 i (by omega)]; exact z.1, h4 i _ (by omega) z.2⟩
theorem mdR.eq {I I' : Nat → Nat → Int32} {σ : St} (h : mdR I σ) (hf : mdF I I') : mdR I' σ := by
  obtain ⟨f1, f2, f3⟩ := hf
  have hL := h.ok.L3
  have pg : ∀ {m A}, m ∉ [2, 31, 32] → mRep I σ.L m A → mRep I' σ.L m A := fun hm hA => hA.pg f2 hm hL
  refine ⟨h.ok, by rw [f1 1 (by decide)]; exact h.c1, by rw [f1 2 (by decide)]; exact h.c2, pg (by decide) h.A, by rw [f1 3 (by decide)]; exact h.g, fun q => pg (by decide) (h.G q), h.P.eq (f1 10 (by decide)) (f3 _ (by decide)), h.S.eq (f1 11 (by decide)) (f3 _ (by decide)), by rw [f1 12 (by decide)]; exact h.r, fun k hk => (h.kept k hk).eq (f3 _ (by decide)) (f3 _ (by decide)) (fun A => pg (by simp; omega)) (fun A => pg (by simp; omega)), fun k hk => (h.shf k hk).eq (fun s e => (h.ok.shf k s e).2.1) (by rw [f3 227 (by decide)]) (by rw [f3 228 (by decide)]) (fun i _ => by rw [f3 229 (by decide)]) (fun i A hi => pg (by simp; omega)), h.word.eq (f1 32 (by decide)) (f3 _ (by decide)), h.tape.eq (f1 16 (by decide)) (f3 _ (by decide)), by rw [f1 17 (by decide)]; exact h.fault, fun j hj => by rw [f3 219 (by decide)]; exact h.nmE j hj, fun j hj => by rw [f3 220 (by decide)]; exact h.nmL j hj⟩
theorem mdR.ctx {I : Nat → Nat → Int32} {σ : St} (h : mdR I σ) : mCtx I σ.p σ.L := ⟨h.c1, h.c2, h.ok.p, h.ok.L1, h.ok.L3⟩
theorem mdR.tab {I : Nat → Nat → Int32} {σ : St} (h : mdR I σ) : mTab I σ.t.P σ.t.S := by
  obtain ⟨-, -, -, -, -, -, -, -, h4, h42⟩ := h.ok.t
  exact ⟨h.P.1, h.S.1, h4, by omega, h.P.2, h.S.2⟩
section MODL
variable {sh : List xSh} {I : Nat → Nat → Int32} {R : Nat → Nat → Option Nat}
theorem lN0 : (lN 0).toInt = 0 := by decide
/-- within 0 and a number below another -/
theorem w_inB {v : Int32} {c : Int64} {n : Nat} {Q : Int32 → xHp → Prop} (hW : xLay sh R) (hc : c.toInt = (n : Int) - 1) (hn : n ≤ 2 ^ 31) (k1 : ∀ a, v = nI a → a < n → Q (nI 1) (sh, I, R)) (k0 : ¬ inB v n → Q (nI 0) (sh, I, R)) : CI mX10_in [.long v.toInt64, .long (lN 0), .long c] (sh, I, R) Q := by
  have e : v.toInt64.toInt = v.toInt := Int32.toInt_toInt64 v
  refine w_in hW (fun h => ?_) (fun h => k0 (fun q => h ?_))
  · rw [lN0, e, hc] at h
    exact k1 (nN v) (nI_N h.1).symm (by unfold nN; omega)
  · rw [lN0, e, hc]; unfold inB at q; omega
theorem nI64 {n : Nat} (h : n < 2 ^ 31) : ((nI n).toInt64).toInt = (n : Int) := by rw [Int32.toInt_toInt64, nI_toInt h]
theorem nI64m {n : Nat} (h : n < 2 ^ 31) : ((nI n - nI 1).toInt64).toInt = (n : Int) - 1 := by
  rw [Int32.toInt_toInt64]
  cases n with
  | zero => decide
  | succ n => rw [pk_sub (by omega), nI_toInt (by omega)]; omega
end MODL
