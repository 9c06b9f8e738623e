/-! THE LAW: its locals, its end, what a step needs -/
/-- the law's locals at a step -/
abbrev lwL (i : Nat) : List Value := [.ref 1000000, .ref 0, .ref 209, .int (nI i)]
/-- what the law answers -/
def lwQ (w : Int32) (_ : xHp) : Prop := w = 1
/-- how a step goes on behind its comparison -/
def lwN (L : Nat) (xs : Nat → Int32) (i : Nat) (sh : List xSh) (mc ms : Nat) : Prop := ∀ (sh' : List xSh) (I' : Nat → Nat → Int32) (R' : Nat → Nat → Option Nat) (τ : St), clR sh' I' R' τ → mdR I' τ → sh'.length ≤ sh.length + 4 → Ex (mL_law L xs) 1269 (lwL i) [] (sh', I', R') mc ms (xqI lwQ)
theorem lw_in {i k L : Nat} (h : i + k < L) (hL : L ≤ 2560) : vp_in (nI i + nI k) L := by rw [nI_add]; exact vp_nI h (by omega)
