section EVT
variable {sh : List xSh} {I : Nat → Nat → Int32} {R : Nat → Nat → Option Nat}
variable {Y : xM} {pc : Nat} {lv st : List Value} {mc ms : Nat} {Q : Option Value → xHp → Prop}
/-- a new array, put into a field of q -/
def evA (sh : List xSh) (I : Nat → Nat → Int32) (R : Nat → Nat → Option Nat) (q k : Nat) (s : xSh) (sh' : List xSh) (I' : Nat → Nat → Int32) (R' : Nat → Nat → Option Nat) : Prop :=
  sh' = sh ++ [s] ∧ (∀ a, a ≠ sh.length → a ≠ q → I' a = I a ∧ R' a = R a) ∧ (∀ j, I' q j = I q j) ∧ (∀ j, j ≠ k → R' q j = R q j) ∧ R' q k = some sh.length ∧ (∀ j, I' sh.length j = 0) ∧ ∀ j, R' sh.length j = none
theorem evA.S {q k : Nat} {s : xSh} {sh' : List xSh} {I' : Nat → Nat → Int32} {R' : Nat → Nat → Option Nat} (h : evA sh I R q k s sh' I' R') : gS sh sh' := by rw [h.1]; exact push_S
theorem evA.at {q k : Nat} {s : xSh} {sh' : List xSh} {I' : Nat → Nat → Int32} {R' : Nat → Nat → Option Nat} (h : evA sh I R q k s sh' I' R') : sh'[sh.length]? = some s := by rw [h.1]; exact push_at
theorem evA.len {q k : Nat} {s : xSh} {sh' : List xSh} {I' : Nat → Nat → Int32} {R' : Nat → Nat → Option Nat} (h : evA sh I R q k s sh' I' R') : sh'.length = sh.length + 1 := by rw [h.1, List.length_append]; rfl
theorem evA_of {q k : Nat} {s : xSh} {sh' : List xSh} {I' : Nat → Nat → Int32} {R' : Nat → Nat → Option Nat} (hq : q < sh.length) (h : pS sh I R s sh' I' R') : evA sh I R q k s sh' I' (xr R' q k (some sh.length)) :=
  ⟨h.1, fun a h1 h2 => ⟨(h.2.1 a h1).1, by funext j; rw [xr_p h2, (h.2.1 a h1).2]⟩, fun j => by rw [(h.2.1 q (by omega)).1], fun j hj => by rw [xr_s hj, (h.2.1 q (by omega)).2], xr_e, h.2.2.1, fun j => by rw [xr_p (by omega)]; exact h.2.2.2 j⟩
theorem ev_arr {at9 : ArrayType} {t N idx ci k q : Nat} {n : Int32} (hd1 : decode Y.2.1 pc = .ok (.newarray at9, 2)) (hd2 : decode Y.2.1 (pc + 2) = .ok (.putfield idx, 3)) (ht : xat at9 t) (hk : Cond.arrayClass (newarray.typeOf at9) ∈ xtbl) (hn : n = nI N) (hN : N ≤ 100000) (hF : xF Y.1.cls idx ci k) (hP : xP Y ci k) (hty : xref (xft ci k) = true) (hq : sh[q]? = some (.inl ci)) (hl : sh.length < 1000000)
    (kk : ∀ sh' I' R', evA sh I R q k (.inr (t, N)) sh' I' R' → Ex Y (pc + 5) lv st (sh', I', R') mc ms Q) : Ex Y pc lv (.int n :: .ref q :: st) (sh, I, R) (mc + 1) (ms + N) Q := by
  subst hn
  obtain ⟨sh', I', R', e, hp⟩ := pS_push (sh := sh) (I := I) (R := R) (s := .inr (t, N))
  refine xw_newarray (h := (sh, I, R)) hd1 ht hk (nI_neg0 (by omega)) (nclamp (by omega)) hN hl ?_
  rw [e]
  exact yw_putR hd2 hF hP hty (hp.S _ _ hq) hp.at (kk sh' I' _ (evA_of (lt_of hq) hp))
theorem ev_art {idx0 ci0 t N idx ci k q : Nat} {n : Int32} {r : vw_C} (hd1 : decode Y.2.1 pc = .ok (.anewarray idx0, 3)) (hd2 : decode Y.2.1 (pc + 3) = .ok (.putfield idx, 3)) (ht : xcomp t ci0) (hc : xcl[ci0]? = some r) (hl1 : Cond.classLink Y.1.cls idx0 r.1 ∈ xtbl) (hn : n = nI N) (hN : N ≤ 100000) (hF : xF Y.1.cls idx ci k) (hP : xP Y ci k) (hty : xref (xft ci k) = true) (hq : sh[q]? = some (.inl ci)) (hl : sh.length < 1000000)
    (kk : ∀ sh' I' R', evA sh I R q k (.inr (t, N)) sh' I' R' → Ex Y (pc + 6) lv st (sh', I', R') mc ms Q) : Ex Y pc lv (.int n :: .ref q :: st) (sh, I, R) (mc + 1) (ms + N) Q := by
  subst hn
  obtain ⟨sh', I', R', e, hp⟩ := pS_push (sh := sh) (I := I) (R := R) (s := .inr (t, N))
  refine xw_anewarray (h := (sh, I, R)) hd1 ht hc hl1 (nI_neg0 (by omega)) (nclamp (by omega)) hN hl ?_
  rw [e]
  exact yw_putR hd2 hF hP hty (hp.S _ _ hq) hp.at (kk sh' I' _ (evA_of (lt_of hq) hp))
/-- rows, put into a field of q -/
def evM (sh : List xSh) (I : Nat → Nat → Int32) (R : Nat → Nat → Option Nat) (q k N K : Nat) (sh' : List xSh) (I' : Nat → Nat → Int32) (R' : Nat → Nat → Option Nat) : Prop :=
  gS sh sh' ∧ sh'.length = sh.length + 1 + N ∧ (∀ a, a < sh.length → a ≠ q → I' a = I a ∧ R' a = R a) ∧ (∀ j, I' q j = I q j) ∧ (∀ j, j ≠ k → R' q j = R q j) ∧ R' q k = some sh.length ∧ (∀ a, sh.length ≤ a → ∀ j, I' a j = 0) ∧ xRows sh' R' sh.length N K
theorem ev_mul {idx0 N K idx ci k q : Nat} {n m : Int32} (hd1 : decode Y.2.1 pc = .ok (.multianewarray idx0 2, 4)) (hd2 : decode Y.2.1 (pc + 4) = .ok (.putfield idx, 3)) (hl1 : Cond.classLink Y.1.cls idx0 "[[I" ∈ xtbl) (hn : n = nI N) (hm : m = nI K) (hN : N ≤ 1000) (hK : K ≤ 1000) (hF : xF Y.1.cls idx ci k) (hP : xP Y ci k) (hty : xref (xft ci k) = true) (hq : sh[q]? = some (.inl ci)) (hl : sh.length + 1 + N < 1000000)
    (kk : ∀ sh' I' R', evM sh I R q k N K sh' I' R' → Ex Y (pc + 7) lv st (sh', I', R') mc ms Q) : Ex Y pc lv (.int m :: .int n :: .ref q :: st) (sh, I, R) (mc + (1 + N)) (ms + (N + N * K)) Q := by
  subst hn
  subst hm
  have hlq := lt_of hq
  refine xw_multi (h := (sh, I, R)) hd1 hl1 k_arrI (nI_neg0 (by omega)) (nI_neg0 (by omega)) (nclamp (by omega)) (nclamp (by omega)) ⟨by omega, by omega⟩ hl ?_
  have e : xmulti (sh, I, R) N K = (sh ++ .inr (3, N) :: List.replicate N (.inr (0, K)), (fun a => if sh.length ≤ a then (fun _ => 0) else I a), (fun a => if a = sh.length then (fun j => if j < N then some (sh.length + 1 + j) else none) else if sh.length ≤ a then (fun _ => none) else R a)) := rfl
  rw [e]
  generalize hs : sh ++ .inr (3, N) :: List.replicate N (.inr (0, K)) = sh'
  generalize hI : (fun a => if sh.length ≤ a then (fun _ => (0 : Int32)) else I a) = I'
  generalize hR : (fun a => if a = sh.length then (fun j => if j < N then some (sh.length + 1 + j) else none) else if sh.length ≤ a then (fun _ => none) else R a) = R'
  have gs : gS sh sh' := fun a s h => by rw [← hs, List.getElem?_append_left (lt_of h)]; exact h
  have h0 : sh'[sh.length]? = some (.inr (3, N)) := by rw [← hs]; simp
  have oi : ∀ a, a < sh.length → I' a = I a := fun a ha => by rw [← hI]; exact if_neg (by omega)
  have orr : ∀ a, a < sh.length → R' a = R a := fun a ha => by rw [← hR]; show (if a = sh.length then _ else _) = _; rw [if_neg (by omega), if_neg (by omega)]
  refine yw_putR hd2 hF hP hty (gs _ _ hq) h0 (kk sh' I' _ ⟨gs, ?_, fun a h1 h2 => ⟨oi a h1, by funext j; rw [xr_p h2, orr a h1]⟩, fun j => by rw [oi q hlq], fun j hj => by rw [xr_s hj, orr q hlq], xr_e, fun a ha j => ?_, h0, fun j hj => ⟨?_, ?_⟩⟩)
  · rw [← hs, List.length_append, List.length_cons, List.length_replicate]; omega
  · rw [← hI]; exact congrFun (if_pos ha) j
  · rw [xr_p (by omega), ← hR]; exact (congrFun (if_pos rfl) j).trans (if_pos hj)
  · rw [← hs, List.getElem?_append_right (by omega), show sh.length + 1 + j - sh.length = j + 1 by omega, List.getElem?_cons_succ, List.getElem?_replicate, if_pos hj]
end EVT
