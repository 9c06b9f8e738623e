/-! HEAP RULES -/
def xuA (h : xHp) (q : Nat) (f : Nat → Int32) : xHp := (h.1, fun a => if a = q then f else h.2.1 a, h.2.2)
def xuI (h : xHp) (q k : Nat) (v : Int32) : xHp := xuA h q (upd (h.2.1 q) k v)
def xuR (h : xHp) (q k : Nat) (r : Option Nat) : xHp := (h.1, h.2.1, fun a => if a = q then va_up (h.2.2 q) k r else h.2.2 a)
theorem xE_congr {dA : Nat → ClassId} {ad ad' : Nat → Nat} {h h' : xHp} {k : Nat} (sh : xSh) (h1 : h'.2.1 k = h.2.1 k) (h2 : ∀ j, (h'.2.2 k j).map ad' = (h.2.2 k j).map ad) : xE dA ad' h' k sh = xE dA ad h k sh := by
  cases sh with
  | inl ci => simp only [xE]; congr 3; funext j; simp only [xfd, h1, h2]
  | inr t => obtain ⟨t, n⟩ := t; simp only [xE, h1, h2]
theorem xE_i {dA : Nat → ClassId} {ad : Nat → Nat} {h : xHp} {k t n : Nat} (ht : t < 3) : xE dA ad h k (.inr (t, n)) = .inl (dA t, n, .inl (h.2.1 k)) := by simp [xE, ht]
theorem xE_r {dA : Nat → ClassId} {ad : Nat → Nat} {h : xHp} {k t n : Nat} (ht : ¬ t < 3) : xE dA ad h k (.inr (t, n)) = .inl (dA t, n, .inr (.inr (.inr (.inr (fun j => (h.2.2 k j).map ad))))) := by simp [xE, ht]
theorem xW_set {dA : Nat → ClassId} {ad : Nat → Nat} {h h' : xHp} {q : Nat} {sh : xSh} (hq : h.1[q]? = some sh) (h0 : h'.1 = h.1) (h1 : ∀ a, a ≠ q → h'.2.1 a = h.2.1 a) (h2 : ∀ a, a ≠ q → h'.2.2 a = h.2.2 a) : xW dA ad h' = (xW dA ad h).set q (ad q, xE dA ad h' q sh) := by
  apply List.ext_getElem?
  intro k
  unfold xW
  rw [h0, List.getElem?_mapIdx]
  by_cases hk : k = q
  · subst hk
    have hlt : k < (h.1.mapIdx (fun k sh => (ad k, xE dA ad h k sh))).length := by
      rw [List.length_mapIdx]; exact (List.getElem?_eq_some_iff.mp hq).1
    rw [List.getElem?_set_self hlt, hq]
    rfl
  · rw [List.getElem?_set_ne (Ne.symm hk), List.getElem?_mapIdx]
    cases h.1[k]? with
    | none => rfl
    | some s2 =>
      show some (ad k, xE dA ad h' k s2) = some (ad k, xE dA ad h k s2)
      rw [xE_congr (ad := ad) (ad' := ad) s2 (h1 k hk) (fun j => by rw [h2 k hk])]
theorem xN_of {ci : Nat} {r : vw_C} (h : xcl[ci]? = some r) : xN ci = r.2.2 := by unfold xN; rw [h]
theorem xobj_at {ad : Nat → Nat} {h : xHp} {q ci k : Nat} {r : vw_C} (hc : xcl[ci]? = some r) (hk : k < r.2.2) : ((List.range (xN ci)).map (xfd ad h q ci))[k]? = some (xfd ad h q ci k) := by
  rw [xN_of hc, List.getElem?_map, List.getElem?_range hk]; rfl
theorem xobj_set {ad : Nat → Nat} {h h' : xHp} {q ci k N : Nat} {v : Value} (hv : xfd ad h' q ci k = v) (ho : ∀ j, j ≠ k → xfd ad h' q ci j = xfd ad h q ci j) : ((List.range N).map (xfd ad h q ci)).set k v = (List.range N).map (xfd ad h' q ci) := by
  apply List.ext_getElem?
  intro j
  by_cases hj : j = k
  · subst hj
    by_cases hl : j < N
    · rw [List.getElem?_set_self (by simpa using hl), List.getElem?_map, List.getElem?_range hl]; simp [hv]
    · rw [List.getElem?_eq_none (by simpa using Nat.le_of_not_lt hl), List.getElem?_eq_none (by simpa using Nat.le_of_not_lt hl)]
  · rw [List.getElem?_set_ne (Ne.symm hj), List.getElem?_map, List.getElem?_map]
    by_cases hl : j < N
    · rw [List.getElem?_range hl]; simp [ho j hj]
    · rw [List.getElem?_eq_none (by simpa using Nat.le_of_not_lt hl)]; rfl
/-- a field by its place in the class file of 'own' -/
def xF (own : String) (idx ci k : Nat) : Prop := ∃ r : vw_C, xcl[ci]? = some r ∧ k < r.2.2 ∧ Cond.fieldLink own idx (r.2.1 k).1 (r.2.1 k).2.1 (r.2.1 k).2.2.1 ∈ xtbl
/-- it may be written there -/
def xP (Y : xM) (ci k : Nat) : Prop := ∀ r : vw_C, xcl[ci]? = some r → ((r.2.1 k).2.2.2 = false ∨ ((r.2.1 k).2.2.2 = true ∧ Y.1.name = "<init>" ∧ (r.2.1 k).1 = Y.1.cls))
def xfit (ty : FieldType) (v : Int32) : Prop := narrow ty (.int v) = .int v ∧ fits ty (.int v) = true
theorem xfit_int {v : Int32} : xfit .int v := ⟨rfl, by simp [fits]⟩
theorem xfit_bool {v : Int32} (h : v = 0 ∨ v = 1) : xfit .boolean v := by rcases h with rfl | rfl <;> exact ⟨by decide, by decide⟩
section XR2
variable {Y : xM} {pc : Nat} {lv st : List Value} {h : xHp} {mc ms : Nat} {Q : Option Value → xHp → Prop}
theorem xlen {h : xHp} {q : Nat} {sh : xSh} (hq : h.1[q]? = some sh) : q < h.1.length := (List.getElem?_eq_some_iff.mp hq).1
theorem xw_get {idx ci k q : Nat} {v : Value} (hd : decode Y.2.1 pc = .ok (.getfield idx, 3)) (hF : xF Y.1.cls idx ci k) (hq : h.1[q]? = some (.inl ci)) (hv : ∀ ad, xfd ad h q ci k = xval ad v) (hok : xwf h → xvok h.1.length v) (kk : Ex Y (pc + 3) lv (v :: st) h mc ms Q) : Ex Y pc lv (.ref q :: st) h mc ms Q := by
  intro p l e R s m args below meth c dC dI dA ad A H locs cells slots Qw ls hC hH h1 h2 h3 h4 h5 h6
  obtain ⟨r, hc, hk, hl⟩ := hF
  obtain ⟨hx, hb, hml, hown, hts, hr, hlk, hnm, hfr, hlo, hG, hX⟩ := id hC
  refine va_get (D := (dC, dI)) (cl := xcl) (C := r.1) (T := r.2.1) (N := r.2.2) (ci := ci) (index := idx) (ref := (r.2.1 k).1) hx hb hts (xc_in ci r hc) hown hG.1 hH.1 q (xW_at hq) hc k hk (hts _ hl) (fun _ h9 => h9) (xobj_at hc hk) hd ?_
  rw [hv ad]
  exact kk p l e R s m args below meth c dC dI dA ad A H locs cells slots Qw ls hC hH h1 (xvs_cons.mpr ⟨hok hH.2.2.2, (xvs_cons.mp h2).2⟩) h3 h4 h5 h6
theorem xw_getI {idx ci k q : Nat} (hd : decode Y.2.1 pc = .ok (.getfield idx, 3)) (hF : xF Y.1.cls idx ci k) (hty : xref (xft ci k) = false) (hq : h.1[q]? = some (.inl ci)) (kk : Ex Y (pc + 3) lv (.int (h.2.1 q k) :: st) h mc ms Q) : Ex Y pc lv (.ref q :: st) h mc ms Q :=
  xw_get hd hF hq (fun ad => by unfold xfd; rw [if_neg (by rw [hty]; decide)]; rfl) (fun _ => xvok_int) kk
theorem xw_getR {idx ci k q r : Nat} (hd : decode Y.2.1 pc = .ok (.getfield idx, 3)) (hF : xF Y.1.cls idx ci k) (hty : xref (xft ci k) = true) (hq : h.1[q]? = some (.inl ci)) (hr : h.2.2 q k = some r) (kk : Ex Y (pc + 3) lv (.ref r :: st) h mc ms Q) : Ex Y pc lv (.ref q :: st) h mc ms Q :=
  xw_get hd hF hq (fun ad => by unfold xfd; rw [if_pos hty, hr]; rfl) (fun hw => xvok_ref.mpr (Or.inl (hw.2 q k r (xlen hq) hr))) kk
theorem xw_getN {idx ci k q : Nat} (hd : decode Y.2.1 pc = .ok (.getfield idx, 3)) (hF : xF Y.1.cls idx ci k) (hty : xref (xft ci k) = true) (hq : h.1[q]? = some (.inl ci)) (hr : h.2.2 q k = none) (kk : Ex Y (pc + 3) lv (.null :: st) h mc ms Q) : Ex Y pc lv (.ref q :: st) h mc ms Q :=
  xw_get hd hF hq (fun ad => by unfold xfd; rw [if_pos hty, hr]; rfl) (fun _ => xvok_null) kk
theorem xw_put {idx ci k q : Nat} {v : Value} {h' : xHp} (hd : decode Y.2.1 pc = .ok (.putfield idx, 3)) (hF : xF Y.1.cls idx ci k) (hP : xP Y ci k) (hq : h.1[q]? = some (.inl ci)) (hn : ∀ ad, narrow (xft ci k) (xval ad v) = xval ad v) (hfit : ∀ ad, fits (xft ci k) (xval ad v) = true)
    (e0 : h'.1 = h.1) (e1 : ∀ a, a ≠ q → h'.2.1 a = h.2.1 a) (e2 : ∀ a, a ≠ q → h'.2.2 a = h.2.2 a) (e3 : ∀ ad, xfd ad h' q ci k = xval ad v) (e4 : ∀ ad j, j ≠ k → xfd ad h' q ci j = xfd ad h q ci j) (e5 : xwf h → xvok h.1.length v → xwf h')
    (kk : Ex Y (pc + 3) lv st h' mc ms Q) : Ex Y pc lv (v :: .ref q :: st) h mc ms Q := by
  intro p l e R s m args below meth c dC dI dA ad A H locs cells slots Qw ls hC hH h1 h2 h3 h4 h5 h6
  obtain ⟨r, hc, hk, hl⟩ := hF
  obtain ⟨hx, hb, hml, hown, hts, hr, hlk, hnm, hfr, hlo, hG, hX⟩ := id hC
  have hfl : k < ((List.range (xN ci)).map (xfd ad h q ci)).length := by rw [xN_of hc]; simpa using hk
  have key : ∀ (H1 : Heap) (locs1 : List Loc), va_P (dC, dI) xcl ((xW dA ad h).set q (ad q, .inr (ci, ((List.range (xN ci)).map (xfd ad h q ci)).set k (xval ad v)))) H1 → va_D A ((xW dA ad h).set q (ad q, .inr (ci, ((List.range (xN ci)).map (xfd ad h q ci)).set k (xval ad v)))) → va_S A s.heap H1 locs1 → W p l e R s m args below meth c H1 locs1 cells slots Qw (F0 m (pc + 3) ls (st.map (xval ad))) := by
    intro H1 locs1 g1 g2 g3
    have hw : (xW dA ad h).set q (ad q, .inr (ci, ((List.range (xN ci)).map (xfd ad h q ci)).set k (xval ad v))) = xW dA ad h' := by
      rw [xW_set hq e0 e1 e2, xobj_set (e3 ad) (e4 ad)]; rfl
    rw [hw] at g1 g2
    refine kk p l e R s m args below meth c dC dI dA ad A H1 locs1 cells slots Qw ls hC ⟨g1, g2, g3, e5 hH.2.2.2 (xvs_cons.mp h2).1⟩ (by rw [e0]; exact h1) (by rw [e0]; exact (xvs_cons.mp (xvs_cons.mp h2).2).2) h3 h4 h5 (by rw [e0]; exact h6)
  rcases hP r hc with hf | ⟨hf, hin, hdc⟩
  · exact va_put (D := (dC, dI)) (cl := xcl) (C := r.1) (T := r.2.1) (N := r.2.2) (ci := ci) (index := idx) (ref := (r.2.1 k).1) (v := xval ad v) (ty := xft ci k) hx hb hts (xc_in ci r hc) (xft ci) (xc_ty ci r hc) (xc_nm ci r hc) hown hG.1 hH.1 hH.2.1 hH.2.2.1 q (xW_at hq) hc k hk (hts _ hl) (fun _ h9 => h9) hf (xc_ty ci r hc k hk) (hn ad) (hfit ad) hfl hd key
  · exact va_putF (D := (dC, dI)) (cl := xcl) (C := r.1) (T := r.2.1) (N := r.2.2) (ci := ci) (index := idx) (ref := (r.2.1 k).1) (v := xval ad v) (ty := xft ci k) hx hb hts (xc_in ci r hc) (xft ci) (xc_ty ci r hc) (xc_nm ci r hc) hown hG.1 hH.1 hH.2.1 hH.2.2.1 q (xW_at hq) hc k hk (hts _ hl) (fun _ h9 => h9) hf (hnm.trans hin) hdc (xc_ty ci r hc k hk) (hn ad) (hfit ad) hfl hd key
theorem xw_putI {idx ci k q : Nat} {v : Int32} (hd : decode Y.2.1 pc = .ok (.putfield idx, 3)) (hF : xF Y.1.cls idx ci k) (hP : xP Y ci k) (hty : xref (xft ci k) = false) (hfit : xfit (xft ci k) v) (hq : h.1[q]? = some (.inl ci)) (kk : Ex Y (pc + 3) lv st (xuI h q k v) mc ms Q) : Ex Y pc lv (.int v :: .ref q :: st) h mc ms Q := by
  refine xw_put (h' := xuI h q k v) hd hF hP hq (fun ad => hfit.1) (fun ad => hfit.2) rfl (fun a ha => if_neg ha) (fun a _ => rfl) (fun ad => ?_) (fun ad j hj => ?_) (fun hw _ => hw) kk
  · unfold xfd; rw [if_neg (by rw [hty]; decide)]; simp [xuI, xuA, upd, xval]
  · unfold xfd; simp [xuI, xuA, upd, hj]
theorem fits_ref {ty : FieldType} (h : xref ty = true) (a : Nat) : narrow ty (.ref a) = .ref a ∧ fits ty (.ref a) = true ∧ narrow ty .null = .null ∧ fits ty .null = true := by
  cases ty <;> simp [xref] at h <;> simp [narrow, fits]
theorem xw_putR {idx ci k q r : Nat} (hd : decode Y.2.1 pc = .ok (.putfield idx, 3)) (hF : xF Y.1.cls idx ci k) (hP : xP Y ci k) (hty : xref (xft ci k) = true) (hq : h.1[q]? = some (.inl ci)) (hr : r < h.1.length) (kk : Ex Y (pc + 3) lv st (xuR h q k (some r)) mc ms Q) : Ex Y pc lv (.ref r :: .ref q :: st) h mc ms Q := by
  refine xw_put (h' := xuR h q k (some r)) hd hF hP hq (fun ad => (fits_ref hty _).1) (fun ad => (fits_ref hty _).2.1) rfl (fun a _ => rfl) (fun a ha => if_neg ha) (fun ad => ?_) (fun ad j hj => ?_) (fun hw _ => ⟨hw.1, fun a j x ha hx => ?_⟩) kk
  · unfold xfd; rw [if_pos hty]; simp [xuR, va_up, xval, va_rf]
  · unfold xfd; simp [xuR, va_up, hj]
  · by_cases h1 : a = q
    · subst h1
      by_cases h2 : j = k
      · subst h2
        simp [xuR, va_up] at hx
        subst hx
        exact hr
      · simp [xuR, va_up, h2] at hx
        exact hw.2 a j x ha hx
    · simp [xuR, h1] at hx
      exact hw.2 a j x ha hx
/-! arrays -/
theorem xw_alen {t n q : Nat} (hd : decode Y.2.1 pc = .ok (.arraylength, 1)) (hq : h.1[q]? = some (.inr (t, n))) (ht : t < 7) (kk : Ex Y (pc + 1) lv (.int (nI n) :: st) h mc ms Q) : Ex Y pc lv (.ref q :: st) h mc ms Q := by
  intro p l e R s m args below meth c dC dI dA ad A H locs cells slots Qw ls hC hH h1 h2 h3 h4 h5 h6
  obtain ⟨hx, hb, hml, hown, hts, hr, hlk, hnm, hfr, hlo, hG, hX⟩ := id hC
  obtain ⟨ty, hty⟩ : ∃ ty, (xtys dA)[t]? = some (dA t, ty) := by
    match t, ht with
    | 0, _ => exact ⟨_, rfl⟩
    | 1, _ => exact ⟨_, rfl⟩
    | 2, _ => exact ⟨_, rfl⟩
    | 3, _ => exact ⟨_, rfl⟩
    | 4, _ => exact ⟨_, rfl⟩
    | 5, _ => exact ⟨_, rfl⟩
    | 6, _ => exact ⟨_, rfl⟩
    | t + 7, ht => omega
  exact va_alen hx hb hG.1 hH.1 q t (xW_at hq) hty rfl hd (kk p l e R s m args below meth c dC dI dA ad A H locs cells slots Qw ls hC hH h1 (xvs_cons.mpr ⟨xvok_int, (xvs_cons.mp h2).2⟩) h3 h4 h5 h6)
theorem xw_iaload {n q : Nat} {i : Int32} (hd : decode Y.2.1 pc = .ok (.iaload, 1)) (hq : h.1[q]? = some (.inr (0, n))) (hin : vp_in i n) (kk : Ex Y (pc + 1) lv (.int (h.2.1 q i.toNatClampNeg) :: st) h mc ms Q) : Ex Y pc lv (.int i :: .ref q :: st) h mc ms Q := by
  intro p l e R s m args below meth c dC dI dA ad A H locs cells slots Qw ls hC hH h1 h2 h3 h4 h5 h6
  exact va_iald hC.1 hC.2.1 hC.2.2.2.2.2.2.2.2.2.2.1.1 hH.1 q 0 ((xW_at hq).trans (by rw [xE_i (by decide)])) rfl hin hd (kk p l e R s m args below meth c dC dI dA ad A H locs cells slots Qw ls hC hH h1 (xvs_cons.mpr ⟨xvok_int, (xvs_cons.mp (xvs_cons.mp h2).2).2⟩) h3 h4 h5 h6)
theorem xw_zaload {n q : Nat} {i : Int32} (hd : decode Y.2.1 pc = .ok (.baload, 1)) (hq : h.1[q]? = some (.inr (1, n))) (hin : vp_in i n) (kk : Ex Y (pc + 1) lv (.int (h.2.1 q i.toNatClampNeg) :: st) h mc ms Q) : Ex Y pc lv (.int i :: .ref q :: st) h mc ms Q := by
  intro p l e R s m args below meth c dC dI dA ad A H locs cells slots Qw ls hC hH h1 h2 h3 h4 h5 h6
  exact va_zald hC.1 hC.2.1 hC.2.2.2.2.2.2.2.2.2.2.1.1 hH.1 q 1 ((xW_at hq).trans (by rw [xE_i (by decide)])) rfl hin hd (kk p l e R s m args below meth c dC dI dA ad A H locs cells slots Qw ls hC hH h1 (xvs_cons.mpr ⟨xvok_int, (xvs_cons.mp (xvs_cons.mp h2).2).2⟩) h3 h4 h5 h6)
theorem xw_baload {n q : Nat} {i : Int32} (hd : decode Y.2.1 pc = .ok (.baload, 1)) (hq : h.1[q]? = some (.inr (2, n))) (hin : vp_in i n) (kk : Ex Y (pc + 1) lv (.int (h.2.1 q i.toNatClampNeg) :: st) h mc ms Q) : Ex Y pc lv (.int i :: .ref q :: st) h mc ms Q := by
  intro p l e R s m args below meth c dC dI dA ad A H locs cells slots Qw ls hC hH h1 h2 h3 h4 h5 h6
  exact va_bald hC.1 hC.2.1 hC.2.2.2.2.2.2.2.2.2.2.1.1 hH.1 q 2 ((xW_at hq).trans (by rw [xE_i (by decide)])) rfl hin hd (kk p l e R s m args below meth c dC dI dA ad A H locs cells slots Qw ls hC hH h1 (xvs_cons.mpr ⟨xvok_int, (xvs_cons.mp (xvs_cons.mp h2).2).2⟩) h3 h4 h5 h6)
theorem xW_row {dA : Nat → ClassId} {ad : Nat → Nat} {h : xHp} {q t n : Nat} (f : Nat → Int32) (ht : t < 3) (hq : h.1[q]? = some (.inr (t, n))) : (xW dA ad h).set q (ad q, .inl (dA t, n, .inl f)) = xW dA ad (xuA h q f) := by
  rw [xW_set (h' := xuA h q f) hq rfl (fun a ha => if_neg ha) (fun a _ => rfl), xE_i ht]
  simp [xuA]
theorem xw_iastore {n q : Nat} {i x : Int32} (hd : decode Y.2.1 pc = .ok (.iastore, 1)) (hq : h.1[q]? = some (.inr (0, n))) (hin : vp_in i n) (kk : Ex Y (pc + 1) lv st (xuI h q i.toNatClampNeg x) mc ms Q) : Ex Y pc lv (.int x :: .int i :: .ref q :: st) h mc ms Q := by
  intro p l e R s m args below meth c dC dI dA ad A H locs cells slots Qw ls hC hH h1 h2 h3 h4 h5 h6
  refine va_iast hC.1 hC.2.1 hC.2.2.2.2.2.2.2.2.2.2.1.1 hH.1 hH.2.1 hH.2.2.1 q 0 ((xW_at hq).trans (by rw [xE_i (by decide)])) rfl hin hd (fun H1 locs1 g1 g2 g3 => ?_)
  rw [xW_row _ (by decide) hq] at g1 g2
  exact kk p l e R s m args below meth c dC dI dA ad A H1 locs1 cells slots Qw ls hC ⟨g1, g2, g3, hH.2.2.2⟩ h1 (xvs_cons.mp (xvs_cons.mp (xvs_cons.mp h2).2).2).2 h3 h4 h5 h6
theorem xw_bastore {n q : Nat} {i x : Int32} (hd : decode Y.2.1 pc = .ok (.bastore, 1)) (hq : h.1[q]? = some (.inr (2, n))) (hin : vp_in i n) (kk : Ex Y (pc + 1) lv st (xuI h q i.toNatClampNeg (vp_nar .byte x)) mc ms Q) : Ex Y pc lv (.int x :: .int i :: .ref q :: st) h mc ms Q := by
  intro p l e R s m args below meth c dC dI dA ad A H locs cells slots Qw ls hC hH h1 h2 h3 h4 h5 h6
  refine va_bast hC.1 hC.2.1 hC.2.2.2.2.2.2.2.2.2.2.1.1 hH.1 hH.2.1 hH.2.2.1 q 2 ((xW_at hq).trans (by rw [xE_i (by decide)])) rfl hin hd (fun H1 locs1 g1 g2 g3 => ?_)
  rw [xW_row _ (by decide) hq] at g1 g2
  exact kk p l e R s m args below meth c dC dI dA ad A H1 locs1 cells slots Qw ls hC ⟨g1, g2, g3, hH.2.2.2⟩ h1 (xvs_cons.mp (xvs_cons.mp (xvs_cons.mp h2).2).2).2 h3 h4 h5 h6
theorem xw_zastore {n q : Nat} {i x : Int32} (hd : decode Y.2.1 pc = .ok (.bastore, 1)) (hq : h.1[q]? = some (.inr (1, n))) (hin : vp_in i n) (kk : Ex Y (pc + 1) lv st (xuI h q i.toNatClampNeg (vp_nar .boolean x)) mc ms Q) : Ex Y pc lv (.int x :: .int i :: .ref q :: st) h mc ms Q := by
  intro p l e R s m args below meth c dC dI dA ad A H locs cells slots Qw ls hC hH h1 h2 h3 h4 h5 h6
  refine va_zast hC.1 hC.2.1 hC.2.2.2.2.2.2.2.2.2.2.1.1 hH.1 hH.2.1 hH.2.2.1 q 1 ((xW_at hq).trans (by rw [xE_i (by decide)])) rfl hin hd (fun H1 locs1 g1 g2 g3 => ?_)
  rw [xW_row _ (by decide) hq] at g1 g2
  exact kk p l e R s m args below meth c dC dI dA ad A H1 locs1 cells slots Qw ls hC ⟨g1, g2, g3, hH.2.2.2⟩ h1 (xvs_cons.mp (xvs_cons.mp (xvs_cons.mp h2).2).2).2 h3 h4 h5 h6
theorem xw_aaload0 {t n q : Nat} {i : Int32} (hd : decode Y.2.1 pc = .ok (.aaload, 1)) (hq : h.1[q]? = some (.inr (t, n))) (ht : 3 ≤ t ∧ t < 7) (hin : vp_in i n) (kk : Ex Y (pc + 1) lv (va_rf (h.2.2 q i.toNatClampNeg) :: st) h mc ms Q) : Ex Y pc lv (.int i :: .ref q :: st) h mc ms Q := by
  intro p l e R s m args below meth c dC dI dA ad A H locs cells slots Qw ls hC hH h1 h2 h3 h4 h5 h6
  obtain ⟨ty, hty, hrf⟩ : ∃ ty, (xtys dA)[t]? = some (dA t, ty) ∧ ty.isReference = true := by
    match t, ht with
    | 3, _ => exact ⟨_, rfl, rfl⟩
    | 4, _ => exact ⟨_, rfl, rfl⟩
    | 5, _ => exact ⟨_, rfl, rfl⟩
    | 6, _ => exact ⟨_, rfl, rfl⟩
    | 0, ht => omega
    | 1, ht => omega
    | 2, ht => omega
    | t + 7, ht => omega
  have hlt : i.toNatClampNeg < n := Nat.not_le.mp fun q => hin (Or.inr q)
  have hk := kk p l e R s m args below meth c dC dI dA ad A H locs cells slots Qw ls hC hH h1 (xvs_cons.mpr ⟨xvok_rf fun k hk => Or.inl (hH.2.2.2.2 q _ k (xlen hq) hk), (xvs_cons.mp (xvs_cons.mp h2).2).2⟩) h3 h4 h5 h6
  have ha : (xW dA ad h)[q]? = some (ad q, .inl (dA t, n, .inr (.inr (.inr (.inr (fun j => (h.2.2 q j).map ad)))))) := (xW_at hq).trans (by rw [xE_r (by omega)])
  simp only [List.map_cons, xval_rf] at hk
  exact W.aald (v := va_rf ((h.2.2 q i.toNatClampNeg).map ad)) (ty := ty) hC.1 hC.2.1 (hH.1 q _ ha) ((hC.2.2.2.2.2.2.2.2.2.2.1.1.2 t _ hty).1 n (fun j => va_rf ((h.2.2 q j).map ad))) hrf (fun q => by cases q) (by show ¬ (i < 0 ∨ (arrV _ _ _).slots.size ≤ _); rw [arrV_size]; exact hin) (by show (arrV _ _ _).slots[_]? = _; rw [arrV_read _ _ hlt]) rfl rfl hd hk
theorem xw_aaload {t n q r : Nat} {i : Int32} (hd : decode Y.2.1 pc = .ok (.aaload, 1)) (hq : h.1[q]? = some (.inr (t, n))) (ht : 3 ≤ t ∧ t < 7) (hin : vp_in i n) (hr : h.2.2 q i.toNatClampNeg = some r) (kk : Ex Y (pc + 1) lv (.ref r :: st) h mc ms Q) : Ex Y pc lv (.int i :: .ref q :: st) h mc ms Q := xw_aaload0 hd hq ht hin (by rw [hr]; exact kk)
theorem xw_aaloadN {t n q : Nat} {i : Int32} (hd : decode Y.2.1 pc = .ok (.aaload, 1)) (hq : h.1[q]? = some (.inr (t, n))) (ht : 3 ≤ t ∧ t < 7) (hin : vp_in i n) (hr : h.2.2 q i.toNatClampNeg = none) (kk : Ex Y (pc + 1) lv (.null :: st) h mc ms Q) : Ex Y pc lv (.int i :: .ref q :: st) h mc ms Q := xw_aaload0 hd hq ht hin (by rw [hr]; exact kk)
/-- which class an array of kind t holds -/
def xcomp (t ci : Nat) : Prop := (t = 4 ∧ ci = 8) ∨ (t = 5 ∧ ci = 6) ∨ (t = 6 ∧ ci = 3)
theorem xw_aastore {t n q r ci : Nat} {i : Int32} (hd : decode Y.2.1 pc = .ok (.aastore, 1)) (hq : h.1[q]? = some (.inr (t, n))) (hv : h.1[r]? = some (.inl ci)) (ht : xcomp t ci) (hin : vp_in i n) (kk : Ex Y (pc + 1) lv st (xuR h q i.toNatClampNeg (some r)) mc ms Q) : Ex Y pc lv (.ref r :: .int i :: .ref q :: st) h mc ms Q := by
  intro p l e R s m args below meth c dC dI dA ad A H locs cells slots Qw ls hC hH h1 h2 h3 h4 h5 h6
  obtain ⟨rr, hc, hty, ht3⟩ : ∃ rr : vw_C, xcl[ci]? = some rr ∧ (xtys dA)[t]? = some (dA t, .object rr.1) ∧ ¬ t < 3 := by
    rcases ht with ⟨rfl, rfl⟩ | ⟨rfl, rfl⟩ | ⟨rfl, rfl⟩
    · exact ⟨_, rfl, rfl, by decide⟩
    · exact ⟨_, rfl, rfl, by decide⟩
    · exact ⟨_, rfl, rfl, by decide⟩
  have ha : (xW dA ad h)[q]? = some (ad q, .inl (dA t, n, .inr (.inr (.inr (.inr (fun j => (h.2.2 q j).map ad)))))) := (xW_at hq).trans (by rw [xE_r ht3])
  refine va_astq hC.1 hC.2.1 hC.2.2.2.2.2.2.2.2.2.2.1.1 hH.1 hH.2.1 hH.2.2.1 q t r ci ha hty (xW_at hv) hc hin hd (fun H1 locs1 g1 g2 g3 => ?_)
  have hw : (xW dA ad h).set q (ad q, .inl (dA t, n, .inr (.inr (.inr (.inr (va_up (fun j => (h.2.2 q j).map ad) i.toNatClampNeg (some (ad r)))))))) = xW dA ad (xuR h q i.toNatClampNeg (some r)) := by
    have hf : va_up (fun j => (h.2.2 q j).map ad) i.toNatClampNeg (some (ad r)) = fun j => ((xuR h q i.toNatClampNeg (some r)).2.2 q j).map ad := by
      funext j
      by_cases hj : j = i.toNatClampNeg
      · subst hj; simp [xuR, va_up]
      · simp [xuR, va_up, hj]
    rw [xW_set (h' := xuR h q i.toNatClampNeg (some r)) hq rfl (fun a _ => rfl) (fun a ha => if_neg ha), xE_r ht3, hf]
  rw [hw] at g1 g2
  refine kk p l e R s m args below meth c dC dI dA ad A H1 locs1 cells slots Qw ls hC ⟨g1, g2, g3, hH.2.2.2.1, fun a j x ha hx => ?_⟩ h1 (xvs_cons.mp (xvs_cons.mp (xvs_cons.mp h2).2).2).2 h3 h4 h5 h6
  by_cases b1 : a = q
  · subst b1
    by_cases b2 : j = i.toNatClampNeg
    · subst b2
      simp [xuR, va_up] at hx
      subst hx
      exact xlen hv
    · simp [xuR, va_up, b2] at hx
      exact hH.2.2.2.2 a j x ha hx
  · simp [xuR, b1] at hx
    exact hH.2.2.2.2 a j x ha hx
end XR2
