section DRAW
def dStep (d : Int32) : Int32 := d * (1103515245 : Int32) + nI 12345
def dGot (d : Int32) : Int32 := (dStep d >>> (nI 16 &&& 31)) &&& nI 32767
theorem and_n (y : Int32) : ∃ g, g ≤ 32767 ∧ y &&& nI 32767 = nI g := by
  refine ⟨(y.toBitVec &&& 32767#32).toNat, ?_, ?_⟩
  · rw [BitVec.toNat_and]
    exact Nat.and_le_right
  · apply Int32.toBitVec.inj
    rw [Int32.toBitVec_and]
    show y.toBitVec &&& 32767#32 = BitVec.ofNat 32 _
    rw [BitVec.ofNat_toNat]; simp
noncomputable def rsd (p : Nat) (d : Int32) : Nat := if xrem (dGot d / nI 128) (nI 2) = 0 then 0 else nN (dGot d) % p
def dst (seed : Int32) : Nat → Int32
  | 0 => seed
  | n + 1 => dStep (dst seed n)
noncomputable def rs (p : Nat) (seed : Int32) (n : Nat) : Nat := rsd p (dst seed n)
theorem rsd_lt {p : Nat} (hp : 0 < p) (d : Int32) : rsd p d < p := by
  unfold rsd; split
  · exact hp
  · exact Nat.mod_lt _ hp
/-- a machine drawn -/
noncomputable def mDraw (p L : Nat) (seed : Int32) (n : Nat) : Mac := (n, fun s => rs p seed (s * (2 + L * n)), fun s => rs p seed (s * (2 + L * n) + 1), fun s x t => rs p seed (s * (2 + L * n) + 2 + (x * n + t)))
noncomputable def drawA (σ : St) (seed n : Int32) : Int32 × St := if inB n 5 then (nI 1, σ.set_t (Tb.nw (mDraw σ.p σ.L seed (nN n)))) else (-1, σ)
end DRAW
section MODV
variable {sh : List xSh} {I : Nat → Nat → Int32} {R : Nat → Nat → Option Nat}
theorem w_residue {p : Nat} {d : Int32} {Q : Int32 → xHp → Prop} (hW : xLay sh R) (hp0 : 0 < p) (hpb : p < 2 ^ 31) (hp : I 209 1 = nI p) (hd : I 209 35 = d) (k : Q (nI (rsd p d)) (sh, xi I 209 35 (dStep d), R)) : CI mX10_residue [.ref 209] (sh, I, R) Q := by
  subst hd
  refine eX10_residue (bX10_residue_0 hW ⟨by decide, by decide, fun (q : ¬ xrem (dGot (I 209 35) / nI 128) (nI 2) = 0) => ?_, fun (q : xrem (dGot (I 209 35) / nI 128) (nI 2) = 0) => ?_⟩)
  · rw [hp]
    obtain ⟨g, hg, he⟩ := and_n (dStep (I 209 35) >>> (nI 16 &&& 31))
    have he2 : dGot (I 209 35) = nI g := he
    unfold rsd at k
    rw [if_neg q, he2, nN_n (by omega)] at k
    refine ⟨nI_ne0 hp0 hpb, ?_⟩
    show Q (xrem (dGot (I 209 35)) (nI p)) _
    rw [he2, xrem_nI (by omega) hp0 hpb]
    exact k
  · unfold rsd at k
    rw [if_pos q] at k
    exact k
theorem w_draw {σ : St} {seed v : Int32} {Q : Int32 → xHp → Prop} (hW : xLay sh R) (h : mdR I σ) (k : ∀ I', mdR I' (drawA σ seed v).2 → mFr I I' → Q (drawA σ seed v).1 (sh, I', R)) : CI mX10_draw [.ref 209, .int seed, .int v] (sh, I, R) Q := by
  have hL3 := h.ok.L3
  have hp := PR_bd _ h.ok.p
  unfold drawA at k
  refine eX10_draw (bX10_draw_0 hW (w_inB (n := 5) hW (by decide) (by decide) (fun n hc hnlt => ?_) (fun hn => ?_)))
  rotate_left
  · rw [if_neg hn] at k
    exact bX10_draw_9 hW ⟨fun z => absurd rfl z, fun _ => k I h mFr.rf⟩
  subst hc
  rw [if_pos ((inB_n (by omega)).mpr hnlt), nN_n (by omega)] at k
  refine bX10_draw_9 hW ⟨fun _ => ?_, fun z => absurd z (by decide)⟩
  refine w_empties (m := 0) hW (by decide) (fun I1 hf1 hg1 hz1 => bX10_draw_24 hW (w_at (m := 0) (c := 0) hW (bX10_draw_34 hW ⟨vp_nI (by omega) (by omega), ?_⟩)))
  rw [nclamp (by omega), Nat.add_zero]
  generalize hK : 2 + σ.L * n = K
  generalize hst : (fun s => nI (rs σ.p seed (s * K))) = st
  generalize hen : (fun s => nI (rs σ.p seed (s * K + 1))) = en
  generalize hwt : (fun s x t => nI (rs σ.p seed (s * K + 2 + (x * n + t)))) = wt
  -- what may have changed
  let fr : (Nat → Nat → Int32) → Prop := fun I2 => Fr [209, 210] I I2 ∧ (∀ j, j ≠ 35 → I2 209 j = I 209 j) ∧ pgF [0] I I2
  have frx : ∀ (I2 : Nat → Nat → Int32) c v, fr I2 → c < 57 → fr (xi I2 210 (57 * 0 + c) v) := fun I2 c v h2 hc => ⟨h2.1.xi (by simp), fun j hj => by rw [xi_p (by decide)]; exact h2.2.1 j hj, h2.2.2.xi (m := 0) (by simp) hc⟩
  have frd : ∀ (I2 : Nat → Nat → Int32) v, fr I2 → fr (xi I2 209 35 v) := fun I2 v h2 => ⟨h2.1.xi (by simp), fun j hj => by rw [xi_s hj]; exact h2.2.1 j hj, fun i hi => by rw [xi_p (by decide)]; exact h2.2.2 i hi⟩
  have res : ∀ (I2 : Nat → Nat → Int32) (c : Nat) (Q2 : Int32 → xHp → Prop), fr I2 → I2 209 35 = dst seed c → Q2 (nI (rs σ.p seed c)) (sh, xi I2 209 35 (dst seed (c + 1)), R) → CI mX10_residue [.ref 209] (sh, I2, R) Q2 := fun I2 c Q2 h2 hd hk => w_residue hW (by omega) (by omega) (by rw [h2.2.1 1 (by decide)]; exact h.c1) hd hk
  have loopS : ∀ j s (I2 : Nat → Nat → Int32), s + j = n → fr I2 → I2 209 35 = dst seed (s * K) → mkW I2 0 n σ.L st en wt s s s 0 0 → Ex mX10_draw 38 [.ref 209, xU, .int (nI n), .int (nI s), xU, xU] [] (sh, I2, R) 0 0 (xqI Q) := by
    intro j
    induction j with
    | zero =>
      intro s I2 hs h2 hd hm
      obtain rfl : s = n := by omega
      refine bX10_draw_38 hW ⟨fun _ => ?_, fun q => absurd (nI_le (Nat.le_refl _) (by omega)) q⟩
      refine w_anew (A := mDraw σ.p σ.L seed s) hW h (fr_q h2.1 (by decide)) (fun j hj => h2.2.1 j (fun z => by subst z; exact absurd hj (by decide))) (h2.2.2.up (by simp)) (mFr.of h2.1 (by simp)) (hm.rep rfl (by omega) (Nat.le_refl _) (fun a ha => ?_) (fun a ha => ?_) (fun a y b ha hy hb => ?_)) ⟨fun a ha => rsd_lt (by omega) _, fun a ha => rsd_lt (by omega) _, fun a y b ha hy hb => rsd_lt (by omega) _⟩ (fun I' h1 h2 _ => bX10_draw_134 hW (k I' h1 h2))
      · rw [← hst]; show _ = nI (rs σ.p seed (a * (2 + σ.L * s))); rw [hK]
      · rw [← hen]; show _ = nI (rs σ.p seed (a * (2 + σ.L * s) + 1)); rw [hK]
      · rw [← hwt]; show _ = nI (rs σ.p seed (a * (2 + σ.L * s) + 2 + (y * s + b))); rw [hK]
    | succ j ih =>
      intro s I2 hs h2 hd hm
      have loopX : ∀ j2 x (I3 : Nat → Nat → Int32), x + j2 = σ.L → fr I3 → I3 209 35 = dst seed (s * K + 2 + x * n) → mkW I3 0 n σ.L st en wt (s + 1) (s + 1) s x 0 → Ex mX10_draw 80 [.ref 209, xU, .int (nI n), .int (nI s), .int (nI x), xU] [] (sh, I3, R) 0 0 (xqI Q) := by
        intro j2
        induction j2 with
        | zero =>
          intro x I3 hx h3 hd3 hm3
          obtain rfl : x = σ.L := by omega
          refine bX10_draw_80 hW ⟨fun _ => ?_, fun q => ?_⟩
          · rw [nI_add]
            refine ih (s + 1) I3 (by omega) h3 ?_ (hm3.N (Nat.le_refl _))
            rw [hd3, Nat.succ_mul, ← hK]; congr 1; omega
          · rw [h3.2.1 2 (by decide), h.c2] at q; exact absurd (nI_le (Nat.le_refl _) (by omega)) q
        | succ j2 ih2 =>
          intro x I3 hx h3 hd3 hm3
          refine bX10_draw_80 hW ⟨fun q => ?_, fun _ => ?_⟩
          · rw [h3.2.1 2 (by decide), h.c2] at q; exact absurd q (nI_ge (by omega) (by omega))
          · have loopT : ∀ j3 t (I4 : Nat → Nat → Int32), t + j3 = n → fr I4 → I4 209 35 = dst seed (s * K + 2 + (x * n + t)) → mkW I4 0 n σ.L st en wt (s + 1) (s + 1) s x t → Ex mX10_draw 92 [.ref 209, xU, .int (nI n), .int (nI s), .int (nI x), .int (nI t)] [] (sh, I4, R) 0 0 (xqI Q) := by
              intro j3
              induction j3 with
              | zero =>
                intro t I4 ht h4 hd4 hm4
                obtain rfl : t = n := by omega
                refine bX10_draw_92 hW ⟨fun _ => ?_, fun q => absurd (nI_le (by omega) (by omega)) q⟩
                rw [nI_add]
                refine ih2 (x + 1) I4 (by omega) h4 ?_ (hm4.X (Nat.le_refl _))
                rw [hd4, Nat.succ_mul]
              | succ j3 ih3 =>
                intro t I4 ht h4 hd4 hm4
                refine bX10_draw_92 hW ⟨fun q => absurd q (nI_ge (by omega) (by omega)), fun _ => ?_⟩
                refine res I4 _ _ h4 hd4 (bX10_draw_109 hW ?_)
                refine w_weighs (m := 0) hW (by decide) (by omega) (by omega) (by omega) (bX10_draw_112 hW ?_)
                rw [nI_add]
                have hm5 : mkW (xi I4 209 35 (dst seed (s * K + 2 + (x * n + t) + 1))) 0 n σ.L st en wt (s + 1) (s + 1) s x t := hm4.fr (T := [209]) (Fr.rf.xi (by simp)) (by decide)
                refine ih3 (t + 1) _ (by omega) (frx _ _ _ (frd _ _ h4) (by omega)) (by rw [xi_p (by decide), xi_e]; rfl) (hm5.W (by omega) (by omega) (by omega) (by omega) hL3 (by rw [← hwt]))
            exact loopT n 0 I3 (by omega) h3 hd3 hm3
      refine bX10_draw_38 hW ⟨fun q => absurd q (nI_ge (by omega) (by omega)), fun _ => ?_⟩
      rw [nI_add]
      refine w_at (m := 0) hW (bX10_draw_55 hW (res I2 _ _ h2 hd (bX10_draw_59 hW ⟨vp_nI (by omega) (by omega), ?_⟩)))
      rw [nclamp (by omega), nI_add]
      have h3 := frx _ (1 + s) (nI (rs σ.p seed (s * K))) (frd _ (dst seed (s * K + 1)) h2) (by omega)
      refine w_at (m := 0) hW (bX10_draw_72 hW (res _ (s * K + 1) _ h3 (by rw [xi_p (by decide), xi_e]) (bX10_draw_76 hW ⟨vp_nI (by omega) (by omega), ?_⟩)))
      rw [nclamp (by omega)]
      have hm2 : mkW (xi I2 209 35 (dst seed (s * K + 1))) 0 n σ.L st en wt s s s 0 0 := hm.fr (T := [209]) (Fr.rf.xi (by simp)) (by decide)
      have hm3 := hm2.S (v := nI (rs σ.p seed (s * K))) (by omega) (by omega) hL3 (by rw [← hst])
      have hm4 : mkW (xi (xi (xi I2 209 35 (dst seed (s * K + 1))) 210 (57 * 0 + (1 + s)) (nI (rs σ.p seed (s * K)))) 209 35 (dst seed (s * K + 1 + 1))) 0 n σ.L st en wt (s + 1) s s 0 0 := hm3.fr (T := [209]) (Fr.rf.xi (by simp)) (by decide)
      refine loopX σ.L 0 _ (by omega) (frx _ _ _ (frd _ _ h3) (by omega)) (by rw [xi_p (by decide), xi_e, Nat.zero_mul]) (hm4.E (by omega) (by omega) hL3 (by rw [← hen]))
  refine loopS n 0 _ (by omega) ⟨((Fr.rf.xi (by simp)).tr (hf1.sub (by simp))).xi (by simp), fun j hj => by rw [xi_p (by decide), hf1.at 209 j (by decide), xi_s hj], ?_⟩ ?_ ⟨xi_e, fun a ha => by omega, fun a ha => by omega, fun a y b _ _ _ q => by omega⟩
  · have g1 : pgF [0] I (xi I 209 35 seed) := fun i _ => by rw [xi_p (by decide)]
    exact (g1.tr hg1).xi (m := 0) (c := 0) (by simp) (by omega)
  · rw [xi_p (by decide), hf1.at 209 35 (by decide), xi_e, Nat.zero_mul]; rfl
end MODV
