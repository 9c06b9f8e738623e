section X10C
variable {sh : List xSh} {I : Nat → Nat → Int32} {R : Nat → Nat → Option Nat}
theorem S9.u {sh' : List xSh} {I' : Nat → Nat → Int32} (h : S9 sh I R) (hL : xLay sh R) (u : ∀ a, a < 209 → I' a = I a) : S9 sh I' R := (lay_of (sh' := sh) (I' := I') (R' := R) h (fun _ _ q => q) (fun a ha => ⟨u a ha, rfl⟩) (la_209 hL) ⟨la_210 hL, la_211 hL, la_212 hL, la_213 hL, la_214 hL, la_215 hL, la_216 hL, la_217 hL, la_218 hL, la_219 hL, la_220 hL, la_221 hL, la_222 hL, la_223 hL, la_224 hL, la_225 hL, la_226 hL, la_227 hL, la_228 hL, la_229 hL⟩ ⟨lr_209_0 hL, lr_209_4 hL, lr_209_5 hL, lr_209_6 hL, lr_209_7 hL, lr_209_8 hL, lr_209_9 hL, lr_209_13 hL, lr_209_15 hL, lr_209_23 hL, lr_209_24 hL, lr_209_25 hL, lr_209_30 hL, lr_209_31 hL, lr_209_33 hL, lr_209_36 hL, lr_209_37 hL, lr_209_38 hL, lr_209_39 hL, lr_209_40 hL⟩).2
/-- both have begun -/
theorem x10_init {Q : xHp → Prop} (z0 : sh[209]? = some (.inl 10)) (n0 : sh.length = 210) (hz : ∀ j, I 209 j = 0) (h9 : S9 sh I R) (k : ∀ sh' I' R', sh'.length = 230 → clR sh' I' R' st0 → mdR I' st0 → Q (sh', I', R')) : Cl mX10_init [.ref 209] (sh, I, R) xc0 xs0 (xqV Q) := by
  show Ex mX10_init 0 [.ref 209, xU] [] (sh, I, R) xc0 xs0 (xqV Q)
  refine x10_walk z0 n0 hz (fun sh' I' R' l g u hs hf hzz e219 e220 hv => ?_)
  obtain ⟨hL, h9'⟩ := lay_of h9 g u (g _ _ z0) hs hf
  refine x10_tail hL hv.1 hv.2.1 hv.2.2 hzz.1 hzz.2.2.2.2.2.2.2.2.2.2.2.2.2.1 e219 e220 (fun I2 hm hu => k sh' I2 R' l ?_ hm)
  exact clR_start hL (h9'.u (sh' := sh') hL hu)
end X10C
