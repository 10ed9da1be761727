/-! PURE PART: bits of shares -/
/-! the class's bits, b32 -/
theorem zdiv32 {c : Nat} {q : Int} (h1 : 8388608 ≤ c) (h2 : c < 16777216) (h3 : -149 ≤ q) (h4 : q ≤ 100) : FP.fdiv (0 : UInt32) (fp32 c q) = 0 := by
  show UInt32.ofNat (FP.Core.encode FP.Core.b32 (FP.Core.quotient FP.Core.b32 (FP.Core.decode FP.Core.b32 (0 : UInt32).toNat) (FP.Core.decode FP.Core.b32 (fp32 c q).toNat))) = _
  rw [fp32_dec h1 h2 h3 h4, zero32]
  show UInt32.ofNat (FP.Core.encode FP.Core.b32 (if c = 0 then _ else FP.Core.roundRatio FP.Core.b32 false 0 c (-149 - q))) = _
  rw [if_neg (by omega)]
  unfold FP.Core.roundRatio
  rw [if_pos rfl]
  decide +kernel
theorem zi232 : FP.i2f (nI 0) = (0 : UInt32) := by decide +kernel
theorem bloop32 {c D : Nat} (h1 : 8388608 ≤ c) (h2 : c < 16777216) (hD : D < 100) : mX5_singleBits_16 FU (fp32 c (-(D : Int))) 0 = some (lN ((150 - D) * 8388608 + (c - 8388608))) := by
  have := loopN (N := D) (R := some (lN ((150 - D) * 8388608 + (c - 8388608)))) (fun f k => mX5_singleBits_16 f (fp32 c ((k : Int) - D)) (nI k)) (by omega) ?_ ?_
  · rw [show ((0 : Nat) : Int) - (D : Int) = -(D : Int) by omega] at this
    exact this
  · intro k f hk
    simp only [mX5_singleBits_16, bnd_eq, nI_1]
    rw [show FP.fcmp (fp32 c ((k : Int) - D)) 1258291200 = some .lt from cmp32_lt h1 h2 (by omega) (by omega), if_neg (show ¬ 0 ≤ Op.cmpValue (some .lt) CmpOp.g by decide), if_neg (show ¬ (100 : Int32) ≤ nI k from nI_ge (b := 100) (by omega) (by decide)), show FP.fmul (fp32 c ((k : Int) - D)) FP.fconst2 = fp32 c ((k : Int) - D + 1) from dbl32 h1 h2 (by omega) (by omega), fp32_nn h1 h2 (by omega) (by omega), show (k : Int) - D + 1 = ((k + 1 : Nat) : Int) - D by omega]
  · intro f
    simp only [mX5_singleBits_16]
    rw [show (D : Int) - (D : Int) = 0 by omega, if_pos (cmp32_ge h1 h2)]
    unfold mX5_singleBits_39
    rw [long32 h1 h2 (by omega) (by omega), show (-(0 : Int)).toNat = 0 from rfl, Nat.pow_zero, Nat.div_one, nI_l (by omega), show (150 : Int64) - lN D = lN (150 - D) from lN_sub (a := 150) (by omega), show lN (150 - D) * 8388608 = lN ((150 - D) * 8388608) from lN_mul _ 8388608, show lN c - 8388608 = lN (c - 8388608) from lN_sub (b := 8388608) h1, lN_add]
/-! the class's bits, b64 -/
theorem zdiv64 {c : Nat} {q : Int} (h1 : 4503599627370496 ≤ c) (h2 : c < 9007199254740992) (h3 : -1074 ≤ q) (h4 : q ≤ 100) : FP.ddiv (0 : UInt64) (fp64 c q) = 0 := by
  show UInt64.ofNat (FP.Core.encode FP.Core.b64 (FP.Core.quotient FP.Core.b64 (FP.Core.decode FP.Core.b64 (0 : UInt64).toNat) (FP.Core.decode FP.Core.b64 (fp64 c q).toNat))) = _
  rw [fp64_dec h1 h2 h3 h4, zero64]
  show UInt64.ofNat (FP.Core.encode FP.Core.b64 (if c = 0 then _ else FP.Core.roundRatio FP.Core.b64 false 0 c (-1074 - q))) = _
  rw [if_neg (by omega)]
  unfold FP.Core.roundRatio
  rw [if_pos rfl]
  decide +kernel
theorem zi264 : FP.i2d (nI 0) = (0 : UInt64) := by decide +kernel
theorem bloop64 {c D : Nat} (h1 : 4503599627370496 ≤ c) (h2 : c < 9007199254740992) (hD : D < 100) : mX5_doubleBits_25 FU (fp64 c (-(D : Int))) 0 = some (lN ((1075 - D) * 4503599627370496 + (c - 4503599627370496))) := by
  have := loopN (N := D) (R := some (lN ((1075 - D) * 4503599627370496 + (c - 4503599627370496)))) (fun f k => mX5_doubleBits_25 f (fp64 c ((k : Int) - D)) (nI k)) (by omega) ?_ ?_
  · rw [show ((0 : Nat) : Int) - (D : Int) = -(D : Int) by omega] at this
    exact this
  · intro k f hk
    simp only [mX5_doubleBits_25, bnd_eq, nI_1]
    rw [show FP.dcmp (fp64 c ((k : Int) - D)) 4841369599423283200 = some .lt from cmp64_lt h1 h2 (by omega) (by omega), if_neg (show ¬ 0 ≤ Op.cmpValue (some .lt) CmpOp.g by decide), if_neg (show ¬ (100 : Int32) ≤ nI k from nI_ge (b := 100) (by omega) (by decide)), show FP.dmul (fp64 c ((k : Int) - D)) 4611686018427387904 = fp64 c ((k : Int) - D + 1) from dbl64 h1 h2 (by omega) (by omega), fp64_nn h1 h2 (by omega) (by omega), show (k : Int) - D + 1 = ((k + 1 : Nat) : Int) - D by omega]
  · intro f
    simp only [mX5_doubleBits_25]
    rw [show (D : Int) - (D : Int) = 0 by omega, if_pos (cmp64_ge h1 h2)]
    unfold mX5_doubleBits_52
    rw [long64 h1 h2 (by omega) (by omega), show (-(0 : Int)).toNat = 0 from rfl, Nat.pow_zero, Nat.div_one, nI_l (by omega), show (1075 : Int64) - lN D = lN (1075 - D) from lN_sub (a := 1075) (by omega), show lN (1075 - D) * 4503599627370496 = lN ((1075 - D) * 4503599627370496) from lN_mul _ 4503599627370496, show lN c - 4503599627370496 = lN (c - 4503599627370496) from lN_sub (b := 4503599627370496) h1, lN_add]

theorem thou_lit : FP.Core.decode FP.Core.b32 (1148846080 : UInt32).toNat = .fin false 16384000 (-14) := by decide +kernel
theorem zthou : FP.fmul (0 : UInt32) 1148846080 = 0 := by decide +kernel
/-- a thousand times a single number -/
theorem thou_spec {c D l : Nat} (h1 : 8388608 ≤ c) (h2 : c < 16777216) (hD : D < 100) (hl : l = 32 ∨ l = 33) (hl1 : 2 ^ l ≤ 1000 * c) (hl2 : 1000 * c < 2 ^ (l + 1)) : FP.fmul (fp32 c (-(D : Int))) 1148846080 = fp32 (rc2 24 (1000 * c) (2 ^ l)) ((l : Int) - D - 23 + (rt2 24 (1000 * c) (2 ^ l) : Int)) := by
  show UInt32.ofNat (FP.Core.encode FP.Core.b32 (FP.Core.round FP.Core.b32 (FP.Core.exactProduct (FP.Core.decode FP.Core.b32 (fp32 c (-(D : Int))).toNat) (FP.Core.decode FP.Core.b32 (1148846080 : UInt32).toNat)))) = _
  rw [fp32_dec h1 h2 (by omega) (by omega), thou_lit]
  show UInt32.ofNat (FP.Core.encode FP.Core.b32 (FP.Core.roundRatio FP.Core.b32 false (c * 16384000) 1 (-(D : Int) + -14))) = _
  have hpl : 2 ^ (l + 1) = 2 * 2 ^ l := by rw [Nat.pow_succ, Nat.mul_comm]
  have hlog : (c * 16384000).log2 = l + 14 := (Nat.log2_eq_iff (by omega)).mpr ⟨by rw [Nat.pow_add, show (2 : Nat) ^ 14 = 16384 from rfl]; omega, by rw [Nat.pow_add, Nat.pow_add, show (2 : Nat) ^ 14 = 16384 from rfl, show (2 : Nat) ^ 1 = 2 from rfl]; omega⟩
  have hlead : FP.Core.leading (c * 16384000) 1 = (l : Int) + 14 := by
    unfold FP.Core.leading
    rw [hlog, show Nat.log2 1 = 0 by decide]
    show (if 1 * 2 ^ (((l + 14 : Nat) : Int) - 0).toNat ≤ c * 16384000 * 2 ^ (-(((l + 14 : Nat) : Int) - 0)).toNat then ((l + 14 : Nat) : Int) - 0 else _) = _
    rw [show (((l + 14 : Nat) : Int) - 0).toNat = l + 14 by omega, show (-(((l + 14 : Nat) : Int) - 0)).toNat = 0 by omega, Nat.pow_zero, Nat.mul_one, if_pos (by rw [Nat.one_mul, Nat.pow_add, show (2 : Nat) ^ 14 = 16384 from rfl]; omega)]
    omega
  rw [rr32 (q := (l : Int) - D - 23) (by omega) (by rw [hlead]; omega) (by omega), show (-(D : Int) + -14 - ((l : Int) - D - 23)).toNat = 0 by omega, show ((l : Int) - D - 23 - (-(D : Int) + -14)).toNat = l - 9 by omega, Nat.pow_zero, Nat.mul_one, Nat.one_mul]
  have hl0 : 0 < 2 ^ l := Nat.two_pow_pos l
  have hlb : (2 : Nat) ^ l < 2 ^ 50 := Nat.pow_lt_pow_right (by decide) (by omega)
  obtain ⟨-, r1, r2, r3⟩ := near81 (S := (fun _ _ => 0, fun _ _ => 0, 0)) (A := 1000 * c) (B := 2 ^ l) (size := 24) hl0 hl1 (by omega) hlb (by decide) (by decide)
  have r1 : 8388608 ≤ 1000 * c * 2 ^ (24 - 1) / 2 ^ l := r1
  have r2 : 1000 * c * 2 ^ (24 - 1) / 2 ^ l < 16777216 := r2
  have es : rnd (c * 16384000) (2 ^ (l - 9)) = rnd (1000 * c * 2 ^ (24 - 1)) (2 ^ l) := by
    rw [← rnd_scale (n := c * 16384000) (d := 2 ^ (l - 9)) (k := 512) (by decide), show (512 : Nat) = 2 ^ 9 from rfl, ← Nat.pow_add, show l - 9 + 9 = l by omega]
    have en : c * 16384000 * 2 ^ 9 = 1000 * c * 2 ^ (24 - 1) := by
      rw [show (2 : Nat) ^ 9 = 512 from rfl, show (2 : Nat) ^ (24 - 1) = 8388608 from rfl]
      omega
    rw [en]
  rw [es, settle32 (by omega) (by omega) (by omega)]
  unfold fp32 rc2 rt2
  have etop : (2 : Nat) ^ 24 = 16777216 := rfl
  have etl : (2 : Nat) ^ (24 - 1) = 8388608 := rfl
  rw [etop]
  by_cases hc : rnd (1000 * c * 2 ^ (24 - 1)) (2 ^ l) < 16777216
  · rw [if_pos hc, if_pos hc, if_pos hc]
    rfl
  · rw [if_neg hc, if_neg hc, if_neg hc]
    rfl
theorem rc2_scale {size A B k : Nat} (hk : 0 < k) : rc2 size (A * k) (B * k) = rc2 size A B ∧ rt2 size (A * k) (B * k) = rt2 size A B := by
  have : rnd (A * k * 2 ^ (size - 1)) (B * k) = rnd (A * 2 ^ (size - 1)) B := by
    rw [Nat.mul_assoc, Nat.mul_comm k, ← Nat.mul_assoc, rnd_scale hk]
  unfold rc2 rt2
  rw [this]
  exact ⟨rfl, rfl⟩
theorem rhN_mono (g f deg : Nat) {h h1 : Nat} (hh : h ≤ h1) : rhN g f deg h ≤ rhN g f deg h1 := by
  induction h1 with
  | zero => rw [show h = 0 by omega]; exact Nat.le_refl _
  | succ k ih =>
    by_cases he : h = k + 1
    · rw [he]
      exact Nat.le_refl _
    · exact Nat.le_trans (ih (by omega)) (Nat.le_add_right _ _)
theorem rhs_mono {H : Nat → Nat} (hH : ∀ c, c < 343 → H c ≤ 7) (deg : Nat) : ∀ i, i ≤ 343 → rhs H deg i ≤ rhs (fun _ => 7) deg i := by
  intro i
  induction i with
  | zero => intro _; exact Nat.le_refl _
  | succ i ih =>
    intro hi
    exact Nat.add_le_add (ih (by omega)) (rhN_mono _ _ _ (hH i (by omega)))
theorem all_chk : ∀ deg, deg < 61 → rhs (fun _ => 7) deg 343 = c3 deg := by decide +kernel
theorem c3_ch : ∀ deg, deg < 61 → chF (deg + 3) 3 = c3 deg ∧ 1 ≤ c3 deg ∧ c3 deg ≤ 39711 := by decide +kernel
