/-! single numbers -/
theorem enc32 {c : Nat} {q : Int} (h1 : 8388608 ≤ c) (h2 : c < 16777216) (h3 : -149 ≤ q) (h4 : q ≤ 100) : FP.Core.encode FP.Core.b32 (.fin false c q) = ((q + 149).toNat + 1) * 8388608 + (c - 8388608) := by
  show (if c < 8388608 then _ else ((0 * 256 + ((q - (-149)).toNat + 1)) * 8388608 + (c - 8388608))) = _
  rw [if_neg (by omega), Nat.zero_mul, Nat.zero_add, show q - (-149) = q + 149 by omega]
theorem dec32 {E t : Nat} (h1 : 1 ≤ E) (h2 : E ≤ 254) (h3 : t < 8388608) : FP.Core.decode FP.Core.b32 (E * 8388608 + t) = .fin false (8388608 + t) (-149 + ((E : Int) - 1)) := by
  have eT : FP.Core.fieldT FP.Core.b32 (E * 8388608 + t) = t := by
    show (E * 8388608 + t) % 8388608 = t
    omega
  have eD : (E * 8388608 + t) / 8388608 = E := by omega
  have eE : FP.Core.fieldE FP.Core.b32 (E * 8388608 + t) = E := by
    show (E * 8388608 + t) / 8388608 % 256 = E
    rw [eD]
    omega
  have eS : FP.Core.fieldS FP.Core.b32 (E * 8388608 + t) = false := by
    show ((E * 8388608 + t) / 8388608 / 256 % 2 == 1) = false
    rw [eD, show E / 256 = 0 by omega]
    rfl
  unfold FP.Core.decode
  rw [eE, eT, eS, if_neg (show ¬ E = FP.Core.b32.exps - 1 by rw [show FP.Core.b32.exps = 256 from rfl]; omega), if_neg (show ¬ E = 0 by omega)]
  rfl
def fp32 (c : Nat) (q : Int) : UInt32 := UInt32.ofNat (FP.Core.encode FP.Core.b32 (.fin false c q))
theorem fp32_nat {c : Nat} {q : Int} (h1 : 8388608 ≤ c) (h2 : c < 16777216) (h3 : -149 ≤ q) (h4 : q ≤ 100) : (fp32 c q).toNat = ((q + 149).toNat + 1) * 8388608 + (c - 8388608) := by
  unfold fp32
  rw [enc32 h1 h2 h3 h4, UInt32.toNat_ofNat']
  exact Nat.mod_eq_of_lt (by omega)
theorem fp32_dec {c : Nat} {q : Int} (h1 : 8388608 ≤ c) (h2 : c < 16777216) (h3 : -149 ≤ q) (h4 : q ≤ 100) : FP.Core.decode FP.Core.b32 (fp32 c q).toNat = .fin false c q := by
  rw [fp32_nat h1 h2 h3 h4, dec32 (by omega) (by omega) (by omega), show 8388608 + (c - 8388608) = c by omega]
  exact congrArg (FP.Core.Datum.fin false c) (by omega)
theorem fp32_nn {c : Nat} {q : Int} {α : Type} {k : Option α} (h1 : 8388608 ≤ c) (h2 : c < 16777216) (h3 : -149 ≤ q) (h4 : q ≤ 100) : nn32 (fp32 c q) k = k := by
  unfold nn32
  rw [if_pos]
  rw [UInt32.le_iff_toNat_le, UInt32.toNat_and, fp32_nat h1 h2 h3 h4]
  refine Nat.le_trans (Nat.and_le_left) ?_
  show _ ≤ 2139095040
  omega
/-- a rounding whose last place is known -/
theorem settle32 {n : Nat} {q : Int} (h1 : 8388608 ≤ n) (h2 : n ≤ 16777216) (h3 : q < 100) : FP.Core.settle FP.Core.b32 false n q = .fin false (if n < 16777216 then n else 8388608) (q + (if n < 16777216 then 0 else 1)) := by
  unfold FP.Core.settle FP.Core.bound
  show (if n < 16777216 then (if q ≤ 104 then _ else _) else (if q + 1 ≤ 104 then _ else _)) = _
  by_cases h : n < 16777216
  · rw [if_pos h, if_pos (by omega), if_pos h, if_pos h, Int.add_zero]
  · rw [if_neg h, if_pos (by omega), if_neg h, if_neg h]
    rfl
theorem rr32 {num den : Nat} {e q : Int} (hn : num ≠ 0) (hq : FP.Core.leading num den + e - 23 = q) (hm : -149 ≤ q) : FP.Core.roundRatio FP.Core.b32 false num den e = FP.Core.settle FP.Core.b32 false (rnd (num * 2 ^ (e - q).toNat) (den * 2 ^ (q - e).toNat)) q := by
  have hqu : FP.Core.quantum FP.Core.b32 num den e = q := by
    show max (-149) (FP.Core.leading num den + e - 23) = q
    rw [hq]
    omega
  unfold FP.Core.roundRatio
  rw [if_neg hn, hqu]
  rfl
theorem i232_spec {s l : Nat} (h0 : 2 ^ l ≤ s) (h1 : s < 2 ^ (l + 1)) (hl : l ≤ 16) : FP.i2f (nI s) = fp32 (s * 2 ^ (23 - l)) ((l : Int) - 23) := by
  have hs : s ≠ 0 := by have := Nat.two_pow_pos l; omega
  have hlog : s.log2 = l := (Nat.log2_eq_iff hs).mpr ⟨h0, h1⟩
  have hs31 : s < 2 ^ 31 := Nat.lt_of_lt_of_le h1 (Nat.pow_le_pow_right (by decide) (by omega))
  have hlead : FP.Core.leading s 1 = (l : Int) := by
    unfold FP.Core.leading
    rw [hlog, show Nat.log2 1 = 0 by decide]
    show (if 1 * 2 ^ ((l : Int) - 0).toNat ≤ s * 2 ^ (-((l : Int) - 0)).toNat then (l : Int) - 0 else _) = _
    rw [show ((l : Int) - 0).toNat = l by omega, show (-((l : Int) - 0)).toNat = 0 by omega, if_pos (by rw [Nat.one_mul, Nat.pow_zero, Nat.mul_one]; exact h0)]
    omega
  show UInt32.ofNat (FP.Core.encode FP.Core.b32 (FP.Core.round FP.Core.b32 (FP.Core.ofInt (nI s).toInt))) = _
  rw [nI_toInt hs31]
  have e1 : FP.Core.ofInt (s : Int) = .fin false s 0 := by
    unfold FP.Core.ofInt
    rw [decide_eq_false (by omega)]
    rfl
  rw [e1]
  show UInt32.ofNat (FP.Core.encode FP.Core.b32 (FP.Core.roundRatio FP.Core.b32 false s 1 0)) = _
  rw [rr32 (q := (l : Int) - 23) hs (by rw [hlead]; omega) (by omega), show ((0 : Int) - ((l : Int) - 23)).toNat = 23 - l by omega, show ((l : Int) - 23 - 0).toNat = 0 by omega, Nat.pow_zero, Nat.mul_one, rnd_one]
  have c1 : 8388608 ≤ s * 2 ^ (23 - l) := by
    have : 2 ^ l * 2 ^ (23 - l) ≤ s * 2 ^ (23 - l) := Nat.mul_le_mul_right _ h0
    rw [← Nat.pow_add, show l + (23 - l) = 23 by omega] at this
    exact this
  have c2 : s * 2 ^ (23 - l) < 16777216 := by
    have : s * 2 ^ (23 - l) < 2 ^ (l + 1) * 2 ^ (23 - l) := Nat.mul_lt_mul_of_pos_right h1 (Nat.two_pow_pos _)
    rw [← Nat.pow_add, show l + 1 + (23 - l) = 23 + 1 by omega] at this
    exact this
  rw [settle32 c1 (by omega) (by omega), if_pos c2, if_pos c2, Int.add_zero]
  rfl
/-- the share, rounded -/
theorem div32_spec {s A ls la : Nat} (s0 : 2 ^ ls ≤ s) (s1 : s < 2 ^ (ls + 1)) (a0 : 2 ^ la ≤ A) (a1 : A < 2 ^ (la + 1)) (hla : la ≤ 16) (hsA : s ≤ A) : ∃ j : Nat, j ≤ 17 ∧ A ≤ s * 2 ^ j ∧ s * 2 ^ j < 2 * A ∧ FP.fdiv (FP.i2f (nI s)) (FP.i2f (nI A)) = fp32 (rc2 24 (s * 2 ^ j) A) ((rt2 24 (s * 2 ^ j) A : Int) - j - 23) := by
  have hll : ls ≤ la := by
    by_cases hx : ls ≤ la
    · exact hx
    · have : 2 ^ (la + 1) ≤ 2 ^ ls := Nat.pow_le_pow_right (by decide) (by omega)
      omega
  have b1 : 8388608 ≤ s * 2 ^ (23 - ls) := by
    have : 2 ^ ls * 2 ^ (23 - ls) ≤ s * 2 ^ (23 - ls) := Nat.mul_le_mul_right _ s0
    rw [← Nat.pow_add, show ls + (23 - ls) = 23 by omega] at this
    exact this
  have b2 : s * 2 ^ (23 - ls) < 16777216 := by
    have : s * 2 ^ (23 - ls) < 2 ^ (ls + 1) * 2 ^ (23 - ls) := Nat.mul_lt_mul_of_pos_right s1 (Nat.two_pow_pos _)
    rw [← Nat.pow_add, show ls + 1 + (23 - ls) = 23 + 1 by omega] at this
    exact this
  have d1 : 8388608 ≤ A * 2 ^ (23 - la) := by
    have : 2 ^ la * 2 ^ (23 - la) ≤ A * 2 ^ (23 - la) := Nat.mul_le_mul_right _ a0
    rw [← Nat.pow_add, show la + (23 - la) = 23 by omega] at this
    exact this
  have d2 : A * 2 ^ (23 - la) < 16777216 := by
    have : A * 2 ^ (23 - la) < 2 ^ (la + 1) * 2 ^ (23 - la) := Nat.mul_lt_mul_of_pos_right a1 (Nat.two_pow_pos _)
    rw [← Nat.pow_add, show la + 1 + (23 - la) = 23 + 1 by omega] at this
    exact this
  have hδ : ∃ δ : Nat, δ ≤ 1 ∧ FP.Core.leading (s * 2 ^ (23 - ls)) (A * 2 ^ (23 - la)) = -(δ : Int) ∧ A * 2 ^ (23 - la) ≤ s * 2 ^ (23 - ls) * 2 ^ δ ∧ s * 2 ^ (23 - ls) * 2 ^ δ < 2 * (A * 2 ^ (23 - la)) := by
    have l1 : (s * 2 ^ (23 - ls)).log2 = 23 := (Nat.log2_eq_iff (by omega)).mpr ⟨b1, b2⟩
    have l2 : (A * 2 ^ (23 - la)).log2 = 23 := (Nat.log2_eq_iff (by omega)).mpr ⟨d1, d2⟩
    generalize s * 2 ^ (23 - ls) = x at *
    generalize A * 2 ^ (23 - la) = y at *
    have el : FP.Core.leading x y = if y ≤ x then 0 else -1 := by
      unfold FP.Core.leading
      rw [l1, l2]
      show (if y * 2 ^ ((23 : Int) - 23).toNat ≤ x * 2 ^ (-((23 : Int) - 23)).toNat then (23 : Int) - 23 else (23 : Int) - 23 - 1) = _
      rw [Int.sub_self, show (0 : Int).toNat = 0 from rfl, show (-(0 : Int)).toNat = 0 from rfl, Nat.pow_zero, Nat.mul_one, Nat.mul_one]
      by_cases h : y ≤ x
      · rw [if_pos h, if_pos h]
      · rw [if_neg h, if_neg h]
        rfl
    by_cases h : y ≤ x
    · exact ⟨0, by decide, by rw [el, if_pos h]; rfl, by omega, by omega⟩
    · exact ⟨1, by decide, by rw [el, if_neg h]; rfl, by omega, by omega⟩
  obtain ⟨δ, x1, x2, x3, x4⟩ := hδ
  have hpos : 0 < 2 ^ (23 - la) := Nat.two_pow_pos _
  have ej : s * 2 ^ (23 - ls) * 2 ^ δ = s * 2 ^ (la - ls + δ) * 2 ^ (23 - la) := by
    rw [Nat.mul_assoc, Nat.mul_assoc, ← Nat.pow_add, ← Nat.pow_add]
    congr 2
    omega
  rw [ej] at x3 x4
  have hlo : A ≤ s * 2 ^ (la - ls + δ) := Nat.le_of_mul_le_mul_right x3 hpos
  have hhi : s * 2 ^ (la - ls + δ) < 2 * A := by
    rw [← Nat.mul_assoc] at x4
    exact Nat.lt_of_mul_lt_mul_right x4
  have hA50 : A < 2 ^ 50 := Nat.lt_of_lt_of_le a1 (Nat.pow_le_pow_right (by decide) (by omega))
  have hA0 : 0 < A := by have := Nat.two_pow_pos la; omega
  refine ⟨la - ls + δ, by omega, hlo, hhi, ?_⟩
  obtain ⟨-, r1, r2, r3⟩ := near81 (S := (fun _ _ => 0, fun _ _ => 0, 0)) (size := 24) hA0 hlo hhi hA50 (by decide) (by decide)
  have r1 : 8388608 ≤ s * 2 ^ (la - ls + δ) * 2 ^ (24 - 1) / A := r1
  have r2 : s * 2 ^ (la - ls + δ) * 2 ^ (24 - 1) / A < 16777216 := r2
  show UInt32.ofNat (FP.Core.encode FP.Core.b32 (FP.Core.quotient FP.Core.b32 (FP.Core.decode FP.Core.b32 (FP.i2f (nI s)).toNat) (FP.Core.decode FP.Core.b32 (FP.i2f (nI A)).toNat))) = _
  rw [i232_spec s0 s1 (by omega), i232_spec a0 a1 hla, fp32_dec b1 b2 (by omega) (by omega), fp32_dec d1 d2 (by omega) (by omega)]
  show UInt32.ofNat (FP.Core.encode FP.Core.b32 (if A * 2 ^ (23 - la) = 0 then _ else FP.Core.roundRatio FP.Core.b32 false (s * 2 ^ (23 - ls)) (A * 2 ^ (23 - la)) ((ls : Int) - 23 - ((la : Int) - 23)))) = _
  rw [if_neg (by omega), rr32 (q := -((la - ls + δ : Nat) : Int) - 23) (by omega) (by rw [x2]; omega) (by omega), show ((ls : Int) - 23 - ((la : Int) - 23) - (-((la - ls + δ : Nat) : Int) - 23)).toNat = δ + 23 by omega, show (-((la - ls + δ : Nat) : Int) - 23 - ((ls : Int) - 23 - ((la : Int) - 23))).toNat = 0 by omega, Nat.pow_zero, Nat.mul_one, Nat.pow_add, ← Nat.mul_assoc, ej]
  have es : s * 2 ^ (la - ls + δ) * 2 ^ (23 - la) * 2 ^ 23 = s * 2 ^ (la - ls + δ) * 2 ^ 23 * 2 ^ (23 - la) := by
    rw [Nat.mul_assoc, Nat.mul_comm (2 ^ (23 - la)), ← Nat.mul_assoc]
  rw [es, rnd_scale hpos]
  have eq1 : (2 : Nat) ^ 23 = 2 ^ (24 - 1) := rfl
  rw [eq1, settle32 (by omega) (by omega) (by omega)]
  unfold fp32 rc2 rt2
  have etop : (2 : Nat) ^ 24 = 16777216 := rfl
  have etl : (2 : Nat) ^ (24 - 1) = 8388608 := rfl
  rw [etop]
  by_cases hc : rnd (s * 2 ^ (la - ls + δ) * 2 ^ (24 - 1)) A < 16777216
  · rw [if_pos hc, if_pos hc, if_pos hc]
    exact congrArg (fun z => UInt32.ofNat (FP.Core.encode FP.Core.b32 (.fin false _ z))) (by omega)
  · rw [if_neg hc, if_neg hc, if_neg hc]
    exact congrArg (fun z => UInt32.ofNat (FP.Core.encode FP.Core.b32 (.fin false _ z))) (by omega)
theorem two32 : FP.Core.decode FP.Core.b32 (1073741824 : UInt32).toNat = .fin false 8388608 (-22) := by decide +kernel
theorem unit32 : FP.Core.decode FP.Core.b32 (1258291200 : UInt32).toNat = .fin false 8388608 0 := by decide +kernel
theorem zero32 : FP.Core.decode FP.Core.b32 (0 : UInt32).toNat = .fin false 0 (-149) := by decide +kernel
theorem dbl32 {c : Nat} {q : Int} (h1 : 8388608 ≤ c) (h2 : c < 16777216) (h3 : -149 ≤ q) (h4 : q < 0) : FP.fmul (fp32 c q) 1073741824 = fp32 c (q + 1) := by
  show UInt32.ofNat (FP.Core.encode FP.Core.b32 (FP.Core.round FP.Core.b32 (FP.Core.exactProduct (FP.Core.decode FP.Core.b32 (fp32 c q).toNat) (FP.Core.decode FP.Core.b32 (1073741824 : UInt32).toNat)))) = _
  rw [fp32_dec h1 h2 h3 (by omega), two32]
  show UInt32.ofNat (FP.Core.encode FP.Core.b32 (FP.Core.roundRatio FP.Core.b32 false (c * 8388608) 1 (q + -22))) = _
  have hlog : (c * 8388608).log2 = 2 * 23 := (Nat.log2_eq_iff (by omega)).mpr ⟨by show 70368744177664 ≤ _; omega, by show _ < 140737488355328; omega⟩
  have hlead : FP.Core.leading (c * 8388608) 1 = 2 * (23 : Int) := by
    unfold FP.Core.leading
    rw [hlog, show Nat.log2 1 = 0 by decide]
    show (if 1 * 70368744177664 ≤ c * 8388608 * 1 then _ else _) = _
    rw [if_pos (by omega)]
    rfl
  rw [rr32 (q := q + 1) (by omega) (by rw [hlead]; omega) (by omega), show (q + -22 - (q + 1)).toNat = 0 by omega, show (q + 1 - (q + -22)).toNat = 23 by omega, Nat.pow_zero, Nat.mul_one]
  have : rnd (c * 8388608) (1 * 2 ^ 23) = c := by
    have := rnd_scale (n := c) (d := 1) (k := 8388608) (by decide)
    rw [rnd_one] at this
    exact this
  rw [this, settle32 h1 (by omega) (by omega), if_pos h2, if_pos h2, Int.add_zero]
  rfl
theorem cmp32_lt {c : Nat} {q : Int} (h1 : 8388608 ≤ c) (h2 : c < 16777216) (h3 : -149 ≤ q) (h4 : q < 0) : FP.fcmp (fp32 c q) 1258291200 = some .lt := by
  show FP.Core.order (FP.Core.decode FP.Core.b32 (fp32 c q).toNat) (FP.Core.decode FP.Core.b32 (1258291200 : UInt32).toNat) = _
  rw [fp32_dec h1 h2 h3 (by omega), unit32]
  show some (compare ((c * 2 ^ (q - min q 0).toNat : Nat) : Int) ((8388608 * 2 ^ (0 - min q 0).toNat : Nat) : Int)) = _
  rw [show min q 0 = q by omega, show (q - q).toNat = 0 by omega, Nat.pow_zero, Nat.mul_one]
  refine congrArg some ?_
  rw [Int.compare_eq_lt]
  have hp : 2 ^ 1 ≤ 2 ^ (0 - q).toNat := Nat.pow_le_pow_right (by decide) (by omega)
  have : 8388608 * 2 ^ 1 ≤ 8388608 * 2 ^ (0 - q).toNat := Nat.mul_le_mul_left _ hp
  omega
theorem cmp32_ge {c : Nat} (h1 : 8388608 ≤ c) (h2 : c < 16777216) : 0 ≤ Op.cmpValue (FP.fcmp (fp32 c 0) 1258291200) CmpOp.g := by
  have e : FP.fcmp (fp32 c 0) 1258291200 = some (compare (c : Int) (8388608 : Int)) := by
    show FP.Core.order (FP.Core.decode FP.Core.b32 (fp32 c 0).toNat) (FP.Core.decode FP.Core.b32 (1258291200 : UInt32).toNat) = _
    rw [fp32_dec h1 h2 (by omega) (by omega), unit32]
    show some (compare ((c * 1 : Nat) : Int) ((8388608 * 1 : Nat) : Int)) = _
    rw [Nat.mul_one]
    rfl
  rw [e]
  rcases Nat.lt_or_ge 8388608 c with h | h
  · rw [Int.compare_eq_gt.mpr (by omega)]
    decide
  · rw [Int.compare_eq_eq.mpr (by omega)]
    decide
theorem pos32 {c : Nat} {q : Int} (h1 : 8388608 ≤ c) (h2 : c < 16777216) (h3 : -149 ≤ q) (h4 : q ≤ 100) : FP.fcmp (fp32 c q) (0 : UInt32) = some .gt := by
  show FP.Core.order (FP.Core.decode FP.Core.b32 (fp32 c q).toNat) (FP.Core.decode FP.Core.b32 (0 : UInt32).toNat) = _
  rw [fp32_dec h1 h2 h3 h4, zero32]
  show some (compare ((c * 2 ^ (q - min q (-149)).toNat : Nat) : Int) ((0 * 2 ^ (-149 - min q (-149)).toNat : Nat) : Int)) = _
  refine congrArg some ?_
  rw [Int.compare_eq_gt, Nat.zero_mul]
  have hp : 0 < c * 2 ^ (q - min q (-149)).toNat := Nat.mul_pos (by omega) (Nat.two_pow_pos _)
  omega
theorem long32 {c : Nat} {q : Int} (h1 : 8388608 ≤ c) (h2 : c < 16777216) (h3 : -149 ≤ q) (h4 : q ≤ 0) : FP.f2l (fp32 c q) = lN (c / 2 ^ (-q).toNat) := by
  show Int64.ofInt (FP.Core.toInt (-2 ^ 63) (2 ^ 63 - 1) (FP.Core.decode FP.Core.b32 (fp32 c q).toNat)) = _
  rw [fp32_dec h1 h2 h3 (by omega)]
  show Int64.ofInt (max (-2 ^ 63) (min (2 ^ 63 - 1) ((c * 2 ^ q.toNat / 2 ^ (-q).toNat : Nat) : Int))) = _
  rw [show q.toNat = 0 by omega, Nat.pow_zero, Nat.mul_one]
  have hle : c / 2 ^ (-q).toNat ≤ c := Nat.div_le_self _ _
  generalize c / 2 ^ (-q).toNat = x at hle ⊢
  rw [Int.min_eq_right (show (x : Int) ≤ 2 ^ 63 - 1 by omega), Int.max_eq_right (show (-2 ^ 63 : Int) ≤ (x : Int) by omega)]
  exact Int64.ofInt_eq_ofNat
