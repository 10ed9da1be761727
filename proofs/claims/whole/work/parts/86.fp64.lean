/-! double numbers -/
theorem enc64 {c : Nat} {q : Int} (h1 : 4503599627370496 ≤ c) (h2 : c < 9007199254740992) (h3 : -1074 ≤ q) (h4 : q ≤ 100) : FP.Core.encode FP.Core.b64 (.fin false c q) = ((q + 1074).toNat + 1) * 4503599627370496 + (c - 4503599627370496) := by
  show (if c < 4503599627370496 then _ else ((0 * 2048 + ((q - (-1074)).toNat + 1)) * 4503599627370496 + (c - 4503599627370496))) = _
  rw [if_neg (by omega), Nat.zero_mul, Nat.zero_add, show q - (-1074) = q + 1074 by omega]
theorem dec64 {E t : Nat} (h1 : 1 ≤ E) (h2 : E ≤ 2046) (h3 : t < 4503599627370496) : FP.Core.decode FP.Core.b64 (E * 4503599627370496 + t) = .fin false (4503599627370496 + t) (-1074 + ((E : Int) - 1)) := by
  have eT : FP.Core.fieldT FP.Core.b64 (E * 4503599627370496 + t) = t := by
    show (E * 4503599627370496 + t) % 4503599627370496 = t
    omega
  have eD : (E * 4503599627370496 + t) / 4503599627370496 = E := by omega
  have eE : FP.Core.fieldE FP.Core.b64 (E * 4503599627370496 + t) = E := by
    show (E * 4503599627370496 + t) / 4503599627370496 % 2048 = E
    rw [eD]
    omega
  have eS : FP.Core.fieldS FP.Core.b64 (E * 4503599627370496 + t) = false := by
    show ((E * 4503599627370496 + t) / 4503599627370496 / 2048 % 2 == 1) = false
    rw [eD, show E / 2048 = 0 by omega]
    rfl
  unfold FP.Core.decode
  rw [eE, eT, eS, if_neg (show ¬ E = FP.Core.b64.exps - 1 by rw [show FP.Core.b64.exps = 2048 from rfl]; omega), if_neg (show ¬ E = 0 by omega)]
  rfl
def fp64 (c : Nat) (q : Int) : UInt64 := UInt64.ofNat (FP.Core.encode FP.Core.b64 (.fin false c q))
theorem fp64_nat {c : Nat} {q : Int} (h1 : 4503599627370496 ≤ c) (h2 : c < 9007199254740992) (h3 : -1074 ≤ q) (h4 : q ≤ 100) : (fp64 c q).toNat = ((q + 1074).toNat + 1) * 4503599627370496 + (c - 4503599627370496) := by
  unfold fp64
  rw [enc64 h1 h2 h3 h4, UInt64.toNat_ofNat']
  exact Nat.mod_eq_of_lt (by omega)
theorem fp64_dec {c : Nat} {q : Int} (h1 : 4503599627370496 ≤ c) (h2 : c < 9007199254740992) (h3 : -1074 ≤ q) (h4 : q ≤ 100) : FP.Core.decode FP.Core.b64 (fp64 c q).toNat = .fin false c q := by
  rw [fp64_nat h1 h2 h3 h4, dec64 (by omega) (by omega) (by omega), show 4503599627370496 + (c - 4503599627370496) = c by omega]
  exact congrArg (FP.Core.Datum.fin false c) (by omega)
theorem fp64_nn {c : Nat} {q : Int} {α : Type} {k : Option α} (h1 : 4503599627370496 ≤ c) (h2 : c < 9007199254740992) (h3 : -1074 ≤ q) (h4 : q ≤ 100) : nn64 (fp64 c q) k = k := by
  unfold nn64
  rw [if_pos]
  rw [UInt64.le_iff_toNat_le, UInt64.toNat_and, fp64_nat h1 h2 h3 h4]
  refine Nat.le_trans (Nat.and_le_left) ?_
  show _ ≤ 9218868437227405312
  omega
/-- a rounding whose last place is known -/
theorem settle64 {n : Nat} {q : Int} (h1 : 4503599627370496 ≤ n) (h2 : n ≤ 9007199254740992) (h3 : q < 100) : FP.Core.settle FP.Core.b64 false n q = .fin false (if n < 9007199254740992 then n else 4503599627370496) (q + (if n < 9007199254740992 then 0 else 1)) := by
  unfold FP.Core.settle FP.Core.bound
  show (if n < 9007199254740992 then (if q ≤ 971 then _ else _) else (if q + 1 ≤ 971 then _ else _)) = _
  by_cases h : n < 9007199254740992
  · rw [if_pos h, if_pos (by omega), if_pos h, if_pos h, Int.add_zero]
  · rw [if_neg h, if_pos (by omega), if_neg h, if_neg h]
    rfl
theorem rr64 {num den : Nat} {e q : Int} (hn : num ≠ 0) (hq : FP.Core.leading num den + e - 52 = q) (hm : -1074 ≤ q) : FP.Core.roundRatio FP.Core.b64 false num den e = FP.Core.settle FP.Core.b64 false (rnd (num * 2 ^ (e - q).toNat) (den * 2 ^ (q - e).toNat)) q := by
  have hqu : FP.Core.quantum FP.Core.b64 num den e = q := by
    show max (-1074) (FP.Core.leading num den + e - 52) = q
    rw [hq]
    omega
  unfold FP.Core.roundRatio
  rw [if_neg hn, hqu]
  rfl
theorem i264_spec {s l : Nat} (h0 : 2 ^ l ≤ s) (h1 : s < 2 ^ (l + 1)) (hl : l ≤ 16) : FP.i2d (nI s) = fp64 (s * 2 ^ (52 - l)) ((l : Int) - 52) := by
  have hs : s ≠ 0 := by have := Nat.two_pow_pos l; omega
  have hlog : s.log2 = l := (Nat.log2_eq_iff hs).mpr ⟨h0, h1⟩
  have hs31 : s < 2 ^ 31 := Nat.lt_of_lt_of_le h1 (Nat.pow_le_pow_right (by decide) (by omega))
  have hlead : FP.Core.leading s 1 = (l : Int) := by
    unfold FP.Core.leading
    rw [hlog, show Nat.log2 1 = 0 by decide]
    show (if 1 * 2 ^ ((l : Int) - 0).toNat ≤ s * 2 ^ (-((l : Int) - 0)).toNat then (l : Int) - 0 else _) = _
    rw [show ((l : Int) - 0).toNat = l by omega, show (-((l : Int) - 0)).toNat = 0 by omega, if_pos (by rw [Nat.one_mul, Nat.pow_zero, Nat.mul_one]; exact h0)]
    omega
  show UInt64.ofNat (FP.Core.encode FP.Core.b64 (FP.Core.round FP.Core.b64 (FP.Core.ofInt (nI s).toInt))) = _
  rw [nI_toInt hs31]
  have e1 : FP.Core.ofInt (s : Int) = .fin false s 0 := by
    unfold FP.Core.ofInt
    rw [decide_eq_false (by omega)]
    rfl
  rw [e1]
  show UInt64.ofNat (FP.Core.encode FP.Core.b64 (FP.Core.roundRatio FP.Core.b64 false s 1 0)) = _
  rw [rr64 (q := (l : Int) - 52) hs (by rw [hlead]; omega) (by omega), show ((0 : Int) - ((l : Int) - 52)).toNat = 52 - l by omega, show ((l : Int) - 52 - 0).toNat = 0 by omega, Nat.pow_zero, Nat.mul_one, rnd_one]
  have c1 : 4503599627370496 ≤ s * 2 ^ (52 - l) := by
    have : 2 ^ l * 2 ^ (52 - l) ≤ s * 2 ^ (52 - l) := Nat.mul_le_mul_right _ h0
    rw [← Nat.pow_add, show l + (52 - l) = 52 by omega] at this
    exact this
  have c2 : s * 2 ^ (52 - l) < 9007199254740992 := by
    have : s * 2 ^ (52 - l) < 2 ^ (l + 1) * 2 ^ (52 - l) := Nat.mul_lt_mul_of_pos_right h1 (Nat.two_pow_pos _)
    rw [← Nat.pow_add, show l + 1 + (52 - l) = 52 + 1 by omega] at this
    exact this
  rw [settle64 c1 (by omega) (by omega), if_pos c2, if_pos c2, Int.add_zero]
  rfl
/-- the share, rounded -/
theorem div64_spec {s A ls la : Nat} (s0 : 2 ^ ls ≤ s) (s1 : s < 2 ^ (ls + 1)) (a0 : 2 ^ la ≤ A) (a1 : A < 2 ^ (la + 1)) (hla : la ≤ 16) (hsA : s ≤ A) : ∃ j : Nat, j ≤ 17 ∧ A ≤ s * 2 ^ j ∧ s * 2 ^ j < 2 * A ∧ FP.ddiv (FP.i2d (nI s)) (FP.i2d (nI A)) = fp64 (rc2 53 (s * 2 ^ j) A) ((rt2 53 (s * 2 ^ j) A : Int) - j - 52) := by
  have hll : ls ≤ la := by
    by_cases hx : ls ≤ la
    · exact hx
    · have : 2 ^ (la + 1) ≤ 2 ^ ls := Nat.pow_le_pow_right (by decide) (by omega)
      omega
  have b1 : 4503599627370496 ≤ s * 2 ^ (52 - ls) := by
    have : 2 ^ ls * 2 ^ (52 - ls) ≤ s * 2 ^ (52 - ls) := Nat.mul_le_mul_right _ s0
    rw [← Nat.pow_add, show ls + (52 - ls) = 52 by omega] at this
    exact this
  have b2 : s * 2 ^ (52 - ls) < 9007199254740992 := by
    have : s * 2 ^ (52 - ls) < 2 ^ (ls + 1) * 2 ^ (52 - ls) := Nat.mul_lt_mul_of_pos_right s1 (Nat.two_pow_pos _)
    rw [← Nat.pow_add, show ls + 1 + (52 - ls) = 52 + 1 by omega] at this
    exact this
  have d1 : 4503599627370496 ≤ A * 2 ^ (52 - la) := by
    have : 2 ^ la * 2 ^ (52 - la) ≤ A * 2 ^ (52 - la) := Nat.mul_le_mul_right _ a0
    rw [← Nat.pow_add, show la + (52 - la) = 52 by omega] at this
    exact this
  have d2 : A * 2 ^ (52 - la) < 9007199254740992 := by
    have : A * 2 ^ (52 - la) < 2 ^ (la + 1) * 2 ^ (52 - la) := Nat.mul_lt_mul_of_pos_right a1 (Nat.two_pow_pos _)
    rw [← Nat.pow_add, show la + 1 + (52 - la) = 52 + 1 by omega] at this
    exact this
  have hδ : ∃ δ : Nat, δ ≤ 1 ∧ FP.Core.leading (s * 2 ^ (52 - ls)) (A * 2 ^ (52 - la)) = -(δ : Int) ∧ A * 2 ^ (52 - la) ≤ s * 2 ^ (52 - ls) * 2 ^ δ ∧ s * 2 ^ (52 - ls) * 2 ^ δ < 2 * (A * 2 ^ (52 - la)) := by
    have l1 : (s * 2 ^ (52 - ls)).log2 = 52 := (Nat.log2_eq_iff (by omega)).mpr ⟨b1, b2⟩
    have l2 : (A * 2 ^ (52 - la)).log2 = 52 := (Nat.log2_eq_iff (by omega)).mpr ⟨d1, d2⟩
    generalize s * 2 ^ (52 - ls) = x at *
    generalize A * 2 ^ (52 - la) = y at *
    have el : FP.Core.leading x y = if y ≤ x then 0 else -1 := by
      unfold FP.Core.leading
      rw [l1, l2]
      show (if y * 2 ^ ((52 : Int) - 52).toNat ≤ x * 2 ^ (-((52 : Int) - 52)).toNat then (52 : Int) - 52 else (52 : Int) - 52 - 1) = _
      rw [Int.sub_self, show (0 : Int).toNat = 0 from rfl, show (-(0 : Int)).toNat = 0 from rfl, Nat.pow_zero, Nat.mul_one, Nat.mul_one]
      by_cases h : y ≤ x
      · rw [if_pos h, if_pos h]
      · rw [if_neg h, if_neg h]
        rfl
    by_cases h : y ≤ x
    · exact ⟨0, by decide, by rw [el, if_pos h]; rfl, by omega, by omega⟩
    · exact ⟨1, by decide, by rw [el, if_neg h]; rfl, by omega, by omega⟩
  obtain ⟨δ, x1, x2, x3, x4⟩ := hδ
  have hpos : 0 < 2 ^ (52 - la) := Nat.two_pow_pos _
  have ej : s * 2 ^ (52 - ls) * 2 ^ δ = s * 2 ^ (la - ls + δ) * 2 ^ (52 - la) := by
    rw [Nat.mul_assoc, Nat.mul_assoc, ← Nat.pow_add, ← Nat.pow_add]
    congr 2
    omega
  rw [ej] at x3 x4
  have hlo : A ≤ s * 2 ^ (la - ls + δ) := Nat.le_of_mul_le_mul_right x3 hpos
  have hhi : s * 2 ^ (la - ls + δ) < 2 * A := by
    rw [← Nat.mul_assoc] at x4
    exact Nat.lt_of_mul_lt_mul_right x4
  have hA50 : A < 2 ^ 50 := Nat.lt_of_lt_of_le a1 (Nat.pow_le_pow_right (by decide) (by omega))
  have hA0 : 0 < A := by have := Nat.two_pow_pos la; omega
  refine ⟨la - ls + δ, by omega, hlo, hhi, ?_⟩
  obtain ⟨-, r1, r2, r3⟩ := near81 (S := (fun _ _ => 0, fun _ _ => 0, 0)) (size := 53) hA0 hlo hhi hA50 (by decide) (by decide)
  have r1 : 4503599627370496 ≤ s * 2 ^ (la - ls + δ) * 2 ^ (53 - 1) / A := r1
  have r2 : s * 2 ^ (la - ls + δ) * 2 ^ (53 - 1) / A < 9007199254740992 := r2
  show UInt64.ofNat (FP.Core.encode FP.Core.b64 (FP.Core.quotient FP.Core.b64 (FP.Core.decode FP.Core.b64 (FP.i2d (nI s)).toNat) (FP.Core.decode FP.Core.b64 (FP.i2d (nI A)).toNat))) = _
  rw [i264_spec s0 s1 (by omega), i264_spec a0 a1 hla, fp64_dec b1 b2 (by omega) (by omega), fp64_dec d1 d2 (by omega) (by omega)]
  show UInt64.ofNat (FP.Core.encode FP.Core.b64 (if A * 2 ^ (52 - la) = 0 then _ else FP.Core.roundRatio FP.Core.b64 false (s * 2 ^ (52 - ls)) (A * 2 ^ (52 - la)) ((ls : Int) - 52 - ((la : Int) - 52)))) = _
  rw [if_neg (by omega), rr64 (q := -((la - ls + δ : Nat) : Int) - 52) (by omega) (by rw [x2]; omega) (by omega), show ((ls : Int) - 52 - ((la : Int) - 52) - (-((la - ls + δ : Nat) : Int) - 52)).toNat = δ + 52 by omega, show (-((la - ls + δ : Nat) : Int) - 52 - ((ls : Int) - 52 - ((la : Int) - 52))).toNat = 0 by omega, Nat.pow_zero, Nat.mul_one, Nat.pow_add, ← Nat.mul_assoc, ej]
  have es : s * 2 ^ (la - ls + δ) * 2 ^ (52 - la) * 2 ^ 52 = s * 2 ^ (la - ls + δ) * 2 ^ 52 * 2 ^ (52 - la) := by
    rw [Nat.mul_assoc, Nat.mul_comm (2 ^ (52 - la)), ← Nat.mul_assoc]
  rw [es, rnd_scale hpos]
  have eq1 : (2 : Nat) ^ 52 = 2 ^ (53 - 1) := rfl
  rw [eq1, settle64 (by omega) (by omega) (by omega)]
  unfold fp64 rc2 rt2
  have etop : (2 : Nat) ^ 53 = 9007199254740992 := rfl
  have etl : (2 : Nat) ^ (53 - 1) = 4503599627370496 := rfl
  rw [etop]
  by_cases hc : rnd (s * 2 ^ (la - ls + δ) * 2 ^ (53 - 1)) A < 9007199254740992
  · rw [if_pos hc, if_pos hc, if_pos hc]
    exact congrArg (fun z => UInt64.ofNat (FP.Core.encode FP.Core.b64 (.fin false _ z))) (by omega)
  · rw [if_neg hc, if_neg hc, if_neg hc]
    exact congrArg (fun z => UInt64.ofNat (FP.Core.encode FP.Core.b64 (.fin false _ z))) (by omega)
theorem two64 : FP.Core.decode FP.Core.b64 (4611686018427387904 : UInt64).toNat = .fin false 4503599627370496 (-51) := by decide +kernel
theorem unit64 : FP.Core.decode FP.Core.b64 (4841369599423283200 : UInt64).toNat = .fin false 4503599627370496 0 := by decide +kernel
theorem zero64 : FP.Core.decode FP.Core.b64 (0 : UInt64).toNat = .fin false 0 (-1074) := by decide +kernel
theorem dbl64 {c : Nat} {q : Int} (h1 : 4503599627370496 ≤ c) (h2 : c < 9007199254740992) (h3 : -1074 ≤ q) (h4 : q < 0) : FP.dmul (fp64 c q) 4611686018427387904 = fp64 c (q + 1) := by
  show UInt64.ofNat (FP.Core.encode FP.Core.b64 (FP.Core.round FP.Core.b64 (FP.Core.exactProduct (FP.Core.decode FP.Core.b64 (fp64 c q).toNat) (FP.Core.decode FP.Core.b64 (4611686018427387904 : UInt64).toNat)))) = _
  rw [fp64_dec h1 h2 h3 (by omega), two64]
  show UInt64.ofNat (FP.Core.encode FP.Core.b64 (FP.Core.roundRatio FP.Core.b64 false (c * 4503599627370496) 1 (q + -51))) = _
  have hlog : (c * 4503599627370496).log2 = 2 * 52 := (Nat.log2_eq_iff (by omega)).mpr ⟨by show 20282409603651670423947251286016 ≤ _; omega, by show _ < 40564819207303340847894502572032; omega⟩
  have hlead : FP.Core.leading (c * 4503599627370496) 1 = 2 * (52 : Int) := by
    unfold FP.Core.leading
    rw [hlog, show Nat.log2 1 = 0 by decide]
    show (if 1 * 20282409603651670423947251286016 ≤ c * 4503599627370496 * 1 then _ else _) = _
    rw [if_pos (by omega)]
    rfl
  rw [rr64 (q := q + 1) (by omega) (by rw [hlead]; omega) (by omega), show (q + -51 - (q + 1)).toNat = 0 by omega, show (q + 1 - (q + -51)).toNat = 52 by omega, Nat.pow_zero, Nat.mul_one]
  have : rnd (c * 4503599627370496) (1 * 2 ^ 52) = c := by
    have := rnd_scale (n := c) (d := 1) (k := 4503599627370496) (by decide)
    rw [rnd_one] at this
    exact this
  rw [this, settle64 h1 (by omega) (by omega), if_pos h2, if_pos h2, Int.add_zero]
  rfl
theorem cmp64_lt {c : Nat} {q : Int} (h1 : 4503599627370496 ≤ c) (h2 : c < 9007199254740992) (h3 : -1074 ≤ q) (h4 : q < 0) : FP.dcmp (fp64 c q) 4841369599423283200 = some .lt := by
  show FP.Core.order (FP.Core.decode FP.Core.b64 (fp64 c q).toNat) (FP.Core.decode FP.Core.b64 (4841369599423283200 : UInt64).toNat) = _
  rw [fp64_dec h1 h2 h3 (by omega), unit64]
  show some (compare ((c * 2 ^ (q - min q 0).toNat : Nat) : Int) ((4503599627370496 * 2 ^ (0 - min q 0).toNat : Nat) : Int)) = _
  rw [show min q 0 = q by omega, show (q - q).toNat = 0 by omega, Nat.pow_zero, Nat.mul_one]
  refine congrArg some ?_
  rw [Int.compare_eq_lt]
  have hp : 2 ^ 1 ≤ 2 ^ (0 - q).toNat := Nat.pow_le_pow_right (by decide) (by omega)
  have : 4503599627370496 * 2 ^ 1 ≤ 4503599627370496 * 2 ^ (0 - q).toNat := Nat.mul_le_mul_left _ hp
  omega
theorem cmp64_ge {c : Nat} (h1 : 4503599627370496 ≤ c) (h2 : c < 9007199254740992) : 0 ≤ Op.cmpValue (FP.dcmp (fp64 c 0) 4841369599423283200) CmpOp.g := by
  have e : FP.dcmp (fp64 c 0) 4841369599423283200 = some (compare (c : Int) (4503599627370496 : Int)) := by
    show FP.Core.order (FP.Core.decode FP.Core.b64 (fp64 c 0).toNat) (FP.Core.decode FP.Core.b64 (4841369599423283200 : UInt64).toNat) = _
    rw [fp64_dec h1 h2 (by omega) (by omega), unit64]
    show some (compare ((c * 1 : Nat) : Int) ((4503599627370496 * 1 : Nat) : Int)) = _
    rw [Nat.mul_one]
    rfl
  rw [e]
  rcases Nat.lt_or_ge 4503599627370496 c with h | h
  · rw [Int.compare_eq_gt.mpr (by omega)]
    decide
  · rw [Int.compare_eq_eq.mpr (by omega)]
    decide
theorem pos64 {c : Nat} {q : Int} (h1 : 4503599627370496 ≤ c) (h2 : c < 9007199254740992) (h3 : -1074 ≤ q) (h4 : q ≤ 100) : FP.dcmp (fp64 c q) (0 : UInt64) = some .gt := by
  show FP.Core.order (FP.Core.decode FP.Core.b64 (fp64 c q).toNat) (FP.Core.decode FP.Core.b64 (0 : UInt64).toNat) = _
  rw [fp64_dec h1 h2 h3 h4, zero64]
  show some (compare ((c * 2 ^ (q - min q (-1074)).toNat : Nat) : Int) ((0 * 2 ^ (-1074 - min q (-1074)).toNat : Nat) : Int)) = _
  refine congrArg some ?_
  rw [Int.compare_eq_gt, Nat.zero_mul]
  have hp : 0 < c * 2 ^ (q - min q (-1074)).toNat := Nat.mul_pos (by omega) (Nat.two_pow_pos _)
  omega
theorem long64 {c : Nat} {q : Int} (h1 : 4503599627370496 ≤ c) (h2 : c < 9007199254740992) (h3 : -1074 ≤ q) (h4 : q ≤ 0) : FP.d2l (fp64 c q) = lN (c / 2 ^ (-q).toNat) := by
  show Int64.ofInt (FP.Core.toInt (-2 ^ 63) (2 ^ 63 - 1) (FP.Core.decode FP.Core.b64 (fp64 c q).toNat)) = _
  rw [fp64_dec h1 h2 h3 (by omega)]
  show Int64.ofInt (max (-2 ^ 63) (min (2 ^ 63 - 1) ((c * 2 ^ q.toNat / 2 ^ (-q).toNat : Nat) : Int))) = _
  rw [show q.toNat = 0 by omega, Nat.pow_zero, Nat.mul_one]
  have hle : c / 2 ^ (-q).toNat ≤ c := Nat.div_le_self _ _
  generalize c / 2 ^ (-q).toNat = x at hle ⊢
  rw [Int.min_eq_right (show (x : Int) ≤ 2 ^ 63 - 1 by omega), Int.max_eq_right (show (-2 ^ 63 : Int) ≤ (x : Int) by omega)]
  exact Int64.ofInt_eq_ofNat
