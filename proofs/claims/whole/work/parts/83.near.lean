/-! PURE PART: the reference's nearest number (rows sl_shl, sl_shr, sl_or, sl_tn began as rows of kit/laws) -/
theorem sl_I {a : Nat} (h : a < 2 ^ 63) : (lN a).toInt = (a : Int) := lg_ofNat_toInt h
theorem sl_tn {n : Nat} (h : n < 2 ^ 64) : (UInt64.ofNat n).toNat = n := by
  rw [UInt64.toNat_ofNat']
  exact Nat.mod_eq_of_lt h
theorem sl_shl {a k p : Nat} {y : Int64} (hy : y.toBitVec.smod 64 = BitVec.ofNat 64 k) (hk : k < 64) (hp : 2 ^ k = p) (ha : a < 2 ^ 64) : lN a <<< y = lN (a * p) := by
  subst hp
  apply Int64.toBitVec_inj.mp
  rw [Int64.toBitVec_shiftLeft, hy]
  apply BitVec.eq_of_toNat_eq
  have hb : (lN a).toBitVec.toNat = a := Nat.mod_eq_of_lt ha
  have hk' : (BitVec.ofNat 64 k).toNat = k := Nat.mod_eq_of_lt (by omega)
  have h : ((lN a).toBitVec <<< BitVec.ofNat 64 k).toNat = (a * 2 ^ k) % 2 ^ 64 := by simp only [BitVec.shiftLeft_eq', BitVec.toNat_shiftLeft, hb, hk', Nat.shiftLeft_eq]
  exact h
theorem sl_shr {a d : Nat} {D : Int64} (hD : (D.toBitVec.smod 64).toNat = d) (h : a < 2 ^ 62) : lN a >>> D = lN (a / 2 ^ d) := by
  have hd : a / 2 ^ d ≤ a := Nat.div_le_self _ _
  apply Int64.toInt_inj.mp
  have e : (lN a >>> D).toInt = (lN a).toInt >>> d := by
    rw [← hD]
    exact BitVec.toInt_sshiftRight ..
  rw [e, Int.shiftRight_eq_div_pow, sl_I (by omega), sl_I (by omega)]
  rfl
theorem sl_or {k p a b : Nat} (hp : 2 ^ k = p) (ha : a < p) (h : b * p + a < 2 ^ 64) : lN (b * p) ||| lN a = lN (b * p + a) := by
  subst hp
  have h1 : b * 2 ^ k ||| a = b * 2 ^ k + a := by rw [← Nat.shiftLeft_eq, Nat.shiftLeft_add_eq_or_of_lt ha]
  have h3 : UInt64.ofNat (b * 2 ^ k) ||| UInt64.ofNat a = UInt64.ofNat (b * 2 ^ k + a) := UInt64.toNat_inj.mp (by rw [UInt64.toNat_or, sl_tn (by omega), sl_tn (by omega), sl_tn h, h1])
  have h2 := congrArg UInt64.toInt64 h3
  exact h2
theorem lc_lt {x y : Nat} (hx : x < 2 ^ 62) (hy : y < 2 ^ 62) : (lg_cmp (lN x) (lN y) < 0) = (x < y) := by
  refine propext ((lg_cmp_lt _ _).trans ?_)
  rw [Int64.lt_iff_toInt_lt, sl_I (by omega), sl_I (by omega)]
  omega
theorem lc_gt {x y : Nat} (hx : x < 2 ^ 62) (hy : y < 2 ^ 62) : (0 < lg_cmp (lN x) (lN y)) = (y < x) := by
  refine propext ((lg_cmp_gt _ _).trans ?_)
  rw [Int64.lt_iff_toInt_lt, sl_I (by omega), sl_I (by omega)]
  omega
theorem lc_ge {x y : Nat} (hx : x < 2 ^ 62) (hy : y < 2 ^ 62) : (0 ≤ lg_cmp (lN x) (lN y)) = (y ≤ x) := by
  refine propext ((lg_cmp_ge _ _).trans ?_)
  rw [Int64.le_iff_toInt_le, sl_I (by omega), sl_I (by omega)]
  omega
theorem lc_eq {x y : Nat} (hx : x < 2 ^ 62) (hy : y < 2 ^ 62) : (lg_cmp (lN x) (lN y) = 0) = (x = y) := by
  refine propext ((lg_cmp_eq _ _).trans ?_)
  rw [← Int64.toInt_inj, sl_I (by omega), sl_I (by omega)]
  omega
theorem lN_half {x : Nat} (h : x < 2 ^ 62) : lN x / 2 = lN (x / 2) := (Int64.ofNat_div (by omega) (by decide)).symm
theorem lN_odd {x : Nat} (h : x < 2 ^ 62) : lN x - lN x / 2 * 2 = lN (x % 2) := by
  rw [lN_half h, show lN (x / 2) * 2 = lN (x / 2 * 2) from lN_mul _ 2, lN_sub (by omega)]
  exact congrArg lN (by omega)
/-- the whole number nearest to a share -/
def rnd (n d : Nat) : Nat := FP.Core.nearest n d
theorem rnd_eq {n d F r : Nat} (hd : 0 < d) (hr : r < d) (e : n = d * F + r) : rnd n d = if d < 2 * r ∨ (2 * r = d ∧ F % 2 = 1) then F + 1 else F := by
  have h1 : n % d = r := by rw [e, Nat.mul_add_mod, Nat.mod_eq_of_lt hr]
  have h2 : n / d = F := by rw [e, Nat.mul_add_div hd, Nat.div_eq_of_lt hr, Nat.add_zero]
  unfold rnd FP.Core.nearest
  rw [h1, h2]
  by_cases c1 : 2 * r < d
  · rw [if_pos c1, if_neg (by omega)]
  · rw [if_neg c1]
    by_cases c2 : d < 2 * r
    · rw [if_pos c2, if_pos (Or.inl c2)]
    · rw [if_neg c2]
      by_cases c3 : F % 2 = 1
      · rw [if_pos (Or.inr ⟨by omega, c3⟩), c3]
      · rw [if_neg (by omega), show F % 2 = 0 by omega, Nat.add_zero]
/-- the figures: so many steps of the division -/
theorem near81 {S : St} {A B size : Nat} (hB : 0 < B) (h1 : B ≤ A) (h2 : A < 2 * B) (hBl : B < 2 ^ 50) (hs1 : 1 ≤ size) (hs : size ≤ 53) : mX11_nearest_81 FU (sF S 0) (nI size) (lN A) (lN B) 0 = mX11_nearest_183 (sF S (lN (A * 2 ^ (size - 1) / B))) (nI size) (if rnd (A * 2 ^ (size - 1)) B = A * 2 ^ (size - 1) / B then 0 else 1) (lN (A * 2 ^ (size - 1) / B)) ∧ 2 ^ (size - 1) ≤ A * 2 ^ (size - 1) / B ∧ A * 2 ^ (size - 1) / B < 2 ^ size ∧ (rnd (A * 2 ^ (size - 1)) B = A * 2 ^ (size - 1) / B ∨ rnd (A * 2 ^ (size - 1)) B = A * 2 ^ (size - 1) / B + 1) := by
  have hpow : 2 ^ size = 2 * 2 ^ (size - 1) := by
    rw [show size = size - 1 + 1 by omega, Nat.pow_succ, Nat.mul_comm, Nat.add_sub_cancel]
  have hp53 : 2 ^ size ≤ 2 ^ 53 := Nat.pow_le_pow_right (by decide) hs
  have low : 2 ^ (size - 1) ≤ A * 2 ^ (size - 1) / B := by
    rw [Nat.le_div_iff_mul_le hB, Nat.mul_comm]
    exact Nat.mul_le_mul_right _ h1
  have high : A * 2 ^ (size - 1) / B < 2 ^ size := by
    rw [Nat.div_lt_iff_lt_mul hB, hpow]
    have : A * 2 ^ (size - 1) < 2 * B * 2 ^ (size - 1) := Nat.mul_lt_mul_of_pos_right h2 (Nat.two_pow_pos _)
    rw [show 2 * 2 ^ (size - 1) * B = 2 * B * 2 ^ (size - 1) by rw [Nat.mul_assoc, Nat.mul_comm (2 ^ (size - 1)) B, ← Nat.mul_assoc]]
    exact this
  have key : ∃ F r, r < B ∧ A * 2 ^ (size - 1) = B * F + r ∧ mX11_nearest_81 FU (sF S 0) (nI size) (lN A) (lN B) 0 = mX11_nearest_183 (sF S (lN F)) (nI size) (if B < 2 * r ∨ (2 * r = B ∧ F % 2 = 1) then 1 else 0) (lN F) := by
    have hF62 : ∀ k F a : Nat, k ≤ size → a < 2 * B → A * 2 ^ k = a + 2 * B * F → F < 2 ^ 53 := fun k F a hk ha he => by
      have q1 : 2 * B * F ≤ A * 2 ^ k := by omega
      have q2 : A * 2 ^ k < 2 * B * 2 ^ k := Nat.mul_lt_mul_of_pos_right h2 (Nat.two_pow_pos _)
      have q3 : F < 2 ^ k := Nat.lt_of_mul_lt_mul_left (Nat.lt_of_le_of_lt q1 q2)
      exact Nat.lt_of_lt_of_le q3 (Nat.pow_le_pow_right (by decide) (by omega))
    refine loopG (σ := Nat × Nat) (N := size) (fun f k s => mX11_nearest_81 f (sF S (lN s.1)) (nI size) (lN s.2) (lN B) (nI k)) (fun k s => s.2 < 2 * B ∧ A * 2 ^ k = s.2 + 2 * B * s.1) (fun x => ∃ F r, r < B ∧ A * 2 ^ (size - 1) = B * F + r ∧ x = mX11_nearest_183 (sF S (lN F)) (nI size) (if B < 2 * r ∨ (2 * r = B ∧ F % 2 = 1) then 1 else 0) (lN F)) (by omega) ?_ ?_ (0, A) ⟨h2, by simp⟩
    · rintro k f ⟨F, a⟩ hk ⟨g1, g2⟩
      have g1 : a < 2 * B := g1
      have g2 : A * 2 ^ k = a + 2 * B * F := g2
      have hF := hF62 k F a (by omega) g1 g2
      refine Or.inl ?_
      simp only [mX11_nearest_81, mX11_nearest_110, mX11_nearest_135, bnd_eq, nI_1]
      rw [if_neg (nI_ge hk (by omega)), gF_sF]
      simp only [lc_lt (show a < 2 ^ 62 by omega) (show B < 2 ^ 62 by omega)]
      by_cases hlt : a < B
      · refine ⟨(2 * F, 2 * a), ⟨by show 2 * a < 2 * B; omega, ?_⟩, ?_⟩
        · show A * 2 ^ (k + 1) = 2 * a + 2 * B * (2 * F)
          rw [Nat.pow_succ, ← Nat.mul_assoc, g2, Nat.add_mul, Nat.mul_comm a 2, Nat.mul_assoc (2 * B), Nat.mul_comm F 2]
        · rw [if_pos hlt, if_pos hlt, show (2 : Int64) * lN F + 0 = lN (2 * F) from (lN_mul 2 F ▸ rfl : (2 : Int64) * lN F + 0 = lN (2 * F) + 0).trans (by show lN (2 * F) + lN 0 = lN (2 * F); rw [lN_add]; rfl), show (2 : Int64) * lN a = lN (2 * a) from lN_mul 2 a]
          rfl
      · refine ⟨(2 * F + 1, 2 * (a - B)), ⟨by show 2 * (a - B) < 2 * B; omega, ?_⟩, ?_⟩
        · show A * 2 ^ (k + 1) = 2 * (a - B) + 2 * B * (2 * F + 1)
          rw [Nat.pow_succ, ← Nat.mul_assoc, g2, Nat.add_mul, Nat.mul_add, Nat.mul_one, Nat.mul_assoc (2 * B) F 2, Nat.mul_comm F 2]
          omega
        · rw [if_neg hlt, if_neg hlt, show (2 : Int64) * lN F + 1 = lN (2 * F + 1) by rw [show (2 : Int64) * lN F = lN (2 * F) from lN_mul 2 F, lN_1], lN_sub (by omega), show (2 : Int64) * lN (a - B) = lN (2 * (a - B)) from lN_mul 2 _]
          rfl
    · rintro f ⟨F, a⟩ ⟨g1, g2⟩
      have g1 : a < 2 * B := g1
      have g2 : A * 2 ^ size = a + 2 * B * F := g2
      have hF := hF62 size F a (Nat.le_refl _) g1 g2
      have heven : a = 2 * (a / 2) := by
        rw [hpow] at g2
        have : A * (2 * 2 ^ (size - 1)) = 2 * (A * 2 ^ (size - 1)) := by rw [← Nat.mul_assoc, Nat.mul_comm A 2, Nat.mul_assoc]
        rw [this, Nat.mul_assoc] at g2
        omega
      refine ⟨F, a / 2, by omega, ?_, ?_⟩
      · rw [hpow] at g2
        have : A * (2 * 2 ^ (size - 1)) = 2 * (A * 2 ^ (size - 1)) := by rw [← Nat.mul_assoc, Nat.mul_comm A 2, Nat.mul_assoc]
        rw [this, Nat.mul_assoc] at g2
        omega
      · simp only [mX11_nearest_81, mX11_nearest_178, mX11_nearest_182]
        rw [if_pos (nI_le (Nat.le_refl _) (by omega)), gF_sF, lN_odd (by omega)]
        simp only [lc_gt (show a < 2 ^ 62 by omega) (show B < 2 ^ 62 by omega), lc_eq (show a < 2 ^ 62 by omega) (show B < 2 ^ 62 by omega), show (lg_cmp (lN (F % 2)) 1 = 0) = (F % 2 = 1) from lc_eq (y := 1) (by omega) (by decide)]
        rw [← heven]
        by_cases c1 : B < a
        · rw [if_pos c1, if_pos (Or.inl c1)]
        · rw [if_neg c1]
          by_cases c2 : a = B
          · rw [if_pos c2]
            by_cases c3 : F % 2 = 1
            · rw [if_pos c3, if_pos (Or.inr ⟨c2, c3⟩)]
            · rw [if_neg c3, if_neg (by omega)]
          · rw [if_neg c2, if_neg (by omega)]
  obtain ⟨F, r, k1, k2, k3⟩ := key
  have hFq : A * 2 ^ (size - 1) / B = F := by rw [k2, Nat.mul_add_div hB, Nat.div_eq_of_lt k1, Nat.add_zero]
  have hrnd := rnd_eq hB k1 k2
  refine ⟨?_, low, high, ?_⟩
  · rw [k3, hFq, hrnd]
    by_cases c : B < 2 * r ∨ (2 * r = B ∧ F % 2 = 1)
    · rw [if_pos c, if_pos c, if_neg (by omega)]
    · rw [if_neg c, if_neg c, if_pos rfl]
  · rw [hFq, hrnd]
    by_cases c : B < 2 * r ∨ (2 * r = B ∧ F % 2 = 1)
    · rw [if_pos c]
      exact Or.inr rfl
    · rw [if_neg c]
      exact Or.inl rfl
/-- the figures and twos of a share that lies between 1 and 2 when it is A by B -/
def rc2 (size A B : Nat) : Nat := if rnd (A * 2 ^ (size - 1)) B < 2 ^ size then rnd (A * 2 ^ (size - 1)) B else 2 ^ (size - 1)
def rt2 (size A B : Nat) : Nat := if rnd (A * 2 ^ (size - 1)) B < 2 ^ size then 0 else 1
theorem rc2_bd {size A B : Nat} (hB : 0 < B) (h1 : B ≤ A) (h2 : A < 2 * B) (hBl : B < 2 ^ 50) (hs1 : 1 ≤ size) (hs : size ≤ 53) : 2 ^ (size - 1) ≤ rc2 size A B ∧ rc2 size A B < 2 ^ size := by
  obtain ⟨-, l, h, e⟩ := near81 (S := (fun _ _ => 0, fun _ _ => 0, 0)) hB h1 h2 hBl hs1 hs
  have hpow : 2 ^ size = 2 * 2 ^ (size - 1) := by
    rw [show size = size - 1 + 1 by omega, Nat.pow_succ, Nat.mul_comm, Nat.add_sub_cancel]
  have hpos : 0 < 2 ^ (size - 1) := Nat.two_pow_pos _
  unfold rc2
  split
  · omega
  · omega
theorem near183 {S : St} {A B size : Nat} (hB : 0 < B) (h1 : B ≤ A) (h2 : A < 2 * B) (hBl : B < 2 ^ 50) (hsz : size = 24 ∨ size = 53) : ∃ S1, mX11_nearest_81 FU (sF S 0) (nI size) (lN A) (lN B) 0 = some S1 ∧ gF S1 = lN (rc2 size A B) ∧ gI S1 0 26 = gI S 0 26 + nI (rt2 size A B) ∧ Fr [] [(0, 26)] S S1 := by
  have hs1 : 1 ≤ size := by omega
  have hs : size ≤ 53 := by omega
  obtain ⟨e1, l, h, e⟩ := near81 (S := S) hB h1 h2 hBl hs1 hs
  have hp53 : 2 ^ size ≤ 2 ^ 53 := Nat.pow_le_pow_right (by decide) hs
  have hpow : 2 ^ size = 2 * 2 ^ (size - 1) := by
    rw [show size = size - 1 + 1 by omega, Nat.pow_succ, Nat.mul_comm, Nat.add_sub_cancel]
  have hpos : 0 < 2 ^ (size - 1) := Nat.two_pow_pos _
  rw [e1]
  unfold rc2 rt2
  generalize hN : rnd (A * 2 ^ (size - 1)) B = N at *
  generalize A * 2 ^ (size - 1) / B = F at *
  have hsum : lN F + (if N = F then 0 else 1) = lN N := by
    by_cases hc : N = F
    · rw [if_pos hc, hc]
      show lN F + lN 0 = lN F
      rw [lN_add]
      rfl
    · rw [if_neg hc, lN_1]
      exact congrArg lN (by omega)
  have hNl : N < 2 ^ 62 := by omega
  unfold mX11_nearest_183
  rw [hsum]
  have hsh : gF (sF (sF S (lN F)) (lN N)) >>> ((nI size).toInt64 &&& 63) = lN (N / 2 ^ size) := by
    rw [gF_sF]
    refine sl_shr ?_ hNl
    rcases hsz with rfl | rfl <;> decide
  rw [hsh]
  have hq : N / 2 ^ size < 2 ^ 62 := Nat.lt_of_le_of_lt (Nat.div_le_self _ _) hNl
  simp only [show (lg_cmp (lN (N / 2 ^ size)) 1 = 0) = (N / 2 ^ size = 1) from lc_eq (y := 1) hq (by decide)]
  by_cases hc : N < 2 ^ size
  · rw [if_neg (by rw [Nat.div_eq_of_lt hc]; decide), if_pos hc, if_pos hc]
    refine ⟨_, rfl, gF_sF _ _, ?_, ((Fr.refl _ _ S).sF).sF⟩
    rw [gI_sF, gI_sF, nI_0]
    grind
  · have hNe : N = 2 ^ size := by omega
    rw [if_pos (by rw [hNe]; exact Nat.div_self (by omega)), if_neg hc, if_neg hc]
    refine ⟨_, rfl, ?_, ?_, (((Fr.refl _ _ S).sF).sF.sF).sI (by decide)⟩
    · rw [gF_sI, gF_sF, gF_sF, lN_half hNl]
      exact congrArg lN (by omega)
    · rw [gI_sI_same, gI_sF, gI_sF, gI_sF]
      rfl
