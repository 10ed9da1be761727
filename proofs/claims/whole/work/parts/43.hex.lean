/-! PURE PART: the class's monomials -/
/-! numbers in the base 16 -/
theorem hexN_lt {p : Nat} (hp : p < 2401) : hexN p < 28672 := by
  obtain ⟨ha, hb, hc, hd, -⟩ := digs p hp
  unfold hexN
  omega
theorem exp_spec {n v : Nat} (hv : v < 4) (hn : n < 2 ^ 31) : mX3_exponent (nI n) (nI v) = some (nI (n / 16 ^ (3 - v) % 16)) := by
  have h4 : ∀ s : Int32, ∀ k, (s.toBitVec.smod 32).toNat = k → some ((nI n >>> s) &&& 15) = some (nI (n / 2 ^ k % 16)) := fun s k hs => by
    rw [pk_shrN hn s k hs, pk_andN (Nat.lt_of_le_of_lt (Nat.div_le_self _ _) (by omega)) 4 (by decide)]
  unfold mX3_exponent
  rcases (show v = 0 ∨ v = 1 ∨ v = 2 ∨ v = 3 by omega) with rfl | rfl | rfl | rfl
  · exact h4 _ 12 (by decide)
  · exact h4 _ 8 (by decide)
  · exact h4 _ 4 (by decide)
  · exact h4 _ 0 (by decide)
theorem exp_hex {p v : Nat} (hv : v < 4) (hp : p < 2401) : mX3_exponent (nI (hexN p)) (nI v) = some (nI (ex v p)) := by
  have hl := hexN_lt hp
  obtain ⟨ha, hb, hc, hd, -⟩ := digs p hp
  rw [exp_spec hv (by omega)]
  refine congrArg (fun z => some (nI z)) ?_
  unfold hexN
  rcases (show v = 0 ∨ v = 1 ∨ v = 2 ∨ v = 3 by omega) with rfl | rfl | rfl | rfl
  · show (4096 * (p / 343) + 256 * (p / 49 % 7) + 16 * (p / 7 % 7) + p % 7) / 4096 % 16 = p / 343
    generalize p / 343 = a at *
    generalize p / 49 % 7 = b at *
    generalize p / 7 % 7 = c at *
    generalize p % 7 = d at *
    omega
  · show (4096 * (p / 343) + 256 * (p / 49 % 7) + 16 * (p / 7 % 7) + p % 7) / 256 % 16 = p / 49 % 7
    generalize p / 343 = a at *
    generalize p / 49 % 7 = b at *
    generalize p / 7 % 7 = c at *
    generalize p % 7 = d at *
    omega
  · show (4096 * (p / 343) + 256 * (p / 49 % 7) + 16 * (p / 7 % 7) + p % 7) / 16 % 16 = p / 7 % 7
    generalize p / 343 = a at *
    generalize p / 49 % 7 = b at *
    generalize p / 7 % 7 = c at *
    generalize p % 7 = d at *
    omega
  · show (4096 * (p / 343) + 256 * (p / 49 % 7) + 16 * (p / 7 % 7) + p % 7) / 1 % 16 = p % 7
    generalize p / 343 = a at *
    generalize p / 49 % 7 = b at *
    generalize p / 7 % 7 = c at *
    generalize p % 7 = d at *
    omega
theorem toCode_spec {p : Nat} (hp : p < 2401) : mX3_toCode (nI (hexN p)) = some (nI (decN p)) := by
  unfold mX3_toCode
  have h0 := exp_hex (v := 0) (by omega) hp
  have h1 := exp_hex (v := 1) (by omega) hp
  have h2 := exp_hex (v := 2) (by omega) hp
  have h3 := exp_hex (v := 3) (by omega) hp
  simp only [lit_nI, h0, h1, h2, h3, obs, nI_mul, nI_add, ex]
  rfl
theorem nI_or (a b : Nat) : nI a ||| nI b = nI (a ||| b) := by
  apply Int32.toBitVec_inj.mp
  apply BitVec.eq_of_toNat_eq
  rw [Int32.toBitVec_or, BitVec.toNat_or]
  show a % 2 ^ 32 ||| b % 2 ^ 32 = (a ||| b) % 2 ^ 32
  rw [Nat.or_mod_two_pow]
theorem nI_and (a b : Nat) : nI a &&& nI b = nI (a &&& b) := by
  apply Int32.toBitVec_inj.mp
  apply BitVec.eq_of_toNat_eq
  rw [Int32.toBitVec_and, BitVec.toNat_and]
  show a % 2 ^ 32 &&& b % 2 ^ 32 = (a &&& b) % 2 ^ 32
  rw [Nat.and_mod_two_pow]
theorem and16 {x y x1 y1 : Nat} (hy : y < 16) (hy1 : y1 < 16) : (16 * x + y) &&& (16 * x1 + y1) = 16 * (x &&& x1) + (y &&& y1) := by
  have h3 : y &&& y1 < 2 ^ 4 := Nat.and_lt_two_pow _ hy1
  apply Nat.eq_of_testBit_eq
  intro i
  rw [Nat.testBit_and, show 16 * x + y = 2 ^ 4 * x + y from rfl, show 16 * x1 + y1 = 2 ^ 4 * x1 + y1 from rfl, show 16 * (x &&& x1) + (y &&& y1) = 2 ^ 4 * (x &&& x1) + (y &&& y1) from rfl, Nat.testBit_two_pow_mul_add _ hy, Nat.testBit_two_pow_mul_add _ hy1, Nat.testBit_two_pow_mul_add _ h3]
  split <;> rw [Nat.testBit_and]
theorem or16 {x y x1 y1 : Nat} (hy : y < 16) (hy1 : y1 < 16) : (16 * x + y) ||| (16 * x1 + y1) = 16 * (x ||| x1) + (y ||| y1) := by
  have h3 : y ||| y1 < 2 ^ 4 := Nat.or_lt_two_pow hy hy1
  apply Nat.eq_of_testBit_eq
  intro i
  rw [Nat.testBit_or, show 16 * x + y = 2 ^ 4 * x + y from rfl, show 16 * x1 + y1 = 2 ^ 4 * x1 + y1 from rfl, show 16 * (x ||| x1) + (y ||| y1) = 2 ^ 4 * (x ||| x1) + (y ||| y1) from rfl, Nat.testBit_two_pow_mul_add _ hy, Nat.testBit_two_pow_mul_add _ hy1, Nat.testBit_two_pow_mul_add _ h3]
  split <;> rw [Nat.testBit_or]
def hx (a b c d : Nat) : Nat := 16 * (16 * (16 * a + b) + c) + d
theorem hx_and {a b c d a1 b1 c1 d1 : Nat} (hb : b < 16) (hc : c < 16) (hd : d < 16) (hb1 : b1 < 16) (hc1 : c1 < 16) (hd1 : d1 < 16) : hx a b c d &&& hx a1 b1 c1 d1 = hx (a &&& a1) (b &&& b1) (c &&& c1) (d &&& d1) := by
  unfold hx
  rw [and16 hd hd1, and16 hc hc1, and16 hb hb1]
theorem hx_or {a b c d a1 b1 c1 d1 : Nat} (hb : b < 16) (hc : c < 16) (hd : d < 16) (hb1 : b1 < 16) (hc1 : c1 < 16) (hd1 : d1 < 16) : hx a b c d ||| hx a1 b1 c1 d1 = hx (a ||| a1) (b ||| b1) (c ||| c1) (d ||| d1) := by
  unfold hx
  rw [or16 hd hd1, or16 hc hc1, or16 hb hb1]
theorem hexN_hx (p : Nat) : hexN p = hx (p / 343) (p / 49 % 7) (p / 7 % 7) (p % 7) := by
  unfold hexN hx
  omega
theorem or4 {a b c d : Nat} (hb : b < 16) (hc : c < 16) (hd : d < 16) : ((a * 4096 ||| b * 256) ||| c * 16) ||| d = hx a b c d := by
  have e1 : a * 4096 ||| b * 256 = hx a b 0 0 := by
    rw [show a * 4096 = hx a 0 0 0 by unfold hx; omega, show b * 256 = hx 0 b 0 0 by unfold hx; omega, hx_or (by omega) (by omega) (by omega) (by omega) (by omega) (by omega), Nat.or_zero, Nat.zero_or, Nat.zero_or]
  have e2 : hx a b 0 0 ||| c * 16 = hx a b c 0 := by
    rw [show c * 16 = hx 0 0 c 0 by unfold hx; omega, hx_or (by omega) (by omega) (by omega) (by omega) (by omega) (by omega), Nat.or_zero, Nat.or_zero, Nat.zero_or, Nat.zero_or]
  have e3 : hx a b c 0 ||| d = hx a b c d := by
    rw [show hx a b c 0 ||| d = hx a b c 0 ||| hx 0 0 0 d by unfold hx; simp, hx_or (by omega) (by omega) (by omega) (by omega) (by omega) (by omega), Nat.or_zero, Nat.or_zero, Nat.or_zero, Nat.zero_or]
  rw [e1, e2, e3]
theorem nI_rem {a d : Nat} (ha : a < 2 ^ 31) (h0 : 0 < d) (hd : d < 2 ^ 31) : nI a - nI a / nI d * nI d = nI (a % d) := pk_rem ha h0 hd
theorem ofCode_spec {p : Nat} (hp : p < 2401) : mX3_ofCode (nI (decN p)) = some (nI (hexN p)) := by
  obtain ⟨ha, hb, hc, hd, -⟩ := digs p hp
  have hl := decN_lt hp
  have e0 : decN p / 1000 % 10 = p / 343 := by
    unfold decN
    generalize p / 343 = a at *
    generalize p / 49 % 7 = b at *
    generalize p / 7 % 7 = c at *
    generalize p % 7 = d at *
    omega
  have e1 : decN p / 100 % 10 = p / 49 % 7 := by
    unfold decN
    generalize p / 343 = a at *
    generalize p / 49 % 7 = b at *
    generalize p / 7 % 7 = c at *
    generalize p % 7 = d at *
    omega
  have e2 : decN p / 10 % 10 = p / 7 % 7 := by
    unfold decN
    generalize p / 343 = a at *
    generalize p / 49 % 7 = b at *
    generalize p / 7 % 7 = c at *
    generalize p % 7 = d at *
    omega
  have e3 : decN p % 10 = p % 7 := by
    unfold decN
    generalize p / 343 = a at *
    generalize p / 49 % 7 = b at *
    generalize p / 7 % 7 = c at *
    generalize p % 7 = d at *
    omega
  have q0 : nI (decN p) / 1000 = nI (decN p / 1000) := nI_div (by omega) (by decide) (by decide)
  have q1 : nI (decN p) / 100 = nI (decN p / 100) := nI_div (by omega) (by decide) (by decide)
  have q2 : nI (decN p) / 10 = nI (decN p / 10) := nI_div (by omega) (by decide) (by decide)
  have r0 : nI (decN p / 1000) - nI (decN p / 1000) / 10 * 10 = nI (p / 343) := (nI_rem (d := 10) (by omega) (by decide) (by decide)).trans (congrArg nI e0)
  have r1 : nI (decN p / 100) - nI (decN p / 100) / 10 * 10 = nI (p / 49 % 7) := (nI_rem (d := 10) (by omega) (by decide) (by decide)).trans (congrArg nI e1)
  have r2 : nI (decN p / 10) - nI (decN p / 10) / 10 * 10 = nI (p / 7 % 7) := (nI_rem (d := 10) (by omega) (by decide) (by decide)).trans (congrArg nI e2)
  have r3 : nI (decN p) - nI (decN p / 10) * 10 = nI (p % 7) := by
    rw [← q2]
    exact (nI_rem (d := 10) (by omega) (by decide) (by decide)).trans (congrArg nI e3)
  unfold mX3_ofCode
  rw [q0, q1, q2, r0, r1, r2, r3, pk_shlN _ 12 (by decide) (by omega), pk_shlN _ 8 (by decide) (by omega), pk_shlN _ 4 (by decide) (by omega), nI_or, nI_or, nI_or, hexN_hx]
  exact congrArg (fun z => some (nI z)) (or4 (by omega) (by omega) (by omega))
theorem hex_cell {c d : Nat} (hd : d < 7) : hexN (7 * c + d) = hx (c / 49) (c / 7 % 7) (c % 7) d := by
  rw [hexN_hx, show (7 * c + d) / 343 = c / 49 by omega, show (7 * c + d) / 49 % 7 = c / 7 % 7 by omega, show (7 * c + d) / 7 % 7 = c % 7 by omega, show (7 * c + d) % 7 = d by omega]
theorem monomialOf_spec {c : Nat} (hc : c < 343) : mX6_monomialOf (nI c) = some (nI (hexN (7 * c))) := by
  have q0 : nI c / 49 = nI (c / 49) := nI_div (by omega) (by decide) (by decide)
  have q1 : nI c / 7 = nI (c / 7) := nI_div (by omega) (by decide) (by decide)
  have r1 : nI (c / 7) - nI (c / 7) / 7 * 7 = nI (c / 7 % 7) := nI_rem (d := 7) (by omega) (by decide) (by decide)
  have r2 : nI c - nI (c / 7) * 7 = nI (c % 7) := by
    rw [← q1]
    exact nI_rem (d := 7) (by omega) (by decide) (by decide)
  unfold mX6_monomialOf
  rw [q0, q1, r1, r2, pk_shlN _ 12 (by decide) (by omega), pk_shlN _ 8 (by decide) (by omega), pk_shlN _ 4 (by decide) (by omega), nI_or, nI_or]
  refine congrArg (fun z => some (nI z)) ?_
  have h := or4 (a := c / 49) (b := c / 7 % 7) (c := c % 7) (d := 0) (by omega) (by omega) (by omega)
  rw [Nat.or_zero] at h
  exact h.trans (hex_cell (d := 0) (by decide)).symm
theorem mono_or {c d : Nat} (hd : d < 7) : nI (hexN (7 * c)) ||| nI d = nI (hexN (7 * c + d)) := by
  rw [nI_or, hex_cell hd, show hexN (7 * c) = hx (c / 49) (c / 7 % 7) (c % 7) 0 from hex_cell (d := 0) (by decide), show hx (c / 49) (c / 7 % 7) (c % 7) 0 ||| d = hx (c / 49) (c / 7 % 7) (c % 7) 0 ||| hx 0 0 0 d by unfold hx; simp, hx_or (by omega) (by omega) (by omega) (by omega) (by omega) (by omega), Nat.or_zero, Nat.or_zero, Nat.or_zero, Nat.zero_or]
