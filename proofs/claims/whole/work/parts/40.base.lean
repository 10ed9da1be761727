/-! PURE PART: words of the mirrors, numbers, state -/
def b2 (b : Bool) : Int32 := if b then 1 else 0
theorem b2_true : b2 true = 1 := rfl
theorem b2_false : b2 false = 0 := rfl
theorem b2_z (b : Bool) : (b2 b = 0) = (b = false) := by cases b <;> simp [b2]
theorem b2_n (b : Bool) : (b2 b = nI 0) = (b = false) := by cases b <;> simp [b2, nI]
theorem one_b2 : (1 : Int32) = b2 true := rfl
theorem zero_b2 : (0 : Int32) = b2 false := rfl
/-- kept from being a step of the kernel's own: a rewrite by it is a step of the proof -/
theorem nrfl {α : Sort _} {a b : α} (h : a = b) : a = b := by
  cases h
  exact Eq.refl a
theorem bnd_eq {β α : Type} (v : β) (k : β → Option α) : bnd v k = k v := nrfl rfl
theorem obs {α β : Type} (a : α) (f : α → Option β) : (some a).bind f = f a := nrfl rfl
theorem inb_nI {α : Type} {n i : Nat} {k : Nat → Option α} (h : i < n) (hn : n < 2 ^ 31) : inb n (nI i) k = k i := by
  unfold inb
  rw [if_neg (nI_in h hn), nI_clamp (by omega)]
theorem zbg_b2 {α : Type} (b : Bool) (k : Option α) : zbg (b2 b) k = k := by cases b <;> rfl
theorem zbg_0 {α : Type} (k : Option α) : zbg 0 k = k := nrfl rfl
theorem zbg_1 {α : Type} (k : Option α) : zbg 1 k = k := nrfl rfl
theorem nzg_nI {α : Type} {n : Nat} (k : Option α) (h0 : 0 < n) (h : n < 2 ^ 31) : nzg (nI n) k = k := if_neg (nI_ne0 h0 h)
theorem lit_nI (n : Nat) : (OfNat.ofNat n : Int32) = nI n := rfl
theorem nI_sub {a b : Nat} (h : b ≤ a) : nI a - nI b = nI (a - b) := pk_sub h
theorem nI_mul (a b : Nat) : nI a * nI b = nI (a * b) := pk_mul a b
theorem nI_div {a d : Nat} (ha : a < 2 ^ 31) (h0 : 0 < d) (hd : d < 2 ^ 31) : nI a / nI d = nI (a / d) := pk_div ha h0 hd
theorem nI_eqI {a b : Nat} (ha : a < 2 ^ 31) (hb : b < 2 ^ 31) : (nI a = nI b) = (a = b) := propext (nI_eq ha hb)
theorem nI_leI' {a b : Nat} (ha : a < 2 ^ 31) (hb : b < 2 ^ 31) : (nI a ≤ nI b) = (a ≤ b) := propext (nI_leI ha hb)
theorem nI_ltI' {a b : Nat} (ha : a < 2 ^ 31) (hb : b < 2 ^ 31) : (nI a < nI b) = (a < b) := propext (nI_ltI ha hb)
theorem FU_gt {n : Nat} (h : n < 1073741824) : n < FU := h
/-! state -/
theorem gA_sA_same (S : St) (n j : Nat) (v : Int32) : gA (sA S n j v) n = upd (gA S n) j v := if_pos rfl
theorem gA_sA_ne {S : St} {n m j : Nat} {v : Int32} (h : m ≠ n) : gA (sA S n j v) m = gA S m := if_neg h
theorem gI_sA (S : St) (n j m k : Nat) (v : Int32) : gI (sA S n j v) m k = gI S m k := nrfl rfl
theorem gA_sI (S : St) (n k m : Nat) (v : Int32) : gA (sI S n k v) m = gA S m := nrfl rfl
theorem gI_sI_same (S : St) (n k : Nat) (v : Int32) : gI (sI S n k v) n k = v := by
  show (if n = n then upd (S.1 n) k v else S.1 n) k = v
  rw [if_pos rfl, upd_at]
theorem gI_sI_k {S : St} {n k k1 : Nat} {v : Int32} (h : k1 ≠ k) : gI (sI S n k v) n k1 = gI S n k1 := by
  show (if n = n then upd (S.1 n) k v else S.1 n) k1 = S.1 n k1
  rw [if_pos rfl, upd_ne h]
theorem gI_sI_ne {S : St} {n m k k1 : Nat} {v : Int32} (h : m ≠ n) : gI (sI S n k v) m k1 = gI S m k1 := by
  show (if m = n then upd (S.1 n) k v else S.1 m) k1 = S.1 m k1
  rw [if_neg h]
theorem gA_sAf_same (S : St) (n : Nat) (f : Nat → Int32) : gA (sAf S n f) n = f := if_pos rfl
theorem gA_sAf_ne {S : St} {n m : Nat} {f : Nat → Int32} (h : m ≠ n) : gA (sAf S n f) m = gA S m := if_neg h
theorem gI_sAf (S : St) (n m k : Nat) (f : Nat → Int32) : gI (sAf S n f) m k = gI S m k := nrfl rfl
theorem gA_sF (S : St) (v : Int64) (m : Nat) : gA (sF S v) m = gA S m := nrfl rfl
theorem gI_sF (S : St) (v : Int64) (m k : Nat) : gI (sF S v) m k = gI S m k := nrfl rfl
theorem gF_sF (S : St) (v : Int64) : gF (sF S v) = v := nrfl rfl
theorem gF_sI (S : St) (n k : Nat) (v : Int32) : gF (sI S n k v) = gF S := nrfl rfl
theorem gF_sA (S : St) (n k : Nat) (v : Int32) : gF (sA S n k v) = gF S := nrfl rfl
/-! places: monomials with exponents 0 to 6, by their codes in the base 7 -/
def decN (p : Nat) : Nat := 1000 * (p / 343) + 100 * (p / 49 % 7) + 10 * (p / 7 % 7) + p % 7
def hexN (p : Nat) : Nat := 4096 * (p / 343) + 256 * (p / 49 % 7) + 16 * (p / 7 % 7) + p % 7
def ex (v p : Nat) : Nat := match v with
  | 0 => p / 343
  | 1 => p / 49 % 7
  | 2 => p / 7 % 7
  | _ => p % 7
def tenN (v : Nat) : Nat := match v with
  | 0 => 1000
  | 1 => 100
  | 2 => 10
  | _ => 1
def sevN (v : Nat) : Nat := match v with
  | 0 => 343
  | 1 => 49
  | 2 => 7
  | _ => 1
/-- one divides the other -/
def dv (p q : Nat) : Bool := decide (p / 343 ≤ q / 343) && (decide (p / 49 % 7 ≤ q / 49 % 7) && (decide (p / 7 % 7 ≤ q / 7 % 7) && decide (p % 7 ≤ q % 7)))
theorem dv_iff {p q : Nat} : dv p q = true ↔ p / 343 ≤ q / 343 ∧ p / 49 % 7 ≤ q / 49 % 7 ∧ p / 7 % 7 ≤ q / 7 % 7 ∧ p % 7 ≤ q % 7 := by
  unfold dv
  simp only [Bool.and_eq_true, decide_eq_true_eq]
theorem ten_spec {v : Nat} (h : v < 4) : mX11_ten (nI v) = some (nI (tenN v)) := by
  rcases (show v = 0 ∨ v = 1 ∨ v = 2 ∨ v = 3 by omega) with rfl | rfl | rfl | rfl <;> rfl
theorem power_spec {c v : Nat} (h : v < 4) (hc : c < 2 ^ 31) : mX11_power (nI c) (nI v) = some (nI (c / tenN v % 10)) := by
  have ht : 0 < tenN v ∧ tenN v ≤ 1000 := by
    rcases (show v = 0 ∨ v = 1 ∨ v = 2 ∨ v = 3 by omega) with rfl | rfl | rfl | rfl <;> decide
  have hq : c / tenN v < 2 ^ 31 := Nat.lt_of_le_of_lt (Nat.div_le_self _ _) hc
  unfold mX11_power
  rw [ten_spec h, obs, nzg_nI _ ht.1 (by omega), nI_div hc ht.1 (by omega)]
  exact congrArg some (pk_rem (d := 10) hq (by decide) (by decide))
theorem digs (p : Nat) (hp : p < 2401) : p / 343 < 7 ∧ p / 49 % 7 < 7 ∧ p / 7 % 7 < 7 ∧ p % 7 < 7 ∧ p = 343 * (p / 343) + 49 * (p / 49 % 7) + 7 * (p / 7 % 7) + p % 7 := by omega
theorem power_dec {p v : Nat} (h : v < 4) (hp : p < 2401) : mX11_power (nI (decN p)) (nI v) = some (nI (ex v p)) := by
  obtain ⟨ha, hb, hc, hd, -⟩ := digs p hp
  have hd : decN p < 2 ^ 31 := by unfold decN; omega
  rw [power_spec h hd]
  refine congrArg (fun z => some (nI z)) ?_
  unfold decN
  rcases (show v = 0 ∨ v = 1 ∨ v = 2 ∨ v = 3 by omega) with rfl | rfl | rfl | rfl
  · show (1000 * (p / 343) + 100 * (p / 49 % 7) + 10 * (p / 7 % 7) + p % 7) / 1000 % 10 = p / 343
    generalize p / 343 = a at *
    generalize p / 49 % 7 = b at *
    generalize p / 7 % 7 = c at *
    generalize p % 7 = d at *
    omega
  · show (1000 * (p / 343) + 100 * (p / 49 % 7) + 10 * (p / 7 % 7) + p % 7) / 100 % 10 = p / 49 % 7
    generalize p / 343 = a at *
    generalize p / 49 % 7 = b at *
    generalize p / 7 % 7 = c at *
    generalize p % 7 = d at *
    omega
  · show (1000 * (p / 343) + 100 * (p / 49 % 7) + 10 * (p / 7 % 7) + p % 7) / 10 % 10 = p / 7 % 7
    generalize p / 343 = a at *
    generalize p / 49 % 7 = b at *
    generalize p / 7 % 7 = c at *
    generalize p % 7 = d at *
    omega
  · show (1000 * (p / 343) + 100 * (p / 49 % 7) + 10 * (p / 7 % 7) + p % 7) / 1 % 10 = p % 7
    generalize p / 343 = a at *
    generalize p / 49 % 7 = b at *
    generalize p / 7 % 7 = c at *
    generalize p % 7 = d at *
    omega
theorem ex_lt {p v : Nat} (hp : p < 2401) : ex v p < 7 := by
  obtain ⟨ha, hb, hc, hd, -⟩ := digs p hp
  match v with
  | 0 => exact ha
  | 1 => exact hb
  | 2 => exact hc
  | v + 3 => exact hd
theorem codeAt_spec {p : Nat} (hp : p < 2401) : mX11_codeAt (nI p) = some (nI (decN p)) := by
  unfold mX11_codeAt decN
  simp (disch := omega) only [lit_nI, nI_div, nI_mul, nI_sub, nI_add]
  refine congrArg (fun z => some (nI z)) ?_
  omega
theorem placeOf_spec {p : Nat} (hp : p < 2401) : mX11_placeOf (nI (decN p)) = some (nI p) := by
  unfold mX11_placeOf
  have h0 := power_dec (v := 0) (by omega) hp
  have h1 := power_dec (v := 1) (by omega) hp
  have h2 := power_dec (v := 2) (by omega) hp
  have h3 := power_dec (v := 3) (by omega) hp
  simp only [lit_nI, h0, h1, h2, h3, obs, nI_mul, nI_add, ex]
  refine congrArg (fun z => some (nI z)) ?_
  omega
/-- for all of the k from v on -/
def allF (f : Nat → Bool) : Nat → Nat → Bool
  | _, 0 => true
  | v, k + 1 => f v && allF f (v + 1) k
theorem dv_all (p q : Nat) : dv p q = allF (fun v => decide (ex v p ≤ ex v q)) 0 4 := by
  simp only [dv, allF, ex, Bool.and_true]
theorem divides_loop {p q : Nat} (hp : p < 2401) (hq : q < 2401) : ∀ (k v n : Nat) (b : Bool), v + k = 4 → k < n → mX11_divides_4 n (nI (decN p)) (nI (decN q)) (b2 b) (nI v) = some (b2 (b && allF (fun v => decide (ex v p ≤ ex v q)) v k)) := by
  intro k
  induction k with
  | zero =>
    intro v n b hv hn
    obtain ⟨n, rfl⟩ : ∃ m, n = m + 1 := ⟨n - 1, by omega⟩
    simp (disch := omega) only [mX11_divides_4, lit_nI, nI_leI', zbg_b2, allF, Bool.and_true]
    rw [if_pos (by omega)]
  | succ k ih =>
    intro v n b hv hn
    obtain ⟨n, rfl⟩ : ∃ m, n = m + 1 := ⟨n - 1, by omega⟩
    have h1 := ex_lt (v := v) hp
    have h2 := ex_lt (v := v) hq
    simp (disch := omega) only [mX11_divides_4, lit_nI, nI_leI', power_dec (by omega : v < 4) hp, power_dec (by omega : v < 4) hq, obs, nI_ltI', mX11_divides_30, mX11_divides_31, bnd_eq, nI_add, b2_n, allF]
    rw [if_neg (by omega)]
    cases b with
    | false =>
      rw [if_pos rfl, show nI 0 = b2 false from rfl, ih (v + 1) n false (by omega) (by omega)]
      simp
    | true =>
      rw [if_neg (by decide), show nI 0 = b2 false from rfl, show nI 1 = b2 true from rfl, ih (v + 1) n false (by omega) (by omega), ih (v + 1) n true (by omega) (by omega)]
      by_cases h3 : ex v q < ex v p
      · rw [if_pos h3]
        simp [show ¬ ex v p ≤ ex v q by omega]
      · rw [if_neg h3]
        simp [show ex v p ≤ ex v q by omega]
theorem divides_spec {p q : Nat} (hp : p < 2401) (hq : q < 2401) : mX11_divides (nI (decN p)) (nI (decN q)) = some (b2 (dv p q)) := by
  unfold mX11_divides
  rw [dv_all]
  exact divides_loop hp hq 4 0 FU true (by omega) (FU_gt (by decide))
