/-! PURE PART: the class's factors -/
def zI (x : Int) : Int32 := Int32.ofInt x
theorem zI_add (a b : Int) : zI (a + b) = zI a + zI b := Int32.ofInt_add a b
theorem zI_mul (a b : Int) : zI (a * b) = zI a * zI b := Int32.ofInt_mul a b
theorem zI_sub (a b : Int) : zI (a - b) = zI a - zI b := Int32.ofInt_sub a b
theorem zI_nI (n : Nat) : zI (n : Int) = nI n := Int32.ofInt_eq_ofNat
def stZ (j : Nat) : Int := ([1, 0, 0, 0, 1, -1, 0, 0, 1, -2, 1, 0, 1, -3, 3, -1] : List Int).getD j 0
theorem stp_Z : ∀ j, j < 16 → stp j = zI (stZ j) := by decide
/-- a sum over the factors, each with its weight -/
def lsum (w : Nat → Int) (S : St) : Nat → Int32
  | 0 => 0
  | k + 1 => lsum w S k + gA S 25 k * zI (w k)
theorem lsum_upd {w : Nat → Int} {S : St} {j : Nat} {x : Int32} : ∀ k, lsum w (sA S 25 j (gA S 25 j + x)) k = (if j < k then lsum w S k + x * zI (w j) else lsum w S k) := by
  intro k
  induction k with
  | zero => rw [if_neg (Nat.not_lt_zero j)]; rfl
  | succ k ih =>
    show lsum w (sA S 25 j (gA S 25 j + x)) k + gA (sA S 25 j (gA S 25 j + x)) 25 k * zI (w k) = _
    rw [ih, gA_sA_same]
    show _ = (if j < k + 1 then lsum w S k + gA S 25 k * zI (w k) + x * zI (w j) else lsum w S k + gA S 25 k * zI (w k))
    by_cases he : k = j
    · subst he
      rw [upd_at, if_neg (Nat.lt_irrefl k), if_pos (Nat.lt_succ_self k)]
      grind
    · rw [upd_ne he]
      by_cases hlt : j < k
      · rw [if_pos hlt, if_pos (by omega)]
        grind
      · rw [if_neg hlt, if_neg (by omega)]
theorem lsum_zero {w : Nat → Int} {S : St} : ∀ k, (∀ j, j < k → gA S 25 j = 0) → lsum w S k = 0 := by
  intro k
  induction k with
  | zero => intro _; rfl
  | succ k ih =>
    intro h
    show lsum w S k + gA S 25 k * zI (w k) = 0
    rw [ih (fun j hj => h j (by omega)), h k (by omega)]
    grind
def sgS (w : Nat → Int) (g st : Nat) : Nat → Int
  | 0 => 0
  | m + 1 => sgS w g st m + stZ (4 * st + m) * w (g + m)
def cellZ (w : Nat → Int) (g st h : Nat) : Int := sgS w g st (st + 1) - (if h ≤ 6 then sgS w (g + h) st (st + 1) else 0)
theorem addSteps_spec {S : St} {g st : Nat} {t : Int} (hst : st ≤ 3) (hg : g + st ≤ 24) : ∃ S1, mX7_addSteps S (nI g) (nI st) (zI t) = some S1 ∧ (∀ w, lsum w S1 25 = lsum w S 25 + zI (t * sgS w g st (st + 1))) ∧ Fr [25] [] S S1 := by
  unfold mX7_addSteps
  refine loopG (σ := St) (N := st + 1) (fun f n s => mX7_addSteps_3 f s (nI g) (nI st) (zI t) (nI n)) (fun n s => (∀ w, lsum w s 25 = lsum w S 25 + zI (t * sgS w g st n)) ∧ Fr [25] [] S s) (fun r => ∃ S1, r = some S1 ∧ (∀ w, lsum w S1 25 = lsum w S 25 + zI (t * sgS w g st (st + 1))) ∧ Fr [25] [] S S1) (by omega) ?_ ?_ S ⟨fun w => ?_, Fr.refl _ _ S⟩
  · intro n f s hn hI
    have hj : g + n < 25 := by omega
    have hq : 4 * st + n < 16 := by omega
    refine Or.inl ⟨sA s 25 (g + n) (gA s 25 (g + n) + zI t * stp (4 * st + n)), ⟨fun w => ?_, hI.2.sA (by decide)⟩, ?_⟩
    · rw [lsum_upd, if_pos hj, hI.1 w, stp_Z _ hq]
      show _ = _ + zI (t * (sgS w g st n + stZ (4 * st + n) * w (g + n)))
      rw [Int.mul_add, zI_add, zI_mul t (stZ _ * _), zI_mul (stZ _)]
      grind
    · simp only [mX7_addSteps_3, mX7_addSteps_67, bnd_eq, nI_1]
      rw [if_neg (show ¬ nI st < nI n from nI_nlt (by omega) (by omega)), nI_add, show (4 : Int32) * nI st + nI n = nI (4 * st + n) by rw [show (4 : Int32) = nI 4 from rfl, nI_mul, nI_add], if_neg (nI_pos (by omega)), if_neg (show ¬ (24 : Int32) < nI (g + n) from nI_nlt (a := 24) (by omega) (by decide)), if_neg (nI_pos (by omega)), if_neg (show ¬ (16 : Int32) ≤ nI (4 * st + n) from nI_ge (b := 16) hq (by decide)), inb_nI hj (by decide), inb_nI hq (by decide), inb_nI hj (by decide)]
  · intro f s hI
    simp only [mX7_addSteps_3]
    rw [if_pos (nI_lt (Nat.lt_succ_self st) (by omega))]
    exact ⟨s, rfl, hI.1, hI.2⟩
  · show _ = lsum w S 25 + zI (t * 0)
    rw [Int.mul_zero]
    show _ = lsum w S 25 + 0
    grind
def gC (c : Nat) : Nat := c / 49 + c / 7 % 7 + c % 7
def sC (c : Nat) : Nat := (if c / 49 < 6 then 1 else 0) + (if c / 7 % 7 < 6 then 1 else 0) + (if c % 7 < 6 then 1 else 0)
theorem gsC {c : Nat} (hc : c < 343) : sC c ≤ 3 ∧ gC c + sC c ≤ 18 := by
  have h0 : c / 49 < 7 := by omega
  have h1 : c / 7 % 7 < 7 := by omega
  have h2 : c % 7 < 7 := by omega
  unfold gC sC
  generalize c / 49 = x at *
  generalize c / 7 % 7 = y at *
  generalize c % 7 = z at *
  clear hc
  split <;> split <;> split <;> omega
def cellsZ (w : Nat → Int) (H : Nat → Nat) : Nat → Int
  | 0 => 0
  | i + 1 => cellsZ w H i + cellZ w (gC i) (sC i) (H i)
theorem ff30_step {S : St} {c v n g st : Nat} {x1 : Int32} (k10 : St → Int32 → Option St) (hc : c < 343) (hv : v < 3) : mX7_findFactors_30 k10 (n + 1) S x1 (nI (hexN (7 * c))) (nI g) (nI st) (nI v) = mX7_findFactors_30 k10 n S x1 (nI (hexN (7 * c))) (nI (g + ex v (7 * c))) (nI (st + (if ex v (7 * c) < 6 then 1 else 0))) (nI (v + 1)) := by
  have hx := ex_lt (v := v) (show 7 * c < 2401 by omega)
  simp only [mX7_findFactors_30, mX7_findFactors_63, bnd_eq, nI_1]
  rw [if_neg (show ¬ (3 : Int32) ≤ nI v from nI_ge (b := 3) hv (by decide)), exp_hex (by omega) (by omega), obs, nI_add]
  by_cases h6 : ex v (7 * c) < 6
  · rw [if_neg (show ¬ (6 : Int32) ≤ nI (ex v (7 * c)) from nI_ge (b := 6) h6 (by decide)), if_pos h6]
  · rw [if_pos (show (6 : Int32) ≤ nI (ex v (7 * c)) from nI_le (a := 6) (by omega) (by omega)), if_neg h6, show nI st + 0 = nI st from nI_add st 0]
    rfl
theorem ff_cell {S : St} {c n : Nat} {H : Nat → Nat} (k10 : St → Int32 → Option St) (hc : c < 343) (h : hA S 60 H) : ∃ S1, mX7_findFactors_30 k10 (n + 4) S (nI c) (nI (hexN (7 * c))) 0 0 0 = k10 S1 (nI (c + 1)) ∧ (∀ w, lsum w S1 25 = lsum w S 25 + zI (cellZ w (gC c) (sC c) (H c))) ∧ Fr [25] [] S S1 := by
  obtain ⟨s3, s18⟩ := gsC hc
  have e0 : ex 0 (7 * c) = c / 49 := by show 7 * c / 343 = c / 49; omega
  have e1 : ex 1 (7 * c) = c / 7 % 7 := by show 7 * c / 49 % 7 = c / 7 % 7; omega
  have e2 : ex 2 (7 * c) = c % 7 := by show 7 * c / 7 % 7 = c % 7; omega
  have eg : 0 + ex 0 (7 * c) + ex (0 + 1) (7 * c) + ex (0 + 1 + 1) (7 * c) = gC c := by
    show 0 + ex 0 (7 * c) + ex 1 (7 * c) + ex 2 (7 * c) = gC c
    rw [e0, e1, e2, Nat.zero_add]
    rfl
  have es : 0 + (if ex 0 (7 * c) < 6 then 1 else 0) + (if ex (0 + 1) (7 * c) < 6 then 1 else 0) + (if ex (0 + 1 + 1) (7 * c) < 6 then 1 else 0) = sC c := by
    show 0 + (if ex 0 (7 * c) < 6 then 1 else 0) + (if ex 1 (7 * c) < 6 then 1 else 0) + (if ex 2 (7 * c) < 6 then 1 else 0) = sC c
    rw [e0, e1, e2, Nat.zero_add]
    rfl
  obtain ⟨S1, a1, a2, a3⟩ := addSteps_spec (S := S) (g := gC c) (st := sC c) (t := 1) s3 (by omega)
  have h1 := hA_fr h a3 (by decide)
  obtain ⟨k1, k2⟩ := h1 c hc
  rw [show mX7_findFactors_30 k10 (n + 4) S (nI c) (nI (hexN (7 * c))) 0 0 0 = _ from ff30_step (g := 0) (st := 0) (v := 0) (n := n + 3) k10 hc (by decide), ff30_step k10 hc (by decide), ff30_step k10 hc (by decide), eg, es]
  simp only [mX7_findFactors_30, mX7_findFactors_112, bnd_eq, nI_1]
  rw [if_pos (show (3 : Int32) ≤ nI (0 + 1 + 1 + 1) by decide), show mX7_addSteps S (nI (gC c)) (nI (sC c)) 1 = some S1 from a1, obs, inb_nI hc (by decide), k1, inb_nI hc (by decide), k1]
  by_cases h6 : H c ≤ 6
  · obtain ⟨S2, b1, b2, b3⟩ := addSteps_spec (S := S1) (g := gC c + H c) (st := sC c) (t := -1) s3 (by omega)
    rw [if_neg (show ¬ (6 : Int32) < nI (H c) from nI_nlt (a := 6) h6 (by decide)), nI_add, show mX7_addSteps S1 (nI (gC c + H c)) (nI (sC c)) (-1) = some S2 from b1, obs]
    refine ⟨S2, rfl, fun w => ?_, a3.trans b3⟩
    rw [b2 w, a2 w]
    unfold cellZ
    rw [if_pos h6, zI_sub, zI_mul, zI_mul, show zI 1 = 1 from rfl, show zI (-1) = -1 from rfl]
    grind
  · rw [if_pos (show (6 : Int32) < nI (H c) from nI_lt (a := 6) (by omega) (by omega))]
    refine ⟨S1, rfl, fun w => ?_, a3⟩
    rw [a2 w]
    unfold cellZ
    rw [if_neg h6, Int.sub_zero, Int.one_mul]
theorem al25 : alen 25 = 25 := rfl
theorem findFactors_spec {S : St} {H : Nat → Nat} (h : hA S 60 H) : ∃ S1, mX7_findFactors S = some S1 ∧ (∀ w, lsum w S1 25 = zI (cellsZ w H 343)) ∧ Fr [25] [] S S1 := by
  obtain ⟨S0, a1, a2, a3⟩ := fill_spec (S := S) (n := 25) (v := 0) (by rw [al25]; decide)
  rw [al25] at a2
  unfold mX7_findFactors
  rw [a1, obs]
  refine loopG (σ := St) (N := 343) (fun f i s => mX7_findFactors_10 f s (nI i)) (fun i s => (∀ w, lsum w s 25 = zI (cellsZ w H i)) ∧ Fr [25] [] S s) (fun r => ∃ S1, r = some S1 ∧ (∀ w, lsum w S1 25 = zI (cellsZ w H 343)) ∧ Fr [25] [] S S1) (by omega) ?_ ?_ S0 ⟨fun w => lsum_zero 25 a2, a3⟩
  · intro i f s hi hI
    obtain ⟨s1, e1, e2, e3⟩ := ff_cell (n := 1073741820) (mX7_findFactors_10 f) hi (hA_fr h hI.2 (by decide))
    refine Or.inl ⟨s1, ⟨fun w => ?_, hI.2.trans e3⟩, ?_⟩
    · rw [e2 w, hI.1 w]
      exact (zI_add _ _).symm
    · simp only [mX7_findFactors_10]
      rw [if_neg (show ¬ (343 : Int32) ≤ nI i from nI_ge (b := 343) hi (by decide)), monomialOf_spec hi, obs, show FU = 1073741820 + 4 from rfl, e1]
  · intro f s hI
    simp only [mX7_findFactors_10]
    rw [if_pos (show (343 : Int32) ≤ nI 343 by decide)]
    exact ⟨s, rfl, hI.1, hI.2⟩
def c3 (x : Nat) : Nat := (x + 1) * (x + 2) * (x + 3) / 6
def wcD (deg k : Nat) : Int := if k ≤ deg then (c3 (deg - k) : Int) else 0
def wsP (p k : Nat) : Int := if k = p then 1 else 0
theorem ofDegree_spec {x : Nat} (h : x ≤ 60) : mX3_ofDegree (nI x) = some (nI (c3 x)) := by
  have hb : (x + 1) * (x + 2) * (x + 3) ≤ 61 * 62 * 63 := Nat.mul_le_mul (Nat.mul_le_mul (by omega) (by omega)) (by omega)
  unfold mX3_ofDegree c3
  rw [nI_1, show nI x + 2 = nI (x + 2) from nI_add x 2, show nI x + 3 = nI (x + 3) from nI_add x 3, nI_mul, nI_mul, show nI ((x + 1) * (x + 2) * (x + 3)) / 6 = _ from nI_div (d := 6) (by omega) (by decide) (by decide)]
theorem lsum_stop {w : Nat → Int} {S : St} {m : Nat} : ∀ k, (∀ j, m ≤ j → j < m + k → w j = 0) → lsum w S (m + k) = lsum w S m := by
  intro k
  induction k with
  | zero => intro _; rfl
  | succ k ih =>
    intro h
    show lsum w S (m + k) + gA S 25 (m + k) * zI (w (m + k)) = _
    rw [ih (fun j h1 h2 => h j h1 (by omega)), h (m + k) (by omega) (by omega), show zI 0 = 0 from rfl]
    grind
theorem ofDeg_loop {S : St} {deg : Nat} (hd : deg ≤ 60) : mX7_standardOfDegree_8 FU S (nI deg) 0 0 = some (lsum (wcD deg) S 25, S) := by
  refine loopG (σ := Unit) (N := 25) (fun f k _ => mX7_standardOfDegree_8 f S (nI deg) (lsum (wcD deg) S k) (nI k)) (fun _ _ => True) (fun r => r = some (lsum (wcD deg) S 25, S)) (by omega) ?_ ?_ () trivial
  · intro k f _ hk _
    simp only [mX7_standardOfDegree_8, bnd_eq, nI_1]
    rw [if_neg (show ¬ (24 : Int32) < nI k from nI_nlt (a := 24) (by omega) (by decide))]
    by_cases hl : k ≤ deg
    · refine Or.inl ⟨(), trivial, ?_⟩
      rw [if_neg (nI_nlt hl (by omega)), inb_nI hk (by decide), nI_sub hl, ofDegree_spec (by omega), obs]
      show _ = mX7_standardOfDegree_8 f S (nI deg) (lsum (wcD deg) S k + gA S 25 k * zI (wcD deg k)) (nI (k + 1))
      unfold wcD
      rw [if_pos hl, zI_nI]
    · refine Or.inr ?_
      rw [if_pos (nI_lt (by omega) (by omega))]
      have := lsum_stop (w := wcD deg) (S := S) (m := k) (25 - k) (fun j h1 h2 => if_neg (by omega))
      rw [show k + (25 - k) = 25 by omega] at this
      rw [this]
  · intro f _ _
    simp only [mX7_standardOfDegree_8]
    rw [if_pos (show (24 : Int32) < nI 25 by decide)]
theorem lsum_one {S : St} {p : Nat} : ∀ k, lsum (wsP p) S k = (if p < k then gA S 25 p else 0) := by
  intro k
  induction k with
  | zero => rw [if_neg (Nat.not_lt_zero p)]; rfl
  | succ k ih =>
    show lsum (wsP p) S k + gA S 25 k * zI (wsP p k) = _
    rw [ih]
    unfold wsP
    by_cases he : k = p
    · subst he
      rw [if_neg (Nat.lt_irrefl k), if_pos rfl, if_pos (Nat.lt_succ_self k), show zI 1 = 1 from rfl]
      grind
    · rw [if_neg he, show zI 0 = 0 from rfl]
      by_cases hlt : p < k
      · rw [if_pos hlt, if_pos (by omega)]
        grind
      · rw [if_neg hlt, if_neg (by omega)]
        grind
theorem sgS_shift (w : Nat → Int) (g st : Nat) : ∀ m, sgS w g st m = sgS (fun k => w (g + k)) 0 st m := by
  intro m
  induction m with
  | zero => rfl
  | succ m ih =>
    show sgS w g st m + stZ (4 * st + m) * w (g + m) = sgS (fun k => w (g + k)) 0 st m + stZ (4 * st + m) * w (g + (0 + m))
    rw [ih, Nat.zero_add]
theorem sgS_congr {w w1 : Nat → Int} (h : ∀ k, w k = w1 k) (g st : Nat) : ∀ m, sgS w g st m = sgS w1 g st m := by
  intro m
  induction m with
  | zero => rfl
  | succ m ih =>
    show sgS w g st m + stZ (4 * st + m) * w (g + m) = sgS w1 g st m + stZ (4 * st + m) * w1 (g + m)
    rw [ih, h]
theorem sgS_zero {w : Nat → Int} (h : ∀ k, w k = 0) (g st : Nat) : ∀ m, sgS w g st m = 0 := by
  intro m
  induction m with
  | zero => rfl
  | succ m ih =>
    show sgS w g st m + stZ (4 * st + m) * w (g + m) = 0
    rw [ih, h, Int.mul_zero, Int.add_zero]
theorem cellZ_shift {w w1 : Nat → Int} {g st h : Nat} (e : ∀ k, w (g + k) = w1 k) : cellZ w g st h = cellZ w1 0 st h := by
  unfold cellZ
  rw [sgS_shift w g, sgS_congr e, sgS_shift w (g + h), sgS_shift w1 (0 + h), sgS_congr (w := fun k => w (g + h + k)) (w1 := fun k => w1 (0 + h + k)) (fun k => by rw [Nat.add_assoc, e, Nat.zero_add])]
theorem cellZ_none {w : Nat → Int} {g st h : Nat} (e : ∀ k, w (g + k) = 0) : cellZ w g st h = 0 := by
  rw [cellZ_shift (w1 := fun _ => 0) e]
  unfold cellZ
  rw [sgS_zero (fun _ => rfl), sgS_zero (fun _ => rfl)]
  split <;> rfl
