/-! PURE PART: count, series -/
def chF (n : Nat) : Nat → Nat
  | 0 => 1
  | e + 1 => chF n e * (n - e) / (e + 1)
theorem chF_le {n : Nat} (hn : n ≤ 64) : ∀ e, chF n e ≤ 64 ^ e := by
  intro e
  induction e with
  | zero => exact Nat.le_refl 1
  | succ e ih =>
    show chF n e * (n - e) / (e + 1) ≤ 64 ^ e * 64
    exact Nat.le_trans (Nat.div_le_self _ _) (Nat.mul_le_mul ih (by omega))
theorem choose_spec {n k : Nat} (hk : k ≤ 3) (hkn : k ≤ n) (hn : n ≤ 64) : mX11_choose (nI n) (nI k) = some (nI (chF n k)) := by
  unfold mX11_choose
  refine loopN (N := k) (fun f e => mX11_choose_4 f (nI n) (nI k) (nI (chF n e)) (nI e)) (by omega) ?_ ?_
  · intro e f he
    have hb := chF_le hn e
    have hp : (64 : Nat) ^ e ≤ 64 ^ 3 := Nat.pow_le_pow_right (by decide) (by omega)
    have hm : chF n e * (n - e) ≤ 64 ^ 3 * 64 := Nat.mul_le_mul (Nat.le_trans hb hp) (by omega)
    simp only [mX11_choose_4, bnd_eq, nI_1]
    rw [if_neg (nI_ge he (by omega)), nzg_nI _ (by omega) (by omega), nI_sub (by omega), nI_mul, nI_div (by omega) (by omega) (by omega)]
    rfl
  · intro f
    simp only [mX11_choose_4]
    rw [if_pos (nI_le (Nat.le_refl _) (by omega))]
def sfv (sum free deg : Nat) : Nat := if free = 0 then (if sum = deg then 1 else 0) else if sum ≤ deg then chF (deg - sum + free - 1) (free - 1) else 0
def frN (x : Nat) : Nat := if x = 6 then 1 else 0
def sfN (p deg : Nat) : Nat := sfv (ex 0 p + ex 1 p + ex 2 p + ex 3 p) (frN (ex 0 p) + frN (ex 1 p) + frN (ex 2 p) + frN (ex 3 p)) deg
theorem sf_step {p v n s f : Nat} {x1 : Int32} (hp : p < 2401) (hv : v < 4) : mX11_standsFor_7 (n + 1) (nI (decN p)) x1 (nI s) (nI f) (nI v) = mX11_standsFor_7 n (nI (decN p)) x1 (nI (s + ex v p)) (nI (f + frN (ex v p))) (nI (v + 1)) := by
  have hx := ex_lt (v := v) hp
  simp only [mX11_standsFor_7, mX11_standsFor_39, bnd_eq, nI_1]
  rw [if_neg (show ¬ (4 : Int32) ≤ nI v from nI_ge (b := 4) hv (by decide)), power_dec hv hp, obs, nI_add, obs]
  unfold frN
  by_cases h6 : ex v p = 6
  · rw [if_pos (show nI (ex v p) = 6 by rw [h6]; rfl), if_pos h6]
  · rw [if_neg (show ¬ nI (ex v p) = 6 from fun e => h6 ((nI_eq (b := 6) (by omega) (by decide)).mp e)), if_neg h6, show nI f + 0 = nI f from nI_add f 0]
    rfl
theorem frN_le (x : Nat) : frN x ≤ 1 := by
  unfold frN
  split <;> omega
theorem standsFor_fuel {p deg : Nat} (n : Nat) (hp : p < 2401) (hd : deg ≤ 60) : mX11_standsFor_7 (n + 1 + 1 + 1 + 1 + 1) (nI (decN p)) (nI deg) 0 0 0 = some (nI (sfN p deg)) := by
  rw [show mX11_standsFor_7 (n + 1 + 1 + 1 + 1 + 1) (nI (decN p)) (nI deg) 0 0 0 = _ from sf_step (s := 0) (f := 0) (v := 0) hp (by decide), sf_step hp (by decide), sf_step hp (by decide), sf_step hp (by decide)]
  simp only [mX11_standsFor_7]
  rw [if_pos (show (4 : Int32) ≤ nI (0 + 1 + 1 + 1 + 1) by decide)]
  have x0 := ex_lt (v := 0) hp
  have x1 := ex_lt (v := 1) hp
  have x2 := ex_lt (v := 2) hp
  have x3 := ex_lt (v := 3) hp
  have f0 := frN_le (ex 0 p)
  have f1 := frN_le (ex 1 p)
  have f2 := frN_le (ex 2 p)
  have f3 := frN_le (ex 3 p)
  have hs : 0 + ex 0 p + ex (0 + 1) p + ex (0 + 1 + 1) p + ex (0 + 1 + 1 + 1) p = ex 0 p + ex 1 p + ex 2 p + ex 3 p := by rw [Nat.zero_add (ex 0 p)]
  have hf : 0 + frN (ex 0 p) + frN (ex (0 + 1) p) + frN (ex (0 + 1 + 1) p) + frN (ex (0 + 1 + 1 + 1) p) = frN (ex 0 p) + frN (ex 1 p) + frN (ex 2 p) + frN (ex 3 p) := by rw [Nat.zero_add (frN (ex 0 p))]
  rw [hs, hf]
  unfold sfN
  have hsl : ex 0 p + ex 1 p + ex 2 p + ex 3 p ≤ 24 := by omega
  have hfl : frN (ex 0 p) + frN (ex 1 p) + frN (ex 2 p) + frN (ex 3 p) ≤ 4 := by omega
  generalize ex 0 p + ex 1 p + ex 2 p + ex 3 p = s at *
  generalize frN (ex 0 p) + frN (ex 1 p) + frN (ex 2 p) + frN (ex 3 p) = f at *
  unfold sfv
  by_cases h0 : f = 0
  · rw [if_pos (show nI f = 0 by rw [h0]; rfl), if_pos h0]
    by_cases he : s = deg
    · rw [if_pos (congrArg nI he), if_pos he]
      rfl
    · rw [if_neg (fun e => he ((nI_eq (by omega) (by omega)).mp e)), if_neg he]
      rfl
  · rw [if_neg (nI_ne0 (by omega) (by omega)), if_neg h0]
    by_cases hl : s ≤ deg
    · rw [if_pos (nI_le hl (by omega)), if_pos hl, nI_sub hl, nI_add, show nI (deg - s + f) - 1 = nI (deg - s + f - 1) from nI_sub (b := 1) (by omega), show nI f - 1 = nI (f - 1) from nI_sub (b := 1) (by omega), choose_spec (by omega) (by omega) (by omega), obs]
    · rw [if_neg (nI_ge (by omega) (by omega)), if_neg hl]
      rfl
theorem standsFor_spec {p deg : Nat} (hp : p < 2401) (hd : deg ≤ 60) : mX11_standsFor (nI (decN p)) (nI deg) = some (nI (sfN p deg)) := standsFor_fuel 1073741819 hp hd
def cntI (T : Nat → Bool) (deg : Nat) : Nat → Nat
  | 0 => 0
  | i + 1 => cntI T deg i + (if T i then sfN i deg else 0)
theorem countOf_spec {S : St} {T : Nat → Bool} {deg : Nat} (hT : mk S 8 T) (hd : deg ≤ 60) : mX11_countOf S (nI deg) = some (nI (cntI T deg 2401)) := by
  unfold mX11_countOf
  refine loopN (N := 2401) (fun f i => mX11_countOf_4 S f (nI deg) (nI (cntI T deg i)) (nI i)) (by omega) ?_ ?_
  · intro i f hi
    simp only [mX11_countOf_4, mX11_countOf_37, bnd_eq, nI_1]
    rw [if_neg (show ¬ (2401 : Int32) ≤ nI i from nI_ge (b := 2401) hi (by decide)), if_neg (nI_pos (by omega)), inb_nI hi (by decide), hT i hi, codeAt_spec hi, obs, standsFor_spec hi hd, obs]
    show _ = mX11_countOf_4 S f (nI deg) (nI (cntI T deg i + (if T i then sfN i deg else 0))) (nI (i + 1))
    cases T i with
    | true =>
      rw [if_neg (by decide), nI_add]
      rfl
    | false =>
      rw [if_pos (by decide), show nI (cntI T deg i) + 0 = nI (cntI T deg i) from nI_add _ 0]
      rfl
  · intro f
    simp only [mX11_countOf_4]
    rw [if_pos (show (2401 : Int32) ≤ nI 2401 by decide)]
theorem countOf_fuel {S : St} {a : Int32} (n : Nat) (ha : a < 0) : mX11_countOf_4 S (n + 1) a 0 0 = some 0 := by
  simp only [mX11_countOf_4]
  rw [if_neg (by decide), if_pos ha]
theorem countOf_neg {S : St} {a : Int32} (ha : a < 0) : mX11_countOf S a = some 0 := countOf_fuel 1073741823 ha
def rhN (g f deg : Nat) : Nat → Nat
  | 0 => 0
  | d + 1 => rhN g f deg d + sfv (g + d) (f + frN d) deg
def rhs (H : Nat → Nat) (deg : Nat) : Nat → Nat
  | 0 => 0
  | i + 1 => rhs H deg i + rhN (gC i) (3 - sC i) deg (H i)
theorem sf_cell {c d deg : Nat} (hc : c < 343) (hd : d < 7) : sfN (7 * c + d) deg = sfv (gC c + d) (3 - sC c + frN d) deg := by
  have e0 : ex 0 (7 * c + d) = c / 49 := by show (7 * c + d) / 343 = c / 49; omega
  have e1 : ex 1 (7 * c + d) = c / 7 % 7 := by show (7 * c + d) / 49 % 7 = c / 7 % 7; omega
  have e2 : ex 2 (7 * c + d) = c % 7 := by show (7 * c + d) / 7 % 7 = c % 7; omega
  have e3 : ex 3 (7 * c + d) = d := by show (7 * c + d) % 7 = d; omega
  unfold sfN
  rw [e0, e1, e2, e3]
  have h0 : c / 49 < 7 := by omega
  have h1 : c / 7 % 7 < 7 := by omega
  have h2 : c % 7 < 7 := by omega
  have hf : frN (c / 49) + frN (c / 7 % 7) + frN (c % 7) + frN d = 3 - sC c + frN d := by
    unfold sC
    generalize c / 49 = x at *
    generalize c / 7 % 7 = y at *
    generalize c % 7 = z at *
    unfold frN
    by_cases q0 : x = 6 <;> by_cases q1 : y = 6 <;> by_cases q2 : z = 6 <;> simp [q0, q1, q2] <;> (repeat split) <;> omega
  rw [hf]
  rfl
theorem cnt_rhs {H : Nat → Nat} {T : Nat → Bool} {deg : Nat} (hH : ∀ c, c < 343 → H c ≤ 7) (hT : ∀ p, p < 2401 → T p = !(bH H p)) : ∀ i, i ≤ 343 → cntI T deg (7 * i) = rhs H deg i := by
  intro i
  induction i with
  | zero => intro _; rfl
  | succ i ih =>
    intro hi
    have h7 := hH i (by omega)
    have l : ∀ d, d < 7 → (if T (7 * i + d) then sfN (7 * i + d) deg else 0) = (if d < H i then sfv (gC i + d) (3 - sC i + frN d) deg else 0) := fun d hd => by
      rw [sf_cell (by omega) hd, hT _ (by omega)]
      unfold bH
      rw [show (7 * i + d) / 7 = i by omega, show (7 * i + d) % 7 = d by omega]
      by_cases hl : d < H i
      · rw [if_pos hl, decide_eq_false (by omega)]
        rfl
      · rw [if_neg hl, decide_eq_true (by omega)]
        rfl
    have st : ∀ j, cntI T deg (j + 1) = cntI T deg j + (if T j then sfN j deg else 0) := fun j => rfl
    show _ = rhs H deg i + rhN (gC i) (3 - sC i) deg (H i)
    rw [← ih (by omega), show 7 * (i + 1) = 7 * i + 6 + 1 by omega, st, st (7 * i + 5), st (7 * i + 4), st (7 * i + 3), st (7 * i + 2), st (7 * i + 1), st (7 * i), show (if T (7 * i) then sfN (7 * i) deg else 0) = _ from l 0 (by decide), l 1 (by decide), l 2 (by decide), l 3 (by decide), l 4 (by decide), l 5 (by decide), l 6 (by decide)]
    clear l st ih
    generalize H i = x at *
    generalize cntI T deg (7 * i) = z
    generalize gC i = g
    generalize 3 - sC i = f
    rcases (show x = 0 ∨ x = 1 ∨ x = 2 ∨ x = 3 ∨ x = 4 ∨ x = 5 ∨ x = 6 ∨ x = 7 by omega) with rfl | rfl | rfl | rfl | rfl | rfl | rfl | rfl <;> simp [rhN] <;> omega
theorem rhN_shift (g f e : Nat) : ∀ h, rhN g f (g + e) h = rhN 0 f e h := by
  intro h
  induction h with
  | zero => rfl
  | succ d ih =>
    show rhN g f (g + e) d + sfv (g + d) (f + frN d) (g + e) = rhN 0 f e d + sfv (0 + d) (f + frN d) e
    rw [ih, Nat.zero_add]
    congr 1
    unfold sfv
    have h1 : (g + d = g + e) = (d = e) := propext (by omega)
    have h2 : (g + d ≤ g + e) = (d ≤ e) := propext (by omega)
    simp only [h1, h2]
    rw [show g + e - (g + d) = e - d by omega]
theorem rhN_none {g deg : Nat} (hlt : deg < g) (f : Nat) : ∀ h, rhN g f deg h = 0 := by
  intro h
  induction h with
  | zero => rfl
  | succ d ih =>
    show rhN g f deg d + sfv (g + d) (f + frN d) deg = 0
    rw [ih, Nat.zero_add]
    unfold sfv
    rw [if_neg (show ¬ g + d = deg by omega), if_neg (show ¬ g + d ≤ deg by omega)]
    split <;> rfl
theorem count_chk : ∀ st, st < 4 → ∀ h, h < 8 → ∀ e, e < 61 → cellZ (wcD e) 0 st h = (rhN 0 (3 - st) e h : Int) := by decide +kernel
def rhZ (f h e j : Nat) : Int := if j ≤ e then (rhN 0 f (e - j) h : Int) else 0
theorem series_chk : ∀ st, st < 4 → ∀ h, h < 8 → ∀ e, e < 61 → cellZ (wsP e) 0 st h = rhZ (3 - st) h e 0 - 4 * rhZ (3 - st) h e 1 + 6 * rhZ (3 - st) h e 2 - 4 * rhZ (3 - st) h e 3 + rhZ (3 - st) h e 4 := by decide +kernel
theorem count_cell {deg g st h : Nat} (hd : deg ≤ 60) (hst : st ≤ 3) (hh : h ≤ 7) : cellZ (wcD deg) g st h = (rhN g (3 - st) deg h : Int) := by
  by_cases hl : g ≤ deg
  · obtain ⟨e, rfl⟩ : ∃ e, deg = g + e := ⟨deg - g, by omega⟩
    rw [rhN_shift, ← count_chk st (by omega) h (by omega) e (by omega)]
    refine cellZ_shift (fun k => ?_)
    unfold wcD
    by_cases hk : k ≤ e
    · rw [if_pos hk, if_pos (by omega), show g + e - (g + k) = e - k by omega]
    · rw [if_neg hk, if_neg (by omega)]
  · rw [rhN_none (by omega)]
    exact cellZ_none (fun k => if_neg (by omega))
theorem count_all {H : Nat → Nat} {deg : Nat} (hH : ∀ c, c < 343 → H c ≤ 7) (hd : deg ≤ 60) : ∀ i, i ≤ 343 → cellsZ (wcD deg) H i = (rhs H deg i : Int) := by
  intro i
  induction i with
  | zero => intro _; rfl
  | succ i ih =>
    intro hi
    show cellsZ (wcD deg) H i + cellZ (wcD deg) (gC i) (sC i) (H i) = ((rhs H deg i + rhN (gC i) (3 - sC i) deg (H i) : Nat) : Int)
    rw [ih (by omega), count_cell hd (gsC (by omega)).1 (hH i (by omega)), Int.natCast_add]
def rsZ (H : Nat → Nat) (p i j : Nat) : Int := if j ≤ p then (rhs H (p - j) i : Int) else 0
def rcZ (g f h p j : Nat) : Int := if j ≤ p then (rhN g f (p - j) h : Int) else 0
theorem series_cell {p g st h : Nat} (hd : p ≤ 60) (hst : st ≤ 3) (hh : h ≤ 7) : cellZ (wsP p) g st h = rcZ g (3 - st) h p 0 - 4 * rcZ g (3 - st) h p 1 + 6 * rcZ g (3 - st) h p 2 - 4 * rcZ g (3 - st) h p 3 + rcZ g (3 - st) h p 4 := by
  by_cases hl : g ≤ p
  · obtain ⟨e, rfl⟩ : ∃ e, p = g + e := ⟨p - g, by omega⟩
    have key : ∀ j, rcZ g (3 - st) h (g + e) j = rhZ (3 - st) h e j := fun j => by
      unfold rcZ rhZ
      by_cases hj : j ≤ e
      · rw [if_pos hj, if_pos (by omega), show g + e - j = g + (e - j) by omega, rhN_shift]
      · rw [if_neg hj]
        by_cases hj2 : j ≤ g + e
        · rw [if_pos hj2, rhN_none (by omega)]
          rfl
        · rw [if_neg hj2]
    rw [key, key, key, key, key, ← series_chk st (by omega) h (by omega) e (by omega)]
    refine cellZ_shift (fun k => ?_)
    unfold wsP
    by_cases hk : k = e
    · rw [if_pos hk, if_pos (by omega)]
    · rw [if_neg hk, if_neg (by omega)]
  · have key : ∀ j, rcZ g (3 - st) h p j = 0 := fun j => by
      unfold rcZ
      split
      · rw [rhN_none (by omega)]
        rfl
      · rfl
    rw [key, key, key, key, key]
    exact cellZ_none (fun k => if_neg (by omega))
theorem series_all {H : Nat → Nat} {p : Nat} (hH : ∀ c, c < 343 → H c ≤ 7) (hd : p ≤ 60) : ∀ i, i ≤ 343 → cellsZ (wsP p) H i = rsZ H p i 0 - 4 * rsZ H p i 1 + 6 * rsZ H p i 2 - 4 * rsZ H p i 3 + rsZ H p i 4 := by
  intro i
  induction i with
  | zero =>
    intro _
    have z : ∀ j, rsZ H p 0 j = 0 := fun j => by
      unfold rsZ
      split <;> rfl
    rw [z, z, z, z, z]
    rfl
  | succ i ih =>
    intro hi
    have key : ∀ j, rsZ H p (i + 1) j = rsZ H p i j + rcZ (gC i) (3 - sC i) (H i) p j := fun j => by
      unfold rsZ rcZ
      by_cases hj : j ≤ p
      · rw [if_pos hj, if_pos hj, if_pos hj]
        exact Int.natCast_add _ _
      · rw [if_neg hj, if_neg hj, if_neg hj]
        rfl
    show cellsZ (wsP p) H i + cellZ (wsP p) (gC i) (sC i) (H i) = _
    rw [ih (by omega), series_cell hd (gsC (by omega)).1 (hH i (by omega)), key, key, key, key, key]
    omega
theorem deg_cases (a : Int32) : ((a < 0 ∨ ¬ a ≤ 60) ∧ mX11_in a.toInt64 0 60 = some 0) ∨ ∃ d, d ≤ 60 ∧ a = nI d ∧ mX11_in a.toInt64 0 60 = some 1 := by
  rcases arg a with ha | ⟨d, hd, rfl⟩
  · refine Or.inl ⟨Or.inl ha, ?_⟩
    rw [show (0 : Int64) = lN 0 from rfl, in_neg (l := 0) ha (by decide)]
    rfl
  · have hin : mX11_in (nI d).toInt64 0 60 = some (b2 (decide (0 ≤ d) && decide (d ≤ 60))) := in_nI (l := 0) (h := 60) hd (by decide) (by decide)
    rw [decide_eq_true (Nat.zero_le d), Bool.true_and] at hin
    by_cases h : d ≤ 60
    · rw [decide_eq_true h] at hin
      exact Or.inr ⟨d, h, rfl, hin⟩
    · rw [decide_eq_false h] at hin
      exact Or.inl ⟨Or.inr (show ¬ nI d ≤ 60 from nI_ge (a := 60) (by omega) hd), hin⟩
theorem refuse_cases (a0 a1 : Int32) : (mX10_refuseDegree a0 a1 = some (-1) ∧ mX11_isIdeal a0 = some 0) ∨ (mX10_refuseDegree a0 a1 = some (-2) ∧ mX11_isIdeal a0 = some 1 ∧ mX11_in a1.toInt64 0 60 = some 0) ∨ ∃ h d, h < 4 ∧ d ≤ 60 ∧ a0 = nI h ∧ a1 = nI d ∧ mX10_refuseDegree a0 a1 = some 0 ∧ mX11_isIdeal a0 = some 1 ∧ mX11_in a1.toInt64 0 60 = some 1 := by
  unfold mX10_refuseDegree mX10_refuseDegree_19
  rcases ideal_cases a0 with ⟨c0, r0⟩ | ⟨h, hh, rfl, c0, r0⟩
  · rw [c0, obs]
    exact Or.inl ⟨if_pos rfl, r0⟩
  · rw [c0, obs, if_neg (by decide)]
    rcases deg_cases a1 with ⟨h1, r1⟩ | ⟨d, hd, rfl, r1⟩
    · refine Or.inr (Or.inl ⟨?_, r0, r1⟩)
      rcases h1 with h1 | h1
      · rw [if_pos h1]
      · by_cases hn : a1 < 0
        · rw [if_pos hn]
        · rw [if_neg hn, if_neg h1]
    · refine Or.inr (Or.inr ⟨h, d, hh, hd, rfl, rfl, ?_, r0, r1⟩)
      rw [if_neg (nI_pos (by omega)), if_pos (show nI d ≤ 60 from nI_le (b := 60) hd (by decide))]
theorem count_class {S : St} {H : Nat → Nat} {deg : Nat} (h : hA S 60 H) (hd : deg ≤ 60) : ∃ S1, mX7_standardOfDegree S (nI deg) = some (nI (rhs H deg 343), S1) ∧ Fr [25] [] S S1 := by
  obtain ⟨S1, e1, e2, e3⟩ := findFactors_spec h
  refine ⟨S1, ?_, e3⟩
  unfold mX7_standardOfDegree
  rw [e1, obs, ofDeg_loop hd, e2, count_all (fun c hc => (h c hc).2) hd 343 (Nat.le_refl _), zI_nI]
theorem count_ref {S1 S2 : St} {G : List Nat} {H : Nat → Nat} {deg : Nat} (h : hA S1 60 H) (hB : ∀ p, p < 2401 → up G p = bH H p) (hT : mk S2 8 (fun p => !(up G p))) (hd : deg ≤ 60) : mX11_countOf S2 (nI deg) = some (nI (rhs H deg 343)) := by
  rw [countOf_spec hT hd, show cntI (fun p => !(up G p)) deg 2401 = rhs H deg 343 from cnt_rhs (T := fun p => !(up G p)) (fun c hc => (h c hc).2) (fun p hp => by
    show (!(up G p)) = _
    rw [hB p hp]) 343 (Nat.le_refl _)]
theorem pf_count : PF_count Inv := by
  intro pr S a0 a1 hI
  unfold mX10_count mX11_count
  rcases refuse_cases a0 a1 with ⟨c0, r0⟩ | ⟨c0, r0, r1⟩ | ⟨h, d, hh, hd, rfl, rfl, c0, r0, r1⟩
  · rw [c0, obs]
    exact ⟨-1, S, S, if_neg (by decide), by rw [r0, obs, if_pos rfl], hI⟩
  · rw [c0, obs]
    exact ⟨-2, S, S, if_neg (by decide), by rw [r0, obs, if_neg (by decide), r1, obs, if_pos rfl], hI⟩
  · obtain ⟨G, g1, g2, g3⟩ := hI.2.1 h (by omega)
    obtain ⟨S1, H, l1, l2, l3, l4⟩ := look_spec (m := 65 + 2 * h) (by omega) g3 g1.1 g1.2.1
    obtain ⟨S2, e1, e2⟩ := count_class l2 hd
    have l5 := l4.mono (A1 := scA) (K1 := scK) (by decide) (by simp)
    have e3 := e2.mono (A1 := scA) (K1 := scK) (by decide) (by simp)
    obtain ⟨S3, q1, q2, q3⟩ := findStandard_spec (S := S2) (h := h) (by omega) (mG_fr (mG_fr g2 l4 (by decide) (by decide)) e2 (by decide) (by decide)) g1.1 g1.2.1
    rw [c0, obs, if_pos rfl, inb_nI hh (by decide), el62, l1, obs, e1, obs]
    refine ⟨_, S2, S3, rfl, ?_, Inv_fr (Inv_fr (Inv_fr hI l5) e3) (q3.mono (by decide) (by simp))⟩
    rw [r0, obs, if_neg (by decide), r1, obs, if_neg (by decide), q1, obs, count_ref l2 l3 q2 hd, obs]
theorem pf_series : PF_series Inv := by
  intro pr S a0 a1 hI
  unfold mX10_series mX11_series
  rcases refuse_cases a0 a1 with ⟨c0, r0⟩ | ⟨c0, r0, r1⟩ | ⟨h, d, hh, hd, rfl, rfl, c0, r0, r1⟩
  · rw [c0, obs]
    exact ⟨_, S, S, if_neg (by decide), by rw [r0, obs, if_pos rfl]; rfl, hI⟩
  · rw [c0, obs]
    exact ⟨_, S, S, if_neg (by decide), by rw [r0, obs, if_neg (by decide), r1, obs, if_pos rfl]; rfl, hI⟩
  · obtain ⟨G, g1, g2, g3⟩ := hI.2.1 h (by omega)
    obtain ⟨S1, H, l1, l2, l3, l4⟩ := look_spec (m := 65 + 2 * h) (by omega) g3 g1.1 g1.2.1
    obtain ⟨S2, e1, e0, e2⟩ := findFactors_spec l2
    have l5 := l4.mono (A1 := scA) (K1 := scK) (by decide) (by simp)
    have e3 := e2.mono (A1 := scA) (K1 := scK) (by decide) (by simp)
    obtain ⟨S3, q1, q2, q3⟩ := findStandard_spec (S := S2) (h := h) (by omega) (mG_fr (mG_fr g2 l4 (by decide) (by decide)) e2 (by decide) (by decide)) g1.1 g1.2.1
    have hcls : mX7_seriesFactor S1 (nI d) = some (lsum (wsP d) S2 25, S2) := by
      unfold mX7_seriesFactor
      rw [e1, obs, if_neg (nI_pos (by omega)), lsum_one]
      by_cases h24 : d < 25
      · rw [if_neg (show ¬ (24 : Int32) < nI d from nI_nlt (a := 24) (by omega) (by decide)), if_pos h24, inb_nI h24 (by decide)]
      · rw [if_pos (show (24 : Int32) < nI d from nI_lt (a := 24) (by omega) (by omega)), if_neg h24]
    have hcnt : ∀ j, j ≤ 4 → mX11_countOf S3 (nI d - nI j) = some (zI (rsZ H d 343 j)) := fun j hj => by
      unfold rsZ
      by_cases hl : j ≤ d
      · rw [if_pos hl, nI_sub hl, count_ref l2 l3 q2 (by omega), zI_nI]
      · rw [if_neg hl, countOf_neg (pk_sneg (by omega) (by omega))]
        rfl
    have c0' := hcnt 0 (by decide)
    rw [nI_sub (Nat.zero_le d), Nat.sub_zero] at c0'
    rw [c0, obs, if_pos rfl, inb_nI hh (by decide), el62, l1, obs, hcls, obs]
    refine ⟨_, S2, S3, rfl, ?_, Inv_fr (Inv_fr (Inv_fr hI l5) e3) (q3.mono (by decide) (by simp))⟩
    rw [r0, obs, if_neg (by decide), r1, obs, if_neg (by decide), q1, obs, c0', obs, show mX11_countOf S3 (nI d - 1) = _ from hcnt 1 (by decide), obs, show mX11_countOf S3 (nI d - 2) = _ from hcnt 2 (by decide), obs, show mX11_countOf S3 (nI d - 3) = _ from hcnt 3 (by decide), obs, show mX11_countOf S3 (nI d - 4) = _ from hcnt 4 (by decide), obs, e0, series_all (fun c hc => (l2 c hc).2) hd 343 (Nat.le_refl _), zI_add, zI_sub, zI_add, zI_sub, zI_mul, zI_mul, zI_mul]
    rfl
