/-! PURE PART: nearest, from its entry -/
theorem near_spec {S : St} {a b j i size : Nat} (ha : 0 < a) (hb : 0 < b) (hij : j = 0 ∨ i = 0) (h1 : b * 2 ^ i ≤ a * 2 ^ j) (h2 : a * 2 ^ j < 2 * (b * 2 ^ i)) (hl : b * 2 ^ i < 2 ^ 50) (hj : j < 1000) (hi : i < 1000) (hsz : size = 24 ∨ size = 53) : ∃ S1, mX11_nearest S (lN a) (lN b) (nI size) = some S1 ∧ gF S1 = lN (rc2 size (a * 2 ^ j) (b * 2 ^ i)) ∧ gI S1 0 26 = nI i - nI j + nI (rt2 size (a * 2 ^ j) (b * 2 ^ i)) ∧ Fr [] [(0, 26)] S S1 := by
  have hbi : b ≤ b * 2 ^ i := Nat.le_mul_of_pos_right _ (Nat.two_pow_pos _)
  have haj : a ≤ a * 2 ^ j := Nat.le_mul_of_pos_right _ (Nat.two_pow_pos _)
  have hbd : ∀ k, k ≤ i → b * 2 ^ k ≤ b * 2 ^ i := fun k hk => Nat.mul_le_mul_left _ (Nat.pow_le_pow_right (by decide) hk)
  have had : ∀ k, k ≤ j → a * 2 ^ k ≤ a * 2 ^ j := fun k hk => Nat.mul_le_mul_left _ (Nat.pow_le_pow_right (by decide) hk)
  have dbl : ∀ x k : Nat, x * 2 ^ (k + 1) = 2 * (x * 2 ^ k) := fun x k => by rw [Nat.pow_succ, ← Nat.mul_assoc, Nat.mul_comm]
  unfold mX11_nearest
  have p1 : ∃ S0, mX11_nearest_11 FU (sI S 0 26 0) (nI size) (lN a) (lN b) = mX11_nearest_40 FU S0 (nI size) (lN (a * 2 ^ j)) (lN b) ∧ gI S0 0 26 = 0 - nI j ∧ Fr [] [(0, 26)] S S0 := by
    have := loopG (σ := St) (N := j) (fun f k s => mX11_nearest_11 f s (nI size) (lN (a * 2 ^ k)) (lN b)) (fun k s => gI s 0 26 = 0 - nI k ∧ Fr [] [(0, 26)] S s) (fun r => ∃ S0, r = mX11_nearest_40 FU S0 (nI size) (lN (a * 2 ^ j)) (lN b) ∧ gI S0 0 26 = 0 - nI j ∧ Fr [] [(0, 26)] S S0) (by omega) ?_ ?_ (sI S 0 26 0) ⟨by rw [gI_sI_same]; rfl, (Fr.refl _ _ S).sI (by decide)⟩
    · rw [Nat.pow_zero, Nat.mul_one] at this
      exact this
    · intro k f s hk hI
      have hi0 : i = 0 := by omega
      subst hi0
      rw [Nat.pow_zero, Nat.mul_one] at h2
      have e := had (k + 1) (by omega)
      rw [dbl] at e
      refine Or.inl ⟨sI s 0 26 (gI s 0 26 - 1), ⟨?_, hI.2.sI (by decide)⟩, ?_⟩
      · rw [gI_sI_same, hI.1, ← nI_1]
        grind
      · simp only [mX11_nearest_11, bnd_eq]
        simp only [lc_ge (show a * 2 ^ k < 2 ^ 62 by omega) (show b < 2 ^ 62 by omega)]
        rw [if_neg (by omega), dbl, show lN (a * 2 ^ k) * 2 = lN (2 * (a * 2 ^ k)) by rw [show lN (a * 2 ^ k) * 2 = lN (a * 2 ^ k * 2) from lN_mul _ 2, Nat.mul_comm]]
    · intro f s hI
      simp only [mX11_nearest_11]
      simp only [lc_ge (show a * 2 ^ j < 2 ^ 62 by omega) (show b < 2 ^ 62 by omega)]
      rw [if_pos (by omega)]
      exact ⟨s, rfl, hI.1, hI.2⟩
  obtain ⟨S0, a1, a2, a3⟩ := p1
  rw [a1]
  have p2 : ∃ S2, mX11_nearest_40 FU S0 (nI size) (lN (a * 2 ^ j)) (lN b) = mX11_nearest_81 FU (sF S2 0) (nI size) (lN (a * 2 ^ j)) (lN (b * 2 ^ i)) 0 ∧ gI S2 0 26 = nI i - nI j ∧ Fr [] [(0, 26)] S S2 := by
    have := loopG (σ := St) (N := i) (fun f k s => mX11_nearest_40 f s (nI size) (lN (a * 2 ^ j)) (lN (b * 2 ^ k))) (fun k s => gI s 0 26 = nI k - nI j ∧ Fr [] [(0, 26)] S s) (fun r => ∃ S2, r = mX11_nearest_81 FU (sF S2 0) (nI size) (lN (a * 2 ^ j)) (lN (b * 2 ^ i)) 0 ∧ gI S2 0 26 = nI i - nI j ∧ Fr [] [(0, 26)] S S2) (by omega) ?_ ?_ S0 ⟨by rw [a2]; rfl, a3⟩
    · rw [Nat.pow_zero, Nat.mul_one] at this
      exact this
    · intro k f s hk hI
      have e := hbd (k + 1) (by omega)
      rw [dbl] at e
      refine Or.inl ⟨sI s 0 26 (gI s 0 26 + 1), ⟨?_, hI.2.sI (by decide)⟩, ?_⟩
      · rw [gI_sI_same, hI.1, ← nI_1]
        grind
      · simp only [mX11_nearest_40, bnd_eq]
        rw [show (2 : Int64) * lN (b * 2 ^ k) = lN (2 * (b * 2 ^ k)) from lN_mul 2 _]
        simp only [lc_lt (show a * 2 ^ j < 2 ^ 62 by omega) (show 2 * (b * 2 ^ k) < 2 ^ 62 by omega)]
        rw [if_neg (by omega), dbl, show lN (b * 2 ^ k) * 2 = lN (2 * (b * 2 ^ k)) by rw [show lN (b * 2 ^ k) * 2 = lN (b * 2 ^ k * 2) from lN_mul _ 2, Nat.mul_comm]]
    · intro f s hI
      simp only [mX11_nearest_40]
      rw [show (2 : Int64) * lN (b * 2 ^ i) = lN (2 * (b * 2 ^ i)) from lN_mul 2 _]
      simp only [lc_lt (show a * 2 ^ j < 2 ^ 62 by omega) (show 2 * (b * 2 ^ i) < 2 ^ 62 by omega)]
      rw [if_pos (by omega)]
      exact ⟨s, rfl, hI.1, hI.2⟩
  obtain ⟨S2, b1, b2, b3⟩ := p2
  rw [b1]
  obtain ⟨S3, c1, c2, c3, c4⟩ := near183 (S := S2) (size := size) (show 0 < b * 2 ^ i by omega) h1 h2 hl hsz
  exact ⟨S3, c1, c2, by rw [c3, b2], b3.trans c4⟩
theorem rnd_scale {n d k : Nat} (hk : 0 < k) : rnd (n * k) (d * k) = rnd n d := by
  unfold rnd FP.Core.nearest
  rw [Nat.mul_mod_mul_right, Nat.mul_div_mul_right _ _ hk]
  have e1 : (2 * (n % d * k) < d * k) = (2 * (n % d) < d) := by
    rw [← Nat.mul_assoc]
    exact propext (Nat.mul_lt_mul_right hk)
  have e2 : (d * k < 2 * (n % d * k)) = (d < 2 * (n % d)) := by
    rw [← Nat.mul_assoc]
    exact propext (Nat.mul_lt_mul_right hk)
  simp only [e1, e2]
theorem rnd_one (n : Nat) : rnd n 1 = n := by
  unfold rnd FP.Core.nearest
  rw [Nat.mod_one, if_pos (by decide), Nat.div_one]
