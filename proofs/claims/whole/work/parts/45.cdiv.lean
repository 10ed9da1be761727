/-! PURE PART: divisibility in the class -/
theorem or8 : ∀ y, y < 7 → y ||| 8 = y + 8 := by decide
theorem and8 : ∀ y, y < 7 → ∀ x, x < 7 → (y + 8 - x) &&& 8 = if x ≤ y then 8 else 0 := by decide
theorem hx_eq8 {a b c d : Nat} (ha : a = 8 ∨ a = 0) (hb : b = 8 ∨ b = 0) (hc : c = 8 ∨ c = 0) (hd : d = 8 ∨ d = 0) : (nI (hx a b c d) = nI (hx 8 8 8 8)) = (a = 8 ∧ b = 8 ∧ c = 8 ∧ d = 8) := by
  rw [nI_eqI (by unfold hx; omega) (by unfold hx; omega)]
  unfold hx
  exact propext ⟨fun h => by omega, fun h => by omega⟩
theorem cdiv_spec {p q : Nat} (hp : p < 2401) (hq : q < 2401) : mX3_divides (nI (hexN p)) (nI (hexN q)) = some (b2 (dv p q)) := by
  obtain ⟨pa, pb, pc, pd, -⟩ := digs p hp
  obtain ⟨qa, qb, qc, qd, -⟩ := digs q hq
  unfold mX3_divides dv
  rw [hexN_hx, hexN_hx]
  generalize p / 343 = a at *
  generalize p / 49 % 7 = b at *
  generalize p / 7 % 7 = c at *
  generalize p % 7 = d at *
  generalize q / 343 = a1 at *
  generalize q / 49 % 7 = b1 at *
  generalize q / 7 % 7 = c1 at *
  generalize q % 7 = d1 at *
  have e1 : nI (hx a1 b1 c1 d1) ||| nI (hx 8 8 8 8) = nI (hx (a1 + 8) (b1 + 8) (c1 + 8) (d1 + 8)) := by
    rw [nI_or, hx_or (by omega) (by omega) (by omega) (by omega) (by omega) (by omega), or8 a1 qa, or8 b1 qb, or8 c1 qc, or8 d1 qd]
  have e2 : nI (hx (a1 + 8) (b1 + 8) (c1 + 8) (d1 + 8)) - nI (hx a b c d) = nI (hx (a1 + 8 - a) (b1 + 8 - b) (c1 + 8 - c) (d1 + 8 - d)) := by
    rw [nI_sub (by unfold hx; omega)]
    refine congrArg nI ?_
    unfold hx
    omega
  have e3 : nI (hx (a1 + 8 - a) (b1 + 8 - b) (c1 + 8 - c) (d1 + 8 - d)) &&& nI (hx 8 8 8 8) = nI (hx (if a ≤ a1 then 8 else 0) (if b ≤ b1 then 8 else 0) (if c ≤ c1 then 8 else 0) (if d ≤ d1 then 8 else 0)) := by
    rw [nI_and, hx_and (by omega) (by omega) (by omega) (by omega) (by omega) (by omega), and8 a1 qa a pa, and8 b1 qb b pb, and8 c1 qc c pc, and8 d1 qd d pd]
  have he : ∀ P : Prop, ∀ [Decidable P], (if P then 8 else 0) = 8 ∨ (if P then (8 : Nat) else 0) = 0 := fun P _ => by
    split
    · exact Or.inl rfl
    · exact Or.inr rfl
  have h8 : ∀ P : Prop, ∀ [Decidable P], ((if P then 8 else 0) = 8) = P := fun P _ => by
    by_cases hP : P
    · rw [if_pos hP]
      exact propext ⟨fun _ => hP, fun _ => rfl⟩
    · rw [if_neg hP]
      exact propext ⟨fun h => absurd h (by decide), fun h => absurd h hP⟩
  rw [show (34952 : Int32) = nI (hx 8 8 8 8) from rfl, e1, e2, e3]
  simp only [hx_eq8 (he _) (he _) (he _) (he _), h8]
  by_cases h1 : a ≤ a1 ∧ b ≤ b1 ∧ c ≤ c1 ∧ d ≤ d1
  · obtain ⟨h1, h2, h3, h4⟩ := h1
    rw [if_pos ⟨h1, h2, h3, h4⟩, decide_eq_true h1, decide_eq_true h2, decide_eq_true h3, decide_eq_true h4]
    rfl
  · rw [if_neg h1]
    have hz : (decide (a ≤ a1) && (decide (b ≤ b1) && (decide (c ≤ c1) && decide (d ≤ d1)))) = false := by
      cases hh : (decide (a ≤ a1) && (decide (b ≤ b1) && (decide (c ≤ c1) && decide (d ≤ d1)))) with
      | false => rfl
      | true =>
        simp only [Bool.and_eq_true, decide_eq_true_eq] at hh
        exact absurd hh h1
    rw [hz]
    rfl
theorem dig4 {a b c d : Nat} (hb : b < 7) (hc : c < 7) (hd : d < 7) : (343 * a + 49 * b + 7 * c + d) / 343 = a ∧ (343 * a + 49 * b + 7 * c + d) / 49 % 7 = b ∧ (343 * a + 49 * b + 7 * c + d) / 7 % 7 = c ∧ (343 * a + 49 * b + 7 * c + d) % 7 = d := ⟨by omega, by omega, by omega, by omega⟩
theorem dv_digs {p q : Nat} (hq : q < 2401) (h : dv p q = true) : (q - p) / 343 = q / 343 - p / 343 ∧ (q - p) / 49 % 7 = q / 49 % 7 - p / 49 % 7 ∧ (q - p) / 7 % 7 = q / 7 % 7 - p / 7 % 7 ∧ (q - p) % 7 = q % 7 - p % 7 ∧ p ≤ q := by
  obtain ⟨h1, h2, h3, h4⟩ := dv_iff.mp h
  have hp : p < 2401 := by omega
  obtain ⟨pa, pb, pc, pd, pe⟩ := digs p hp
  obtain ⟨qa, qb, qc, qd, qe⟩ := digs q hq
  generalize p / 343 = a at *
  generalize p / 49 % 7 = b at *
  generalize p / 7 % 7 = c at *
  generalize p % 7 = d at *
  generalize q / 343 = a1 at *
  generalize q / 49 % 7 = b1 at *
  generalize q / 7 % 7 = c1 at *
  generalize q % 7 = d1 at *
  have e : q - p = 343 * (a1 - a) + 49 * (b1 - b) + 7 * (c1 - c) + (d1 - d) := by omega
  obtain ⟨g1, g2, g3, g4⟩ := dig4 (a := a1 - a) (b := b1 - b) (c := c1 - c) (d := d1 - d) (by omega) (by omega) (by omega)
  rw [e]
  exact ⟨g1, g2, g3, g4, by omega⟩
theorem hex_sub {p q : Nat} (hq : q < 2401) (h : dv p q = true) : nI (hexN q) - nI (hexN p) = nI (hexN (q - p)) := by
  obtain ⟨e1, e2, e3, e4, -⟩ := dv_digs hq h
  obtain ⟨h1, h2, h3, h4⟩ := dv_iff.mp h
  have hle : hexN p ≤ hexN q := by
    unfold hexN
    exact Nat.add_le_add (Nat.add_le_add (Nat.add_le_add (Nat.mul_le_mul_left _ h1) (Nat.mul_le_mul_left _ h2)) (Nat.mul_le_mul_left _ h3)) h4
  rw [nI_sub hle]
  refine congrArg nI ?_
  unfold hexN
  rw [e1, e2, e3, e4]
  generalize p / 343 = a at *
  generalize p / 49 % 7 = b at *
  generalize p / 7 % 7 = c at *
  generalize p % 7 = d at *
  generalize q / 343 = a1 at *
  generalize q / 49 % 7 = b1 at *
  generalize q / 7 % 7 = c1 at *
  generalize q % 7 = d1 at *
  omega
