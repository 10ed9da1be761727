/-! PURE PART: prime -/
/-- the places of the bits below i -/
def bts (X i : Nat) : List Nat := (List.range i).filter (fun s => decide (X / 2 ^ s % 2 = 1))
theorem bts_len (X i : Nat) : (bts X i).length ≤ i := filter_len_le _ i
theorem bts_succ (X i : Nat) : bts X (i + 1) = bts X i ++ (if X / 2 ^ i % 2 = 1 then [i] else []) := by
  unfold bts
  rw [filter_succ]
  congr 1
  by_cases h : X / 2 ^ i % 2 = 1
  · rw [if_pos h, if_pos (decide_eq_true h)]
  · rw [if_neg h, if_neg (by rw [decide_eq_false h]; decide)]
theorem pc_mod (Y : Nat) : pc (Y % 16) = Y % 2 + Y / 2 % 2 + Y / 4 % 2 + Y / 8 % 2 := by
  unfold pc
  rw [show Y % 16 % 2 = Y % 2 by omega, show Y % 16 / 2 % 2 = Y / 2 % 2 by omega, show Y % 16 / 4 % 2 = Y / 4 % 2 by omega, show Y % 16 / 8 % 2 = Y / 8 % 2 by omega]
theorem bts_pc {X : Nat} (h : X < 65536) : mJ6_bitCount_0f7a4 (nI X) = some (nI (bts X 16).length) := by
  have e : (bts X 16).length = X / 2 ^ 0 % 2 + X / 2 ^ 1 % 2 + X / 2 ^ 2 % 2 + X / 2 ^ 3 % 2 + X / 2 ^ 4 % 2 + X / 2 ^ 5 % 2 + X / 2 ^ 6 % 2 + X / 2 ^ 7 % 2 + X / 2 ^ 8 % 2 + X / 2 ^ 9 % 2 + X / 2 ^ 10 % 2 + X / 2 ^ 11 % 2 + X / 2 ^ 12 % 2 + X / 2 ^ 13 % 2 + X / 2 ^ 14 % 2 + X / 2 ^ 15 % 2 := by
    have st : ∀ i, (bts X (i + 1)).length = (bts X i).length + X / 2 ^ i % 2 := fun i => by
      rw [bts_succ, List.length_append]
      by_cases h : X / 2 ^ i % 2 = 1
      · rw [if_pos h, h]
        rfl
      · rw [if_neg h, show X / 2 ^ i % 2 = 0 by omega]
        rfl
    rw [st 15, st 14, st 13, st 12, st 11, st 10, st 9, st 8, st 7, st 6, st 5, st 4, st 3, st 2, st 1, st 0]
    rw [show (bts X 0).length = 0 from rfl, Nat.zero_add]
  have hw := w_hx h
  have := bitCount_spec (a := hd 3 X) (b := hd 2 X) (c := hd 1 X) (d := hd 0 X) (hd_lt _ _) (hd_lt _ _) (hd_lt _ _) (hd_lt _ _)
  rw [← hw] at this
  rw [this, e]
  clear this hw e h
  refine congrArg (fun z => some (nI z)) ?_
  have d0 : pc (hd 0 X) = X / 2 ^ 0 % 2 + X / 2 ^ 1 % 2 + X / 2 ^ 2 % 2 + X / 2 ^ 3 % 2 := (pc_mod (X / 1)).trans (by rw [Nat.div_one])
  have d1 : pc (hd 1 X) = X / 2 ^ 4 % 2 + X / 2 ^ 5 % 2 + X / 2 ^ 6 % 2 + X / 2 ^ 7 % 2 := (pc_mod (X / 16)).trans (by rw [Nat.div_div_eq_div_mul, Nat.div_div_eq_div_mul, Nat.div_div_eq_div_mul])
  have d2 : pc (hd 2 X) = X / 2 ^ 8 % 2 + X / 2 ^ 9 % 2 + X / 2 ^ 10 % 2 + X / 2 ^ 11 % 2 := (pc_mod (X / 256)).trans (by rw [Nat.div_div_eq_div_mul, Nat.div_div_eq_div_mul, Nat.div_div_eq_div_mul])
  have d3 : pc (hd 3 X) = X / 2 ^ 12 % 2 + X / 2 ^ 13 % 2 + X / 2 ^ 14 % 2 + X / 2 ^ 15 % 2 := (pc_mod (X / 4096)).trans (by rw [Nat.div_div_eq_div_mul, Nat.div_div_eq_div_mul, Nat.div_div_eq_div_mul])
  rw [d0, d1, d2, d3]
  clear d0 d1 d2 d3
  generalize X / 2 ^ 0 % 2 = y0
  generalize X / 2 ^ 1 % 2 = y1
  generalize X / 2 ^ 2 % 2 = y2
  generalize X / 2 ^ 3 % 2 = y3
  generalize X / 2 ^ 4 % 2 = y4
  generalize X / 2 ^ 5 % 2 = y5
  generalize X / 2 ^ 6 % 2 = y6
  generalize X / 2 ^ 7 % 2 = y7
  generalize X / 2 ^ 8 % 2 = y8
  generalize X / 2 ^ 9 % 2 = y9
  generalize X / 2 ^ 10 % 2 = y10
  generalize X / 2 ^ 11 % 2 = y11
  generalize X / 2 ^ 12 % 2 = y12
  generalize X / 2 ^ 13 % 2 = y13
  generalize X / 2 ^ 14 % 2 = y14
  generalize X / 2 ^ 15 % 2 = y15
  omega
theorem bits_class {X : Nat} (hX : X < 65536) (a : Int32) : (∃ t, t < (bts X 16).length ∧ a = nI t ∧ mX10_placeOfBit (nI X) a = some (nI ((bts X 16).getD t 0))) ∨ ((∀ t, t < (bts X 16).length → a ≠ nI t) ∧ mX10_placeOfBit (nI X) a = some (-6)) := by
  unfold mX10_placeOfBit
  have pre : ∀ i, i ≤ 16 → ∃ R, bts X 16 = bts X i ++ R := by
    intro i hi
    unfold bts
    rw [rng_split hi, List.filter_append]
    exact ⟨_, rfl⟩
  have := loopG (σ := Unit) (N := 16) (fun f i _ => mX10_placeOfBit_4 f (nI X) (a - nI (bts X i).length) (nI i)) (fun i _ => ∀ t, t < (bts X i).length → a ≠ nI t) (fun r => (∃ t, t < (bts X 16).length ∧ a = nI t ∧ r = some (nI ((bts X 16).getD t 0))) ∨ ((∀ t, t < (bts X 16).length → a ≠ nI t) ∧ r = some (-6))) (by omega) ?_ ?_ () (fun t ht => absurd ht (Nat.not_lt_zero t))
  · rw [show a - nI (bts X 0).length = a by show a - nI 0 = a; rw [nI_0]; grind] at this
    exact this
  · intro i f _ hi hI
    simp only [mX10_placeOfBit_4, mX10_placeOfBit_28, bnd_eq, nI_1, sub_m1, sub_z]
    rw [if_neg (show ¬ (16 : Int32) ≤ nI i from nI_ge (b := 16) hi (by decide)), bit_spec (by omega) hi]
    rw [bts_succ]
    by_cases hb : X / 2 ^ i % 2 = 1
    · rw [if_pos hb, if_pos (show nI (X / 2 ^ i % 2) = 1 by rw [hb]; rfl), List.length_append]
      by_cases ha : a = nI (bts X i).length
      · refine Or.inr (Or.inl ⟨(bts X i).length, ?_, ha, ?_⟩)
        · obtain ⟨R, hR⟩ := pre (i + 1) (by omega)
          rw [hR, bts_succ, if_pos hb, List.length_append, List.length_append]
          show _ < _ + 1 + _
          omega
        · rw [if_pos ha]
          obtain ⟨R, hR⟩ := pre (i + 1) (by omega)
          rw [hR, bts_succ, if_pos hb, List.append_assoc, show (bts X i).length = (bts X i).length + 0 from rfl, getD_right]
          rfl
      · refine Or.inl ⟨(), fun t ht => ?_, if_neg ha⟩
        have ht : t < (bts X i).length + 1 := ht
        by_cases he : t = (bts X i).length
        · rw [he]
          exact ha
        · exact hI t (by omega)
    · rw [if_neg hb, if_neg (show ¬ nI (X / 2 ^ i % 2) = 1 from fun e => hb ((nI_eq (b := 1) (by omega) (by decide)).mp e)), List.append_nil]
      exact Or.inl ⟨(), hI, rfl⟩
  · intro f _ hI
    simp only [mX10_placeOfBit_4]
    rw [if_pos (show (16 : Int32) ≤ nI 16 by decide)]
    exact Or.inr ⟨hI, rfl⟩
theorem bits_ref {X : Nat} (hX : X < 65536) (a : Int32) (S : St) : (∃ t, t < (bts X 16).length ∧ a = nI t ∧ mX11_prime_21 FU S a (nI X) 0 0 = some (nI ((bts X 16).getD t 0), S)) ∨ ((∀ t, t < (bts X 16).length → a ≠ nI t) ∧ mX11_prime_21 FU S a (nI X) 0 0 = some (if a = -1 then nI (bts X 16).length else -6, S)) := by
  have pre : ∀ i, i ≤ 16 → ∃ R, bts X 16 = bts X i ++ R := by
    intro i hi
    unfold bts
    rw [rng_split hi, List.filter_append]
    exact ⟨_, rfl⟩
  refine loopG (σ := Unit) (N := 16) (fun f i _ => mX11_prime_21 f S a (nI X) (nI (bts X i).length) (nI i)) (fun i _ => ∀ t, t < (bts X i).length → a ≠ nI t) (fun r => (∃ t, t < (bts X 16).length ∧ a = nI t ∧ r = some (nI ((bts X 16).getD t 0), S)) ∨ ((∀ t, t < (bts X 16).length → a ≠ nI t) ∧ r = some (if a = -1 then nI (bts X 16).length else -6, S))) (by omega) ?_ ?_ () (fun t ht => absurd ht (Nat.not_lt_zero t))
  · intro i f _ hi hI
    simp only [mX11_prime_21, mX11_prime_50, bnd_eq, nI_1]
    rw [if_neg (show ¬ (16 : Int32) ≤ nI i from nI_ge (b := 16) hi (by decide)), bit_spec (by omega) hi]
    rw [bts_succ]
    by_cases hb : X / 2 ^ i % 2 = 1
    · rw [if_pos hb, if_pos (show nI (X / 2 ^ i % 2) = 1 by rw [hb]; rfl), List.length_append]
      by_cases ha : nI (bts X i).length = a
      · refine Or.inr (Or.inl ⟨(bts X i).length, ?_, ha.symm, ?_⟩)
        · obtain ⟨R, hR⟩ := pre (i + 1) (by omega)
          rw [hR, bts_succ, if_pos hb, List.length_append, List.length_append]
          show _ < _ + 1 + _
          omega
        · rw [if_pos ha]
          obtain ⟨R, hR⟩ := pre (i + 1) (by omega)
          rw [hR, bts_succ, if_pos hb, List.append_assoc, show (bts X i).length = (bts X i).length + 0 from rfl, getD_right]
          rfl
      · refine Or.inl ⟨(), fun t ht => ?_, if_neg ha⟩
        have ht : t < (bts X i).length + 1 := ht
        by_cases he : t = (bts X i).length
        · rw [he]
          exact fun e => ha e.symm
        · exact hI t (by omega)
    · rw [if_neg hb, if_neg (show ¬ nI (X / 2 ^ i % 2) = 1 from fun e => hb ((nI_eq (b := 1) (by omega) (by decide)).mp e)), List.append_nil]
      exact Or.inl ⟨(), hI, rfl⟩
  · intro f _ hI
    simp only [mX11_prime_21]
    rw [if_pos (show (16 : Int32) ≤ nI 16 by decide)]
    refine Or.inr ⟨hI, ?_⟩
    by_cases h1 : a = -1
    · rw [if_pos h1, if_pos h1]
    · rw [if_neg h1, if_neg h1]
theorem pf_prime : PF_prime Inv := by
  intro pr S a0 a1 hI
  unfold mX10_prime mX11_prime
  rcases ideal_cases a0 with ⟨c0, r0⟩ | ⟨h, hh, rfl, c0, r0⟩
  · rw [c0, obs]
    exact ⟨-1, S, S, if_pos rfl, by rw [r0, obs, if_pos rfl], hI⟩
  · obtain ⟨G, g1, g2, g3⟩ := hI.2.1 h (by omega)
    obtain ⟨S1, H, l1, l2, l3, l4⟩ := look_spec (m := 65 + 2 * h) (by omega) g3 g1.1 g1.2.1
    obtain ⟨S2, p1, p2, p3, p4⟩ := primesOf_spec (S := S1) (h := h) (by omega) (mG_fr g2 l4 (by decide) (by decide)) g1.1 g1.2.1 (pls_len _) (pls_lt _)
    have hPL := pls_of l2 l3
    rw [hPL] at p1
    have hX := prmN_lt (pcl H 343)
    have hI2 : Inv pr S2 := Inv_fr (Inv_fr hI (l4.mono (by decide) (by simp))) (p4.mono (by decide) (by decide))
    rw [c0, obs, if_neg (by decide), inb_nI hh (by decide), el62, l1, obs, primes_spec l2, obs]
    have hb := bits_ref hX a1 S2
    by_cases h1 : a1 = -1
    · rw [if_pos h1, bts_pc hX, obs]
      refine ⟨_, S1, S2, rfl, ?_, hI2⟩
      rw [r0, obs, if_neg (by decide), p1, obs]
      rcases hb with ⟨t, t1, t2, -⟩ | ⟨-, t2⟩
      · have := bts_len (prmN (pcl H 343)) 16
        exact absurd (t2.symm.trans h1) (nI_ne_m1 (by omega))
      · refine t2.trans ?_
        rw [if_pos h1]
    · rw [if_neg h1]
      rcases bits_class hX a1 with ⟨t, t1, t2, t3⟩ | ⟨t1, t3⟩
      · rw [t3, obs]
        refine ⟨_, S1, S2, rfl, ?_, hI2⟩
        rw [r0, obs, if_neg (by decide), p1, obs]
        rcases hb with ⟨u, u1, u2, u3⟩ | ⟨u1, -⟩
        · have := bts_len (prmN (pcl H 343)) 16
          have e : t = u := (nI_eq (by omega) (by omega)).mp (t2.symm.trans u2)
          subst e
          exact u3
        · exact absurd t2 (u1 t t1)
      · rw [t3, obs]
        refine ⟨_, S1, S2, rfl, ?_, hI2⟩
        rw [r0, obs, if_neg (by decide), p1, obs]
        rcases hb with ⟨u, u1, u2, u3⟩ | ⟨-, u2⟩
        · exact absurd u2 (t1 u u1)
        · refine u2.trans ?_
          rw [if_neg h1]
