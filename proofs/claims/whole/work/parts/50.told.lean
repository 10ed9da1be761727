/-! PURE PART: told; the invariant at the start -/
theorem told_no {S : St} {x : Int32} (h : ∀ k d, k < 3 → d < 4 → x ≠ nI (20 + 10 * k + d)) : mX10_told_42 S FU x 0 = some (-2) := by
  refine loopN (N := 3) (R := some (-2)) (fun n i => mX10_told_42 S n x (nI i)) (by decide) ?_ ?_
  · intro i n hi
    simp only [mX10_told_42, mX10_told_80, bnd_eq]
    rw [if_neg (show ¬ (3 : Int32) ≤ nI i from nI_ge (b := 3) hi (by decide)), nI_1]
    by_cases h1 : x - 20 - 10 * nI i < 0
    · rw [if_pos h1]
    · rw [if_neg h1]
      by_cases h2 : 4 ≤ x - 20 - 10 * nI i
      · rw [if_pos h2]
      · exfalso
        obtain ⟨d, hd, e⟩ := nI_of h1
        rw [e] at h2
        have hd4 : d < 4 := by
          rcases Nat.lt_or_ge d 4 with z | z
          · exact z
          · exact absurd (show (4 : Int32) ≤ nI d from nI_le (a := 4) z hd) h2
        refine h i d hi hd4 ?_
        have e2 : x = (x - 20 - 10 * nI i) + 10 * nI i + 20 := by rw [Int32.sub_add_cancel, Int32.sub_add_cancel]
        rw [e2, e, show (10 : Int32) = nI 10 from rfl, show (20 : Int32) = nI 20 from rfl, nI_mul, nI_add, nI_add]
        exact congrArg nI (by omega)
  · intro n
    simp only [mX10_told_42]
    rw [if_pos (by decide)]
theorem told_yes {S : St} {k d : Nat} (hk : k < 3) (hd : d < 4) : mX10_told_42 S FU (nI (20 + 10 * k + d)) 0 = some (gA S 64 (k * 4 + d)) := by
  have e : ∀ i, i ≤ k → nI (20 + 10 * k + d) - 20 - 10 * nI i = nI (10 * (k - i) + d) := fun i hi => by
    rw [show (10 : Int32) = nI 10 from rfl, show (20 : Int32) = nI 20 from rfl, nI_mul, nI_sub (by omega), nI_sub (by omega)]
    exact congrArg nI (by omega)
  refine loopN (N := k) (fun n i => mX10_told_42 S n (nI (20 + 10 * k + d)) (nI i)) (by omega) ?_ ?_
  · intro i n hi
    simp only [mX10_told_42, mX10_told_80, bnd_eq]
    rw [if_neg (show ¬ (3 : Int32) ≤ nI i from nI_ge (b := 3) (by omega) (by decide)), e i (by omega), if_neg (nI_pos (by omega)), if_pos (show (4 : Int32) ≤ nI (10 * (k - i) + d) from nI_le (a := 4) (by omega) (by omega)), nI_1]
  · intro n
    simp only [mX10_told_42, mX10_told_80, bnd_eq]
    rw [if_neg (show ¬ (3 : Int32) ≤ nI k from nI_ge (b := 3) hk (by decide)), e k (by omega), if_neg (nI_pos (by omega)), if_neg (show ¬ (4 : Int32) ≤ nI (10 * (k - k) + d) from nI_ge (b := 4) (by omega) (by decide)), show (4 : Int32) = nI 4 from rfl, nI_mul, nI_add, inb_nI (by omega) (by decide), show 10 * (k - k) + d = d by omega]
theorem pf_told : PF_told Inv := by
  intro pr S a0 hI
  obtain ⟨p, p1, p2, p3, p4⟩ := hI.1
  unfold mX10_told mX11_told mX10_told_40 mX11_told_65
  rcases arg a0 with ha | ⟨c, hc, rfl⟩
  · have n0 : ¬ a0 = 0 := fun e => by
      rw [e] at ha
      exact absurd ha (by decide)
    refine ⟨-2, ?_, ?_, hI⟩
    · rw [if_neg n0, if_pos (show a0 < 10 from neg_lt (j := 10) ha (by decide))]
      exact told_no (fun k d _ _ => neg_ne ha (by omega))
    · rw [show (10 : Int64) = lN 10 from rfl, show (20 : Int64) = lN 20 from rfl, in_neg ha (by decide), obs, in_neg ha (by decide), obs, if_pos (by decide), if_pos (by decide), if_neg n0]
  · have i1 : mX11_in (nI c).toInt64 10 13 = some (b2 (decide (10 ≤ c) && decide (c ≤ 13))) := in_nI (l := 10) (h := 13) hc (by decide) (by decide)
    have i2 : mX11_in (nI c).toInt64 20 49 = some (b2 (decide (20 ≤ c) && decide (c ≤ 49))) := in_nI (l := 20) (h := 49) hc (by decide) (by decide)
    rw [i1, i2, obs, obs]
    by_cases h0 : c = 0
    · subst h0
      exact ⟨nI p, by rw [if_pos (by decide), p3], by rw [if_pos (by decide), if_pos (by decide), if_pos (by decide), p2], hI⟩
    · have n0 : ¬ nI c = 0 := nI_ne0 (by omega) hc
      rw [if_neg n0]
      by_cases h1 : 10 ≤ c ∧ c ≤ 13
      · obtain ⟨G, g1, g2, g3⟩ := hI.2.1 (c - 10) (by omega)
        have e : nI c - 10 = nI (c - 10) := nI_sub (b := 10) h1.1
        refine ⟨nI G.length, ?_, ?_, hI⟩
        · rw [if_neg (show ¬ nI c < 10 from nI_nlt (b := 10) h1.1 hc), if_neg (show ¬ (14 : Int32) ≤ nI c from nI_ge (b := 14) (by omega) (by decide)), e, inb_nI (by omega) (by decide), el62, g3.1]
        · rw [decide_eq_true h1.1, decide_eq_true h1.2, if_neg (by decide), e, inb_nI (by omega) (by decide), g2.1]
      · have hb : (decide (10 ≤ c) && decide (c ≤ 13)) = false := by
          rcases Nat.lt_or_ge c 10 with z | z
          · rw [decide_eq_false (by omega), Bool.false_and]
          · rw [decide_eq_false (by omega : ¬ c ≤ 13), Bool.and_false]
        have hcls : (if nI c < 10 then mX10_told_42 S FU (nI c) 0 else if 14 ≤ nI c then mX10_told_42 S FU (nI c) 0 else inb 4 (nI c - 10) fun j1 => some (gI S (el 62 j1) 1)) = mX10_told_42 S FU (nI c) 0 := by
          by_cases z : c < 10
          · rw [if_pos (show nI c < 10 from nI_lt (b := 10) z (by decide))]
          · rw [if_neg (show ¬ nI c < 10 from nI_nlt (b := 10) (by omega) hc), if_pos (show (14 : Int32) ≤ nI c from nI_le (a := 14) (by omega) hc)]
        have e10 : nI c / 10 = nI (c / 10) := nI_div hc (by decide) (by decide)
        have er : nI c - nI (c / 10) * 10 = nI (c % 10) := by
          rw [← e10]
          exact nI_rem (d := 10) hc (by decide) (by decide)
        rw [hcls, hb, if_pos (show b2 false = 0 by decide), e10, er]
        by_cases h2 : (20 ≤ c ∧ c ≤ 49) ∧ c % 10 < 4
        · obtain ⟨⟨z1, z2⟩, z3⟩ := h2
          obtain ⟨k, k1, k2, k3⟩ := hI.2.2.1 ((c / 10 - 2) * 4 + c % 10) (by omega)
          refine ⟨nI k, ?_, ?_, hI⟩
          · have := told_yes (S := S) (k := c / 10 - 2) (d := c % 10) (by omega) z3
            rw [show 20 + 10 * (c / 10 - 2) + c % 10 = c by omega, k3] at this
            exact this
          · rw [decide_eq_true z1, decide_eq_true z2, if_neg (by decide), if_neg (show ¬ (4 : Int32) ≤ nI (c % 10) from nI_ge (b := 4) z3 (by decide)), show (4 : Int32) = nI 4 from rfl, show (2 : Int32) = nI 2 from rfl, nI_sub (by omega), nI_mul, nI_add, inb_nI (by omega) (by decide), show 4 * (c / 10 - 2) + c % 10 = (c / 10 - 2) * 4 + c % 10 by omega, k2]
        · refine ⟨-2, told_no (fun k d hk hd e => h2 ?_), ?_, hI⟩
          · have := (nI_eq hc (by omega)).mp e
            omega
          · rw [if_neg n0]
            by_cases z : 20 ≤ c ∧ c ≤ 49
            · rw [decide_eq_true z.1, decide_eq_true z.2, if_neg (by decide), if_pos (show (4 : Int32) ≤ nI (c % 10) from nI_le (a := 4) (by omega) (by omega))]
            · have hb2 : (decide (20 ≤ c) && decide (c ≤ 49)) = false := by
                rcases Nat.lt_or_ge c 20 with y | y
                · rw [decide_eq_false (by omega), Bool.false_and]
                · rw [decide_eq_false (by omega : ¬ c ≤ 49), Bool.and_false]
              rw [hb2, if_pos (by decide)]
theorem okG_nil : okG [] := by
  refine ⟨by decide, fun q hq => absurd hq (List.not_mem_nil), ?_⟩
  unfold gens
  rw [List.filter_eq_nil_iff]
  intro a _
  simp [lst, up]
theorem inv_0 : Inv (fun _ => false) S0 := by
  refine ⟨⟨0, by decide, rfl, rfl, fun i hi => absurd hi (Nat.not_lt_zero i)⟩, fun h _ => ⟨[], okG_nil, ⟨rfl, fun i hi => absurd hi (Nat.not_lt_zero i)⟩, rfl, fun i hi => absurd hi (Nat.not_lt_zero i)⟩, fun t _ => ⟨0, by decide, rfl, rfl⟩, fun j _ => rfl, fun j _ hp => ?_⟩
  cases hp
