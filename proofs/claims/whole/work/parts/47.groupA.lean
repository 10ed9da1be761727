/-! PURE PART: say, wipe, generator, has, compare -/
theorem Inv_pad {pr : Nat → Bool} {S S1 : St} (hI : Inv pr S) (hA : ∀ m, m ∉ scA → m ≠ 5 → m ≠ 21 → gA S1 m = gA S m) (hK : ∀ m k, m ≠ 0 → 28 < m → gI S1 m k = gI S m k) (hP : InvP S1) : Inv pr S1 := by
  obtain ⟨-, iH, iK, iJ1, iJ2⟩ := hI
  refine ⟨hP, fun x hx => ?_, fun t ht => ?_, fun j hj => ?_, fun j hj hp => ⟨fun x hx => ?_, fun t ht => ?_⟩⟩
  · obtain ⟨G1, g1, g2, g3⟩ := iH x hx
    refine ⟨G1, g1, ⟨?_, fun i hi => ?_⟩, (hK _ 1 (by omega) (by omega)).trans g3.1, fun i hi => ?_⟩
    · rw [hA 2 (by decide) (by decide) (by decide)]
      exact g2.1
    · rw [hA 1 (by decide) (by decide) (by decide)]
      exact g2.2 i hi
    · rw [hA _ (scA_hi (by omega)) (by omega) (by omega)]
      exact g3.2 i hi
  · obtain ⟨k, k1, k2, k3⟩ := iK t ht
    exact ⟨k, k1, by rw [hA 3 (by decide) (by decide) (by decide)]; exact k2, by rw [hA 64 (by decide) (by decide) (by decide)]; exact k3⟩
  · rw [hA 17 (by decide) (by decide) (by decide)]
    exact iJ1 j hj
  · obtain ⟨G1, g1, g2, g3⟩ := (iJ2 j hj hp).1 x hx
    refine ⟨G1, g1, ⟨?_, fun i hi => ?_⟩, (hK _ 1 (by omega) (by omega)).trans g3.1, fun i hi => ?_⟩
    · rw [hA 16 (by decide) (by decide) (by decide)]
      exact g2.1
    · rw [hA 16 (by decide) (by decide) (by decide)]
      exact g2.2 i hi
    · rw [hA _ (scA_hi (by omega)) (by omega) (by omega)]
      exact g3.2 i hi
  · obtain ⟨k, k1, k2, k3⟩ := (iJ2 j hj hp).2 t ht
    exact ⟨k, k1, by rw [hA 16 (by decide) (by decide) (by decide)]; exact k2, by rw [hA _ (scA_hi (by omega)) (by omega) (by omega)]; exact k3⟩
theorem neg_lt {a : Int32} {j : Nat} (ha : a < 0) (hj : j < 2 ^ 31) : a < nI j := by
  rw [Int32.lt_iff_toInt_lt, show (0 : Int32).toInt = 0 from by decide] at ha
  rw [Int32.lt_iff_toInt_lt, nI_toInt hj]
  omega
theorem pf_say : PF_say Inv := by
  intro pr S a0 hI
  have hI0 := hI
  obtain ⟨⟨p, p1, p2, p3, p4⟩, -⟩ := hI
  have bad : mX10_say S a0 = some (-2, S) → mX11_in a0.toInt64 33 126 = some (b2 false) → ∃ (r : Int32) (S1 : St) (S2 : St), mX10_say S a0 = some (r, S1) ∧ mX11_say S1 a0 = some (r, S2) ∧ Inv pr S2 := fun h1 h2 => ⟨-2, S, S, h1, by unfold mX11_say; rw [h2, obs]; rfl, hI0⟩
  rcases arg a0 with ha | ⟨c, hc, rfl⟩
  · exact bad (if_pos (show a0 < 33 from neg_lt (j := 33) ha (by decide))) (in_neg (l := 33) ha (by decide))
  · have hin : mX11_in (nI c).toInt64 33 126 = some (b2 (decide (33 ≤ c) && decide (c ≤ 126))) := in_nI (l := 33) (h := 126) hc (by decide) (by decide)
    by_cases h1 : c < 33
    · refine bad (if_pos (show nI c < 33 from nI_lt (b := 33) h1 (by decide))) ?_
      rw [hin, decide_eq_false (by omega), Bool.false_and]
    · have n1 : ¬ nI c < 33 := nI_nlt (b := 33) (by omega) hc
      by_cases h2 : c ≤ 126
      · have n2 : nI c ≤ 126 := nI_le (b := 126) h2 (by decide)
        rw [decide_eq_true (by omega : 33 ≤ c), decide_eq_true h2, Bool.and_true] at hin
        by_cases h3 : p < 60
        · have n3 : nI p < 60 := nI_lt (b := 60) h3 (by decide)
          have n4 : ¬ nI p = 60 := fun e => absurd ((nI_eq (b := 60) (by omega) (by decide)).mp e) (by omega)
          have e1 : mX10_say S (nI c) = some (nI (p + 1), sI (sA S 21 p (nI c)) 19 2 (nI (p + 1))) := by
            unfold mX10_say mX4_append
            rw [if_neg n1, if_pos n2, p3, if_pos n3, inb_nI h3 (by decide), obs, gI_sA, p3, nI_1]
            show (if (1 : Int32) = 0 then _ else some (gI (sI (sA S 21 p (nI c)) 19 2 (nI (p + 1))) 19 2, _)) = _
            rw [if_neg (by decide), gI_sI_same]
          refine ⟨nI (p + 1), sI (sA S 21 p (nI c)) 19 2 (nI (p + 1)), sI (sA (sI (sA S 21 p (nI c)) 19 2 (nI (p + 1))) 5 p (nI c)) 0 5 (nI (p + 1)), e1, ?_, Inv_pad hI0 ?_ ?_ ?_⟩
          · unfold mX11_say
            have q1 : gI (sI (sA S 21 p (nI c)) 19 2 (nI (p + 1))) 0 5 = nI p := by
              rw [gI_sI_ne (by decide), gI_sA, p2]
            rw [hin, obs, if_neg (by decide), q1, if_neg n4, inb_nI h3 (by decide), gI_sA, q1, nI_1, gI_sI_same]
          · intro m _ h5 h21
            rw [gA_sI, gA_sA_ne h5, gA_sI, gA_sA_ne h21]
          · intro m k h0 h28
            rw [gI_sI_ne h0, gI_sA, gI_sI_ne (by omega), gI_sA]
          · refine ⟨p + 1, by omega, gI_sI_same _ _ _ _, ?_, fun i hi => ?_⟩
            · rw [gI_sI_ne (by decide), gI_sA, gI_sI_same]
            · by_cases hip : i = p
              · subst hip
                refine ⟨c, by omega, h2, ?_, ?_⟩
                · rw [gA_sI, gA_sA_same, upd_at]
                · rw [gA_sI, gA_sA_ne (by decide), gA_sI, gA_sA_same, upd_at]
              · obtain ⟨x, x1, x2, x3, x4⟩ := p4 i (by omega)
                refine ⟨x, x1, x2, ?_, ?_⟩
                · rw [gA_sI, gA_sA_same, upd_ne hip, gA_sI, gA_sA_ne (by decide)]
                  exact x3
                · rw [gA_sI, gA_sA_ne (by decide), gA_sI, gA_sA_same, upd_ne hip]
                  exact x4
        · have hp : p = 60 := by omega
          subst hp
          refine ⟨-4, S, S, ?_, ?_, hI0⟩
          · unfold mX10_say mX4_append
            rw [if_neg n1, if_pos n2, p3, if_neg (by decide), obs]
            rfl
          · unfold mX11_say
            rw [hin, obs, if_neg (by decide), p2, if_pos (by decide)]
      · refine bad ?_ ?_
        · unfold mX10_say
          rw [if_neg n1, if_neg (show ¬ nI c ≤ 126 from nI_ge (a := 126) (by omega) hc)]
        · rw [hin, decide_eq_false h2, Bool.and_false]
theorem pf_wipe : PF_wipe Inv := by
  intro pr S hI
  have hI0 := hI
  obtain ⟨⟨p, p1, p2, p3, p4⟩, -⟩ := hI
  refine ⟨nI p, sI S 19 2 0, sI (sI S 19 2 0) 0 5 0, ?_, ?_, Inv_pad hI0 ?_ ?_ ?_⟩
  · unfold mX10_wipe
    rw [bnd_eq, p3]
  · unfold mX11_wipe
    rw [bnd_eq, gI_sI_ne (by decide), p2]
  · intro m _ _ _
    rw [gA_sI, gA_sI]
  · intro m k h0 h28
    rw [gI_sI_ne h0, gI_sI_ne (by omega)]
  · refine ⟨0, by omega, gI_sI_same _ _ _ _, ?_, fun i hi => absurd hi (Nat.not_lt_zero i)⟩
    rw [gI_sI_ne (by decide), gI_sI_same]
    rfl
theorem el62 (j : Nat) : el 62 j = 65 + 2 * j := nrfl rfl
theorem el63 (j : Nat) : el 63 j = 65 + 2 * (4 + j) := by
  show 63 + 10 + 2 * j = 65 + 2 * (4 + j)
  omega
theorem pf_generator : PF_generator Inv := by
  intro pr S a0 a1 hI
  rcases ideal_cases a0 with ⟨c0, r0⟩ | ⟨h, hh, rfl, c0, r0⟩
  · refine ⟨-1, ?_, ?_, hI⟩
    · unfold mX10_generator
      rw [c0, obs, if_pos rfl]
    · unfold mX11_generator
      rw [r0, obs, if_pos rfl]
  · obtain ⟨G, g1, g2, g3⟩ := hI.2.1 h (by omega)
    have hl := g1.1
    unfold mX10_generator mX11_generator
    rw [c0, r0, obs, obs, if_neg (by decide), if_neg (by decide), inb_nI hh (by decide), el62, g3.1]
    by_cases h1 : a1 = -1
    · rw [if_pos h1, if_pos h1]
      refine ⟨_, rfl, ?_, hI⟩
      rw [inb_nI (show h < 16 by omega) (by decide), g2.1]
    · rw [if_neg h1, if_neg h1]
      rw [inb_nI (show h < 16 by omega) (by decide), g2.1]
      rcases arg a1 with ha | ⟨j, hj, rfl⟩
      · rw [if_pos ha, show (0 : Int64) = lN 0 from rfl, in_neg (l := 0) ha (by decide), obs]
        exact ⟨_, rfl, rfl, hI⟩
      · have e : (nI G.length - 1).toInt64.toInt = (G.length : Int) - 1 := by
          rw [Int32.toInt_toInt64]
          exact pk_sub_toInt (b := 1) (by omega) (by decide)
        rw [if_neg (nI_pos hj), in_spec, e, Int32.toInt_toInt64, nI_toInt hj, show (0 : Int64).toInt = 0 from by decide, decide_eq_true (by omega), Bool.true_and, obs]
        by_cases h2 : G.length ≤ j
        · rw [if_pos (nI_le h2 hj), decide_eq_false (by omega)]
          exact ⟨_, rfl, rfl, hI⟩
        · rw [if_neg (nI_ge (by omega) (by omega)), decide_eq_true (by omega), inb_nI (show j < 40 by omega) (by decide), g3.2 j (by omega), toCode_spec (g1.2.1 _ (getD_mem (by omega))), obs, at_spec (by omega) (by omega), g2.2 j (by omega), obs]
          exact ⟨_, rfl, rfl, hI⟩
theorem code_cases (a : Int32) : (mX3_isCode a = some 0 ∧ mX11_isCode a = some 0) ∨ ∃ p, p < 2401 ∧ a = nI (decN p) ∧ mX3_isCode a = some 1 ∧ mX11_isCode a = some 1 := by
  rcases arg a with ha | ⟨c, hc, rfl⟩
  · refine Or.inl ⟨if_pos ha, ?_⟩
    unfold mX11_isCode
    rw [show (0 : Int64) = lN 0 from rfl, in_neg (l := 0) ha (by decide), obs]
    rfl
  · have hin : mX11_in (nI c).toInt64 0 6666 = some (b2 (decide (0 ≤ c) && decide (c ≤ 6666))) := in_nI (l := 0) (h := 6666) hc (by decide) (by decide)
    rw [decide_eq_true (Nat.zero_le c), Bool.true_and] at hin
    unfold mX3_isCode mX11_isCode
    rw [hin, obs, if_neg (nI_pos hc)]
    by_cases h : c ≤ 6666
    · have d1 : nI c / 100 - nI c / 100 / 10 * 10 = nI (c / 100 % 10) := by
        rw [show nI c / 100 = nI (c / 100) from nI_div hc (by decide) (by decide)]
        exact nI_rem (d := 10) (by omega) (by decide) (by decide)
      have d2 : nI c / 10 - nI c / 10 / 10 * 10 = nI (c / 10 % 10) := by
        rw [show nI c / 10 = nI (c / 10) from nI_div hc (by decide) (by decide)]
        exact nI_rem (d := 10) (by omega) (by decide) (by decide)
      have d3 : nI c - nI c / 10 * 10 = nI (c % 10) := nI_rem (d := 10) hc (by decide) (by decide)
      have p1 : mX11_power (nI c) 1 = some (nI (c / 100 % 10)) := power_spec (v := 1) (by decide) hc
      have p2 : mX11_power (nI c) 2 = some (nI (c / 10 % 10)) := power_spec (v := 2) (by decide) hc
      have p3 : mX11_power (nI c) 3 = some (nI (c % 10)) := by
        have := power_spec (c := c) (v := 3) (by decide) hc
        rw [show c / tenN 3 = c from Nat.div_one c] at this
        exact this
      have six : ∀ x, x < 10 → ((6 : Int32) < nI x) = (6 < x) := fun x hx => nI_ltI' (a := 6) (by decide) (by omega)
      rw [if_neg (show ¬ (6666 : Int32) < nI c from nI_nlt (b := c) (a := 6666) h (by decide)), decide_eq_true h, if_neg (show ¬ b2 true = 0 by decide), d1, d2, d3, p1, obs, p2, obs, p3, obs]
      simp only [six (c / 100 % 10) (by omega), six (c / 10 % 10) (by omega), six (c % 10) (by omega)]
      by_cases h1 : 6 < c / 100 % 10
      · rw [if_pos h1]
        exact Or.inl ⟨rfl, rfl⟩
      · rw [if_neg h1]
        by_cases h2 : 6 < c / 10 % 10
        · rw [if_pos h2]
          exact Or.inl ⟨rfl, rfl⟩
        · rw [if_neg h2]
          by_cases h3 : 6 < c % 10
          · rw [if_pos h3]
            exact Or.inl ⟨rfl, rfl⟩
          · rw [if_neg h3]
            obtain ⟨g1, g2, g3, g4⟩ := dig4 (a := c / 1000) (b := c / 100 % 10) (c := c / 10 % 10) (d := c % 10) (by omega) (by omega) (by omega)
            refine Or.inr ⟨343 * (c / 1000) + 49 * (c / 100 % 10) + 7 * (c / 10 % 10) + c % 10, by omega, ?_, rfl, rfl⟩
            unfold decN
            rw [g1, g2, g3, g4]
            refine congrArg nI ?_
            clear g1 g2 g3 g4
            have f1 : c / 100 / 10 = c / 1000 := Nat.div_div_eq_div_mul c 100 10
            have f2 : c / 10 / 10 = c / 100 := Nat.div_div_eq_div_mul c 10 10
            omega
    · rw [if_pos (show (6666 : Int32) < nI c from nI_lt (a := 6666) (by omega) hc), decide_eq_false h, if_pos (show b2 false = 0 by decide)]
      exact Or.inl ⟨rfl, rfl⟩
theorem contains_spec {S : St} {m p : Nat} {G : List Nat} (hp : p < 2401) (hc : cG S m G) (hl : G.length ≤ 40) (hq : ∀ q ∈ G, q < 2401) : mX2_contains S m (nI (hexN p)) = some (b2 (up G p)) := by
  unfold mX2_contains
  refine loopG (σ := Unit) (N := G.length) (fun n i _ => mX2_contains_2 S m n (nI (hexN p)) (nI i)) (fun i _ => (G.take i).any (fun q => dv q p) = false) (fun r => r = some (b2 (up G p))) (by omega) ?_ ?_ () (by simp)
  · intro i n _ hi hI
    have ht := any_take (f := fun q => dv q p) hi
    rw [hI, Bool.false_or] at ht
    simp (disch := omega) only [mX2_contains_2, hc.1, nI_leI', inb_nI, hc.2 i hi, cdiv_spec (hq _ (getD_mem hi)) hp, obs, bnd_eq, nI_1]
    rw [if_neg (by omega)]
    cases hd : dv (G.getD i 0) p with
    | true =>
      refine Or.inr ?_
      rw [if_neg (by decide), show up G p = true from List.any_eq_true.mpr ⟨_, getD_mem hi, hd⟩]
      rfl
    | false => exact Or.inl ⟨(), by rw [ht, hd], if_pos (by decide)⟩
  · intro n _ hI
    rw [List.take_length] at hI
    simp (disch := omega) only [mX2_contains_2, hc.1, nI_leI']
    rw [if_pos (Nat.le_refl _), show up G p = false from hI]
    rfl
theorem pf_has : PF_has Inv := by
  intro pr S a0 a1 hI
  unfold mX10_has mX11_has
  rcases ideal_cases a0 with ⟨c0, r0⟩ | ⟨h, hh, rfl, c0, r0⟩
  · rw [c0, r0, obs, obs]
    exact ⟨-1, rfl, rfl, hI⟩
  · obtain ⟨G, g1, g2, g3⟩ := hI.2.1 h (by omega)
    rw [c0, r0, obs, obs, if_neg (by decide), if_neg (by decide)]
    rcases code_cases a1 with ⟨c1, r1⟩ | ⟨p, hp, rfl, c1, r1⟩
    · rw [c1, r1, obs, obs]
      exact ⟨-2, rfl, rfl, hI⟩
    · rw [c1, r1, obs, obs, if_neg (by decide), if_neg (by decide), inb_nI hh (by decide), el62, ofCode_spec hp, obs, contains_spec hp g3 g1.1 g1.2.1, isIn_spec (by omega) hp g2 g1.1 g1.2.1, obs]
      cases up G p <;> exact ⟨_, rfl, rfl, hI⟩
theorem cwithin_spec {S : St} {m m1 : Nat} {G G1 : List Nat} (hc : cG S m G) (hl : G.length ≤ 40) (hq : ∀ q ∈ G, q < 2401) (hc1 : cG S m1 G1) (hl1 : G1.length ≤ 40) (hq1 : ∀ q ∈ G1, q < 2401) : mX2_isWithin S m m1 = some (b2 (G.all (up G1))) := by
  unfold mX2_isWithin
  refine loopG (σ := Unit) (N := G.length) (fun n i _ => mX2_isWithin_2 S m m1 n (nI i)) (fun i _ => (G.take i).all (up G1) = true) (fun r => r = some (b2 (G.all (up G1)))) (by omega) ?_ ?_ () (by simp)
  · intro i n _ hi hI
    have ht := all_take (f := up G1) hi
    rw [hI, Bool.true_and] at ht
    simp (disch := omega) only [mX2_isWithin_2, hc.1, nI_leI', inb_nI, hc.2 i hi, contains_spec (hq _ (getD_mem hi)) hc1 hl1 hq1, obs, bnd_eq, nI_1]
    rw [if_neg (by omega)]
    cases hd : up G1 (G.getD i 0) with
    | true => exact Or.inl ⟨(), by rw [ht, hd], if_neg (by decide)⟩
    | false =>
      refine Or.inr ?_
      rw [if_pos (by decide), show G.all (up G1) = false from List.all_eq_false.mpr ⟨_, getD_mem hi, by rw [hd]; decide⟩]
      rfl
  · intro n _ hI
    rw [List.take_length] at hI
    simp (disch := omega) only [mX2_isWithin_2, hc.1, nI_leI']
    rw [if_pos (Nat.le_refl _), hI]
    rfl
theorem rwithin_spec {S : St} {h h1 : Nat} {G G1 : List Nat} (hh : h < 16) (hh1 : h1 < 16) (hc : mG S h G) (hl : G.length ≤ 40) (hq : ∀ q ∈ G, q < 2401) (hc1 : mG S h1 G1) (hl1 : G1.length ≤ 40) (hq1 : ∀ q ∈ G1, q < 2401) : mX11_isWithin S (nI h) (nI h1) = some (b2 (G.all (up G1))) := by
  unfold mX11_isWithin
  have := loopN (N := G.length) (R := some (b2 (G.all (up G1)))) (fun n i => mX11_isWithin_5 S n (nI h) (nI h1) (b2 ((G.take i).all (up G1))) (nI i)) (by omega) ?_ ?_
  · exact this
  · intro i n hi
    have ht := all_take (f := up G1) hi
    simp (disch := omega) only [mX11_isWithin_5, hc.1, nI_leI', inb_nI, at_spec hh (by omega : i < 40), hc.2 i hi, isIn_spec hh1 (hq _ (getD_mem hi)) hc1 hl1 hq1, obs, bnd_eq, nI_1, mX11_isWithin_39, mX11_isWithin_40]
    rw [if_neg (by omega), ht]
    cases hb : (G.take i).all (up G1) with
    | false =>
      rw [if_pos (by decide)]
      rfl
    | true =>
      rw [if_neg (by decide)]
      cases hd : up G1 (G.getD i 0) with
      | true =>
        rw [if_neg (by decide)]
        rfl
      | false =>
        rw [if_pos (by decide)]
        rfl
  · intro n
    simp (disch := omega) only [mX11_isWithin_5, hc.1, nI_leI', inb_nI, List.take_length, zbg_b2]
    rw [if_pos (Nat.le_refl _)]
theorem pf_compare : PF_compare Inv := by
  intro pr S a0 a1 hI
  unfold mX10_compare mX11_compare
  rcases ideal_cases a0 with ⟨c0, r0⟩ | ⟨h, hh, rfl, c0, r0⟩
  · rw [c0, r0, obs, obs]
    exact ⟨-1, rfl, rfl, hI⟩
  · rw [c0, r0, obs, obs, if_neg (by decide), if_neg (by decide)]
    rcases ideal_cases a1 with ⟨c1, r1⟩ | ⟨h1, hh1, rfl, c1, r1⟩
    · rw [c1, r1, obs, obs]
      exact ⟨-1, rfl, rfl, hI⟩
    · obtain ⟨G, g1, g2, g3⟩ := hI.2.1 h (by omega)
      obtain ⟨G1, k1, k2, k3⟩ := hI.2.1 h1 (by omega)
      rw [c1, r1, obs, obs, if_neg (by decide), if_neg (by decide), inb_nI hh (by decide), inb_nI hh1 (by decide), el62, el62, cwithin_spec g3 g1.1 g1.2.1 k3 k1.1 k1.2.1, obs, inb_nI hh1 (by decide), inb_nI hh (by decide), el62, el62, cwithin_spec k3 k1.1 k1.2.1 g3 g1.1 g1.2.1, obs, rwithin_spec (by omega) (by omega) g2 g1.1 g1.2.1 k2 k1.1 k1.2.1, obs, rwithin_spec (by omega) (by omega) k2 k1.1 k1.2.1 g2 g1.1 g1.2.1, obs, obs]
      cases G.all (up G1) <;> cases G1.all (up G) <;> exact ⟨_, rfl, rfl, hI⟩
