/-! PURE PART: part, prime -/
theorem look_spec {S : St} {m : Nat} {G : List Nat} (hm : 60 < m) (hc : cG S m G) (hl : G.length ≤ 40) (hq : ∀ q ∈ G, q < 2401) : ∃ S1 H, mX7_look S m = some S1 ∧ hA S1 60 H ∧ (∀ p, p < 2401 → up G p = bH H p) ∧ Fr [60] [] S S1 := by
  obtain ⟨S1, e1, ⟨H, e2, e3⟩, e4⟩ := become_spec (n := 59) (Or.inr (Or.inr rfl)) (by omega) hc hl hq
  exact ⟨S1, H, by unfold mX7_look; rw [e1, obs], e2, e3, e4⟩
theorem pls_of {G : List Nat} {H : Nat → Nat} {S : St} (h : hA S 60 H) (hB : ∀ p, p < 2401 → up G p = bH H p) : pls (fun p => !(up G p)) = pcl H 343 := pls_pcl (fun c hc => (h c hc).2) (fun p hp => by
  show (!(up G p)) = _
  rw [hB p hp])
theorem pcl_len (H : Nat → Nat) (i : Nat) : (pcl H i).length ≤ i := by
  unfold pcl
  rw [List.length_map]
  exact filter_len_le _ i
theorem pcl_lt {H : Nat → Nat} {i : Nat} (hi : i ≤ 343) : ∀ r ∈ pcl H i, r < 2401 := fun r hr => by
  obtain ⟨o, o1, rfl⟩ := List.mem_map.mp hr
  have := List.mem_range.mp (List.mem_filter.mp o1).1
  exact ptN_lt (by omega)
theorem hexP {H : Nat → Nat} {o : Nat} (ho : o < 343) : ¬ nI (hexN (ptN H o)) = -1 := nI_ne_m1 (by have := hexN_lt (ptN_lt (H := H) ho); omega)
theorem partAt_T {S : St} {o : Nat} {H : Nat → Nat} (ho : o < 343) (h : hA S 60 H) (hp : isP H o = true) : mX6_partAt S 59 (nI o) = some (nI (hexN (ptN H o))) := by
  rw [partAt_spec (n := 59) ho h, if_pos hp]
theorem partAt_F {S : St} {o : Nat} {H : Nat → Nat} (ho : o < 343) (h : hA S 60 H) (hp : isP H o = false) : mX6_partAt S 59 (nI o) = some (-1) := by
  rw [partAt_spec (n := 59) ho h, if_neg (by rw [hp]; decide)]
theorem pcl_T {H : Nat → Nat} {i : Nat} (hp : isP H i = true) : pcl H (i + 1) = pcl H i ++ [ptN H i] := by rw [pcl_succ, if_pos hp]
theorem pcl_F {H : Nat → Nat} {i : Nat} (hp : isP H i = false) : pcl H (i + 1) = pcl H i := by rw [pcl_succ, if_neg (by rw [hp]; decide), List.append_nil]
theorem rng_split {N i : Nat} (h : i ≤ N) : List.range N = List.range i ++ List.range' i (N - i) := by
  rw [List.range_eq_range', List.range_eq_range', show List.range' 0 N = List.range' 0 (i + (N - i)) by rw [show i + (N - i) = N by omega], ← List.range'_append_1, Nat.zero_add]
theorem partCount_spec {S : St} {H : Nat → Nat} (h : hA S 60 H) : mX7_partCount S = some (nI (pcl H 343).length) := by
  unfold mX7_partCount
  refine loopN (N := 343) (fun f i => mX7_partCount_4 S f (nI (pcl H i).length) (nI i)) (by omega) ?_ ?_
  · intro i f hi
    simp only [mX7_partCount_4, mX7_partCount_26, bnd_eq, nI_1]
    rw [if_neg (show ¬ (343 : Int32) ≤ nI i from nI_ge (b := 343) hi (by decide))]
    cases hp : isP H i with
    | true =>
      rw [partAt_T hi h hp, obs, if_neg (hexP hi), pcl_T hp, List.length_append]
      rfl
    | false => rw [partAt_F hi h hp, obs, if_pos rfl, pcl_F hp]
  · intro f
    simp only [mX7_partCount_4]
    rw [if_pos (show (343 : Int32) ≤ nI 343 by decide)]
theorem partCode_spec {S : St} {H : Nat → Nat} (a : Int32) (h : hA S 60 H) : (∃ t, t < (pcl H 343).length ∧ a = nI t ∧ mX7_partCode S a = some (nI (decN ((pcl H 343).getD t 0)))) ∨ ((∀ t, t < (pcl H 343).length → a ≠ nI t) ∧ mX7_partCode S a = some (-6)) := by
  unfold mX7_partCode
  have pre : ∀ i, i ≤ 343 → ∃ R, pcl H 343 = pcl H i ++ R := by
    intro i hi
    unfold pcl
    rw [rng_split hi, List.filter_append, List.map_append]
    exact ⟨_, rfl⟩
  have := loopG (σ := Unit) (N := 343) (fun f i _ => mX7_partCode_4 S f (a - nI (pcl H i).length) (nI i)) (fun i _ => ∀ t, t < (pcl H i).length → a ≠ nI t) (fun r => (∃ t, t < (pcl H 343).length ∧ a = nI t ∧ r = some (nI (decN ((pcl H 343).getD t 0)))) ∨ ((∀ t, t < (pcl H 343).length → a ≠ nI t) ∧ r = some (-6))) (by omega) ?_ ?_ () (fun t ht => absurd ht (Nat.not_lt_zero t))
  · rw [show a - nI (pcl H 0).length = a by show a - nI 0 = a; rw [nI_0]; grind] at this
    exact this
  · intro i f _ hi hI
    simp only [mX7_partCode_4, mX7_partCode_40, bnd_eq, nI_1, sub_m1, sub_z]
    rw [if_neg (show ¬ (343 : Int32) ≤ nI i from nI_ge (b := 343) hi (by decide))]
    cases hp : isP H i with
    | true =>
      rw [partAt_T hi h hp, obs, if_neg (hexP hi), pcl_T hp, List.length_append]
      by_cases ha : a = nI (pcl H i).length
      · refine Or.inr (Or.inl ⟨(pcl H i).length, ?_, ha, ?_⟩)
        · obtain ⟨R, hR⟩ := pre (i + 1) (by omega)
          rw [hR, pcl_T hp, List.length_append, List.length_append]
          show _ < _ + 1 + _
          omega
        · rw [if_pos ha, toCode_spec (ptN_lt hi), obs]
          obtain ⟨R, hR⟩ := pre (i + 1) (by omega)
          rw [hR, pcl_T hp, List.append_assoc, show (pcl H i).length = (pcl H i).length + 0 from rfl, getD_right]
          rfl
      · refine Or.inl ⟨(), fun t ht => ?_, if_neg ha⟩
        have ht : t < (pcl H i).length + 1 := ht
        by_cases he : t = (pcl H i).length
        · rw [he]
          exact ha
        · exact hI t (by omega)
    | false =>
      rw [partAt_F hi h hp, obs, if_pos rfl, pcl_F hp]
      exact Or.inl ⟨(), hI, rfl⟩
  · intro f _ hI
    simp only [mX7_partCode_4]
    rw [if_pos (show (343 : Int32) ≤ nI 343 by decide)]
    exact Or.inr ⟨hI, rfl⟩
theorem pf_part : PF_part Inv := by
  intro pr S a0 a1 hI
  unfold mX10_part mX11_part
  rcases ideal_cases a0 with ⟨c0, r0⟩ | ⟨h, hh, rfl, c0, r0⟩
  · rw [c0, obs]
    exact ⟨-1, S, S, if_pos rfl, by rw [r0, obs, if_pos rfl], hI⟩
  · obtain ⟨G, g1, g2, g3⟩ := hI.2.1 h (by omega)
    obtain ⟨S1, H, l1, l2, l3, l4⟩ := look_spec (m := 65 + 2 * h) (by omega) g3 g1.1 g1.2.1
    obtain ⟨S2, p1, p2, p3, p4⟩ := findParts_spec (S := S1) (h := h) (by omega) (mG_fr g2 l4 (by decide) (by decide)) g1.1 g1.2.1
    have hPL := pls_of l2 l3
    rw [hPL] at p2
    have hlen := pcl_len H 343
    have hI2 : Inv pr S2 := Inv_fr (Inv_fr hI (l4.mono (by decide) (by simp))) (p4.mono (by decide) (by decide))
    rw [c0, obs, if_neg (by decide), inb_nI hh (by decide), el62, l1, obs]
    by_cases h1 : a1 = -1
    · rw [if_pos h1, partCount_spec l2, obs]
      refine ⟨_, S1, S2, rfl, ?_, hI2⟩
      rw [r0, obs, if_neg (by decide), p1, obs, if_pos h1, p2.1]
    · rw [if_neg h1]
      rcases partCode_spec a1 l2 with ⟨t, t1, rfl, t3⟩ | ⟨t1, t2⟩
      · rw [t3, obs]
        refine ⟨_, S1, S2, rfl, ?_, hI2⟩
        have e : (nI (pcl H 343).length - 1).toInt64.toInt = ((pcl H 343).length : Int) - 1 := by
          rw [Int32.toInt_toInt64]
          exact pk_sub_toInt (b := 1) (by omega) (by decide)
        rw [r0, obs, if_neg (by decide), p1, obs, if_neg h1, p2.1, in_spec, e, Int32.toInt_toInt64, nI_toInt (by omega), show (0 : Int64).toInt = 0 from by decide, decide_eq_true (by omega), decide_eq_true (by omega), obs, if_neg (by decide), inb_nI (show t < 2401 by omega) (by decide), p2.2 t t1]
      · rw [t2, obs]
        refine ⟨_, S1, S2, rfl, ?_, hI2⟩
        rw [r0, obs, if_neg (by decide), p1, obs, if_neg h1, p2.1]
        rcases arg a1 with ha | ⟨j, hj, rfl⟩
        · rw [show (0 : Int64) = lN 0 from rfl, in_neg (l := 0) ha (by decide), obs]
          rfl
        · have e : (nI (pcl H 343).length - 1).toInt64.toInt = ((pcl H 343).length : Int) - 1 := by
            rw [Int32.toInt_toInt64]
            exact pk_sub_toInt (b := 1) (by omega) (by decide)
          have hge : ¬ j < (pcl H 343).length := fun z => t1 j z rfl
          rw [in_spec, e, Int32.toInt_toInt64, nI_toInt hj, show (0 : Int64).toInt = 0 from by decide, decide_eq_true (by omega), decide_eq_false (by omega), obs]
          rfl
