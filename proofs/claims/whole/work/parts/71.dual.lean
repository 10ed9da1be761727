/-! PURE PART: dual -/
def dgD (r a : Nat) : Nat := if r = 0 then 0 else a + 1 - r
def dualN (a r : Nat) : Nat := mk4 (dgD (r / 343) (a / 343)) (dgD (r / 49 % 7) (a / 49 % 7)) (dgD (r / 7 % 7) (a / 7 % 7)) (dgD (r % 7) (a % 7))
theorem dgD_lt {r a : Nat} (ha : a < 7) : dgD r a < 7 := by
  unfold dgD
  split <;> omega
theorem dualN_lt {a r : Nat} (ha : a < 2401) : dualN a r < 2401 := by
  obtain ⟨a0, a1, a2, a3, -⟩ := digs a ha
  exact mk4_lt (dgD_lt a0) (dgD_lt a1) (dgD_lt a2) (dgD_lt a3)
theorem dualBy_step {r a x v n : Nat} (hr : r < 2401) (ha : a < 2401) (hv : v < 4) (hle : ex v r ≤ ex v a) : mX11_dualBy_4 (n + 1) (nI (decN r)) (nI (decN a)) (nI x) (nI v) = mX11_dualBy_4 n (nI (decN r)) (nI (decN a)) (nI (x + tenN v * dgD (ex v r) (ex v a))) (nI (v + 1)) := by
  have h1 := ex_lt (v := v) hr
  have h2 := ex_lt (v := v) ha
  simp only [mX11_dualBy_4, mX11_dualBy_40]
  rw [if_neg (show ¬ (4 : Int32) ≤ nI v from nI_ge (b := 4) hv (by decide)), power_dec hv hr, obs, ten_spec hv, obs, power_dec hv ha, obs, obs]
  simp only [bnd_eq, nI_1]
  unfold dgD
  by_cases h0 : ex v r = 0
  · rw [if_pos (show nI (ex v r) = 0 by rw [h0]; rfl), if_pos h0, show nI x + 0 = nI x from nI_add x 0]
    rfl
  · rw [if_neg (nI_ne0 (by omega) (by omega)), if_neg h0, nI_sub (by omega), nI_mul, nI_add]
theorem dualBy_spec {r a : Nat} (hr : r < 2401) (ha : a < 2401) (hle : ∀ v, v < 4 → ex v r ≤ ex v a) : mX11_dualBy (nI (decN r)) (nI (decN a)) = some (nI (decN (dualN a r))) := by
  obtain ⟨a0, a1, a2, a3, -⟩ := digs a ha
  unfold mX11_dualBy
  have hF : FU = FU - 5 + 1 + 1 + 1 + 1 + 1 := by decide
  rw [hF, show mX11_dualBy_4 (FU - 5 + 1 + 1 + 1 + 1 + 1) (nI (decN r)) (nI (decN a)) 0 0 = _ from dualBy_step (x := 0) (v := 0) hr ha (by decide) (hle 0 (by decide)), dualBy_step hr ha (by decide) (hle _ (by decide)), dualBy_step hr ha (by decide) (hle _ (by decide)), dualBy_step hr ha (by decide) (hle _ (by decide))]
  simp only [mX11_dualBy_4]
  rw [if_pos (show (4 : Int32) ≤ nI (0 + 1 + 1 + 1 + 1) by decide)]
  refine congrArg (fun z => some (nI z)) ?_
  unfold dualN
  rw [mk4_dec (dgD_lt a1) (dgD_lt a2) (dgD_lt a3)]
  simp only [ex, tenN]
  clear a0 a1 a2 a3 hle hF
  generalize dgD (r / 343) (a / 343) = x0
  generalize dgD (r / 49 % 7) (a / 49 % 7) = x1
  generalize dgD (r / 7 % 7) (a / 7 % 7) = x2
  generalize dgD (r % 7) (a % 7) = x3
  omega
theorem sq_sup (r : Nat) : hexN (sqN (supN r)) = hx (if ex 0 r = 0 then 0 else 1) (if ex 1 r = 0 then 0 else 1) (if ex 2 r = 0 then 0 else 1) (if ex 3 r = 0 then 0 else 1) := by
  obtain ⟨-, b0, b1, b2, b3⟩ := supN_bits r
  obtain ⟨e1, e2, e3, e4⟩ := dig4 (a := supN r % 2) (b := supN r / 2 % 2) (c := supN r / 4 % 2) (d := supN r / 8 % 2) (by omega) (by omega) (by omega)
  rw [hexN_hx]
  unfold sqN
  rw [e1, e2, e3, e4, b0, b1, b2, b3]
theorem dig15 {r a : Nat} (ha : a < 7) (hle : r ≤ a) : (a + (if r = 0 then 0 else 1) - r) &&& (15 * (if r = 0 then 0 else 1)) = dgD r a := by
  unfold dgD
  by_cases h : r = 0
  · rw [if_pos h, if_pos h, Nat.mul_zero, Nat.and_zero]
  · rw [if_neg h, if_neg h, Nat.mul_one]
    exact (show ∀ x, x < 16 → x &&& 15 = x by decide) _ (by omega)
theorem turn_mono {r a : Nat} (hr : r < 2401) (ha : a < 2401) (hle : ∀ v, v < 4 → ex v r ≤ ex v a) : ((nI (hexN a) + nI (hexN (sqN (supN r)))) - nI (hexN r)) &&& (15 * nI (hexN (sqN (supN r)))) = nI (hexN (dualN a r)) := by
  obtain ⟨a0, a1, a2, a3, -⟩ := digs a ha
  have l0 : r / 343 ≤ a / 343 := hle 0 (by decide)
  have l1 : r / 49 % 7 ≤ a / 49 % 7 := hle 1 (by decide)
  have l2 : r / 7 % 7 ≤ a / 7 % 7 := hle 2 (by decide)
  have l3 : r % 7 ≤ a % 7 := hle 3 (by decide)
  obtain ⟨e1, e2, e3, e4⟩ := mk4_dig (a := dgD (r / 343) (a / 343)) (b := dgD (r / 49 % 7) (a / 49 % 7)) (c := dgD (r / 7 % 7) (a / 7 % 7)) (d := dgD (r % 7) (a % 7)) (dgD_lt a1) (dgD_lt a2) (dgD_lt a3)
  rw [show hexN (dualN a r) = hx (dgD (r / 343) (a / 343)) (dgD (r / 49 % 7) (a / 49 % 7)) (dgD (r / 7 % 7) (a / 7 % 7)) (dgD (r % 7) (a % 7)) by rw [hexN_hx]; unfold dualN; rw [e1, e2, e3, e4], sq_sup, hexN_hx a, hexN_hx r]
  simp only [ex]
  rw [← dig15 a0 l0, ← dig15 a1 l1, ← dig15 a2 l2, ← dig15 a3 l3]
  clear e1 e2 e3 e4 hle hr ha
  generalize r / 343 = r0 at *
  generalize r / 49 % 7 = r1 at *
  generalize r / 7 % 7 = r2 at *
  generalize r % 7 = r3 at *
  generalize a / 343 = b0 at *
  generalize a / 49 % 7 = b1 at *
  generalize a / 7 % 7 = b2 at *
  generalize a % 7 = b3 at *
  have hs : ∀ x : Nat, (if x = 0 then 0 else 1) ≤ 1 := fun x => by split <;> omega
  have s0 := hs r0
  have s1 := hs r1
  have s2 := hs r2
  have s3 := hs r3
  clear hs
  generalize (if r0 = 0 then 0 else 1) = t0 at *
  generalize (if r1 = 0 then 0 else 1) = t1 at *
  generalize (if r2 = 0 then 0 else 1) = t2 at *
  generalize (if r3 = 0 then 0 else 1) = t3 at *
  have q1 : nI (hx b0 b1 b2 b3) + nI (hx t0 t1 t2 t3) = nI (hx (b0 + t0) (b1 + t1) (b2 + t2) (b3 + t3)) := by
    rw [nI_add]
    refine congrArg nI ?_
    unfold hx
    omega
  have q2 : nI (hx (b0 + t0) (b1 + t1) (b2 + t2) (b3 + t3)) - nI (hx r0 r1 r2 r3) = nI (hx (b0 + t0 - r0) (b1 + t1 - r1) (b2 + t2 - r2) (b3 + t3 - r3)) := by
    rw [nI_sub (by unfold hx; omega)]
    refine congrArg nI ?_
    unfold hx
    omega
  have q3 : 15 * nI (hx t0 t1 t2 t3) = nI (hx (15 * t0) (15 * t1) (15 * t2) (15 * t3)) := by
    rw [show (15 : Int32) = nI 15 from rfl, nI_mul]
    refine congrArg nI ?_
    unfold hx
    omega
  rw [q1, q2, q3, nI_and, hx_and (by omega) (by omega) (by omega) (by omega) (by omega) (by omega)]
theorem up0 {p : Nat} : (p + 343) / 49 % 7 = p / 49 % 7 ∧ (p + 343) / 7 % 7 = p / 7 % 7 ∧ (p + 343) % 7 = p % 7 := ⟨by omega, by omega, by omega⟩
theorem up1 {p : Nat} (h : p / 49 % 7 ≠ 6) : (p + 49) / 343 = p / 343 ∧ (p + 49) / 7 % 7 = p / 7 % 7 ∧ (p + 49) % 7 = p % 7 := ⟨by omega, by omega, by omega⟩
theorem up2 {p : Nat} (h : p / 7 % 7 ≠ 6) : (p + 7) / 343 = p / 343 ∧ (p + 7) / 49 % 7 = p / 49 % 7 ∧ (p + 7) % 7 = p % 7 := ⟨by omega, by omega, by omega⟩
theorem up3 {p : Nat} (h : p % 7 ≠ 6) : (p + 1) / 343 = p / 343 ∧ (p + 1) / 49 % 7 = p / 49 % 7 ∧ (p + 1) / 7 % 7 = p / 7 % 7 := ⟨by omega, by omega, by omega⟩
theorem nle7 {g p a : Nat} (hn : ¬ g ≤ p) (ha : g ≤ a) : (p + 1) % 7 ≤ a := Nat.le_trans (Nat.mod_le _ _) (by omega)
/-- a part has no higher exponent than some generator -/
theorem hi_le {G : List Nat} {p a : Nat} (h : hiB (fun p => !(up G p)) p = true) (hG : ∀ g ∈ G, dv g a = true) : (p / 343 + 1) % 7 ≤ a / 343 ∧ (p / 49 % 7 + 1) % 7 ≤ a / 49 % 7 ∧ (p / 7 % 7 + 1) % 7 ≤ a / 7 % 7 ∧ (p % 7 + 1) % 7 ≤ a % 7 ∨ 2401 ≤ p := by
  by_cases hp : p < 2401
  · refine Or.inl ?_
    unfold hiB at h
    rw [Bool.and_eq_true] at h
    obtain ⟨t1, t2⟩ := h
    have t1 : up G p = false := by simpa using t1
    simp only [allF, Bool.and_eq_true, Bool.and_true] at t2
    obtain ⟨u0, u1, u2, u3⟩ := t2
    have hno : ∀ g ∈ G, dv g p = false := fun g hg => by
      cases hd : dv g p with
      | false => rfl
      | true =>
        rw [up_iff.mpr ⟨g, hg, hd⟩] at t1
        cases t1
    have getg : ∀ v, (decide (ex v p = 6) || !(!(up G (p + sevN v)))) = true → ex v p ≠ 6 → ∃ g ∈ G, dv g (p + sevN v) = true := fun v z h6 => by
      rw [decide_eq_false h6, Bool.false_or, Bool.not_not] at z
      exact up_iff.mp z
    refine ⟨?_, ?_, ?_, ?_⟩
    · by_cases h6 : p / 343 = 6
      · rw [h6]
        exact Nat.zero_le _
      · obtain ⟨g, g1, g2⟩ := getg 0 u0 h6
        obtain ⟨x0, x1, x2, x3⟩ := dv_iff.mp (show dv g (p + 343) = true from g2)
        obtain ⟨y1, y2, y3⟩ := up0 (p := p)
        rw [y1] at x1
        rw [y2] at x2
        rw [y3] at x3
        refine nle7 (fun z => ?_) (dv_iff.mp (hG g g1)).1
        have hn := hno g g1
        rw [dv_iff.mpr ⟨z, x1, x2, x3⟩] at hn
        cases hn
    · by_cases h6 : p / 49 % 7 = 6
      · rw [h6]
        exact Nat.zero_le _
      · obtain ⟨g, g1, g2⟩ := getg 1 u1 h6
        obtain ⟨x0, x1, x2, x3⟩ := dv_iff.mp (show dv g (p + 49) = true from g2)
        obtain ⟨y1, y2, y3⟩ := up1 h6
        rw [y1] at x0
        rw [y2] at x2
        rw [y3] at x3
        refine nle7 (fun z => ?_) (dv_iff.mp (hG g g1)).2.1
        have hn := hno g g1
        rw [dv_iff.mpr ⟨x0, z, x2, x3⟩] at hn
        cases hn
    · by_cases h6 : p / 7 % 7 = 6
      · rw [h6]
        exact Nat.zero_le _
      · obtain ⟨g, g1, g2⟩ := getg 2 u2 h6
        obtain ⟨x0, x1, x2, x3⟩ := dv_iff.mp (show dv g (p + 7) = true from g2)
        obtain ⟨y1, y2, y3⟩ := up2 h6
        rw [y1] at x0
        rw [y2] at x1
        rw [y3] at x3
        refine nle7 (fun z => ?_) (dv_iff.mp (hG g g1)).2.2.1
        have hn := hno g g1
        rw [dv_iff.mpr ⟨x0, x1, z, x3⟩] at hn
        cases hn
    · by_cases h6 : p % 7 = 6
      · rw [h6]
        exact Nat.zero_le _
      · obtain ⟨g, g1, g2⟩ := getg 3 u3 h6
        obtain ⟨x0, x1, x2, x3⟩ := dv_iff.mp (show dv g (p + 1) = true from g2)
        obtain ⟨y1, y2, y3⟩ := up3 h6
        rw [y1] at x0
        rw [y2] at x1
        rw [y3] at x2
        refine nle7 (fun z => ?_) (dv_iff.mp (hG g g1)).2.2.2
        have hn := hno g g1
        rw [dv_iff.mpr ⟨x0, x1, x2, z⟩] at hn
        cases hn
  · exact Or.inr (by omega)
theorem pbN_dig (p : Nat) : pbN p / 343 = (p / 343 + 1) % 7 ∧ pbN p / 49 % 7 = (p / 49 % 7 + 1) % 7 ∧ pbN p / 7 % 7 = (p / 7 % 7 + 1) % 7 ∧ pbN p % 7 = (p % 7 + 1) % 7 := mk4_dig (Nat.mod_lt _ (by decide)) (Nat.mod_lt _ (by decide)) (Nat.mod_lt _ (by decide))
theorem part_le {G : List Nat} {r a : Nat} (hr : r ∈ pls (fun p => !(up G p))) (hG : ∀ g ∈ G, dv g a = true) : ∀ v, v < 4 → ex v r ≤ ex v a := by
  obtain ⟨r1, r2⟩ := List.mem_filter.mp hr
  have r1 := List.mem_range.mp r1
  have hu := unN_lt r
  obtain ⟨e1, e2, e3, e4⟩ := pbN_dig (unN r)
  rw [pb_un r1] at e1 e2 e3 e4
  rcases hi_le r2 hG with ⟨x0, x1, x2, x3⟩ | h
  · intro v hv
    match v with
    | 0 => exact Nat.le_trans (Nat.le_of_eq e1) x0
    | 1 => exact Nat.le_trans (Nat.le_of_eq e2) x1
    | 2 => exact Nat.le_trans (Nat.le_of_eq e3) x2
    | v + 3 => exact Nat.le_trans (Nat.le_of_eq e4) x3
  · exact absurd hu (Nat.not_lt_of_le h)
theorem allDivide_spec {S : St} {m a : Nat} {G : List Nat} (ha : a < 2401) (hc : cG S m G) (hl : G.length ≤ 40) (hq : ∀ q ∈ G, q < 2401) : mX2_allDivide S m (nI (hexN a)) = some (b2 (G.all (fun g => dv g a))) := by
  unfold mX2_allDivide
  refine loopG (σ := Unit) (N := G.length) (fun n i _ => mX2_allDivide_2 S m n (nI (hexN a)) (nI i)) (fun i _ => (G.take i).all (fun g => dv g a) = true) (fun r => r = some (b2 (G.all (fun g => dv g a)))) (by omega) ?_ ?_ () (by simp)
  · intro i n _ hi hI
    have ht := all_take (f := fun g => dv g a) hi
    rw [hI, Bool.true_and] at ht
    simp only [mX2_allDivide_2, bnd_eq, nI_1]
    rw [hc.1, if_neg (nI_ge hi (by omega)), inb_nI (show i < 40 by omega) (by decide), hc.2 i hi, cdiv_spec (hq _ (getD_mem hi)) ha, obs]
    cases hd : dv (G.getD i 0) a with
    | true => exact Or.inl ⟨(), by rw [ht, hd], if_neg (by decide)⟩
    | false =>
      refine Or.inr ?_
      rw [if_pos (by decide), show G.all (fun g => dv g a) = false from List.all_eq_false.mpr ⟨_, getD_mem hi, by rw [hd]; decide⟩]
      rfl
  · intro n _ hI
    rw [List.take_length] at hI
    simp only [mX2_allDivide_2]
    rw [hc.1, if_pos (nI_le (Nat.le_refl _) (by omega)), hI]
    rfl
theorem rdual29 {S : St} {h a : Nat} {x3 : Int32} {G : List Nat} (hh : h < 16) (ha : a < 2401) (hm : mG S h G) (hl : G.length ≤ 40) (hq : ∀ q ∈ G, q < 2401) : mX11_dual_29 FU S (nI h) (nI (decN a)) x3 0 = (if G.all (fun g => dv g a) then ((mX11_findParts S (nI h)).bind fun r2 => (mX11_clear r2).bind fun r3 => mX11_dual_75 FU r3 (nI (decN a)) x3 0) else some (-3, S)) := by
  refine loopG (σ := Unit) (N := G.length) (fun n i _ => mX11_dual_29 n S (nI h) (nI (decN a)) x3 (nI i)) (fun i _ => (G.take i).all (fun g => dv g a) = true) (fun r => r = (if G.all (fun g => dv g a) then ((mX11_findParts S (nI h)).bind fun r2 => (mX11_clear r2).bind fun r3 => mX11_dual_75 FU r3 (nI (decN a)) x3 0) else some (-3, S))) (by omega) ?_ ?_ () (by simp)
  · intro i n _ hi hI
    have ht := all_take (f := fun g => dv g a) hi
    rw [hI, Bool.true_and] at ht
    simp only [mX11_dual_29, bnd_eq, nI_1]
    rw [inb_nI hh (by decide), hm.1, if_neg (nI_ge hi (by omega)), at_spec hh (by omega), hm.2 i hi, obs, divides_spec (hq _ (getD_mem hi)) ha, obs]
    cases hd : dv (G.getD i 0) a with
    | true => exact Or.inl ⟨(), by rw [ht, hd], if_neg (by decide)⟩
    | false =>
      refine Or.inr ?_
      rw [if_pos (by decide), if_neg (show ¬ G.all (fun g => dv g a) = true by rw [List.all_eq_false.mpr ⟨_, getD_mem hi, by rw [hd]; decide⟩]; decide)]
  · intro n _ hI
    rw [List.take_length] at hI
    simp only [mX11_dual_29]
    rw [inb_nI hh (by decide), hm.1, if_pos (nI_le (Nat.le_refl _) (by omega)), if_pos hI]
theorem turn_spec {S : St} {H : Nat → Nat} {a : Nat} (ha : a < 2401) (h : hA S 60 H) (hle : ∀ r ∈ pcl H 343, ∀ v, v < 4 → ex v r ≤ ex v a) : ∃ S1, mX9_turnParts S 59 (nI (hexN a)) = some S1 ∧ hS S1 56 (up ((pcl H 343).map (dualN a))) ∧ Fr [56] [] S S1 := by
  obtain ⟨S0, a1, a2, a3⟩ := nothing_spec (S := S) (n := 55) (Or.inl rfl)
  unfold mX9_turnParts
  rw [a1, obs]
  have hL : ∀ q ∈ (pcl H 343).map (dualN a), q < 2401 := fun q hq => by
    obtain ⟨r, -, rfl⟩ := List.mem_map.mp hq
    exact dualN_lt ha
  refine loopG (σ := St) (N := 343) (fun f i s => mX9_turnParts_9 59 f s (nI (hexN a)) (nI i)) (fun i s => hA s 56 (lwL (fun _ => 7) ((pcl H i).map (dualN a))) ∧ Fr [56] [] S s) (fun r => ∃ S1, r = some S1 ∧ hS S1 56 (up ((pcl H 343).map (dualN a))) ∧ Fr [56] [] S S1) (by omega) ?_ ?_ S0 ⟨a2, a3⟩
  · intro i f s hi hI
    have h1 := hA_fr h hI.2 (by decide)
    refine Or.inl ?_
    simp only [mX9_turnParts_9, mX9_turnParts_55, bnd_eq, nI_1]
    rw [if_neg (show ¬ (343 : Int32) ≤ nI i from nI_ge (b := 343) hi (by decide))]
    cases hp : isP H i with
    | false =>
      rw [partAt_F hi h1 hp, obs, if_pos rfl, pcl_F hp]
      exact ⟨s, hI, rfl⟩
    | true =>
      have hmem : ptN H i ∈ pcl H 343 := by
        unfold pcl
        exact List.mem_map.mpr ⟨i, List.mem_filter.mpr ⟨List.mem_range.mpr hi, hp⟩, rfl⟩
      obtain ⟨s1, b1, b2, b3⟩ := lower_hA (n := 55) (dualN_lt (r := ptN H i) ha) hI.1
      refine ⟨s1, ⟨?_, hI.2.trans b3⟩, ?_⟩
      · rw [pcl_T hp, List.map_append, lwL_append]
        exact b2
      · unfold mX9_figuresOf
        rw [partAt_T hi h1 hp, obs, if_neg (hexP hi), support_spec (ptN_lt hi), obs, ofSet_spec _ (supN_bits _).1, obs, obs, ofSet_spec _ (supN_bits _).1, obs, obs, turn_mono (ptN_lt hi) ha (hle _ hmem), b1, obs]
  · intro f s hI
    obtain ⟨s3, c1, c2, c3⟩ := low_spread (n := 55) hL hI.1
    simp only [mX9_turnParts_9]
    rw [if_pos (show (343 : Int32) ≤ nI 343 by decide), c1, obs]
    exact ⟨s3, rfl, c2, hI.2.trans c3⟩
theorem rdual75 {S : St} {L : List Nat} {a : Nat} {x3 : Int32} (ha : a < 2401) (hp : pL S L) (hlen : L.length ≤ 2401) (hlt : ∀ r ∈ L, r < 2401) (hle : ∀ r ∈ L, ∀ v, v < 4 → ex v r ≤ ex v a) (h0 : mk S 4 (fun _ => false)) : ∃ S1, mX11_dual_75 FU S (nI (decN a)) x3 0 = ((mX11_keep S1 x3).bind fun r1 => some (r1.1, r1.2)) ∧ mk S1 4 (up (L.map (dualN a))) ∧ Fr [4] [] S S1 := by
  refine loopG (σ := St) (N := L.length) (fun f i s => mX11_dual_75 f s (nI (decN a)) x3 (nI i)) (fun i s => mk s 4 (up ((L.take i).map (dualN a))) ∧ Fr [4] [] S s) (fun r => ∃ S1, r = ((mX11_keep S1 x3).bind fun r1 => some (r1.1, r1.2)) ∧ mk S1 4 (up (L.map (dualN a))) ∧ Fr [4] [] S S1) (by omega) ?_ ?_ S ⟨h0, Fr.refl _ _ S⟩
  · intro i f s hi hI
    have e1 : gI s 0 13 = nI L.length := (hI.2.2 0 13 (by decide)).trans hp.1
    have e2 : gA s 9 i = nI (decN (L.getD i 0)) := by
      rw [hI.2.1 9 (by decide)]
      exact hp.2 i hi
    have hm := getD_mem hi
    obtain ⟨s1, b1, b2, b3⟩ := mark_spec (dualN_lt (r := L.getD i 0) ha) hI.1
    refine Or.inl ⟨s1, ⟨mk_congr b2 (fun p _ => ?_), hI.2.trans b3⟩, ?_⟩
    · rw [take_succ' hi, List.map_append]
      unfold up
      rw [List.any_append]
      simp
    · simp only [mX11_dual_75]
      rw [e1, if_neg (nI_ge hi (by omega)), inb_nI (show i < 2401 by omega) (by decide), e2, dualBy_spec (hlt _ hm) ha (hle _ hm), obs, b1, obs, bnd_eq, nI_1]
  · intro f s hI
    have e1 : gI s 0 13 = nI L.length := (hI.2.2 0 13 (by decide)).trans hp.1
    rw [List.take_length] at hI
    simp only [mX11_dual_75]
    rw [e1, if_pos (nI_le (Nat.le_refl _) (by omega))]
    exact ⟨s, rfl, hI.1, hI.2⟩
theorem pf_dual : PF_dual Inv := by
  intro pr S a0 a1 a2 hI
  unfold mX10_dual mX11_dual
  rcases ideal_cases a0 with ⟨c0, r0⟩ | ⟨h, hh, rfl, c0, r0⟩
  · rw [c0, obs]
    exact ⟨-1, S, S, if_pos rfl, by rw [r0, obs, if_pos rfl], hI⟩
  rw [c0, obs, if_neg (by decide)]
  rcases ideal_cases a2 with ⟨c2, r2⟩ | ⟨t, ht, rfl, c2, r2⟩
  · rw [c2, obs]
    exact ⟨-1, S, S, if_pos rfl, by rw [r0, obs, if_neg (by decide), r2, obs, if_pos rfl], hI⟩
  rw [c2, obs, if_neg (by decide)]
  rcases code_cases a1 with ⟨c1, r1⟩ | ⟨a, ha, rfl, c1, r1⟩
  · rw [c1, obs]
    exact ⟨-2, S, S, if_pos rfl, by rw [r0, obs, if_neg (by decide), r2, obs, if_neg (by decide), r1, obs, if_pos rfl], hI⟩
  obtain ⟨G, g1, g2, g3⟩ := hI.2.1 h (by omega)
  rw [c1, obs, if_neg (by decide), ofCode_spec ha, obs, inb_nI hh (by decide), el62, allDivide_spec ha g3 g1.1 g1.2.1, obs]
  cases hall : G.all (fun g => dv g a) with
  | false =>
    rw [if_pos (by decide)]
    refine ⟨-3, S, S, rfl, ?_, hI⟩
    rw [r0, obs, if_neg (by decide), r2, obs, if_neg (by decide), r1, obs, if_neg (by decide), rdual29 (by omega) ha g2 g1.1 g1.2.1, hall]
    rfl
  | true =>
    rw [if_neg (by decide), inb_nI hh (by decide), el62]
    obtain ⟨S1, H, l1, l2, l3, l4⟩ := look_spec (m := 65 + 2 * h) (by omega) g3 g1.1 g1.2.1
    have hPL := pls_of l2 l3
    have hle : ∀ r ∈ pcl H 343, ∀ v, v < 4 → ex v r ≤ ex v a := fun r hr => part_le (G := G) (by rw [hPL]; exact hr) (fun g hg => List.all_eq_true.mp hall g hg)
    obtain ⟨S2, m1, m2, m3⟩ := turn_spec ha l2 hle
    obtain ⟨r, S3, d1, d2, d3⟩ := finish_inv (h := t) hI ((l4.mono (by decide) (by simp)).trans (m3.mono (by decide) (by simp))) (by omega) m2 (upc_up _)
    obtain ⟨S4, p1, p2, p3, p4⟩ := findParts_spec (S := S3) (h := h) (by omega) (d2 h G g2) g1.1 g1.2.1
    rw [hPL] at p2
    obtain ⟨S5, q1, q2, q3⟩ := clear_spec S4
    have p5 : pL S5 (pcl H 343) := ⟨(q3.2 0 13 (by decide)).trans p2.1, fun i hi => by rw [q3.1 9 (by decide)]; exact p2.2 i hi⟩
    obtain ⟨S6, u1, u2, u3⟩ := rdual75 (x3 := nI t) ha p5 (by have := pcl_len H 343; omega) (pcl_lt (Nat.le_refl _)) hle q2
    obtain ⟨S7, k1, k2⟩ := d3 S6 ((p4.mono (by decide) (by decide)).trans ((q3.mono (by decide) (by simp)).trans (u3.mono (by decide) (by simp)))) u2
    rw [l1, obs, m1, obs, inb_nI ht (by decide), el62, d1, obs]
    refine ⟨r, S3, S7, rfl, ?_, k2⟩
    rw [r0, obs, if_neg (by decide), r2, obs, if_neg (by decide), r1, obs, if_neg (by decide), rdual29 (by omega) ha (d2 h G g2) g1.1 g1.2.1, hall, if_pos rfl, p1, obs, q1, obs, u1, k1, obs]
