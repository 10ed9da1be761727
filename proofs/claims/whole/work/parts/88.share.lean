/-! PURE PART: share -/
theorem log_bd {s : Nat} (h : 1 ≤ s) (h2 : s ≤ 39711) : 2 ^ s.log2 ≤ s ∧ s < 2 ^ (s.log2 + 1) ∧ s.log2 ≤ 16 := by
  refine ⟨Nat.log2_self_le (by omega), Nat.lt_log2_self, ?_⟩
  have : s.log2 < 17 := (Nat.log2_lt (by omega)).mpr (by show s < 131072; omega)
  omega
theorem single_spec {s A : Nat} (h0 : 1 ≤ s) (h1 : s ≤ A) (h2 : A ≤ 39711) : ∃ j t c, j ≤ 17 ∧ A ≤ s * 2 ^ j ∧ s * 2 ^ j < 2 * A ∧ t = rt2 24 (s * 2 ^ j) A ∧ c = rc2 24 (s * 2 ^ j) A ∧ t ≤ 1 ∧ 8388608 ≤ c ∧ c < 16777216 ∧ mX5_single (nI s) (nI A) = some (fp32 c (-((j + 23 - t : Nat) : Int))) := by
  obtain ⟨s0, s1, s2⟩ := log_bd h0 (by omega)
  obtain ⟨a0, a1, a2⟩ := log_bd (s := A) (by omega) h2
  obtain ⟨j, j1, j2, j3, j4⟩ := div32_spec s0 s1 a0 a1 a2 h1
  have hb := rc2_bd (size := 24) (show 0 < A by omega) j2 j3 (by omega) (by decide) (by decide)
  have ht : rt2 24 (s * 2 ^ j) A ≤ 1 := by
    unfold rt2
    split <;> omega
  have hb1 : 8388608 ≤ rc2 24 (s * 2 ^ j) A := hb.1
  have hb2 : rc2 24 (s * 2 ^ j) A < 16777216 := hb.2
  refine ⟨j, _, _, j1, j2, j3, rfl, rfl, ht, hb1, hb2, ?_⟩
  unfold mX5_single
  rw [if_neg (nI_ne0 (by omega) (by omega)), j4, fp32_nn hb1 hb2 (by omega) (by omega)]
  exact congrArg (fun z => some (fp32 _ z)) (by omega)
theorem double_spec {s A : Nat} (h0 : 1 ≤ s) (h1 : s ≤ A) (h2 : A ≤ 39711) : ∃ j t c, j ≤ 17 ∧ A ≤ s * 2 ^ j ∧ s * 2 ^ j < 2 * A ∧ t = rt2 53 (s * 2 ^ j) A ∧ c = rc2 53 (s * 2 ^ j) A ∧ t ≤ 1 ∧ 4503599627370496 ≤ c ∧ c < 9007199254740992 ∧ mX5_doubleBits (nI s) (nI A) = some (lN ((1075 - (j + 52 - t)) * 4503599627370496 + (c - 4503599627370496))) := by
  obtain ⟨s0, s1, s2⟩ := log_bd h0 (by omega)
  obtain ⟨a0, a1, a2⟩ := log_bd (s := A) (by omega) h2
  obtain ⟨j, j1, j2, j3, j4⟩ := div64_spec s0 s1 a0 a1 a2 h1
  have hb := rc2_bd (size := 53) (show 0 < A by omega) j2 j3 (by omega) (by decide) (by decide)
  have ht : rt2 53 (s * 2 ^ j) A ≤ 1 := by
    unfold rt2
    split <;> omega
  have hb1 : 4503599627370496 ≤ rc2 53 (s * 2 ^ j) A := hb.1
  have hb2 : rc2 53 (s * 2 ^ j) A < 9007199254740992 := hb.2
  refine ⟨j, _, _, j1, j2, j3, rfl, rfl, ht, hb1, hb2, ?_⟩
  unfold mX5_doubleBits mX5_doubleBits_13
  rw [if_neg (nI_ne0 (by omega) (by omega)), j4, fp64_nn hb1 hb2 (by omega) (by omega), show FP.dcmp (fp64 (rc2 53 (s * 2 ^ j) A) ((rt2 53 (s * 2 ^ j) A : Int) - j - 52)) FP.dconst0 = some .gt from pos64 hb1 hb2 (by omega) (by omega), if_pos (by decide), show ((rt2 53 (s * 2 ^ j) A : Int) - j - 52) = -((j + 52 - rt2 53 (s * 2 ^ j) A : Nat) : Int) by omega, bloop64 hb1 hb2 (by omega)]
theorem sbits_spec {c D : Nat} {s A : Nat} (h1 : 8388608 ≤ c) (h2 : c < 16777216) (hD : D < 100) (hs : mX5_single (nI s) (nI A) = some (fp32 c (-(D : Int)))) : mX5_singleBits (nI s) (nI A) = some (lN ((150 - D) * 8388608 + (c - 8388608))) := by
  unfold mX5_singleBits
  rw [hs, obs, show FP.fcmp (fp32 c (-(D : Int))) FP.fconst0 = some .gt from pos32 h1 h2 (by omega) (by omega), if_pos (by decide), bloop32 h1 h2 hD]
/-- no share at all -/
theorem zero_spec {A : Nat} (h1 : 1 ≤ A) (h2 : A ≤ 39711) : mX5_singleBits (nI 0) (nI A) = some 0 ∧ mX5_doubleBits (nI 0) (nI A) = some 0 ∧ mX5_thousandths (nI 0) (nI A) = some 0 := by
  obtain ⟨a0, a1, a2⟩ := log_bd h1 h2
  have b32a := i232_spec a0 a1 a2
  have b64a := i264_spec a0 a1 a2
  have pl : ∀ P, A.log2 ≤ P → 2 ^ P ≤ A * 2 ^ (P - A.log2) ∧ A * 2 ^ (P - A.log2) < 2 ^ (P + 1) := fun P hP => by
    have e1 : 2 ^ A.log2 * 2 ^ (P - A.log2) ≤ A * 2 ^ (P - A.log2) := Nat.mul_le_mul_right _ a0
    have e2 : A * 2 ^ (P - A.log2) < 2 ^ (A.log2 + 1) * 2 ^ (P - A.log2) := Nat.mul_lt_mul_of_pos_right a1 (Nat.two_pow_pos _)
    rw [← Nat.pow_add, show A.log2 + (P - A.log2) = P by omega] at e1
    rw [← Nat.pow_add, show A.log2 + 1 + (P - A.log2) = P + 1 by omega] at e2
    exact ⟨e1, e2⟩
  have d32 : FP.fdiv (FP.i2f (nI 0)) (FP.i2f (nI A)) = 0 := by
    rw [zi232, b32a]
    exact zdiv32 (pl 23 (by omega)).1 (pl 23 (by omega)).2 (by omega) (by omega)
  have d64 : FP.ddiv (FP.i2d (nI 0)) (FP.i2d (nI A)) = 0 := by
    rw [zi264, b64a]
    exact zdiv64 (pl 52 (by omega)).1 (pl 52 (by omega)).2 (by omega) (by omega)
  have hA0 : ¬ nI A = 0 := nI_ne0 (by omega) (by omega)
  have hsin : mX5_single (nI 0) (nI A) = some 0 := by
    unfold mX5_single
    rw [if_neg hA0, d32]
    decide
  refine ⟨?_, ?_, ?_⟩
  · unfold mX5_singleBits
    rw [hsin, obs, if_neg (by decide +kernel)]
  · unfold mX5_doubleBits mX5_doubleBits_13
    rw [if_neg hA0, d64]
    have e : ¬ 0 < Op.cmpValue (FP.dcmp 0 FP.dconst0) CmpOp.g := by decide +kernel
    rw [if_neg e]
    decide
  · unfold mX5_thousandths
    rw [hsin, obs, zthou]
    decide +kernel
theorem rbits_spec {S1 : St} {j t c size more M TL : Nat} (hj : j ≤ 17) (ht : t ≤ 1) (hm : (size = 24 ∧ more = 127 ∧ M = 150 ∧ TL = 8388608) ∨ (size = 53 ∧ more = 1023 ∧ M = 1075 ∧ TL = 4503599627370496)) (h1 : TL ≤ c) (h2 : c < 2 * TL) (g1 : gF S1 = lN c) (g2 : gI S1 0 26 = nI 0 - nI j + nI t) : mX11_bits S1 (nI size) (nI more) = some (lN ((M - (j + (size - 1) - t)) * TL + (c - TL))) := by
  have e1 : gI S1 0 26 + nI more = nI (more + t - j) := by
    rw [g2, ← nI_sub (show j ≤ more + t by omega), ← nI_add, nI_0]
    grind
  unfold mX11_bits
  rw [e1, nI_l (by omega), g1]
  rcases hm with ⟨rfl, rfl, rfl, rfl⟩ | ⟨rfl, rfl, rfl, rfl⟩
  · rw [sl_shl (k := 23) (p := 8388608) (by decide) (by decide) (by decide) (by omega), show (1 : Int64) <<< ((nI 24 - 1).toInt64 &&& 63) = 8388608 by decide, show lN c - 8388608 = lN (c - 8388608) from lN_sub (b := 8388608) h1, sl_or (k := 23) (by decide) (by omega) (by omega)]
    refine congrArg (fun z => some (lN (z * 8388608 + (c - 8388608)))) ?_
    omega
  · rw [sl_shl (k := 52) (p := 4503599627370496) (by decide) (by decide) (by decide) (by omega), show (1 : Int64) <<< ((nI 53 - 1).toInt64 &&& 63) = 4503599627370496 by decide, show lN c - 4503599627370496 = lN (c - 4503599627370496) from lN_sub (b := 4503599627370496) h1, sl_or (k := 52) (by decide) (by omega) (by omega)]
    refine congrArg (fun z => some (lN (z * 4503599627370496 + (c - 4503599627370496)))) ?_
    omega
/-- a thousand times it, cut: both sides -/
theorem cut_both {S1 : St} {j t c s A : Nat} (hj : j ≤ 17) (ht : t ≤ 1) (h1 : 8388608 ≤ c) (h2 : c < 16777216) (g1 : gF S1 = lN c) (g2 : gI S1 0 26 = nI 0 - nI j + nI t) (hs : mX5_single (nI s) (nI A) = some (fp32 c (-((j + 23 - t : Nat) : Int)))) : ∃ r S2, mX5_thousandths (nI s) (nI A) = some r ∧ mX11_cut S1 = some (r, S2) ∧ Fr [] [(0, 26)] S1 S2 := by
  obtain ⟨D, hD⟩ : ∃ D, D = j + 23 - t := ⟨_, rfl⟩
  rw [← hD] at hs
  have hDb : 22 ≤ D ∧ D ≤ 40 := by omega
  obtain ⟨l, hl, hl1, hl2⟩ : ∃ l, (l = 32 ∨ l = 33) ∧ 2 ^ l ≤ 1000 * c ∧ 1000 * c < 2 ^ (l + 1) := by
    by_cases hc : 1000 * c < 8589934592
    · exact ⟨32, Or.inl rfl, by show 4294967296 ≤ _; omega, by show _ < 8589934592; exact hc⟩
    · exact ⟨33, Or.inr rfl, by show 8589934592 ≤ _; omega, by show _ < 17179869184; omega⟩
  have hl0 : 0 < 2 ^ l := Nat.two_pow_pos l
  have hlb : (2 : Nat) ^ l < 2 ^ 50 := Nat.pow_lt_pow_right (by decide) (by omega)
  have hpl : 2 ^ (l + 1) = 2 * 2 ^ l := by rw [Nat.pow_succ, Nat.mul_comm]
  have hmul := thou_spec h1 h2 (show D < 100 by omega) hl hl1 hl2
  have hb := rc2_bd (size := 24) hl0 hl1 (by omega) hlb (by decide) (by decide)
  have ht2 : rt2 24 (1000 * c) (2 ^ l) ≤ 1 := by
    unfold rt2
    split <;> omega
  -- the powers of two of the reference
  obtain ⟨j2, i2, hji, hJI⟩ : ∃ j2 i2 : Nat, (j2 = 0 ∨ i2 = 0) ∧ D + i2 = l + j2 := by
    by_cases hx : D ≤ l
    · exact ⟨0, l - D, Or.inl rfl, by omega⟩
    · exact ⟨D - l, 0, Or.inr rfl, by omega⟩
  have eB : 2 ^ D * 2 ^ i2 = 2 ^ l * 2 ^ j2 := by rw [← Nat.pow_add, ← Nat.pow_add, hJI]
  have hj2 : j2 ≤ 8 ∧ i2 ≤ 11 := by omega
  have hj2p : 0 < 2 ^ j2 := Nat.two_pow_pos j2
  obtain ⟨sc1, sc2⟩ := rc2_scale (size := 24) (A := 1000 * c) (B := 2 ^ l) hj2p
  have hlim : 2 ^ D * 2 ^ i2 < 2 ^ 50 := by
    rw [← Nat.pow_add]
    exact Nat.pow_lt_pow_right (by decide) (by omega)
  obtain ⟨S2, n1, n2, n3, n4⟩ := near_spec (S := S1) (a := 1000 * c) (b := 2 ^ D) (j := j2) (i := i2) (size := 24) (by omega) (Nat.two_pow_pos D) hji (by rw [eB]; exact Nat.mul_le_mul_right _ hl1) (by rw [eB, ← Nat.mul_assoc, ← hpl]; exact Nat.mul_lt_mul_of_pos_right hl2 hj2p) hlim (by omega) (by omega) (Or.inl rfl)
  rw [eB, sc1] at n2
  rw [eB, sc2] at n3
  have hb1 : 8388608 ≤ rc2 24 (1000 * c) (2 ^ l) := hb.1
  have hb2 : rc2 24 (1000 * c) (2 ^ l) < 16777216 := hb.2
  generalize rc2 24 (1000 * c) (2 ^ l) = c2 at *
  generalize rt2 24 (1000 * c) (2 ^ l) = t2 at *
  -- the class
  have hcls : mX5_thousandths (nI s) (nI A) = some (lN (c2 / 2 ^ (23 + D - l - t2))) := by
    unfold mX5_thousandths
    rw [hs, obs, hmul, fp32_nn hb1 hb2 (by omega) (by omega), long32 hb1 hb2 (by omega) (by omega), show (-((l : Int) - D - 23 + (t2 : Int))).toNat = 23 + D - l - t2 by omega]
  -- the reference
  have hpow : gI S1 0 26 - 23 = nI 0 - nI D := by
    rw [g2, hD, ← nI_sub (show t ≤ j + 23 by omega), ← nI_add, show (23 : Int32) = nI 23 from rfl]
    grind
  have hcut : mX11_cut S1 = ((mX11_nearest S1 (lN (1000 * c)) (lN (2 ^ D)) 24).bind fun r1 => if 0 ≤ (gI r1 0 26) then (if 23 ≤ (gI r1 0 26) then (some ((gF r1) <<< (((gI r1 0 26) - 23).toInt64 &&& 63), r1)) else (some ((gF r1) >>> ((23 - (gI r1 0 26)).toInt64 &&& 63), r1))) else (some (0, r1))) := by
    unfold mX11_cut
    rw [bnd_eq, bnd_eq, hpow, g1, show (1000 : Int64) * lN c = lN (1000 * c) from lN_mul 1000 c]
    refine loopN (N := D) (fun f k => mX11_cut_23 f S1 (lN (1000 * c)) (lN (2 ^ k)) (nI k - nI D)) (by omega) ?_ ?_
    · intro k f hk
      have hneg : ¬ 0 ≤ nI k - nI D := fun z => by
        have := pk_sneg (a := k) (b := D) (by omega) hk
        rw [Int32.lt_iff_toInt_lt] at this
        rw [Int32.le_iff_toInt_le] at z
        omega
      simp only [mX11_cut_23, bnd_eq]
      rw [if_neg hneg, show lN (2 ^ k) * 2 = lN (2 ^ (k + 1)) by rw [show lN (2 ^ k) * 2 = lN (2 ^ k * 2) from lN_mul _ 2, ← Nat.pow_succ], show nI k - nI D + 1 = nI (k + 1) - nI D by rw [← nI_1]; grind]
    · intro f
      simp only [mX11_cut_23]
      rw [if_pos (show (0 : Int32) ≤ nI D - nI D by rw [show nI D - nI D = 0 by grind]; decide)]
  rw [hcls, hcut, show mX11_nearest S1 (lN (1000 * c)) (lN (2 ^ D)) 24 = some S2 from n1, obs, n2]
  refine ⟨_, S2, rfl, ?_, n4⟩
  by_cases hge : j2 ≤ i2 + t2
  · have ev : gI S2 0 26 = nI (i2 + t2 - j2) := by
      rw [n3, ← nI_sub hge, ← nI_add]
      grind
    have hsh : ∀ x, x < 23 → ((23 : Int32) - nI x).toInt64 &&& 63 = lN (23 - x) := by decide
    rw [ev, if_pos (nI_pos' (by omega)), if_neg (show ¬ (23 : Int32) ≤ nI (i2 + t2 - j2) from nI_ge (b := 23) (by omega) (by decide)), hsh _ (by omega), sl_shr (d := 23 - (i2 + t2 - j2)) (by
      have : ∀ x, x < 24 → ((lN x).toBitVec.smod 64).toNat = x := by decide
      exact this _ (by omega)) (by omega), show 23 - (i2 + t2 - j2) = 23 + D - l - t2 by omega]
  · have ev : gI S2 0 26 = nI (i2 + t2) - nI j2 := by
      rw [n3, ← nI_add]
      grind
    have hneg : ¬ 0 ≤ nI (i2 + t2) - nI j2 := fun z => by
      have := pk_sneg (a := i2 + t2) (b := j2) (by omega) (by omega)
      rw [Int32.lt_iff_toInt_lt] at this
      rw [Int32.le_iff_toInt_le] at z
      omega
    have hz : c2 / 2 ^ (23 + D - l - t2) = 0 := by
      refine Nat.div_eq_of_lt (Nat.lt_of_lt_of_le hb2 ?_)
      show 2 ^ 24 ≤ _
      exact Nat.pow_le_pow_right (by decide) (by omega)
    rw [ev, if_neg hneg, hz]
    rfl
theorem pf_share : PF_share Inv := by
  intro pr S a0 a1 a2 hI
  unfold mX10_share mX11_share
  rcases refuse_cases a0 a1 with ⟨c0, r0⟩ | ⟨c0, r0, r1⟩ | ⟨h, d, hh, hd, rfl, rfl, c0, r0, r1⟩
  · rw [c0, obs]
    exact ⟨_, S, S, if_neg (by decide), by rw [r0, obs, if_pos rfl]; rfl, hI⟩
  · rw [c0, obs]
    exact ⟨_, S, S, if_neg (by decide), by rw [r0, obs, if_neg (by decide), r1, obs, if_pos rfl]; rfl, hI⟩
  rw [c0, obs, if_pos rfl]
  rcases arg a2 with ha | ⟨w, hw, rfl⟩
  · rw [if_pos ha]
    refine ⟨_, S, S, rfl, ?_, hI⟩
    rw [r0, obs, if_neg (by decide), r1, obs, if_neg (by decide), show (0 : Int64) = lN 0 from rfl, in_neg (l := 0) ha (by decide), obs]
    rfl
  have hin : mX11_in (nI w).toInt64 0 2 = some (b2 (decide (0 ≤ w) && decide (w ≤ 2))) := in_nI (l := 0) (h := 2) hw (by decide) (by decide)
  rw [decide_eq_true (Nat.zero_le w), Bool.true_and] at hin
  rw [if_neg (nI_pos hw)]
  by_cases hw2 : w ≤ 2
  · rw [decide_eq_true hw2] at hin
    obtain ⟨G, g1, g2, g3⟩ := hI.2.1 h (by omega)
    obtain ⟨S1, H, l1, l2, l3, l4⟩ := look_spec (m := 65 + 2 * h) (by omega) g3 g1.1 g1.2.1
    obtain ⟨S2, e1, e2⟩ := count_class l2 hd
    have hI2 := Inv_fr (Inv_fr hI (l4.mono (A1 := scA) (K1 := scK) (by decide) (by simp))) (e2.mono (A1 := scA) (K1 := scK) (by decide) (by simp))
    obtain ⟨S3, q1, q2, q3⟩ := findStandard_spec (S := S2) (h := h) (by omega) (mG_fr (mG_fr g2 l4 (by decide) (by decide)) e2 (by decide) (by decide)) g1.1 g1.2.1
    have hI3 := Inv_fr hI2 (q3.mono (A1 := scA) (K1 := scK) (by decide) (by simp))
    have hcr := count_ref l2 l3 q2 hd
    have hsA : rhs H d 343 ≤ c3 d := by
      rw [← all_chk d (by omega)]
      exact rhs_mono (fun c hc => (l2 c hc).2) d 343 (Nat.le_refl _)
    obtain ⟨ch, A1, A2⟩ := c3_ch d (by omega)
    have hch : mX11_choose (nI d + 3) 3 = some (nI (c3 d)) := by
      rw [show nI d + 3 = nI (d + 3) from nI_add d 3, show mX11_choose (nI (d + 3)) 3 = _ from choose_spec (k := 3) (by decide) (by omega) (by omega), ch]
    rw [if_pos (show nI w ≤ 2 from nI_le (b := 2) hw2 (by decide)), inb_nI hh (by decide), el62, l1, obs, e1, obs, ofDegree_spec hd, obs]
    generalize rhs H d 343 = s at *
    generalize c3 d = A at *
    have R : ∀ x3 : Int32, ((mX11_isIdeal (nI h)).bind fun r1 => if r1 = 0 then (some ((-1000000000000000001), S2)) else ((mX11_in (nI d).toInt64 0 60).bind fun r2 => if r2 = 0 then (some ((-1000000000000000002), S2)) else ((mX11_in (nI w).toInt64 0 2).bind fun r3 => if r3 = 0 then (some ((-1000000000000000002), S2)) else ((mX11_findStandard S2 (nI h)).bind fun r4 => (mX11_countOf r4 (nI d)).bind fun r5 => if r5 = 0 then (some (0, r4)) else ((mX11_choose (nI d + 3) 3).bind fun r6 => if nI w = 1 then (mX11_share_82 r4 (nI w) 53 r6.toInt64 r5.toInt64) else (mX11_share_82 r4 (nI w) 24 r6.toInt64 r5.toInt64)))))) = (if nI s = 0 then (some (0, S3)) else (if nI w = 1 then (mX11_share_82 S3 (nI w) 53 (lN A) (lN s)) else (mX11_share_82 S3 (nI w) 24 (lN A) (lN s)))) := fun _ => by
      rw [r0, obs, if_neg (by decide), r1, obs, if_neg (by decide), hin, obs, if_neg (by decide), q1, obs, hcr, obs, hch, obs, nI_l (by omega), nI_l (by omega)]
    by_cases hs0 : s = 0
    · subst hs0
      obtain ⟨z1, z2, z3⟩ := zero_spec A1 A2
      have RR := R 0
      rw [if_pos (by decide)] at RR
      show ∃ r S1_1 S2_1, (if nI w = 0 then ((mX5_singleBits (nI 0) (nI A)).bind fun r8 => some (r8, S2)) else (if nI w = 1 then ((mX5_doubleBits (nI 0) (nI A)).bind fun r7 => some (r7, S2)) else ((mX5_thousandths (nI 0) (nI A)).bind fun r6 => some (r6, S2)))) = some (r, S1_1) ∧ _
      rw [z1, z2, z3, obs]
      refine ⟨0, S2, S3, ?_, RR, hI3⟩
      split
      · rfl
      · split <;> rfl
    · have hs1 : 1 ≤ s := by omega
      have RR := R 0
      rw [if_neg (nI_ne0 hs1 (by omega))] at RR
      rcases (show w = 0 ∨ w = 1 ∨ w = 2 by omega) with rfl | rfl | rfl
      · obtain ⟨j, t, c, j1, j2, j3, ht, hc, t1, c1, c2, hsin⟩ := single_spec hs1 hsA A2
        obtain ⟨S4, n1, n2, n3, n4⟩ := near_spec (S := S3) (a := s) (b := A) (j := j) (i := 0) (size := 24) (by omega) (by omega) (Or.inr rfl) (by rw [Nat.pow_zero, Nat.mul_one]; exact j2) (by rw [Nat.pow_zero, Nat.mul_one]; exact j3) (by rw [Nat.pow_zero, Nat.mul_one]; omega) (by omega) (by decide) (Or.inl rfl)
        rw [Nat.pow_zero, Nat.mul_one, ← hc] at n2
        rw [Nat.pow_zero, Nat.mul_one, ← ht] at n3
        have hb := rbits_spec (size := 24) (more := 127) (M := 150) (TL := 8388608) j1 t1 (Or.inl ⟨rfl, rfl, rfl, rfl⟩) c1 (by omega) n2 n3
        show ∃ r S1_1 S2_1, (if nI 0 = 0 then ((mX5_singleBits (nI s) (nI A)).bind fun r8 => some (r8, S2)) else _) = some (r, S1_1) ∧ _
        rw [if_pos (by decide), sbits_spec c1 c2 (by omega) hsin, obs]
        refine ⟨_, S2, S4, rfl, ?_, Inv_fr hI3 (n4.mono (by simp) (by decide))⟩
        refine RR.trans ?_
        rw [if_neg (by decide)]
        unfold mX11_share_82
        rw [show mX11_nearest S3 (lN s) (lN A) 24 = some S4 from n1, obs, if_pos (by decide), show mX11_bits S4 24 127 = _ from hb, obs]
      · obtain ⟨j, t, c, j1, j2, j3, ht, hc, t1, c1, c2, hdb⟩ := double_spec hs1 hsA A2
        obtain ⟨S4, n1, n2, n3, n4⟩ := near_spec (S := S3) (a := s) (b := A) (j := j) (i := 0) (size := 53) (by omega) (by omega) (Or.inr rfl) (by rw [Nat.pow_zero, Nat.mul_one]; exact j2) (by rw [Nat.pow_zero, Nat.mul_one]; exact j3) (by rw [Nat.pow_zero, Nat.mul_one]; omega) (by omega) (by decide) (Or.inr rfl)
        rw [Nat.pow_zero, Nat.mul_one, ← hc] at n2
        rw [Nat.pow_zero, Nat.mul_one, ← ht] at n3
        have hb := rbits_spec (size := 53) (more := 1023) (M := 1075) (TL := 4503599627370496) j1 t1 (Or.inr ⟨rfl, rfl, rfl, rfl⟩) c1 (by omega) n2 n3
        show ∃ r S1_1 S2_1, (if nI 1 = 0 then _ else (if nI 1 = 1 then ((mX5_doubleBits (nI s) (nI A)).bind fun r7 => some (r7, S2)) else _)) = some (r, S1_1) ∧ _
        rw [if_neg (by decide), if_pos (by decide), hdb, obs]
        refine ⟨_, S2, S4, rfl, ?_, Inv_fr hI3 (n4.mono (by simp) (by decide))⟩
        refine RR.trans ?_
        rw [if_pos (by decide)]
        unfold mX11_share_82
        rw [show mX11_nearest S3 (lN s) (lN A) 53 = some S4 from n1, obs, if_neg (by decide), if_pos (by decide), show mX11_bits S4 53 1023 = _ from hb, obs]
      · obtain ⟨j, t, c, j1, j2, j3, ht, hc, t1, c1, c2, hsin⟩ := single_spec hs1 hsA A2
        obtain ⟨S4, n1, n2, n3, n4⟩ := near_spec (S := S3) (a := s) (b := A) (j := j) (i := 0) (size := 24) (by omega) (by omega) (Or.inr rfl) (by rw [Nat.pow_zero, Nat.mul_one]; exact j2) (by rw [Nat.pow_zero, Nat.mul_one]; exact j3) (by rw [Nat.pow_zero, Nat.mul_one]; omega) (by omega) (by decide) (Or.inl rfl)
        rw [Nat.pow_zero, Nat.mul_one, ← hc] at n2
        rw [Nat.pow_zero, Nat.mul_one, ← ht] at n3
        obtain ⟨r, S5, u1, u2, u3⟩ := cut_both j1 t1 c1 c2 n2 n3 hsin
        show ∃ r S1_1 S2_1, (if nI 2 = 0 then _ else (if nI 2 = 1 then _ else ((mX5_thousandths (nI s) (nI A)).bind fun r6 => some (r6, S2)))) = some (r, S1_1) ∧ _
        rw [if_neg (by decide), if_neg (by decide), u1, obs]
        refine ⟨_, S2, S5, rfl, ?_, Inv_fr (Inv_fr hI3 (n4.mono (by simp) (by decide))) (u3.mono (by simp) (by decide))⟩
        refine RR.trans ?_
        rw [if_neg (by decide)]
        unfold mX11_share_82
        rw [show mX11_nearest S3 (lN s) (lN A) 24 = some S4 from n1, obs, if_neg (by decide), if_neg (by decide), u2, obs]
  · rw [decide_eq_false hw2] at hin
    rw [if_neg (show ¬ nI w ≤ 2 from nI_ge (a := 2) (by omega) hw)]
    refine ⟨_, S, S, rfl, ?_, hI⟩
    rw [r0, obs, if_neg (by decide), r1, obs, if_neg (by decide), hin, obs]
    rfl
