/-! PURE PART: dimension, size; measure -/
def dimI (L : List Nat) : Int32 := L.foldl (fun x r => imax x (4 - nI (pc (supN r)))) (-6)
theorem dimI_append (L : List Nat) (r : Nat) : dimI (L ++ [r]) = imax (dimI L) (4 - nI (pc (supN r))) := by
  unfold dimI
  rw [List.foldl_append]
  rfl
theorem greater_imax (a b : Int32) : mX11_greater a b = some (imax a b) := by
  unfold mX11_greater imax
  by_cases h : a < b
  · rw [if_pos h, if_pos (by rw [Int32.le_iff_toInt_le]; rw [Int32.lt_iff_toInt_lt] at h; omega)]
  · rw [if_neg h]
    by_cases h2 : a ≤ b
    · rw [if_pos h2]
      refine congrArg some (Int32.toInt_inj.mp ?_)
      rw [Int32.le_iff_toInt_le] at h2
      rw [Int32.lt_iff_toInt_lt] at h
      omega
    · rw [if_neg h2]
theorem cdim_spec {S : St} {H : Nat → Nat} (h : hA S 60 H) : mX6_dimension S 59 = some (dimI (pcl H 343)) := by
  unfold mX6_dimension
  refine loopN (N := 343) (fun f i => mX6_dimension_5 S 59 f (dimI (pcl H i)) (nI i)) (by omega) ?_ ?_
  · intro i f hi
    simp only [mX6_dimension_5, mX6_dimension_37, bnd_eq, nI_1]
    rw [if_neg (show ¬ (343 : Int32) ≤ nI i from nI_ge (b := 343) hi (by decide))]
    cases hp : isP H i with
    | true => rw [partAt_T hi h hp, obs, if_neg (hexP hi), pcl_T hp, dimI_append, support_spec (ptN_lt hi), obs, bitCount4 (supN_bits _).1, obs]
    | false => rw [partAt_F hi h hp, obs, if_pos rfl, pcl_F hp]
  · intro f
    simp only [mX6_dimension_5]
    rw [if_pos (show (343 : Int32) ≤ nI 343 by decide)]
theorem rdim_spec {S : St} {L : List Nat} (hp : pL S L) (hlen : L.length ≤ 2401) (hlt : ∀ r ∈ L, r < 2401) : mX11_dimension S = some (dimI L) := by
  unfold mX11_dimension
  have := loopN (N := L.length) (R := some (dimI L)) (fun f i => mX11_dimension_5 S f (dimI (L.take i)) (nI i)) (by omega) ?_ ?_
  · exact this
  · intro i f hi
    simp only [mX11_dimension_5, bnd_eq, nI_1]
    rw [hp.1, if_neg (nI_ge hi (by omega)), inb_nI (show i < 2401 by omega) (by decide), hp.2 i hi, rsupport_spec (hlt _ (getD_mem hi)), obs, ones_spec (supN_bits _).1, obs, greater_imax, obs, take_succ' hi, dimI_append]
  · intro f
    simp only [mX11_dimension_5]
    rw [hp.1, if_pos (nI_le (Nat.le_refl _) (by omega)), List.take_length]
def sumH (H : Nat → Nat) : Nat → Nat
  | 0 => 0
  | i + 1 => sumH H i + H i
theorem sumH_le {H : Nat → Nat} (hH : ∀ c, c < 343 → H c ≤ 7) : ∀ i, i ≤ 343 → sumH H i ≤ 7 * i := by
  intro i
  induction i with
  | zero => intro _; exact Nat.le_refl 0
  | succ i ih =>
    intro hi
    have h1 := ih (by omega)
    have h2 := hH i (by omega)
    show sumH H i + H i ≤ _
    omega
theorem cnt_cells {H : Nat → Nat} {T : Nat → Bool} (hH : ∀ c, c < 343 → H c ≤ 7) (hT : ∀ p, p < 2401 → T p = !(bH H p)) : ∀ i, i ≤ 343 → ((List.range (7 * i)).filter T).length = sumH H i := by
  intro i
  induction i with
  | zero => intro _; rfl
  | succ i ih =>
    intro hi
    have h7 := hH i (by omega)
    have l : ∀ d, d < 7 → T (7 * i + d) = decide (d < H i) := fun d hd => by
      rw [hT _ (by omega)]
      unfold bH
      rw [show (7 * i + d) / 7 = i by omega, show (7 * i + d) % 7 = d by omega, ← decide_not]
      exact decide_eq_decide.mpr (by omega)
    have st : ∀ j, ((List.range (j + 1)).filter T).length = ((List.range j).filter T).length + (if T j then 1 else 0) := fun j => by
      rw [filter_succ, List.length_append]
      cases T j <;> rfl
    show _ = sumH H i + H i
    rw [← ih (by omega), show 7 * (i + 1) = 7 * i + 6 + 1 by omega, st, st (7 * i + 5), st (7 * i + 4), st (7 * i + 3), st (7 * i + 2), st (7 * i + 1), st (7 * i), show T (7 * i) = decide (0 < H i) from l 0 (by decide), l 1 (by decide), l 2 (by decide), l 3 (by decide), l 4 (by decide), l 5 (by decide), l 6 (by decide)]
    clear l st ih
    generalize H i = x at *
    rcases (show x = 0 ∨ x = 1 ∨ x = 2 ∨ x = 3 ∨ x = 4 ∨ x = 5 ∨ x = 6 ∨ x = 7 by omega) with rfl | rfl | rfl | rfl | rfl | rfl | rfl | rfl <;> rfl
theorem csize_spec {S : St} {H : Nat → Nat} (h : hA S 60 H) : mX6_standardInAll S 59 = some (if dimI (pcl H 343) ≤ 0 then nI (sumH H 343) else -6) := by
  unfold mX6_standardInAll
  rw [cdim_spec h, obs]
  by_cases hd : dimI (pcl H 343) ≤ 0
  · rw [if_pos hd, if_pos hd]
    refine loopN (N := 343) (fun f i => mX6_standardInAll_14 S 59 f (nI (sumH H i)) (nI i)) (by omega) ?_ ?_
    · intro i f hi
      simp only [mX6_standardInAll_14, bnd_eq, nI_1]
      rw [if_neg (show ¬ (343 : Int32) ≤ nI i from nI_ge (b := 343) hi (by decide)), inb_nI hi (by decide), (h i hi).1, nI_add]
      rfl
    · intro f
      simp only [mX6_standardInAll_14]
      rw [if_pos (show (343 : Int32) ≤ nI 343 by decide)]
  · rw [if_neg hd, if_neg hd]
theorem rsize19 {S : St} {T : Nat → Bool} (h : mk S 8 T) : mX11_sizeOf_19 FU S 0 0 = some (nI ((List.range 2401).filter T).length, S) := by
  refine loopN (N := 2401) (fun f i => mX11_sizeOf_19 f S (nI ((List.range i).filter T).length) (nI i)) (by omega) ?_ ?_
  · intro i f hi
    simp only [mX11_sizeOf_19, mX11_sizeOf_41, bnd_eq, nI_1]
    rw [if_neg (show ¬ (2401 : Int32) ≤ nI i from nI_ge (b := 2401) hi (by decide)), inb_nI hi (by decide), h i hi, filter_succ, List.length_append]
    cases T i with
    | false =>
      rw [if_pos (by decide), show nI ((List.range i).filter T).length + 0 = nI ((List.range i).filter T).length from nI_add _ 0]
      rfl
    | true =>
      rw [if_neg (by decide)]
      rfl
  · intro f
    simp only [mX11_sizeOf_19]
    rw [if_pos (show (2401 : Int32) ≤ nI 2401 by decide)]
theorem hi_not {T : Nat → Bool} {p : Nat} (hT : T p = true) (h : hiB T p = false) : ∃ v, v < 4 ∧ ex v p ≠ 6 ∧ T (p + sevN v) = true := by
  by_cases hx : ∃ v, v < 4 ∧ ex v p ≠ 6 ∧ T (p + sevN v) = true
  · exact hx
  · have hv : ∀ v, v < 4 → (decide (ex v p = 6) || !(T (p + sevN v))) = true := fun v hv => by
      by_cases h0 : ex v p = 6
      · rw [decide_eq_true h0, Bool.true_or]
      · cases hb : T (p + sevN v) with
        | false => simp
        | true => exact absurd ⟨v, hv, h0, hb⟩ hx
    unfold hiB at h
    simp only [allF] at h
    rw [hT, hv 0 (by decide), hv (0 + 1) (by decide), hv (0 + 1 + 1) (by decide), hv (0 + 1 + 1 + 1) (by decide)] at h
    cases h
theorem sevN_pos (v : Nat) : 1 ≤ sevN v := by
  unfold sevN
  split <;> omega
theorem hi_above {T : Nat → Bool} : ∀ k p, p < 2401 → 2401 - p ≤ k → T p = true → ∃ q, q < 2401 ∧ hiB T q = true := by
  intro k
  induction k with
  | zero => intro p hp hk; omega
  | succ k ih =>
    intro p hp hk hT
    cases hh : hiB T p with
    | true => exact ⟨p, hp, hh⟩
    | false =>
      obtain ⟨v, v1, v2, v3⟩ := hi_not hT hh
      have hx := ex_lt (v := v) hp
      obtain ⟨e1, -, -, -⟩ := ex_add (w := 1) v1 hp (by omega)
      rw [Nat.mul_one] at e1
      have := sevN_pos v
      exact ih (p + sevN v) e1 (by omega) v3
theorem pls_nil {T : Nat → Bool} (h : pls T = []) : ((List.range 2401).filter T).length = 0 := by
  have : (List.range 2401).filter T = [] := by
    rw [List.filter_eq_nil_iff]
    intro p hp hT
    obtain ⟨q, q1, q2⟩ := hi_above 2401 p (List.mem_range.mp hp) (by omega) hT
    have : pbN q ∈ pls T := List.mem_filter.mpr ⟨List.mem_range.mpr (pbN_lt q), by rw [un_pb q1]; exact q2⟩
    rw [h] at this
    cases this
  rw [this]
  rfl
theorem rsize_spec {S : St} {h : Nat} {G : List Nat} (hh : h < 16) (hm : mG S h G) (hl : G.length ≤ 40) (hq : ∀ q ∈ G, q < 2401) : ∃ S1, mX11_sizeTold S (nI h) = some (if dimI (pls (fun p => !(up G p))) ≤ 0 then nI ((List.range 2401).filter (fun p => !(up G p))).length else -6, S1) ∧ Fr [8, 9] [(0, 13)] S S1 := by
  obtain ⟨S1, p1, p2, p3, p4⟩ := findParts_spec hh hm hl hq
  obtain ⟨S2, q1, q2, q3, q4⟩ := findParts_spec (S := S1) hh (mG_fr hm p4 (by decide) (by decide)) hl hq
  have hlen := pls_len (fun p => !(up G p))
  unfold mX11_sizeTold
  rw [p1, obs, p2.1]
  by_cases h0 : pls (fun p => !(up G p)) = []
  · refine ⟨S1, ?_, p4⟩
    rw [if_pos (by rw [h0]; rfl), pls_nil h0, h0]
    rfl
  · have hpos : 0 < (pls (fun p => !(up G p))).length := List.length_pos_iff.mpr h0
    refine ⟨S2, ?_, p4.trans q4⟩
    rw [if_neg (nI_ne0 hpos (by omega))]
    unfold mX11_sizeOf
    rw [q1, obs, rdim_spec q2 hlen (pls_lt _), obs]
    by_cases hd : dimI (pls (fun p => !(up G p))) ≤ 0
    · rw [if_pos hd, if_pos hd, rsize19 q3, obs]
    · rw [if_neg hd, if_neg hd, obs]
theorem size_eq {G : List Nat} {H : Nat → Nat} {S : St} (h : hA S 60 H) (hB : ∀ p, p < 2401 → up G p = bH H p) : ((List.range 2401).filter (fun p => !(up G p))).length = sumH H 343 := cnt_cells (T := fun p => !(up G p)) (fun c hc => (h c hc).2) (fun p hp => by
  show (!(up G p)) = _
  rw [hB p hp]) 343 (Nat.le_refl _)
theorem size_both {S : St} {h : Nat} {G : List Nat} (hh : h < 16) (hG : okG G) (hm : mG S h G) (hc : cG S (65 + 2 * h) G) : ∃ r S1 S2, mX7_look S (65 + 2 * h) = some S1 ∧ mX6_standardInAll S1 59 = some r ∧ mX11_sizeTold S1 (nI h) = some (r, S2) ∧ Fr scA scK S S1 ∧ Fr scA scK S1 S2 := by
  obtain ⟨S1, H, l1, l2, l3, l4⟩ := look_spec (m := 65 + 2 * h) (by omega) hc hG.1 hG.2.1
  obtain ⟨S2, q1, q2⟩ := rsize_spec (S := S1) hh (mG_fr hm l4 (by decide) (by decide)) hG.1 hG.2.1
  rw [pls_of l2 l3, size_eq l2 l3] at q1
  exact ⟨_, S1, S2, l1, csize_spec l2, q1, l4.mono (by decide) (by simp), q2.mono (by decide) (by decide)⟩
theorem pf_measure : PF_measure Inv := by
  intro pr S a0 a1 hI
  unfold mX10_measure mX11_measure
  rcases place_cases a0 a1 with ⟨c0, r0⟩ | ⟨x, y, hx, hy, rfl, rfl, c0, r0⟩
  · rw [c0, obs]
    exact ⟨-1, S, S, if_pos rfl, by rw [r0, obs, if_pos rfl], hI⟩
  · have e1 : nI x * 4 + nI y = nI (x * 4 + y) := by
      rw [show (4 : Int32) = nI 4 from rfl, nI_mul, nI_add]
    have e2 : 4 * nI x + nI y = nI (4 * x + y) := by
      rw [show (4 : Int32) = nI 4 from rfl, nI_mul, nI_add]
    have e3 : mX11_holderOf (nI x) (nI y) = some (nI (4 + (4 * x + y))) := by
      unfold mX11_holderOf
      rw [show (4 : Int32) = nI 4 from rfl, nI_mul, nI_add, nI_add]
      exact congrArg (fun z => some (nI z)) (by omega)
    have hxy : x * 4 + y = 4 * x + y := by omega
    have hlt : 4 * x + y < 12 := by omega
    obtain ⟨k, k1, k2, k3⟩ := hI.2.2.1 (4 * x + y) hlt
    obtain ⟨G, g1, g2, g3⟩ := hI.2.1 (4 + (4 * x + y)) (by omega)
    rw [c0, obs, if_neg (by decide), bnd_eq, e1, hxy, inb_nI hlt (by decide), k3, inb_nI hlt (by decide), k3]
    have R : ∀ S1, gA S1 3 = gA S 3 → ((mX11_isPlace (nI x) (nI y)).bind fun r1 => if r1 = 0 then (some ((-1), S1)) else (inb 12 ((4 * nI x) + nI y) fun j2 => bnd (gA S1 3 j2) fun v3 => if v3 = 0 then (some ((-5), S1)) else (if v3 = 1 then ((mX11_holderOf (nI x) (nI y)).bind fun r6 => inb 16 r6 fun j7 => some (gA S1 2 j7, S1)) else ((mX11_holderOf (nI x) (nI y)).bind fun r4 => (mX11_sizeTold S1 r4).bind fun r5 => some (r5.1, r5.2))))) = (if nI k = 0 then (some ((-5), S1)) else (if nI k = 1 then (inb 16 (nI (4 + (4 * x + y))) fun j7 => some (gA S1 2 j7, S1)) else ((mX11_sizeTold S1 (nI (4 + (4 * x + y)))).bind fun r5 => some (r5.1, r5.2)))) := fun S1 hS => by
      rw [r0, obs, if_neg (by decide), e2, inb_nI hlt (by decide), bnd_eq, hS, k2, e3, obs, obs]
    rcases (show k = 0 ∨ k = 1 ∨ k = 2 by omega) with rfl | rfl | rfl
    · exact ⟨-5, S, S, if_pos (by decide), by rw [R S rfl, if_pos (by decide)], hI⟩
    · rw [if_neg (by decide), if_pos (by decide), inb_nI hlt (by decide), el63, g3.1]
      exact ⟨_, S, S, rfl, by rw [R S rfl, if_neg (by decide), if_pos (by decide), inb_nI (show 4 + (4 * x + y) < 16 by omega) (by decide), g2.1], hI⟩
    · obtain ⟨r, S1, S2, l1, l2, l3, l4, l5⟩ := size_both (show 4 + (4 * x + y) < 16 by omega) g1 g2 g3
      rw [if_neg (by decide), if_neg (by decide), inb_nI hlt (by decide), el63, l1, obs, l2, obs]
      exact ⟨r, S1, S2, rfl, by rw [R S1 (l4.1 3 (by decide)), if_neg (by decide), if_neg (by decide), l3, obs], Inv_fr (Inv_fr hI l4) l5⟩
