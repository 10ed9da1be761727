/-! PURE PART: the reference's tree, run -/
theorem findTree_eq (n : Nat) (S : St) : mX11_findTree_53 (n + 1) S = (if (gI S 0 17) ≤ 0 then (some S)   else ((mX11_popList S).bind fun r1 => inb 60 (gI r1 0 17) fun j2 => bnd ((gA r1 12 j2) + 1) fun v3 => (mX11_isLeaf r1).bind fun r4 => if r4 = 0 then ((mX11_pivot r1).bind fun r5 => (mX11_greater (gI (sI r1 0 20 ((gI r1 0 20) + 1)) 0 21) v3).bind fun r6 => (mX11_pushSum (sI (sI r1 0 20 ((gI r1 0 20) + 1)) 0 21 r6) r5 v3).bind fun r7 => (mX11_pushQuotient r7 r5 v3).bind fun r8 => mX11_findTree_122 (mX11_findTree_53 n) r8)   else (mX11_findTree_122 (mX11_findTree_53 n) r1))) := nrfl rfl
def trA : List Nat := [10, 11, 12, 13]
def trK : List (Nat × Nat) := [(0, 17), (0, 19), (0, 20), (0, 21)]
theorem FrT.fr {t : Nat} {S S1 : St} (h : FrT t S S1) : Fr trA trK S S1 := ⟨fun m hm => h.1 m (fun e => hm (by rw [e]; decide)) (fun e => hm (by rw [e]; decide)) (fun e => hm (by rw [e]; decide)), fun m k _ => h.2.1 m k⟩
theorem rel_lt {V L M : List Nat} (h : Rel V L M) (hok : okL L) : ∀ p ∈ M, p < 2401 := fun p hp => by
  have sevlt : ∀ u, u < 4 → sevN u < 2401 := by decide
  rcases List.mem_append.mp (h.1.mem_iff.mp hp) with z | z
  · obtain ⟨u, u1, rfl⟩ := List.mem_map.mp z
    exact sevlt u (h.2.1 u u1).1
  · exact hok.1 p z
theorem leaf_run {S : St} {t n : Nat} {M : List Nat} (ht : t < 60) (h17 : gI S 0 17 = nI (t + 1)) (hl : M.length ≤ 40) (hq : ∀ q ∈ M, q < 2401) (hs : stkL S t M) (hleaf : lfO M M.length = true) : ∃ S1, mX11_findTree_53 (n + 1) S = mX11_findTree_53 n S1 ∧ gI S1 0 17 = nI t ∧ Fr [13] [(0, 17), (0, 19)] S S1 := by
  obtain ⟨S1, a1, a2, a3, a4⟩ := popList_spec ht h17 hl hs
  refine ⟨S1, ?_, a2, a4⟩
  rw [findTree_eq, h17, if_neg (nI_nle (by omega) (by omega)), a1, obs, a2, inb_nI ht (by decide), bnd_eq, isLeaf_spec hl hq a3, hleaf, obs, if_neg (by decide)]
  rfl
theorem wo_cv (v : Nat) (M : List Nat) : (wo v M).length + cv v M = M.length := by
  have := (List.filter_append_perm (hv v) M).length_eq
  rw [List.length_append] at this
  unfold wo cv
  omega
theorem leaf_case {t n deep : Nat} {S : St} {M : List Nat} (hl : M.length ≤ 40) (hq : ∀ q ∈ M, q < 2401) (ht : t < 60) (hs : stkL S t M) (h17 : gI S 0 17 = nI (t + 1)) (h21 : gI S 0 21 = nI deep) (hleaf : lfO M M.length = true) : ∃ S1, mX11_findTree_53 (n + 1) S = mX11_findTree_53 n S1 ∧ gI S1 0 17 = nI t ∧ gI S1 0 20 = gI S 0 20 + nI 0 ∧ gI S1 0 21 = nI (max deep 0) ∧ (∀ x, x < 40 * t → gA S1 10 x = gA S 10 x) ∧ (∀ y, y < t → gA S1 11 y = gA S 11 y) ∧ (∀ y, y < t → gA S1 12 y = gA S 12 y) ∧ Fr trA trK S S1 := by
  obtain ⟨S1, a1, a2, a3⟩ := leaf_run (n := n) ht h17 hl hq hs hleaf
  refine ⟨S1, a1, a2, ?_, ?_, fun x _ => by rw [a3.1 10 (by decide)], fun y _ => by rw [a3.1 11 (by decide)], fun y _ => by rw [a3.1 12 (by decide)], a3.mono (by decide) (by decide)⟩
  · rw [a3.2 0 20 (by decide), nI_0]
    grind
  · rw [a3.2 0 21 (by decide), Nat.max_zero]
    exact h21
theorem tree_run : ∀ (d : Nat) (V L M : List Nat) (k t n deep : Nat) (S : St), Rel V L M → okL L → pot L ≤ d → M.length ≤ 40 → t + d ≤ 40 → k + d ≤ 60 → deep ≤ 100 → stkL S t M → gA S 12 t = nI k → gI S 0 17 = nI (t + 1) → gI S 0 21 = nI deep → ∃ S1, mX11_findTree_53 (n + cN d L) S = mX11_findTree_53 n S1 ∧ gI S1 0 17 = nI t ∧ gI S1 0 20 = gI S 0 20 + nI (cT d L) ∧ gI S1 0 21 = nI (max deep (cD d k L)) ∧ (∀ x, x < 40 * t → gA S1 10 x = gA S 10 x) ∧ (∀ y, y < t → gA S1 11 y = gA S 11 y) ∧ (∀ y, y < t → gA S1 12 y = gA S 12 y) ∧ Fr trA trK S S1 := by
  intro d
  induction d with
  | zero =>
    intro V L M k t n deep S hR hok hpot hl ht hk hdp hs hk12 h17 h21
    have hz := pot_zero (show pot L = 0 by omega)
    have hleaf : lfO M M.length = true := leaf_iff.mpr (fun v hv1 => by
      rcases rel_cv hR v hv1 with ⟨-, e⟩ | ⟨-, e, -⟩
      · rw [e, hz v hv1]
        exact Nat.zero_le 1
      · omega)
    exact leaf_case hl (rel_lt hR hok) (by omega) hs h17 h21 hleaf
  | succ d ih =>
    intro V L M k t n deep S hR hok hpot hl ht hk hdp hs hk12 h17 h21
    have hq := rel_lt hR hok
    have hcv := rel_cv hR
    have eN : cN (d + 1) L = (match pivC L with
      | none => 1
      | some v => 1 + (cN d (dvd v L) + cN d (wo v L))) := rfl
    have eT : cT (d + 1) L = (match pivC L with
      | none => 0
      | some v => 1 + cT d (wo v L) + cT d (dvd v L)) := rfl
    have eD : cD (d + 1) k L = (match pivC L with
      | none => 0
      | some v => max (k + 1) (max (cD d (k + 1) (wo v L)) (cD d (k + 1) (dvd v L)))) := rfl
    rcases piv_agree (L := L) (M := M) (fun v hv1 => by
      rcases hcv v hv1 with ⟨-, e⟩ | ⟨-, e1, e2⟩
      · exact Or.inl e
      · exact Or.inr ⟨e1, e2⟩) with ⟨p1, p2⟩ | ⟨v, v1, v2, v3, v4, v5⟩
    · rw [p1] at eN eT eD
      rw [eN, eT, eD]
      exact leaf_case hl hq (by omega) hs h17 h21 (leaf_iff.mpr p2)
    · rw [v2] at eN eT eD
      have eN : cN (d + 1) L = 1 + (cN d (dvd v L) + cN d (wo v L)) := eN
      have eT : cT (d + 1) L = 1 + cT d (wo v L) + cT d (dvd v L) := eT
      have eD : cD (d + 1) k L = max (k + 1) (max (cD d (k + 1) (wo v L)) (cD d (k + 1) (dvd v L))) := eD
      rw [eN, eT, eD, show n + (1 + (cN d (dvd v L) + cN d (wo v L))) = (n + cN d (wo v L) + cN d (dvd v L)) + 1 by omega]
      have hnV : v ∉ V := fun hm => by
        rcases hcv v v1 with ⟨z, -⟩ | ⟨-, -, z⟩
        · exact z hm
        · omega
      have hnotleaf : lfO M M.length = false := by
        cases hz : lfO M M.length with
        | false => rfl
        | true =>
          have := leaf_iff.mp hz v v1
          omega
      obtain ⟨S1, a1, a2, a3, a4⟩ := popList_spec (show t < 60 by omega) h17 hl hs
      have hw := wo_cv v M
      have k12 : gA S1 12 t = nI k := by
        rw [a4.1 12 (by decide)]
        exact hk12
      have k21 : gI (sI S1 0 20 (gI S1 0 20 + 1)) 0 21 = nI deep := by
        rw [gI_sI_k (by decide), a4.2 0 21 (by decide)]
        exact h21
      have hS2 : ∃ S2, S2 = sI (sI S1 0 20 (gI S1 0 20 + 1)) 0 21 (nI (max deep (k + 1))) := ⟨_, rfl⟩
      obtain ⟨S2, hS2⟩ := hS2
      have f2 : Fr trA trK S S2 := by
        rw [hS2]
        exact ((a4.mono (A1 := trA) (K1 := trK) (by decide) (by decide)).sI (by decide)).sI (by decide)
      have l2 : lsL S2 M := by
        rw [hS2]
        exact ⟨by rw [gI_sI_k (by decide), gI_sI_k (by decide)]; exact a3.1, fun i hi => by rw [gA_sI, gA_sI]; exact a3.2 i hi⟩
      have t2 : gI S2 0 17 = nI t := by
        rw [hS2, gI_sI_k (by decide), gI_sI_k (by decide)]
        exact a2
      have p20 : gI S2 0 20 = gI S 0 20 + 1 := by
        rw [hS2, gI_sI_k (by decide), gI_sI_same, a4.2 0 20 (by decide)]
      have p21 : gI S2 0 21 = nI (max deep (k + 1)) := by
        rw [hS2, gI_sI_same]
      have arr2 : gA S2 10 = gA S 10 ∧ gA S2 11 = gA S 11 ∧ gA S2 12 = gA S 12 := by
        rw [hS2]
        exact ⟨by rw [gA_sI, gA_sI, a4.1 10 (by decide)], by rw [gA_sI, gA_sI, a4.1 11 (by decide)], by rw [gA_sI, gA_sI, a4.1 12 (by decide)]⟩
      obtain ⟨U3, S3, b1, b2, b3, b4, b5⟩ := pushSum_spec (k := k + 1) v1 (show t < 59 by omega) t2 hl (by omega) hq l2
      have l3 : lsL S3 M := by
        have := lsL_fr l2 b5
        rw [b2]
        exact ⟨by rw [gI_sI_k (by decide)]; exact this.1, fun i hi => by rw [gA_sI]; exact this.2 i hi⟩
      have t3 : gI S3 0 17 = nI (t + 1) := by rw [b2, gI_sI_same]
      obtain ⟨U4, S4, c1, c2, c3, c4, c5⟩ := pushQuotient_spec (k := k + 1) v1 (show t + 1 < 59 by omega) t3 hl hq l3
      have hstep : mX11_findTree_53 ((n + cN d (wo v L) + cN d (dvd v L)) + 1) S = mX11_findTree_53 (n + cN d (wo v L) + cN d (dvd v L)) S4 := by
        rw [findTree_eq, h17, if_neg (nI_nle (by omega) (by omega)), a1, obs, a2, inb_nI (show t < 60 by omega) (by decide), bnd_eq, k12, nI_1, isLeaf_spec hl hq a3, hnotleaf, obs, if_pos (by decide), pivot_spec hl hq a3, obs, v3, k21, greater_imax, obs, imax_nI (by omega) (by omega), ← hS2, b1, obs, c1, obs]
        rfl
      have q21 : gI S4 0 21 = nI (max deep (k + 1)) := by
        rw [c2, gI_sI_k (by decide), c5.2.1, b2, gI_sI_k (by decide), b5.2.1, p21]
      have q20 : gI S4 0 20 = gI S 0 20 + 1 := by
        rw [c2, gI_sI_k (by decide), c5.2.1, b2, gI_sI_k (by decide), b5.2.1, p20]
      have hqlen : (qL v M).length ≤ 40 := Nat.le_trans (qI_len v M M.length) hl
      have pd := pot_dvd v1 hok (show 1 ≤ cv v L by omega)
      have pw := pot_wo v1 (show 1 ≤ cv v L by omega)
      obtain ⟨S5, d1, d2, d3, d4, d5, d6, d7, d8⟩ := ih V (dvd v L) (qL v M) (k + 1) (t + 1) (n + cN d (wo v L)) (max deep (k + 1)) S4 (rel_quot v1 hR hok hnV v4) (okL_dvd v1 hok) (by omega) hqlen (by omega) (by omega) (by omega) (by rw [c2]; exact ⟨by rw [gA_sI]; exact c3.1, fun i hi => by rw [gA_sI]; exact c3.2 i hi⟩) (by rw [c2, gA_sI]; exact c4) (by rw [c2, gI_sI_same]) q21
      have hsl : (sevN v :: wo v M).length ≤ 40 := by
        show (wo v M).length + 1 ≤ 40
        omega
      have s5 : stkL S5 t (sevN v :: wo v M) := by
        refine ⟨?_, fun i hi => ?_⟩
        · rw [d6 t (by omega), c2, gA_sI, c5.2.2.2.1 t (by omega), b2, gA_sI]
          exact b3.1
        · rw [d5 _ (by omega), c2, gA_sI, c5.2.2.1 _ (by omega), b2, gA_sI]
          exact b3.2 i hi
      have k5 : gA S5 12 t = nI (k + 1) := by
        rw [d7 t (by omega), c2, gA_sI, c5.2.2.2.2 t (by omega), b2, gA_sI]
        exact b4
      have hcl := cD_le d (k + 1) (dvd v L)
      obtain ⟨S6, e1, e2, e3, e4, e5, e6, e7, e8⟩ := ih (v :: V) (wo v L) (sevN v :: wo v M) (k + 1) t n (max (max deep (k + 1)) (cD d (k + 1) (dvd v L))) S5 (rel_sum v1 hR hnV) (okL_wo hok) (by omega) hsl (by omega) (by omega) (by omega) s5 k5 d2 d4
      have below : ∀ x, x < 40 * t → gA S4 10 x = gA S 10 x := fun x hx => by
        rw [c2, gA_sI, c5.2.2.1 x (by omega), b2, gA_sI, b5.2.2.1 x (by omega), arr2.1]
      refine ⟨S6, ?_, e2, ?_, ?_, fun x hx => ?_, fun y hy => ?_, fun y hy => ?_, ?_⟩
      · rw [hstep, d1, e1]
      · rw [e3, d3, q20, ← nI_add, ← nI_add, show nI 1 = 1 from rfl]
        grind
      · rw [e4]
        exact congrArg nI (by omega)
      · rw [e5 x hx, d5 x (by omega), below x hx]
      · rw [e6 y hy, d6 y (by omega), c2, gA_sI, c5.2.2.2.1 y (by omega), b2, gA_sI, b5.2.2.2.1 y (by omega), arr2.2.1]
      · rw [e7 y hy, d7 y (by omega), c2, gA_sI, c5.2.2.2.2 y (by omega), b2, gA_sI, b5.2.2.2.2 y (by omega), arr2.2.2]
      · have f3 : Fr trA trK S2 S3 := by
          rw [b2]
          exact b5.fr.sI (by decide)
        have f4 : Fr trA trK S3 S4 := by
          rw [c2]
          exact c5.fr.sI (by decide)
        exact Fr.trans f2 (Fr.trans f3 (Fr.trans f4 (Fr.trans d8 e8)))
