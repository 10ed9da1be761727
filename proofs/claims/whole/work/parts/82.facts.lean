/-! PURE PART: facts -/
theorem okL_G {G : List Nat} (h : okG G) : okL G := by
  obtain ⟨h1, h2, h3⟩ := h
  refine ⟨h2, ?_, fun p hp q hq hd => ?_, h1⟩
  · rw [← h3]
    exact List.Pairwise.filter _ List.nodup_range
  · by_cases he : p = q
    · exact he
    · exfalso
      have hq1 : q ∈ gens (up G) := by rw [h3]; exact hq
      have hl := (List.mem_filter.mp hq1).2
      have hv2 : ∃ v, v < 4 ∧ ex v p < ex v q := by
        by_cases hx : ∃ v, v < 4 ∧ ex v p < ex v q
        · exact hx
        · refine absurd (ex_ext (h2 p hp) (h2 q hq) (fun v hv1 => ?_)) he
          have a := ex_dv hd v
          by_cases hlt : ex v p < ex v q
          · exact absurd ⟨v, hv1, hlt⟩ hx
          · omega
      obtain ⟨v, v1, v2⟩ := hv2
      have hdd : dv p (q - sevN v) = true := dv_ex.mpr (fun u hu => by
        rw [ex_down v1 (h2 q hq) (by omega) hu]
        have a := ex_dv hd u
        split
        · rename_i e
          subst e
          omega
        · exact a)
      have hup : up G (q - sevN v) = true := up_iff.mpr ⟨p, hp, hdd⟩
      unfold lst at hl
      rw [Bool.and_eq_true] at hl
      have hall := hl.2
      simp only [allF, Bool.and_eq_true, Bool.and_true] at hall
      obtain ⟨u0, u1, u2, u3⟩ := hall
      have key : (decide (ex v q = 0) || !(up G (q - sevN v))) = true := by
        rcases (show v = 0 ∨ v = 1 ∨ v = 2 ∨ v = 3 by omega) with rfl | rfl | rfl | rfl
        · exact u0
        · exact u1
        · exact u2
        · exact u3
      rw [hup, decide_eq_false (show ¬ ex v q = 0 by omega)] at key
      cases key
theorem pot_G {G : List Nat} (hq : ∀ q ∈ G, q < 2401) : pot G ≤ 24 := by
  have h : ∀ v, mx v G ≤ 6 := fun v => mx_le.mpr (fun p hp => by
    have := ex_lt (v := v) (hq p hp)
    omega)
  have h0 := h 0
  have h1 := h 1
  have h2 := h 2
  have h3 := h 3
  unfold pot
  omega
theorem rtree_spec {S : St} {h : Nat} {G : List Nat} (hh : h < 16) (hG : okG G) (hm : mG S h G) : ∃ S1, mX11_findTree S (nI h) = some S1 ∧ gI S1 0 20 = nI (cT 24 G) ∧ gI S1 0 21 = nI (cD 24 0 G) ∧ Fr trA trK S S1 := by
  have hl := hG.1
  obtain ⟨U, a1, a2, a3, a4⟩ := opens_spec (S := sI S 0 17 0) (t := 0) (k := 0) (by decide) (gI_sI_same _ _ _ _)
  unfold mX11_findTree
  rw [a1, obs]
  have f0 : Fr trA trK S U := Fr.trans ((Fr.refl _ _ S).sI (by decide)) a4.fr
  have u17 : gI U 0 17 = nI 0 := (a4.2.1 0 17).trans (gI_sI_same _ _ _ _)
  have : ∃ S0, mX11_findTree_12 FU U (nI h) 0 = mX11_findTree_53 FU (sI (sI (sI S0 0 17 1) 0 20 0) 0 21 0) ∧ stkL S0 0 G ∧ gA S0 12 = gA U 12 ∧ FrT 0 U S0 := by
    refine loopG (σ := St) (N := G.length) (fun f i s => mX11_findTree_12 f s (nI h) (nI i)) (fun i s => stkL s 0 (G.take i) ∧ gA s 12 = gA U 12 ∧ FrT 0 U s) (fun r => ∃ S0, r = mX11_findTree_53 FU (sI (sI (sI S0 0 17 1) 0 20 0) 0 21 0) ∧ stkL S0 0 G ∧ gA S0 12 = gA U 12 ∧ FrT 0 U S0) (by omega) ?_ ?_ U ⟨a2, rfl, FrT.refl 0 U⟩
    · intro i f s hi hI
      obtain ⟨i1, i2, i3⟩ := hI
      have hm1 : mG s h G := mG_fr (mG_fr hm f0 (by decide) (by decide)) i3.fr (by decide) (by decide)
      obtain ⟨s1, c1, c2, c3, c4⟩ := push_spec (x := G.getD i 0) (by decide) ((i3.2.1 0 17).trans u17) i1 (by rw [List.length_take]; omega)
      refine Or.inl ⟨s1, ⟨by rw [take_succ' hi]; exact c2, c3.trans i2, i3.trans c4⟩, ?_⟩
      simp only [mX11_findTree_12]
      rw [inb_nI hh (by decide), hm1.1, if_neg (nI_ge hi (by omega)), at_spec hh (by omega), hm1.2 i hi, obs, c1, obs, bnd_eq, nI_1]
    · intro f s hI
      obtain ⟨i1, i2, i3⟩ := hI
      have hm1 : mG s h G := mG_fr (mG_fr hm f0 (by decide) (by decide)) i3.fr (by decide) (by decide)
      rw [List.take_length] at i1
      simp only [mX11_findTree_12]
      rw [inb_nI hh (by decide), hm1.1, if_pos (nI_le (Nat.le_refl _) (by omega))]
      exact ⟨s, rfl, i1, i2, i3⟩
  obtain ⟨S0, b1, b2, b3, b4⟩ := this
  rw [b1]
  have hN := cN_le 24 G
  have hN2 : cN 24 G + 1 ≤ 33554432 := hN
  obtain ⟨n0, hn0⟩ : ∃ n0, FU = (n0 + 1) + cN 24 G := ⟨FU - cN 24 G - 1, by have : FU = 1073741824 := rfl; omega⟩
  obtain ⟨S1, q1, q2, q3, q4, -, -, -, q8⟩ := tree_run 24 [] G G 0 0 (n0 + 1) 0 (sI (sI (sI S0 0 17 1) 0 20 0) 0 21 0) ⟨List.Perm.refl G, fun v hv1 => (by cases hv1), List.Pairwise.nil⟩ (okL_G hG) (pot_G hG.2.1) hl (by decide) (by decide) (by decide) ⟨by rw [gA_sI, gA_sI, gA_sI]; exact b2.1, fun i hi => by rw [gA_sI, gA_sI, gA_sI]; exact b2.2 i hi⟩ (by rw [gA_sI, gA_sI, gA_sI, b3]; exact a3) (by rw [gI_sI_k (by decide), gI_sI_k (by decide), gI_sI_same]; rfl) (by rw [gI_sI_same]; rfl)
  refine ⟨S1, ?_, ?_, ?_, ?_⟩
  · rw [hn0, q1, findTree_eq, q2, if_pos (by decide)]
  · rw [q3, gI_sI_k (by decide), gI_sI_same]
    grind
  · rw [q4, Nat.zero_max]
  · exact Fr.trans f0 (Fr.trans (((b4.fr.sI (by decide)).sI (by decide)).sI (by decide)) q8)
theorem ctree_spec {S : St} {m : Nat} {G : List Nat} (hm : 60 < m) (hG : okG G) (hc : cG S m G) : ∃ S1, mX8_grow S m = some S1 ∧ gI S1 28 0 = nI (cT 24 G) ∧ gI S1 28 1 = nI (cD 24 0 G) ∧ Fr rowsA [(28, 0), (28, 1)] S S1 := by
  have hl := hG.1
  have hU : ∃ U, U = sAf (sI (sI S 28 0 0) 28 1 0) 30 (va_cpy (gA (sI (sI S 28 0 0) 28 1 0) (m + 1)) (gA (sI (sI S 28 0 0) 28 1 0) 30) 0 0 40) := ⟨_, rfl⟩
  obtain ⟨U, hU⟩ := hU
  have hr : rowL U (30 + 0) G := fun i hi => by
    rw [hU, gA_sAf_same, pk_cpy_in (Nat.zero_le i) (by omega), gA_sI, gA_sI, Nat.zero_add, Nat.sub_zero]
    exact hc.2 i hi
  have h1 : gI U 28 1 = nI 0 := by rw [hU, gI_sAf, gI_sI_same]; rfl
  have h0 : gI U 28 0 = 0 := by rw [hU, gI_sAf, gI_sI_k (by decide), gI_sI_same]
  have hsz : gI U m 1 = nI G.length := by rw [hU, gI_sAf, gI_sI_ne (by omega), gI_sI_ne (by omega)]; exact hc.1
  have fU : Fr rowsA [(28, 0), (28, 1)] S U := by
    rw [hU]
    exact (((Fr.refl _ _ S).sI (by decide)).sI (by decide)).sAf (by decide)
  obtain ⟨S1, b1, b2, b3, -, b5⟩ := branch_spec 24 0 G U 0 (by decide) (okL_G hG) hr h1 (by decide)
  refine ⟨S1, ?_, ?_, ?_, fU.trans b5⟩
  · have e : mX8_grow S m = ((mX8_branch 25 U 0 (gI U m 1)).bind fun r2 => some r2) := by
      rw [hU]
      rfl
    rw [e, hsz, show mX8_branch 25 U 0 (nI G.length) = some S1 from b1, obs]
  · rw [b2, h0]
    grind
  · rw [b3, Nat.zero_max]
/-! the size of the lattice -/
def lct (G : List Nat) : Nat → Nat
  | 0 => 0
  | p + 1 => lct G p + (if ltB G p then 1 else 0)
theorem lct_low {G : List Nat} {H : Nat → Nat} {c : Nat} (hc : c < 343) (hH : H c ≤ 7) (hB : ∀ p, p < 2401 → up G p = bH H p) : ∀ d, d ≤ H c → lct G (7 * c + d) = lct G (7 * c) := by
  intro d
  induction d with
  | zero => intro _; rfl
  | succ d ih =>
    intro hd
    show lct G (7 * c + d) + (if ltB G (7 * c + d) then 1 else 0) = _
    have : ltB G (7 * c + d) = false := by
      cases hz : ltB G (7 * c + d) with
      | false => rfl
      | true =>
        have := lt_up (by omega) hz
        rw [hB _ (by omega)] at this
        unfold bH at this
        rw [decide_eq_true_eq, show (7 * c + d) / 7 = c by omega, show (7 * c + d) % 7 = d by omega] at this
        omega
    rw [this, if_neg (by decide), ih (by omega), Nat.add_zero]
theorem clat_inner {S : St} {m c : Nat} {G : List Nat} {H : Nat → Nat} (k4 : Int32 → Int32 → Option Int32) (hc : c < 343) (hcg : cG S m G) (hl : G.length ≤ 40) (hq : ∀ q ∈ G, q < 2401) (h7 : H c ≤ 7) (hB : ∀ p, p < 2401 → up G p = bH H p) : mX7_latticeSize_22 S m k4 FU (nI (lct G (7 * c))) (nI c) (nI (H c)) = k4 (nI (lct G (7 * (c + 1)))) (nI (c + 1)) := by
  have key : ∀ k d n, d + k = 7 → k < n → mX7_latticeSize_22 S m k4 n (nI (lct G (7 * c + d))) (nI c) (nI d) = k4 (nI (lct G (7 * (c + 1)))) (nI (c + 1)) := by
    intro k
    induction k with
    | zero =>
      intro d n hd hn
      obtain ⟨n, rfl⟩ : ∃ m, n = m + 1 := ⟨n - 1, by omega⟩
      have : d = 7 := by omega
      subst this
      simp only [mX7_latticeSize_22]
      rw [if_pos (show (6 : Int32) < nI 7 by decide), bnd_eq, nI_1]
      rfl
    | succ k ih =>
      intro d n hd hn
      obtain ⟨n, rfl⟩ : ∃ m, n = m + 1 := ⟨n - 1, by omega⟩
      have hn1 := ih (d + 1) n (by omega) (by omega)
      have e : lct G (7 * c + (d + 1)) = lct G (7 * c + d) + (if ltB G (7 * c + d) then 1 else 0) := rfl
      rw [e] at hn1
      simp only [mX7_latticeSize_22, mX7_latticeSize_46, bnd_eq, nI_1]
      rw [if_neg (show ¬ (6 : Int32) < nI d from nI_nlt (a := 6) (by omega) (by decide)), monomialOf_spec hc, obs, mono_or (by omega), icm_spec (by omega) hcg hl hq, obs]
      cases hlt : ltB G (7 * c + d) with
      | false =>
        rw [hlt] at hn1
        rw [if_pos (by decide)]
        exact hn1
      | true =>
        rw [hlt] at hn1
        rw [if_neg (by decide)]
        exact hn1
  have := key (7 - H c) (H c) FU (by omega) (FU_gt (by omega))
  rw [lct_low hc h7 hB (H c) (Nat.le_refl _)] at this
  exact this
theorem clat_spec {S : St} {m : Nat} {G : List Nat} {H : Nat → Nat} (hcg : cG S m G) (hl : G.length ≤ 40) (hq : ∀ q ∈ G, q < 2401) (h : hA S 60 H) (hB : ∀ p, p < 2401 → up G p = bH H p) : mX7_latticeSize S m = some (nI (lct G 2401)) := by
  unfold mX7_latticeSize
  refine loopN (N := 343) (fun f c => mX7_latticeSize_4 S m f (nI (lct G (7 * c))) (nI c)) (by omega) ?_ ?_
  · intro c f hc
    simp only [mX7_latticeSize_4]
    rw [if_neg (show ¬ (343 : Int32) ≤ nI c from nI_ge (b := 343) hc (by decide)), inb_nI hc (by decide), bnd_eq, (h c hc).1, clat_inner (mX7_latticeSize_4 S m f) hc hcg hl hq (h c hc).2 hB]
  · intro f
    simp only [mX7_latticeSize_4]
    rw [if_pos (show (343 : Int32) ≤ nI 343 by decide)]
theorem rlat_spec {S : St} {h : Nat} {G : List Nat} (hh : h < 16) (hm : mG S h G) (hl : G.length ≤ 40) (hq : ∀ q ∈ G, q < 2401) : ∃ S1, mX11_latticeMany S (nI h) = some (nI (lct G 2401), S1) ∧ Fr [4, 14] [] S S1 := by
  obtain ⟨S1, a1, a2, a3⟩ := findLattice_spec hh hm hl hq
  refine ⟨S1, ?_, a3⟩
  unfold mX11_latticeMany
  rw [a1, obs]
  refine loopN (N := 2401) (fun f p => mX11_latticeMany_9 f S1 (nI (lct G p)) (nI p)) (by omega) ?_ ?_
  · intro p f hp
    simp only [mX11_latticeMany_9, mX11_latticeMany_31, bnd_eq, nI_1]
    rw [if_neg (show ¬ (2401 : Int32) ≤ nI p from nI_ge (b := 2401) hp (by decide)), inb_nI hp (by decide), a2 p hp, show nI (lct G p) + 0 = nI (lct G p) from nI_add _ 0]
    show _ = mX11_latticeMany_9 f S1 (nI (lct G p + (if ltB G p then 1 else 0))) (nI (p + 1))
    cases ltB G p with
    | false =>
      rw [if_pos (by decide)]
      rfl
    | true =>
      rw [if_neg (by decide)]
      rfl
  · intro f
    simp only [mX11_latticeMany_9]
    rw [if_pos (show (2401 : Int32) ≤ nI 2401 by decide)]
theorem pf_facts : PF_facts Inv := by
  intro pr S a0 a1 hI
  unfold mX10_facts mX11_facts
  rcases ideal_cases a0 with ⟨c0, r0⟩ | ⟨h, hh, rfl, c0, r0⟩
  · rw [c0, obs]
    exact ⟨-1, S, S, if_pos rfl, by rw [r0, obs, if_pos rfl], hI⟩
  obtain ⟨G, g1, g2, g3⟩ := hI.2.1 h (by omega)
  obtain ⟨S1, H, l1, l2, l3, l4⟩ := look_spec (m := 65 + 2 * h) (by omega) g3 g1.1 g1.2.1
  have f1 : Fr scA scK S S1 := l4.mono (by decide) (by simp)
  have hI1 := Inv_fr hI f1
  have gm : mG S1 h G := mG_fr g2 l4 (by decide) (by decide)
  have gc : cG S1 (65 + 2 * h) G := cG_fr g3 l4 (by simp; omega) (by simp)
  rw [c0, obs, if_neg (by decide), inb_nI hh (by decide), el62, l1, obs]
  rcases arg a1 with ha | ⟨w, hw, rfl⟩
  · refine ⟨-2, S1, S1, ?_, ?_, hI1⟩
    · rw [if_neg (show ¬ a1 = 0 from neg_ne (j := 0) ha (by decide)), if_neg (show ¬ a1 = 1 from neg_ne (j := 1) ha (by decide)), if_neg (show ¬ a1 = 2 from neg_ne (j := 2) ha (by decide)), if_neg (show ¬ a1 = 3 from neg_ne (j := 3) ha (by decide)), if_neg (show ¬ a1 = 4 from neg_ne (j := 4) ha (by decide))]
    · rw [r0, obs, if_neg (by decide), show (0 : Int64) = lN 0 from rfl, in_neg (l := 0) ha (by decide), obs]
      rfl
  · have hin : mX11_in (nI w).toInt64 0 4 = some (b2 (decide (0 ≤ w) && decide (w ≤ 4))) := in_nI (l := 0) (h := 4) hw (by decide) (by decide)
    rw [decide_eq_true (Nat.zero_le w), Bool.true_and] at hin
    by_cases h4 : w ≤ 4
    · rw [decide_eq_true h4] at hin
      rcases (show w = 0 ∨ w = 1 ∨ w = 2 ∨ w = 3 ∨ w = 4 by omega) with rfl | rfl | rfl | rfl | rfl
      · obtain ⟨S2, p1, p2, p3, p4⟩ := findParts_spec (S := S1) (h := h) (by omega) gm g1.1 g1.2.1
        have hd := rdim_spec p2 (pls_len _) (pls_lt _)
        rw [pls_of l2 l3] at hd
        rw [if_pos (by decide), cdim_spec l2, obs]
        refine ⟨_, S1, S2, rfl, ?_, Inv_fr hI1 (p4.mono (by decide) (by decide))⟩
        rw [r0, obs, if_neg (by decide), hin, obs, if_neg (by decide), if_pos (by decide), p1, obs, hd, obs]
      · obtain ⟨S2, q1, q2⟩ := rsize_spec (S := S1) (h := h) (by omega) gm g1.1 g1.2.1
        rw [pls_of l2 l3, size_eq l2 l3] at q1
        rw [if_neg (by decide), if_pos (by decide), csize_spec l2, obs]
        refine ⟨_, S1, S2, rfl, ?_, Inv_fr hI1 (q2.mono (by decide) (by decide))⟩
        rw [r0, obs, if_neg (by decide), hin, obs, if_neg (by decide), if_neg (by decide), if_pos (by decide), q1, obs]
      · obtain ⟨S2, t1, t2, t3, t4⟩ := ctree_spec (m := 65 + 2 * h) (by omega) g1 gc
        have hI2 := Inv_fr hI1 (t4.mono (A1 := scA) (K1 := scK) (by decide) (by decide))
        obtain ⟨S3, u1, u2, u3, u4⟩ := rtree_spec (S := S2) (h := h) (by omega) g1 (mG_fr gm t4 (by decide) (by decide))
        unfold mX7_pivots
        rw [if_neg (by decide), if_neg (by decide), if_pos (by decide), t1, obs, obs]
        refine ⟨_, S2, S3, rfl, ?_, Inv_fr hI2 (u4.mono (by decide) (by decide))⟩
        rw [r0, obs, if_neg (by decide), hin, obs, if_neg (by decide), if_neg (by decide), if_neg (by decide), if_pos (by decide), u1, obs, if_pos (by decide), u2, t2]
      · obtain ⟨S2, t1, t2, t3, t4⟩ := ctree_spec (m := 65 + 2 * h) (by omega) g1 gc
        have hI2 := Inv_fr hI1 (t4.mono (A1 := scA) (K1 := scK) (by decide) (by decide))
        obtain ⟨S3, u1, u2, u3, u4⟩ := rtree_spec (S := S2) (h := h) (by omega) g1 (mG_fr gm t4 (by decide) (by decide))
        unfold mX7_nestedPivots
        rw [if_neg (by decide), if_neg (by decide), if_neg (by decide), if_pos (by decide), t1, obs, obs]
        refine ⟨_, S2, S3, rfl, ?_, Inv_fr hI2 (u4.mono (by decide) (by decide))⟩
        rw [r0, obs, if_neg (by decide), hin, obs, if_neg (by decide), if_neg (by decide), if_neg (by decide), if_neg (by decide), if_pos (by decide), u1, obs, if_neg (by decide), u3, t3]
      · obtain ⟨S2, u1, u2⟩ := rlat_spec (S := S1) (h := h) (by omega) gm g1.1 g1.2.1
        rw [if_neg (by decide), if_neg (by decide), if_neg (by decide), if_neg (by decide), if_pos (by decide), clat_spec gc g1.1 g1.2.1 l2 l3, obs]
        refine ⟨_, S1, S2, rfl, ?_, Inv_fr hI1 (u2.mono (by decide) (by simp))⟩
        rw [r0, obs, if_neg (by decide), hin, obs, if_neg (by decide), if_neg (by decide), if_neg (by decide), if_neg (by decide), if_neg (by decide), if_pos (by decide), u1, obs]
    · rw [decide_eq_false h4] at hin
      have hne : ∀ k : Nat, k ≤ 4 → ¬ nI w = nI k := fun k hk e => h4 (by have := (nI_eq hw (by omega)).mp e; omega)
      refine ⟨-2, S1, S1, ?_, ?_, hI1⟩
      · rw [if_neg (show ¬ nI w = 0 from hne 0 (by decide)), if_neg (show ¬ nI w = 1 from hne 1 (by decide)), if_neg (show ¬ nI w = 2 from hne 2 (by decide)), if_neg (show ¬ nI w = 3 from hne 3 (by decide)), if_neg (show ¬ nI w = 4 from hne 4 (by decide))]
      · rw [r0, obs, if_neg (by decide), hin, obs]
        rfl
