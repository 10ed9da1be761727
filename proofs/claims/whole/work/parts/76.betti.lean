/-! PURE PART: betti -/
def rkC (L : List Nat) : Nat := (L.foldl clsStep []).length
def rkR (L : List Nat) : Nat := (L.foldl refStep ((fun _ => 0), 0)).2
theorem chk1 (f : Nat → Bool) : rkC ([1, 2, 4, 8].filter f) = rkR ([1, 2, 4, 8].filter f) := by
  simp only [List.filter_cons, List.filter_nil]
  cases f 1 <;> cases f 2 <;> cases f 4 <;> cases f 8 <;> decide +kernel
theorem chk2 (f : Nat → Bool) : rkC ([3, 5, 6, 9, 10, 12].filter f) = rkR ([3, 5, 6, 9, 10, 12].filter f) := by
  simp only [List.filter_cons, List.filter_nil]
  cases f 3 <;> cases f 5 <;> cases f 6 <;> cases f 9 <;> cases f 10 <;> cases f 12 <;> decide +kernel
theorem chk3 (f : Nat → Bool) : rkC ([7, 11, 13, 14].filter f) = rkR ([7, 11, 13, 14].filter f) := by
  simp only [List.filter_cons, List.filter_nil]
  cases f 7 <;> cases f 11 <;> cases f 13 <;> cases f 14 <;> decide +kernel
theorem chk4 (f : Nat → Bool) : rkC ([15].filter f) = rkR ([15].filter f) := by
  simp only [List.filter_cons, List.filter_nil]
  cases f 15 <;> decide +kernel
theorem rows_sets {X s : Nat} (hs : 0 < s) : rowsL X s 16 = ((List.range 16).filter (fun j => decide (pc j = s))).filter (bit X) := by
  rw [List.filter_filter]
  unfold rowsL
  refine List.filter_congr (fun j _ => ?_)
  unfold rowP selP
  rw [decide_eq_true hs, Bool.and_true]
theorem rank_eq {X s : Nat} (hs : s ≤ 4) : rkC (rowsL X s 16) = rkR (rowsL X s 16) := by
  rcases (show s = 0 ∨ s = 1 ∨ s = 2 ∨ s = 3 ∨ s = 4 by omega) with rfl | rfl | rfl | rfl | rfl
  · have : rowsL X 0 16 = [] := by
      unfold rowsL
      rw [List.filter_eq_nil_iff]
      intro j _
      unfold rowP
      simp
    rw [this]
    rfl
  · rw [rows_sets (by decide), show (List.range 16).filter (fun j => decide (pc j = 1)) = [1, 2, 4, 8] by decide]
    exact chk1 _
  · rw [rows_sets (by decide), show (List.range 16).filter (fun j => decide (pc j = 2)) = [3, 5, 6, 9, 10, 12] by decide]
    exact chk2 _
  · rw [rows_sets (by decide), show (List.range 16).filter (fun j => decide (pc j = 3)) = [7, 11, 13, 14] by decide]
    exact chk3 _
  · rw [rows_sets (by decide), show (List.range 16).filter (fun j => decide (pc j = 4)) = [15] by decide]
    exact chk4 _
def cntS (X s i : Nat) : Nat := ((List.range i).filter (selP X s)).length
theorem cntS_succ (X s i : Nat) : cntS X s (i + 1) = cntS X s i + (if selP X s i then 1 else 0) := by
  unfold cntS
  rw [filter_succ, List.length_append]
  cases selP X s i <;> rfl
theorem sheetsOf_spec {X s : Nat} (hX : X < 65536) (hs : s ≤ 4) : mX0_sheetsOf (nI X) (nI s) = some (nI (cntS X s 16)) := by
  unfold mX0_sheetsOf
  refine loopN (N := 16) (fun f i => mX0_sheetsOf_4 f (nI X) (nI s) (nI (cntS X s i)) (nI i)) (by omega) ?_ ?_
  · intro i f hi
    have hpl : pc i ≤ 4 := by unfold pc; omega
    simp only [mX0_sheetsOf_4, mX0_sheetsOf_30, bnd_eq, nI_1]
    rw [if_neg (show ¬ (16 : Int32) ≤ nI i from nI_ge (b := 16) hi (by decide))]
    simp only [bit_eq hX hi]
    rw [bitCount4 hi, obs, cntS_succ]
    unfold selP
    cases bit X i with
    | false =>
      rw [if_neg (by decide), Bool.false_and, if_neg (by decide)]
      try rfl
    | true =>
      rw [if_pos rfl, Bool.true_and]
      by_cases hps : pc i = s
      · rw [if_pos (congrArg nI hps), if_pos (decide_eq_true hps)]
      · rw [if_neg (fun z => hps ((nI_eq (by omega) (by omega)).mp z)), if_neg (by rw [decide_eq_false hps]; decide)]
        try rfl
  · intro f
    simp only [mX0_sheetsOf_4]
    rw [if_pos (show (16 : Int32) ≤ nI 16 by decide)]
theorem facesOf_spec {S : St} {X s : Nat} (hX : X < 65536) (hs : s ≤ 4) (hf : gI S 0 23 = nI X) : mX11_facesOf S (nI s) = some (nI (cntS X s 16)) := by
  unfold mX11_facesOf
  refine loopN (N := 16) (fun f i => mX11_facesOf_4 S f (nI s) (nI (cntS X s i)) (nI i)) (by omega) ?_ ?_
  · intro i f hi
    have hpl : pc i ≤ 4 := by unfold pc; omega
    simp only [mX11_facesOf_4, mX11_facesOf_35, mX11_facesOf_36, bnd_eq, nI_1]
    rw [if_neg (show ¬ (16 : Int32) ≤ nI i from nI_ge (b := 16) hi (by decide)), hf]
    simp only [bit_eq hX hi]
    rw [ones_spec hi, obs, cntS_succ, show nI (cntS X s i) + 0 = nI (cntS X s i) from nI_add _ 0]
    unfold selP
    cases bit X i with
    | false =>
      rw [if_neg (by decide), Bool.false_and, if_neg (by decide)]
      try rfl
    | true =>
      rw [if_pos rfl, Bool.true_and]
      by_cases hps : pc i = s
      · rw [if_pos (congrArg nI hps), if_pos (decide_eq_true hps)]
      · rw [if_neg (fun z => hps ((nI_eq (by omega) (by omega)).mp z)), if_neg (by rw [decide_eq_false hps]; decide)]
        try rfl
  · intro f
    simp only [mX11_facesOf_4]
    rw [if_pos (show (16 : Int32) ≤ nI 16 by decide)]
def hvI (X i : Nat) : Int32 := nI (cntS X i 16) - nI (rkC (rowsL X i 16)) - nI (rkC (rowsL X (i + 1) 16))
theorem holes_class {S : St} {X i : Nat} (hX : X < 65536) (hi : i ≤ 3) : ∃ S1, mX0_holes S (nI X) (nI i) = some (hvI X i, S1) ∧ Fr [27] [] S S1 := by
  obtain ⟨S1, a1, a2⟩ := borders_spec (S := S) (s := i) hX (by omega)
  obtain ⟨S2, b1, b2⟩ := borders_spec (S := S1) (s := i + 1) hX (by omega)
  refine ⟨S2, ?_, a2.trans b2⟩
  unfold mX0_holes
  rw [sheetsOf_spec hX (by omega), obs, a1, obs]
  show ((mX0_borders S1 (nI X) (nI i + 1)).bind _) = _
  rw [nI_1, b1, obs]
  rfl
/-! the mask of the sheets -/
def fcB (G : List Nat) (p j : Nat) : Bool := dv (sqN j) p && up G (p - sqN j)
def mskI (G : List Nat) (p : Nat) : Nat → Nat
  | 0 => 0
  | i + 1 => mskI G p i ||| (if fcB G p i then 2 ^ i else 0)
theorem mskI_lt (G : List Nat) (p : Nat) : ∀ i, i ≤ 16 → mskI G p i < 65536 := by
  intro i
  induction i with
  | zero => intro _; exact (by decide : 0 < 65536)
  | succ i ih =>
    intro hi
    refine Nat.or_lt_two_pow (n := 16) (ih (by omega)) ?_
    split
    · exact Nat.pow_lt_pow_right (by decide) (by omega)
    · decide
theorem contains_h {S : St} {H : Nat → Nat} {q : Nat} (hq : q < 2401) (h : hA S 60 H) : mX6_contains S 59 (nI (hexN q)) = some (b2 (bH H q)) := by
  obtain ⟨ha, hb, hc, hd, -⟩ := digs q hq
  obtain ⟨e1, e2, e3, e4⟩ := exp_hx (a := q / 343) (b := q / 49 % 7) (c := q / 7 % 7) (d := q % 7) (by omega) (by omega) (by omega) (by omega)
  have hcl : q / 7 < 343 := by omega
  obtain ⟨k1, k2⟩ := h _ hcl
  unfold mX6_contains bH
  rw [hexN_hx, cellOf_hx (by omega) (by omega) (by omega) (by omega), obs, capC_dig hq, inb_nI hcl (by decide), e4, obs, show imin 6 (nI (q % 7)) = nI (min 6 (q % 7)) from imin_nI (a := 6) (by decide) (by omega), Nat.min_eq_right (by omega), k1]
  by_cases hl : H (q / 7) ≤ q % 7
  · rw [if_neg (nI_nlt hl (by omega)), decide_eq_true hl]
    rfl
  · rw [if_pos (nI_lt (by omega) (by omega)), decide_eq_false hl]
    rfl
theorem sheetsAt_spec {S : St} {H : Nat → Nat} {G : List Nat} {p : Nat} (hp : p < 2401) (h : hA S 60 H) (hB : ∀ p, p < 2401 → up G p = bH H p) : mX0_sheetsAt S 59 (nI (hexN p)) = some (nI (mskI G p 16)) := by
  unfold mX0_sheetsAt
  refine loopN (N := 16) (fun f i => mX0_sheetsAt_4 S 59 f (nI (hexN p)) (nI (mskI G p i)) (nI i)) (by omega) ?_ ?_
  · intro i f hi
    simp only [mX0_sheetsAt_4, mX0_sheetsAt_42, bnd_eq, nI_1]
    rw [if_neg (show ¬ (16 : Int32) ≤ nI i from nI_ge (b := 16) hi (by decide)), ofSet_spec i hi, obs, cdiv_spec (sqN_lt i) hp, obs]
    show _ = mX0_sheetsAt_4 S 59 f (nI (hexN p)) (nI (mskI G p i ||| (if fcB G p i then 2 ^ i else 0))) (nI (i + 1))
    unfold fcB
    cases hd : dv (sqN i) p with
    | false => rw [if_pos (by decide), Bool.false_and, if_neg (by decide), Nat.or_zero]
    | true =>
      rw [if_neg (by decide), hex_sub hp hd, contains_h (by omega) h, obs, ← hB _ (by omega), Bool.true_and]
      cases up G (p - sqN i) with
      | false => rw [if_pos (by decide), if_neg (by decide), Nat.or_zero]
      | true => rw [if_neg (by decide), if_pos rfl, shl_sup hi, nI_or]
  · intro f
    simp only [mX0_sheetsAt_4]
    rw [if_pos (show (16 : Int32) ≤ nI 16 by decide)]
theorem wo_step {j x v n : Nat} (hj : j < 16) (hv : v < 4) (hle : tenN v * (j / 2 ^ v % 2) ≤ x) : mX11_without_4 (n + 1) (nI j) (nI x) (nI v) = mX11_without_4 n (nI j) (nI (x - tenN v * (j / 2 ^ v % 2))) (nI (v + 1)) := by
  simp only [mX11_without_4]
  rw [if_neg (show ¬ (4 : Int32) ≤ nI v from nI_ge (b := 4) hv (by decide)), ten_spec hv, obs, bit_spec (by omega) (by omega), nI_mul, Nat.mul_comm, nI_sub hle, bnd_eq, bnd_eq, nI_1]
theorem without_spec {p j : Nat} (hp : p < 2401) (hj : j < 16) (hd : dv (sqN j) p = true) : mX11_without (nI (decN p)) (nI j) = some (nI (decN (p - sqN j))) := by
  obtain ⟨e1, e2, e3, e4⟩ := dig4 (a := j % 2) (b := j / 2 % 2) (c := j / 4 % 2) (d := j / 8 % 2) (by omega) (by omega) (by omega)
  obtain ⟨d1, d2, d3, d4⟩ := dv_iff.mp hd
  obtain ⟨f1, f2, f3, f4, -⟩ := dv_digs hp hd
  have es : sqN j = 343 * (j % 2) + 49 * (j / 2 % 2) + 7 * (j / 4 % 2) + j / 8 % 2 := rfl
  rw [← es] at e1 e2 e3 e4
  rw [e1] at d1 f1
  rw [e2] at d2 f2
  rw [e3] at d3 f3
  rw [e4] at d4 f4
  have hx : decN (p - sqN j) = 1000 * (p / 343 - j % 2) + 100 * (p / 49 % 7 - j / 2 % 2) + 10 * (p / 7 % 7 - j / 4 % 2) + (p % 7 - j / 8 % 2) := by
    unfold decN
    rw [f1, f2, f3, f4]
  have hdp : decN p = 1000 * (p / 343) + 100 * (p / 49 % 7) + 10 * (p / 7 % 7) + p % 7 := rfl
  have b0 : j / 2 ^ 0 % 2 = j % 2 := by rw [show (2 : Nat) ^ 0 = 1 from rfl, Nat.div_one]
  have b1 : j / 2 ^ (0 + 1) % 2 = j / 2 % 2 := rfl
  have b2 : j / 2 ^ (0 + 1 + 1) % 2 = j / 4 % 2 := rfl
  have b3 : j / 2 ^ (0 + 1 + 1 + 1) % 2 = j / 8 % 2 := rfl
  clear e1 e2 e3 e4 f1 f2 f3 f4 es
  have hfuel : ∀ n, mX11_without_4 (n + 1 + 1 + 1 + 1 + 1) (nI j) (nI (decN p)) 0 = some (nI (decN (p - sqN j))) := fun n => by
    rw [hx, hdp]
    generalize p / 343 = x0 at *
    generalize p / 49 % 7 = x1 at *
    generalize p / 7 % 7 = x2 at *
    generalize p % 7 = x3 at *
    have t0 : tenN 0 = 1000 := rfl
    have t1 : tenN (0 + 1) = 100 := rfl
    have t2 : tenN (0 + 1 + 1) = 10 := rfl
    have t3 : tenN (0 + 1 + 1 + 1) = 1 := rfl
    rw [show mX11_without_4 (n + 1 + 1 + 1 + 1 + 1) (nI j) (nI (1000 * x0 + 100 * x1 + 10 * x2 + x3)) 0 = _ from wo_step (v := 0) hj (by decide) (by rw [b0, t0]; omega), wo_step hj (by decide) (by rw [b0, b1, t0, t1]; omega), wo_step hj (by decide) (by rw [b0, b1, b2, t0, t1, t2]; omega), wo_step hj (by decide) (by rw [b0, b1, b2, b3, t0, t1, t2, t3]; omega)]
    simp only [mX11_without_4]
    rw [if_pos (show (4 : Int32) ≤ nI (0 + 1 + 1 + 1 + 1) by decide), b0, b1, b2, b3, t0, t1, t2, t3]
    refine congrArg (fun z => some (nI z)) ?_
    omega
  exact hfuel 1073741819
theorem findFaces_spec {S : St} {h p : Nat} {G : List Nat} (hh : h < 16) (hp : p < 2401) (hm : mG S h G) (hl : G.length ≤ 40) (hq : ∀ q ∈ G, q < 2401) : ∃ S1, mX11_findFaces S (nI h) (nI (decN p)) = some S1 ∧ gI S1 0 23 = nI (mskI G p 16) ∧ Fr [] [(0, 23)] S S1 := by
  unfold mX11_findFaces
  refine loopG (σ := St) (N := 16) (fun f i s => mX11_findFaces_7 f s (nI h) (nI (decN p)) (nI i)) (fun i s => gI s 0 23 = nI (mskI G p i) ∧ Fr [] [(0, 23)] S s) (fun r => ∃ S1, r = some S1 ∧ gI S1 0 23 = nI (mskI G p 16) ∧ Fr [] [(0, 23)] S S1) (by omega) ?_ ?_ (sI S 0 23 0) ⟨gI_sI_same _ _ _ _, (Fr.refl _ _ S).sI (by decide)⟩
  · intro i f s hi hI
    have hs := sup_sub i hi (supN p) (supN_bits p).1
    rw [← dv_sq hi] at hs
    refine Or.inl ⟨sI s 0 23 (nI (mskI G p (i + 1))), ⟨gI_sI_same _ _ _ _, hI.2.sI (by decide)⟩, ?_⟩
    simp only [mX11_findFaces_7, mX11_findFaces_29, mX11_findFaces_60, mX11_findFaces_61, bnd_eq, nI_1]
    rw [if_neg (show ¬ (16 : Int32) ≤ nI i from nI_ge (b := 16) hi (by decide)), rsupport_spec hp, obs, hI.1]
    show _ = mX11_findFaces_7 f (sI s 0 23 (nI (mskI G p i ||| (if fcB G p i then 2 ^ i else 0)))) (nI h) (nI (decN p)) (nI (i + 1))
    unfold fcB
    cases hd : dv (sqN i) p with
    | false =>
      rw [hd] at hs
      rw [if_neg (of_decide_eq_false hs), if_pos trivial, Bool.false_and, if_neg (by decide), Nat.or_zero, show nI (mskI G p i) ||| 0 = nI (mskI G p i) by rw [show (0 : Int32) = nI 0 from rfl, nI_or, Nat.or_zero]]
    | true =>
      rw [hd] at hs
      rw [if_pos (of_decide_eq_true hs), if_neg (by decide), without_spec hp hi hd, obs, isIn_spec hh (by omega) (mG_fr hm hI.2 (by decide) (by decide)) hl hq, obs, Bool.true_and]
      cases up G (p - sqN i) with
      | false => rw [if_pos (by decide), if_neg (by decide), Nat.or_zero, show nI (mskI G p i) ||| 0 = nI (mskI G p i) by rw [show (0 : Int32) = nI 0 from rfl, nI_or, Nat.or_zero]]
      | true => rw [if_neg (by decide), if_pos rfl, shl_sup hi, nI_or]
  · intro f s hI
    simp only [mX11_findFaces_7]
    rw [if_pos (show (16 : Int32) ≤ nI 16 by decide)]
    exact ⟨s, rfl, hI.1, hI.2⟩
theorem rholes_spec {S : St} {h p i : Nat} {G : List Nat} (hh : h < 16) (hp : p < 2401) (hi : i ≤ 3) (hm : mG S h G) (hl : G.length ≤ 40) (hq : ∀ q ∈ G, q < 2401) : ∃ S1, mX11_holesAt S (nI h) (nI i) (nI (decN p)) = some (hvI (mskI G p 16) i, S1) ∧ Fr [15] [(0, 23)] S S1 := by
  have hX := mskI_lt G p 16 (Nat.le_refl _)
  obtain ⟨S1, a1, a2, a3⟩ := findFaces_spec hh hp hm hl hq
  obtain ⟨S2, b1, b2⟩ := rank_spec (s := i) hX (by omega) a2
  obtain ⟨S3, c1, c2⟩ := rank_spec (S := S2) (s := i + 1) hX (by omega) ((b2.2 0 23 (by decide)).trans a2)
  refine ⟨S3, ?_, (a3.mono (by simp) (by simp)).trans ((b2.mono (by simp) (by simp)).trans (c2.mono (by simp) (by simp)))⟩
  unfold mX11_holesAt
  rw [a1, obs, facesOf_spec hX (by omega) a2, obs, b1, obs]
  show ((mX11_rank S2 (nI i + 1)).bind _) = _
  rw [nI_1, c1, obs]
  unfold hvI
  rw [rank_eq (by omega), rank_eq (by omega)]
  rfl
theorem choles_spec {S : St} {m p i : Nat} {G : List Nat} {H : Nat → Nat} (hp : p < 2401) (hi : i ≤ 3) (hc : cG S m G) (hl : G.length ≤ 40) (hq : ∀ q ∈ G, q < 2401) (h : hA S 60 H) (hB : ∀ p, p < 2401 → up G p = bH H p) : ∃ S1, mX7_holesAt S m (nI i) (nI (hexN p)) = some (if ltB G p then hvI (mskI G p 16) i else 0, S1) ∧ Fr [27] [] S S1 := by
  unfold mX7_holesAt
  rw [icm_spec hp hc hl hq, obs]
  cases hlt : ltB G p with
  | false =>
    rw [if_pos (by decide)]
    exact ⟨S, rfl, Fr.refl _ _ S⟩
  | true =>
    obtain ⟨S1, a1, a2⟩ := holes_class (S := S) (X := mskI G p 16) (mskI_lt G p 16 (Nat.le_refl _)) hi
    rw [if_neg (by decide), sheetsAt_spec hp h hB, obs, a1, obs]
    exact ⟨S1, rfl, a2⟩
def hsum (G : List Nat) (i : Nat) : Nat → Int32
  | 0 => 0
  | p + 1 => hsum G i p + (if ltB G p then hvI (mskI G p 16) i else 0)
theorem hsum_low {G : List Nat} {H : Nat → Nat} {i c : Nat} (hc : c < 343) (hH : H c ≤ 7) (hB : ∀ p, p < 2401 → up G p = bH H p) : ∀ d, d ≤ H c → hsum G i (7 * c + d) = hsum G i (7 * c) := by
  intro d
  induction d with
  | zero => intro _; rfl
  | succ d ih =>
    intro hd
    show hsum G i (7 * c + d) + (if ltB G (7 * c + d) then hvI (mskI G (7 * c + d) 16) i else 0) = _
    have : ltB G (7 * c + d) = false := by
      cases hz : ltB G (7 * c + d) with
      | false => rfl
      | true =>
        have := lt_up (by omega) hz
        rw [hB _ (by omega)] at this
        unfold bH at this
        rw [decide_eq_true_eq, show (7 * c + d) / 7 = c by omega, show (7 * c + d) % 7 = d by omega] at this
        omega
    rw [this, if_neg (by decide), ih (by omega)]
    grind
theorem cbetti_inner {S : St} {m c i : Nat} {G : List Nat} {H : Nat → Nat} (k5 : St → Int32 → Int32 → Int32 → Option (Int32 × St)) (hm : 60 < m) (hc : c < 343) (hi : i ≤ 3) (hcg : cG S m G) (hl : G.length ≤ 40) (hq : ∀ q ∈ G, q < 2401) (h : hA S 60 H) (hB : ∀ p, p < 2401 → up G p = bH H p) : ∃ S1, mX7_holesInAll_25 m k5 FU S (nI i) (hsum G i (7 * c)) (nI c) (nI (H c)) = k5 S1 (nI i) (hsum G i (7 * (c + 1))) (nI (c + 1)) ∧ Fr [27] [] S S1 := by
  have h7 := (h c hc).2
  have key : ∀ k d n s, d + k = 7 → k < n → Fr [27] [] S s → ∃ S1, mX7_holesInAll_25 m k5 n s (nI i) (hsum G i (7 * c + d)) (nI c) (nI d) = k5 S1 (nI i) (hsum G i (7 * (c + 1))) (nI (c + 1)) ∧ Fr [27] [] S S1 := by
    intro k
    induction k with
    | zero =>
      intro d n s hd hn hF
      obtain ⟨n, rfl⟩ : ∃ m, n = m + 1 := ⟨n - 1, by omega⟩
      have : d = 7 := by omega
      subst this
      simp only [mX7_holesInAll_25]
      rw [if_pos (show (6 : Int32) < nI 7 by decide), bnd_eq, nI_1]
      exact ⟨s, rfl, hF⟩
    | succ k ih =>
      intro d n s hd hn hF
      obtain ⟨n, rfl⟩ : ∃ m, n = m + 1 := ⟨n - 1, by omega⟩
      obtain ⟨s1, e1, e2⟩ := choles_spec (S := s) (m := m) (p := 7 * c + d) (G := G) (by omega) hi (cG_fr hcg hF (by simp; omega) (by simp)) hl hq (hA_fr h hF (by decide)) hB
      obtain ⟨S1, q1, q2⟩ := ih (d + 1) n s1 (by omega) (by omega) (hF.trans e2)
      refine ⟨S1, ?_, q2⟩
      simp only [mX7_holesInAll_25]
      rw [if_neg (show ¬ (6 : Int32) < nI d from nI_nlt (a := 6) (by omega) (by decide)), monomialOf_spec hc, obs, mono_or (by omega), e1, obs, bnd_eq, bnd_eq, nI_1]
      exact q1
  have := key (7 - H c) (H c) FU S (by omega) (FU_gt (by omega)) (Fr.refl _ _ S)
  rw [hsum_low hc h7 hB (H c) (Nat.le_refl _)] at this
  exact this
theorem cbetti_spec {S : St} {m i : Nat} {G : List Nat} {H : Nat → Nat} (hm : 60 < m) (hi : i ≤ 3) (hcg : cG S m G) (hl : G.length ≤ 40) (hq : ∀ q ∈ G, q < 2401) (h : hA S 60 H) (hB : ∀ p, p < 2401 → up G p = bH H p) : ∃ S1, mX7_holesInAll S m (nI i) = some (hsum G i 2401, S1) ∧ Fr [27] [] S S1 := by
  unfold mX7_holesInAll
  refine loopG (σ := St) (N := 343) (fun f c s => mX7_holesInAll_5 m f s (nI i) (hsum G i (7 * c)) (nI c)) (fun _ s => Fr [27] [] S s) (fun r => ∃ S1, r = some (hsum G i 2401, S1) ∧ Fr [27] [] S S1) (by omega) ?_ ?_ S (Fr.refl _ _ S)
  · intro c f s hc hF
    have h1 := hA_fr h hF (by decide)
    obtain ⟨s1, e1, e2⟩ := cbetti_inner (mX7_holesInAll_5 m f) hm hc hi (cG_fr hcg hF (by simp; omega) (by simp)) hl hq h1 hB
    refine Or.inl ⟨s1, hF.trans e2, ?_⟩
    simp only [mX7_holesInAll_5]
    rw [if_neg (show ¬ (343 : Int32) ≤ nI c from nI_ge (b := 343) hc (by decide)), inb_nI hc (by decide), bnd_eq, (h1 c hc).1, e1]
  · intro f s hF
    simp only [mX7_holesInAll_5]
    rw [if_pos (show (343 : Int32) ≤ nI 343 by decide)]
    exact ⟨s, rfl, hF⟩
theorem rbetti_spec {S : St} {h i : Nat} {G : List Nat} (hh : h < 16) (hi : i ≤ 3) (hm : mG S h G) (hl : G.length ≤ 40) (hq : ∀ q ∈ G, q < 2401) (hL : mk S 14 (ltB G)) : ∃ S1, mX11_betti_34 FU S (nI h) (nI i) 0 0 = some (hsum G i 2401, S1) ∧ Fr [15] [(0, 23)] S S1 := by
  refine loopG (σ := St) (N := 2401) (fun f p s => mX11_betti_34 f s (nI h) (nI i) (hsum G i p) (nI p)) (fun _ s => Fr [15] [(0, 23)] S s) (fun r => ∃ S1, r = some (hsum G i 2401, S1) ∧ Fr [15] [(0, 23)] S S1) (by omega) ?_ ?_ S (Fr.refl _ _ S)
  · intro p f s hp hF
    have hv : gA s 14 p = b2 (ltB G p) := by
      rw [hF.1 14 (by decide)]
      exact hL p hp
    simp only [mX11_betti_34, mX11_betti_68, bnd_eq, nI_1]
    rw [if_neg (show ¬ (2401 : Int32) ≤ nI p from nI_ge (b := 2401) hp (by decide)), inb_nI hp (by decide), hv, codeAt_spec hp, obs]
    refine Or.inl ?_
    show ∃ s1, Fr [15] [(0, 23)] S s1 ∧ _ = mX11_betti_34 f s1 (nI h) (nI i) (hsum G i p + (if ltB G p then hvI (mskI G p 16) i else 0)) (nI (p + 1))
    cases ltB G p with
    | false => exact ⟨s, hF, if_pos (by decide)⟩
    | true =>
      obtain ⟨s1, e1, e2⟩ := rholes_spec (S := s) hh hp hi (mG_fr hm hF (by decide) (by decide)) hl hq
      refine ⟨s1, hF.trans e2, ?_⟩
      rw [if_neg (by decide), e1, obs]
      rfl
  · intro f s hF
    simp only [mX11_betti_34]
    rw [if_pos (show (2401 : Int32) ≤ nI 2401 by decide)]
    exact ⟨s, rfl, hF⟩
theorem four_cases (a : Int32) : ((a < 0 ∨ ¬ a < 4) ∧ mX11_in a.toInt64 0 3 = some 0) ∨ ∃ d, d ≤ 3 ∧ a = nI d ∧ mX11_in a.toInt64 0 3 = some 1 := by
  rcases arg a with ha | ⟨d, hd, rfl⟩
  · refine Or.inl ⟨Or.inl ha, ?_⟩
    rw [show (0 : Int64) = lN 0 from rfl, in_neg (l := 0) ha (by decide)]
    rfl
  · have hin : mX11_in (nI d).toInt64 0 3 = some (b2 (decide (0 ≤ d) && decide (d ≤ 3))) := in_nI (l := 0) (h := 3) hd (by decide) (by decide)
    rw [decide_eq_true (Nat.zero_le d), Bool.true_and] at hin
    by_cases h : d ≤ 3
    · rw [decide_eq_true h] at hin
      exact Or.inr ⟨d, h, rfl, hin⟩
    · rw [decide_eq_false h] at hin
      exact Or.inl ⟨Or.inr (show ¬ nI d < 4 from nI_nlt (b := 4) (by omega) hd), hin⟩
theorem pf_betti : PF_betti Inv := by
  intro pr S a0 a1 hI
  unfold mX10_betti mX11_betti
  rcases ideal_cases a0 with ⟨c0, r0⟩ | ⟨h, hh, rfl, c0, r0⟩
  · rw [c0, obs]
    exact ⟨-1, S, S, if_pos rfl, by rw [r0, obs, if_pos rfl], hI⟩
  rw [c0, obs, if_neg (by decide)]
  rcases four_cases a1 with ⟨h1, r1⟩ | ⟨i, hi, rfl, r1⟩
  · refine ⟨-2, S, S, ?_, by rw [r0, obs, if_neg (by decide), r1, obs, if_pos rfl], hI⟩
    rcases h1 with h1 | h1
    · rw [if_pos h1]
    · by_cases hn : a1 < 0
      · rw [if_pos hn]
      · rw [if_neg hn, if_neg h1]
  · obtain ⟨G, g1, g2, g3⟩ := hI.2.1 h (by omega)
    obtain ⟨S1, H, l1, l2, l3, l4⟩ := look_spec (m := 65 + 2 * h) (by omega) g3 g1.1 g1.2.1
    obtain ⟨S2, e1, e2⟩ := cbetti_spec (m := 65 + 2 * h) (by omega) hi (cG_fr g3 l4 (by simp; omega) (by simp)) g1.1 g1.2.1 l2 l3
    obtain ⟨S3, q1, q2, q3⟩ := findLattice_spec (S := S2) (h := h) (by omega) (mG_fr (mG_fr g2 l4 (by decide) (by decide)) e2 (by decide) (by decide)) g1.1 g1.2.1
    obtain ⟨S4, u1, u2⟩ := rbetti_spec (S := S3) (h := h) (by omega) hi (mG_fr (mG_fr (mG_fr g2 l4 (by decide) (by decide)) e2 (by decide) (by decide)) q3 (by decide) (by decide)) g1.1 g1.2.1 q2
    rw [if_neg (nI_pos (by omega)), if_pos (show nI i < 4 from nI_lt (b := 4) (by omega) (by decide)), inb_nI hh (by decide), el62, l1, obs, inb_nI hh (by decide), el62, e1, obs]
    refine ⟨_, S2, S4, rfl, ?_, Inv_fr (Inv_fr (Inv_fr (Inv_fr hI (l4.mono (by decide) (by simp))) (e2.mono (by decide) (by simp))) (q3.mono (by decide) (by simp))) (u2.mono (by decide) (by decide))⟩
    rw [r0, obs, if_neg (by decide), r1, obs, if_neg (by decide), q1, obs, u1]
theorem pf_bettiAt : PF_bettiAt Inv := by
  intro pr S a0 a1 a2 hI
  unfold mX10_bettiAt mX11_bettiAt
  rcases ideal_cases a0 with ⟨c0, r0⟩ | ⟨h, hh, rfl, c0, r0⟩
  · rw [c0, obs]
    exact ⟨-1, S, S, if_pos rfl, by rw [r0, obs, if_pos rfl], hI⟩
  rw [c0, obs, if_neg (by decide)]
  rcases four_cases a1 with ⟨h1, r1⟩ | ⟨i, hi, rfl, r1⟩
  · refine ⟨-2, S, S, ?_, by rw [r0, obs, if_neg (by decide), r1, obs, if_pos rfl], hI⟩
    rcases h1 with h1 | h1
    · rw [if_pos h1]
    · by_cases hn : a1 < 0
      · rw [if_pos hn]
      · rw [if_neg hn]
        rcases arg a1 with ha | ⟨j, hj, rfl⟩
        · exact absurd ha hn
        · have : ¬ j < 4 := fun z => h1 (nI_lt (b := 4) z (by decide))
          rw [if_pos (show (4 : Int32) ≤ nI j from nI_le (a := 4) (by omega) hj)]
  · rw [if_neg (nI_pos (by omega)), if_neg (show ¬ (4 : Int32) ≤ nI i from nI_ge (b := 4) (by omega) (by decide))]
    rcases code_cases a2 with ⟨c2, r2⟩ | ⟨p, hp, rfl, c2, r2⟩
    · rw [c2, obs]
      exact ⟨-2, S, S, if_pos rfl, by rw [r0, obs, if_neg (by decide), r1, obs, if_neg (by decide), r2, obs, if_pos rfl], hI⟩
    · obtain ⟨G, g1, g2, g3⟩ := hI.2.1 h (by omega)
      obtain ⟨S1, H, l1, l2, l3, l4⟩ := look_spec (m := 65 + 2 * h) (by omega) g3 g1.1 g1.2.1
      obtain ⟨S2, e1, e2⟩ := choles_spec (S := S1) (m := 65 + 2 * h) (p := p) hp hi (cG_fr g3 l4 (by simp; omega) (by simp)) g1.1 g1.2.1 l2 l3
      obtain ⟨S3, q1, q2, q3⟩ := findLattice_spec (S := S2) (h := h) (by omega) (mG_fr (mG_fr g2 l4 (by decide) (by decide)) e2 (by decide) (by decide)) g1.1 g1.2.1
      have f3 := Inv_fr (Inv_fr (Inv_fr hI (l4.mono (by decide) (by simp))) (e2.mono (by decide) (by simp))) (q3.mono (by decide) (by simp))
      rw [c2, obs, if_neg (by decide), inb_nI hh (by decide), el62, l1, obs, inb_nI hh (by decide), el62, ofCode_spec hp, obs, e1, obs]
      cases hlt : ltB G p with
      | false =>
        refine ⟨_, S2, S3, rfl, ?_, f3⟩
        rw [r0, obs, if_neg (by decide), r1, obs, if_neg (by decide), r2, obs, if_neg (by decide), q1, obs, placeOf_spec hp, obs, inb_nI hp (by decide), q2 p hp, hlt]
        rfl
      | true =>
        obtain ⟨S4, u1, u2⟩ := rholes_spec (S := S3) (h := h) (by omega) hp hi (mG_fr (mG_fr (mG_fr g2 l4 (by decide) (by decide)) e2 (by decide) (by decide)) q3 (by decide) (by decide)) g1.1 g1.2.1
        refine ⟨_, S2, S4, rfl, ?_, Inv_fr f3 (u2.mono (by decide) (by decide))⟩
        rw [r0, obs, if_neg (by decide), r1, obs, if_neg (by decide), r2, obs, if_neg (by decide), q1, obs, placeOf_spec hp, obs, inb_nI hp (by decide), q2 p hp, hlt, if_neg (by decide), u1, obs]
        rfl
