/-! PURE PART: arguments, the invariant -/
theorem cmp_lt0 (x y : Int64) : (lg_cmp x y < 0) = (x.toInt < y.toInt) := propext ((lg_cmp_lt x y).trans Int64.lt_iff_toInt_lt)
theorem cmp_gt0 (x y : Int64) : (0 < lg_cmp x y) = (y.toInt < x.toInt) := propext ((lg_cmp_gt x y).trans Int64.lt_iff_toInt_lt)
theorem in_spec (x l h : Int64) : mX11_in x l h = some (b2 (decide (l.toInt ≤ x.toInt) && decide (x.toInt ≤ h.toInt))) := by
  unfold mX11_in
  simp only [cmp_lt0, cmp_gt0]
  by_cases h1 : x.toInt < l.toInt
  · rw [if_pos h1, decide_eq_false (by omega)]
    rfl
  · rw [if_neg h1, decide_eq_true (by omega : l.toInt ≤ x.toInt)]
    by_cases h2 : h.toInt < x.toInt
    · rw [if_pos h2, decide_eq_false (by omega)]
      rfl
    · rw [if_neg h2, decide_eq_true (by omega : x.toInt ≤ h.toInt)]
      rfl
theorem in_nI {j l h : Nat} (hj : j < 2 ^ 31) (hl : l < 2 ^ 31) (hh : h < 2 ^ 31) : mX11_in (nI j).toInt64 (lN l) (lN h) = some (b2 (decide (l ≤ j) && decide (j ≤ h))) := by
  rw [in_spec, Int32.toInt_toInt64, nI_toInt hj, lN_toInt hl, lN_toInt hh]
  simp only [Int.ofNat_le]
theorem in_neg {a : Int32} {l : Nat} {h : Int64} (ha : a < 0) (hl : l < 2 ^ 31) : mX11_in a.toInt64 (lN l) h = some (b2 false) := by
  rw [Int32.lt_iff_toInt_lt, show (0 : Int32).toInt = 0 from by decide] at ha
  rw [in_spec, Int32.toInt_toInt64, lN_toInt hl, decide_eq_false (by omega)]
  rfl
/-- an int, as the calls take it: below 0, or a natural -/
theorem arg (a : Int32) : a < 0 ∨ ∃ j, j < 2 ^ 31 ∧ a = nI j := by
  by_cases h : a < 0
  · exact Or.inl h
  · exact Or.inr (nI_of h)
theorem neg_ne {a : Int32} {j : Nat} (ha : a < 0) (hj : j < 2 ^ 31) : ¬ a = nI j := fun e => nI_pos hj (e ▸ ha)
theorem ideal_cases (a : Int32) : (mX10_isIdeal a = some 0 ∧ mX11_isIdeal a = some 0) ∨ ∃ h, h < 4 ∧ a = nI h ∧ mX10_isIdeal a = some 1 ∧ mX11_isIdeal a = some 1 := by
  rcases arg a with ha | ⟨j, hj, rfl⟩
  · refine Or.inl ⟨if_pos ha, ?_⟩
    unfold mX11_isIdeal
    rw [show (0 : Int64) = lN 0 from rfl, in_neg ha (by decide), obs, zbg_b2]
    rfl
  · have h1 : mX11_isIdeal (nI j) = some (b2 (decide (j < 4))) := by
      unfold mX11_isIdeal
      rw [show (0 : Int64) = lN 0 from rfl, show (3 : Int64) = lN 3 from rfl, in_nI hj (by decide) (by decide), obs, zbg_b2, decide_eq_true (Nat.zero_le j), Bool.true_and]
      refine congrArg (fun z => some (b2 z)) ?_
      by_cases h : j ≤ 3
      · rw [decide_eq_true h, decide_eq_true (by omega)]
      · rw [decide_eq_false h, decide_eq_false (by omega)]
    have h2 : mX10_isIdeal (nI j) = some (b2 (decide (j < 4))) := by
      unfold mX10_isIdeal
      rw [if_neg (nI_pos hj), show (4 : Int32) = nI 4 from rfl]
      simp only [nI_leI' (show 4 < 2 ^ 31 by decide) hj]
      by_cases h : 4 ≤ j
      · rw [if_pos h, decide_eq_false (by omega)]
        rfl
      · rw [if_neg h, decide_eq_true (by omega)]
        rfl
    by_cases h : j < 4
    · rw [decide_eq_true h] at h1 h2
      exact Or.inr ⟨j, h, rfl, h2, h1⟩
    · rw [decide_eq_false h] at h1 h2
      exact Or.inl ⟨h2, h1⟩
theorem place_cases (a b : Int32) : (mX10_isPlace a b = some 0 ∧ mX11_isPlace a b = some 0) ∨ ∃ x y, x < 3 ∧ y < 4 ∧ a = nI x ∧ b = nI y ∧ mX10_isPlace a b = some 1 ∧ mX11_isPlace a b = some 1 := by
  rcases arg a with ha | ⟨j, hj, rfl⟩
  · refine Or.inl ⟨if_pos ha, ?_⟩
    unfold mX11_isPlace
    rw [show (0 : Int64) = lN 0 from rfl, in_neg ha (by decide), obs]
    rfl
  · have e0 : ∀ x : Int64, (0 : Int64) = lN 0 := fun _ => rfl
    by_cases h3 : j < 3
    · rcases arg b with hb | ⟨k, hk, rfl⟩
      · refine Or.inl ⟨?_, ?_⟩
        · unfold mX10_isPlace
          rw [if_neg (nI_pos hj), if_neg (show ¬ (3 : Int32) ≤ nI j from nI_ge (a := j) (b := 3) h3 (by decide)), if_pos hb]
        · unfold mX11_isPlace
          rw [show (0 : Int64) = lN 0 from rfl, show (2 : Int64) = lN 2 from rfl, in_nI hj (by decide) (by decide), obs, decide_eq_true (Nat.zero_le j), decide_eq_true (by omega : j ≤ 2), in_neg hb (by decide), obs]
          rfl
      · by_cases h4 : k < 4
        · refine Or.inr ⟨j, k, h3, h4, rfl, rfl, ?_, ?_⟩
          · unfold mX10_isPlace
            rw [if_neg (nI_pos hj), if_neg (show ¬ (3 : Int32) ≤ nI j from nI_ge (a := j) (b := 3) h3 (by decide)), if_neg (nI_pos hk), if_neg (show ¬ (4 : Int32) ≤ nI k from nI_ge (a := k) (b := 4) h4 (by decide))]
          · unfold mX11_isPlace
            rw [show (0 : Int64) = lN 0 from rfl, show (2 : Int64) = lN 2 from rfl, show (3 : Int64) = lN 3 from rfl, in_nI hj (by decide) (by decide), obs, decide_eq_true (Nat.zero_le j), decide_eq_true (by omega : j ≤ 2), in_nI hk (by decide) (by decide), obs, decide_eq_true (Nat.zero_le k), decide_eq_true (by omega : k ≤ 3)]
            rfl
        · refine Or.inl ⟨?_, ?_⟩
          · unfold mX10_isPlace
            rw [if_neg (nI_pos hj), if_neg (show ¬ (3 : Int32) ≤ nI j from nI_ge (a := j) (b := 3) h3 (by decide)), if_neg (nI_pos hk), if_pos (show (4 : Int32) ≤ nI k from nI_le (a := 4) (by omega) hk)]
          · unfold mX11_isPlace
            rw [show (0 : Int64) = lN 0 from rfl, show (2 : Int64) = lN 2 from rfl, show (3 : Int64) = lN 3 from rfl, in_nI hj (by decide) (by decide), obs, decide_eq_true (Nat.zero_le j), decide_eq_true (by omega : j ≤ 2), in_nI hk (by decide) (by decide), obs, decide_eq_true (Nat.zero_le k), decide_eq_false (by omega : ¬ k ≤ 3)]
            rfl
    · refine Or.inl ⟨?_, ?_⟩
      · unfold mX10_isPlace
        rw [if_neg (nI_pos hj), if_pos (show (3 : Int32) ≤ nI j from nI_le (a := 3) (by omega) hj)]
      · unfold mX11_isPlace
        rw [show (0 : Int64) = lN 0 from rfl, show (2 : Int64) = lN 2 from rfl, in_nI hj (by decide) (by decide), obs, decide_eq_true (Nat.zero_le j), decide_eq_false (by omega : ¬ j ≤ 2)]
        rfl
/-- a node of the class has the list G -/
def cG (S : St) (n : Nat) (G : List Nat) : Prop := gI S n 1 = nI G.length ∧ ∀ i, i < G.length → gA S (n + 1) i = nI (hexN (G.getD i 0))
/-- image j of the reference has, at h, the list G -/
def kG (S : St) (j h : Nat) (G : List Nat) : Prop := gA S 16 (680 * j + 640 + h) = nI G.length ∧ ∀ i, i < G.length → gA S 16 (680 * j + 40 * h + i) = nI (decN (G.getD i 0))
def InvP (S : St) : Prop := ∃ p, p ≤ 60 ∧ gI S 0 5 = nI p ∧ gI S 19 2 = nI p ∧ ∀ i, i < p → ∃ c, 33 ≤ c ∧ c ≤ 126 ∧ gA S 5 i = nI c ∧ gA S 21 i = nI c
def InvH (S : St) : Prop := ∀ h, h < 16 → ∃ G, okG G ∧ mG S h G ∧ cG S (65 + 2 * h) G
def InvK (S : St) : Prop := ∀ t, t < 12 → ∃ k, k ≤ 2 ∧ gA S 3 t = nI k ∧ gA S 64 t = nI k
def InvJ (pr : Nat → Bool) (S : St) : Prop := (∀ j, j < 2 → gA S 17 j = b2 (pr j)) ∧ ∀ j, j < 2 → pr j = true → (∀ h, h < 16 → ∃ G, okG G ∧ kG S j h G ∧ cG S (101 + 36 * j + 2 * h) G) ∧ ∀ t, t < 12 → ∃ k, k ≤ 2 ∧ gA S 16 (680 * j + 656 + t) = nI k ∧ gA S (100 + 36 * j) t = nI k
def Inv (pr : Nat → Bool) (S : St) : Prop := InvP S ∧ InvH S ∧ InvK S ∧ InvJ pr S
def scA : List Nat := [4, 6, 7, 8, 9, 10, 11, 12, 13, 14, 15, 20, 25, 27, 30, 31, 32, 33, 34, 35, 36, 37, 38, 39, 40, 41, 42, 43, 44, 45, 46, 47, 48, 49, 50, 51, 52, 53, 54, 56, 58, 60]
def scK : List (Nat × Nat) := [(0, 7), (0, 8), (0, 10), (0, 13), (0, 17), (0, 19), (0, 20), (0, 21), (0, 23), (0, 26), (0, 29), (0, 30), (19, 1), (19, 4), (19, 5), (19, 6), (28, 0), (28, 1)]
theorem scA_hi {m : Nat} (h : 60 < m) : m ∉ scA := fun z => by
  have := (by decide : ∀ x ∈ scA, x ≤ 60) m z
  omega
theorem scK_hi {m k : Nat} (h : 28 < m) : (m, k) ∉ scK := fun z => by
  have := (by decide : ∀ x ∈ scK, x.1 ≤ 28) (m, k) z
  have : m ≤ 28 := this
  omega
/-- what a call that sets the ideal h may change -/
def FrH (h : Nat) (S S1 : St) : Prop := (∀ m, m ∉ scA → m ≠ 1 → m ≠ 2 → m ≠ 66 + 2 * h → gA S1 m = gA S m) ∧ (∀ m k, (m, k) ∉ scK → m ≠ 65 + 2 * h → gI S1 m k = gI S m k) ∧ (∀ x, (x < 40 * h ∨ 40 * h + 40 ≤ x) → gA S1 1 x = gA S 1 x) ∧ ∀ x, x ≠ h → gA S1 2 x = gA S 2 x
theorem FrH.trans {h : Nat} {S S1 S2 : St} (a : FrH h S S1) (b : FrH h S1 S2) : FrH h S S2 := ⟨fun m h1 h2 h3 h4 => (b.1 m h1 h2 h3 h4).trans (a.1 m h1 h2 h3 h4), fun m k h1 h2 => (b.2.1 m k h1 h2).trans (a.2.1 m k h1 h2), fun x hx => (b.2.2.1 x hx).trans (a.2.2.1 x hx), fun x hx => (b.2.2.2 x hx).trans (a.2.2.2 x hx)⟩
theorem FrH.of_Fr {h : Nat} {S S1 : St} (a : Fr scA scK S S1) : FrH h S S1 := ⟨fun m h1 _ _ _ => a.1 m h1, fun m k h1 _ => a.2 m k h1, fun _ _ => by rw [a.1 1 (by decide)], fun _ _ => by rw [a.1 2 (by decide)]⟩
theorem FrH.of_keep {h : Nat} {S S1 : St} (a : keepF S S1 h) : FrH h S S1 := ⟨fun m _ h2 h3 _ => a.1 m h2 h3, fun m k _ _ => a.2.1 m k, a.2.2.1, a.2.2.2⟩
theorem Inv_set {pr : Nat → Bool} {h : Nat} {S S1 : St} {G : List Nat} (hI : Inv pr S) (hh : h < 16) (hF : FrH h S S1) (hG : okG G) (hm : mG S1 h G) (hc : cG S1 (65 + 2 * h) G) : Inv pr S1 := by
  obtain ⟨⟨p, p1, p2, p3, p4⟩, iH, iK, iJ1, iJ2⟩ := hI
  have eA : ∀ m, m ∉ scA → m ≠ 1 → m ≠ 2 → m ≤ 65 ∨ 97 ≤ m → gA S1 m = gA S m := fun m h1 h2 h3 h4 => hF.1 m h1 h2 h3 (by omega)
  refine ⟨⟨p, p1, (hF.2.1 0 5 (by decide) (by omega)).trans p2, (hF.2.1 19 2 (by decide) (by omega)).trans p3, fun i hi => ?_⟩, fun x hx => ?_, fun t ht => ?_, fun j hj => ?_, fun j hj hp => ⟨fun x hx => ?_, fun t ht => ?_⟩⟩
  · obtain ⟨c, c1, c2, c3, c4⟩ := p4 i hi
    exact ⟨c, c1, c2, by rw [eA 5 (by decide) (by decide) (by decide) (by decide)]; exact c3, by rw [eA 21 (by decide) (by decide) (by decide) (by decide)]; exact c4⟩
  · by_cases hxh : x = h
    · subst hxh
      exact ⟨G, hG, hm, hc⟩
    · obtain ⟨G1, g1, g2, g3⟩ := iH x hx
      have hl := g1.1
      refine ⟨G1, g1, ⟨(hF.2.2.2 x hxh).trans g2.1, fun i hi => (hF.2.2.1 _ (by omega)).trans (g2.2 i hi)⟩, (hF.2.1 _ 1 (scK_hi (by omega)) (by omega)).trans g3.1, fun i hi => ?_⟩
      rw [hF.1 _ (scA_hi (by omega)) (by omega) (by omega) (by omega)]
      exact g3.2 i hi
  · obtain ⟨k, k1, k2, k3⟩ := iK t ht
    exact ⟨k, k1, by rw [eA 3 (by decide) (by decide) (by decide) (by decide)]; exact k2, by rw [eA 64 (by decide) (by decide) (by decide) (by decide)]; exact k3⟩
  · rw [eA 17 (by decide) (by decide) (by decide) (by decide)]
    exact iJ1 j hj
  · obtain ⟨G1, g1, g2, g3⟩ := (iJ2 j hj hp).1 x hx
    refine ⟨G1, g1, ⟨?_, fun i hi => ?_⟩, (hF.2.1 _ 1 (scK_hi (by omega)) (by omega)).trans g3.1, fun i hi => ?_⟩
    · rw [eA 16 (by decide) (by decide) (by decide) (by decide)]
      exact g2.1
    · rw [eA 16 (by decide) (by decide) (by decide) (by decide)]
      exact g2.2 i hi
    · rw [eA _ (scA_hi (by omega)) (by omega) (by omega) (by omega)]
      exact g3.2 i hi
  · obtain ⟨k, k1, k2, k3⟩ := (iJ2 j hj hp).2 t ht
    exact ⟨k, k1, by rw [eA 16 (by decide) (by decide) (by decide) (by decide)]; exact k2, by rw [eA _ (scA_hi (by omega)) (by omega) (by omega) (by omega)]; exact k3⟩
theorem Inv_fr {pr : Nat → Bool} {S S1 : St} (hI : Inv pr S) (hF : Fr scA scK S S1) : Inv pr S1 := by
  obtain ⟨G, g1, g2, g3⟩ := hI.2.1 0 (by decide)
  refine Inv_set (h := 0) (G := G) hI (by decide) (FrH.of_Fr hF) g1 ⟨?_, fun i hi => ?_⟩ ⟨?_, fun i hi => ?_⟩
  · rw [hF.1 2 (by decide)]
    exact g2.1
  · rw [hF.1 1 (by decide)]
    exact g2.2 i hi
  · rw [hF.2 _ 1 (scK_hi (by decide))]
    exact g3.1
  · rw [hF.1 _ (scA_hi (by decide))]
    exact g3.2 i hi
