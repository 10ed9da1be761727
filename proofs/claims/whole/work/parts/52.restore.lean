/-! PURE PART: image, restore -/
def PA (S S1 : St) (pos : Nat) (o : Bool) : Prop := (∀ m, m ≠ 1 → m ≠ 2 → m ≠ 3 → m ≠ 16 → gA S1 m = gA S m) ∧ (∀ m k, k ≠ 29 → gI S1 m k = gI S m k) ∧ (o = true → (∀ x, gA S1 1 x = gA S 1 x) ∧ (∀ x, gA S1 2 x = gA S 2 x) ∧ (∀ x, gA S1 3 x = gA S 3 x) ∧ (∀ x, x < 640 → gA S1 16 (pos + x) = gA S 1 x) ∧ (∀ x, x < 16 → gA S1 16 (pos + 640 + x) = gA S 2 x) ∧ (∀ x, x < 12 → gA S1 16 (pos + 656 + x) = gA S 3 x) ∧ ∀ x, (x < pos ∨ pos + 668 ≤ x) → gA S1 16 x = gA S 16 x) ∧ (o = false → (∀ x, gA S1 16 x = gA S 16 x) ∧ (∀ x, x < 640 → gA S1 1 x = gA S 16 (pos + x)) ∧ (∀ x, x < 16 → gA S1 2 x = gA S 16 (pos + 640 + x)) ∧ ∀ x, x < 12 → gA S1 3 x = gA S 16 (pos + 656 + x))
theorem passAll_spec {S : St} {pos : Nat} {o : Bool} (hp : gI S 0 29 = nI pos) (hf : gI S 0 30 = b2 o) (hb : pos + 668 ≤ 1360) : ∃ S1, mX11_passAll S = some S1 ∧ PA S S1 pos o := by
  obtain ⟨T1, t1, a1, a2, a3, a4, a5, a6⟩ := passRow_spec (n0 := 1) (L := 640) (by decide) rfl hp hf (by omega)
  obtain ⟨T2, t2, b1, b2', b3, b4, b5, b6⟩ := passRow_spec (n0 := 2) (L := 16) (by decide) rfl a1 a2 (by omega)
  obtain ⟨T3, t3, c1, c2, c3, c4, c5, c6⟩ := passRow_spec (n0 := 3) (L := 12) (by decide) rfl b1 b2' (by omega)
  refine ⟨T3, ?_, fun m m1 m2 m3 m16 => ?_, fun m k hk => ?_, fun ho => ?_, fun ho => ?_⟩
  · unfold mX11_passAll
    rw [show (640 : Int32) = nI 640 from rfl, show (16 : Int32) = nI 16 from rfl, show (12 : Int32) = nI 12 from rfl, t1, obs, t2, obs, t3, obs]
  · rw [c3 m m16 m3, b3 m m16 m2, a3 m m16 m1]
  · rw [c6 m k hk, b6 m k hk, a6 m k hk]
  · subst ho
    have nf : ∀ {P : Prop}, ¬ (true = false ∧ P) := fun z => absurd z.1 (by decide)
    refine ⟨fun x => ?_, fun x => ?_, fun x => ?_, fun x hx => ?_, fun x hx => ?_, fun x hx => ?_, fun x hx => ?_⟩
    · rw [c3 1 (by decide) (by decide), b3 1 (by decide) (by decide), a4, if_neg nf]
    · rw [c3 2 (by decide) (by decide), b4, if_neg nf, a3 2 (by decide) (by decide)]
    · rw [c4, if_neg nf, b3 3 (by decide) (by decide), a3 3 (by decide) (by decide)]
    · rw [c5, if_neg (fun z => by omega), b5, if_neg (fun z => by omega), a5, if_pos ⟨rfl, by omega, by omega⟩, show pos + x - pos = x by omega]
    · rw [c5, if_neg (fun z => by omega), b5, if_pos ⟨rfl, by omega, by omega⟩, show pos + 640 + x - (pos + 640) = x by omega, a3 2 (by decide) (by decide)]
    · rw [c5, if_pos ⟨rfl, by omega, by omega⟩, show pos + 656 + x - (pos + 640 + 16) = x by omega, b3 3 (by decide) (by decide), a3 3 (by decide) (by decide)]
    · rw [c5, if_neg (fun z => by omega), b5, if_neg (fun z => by omega), a5, if_neg (fun z => by omega)]
  · subst ho
    have nf : ∀ {P : Prop}, ¬ (false = true ∧ P) := fun z => absurd z.1 (by decide)
    refine ⟨fun x => ?_, fun x hx => ?_, fun x hx => ?_, fun x hx => ?_⟩
    · rw [c5, if_neg nf, b5, if_neg nf, a5, if_neg nf]
    · rw [c3 1 (by decide) (by decide), b3 1 (by decide) (by decide), a4, if_pos ⟨rfl, hx⟩]
    · rw [c3 2 (by decide) (by decide), b4, if_pos ⟨rfl, hx⟩, a5, if_neg nf]
    · rw [c4, if_pos ⟨rfl, hx⟩, b5, if_neg nf, a5, if_neg nf]
theorem clr_A {S : St} {j m : Nat} (h : m < 97 + 36 * j ∨ 133 + 36 * j ≤ m) : gA (clr S j) m = gA S m := by
  show (if blk j m then fun _ => 0 else S.2.1 m) = S.2.1 m
  rw [if_neg]
  intro z
  have z := (Bool.and_eq_true _ _).mp z
  have z1 := Nat.le_of_ble_eq_true z.1
  have z2 := Nat.le_of_ble_eq_true z.2
  omega
theorem clr_I {S : St} {j m k : Nat} (h : m < 97 + 36 * j ∨ 133 + 36 * j ≤ m) : gI (clr S j) m k = gI S m k := by
  show (if blk j m then fun _ => 0 else S.1 m) k = S.1 m k
  rw [if_neg]
  intro z
  have z := (Bool.and_eq_true _ _).mp z
  have z1 := Nat.le_of_ble_eq_true z.1
  have z2 := Nat.le_of_ble_eq_true z.2
  omega
theorem image_bad {S : St} {a0 : Int32} (h : a0 < 0 ∨ ¬ a0 < 2) : mX11_in a0.toInt64 0 1 = some (b2 false) := by
  rcases arg a0 with ha | ⟨c, hc, rfl⟩
  · exact in_neg (l := 0) ha (by decide)
  · have hc2 : 2 ≤ c := by
      rcases h with z | z
      · exact absurd z (nI_pos hc)
      · rcases Nat.lt_or_ge c 2 with y | y
        · exact absurd (show nI c < 2 from nI_lt (b := 2) y (by decide)) z
        · exact y
    have : mX11_in (nI c).toInt64 0 1 = some (b2 (decide (0 ≤ c) && decide (c ≤ 1))) := in_nI (l := 0) (h := 1) hc (by decide) (by decide)
    rw [this, decide_eq_false (by omega : ¬ c ≤ 1), Bool.and_false]
theorem image_good {j : Nat} (hj : j < 2) : mX11_in (nI j).toInt64 0 1 = some (b2 true) := by
  have : mX11_in (nI j).toInt64 0 1 = some (b2 (decide (0 ≤ j) && decide (j ≤ 1))) := in_nI (l := 0) (h := 1) (by omega) (by decide) (by decide)
  rw [this, decide_eq_true (Nat.zero_le j), decide_eq_true (by omega : j ≤ 1)]
  rfl
theorem pf_image : PF_image Inv := by
  intro pr S a0 hI
  refine ⟨fun h => ⟨S, ?_, hI⟩, fun j hj e => ?_⟩
  · unfold mX11_image
    rw [image_bad (S := S) h, obs]
    rfl
  · subst e
    obtain ⟨⟨p, p1, p2, p3, p4⟩, iH, iK, iJ1, iJ2⟩ := hI
    generalize hT : (if pr j = true then S else clr S j) = T
    have tA : ∀ m, (m < 97 + 36 * j ∨ 133 + 36 * j ≤ m) → gA T m = gA S m := fun m hm => by
      rw [← hT]
      split
      · rfl
      · exact clr_A hm
    have tI : ∀ m k, (m < 97 + 36 * j ∨ 133 + 36 * j ≤ m) → gI T m k = gI S m k := fun m k hm => by
      rw [← hT]
      split
      · rfl
      · exact clr_I hm
    obtain ⟨S1, s1, d1, d2, d3, d4⟩ := copyAll (T := T) (a := j + 1) (b := 0) (by omega)
    obtain ⟨R, r1, q1, q2, q3, -⟩ := passAll_spec (S := sI (sI S1 0 29 (680 * nI j)) 0 30 1) (pos := 680 * j) (o := true) (by rw [gI_sI_k (by decide), gI_sI_same, show (680 : Int32) = nI 680 from rfl, nI_mul]) (by rw [gI_sI_same]; rfl) (by omega)
    obtain ⟨q4, q5, q6, q7, q8, q9, q10⟩ := q3 rfl
    simp only [gA_sI] at q1 q4 q5 q6 q7 q8 q9 q10
    refine ⟨S1, sA R 17 j 1, ?_, ?_, ?_⟩
    · rw [show 97 + 36 * j = 61 + 36 * (j + 1) by omega]
      exact s1
    · unfold mX11_image
      rw [image_good hj, obs, if_neg (by decide), r1, obs, inb_nI hj (by decide)]
    · have eA : ∀ m, m ≠ 1 → m ≠ 2 → m ≠ 3 → m ≠ 16 → m ≠ 17 → (m < 97 + 36 * j ∨ 133 + 36 * j ≤ m) → gA (sA R 17 j 1) m = gA S m := fun m h1 h2 h3 h16 h17 hm => by
        rw [gA_sA_ne h17, q1 m h1 h2 h3 h16, d3 m (by omega), tA m hm]
      have eI : ∀ m k, k ≠ 29 → k ≠ 30 → (m < 97 + 36 * j ∨ 133 + 36 * j ≤ m) → gI (sA R 17 j 1) m k = gI S m k := fun m k h1 h2 hm => by
        rw [gI_sA, q2 m k h1]
        by_cases hm0 : m = 0
        · subst hm0
          rw [gI_sI_k h2, gI_sI_k h1, d4 0 k (by omega), tI 0 k (by omega)]
        · rw [gI_sI_ne hm0, gI_sI_ne hm0, d4 m k (by omega), tI m k hm]
      have e1 : ∀ x, gA (sA R 17 j 1) 1 x = gA S 1 x := fun x => by rw [gA_sA_ne (by decide), q4, d3 1 (by omega), tA 1 (by omega)]
      have e2 : ∀ x, gA (sA R 17 j 1) 2 x = gA S 2 x := fun x => by rw [gA_sA_ne (by decide), q5, d3 2 (by omega), tA 2 (by omega)]
      have e3 : ∀ x, gA (sA R 17 j 1) 3 x = gA S 3 x := fun x => by rw [gA_sA_ne (by decide), q6, d3 3 (by omega), tA 3 (by omega)]
      refine ⟨⟨p, p1, (eI 0 5 (by decide) (by decide) (by omega)).trans p2, (eI 19 2 (by decide) (by decide) (by omega)).trans p3, fun i hi => ?_⟩, fun x hx => ?_, fun t ht => ?_, fun y hy => ?_, fun y hy hp => ?_⟩
      · obtain ⟨c, c1, c2, c3, c4⟩ := p4 i hi
        exact ⟨c, c1, c2, by rw [eA 5 (by decide) (by decide) (by decide) (by decide) (by decide) (by omega)]; exact c3, by rw [eA 21 (by decide) (by decide) (by decide) (by decide) (by decide) (by omega)]; exact c4⟩
      · obtain ⟨G1, g1, g2, g3⟩ := iH x hx
        refine ⟨G1, g1, ⟨(e2 x).trans g2.1, fun i hi => (e1 _).trans (g2.2 i hi)⟩, (eI _ 1 (by decide) (by decide) (by omega)).trans g3.1, fun i hi => ?_⟩
        rw [eA _ (by omega) (by omega) (by omega) (by omega) (by omega) (by omega)]
        exact g3.2 i hi
      · obtain ⟨k, k1, k2, k3⟩ := iK t ht
        refine ⟨k, k1, (e3 t).trans k2, ?_⟩
        rw [eA 64 (by decide) (by decide) (by decide) (by decide) (by decide) (by omega)]
        exact k3
      · show _ = b2 (if y = j then true else pr y)
        rw [gA_sA_same]
        by_cases hyj : y = j
        · rw [if_pos hyj, hyj, upd_at]
          rfl
        · rw [if_neg hyj, upd_ne hyj, q1 17 (by decide) (by decide) (by decide) (by decide), d3 17 (by omega), tA 17 (by omega)]
          exact iJ1 y hy
      · by_cases hyj : y = j
        · subst hyj
          refine ⟨fun x hx => ?_, fun t ht => ?_⟩
          · obtain ⟨G1, g1, g2, g3⟩ := iH x hx
            have hl := g1.1
            have gT : cG T (65 + 36 * 0 + 2 * x) G1 := ⟨(tI _ 1 (by omega)).trans g3.1, fun i hi => by
              rw [tA _ (by omega)]
              exact g3.2 i hi⟩
            have gU := d1 x hx G1 hl gT
            rw [show 65 + 36 * (y + 1) + 2 * x = 101 + 36 * y + 2 * x by omega] at gU
            refine ⟨G1, g1, ⟨?_, fun i hi => ?_⟩, ?_, fun i hi => ?_⟩
            · rw [gA_sA_ne (by decide), q8 x hx, d3 2 (by omega), tA 2 (by omega)]
              exact g2.1
            · rw [gA_sA_ne (by decide), show 680 * y + 40 * x + i = 680 * y + (40 * x + i) by omega, q7 _ (by omega), d3 1 (by omega), tA 1 (by omega)]
              exact g2.2 i hi
            · rw [gI_sA, q2 _ 1 (by decide), gI_sI_ne (by omega), gI_sI_ne (by omega)]
              exact gU.1
            · rw [gA_sA_ne (by omega), q1 _ (by omega) (by omega) (by omega) (by omega)]
              exact gU.2 i hi
          · obtain ⟨k, k1, k2, k3⟩ := iK t ht
            refine ⟨k, k1, ?_, ?_⟩
            · rw [gA_sA_ne (by decide), q9 t ht, d3 3 (by omega), tA 3 (by omega)]
              exact k2
            · have := d2 t ht
              rw [show 64 + 36 * (y + 1) = 100 + 36 * y by omega, show 64 + 36 * 0 = 64 by omega, tA 64 (by omega), k3] at this
              rw [gA_sA_ne (by omega), q1 _ (by omega) (by omega) (by omega) (by omega)]
              exact this
        · have hp : (if y = j then true else pr y) = true := hp
          rw [if_neg hyj] at hp
          have e16 : ∀ x, 680 * y ≤ x → x < 680 * y + 668 → gA (sA R 17 j 1) 16 x = gA S 16 x := fun x h1 h2 => by
            rw [gA_sA_ne (by decide), q10 x (by omega), d3 16 (by omega), tA 16 (by omega)]
          refine ⟨fun x hx => ?_, fun t ht => ?_⟩
          · obtain ⟨G1, g1, g2, g3⟩ := (iJ2 y hy hp).1 x hx
            have hl := g1.1
            refine ⟨G1, g1, ⟨(e16 _ (by omega) (by omega)).trans g2.1, fun i hi => (e16 _ (by omega) (by omega)).trans (g2.2 i hi)⟩, (eI _ 1 (by decide) (by decide) (by omega)).trans g3.1, fun i hi => ?_⟩
            rw [eA _ (by omega) (by omega) (by omega) (by omega) (by omega) (by omega)]
            exact g3.2 i hi
          · obtain ⟨k, k1, k2, k3⟩ := (iJ2 y hy hp).2 t ht
            refine ⟨k, k1, (e16 _ (by omega) (by omega)).trans k2, ?_⟩
            rw [eA _ (by omega) (by omega) (by omega) (by omega) (by omega) (by omega)]
            exact k3
theorem pf_restore : PF_restore Inv := by
  intro pr S a0 hI
  by_cases hb : a0 < 0 ∨ ¬ a0 < 2
  · refine ⟨-2, S, S, ?_, ?_, hI⟩
    · unfold mX10_restore
      by_cases h0 : a0 < 0
      · rw [if_pos h0]
      · rw [if_neg h0, if_neg (hb.resolve_left h0)]
    · unfold mX11_restore
      rw [image_bad (S := S) hb, obs]
      rfl
  · obtain ⟨j, hj, rfl⟩ : ∃ j, j < 2 ∧ a0 = nI j := by
      rcases arg a0 with ha | ⟨c, hc, rfl⟩
      · exact absurd (Or.inl ha) hb
      · refine ⟨c, ?_, rfl⟩
        rcases Nat.lt_or_ge c 2 with y | y
        · exact y
        · exact absurd (Or.inr (show ¬ nI c < 2 from nI_nlt (b := 2) y hc)) hb
    have n1 : ¬ nI j < 0 := fun z => hb (Or.inl z)
    have n2 : nI j < 2 := nI_lt (b := 2) hj (by decide)
    have hI0 := hI
    obtain ⟨⟨p, p1, p2, p3, p4⟩, iH, iK, iJ1, iJ2⟩ := hI
    unfold mX10_restore
    rw [if_neg n1, if_pos n2, inb_nI hj (by decide)]
    cases hp : pr j with
    | false =>
      refine ⟨-3, S, S, by rw [if_neg (by decide)], ?_, hI0⟩
      unfold mX11_restore
      rw [image_good hj, obs, if_neg (by decide), inb_nI hj (by decide), iJ1 j hj, hp]
      rfl
    | true =>
      obtain ⟨S1, s1, d1, d2, d3, d4⟩ := copyAll (T := S) (a := 0) (b := j + 1) (by omega)
      obtain ⟨R, r1, q1, q2, -, q3⟩ := passAll_spec (S := sI (sI S1 0 29 (680 * nI j)) 0 30 0) (pos := 680 * j) (o := false) (by rw [gI_sI_k (by decide), gI_sI_same, show (680 : Int32) = nI 680 from rfl, nI_mul]) (by rw [gI_sI_same]; rfl) (by omega)
      obtain ⟨q4, q5, q6, q7⟩ := q3 rfl
      simp only [gA_sI] at q1 q4 q5 q6 q7
      refine ⟨1, S1, R, ?_, ?_, ?_⟩
      · rw [if_pos rfl, inb_nI hj (by decide), hp, if_pos rfl, show 97 + 36 * j = 61 + 36 * (j + 1) by omega, show mX1_copyFrom S 61 (61 + 36 * (j + 1)) = some S1 from s1, obs]
      · unfold mX11_restore
        rw [image_good hj, obs, if_neg (by decide), inb_nI hj (by decide), d3 17 (by omega), iJ1 j hj, hp, if_neg (by decide), r1, obs]
      · have eA : ∀ m, m ≠ 1 → m ≠ 2 → m ≠ 3 → m ≠ 16 → (m < 64 ∨ 97 ≤ m) → gA R m = gA S m := fun m h1 h2 h3 h16 hm => by
          rw [q1 m h1 h2 h3 h16, d3 m (by omega)]
        have eI : ∀ m k, k ≠ 29 → k ≠ 30 → (m < 65 ∨ 97 ≤ m) → gI R m k = gI S m k := fun m k h1 h2 hm => by
          rw [q2 m k h1]
          by_cases hm0 : m = 0
          · subst hm0
            rw [gI_sI_k h2, gI_sI_k h1, d4 0 k (by omega)]
          · rw [gI_sI_ne hm0, gI_sI_ne hm0, d4 m k (by omega)]
        have e16 : ∀ x, gA R 16 x = gA S 16 x := fun x => by rw [q4, d3 16 (by omega)]
        refine ⟨⟨p, p1, (eI 0 5 (by decide) (by decide) (by omega)).trans p2, (eI 19 2 (by decide) (by decide) (by omega)).trans p3, fun i hi => ?_⟩, fun x hx => ?_, fun t ht => ?_, fun y hy => ?_, fun y hy hpy => ⟨fun x hx => ?_, fun t ht => ?_⟩⟩
        · obtain ⟨c, c1, c2, c3, c4⟩ := p4 i hi
          exact ⟨c, c1, c2, by rw [eA 5 (by decide) (by decide) (by decide) (by decide) (by omega)]; exact c3, by rw [eA 21 (by decide) (by decide) (by decide) (by decide) (by omega)]; exact c4⟩
        · obtain ⟨G1, g1, g2, g3⟩ := (iJ2 j hj hp).1 x hx
          have hl := g1.1
          have gU := d1 x hx G1 hl (by rw [show 65 + 36 * (j + 1) + 2 * x = 101 + 36 * j + 2 * x by omega]; exact g3)
          rw [show 65 + 36 * 0 + 2 * x = 65 + 2 * x by omega] at gU
          refine ⟨G1, g1, ⟨?_, fun i hi => ?_⟩, ?_, fun i hi => ?_⟩
          · rw [q6 x hx, d3 16 (by omega)]
            exact g2.1
          · rw [q5 _ (by omega), d3 16 (by omega), show 680 * j + (40 * x + i) = 680 * j + 40 * x + i by omega]
            exact g2.2 i hi
          · rw [q2 _ 1 (by decide), gI_sI_ne (by omega), gI_sI_ne (by omega)]
            exact gU.1
          · rw [q1 _ (by omega) (by omega) (by omega) (by omega)]
            exact gU.2 i hi
        · obtain ⟨k, k1, k2, k3⟩ := (iJ2 j hj hp).2 t ht
          refine ⟨k, k1, ?_, ?_⟩
          · rw [q7 t ht, d3 16 (by omega)]
            exact k2
          · have := d2 t ht
            rw [show 64 + 36 * (j + 1) = 100 + 36 * j by omega, show 64 + 36 * 0 = 64 by omega, k3] at this
            rw [q1 64 (by decide) (by decide) (by decide) (by decide)]
            exact this
        · rw [eA 17 (by decide) (by decide) (by decide) (by decide) (by omega)]
          exact iJ1 y hy
        · obtain ⟨G1, g1, g2, g3⟩ := (iJ2 y hy hpy).1 x hx
          refine ⟨G1, g1, ⟨(e16 _).trans g2.1, fun i hi => (e16 _).trans (g2.2 i hi)⟩, (eI _ 1 (by decide) (by decide) (by omega)).trans g3.1, fun i hi => ?_⟩
          rw [eA _ (by omega) (by omega) (by omega) (by omega) (by omega)]
          exact g3.2 i hi
        · obtain ⟨k, k1, k2, k3⟩ := (iJ2 y hy hpy).2 t ht
          refine ⟨k, k1, (e16 _).trans k2, ?_⟩
          rw [eA _ (by omega) (by omega) (by omega) (by omega) (by omega)]
          exact k3
