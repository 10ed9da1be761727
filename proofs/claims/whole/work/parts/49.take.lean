/-! PURE PART: hold, take, told -/
theorem hold_core {pr : Nat → Bool} {S : St} {t h k : Nat} (hI : Inv pr S) (ht : t < 12) (hh : h < 4) (hk : k ≤ 2) : ∃ S1 S2, mX2_copyFrom S (65 + 2 * (4 + t)) (65 + 2 * h) = some S1 ∧ mX11_copy (sA S1 64 t (nI k)) (nI h) (nI (4 + t)) = some S2 ∧ Inv pr (sA S2 3 t (nI k)) := by
  obtain ⟨G, g1, g2, g3⟩ := hI.2.1 h (by omega)
  obtain ⟨S1, s1, s2, s3, s4⟩ := ccopy (n0 := 65 + 2 * (4 + t)) g3 g1.1
  have m1 : mG (sA S1 64 t (nI k)) h G := by
    refine ⟨?_, fun i hi => ?_⟩
    · rw [gA_sA_ne (by decide), s3 2 (by omega)]
      exact g2.1
    · rw [gA_sA_ne (by decide), s3 1 (by omega)]
      exact g2.2 i hi
  obtain ⟨S2, q1, q2, q3⟩ := rcopy (b := 4 + t) (by omega) (by omega) (by omega) m1 g1.1
  refine ⟨S1, S2, s1, q1, Inv_set (h := 4 + t) (Inv_kind (t0 := t) hI hk) (by omega) ⟨fun m h1 h2 h3 h4 => ?_, fun m j h1 h2 => ?_, fun x hx => ?_, fun x hx => ?_⟩ g1 ⟨?_, fun i hi => ?_⟩ ⟨?_, fun i hi => ?_⟩⟩
  · by_cases e3 : m = 3
    · subst e3
      rw [gA_sA_same, gA_sA_same, q3.1 3 (by decide) (by decide), gA_sA_ne (by decide), s3 3 (by omega), gA_sA_ne (by decide)]
    · rw [gA_sA_ne e3, gA_sA_ne e3, q3.1 m h2 h3]
      by_cases e4 : m = 64
      · subst e4
        rw [gA_sA_same, gA_sA_same, s3 64 (by omega)]
      · rw [gA_sA_ne e4, gA_sA_ne e4, s3 m (by omega)]
  · rw [gI_sA, q3.2.1, gI_sA, s4 m j h2, gI_sA, gI_sA]
  · rw [gA_sA_ne (by decide), q3.2.2.1 x hx, gA_sA_ne (by decide), s3 1 (by omega), gA_sA_ne (by decide), gA_sA_ne (by decide)]
  · rw [gA_sA_ne (by decide), q3.2.2.2 x hx, gA_sA_ne (by decide), s3 2 (by omega), gA_sA_ne (by decide), gA_sA_ne (by decide)]
  · rw [gA_sA_ne (by decide)]
    exact q2.1
  · rw [gA_sA_ne (by decide)]
    exact q2.2 i hi
  · rw [gI_sA, q3.2.1, gI_sA]
    exact s2.1
  · rw [gA_sA_ne (by omega), q3.1 _ (by omega) (by omega), gA_sA_ne (by omega)]
    exact s2.2 i hi
theorem pf_hold : PF_hold Inv := by
  intro pr S a0 a1 a2 a3 h3 hI
  unfold mX10_hold mX11_hold
  rcases place_cases a0 a1 with ⟨c0, r0⟩ | ⟨x, y, hx, hy, rfl, rfl, c0, r0⟩
  · exact ⟨-1, S, S, by rw [c0, obs]; rfl, by rw [r0, obs]; rfl, hI⟩
  · rcases ideal_cases a2 with ⟨c1, r1⟩ | ⟨h, hh, rfl, c1, r1⟩
    · exact ⟨-1, S, S, by rw [c0, obs, if_neg (by decide), c1, obs]; rfl, by rw [r0, obs, if_neg (by decide), r1, obs]; rfl, hI⟩
    · rw [c0, obs, if_neg (by decide), c1, obs, if_neg (by decide)]
      simp only [r0, r1, obs, if_neg (show ¬ (1 : Int32) = 0 by decide)]
      have run : ∀ k : Nat, (k = 1 ∨ k = 2) → a3 = nI (k - 1) → ∃ (r : Int32) (S1 : St) (S2 : St), mX10_hold_37 S (nI x) (nI y) (nI h) a3 = some (r, S1) ∧ mX11_hold_39 S1 (nI x) (nI y) (nI h) a3 = some (r, S2) ∧ Inv pr S2 := by
        intro k hk ha
        subst ha
        obtain ⟨S1, S2, s1, s2, s3⟩ := hold_core (t := x * 4 + y) (k := k) hI (by omega) hh (by omega)
        refine ⟨1, sA S1 64 (x * 4 + y) (nI k), sA S2 3 (x * 4 + y) (nI k), ?_, ?_, s3⟩
        · unfold mX10_hold_37
          rw [bnd_eq, show nI x * 4 + nI y = nI (x * 4 + y) from by rw [show (4 : Int32) = nI 4 from rfl, nI_mul, nI_add], inb_nI (show x * 4 + y < 12 by omega) (by decide), inb_nI hh (by decide), el62, el63, s1, obs]
          rcases hk with rfl | rfl
          · rw [if_pos (by decide), inb_nI (show x * 4 + y < 12 by omega) (by decide)]
            rfl
          · rw [if_neg (by decide), inb_nI (show x * 4 + y < 12 by omega) (by decide)]
            rfl
        · unfold mX11_hold_39 mX11_holderOf
          rw [obs, show (4 + 4 * nI x) + nI y = nI (4 + (x * 4 + y)) from by rw [show (4 : Int32) = nI 4 from rfl, nI_mul, nI_add, nI_add]; exact congrArg nI (by omega), s2, obs, show 4 * nI x + nI y = nI (x * 4 + y) from by rw [show (4 : Int32) = nI 4 from rfl, nI_mul, nI_add]; exact congrArg nI (by omega)]
          rcases hk with rfl | rfl
          · rw [if_pos (by decide), inb_nI (show x * 4 + y < 12 by omega) (by decide)]
            rfl
          · rw [if_neg (by decide), inb_nI (show x * 4 + y < 12 by omega) (by decide)]
            rfl
      have bad : ∃ (r : Int32) (S1 : St) (S2 : St), some ((-3 : Int32), S) = some (r, S1) ∧ some ((-3 : Int32), S1) = some (r, S2) ∧ Inv pr S2 := ⟨-3, S, S, rfl, rfl, hI⟩
      unfold mX11_hold_26
      rcases (show x = 0 ∨ x = 1 ∨ x = 2 by omega) with rfl | rfl | rfl
      · rcases h3 with rfl | rfl
        · simp only [if_pos (show (0 : Int32) = 0 from rfl), if_neg (show ¬ nI 0 = 1 by decide), if_pos (show nI 0 = 0 by decide)]
          exact run 1 (Or.inl rfl) rfl
        · simp only [if_neg (show ¬ (1 : Int32) = 0 by decide), if_pos (show nI 0 = 0 by decide)]
          exact bad
      · rcases h3 with rfl | rfl
        · simp only [if_pos (show (0 : Int32) = 0 from rfl), if_pos (show nI 1 = 1 by decide), if_neg (show ¬ nI 1 = 0 by decide)]
          exact bad
        · simp only [if_neg (show ¬ (1 : Int32) = 0 by decide), if_pos (show nI 1 = 1 by decide), if_neg (show ¬ nI 1 = 0 by decide)]
          exact run 2 (Or.inr rfl) rfl
      · rcases h3 with rfl | rfl
        · simp only [if_pos (show (0 : Int32) = 0 from rfl), if_neg (show ¬ nI 2 = 1 by decide), if_neg (show ¬ nI 2 = 0 by decide)]
          exact run 1 (Or.inl rfl) rfl
        · simp only [if_neg (show ¬ (1 : Int32) = 0 by decide), if_neg (show ¬ nI 2 = 1 by decide), if_neg (show ¬ nI 2 = 0 by decide)]
          exact run 2 (Or.inr rfl) rfl
theorem ccopy_fr {S S1 : St} {n0 n1 : Nat} (h : mX2_copyFrom S n0 n1 = some S1) : (∀ m, m ≠ n0 + 1 → gA S1 m = gA S m) ∧ ∀ m k, m ≠ n0 → gI S1 m k = gI S m k := by
  have h := Option.some.inj h
  subst h
  refine ⟨fun m hm => ?_, fun m k hm => ?_⟩
  · rw [gA_sI, gA_sAf_ne hm]
  · rw [gI_sI_ne hm, gI_sAf]
theorem take_core {pr : Nat → Bool} {S : St} {t h : Nat} (hI : Inv pr S) (ht : t < 12) (hh : h < 4) : ∃ (r : Int32) (S1 S2 : St), mX2_copyFrom S (65 + 2 * h) (65 + 2 * (4 + t)) = some S1 ∧ gI S1 (65 + 2 * h) 1 = r ∧ mX11_copy S1 (nI (4 + t)) (nI h) = some S2 ∧ gA S2 2 h = r ∧ Inv pr S2 := by
  obtain ⟨G, g1, g2, g3⟩ := hI.2.1 (4 + t) (by omega)
  obtain ⟨S1, s1, s2, s3, s4⟩ := ccopy (n0 := 65 + 2 * h) g3 g1.1
  have m1 : mG S1 (4 + t) G := by
    refine ⟨?_, fun i hi => ?_⟩
    · rw [s3 2 (by omega)]
      exact g2.1
    · rw [s3 1 (by omega)]
      exact g2.2 i hi
  obtain ⟨S2, q1, q2, q3⟩ := rcopy (b := h) (by omega) (by omega) (by omega) m1 g1.1
  refine ⟨nI G.length, S1, S2, s1, s2.1, q1, q2.1, Inv_set (h := h) hI (by omega) ⟨fun m h1 h2 h3 h4 => ?_, fun m j h1 h2 => ?_, fun x hx => ?_, fun x hx => ?_⟩ g1 q2 ⟨?_, fun i hi => ?_⟩⟩
  · rw [q3.1 m h2 h3, s3 m (by omega)]
  · rw [q3.2.1, s4 m j h2]
  · rw [q3.2.2.1 x hx, s3 1 (by omega)]
  · rw [q3.2.2.2 x hx, s3 2 (by omega)]
  · rw [q3.2.1]
    exact s2.1
  · rw [q3.1 _ (by omega) (by omega)]
    exact s2.2 i hi
theorem pf_take : PF_take Inv := by
  intro pr S a0 a1 a2 hI
  unfold mX10_take mX11_take
  rcases place_cases a0 a1 with ⟨c0, r0⟩ | ⟨x, y, hx, hy, rfl, rfl, c0, r0⟩
  · exact ⟨-1, S, S, by rw [c0, obs]; rfl, by rw [r0, obs]; rfl, hI⟩
  · rcases ideal_cases a2 with ⟨c1, r1⟩ | ⟨h, hh, rfl, c1, r1⟩
    · exact ⟨-1, S, S, by rw [c0, obs, if_neg (by decide), c1, obs]; rfl, by rw [r0, obs, if_neg (by decide), r1, obs]; rfl, hI⟩
    · rw [c0, obs, if_neg (by decide), c1, obs, if_neg (by decide)]
      obtain ⟨k, k1, k2, k3⟩ := hI.2.2.1 (x * 4 + y) (by omega)
      obtain ⟨r, S1, S2, t1, t2, t3, t4, t5⟩ := take_core (t := x * 4 + y) hI (by omega) hh
      have e1 : nI x * 4 + nI y = nI (x * 4 + y) := by rw [show (4 : Int32) = nI 4 from rfl, nI_mul, nI_add]
      have e2 : 4 * nI x + nI y = nI (x * 4 + y) := by
        rw [show (4 : Int32) = nI 4 from rfl, nI_mul, nI_add]
        exact congrArg nI (by omega)
      have e3 : (4 + 4 * nI x) + nI y = nI (4 + (x * 4 + y)) := by
        rw [show (4 : Int32) = nI 4 from rfl, nI_mul, nI_add, nI_add]
        exact congrArg nI (by omega)
      simp only [r0, r1, obs, if_neg (show ¬ (1 : Int32) = 0 by decide), bnd_eq, e1, e2, mX11_holderOf, e3, inb_nI (show x * 4 + y < 12 by omega) (show 12 < 2 ^ 31 by decide), inb_nI hh (show 4 < 2 ^ 31 by decide), inb_nI (show h < 16 by omega) (show 16 < 2 ^ 31 by decide), k3, el62, el63, t1]
      rcases (show k = 0 ∨ k = 1 ∨ k = 2 by omega) with rfl | rfl | rfl
      · rw [if_pos (by decide)]
        exact ⟨-5, S, S, rfl, by rw [k2, if_neg (by decide), if_pos (by decide)], hI⟩
      · rw [if_neg (by decide), if_neg (by decide)]
        refine ⟨r, S1, S2, by rw [t2], ?_, t5⟩
        rw [(ccopy_fr t1).1 3 (by omega), k2, if_pos (by decide), t3, obs, t4]
      · rw [if_neg (by decide), if_pos (by decide)]
        exact ⟨-3, S, S, rfl, by rw [k2, if_neg (by decide), if_neg (by decide)], hI⟩
