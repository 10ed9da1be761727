/-! PURE PART: copies of all -/
theorem el_a (i h : Nat) : el (61 + 36 * i + 1) h = 65 + 36 * i + 2 * h := by
  unfold el
  rw [if_neg (by omega), if_neg (by omega), if_pos (by omega)]
  omega
theorem el_b (i t : Nat) : el (61 + 36 * i + 2) t = 65 + 36 * i + 2 * (4 + t) := by
  unfold el
  rw [if_neg (by omega), if_neg (by omega), if_neg (by omega)]
  omega
def CI (T U : St) (a b nh nk : Nat) : Prop := (∀ h, h < nh → ∀ G, G.length ≤ 40 → cG T (65 + 36 * b + 2 * h) G → cG U (65 + 36 * a + 2 * h) G) ∧ (∀ t, t < nk → gA U (64 + 36 * a) t = gA T (64 + 36 * b) t) ∧ (∀ m, (m < 64 + 36 * a ∨ 97 + 36 * a ≤ m) → gA U m = gA T m) ∧ ∀ m k, (m < 65 + 36 * a ∨ 97 + 36 * a ≤ m) → gI U m k = gI T m k
theorem CI_step {T U : St} {a b nh nk : Nat} (hab : a ≠ b) (hn : nh < 16) (h : CI T U a b nh nk) : ∃ U1, mX2_copyFrom U (65 + 36 * a + 2 * nh) (65 + 36 * b + 2 * nh) = some U1 ∧ CI T U1 a b (nh + 1) nk := by
  obtain ⟨U1, e⟩ : ∃ U1, mX2_copyFrom U (65 + 36 * a + 2 * nh) (65 + 36 * b + 2 * nh) = some U1 := ⟨_, rfl⟩
  obtain ⟨f1, f2⟩ := ccopy_fr e
  obtain ⟨h1, h2, h3, h4⟩ := h
  refine ⟨U1, e, fun x hx G hl hc => ?_, fun t ht => ?_, fun m hm => ?_, fun m k hm => ?_⟩
  · by_cases hxn : x = nh
    · subst hxn
      have hc1 : cG U (65 + 36 * b + 2 * x) G := ⟨(h4 _ 1 (by omega)).trans hc.1, fun i hi => by
        rw [h3 _ (by omega)]
        exact hc.2 i hi⟩
      obtain ⟨S1, s1, s2, -⟩ := ccopy (n0 := 65 + 36 * a + 2 * x) hc1 hl
      have : S1 = U1 := Option.some.inj (s1.symm.trans e)
      subst this
      exact s2
    · have hg := h1 x (by omega) G hl hc
      refine ⟨(f2 _ 1 (by omega)).trans hg.1, fun i hi => ?_⟩
      rw [f1 _ (by omega)]
      exact hg.2 i hi
  · rw [f1 _ (by omega)]
    exact h2 t ht
  · rw [f1 _ (by omega)]
    exact h3 m hm
  · rw [f2 _ k (by omega)]
    exact h4 m k hm
theorem copyAll {T : St} {a b : Nat} (hab : a ≠ b) : ∃ S1, mX1_copyFrom T (61 + 36 * a) (61 + 36 * b) = some S1 ∧ CI T S1 a b 16 12 := by
  unfold mX1_copyFrom
  refine loopG (σ := St) (N := 4) (fun n i U => mX1_copyFrom_2 (61 + 36 * a) (61 + 36 * b) n U (nI i)) (fun i U => CI T U a b i 0) (fun r => ∃ S1, r = some S1 ∧ CI T S1 a b 16 12) (by decide) ?_ ?_ T ⟨fun h hh => absurd hh (Nat.not_lt_zero h), fun t ht => absurd ht (Nat.not_lt_zero t), fun _ _ => rfl, fun _ _ _ => rfl⟩
  · intro i n U hi hI
    obtain ⟨U1, e1, e2⟩ := CI_step hab (by omega) hI
    refine Or.inl ⟨U1, e2, ?_⟩
    simp only [mX1_copyFrom_2, bnd_eq, nI_1]
    rw [if_neg (show ¬ (4 : Int32) ≤ nI i from nI_ge (b := 4) hi (by decide)), inb_nI hi (by decide), inb_nI hi (by decide), el_a, el_a, e1, obs]
  · intro n U hI
    simp only [mX1_copyFrom_2]
    rw [if_pos (by decide)]
    refine loopG (σ := St) (N := 12) (fun n i U => mX1_copyFrom_34 (61 + 36 * a) (61 + 36 * b) n U (nI i)) (fun i U => CI T U a b (4 + i) i) (fun r => ∃ S1, r = some S1 ∧ CI T S1 a b 16 12) (by decide) ?_ ?_ U hI
    · intro i n U hi hI
      obtain ⟨U1, e1, e2⟩ := CI_step hab (show 4 + i < 16 by omega) hI
      refine Or.inl ⟨sA U1 (64 + 36 * a) i (gA U1 (64 + 36 * b) i), ?_, ?_⟩
      · obtain ⟨h1, h2, h3, h4⟩ := e2
        refine ⟨fun x hx G hl hc => ?_, fun t ht => ?_, fun m hm => ?_, fun m k hm => ?_⟩
        · have hg := h1 x (by omega) G hl hc
          refine ⟨(gI_sA _ _ _ _ _ _).trans hg.1, fun j hj => ?_⟩
          rw [gA_sA_ne (by omega)]
          exact hg.2 j hj
        · rw [gA_sA_same]
          by_cases hti : t = i
          · subst hti
            rw [upd_at, h3 _ (by omega)]
          · rw [upd_ne hti]
            exact h2 t (by omega)
        · rw [gA_sA_ne (by omega)]
          exact h3 m hm
        · rw [gI_sA]
          exact h4 m k hm
      · simp only [mX1_copyFrom_34, bnd_eq, nI_1]
        rw [if_neg (show ¬ (12 : Int32) ≤ nI i from nI_ge (b := 12) hi (by decide)), inb_nI hi (by decide), inb_nI hi (by decide), el_b, el_b, e1, obs, inb_nI hi (by decide), inb_nI hi (by decide), show 61 + 36 * a + 3 = 64 + 36 * a by omega, show 61 + 36 * b + 3 = 64 + 36 * b by omega]
    · intro n U hI
      simp only [mX1_copyFrom_34]
      rw [if_pos (by decide)]
      exact ⟨U, rfl, hI⟩
/-- i elements of a row have passed, out (o) or in -/
def PR (S T : St) (n0 pos : Nat) (o : Bool) (i : Nat) : Prop := gI T 0 29 = nI (pos + i) ∧ gI T 0 30 = b2 o ∧ (∀ m, m ≠ 16 → m ≠ n0 → gA T m = gA S m) ∧ (∀ x, gA T n0 x = if o = false ∧ x < i then gA S 16 (pos + x) else gA S n0 x) ∧ (∀ x, gA T 16 x = if o = true ∧ pos ≤ x ∧ x < pos + i then gA S n0 (x - pos) else gA S 16 x) ∧ ∀ m k, k ≠ 29 → gI T m k = gI S m k
theorem passRow_spec {S : St} {n0 L pos : Nat} {o : Bool} (hn : n0 ≠ 16) (hL : alen n0 = L) (hp : gI S 0 29 = nI pos) (hf : gI S 0 30 = b2 o) (hb : pos + L ≤ 1360) : ∃ S1, mX11_passRow S n0 (nI L) = some S1 ∧ PR S S1 n0 pos o L := by
  unfold mX11_passRow
  refine loopG (σ := St) (N := L) (fun n i T => mX11_passRow_2 n0 n T (nI L) (nI i)) (fun i T => PR S T n0 pos o i ∧ ∀ m, m ≠ 0 → gI T m 29 = gI S m 29) (fun r => ∃ S1, r = some S1 ∧ PR S S1 n0 pos o L) (by omega) ?_ ?_ S ⟨⟨hp, hf, fun _ _ _ => rfl, fun x => by rw [if_neg (fun z => absurd z.2 (Nat.not_lt_zero x))], fun x => by rw [if_neg (fun z => by omega)], fun _ _ _ => rfl⟩, fun _ _ => rfl⟩
  · intro i n T hi hI
    obtain ⟨⟨h1, h2, h3, h4, h5, h6⟩, h7⟩ := hI
    have key : ∃ s0, (o = false → s0 = gA S 16 (pos + i)) ∧ (o = true → s0 = gA S n0 i) ∧ mX11_passRow_2 n0 (n + 1) T (nI L) (nI i) = mX11_passRow_2 n0 n (sI (sA (sA T n0 i s0) 16 (pos + i) s0) 0 29 (nI (pos + i + 1))) (nI L) (nI (i + 1)) := by
      have e31 : ∀ s0, mX11_passRow_31 n0 (mX11_passRow_2 n0 n) T (nI L) (nI i) s0 (nI i) = mX11_passRow_2 n0 n (sI (sA (sA T n0 i s0) 16 (pos + i) s0) 0 29 (nI (pos + i + 1))) (nI L) (nI (i + 1)) := fun s0 => by
        unfold mX11_passRow_31
        rw [hL, inb_nI hi (by omega), inb_nI hi (by omega), gI_sA, h1, inb_nI (by omega) (by decide), bnd_eq, nI_1, gA_sA_same, upd_at, gI_sA, gI_sA, h1, nI_1]
      cases o with
      | false =>
        refine ⟨gA S 16 (pos + i), fun _ => rfl, fun z => absurd z (by decide), ?_⟩
        rw [← e31]
        simp only [mX11_passRow_2]
        rw [if_neg (nI_ge hi (by omega)), h2, if_pos (by decide), h1, inb_nI (by omega) (by decide), h5, if_neg (fun z => absurd z.1 (by decide))]
      | true =>
        refine ⟨gA S n0 i, fun z => absurd z (by decide), fun _ => rfl, ?_⟩
        rw [← e31]
        simp only [mX11_passRow_2]
        rw [if_neg (nI_ge hi (by omega)), h2, if_neg (by decide), hL, inb_nI hi (by omega), h4, if_neg (fun z => absurd z.1 (by decide))]
    obtain ⟨s0, s1, s2, s3⟩ := key
    refine Or.inl ⟨_, ⟨⟨gI_sI_same _ _ _ _, ?_, fun m m1 m2 => ?_, fun x => ?_, fun x => ?_, fun m k hk => ?_⟩, fun m hm => ?_⟩, s3⟩
    · rw [gI_sI_k (by decide), gI_sA, gI_sA]
      exact h2
    · rw [gA_sI, gA_sA_ne m1, gA_sA_ne m2]
      exact h3 m m1 m2
    · rw [gA_sI, gA_sA_ne hn, gA_sA_same]
      by_cases hx : x = i
      · subst hx
        rw [upd_at]
        cases o with
        | false => rw [if_pos ⟨rfl, by omega⟩]; exact s1 rfl
        | true => rw [if_neg (fun z => absurd z.1 (by decide))]; exact s2 rfl
      · rw [upd_ne hx, h4]
        cases o with
        | false =>
          by_cases hl : x < i
          · rw [if_pos ⟨rfl, hl⟩, if_pos ⟨rfl, by omega⟩]
          · rw [if_neg (fun z => hl z.2), if_neg (fun z => by omega)]
        | true => rw [if_neg (fun z => absurd z.1 (by decide)), if_neg (fun z => absurd z.1 (by decide))]
    · rw [gA_sI, gA_sA_same]
      by_cases hx : x = pos + i
      · subst hx
        rw [upd_at]
        cases o with
        | false => rw [if_neg (fun z => absurd z.1 (by decide))]; exact s1 rfl
        | true => rw [if_pos ⟨rfl, by omega, by omega⟩, show pos + i - pos = i by omega]; exact s2 rfl
      · rw [upd_ne hx, gA_sA_ne (fun e => hn e.symm), h5]
        cases o with
        | false => rw [if_neg (fun z => absurd z.1 (by decide)), if_neg (fun z => absurd z.1 (by decide))]
        | true =>
          by_cases hl : pos ≤ x ∧ x < pos + i
          · rw [if_pos ⟨rfl, hl⟩, if_pos ⟨rfl, by omega, by omega⟩]
          · rw [if_neg (fun z => hl z.2), if_neg (fun z => by omega)]
    · by_cases hm : m = 0
      · subst hm
        rw [gI_sI_k hk, gI_sA, gI_sA]
        exact h6 0 k hk
      · rw [gI_sI_ne hm, gI_sA, gI_sA]
        exact h6 m k hk
    · rw [gI_sI_ne hm, gI_sA, gI_sA]
      exact h7 m hm
  · intro n T hI
    simp only [mX11_passRow_2]
    rw [if_pos (nI_le (Nat.le_refl _) (by omega))]
    exact ⟨T, rfl, hI.1⟩
