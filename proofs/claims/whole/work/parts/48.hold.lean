/-! PURE PART: hold, take, told -/
theorem ccopy {S : St} {n0 n1 : Nat} {G : List Nat} (hc : cG S n1 G) (hl : G.length ≤ 40) : ∃ S1, mX2_copyFrom S n0 n1 = some S1 ∧ cG S1 n0 G ∧ (∀ m, m ≠ n0 + 1 → gA S1 m = gA S m) ∧ ∀ m k, m ≠ n0 → gI S1 m k = gI S m k := by
  refine ⟨_, rfl, ⟨?_, fun i hi => ?_⟩, fun m hm => ?_, fun m k hm => ?_⟩
  · rw [gI_sI_same, gI_sAf]
    exact hc.1
  · rw [gA_sI, gA_sAf_same, pk_cpy_in (by omega) (by omega), show 0 + (i - 0) = i by omega]
    exact hc.2 i hi
  · rw [gA_sI, gA_sAf_ne hm]
  · rw [gI_sI_ne hm, gI_sAf]
theorem rcopy {S : St} {a b : Nat} {G : List Nat} (ha : a < 16) (hb : b < 16) (hab : a ≠ b) (hc : mG S a G) (hl : G.length ≤ 40) : ∃ S1, mX11_copy S (nI a) (nI b) = some S1 ∧ mG S1 b G ∧ keepF S S1 b := by
  unfold mX11_copy
  rw [inb_nI ha (by decide), inb_nI hb (by decide), hc.1]
  have h0 : keepF S (sA S 2 b (nI G.length)) b := ⟨fun m _ h2 => gA_sA_ne h2, fun _ _ => gI_sA _ _ _ _ _ _, fun x _ => by rw [gA_sA_ne (by decide)], fun x hx => by rw [gA_sA_same, upd_ne hx]⟩
  refine loopG (σ := St) (N := G.length) (fun n i T => mX11_copy_14 n T (nI a) (nI b) (nI i)) (fun i T => keepF S T b ∧ gA T 2 b = nI G.length ∧ ∀ t, t < i → gA T 1 (40 * b + t) = nI (decN (G.getD t 0))) (fun r => ∃ S1, r = some S1 ∧ mG S1 b G ∧ keepF S S1 b) (by omega) ?_ ?_ _ ⟨h0, by rw [gA_sA_same, upd_at], fun t ht => absurd ht (Nat.not_lt_zero t)⟩
  · intro i n T hi hI
    obtain ⟨h1, h2, h3⟩ := hI
    have e1 : gA T 2 a = nI G.length := (h1.2.2.2 a hab).trans hc.1
    have e2 : gA T 1 (40 * a + i) = nI (decN (G.getD i 0)) := (h1.2.2.1 _ (by omega)).trans (hc.2 i hi)
    refine Or.inl ⟨sA T 1 (40 * b + i) (nI (decN (G.getD i 0))), ⟨⟨fun m k1 k2 => ?_, fun m k => ?_, fun x hx => ?_, fun x hx => ?_⟩, ?_, fun t ht => ?_⟩, ?_⟩
    · rw [gA_sA_ne k1]
      exact h1.1 m k1 k2
    · rw [gI_sA]
      exact h1.2.1 m k
    · rw [gA_sA_same, upd_ne (by omega)]
      exact h1.2.2.1 x hx
    · rw [gA_sA_ne (by decide)]
      exact h1.2.2.2 x hx
    · rw [gA_sA_ne (by decide)]
      exact h2
    · rw [gA_sA_same]
      by_cases hti : t = i
      · subst hti
        rw [upd_at]
      · rw [upd_ne (by omega)]
        exact h3 t (by omega)
    · simp (disch := omega) only [mX11_copy_14, inb_nI, e1, nI_leI', at_spec ha (by omega : i < 40), e2, obs, lit_nI, nI_mul, nI_add, bnd_eq]
      rw [if_neg (by omega)]
  · intro n T hI
    obtain ⟨h1, h2, h3⟩ := hI
    refine ⟨T, ?_, ⟨h2, h3⟩, h1⟩
    have e1 : gA T 2 a = nI G.length := (h1.2.2.2 a hab).trans hc.1
    simp (disch := omega) only [mX11_copy_14, inb_nI, e1, nI_leI']
    rw [if_pos (Nat.le_refl _)]
theorem Inv_kind {pr : Nat → Bool} {S : St} {t0 k0 : Nat} (hI : Inv pr S) (hk : k0 ≤ 2) : Inv pr (sA (sA S 64 t0 (nI k0)) 3 t0 (nI k0)) := by
  obtain ⟨⟨p, p1, p2, p3, p4⟩, iH, iK, iJ1, iJ2⟩ := hI
  have eA : ∀ m, m ≠ 3 → m ≠ 64 → gA (sA (sA S 64 t0 (nI k0)) 3 t0 (nI k0)) m = gA S m := fun m h1 h2 => by rw [gA_sA_ne h1, gA_sA_ne h2]
  have eI : ∀ m k, gI (sA (sA S 64 t0 (nI k0)) 3 t0 (nI k0)) m k = gI S m k := fun m k => by rw [gI_sA, gI_sA]
  refine ⟨⟨p, p1, (eI _ _).trans p2, (eI _ _).trans p3, fun i hi => ?_⟩, fun x hx => ?_, fun t ht => ?_, fun j hj => ?_, fun j hj hp => ⟨fun x hx => ?_, fun t ht => ?_⟩⟩
  · obtain ⟨c, c1, c2, c3, c4⟩ := p4 i hi
    exact ⟨c, c1, c2, by rw [eA 5 (by decide) (by decide)]; exact c3, by rw [eA 21 (by decide) (by decide)]; exact c4⟩
  · obtain ⟨G1, g1, g2, g3⟩ := iH x hx
    refine ⟨G1, g1, ⟨?_, fun i hi => ?_⟩, (eI _ _).trans g3.1, fun i hi => ?_⟩
    · rw [eA 2 (by decide) (by decide)]
      exact g2.1
    · rw [eA 1 (by decide) (by decide)]
      exact g2.2 i hi
    · rw [eA _ (by omega) (by omega)]
      exact g3.2 i hi
  · by_cases hh : t = t0
    · subst hh
      exact ⟨k0, hk, by rw [gA_sA_same, upd_at], by rw [gA_sA_ne (by decide), gA_sA_same, upd_at]⟩
    · obtain ⟨k, k1, k2, k3⟩ := iK t ht
      exact ⟨k, k1, by rw [gA_sA_same, upd_ne hh, gA_sA_ne (by decide)]; exact k2, by rw [gA_sA_ne (by decide), gA_sA_same, upd_ne hh]; exact k3⟩
  · rw [eA 17 (by decide) (by decide)]
    exact iJ1 j hj
  · obtain ⟨G1, g1, g2, g3⟩ := (iJ2 j hj hp).1 x hx
    refine ⟨G1, g1, ⟨?_, fun i hi => ?_⟩, (eI _ _).trans g3.1, fun i hi => ?_⟩
    · rw [eA 16 (by decide) (by decide)]
      exact g2.1
    · rw [eA 16 (by decide) (by decide)]
      exact g2.2 i hi
    · rw [eA _ (by omega) (by omega)]
      exact g3.2 i hi
  · obtain ⟨k, k1, k2, k3⟩ := (iJ2 j hj hp).2 t ht
    exact ⟨k, k1, by rw [eA 16 (by decide) (by decide)]; exact k2, by rw [eA _ (by omega) (by omega)]; exact k3⟩
