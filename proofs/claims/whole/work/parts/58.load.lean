/-! PURE PART: load -/
theorem low_spread {S : St} {n : Nat} {L : List Nat} (hq : ∀ q ∈ L, q < 2401) (h : hA S (n + 1) (lwL (fun _ => 7) L)) : ∃ S1, mX6_spreadUp S n = some S1 ∧ hS S1 (n + 1) (up L) ∧ Fr [n + 1] [] S S1 := by
  obtain ⟨S3, c1, c2, c3⟩ := spreadUp_hS (low_hS (B := fun _ => false) h (fun p _ => (bH7 p).symm))
  refine ⟨S3, c1, hS_congr c2 (fun p hp => ?_), c3⟩
  rcases sp_low hq (fun _ => false) p (fun q h => by cases h) with h | h
  · rw [h, Bool.and_false, Bool.false_or]
  · omega
theorem gather_spec {S : St} {L : List Nat} (hL : cL S L) (hl : L.length ≤ 60) (hq : ∀ q ∈ L, q < 2401) : ∃ S1, mX9_gather S = some S1 ∧ hS S1 56 (up L) ∧ Fr [56] [] S S1 := by
  obtain ⟨S0, a1, a2, a3⟩ := nothing_spec (S := S) (n := 55) (Or.inl rfl)
  unfold mX9_gather
  rw [a1, obs]
  refine loopG (σ := St) (N := L.length) (fun f i s => mX9_gather_9 f s (nI i)) (fun i s => hA s 56 (lwL (fun _ => 7) (L.take i)) ∧ Fr [56] [] S s) (fun r => ∃ S1, r = some S1 ∧ hS S1 56 (up L) ∧ Fr [56] [] S S1) (by omega) ?_ ?_ S0 ⟨a2, a3⟩
  · intro i f s hi hI
    have e1 : gI s 19 1 = nI L.length := (hI.2.2 19 1 (by decide)).trans hL.1
    have e2 : gA s 20 i = nI (hexN (L.getD i 0)) := by
      rw [hI.2.1 20 (by decide)]
      exact hL.2 i hi
    obtain ⟨s1, b1, b2, b3⟩ := lower_hA (n := 55) (hq _ (getD_mem hi)) hI.1
    refine Or.inl ⟨s1, ⟨by rw [lwL_take hi]; exact b2, hI.2.trans b3⟩, ?_⟩
    simp only [mX9_gather_9]
    rw [e1, if_neg (nI_ge hi (by omega)), inb_nI (show i < 60 by omega) (by decide), e2, b1, obs, bnd_eq, nI_1]
  · intro f s hI
    have e1 : gI s 19 1 = nI L.length := (hI.2.2 19 1 (by decide)).trans hL.1
    rw [List.take_length] at hI
    obtain ⟨s3, c1, c2, c3⟩ := low_spread (n := 55) hq hI.1
    simp only [mX9_gather_9]
    rw [e1, if_pos (nI_le (Nat.le_refl _) (by omega)), c1, obs]
    exact ⟨s3, rfl, c2, hI.2.trans c3⟩
theorem rload_spec {S : St} {L : List Nat} {x : Int32} (hL : rL S L) (hl : L.length ≤ 60) (hq : ∀ q ∈ L, q < 2401) (h0 : mk S 4 (fun _ => false)) : ∃ S1, mX11_load_25 FU S x 0 = ((mX11_keep (sI S1 0 5 0) x).bind fun r1 => some (r1.1, r1.2)) ∧ mk S1 4 (up L) ∧ Fr [4] [] S S1 := by
  refine loopG (σ := St) (N := L.length) (fun f i s => mX11_load_25 f s x (nI i)) (fun i s => mk s 4 (up (L.take i)) ∧ Fr [4] [] S s) (fun r => ∃ S1, r = ((mX11_keep (sI S1 0 5 0) x).bind fun r1 => some (r1.1, r1.2)) ∧ mk S1 4 (up L) ∧ Fr [4] [] S S1) (by omega) ?_ ?_ S ⟨h0, Fr.refl _ _ S⟩
  · intro i f s hi hI
    have e1 : gI s 0 7 = nI L.length := (hI.2.2 0 7 (by decide)).trans hL.1
    have e2 : gA s 6 i = nI (decN (L.getD i 0)) := by
      rw [hI.2.1 6 (by decide)]
      exact hL.2 i hi
    obtain ⟨s1, b1, b2, b3⟩ := mark_spec (hq _ (getD_mem hi)) hI.1
    refine Or.inl ⟨s1, ⟨mk_congr b2 (fun p _ => up_take hi), hI.2.trans b3⟩, ?_⟩
    simp only [mX11_load_25]
    rw [e1, if_neg (nI_ge hi (by omega)), inb_nI (show i < 60 by omega) (by decide), e2, b1, obs, bnd_eq, nI_1]
  · intro f s hI
    have e1 : gI s 0 7 = nI L.length := (hI.2.2 0 7 (by decide)).trans hL.1
    rw [List.take_length] at hI
    simp only [mX11_load_25]
    rw [e1, if_pos (nI_le (Nat.le_refl _) (by omega))]
    exact ⟨s, rfl, hI.1, hI.2⟩
theorem Inv_wipe {pr : Nat → Bool} {S : St} (hI : Inv pr S) : Inv pr (sI (sI S 19 2 0) 0 5 0) := by
  refine Inv_pad hI ?_ ?_ ?_
  · intro m _ _ _
    rw [gA_sI, gA_sI]
  · intro m k h0 h28
    rw [gI_sI_ne h0, gI_sI_ne (by omega)]
  · refine ⟨0, by omega, gI_sI_same _ _ _ _, ?_, fun i hi => absurd hi (Nat.not_lt_zero i)⟩
    rw [gI_sI_ne (by decide), gI_sI_same]
    rfl
def scL : List (Nat × Nat) := (0, 5) :: (19, 2) :: scK
theorem scL_hi {m k : Nat} (h : 28 < m) : (m, k) ∉ scL := fun z => by
  have := (by decide : ∀ x ∈ scL, x.1 ≤ 28) (m, k) z
  have : m ≤ 28 := this
  omega
theorem wipe_fld {S S1 : St} (hF : ∀ m k, (m, k) ∉ scL → m ≤ 64 → gI S1 m k = gI S m k) (h1 : gI S1 0 5 = 0) (h2 : gI S1 19 2 = 0) : ∀ m k, (m, k) ∉ scK → m ≤ 64 → gI S1 m k = gI (sI (sI S 19 2 0) 0 5 0) m k := by
  intro m k hk hm
  by_cases z1 : m = 0 ∧ k = 5
  · obtain ⟨rfl, rfl⟩ := z1
    rw [h1, gI_sI_same]
  · by_cases z2 : m = 19 ∧ k = 2
    · obtain ⟨rfl, rfl⟩ := z2
      rw [h2, gI_sI_ne (by decide), gI_sI_same]
    · have hn : (m, k) ∉ scL := fun z => by
        rcases List.mem_cons.mp z with e | z
        · exact z1 (Prod.mk.inj e)
        · rcases List.mem_cons.mp z with e | z
          · exact z2 (Prod.mk.inj e)
          · exact hk z
      rw [hF m k hn hm]
      by_cases hm0 : m = 0
      · subst hm0
        rw [gI_sI_k (fun e => z1 ⟨rfl, e⟩), gI_sI_ne (by decide)]
      · rw [gI_sI_ne hm0]
        by_cases hm1 : m = 19
        · subst hm1
          rw [gI_sI_k (fun e => z2 ⟨rfl, e⟩)]
        · rw [gI_sI_ne hm1]
theorem pf_load : PF_load Inv := by
  intro pr S a0 hI
  unfold mX10_load mX11_load
  rcases ideal_cases a0 with ⟨c0, r0⟩ | ⟨h, hh, rfl, c0, r0⟩
  · rw [c0, obs]
    refine ⟨-1, S, S, if_pos rfl, ?_, hI⟩
    rw [r0, obs, if_pos rfl]
  · obtain ⟨r, L, hr, hl, hq, ⟨U, u1, u2, u3⟩, hf⟩ := read_both hI.1
    rw [c0, obs, if_neg (by decide), u1, obs]
    rcases hr with hr | ⟨j, hj, hr⟩
    · subst hr
      obtain ⟨S1, g1, g2, g3⟩ := gather_spec (u3 rfl) hl hq
      have g4 : hS (sI S1 19 2 0) 56 (up L) := hS_fr (A := []) (K := [(19, 2)]) g2 ((Fr.refl _ _ S1).sI (by decide)) (by decide)
      obtain ⟨r, S2, d1, d2, d3⟩ := finish (h := h) (by omega) g4 (upc_up L)
      have f1 : Fr scA scL S (sI S1 19 2 0) := Fr.trans (u2.mono (by decide) (by decide)) (Fr.sI (g3.mono (by decide) (by simp)) (by decide))
      obtain ⟨U2, w1, w2, w3⟩ := hf S2 ((d2.2 0 5 (by simp)).trans (by rw [gI_sI_ne (by decide), g3.2 0 5 (by decide), u2.2 0 5 (by decide)])) ((d2.1 5 (by simp; omega)).trans (f1.1 5 (by decide)))
      obtain ⟨S3, k1, k2, k3⟩ := clear_spec U2
      have hL3 : rL S3 L := ⟨(k3.2 0 7 (by decide)).trans (w3 rfl).1, fun i hi => by rw [k3.1 6 (by decide)]; exact (w3 rfl).2 i hi⟩
      obtain ⟨S4, l1, l2, l3⟩ := rload_spec (x := nI h) hL3 hl hq k2
      have f2 : Fr scA scL S2 (sI S4 0 5 0) := Fr.trans (w2.mono (by decide) (by decide)) (Fr.trans (k3.mono (by decide) (by simp)) (Fr.sI (l3.mono (by decide) (by simp)) (by decide)))
      obtain ⟨S5, m1, m2, m3⟩ := d3 (sI S4 0 5 0) (f2.1 _ (scA_hi (by omega))) (f2.2 _ 1 (scL_hi (by omega))) (fun p hp => by rw [gA_sI]; exact l2 p hp)
      refine ⟨r, S2, S5, ?_, ?_, ?_⟩
      · rw [if_pos rfl, g1, obs, inb_nI hh (by decide), el62, d1, obs]
      · rw [r0, obs, if_neg (by decide), w1, obs, if_pos (show (-6 : Int32) < 0 by decide), k1, obs, l1, m1, obs]
      · have hW := Inv_wipe hI
        have a5 : gI (sI S4 0 5 0) 0 5 = 0 := gI_sI_same _ _ _ _
        have a2 : gI (sI S4 0 5 0) 19 2 = 0 := by
          rw [gI_sI_ne (by decide), l3.2 19 2 (by decide), k3.2 19 2 (by decide), w2.2 19 2 (by decide), d2.2 19 2 (by simp), gI_sI_same]
        rcases m3 with ⟨z1, z2⟩ | ⟨G, q1, q2, q3⟩
        · subst z1 z2
          refine Inv_fr hW ⟨fun m hm => ?_, fun m k hk => ?_⟩
          · rw [f2.1 m hm, f1.1 m hm, gA_sI, gA_sI]
          · by_cases h64 : m ≤ 64
            · exact wipe_fld (fun m k hk _ => (f2.2 m k hk).trans (f1.2 m k hk)) a5 a2 m k hk h64
            · rw [f2.2 m k (scL_hi (by omega)), f1.2 m k (scL_hi (by omega)), gI_sI_ne (by omega), gI_sI_ne (by omega)]
        · refine Inv_set hW (by omega) ⟨fun m h1 h2 h3 h4 => ?_, fun m k hk h2 => ?_, fun x hx => ?_, fun x hx => ?_⟩ q1 q2 q3
          · rw [m2.1 m h2 h3, f2.1 m h1, d2.1 m (by simpa using h4), f1.1 m h1, gA_sI, gA_sI]
          · rw [m2.2.1 m k]
            by_cases h64 : m ≤ 64
            · refine wipe_fld (fun m k hk hm => ?_) a5 a2 m k hk h64
              rw [f2.2 m k hk, d2.2 m k (by simp; omega), f1.2 m k hk]
            · rw [f2.2 m k (scL_hi (by omega)), d2.2 m k (by simp; omega), f1.2 m k (scL_hi (by omega)), gI_sI_ne (by omega), gI_sI_ne (by omega)]
          · rw [m2.2.2.1 x hx, f2.1 1 (by decide), d2.1 1 (by simp; omega), f1.1 1 (by decide), gA_sI, gA_sI]
          · rw [m2.2.2.2 x hx, f2.1 2 (by decide), d2.1 2 (by simp; omega), f1.1 2 (by decide), gA_sI, gA_sI]
    · obtain ⟨U2, w1, w2, -⟩ := hf U (u2.2 0 5 (by decide)) (u2.1 5 (by decide))
      subst hr
      have hn : ¬ nI j = -6 := fun e => neg_ne (a := -6) (by decide) (by omega) e.symm
      refine ⟨-5, U, U2, if_neg hn, ?_, Inv_fr (Inv_fr hI (u2.mono (by decide) (by decide))) (w2.mono (by decide) (by decide))⟩
      rw [r0, obs, if_neg (by decide), w1, obs]
      exact if_neg (nI_pos (by omega))
