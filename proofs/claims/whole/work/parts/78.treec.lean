/-! PURE PART: the class's tree -/
theorem al_row : ∀ j, j < 25 → alen (30 + j) = 40 := by decide
theorem el29 (j : Nat) : el 29 j = 30 + j := nrfl rfl
def rowL (S : St) (n : Nat) (L : List Nat) : Prop := ∀ i, i < L.length → gA S n i = nI (hexN (L.getD i 0))
theorem rowL_fr {S S1 : St} {n : Nat} {L : List Nat} (h : rowL S n L) (e : gA S1 n = gA S n) : rowL S1 n L := fun i hi => by rw [e]; exact h i hi
def enc (o : Option Nat) : Int32 := match o with
  | none => -6
  | some v => nI v
theorem cv_take {L : List Nat} {v i : Nat} (h : i < L.length) : cv v (L.take (i + 1)) = cv v (L.take i) + (if hv v (L.getD i 0) then 1 else 0) := by
  unfold cv
  rw [filter_take h, List.length_append]
  cases hv v (L.getD i 0) <;> rfl
theorem cv_le (v : Nat) (L : List Nat) : cv v L ≤ L.length := List.length_filter_le _ _
theorem pivotOf_inner {S : St} {n v : Nat} {L : List Nat} {x2 x3 : Int32} (k8 : Int32 → Int32 → Int32 → Int32 → Option Int32) (hv1 : v < 4) (ha : alen n = 40) (hl : L.length ≤ 40) (hq : ∀ q ∈ L, q < 2401) (hr : rowL S n L) : mX8_pivotOf_20 S n k8 FU (nI L.length) x2 x3 (nI v) 0 0 = mX8_pivotOf_54 S n k8 (nI L.length) x2 x3 (nI v) (nI (cv v L)) := by
  have := loopN (N := L.length) (R := mX8_pivotOf_54 S n k8 (nI L.length) x2 x3 (nI v) (nI (cv v L))) (fun f i => mX8_pivotOf_20 S n k8 f (nI L.length) x2 x3 (nI v) (nI (cv v (L.take i))) (nI i)) (by omega) ?_ ?_
  · exact this
  · intro i f hi
    have hx := ex_lt (v := v) (hq _ (getD_mem hi))
    simp only [mX8_pivotOf_20, mX8_pivotOf_48, bnd_eq, nI_1]
    rw [if_neg (nI_ge hi (by omega)), ha, if_neg (show ¬ Int32.ofNat 40 ≤ nI i from nI_ge (b := 40) (by omega) (by decide)), inb_nI (show i < 40 by omega) (by decide), hr i hi, exp_hex hv1 (hq _ (getD_mem hi)), obs, cv_take hi]
    cases hh : hv v (L.getD i 0) with
    | true => rw [if_neg (show ¬ nI (ex v (L.getD i 0)) ≤ 0 from nI_nle (hv_iff.mp hh) (by omega)), if_pos rfl]
    | false =>
      rw [if_pos (show nI (ex v (L.getD i 0)) ≤ 0 by rw [hv_false.mp hh]; decide), if_neg (by decide)]
      try rfl
  · intro f
    simp only [mX8_pivotOf_20]
    rw [if_pos (nI_le (Nat.le_refl _) (by omega)), List.take_length]
theorem pivotOf_spec {S : St} {n : Nat} {L : List Nat} (ha : alen n = 40) (hl : L.length ≤ 40) (hq : ∀ q ∈ L, q < 2401) (hr : rowL S n L) : mX8_pivotOf S n (nI L.length) = some (enc (pivC L)) := by
  unfold mX8_pivotOf
  have hb : ∀ v, (pvI L v).2 ≤ 41 := fun v => by
    induction v with
    | zero => exact (by decide : 1 ≤ 41)
    | succ v ih =>
      show (if cv v L ≤ (pvI L v).2 then pvI L v else (some v, cv v L)).2 ≤ 41
      have := cv_le v L
      split
      · exact ih
      · show cv v L ≤ 41
        omega
  have := loopN (N := 4) (R := some (enc (pivC L))) (fun f v => mX8_pivotOf_8 S n f (nI L.length) (enc (pvI L v).1) (nI (pvI L v).2) (nI v)) (by omega) ?_ ?_
  · exact this
  · intro v f hv1
    have h1 := cv_le v L
    have h2 := hb v
    simp only [mX8_pivotOf_8]
    rw [if_neg (show ¬ (4 : Int32) ≤ nI v from nI_ge (b := 4) hv1 (by decide)), pivotOf_inner (mX8_pivotOf_8 S n f) hv1 ha hl hq hr]
    simp only [mX8_pivotOf_54, mX8_pivotOf_66, bnd_eq, nI_1]
    have e : pvI L (v + 1) = if cv v L ≤ (pvI L v).2 then pvI L v else (some v, cv v L) := rfl
    rw [e]
    by_cases hc : cv v L ≤ (pvI L v).2
    · rw [if_pos (nI_le hc (by omega)), if_pos hc]
    · rw [if_neg (nI_ge (by omega) (by omega)), if_neg hc]
      rfl
  · intro f
    simp only [mX8_pivotOf_8]
    rw [if_pos (show (4 : Int32) ≤ nI 4 by decide)]
    rfl
theorem wo_take {L : List Nat} {v i : Nat} (h : i < L.length) : wo v (L.take (i + 1)) = wo v (L.take i) ++ (if !hv v (L.getD i 0) then [L.getD i 0] else []) := filter_take h
theorem app_row {S : St} {n : Nat} {K : List Nat} {x : Nat} (h : rowL S n K) : rowL (sA S n K.length (nI (hexN x))) n (K ++ [x]) := fun t ht => by
  rw [gA_sA_same]
  rw [List.length_append] at ht
  have ht : t < K.length + 1 := ht
  by_cases he : t = K.length
  · subst he
    rw [upd_at, show K.length = K.length + 0 from rfl, getD_right]
    rfl
  · rw [upd_ne he, h t (by omega), getD_left (by omega)]
theorem keepWithout_spec {S : St} {n m v : Nat} {L : List Nat} (hv1 : v < 4) (hnm : n ≠ m) (ha : alen n = 40) (hb : alen m = 40) (hl : L.length ≤ 40) (hq : ∀ q ∈ L, q < 2401) (hr : rowL S n L) : ∃ S1, mX8_keepWithout S n m (nI L.length) (nI v) = some (nI (wo v L).length, S1) ∧ rowL S1 m (wo v L) ∧ Fr [m] [] S S1 := by
  unfold mX8_keepWithout
  have := loopG (σ := St) (N := L.length) (fun f i s => mX8_keepWithout_6 n m f s (nI L.length) (nI v) (nI (wo v (L.take i)).length) (nI i)) (fun i s => rowL s m (wo v (L.take i)) ∧ Fr [m] [] S s) (fun r => ∃ S1, r = some (nI (wo v L).length, S1) ∧ rowL S1 m (wo v L) ∧ Fr [m] [] S S1) (by omega) ?_ ?_ S ⟨fun t ht => absurd ht (Nat.not_lt_zero t), Fr.refl _ _ S⟩
  · exact this
  · intro i f s hi hI
    have hr1 : gA s n i = nI (hexN (L.getD i 0)) := by
      rw [hI.2.1 n (by simpa using hnm)]
      exact hr i hi
    have hx := ex_lt (v := v) (hq _ (getD_mem hi))
    have hk : (wo v (L.take i)).length ≤ i := filter_take_len
    simp only [mX8_keepWithout_6, mX8_keepWithout_48, bnd_eq, nI_1]
    rw [if_neg (nI_ge hi (by omega)), ha, hb, if_neg (show ¬ Int32.ofNat 40 ≤ nI i from nI_ge (b := 40) (by omega) (by decide)), if_neg (show ¬ Int32.ofNat 40 ≤ nI (wo v (L.take i)).length from nI_ge (b := 40) (by omega) (by decide)), inb_nI (show i < 40 by omega) (by decide), hr1, exp_hex hv1 (hq _ (getD_mem hi)), obs, inb_nI (show i < 40 by omega) (by decide), inb_nI (show (wo v (L.take i)).length < 40 by omega) (by decide), hr1]
    refine Or.inl ?_
    cases hh : hv v (L.getD i 0) with
    | true =>
      have e : wo v (L.take (i + 1)) = wo v (L.take i) := by rw [wo_take hi, hh]; exact List.append_nil _
      rw [e]
      exact ⟨s, hI, if_neg (nI_ne0 (hv_iff.mp hh) (by omega))⟩
    | false =>
      have e : wo v (L.take (i + 1)) = wo v (L.take i) ++ [L.getD i 0] := by rw [wo_take hi, hh]; rfl
      rw [e, List.length_append]
      refine ⟨_, ⟨app_row hI.1, hI.2.sA (List.mem_singleton.mpr rfl)⟩, if_pos (by rw [hv_false.mp hh]; rfl)⟩
  · intro f s hI
    rw [List.take_length] at hI
    simp only [mX8_keepWithout_6]
    rw [if_pos (nI_le (Nat.le_refl _) (by omega)), List.take_length]
    exact ⟨s, rfl, hI.1, hI.2⟩
theorem someDivides_spec {S : St} {m p : Nat} {A K : List Nat} (hb : alen m = 40) (hl : A.length ≤ 40) (hq : ∀ q ∈ A, q < 2401) (hp : p < 2401) (hr : rowL S m (A ++ K)) : mX8_someDivides S m (nI A.length) (nI (hexN p)) = some (b2 (A.any (fun a => dv a p))) := by
  unfold mX8_someDivides
  refine loopG (σ := Unit) (N := A.length) (fun f i _ => mX8_someDivides_2 S m f (nI A.length) (nI (hexN p)) (nI i)) (fun i _ => (A.take i).any (fun a => dv a p) = false) (fun r => r = some (b2 (A.any (fun a => dv a p)))) (by omega) ?_ ?_ () (by simp)
  · intro i f _ hi hI
    have ht := any_take (f := fun a => dv a p) hi
    rw [hI, Bool.false_or] at ht
    have hri := hr i (by rw [List.length_append]; omega)
    rw [getD_left hi] at hri
    simp only [mX8_someDivides_2, bnd_eq, nI_1]
    rw [if_neg (nI_ge hi (by omega)), hb, if_neg (show ¬ Int32.ofNat 40 ≤ nI i from nI_ge (b := 40) (by omega) (by decide)), inb_nI (show i < 40 by omega) (by decide), hri, cdiv_spec (hq _ (getD_mem hi)) hp, obs]
    cases hd : dv (A.getD i 0) p with
    | false => exact Or.inl ⟨(), by rw [ht, hd], if_pos (by decide)⟩
    | true =>
      refine Or.inr ?_
      rw [if_neg (by decide), List.any_eq_true.mpr ⟨_, getD_mem hi, hd⟩]
      rfl
  · intro f _ hI
    rw [List.take_length] at hI
    simp only [mX8_someDivides_2]
    rw [if_pos (nI_le (Nat.le_refl _) (by omega)), hI]
    rfl
theorem sev_dv {p v : Nat} (hv1 : v < 4) (h : 1 ≤ ex v p) : dv (sevN v) p = true := dv_ex.mpr (fun u hu => by
  rw [ex_sev hv1 hu]
  split
  · rename_i he
    subst he
    exact h
  · exact Nat.zero_le _)
theorem hex_down {p v : Nat} (hv1 : v < 4) (hp : p < 2401) (h : 1 ≤ ex v p) : nI (hexN p) - nI (hexT v * 1) = nI (hexN (p - sevN v)) := by
  rw [← hex_sub hp (sev_dv hv1 h)]
  rcases (show v = 0 ∨ v = 1 ∨ v = 2 ∨ v = 3 by omega) with rfl | rfl | rfl | rfl <;> rfl
theorem dA_take {L : List Nat} {v i : Nat} (h : i < L.length) : dA v (L.take (i + 1)) = dA v (L.take i) ++ (if hv v (L.getD i 0) then [L.getD i 0 - sevN v] else []) := by
  unfold dA
  rw [filter_take h, List.map_append]
  cases hv v (L.getD i 0) <;> rfl
theorem dA_len (v : Nat) (L : List Nat) : (dA v L).length = cv v L := List.length_map _
theorem dB_take {L A : List Nat} {v i : Nat} (h : i < L.length) : dB v (L.take (i + 1)) A = dB v (L.take i) A ++ (if (!hv v (L.getD i 0) && !A.any (fun a => dv a (L.getD i 0))) then [L.getD i 0] else []) := filter_take h
theorem divide_spec2 {S : St} {n m v : Nat} {L : List Nat} (hv1 : v < 4) (hnm : n ≠ m) (ha : alen n = 40) (hb : alen m = 40) (hok : okL L) (hr : rowL S n L) : ∃ S1, mX8_divide S n m (nI L.length) (nI v) = some (nI (dvd v L).length, S1) ∧ rowL S1 m (dvd v L) ∧ Fr [m] [] S S1 := by
  have hl := hok.2.2.2
  have hq := hok.1
  have hAl : (dA v L).length ≤ L.length := by
    rw [dA_len]
    exact cv_le v L
  have hAq : ∀ q ∈ dA v L, q < 2401 := fun q hq1 => (okL_dvd hv1 hok).1 q (List.mem_append_left _ hq1)
  have part1 : ∃ S1, mX8_divide_6 n m FU S (nI L.length) (nI v) 0 0 = mX8_divide_60 n m S1 (nI L.length) (nI v) (nI (dA v L).length) ∧ rowL S1 m (dA v L) ∧ Fr [m] [] S S1 := by
    refine loopG (σ := St) (N := L.length) (fun f i s => mX8_divide_6 n m f s (nI L.length) (nI v) (nI (dA v (L.take i)).length) (nI i)) (fun i s => rowL s m (dA v (L.take i)) ∧ Fr [m] [] S s) (fun r => ∃ S1, r = mX8_divide_60 n m S1 (nI L.length) (nI v) (nI (dA v L).length) ∧ rowL S1 m (dA v L) ∧ Fr [m] [] S S1) (by omega) ?_ ?_ S ⟨fun t ht => absurd ht (Nat.not_lt_zero t), Fr.refl _ _ S⟩
    · intro i f s hi hI
      have hr1 : gA s n i = nI (hexN (L.getD i 0)) := by
        rw [hI.2.1 n (by simpa using hnm)]
        exact hr i hi
      have hp := hq _ (getD_mem hi)
      have hx := ex_lt (v := v) hp
      have hk : (dA v (L.take i)).length ≤ i := by
        rw [dA_len]
        exact filter_take_len
      simp only [mX8_divide_6, mX8_divide_54, bnd_eq, nI_1]
      rw [if_neg (nI_ge hi (by omega)), ha, hb, if_neg (show ¬ Int32.ofNat 40 ≤ nI i from nI_ge (b := 40) (by omega) (by decide)), if_neg (show ¬ Int32.ofNat 40 ≤ nI (dA v (L.take i)).length from nI_ge (b := 40) (by omega) (by decide)), inb_nI (show i < 40 by omega) (by decide), hr1, exp_hex hv1 hp, obs, inb_nI (show i < 40 by omega) (by decide), show mX3_power (nI v) 1 = some (nI (hexT v * 1)) from cpower_spec (w := 1) hv1 (by decide), obs, inb_nI (show (dA v (L.take i)).length < 40 by omega) (by decide), hr1]
      refine Or.inl ?_
      cases hh : hv v (L.getD i 0) with
      | true =>
        have e : dA v (L.take (i + 1)) = dA v (L.take i) ++ [L.getD i 0 - sevN v] := by rw [dA_take hi, hh]; rfl
        rw [e, List.length_append, hex_down hv1 hp (hv_iff.mp hh)]
        exact ⟨_, ⟨app_row hI.1, hI.2.sA (List.mem_singleton.mpr rfl)⟩, if_neg (nI_nle (hv_iff.mp hh) (by omega))⟩
      | false =>
        have e : dA v (L.take (i + 1)) = dA v (L.take i) := by rw [dA_take hi, hh]; exact List.append_nil _
        rw [e]
        exact ⟨s, hI, if_pos (by rw [hv_false.mp hh]; decide)⟩
    · intro f s hI
      rw [List.take_length] at hI
      simp only [mX8_divide_6]
      rw [if_pos (nI_le (Nat.le_refl _) (by omega)), List.take_length]
      exact ⟨s, rfl, hI.1, hI.2⟩
  obtain ⟨S0, a1, a2, a3⟩ := part1
  unfold mX8_divide
  rw [a1]
  unfold mX8_divide_60
  have := loopG (σ := St) (N := L.length) (fun f i s => mX8_divide_67 n m f s (nI L.length) (nI v) (nI (dA v L).length) (nI (dA v L ++ dB v (L.take i) (dA v L)).length) (nI i)) (fun i s => rowL s m (dA v L ++ dB v (L.take i) (dA v L)) ∧ Fr [m] [] S s) (fun r => ∃ S1, r = some (nI (dvd v L).length, S1) ∧ rowL S1 m (dvd v L) ∧ Fr [m] [] S S1) (by omega) ?_ ?_ S0 ?_
  · rw [show dA v L ++ dB v (L.take 0) (dA v L) = dA v L from List.append_nil _] at this
    exact this
  · intro i f s hi hI
    obtain ⟨i1, i3⟩ := hI
    have hr1 : gA s n i = nI (hexN (L.getD i 0)) := by
      rw [i3.1 n (by simpa using hnm)]
      exact hr i hi
    have hp := hq _ (getD_mem hi)
    have hx := ex_lt (v := v) hp
    have hsd := someDivides_spec (S := s) (m := m) (p := L.getD i 0) hb (by omega) hAq hp i1
    simp only [mX8_divide_67, mX8_divide_122, bnd_eq, nI_1]
    rw [if_neg (nI_ge hi (by omega)), ha, hb, if_neg (show ¬ Int32.ofNat 40 ≤ nI i from nI_ge (b := 40) (by omega) (by decide))]
    generalize hK : dA v L ++ dB v (L.take i) (dA v L) = K at *
    have stepK : dA v L ++ dB v (L.take (i + 1)) (dA v L) = K ++ (if (!hv v (L.getD i 0) && !(dA v L).any (fun a => dv a (L.getD i 0))) then [L.getD i 0] else []) := by
      rw [dB_take hi, ← List.append_assoc, hK]
    have hpre : dvd v L = K ++ (L.drop i).filter (fun p => !hv v p && !(dA v L).any (fun a => dv a p)) := by
      unfold dvd
      rw [← hK, List.append_assoc]
      congr 1
      unfold dB
      rw [← List.filter_append, List.take_append_drop]
    have hd40 := (okL_dvd hv1 hok).2.2.2
    rw [hpre, List.length_append] at hd40
    by_cases h40 : K.length < 40
    · rw [if_neg (show ¬ Int32.ofNat 40 ≤ nI K.length from nI_ge (b := 40) h40 (by decide)), inb_nI (show i < 40 by omega) (by decide), hr1, exp_hex hv1 hp, obs, inb_nI (show i < 40 by omega) (by decide), hr1, hsd, obs, inb_nI (show i < 40 by omega) (by decide), inb_nI h40 (by decide), hr1]
      refine Or.inl ?_
      cases hh : hv v (L.getD i 0) with
      | true =>
        rw [hh] at stepK
        have e : dA v L ++ dB v (L.take (i + 1)) (dA v L) = K := stepK.trans (List.append_nil _)
        rw [e]
        exact ⟨s, ⟨i1, i3⟩, if_neg (nI_ne0 (hv_iff.mp hh) (by omega))⟩
      | false =>
        rw [hh] at stepK
        rw [if_pos (show nI (ex v (L.getD i 0)) = 0 by rw [hv_false.mp hh]; rfl)]
        cases ha2 : (dA v L).any (fun a => dv a (L.getD i 0)) with
        | true =>
          rw [ha2] at stepK
          have e : dA v L ++ dB v (L.take (i + 1)) (dA v L) = K := stepK.trans (List.append_nil _)
          rw [e]
          exact ⟨s, ⟨i1, i3⟩, if_neg (by decide)⟩
        | false =>
          rw [ha2] at stepK
          have e : dA v L ++ dB v (L.take (i + 1)) (dA v L) = K ++ [L.getD i 0] := stepK
          rw [e]
          refine ⟨sA s m K.length (nI (hexN (L.getD i 0))), ⟨app_row i1, i3.sA (List.mem_singleton.mpr rfl)⟩, ?_⟩
          rw [if_pos (by decide), List.length_append]
          rfl
    · -- the row is full: nothing more comes
      rw [if_pos (show Int32.ofNat 40 ≤ nI K.length from nI_le (a := 40) (by omega) (by omega))]
      refine Or.inr ⟨s, ?_, ?_, i3⟩
      all_goals
        have hfin : dvd v L = K := by
          have hn : (L.drop i).filter (fun p => !hv v p && !(dA v L).any (fun a => dv a p)) = [] := List.eq_nil_of_length_eq_zero (by omega)
          rw [hpre, hn, List.append_nil]
        rw [hfin]
      exact i1
  · intro f s hI
    rw [List.take_length] at hI
    simp only [mX8_divide_67]
    rw [if_pos (nI_le (Nat.le_refl _) (by omega)), List.take_length]
    exact ⟨s, rfl, hI.1, hI.2⟩
  · rw [show dA v L ++ dB v (L.take 0) (dA v L) = dA v L from List.append_nil _]
    exact ⟨a2, a3⟩
def rowsA : List Nat := [30, 31, 32, 33, 34, 35, 36, 37, 38, 39, 40, 41, 42, 43, 44, 45, 46, 47, 48, 49, 50, 51, 52, 53, 54]
theorem mem_rows : ∀ j, j < 25 → 30 + j ∈ rowsA := by decide
theorem cD_le : ∀ d k L, cD d k L ≤ k + d := by
  intro d
  induction d with
  | zero => intro k L; exact Nat.zero_le _
  | succ d ih =>
    intro k L
    show (match pivC L with
      | none => 0
      | some v => max (k + 1) (max (cD d (k + 1) (wo v L)) (cD d (k + 1) (dvd v L)))) ≤ _
    cases pivC L with
    | none => exact Nat.zero_le _
    | some v =>
      have a := ih (k + 1) (wo v L)
      have b := ih (k + 1) (dvd v L)
      show max (k + 1) (max (cD d (k + 1) (wo v L)) (cD d (k + 1) (dvd v L))) ≤ _
      omega
theorem branch_eq (d : Nat) (S : St) (a0 a1 : Int32) : mX8_branch (d + 1) S a0 a1 = (if a0 < 24 then (inb 25 a0 fun j1 => (mX8_pivotOf S (el 29 j1) a1).bind fun r2 => if r2 = (-6) then (some S)   else (inb 25 a0 fun j3 => inb 25 (a0 + 1) fun j4 => (mX8_keepWithout (sI (sI S 28 0 ((gI S 28 0) + 1)) 28 1 (imax (gI (sI S 28 0 ((gI S 28 0) + 1)) 28 1) (a0 + 1))) (el 29 j3) (el 29 j4) a1 r2).bind fun r5 => (mX8_branch d r5.2 (a0 + 1) r5.1).bind fun r6 => inb 25 a0 fun j7 => inb 25 (a0 + 1) fun j8 => (mX8_divide r6 (el 29 j7) (el 29 j8) a1 r2).bind fun r9 => (mX8_branch d r9.2 (a0 + 1) r9.1).bind fun r10 => some r10))   else (some S)) := nrfl rfl
theorem branch_spec : ∀ (d k : Nat) (L : List Nat) (S : St) (deep : Nat), k + d = 24 → okL L → rowL S (30 + k) L → gI S 28 1 = nI deep → deep ≤ 24 → ∃ S1, mX8_branch (d + 1) S (nI k) (nI L.length) = some S1 ∧ gI S1 28 0 = gI S 28 0 + nI (cT d L) ∧ gI S1 28 1 = nI (max deep (cD d k L)) ∧ (∀ j, j ≤ k → gA S1 (30 + j) = gA S (30 + j)) ∧ Fr rowsA [(28, 0), (28, 1)] S S1 := by
  intro d
  induction d with
  | zero =>
    intro k L S deep hk hok hr hd hdl
    have : k = 24 := by omega
    subst this
    refine ⟨S, ?_, ?_, ?_, fun _ _ => rfl, Fr.refl _ _ S⟩
    · rw [branch_eq, if_neg (show ¬ nI 24 < 24 by decide)]
    · show _ = gI S 28 0 + nI 0
      rw [nI_0]
      grind
    · show _ = nI (max deep 0)
      rw [Nat.max_zero]
      exact hd
  | succ d ih =>
    intro k L S deep hk hok hr hd hdl
    have hk25 : k < 25 := by omega
    have hk26 : k + 1 < 25 := by omega
    have a0 := al_row k hk25
    have a1 : alen (30 + (k + 1)) = 40 := al_row (k + 1) hk26
    have hp := pivotOf_spec a0 hok.2.2.2 hok.1 hr
    have eT : cT (d + 1) L = (match pivC L with
      | none => 0
      | some v => 1 + cT d (wo v L) + cT d (dvd v L)) := rfl
    have eD : cD (d + 1) k L = (match pivC L with
      | none => 0
      | some v => max (k + 1) (max (cD d (k + 1) (wo v L)) (cD d (k + 1) (dvd v L)))) := rfl
    rw [branch_eq, if_pos (show nI k < 24 from nI_lt (b := 24) (by omega) (by decide)), inb_nI hk25 (by decide), el29, hp, obs]
    rcases piv_self L with ⟨p1, -⟩ | ⟨v, v1, v2, v3⟩
    · rw [p1] at eT eD ⊢
      rw [eT, eD]
      refine ⟨S, if_pos rfl, ?_, ?_, fun _ _ => rfl, Fr.refl _ _ S⟩
      · show _ = gI S 28 0 + nI 0
        rw [nI_0]
        grind
      · show _ = nI (max deep 0)
        rw [Nat.max_zero]
        exact hd
    · rw [v2] at eT eD ⊢
      have eT : cT (d + 1) L = 1 + cT d (wo v L) + cT d (dvd v L) := eT
      have eD : cD (d + 1) k L = max (k + 1) (max (cD d (k + 1) (wo v L)) (cD d (k + 1) (dvd v L))) := eD
      rw [eT, eD]
      show ∃ S1, (if nI v = -6 then _ else _) = some S1 ∧ _
      rw [if_neg (show ¬ nI v = -6 from fun e => neg_ne (a := -6) (by decide) (by omega) e.symm), inb_nI hk25 (by decide), nI_1, inb_nI hk26 (by decide), el29, el29, gI_sI_k (show 1 ≠ 0 by decide), hd, imax_nI (by omega) (by omega)]
      have f0 : Fr rowsA [(28, 0), (28, 1)] S (sI (sI S 28 0 (gI S 28 0 + 1)) 28 1 (nI (max deep (k + 1)))) := ((Fr.refl _ _ S).sI (by decide)).sI (by decide)
      have r0 : rowL (sI (sI S 28 0 (gI S 28 0 + 1)) 28 1 (nI (max deep (k + 1)))) (30 + k) L := rowL_fr hr (by rw [gA_sI, gA_sI])
      obtain ⟨S1, b1, b2, b3⟩ := keepWithout_spec (n := 30 + k) (m := 30 + (k + 1)) v1 (by omega) a0 a1 hok.2.2.2 hok.1 r0
      have c1 : gI S1 28 1 = nI (max deep (k + 1)) := by rw [b3.2 28 1 (by simp), gI_sI_same]
      have c0 : gI S1 28 0 = gI S 28 0 + 1 := by rw [b3.2 28 0 (by simp), gI_sI_k (by decide), gI_sI_same]
      have hwl := (okL_wo (v := v) hok)
      obtain ⟨S2, d1, d2, d3, d4, d5⟩ := ih (k + 1) (wo v L) S1 (max deep (k + 1)) (by omega) hwl b2 c1 (by omega)
      have g2 : ∀ j, j ≤ k → gA S2 (30 + j) = gA S (30 + j) := fun j hj => by
        rw [d4 j (by omega), b3.1 (30 + j) (by simp; omega), gA_sI, gA_sI]
      have r2 : rowL S2 (30 + k) L := rowL_fr hr (g2 k (Nat.le_refl k))
      obtain ⟨S3, e1, e2, e3⟩ := divide_spec2 (n := 30 + k) (m := 30 + (k + 1)) v1 (by omega) a0 a1 hok r2
      have hcl := cD_le d (k + 1) (wo v L)
      obtain ⟨S4, q1, q2, q3, q4, q5⟩ := ih (k + 1) (dvd v L) S3 (max (max deep (k + 1)) (cD d (k + 1) (wo v L))) (by omega) (okL_dvd v1 hok) e2 (by rw [e3.2 28 1 (by simp), d3]) (by omega)
      refine ⟨S4, ?_, ?_, ?_, fun j hj => ?_, ?_⟩
      · rw [show enc (some v) = nI v from rfl, b1, obs]
        show ((mX8_branch (d + 1) S1 (nI (k + 1)) (nI (wo v L).length)).bind _) = _
        rw [d1, obs, inb_nI hk25 (by decide), inb_nI hk26 (by decide), el29, el29, e1, obs]
        show ((mX8_branch (d + 1) S3 (nI (k + 1)) (nI (dvd v L).length)).bind _) = _
        rw [q1, obs]
      · rw [q2, e3.2 28 0 (by simp), d2, c0, ← nI_add, ← nI_add, show nI 1 = 1 from rfl]
        grind
      · rw [q3]
        exact congrArg nI (by omega)
      · rw [q4 j (by omega), e3.1 (30 + j) (by simp; omega), g2 j hj]
      · have m1 : 30 + (k + 1) ∈ rowsA := mem_rows (k + 1) hk26
        exact Fr.trans f0 (Fr.trans (b3.mono (by simpa using m1) (by simp)) (Fr.trans d5 (Fr.trans (e3.mono (by simpa using m1) (by simp)) q5)))
