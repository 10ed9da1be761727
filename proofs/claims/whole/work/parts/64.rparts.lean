/-! PURE PART: the reference's parts -/
theorem findStandard_spec {S : St} {h : Nat} {G : List Nat} (hh : h < 16) (hm : mG S h G) (hl : G.length ≤ 40) (hq : ∀ q ∈ G, q < 2401) : ∃ S1, mX11_findStandard S (nI h) = some S1 ∧ mk S1 8 (fun p => !(up G p)) ∧ Fr [8] [] S S1 := by
  unfold mX11_findStandard
  refine loopG (σ := St) (N := 2401) (fun f i s => mX11_findStandard_2 f s (nI h) (nI i)) (fun i s => (∀ p, p < i → gA s 8 p = b2 (!(up G p))) ∧ Fr [8] [] S s) (fun r => ∃ S1, r = some S1 ∧ mk S1 8 (fun p => !(up G p)) ∧ Fr [8] [] S S1) (by omega) ?_ ?_ S ⟨fun j hj => absurd hj (Nat.not_lt_zero j), Fr.refl _ _ S⟩
  · intro i f s hi hI
    refine Or.inl ⟨sA s 8 i (b2 (!(up G i))), ⟨fun p hp => ?_, hI.2.sA (by decide)⟩, ?_⟩
    · rw [gA_sA_same]
      by_cases he : p = i
      · rw [he, upd_at]
      · rw [upd_ne he]
        exact hI.1 p (by omega)
    · simp only [mX11_findStandard_2, mX11_findStandard_31]
      rw [if_neg (show ¬ (2401 : Int32) ≤ nI i from nI_ge (b := 2401) hi (by decide)), codeAt_spec hi, obs, isIn_spec hh hi (mG_fr hm hI.2 (by decide) (by decide)) hl hq, obs]
      simp only [inb_nI hi (show 2401 < 2 ^ 31 by decide), bnd_eq, nI_1, zbg_0, zbg_1]
      cases up G i with
      | true =>
        rw [if_neg (by decide)]
        rfl
      | false =>
        rw [if_pos (by decide)]
        rfl
  · intro f s hI
    simp only [mX11_findStandard_2]
    rw [if_pos (show (2401 : Int32) ≤ nI 2401 by decide)]
    exact ⟨s, rfl, hI.1, hI.2⟩
theorem isHighest_loop {S : St} {p : Nat} {T : Nat → Bool} (hp : p < 2401) (hB : mk S 8 T) : ∀ (k v n : Nat) (b : Bool), v + k = 4 → k < n → mX11_isHighest_15 S n (nI (decN p)) (b2 b) (nI v) = some (b2 (b && allF (fun v => decide (ex v p = 6) || !(T (p + sevN v))) v k)) := by
  intro k
  induction k with
  | zero =>
    intro v n b hv hn
    obtain ⟨n, rfl⟩ : ∃ m, n = m + 1 := ⟨n - 1, by omega⟩
    simp (disch := omega) only [mX11_isHighest_15, lit_nI, nI_leI', zbg_b2, allF, Bool.and_true]
    rw [if_pos (by omega)]
  | succ k ih =>
    intro v n b hv hn
    obtain ⟨n, rfl⟩ : ∃ m, n = m + 1 := ⟨n - 1, by omega⟩
    have h1 := ex_lt (v := v) hp
    have hf := ih (v + 1) n false (by omega) (by omega)
    have ht := ih (v + 1) n true (by omega) (by omega)
    have hd := decN_lt hp
    simp (disch := omega) only [mX11_isHighest_15, lit_nI, nI_leI', power_dec (by omega : v < 4) hp, ten_spec (by omega : v < 4), obs, nI_eqI, mX11_isHighest_54, mX11_isHighest_58, mX11_isHighest_59, bnd_eq, nI_add, b2_n, allF]
    rw [if_neg (by omega)]
    cases b with
    | false =>
      rw [if_pos rfl]
      rw [show nI 0 = b2 false from rfl, hf]
      simp
    | true =>
      rw [if_neg (by decide)]
      by_cases h0 : ex v p = 6
      · rw [if_pos h0, show nI 1 = b2 true from rfl, ht]
        simp [h0]
      · obtain ⟨e1, e2, e3, e4⟩ := ex_add (w := 1) (by omega : v < 4) hp (by omega)
        rw [Nat.mul_one] at e1 e2
        rw [if_neg h0, ← Nat.mul_one (tenN v), ← e2, placeOf_spec e1, obs, inb_nI e1 (by omega), hB _ e1, ite_b2]
        cases hb : T (p + sevN v) with
        | true =>
          rw [cond_true, show nI 0 = b2 false from rfl, hf]
          simp [h0, hb]
        | false =>
          rw [cond_false, show nI 1 = b2 true from rfl, ht]
          simp [h0, hb]
theorem isHighest_spec {S : St} {p : Nat} {T : Nat → Bool} (hp : p < 2401) (hB : mk S 8 T) : mX11_isHighest S (nI p) = some (b2 (hiB T p)) := by
  unfold mX11_isHighest
  rw [codeAt_spec hp, obs, inb_nI hp (by decide), hB p hp, bnd_eq, show (0 : Int32) = nI 0 from rfl, isHighest_loop hp hB 4 0 FU (T p) (by omega) (FU_gt (by decide))]
  rfl
/-- the part of a highest place, as a place -/
def pbN (p : Nat) : Nat := mk4 ((p / 343 + 1) % 7) ((p / 49 % 7 + 1) % 7) ((p / 7 % 7 + 1) % 7) ((p % 7 + 1) % 7)
theorem pbN_lt (p : Nat) : pbN p < 2401 := mk4_lt (by omega) (by omega) (by omega) (by omega)
theorem partBy_step {p x v n : Nat} (hp : p < 2401) (hv : v < 4) : mX11_partBy_4 (n + 1) (nI (decN p)) (nI x) (nI v) = mX11_partBy_4 n (nI (decN p)) (nI (x + tenN v * ((ex v p + 1) % 7))) (nI (v + 1)) := by
  have hx := ex_lt (v := v) hp
  simp only [mX11_partBy_4, mX11_partBy_36]
  rw [if_neg (show ¬ (4 : Int32) ≤ nI v from nI_ge (b := 4) hv (by decide)), power_dec hv hp, obs, ten_spec hv, obs, obs]
  simp only [bnd_eq, nI_1, nI_mul, nI_add]
  by_cases h6 : ex v p = 6
  · rw [if_pos (show nI (ex v p) = 6 by rw [h6]; rfl), h6, show nI x + 0 = nI x from nI_add x 0]
    rfl
  · rw [if_neg (show ¬ nI (ex v p) = 6 from fun e => h6 ((nI_eq (b := 6) (by omega) (by decide)).mp e)), Nat.mod_eq_of_lt (show ex v p + 1 < 7 by omega)]
theorem partBy_spec {p : Nat} (hp : p < 2401) : mX11_partBy (nI (decN p)) = some (nI (decN (pbN p))) := by
  unfold mX11_partBy
  have hF : FU = FU - 5 + 1 + 1 + 1 + 1 + 1 := by decide
  rw [hF, show mX11_partBy_4 (FU - 5 + 1 + 1 + 1 + 1 + 1) (nI (decN p)) 0 0 = _ from partBy_step (x := 0) (v := 0) hp (by decide), partBy_step hp (by decide), partBy_step hp (by decide), partBy_step hp (by decide)]
  simp only [mX11_partBy_4]
  rw [if_pos (show (4 : Int32) ≤ nI (0 + 1 + 1 + 1 + 1) by decide)]
  refine congrArg (fun z => some (nI z)) ?_
  unfold pbN
  rw [mk4_dec (by omega) (by omega) (by omega)]
  simp only [ex, tenN]
  omega
theorem decN_mono {p q : Nat} (hp : p < 2401) (hq : q < 2401) : (decN p ≤ decN q) = (p ≤ q) := by
  obtain ⟨pa, pb, pc, pd, pe⟩ := digs p hp
  obtain ⟨qa, qb, qc, qd, qe⟩ := digs q hq
  unfold decN
  generalize p / 343 = a at *
  generalize p / 49 % 7 = b at *
  generalize p / 7 % 7 = c at *
  generalize p % 7 = d at *
  generalize q / 343 = a1 at *
  generalize q / 49 % 7 = b1 at *
  generalize q / 7 % 7 = c1 at *
  generalize q % 7 = d1 at *
  refine propext ?_
  rcases Nat.lt_trichotomy a a1 with h | h | h
  · omega
  · subst h
    rcases Nat.lt_trichotomy b b1 with h | h | h
    · omega
    · subst h
      rcases Nat.lt_trichotomy c c1 with h | h | h <;> omega
    · omega
  · omega
/-- the array of parts -/
def pL (S : St) (L : List Nat) : Prop := gI S 0 13 = nI L.length ∧ ∀ i, i < L.length → gA S 9 i = nI (decN (L.getD i 0))
theorem lay_loop {S0 : St} {L1 L2 : List Nat} {r : Nat} (hr : r < 2401) (h1 : ∀ x ∈ L1, x < r) (h2 : ∀ x ∈ L2, r < x ∧ x < 2401) (hl : L1.length + L2.length < 2401) (hn : gI S0 0 13 = nI (L1.length + L2.length)) : ∀ (k n : Nat) (s : St), k ≤ L2.length → k < n → Fr [9] [] S0 s → (∀ t, t < L1.length + k → gA s 9 t = nI (decN ((L1 ++ L2).getD t 0))) → (∀ t, L1.length + k < t → t < L1.length + L2.length + 1 → gA s 9 t = nI (decN ((L1 ++ L2).getD (t - 1) 0))) → ∃ S1, mX11_layPart_5 n s (nI (decN r)) (nI (L1.length + k)) = some S1 ∧ pL S1 (L1 ++ r :: L2) ∧ Fr [9] [(0, 13)] S0 S1 := by
  have hdr := decN_lt hr
  have stop : ∀ (s : St), Fr [9] [] S0 s → (∀ t, t < L1.length → gA s 9 t = nI (decN ((L1 ++ L2).getD t 0))) → (∀ t, L1.length < t → t < L1.length + L2.length + 1 → gA s 9 t = nI (decN ((L1 ++ L2).getD (t - 1) 0))) → ∃ S1, mX11_layPart_41 s (nI (decN r)) (nI L1.length) = some S1 ∧ pL S1 (L1 ++ r :: L2) ∧ Fr [9] [(0, 13)] S0 S1 := by
    intro s hF a1 a2
    unfold mX11_layPart_41
    rw [inb_nI (show L1.length < 2401 by omega) (by decide), gI_sA, (hF.2 0 13 (by decide)), hn, nI_1]
    refine ⟨_, rfl, ⟨?_, fun t ht => ?_⟩, ((hF.mono (by simp) (by simp)).sA (by decide)).sI (by decide)⟩
    · rw [gI_sI_same, List.length_append, List.length_cons]
      exact congrArg nI (by omega)
    · rw [gA_sI, gA_sA_same]
      rw [List.length_append, List.length_cons] at ht
      by_cases he : t = L1.length
      · subst he
        rw [upd_at, show L1.length = L1.length + 0 from rfl, getD_right]
        rfl
      · rw [upd_ne he]
        by_cases hlt : t < L1.length
        · rw [a1 t hlt, getD_left hlt, getD_left hlt]
        · rw [a2 t (by omega) (by omega)]
          obtain ⟨u, rfl⟩ : ∃ u, t = L1.length + (u + 1) := ⟨t - L1.length - 1, by omega⟩
          rw [getD_right, show L1.length + (u + 1) - 1 = L1.length + u by omega, getD_right]
          rfl
  intro k
  induction k with
  | zero =>
    intro n s hk hkn hF a1 a2
    obtain ⟨n, rfl⟩ : ∃ m, n = m + 1 := ⟨n - 1, by omega⟩
    obtain ⟨S1, e1, e2, e3⟩ := stop s hF a1 a2
    refine ⟨S1, ?_, e2, e3⟩
    simp only [mX11_layPart_5, Nat.add_zero]
    by_cases h0 : L1.length = 0
    · rw [if_pos (show nI L1.length ≤ 0 from nI_le (b := 0) (by omega) (by decide))]
      exact e1
    · rw [if_neg (show ¬ nI L1.length ≤ 0 from nI_nle (by omega) (by omega)), show nI L1.length - 1 = nI (L1.length - 1) from nI_sub (b := 1) (by omega), inb_nI (show L1.length - 1 < 2401 by omega) (by decide), a1 (L1.length - 1) (by omega), getD_left (by omega)]
      have hm := h1 _ (getD_mem (G := L1) (i := L1.length - 1) (by omega))
      have hle : decN (L1.getD (L1.length - 1) 0) ≤ decN r := by
        rw [decN_mono (by omega) hr]
        omega
      rw [if_pos (nI_le hle (by omega))]
      exact e1
  | succ k ih =>
    intro n s hk hkn hF a1 a2
    obtain ⟨n, rfl⟩ : ∃ m, n = m + 1 := ⟨n - 1, by omega⟩
    have hg : (L1 ++ L2).getD (L1.length + k) 0 = L2.getD k 0 := getD_right
    have hm := h2 _ (getD_mem (G := L2) (i := k) (by omega))
    have hv := a1 (L1.length + k) (by omega)
    rw [hg] at hv
    have hdl := decN_lt hm.2
    have hgt : ¬ decN (L2.getD k 0) ≤ decN r := by
      rw [decN_mono hm.2 hr]
      omega
    obtain ⟨S1, e1, e2, e3⟩ := ih n (sA s 9 (L1.length + (k + 1)) (nI (decN (L2.getD k 0)))) (by omega) (by omega) (hF.sA (by decide)) (fun t ht => by
      rw [gA_sA_same, upd_ne (by omega)]
      exact a1 t (by omega)) (fun t ht1 ht2 => by
      rw [gA_sA_same]
      by_cases he : t = L1.length + (k + 1)
      · rw [he, upd_at, show L1.length + (k + 1) - 1 = L1.length + k by omega, hg]
      · rw [upd_ne he]
        exact a2 t (by omega) ht2)
    refine ⟨S1, ?_, e2, e3⟩
    simp only [mX11_layPart_5, bnd_eq]
    rw [if_neg (show ¬ nI (L1.length + (k + 1)) ≤ 0 from nI_nle (by omega) (by omega)), show nI (L1.length + (k + 1)) - 1 = nI (L1.length + k) from nI_sub (b := 1) (by omega), inb_nI (show L1.length + k < 2401 by omega) (by decide), hv, if_neg (nI_ge (by omega) (by omega)), inb_nI (show L1.length + k < 2401 by omega) (by decide), inb_nI (show L1.length + (k + 1) < 2401 by omega) (by decide), hv, show nI (L1.length + (k + 1)) + (-1) = nI (L1.length + k) from pk_m1 _]
    exact e1
theorem lay_spec {S : St} {L1 L2 : List Nat} {r : Nat} (hr : r < 2401) (h1 : ∀ x ∈ L1, x < r) (h2 : ∀ x ∈ L2, r < x ∧ x < 2401) (hl : L1.length + L2.length < 2401) (hp : pL S (L1 ++ L2)) : ∃ S1, mX11_layPart S (nI (decN r)) = some S1 ∧ pL S1 (L1 ++ r :: L2) ∧ Fr [9] [(0, 13)] S S1 := by
  obtain ⟨p1, p2⟩ := hp
  rw [List.length_append] at p1 p2
  unfold mX11_layPart
  rw [bnd_eq, p1]
  exact lay_loop hr h1 h2 hl p1 L2.length FU S (Nat.le_refl _) (FU_gt (by omega)) (Fr.refl _ _ S) p2 (fun t ht1 ht2 => by omega)
/-- parts of the places below i -/
def plsI (T : Nat → Bool) (i : Nat) : List Nat := (List.range 2401).filter (fun r => decide (unN r < i) && hiB T (unN r))
theorem un_pb {p : Nat} (hp : p < 2401) : unN (pbN p) = p := by
  obtain ⟨ha, hb, hc, hd, he⟩ := digs p hp
  obtain ⟨e1, e2, e3, e4⟩ := mk4_dig (a := (p / 343 + 1) % 7) (b := (p / 49 % 7 + 1) % 7) (c := (p / 7 % 7 + 1) % 7) (d := (p % 7 + 1) % 7) (by omega) (by omega) (by omega)
  unfold unN cio
  have f1 : pbN p / 7 / 49 = (p / 343 + 1) % 7 := by rw [Nat.div_div_eq_div_mul]; exact e1
  have f2 : pbN p / 7 / 7 % 7 = (p / 49 % 7 + 1) % 7 := by rw [Nat.div_div_eq_div_mul]; exact e2
  have f3 : pbN p / 7 % 7 = (p / 7 % 7 + 1) % 7 := e3
  have f4 : pbN p % 7 = (p % 7 + 1) % 7 := e4
  generalize pbN p / 7 / 49 = x1 at *
  generalize pbN p / 7 / 7 = x2 at *
  generalize pbN p / 7 = x3 at *
  generalize pbN p = x4 at *
  clear e1 e2 e3 e4
  omega
theorem un_mk4 (r : Nat) : unN r = mk4 ((r / 343 + 6) % 7) ((r / 49 + 6) % 7) ((r / 7 + 6) % 7) ((r + 6) % 7) := by
  unfold unN cio mk4
  rw [show r / 7 / 49 = r / 343 from Nat.div_div_eq_div_mul r 7 49, show r / 7 / 7 = r / 49 from Nat.div_div_eq_div_mul r 7 7]
  generalize (r / 343 + 6) % 7 = x1
  generalize (r / 49 + 6) % 7 = x2
  generalize (r / 7 + 6) % 7 = x3
  generalize (r + 6) % 7 = x4
  omega
theorem pb_un {r : Nat} (hr : r < 2401) : pbN (unN r) = r := by
  obtain ⟨e1, e2, e3, e4⟩ := mk4_dig (a := (r / 343 + 6) % 7) (b := (r / 49 + 6) % 7) (c := (r / 7 + 6) % 7) (d := (r + 6) % 7) (by omega) (by omega) (by omega)
  rw [← un_mk4] at e1 e2 e3 e4
  unfold pbN
  rw [e1, e2, e3, e4, show ((r / 343 + 6) % 7 + 1) % 7 = r / 343 by omega, show ((r / 49 + 6) % 7 + 1) % 7 = r / 49 % 7 by omega, show ((r / 7 + 6) % 7 + 1) % 7 = r / 7 % 7 by omega, show ((r + 6) % 7 + 1) % 7 = r % 7 by omega]
  exact (digs r hr).2.2.2.2.symm
theorem range_split {N r : Nat} (h : r < N) : List.range N = List.range r ++ r :: List.range' (r + 1) (N - r - 1) := by
  rw [List.range_eq_range', List.range_eq_range', show N = r + (N - r - 1 + 1) by omega, ← List.range'_append_1, List.range'_succ, show r + (N - r - 1 + 1) - r - 1 = N - r - 1 by omega, Nat.zero_add]
theorem plsI_step {T : Nat → Bool} {i : Nat} (hi : i < 2401) : (hiB T i = false → plsI T (i + 1) = plsI T i) ∧ (hiB T i = true → ∃ L1 L2, plsI T i = L1 ++ L2 ∧ plsI T (i + 1) = L1 ++ pbN i :: L2 ∧ (∀ x ∈ L1, x < pbN i) ∧ (∀ x ∈ L2, pbN i < x ∧ x < 2401) ∧ L1.length + L2.length < 2401) := by
  refine ⟨fun h => ?_, fun h => ?_⟩
  · unfold plsI
    refine List.filter_congr (fun r hr => ?_)
    by_cases he : unN r = i
    · rw [he, h, Bool.and_false, Bool.and_false]
    · congr 1
      exact decide_eq_decide.mpr (by omega)
  · have hp := pbN_lt i
    refine ⟨(List.range (pbN i)).filter (fun r => decide (unN r < i) && hiB T (unN r)), (List.range' (pbN i + 1) (2401 - pbN i - 1)).filter (fun r => decide (unN r < i) && hiB T (unN r)), ?_, ?_, fun x hx => ?_, fun x hx => ?_, ?_⟩
    · unfold plsI
      rw [range_split hp, List.filter_append, List.filter_cons, un_pb hi, decide_eq_false (Nat.lt_irrefl i), Bool.false_and, if_neg (by decide)]
    · unfold plsI
      rw [range_split hp, List.filter_append, List.filter_cons, un_pb hi, decide_eq_true (Nat.lt_succ_self i), h, if_pos (show (true && true) = true from rfl)]
      have same : ∀ x, x < 2401 → x ≠ pbN i → (decide (unN x < i + 1) && hiB T (unN x)) = (decide (unN x < i) && hiB T (unN x)) := fun x hx hne => by
        have : unN x ≠ i := fun e => hne (by rw [← e, pb_un hx])
        congr 1
        exact decide_eq_decide.mpr (by omega)
      congr 1
      · refine List.filter_congr (fun x hx => ?_)
        have := List.mem_range.mp hx
        exact same x (by omega) (by omega)
      · congr 1
        refine List.filter_congr (fun x hx => ?_)
        obtain ⟨z, z1, z2⟩ := List.mem_range'.mp hx
        exact same x (by omega) (by omega)
    · exact List.mem_range.mp (List.mem_filter.mp hx).1
    · obtain ⟨z, z1, z2⟩ := List.mem_range'.mp (List.mem_filter.mp hx).1
      omega
    · have h1 := List.length_filter_le (fun r => decide (unN r < i) && hiB T (unN r)) (List.range (pbN i))
      have h2 := List.length_filter_le (fun r => decide (unN r < i) && hiB T (unN r)) (List.range' (pbN i + 1) (2401 - pbN i - 1))
      rw [List.length_range] at h1
      rw [List.length_range'] at h2
      omega
theorem findParts_spec {S : St} {h : Nat} {G : List Nat} (hh : h < 16) (hm : mG S h G) (hl : G.length ≤ 40) (hq : ∀ q ∈ G, q < 2401) : ∃ S1, mX11_findParts S (nI h) = some S1 ∧ pL S1 (pls (fun p => !(up G p))) ∧ mk S1 8 (fun p => !(up G p)) ∧ Fr [8, 9] [(0, 13)] S S1 := by
  obtain ⟨S0, a1, a2, a3⟩ := findStandard_spec hh hm hl hq
  unfold mX11_findParts
  rw [a1, obs]
  have e0 : plsI (fun p => !(up G p)) 0 = [] := by
    unfold plsI
    rw [List.filter_eq_nil_iff]
    intro r _
    simp
  have eN : plsI (fun p => !(up G p)) 2401 = pls (fun p => !(up G p)) := by
    unfold plsI pls
    refine List.filter_congr (fun r _ => ?_)
    rw [decide_eq_true (unN_lt r), Bool.true_and]
  rw [← eN]
  generalize hT : (fun p => !(up G p)) = T at *
  refine loopG (σ := St) (N := 2401) (fun f i s => mX11_findParts_12 f s (nI i)) (fun i s => pL s (plsI T i) ∧ mk s 8 T ∧ Fr [8, 9] [(0, 13)] S s) (fun r => ∃ S1, r = some S1 ∧ pL S1 (plsI T 2401) ∧ mk S1 8 T ∧ Fr [8, 9] [(0, 13)] S S1) (by omega) ?_ ?_ (sI S0 0 13 0) ⟨?_, fun p hp => by rw [gA_sI]; exact a2 p hp, (a3.mono (by simp) (by simp)).sI (by decide)⟩
  · intro i f s hi hI
    obtain ⟨i1, i2, i3⟩ := hI
    refine Or.inl ?_
    obtain ⟨g1, g2⟩ := plsI_step (T := T) hi
    simp only [mX11_findParts_12, mX11_findParts_38, bnd_eq, nI_1]
    rw [if_neg (show ¬ (2401 : Int32) ≤ nI i from nI_ge (b := 2401) hi (by decide)), isHighest_spec hi i2, obs]
    cases hb : hiB T i with
    | false => exact ⟨s, ⟨by rw [g1 hb]; exact i1, i2, i3⟩, if_pos (by decide)⟩
    | true =>
      obtain ⟨L1, L2, l1, l2, l3, l4, l5⟩ := g2 hb
      rw [l1] at i1
      obtain ⟨s1, e1, e2, e3⟩ := lay_spec (pbN_lt i) l3 l4 l5 i1
      refine ⟨s1, ⟨by rw [l2]; exact e2, fun p hp => by rw [e3.1 8 (by decide)]; exact i2 p hp, i3.trans (e3.mono (by simp) (by simp))⟩, ?_⟩
      rw [if_neg (by decide), codeAt_spec hi, obs, partBy_spec hi, obs, e1, obs]
  · intro f s hI
    simp only [mX11_findParts_12]
    rw [if_pos (show (2401 : Int32) ≤ nI 2401 by decide)]
    exact ⟨s, rfl, hI⟩
  · rw [e0]
    exact ⟨gI_sI_same _ _ _ _, fun i hi => absurd hi (Nat.not_lt_zero i)⟩
