/-! PURE PART: the reference's tree -/
def lsL (S : St) (M : List Nat) : Prop := gI S 0 19 = nI M.length ∧ ∀ i, i < M.length → gA S 13 i = nI (decN (M.getD i 0))
def lfT (M : List Nat) (a b : Nat) : Bool := decide (b ≤ a) || decide (supN (M.getD a 0) &&& supN (M.getD b 0) = 0)
def lfI (M : List Nat) (a i : Nat) : Bool := (List.range i).all (lfT M a)
def lfO (M : List Nat) (i : Nat) : Bool := (List.range i).all (fun a => lfI M a M.length)
theorem all_succ (f : Nat → Bool) (i : Nat) : (List.range (i + 1)).all f = ((List.range i).all f && f i) := by
  rw [List.range_succ, List.all_append]
  simp
theorem leaf_inner {S : St} {M : List Nat} {a : Nat} (k4 : Int32 → Int32 → Option Int32) (hl : M.length ≤ 40) (hq : ∀ q ∈ M, q < 2401) (h : lsL S M) (ha : a < M.length) : ∀ (k i n : Nat) (b : Bool), i + k = M.length → k < n → a < i → mX11_isLeaf_16 S k4 n (b2 (b && lfI M a i)) (nI a) (nI i) = k4 (b2 (b && lfI M a M.length)) (nI (a + 1)) := by
  intro k
  induction k with
  | zero =>
    intro i n b hi hn hai
    obtain ⟨n, rfl⟩ : ∃ m, n = m + 1 := ⟨n - 1, by omega⟩
    have : i = M.length := by omega
    subst this
    simp only [mX11_isLeaf_16]
    rw [h.1, if_pos (nI_le (Nat.le_refl _) (by omega)), bnd_eq, nI_1]
  | succ k ih =>
    intro i n b hi hn hai
    obtain ⟨n, rfl⟩ : ∃ m, n = m + 1 := ⟨n - 1, by omega⟩
    have hil : i < M.length := by omega
    have s1 := (supN_bits (M.getD a 0)).1
    have s2 := (supN_bits (M.getD i 0)).1
    have hand : supN (M.getD a 0) &&& supN (M.getD i 0) < 2 ^ 4 := Nat.and_lt_two_pow _ s2
    have e : lfI M a (i + 1) = (lfI M a i && decide (supN (M.getD a 0) &&& supN (M.getD i 0) = 0)) := by
      unfold lfI
      rw [all_succ]
      congr 1
      unfold lfT
      rw [decide_eq_false (show ¬ i ≤ a by omega), Bool.false_or]
    have iht := ih (i + 1) n b (by omega) (by omega) (by omega)
    simp only [mX11_isLeaf_16, mX11_isLeaf_54, mX11_isLeaf_55, bnd_eq, nI_1]
    rw [h.1, if_neg (nI_ge hil (by omega)), inb_nI (show a < 40 by omega) (by decide), h.2 a ha, rsupport_spec (hq _ (getD_mem ha)), obs, inb_nI (show i < 40 by omega) (by decide), h.2 i hil, rsupport_spec (hq _ (getD_mem hil)), obs, nI_and]
    rw [e] at iht
    cases hb : (b && lfI M a i) with
    | false =>
      rw [if_pos (by decide)]
      rw [show (b && (lfI M a i && decide (supN (M.getD a 0) &&& supN (M.getD i 0) = 0))) = false by rw [← Bool.and_assoc, hb]; rfl] at iht
      exact iht
    | true =>
      rw [if_neg (by decide)]
      rw [← Bool.and_assoc, hb, Bool.true_and] at iht
      by_cases hz : supN (M.getD a 0) &&& supN (M.getD i 0) = 0
      · rw [decide_eq_true hz] at iht
        rw [if_pos (show nI (supN (M.getD a 0) &&& supN (M.getD i 0)) = 0 by rw [hz]; rfl)]
        exact iht
      · rw [decide_eq_false hz] at iht
        rw [if_neg (nI_ne0 (by omega) (by omega))]
        exact iht
theorem isLeaf_spec {S : St} {M : List Nat} (hl : M.length ≤ 40) (hq : ∀ q ∈ M, q < 2401) (h : lsL S M) : mX11_isLeaf S = some (b2 (lfO M M.length)) := by
  unfold mX11_isLeaf
  refine loopN (N := M.length) (fun f a => mX11_isLeaf_4 S f (b2 (lfO M a)) (nI a)) (by omega) ?_ ?_
  · intro a f ha
    have h1 : lfI M a (a + 1) = true := by
      unfold lfI
      rw [List.all_eq_true]
      intro b hb
      unfold lfT
      rw [decide_eq_true (show b ≤ a by have := List.mem_range.mp hb; omega), Bool.true_or]
    have := leaf_inner (mX11_isLeaf_4 S f) hl hq h ha (M.length - (a + 1)) (a + 1) FU (lfO M a) (by omega) (FU_gt (by omega)) (by omega)
    rw [h1, Bool.and_true] at this
    simp only [mX11_isLeaf_4]
    rw [h.1, if_neg (nI_ge ha (by omega)), bnd_eq, nI_1, this]
    rw [show lfO M (a + 1) = (lfO M a && lfI M a M.length) from all_succ _ _]
  · intro f
    simp only [mX11_isLeaf_4]
    rw [h.1, if_pos (nI_le (Nat.le_refl _) (by omega)), zbg_b2]
theorem and_bits : ∀ x, x < 16 → ∀ y, y < 16 → decide (x &&& y = 0) = (List.range 4).all (fun v => decide (x / 2 ^ v % 2 = 0) || decide (y / 2 ^ v % 2 = 0)) := by decide +kernel
theorem sup_and {p q : Nat} : supN p &&& supN q = 0 ↔ ∀ v, v < 4 → ex v p = 0 ∨ ex v q = 0 := by
  have h := and_bits _ (supN_bits p).1 _ (supN_bits q).1
  constructor
  · intro hz v hv1
    rw [decide_eq_true hz] at h
    have := List.all_eq_true.mp h.symm v (List.mem_range.mpr hv1)
    rw [Bool.or_eq_true, decide_eq_true_eq, decide_eq_true_eq, sup_bit hv1, sup_bit hv1] at this
    exact this
  · intro hz
    have : (List.range 4).all (fun v => decide (supN p / 2 ^ v % 2 = 0) || decide (supN q / 2 ^ v % 2 = 0)) = true := List.all_eq_true.mpr (fun v hv1 => by
      rw [Bool.or_eq_true, decide_eq_true_eq, decide_eq_true_eq, sup_bit (List.mem_range.mp hv1), sup_bit (List.mem_range.mp hv1)]
      exact hz v (List.mem_range.mp hv1))
    rw [this] at h
    exact of_decide_eq_true h
theorem leaf_iff {M : List Nat} : lfO M M.length = true ↔ ∀ v, v < 4 → cv v M ≤ 1 := by
  have key : lfO M M.length = true ↔ ∀ a b, a < b → b < M.length → supN (M.getD a 0) &&& supN (M.getD b 0) = 0 := by
    unfold lfO lfI
    rw [List.all_eq_true]
    constructor
    · intro h a b hab hb
      have := List.all_eq_true.mp (h a (List.mem_range.mpr (by omega))) b (List.mem_range.mpr hb)
      unfold lfT at this
      rw [decide_eq_false (show ¬ b ≤ a by omega), Bool.false_or, decide_eq_true_eq] at this
      exact this
    · intro h a ha
      rw [List.all_eq_true]
      intro b hb
      unfold lfT
      by_cases hba : b ≤ a
      · rw [decide_eq_true hba, Bool.true_or]
      · rw [decide_eq_true (h a b (by omega) (List.mem_range.mp hb)), Bool.or_true]
  rw [key]
  constructor
  · intro h v hv1
    have hp : M.Pairwise (fun x y => supN x &&& supN y = 0) := by
      rw [List.pairwise_iff_getElem]
      intro i j hi hj hij
      have := h i j hij hj
      rw [List.getD_eq_getElem?_getD, List.getElem?_eq_getElem hi, List.getD_eq_getElem?_getD, List.getElem?_eq_getElem hj] at this
      exact this
    have hf := List.Pairwise.filter (hv v) hp
    unfold cv
    match hfl : M.filter (hv v) with
    | [] => exact Nat.zero_le _
    | [x] => exact Nat.le_refl _
    | x :: y :: rest =>
      exfalso
      rw [hfl] at hf
      have hxy := (List.pairwise_cons.mp hf).1 y (by simp)
      have hx : x ∈ M.filter (hv v) := by rw [hfl]; simp
      have hy : y ∈ M.filter (hv v) := by rw [hfl]; simp
      have h1 := hv_iff.mp (List.mem_filter.mp hx).2
      have h2 := hv_iff.mp (List.mem_filter.mp hy).2
      rcases sup_and.mp hxy v hv1 with z | z <;> omega
  · intro h a b hab hb
    rw [sup_and]
    intro v hv1
    by_cases h1 : ex v (M.getD a 0) = 0
    · exact Or.inl h1
    · by_cases h2 : ex v (M.getD b 0) = 0
      · exact Or.inr h2
      · exfalso
        have e1 := cv_take (v := v) (show a < M.length by omega)
        have e2 := cv_take (v := v) hb
        rw [if_pos (hv_iff.mpr (by omega))] at e1 e2
        have mono : ∀ i j, i ≤ j → cv v (M.take i) ≤ cv v (M.take j) := fun i j hij => by
          have : M.take i = (M.take j).take i := by rw [List.take_take, Nat.min_eq_left hij]
          rw [this]
          have e := cv_append v ((M.take j).take i) ((M.take j).drop i)
          rw [List.take_append_drop] at e
          omega
        have m1 := mono (a + 1) b (by omega)
        have m2 := mono (b + 1) M.length (by omega)
        rw [List.take_length] at m2
        have := h v hv1
        omega
theorem rpivot_inner {S : St} {M : List Nat} {v : Nat} {x1 x2 : Int32} (k6 : Int32 → Int32 → Int32 → Option Int32) (hv1 : v < 4) (hl : M.length ≤ 40) (hq : ∀ q ∈ M, q < 2401) (h : lsL S M) : mX11_pivot_17 S k6 FU x1 x2 (nI v) 0 0 = (if nI (cv v M) ≤ x2 then mX11_pivot_67 S k6 x2 (nI v) (nI (cv v M)) x1 else mX11_pivot_67 S k6 x2 (nI v) (nI (cv v M)) (nI v)) := by
  have := loopN (N := M.length) (R := (if nI (cv v M) ≤ x2 then mX11_pivot_67 S k6 x2 (nI v) (nI (cv v M)) x1 else mX11_pivot_67 S k6 x2 (nI v) (nI (cv v M)) (nI v))) (fun f i => mX11_pivot_17 S k6 f x1 x2 (nI v) (nI (cv v (M.take i))) (nI i)) (by omega) ?_ ?_
  · exact this
  · intro i f hi
    have hx := ex_lt (v := v) (hq _ (getD_mem hi))
    simp only [mX11_pivot_17, mX11_pivot_47, bnd_eq, nI_1]
    rw [h.1, if_neg (nI_ge hi (by omega)), inb_nI (show i < 40 by omega) (by decide), h.2 i hi, power_dec hv1 (hq _ (getD_mem hi)), obs, cv_take hi]
    cases hh : hv v (M.getD i 0) with
    | true => rw [if_neg (show ¬ nI (ex v (M.getD i 0)) ≤ 0 from nI_nle (hv_iff.mp hh) (by omega)), if_pos rfl]
    | false =>
      rw [if_pos (show nI (ex v (M.getD i 0)) ≤ 0 by rw [hv_false.mp hh]; decide), if_neg (by decide), show nI (cv v (M.take i)) + 0 = nI (cv v (M.take i)) from nI_add _ 0]
      try rfl
  · intro f
    simp only [mX11_pivot_17]
    rw [h.1, if_pos (nI_le (Nat.le_refl _) (by omega)), List.take_length]
theorem rvI_bd (M : List Nat) (hl : M.length ≤ 40) : ∀ v, (rvI M v).2 ≤ 40 := fun v => by
  induction v with
  | zero => exact Nat.le_trans (cv_le 0 M) hl
  | succ v ih =>
    show (if cv (v + 1) M ≤ (rvI M v).2 then rvI M v else (v + 1, cv (v + 1) M)).2 ≤ 40
    split
    · exact ih
    · exact Nat.le_trans (cv_le (v + 1) M) hl
theorem rpiv_step {S : St} {M : List Nat} {v n : Nat} (hv1 : v + 1 < 4) (hl : M.length ≤ 40) (hq : ∀ q ∈ M, q < 2401) (h : lsL S M) : mX11_pivot_6 S (n + 1) (nI (rvI M v).1) (nI (rvI M v).2) (nI (v + 1)) = mX11_pivot_6 S n (nI (rvI M (v + 1)).1) (nI (rvI M (v + 1)).2) (nI (v + 1 + 1)) := by
  have hb := rvI_bd M hl v
  have hc := Nat.le_trans (cv_le (v + 1) M) hl
  have e : rvI M (v + 1) = if cv (v + 1) M ≤ (rvI M v).2 then rvI M v else (v + 1, cv (v + 1) M) := rfl
  simp only [mX11_pivot_6]
  rw [if_neg (show ¬ (4 : Int32) ≤ nI (v + 1) from nI_ge (b := 4) hv1 (by decide)), rpivot_inner (mX11_pivot_6 S n) hv1 hl hq h]
  simp only [mX11_pivot_67]
  rw [greater_imax, obs, imax_nI (by omega) (by omega), bnd_eq, obs, bnd_eq, nI_1, e]
  by_cases hm : cv (v + 1) M ≤ (rvI M v).2
  · rw [if_pos (nI_le hm (by omega)), if_pos hm, Nat.max_eq_left hm]
  · rw [if_neg (nI_ge (by omega) (by omega)), if_neg hm, Nat.max_eq_right (by omega)]
theorem pivot_spec {S : St} {M : List Nat} (hl : M.length ≤ 40) (hq : ∀ q ∈ M, q < 2401) (h : lsL S M) : mX11_pivot S = some (nI (rvI M 3).1) := by
  have hc := Nat.le_trans (cv_le 0 M) hl
  have hfuel : ∀ n, mX11_pivot_6 S (n + 1 + 1 + 1 + 1 + 1) 0 (-1) 0 = some (nI (rvI M 3).1) := fun n => by
    have first : mX11_pivot_6 S (n + 1 + 1 + 1 + 1 + 1) 0 (-1) 0 = mX11_pivot_6 S (n + 1 + 1 + 1 + 1) (nI (rvI M 0).1) (nI (rvI M 0).2) (nI (0 + 1)) := by
      rw [mX11_pivot_6]
      rw [if_neg (by decide), show mX11_pivot_17 S (mX11_pivot_6 S (n + 1 + 1 + 1 + 1)) FU 0 (-1) 0 0 0 = _ from rpivot_inner (v := 0) (mX11_pivot_6 S (n + 1 + 1 + 1 + 1)) (by decide) hl hq h]
      have hneg : ¬ nI (cv 0 M) ≤ -1 := fun z => by
        rw [Int32.le_iff_toInt_le, nI_toInt (by omega), show (-1 : Int32).toInt = -1 from by decide] at z
        omega
      rw [if_neg hneg]
      unfold mX11_pivot_67
      rw [greater_imax, obs, bnd_eq]
      have hmax : imax (-1) (nI (cv 0 M)) = nI (cv 0 M) := by
        unfold imax
        rw [if_pos]
        rw [Int32.lt_iff_toInt_lt, nI_toInt (by omega), show (-1 : Int32).toInt = -1 from by decide]
        omega
      rw [hmax]
      rfl
    rw [first, rpiv_step (by decide) hl hq h, rpiv_step (by decide) hl hq h, rpiv_step (by decide) hl hq h]
    rw [mX11_pivot_6]
    rw [if_pos (show (4 : Int32) ≤ nI (0 + 1 + 1 + 1 + 1) by decide)]
  exact hfuel 1073741819
/-! the stack -/
def stkL (S : St) (t : Nat) (K : List Nat) : Prop := gA S 11 t = nI K.length ∧ ∀ i, i < K.length → gA S 10 (40 * t + i) = nI (decN (K.getD i 0))
def FrT (t : Nat) (S S1 : St) : Prop := (∀ m, m ≠ 10 → m ≠ 11 → m ≠ 12 → gA S1 m = gA S m) ∧ (∀ m k, gI S1 m k = gI S m k) ∧ (∀ x, (x < 40 * t ∨ 40 * t + 40 ≤ x) → gA S1 10 x = gA S 10 x) ∧ (∀ y, y ≠ t → gA S1 11 y = gA S 11 y) ∧ ∀ y, y ≠ t → gA S1 12 y = gA S 12 y
theorem FrT.refl (t : Nat) (S : St) : FrT t S S := ⟨fun _ _ _ _ => rfl, fun _ _ => rfl, fun _ _ => rfl, fun _ _ => rfl, fun _ _ => rfl⟩
theorem FrT.trans {t : Nat} {S S1 S2 : St} (a : FrT t S S1) (b : FrT t S1 S2) : FrT t S S2 := ⟨fun m h1 h2 h3 => (b.1 m h1 h2 h3).trans (a.1 m h1 h2 h3), fun m k => (b.2.1 m k).trans (a.2.1 m k), fun x hx => (b.2.2.1 x hx).trans (a.2.2.1 x hx), fun y hy => (b.2.2.2.1 y hy).trans (a.2.2.2.1 y hy), fun y hy => (b.2.2.2.2 y hy).trans (a.2.2.2.2 y hy)⟩
theorem push_spec {S : St} {t x : Nat} {K : List Nat} (ht : t < 60) (h17 : gI S 0 17 = nI t) (hK : stkL S t K) (hl : K.length < 40) : ∃ S1, mX11_push S (nI (decN x)) = some S1 ∧ stkL S1 t (K ++ [x]) ∧ gA S1 12 = gA S 12 ∧ FrT t S S1 := by
  refine ⟨sA (sA S 10 (40 * t + K.length) (nI (decN x))) 11 t (nI (K.length + 1)), ?_, ⟨?_, fun i hi => ?_⟩, ?_, ?_⟩
  · unfold mX11_push
    rw [h17, inb_nI ht (by decide), hK.1, show (40 : Int32) * nI t + nI K.length = nI (40 * t + K.length) by rw [show (40 : Int32) = nI 40 from rfl, nI_mul, nI_add], inb_nI (show 40 * t + K.length < 2400 by omega) (by decide), gI_sA, h17, inb_nI ht (by decide), inb_nI ht (by decide), gA_sA_ne (by decide), hK.1, nI_1]
  · rw [gA_sA_same, upd_at, List.length_append]
    rfl
  · rw [gA_sA_ne (by decide), gA_sA_same]
    rw [List.length_append] at hi
    have hi : i < K.length + 1 := hi
    by_cases he : i = K.length
    · subst he
      rw [upd_at, show K.length = K.length + 0 from rfl, getD_right]
      rfl
    · rw [upd_ne (by omega), hK.2 i (by omega), getD_left (by omega)]
  · rw [gA_sA_ne (by decide), gA_sA_ne (by decide)]
  · refine ⟨fun m h1 h2 _ => by rw [gA_sA_ne h2, gA_sA_ne h1], fun _ _ => by rw [gI_sA, gI_sA], fun y hy => ?_, fun y hy => ?_, fun y _ => ?_⟩
    · rw [gA_sA_ne (by decide), gA_sA_same, upd_ne (by omega)]
    · rw [gA_sA_same, upd_ne hy, gA_sA_ne (by decide)]
    · rw [gA_sA_ne (by decide), gA_sA_ne (by decide)]
theorem opens_spec {S : St} {t : Nat} {k : Int32} (ht : t < 60) (h17 : gI S 0 17 = nI t) : ∃ S1, mX11_opens S k = some S1 ∧ stkL S1 t [] ∧ gA S1 12 t = k ∧ FrT t S S1 := by
  refine ⟨sA (sA S 11 t 0) 12 t k, ?_, ⟨?_, fun i hi => absurd hi (Nat.not_lt_zero i)⟩, ?_, ?_⟩
  · unfold mX11_opens
    rw [h17, inb_nI ht (by decide), gI_sA, h17, inb_nI ht (by decide)]
  · rw [gA_sA_ne (by decide), gA_sA_same, upd_at]
    rfl
  · rw [gA_sA_same, upd_at]
  · refine ⟨fun m _ h2 h3 => by rw [gA_sA_ne h3, gA_sA_ne h2], fun _ _ => by rw [gI_sA, gI_sA], fun y hy => ?_, fun y hy => ?_, fun y hy => ?_⟩
    · rw [gA_sA_ne (by decide), gA_sA_ne (by decide)]
    · rw [gA_sA_ne (by decide), gA_sA_same, upd_ne hy]
    · rw [gA_sA_same, upd_ne hy, gA_sA_ne (by decide)]
theorem lsL_fr {t : Nat} {S S1 : St} {M : List Nat} (h : lsL S M) (hF : FrT t S S1) : lsL S1 M := ⟨(hF.2.1 0 19).trans h.1, fun i hi => by rw [hF.1 13 (by decide) (by decide) (by decide)]; exact h.2 i hi⟩
theorem ten_dec {v : Nat} (hv1 : v < 4) : nI (tenN v) = nI (decN (sevN v)) := by
  rcases (show v = 0 ∨ v = 1 ∨ v = 2 ∨ v = 3 by omega) with rfl | rfl | rfl | rfl <;> rfl
theorem wo_len_take {M : List Nat} {v i : Nat} : (wo v (M.take i)).length ≤ (wo v M).length := by
  have : wo v M = wo v (M.take i) ++ wo v (M.drop i) := by
    unfold wo
    rw [← List.filter_append, List.take_append_drop]
  rw [this, List.length_append]
  omega
theorem pushSum_spec {S : St} {t v k : Nat} {M : List Nat} (hv1 : v < 4) (ht : t < 59) (h17 : gI S 0 17 = nI t) (hl : M.length ≤ 40) (hw : (wo v M).length + 1 ≤ 40) (hq : ∀ q ∈ M, q < 2401) (h : lsL S M) : ∃ S0 S1, mX11_pushSum S (nI v) (nI k) = some S1 ∧ S1 = sI S0 0 17 (nI (t + 1)) ∧ stkL S0 t (sevN v :: wo v M) ∧ gA S0 12 t = nI k ∧ FrT t S S0 := by
  obtain ⟨U, a1, a2, a3, a4⟩ := opens_spec (k := nI k) (by omega) h17
  obtain ⟨U1, b1, b2, b3, b4⟩ := push_spec (x := sevN v) (by omega) ((a4.2.1 0 17).trans h17) a2 (by decide)
  have hF := a4.trans b4
  have : ∃ S0, mX11_pushSum_15 FU U1 (nI v) 0 = some (sI S0 0 17 (nI (t + 1))) ∧ stkL S0 t (sevN v :: wo v M) ∧ gA S0 12 = gA U1 12 ∧ FrT t S S0 := by
    refine loopG (σ := St) (N := M.length) (fun f i s => mX11_pushSum_15 f s (nI v) (nI i)) (fun i s => stkL s t (sevN v :: wo v (M.take i)) ∧ gA s 12 = gA U1 12 ∧ FrT t S s) (fun r => ∃ S0, r = some (sI S0 0 17 (nI (t + 1))) ∧ stkL S0 t (sevN v :: wo v M) ∧ gA S0 12 = gA U1 12 ∧ FrT t S S0) (by omega) ?_ ?_ U1 ⟨b2, rfl, hF⟩
    · intro i f s hi hI
      obtain ⟨i1, i2, i3⟩ := hI
      have h1 := lsL_fr h i3
      have hx := ex_lt (v := v) (hq _ (getD_mem hi))
      have hk := wo_len_take (M := M) (v := v) (i := i + 1)
      simp only [mX11_pushSum_15, mX11_pushSum_46, bnd_eq, nI_1]
      rw [h1.1, if_neg (nI_ge hi (by omega)), inb_nI (show i < 40 by omega) (by decide), h1.2 i hi, power_dec hv1 (hq _ (getD_mem hi)), obs, inb_nI (show i < 40 by omega) (by decide), h1.2 i hi]
      refine Or.inl ?_
      cases hh : hv v (M.getD i 0) with
      | true =>
        have e : wo v (M.take (i + 1)) = wo v (M.take i) := by rw [wo_take hi, hh]; exact List.append_nil _
        rw [e]
        exact ⟨s, ⟨i1, i2, i3⟩, if_neg (nI_ne0 (hv_iff.mp hh) (by omega))⟩
      | false =>
        have e : wo v (M.take (i + 1)) = wo v (M.take i) ++ [M.getD i 0] := by rw [wo_take hi, hh]; rfl
        have hlen : (sevN v :: wo v (M.take i)).length < 40 := by
          rw [e, List.length_append] at hk
          have hk : (wo v (M.take i)).length + 1 ≤ (wo v M).length := hk
          show (wo v (M.take i)).length + 1 < 40
          omega
        obtain ⟨s1, c1, c2, c3, c4⟩ := push_spec (x := M.getD i 0) (by omega) ((i3.2.1 0 17).trans h17) i1 hlen
        refine ⟨s1, ⟨?_, c3.trans i2, i3.trans c4⟩, ?_⟩
        · rw [e]
          exact c2
        · rw [if_pos (show nI (ex v (M.getD i 0)) = 0 by rw [hv_false.mp hh]; rfl), c1, obs]
    · intro f s hI
      obtain ⟨i1, i2, i3⟩ := hI
      have h1 := lsL_fr h i3
      rw [List.take_length] at i1
      simp only [mX11_pushSum_15]
      rw [h1.1, if_pos (nI_le (Nat.le_refl _) (by omega)), i3.2.1 0 17, h17, nI_1]
      exact ⟨s, rfl, i1, i2, i3⟩
  obtain ⟨S0, c1, c2, c3, c4⟩ := this
  refine ⟨S0, _, ?_, rfl, c2, ?_, c4⟩
  · unfold mX11_pushSum
    rw [a1, obs, ten_spec hv1, obs, ten_dec hv1, b1, obs, c1]
  · rw [c3, b3]
    exact a3
theorem les_lt {v p : Nat} (hp : p < 2401) : les v p < 2401 := by
  unfold les
  split <;> omega
theorem lessened_spec {v p : Nat} (hv1 : v < 4) (hp : p < 2401) : mX11_lessened (nI (decN p)) (nI v) = some (nI (decN (les v p))) := by
  have hx := ex_lt (v := v) hp
  unfold mX11_lessened les
  rw [power_dec hv1 hp, obs]
  cases hh : hv v p with
  | true =>
    obtain ⟨e1, e2, e3⟩ := dec_sub hv1 hp (hv_iff.mp hh)
    rw [if_neg (nI_nle (hv_iff.mp hh) (by omega)), ten_spec hv1, obs, nI_sub e2, e1, if_pos rfl]
  | false => rw [if_pos (by rw [hv_false.mp hh]; decide), if_neg (by decide)]
theorem decN_inj {p q : Nat} (hp : p < 2401) (hq : q < 2401) : (nI (decN p) = nI (decN q)) = (p = q) := by
  have h1 := decN_lt hp
  have h2 := decN_lt hq
  rw [nI_eqI (by omega) (by omega)]
  refine propext ⟨fun e => ?_, fun e => by rw [e]⟩
  have a := decN_mono hp hq
  have b := decN_mono hq hp
  have a1 : p ≤ q := by rw [← a]; omega
  have b1 : q ≤ p := by rw [← b]; omega
  omega
theorem isTooMuch_spec {S : St} {M : List Nat} {v a : Nat} (hv1 : v < 4) (hl : M.length ≤ 40) (hq : ∀ q ∈ M, q < 2401) (h : lsL S M) (ha : a < M.length) : mX11_isTooMuch S (nI a) (nI v) = some (b2 (tm v M a)) := by
  have hpa := hq _ (getD_mem ha)
  have hla := les_lt (v := v) hpa
  unfold mX11_isTooMuch
  rw [inb_nI (show a < 40 by omega) (by decide), h.2 a ha, lessened_spec hv1 hpa, obs]
  unfold tm
  refine loopN (N := M.length) (fun f b => mX11_isTooMuch_17 S f (nI a) (nI v) (nI (decN (les v (M.getD a 0)))) (b2 ((List.range b).any (fun b => !decide (b = a) && (dv (les v (M.getD b 0)) (les v (M.getD a 0)) && (!decide (les v (M.getD b 0) = les v (M.getD a 0)) || decide (b < a)))))) (nI b)) (by omega) ?_ ?_
  · intro b f hb
    have hpb := hq _ (getD_mem hb)
    have hlb := les_lt (v := v) hpb
    simp only [mX11_isTooMuch_17, mX11_isTooMuch_71, mX11_isTooMuch_75, mX11_isTooMuch_76, bnd_eq, nI_1]
    rw [h.1, if_neg (nI_ge hb (by omega)), inb_nI (show b < 40 by omega) (by decide), h.2 b hb, lessened_spec hv1 hpb, obs, divides_spec hlb hla, obs, List.range_succ, List.any_append]
    simp only [decN_inj hlb hla, nI_eqI (show b < 2 ^ 31 by omega) (show a < 2 ^ 31 by omega), nI_leI' (show a < 2 ^ 31 by omega) (show b < 2 ^ 31 by omega), List.any_cons, List.any_nil, Bool.or_false]
    cases (List.range b).any (fun b => !decide (b = a) && (dv (les v (M.getD b 0)) (les v (M.getD a 0)) && (!decide (les v (M.getD b 0) = les v (M.getD a 0)) || decide (b < a)))) with
    | true =>
      rw [if_neg (by decide), Bool.true_or]
      rfl
    | false =>
      rw [if_pos (by decide), Bool.false_or]
      by_cases h1 : b = a
      · rw [if_pos h1, decide_eq_true h1]
        rfl
      · rw [if_neg h1, decide_eq_false h1]
        cases dv (les v (M.getD b 0)) (les v (M.getD a 0)) with
        | false =>
          rw [if_pos (by decide)]
          rfl
        | true =>
          rw [if_neg (by decide)]
          by_cases h2 : les v (M.getD b 0) = les v (M.getD a 0)
          · rw [if_pos h2, decide_eq_true h2]
            by_cases h3 : a ≤ b
            · rw [if_pos h3, decide_eq_false (show ¬ b < a by omega)]
              rfl
            · rw [if_neg h3, decide_eq_true (show b < a by omega)]
              rfl
          · rw [if_neg h2, decide_eq_false h2]
            rfl
  · intro f
    simp only [mX11_isTooMuch_17]
    rw [h.1, if_pos (nI_le (Nat.le_refl _) (by omega)), zbg_b2]
def qI (v : Nat) (M : List Nat) (i : Nat) : List Nat := ((List.range i).filter (fun a => !tm v M a)).map (fun a => les v (M.getD a 0))
theorem qI_succ (v : Nat) (M : List Nat) (i : Nat) : qI v M (i + 1) = qI v M i ++ (if tm v M i then [] else [les v (M.getD i 0)]) := by
  unfold qI
  rw [filter_succ, List.map_append]
  cases tm v M i <;> rfl
theorem qI_len (v : Nat) (M : List Nat) (i : Nat) : (qI v M i).length ≤ i := by
  unfold qI
  rw [List.length_map]
  exact filter_len_le _ i
theorem pushQuotient_spec {S : St} {t v k : Nat} {M : List Nat} (hv1 : v < 4) (ht : t < 59) (h17 : gI S 0 17 = nI t) (hl : M.length ≤ 40) (hq : ∀ q ∈ M, q < 2401) (h : lsL S M) : ∃ S0 S1, mX11_pushQuotient S (nI v) (nI k) = some S1 ∧ S1 = sI S0 0 17 (nI (t + 1)) ∧ stkL S0 t (qL v M) ∧ gA S0 12 t = nI k ∧ FrT t S S0 := by
  obtain ⟨U, a1, a2, a3, a4⟩ := opens_spec (k := nI k) (by omega) h17
  have : ∃ S0, mX11_pushQuotient_7 FU U (nI v) 0 = some (sI S0 0 17 (nI (t + 1))) ∧ stkL S0 t (qL v M) ∧ gA S0 12 = gA U 12 ∧ FrT t S S0 := by
    refine loopG (σ := St) (N := M.length) (fun f i s => mX11_pushQuotient_7 f s (nI v) (nI i)) (fun i s => stkL s t (qI v M i) ∧ gA s 12 = gA U 12 ∧ FrT t S s) (fun r => ∃ S0, r = some (sI S0 0 17 (nI (t + 1))) ∧ stkL S0 t (qL v M) ∧ gA S0 12 = gA U 12 ∧ FrT t S S0) (by omega) ?_ ?_ U ⟨a2, rfl, a4⟩
    · intro i f s hi hI
      obtain ⟨i1, i2, i3⟩ := hI
      have h1 := lsL_fr h i3
      have hpi := hq _ (getD_mem hi)
      have hlen := qI_len v M i
      simp only [mX11_pushQuotient_7, mX11_pushQuotient_38, bnd_eq, nI_1]
      rw [h1.1, if_neg (nI_ge hi (by omega)), isTooMuch_spec hv1 hl hq h1 hi, obs, inb_nI (show i < 40 by omega) (by decide), h1.2 i hi, lessened_spec hv1 hpi, obs, qI_succ]
      refine Or.inl ?_
      cases tm v M i with
      | true =>
        rw [if_pos rfl, List.append_nil]
        exact ⟨s, ⟨i1, i2, i3⟩, if_neg (by decide)⟩
      | false =>
        obtain ⟨s1, c1, c2, c3, c4⟩ := push_spec (x := les v (M.getD i 0)) (by omega) ((i3.2.1 0 17).trans h17) i1 (by omega)
        refine ⟨s1, ⟨c2, c3.trans i2, i3.trans c4⟩, ?_⟩
        rw [if_pos (by decide), c1, obs]
    · intro f s hI
      obtain ⟨i1, i2, i3⟩ := hI
      have h1 := lsL_fr h i3
      simp only [mX11_pushQuotient_7]
      rw [h1.1, if_pos (nI_le (Nat.le_refl _) (by omega)), i3.2.1 0 17, h17, nI_1]
      exact ⟨s, rfl, i1, i2, i3⟩
  obtain ⟨S0, c1, c2, c3, c4⟩ := this
  refine ⟨S0, _, ?_, rfl, c2, ?_, c4⟩
  · unfold mX11_pushQuotient
    rw [a1, obs, c1]
  · rw [c3]
    exact a3
theorem popList_spec {S : St} {t : Nat} {M : List Nat} (ht : t < 60) (h17 : gI S 0 17 = nI (t + 1)) (hl : M.length ≤ 40) (h : stkL S t M) : ∃ S1, mX11_popList S = some S1 ∧ gI S1 0 17 = nI t ∧ lsL S1 M ∧ Fr [13] [(0, 17), (0, 19)] S S1 := by
  unfold mX11_popList
  rw [gI_sI_same, h17, nI_pred, inb_nI ht (by decide), gA_sI, h.1]
  have h0 : gI (sI (sI S 0 17 (nI t)) 0 19 (nI M.length)) 0 17 = nI t := by rw [gI_sI_k (by decide), gI_sI_same]
  have h1 : gI (sI (sI S 0 17 (nI t)) 0 19 (nI M.length)) 0 19 = nI M.length := gI_sI_same _ _ _ _
  have h2 : Fr [13] [(0, 17), (0, 19)] S (sI (sI S 0 17 (nI t)) 0 19 (nI M.length)) := ((Fr.refl _ _ S).sI (by decide)).sI (by decide)
  generalize sI (sI S 0 17 (nI t)) 0 19 (nI M.length) = U at *
  refine loopG (σ := St) (N := M.length) (fun f i s => mX11_popList_25 f s (nI i)) (fun i s => (∀ j, j < i → gA s 13 j = nI (decN (M.getD j 0))) ∧ gI s 0 17 = nI t ∧ gI s 0 19 = nI M.length ∧ Fr [13] [(0, 17), (0, 19)] S s) (fun r => ∃ S1, r = some S1 ∧ gI S1 0 17 = nI t ∧ lsL S1 M ∧ Fr [13] [(0, 17), (0, 19)] S S1) (by omega) ?_ ?_ U ⟨fun j hj => absurd hj (Nat.not_lt_zero j), h0, h1, h2⟩
  · intro i f s hi hI
    obtain ⟨i1, i2, i3, i4⟩ := hI
    have hv1 : gA s 10 (40 * t + i) = nI (decN (M.getD i 0)) := by
      rw [i4.1 10 (by decide)]
      exact h.2 i hi
    refine Or.inl ⟨sA s 13 i (nI (decN (M.getD i 0))), ⟨fun j hj => ?_, by rw [gI_sA]; exact i2, by rw [gI_sA]; exact i3, i4.sA (by decide)⟩, ?_⟩
    · rw [gA_sA_same]
      by_cases he : j = i
      · rw [he, upd_at]
      · rw [upd_ne he]
        exact i1 j (by omega)
    · simp only [mX11_popList_25]
      rw [i3, if_neg (nI_ge hi (by omega)), i2, show (40 : Int32) * nI t + nI i = nI (40 * t + i) by rw [show (40 : Int32) = nI 40 from rfl, nI_mul, nI_add], inb_nI (show 40 * t + i < 2400 by omega) (by decide), hv1, inb_nI (show i < 40 by omega) (by decide), bnd_eq, nI_1]
  · intro f s hI
    obtain ⟨i1, i2, i3, i4⟩ := hI
    simp only [mX11_popList_25]
    rw [i3, if_pos (nI_le (Nat.le_refl _) (by omega))]
    exact ⟨s, rfl, i2, ⟨i3, i1⟩, i4⟩
