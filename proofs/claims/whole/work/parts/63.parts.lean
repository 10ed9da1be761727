/-! PURE PART: parts -/
def mb1 (H : Nat → Nat) (c : Nat) : Nat := if 294 ≤ c then 0 else H (c + 49)
def mb2 (H : Nat → Nat) (c : Nat) : Nat := if 42 ≤ c % 49 then mb1 H c else max (mb1 H c) (H (c + 7))
def mb (H : Nat → Nat) (c : Nat) : Nat := if 6 ≤ c % 7 then mb2 H c else max (mb2 H c) (H (c + 1))
theorem mb_bd {H : Nat → Nat} {c : Nat} (hc : c < 343) (h : ∀ c, c < 343 → H c ≤ 7) : mb1 H c ≤ 7 ∧ mb2 H c ≤ 7 ∧ mb H c ≤ 7 := by
  have h1 : mb1 H c ≤ 7 := by
    unfold mb1
    split
    · omega
    · exact h _ (by omega)
  have h2 : mb2 H c ≤ 7 := by
    unfold mb2
    split
    · exact h1
    · have := h (c + 7) (by omega)
      omega
  refine ⟨h1, h2, ?_⟩
  unfold mb
  split
  · exact h2
  · have := h (c + 1) (by omega)
    omega
theorem mb_spec {S : St} {n c : Nat} {H : Nat → Nat} (hc : c < 343) (h : hA S (n + 1) H) : mX6_mostBehind S n (nI c) = some (nI (mb H c)) := by
  have r49 : nI c - nI c / 49 * 49 = nI (c % 49) := nI_rem (d := 49) (by omega) (by decide) (by decide)
  have r7 : nI c - nI c / 7 * 7 = nI (c % 7) := nI_rem (d := 7) (by omega) (by decide) (by decide)
  obtain ⟨b1, b2, -⟩ := mb_bd hc (fun c hc => (h c hc).2)
  have e3 : mX6_mostBehind_42 S n (nI c) (nI (mb2 H c)) = some (nI (mb H c)) := by
    unfold mX6_mostBehind_42 mb
    rw [r7]
    by_cases h1 : 6 ≤ c % 7
    · rw [if_pos (show (6 : Int32) ≤ nI (c % 7) from nI_le (a := 6) h1 (by omega)), if_pos h1]
    · obtain ⟨k1, k2⟩ := h (c + 1) (by omega)
      rw [if_neg (show ¬ (6 : Int32) ≤ nI (c % 7) from nI_ge (b := 6) (by omega) (by decide)), if_neg h1, nI_1, inb_nI (show c + 1 < 343 by omega) (by decide), bnd_eq, k1, imax_nI (by omega) (by omega)]
  have e2 : mX6_mostBehind_19 S n (nI c) (nI (mb1 H c)) = some (nI (mb H c)) := by
    rw [← e3]
    unfold mX6_mostBehind_19 mb2
    rw [r49]
    by_cases h1 : 42 ≤ c % 49
    · rw [if_pos (show (42 : Int32) ≤ nI (c % 49) from nI_le (a := 42) h1 (by omega)), if_pos h1]
    · obtain ⟨k1, k2⟩ := h (c + 7) (by omega)
      rw [if_neg (show ¬ (42 : Int32) ≤ nI (c % 49) from nI_ge (b := 42) (by omega) (by decide)), if_neg h1, show nI c + 7 = nI (c + 7) from nI_add c 7, inb_nI (show c + 7 < 343 by omega) (by decide), bnd_eq, k1, imax_nI (by omega) (by omega)]
  rw [← e2]
  unfold mX6_mostBehind mb1
  by_cases h1 : 294 ≤ c
  · rw [if_pos (show (294 : Int32) ≤ nI c from nI_le (a := 294) h1 (by omega)), if_pos h1]
    rfl
  · obtain ⟨k1, k2⟩ := h (c + 49) (by omega)
    rw [if_neg (show ¬ (294 : Int32) ≤ nI c from nI_ge (b := 294) (by omega) (by decide)), if_neg h1, show nI c + 49 = nI (c + 49) from nI_add c 49, inb_nI (show c + 49 < 343 by omega) (by decide), bnd_eq, k1]
theorem mb_le {H : Nat → Nat} {c d : Nat} : mb H c ≤ d ↔ (294 ≤ c ∨ H (c + 49) ≤ d) ∧ (42 ≤ c % 49 ∨ H (c + 7) ≤ d) ∧ (6 ≤ c % 7 ∨ H (c + 1) ≤ d) := by
  unfold mb mb2 mb1
  generalize H (c + 49) = x
  generalize H (c + 7) = y
  generalize H (c + 1) = z
  split <;> split <;> split <;> omega
/-- standard, and nothing above it is -/
def hiB (T : Nat → Bool) (p : Nat) : Bool := T p && allF (fun v => decide (ex v p = 6) || !(T (p + sevN v))) 0 4
theorem hi_H {H : Nat → Nat} {T : Nat → Bool} {c d : Nat} (hH : ∀ c, c < 343 → H c ≤ 7) (hc : c < 343) (hd : d < 7) (hT : ∀ p, p < 2401 → T p = !(bH H p)) : hiB T (7 * c + d) = (decide (d + 1 = H c) && decide (mb H c < H c)) := by
  have h7 := hH c hc
  have e0 : T (7 * c + d) = decide (d < H c) := by
    rw [hT _ (by omega)]
    unfold bH
    rw [show (7 * c + d) / 7 = c by omega, show (7 * c + d) % 7 = d by omega, ← decide_not]
    exact decide_eq_decide.mpr (by omega)
  have e1 : c < 294 → T (7 * c + d + 343) = decide (d < H (c + 49)) := fun h => by
    rw [hT _ (by omega)]
    unfold bH
    rw [show (7 * c + d + 343) / 7 = c + 49 by omega, show (7 * c + d + 343) % 7 = d by omega, ← decide_not]
    exact decide_eq_decide.mpr (by omega)
  have e2 : c % 49 < 42 → T (7 * c + d + 49) = decide (d < H (c + 7)) := fun h => by
    rw [hT _ (by omega)]
    unfold bH
    rw [show (7 * c + d + 49) / 7 = c + 7 by omega, show (7 * c + d + 49) % 7 = d by omega, ← decide_not]
    exact decide_eq_decide.mpr (by omega)
  have e3 : c % 7 < 6 → T (7 * c + d + 7) = decide (d < H (c + 1)) := fun h => by
    rw [hT _ (by omega)]
    unfold bH
    rw [show (7 * c + d + 7) / 7 = c + 1 by omega, show (7 * c + d + 7) % 7 = d by omega, ← decide_not]
    exact decide_eq_decide.mpr (by omega)
  have e4 : d < 6 → T (7 * c + d + 1) = decide (d + 1 < H c) := fun h => by
    rw [hT _ (by omega)]
    unfold bH
    rw [show (7 * c + d + 1) / 7 = c by omega, show (7 * c + d + 1) % 7 = d + 1 by omega, ← decide_not]
    exact decide_eq_decide.mpr (by omega)
  have key := mb_le (H := H) (c := c) (d := d)
  rw [Bool.eq_iff_iff]
  unfold hiB
  simp only [allF, ex, sevN, Bool.and_eq_true, Bool.or_eq_true, decide_eq_true_eq, Bool.not_eq_true', Bool.and_true]
  rw [e0, show (7 * c + d) / 343 = c / 49 by omega, show (7 * c + d) / 49 % 7 = c / 7 % 7 by omega, show (7 * c + d) / 7 % 7 = c % 7 by omega, show (7 * c + d) % 7 = d by omega, decide_eq_true_eq]
  constructor
  · rintro ⟨h0, h1, h2, h3, h4⟩
    have hd1 : d + 1 = H c := by
      rcases h4 with h | h
      · omega
      · by_cases hz : d = 6
        · omega
        · rw [e4 (by omega), decide_eq_false_iff_not] at h
          omega
    refine ⟨hd1, ?_⟩
    have : mb H c ≤ d := by
      rw [key]
      refine ⟨?_, ?_, ?_⟩
      · by_cases g : c < 294
        · rcases h1 with z | z
          · omega
          · rw [e1 g, decide_eq_false_iff_not] at z
            exact Or.inr (by omega)
        · exact Or.inl (by omega)
      · by_cases g : c % 49 < 42
        · rcases h2 with z | z
          · omega
          · rw [e2 g, decide_eq_false_iff_not] at z
            exact Or.inr (by omega)
        · exact Or.inl (by omega)
      · by_cases g : c % 7 < 6
        · rcases h3 with z | z
          · omega
          · rw [e3 g, decide_eq_false_iff_not] at z
            exact Or.inr (by omega)
        · exact Or.inl (by omega)
    omega
  · rintro ⟨h0, h1⟩
    have hn : mb H c ≤ d := by omega
    rw [key] at hn
    obtain ⟨n1, n2, n3⟩ := hn
    refine ⟨by omega, ?_, ?_, ?_, ?_⟩
    · by_cases g : c < 294
      · rw [e1 g, decide_eq_false_iff_not]
        exact Or.inr (by omega)
      · exact Or.inl (by omega)
    · by_cases g : c % 49 < 42
      · rw [e2 g, decide_eq_false_iff_not]
        exact Or.inr (by omega)
      · exact Or.inl (by omega)
    · by_cases g : c % 7 < 6
      · rw [e3 g, decide_eq_false_iff_not]
        exact Or.inr (by omega)
      · exact Or.inl (by omega)
    · by_cases g : d < 6
      · rw [e4 g, decide_eq_false_iff_not]
        exact Or.inr (by omega)
      · exact Or.inl (by omega)
/-- the cell of a part's first three exponents -/
def cio (o : Nat) : Nat := 49 * ((o / 49 + 6) % 7) + 7 * ((o / 7 + 6) % 7) + (o + 6) % 7
theorem cio_lt (o : Nat) : cio o < 343 := by unfold cio; omega
theorem cio_spec {o : Nat} (ho : o < 343) : mX6_cellInPartOrder (nI o) = some (nI (cio o)) := by
  have q0 : nI o / 49 + 6 = nI (o / 49 + 6) := by
    rw [show nI o / 49 = nI (o / 49) from nI_div (by omega) (by decide) (by decide)]
    exact nI_add _ 6
  have q1 : nI o / 7 + 6 = nI (o / 7 + 6) := by
    rw [show nI o / 7 = nI (o / 7) from nI_div (by omega) (by decide) (by decide)]
    exact nI_add _ 6
  have q2 : nI o + 6 = nI (o + 6) := nI_add _ 6
  have r0 : nI (o / 49 + 6) - nI (o / 49 + 6) / 7 * 7 = nI ((o / 49 + 6) % 7) := nI_rem (d := 7) (by omega) (by decide) (by decide)
  have r1 : nI (o / 7 + 6) - nI (o / 7 + 6) / 7 * 7 = nI ((o / 7 + 6) % 7) := nI_rem (d := 7) (by omega) (by decide) (by decide)
  have r2 : nI (o + 6) - nI (o + 6) / 7 * 7 = nI ((o + 6) % 7) := nI_rem (d := 7) (by omega) (by decide) (by decide)
  unfold mX6_cellInPartOrder cio
  rw [q0, q1, q2, r0, r1, r2, show (49 : Int32) = nI 49 from rfl, show (7 : Int32) = nI 7 from rfl, show (1 : Int32) = nI 1 from rfl, nI_mul, nI_mul, nI_mul, nI_add, nI_add, Nat.one_mul]
/-- the part over a cell -/
def ptN (H : Nat → Nat) (o : Nat) : Nat := 7 * o + H (cio o) % 7
def isP (H : Nat → Nat) (o : Nat) : Bool := decide (mb H (cio o) < H (cio o))
theorem ptN_lt {H : Nat → Nat} {o : Nat} (ho : o < 343) : ptN H o < 2401 := by unfold ptN; omega
theorem partAt_spec {S : St} {n o : Nat} {H : Nat → Nat} (ho : o < 343) (h : hA S (n + 1) H) : mX6_partAt S n (nI o) = some (if isP H o then nI (hexN (ptN H o)) else -1) := by
  have hc := cio_lt o
  obtain ⟨k1, k2⟩ := h _ hc
  have hb := (mb_bd hc (fun c hc => (h c hc).2)).2.2
  unfold mX6_partAt isP
  rw [cio_spec ho, obs, inb_nI hc (by decide), mb_spec hc h, obs, k1]
  by_cases hl : mb H (cio o) < H (cio o)
  · rw [if_neg (nI_ge hl (by omega)), if_pos (decide_eq_true hl), monomialOf_spec ho, obs, inb_nI hc (by decide), k1, show nI (H (cio o)) - nI (H (cio o)) / 7 * 7 = nI (H (cio o) % 7) from nI_rem (d := 7) (by omega) (by decide) (by decide), mono_or (by omega)]
    rfl
  · rw [if_pos (nI_le (by omega) (by omega)), if_neg (by rw [decide_eq_false hl]; decide)]
def unN (r : Nat) : Nat := 7 * cio (r / 7) + (r + 6) % 7
theorem unN_lt (r : Nat) : unN r < 2401 := by
  have := cio_lt (r / 7)
  unfold unN
  omega
def pls (T : Nat → Bool) : List Nat := (List.range 2401).filter (fun r => hiB T (unN r))
def pcl (H : Nat → Nat) (i : Nat) : List Nat := ((List.range i).filter (isP H)).map (ptN H)
theorem pcl_succ (H : Nat → Nat) (i : Nat) : pcl H (i + 1) = pcl H i ++ (if isP H i then [ptN H i] else []) := by
  unfold pcl
  rw [filter_succ, List.map_append]
  congr 1
  cases h : isP H i <;> simp
theorem pls_cells {H : Nat → Nat} {T : Nat → Bool} (hH : ∀ c, c < 343 → H c ≤ 7) (hT : ∀ p, p < 2401 → T p = !(bH H p)) : ∀ i, i ≤ 343 → (List.range (7 * i)).filter (fun r => hiB T (unN r)) = pcl H i := by
  intro i
  induction i with
  | zero => intro _; rfl
  | succ i ih =>
    intro hi
    have hc := cio_lt i
    have h7 := hH _ hc
    have hu : ∀ d, d < 7 → hiB T (unN (7 * i + d)) = (decide ((d + 6) % 7 + 1 = H (cio i)) && isP H i) := fun d hd => by
      have e : unN (7 * i + d) = 7 * cio i + (d + 6) % 7 := by
        unfold unN
        rw [show (7 * i + d) / 7 = i by omega, show (7 * i + d + 6) % 7 = (d + 6) % 7 by omega]
      rw [e, hi_H hH hc (by omega) hT]
      rfl
    rw [pcl_succ, show 7 * (i + 1) = 7 * i + 6 + 1 by omega, filter_succ, show 7 * i + 6 = 7 * i + 5 + 1 by omega, filter_succ, show 7 * i + 5 = 7 * i + 4 + 1 by omega, filter_succ, show 7 * i + 4 = 7 * i + 3 + 1 by omega, filter_succ, show 7 * i + 3 = 7 * i + 2 + 1 by omega, filter_succ, show 7 * i + 2 = 7 * i + 1 + 1 by omega, filter_succ, filter_succ, ih (by omega)]
    have h0 := hu 0 (by decide)
    have h1 := hu 1 (by decide)
    have h2 := hu 2 (by decide)
    have h3 := hu 3 (by decide)
    have h4 := hu 4 (by decide)
    have h5 := hu 5 (by decide)
    have h6 := hu 6 (by decide)
    rw [Nat.add_zero] at h0
    simp only [h0, h1, h2, h3, h4, h5, h6, show 7 * i + 1 + 1 = 7 * i + 2 from rfl, show 7 * i + 1 + 1 + 1 = 7 * i + 3 from rfl, show 7 * i + 1 + 1 + 1 + 1 = 7 * i + 4 from rfl, show 7 * i + 1 + 1 + 1 + 1 + 1 = 7 * i + 5 from rfl, show 7 * i + 1 + 1 + 1 + 1 + 1 + 1 = 7 * i + 6 from rfl]
    cases hp : isP H i with
    | true =>
      have hpos : 1 ≤ H (cio i) := by
        have := of_decide_eq_true hp
        omega
      unfold ptN
      generalize H (cio i) = x at *
      rcases (show x = 1 ∨ x = 2 ∨ x = 3 ∨ x = 4 ∨ x = 5 ∨ x = 6 ∨ x = 7 by omega) with rfl | rfl | rfl | rfl | rfl | rfl | rfl <;> simp
    | false => simp
theorem pls_pcl {H : Nat → Nat} {T : Nat → Bool} (hH : ∀ c, c < 343 → H c ≤ 7) (hT : ∀ p, p < 2401 → T p = !(bH H p)) : pls T = pcl H 343 := pls_cells hH hT 343 (Nat.le_refl _)
