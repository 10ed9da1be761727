/-! PURE PART: heights -/
def hA (S : St) (n : Nat) (H : Nat → Nat) : Prop := ∀ c, c < 343 → gA S n c = nI (H c) ∧ H c ≤ 7
def bH (H : Nat → Nat) (p : Nat) : Bool := decide (H (p / 7) ≤ p % 7)
def hS (S : St) (n : Nat) (B : Nat → Bool) : Prop := ∃ H, hA S n H ∧ ∀ p, p < 2401 → B p = bH H p
theorem imin_nI {a b : Nat} (ha : a < 2 ^ 31) (hb : b < 2 ^ 31) : imin (nI a) (nI b) = nI (min a b) := by
  unfold imin
  simp only [nI_ltI' hb ha]
  by_cases h : b < a
  · rw [if_pos h, Nat.min_eq_right (by omega)]
  · rw [if_neg h, Nat.min_eq_left (by omega)]
theorem imax_nI {a b : Nat} (ha : a < 2 ^ 31) (hb : b < 2 ^ 31) : imax (nI a) (nI b) = nI (max a b) := by
  unfold imax
  simp only [nI_ltI' ha hb]
  by_cases h : a < b
  · rw [if_pos h, Nat.max_eq_right (by omega)]
  · rw [if_neg h, Nat.max_eq_left (by omega)]
theorem exp_hx {a b c d : Nat} (ha : a < 16) (hb : b < 16) (hc : c < 16) (hd : d < 16) : mX3_exponent (nI (hx a b c d)) 0 = some (nI a) ∧ mX3_exponent (nI (hx a b c d)) 1 = some (nI b) ∧ mX3_exponent (nI (hx a b c d)) 2 = some (nI c) ∧ mX3_exponent (nI (hx a b c d)) 3 = some (nI d) := by
  have hn : hx a b c d < 2 ^ 31 := by unfold hx; omega
  have e0 : hx a b c d / 4096 % 16 = a := by unfold hx; omega
  have e1 : hx a b c d / 256 % 16 = b := by unfold hx; omega
  have e2 : hx a b c d / 16 % 16 = c := by unfold hx; omega
  have e3 : hx a b c d / 1 % 16 = d := by unfold hx; omega
  refine ⟨(exp_spec (v := 0) (by decide) hn).trans (congrArg (fun z => some (nI z)) e0), (exp_spec (v := 1) (by decide) hn).trans (congrArg (fun z => some (nI z)) e1), (exp_spec (v := 2) (by decide) hn).trans (congrArg (fun z => some (nI z)) e2), (exp_spec (v := 3) (by decide) hn).trans (congrArg (fun z => some (nI z)) e3)⟩
def capC (a b c : Nat) : Nat := 49 * min 6 a + 7 * min 6 b + min 6 c
theorem capC_lt (a b c : Nat) : capC a b c < 343 := by unfold capC; omega
theorem cellOf_hx {a b c d : Nat} (ha : a < 16) (hb : b < 16) (hc : c < 16) (hd : d < 16) : mX6_cellOf (nI (hx a b c d)) = some (nI (capC a b c)) := by
  obtain ⟨e0, e1, e2, -⟩ := exp_hx ha hb hc hd
  unfold mX6_cellOf capC
  rw [e0, obs, e1, obs, e2, obs]
  simp (disch := omega) only [lit_nI, imin_nI, nI_mul, nI_add, Nat.one_mul]
theorem lower_hx {S : St} {n a b c d : Nat} (ha : a < 16) (hb : b < 16) (hc : c < 16) (hd : d < 16) : mX6_lower S n (nI (hx a b c d)) = some (sA S (n + 1) (capC a b c) (imin (gA S (n + 1) (capC a b c)) (nI d))) := by
  obtain ⟨-, -, -, e3⟩ := exp_hx ha hb hc hd
  have hl := capC_lt a b c
  unfold mX6_lower
  rw [cellOf_hx ha hb hc hd, obs, inb_nI hl (by decide), e3, obs, inb_nI hl (by decide)]
theorem capC_dig {p : Nat} (hp : p < 2401) : capC (p / 343) (p / 49 % 7) (p / 7 % 7) = p / 7 := by
  obtain ⟨ha, hb, hc, hd, e⟩ := digs p hp
  unfold capC
  rw [Nat.min_eq_right (by omega), Nat.min_eq_right (by omega), Nat.min_eq_right (by omega)]
  omega
def lwH (H : Nat → Nat) (p : Nat) : Nat → Nat := fun c => if c = p / 7 then min (H c) (p % 7) else H c
theorem cG_fr {S S1 : St} {n : Nat} {G : List Nat} {A : List Nat} {K : List (Nat × Nat)} (h : cG S n G) (hF : Fr A K S S1) (h1 : n + 1 ∉ A) (h2 : (n, 1) ∉ K) : cG S1 n G := ⟨(hF.2 n 1 h2).trans h.1, fun i hi => by rw [hF.1 (n + 1) h1]; exact h.2 i hi⟩
theorem mG_fr {S S1 : St} {n : Nat} {G : List Nat} {A : List Nat} {K : List (Nat × Nat)} (h : mG S n G) (hF : Fr A K S S1) (h1 : 1 ∉ A) (h2 : 2 ∉ A) : mG S1 n G := ⟨by rw [hF.1 2 h2]; exact h.1, fun i hi => by rw [hF.1 1 h1]; exact h.2 i hi⟩
theorem hA_fr {S S1 : St} {n : Nat} {H : Nat → Nat} {A : List Nat} {K : List (Nat × Nat)} (h : hA S n H) (hF : Fr A K S S1) (h1 : n ∉ A) : hA S1 n H := fun c hc => by rw [hF.1 n h1]; exact h c hc
theorem hS_fr {S S1 : St} {n : Nat} {B : Nat → Bool} {A : List Nat} {K : List (Nat × Nat)} (h : hS S n B) (hF : Fr A K S S1) (h1 : n ∉ A) : hS S1 n B := by
  obtain ⟨H, a, b⟩ := h
  exact ⟨H, hA_fr a hF h1, b⟩
theorem hS_congr {S : St} {n : Nat} {B B1 : Nat → Bool} (h : hS S n B) (e : ∀ p, p < 2401 → B1 p = B p) : hS S n B1 := by
  obtain ⟨H, a, b⟩ := h
  exact ⟨H, a, fun p hp => (e p hp).trans (b p hp)⟩
theorem lower_hA {S : St} {n p : Nat} {H : Nat → Nat} (hp : p < 2401) (h : hA S (n + 1) H) : ∃ S1, mX6_lower S n (nI (hexN p)) = some S1 ∧ hA S1 (n + 1) (lwH H p) ∧ Fr [n + 1] [] S S1 := by
  obtain ⟨ha, hb, hc, hd, e⟩ := digs p hp
  have hq : p / 7 < 343 := by omega
  refine ⟨_, by rw [hexN_hx]; exact lower_hx (by omega) (by omega) (by omega) (by omega), fun c hc => ?_, (Fr.refl _ _ S).sA (List.mem_singleton.mpr rfl)⟩
  obtain ⟨g1, g2⟩ := h c hc
  obtain ⟨k1, k2⟩ := h (p / 7) hq
  rw [capC_dig hp, gA_sA_same]
  unfold lwH
  by_cases hcp : c = p / 7
  · subst hcp
    rw [upd_at, if_pos rfl, k1, imin_nI (by omega) (by omega)]
    exact ⟨rfl, by omega⟩
  · rw [upd_ne hcp, if_neg hcp]
    exact ⟨g1, g2⟩
/-- in its column, and no lower -/
def lwb (q p : Nat) : Bool := decide (q / 7 = p / 7) && decide (q % 7 ≤ p % 7)
theorem bH_lw (H : Nat → Nat) (q p : Nat) : bH (lwH H q) p = (bH H p || lwb q p) := by
  unfold bH lwH lwb
  by_cases h : p / 7 = q / 7
  · rw [if_pos h, decide_eq_true (show q / 7 = p / 7 from h.symm), Bool.true_and]
    by_cases h1 : H (p / 7) ≤ p % 7
    · rw [decide_eq_true h1, Bool.true_or]
      exact decide_eq_true (by omega)
    · rw [decide_eq_false h1, Bool.false_or]
      by_cases h2 : q % 7 ≤ p % 7
      · rw [decide_eq_true h2]
        exact decide_eq_true (by omega)
      · rw [decide_eq_false h2]
        exact decide_eq_false (by omega)
  · rw [if_neg h, decide_eq_false (show ¬ q / 7 = p / 7 from fun z => h z.symm), Bool.false_and, Bool.or_false]
def lwL (H : Nat → Nat) (L : List Nat) : Nat → Nat := L.foldl lwH H
theorem bH_lwL (L : List Nat) : ∀ (H : Nat → Nat) (p : Nat), bH (lwL H L) p = (bH H p || L.any (fun q => lwb q p)) := by
  induction L with
  | nil => intro H p; simp [lwL]
  | cons q L ih =>
    intro H p
    show bH (lwL (lwH H q) L) p = _
    rw [ih, bH_lw, List.any_cons, Bool.or_assoc]
theorem lwL_take {H : Nat → Nat} {G : List Nat} {i : Nat} (h : i < G.length) : lwL H (G.take (i + 1)) = lwH (lwL H (G.take i)) (G.getD i 0) := by
  unfold lwL
  rw [take_succ' h, List.foldl_append]
  rfl
theorem fill_spec {S : St} {n : Nat} {v : Int32} (hn : alen n < 1073741824) : ∃ S1, mJ7_fill_53178 S n v = some S1 ∧ (∀ j, j < alen n → gA S1 n j = v) ∧ Fr [n] [] S S1 := by
  unfold mJ7_fill_53178
  rw [bnd_eq]
  refine loopG (σ := St) (N := alen n) (fun f i s => mJ7_fill_53178_5 n f s v (nI i) (Int32.ofNat (alen n))) (fun i s => (∀ j, j < i → gA s n j = v) ∧ Fr [n] [] S s) (fun r => ∃ S1, r = some S1 ∧ (∀ j, j < alen n → gA S1 n j = v) ∧ Fr [n] [] S S1) hn ?_ ?_ S ⟨fun j hj => absurd hj (Nat.not_lt_zero j), Fr.refl _ _ S⟩
  · intro i f s hi hI
    refine Or.inl ⟨sA s n i v, ⟨fun j hj => ?_, hI.2.sA (List.mem_singleton.mpr rfl)⟩, ?_⟩
    · rw [gA_sA_same]
      by_cases he : j = i
      · rw [he, upd_at]
      · rw [upd_ne he]
        exact hI.1 j (by omega)
    · simp only [mJ7_fill_53178_5]
      rw [if_neg (show ¬ Int32.ofNat (alen n) ≤ nI i from nI_ge hi (by omega)), inb_nI hi (by omega), bnd_eq, nI_1]
  · intro f s hI
    simp only [mJ7_fill_53178_5]
    rw [if_pos (show Int32.ofNat (alen n) ≤ nI (alen n) from nI_le (Nat.le_refl _) (by omega))]
    exact ⟨s, rfl, hI.1, hI.2⟩
theorem al56 : alen 56 = 343 := rfl
theorem al58 : alen 58 = 343 := rfl
theorem al60 : alen 60 = 343 := rfl
def hN (n : Nat) : Prop := n = 55 ∨ n = 57 ∨ n = 59
theorem al_h {n : Nat} (h : hN n) : alen (n + 1) = 343 := by
  rcases h with rfl | rfl | rfl
  · exact al56
  · exact al58
  · exact al60
theorem nothing_spec {S : St} {n : Nat} (hn : hN n) : ∃ S1, mX6_becomeNothing S n = some S1 ∧ hA S1 (n + 1) (fun _ => 7) ∧ Fr [n + 1] [] S S1 := by
  obtain ⟨S1, e1, e2, e3⟩ := fill_spec (S := S) (n := n + 1) (v := 7) (by rw [al_h hn]; decide)
  rw [al_h hn] at e2
  exact ⟨S1, by unfold mX6_becomeNothing; rw [e1, obs], fun c hc => ⟨e2 c hc, Nat.le_refl 7⟩, e3⟩
theorem all_spec {S : St} {n : Nat} (hn : hN n) : ∃ S1, mX6_becomeAll S n = some S1 ∧ hA S1 (n + 1) (fun _ => 0) ∧ Fr [n + 1] [] S S1 := by
  obtain ⟨S1, e1, e2, e3⟩ := fill_spec (S := S) (n := n + 1) (v := 0) (by rw [al_h hn]; decide)
  rw [al_h hn] at e2
  exact ⟨S1, by unfold mX6_becomeAll; rw [e1, obs], fun c hc => ⟨e2 c hc, Nat.zero_le 7⟩, e3⟩
theorem lowerBy_spec {S : St} {n m : Nat} {G : List Nat} {H : Nat → Nat} (hnm : n ≠ m) (hc : cG S m G) (hl : G.length ≤ 40) (hq : ∀ q ∈ G, q < 2401) (h : hA S (n + 1) H) : ∃ S1, mX6_lowerBy S n m = some S1 ∧ hA S1 (n + 1) (lwL H G) ∧ Fr [n + 1] [] S S1 := by
  unfold mX6_lowerBy
  refine loopG (σ := St) (N := G.length) (fun f i s => mX6_lowerBy_2 n m f s (nI i)) (fun i s => hA s (n + 1) (lwL H (G.take i)) ∧ Fr [n + 1] [] S s) (fun r => ∃ S1, r = some S1 ∧ hA S1 (n + 1) (lwL H G) ∧ Fr [n + 1] [] S S1) (by omega) ?_ ?_ S ⟨h, Fr.refl _ _ S⟩
  · intro i f s hi hI
    have hc1 := cG_fr hc hI.2 (by simp; omega) (by simp)
    obtain ⟨s1, e1, e2, e3⟩ := lower_hA (n := n) (hq _ (getD_mem hi)) hI.1
    refine Or.inl ⟨s1, ⟨by rw [lwL_take hi]; exact e2, hI.2.trans e3⟩, ?_⟩
    simp only [mX6_lowerBy_2]
    rw [hc1.1, if_neg (nI_ge hi (by omega)), inb_nI (show i < 40 by omega) (by decide), hc1.2 i hi, e1, obs, bnd_eq, nI_1]
  · intro f s hI
    have hc1 := cG_fr hc hI.2 (by simp; omega) (by simp)
    simp only [mX6_lowerBy_2]
    rw [hc1.1, if_pos (nI_le (Nat.le_refl _) (by omega))]
    rw [List.take_length] at hI
    exact ⟨s, rfl, hI.1, hI.2⟩
def lb1 (H : Nat → Nat) (c : Nat) : Nat := if c < 49 then 7 else H (c - 49)
def lb2 (H : Nat → Nat) (c : Nat) : Nat := if c % 49 < 7 then lb1 H c else min (lb1 H c) (H (c - 7))
def lb (H : Nat → Nat) (c : Nat) : Nat := if c % 7 < 1 then lb2 H c else min (lb2 H c) (H (c - 1))
theorem lb_bd {H : Nat → Nat} {c : Nat} (hc : c < 343) (h : ∀ c, c < 343 → H c ≤ 7) : lb1 H c ≤ 7 ∧ lb2 H c ≤ 7 ∧ lb H c ≤ 7 := by
  have h1 : lb1 H c ≤ 7 := by
    unfold lb1
    split
    · exact Nat.le_refl 7
    · exact h _ (by omega)
  have h2 : lb2 H c ≤ 7 := by
    unfold lb2
    split <;> omega
  refine ⟨h1, h2, ?_⟩
  unfold lb
  split <;> omega
theorem lb_spec {S : St} {n c : Nat} {H : Nat → Nat} (hc : c < 343) (h : hA S (n + 1) H) : mX6_leastBefore S n (nI c) = some (nI (lb H c)) := by
  have r49 : nI c - nI c / 49 * 49 = nI (c % 49) := nI_rem (d := 49) (by omega) (by decide) (by decide)
  have r7 : nI c - nI c / 7 * 7 = nI (c % 7) := nI_rem (d := 7) (by omega) (by decide) (by decide)
  obtain ⟨b1, b2, -⟩ := lb_bd hc (fun c hc => (h c hc).2)
  have e3 : mX6_leastBefore_42 S n (nI c) (nI (lb2 H c)) = some (nI (lb H c)) := by
    unfold mX6_leastBefore_42 lb
    rw [r7]
    by_cases h1 : c % 7 < 1
    · rw [if_pos (show nI (c % 7) < 1 from nI_lt (b := 1) h1 (by decide)), if_pos h1]
    · obtain ⟨k1, k2⟩ := h (c - 1) (by omega)
      rw [if_neg (show ¬ nI (c % 7) < 1 from nI_nlt (b := 1) (by omega) (by omega)), if_neg h1, show nI c - 1 = nI (c - 1) from nI_sub (b := 1) (by omega), inb_nI (show c - 1 < 343 by omega) (by decide), bnd_eq, k1, imin_nI (by omega) (by omega)]
  have e2 : mX6_leastBefore_19 S n (nI c) (nI (lb1 H c)) = some (nI (lb H c)) := by
    rw [← e3]
    unfold mX6_leastBefore_19 lb2
    rw [r49]
    by_cases h1 : c % 49 < 7
    · rw [if_pos (show nI (c % 49) < 7 from nI_lt (b := 7) h1 (by decide)), if_pos h1]
    · obtain ⟨k1, k2⟩ := h (c - 7) (by omega)
      rw [if_neg (show ¬ nI (c % 49) < 7 from nI_nlt (b := 7) (by omega) (by omega)), if_neg h1, show nI c - 7 = nI (c - 7) from nI_sub (b := 7) (by omega), inb_nI (show c - 7 < 343 by omega) (by decide), bnd_eq, k1, imin_nI (by omega) (by omega)]
  rw [← e2]
  unfold mX6_leastBefore lb1
  by_cases h1 : c < 49
  · rw [if_pos (show nI c < 49 from nI_lt (b := 49) h1 (by decide)), if_pos h1]
    rfl
  · obtain ⟨k1, k2⟩ := h (c - 49) (by omega)
    rw [if_neg (show ¬ nI c < 49 from nI_nlt (b := 49) (by omega) (by omega)), if_neg h1, show nI c - 49 = nI (c - 49) from nI_sub (b := 49) (by omega), inb_nI (show c - 49 < 343 by omega) (by decide), bnd_eq, k1]
theorem lb_le {H : Nat → Nat} {c d : Nat} (hd : d ≤ 6) : lb H c ≤ d ↔ (49 ≤ c ∧ H (c - 49) ≤ d) ∨ (7 ≤ c % 49 ∧ H (c - 7) ≤ d) ∨ (1 ≤ c % 7 ∧ H (c - 1) ≤ d) := by
  unfold lb lb2 lb1
  generalize H (c - 49) = x
  generalize H (c - 7) = y
  generalize H (c - 1) = z
  split <;> split <;> split <;> omega
def suH (H : Nat → Nat) : Nat → Nat → Nat
  | 0 => H
  | i + 1 => fun c => if c = i then min (suH H i i) (lb (suH H i) i) else suH H i c
theorem dv_cell {q c d : Nat} (hd : d < 7) : dv q (7 * c + d) = true ↔ q / 343 ≤ c / 49 ∧ q / 49 % 7 ≤ c / 7 % 7 ∧ q / 7 % 7 ≤ c % 7 ∧ q % 7 ≤ d := by
  rw [dv_iff, show (7 * c + d) / 343 = c / 49 by omega, show (7 * c + d) / 49 % 7 = c / 7 % 7 by omega, show (7 * c + d) / 7 % 7 = c % 7 by omega, show (7 * c + d) % 7 = d by omega]
theorem dv_lt {q p : Nat} (hp : p < 2401) (h : dv q p = true) : q < 2401 := by
  have := (dv_iff.mp h).1
  omega
theorem dv_refl (p : Nat) : dv p p = true := dv_iff.mpr ⟨Nat.le_refl _, Nat.le_refl _, Nat.le_refl _, Nat.le_refl _⟩
theorem dv_trans {p q r : Nat} (a : dv p q = true) (b : dv q r = true) : dv p r = true := by
  obtain ⟨a1, a2, a3, a4⟩ := dv_iff.mp a
  obtain ⟨b1, b2, b3, b4⟩ := dv_iff.mp b
  exact dv_iff.mpr ⟨Nat.le_trans a1 b1, Nat.le_trans a2 b2, Nat.le_trans a3 b3, Nat.le_trans a4 b4⟩
theorem dv_step1 {q c d : Nat} (hd : d < 7) (h : 49 ≤ c) : dv q (7 * (c - 49) + d) = true ↔ q / 343 + 1 ≤ c / 49 ∧ q / 49 % 7 ≤ c / 7 % 7 ∧ q / 7 % 7 ≤ c % 7 ∧ q % 7 ≤ d := by
  rw [dv_cell hd, show (c - 49) / 49 = c / 49 - 1 by omega, show (c - 49) / 7 % 7 = c / 7 % 7 by omega, show (c - 49) % 7 = c % 7 by omega]
  have : 1 ≤ c / 49 := by omega
  generalize c / 49 = x at *
  generalize q / 343 = y at *
  generalize q / 49 % 7 = y1 at *
  generalize q / 7 % 7 = y2 at *
  generalize c / 7 % 7 = x1 at *
  generalize c % 7 = x2 at *
  generalize q % 7 = y3 at *
  clear h
  omega
theorem dv_step2 {q c d : Nat} (hd : d < 7) (h : 7 ≤ c % 49) : dv q (7 * (c - 7) + d) = true ↔ q / 343 ≤ c / 49 ∧ q / 49 % 7 + 1 ≤ c / 7 % 7 ∧ q / 7 % 7 ≤ c % 7 ∧ q % 7 ≤ d := by
  rw [dv_cell hd, show (c - 7) / 49 = c / 49 by omega, show (c - 7) / 7 % 7 = c / 7 % 7 - 1 by omega, show (c - 7) % 7 = c % 7 by omega]
  have : 1 ≤ c / 7 % 7 := by omega
  generalize c / 49 = x at *
  generalize q / 343 = y at *
  generalize q / 49 % 7 = y1 at *
  generalize q / 7 % 7 = y2 at *
  generalize c / 7 % 7 = x1 at *
  generalize c % 7 = x2 at *
  generalize q % 7 = y3 at *
  clear h
  omega
theorem dv_step3 {q c d : Nat} (hd : d < 7) (h : 1 ≤ c % 7) : dv q (7 * (c - 1) + d) = true ↔ q / 343 ≤ c / 49 ∧ q / 49 % 7 ≤ c / 7 % 7 ∧ q / 7 % 7 + 1 ≤ c % 7 ∧ q % 7 ≤ d := by
  rw [dv_cell hd, show (c - 1) / 49 = c / 49 by omega, show (c - 1) / 7 % 7 = c / 7 % 7 by omega, show (c - 1) % 7 = c % 7 - 1 by omega]
  generalize c / 49 = x at *
  generalize q / 343 = y at *
  generalize q / 49 % 7 = y1 at *
  generalize q / 7 % 7 = y2 at *
  generalize c / 7 % 7 = x1 at *
  generalize c % 7 = x2 at *
  generalize q % 7 = y3 at *
  omega
theorem su_spec {H : Nat → Nat} (hH : ∀ c, c < 343 → H c ≤ 7) : ∀ i, i ≤ 343 → (∀ c, c < i → ∀ d, d ≤ 6 → (suH H i c ≤ d ↔ ∃ q, q < 2401 ∧ H (q / 7) ≤ q % 7 ∧ dv q (7 * c + d) = true)) ∧ (∀ c, i ≤ c → suH H i c = H c) ∧ ∀ c, c < 343 → suH H i c ≤ 7 := by
  intro i
  induction i with
  | zero => exact fun _ => ⟨fun c hc => absurd hc (Nat.not_lt_zero c), fun _ _ => rfl, hH⟩
  | succ i ih =>
    intro hi
    obtain ⟨h1, h2, h3⟩ := ih (by omega)
    refine ⟨fun c hc d hd => ?_, fun c hc => ?_, fun c hc => ?_⟩
    · show (if c = i then min (suH H i i) (lb (suH H i) i) else suH H i c) ≤ d ↔ _
      by_cases he : c = i
      · subst he
        rw [if_pos rfl, show (min (suH H c c) (lb (suH H c) c) ≤ d) = (suH H c c ≤ d ∨ lb (suH H c) c ≤ d) from propext (by omega), lb_le hd, h2 c (Nat.le_refl c)]
        constructor
        · rintro (h | ⟨g, h⟩ | ⟨g, h⟩ | ⟨g, h⟩)
          · refine ⟨7 * c + d, by omega, ?_, dv_refl _⟩
            rw [show (7 * c + d) / 7 = c by omega, show (7 * c + d) % 7 = d by omega]
            exact h
          · obtain ⟨q, q1, q2, q3⟩ := (h1 (c - 49) (by omega) d hd).mp h
            obtain ⟨a1, a2, a3, a4⟩ := (dv_step1 (by omega) g).mp q3
            exact ⟨q, q1, q2, (dv_cell (by omega)).mpr ⟨Nat.le_of_succ_le a1, a2, a3, a4⟩⟩
          · obtain ⟨q, q1, q2, q3⟩ := (h1 (c - 7) (by omega) d hd).mp h
            obtain ⟨a1, a2, a3, a4⟩ := (dv_step2 (by omega) g).mp q3
            exact ⟨q, q1, q2, (dv_cell (by omega)).mpr ⟨a1, Nat.le_of_succ_le a2, a3, a4⟩⟩
          · obtain ⟨q, q1, q2, q3⟩ := (h1 (c - 1) (by omega) d hd).mp h
            obtain ⟨a1, a2, a3, a4⟩ := (dv_step3 (by omega) g).mp q3
            exact ⟨q, q1, q2, (dv_cell (by omega)).mpr ⟨a1, a2, Nat.le_of_succ_le a3, a4⟩⟩
        · rintro ⟨q, q1, q2, q3⟩
          obtain ⟨a1, a2, a3, a4⟩ := (dv_cell (by omega)).mp q3
          by_cases e1 : q / 343 + 1 ≤ c / 49
          · have g : 49 ≤ c := by omega
            exact Or.inr (Or.inl ⟨g, (h1 (c - 49) (by omega) d hd).mpr ⟨q, q1, q2, (dv_step1 (by omega) g).mpr ⟨e1, a2, a3, a4⟩⟩⟩)
          · by_cases e2 : q / 49 % 7 + 1 ≤ c / 7 % 7
            · have g : 7 ≤ c % 49 := by omega
              exact Or.inr (Or.inr (Or.inl ⟨g, (h1 (c - 7) (by omega) d hd).mpr ⟨q, q1, q2, (dv_step2 (by omega) g).mpr ⟨a1, e2, a3, a4⟩⟩⟩))
            · by_cases e3 : q / 7 % 7 + 1 ≤ c % 7
              · have g : 1 ≤ c % 7 := by omega
                exact Or.inr (Or.inr (Or.inr ⟨g, (h1 (c - 1) (by omega) d hd).mpr ⟨q, q1, q2, (dv_step3 (by omega) g).mpr ⟨a1, a2, e3, a4⟩⟩⟩))
              · have : q / 7 = c := by
                  clear h1 h2 h3 ih hH q2 q3 hi hc
                  omega
                rw [this] at q2
                exact Or.inl (by omega)
      · rw [if_neg he]
        exact h1 c (by omega) d hd
    · show (if c = i then min (suH H i i) (lb (suH H i) i) else suH H i c) = H c
      rw [if_neg (by omega)]
      exact h2 c (by omega)
    · show (if c = i then min (suH H i i) (lb (suH H i) i) else suH H i c) ≤ 7
      split
      · have := h3 i (by omega)
        omega
      · exact h3 c hc
/-- what lies above something marked -/
def sp (B : Nat → Bool) (p : Nat) : Bool := (List.range 2401).any (fun q => B q && dv q p)
theorem sp_iff {B : Nat → Bool} {p : Nat} : sp B p = true ↔ ∃ q, q < 2401 ∧ B q = true ∧ dv q p = true := by
  unfold sp
  rw [List.any_eq_true]
  constructor
  · rintro ⟨q, h1, h2⟩
    rw [Bool.and_eq_true] at h2
    exact ⟨q, List.mem_range.mp h1, h2.1, h2.2⟩
  · rintro ⟨q, h1, h2, h3⟩
    exact ⟨q, List.mem_range.mpr h1, by rw [h2, h3]; rfl⟩
theorem su_all {H : Nat → Nat} (hH : ∀ c, c < 343 → H c ≤ 7) {p : Nat} (hp : p < 2401) : bH (suH H 343) p = sp (bH H) p := by
  have h := (su_spec hH 343 (Nat.le_refl _)).1 (p / 7) (by omega) (p % 7) (by omega)
  rw [show 7 * (p / 7) + p % 7 = p by omega] at h
  rw [Bool.eq_iff_iff, sp_iff]
  unfold bH
  rw [decide_eq_true_eq, h]
  simp only [decide_eq_true_eq]
theorem spreadUp_spec {S : St} {n : Nat} {H : Nat → Nat} (h : hA S (n + 1) H) : ∃ S1, mX6_spreadUp S n = some S1 ∧ hA S1 (n + 1) (suH H 343) ∧ Fr [n + 1] [] S S1 := by
  unfold mX6_spreadUp
  refine loopG (σ := St) (N := 343) (fun f i s => mX6_spreadUp_2 n f s (nI i)) (fun i s => hA s (n + 1) (suH H i) ∧ Fr [n + 1] [] S s) (fun r => ∃ S1, r = some S1 ∧ hA S1 (n + 1) (suH H 343) ∧ Fr [n + 1] [] S S1) (by omega) ?_ ?_ S ⟨h, Fr.refl _ _ S⟩
  · intro i f s hi hI
    obtain ⟨k1, k2⟩ := hI.1 i hi
    have hb := (lb_bd hi (fun c hc => (hI.1 c hc).2)).2.2
    refine Or.inl ⟨sA s (n + 1) i (nI (min (suH H i i) (lb (suH H i) i))), ⟨fun c hc => ?_, hI.2.sA (List.mem_singleton.mpr rfl)⟩, ?_⟩
    · rw [gA_sA_same]
      show _ = nI (if c = i then min (suH H i i) (lb (suH H i) i) else suH H i c) ∧ (if c = i then min (suH H i i) (lb (suH H i) i) else suH H i c) ≤ 7
      by_cases he : c = i
      · rw [he, upd_at, if_pos rfl]
        exact ⟨rfl, by omega⟩
      · rw [upd_ne he, if_neg he]
        exact hI.1 c hc
    · simp only [mX6_spreadUp_2]
      rw [if_neg (show ¬ (343 : Int32) ≤ nI i from nI_ge (b := 343) hi (by decide)), inb_nI hi (by decide), lb_spec hi hI.1, obs, inb_nI hi (by decide), k1, imin_nI (by omega) (by omega), bnd_eq, nI_1]
  · intro f s hI
    simp only [mX6_spreadUp_2]
    rw [if_pos (show (343 : Int32) ≤ nI 343 by decide)]
    exact ⟨s, rfl, hI.1, hI.2⟩
theorem spreadUp_hS {S : St} {n : Nat} {B : Nat → Bool} (h : hS S (n + 1) B) : ∃ S1, mX6_spreadUp S n = some S1 ∧ hS S1 (n + 1) (sp B) ∧ Fr [n + 1] [] S S1 := by
  obtain ⟨H, a, b⟩ := h
  obtain ⟨S1, e1, e2, e3⟩ := spreadUp_spec a
  refine ⟨S1, e1, ⟨suH H 343, e2, fun p hp => ?_⟩, e3⟩
  rw [su_all (fun c hc => (a c hc).2) hp, Bool.eq_iff_iff, sp_iff, sp_iff]
  constructor
  · rintro ⟨q, q1, q2, q3⟩
    exact ⟨q, q1, by rw [← b q q1]; exact q2, q3⟩
  · rintro ⟨q, q1, q2, q3⟩
    exact ⟨q, q1, by rw [b q q1]; exact q2, q3⟩
theorem up_iff {G : List Nat} {p : Nat} : up G p = true ↔ ∃ q ∈ G, dv q p = true := by
  unfold up
  rw [List.any_eq_true]
theorem lwb_iff {q p : Nat} : lwb q p = true ↔ q / 7 = p / 7 ∧ q % 7 ≤ p % 7 := by
  unfold lwb
  rw [Bool.and_eq_true, decide_eq_true_eq, decide_eq_true_eq]
theorem lwb_dv {q p : Nat} (h : lwb q p = true) : dv q p = true := by
  obtain ⟨h1, h2⟩ := lwb_iff.mp h
  refine dv_iff.mpr ⟨?_, ?_, ?_, h2⟩ <;> omega
theorem sp_low {L : List Nat} (hq : ∀ q ∈ L, q < 2401) (B : Nat → Bool) (p : Nat) (hu : ∀ q, B q = true → dv q p = true → B p = true) : sp (fun p => B p || L.any (fun q => lwb q p)) p = ((decide (p < 2401) && B p) || up L p) ∨ 2401 ≤ p := by
  by_cases hp : p < 2401
  · refine Or.inl ?_
    rw [decide_eq_true hp, Bool.true_and, Bool.eq_iff_iff, sp_iff, Bool.or_eq_true, up_iff]
    constructor
    · rintro ⟨q, q1, q2, q3⟩
      rw [Bool.or_eq_true, List.any_eq_true] at q2
      rcases q2 with h | ⟨x, x1, x2⟩
      · exact Or.inl (hu q h q3)
      · exact Or.inr ⟨x, x1, dv_trans (lwb_dv x2) q3⟩
    · rintro (h | ⟨x, x1, x2⟩)
      · exact ⟨p, hp, by rw [h]; rfl, dv_refl p⟩
      · refine ⟨x, hq x x1, ?_, x2⟩
        rw [Bool.or_eq_true, List.any_eq_true]
        exact Or.inr ⟨x, x1, lwb_iff.mpr ⟨rfl, Nat.le_refl _⟩⟩
  · exact Or.inr (by omega)
theorem low_hS {S : St} {n : Nat} {H : Nat → Nat} {L : List Nat} {B : Nat → Bool} (h : hA S (n + 1) (lwL H L)) (hB : ∀ p, p < 2401 → B p = bH H p) : hS S (n + 1) (fun p => B p || L.any (fun q => lwb q p)) := ⟨_, h, fun p hp => by
  rw [bH_lwL]
  show (B p || _) = _
  rw [hB p hp]⟩
theorem bH7 (p : Nat) : bH (fun _ => 7) p = false := decide_eq_false (show ¬ 7 ≤ p % 7 by omega)
theorem become_spec {S : St} {n m : Nat} {G : List Nat} (hn : hN n) (hnm : n ≠ m) (hc : cG S m G) (hl : G.length ≤ 40) (hq : ∀ q ∈ G, q < 2401) : ∃ S1, mX6_become S n m = some S1 ∧ hS S1 (n + 1) (up G) ∧ Fr [n + 1] [] S S1 := by
  obtain ⟨S1, a1, a2, a3⟩ := nothing_spec (S := S) hn
  obtain ⟨S2, b1, b2, b3⟩ := lowerBy_spec hnm (cG_fr hc a3 (by simp; omega) (by simp)) hl hq a2
  obtain ⟨S3, c1, c2, c3⟩ := spreadUp_hS (low_hS (B := fun _ => false) b2 (fun p _ => (bH7 p).symm))
  refine ⟨S3, by unfold mX6_become; rw [a1, obs, b1, obs, c1, obs], hS_congr c2 (fun p hp => ?_), (a3.trans b3).trans c3⟩
  rcases sp_low hq (fun _ => false) p (fun q h => by cases h) with h | h
  · rw [h, Bool.and_false, Bool.false_or]
  · omega
