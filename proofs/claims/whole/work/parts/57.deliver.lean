/-! PURE PART: generators out of heights; deliver and keep; load -/
theorem genAt_spec {S : St} {n c : Nat} {H : Nat → Nat} (hc : c < 343) (h : hA S (n + 1) H) : mX6_generatorAt S n (nI c) = some (if H c < lb H c then nI (hexN (7 * c + H c)) else -1) := by
  obtain ⟨k1, k2⟩ := h c hc
  have hb := (lb_bd hc (fun c hc => (h c hc).2)).2.2
  unfold mX6_generatorAt
  rw [inb_nI hc (by decide), lb_spec hc h, obs, k1]
  by_cases hl : H c < lb H c
  · rw [if_neg (nI_ge hl (by omega)), if_pos hl, monomialOf_spec hc, obs, inb_nI hc (by decide), k1, mono_or (by omega)]
  · rw [if_pos (nI_le (by omega) (by omega)), if_neg hl]
theorem nI_ne_m1 {x : Nat} (h : x < 2 ^ 31) : ¬ nI x = -1 := fun e => neg_ne (a := -1) (by decide) h e.symm
theorem lst_H {H : Nat → Nat} {B : Nat → Bool} {c d : Nat} (hc : c < 343) (hd : d < 7) (hB : ∀ p, p < 2401 → B p = bH H p) : lst B (7 * c + d) = (decide (d = H c) && decide (H c < lb H c)) := by
  have e0 : B (7 * c + d) = decide (H c ≤ d) := by
    rw [hB _ (by omega)]
    unfold bH
    rw [show (7 * c + d) / 7 = c by omega, show (7 * c + d) % 7 = d by omega]
  have e1 : 49 ≤ c → B (7 * c + d - 343) = decide (H (c - 49) ≤ d) := fun h => by
    rw [hB _ (by omega)]
    unfold bH
    rw [show (7 * c + d - 343) / 7 = c - 49 by omega, show (7 * c + d - 343) % 7 = d by omega]
  have e2 : 7 ≤ c % 49 → B (7 * c + d - 49) = decide (H (c - 7) ≤ d) := fun h => by
    rw [hB _ (by omega)]
    unfold bH
    rw [show (7 * c + d - 49) / 7 = c - 7 by omega, show (7 * c + d - 49) % 7 = d by omega]
  have e3 : 1 ≤ c % 7 → B (7 * c + d - 7) = decide (H (c - 1) ≤ d) := fun h => by
    rw [hB _ (by omega)]
    unfold bH
    rw [show (7 * c + d - 7) / 7 = c - 1 by omega, show (7 * c + d - 7) % 7 = d by omega]
  have e4 : 1 ≤ d → B (7 * c + d - 1) = decide (H c ≤ d - 1) := fun h => by
    rw [hB _ (by omega)]
    unfold bH
    rw [show (7 * c + d - 1) / 7 = c by omega, show (7 * c + d - 1) % 7 = d - 1 by omega]
  have key := lb_le (H := H) (c := c) (d := d) (by omega)
  rw [Bool.eq_iff_iff]
  unfold lst
  simp only [allF, ex, sevN, Bool.and_eq_true, Bool.or_eq_true, decide_eq_true_eq, Bool.not_eq_true', Bool.and_true]
  rw [e0, show (7 * c + d) / 343 = c / 49 by omega, show (7 * c + d) / 49 % 7 = c / 7 % 7 by omega, show (7 * c + d) / 7 % 7 = c % 7 by omega, show (7 * c + d) % 7 = d by omega, decide_eq_true_eq]
  constructor
  · rintro ⟨h0, h1, h2, h3, h4⟩
    have hd1 : d = H c := by
      rcases h4 with h | h
      · omega
      · by_cases hz : d = 0
        · omega
        · rw [e4 (by omega), decide_eq_false_iff_not] at h
          omega
    refine ⟨hd1, ?_⟩
    have : ¬ lb H c ≤ d := by
      rw [key]
      rintro (⟨g, h⟩ | ⟨g, h⟩ | ⟨g, h⟩)
      · rcases h1 with z | z
        · omega
        · rw [e1 g, decide_eq_false_iff_not] at z
          exact z h
      · rcases h2 with z | z
        · omega
        · rw [e2 g, decide_eq_false_iff_not] at z
          exact z h
      · rcases h3 with z | z
        · omega
        · rw [e3 g, decide_eq_false_iff_not] at z
          exact z h
    omega
  · rintro ⟨h0, h1⟩
    have hn : ¬ lb H c ≤ d := by omega
    rw [key] at hn
    refine ⟨by omega, ?_, ?_, ?_, ?_⟩
    · by_cases g : 49 ≤ c
      · rw [e1 g, decide_eq_false_iff_not]
        exact Or.inr (fun z => hn (Or.inl ⟨g, z⟩))
      · exact Or.inl (by omega)
    · by_cases g : 7 ≤ c % 49
      · rw [e2 g, decide_eq_false_iff_not]
        exact Or.inr (fun z => hn (Or.inr (Or.inl ⟨g, z⟩)))
      · exact Or.inl (by omega)
    · by_cases g : 1 ≤ c % 7
      · rw [e3 g, decide_eq_false_iff_not]
        exact Or.inr (fun z => hn (Or.inr (Or.inr ⟨g, z⟩)))
      · exact Or.inl (by omega)
    · by_cases g : 1 ≤ d
      · rw [e4 g, decide_eq_false_iff_not]
        exact Or.inr (by omega)
      · exact Or.inl (by omega)
def clst (H : Nat → Nat) (i : Nat) : List Nat := ((List.range i).filter (fun c => decide (H c < lb H c))).map (fun c => 7 * c + H c)
theorem clst_succ (H : Nat → Nat) (i : Nat) : clst H (i + 1) = clst H i ++ (if H i < lb H i then [7 * i + H i] else []) := by
  unfold clst
  rw [filter_succ, List.map_append]
  congr 1
  by_cases h : H i < lb H i
  · rw [if_pos h, if_pos (decide_eq_true h)]
    rfl
  · rw [if_neg h, if_neg (by rw [decide_eq_false h]; decide)]
    rfl
theorem clst_pre {H : Nat → Nat} {i j : Nat} (h : i ≤ j) : ∃ R, clst H j = clst H i ++ R := by
  induction j with
  | zero => exact ⟨[], by rw [show i = 0 by omega, List.append_nil]⟩
  | succ j ih =>
    rcases Nat.lt_or_ge i (j + 1) with h1 | h1
    · obtain ⟨R, hR⟩ := ih (by omega)
      exact ⟨R ++ (if H j < lb H j then [7 * j + H j] else []), by rw [clst_succ, hR, List.append_assoc]⟩
    · exact ⟨[], by rw [show i = j + 1 by omega, List.append_nil]⟩
theorem gens_cells {H : Nat → Nat} {B : Nat → Bool} (hH : ∀ c, c < 343 → H c ≤ 7) (hB : ∀ p, p < 2401 → B p = bH H p) : ∀ i, i ≤ 343 → (List.range (7 * i)).filter (lst B) = clst H i := by
  intro i
  induction i with
  | zero => intro _; rfl
  | succ i ih =>
    intro hi
    have hb := (lb_bd (show i < 343 by omega) hH).2.2
    have l : ∀ d, d < 7 → lst B (7 * i + d) = (decide (d = H i) && decide (H i < lb H i)) := fun d hd => lst_H (by omega) hd hB
    rw [clst_succ, show 7 * (i + 1) = 7 * i + 0 + 1 + 1 + 1 + 1 + 1 + 1 + 1 by omega]
    simp only [filter_succ]
    rw [ih (by omega), show lst B (7 * i) = (decide (0 = H i) && decide (H i < lb H i)) from l 0 (by decide), l 1 (by decide), l 2 (by decide), l 3 (by decide), l 4 (by decide), l 5 (by decide), l 6 (by decide)]
    by_cases h : H i < lb H i
    · rw [if_pos h, decide_eq_true h]
      have h7 : H i < 7 := by omega
      generalize H i = x at *
      rcases (show x = 0 ∨ x = 1 ∨ x = 2 ∨ x = 3 ∨ x = 4 ∨ x = 5 ∨ x = 6 by omega) with rfl | rfl | rfl | rfl | rfl | rfl | rfl <;> simp
    · rw [if_neg h, decide_eq_false h]
      simp
theorem gens_clst {H : Nat → Nat} {B : Nat → Bool} (hH : ∀ c, c < 343 → H c ≤ 7) (hB : ∀ p, p < 2401 → B p = bH H p) : gens B = clst H 343 := gens_cells hH hB 343 (Nat.le_refl _)
theorem cfill_spec {S : St} {n : Nat} {H : Nat → Nat} (hn : 60 < n) (h : hA S 56 H) (hl : (clst H 343).length ≤ 40) : ∃ S1, mX9_fill S n = some S1 ∧ cG S1 n (clst H 343) ∧ Fr [n + 1] [(n, 1)] S S1 := by
  unfold mX9_fill
  refine loopG (σ := St) (N := 343) (fun f i s => mX9_fill_7 n f s (nI i)) (fun i s => cG s n (clst H i) ∧ Fr [n + 1] [(n, 1)] S s) (fun r => ∃ S1, r = some S1 ∧ cG S1 n (clst H 343) ∧ Fr [n + 1] [(n, 1)] S S1) (by omega) ?_ ?_ (sI S n 1 0) ⟨⟨by rw [gI_sI_same]; rfl, fun j hj => absurd hj (Nat.not_lt_zero j)⟩, (Fr.refl _ _ S).sI (List.mem_singleton.mpr rfl)⟩
  · intro i f s hi hI
    obtain ⟨⟨c1, c2⟩, c3⟩ := hI
    have hA1 : hA s 56 H := hA_fr h c3 (by simp; omega)
    obtain ⟨R, hR⟩ := clst_pre (H := H) (show i ≤ 343 by omega)
    have hlen : (clst H i).length + R.length ≤ 40 := by
      rw [hR, List.length_append] at hl
      exact hl
    simp only [mX9_fill_7]
    rw [if_neg (show ¬ (343 : Int32) ≤ nI i from nI_ge (b := 343) hi (by decide)), c1]
    by_cases h40 : (clst H i).length < 40
    · rw [if_neg (show ¬ (40 : Int32) ≤ nI (clst H i).length from nI_ge (b := 40) h40 (by decide)), genAt_spec (n := 55) hi hA1, obs]
      refine Or.inl ?_
      by_cases hg : H i < lb H i
      · have h7 := (lb_bd hi (fun c hc => (h c hc).2)).2.2
        have hx := hexN_lt (p := 7 * i + H i) (by omega)
        rw [if_pos hg, if_neg (nI_ne_m1 (by omega)), inb_nI h40 (by decide)]
        refine ⟨sI (sA s (n + 1) (clst H i).length (nI (hexN (7 * i + H i)))) n 1 (nI ((clst H i).length + 1)), ⟨⟨?_, fun j hj => ?_⟩, (c3.sA (List.mem_singleton.mpr rfl)).sI (List.mem_singleton.mpr rfl)⟩, ?_⟩
        · rw [gI_sI_same, clst_succ, if_pos hg, List.length_append]
          rfl
        · rw [gA_sI, gA_sA_same]
          rw [clst_succ, if_pos hg] at hj ⊢
          rw [List.length_append] at hj
          have hj : j < (clst H i).length + 1 := hj
          by_cases he : j = (clst H i).length
          · subst he
            rw [upd_at, show (clst H i).length = (clst H i).length + 0 from rfl, getD_right]
            rfl
          · rw [upd_ne he, c2 j (by omega), getD_left (by omega)]
        · simp only [mX9_fill_57]
          rw [bnd_eq, gI_sA, c1, nI_1, nI_1]
      · rw [if_neg hg, if_pos rfl]
        refine ⟨s, ⟨by rw [clst_succ, if_neg hg, List.append_nil]; exact ⟨c1, c2⟩, c3⟩, ?_⟩
        simp only [mX9_fill_57]
        rw [bnd_eq, nI_1]
    · have hRn : R = [] := List.eq_nil_of_length_eq_zero (by omega)
      rw [hRn, List.append_nil] at hR
      rw [if_pos (show (40 : Int32) ≤ nI (clst H i).length from nI_le (a := 40) (by omega) (by omega))]
      exact Or.inr ⟨s, rfl, by rw [hR]; exact ⟨c1, c2⟩, c3⟩
  · intro f s hI
    simp only [mX9_fill_7]
    rw [if_pos (show (343 : Int32) ≤ nI 343 by decide)]
    exact ⟨s, rfl, hI.1, hI.2⟩
theorem clst_len (H : Nat → Nat) (i : Nat) : (clst H i).length ≤ i := by
  unfold clst
  rw [List.length_map]
  exact filter_len_le _ i
theorem deliver_spec {S : St} {n : Nat} {B : Nat → Bool} (hn : 60 < n) (h : hS S 56 B) : (40 < (gens B).length → mX9_deliver S n = some (-4, S)) ∧ ((gens B).length ≤ 40 → ∃ S1, mX9_deliver S n = some (nI (gens B).length, S1) ∧ cG S1 n (gens B) ∧ Fr [n + 1] [(n, 1)] S S1) := by
  obtain ⟨H, hA1, hB⟩ := h
  rw [gens_clst (fun c hc => (hA1 c hc).2) hB]
  have hl := clst_len H 343
  have key : mX9_deliver S n = (if nI (clst H 343).length ≤ 40 then ((mX9_fill S n).bind fun r1 => some (nI (clst H 343).length, r1)) else some (-4, S)) := by
    unfold mX9_deliver
    refine loopN (N := 343) (fun f i => mX9_deliver_4 n f S (nI (clst H i).length) (nI i)) (by omega) ?_ ?_
    · intro i f hi
      simp only [mX9_deliver_4]
      rw [if_neg (show ¬ (343 : Int32) ≤ nI i from nI_ge (b := 343) hi (by decide)), genAt_spec (n := 55) hi hA1, obs, bnd_eq]
      simp only [mX9_deliver_26, bnd_eq, nI_1]
      by_cases hg : H i < lb H i
      · have h7 := (lb_bd hi (fun c hc => (hA1 c hc).2)).2.2
        have hx := hexN_lt (p := 7 * i + H i) (by omega)
        rw [if_pos hg, if_neg (nI_ne_m1 (by omega)), clst_succ, if_pos hg, List.length_append]
        rfl
      · rw [if_neg hg, if_pos rfl, clst_succ, if_neg hg, List.append_nil]
    · intro f
      simp only [mX9_deliver_4]
      rw [if_pos (show (343 : Int32) ≤ nI 343 by decide)]
  refine ⟨fun h40 => ?_, fun h40 => ?_⟩
  · rw [key, if_neg (show ¬ nI (clst H 343).length ≤ 40 from nI_ge (a := 40) h40 (by omega))]
  · obtain ⟨S1, e1, e2, e3⟩ := cfill_spec hn hA1 h40
    rw [key, if_pos (show nI (clst H 343).length ≤ 40 from nI_le (b := 40) h40 (by decide)), e1, obs]
    exact ⟨S1, rfl, e2, e3⟩
def upc (B : Nat → Bool) : Prop := ∀ q p, p < 2401 → B q = true → dv q p = true → B p = true
theorem gens_congr {B B1 : Nat → Bool} (h : ∀ p, p < 2401 → B p = B1 p) : gens B = gens B1 := by
  unfold gens
  refine List.filter_congr (fun p hp => ?_)
  have hp := List.mem_range.mp hp
  unfold lst
  simp only [allF]
  rw [h p hp, h (p - sevN 0) (by omega), h (p - sevN (0 + 1)) (by omega), h (p - sevN (0 + 1 + 1)) (by omega), h (p - sevN (0 + 1 + 1 + 1)) (by omega)]
theorem dv_down {p v : Nat} (hv : v < 4) (hp : p < 2401) (h : 1 ≤ ex v p) : dv (p - sevN v) p = true ∧ p - sevN v < p := by
  rcases (show v = 0 ∨ v = 1 ∨ v = 2 ∨ v = 3 by omega) with rfl | rfl | rfl | rfl
  · have h : 1 ≤ p / 343 := h
    show dv (p - 343) p = true ∧ p - 343 < p
    exact ⟨dv_iff.mpr ⟨by omega, by omega, by omega, by omega⟩, by omega⟩
  · have h : 1 ≤ p / 49 % 7 := h
    show dv (p - 49) p = true ∧ p - 49 < p
    exact ⟨dv_iff.mpr ⟨by omega, by omega, by omega, by omega⟩, by omega⟩
  · have h : 1 ≤ p / 7 % 7 := h
    show dv (p - 7) p = true ∧ p - 7 < p
    exact ⟨dv_iff.mpr ⟨by omega, by omega, by omega, by omega⟩, by omega⟩
  · have h : 1 ≤ p % 7 := h
    show dv (p - 1) p = true ∧ p - 1 < p
    exact ⟨dv_iff.mpr ⟨by omega, by omega, by omega, by omega⟩, by omega⟩
theorem lst_not {B : Nat → Bool} {p : Nat} (hB : B p = true) (h : lst B p = false) : ∃ v, v < 4 ∧ 1 ≤ ex v p ∧ B (p - sevN v) = true := by
  by_cases hx : ∃ v, v < 4 ∧ 1 ≤ ex v p ∧ B (p - sevN v) = true
  · exact hx
  · have hv : ∀ v, v < 4 → (decide (ex v p = 0) || !(B (p - sevN v))) = true := fun v hv => by
      by_cases h0 : ex v p = 0
      · rw [decide_eq_true h0, Bool.true_or]
      · cases hb : B (p - sevN v) with
        | false => simp
        | true => exact absurd ⟨v, hv, by omega, hb⟩ hx
    unfold lst at h
    simp only [allF] at h
    rw [hB, hv 0 (by decide), hv (0 + 1) (by decide), hv (0 + 1 + 1) (by decide), hv (0 + 1 + 1 + 1) (by decide)] at h
    cases h
theorem gens_below {B : Nat → Bool} : ∀ p, p < 2401 → B p = true → ∃ q ∈ gens B, dv q p = true := by
  intro p
  induction p using Nat.strongRecOn with
  | _ p ih =>
    intro hp hB
    cases hl : lst B p with
    | true => exact ⟨p, List.mem_filter.mpr ⟨List.mem_range.mpr hp, hl⟩, dv_refl p⟩
    | false =>
      obtain ⟨v, v1, v2, v3⟩ := lst_not hB hl
      obtain ⟨d1, d2⟩ := dv_down v1 hp v2
      obtain ⟨q, q1, q2⟩ := ih _ d2 (by omega) v3
      exact ⟨q, q1, dv_trans q2 d1⟩
theorem gens_mem {B : Nat → Bool} {q : Nat} (h : q ∈ gens B) : q < 2401 ∧ B q = true := by
  obtain ⟨h1, h2⟩ := List.mem_filter.mp h
  refine ⟨List.mem_range.mp h1, ?_⟩
  unfold lst at h2
  rw [Bool.and_eq_true] at h2
  exact h2.1
theorem up_gens {B : Nat → Bool} (hu : upc B) {p : Nat} (hp : p < 2401) : up (gens B) p = B p := by
  rw [Bool.eq_iff_iff, up_iff]
  exact ⟨fun ⟨q, q1, q2⟩ => hu q p hp (gens_mem q1).2 q2, gens_below p hp⟩
theorem okG_gens {B : Nat → Bool} (hu : upc B) (hl : (gens B).length ≤ 40) : okG (gens B) := ⟨hl, fun _ hq => (gens_mem hq).1, gens_congr (fun _ hp => up_gens hu hp)⟩
theorem upc_up (G : List Nat) : upc (up G) := fun q p _ h1 h2 => by
  obtain ⟨x, x1, x2⟩ := up_iff.mp h1
  exact up_iff.mpr ⟨x, x1, dv_trans x2 h2⟩
/-- the class delivers, then the reference keeps -/
theorem finish {S1 : St} {h : Nat} {B : Nat → Bool} (hh : h < 16) (hB : hS S1 56 B) (hu : upc B) : ∃ r S2, mX9_deliver S1 (65 + 2 * h) = some (r, S2) ∧ Fr [66 + 2 * h] [(65 + 2 * h, 1)] S1 S2 ∧ ∀ S3, gA S3 (66 + 2 * h) = gA S2 (66 + 2 * h) → gI S3 (65 + 2 * h) 1 = gI S2 (65 + 2 * h) 1 → mk S3 4 B → ∃ S4, mX11_keep S3 (nI h) = some (r, S4) ∧ keepF S3 S4 h ∧ ((S2 = S1 ∧ S4 = S3) ∨ ∃ G, okG G ∧ mG S4 h G ∧ cG S4 (65 + 2 * h) G) := by
  obtain ⟨d1, d2⟩ := deliver_spec (n := 65 + 2 * h) (by omega) hB
  by_cases hl : (gens B).length ≤ 40
  · obtain ⟨S2, e1, e2, e3⟩ := d2 hl
    have hs : 65 + 2 * h + 1 = 66 + 2 * h := by omega
    rw [hs] at e3
    have e22 := e2.2
    rw [hs] at e22
    refine ⟨_, S2, e1, e3, fun S3 a1 a2 a3 => ?_⟩
    obtain ⟨S4, k1, k2, k3⟩ := (keep_spec hh a3).2 hl
    refine ⟨S4, k1, k3, Or.inr ⟨gens B, okG_gens hu hl, k2, ?_, fun i hi => ?_⟩⟩
    · rw [k3.2.1, a2]
      exact e2.1
    · rw [show 65 + 2 * h + 1 = 66 + 2 * h by omega, k3.1 _ (by omega) (by omega), a1]
      exact e22 i hi
  · refine ⟨-4, S1, d1 (by omega), Fr.refl _ _ S1, fun S3 a1 a2 a3 => ⟨S3, (keep_spec hh a3).1 (by omega), keepF.refl _ _, Or.inl ⟨rfl, rfl⟩⟩⟩
theorem FrH.of_one {h : Nat} {S S1 : St} (a : Fr [66 + 2 * h] [(65 + 2 * h, 1)] S S1) : FrH h S S1 := ⟨fun m _ _ _ h4 => a.1 m (by simpa using h4), fun m k _ h2 => a.2 m k (by simp; omega), fun _ _ => by rw [a.1 1 (by simp; omega)], fun _ _ => by rw [a.1 2 (by simp; omega)]⟩
theorem finish_inv {pr : Nat → Bool} {S S1 : St} {h : Nat} {B : Nat → Bool} (hI : Inv pr S) (hF : Fr scA scK S S1) (hh : h < 16) (hB : hS S1 56 B) (hu : upc B) : ∃ r S2, mX9_deliver S1 (65 + 2 * h) = some (r, S2) ∧ (∀ x G, mG S x G → mG S2 x G) ∧ ∀ S3, Fr scA scK S2 S3 → mk S3 4 B → ∃ S4, mX11_keep S3 (nI h) = some (r, S4) ∧ Inv pr S4 := by
  obtain ⟨r, S2, e1, e2, e3⟩ := finish hh hB hu
  refine ⟨r, S2, e1, fun x G hG => mG_fr (mG_fr hG hF (by decide) (by decide)) e2 (by simp; omega) (by simp; omega), fun S3 f3 m3 => ?_⟩
  obtain ⟨S4, k1, k2, k3⟩ := e3 S3 (f3.1 _ (scA_hi (by omega))) (f3.2 _ 1 (scK_hi (by omega))) m3
  refine ⟨S4, k1, ?_⟩
  rcases k3 with ⟨z1, z2⟩ | ⟨G, g1, g2, g3⟩
  · subst z1 z2
    exact Inv_fr (Inv_fr hI hF) f3
  · exact Inv_set hI hh (((FrH.of_Fr hF).trans (FrH.of_one e2)).trans ((FrH.of_Fr f3).trans (FrH.of_keep k2))) g1 g2 g3
/-! marks -/
theorem clear_spec (S : St) : ∃ S1, mX11_clear S = some S1 ∧ mk S1 4 (fun _ => false) ∧ Fr [4] [] S S1 := by
  unfold mX11_clear
  refine loopG (σ := St) (N := 2401) (fun f i s => mX11_clear_2 f s (nI i)) (fun i s => (∀ p, p < i → gA s 4 p = b2 false) ∧ Fr [4] [] S s) (fun r => ∃ S1, r = some S1 ∧ mk S1 4 (fun _ => false) ∧ Fr [4] [] S S1) (by omega) ?_ ?_ S ⟨fun j hj => absurd hj (Nat.not_lt_zero j), Fr.refl _ _ S⟩
  · intro i f s hi hI
    refine Or.inl ⟨sA s 4 i 0, ⟨fun j hj => ?_, hI.2.sA (by decide)⟩, ?_⟩
    · rw [gA_sA_same]
      by_cases he : j = i
      · rw [he, upd_at]
        rfl
      · rw [upd_ne he]
        exact hI.1 j (by omega)
    · simp only [mX11_clear_2]
      rw [if_neg (show ¬ (2401 : Int32) ≤ nI i from nI_ge (b := 2401) hi (by decide)), inb_nI hi (by decide), bnd_eq, nI_1]
  · intro f s hI
    simp only [mX11_clear_2]
    rw [if_pos (show (2401 : Int32) ≤ nI 2401 by decide)]
    exact ⟨s, rfl, hI.1, hI.2⟩
theorem mark_spec {S : St} {B : Nat → Bool} {q : Nat} (hq : q < 2401) (h : mk S 4 B) : ∃ S1, mX11_markAbove S (nI (decN q)) = some S1 ∧ mk S1 4 (fun p => B p || dv q p) ∧ Fr [4] [] S S1 := by
  unfold mX11_markAbove
  refine loopG (σ := St) (N := 2401) (fun f i s => mX11_markAbove_2 f s (nI (decN q)) (nI i)) (fun i s => (∀ p, p < 2401 → gA s 4 p = b2 (if p < i then B p || dv q p else B p)) ∧ Fr [4] [] S s) (fun r => ∃ S1, r = some S1 ∧ mk S1 4 (fun p => B p || dv q p) ∧ Fr [4] [] S S1) (by omega) ?_ ?_ S ⟨fun p hp => by rw [if_neg (Nat.not_lt_zero p)]; exact h p hp, Fr.refl _ _ S⟩
  · intro i f s hi hI
    have hb := hI.1 i hi
    rw [if_neg (Nat.lt_irrefl i)] at hb
    refine Or.inl ⟨sA s 4 i (b2 (B i || dv q i)), ⟨fun p hp => ?_, hI.2.sA (by decide)⟩, ?_⟩
    · rw [gA_sA_same]
      by_cases he : p = i
      · rw [he, upd_at, if_pos (by omega)]
      · rw [upd_ne he, hI.1 p hp]
        by_cases hlt : p < i
        · rw [if_pos hlt, if_pos (by omega)]
        · rw [if_neg hlt, if_neg (by omega)]
    · simp only [mX11_markAbove_2, mX11_markAbove_34, mX11_markAbove_39]
      rw [if_neg (show ¬ (2401 : Int32) ≤ nI i from nI_ge (b := 2401) hi (by decide)), inb_nI hi (by decide), hb, codeAt_spec hi, obs, divides_spec hq hi, obs]
      simp only [inb_nI hi (show 2401 < 2 ^ 31 by decide), bnd_eq, nI_1, zbg_0, zbg_1]
      cases B i with
      | true =>
        rw [if_neg (by decide)]
        rfl
      | false =>
        rw [if_pos (by decide)]
        cases dv q i with
        | true =>
          rw [if_neg (by decide)]
          rfl
        | false =>
          rw [if_pos (by decide)]
          rfl
  · intro f s hI
    simp only [mX11_markAbove_2]
    rw [if_pos (show (2401 : Int32) ≤ nI 2401 by decide)]
    refine ⟨s, rfl, fun p hp => ?_, hI.2⟩
    rw [hI.1 p hp, if_pos hp]
theorem mk_congr {S : St} {n : Nat} {B B1 : Nat → Bool} (h : mk S n B) (e : ∀ p, p < 2401 → B1 p = B p) : mk S n B1 := fun p hp => (h p hp).trans (congrArg b2 (e p hp).symm)
theorem up_take {G : List Nat} {i p : Nat} (h : i < G.length) : up (G.take (i + 1)) p = (up (G.take i) p || dv (G.getD i 0) p) := any_take h
