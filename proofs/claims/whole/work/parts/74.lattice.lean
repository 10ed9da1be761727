/-! PURE PART: the lattice -/
def rcS (p x g : Nat) : Nat := if dv g p then x ||| (15 - supN (p - g)) else x
def rc (G : List Nat) (p : Nat) : Nat := G.foldl (rcS p) 0
def ltB (G : List Nat) (p : Nat) : Bool := decide (rc G p = 15)
theorem rcS_lt {p x g : Nat} (h : x < 16) : rcS p x g < 16 := by
  unfold rcS
  split
  · exact Nat.or_lt_two_pow (n := 4) h (by omega)
  · exact h
theorem rc_lt (p : Nat) : ∀ (L : List Nat) (x : Nat), x < 16 → L.foldl (rcS p) x < 16 := by
  intro L
  induction L with
  | nil => intro x hx; exact hx
  | cons g L ih => intro x hx; exact ih _ (rcS_lt hx)
theorem rcl (G : List Nat) (p : Nat) : rc G p < 16 := rc_lt p G 0 (by decide)
theorem rc15 (p : Nat) : ∀ (L : List Nat), L.foldl (rcS p) 15 = 15 := by
  intro L
  induction L with
  | nil => rfl
  | cons g L ih =>
    rw [List.foldl_cons]
    have : rcS p 15 g = 15 := by
      unfold rcS
      split
      · have : ∀ y, y < 16 → 15 ||| y = 15 := by decide
        exact this _ (by omega)
      · rfl
    rw [this, ih]
theorem rc_bit (p v : Nat) : ∀ (L : List Nat) (x : Nat), (L.foldl (rcS p) x).testBit v = (x.testBit v || L.any (fun g => dv g p && (15 - supN (p - g)).testBit v)) := by
  intro L
  induction L with
  | nil => intro x; simp
  | cons g L ih =>
    intro x
    rw [List.foldl_cons, ih, List.any_cons]
    unfold rcS
    cases dv g p with
    | true =>
      rw [if_pos rfl, Nat.testBit_or, Bool.true_and, Bool.or_assoc]
    | false => rw [if_neg (by decide), Bool.false_and, Bool.false_or]
theorem bit15 : ∀ s, s < 16 → ∀ v, v < 4 → (15 - s).testBit v = decide (s / 2 ^ v % 2 = 0) := by decide
theorem all15 : ∀ x, x < 16 → decide (x = 15) = (x.testBit 0 && (x.testBit 1 && (x.testBit 2 && x.testBit 3))) := by decide
theorem sup_bit {q v : Nat} (hv : v < 4) : (supN q / 2 ^ v % 2 = 0) = (ex v q = 0) := by
  obtain ⟨-, b0, b1, b2, b3⟩ := supN_bits q
  have key : ∀ y : Nat, ((if y = 0 then 0 else 1) = 0) = (y = 0) := fun y => by
    by_cases h : y = 0
    · rw [if_pos h]
      exact propext ⟨fun _ => h, fun _ => rfl⟩
    · rw [if_neg h]
      exact propext ⟨fun z => absurd z (by decide), fun z => absurd z h⟩
  rcases (show v = 0 ∨ v = 1 ∨ v = 2 ∨ v = 3 by omega) with rfl | rfl | rfl | rfl
  · rw [show supN q / 2 ^ 0 = supN q from Nat.div_one _, b0, key]
  · rw [show supN q / 2 ^ 1 = supN q / 2 from rfl, b1, key]
  · rw [show supN q / 2 ^ 2 = supN q / 4 from rfl, b2, key]
  · rw [show supN q / 2 ^ 3 = supN q / 8 from rfl, b3, key]
theorem ex_sub {g p v : Nat} (hp : p < 2401) (h : dv g p = true) (hv : v < 4) : ex v (p - g) = ex v p - ex v g := by
  obtain ⟨e1, e2, e3, e4, -⟩ := dv_digs hp h
  rcases (show v = 0 ∨ v = 1 ∨ v = 2 ∨ v = 3 by omega) with rfl | rfl | rfl | rfl
  · exact e1
  · exact e2
  · exact e3
  · exact e4
theorem lt_iff {G : List Nat} {p : Nat} (hp : p < 2401) : ltB G p = true ↔ ∀ v, v < 4 → ∃ g ∈ G, dv g p = true ∧ ex v g = ex v p := by
  have hb : ∀ v, v < 4 → ((rc G p).testBit v = true ↔ ∃ g ∈ G, dv g p = true ∧ ex v g = ex v p) := fun v hv => by
    unfold rc
    rw [rc_bit, Nat.zero_testBit, Bool.false_or, List.any_eq_true]
    constructor
    · rintro ⟨g, g1, g2⟩
      rw [Bool.and_eq_true] at g2
      refine ⟨g, g1, g2.1, ?_⟩
      have h2 := g2.2
      rw [bit15 _ (supN_bits _).1 v hv, decide_eq_true_eq, sup_bit hv, ex_sub hp g2.1 hv] at h2
      have := ex_dv g2.1 v
      omega
    · rintro ⟨g, g1, g2, g3⟩
      refine ⟨g, g1, ?_⟩
      rw [g2, Bool.true_and, bit15 _ (supN_bits _).1 v hv, decide_eq_true_eq, sup_bit hv, ex_sub hp g2 hv]
      omega
  unfold ltB
  rw [all15 _ (rcl G p), Bool.and_eq_true, Bool.and_eq_true, Bool.and_eq_true, hb 0 (by decide), hb 1 (by decide), hb 2 (by decide), hb 3 (by decide)]
  constructor
  · rintro ⟨h0, h1, h2, h3⟩ v hv
    rcases (show v = 0 ∨ v = 1 ∨ v = 2 ∨ v = 3 by omega) with rfl | rfl | rfl | rfl
    · exact h0
    · exact h1
    · exact h2
    · exact h3
  · intro h
    exact ⟨h 0 (by decide), h 1 (by decide), h 2 (by decide), h 3 (by decide)⟩
theorem lt_up {G : List Nat} {p : Nat} (hp : p < 2401) (h : ltB G p = true) : up G p = true := by
  obtain ⟨g, g1, g2, -⟩ := (lt_iff hp).mp h 0 (by decide)
  exact up_iff.mpr ⟨g, g1, g2⟩
theorem not_sup : ∀ s, s < 16 → (15 : Int32) &&& (nI s ^^^ (-1)) = nI (15 - s) := by decide
theorem icm_spec {S : St} {m p : Nat} {G : List Nat} (hp : p < 2401) (hc : cG S m G) (hl : G.length ≤ 40) (hq : ∀ q ∈ G, q < 2401) : mX2_isCommonMultiple S m (nI (hexN p)) = some (b2 (ltB G p)) := by
  have fin : ∀ x, x < 16 → mX2_isCommonMultiple_56 S m (nI x) = some (b2 (decide (x = 15))) := fun x hx => by
    unfold mX2_isCommonMultiple_56
    by_cases h : x = 15
    · rw [if_pos (show nI x = 15 by rw [h]; rfl), decide_eq_true h]
      rfl
    · rw [if_neg (show ¬ nI x = 15 from fun e => h ((nI_eq (b := 15) (by omega) (by decide)).mp e)), decide_eq_false h]
      rfl
  unfold mX2_isCommonMultiple
  refine loopG (σ := Unit) (N := G.length) (fun f i _ => mX2_isCommonMultiple_4 S m f (nI (hexN p)) (nI (rc (G.take i) p)) (nI i)) (fun _ _ => True) (fun r => r = some (b2 (ltB G p))) (by omega) ?_ ?_ () trivial
  · intro i f _ hi _
    have hlt := rcl (G.take i) p
    have hstep : rc (G.take (i + 1)) p = rcS p (rc (G.take i) p) (G.getD i 0) := by
      unfold rc
      rw [take_succ' hi, List.foldl_append]
      rfl
    have hg := hq _ (getD_mem hi)
    simp only [mX2_isCommonMultiple_4, mX2_isCommonMultiple_50, bnd_eq, nI_1]
    rw [hc.1, if_neg (nI_ge hi (by omega))]
    by_cases h15 : rc (G.take i) p = 15
    · refine Or.inr ?_
      rw [if_pos (show nI (rc (G.take i) p) = 15 by rw [h15]; rfl), fin _ hlt, h15]
      unfold ltB
      have : rc G p = 15 := by
        unfold rc at h15 ⊢
        rw [← List.take_append_drop i G, List.foldl_append, h15, rc15]
      rw [this]
    · refine Or.inl ⟨(), trivial, ?_⟩
      rw [if_neg (show ¬ nI (rc (G.take i) p) = 15 from fun e => h15 ((nI_eq (b := 15) (by have : rc (G.take i) p < 16 := hlt; omega) (by decide)).mp e)), inb_nI (show i < 40 by omega) (by decide), hc.2 i hi, cdiv_spec hg hp, obs, inb_nI (show i < 40 by omega) (by decide), hc.2 i hi, hstep]
      unfold rcS
      cases hd : dv (G.getD i 0) p with
      | false =>
        rw [if_pos (by decide)]
        rfl
      | true =>
        rw [if_neg (by decide), hex_sub hp hd, support_spec (by omega), obs, not_sup _ (supN_bits _).1, nI_or]
        rfl
  · intro f _ _
    simp only [mX2_isCommonMultiple_4]
    rw [hc.1, if_pos (nI_le (Nat.le_refl _) (by omega)), List.take_length, fin _ (rcl G p)]
    rfl
/-! the reference's lattice -/
def jn (p q : Nat) : Nat := mk4 (max (p / 343) (q / 343)) (max (p / 49 % 7) (q / 49 % 7)) (max (p / 7 % 7) (q / 7 % 7)) (max (p % 7) (q % 7))
theorem jn_lt {p q : Nat} (hp : p < 2401) (hq : q < 2401) : jn p q < 2401 := by
  obtain ⟨pa, pb, pc, pd, -⟩ := digs p hp
  obtain ⟨qa, qb, qc, qd, -⟩ := digs q hq
  exact mk4_lt (Nat.max_lt.mpr ⟨pa, qa⟩) (Nat.max_lt.mpr ⟨pb, qb⟩) (Nat.max_lt.mpr ⟨pc, qc⟩) (Nat.max_lt.mpr ⟨pd, qd⟩)
theorem jn_ex {p q v : Nat} (hv : v < 4) : ex v (jn p q) = max (ex v p) (ex v q) := by
  obtain ⟨e1, e2, e3, e4⟩ := mk4_dig (a := max (p / 343) (q / 343)) (b := max (p / 49 % 7) (q / 49 % 7)) (c := max (p / 7 % 7) (q / 7 % 7)) (d := max (p % 7) (q % 7)) (Nat.max_lt.mpr ⟨Nat.mod_lt _ (by decide), Nat.mod_lt _ (by decide)⟩) (Nat.max_lt.mpr ⟨Nat.mod_lt _ (by decide), Nat.mod_lt _ (by decide)⟩) (Nat.max_lt.mpr ⟨Nat.mod_lt _ (by decide), Nat.mod_lt _ (by decide)⟩)
  rcases (show v = 0 ∨ v = 1 ∨ v = 2 ∨ v = 3 by omega) with rfl | rfl | rfl | rfl
  · exact e1
  · exact e2
  · exact e3
  · exact e4
theorem ex_ext {p q : Nat} (hp : p < 2401) (hq : q < 2401) (h : ∀ v, v < 4 → ex v p = ex v q) : p = q := by
  obtain ⟨-, -, -, -, pe⟩ := digs p hp
  obtain ⟨-, -, -, -, qe⟩ := digs q hq
  have h0 : p / 343 = q / 343 := h 0 (by decide)
  have h1 : p / 49 % 7 = q / 49 % 7 := h 1 (by decide)
  have h2 : p / 7 % 7 = q / 7 % 7 := h 2 (by decide)
  have h3 : p % 7 = q % 7 := h 3 (by decide)
  rw [pe, qe, h0, h1, h2, h3]
theorem dv_ex {p q : Nat} : dv p q = true ↔ ∀ v, v < 4 → ex v p ≤ ex v q := by
  constructor
  · exact fun h v _ => ex_dv h v
  · exact fun h => dv_iff.mpr ⟨h 0 (by decide), h 1 (by decide), h 2 (by decide), h 3 (by decide)⟩
theorem jn_step {p q x v n : Nat} (hp : p < 2401) (hq : q < 2401) (hv : v < 4) : mX11_together_4 (n + 1) (nI (decN p)) (nI (decN q)) (nI x) (nI v) = mX11_together_4 n (nI (decN p)) (nI (decN q)) (nI (x + tenN v * max (ex v p) (ex v q))) (nI (v + 1)) := by
  have h1 := ex_lt (v := v) hp
  have h2 := ex_lt (v := v) hq
  simp only [mX11_together_4]
  rw [if_neg (show ¬ (4 : Int32) ≤ nI v from nI_ge (b := 4) hv (by decide)), ten_spec hv, obs, power_dec hv hp, obs, power_dec hv hq, obs, greater_imax, obs, imax_nI (by omega) (by omega), nI_mul, nI_add, bnd_eq, bnd_eq, nI_1]
theorem together_spec {p q : Nat} (hp : p < 2401) (hq : q < 2401) : mX11_together (nI (decN p)) (nI (decN q)) = some (nI (decN (jn p q))) := by
  have hfuel : ∀ n, mX11_together_4 (n + 1 + 1 + 1 + 1 + 1) (nI (decN p)) (nI (decN q)) 0 0 = some (nI (decN (jn p q))) := fun n => by
    rw [show mX11_together_4 (n + 1 + 1 + 1 + 1 + 1) (nI (decN p)) (nI (decN q)) 0 0 = _ from jn_step (x := 0) (v := 0) hp hq (by decide), jn_step hp hq (by decide), jn_step hp hq (by decide), jn_step hp hq (by decide)]
    simp only [mX11_together_4]
    rw [if_pos (show (4 : Int32) ≤ nI (0 + 1 + 1 + 1 + 1) by decide)]
    refine congrArg (fun z => some (nI z)) ?_
    unfold jn
    rw [mk4_dec (Nat.max_lt.mpr ⟨Nat.mod_lt _ (by decide), Nat.mod_lt _ (by decide)⟩) (Nat.max_lt.mpr ⟨Nat.mod_lt _ (by decide), Nat.mod_lt _ (by decide)⟩) (Nat.max_lt.mpr ⟨Nat.mod_lt _ (by decide), Nat.mod_lt _ (by decide)⟩)]
    simp only [ex, tenN]
    generalize max (p / 343) (q / 343) = x0
    generalize max (p / 49 % 7) (q / 49 % 7) = x1
    generalize max (p / 7 % 7) (q / 7 % 7) = x2
    generalize max (p % 7) (q % 7) = x3
    omega
  exact hfuel 1073741819
def stL (L : Nat → Bool) (g p : Nat) : Bool := (L p || (List.range 2401).any (fun x => L x && decide (jn x g = p))) || decide (g = p)
theorem stL_iff {L : Nat → Bool} {g p : Nat} : stL L g p = true ↔ L p = true ∨ (∃ x, x < 2401 ∧ L x = true ∧ jn x g = p) ∨ g = p := by
  unfold stL
  rw [Bool.or_eq_true, Bool.or_eq_true, List.any_eq_true, decide_eq_true_eq, or_assoc]
  simp only [Bool.and_eq_true, decide_eq_true_eq, List.mem_range]
/-- the join of some -/
theorem join_list : ∀ (L : List Nat), L ≠ [] → (∀ g ∈ L, g < 2401) → ∃ x, x < 2401 ∧ (∀ g ∈ L, dv g x = true) ∧ ∀ v, v < 4 → ∃ g ∈ L, ex v g = ex v x := by
  intro L
  induction L with
  | nil => intro h; exact absurd rfl h
  | cons a L ih =>
    intro _ hq
    by_cases hL : L = []
    · subst hL
      exact ⟨a, hq a (by simp), fun g hg => by rw [List.mem_singleton.mp hg]; exact dv_refl a, fun v _ => ⟨a, by simp, rfl⟩⟩
    · obtain ⟨x, x1, x2, x3⟩ := ih hL (fun g hg => hq g (by simp [hg]))
      have ha := hq a (by simp)
      refine ⟨jn a x, jn_lt ha x1, fun g hg => ?_, fun v hv => ?_⟩
      · refine dv_ex.mpr (fun v hv => ?_)
        rw [jn_ex hv]
        rcases List.mem_cons.mp hg with e | e
        · rw [e]
          exact Nat.le_max_left _ _
        · exact Nat.le_trans (ex_dv (x2 g e) v) (Nat.le_max_right _ _)
      · rw [jn_ex hv]
        by_cases hle : ex v x ≤ ex v a
        · exact ⟨a, by simp, (Nat.max_eq_left hle).symm⟩
        · obtain ⟨g, g1, g2⟩ := x3 v hv
          exact ⟨g, by simp [g1], by rw [Nat.max_eq_right (by omega)]; exact g2⟩
theorem lt_step {G : List Nat} {g p : Nat} (hq : ∀ q ∈ G, q < 2401) (hg : g < 2401) (hp : p < 2401) : ltB (G ++ [g]) p = stL (ltB G) g p := by
  rw [Bool.eq_iff_iff, lt_iff hp, stL_iff, lt_iff hp]
  constructor
  · intro h
    by_cases hall : ∀ v, v < 4 → ∃ x ∈ G, dv x p = true ∧ ex v x = ex v p
    · exact Or.inl hall
    · refine Or.inr ?_
      -- some exponent is reached by the new one alone
      have hgp : dv g p = true := by
        cases hd : dv g p with
        | true => rfl
        | false =>
          refine absurd (fun v hv => ?_) hall
          obtain ⟨x, x1, x2, x3⟩ := h v hv
          rcases List.mem_append.mp x1 with z | z
          · exact ⟨x, z, x2, x3⟩
          · rw [List.mem_singleton.mp z, hd] at x2
            cases x2
      by_cases hnil : G.filter (fun x => dv x p) = []
      · refine Or.inr (ex_ext hg hp (fun v hv => ?_))
        obtain ⟨x, x1, x2, x3⟩ := h v hv
        rcases List.mem_append.mp x1 with z | z
        · have : x ∈ G.filter (fun x => dv x p) := List.mem_filter.mpr ⟨z, x2⟩
          rw [hnil] at this
          cases this
        · rw [List.mem_singleton.mp z] at x3
          exact x3
      · refine Or.inl ?_
        obtain ⟨x, x1, x2, x3⟩ := join_list _ hnil (fun y hy => hq y (List.mem_filter.mp hy).1)
        have hxp : dv x p = true := dv_ex.mpr (fun v hv => by
          obtain ⟨y, y1, y2⟩ := x3 v hv
          rw [← y2]
          exact ex_dv (List.mem_filter.mp y1).2 v)
        refine ⟨x, x1, (lt_iff x1).mpr (fun v hv => ?_), ex_ext (jn_lt x1 hg) hp (fun v hv => ?_)⟩
        · obtain ⟨y, y1, y2⟩ := x3 v hv
          exact ⟨y, (List.mem_filter.mp y1).1, x2 y y1, y2⟩
        · rw [jn_ex hv]
          have l1 := ex_dv hxp v
          have l2 := ex_dv hgp v
          obtain ⟨y, y1, y2, y3⟩ := h v hv
          rcases List.mem_append.mp y1 with z | z
          · have := ex_dv (x2 y (List.mem_filter.mpr ⟨z, y2⟩)) v
            omega
          · rw [List.mem_singleton.mp z] at y3
            omega
  · rintro (h | ⟨x, x1, x2, x3⟩ | h)
    · intro v hv
      obtain ⟨y, y1, y2⟩ := h v hv
      exact ⟨y, List.mem_append_left _ y1, y2⟩
    · intro v hv
      subst x3
      rw [jn_ex hv]
      by_cases hle : ex v x ≤ ex v g
      · refine ⟨g, List.mem_append_right _ (List.mem_singleton.mpr rfl), dv_ex.mpr (fun u hu => ?_), (Nat.max_eq_right hle).symm⟩
        rw [jn_ex hu]
        exact Nat.le_max_right _ _
      · obtain ⟨y, y1, y2, y3⟩ := (lt_iff x1).mp x2 v hv
        refine ⟨y, List.mem_append_left _ y1, dv_ex.mpr (fun u hu => ?_), by rw [Nat.max_eq_left (by omega)]; exact y3⟩
        rw [jn_ex hu]
        exact Nat.le_trans (ex_dv y2 u) (Nat.le_max_left _ _)
    · intro v hv
      exact ⟨g, List.mem_append_right _ (List.mem_singleton.mpr rfl), by rw [h]; exact dv_refl p, by rw [h]⟩
theorem lat_copy {S : St} {L : Nat → Bool} {x1 x2 : Int32} (k24 : St → Int32 → Int32 → Option St) (hL : mk S 14 L) : ∃ S1, mX11_findLattice_38 k24 FU S x1 x2 2400 = mX11_findLattice_62 k24 FU S1 x1 x2 0 ∧ mk S1 4 L ∧ Fr [4] [] S S1 := by
  have := loopG (σ := St) (N := 2401) (fun f i s => mX11_findLattice_38 k24 f s x1 x2 (2400 - nI i)) (fun i s => (∀ p, p < 2401 → 2401 - i ≤ p → gA s 4 p = b2 (L p)) ∧ Fr [4] [] S s) (fun r => ∃ S1, r = mX11_findLattice_62 k24 FU S1 x1 x2 0 ∧ mk S1 4 L ∧ Fr [4] [] S S1) (by omega) ?_ ?_ S ⟨fun p hp h => by omega, Fr.refl _ _ S⟩
  · exact this
  · intro i f s hi hI
    have hc : 2400 - i < 2401 := by omega
    have e : (2400 : Int32) - nI i = nI (2400 - i) := nI_sub (a := 2400) (by omega)
    have hv : gA s 14 (2400 - i) = b2 (L (2400 - i)) := by
      rw [hI.2.1 14 (by decide)]
      exact hL _ hc
    refine Or.inl ⟨sA s 4 (2400 - i) (b2 (L (2400 - i))), ⟨fun p hp h => ?_, hI.2.sA (by decide)⟩, ?_⟩
    · rw [gA_sA_same]
      by_cases he : p = 2400 - i
      · rw [he, upd_at]
      · rw [upd_ne he]
        exact hI.1 p hp (by omega)
    · simp only [mX11_findLattice_38]
      rw [← sub_m1, e, if_neg (nI_pos (by omega)), inb_nI hc (by decide), hv, zbg_b2, inb_nI hc (by decide), bnd_eq]
  · intro f s hI
    simp only [mX11_findLattice_38]
    rw [if_pos (show (2400 : Int32) - nI 2401 < 0 by decide)]
    exact ⟨s, rfl, fun p hp => hI.1 p hp (by omega), hI.2⟩
theorem lat_add {S : St} {L : Nat → Bool} {h i g : Nat} (k24 : St → Int32 → Int32 → Option St) (hh : h < 16) (hi : i < 40) (hg : g < 2401) (hat : gA S 1 (40 * h + i) = nI (decN g)) (hm : mk S 4 L) (hL : mk S 14 L) : ∃ S1, mX11_findLattice_62 k24 FU S (nI h) (nI i) 0 = k24 S1 (nI h) (nI (i + 1)) ∧ mk S1 14 (stL L g) ∧ Fr [14] [] S S1 := by
  refine loopG (σ := St) (N := 2401) (fun f e s => mX11_findLattice_62 k24 f s (nI h) (nI i) (nI e)) (fun e s => mk s 14 (fun p => L p || (List.range e).any (fun x => L x && decide (jn x g = p))) ∧ Fr [14] [] S s) (fun r => ∃ S1, r = k24 S1 (nI h) (nI (i + 1)) ∧ mk S1 14 (stL L g) ∧ Fr [14] [] S S1) (by omega) ?_ ?_ S ⟨fun p hp => by
    show _ = b2 (L p || ([] : List Nat).any _)
    rw [List.any_nil, Bool.or_false]
    exact hL p hp, Fr.refl _ _ S⟩
  · intro e f s he hI
    have hv : gA s 4 e = b2 (L e) := by
      rw [hI.2.1 4 (by decide)]
      exact hm e he
    have hat1 : gA s 1 (40 * h + i) = nI (decN g) := by
      rw [hI.2.1 1 (by decide)]
      exact hat
    have hjl := jn_lt he hg
    simp only [mX11_findLattice_62, mX11_findLattice_100, bnd_eq, nI_1]
    rw [if_neg (show ¬ (2401 : Int32) ≤ nI e from nI_ge (b := 2401) he (by decide)), inb_nI he (by decide), hv, codeAt_spec he, obs, at_spec hh hi, hat1, obs, together_spec he hg, obs, placeOf_spec hjl, obs, inb_nI hjl (by decide)]
    refine Or.inl ?_
    cases hLe : L e with
    | false =>
      refine ⟨s, ⟨fun p hp => ?_, hI.2⟩, if_pos (by decide)⟩
      rw [hI.1 p hp]
      show b2 (L p || (List.range e).any (fun x => L x && decide (jn x g = p))) = b2 (L p || (List.range (e + 1)).any (fun x => L x && decide (jn x g = p)))
      rw [List.range_succ, List.any_append]
      simp [hLe]
    | true =>
      refine ⟨_, ⟨fun p hp => ?_, hI.2.sA (by decide)⟩, if_neg (by decide)⟩
      rw [gA_sA_same]
      show _ = b2 (L p || (List.range (e + 1)).any (fun x => L x && decide (jn x g = p)))
      rw [List.range_succ, List.any_append]
      by_cases hpj : p = jn e g
      · rw [hpj, upd_at]
        simp [hLe]
        rfl
      · rw [upd_ne hpj, hI.1 p hp]
        have : decide (jn e g = p) = false := decide_eq_false (fun z => hpj z.symm)
        simp [this]
  · intro f s hI
    have hat1 : gA s 1 (40 * h + i) = nI (decN g) := by
      rw [hI.2.1 1 (by decide)]
      exact hat
    simp only [mX11_findLattice_62]
    rw [if_pos (show (2401 : Int32) ≤ nI 2401 by decide), at_spec hh hi, hat1, obs, placeOf_spec hg, obs, inb_nI hg (by decide), bnd_eq, nI_1]
    refine ⟨_, rfl, fun p hp => ?_, hI.2.sA (by decide)⟩
    rw [gA_sA_same]
    unfold stL
    by_cases hpg : p = g
    · rw [hpg, upd_at, decide_eq_true rfl, Bool.or_true]
      rfl
    · rw [upd_ne hpg, hI.1 p hp, decide_eq_false (fun z => hpg z.symm), Bool.or_false]
theorem findLattice_spec {S : St} {h : Nat} {G : List Nat} (hh : h < 16) (hm : mG S h G) (hl : G.length ≤ 40) (hq : ∀ q ∈ G, q < 2401) : ∃ S1, mX11_findLattice S (nI h) = some S1 ∧ mk S1 14 (ltB G) ∧ Fr [4, 14] [] S S1 := by
  unfold mX11_findLattice
  have h1 : ∃ S1, mX11_findLattice_2 FU S (nI h) 0 = mX11_findLattice_24 FU S1 (nI h) 0 ∧ mk S1 14 (fun _ => false) ∧ Fr [4, 14] [] S S1 := by
    refine loopG (σ := St) (N := 2401) (fun f i s => mX11_findLattice_2 f s (nI h) (nI i)) (fun i s => (∀ p, p < i → gA s 14 p = b2 false) ∧ Fr [4, 14] [] S s) (fun r => ∃ S1, r = mX11_findLattice_24 FU S1 (nI h) 0 ∧ mk S1 14 (fun _ => false) ∧ Fr [4, 14] [] S S1) (by omega) ?_ ?_ S ⟨fun j hj => absurd hj (Nat.not_lt_zero j), Fr.refl _ _ S⟩
    · intro i f s hi hI
      refine Or.inl ⟨sA s 14 i 0, ⟨fun j hj => ?_, hI.2.sA (by decide)⟩, ?_⟩
      · rw [gA_sA_same]
        by_cases he : j = i
        · rw [he, upd_at]
          rfl
        · rw [upd_ne he]
          exact hI.1 j (by omega)
      · simp only [mX11_findLattice_2]
        rw [if_neg (show ¬ (2401 : Int32) ≤ nI i from nI_ge (b := 2401) hi (by decide)), inb_nI hi (by decide), bnd_eq, nI_1]
    · intro f s hI
      simp only [mX11_findLattice_2]
      rw [if_pos (show (2401 : Int32) ≤ nI 2401 by decide)]
      exact ⟨s, rfl, hI.1, hI.2⟩
  obtain ⟨S0, a1, a2, a3⟩ := h1
  rw [a1]
  refine loopG (σ := St) (N := G.length) (fun f i s => mX11_findLattice_24 f s (nI h) (nI i)) (fun i s => mk s 14 (ltB (G.take i)) ∧ Fr [4, 14] [] S s) (fun r => ∃ S1, r = some S1 ∧ mk S1 14 (ltB G) ∧ Fr [4, 14] [] S S1) (by omega) ?_ ?_ S0 ⟨mk_congr a2 (fun p _ => rfl), a3⟩
  · intro i f s hi hI
    have hm1 := mG_fr hm hI.2 (by decide) (by decide)
    have hg := hq _ (getD_mem hi)
    obtain ⟨s1, b1, b2, b3⟩ := lat_copy (x1 := nI h) (x2 := nI i) (mX11_findLattice_24 f) hI.1
    have hm2 := mG_fr hm1 b3 (by decide) (by decide)
    obtain ⟨s2, c1, c2, c3⟩ := lat_add (mX11_findLattice_24 f) hh (show i < 40 by omega) hg (hm2.2 i hi) b2 (fun p hp => by rw [b3.1 14 (by decide)]; exact hI.1 p hp)
    refine Or.inl ⟨s2, ⟨mk_congr c2 (fun p hp => ?_), hI.2.trans ((b3.mono (by simp) (by simp)).trans (c3.mono (by simp) (by simp)))⟩, ?_⟩
    · rw [take_succ' hi]
      exact lt_step (fun q hqq => hq q (List.mem_of_mem_take hqq)) hg hp
    · simp only [mX11_findLattice_24]
      rw [inb_nI hh (by decide), hm1.1, if_neg (nI_ge hi (by omega)), b1, c1]
  · intro f s hI
    have hm1 := mG_fr hm hI.2 (by decide) (by decide)
    rw [List.take_length] at hI
    simp only [mX11_findLattice_24]
    rw [inb_nI hh (by decide), hm1.1, if_pos (nI_le (Nat.le_refl _) (by omega))]
    exact ⟨s, rfl, hI.1, hI.2⟩
