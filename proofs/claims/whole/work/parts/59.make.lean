/-! PURE PART: sum, meet, quotient, radical -/
def mk4 (a b c d : Nat) : Nat := 343 * a + 49 * b + 7 * c + d
theorem mk4_dig {a b c d : Nat} (hb : b < 7) (hc : c < 7) (hd : d < 7) : mk4 a b c d / 343 = a ∧ mk4 a b c d / 49 % 7 = b ∧ mk4 a b c d / 7 % 7 = c ∧ mk4 a b c d % 7 = d := dig4 hb hc hd
theorem mk4_lt {a b c d : Nat} (ha : a < 7) (hb : b < 7) (hc : c < 7) (hd : d < 7) : mk4 a b c d < 2401 := by unfold mk4; omega
theorem mk4_dec {a b c d : Nat} (hb : b < 7) (hc : c < 7) (hd : d < 7) : decN (mk4 a b c d) = 1000 * a + 100 * b + 10 * c + d := by
  obtain ⟨e1, e2, e3, e4⟩ := mk4_dig (a := a) hb hc hd
  unfold decN
  rw [e1, e2, e3, e4]
theorem mk4_cell {a b c d : Nat} (hd : d < 7) : mk4 a b c d / 7 = 49 * a + 7 * b + c := by unfold mk4; omega
/-- the product, six standing for all beyond -/
def cap (p q : Nat) : Nat := mk4 (min 6 (p / 343 + q / 343)) (min 6 (p / 49 % 7 + q / 49 % 7)) (min 6 (p / 7 % 7 + q / 7 % 7)) (min 6 (p % 7 + q % 7))
theorem cap_lt (p q : Nat) : cap p q < 2401 := mk4_lt (by omega) (by omega) (by omega) (by omega)
theorem less6 {x : Nat} (h : x < 2 ^ 31) : mX11_less 6 (nI x) = some (nI (min 6 x)) := by
  unfold mX11_less
  by_cases h1 : x ≤ 6
  · rw [if_pos (show nI x ≤ 6 from nI_le (b := 6) h1 (by decide)), Nat.min_eq_right h1]
  · rw [if_neg (show ¬ nI x ≤ 6 from nI_ge (a := 6) (by omega) h), Nat.min_eq_left (by omega)]
    rfl
theorem capped_fuel {p q : Nat} (hp : p < 2401) (hq : q < 2401) {n : Nat} (hn : 5 < n) : mX11_capped_4 n (nI (decN p)) (nI (decN q)) (nI 0) (nI 0) = some (nI (decN (cap p q))) := by
  obtain ⟨n, rfl⟩ : ∃ m, n = m + 5 := ⟨n - 5, by omega⟩
  have p0 := power_dec (v := 0) (by omega) hp
  have p1 := power_dec (v := 1) (by omega) hp
  have p2 := power_dec (v := 2) (by omega) hp
  have p3 := power_dec (v := 3) (by omega) hp
  have q0 := power_dec (v := 0) (by omega) hq
  have q1 := power_dec (v := 1) (by omega) hq
  have q2 := power_dec (v := 2) (by omega) hq
  have q3 := power_dec (v := 3) (by omega) hq
  have l0 := ex_lt (v := 0) hp
  have l1 := ex_lt (v := 1) hp
  have l2 := ex_lt (v := 2) hp
  have l3 := ex_lt (v := 3) hp
  have m0 := ex_lt (v := 0) hq
  have m1 := ex_lt (v := 1) hq
  have m2 := ex_lt (v := 2) hq
  have m3 := ex_lt (v := 3) hq
  have e : decN (cap p q) = 1000 * min 6 (ex 0 p + ex 0 q) + 100 * min 6 (ex 1 p + ex 1 q) + 10 * min 6 (ex 2 p + ex 2 q) + min 6 (ex 3 p + ex 3 q) := mk4_dec (by omega) (by omega) (by omega)
  rw [e]
  clear e
  generalize ex 0 p = a at *
  generalize ex 1 p = b at *
  generalize ex 2 p = c at *
  generalize ex 3 p = d at *
  generalize ex 0 q = a1 at *
  generalize ex 1 q = b1 at *
  generalize ex 2 q = c1 at *
  generalize ex 3 q = d1 at *
  simp only [mX11_capped_4, bnd_eq, nI_1, if_neg (show ¬ (4 : Int32) ≤ nI 0 by decide), if_neg (show ¬ (4 : Int32) ≤ nI (0 + 1) by decide), if_neg (show ¬ (4 : Int32) ≤ nI (0 + 1 + 1) by decide), if_neg (show ¬ (4 : Int32) ≤ nI (0 + 1 + 1 + 1) by decide), if_pos (show (4 : Int32) ≤ nI (0 + 1 + 1 + 1 + 1) by decide), ten_spec (show 0 < 4 by decide), ten_spec (show 0 + 1 < 4 by decide), ten_spec (show 0 + 1 + 1 < 4 by decide), ten_spec (show 0 + 1 + 1 + 1 < 4 by decide), obs, p0, q0, show mX11_power (nI (decN p)) (nI (0 + 1)) = _ from p1, show mX11_power (nI (decN q)) (nI (0 + 1)) = _ from q1, show mX11_power (nI (decN p)) (nI (0 + 1 + 1)) = _ from p2, show mX11_power (nI (decN q)) (nI (0 + 1 + 1)) = _ from q2, show mX11_power (nI (decN p)) (nI (0 + 1 + 1 + 1)) = _ from p3, show mX11_power (nI (decN q)) (nI (0 + 1 + 1 + 1)) = _ from q3, nI_add, less6 (show a + a1 < 2 ^ 31 by omega), less6 (show b + b1 < 2 ^ 31 by omega), less6 (show c + c1 < 2 ^ 31 by omega), less6 (show d + d1 < 2 ^ 31 by omega), nI_mul]
  refine congrArg (fun z => some (nI z)) ?_
  show 0 + 1000 * min 6 (a + a1) + 100 * min 6 (b + b1) + 10 * min 6 (c + c1) + 1 * min 6 (d + d1) = _
  omega
theorem capped_spec {p q : Nat} (hp : p < 2401) (hq : q < 2401) : mX11_capped (nI (decN p)) (nI (decN q)) = some (nI (decN (cap p q))) := capped_fuel hp hq (FU_gt (by decide))
def quB (K J : List Nat) (p : Nat) : Bool := J.all (fun q => up K (cap p q))
def raB (K : List Nat) (p : Nat) : Bool := K.any (fun q => dv (sqN (supN q)) p)
theorem isQuotient_spec {S : St} {k j p : Nat} {K J : List Nat} (hk : k < 16) (hj : j < 16) (hp : p < 2401) (mk1 : mG S k K) (lk : K.length ≤ 40) (qk : ∀ q ∈ K, q < 2401) (mj : mG S j J) (lj : J.length ≤ 40) (qj : ∀ q ∈ J, q < 2401) : mX11_isQuotient S (nI k) (nI j) (nI (decN p)) = some (b2 (quB K J p)) := by
  unfold mX11_isQuotient
  refine loopN (N := J.length) (fun n i => mX11_isQuotient_6 S n (nI k) (nI j) (nI (decN p)) (b2 ((J.take i).all (fun q => up K (cap p q)))) (nI i)) (by omega) ?_ ?_
  · intro i n hi
    have ht := all_take (f := fun q => up K (cap p q)) hi
    simp only [mX11_isQuotient_6, mX11_isQuotient_45, mX11_isQuotient_46, bnd_eq, nI_1]
    rw [inb_nI hj (by decide), mj.1, if_neg (nI_ge hi (by omega)), at_spec hj (by omega), mj.2 i hi, obs, capped_spec hp (qj _ (getD_mem hi)), obs, isIn_spec hk (cap_lt _ _) mk1 lk qk, obs, ht]
    cases (J.take i).all (fun q => up K (cap p q)) with
    | false =>
      rw [if_pos (by decide)]
      rfl
    | true =>
      rw [if_neg (by decide)]
      cases up K (cap p (J.getD i 0)) with
      | true =>
        rw [if_neg (by decide)]
        rfl
      | false =>
        rw [if_pos (by decide)]
        rfl
  · intro n
    simp only [mX11_isQuotient_6]
    rw [inb_nI hj (by decide), mj.1, if_pos (nI_le (Nat.le_refl _) (by omega)), List.take_length, zbg_b2]
    rfl
theorem sup_sub : ∀ x, x < 16 → ∀ y, y < 16 → decide ((nI x &&& (nI y ^^^ (-1))) = 0) = (decide (x % 2 ≤ y % 2) && (decide (x / 2 % 2 ≤ y / 2 % 2) && (decide (x / 4 % 2 ≤ y / 4 % 2) && decide (x / 8 % 2 ≤ y / 8 % 2)))) := by decide +kernel
theorem supN_bits (p : Nat) : supN p < 16 ∧ supN p % 2 = (if ex 0 p = 0 then 0 else 1) ∧ supN p / 2 % 2 = (if ex 1 p = 0 then 0 else 1) ∧ supN p / 4 % 2 = (if ex 2 p = 0 then 0 else 1) ∧ supN p / 8 % 2 = (if ex 3 p = 0 then 0 else 1) := by
  unfold supN
  split <;> split <;> split <;> split <;> decide
theorem dv_sq {x p : Nat} (h : x < 16) : dv (sqN x) p = (decide (x % 2 ≤ supN p % 2) && (decide (x / 2 % 2 ≤ supN p / 2 % 2) && (decide (x / 4 % 2 ≤ supN p / 4 % 2) && decide (x / 8 % 2 ≤ supN p / 8 % 2)))) := by
  obtain ⟨-, b0, b1, b2, b3⟩ := supN_bits p
  obtain ⟨e1, e2, e3, e4⟩ := dig4 (a := x % 2) (b := x / 2 % 2) (c := x / 4 % 2) (d := x / 8 % 2) (by omega) (by omega) (by omega)
  rw [b0, b1, b2, b3]
  unfold dv sqN
  rw [e1, e2, e3, e4]
  have key : ∀ t y : Nat, t ≤ 1 → decide (t ≤ y) = decide (t ≤ (if y = 0 then 0 else 1)) := fun t y ht => by
    by_cases hy : y = 0
    · rw [if_pos hy, hy]
    · rw [if_neg hy, decide_eq_true (by omega), decide_eq_true ht]
  rw [key _ (p / 343) (by omega), key _ (p / 49 % 7) (by omega), key _ (p / 7 % 7) (by omega), key _ (p % 7) (by omega)]
  rfl
theorem isRoot_spec {S : St} {k p : Nat} {K : List Nat} (hk : k < 16) (hp : p < 2401) (mk1 : mG S k K) (lk : K.length ≤ 40) (qk : ∀ q ∈ K, q < 2401) : mX11_isRoot S (nI k) (nI (decN p)) = some (b2 (raB K p)) := by
  unfold mX11_isRoot
  refine loopN (N := K.length) (fun n i => mX11_isRoot_5 S n (nI k) (nI (decN p)) (b2 ((K.take i).any (fun q => dv (sqN (supN q)) p))) (nI i)) (by omega) ?_ ?_
  · intro i n hi
    have ht := any_take (f := fun q => dv (sqN (supN q)) p) hi
    have hs := sup_sub (supN (K.getD i 0)) (supN_bits _).1 (supN p) (supN_bits _).1
    rw [← dv_sq (supN_bits _).1] at hs
    simp only [mX11_isRoot_5, mX11_isRoot_40, mX11_isRoot_45, bnd_eq, nI_1]
    rw [inb_nI hk (by decide), mk1.1, if_neg (nI_ge hi (by omega)), at_spec hk (by omega), mk1.2 i hi, obs, rsupport_spec (qk _ (getD_mem hi)), obs, rsupport_spec hp, obs, ht]
    cases (K.take i).any (fun q => dv (sqN (supN q)) p) with
    | true =>
      rw [if_neg (by decide)]
      rfl
    | false =>
      rw [if_pos (by decide)]
      cases hd : dv (sqN (supN (K.getD i 0))) p with
      | true =>
        rw [hd] at hs
        rw [if_pos (of_decide_eq_true hs)]
        rfl
      | false =>
        rw [hd] at hs
        rw [if_neg (of_decide_eq_false hs)]
        rfl
  · intro n
    simp only [mX11_isRoot_5]
    rw [inb_nI hk (by decide), mk1.1, if_pos (nI_le (Nat.le_refl _) (by omega)), List.take_length, zbg_b2]
    rfl
def mdB (how : Nat) (K J : List Nat) (p : Nat) : Bool := match how with
  | 0 => up K p || up J p
  | 1 => up K p && up J p
  | 3 => quB K J p
  | _ => raB K p
theorem isMade_spec {S : St} {how k j p : Nat} {K J : List Nat} (hh : how ≤ 4) (h2 : how ≠ 2) (hk : k < 16) (hj : j < 16) (hp : p < 2401) (mk1 : mG S k K) (lk : K.length ≤ 40) (qk : ∀ q ∈ K, q < 2401) (mj : mG S j J) (lj : J.length ≤ 40) (qj : ∀ q ∈ J, q < 2401) : mX11_isMade S (nI how) (nI k) (nI j) (nI (decN p)) = some (b2 (mdB how K J p)) := by
  unfold mX11_isMade mX11_isMade_52
  rcases (show how = 0 ∨ how = 1 ∨ how = 3 ∨ how = 4 by omega) with rfl | rfl | rfl | rfl
  · rw [if_pos (by decide), isIn_spec hk hp mk1 lk qk, isIn_spec hj hp mj lj qj, obs, obs]
    show _ = some (b2 (up K p || up J p))
    cases up K p <;> cases up J p <;> rfl
  · rw [if_neg (by decide), if_pos (by decide), isIn_spec hk hp mk1 lk qk, isIn_spec hj hp mj lj qj, obs, obs]
    show _ = some (b2 (up K p && up J p))
    cases up K p <;> cases up J p <;> rfl
  · rw [if_neg (by decide), if_neg (by decide), if_neg (by decide), if_pos (by decide), isQuotient_spec hk hj hp mk1 lk qk mj lj qj, obs, zbg_b2]
    rfl
  · rw [if_neg (by decide), if_neg (by decide), if_neg (by decide), if_neg (by decide), isRoot_spec hk hp mk1 lk qk, obs, zbg_b2]
    rfl
theorem rmake_spec {S : St} {how k j : Nat} {x : Int32} {K J : List Nat} (hh : how ≤ 4) (h2 : how ≠ 2) (hk : k < 16) (hj : j < 16) (mk1 : mG S k K) (lk : K.length ≤ 40) (qk : ∀ q ∈ K, q < 2401) (mj : mG S j J) (lj : J.length ≤ 40) (qj : ∀ q ∈ J, q < 2401) : ∃ S1, mX11_make_56 FU S (nI how) (nI k) (nI j) x 0 = ((mX11_keep S1 x).bind fun r1 => some (r1.1, r1.2)) ∧ mk S1 4 (mdB how K J) ∧ Fr [4] [] S S1 := by
  refine loopG (σ := St) (N := 2401) (fun f i s => mX11_make_56 f s (nI how) (nI k) (nI j) x (nI i)) (fun i s => (∀ p, p < i → gA s 4 p = b2 (mdB how K J p)) ∧ Fr [4] [] S s) (fun r => ∃ S1, r = ((mX11_keep S1 x).bind fun r1 => some (r1.1, r1.2)) ∧ mk S1 4 (mdB how K J) ∧ Fr [4] [] S S1) (by omega) ?_ ?_ S ⟨fun j hj => absurd hj (Nat.not_lt_zero j), Fr.refl _ _ S⟩
  · intro i f s hi hI
    refine Or.inl ⟨sA s 4 i (b2 (mdB how K J i)), ⟨fun p hp => ?_, hI.2.sA (by decide)⟩, ?_⟩
    · rw [gA_sA_same]
      by_cases he : p = i
      · rw [he, upd_at]
      · rw [upd_ne he]
        exact hI.1 p (by omega)
    · simp only [mX11_make_56]
      rw [if_neg (show ¬ (2401 : Int32) ≤ nI i from nI_ge (b := 2401) hi (by decide)), codeAt_spec hi, obs, isMade_spec hh h2 hk hj hi (mG_fr mk1 hI.2 (by decide) (by decide)) lk qk (mG_fr mj hI.2 (by decide) (by decide)) lj qj, obs, zbg_b2, inb_nI hi (by decide), bnd_eq, nI_1]
  · intro f s hI
    simp only [mX11_make_56]
    rw [if_pos (show (2401 : Int32) ≤ nI 2401 by decide)]
    exact ⟨s, rfl, hI.1, hI.2⟩
/-! the class's side -/
def mixH (i : Nat) (P Q : Nat → Nat) (c : Nat) : Nat := if c < i then P c else Q c
theorem mix0 {S : St} {n : Nat} {P Q : Nat → Nat} (h : hA S n Q) : hA S n (mixH 0 P Q) := fun c hc => by
  unfold mixH
  rw [if_neg (Nat.not_lt_zero c)]
  exact h c hc
theorem mixN {S : St} {n : Nat} {P Q : Nat → Nat} (h : hA S n (mixH 343 P Q)) : hA S n P := fun c hc => by
  have := h c hc
  unfold mixH at this
  rw [if_pos hc] at this
  exact this
theorem mixi {S : St} {n i : Nat} {P Q : Nat → Nat} (h : hA S n (mixH i P Q)) (hi : i < 343) : gA S n i = nI (Q i) ∧ Q i ≤ 7 := by
  have := h i hi
  unfold mixH at this
  rw [if_neg (Nat.lt_irrefl i)] at this
  exact this
theorem mixS {S : St} {n i : Nat} {P Q : Nat → Nat} (h : hA S n (mixH i P Q)) (hp : P i ≤ 7) : hA (sA S n i (nI (P i))) n (mixH (i + 1) P Q) := fun c hc => by
  have := h c hc
  unfold mixH at this ⊢
  rw [gA_sA_same]
  by_cases he : c = i
  · rw [he, upd_at, if_pos (by omega)]
    exact ⟨rfl, hp⟩
  · rw [upd_ne he]
    by_cases hlt : c < i
    · rw [if_pos hlt] at this
      rw [if_pos (by omega)]
      exact this
    · rw [if_neg hlt] at this
      rw [if_neg (by omega)]
      exact this
theorem raise_spec {S : St} {H H2 : Nat → Nat} (h : hA S 56 H) (h2 : hA S 58 H2) : ∃ S1, mX6_raiseBy S 55 57 = some S1 ∧ hA S1 56 (fun c => max (H c) (H2 c)) ∧ Fr [56] [] S S1 := by
  unfold mX6_raiseBy
  refine loopG (σ := St) (N := 343) (fun f i s => mX6_raiseBy_2 55 57 f s (nI i)) (fun i s => hA s 56 (mixH i (fun c => max (H c) (H2 c)) H) ∧ Fr [56] [] S s) (fun r => ∃ S1, r = some S1 ∧ hA S1 56 (fun c => max (H c) (H2 c)) ∧ Fr [56] [] S S1) (by omega) ?_ ?_ S ⟨mix0 h, Fr.refl _ _ S⟩
  · intro i f s hi hI
    obtain ⟨k1, k2⟩ := mixi hI.1 hi
    obtain ⟨j1, j2⟩ := hA_fr h2 hI.2 (by decide) i hi
    refine Or.inl ⟨sA s 56 i (nI (max (H i) (H2 i))), ⟨mixS hI.1 (show max (H i) (H2 i) ≤ 7 by omega), hI.2.sA (by decide)⟩, ?_⟩
    simp only [mX6_raiseBy_2]
    rw [if_neg (show ¬ (343 : Int32) ≤ nI i from nI_ge (b := 343) hi (by decide)), inb_nI hi (by decide), inb_nI hi (by decide), inb_nI hi (by decide), k1, j1, imax_nI (by omega) (by omega), bnd_eq, nI_1]
  · intro f s hI
    simp only [mX6_raiseBy_2]
    rw [if_pos (show (343 : Int32) ≤ nI 343 by decide)]
    exact ⟨s, rfl, mixN hI.1, hI.2⟩
theorem meet_hS {S : St} {B B2 : Nat → Bool} (h : hS S 56 B) (h2 : hS S 58 B2) : ∃ S1, mX6_raiseBy S 55 57 = some S1 ∧ hS S1 56 (fun p => B p && B2 p) ∧ Fr [56] [] S S1 := by
  obtain ⟨H, a, b⟩ := h
  obtain ⟨H2, a2, b2⟩ := h2
  obtain ⟨S1, e1, e2, e3⟩ := raise_spec a a2
  refine ⟨S1, e1, ⟨_, e2, fun p hp => ?_⟩, e3⟩
  show (B p && B2 p) = decide (max (H (p / 7)) (H2 (p / 7)) ≤ p % 7)
  rw [b p hp, b2 p hp]
  unfold bH
  rw [← Bool.decide_and]
  exact decide_eq_decide.mpr (by omega)
/-- a height over the quotient by one monomial -/
def qvH (H2 : Nat → Nat) (q c : Nat) : Nat := if H2 (capC (c / 49 + q / 343) (c / 7 % 7 + q / 49 % 7) (c % 7 + q / 7 % 7)) ≤ 6 then H2 (capC (c / 49 + q / 343) (c / 7 % 7 + q / 49 % 7) (c % 7 + q / 7 % 7)) - q % 7 else H2 (capC (c / 49 + q / 343) (c / 7 % 7 + q / 49 % 7) (c % 7 + q / 7 % 7))
def dH (H2 : Nat → Nat) (L : List Nat) (c : Nat) : Nat := L.foldl (fun x q => max x (qvH H2 q c)) 0
theorem dH_take {H2 : Nat → Nat} {G : List Nat} {i c : Nat} (h : i < G.length) : dH H2 (G.take (i + 1)) c = max (dH H2 (G.take i) c) (qvH H2 (G.getD i 0) c) := by
  unfold dH
  rw [take_succ' h, List.foldl_append]
  rfl
theorem imax_sub {x h d : Nat} (hx : x ≤ 7) (hh : h ≤ 7) (hd : d ≤ 7) : imax (nI x) (nI h - nI d) = nI (max x (h - d)) := by
  by_cases hl : d ≤ h
  · rw [nI_sub hl, imax_nI (by omega) (by omega)]
  · unfold imax
    rw [if_neg, show h - d = 0 by omega, Nat.max_eq_left (Nat.zero_le x)]
    intro z
    have hn : nI h - nI d < 0 := pk_sneg (by omega) (by omega)
    rw [Int32.lt_iff_toInt_lt] at z hn
    rw [nI_toInt (by omega)] at z
    rw [show (0 : Int32).toInt = 0 from by decide] at hn
    omega
theorem add_hx {c q : Nat} (hc : c < 343) (hq : q < 2401) : nI (hexN (7 * c)) + nI (hexN q) = nI (hx (c / 49 + q / 343) (c / 7 % 7 + q / 49 % 7) (c % 7 + q / 7 % 7) (q % 7)) := by
  rw [nI_add]
  refine congrArg nI ?_
  rw [show hexN (7 * c) = hx (c / 49) (c / 7 % 7) (c % 7) 0 from hex_cell (d := 0) (by decide), hexN_hx]
  unfold hx
  omega
theorem div_inner {S : St} {m : Nat} {q : Nat} {H H2 : Nat → Nat} {x2 : Int32} (k9 : St → Int32 → Option St) (hq : q < 2401) (h : hA S 56 H) (h2 : hA S 58 H2) : ∃ S1, mX9_divideOther_34 m k9 FU S x2 (nI (hexN q)) (nI (q % 7)) 0 = k9 S1 (x2 + 1) ∧ hA S1 56 (fun c => max (H c) (qvH H2 q c)) ∧ Fr [56] [] S S1 := by
  obtain ⟨qa, qb, qc, qd, -⟩ := digs q hq
  refine loopG (σ := St) (N := 343) (fun f i s => mX9_divideOther_34 m k9 f s x2 (nI (hexN q)) (nI (q % 7)) (nI i)) (fun i s => hA s 56 (mixH i (fun c => max (H c) (qvH H2 q c)) H) ∧ Fr [56] [] S s) (fun r => ∃ S1, r = k9 S1 (x2 + 1) ∧ hA S1 56 (fun c => max (H c) (qvH H2 q c)) ∧ Fr [56] [] S S1) (by omega) ?_ ?_ S ⟨mix0 h, Fr.refl _ _ S⟩
  · intro i f s hi hI
    obtain ⟨k1, k2⟩ := mixi hI.1 hi
    have hcl := capC_lt (i / 49 + q / 343) (i / 7 % 7 + q / 49 % 7) (i % 7 + q / 7 % 7)
    obtain ⟨j1, j2⟩ := hA_fr h2 hI.2 (by decide) _ hcl
    have hv : qvH H2 q i ≤ 7 := by
      unfold qvH
      split <;> omega
    refine Or.inl ⟨sA s 56 i (nI (max (H i) (qvH H2 q i))), ⟨mixS hI.1 (show max (H i) (qvH H2 q i) ≤ 7 by omega), hI.2.sA (by decide)⟩, ?_⟩
    simp only [mX9_divideOther_34, mX9_divideOther_79]
    rw [if_neg (show ¬ (343 : Int32) ≤ nI i from nI_ge (b := 343) hi (by decide)), monomialOf_spec hi, obs, add_hx hi hq, cellOf_hx (by omega) (by omega) (by omega) (by omega), obs, inb_nI hcl (by decide), bnd_eq, j1]
    simp only [inb_nI hi (show 343 < 2 ^ 31 by decide), bnd_eq, k1, nI_1]
    unfold qvH
    by_cases h6 : H2 (capC (i / 49 + q / 343) (i / 7 % 7 + q / 49 % 7) (i % 7 + q / 7 % 7)) ≤ 6
    · rw [if_pos (show nI (H2 (capC (i / 49 + q / 343) (i / 7 % 7 + q / 49 % 7) (i % 7 + q / 7 % 7))) ≤ 6 from nI_le (b := 6) h6 (by decide)), if_pos h6, imax_sub k2 j2 (by omega)]
    · rw [if_neg (show ¬ nI (H2 (capC (i / 49 + q / 343) (i / 7 % 7 + q / 49 % 7) (i % 7 + q / 7 % 7))) ≤ 6 from nI_ge (a := 6) (by omega) (by omega)), if_neg h6, imax_nI (by omega) (by omega)]
  · intro f s hI
    simp only [mX9_divideOther_34]
    rw [if_pos (show (343 : Int32) ≤ nI 343 by decide), bnd_eq]
    exact ⟨s, rfl, mixN hI.1, hI.2⟩
theorem qv_le {H2 : Nat → Nat} {K : List Nat} {q c d : Nat} (hK : ∀ p, p < 2401 → up K p = bH H2 p) (hq : q < 2401) (hc : c < 343) (hd : d ≤ 6) (hH : ∀ c, c < 343 → H2 c ≤ 7) : decide (qvH H2 q c ≤ d) = up K (cap (7 * c + d) q) := by
  obtain ⟨qa, qb, qc, qd, -⟩ := digs q hq
  have e : cap (7 * c + d) q / 7 = capC (c / 49 + q / 343) (c / 7 % 7 + q / 49 % 7) (c % 7 + q / 7 % 7) := by
    unfold cap
    rw [mk4_cell (by omega), show (7 * c + d) / 343 = c / 49 by omega, show (7 * c + d) / 49 % 7 = c / 7 % 7 by omega, show (7 * c + d) / 7 % 7 = c % 7 by omega]
    rfl
  have e2 : cap (7 * c + d) q % 7 = min 6 (d + q % 7) := by
    unfold cap
    rw [(mk4_dig (by omega) (by omega) (by omega)).2.2.2, show (7 * c + d) % 7 = d by omega]
  rw [hK _ (cap_lt _ _)]
  unfold bH qvH
  rw [e, e2]
  have hb := hH _ (capC_lt (c / 49 + q / 343) (c / 7 % 7 + q / 49 % 7) (c % 7 + q / 7 % 7))
  generalize H2 (capC (c / 49 + q / 343) (c / 7 % 7 + q / 49 % 7) (c % 7 + q / 7 % 7)) = z at *
  refine decide_eq_decide.mpr ?_
  clear e e2 hH hK
  split <;> omega
theorem bH_dH {H2 : Nat → Nat} {K : List Nat} (hK : ∀ p, p < 2401 → up K p = bH H2 p) (hH : ∀ c, c < 343 → H2 c ≤ 7) {J : List Nat} (hJ : ∀ q ∈ J, q < 2401) {p : Nat} (hp : p < 2401) : bH (dH H2 J) p = quB K J p := by
  have key : ∀ (L : List Nat) (x : Nat), (∀ q ∈ L, q < 2401) → decide (L.foldl (fun x q => max x (qvH H2 q (p / 7))) x ≤ p % 7) = (decide (x ≤ p % 7) && quB K L p) := by
    intro L
    induction L with
    | nil =>
      intro x _
      show decide (x ≤ p % 7) = (decide (x ≤ p % 7) && true)
      rw [Bool.and_true]
    | cons q L ih =>
      intro x hL
      have h1 := qv_le hK (hL q (by simp)) (show p / 7 < 343 by omega) (show p % 7 ≤ 6 by omega) hH
      rw [show 7 * (p / 7) + p % 7 = p by omega] at h1
      rw [List.foldl_cons, ih _ (fun q hq => hL q (by simp [hq]))]
      show _ = (decide (x ≤ p % 7) && (up K (cap p q) && quB K L p))
      rw [← h1, ← Bool.and_assoc, ← Bool.decide_and]
      congr 1
      exact decide_eq_decide.mpr (by omega)
  have := key J 0 hJ
  rw [decide_eq_true (Nat.zero_le _), Bool.true_and] at this
  exact this
theorem divide_spec {S : St} {m : Nat} {J K : List Nat} (hm : 60 < m) (hc : cG S m J) (hl : J.length ≤ 40) (hq : ∀ q ∈ J, q < 2401) (h2 : hS S 58 (up K)) : ∃ S1, mX9_divideOther S m = some S1 ∧ hS S1 56 (quB K J) ∧ Fr [56] [] S S1 := by
  obtain ⟨H2, a, b⟩ := h2
  obtain ⟨S0, s1, s2, s3⟩ := all_spec (S := S) (n := 55) (Or.inl rfl)
  unfold mX9_divideOther
  rw [s1, obs]
  have hH : ∀ c, c < 343 → H2 c ≤ 7 := fun c hc => (a c hc).2
  have : ∃ S1, mX9_divideOther_9 m FU S0 0 = some S1 ∧ hA S1 56 (dH H2 J) ∧ Fr [56] [] S S1 := by
    refine loopG (σ := St) (N := J.length) (fun f i s => mX9_divideOther_9 m f s (nI i)) (fun i s => hA s 56 (dH H2 (J.take i)) ∧ Fr [56] [] S s) (fun r => ∃ S1, r = some S1 ∧ hA S1 56 (dH H2 J) ∧ Fr [56] [] S S1) (by omega) ?_ ?_ S0 ⟨s2, s3⟩
    · intro i f s hi hI
      have hc1 := cG_fr hc hI.2 (by simp; omega) (by simp)
      have hqi := hq _ (getD_mem hi)
      obtain ⟨s1, e1, e2, e3⟩ := div_inner (m := m) (x2 := nI i) (mX9_divideOther_9 m f) hqi hI.1 (hA_fr a hI.2 (by decide))
      refine Or.inl ⟨s1, ⟨fun c hc => by rw [dH_take hi]; exact e2 c hc, hI.2.trans e3⟩, ?_⟩
      have hx3 : mX3_exponent (nI (hexN (J.getD i 0))) 3 = some (nI (J.getD i 0 % 7)) := exp_hex (v := 3) (by decide) hqi
      simp only [mX9_divideOther_9]
      rw [hc1.1, if_neg (nI_ge hi (by omega)), inb_nI (show i < 40 by omega) (by decide), bnd_eq, hc1.2 i hi, hx3, obs, e1, nI_1]
    · intro f s hI
      have hc1 := cG_fr hc hI.2 (by simp; omega) (by simp)
      rw [List.take_length] at hI
      simp only [mX9_divideOther_9]
      rw [hc1.1, if_pos (nI_le (Nat.le_refl _) (by omega))]
      exact ⟨s, rfl, hI.1, hI.2⟩
  obtain ⟨S1, e1, e2, e3⟩ := this
  exact ⟨S1, e1, ⟨_, e2, fun p hp => (bH_dH b hH hq hp).symm⟩, e3⟩
theorem sqN_lt (x : Nat) : sqN x < 2401 := by unfold sqN; omega
theorem radical_spec {S : St} {m : Nat} {K : List Nat} (hm : 60 < m) (hc : cG S m K) (hl : K.length ≤ 40) (hq : ∀ q ∈ K, q < 2401) : ∃ S1, mX9_radicalOf S m = some S1 ∧ hS S1 56 (raB K) ∧ Fr [56] [] S S1 := by
  obtain ⟨S0, a1, a2, a3⟩ := nothing_spec (S := S) (n := 55) (Or.inl rfl)
  unfold mX9_radicalOf
  rw [a1, obs]
  have hL : ∀ q ∈ K.map (fun q => sqN (supN q)), q < 2401 := fun q hq => by
    obtain ⟨x, -, rfl⟩ := List.mem_map.mp hq
    exact sqN_lt _
  refine loopG (σ := St) (N := K.length) (fun f i s => mX9_radicalOf_9 m f s (nI i)) (fun i s => hA s 56 (lwL (fun _ => 7) ((K.take i).map (fun q => sqN (supN q)))) ∧ Fr [56] [] S s) (fun r => ∃ S1, r = some S1 ∧ hS S1 56 (raB K) ∧ Fr [56] [] S S1) (by omega) ?_ ?_ S0 ⟨a2, a3⟩
  · intro i f s hi hI
    have hc1 := cG_fr hc hI.2 (by simp; omega) (by simp)
    obtain ⟨s1, b1, b2, b3⟩ := lower_hA (n := 55) (sqN_lt (supN (K.getD i 0))) hI.1
    refine Or.inl ⟨s1, ⟨?_, hI.2.trans b3⟩, ?_⟩
    · rw [take_succ' hi, List.map_append]
      unfold lwL
      rw [List.foldl_append]
      exact b2
    · simp only [mX9_radicalOf_9]
      rw [hc1.1, if_neg (nI_ge hi (by omega)), inb_nI (show i < 40 by omega) (by decide), hc1.2 i hi, support_spec (hq _ (getD_mem hi)), obs, ofSet_spec _ (supN_bits _).1, obs, b1, obs, bnd_eq, nI_1]
  · intro f s hI
    have hc1 := cG_fr hc hI.2 (by simp; omega) (by simp)
    rw [List.take_length] at hI
    obtain ⟨s3, c1, c2, c3⟩ := low_spread (n := 55) hL hI.1
    simp only [mX9_radicalOf_9]
    rw [hc1.1, if_pos (nI_le (Nat.le_refl _) (by omega)), c1, obs]
    refine ⟨s3, rfl, hS_congr c2 (fun p hp => ?_), hI.2.trans c3⟩
    unfold raB up
    rw [List.any_map]
    rfl
theorem combine_spec {S : St} {how m m1 : Nat} {K J : List Nat} (hh : how ≤ 4) (h2 : how ≠ 2) (hm : 60 < m) (hm1 : 60 < m1) (hc : cG S m K) (hl : K.length ≤ 40) (hq : ∀ q ∈ K, q < 2401) (hc1 : cG S m1 J) (hl1 : J.length ≤ 40) (hq1 : ∀ q ∈ J, q < 2401) : ∃ S1, mX9_combine S m m1 (nI how) = some (1, S1) ∧ hS S1 56 (mdB how K J) ∧ Fr [56, 58] [] S S1 := by
  unfold mX9_combine
  rcases (show how = 0 ∨ how = 1 ∨ how = 3 ∨ how = 4 by omega) with rfl | rfl | rfl | rfl
  · obtain ⟨S1, a1, ⟨H, a2, a2'⟩, a3⟩ := become_spec (n := 55) (Or.inl rfl) (by omega) hc hl hq
    obtain ⟨S2, b1, b2, b3⟩ := lowerBy_spec (n := 55) (by omega) (cG_fr hc1 a3 (by simp; omega) (by simp)) hl1 hq1 a2
    obtain ⟨S3, c1, c2, c3⟩ := spreadUp_hS (n := 55) (low_hS b2 a2')
    refine ⟨S3, ?_, hS_congr c2 (fun p hp => ?_), ((a3.trans b3).trans c3).mono (by simp) (by simp)⟩
    · rw [if_pos (by decide), a1, obs, b1, obs, c1, obs]
    · rcases sp_low hq1 (up K) p (fun q h z => upc_up K q p hp h z) with h | h
      · rw [h, decide_eq_true hp, Bool.true_and]
        rfl
      · omega
  · obtain ⟨S1, a1, a2, a3⟩ := become_spec (n := 55) (Or.inl rfl) (by omega) hc hl hq
    obtain ⟨S2, b1, b2, b3⟩ := become_spec (n := 57) (Or.inr (Or.inl rfl)) (by omega) (cG_fr hc1 a3 (by simp; omega) (by simp)) hl1 hq1
    obtain ⟨S3, c1, c2, c3⟩ := meet_hS (hS_fr a2 b3 (by decide)) b2
    refine ⟨S3, ?_, hS_congr c2 (fun p hp => rfl), ((a3.mono (by simp) (by simp)).trans (b3.mono (by simp) (by simp))).trans (c3.mono (by simp) (by simp))⟩
    rw [if_neg (by decide), if_pos (by decide), a1, obs, b1, obs, c1, obs]
  · obtain ⟨S2, b1, b2, b3⟩ := become_spec (n := 57) (Or.inr (Or.inl rfl)) (by omega) hc hl hq
    obtain ⟨S3, c1, c2, c3⟩ := divide_spec hm1 (cG_fr hc1 b3 (by simp; omega) (by simp)) hl1 hq1 b2
    refine ⟨S3, ?_, hS_congr c2 (fun p hp => rfl), (b3.mono (by simp) (by simp)).trans (c3.mono (by simp) (by simp))⟩
    rw [if_neg (by decide), if_neg (by decide), if_neg (by decide), if_pos (by decide), b1, obs, c1, obs]
  · obtain ⟨S3, c1, c2, c3⟩ := radical_spec hm hc hl hq
    refine ⟨S3, ?_, hS_congr c2 (fun p hp => rfl), c3.mono (by simp) (by simp)⟩
    rw [if_neg (by decide), if_neg (by decide), if_neg (by decide), if_neg (by decide), c1, obs]
theorem cap_mono {p p1 q : Nat} (h : dv p p1 = true) : dv (cap p q) (cap p1 q) = true := by
  obtain ⟨a1, a2, a3, a4⟩ := dv_iff.mp h
  obtain ⟨e1, e2, e3, e4⟩ := mk4_dig (a := min 6 (p / 343 + q / 343)) (b := min 6 (p / 49 % 7 + q / 49 % 7)) (c := min 6 (p / 7 % 7 + q / 7 % 7)) (d := min 6 (p % 7 + q % 7)) (by omega) (by omega) (by omega)
  obtain ⟨f1, f2, f3, f4⟩ := mk4_dig (a := min 6 (p1 / 343 + q / 343)) (b := min 6 (p1 / 49 % 7 + q / 49 % 7)) (c := min 6 (p1 / 7 % 7 + q / 7 % 7)) (d := min 6 (p1 % 7 + q % 7)) (by omega) (by omega) (by omega)
  refine dv_iff.mpr ?_
  unfold cap
  rw [e1, e2, e3, e4, f1, f2, f3, f4]
  generalize p / 343 = x1 at *
  generalize p / 49 % 7 = x2 at *
  generalize p / 7 % 7 = x3 at *
  generalize p % 7 = x4 at *
  generalize p1 / 343 = y1 at *
  generalize p1 / 49 % 7 = y2 at *
  generalize p1 / 7 % 7 = y3 at *
  generalize p1 % 7 = y4 at *
  clear e1 e2 e3 e4 f1 f2 f3 f4 h
  refine ⟨by omega, by omega, by omega, by omega⟩
theorem upc_md {how : Nat} (K J : List Nat) (h2 : how ≠ 2) (hh : how ≤ 4) : upc (mdB how K J) := by
  intro q p hp hB hd
  rcases (show how = 0 ∨ how = 1 ∨ how = 3 ∨ how = 4 by omega) with rfl | rfl | rfl | rfl
  · have hB : (up K q || up J q) = true := hB
    show (up K p || up J p) = true
    rw [Bool.or_eq_true] at hB ⊢
    rcases hB with h | h
    · exact Or.inl (upc_up K q p hp h hd)
    · exact Or.inr (upc_up J q p hp h hd)
  · have hB : (up K q && up J q) = true := hB
    show (up K p && up J p) = true
    rw [Bool.and_eq_true] at hB ⊢
    exact ⟨upc_up K q p hp hB.1 hd, upc_up J q p hp hB.2 hd⟩
  · have hB : quB K J q = true := hB
    show quB K J p = true
    unfold quB at hB ⊢
    rw [List.all_eq_true] at hB ⊢
    exact fun x hx => upc_up K _ _ (cap_lt _ _) (hB x hx) (cap_mono hd)
  · have hB : raB K q = true := hB
    show raB K p = true
    unfold raB at hB ⊢
    rw [List.any_eq_true] at hB ⊢
    obtain ⟨x, x1, x2⟩ := hB
    exact ⟨x, x1, dv_trans x2 hd⟩
