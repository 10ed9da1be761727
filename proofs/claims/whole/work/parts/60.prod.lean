/-! PURE PART: products -/
def hd (v x : Nat) : Nat := x / 16 ^ v % 16
def udv (x y : Nat) : Bool := allF (fun v => decide (hd v x ≤ hd v y)) 0 4
theorem udv_iff {x y : Nat} : udv x y = true ↔ hd 0 x ≤ hd 0 y ∧ hd 1 x ≤ hd 1 y ∧ hd 2 x ≤ hd 2 y ∧ hd 3 x ≤ hd 3 y := by
  unfold udv
  simp only [allF, Bool.and_eq_true, decide_eq_true_eq, Bool.and_true]
theorem udv_refl (x : Nat) : udv x x = true := udv_iff.mpr ⟨Nat.le_refl _, Nat.le_refl _, Nat.le_refl _, Nat.le_refl _⟩
theorem udv_trans {x y z : Nat} (a : udv x y = true) (b : udv y z = true) : udv x z = true := by
  obtain ⟨a1, a2, a3, a4⟩ := udv_iff.mp a
  obtain ⟨b1, b2, b3, b4⟩ := udv_iff.mp b
  exact udv_iff.mpr ⟨Nat.le_trans a1 b1, Nat.le_trans a2 b2, Nat.le_trans a3 b3, Nat.le_trans a4 b4⟩
def wH (w : Nat) : Bool := decide (6 < hd 0 w) || (decide (6 < hd 1 w) || (decide (6 < hd 2 w) || decide (6 < hd 3 w)))
def wcap (w : Nat) : Nat := mk4 (min 6 (hd 3 w)) (min 6 (hd 2 w)) (min 6 (hd 1 w)) (min 6 (hd 0 w))
def okW (w : Nat) : Prop := w < 65536 ∧ hd 0 w ≤ 12 ∧ hd 1 w ≤ 12 ∧ hd 2 w ≤ 12 ∧ hd 3 w ≤ 12
theorem hd_hx {a b c d : Nat} (ha : a < 16) (hb : b < 16) (hc : c < 16) (hd1 : d < 16) : hd 0 (hx a b c d) = d ∧ hd 1 (hx a b c d) = c ∧ hd 2 (hx a b c d) = b ∧ hd 3 (hx a b c d) = a := by
  unfold hd hx
  refine ⟨?_, ?_, ?_, ?_⟩
  · show _ / 1 % 16 = _
    omega
  · show _ / 16 % 16 = _
    omega
  · show _ / 256 % 16 = _
    omega
  · show _ / 4096 % 16 = _
    omega
theorem w_hx {w : Nat} (h : w < 65536) : w = hx (hd 3 w) (hd 2 w) (hd 1 w) (hd 0 w) := by
  unfold hd hx
  show w = 16 * (16 * (16 * (w / 4096 % 16) + w / 256 % 16) + w / 16 % 16) + w / 1 % 16
  omega
theorem pw_hx (p q : Nat) : hexN p + hexN q = hx (p / 343 + q / 343) (p / 49 % 7 + q / 49 % 7) (p / 7 % 7 + q / 7 % 7) (p % 7 + q % 7) := by
  unfold hexN hx
  omega
theorem okW_pw {p q : Nat} (hp : p < 2401) (hq : q < 2401) : okW (hexN p + hexN q) := by
  obtain ⟨pa, pb, pc, pd, -⟩ := digs p hp
  obtain ⟨qa, qb, qc, qd, -⟩ := digs q hq
  have h1 := hexN_lt hp
  have h2 := hexN_lt hq
  refine ⟨by omega, ?_⟩
  rw [pw_hx]
  obtain ⟨e0, e1, e2, e3⟩ := hd_hx (a := p / 343 + q / 343) (b := p / 49 % 7 + q / 49 % 7) (c := p / 7 % 7 + q / 7 % 7) (d := p % 7 + q % 7) (by omega) (by omega) (by omega) (by omega)
  rw [e0, e1, e2, e3]
  exact ⟨by omega, by omega, by omega, by omega⟩
theorem wcap_lt (w : Nat) : wcap w < 2401 := mk4_lt (by omega) (by omega) (by omega) (by omega)
theorem wH_false {w : Nat} : wH w = false ↔ hd 0 w ≤ 6 ∧ hd 1 w ≤ 6 ∧ hd 2 w ≤ 6 ∧ hd 3 w ≤ 6 := by
  unfold wH
  simp only [Bool.or_eq_false_iff, decide_eq_false_iff_not, Nat.not_lt]
theorem low_hex {w : Nat} (h : okW w) (hl : wH w = false) : w = hexN (wcap w) := by
  obtain ⟨l0, l1, l2, l3⟩ := wH_false.mp hl
  obtain ⟨e1, e2, e3, e4⟩ := mk4_dig (a := min 6 (hd 3 w)) (b := min 6 (hd 2 w)) (c := min 6 (hd 1 w)) (d := min 6 (hd 0 w)) (by omega) (by omega) (by omega)
  rw [hexN_hx]
  unfold wcap
  rw [e1, e2, e3, e4, Nat.min_eq_right l0, Nat.min_eq_right l1, Nat.min_eq_right l2, Nat.min_eq_right l3]
  exact w_hx h.1
theorem wcap_dig (w : Nat) : wcap w / 343 = min 6 (hd 3 w) ∧ wcap w / 49 % 7 = min 6 (hd 2 w) ∧ wcap w / 7 % 7 = min 6 (hd 1 w) ∧ wcap w % 7 = min 6 (hd 0 w) := mk4_dig (by omega) (by omega) (by omega)
theorem udv_dv {x y : Nat} (hl : wH x = false) : udv x y = dv (wcap x) (wcap y) := by
  obtain ⟨l0, l1, l2, l3⟩ := wH_false.mp hl
  obtain ⟨e1, e2, e3, e4⟩ := wcap_dig x
  obtain ⟨f1, f2, f3, f4⟩ := wcap_dig y
  rw [Bool.eq_iff_iff, udv_iff, dv_iff, e1, e2, e3, e4, f1, f2, f3, f4]
  clear e1 e2 e3 e4 f1 f2 f3 f4 hl
  omega
theorem high8 : ∀ x, x ≤ 12 → (x + 1) &&& 8 = if 6 < x then 8 else 0 := by decide
theorem isTooHigh_spec {w : Nat} (h : okW w) : mX3_isTooHigh (nI w) = some (b2 (wH w)) := by
  obtain ⟨h0, h1, h2, h3, h4⟩ := h
  unfold mX3_isTooHigh wH
  rw [w_hx h0]
  obtain ⟨e0, e1, e2, e3⟩ := hd_hx (a := hd 3 w) (b := hd 2 w) (c := hd 1 w) (d := hd 0 w) (by omega) (by omega) (by omega) (by omega)
  rw [e0, e1, e2, e3]
  clear e0 e1 e2 e3
  generalize hd 0 w = d at *
  generalize hd 1 w = c at *
  generalize hd 2 w = b at *
  generalize hd 3 w = a at *
  have e : (nI (hx a b c d) + 4369) &&& 34952 = nI (hx (if 6 < a then 8 else 0) (if 6 < b then 8 else 0) (if 6 < c then 8 else 0) (if 6 < d then 8 else 0)) := by
    rw [show (4369 : Int32) = nI (hx 1 1 1 1) from rfl, show (34952 : Int32) = nI (hx 8 8 8 8) from rfl, nI_add, show hx a b c d + hx 1 1 1 1 = hx (a + 1) (b + 1) (c + 1) (d + 1) by unfold hx; omega, nI_and, hx_and (by omega) (by omega) (by omega) (by omega) (by omega) (by omega), high8 a h4, high8 b h3, high8 c h2, high8 d h1]
  rw [e]
  by_cases x1 : 6 < a <;> by_cases x2 : 6 < b <;> by_cases x3 : 6 < c <;> by_cases x4 : 6 < d <;> simp only [x1, x2, x3, x4, if_true, if_false, decide_true, decide_false] <;> rfl
theorem contains_w {S : St} {w : Nat} {B : Nat → Bool} (h : okW w) (hB : hS S 56 B) : mX6_contains S 55 (nI w) = some (b2 (B (wcap w))) := by
  obtain ⟨h0, h1, h2, h3, h4⟩ := h
  obtain ⟨H, a, b⟩ := hB
  obtain ⟨e1, e2, e3, e4⟩ := exp_hx (a := hd 3 w) (b := hd 2 w) (c := hd 1 w) (d := hd 0 w) (by omega) (by omega) (by omega) (by omega)
  have hcl := capC_lt (hd 3 w) (hd 2 w) (hd 1 w)
  obtain ⟨k1, k2⟩ := a _ hcl
  have ec : wcap w / 7 = capC (hd 3 w) (hd 2 w) (hd 1 w) := mk4_cell (by omega)
  rw [b _ (wcap_lt w)]
  unfold mX6_contains bH
  rw [w_hx h0, cellOf_hx (by omega) (by omega) (by omega) (by omega), obs, inb_nI hcl (by decide), e4, obs, ← w_hx h0, ec, (wcap_dig w).2.2.2, show imin 6 (nI (hd 0 w)) = nI (min 6 (hd 0 w)) from imin_nI (a := 6) (by decide) (by omega), k1]
  by_cases hl : H (capC (hd 3 w) (hd 2 w) (hd 1 w)) ≤ min 6 (hd 0 w)
  · rw [if_neg (nI_nlt hl (by omega)), decide_eq_true hl]
    rfl
  · rw [if_pos (nI_lt (by omega) (by omega)), decide_eq_false hl]
    rfl
/-! the reference's products -/
theorem hd_spec {w v : Nat} (hw : w < 2 ^ 31) (hv : v < 4) : (nI w >>> ((4 * nI v) &&& 31)) &&& 15 = nI (hd v w) := by
  have h4 : ∀ s : Int32, ∀ k, (s.toBitVec.smod 32).toNat = k → (nI w >>> s) &&& 15 = nI (w / 2 ^ k % 16) := fun s k hs => by
    rw [pk_shrN hw s k hs, pk_andN (Nat.lt_of_le_of_lt (Nat.div_le_self _ _) (by omega)) 4 (by decide)]
  unfold hd
  rcases (show v = 0 ∨ v = 1 ∨ v = 2 ∨ v = 3 by omega) with rfl | rfl | rfl | rfl
  · exact h4 _ 0 (by decide)
  · exact h4 _ 4 (by decide)
  · exact h4 _ 8 (by decide)
  · exact h4 _ 12 (by decide)
theorem hd_lt (v w : Nat) : hd v w < 16 := Nat.mod_lt _ (by decide)
theorem under_loop {x y : Nat} (hx1 : x < 2 ^ 31) (hy1 : y < 2 ^ 31) : ∀ (k v n : Nat) (b : Bool), v + k = 4 → k < n → mX11_isUnder_4 n (nI x) (nI y) (b2 b) (nI v) = some (b2 (b && allF (fun v => decide (hd v x ≤ hd v y)) v k)) := by
  intro k
  induction k with
  | zero =>
    intro v n b hv hn
    obtain ⟨n, rfl⟩ : ∃ m, n = m + 1 := ⟨n - 1, by omega⟩
    simp (disch := omega) only [mX11_isUnder_4, lit_nI, nI_leI', zbg_b2, allF, Bool.and_true]
    rw [if_pos (by omega)]
  | succ k ih =>
    intro v n b hv hn
    obtain ⟨n, rfl⟩ : ∃ m, n = m + 1 := ⟨n - 1, by omega⟩
    have h1 := hd_lt v x
    have h2 := hd_lt v y
    simp only [mX11_isUnder_4, mX11_isUnder_36, mX11_isUnder_37, bnd_eq, nI_1, allF]
    rw [if_neg (show ¬ (4 : Int32) ≤ nI v from nI_ge (b := 4) (by omega) (by decide)), hd_spec hx1 (by omega), hd_spec hy1 (by omega)]
    cases b with
    | false =>
      rw [if_pos (by decide), show (0 : Int32) = b2 false from rfl, ih (v + 1) n false (by omega) (by omega)]
      simp
    | true =>
      rw [if_neg (by decide), show (0 : Int32) = b2 false from rfl, show (1 : Int32) = b2 true from rfl, ih (v + 1) n false (by omega) (by omega), ih (v + 1) n true (by omega) (by omega)]
      by_cases h3 : hd v y < hd v x
      · rw [if_pos (nI_lt h3 (by omega))]
        simp [show ¬ hd v x ≤ hd v y by omega]
      · rw [if_neg (nI_nlt (by omega) (by omega))]
        simp [show hd v x ≤ hd v y by omega]
theorem isUnder_spec {x y : Nat} (hx1 : x < 65536) (hy1 : y < 65536) : mX11_isUnder (nI x) (nI y) = some (b2 (udv x y)) := by
  unfold mX11_isUnder udv
  exact under_loop (by omega) (by omega) 4 0 FU true (by omega) (FU_gt (by decide))
theorem isHigh_spec {w : Nat} (h : w < 65536) : mX11_isHigh (nI w) = some (b2 (wH w)) := by
  have e1 : nI w &&& 15 = nI (hd 0 w) := by
    rw [pk_andN (by omega) 4 (by decide)]
    unfold hd
    show nI (w % 16) = nI (w / 1 % 16)
    rw [Nat.div_one]
  have e2 : (nI w >>> ((4 : Int32) &&& 31)) &&& 15 = nI (hd 1 w) := hd_spec (v := 1) (by omega) (by decide)
  have e3 : (nI w >>> ((8 : Int32) &&& 31)) &&& 15 = nI (hd 2 w) := hd_spec (v := 2) (by omega) (by decide)
  have e4 : nI w >>> ((12 : Int32) &&& 31) = nI (hd 3 w) := by
    rw [pk_shrN (by omega) _ 12 (by decide)]
    unfold hd
    show nI (w / 4096) = nI (w / 4096 % 16)
    rw [Nat.mod_eq_of_lt (by omega)]
  have l0 := hd_lt 0 w
  have l1 := hd_lt 1 w
  have l2 := hd_lt 2 w
  have l3 := hd_lt 3 w
  unfold mX11_isHigh mX11_isHigh_41 wH
  rw [e1, e2, e3, e4]
  clear e1 e2 e3 e4
  by_cases x1 : 6 < hd 0 w
  · rw [if_pos (show (6 : Int32) < nI (hd 0 w) from nI_lt (a := 6) x1 (by omega)), decide_eq_true x1]
    rfl
  · rw [if_neg (show ¬ (6 : Int32) < nI (hd 0 w) from nI_nlt (a := 6) (by omega) (by decide)), decide_eq_false x1]
    by_cases x2 : 6 < hd 1 w
    · rw [if_pos (show (6 : Int32) < nI (hd 1 w) from nI_lt (a := 6) x2 (by omega)), decide_eq_true x2]
      rfl
    · rw [if_neg (show ¬ (6 : Int32) < nI (hd 1 w) from nI_nlt (a := 6) (by omega) (by decide)), decide_eq_false x2]
      by_cases x3 : 6 < hd 2 w
      · rw [if_pos (show (6 : Int32) < nI (hd 2 w) from nI_lt (a := 6) x3 (by omega)), decide_eq_true x3]
        rfl
      · rw [if_neg (show ¬ (6 : Int32) < nI (hd 2 w) from nI_nlt (a := 6) (by omega) (by decide)), decide_eq_false x3]
        by_cases x4 : 6 < hd 3 w
        · rw [if_neg (show ¬ nI (hd 3 w) ≤ 6 from nI_ge (a := 6) x4 (by omega)), decide_eq_true x4]
          rfl
        · rw [if_pos (show nI (hd 3 w) ≤ 6 from nI_le (b := 6) (by omega) (by decide)), decide_eq_false x4]
          rfl
theorem packed_fuel {p q : Nat} (hp : p < 2401) (hq : q < 2401) {n : Nat} (hn : 5 < n) : mX11_packed_4 n (nI (decN p)) (nI (decN q)) (nI 0) (nI 0) = some (nI (hexN p + hexN q)) := by
  obtain ⟨n, rfl⟩ : ∃ m, n = m + 5 := ⟨n - 5, by omega⟩
  have p0 := power_dec (v := 0) (by omega) hp
  have p1 := power_dec (v := 1) (by omega) hp
  have p2 := power_dec (v := 2) (by omega) hp
  have p3 := power_dec (v := 3) (by omega) hp
  have q0 := power_dec (v := 0) (by omega) hq
  have q1 := power_dec (v := 1) (by omega) hq
  have q2 := power_dec (v := 2) (by omega) hq
  have q3 := power_dec (v := 3) (by omega) hq
  simp only [mX11_packed_4, bnd_eq, nI_1, if_neg (show ¬ (4 : Int32) ≤ nI 0 by decide), if_neg (show ¬ (4 : Int32) ≤ nI (0 + 1) by decide), if_neg (show ¬ (4 : Int32) ≤ nI (0 + 1 + 1) by decide), if_neg (show ¬ (4 : Int32) ≤ nI (0 + 1 + 1 + 1) by decide), if_pos (show (4 : Int32) ≤ nI (0 + 1 + 1 + 1 + 1) by decide), obs, p0, q0, show mX11_power (nI (decN p)) (nI (0 + 1)) = _ from p1, show mX11_power (nI (decN q)) (nI (0 + 1)) = _ from q1, show mX11_power (nI (decN p)) (nI (0 + 1 + 1)) = _ from p2, show mX11_power (nI (decN q)) (nI (0 + 1 + 1)) = _ from q2, show mX11_power (nI (decN p)) (nI (0 + 1 + 1 + 1)) = _ from p3, show mX11_power (nI (decN q)) (nI (0 + 1 + 1 + 1)) = _ from q3, nI_add, nI_mul, show (16 : Int32) = nI 16 from rfl]
  refine congrArg (fun z => some (nI z)) ?_
  rw [pw_hx]
  simp only [ex]
  unfold hx
  omega
theorem packed_spec {p q : Nat} (hp : p < 2401) (hq : q < 2401) : mX11_packed (nI (decN p)) (nI (decN q)) = some (nI (hexN p + hexN q)) := packed_fuel hp hq (FU_gt (by decide))
/-- the array of products -/
def wL (S : St) (W : List Nat) : Prop := gI S 0 10 = nI W.length ∧ ∀ i, i < W.length → gA S 7 i = nI (W.getD i 0)
def addW (W : List Nat) (w : Nat) : List Nat := if W.any (fun x => udv x w) then W else W.filter (fun x => !udv w x) ++ [w]
theorem filter_take {W : List Nat} {i : Nat} {f : Nat → Bool} (h : i < W.length) : (W.take (i + 1)).filter f = (W.take i).filter f ++ (if f (W.getD i 0) then [W.getD i 0] else []) := by
  rw [take_succ' h, List.filter_append]
  congr 1
  generalize W.getD i 0 = x
  cases h : f x <;> simp [h]
theorem filter_take_len {W : List Nat} {i : Nat} {f : Nat → Bool} : ((W.take i).filter f).length ≤ i := by
  have h1 := List.length_filter_le f (W.take i)
  have h2 := List.length_take_le i W
  omega
theorem add34 {S : St} {W : List Nat} {w : Nat} (hW : wL S W) (hl : W.length < 1600) (hw : w < 65536) (hq : ∀ x ∈ W, x < 65536) : ∃ S1, mX11_addProduct_34 FU S (nI w) 0 0 = some S1 ∧ wL S1 (W.filter (fun x => !udv w x) ++ [w]) ∧ Fr [7] [(0, 10)] S S1 := by
  refine loopG (σ := St) (N := W.length) (fun f i s => mX11_addProduct_34 f s (nI w) (nI ((W.take i).filter (fun x => !udv w x)).length) (nI i)) (fun i s => gI s 0 10 = nI W.length ∧ (∀ t, t < ((W.take i).filter (fun x => !udv w x)).length → gA s 7 t = nI (((W.take i).filter (fun x => !udv w x)).getD t 0)) ∧ (∀ t, i ≤ t → t < W.length → gA s 7 t = nI (W.getD t 0)) ∧ Fr [7] [(0, 10)] S s) (fun r => ∃ S1, r = some S1 ∧ wL S1 (W.filter (fun x => !udv w x) ++ [w]) ∧ Fr [7] [(0, 10)] S S1) (by omega) ?_ ?_ S ⟨hW.1, fun t ht => absurd ht (Nat.not_lt_zero t), fun t _ ht => hW.2 t ht, Fr.refl _ _ S⟩
  · intro i f s hi hI
    obtain ⟨i1, i2, i3, i4⟩ := hI
    have hle := filter_take_len (W := W) (i := i) (f := fun x => !udv w x)
    have hft := filter_take (f := fun x => !udv w x) hi
    have hmem := hq _ (getD_mem hi)
    generalize hF : (W.take i).filter (fun x => !udv w x) = F at *
    have e1 : gA (sA s 7 F.length (nI (W.getD i 0))) 7 i = nI (W.getD i 0) := by
      rw [gA_sA_same]
      by_cases he : i = F.length
      · rw [← he, upd_at]
      · rw [upd_ne he, i3 i (Nat.le_refl i) hi]
    refine Or.inl ⟨sA s 7 F.length (nI (W.getD i 0)), ⟨by rw [gI_sA]; exact i1, fun t ht => ?_, fun t h1 h2 => ?_, i4.sA (by decide)⟩, ?_⟩
    · rw [hft] at ht ⊢
      rw [gA_sA_same]
      rw [List.length_append] at ht
      by_cases he : t = F.length
      · subst he
        cases hu : (!udv w (W.getD i 0)) with
        | false =>
          rw [hu] at ht
          simp at ht
        | true =>
          rw [upd_at, if_pos rfl, show F.length = F.length + 0 from rfl, getD_right]
          rfl
      · have ht1 : t < F.length := by
          cases hu : (!udv w (W.getD i 0)) with
          | false =>
            rw [hu] at ht
            simpa using ht
          | true =>
            rw [hu] at ht
            have : t < F.length + 1 := by simpa using ht
            omega
        rw [upd_ne he, i2 t ht1, getD_left ht1]
    · rw [gA_sA_same, upd_ne (by omega)]
      exact i3 t (by omega) h2
    · simp only [mX11_addProduct_34, mX11_addProduct_73, bnd_eq, nI_1]
      rw [i1, if_neg (nI_ge hi (by omega)), inb_nI (show i < 1600 by omega) (by decide), inb_nI (show F.length < 1600 by omega) (by decide), inb_nI (show i < 1600 by omega) (by decide), i3 i (Nat.le_refl i) hi, e1, isUnder_spec hw hmem, obs, hft, List.length_append]
      cases udv w (W.getD i 0) with
      | false =>
        rw [if_pos (by decide)]
        rfl
      | true =>
        rw [if_neg (by decide), show nI F.length + 0 = nI F.length from nI_add _ 0]
        rfl
  · intro f s hI
    obtain ⟨i1, i2, i3, i4⟩ := hI
    rw [List.take_length] at i2
    have hle := filter_take_len (W := W) (i := W.length) (f := fun x => !udv w x)
    rw [List.take_length] at hle
    simp only [mX11_addProduct_34]
    rw [i1, if_pos (nI_le (Nat.le_refl _) (by omega)), List.take_length, inb_nI (show (W.filter (fun x => !udv w x)).length < 1600 by omega) (by decide), nI_1]
    generalize W.filter (fun x => !udv w x) = F at *
    refine ⟨_, rfl, ⟨?_, fun t ht => ?_⟩, (i4.sA (by decide)).sI (by decide)⟩
    · rw [gI_sI_same, List.length_append]
      rfl
    · rw [gA_sI, gA_sA_same]
      rw [List.length_append] at ht
      have ht : t < F.length + 1 := ht
      by_cases he : t = F.length
      · subst he
        rw [upd_at, show F.length = F.length + 0 from rfl, getD_right]
        rfl
      · rw [upd_ne he, i2 t (by omega), getD_left (by omega)]
theorem addProduct_spec {S : St} {W : List Nat} {w : Nat} (hW : wL S W) (hl : W.length < 1600) (hw : w < 65536) (hq : ∀ x ∈ W, x < 65536) : ∃ S1, mX11_addProduct S (nI w) = some S1 ∧ wL S1 (addW W w) ∧ Fr [7] [(0, 10)] S S1 := by
  unfold mX11_addProduct
  refine loopG (σ := Unit) (N := W.length) (fun f i _ => mX11_addProduct_4 f S (nI w) 0 (nI i)) (fun i _ => (W.take i).any (fun x => udv x w) = false) (fun r => ∃ S1, r = some S1 ∧ wL S1 (addW W w) ∧ Fr [7] [(0, 10)] S S1) (by omega) ?_ ?_ () (by simp)
  · intro i f _ hi hI
    have ht := any_take (f := fun x => udv x w) hi
    rw [hI, Bool.false_or] at ht
    simp only [mX11_addProduct_4, bnd_eq, nI_1]
    rw [hW.1, if_neg (nI_ge hi (by omega)), inb_nI (show i < 1600 by omega) (by decide), hW.2 i hi, isUnder_spec (hq _ (getD_mem hi)) hw, obs]
    cases hd : udv (W.getD i 0) w with
    | false => exact Or.inl ⟨(), by rw [ht, hd], if_pos (by decide)⟩
    | true =>
      refine Or.inr ⟨S, if_neg (by decide), ?_, Fr.refl _ _ S⟩
      unfold addW
      rw [if_pos (List.any_eq_true.mpr ⟨_, getD_mem hi, hd⟩)]
      exact hW
  · intro f _ hI
    rw [List.take_length] at hI
    simp only [mX11_addProduct_4]
    rw [hW.1, if_pos (nI_le (Nat.le_refl _) (by omega))]
    obtain ⟨S1, e1, e2, e3⟩ := add34 hW hl hw hq
    refine ⟨S1, e1, ?_, e3⟩
    unfold addW
    rw [if_neg (by rw [hI]; decide)]
    exact e2
