/-! PURE PART: the reference's reader follows the automaton; fault -/
def rst (st : Nat) : Nat := if st = 1 then 3 else if st = 3 then 1 else st
def KR : List (Nat × Nat) := [(0, 7), (0, 8)]
def RRQ (S U : St) (st q v : Nat) (M : List Nat) : Prop := Fr [6] KR S U ∧ gI U 0 7 = nI M.length ∧ (∀ i, i < M.length → gA U 6 i = nI (decN (M.getD i 0))) ∧ (st ≠ 0 → gA U 6 M.length = nI (decN q)) ∧ (st = 2 → gI U 0 8 = nI v)
def RR (S U : St) (s : PS) : Prop := RRQ S U s.st s.q s.v s.M
theorem rst_le {st : Nat} (h : st ≤ 3) : rst st ≤ 3 := by
  unfold rst
  split
  · omega
  · split <;> omega
theorem rst_eq {st k : Nat} (h : st ≤ 3) (hk : k ≤ 3) : (nI (rst st) = nI k) = (st = rst k) := by
  rw [nI_eqI (by have := rst_le h; omega) (by omega)]
  unfold rst
  refine propext ?_
  rcases (show st = 0 ∨ st = 1 ∨ st = 2 ∨ st = 3 by omega) with rfl | rfl | rfl | rfl <;> rcases (show k = 0 ∨ k = 1 ∨ k = 2 ∨ k = 3 by omega) with rfl | rfl | rfl | rfl <;> simp
theorem dig_up {q v : Nat} (hv : v < 4) (hq : q < 2401) : (decN q + tenN v) / tenN v % 10 = ex v q + 1 := by
  obtain ⟨ha, hb, hc, hd, -⟩ := digs q hq
  unfold decN
  rcases (show v = 0 ∨ v = 1 ∨ v = 2 ∨ v = 3 by omega) with rfl | rfl | rfl | rfl
  · show (1000 * (q / 343) + 100 * (q / 49 % 7) + 10 * (q / 7 % 7) + q % 7 + 1000) / 1000 % 10 = q / 343 + 1
    generalize q / 343 = a at *
    generalize q / 49 % 7 = b at *
    generalize q / 7 % 7 = c at *
    generalize q % 7 = d at *
    omega
  · show (1000 * (q / 343) + 100 * (q / 49 % 7) + 10 * (q / 7 % 7) + q % 7 + 100) / 100 % 10 = q / 49 % 7 + 1
    generalize q / 343 = a at *
    generalize q / 49 % 7 = b at *
    generalize q / 7 % 7 = c at *
    generalize q % 7 = d at *
    omega
  · show (1000 * (q / 343) + 100 * (q / 49 % 7) + 10 * (q / 7 % 7) + q % 7 + 10) / 10 % 10 = q / 7 % 7 + 1
    generalize q / 343 = a at *
    generalize q / 49 % 7 = b at *
    generalize q / 7 % 7 = c at *
    generalize q % 7 = d at *
    omega
  · show (1000 * (q / 343) + 100 * (q / 49 % 7) + 10 * (q / 7 % 7) + q % 7 + 1) / 1 % 10 = q % 7 + 1
    generalize q / 343 = a at *
    generalize q / 49 % 7 = b at *
    generalize q / 7 % 7 = c at *
    generalize q % 7 = d at *
    omega
theorem tenN_le (v : Nat) : tenN v ≤ 1000 := by
  unfold tenN
  split <;> omega
/-- what a step of the reference's reader gives -/
def rOut (S U1 : St) (r : Int32) (o : Option PS) : Prop := Fr [6] KR S U1 ∧ match o with
  | none => r = -6
  | some s1 => r = nI (rst s1.st) ∧ RR S U1 s1
theorem r135 {S U : St} {st q v c : Nat} {M : List Nat} (hF : Fr [6] KR S U) (h7 : gI U 0 7 = nI M.length) (hM : ∀ i, i < M.length → gA U 6 i = nI (decN (M.getD i 0))) (hq : gA U 6 M.length = nI (decN q)) (h8 : st = 2 → gI U 0 8 = nI v) (ost : st ≤ 3) (oq : q < 2401) (ov : st = 2 → v < 4 ∧ 1 ≤ ex v q) (hl : M.length < 60) (hc : c ≤ 126) : ∃ r U1, mX11_goOn_135 U (nI (rst st)) (nI c) = some (r, U1) ∧ rOut S U1 r (if 49 ≤ c ∧ c ≤ 54 then (if st = 2 then (if ex v q + (c - 49) ≤ 6 then some (mkS 3 (q + sevN v * (c - 49)) v M) else none) else none) else none) := by
  have fail : ∃ U1, mX11_goOn_186 U (nI c) = some (-6, U1) ∧ Fr [6] KR S U1 := by
    unfold mX11_goOn_186 mX11_goOn_187 mX11_goOn_218
    rw [h7, inb_nI hl (by decide), if_pos rfl, inb_nI hl (by decide), if_pos rfl]
    exact ⟨_, rfl, hF.sA (by decide)⟩
  obtain ⟨Uf, f1, f2⟩ := fail
  have hin : mX11_in (nI c).toInt64 49 54 = some (b2 (decide (49 ≤ c) && decide (c ≤ 54))) := in_nI (l := 49) (h := 54) (by omega) (by decide) (by decide)
  unfold mX11_goOn_135
  by_cases h2 : st = 2
  · rw [if_pos (show nI (rst st) = 2 by rw [h2]; rfl), hin, obs]
    obtain ⟨v1, v2⟩ := ov h2
    by_cases hf : 49 ≤ c ∧ c ≤ 54
    · rw [decide_eq_true hf.1, decide_eq_true hf.2, if_neg (by decide), h7, inb_nI hl (by decide), hq, h8 h2, power_dec v1 oq, obs, if_pos hf, if_pos h2]
      have hx := ex_lt (v := v) oq
      have e : nI (ex v q) - 1 + nI c - 48 = nI (ex v q + (c - 49)) := by
        rw [show nI (ex v q) - 1 = nI (ex v q - 1) from nI_sub (b := 1) v2, nI_add]
        exact (nI_sub (b := 48) (by omega)).trans (congrArg nI (by omega))
      rw [e]
      by_cases h6 : ex v q + (c - 49) ≤ 6
      · obtain ⟨g1, g2, g3, g4⟩ := ex_add (w := c - 49) v1 oq h6
        rw [if_neg (show ¬ (6 : Int32) < nI (ex v q + (c - 49)) from nI_nlt (a := 6) h6 (by decide)), if_pos h6]
        unfold mX11_goOn_187 mX11_goOn_218
        rw [h7, inb_nI hl (by decide), if_neg (by decide), h8 h2, ten_spec v1, obs, inb_nI hl (by decide), if_neg (by decide), hq, show nI c - 49 = nI (c - 49) from nI_sub (b := 49) hf.1, nI_mul, nI_add, ← g2]
        refine ⟨_, _, rfl, hF.sA (by decide), rfl, ?_⟩
        show RRQ S _ 3 (q + sevN v * (c - 49)) v M
        refine ⟨hF.sA (by decide), by rw [gI_sA]; exact h7, fun i hi => ?_, fun _ => ?_, fun z => absurd z (by decide)⟩
        · rw [gA_sA_same, upd_ne (by omega)]
          exact hM i hi
        · rw [gA_sA_same, upd_at]
      · rw [if_pos (show (6 : Int32) < nI (ex v q + (c - 49)) from nI_lt (a := 6) (by omega) (by omega)), if_neg h6, f1]
        exact ⟨_, _, rfl, f2, rfl⟩
    · rw [show (decide (49 ≤ c) && decide (c ≤ 54)) = false by rw [← Bool.decide_and]; exact decide_eq_false hf, if_pos (by decide), f1, if_neg hf]
      exact ⟨_, _, rfl, f2, rfl⟩
  · rw [if_neg (show ¬ nI (rst st) = 2 by rw [show (2 : Int32) = nI 2 from rfl, rst_eq ost (by decide)]; exact h2), f1]
    refine ⟨_, _, rfl, f2, ?_⟩
    have : (if 49 ≤ c ∧ c ≤ 54 then (if st = 2 then (if ex v q + (c - 49) ≤ 6 then some (mkS 3 (q + sevN v * (c - 49)) v M) else none) else none) else none) = (none : Option PS) := by
      split
      · rfl
      · rfl
    rw [this]
theorem r49 {S U : St} {st q v c : Nat} {M : List Nat} (hF : Fr [6] KR S U) (h7 : gI U 0 7 = nI M.length) (hM : ∀ i, i < M.length → gA U 6 i = nI (decN (M.getD i 0))) (hq : gA U 6 M.length = nI (decN q)) (h8 : st = 2 → gI U 0 8 = nI v) (ost : st ≤ 3) (oq : q < 2401) (oz : st = 0 → q = 0) (ov : st = 2 → v < 4 ∧ 1 ≤ ex v q) (hl : M.length < 60) (hc : c ≤ 126) (h44 : c ≠ 44) : ∃ r U1, mX11_goOn_49 U (nI (rst st)) (nI c) = some (r, U1) ∧ rOut S U1 r (pstep (mkS st q v M) c) := by
  have hin : mX11_in (nI c).toInt64 97 100 = some (b2 (decide (97 ≤ c) && decide (c ≤ 100))) := in_nI (l := 97) (h := 100) (by omega) (by decide) (by decide)
  have z0 : (nI (rst st) = 0) = (st = 0) := rst_eq (k := 0) ost (by decide)
  have z3 : (nI (rst st) = 3) = (st = 1) := rst_eq (k := 3) ost (by decide)
  have c49 : (nI c = 49) = (c = 49) := nI_eqI (b := 49) (by omega) (by decide)
  have rest : ¬ (c = 49 ∧ st = 0) → ∃ r U1, mX11_goOn_61 U (nI (rst st)) (nI c) = some (r, U1) ∧ rOut S U1 r (pstep (mkS st q v M) c) := by
    intro hn
    unfold mX11_goOn_61 pstep
    rw [if_neg h44, hin, obs]
    simp only [z3]
    by_cases hlt : 97 ≤ c ∧ c ≤ 100
    · rw [decide_eq_true hlt.1, decide_eq_true hlt.2, if_neg (by decide), if_pos hlt]
      by_cases h1 : st = 1
      · rw [if_pos h1, if_pos (show (mkS st q v M).st = 1 from h1)]
        obtain ⟨r, U1, e1, e2⟩ := r135 (c := c) hF h7 hM hq h8 ost oq ov hl hc
        rw [if_neg (show ¬ (49 ≤ c ∧ c ≤ 54) by omega)] at e2
        exact ⟨r, U1, e1, e2⟩
      · rw [if_neg h1, if_neg (show ¬ (mkS st q v M).st = 1 from h1), show nI c - 97 = nI (c - 97) from nI_sub (b := 97) hlt.1]
        have hv : c - 97 < 4 := by omega
        have ht := tenN_le (c - 97)
        have hd := decN_lt oq
        have hx := ex_lt (v := c - 97) oq
        rw [gI_sI_k (show 7 ≠ 8 by decide), h7, inb_nI hl (by decide), gI_sI_same, ten_spec hv, obs, inb_nI hl (by decide), gI_sA, gI_sI_k (show 7 ≠ 8 by decide), h7, inb_nI hl (by decide), gA_sA_same, upd_at, gA_sI, hq, nI_add, gI_sA, gI_sI_same, power_spec hv (by omega), dig_up hv oq, obs]
        show ∃ r U1, _ ∧ rOut S U1 r (if ex (c - 97) q < 6 then some (mkS 2 (q + sevN (c - 97) * 1) (c - 97) M) else none)
        by_cases h6 : ex (c - 97) q < 6
        · obtain ⟨g1, g2, g3, g4⟩ := ex_add (v := c - 97) (w := 1) hv oq (by omega)
          rw [if_pos (show nI (ex (c - 97) q + 1) ≤ 6 from nI_le (b := 6) (by omega) (by decide)), if_pos h6]
          refine ⟨_, _, rfl, (hF.sI (by decide)).sA (by decide), rfl, ?_⟩
          show RRQ S _ 2 (q + sevN (c - 97) * 1) (c - 97) M
          refine ⟨(hF.sI (by decide)).sA (by decide), by rw [gI_sA, gI_sI_k (by decide)]; exact h7, fun i hi => ?_, fun _ => ?_, fun _ => ?_⟩
          · rw [gA_sA_same, upd_ne (by omega), gA_sI]
            exact hM i hi
          · rw [gA_sA_same, upd_at, g2, Nat.mul_one]
          · rw [gI_sA, gI_sI_same]
        · rw [if_neg (show ¬ nI (ex (c - 97) q + 1) ≤ 6 from nI_ge (a := 6) (by omega) (by omega)), if_neg h6]
          exact ⟨_, _, rfl, (hF.sI (by decide)).sA (by decide), rfl⟩
    · rw [show (decide (97 ≤ c) && decide (c ≤ 100)) = false by rw [← Bool.decide_and]; exact decide_eq_false hlt, if_pos (by decide), if_neg hlt]
      obtain ⟨r, U1, e1, e2⟩ := r135 (c := c) hF h7 hM hq h8 ost oq ov hl hc
      refine ⟨r, U1, e1, ?_⟩
      have : (if 49 ≤ c ∧ c ≤ 54 then (if (mkS st q v M).st = 0 then (if c = 49 then some (mkS 1 0 (mkS st q v M).v (mkS st q v M).M) else none) else if (mkS st q v M).st = 2 then (if ex (mkS st q v M).v (mkS st q v M).q + (c - 49) ≤ 6 then some (mkS 3 ((mkS st q v M).q + sevN (mkS st q v M).v * (c - 49)) (mkS st q v M).v (mkS st q v M).M) else none) else none) else none) = (if 49 ≤ c ∧ c ≤ 54 then (if st = 2 then (if ex v q + (c - 49) ≤ 6 then some (mkS 3 (q + sevN v * (c - 49)) v M) else none) else none) else none) := by
        by_cases h0 : st = 0
        · rw [if_pos (show (mkS st q v M).st = 0 from h0), if_neg (show ¬ c = 49 from fun z => hn ⟨z, h0⟩), if_neg (show ¬ st = 2 by omega)]
        · rw [if_neg (show ¬ (mkS st q v M).st = 0 from h0)]
          rfl
      rw [this]
      exact e2
  unfold mX11_goOn_49
  simp only [c49, z0]
  by_cases h1 : c = 49
  · by_cases h2 : st = 0
    · rw [if_pos h1, if_pos h2]
      refine ⟨3, U, rfl, hF, ?_⟩
      have : pstep (mkS st q v M) c = some (mkS 1 0 v M) := by
        unfold pstep
        rw [if_neg h44, if_neg (by omega), if_pos (by omega), if_pos (show (mkS st q v M).st = 0 from h2), if_pos h1]
        rfl
      rw [this]
      refine ⟨rfl, ?_⟩
      show RRQ S U 1 0 v M
      exact ⟨hF, h7, hM, fun _ => by rw [hq, oz h2], fun z => absurd z (by decide)⟩
    · rw [if_pos h1, if_neg h2]
      exact rest (fun z => h2 z.2)
  · rw [if_neg h1]
    exact rest (fun z => h1 z.1)
theorem rgoOn {S U : St} {s : PS} {c i : Nat} (hR : RR S U s) (ho : okS s i) (hi : i < 60) (hc : 33 ≤ c ∧ c ≤ 126) : ∃ r U1, mX11_goOn U (nI (rst s.st)) (nI c) = some (r, U1) ∧ rOut S U1 r (pstep s c) := by
  obtain ⟨st, q, v, M⟩ := s
  obtain ⟨r1, r2, r3, r4, r5⟩ := hR
  obtain ⟨o1, o2, o3, o4, o5, o6, o7⟩ := ho
  have r2 : gI U 0 7 = nI M.length := r2
  have r3 : ∀ i, i < M.length → gA U 6 i = nI (decN (M.getD i 0)) := r3
  have r4 : st ≠ 0 → gA U 6 M.length = nI (decN q) := r4
  have r5 : st = 2 → gI U 0 8 = nI v := r5
  have o1 : st ≤ 3 := o1
  have o2 : q < 2401 := o2
  have o3 : st = 0 → q = 0 := o3
  have o4 : st = 2 → v < 4 ∧ 1 ≤ ex v q := o4
  have o6 : M.length ≤ i := o6
  have o7 : st ≠ 0 → M.length < i := o7
  show ∃ r U1, mX11_goOn U (nI (rst st)) (nI c) = some (r, U1) ∧ rOut S U1 r (pstep (mkS st q v M) c)
  have z0 : (nI (rst st) = 0) = (st = 0) := rst_eq (k := 0) o1 (by decide)
  have c44 : (nI c = 44) = (c = 44) := nI_eqI (b := 44) (by omega) (by decide)
  unfold mX11_goOn mX11_goOn_20
  simp only [c44, z0]
  by_cases h44 : c = 44
  · rw [if_pos h44]
    by_cases h0 : st = 0
    · rw [if_pos h0, if_pos h0, r2]
      refine ⟨_, _, rfl, r1.sI (by decide), ?_⟩
      have : pstep (mkS st q v M) c = none := by
        unfold pstep
        rw [if_pos h44, if_pos (show (mkS st q v M).st = 0 from h0)]
      rw [this]
    · rw [if_neg h0, if_neg h0, r2, nI_1]
      refine ⟨_, _, rfl, r1.sI (by decide), ?_⟩
      have : pstep (mkS st q v M) c = some (mkS 0 0 v (M ++ [q])) := by
        unfold pstep
        rw [if_pos h44, if_neg (show ¬ (mkS st q v M).st = 0 from h0)]
        rfl
      rw [this]
      refine ⟨rfl, ?_⟩
      show RRQ S _ 0 0 v (M ++ [q])
      refine ⟨r1.sI (by decide), by rw [gI_sI_same, List.length_append]; rfl, fun j hj => ?_, fun z => absurd rfl z, fun z => absurd z (by decide)⟩
      rw [gA_sI]
      rw [List.length_append] at hj
      have hj : j < M.length + 1 := hj
      by_cases he : j = M.length
      · subst he
        rw [r4 h0, show M.length = M.length + 0 from rfl, getD_right]
        rfl
      · rw [r3 j (by omega), getD_left (by omega)]
  · rw [if_neg h44]
    by_cases h0 : st = 0
    · rw [if_pos h0, r2, inb_nI (show M.length < 60 by omega) (by decide)]
      refine r49 (r1.sA (by decide)) (by rw [gI_sA]; exact r2) (fun j hj => ?_) ?_ (fun z => absurd z (by omega)) o1 o2 o3 o4 (by omega) hc.2 h44
      · rw [gA_sA_same, upd_ne (by omega)]
        exact r3 j hj
      · rw [gA_sA_same, upd_at, o3 h0]
        rfl
    · rw [if_neg h0]
      exact r49 r1 r2 r3 (r4 h0) r5 o1 o2 o3 o4 (by have := o7 h0; omega) hc.2 h44
/-- the automaton run over k signs from the i-th on -/
def pgo (cs : Nat → Nat) : Nat → Nat → PS → Nat ⊕ PS
  | 0, _, s => .inr s
  | k + 1, i, s => match pstep s (cs i) with
    | none => .inl i
    | some s1 => pgo cs k (i + 1) s1
def pout (p : Nat) : Nat ⊕ PS → Int32 × List Nat
  | .inl j => (nI j, [])
  | .inr s => if p = 0 then (-6, []) else if s.st = 0 then (nI p, []) else (-6, s.M ++ [s.q])
def cL (U : St) (L : List Nat) : Prop := gI U 19 1 = nI L.length ∧ ∀ i, i < L.length → gA U 20 i = nI (hexN (L.getD i 0))
def rL (U : St) (L : List Nat) : Prop := gI U 0 7 = nI L.length ∧ ∀ i, i < L.length → gA U 6 i = nI (decN (L.getD i 0))
theorem cread_loop {S : St} {p : Nat} {cs : Nat → Nat} (hp : p ≤ 60) (h2 : gI S 19 2 = nI p) (hcs : ∀ i, i < p → 33 ≤ cs i ∧ cs i ≤ 126) (hs : ∀ i, i < p → gA S 21 i = nI (cs i)) : ∀ (k i n : Nat) (s : PS) (U : St), i + k = p → k < n → RC S U s → okS s i → (p = 0 → s.M = []) → ∃ U1, mX4_read_11 n U (nI i) = some ((pout p (pgo cs k i s)).1, U1) ∧ Fr [20] KP S U1 ∧ ((pout p (pgo cs k i s)).1 = -6 → cL U1 (pout p (pgo cs k i s)).2) := by
  intro k
  induction k with
  | zero =>
    intro i n s U hi hn hR ho hz
    obtain ⟨n, rfl⟩ : ∃ m, n = m + 1 := ⟨n - 1, by omega⟩
    have hi : i = p := by omega
    subst hi
    have hF := hR.1
    have e2 : gI U 19 2 = nI i := (hF.2 19 2 (by decide)).trans h2
    obtain ⟨c0, c1⟩ := cend hR ho hp
    simp only [mX4_read_11, e2, pgo, pout]
    rw [if_pos (nI_le (Nat.le_refl i) (by omega))]
    by_cases h0 : i = 0
    · rw [if_pos (show nI i = 0 from congrArg nI h0), if_pos h0]
      refine ⟨U, rfl, hF, fun _ => ⟨?_, fun j hj => absurd hj (Nat.not_lt_zero j)⟩⟩
      rw [hR.2.2.2.2.1, hz h0]
    · rw [if_neg (show ¬ nI i = 0 from nI_ne0 (by omega) (by omega)), if_neg h0]
      by_cases hst : s.st = 0
      · rw [c0 hst, obs, if_pos hst, if_pos rfl]
        refine ⟨U, by rw [e2], hF, fun z => absurd z ?_⟩
        exact fun z => absurd z (fun z => by have := nI_pos (n := i) (by omega); rw [show nI i = -6 from z] at this; exact this (by decide))
      · obtain ⟨U1, u1, u2⟩ := c1 hst
        rw [u1, obs, if_neg hst, if_neg (show ¬ (1 : Int32) = 0 by decide)]
        exact ⟨U1, rfl, u2.1, fun _ => ⟨u2.2.2.2.2.1, u2.2.2.2.2.2⟩⟩
  | succ k ih =>
    intro i n s U hi hn hR ho hz
    obtain ⟨n, rfl⟩ : ∃ m, n = m + 1 := ⟨n - 1, by omega⟩
    have hF := hR.1
    have e2 : gI U 19 2 = nI p := (hF.2 19 2 (by decide)).trans h2
    have es : gA U 21 i = nI (cs i) := by
      rw [hF.1 21 (by decide)]
      exact hs i (by omega)
    obtain ⟨U1, u1, u2, u3⟩ := caccept (i := i) hR ho (by omega) (hcs i (by omega))
    simp only [mX4_read_11, e2]
    rw [if_neg (nI_ge (by omega) (by omega)), inb_nI (show i < 60 by omega) (by decide), es, u1, obs, bnd_eq, nI_1]
    cases hps : pstep s (cs i) with
    | none =>
      simp only [pgo, hps, pout]
      refine ⟨U1, if_pos rfl, u2, fun z => absurd z (fun z => by have := nI_pos (n := i) (by omega); rw [show nI i = -6 from z] at this; exact this (by decide))⟩
    | some s1 =>
      have ok1 := pstep_ok ho hps
      obtain ⟨U2, w1, w2, w3⟩ := ih (i + 1) n s1 U1 (by omega) (by omega) (u3 s1 hps) ok1 (fun z => by omega)
      simp only [pgo, hps]
      exact ⟨U2, (if_neg (show ¬ (1 : Int32) = 0 by decide)).trans w1, w2, w3⟩
theorem rread_loop {S : St} {p : Nat} {cs : Nat → Nat} (hp : p ≤ 60) (h2 : gI S 0 5 = nI p) (hcs : ∀ i, i < p → 33 ≤ cs i ∧ cs i ≤ 126) (hs : ∀ i, i < p → gA S 5 i = nI (cs i)) : ∀ (k i n : Nat) (s : PS) (U : St), i + k = p → k < n → RR S U s → okS s i → (p = 0 → s.M = [] ∧ s.st = 0) → ∃ U1, mX11_fault_9 n U (nI (rst s.st)) (nI i) = some ((pout p (pgo cs k i s)).1, U1) ∧ Fr [6] KR S U1 ∧ ((pout p (pgo cs k i s)).1 = -6 → rL U1 (pout p (pgo cs k i s)).2) := by
  intro k
  induction k with
  | zero =>
    intro i n s U hi hn hR ho hz
    obtain ⟨n, rfl⟩ : ∃ m, n = m + 1 := ⟨n - 1, by omega⟩
    have hi : i = p := by omega
    subst hi
    have hF := hR.1
    have e2 : gI U 0 5 = nI i := (hF.2 0 5 (by decide)).trans h2
    have z0 : (nI (rst s.st) = 0) = (s.st = 0) := rst_eq (k := 0) ho.1 (by decide)
    simp only [mX11_fault_9, mX11_fault_55, e2, pgo, pout, z0, gI_sI_k (show 5 ≠ 7 by decide), hR.2.1]
    rw [if_pos (nI_le (Nat.le_refl i) (by omega))]
    by_cases h0 : i = 0
    · obtain ⟨z1, z2⟩ := hz h0
      rw [if_pos z2, if_pos (show nI i ≤ 0 from nI_le (b := 0) (by omega) (by decide)), if_pos h0, show nI s.M.length + 0 = nI s.M.length from nI_add _ 0]
      refine ⟨_, rfl, hF.sI (by decide), fun _ => ⟨?_, fun j hj => absurd hj (Nat.not_lt_zero j)⟩⟩
      rw [gI_sI_same, z1]
    · rw [if_neg h0, if_neg (show ¬ nI i ≤ 0 from nI_nle (by omega) (by omega))]
      by_cases hst : s.st = 0
      · rw [if_pos hst, if_pos hst, if_pos hst]
        refine ⟨_, rfl, hF.sI (by decide), fun z => absurd z (fun z => by have := nI_pos (n := i) (by omega); rw [show nI i = -6 from z] at this; exact this (by decide))⟩
      · rw [if_neg hst, if_neg hst, if_neg (show ¬ nI i ≤ 0 from nI_nle (by omega) (by omega)), if_neg hst, nI_1]
        refine ⟨_, rfl, hF.sI (by decide), fun _ => ⟨?_, fun j hj => ?_⟩⟩
        · rw [gI_sI_same, List.length_append]
          rfl
        · rw [gA_sI]
          rw [List.length_append] at hj
          have hj : j < s.M.length + 1 := hj
          by_cases he : j = s.M.length
          · subst he
            rw [hR.2.2.2.1 hst, show s.M.length = s.M.length + 0 from rfl, getD_right]
            rfl
          · rw [hR.2.2.1 j (by omega), getD_left (by omega)]
  | succ k ih =>
    intro i n s U hi hn hR ho hz
    obtain ⟨n, rfl⟩ : ∃ m, n = m + 1 := ⟨n - 1, by omega⟩
    have hF := hR.1
    have e2 : gI U 0 5 = nI p := (hF.2 0 5 (by decide)).trans h2
    have es : gA U 5 i = nI (cs i) := by
      rw [hF.1 5 (by decide)]
      exact hs i (by omega)
    obtain ⟨r, U1, u1, u2, u3⟩ := rgoOn (i := i) hR ho (by omega) (hcs i (by omega))
    simp only [mX11_fault_9, e2]
    rw [if_neg (nI_ge (by omega) (by omega)), inb_nI (show i < 60 by omega) (by decide), es, u1, obs, bnd_eq, nI_1]
    cases hps : pstep s (cs i) with
    | none =>
      rw [hps] at u3
      have u3 : r = -6 := u3
      subst u3
      simp only [pgo, hps, pout]
      refine ⟨U1, if_neg (by decide), u2, fun z => absurd z (fun z => by have := nI_pos (n := i) (by omega); rw [show nI i = -6 from z] at this; exact this (by decide))⟩
    | some s1 =>
      rw [hps] at u3
      obtain ⟨u3, u4⟩ : r = nI (rst s1.st) ∧ RR S U1 s1 := u3
      subst u3
      have ok1 := pstep_ok ho hps
      have hle := rst_le ok1.1
      obtain ⟨U2, w1, w2, w3⟩ := ih (i + 1) n s1 U1 (by omega) (by omega) u4 ok1 (fun z => by omega)
      simp only [pgo, hps]
      exact ⟨U2, (if_pos (nI_pos' (by omega))).trans w1, w2, w3⟩
theorem pgo_ok {cs : Nat → Nat} : ∀ (k i : Nat) (s : PS), okS s i → match pgo cs k i s with
    | .inl j => j < i + k
    | .inr s1 => okS s1 (i + k) := by
  intro k
  induction k with
  | zero => intro i s ho; exact ho
  | succ k ih =>
    intro i s ho
    simp only [pgo]
    cases hps : pstep s (cs i) with
    | none => show i < i + (k + 1); omega
    | some s1 =>
      have := ih (i + 1) s1 (pstep_ok ho hps)
      rw [show i + (k + 1) = i + 1 + k by omega]
      exact this
theorem pout_ok {p : Nat} {cs : Nat → Nat} (hp : p ≤ 60) : ((pout p (pgo cs p 0 (mkS 0 0 0 []))).1 = -6 ∨ ∃ j, j ≤ 60 ∧ (pout p (pgo cs p 0 (mkS 0 0 0 []))).1 = nI j) ∧ (pout p (pgo cs p 0 (mkS 0 0 0 []))).2.length ≤ 60 ∧ ∀ q ∈ (pout p (pgo cs p 0 (mkS 0 0 0 []))).2, q < 2401 := by
  have h := pgo_ok (cs := cs) p 0 (mkS 0 0 0 []) ⟨by decide, by decide, fun _ => rfl, fun z => absurd z (by decide), fun x hx => (by cases hx), Nat.le_refl 0, fun z => absurd rfl z⟩
  cases hg : pgo cs p 0 (mkS 0 0 0 []) with
  | inl j =>
    rw [hg] at h
    have h : j < 0 + p := h
    exact ⟨Or.inr ⟨j, by omega, rfl⟩, Nat.zero_le _, fun q hq => by cases hq⟩
  | inr s =>
    rw [hg] at h
    have h : okS s (0 + p) := h
    simp only [pout]
    split
    · exact ⟨Or.inl rfl, Nat.zero_le _, fun q hq => by cases hq⟩
    · split
      · exact ⟨Or.inr ⟨p, hp, rfl⟩, Nat.zero_le _, fun q hq => by cases hq⟩
      · rename_i hst
        obtain ⟨o1, o2, o3, o4, o5, o6, o7⟩ := h
        have o7 := o7 hst
        refine ⟨Or.inl rfl, by rw [List.length_append]; show s.M.length + 1 ≤ 60; omega, fun q hq => ?_⟩
        rcases List.mem_append.mp hq with z | z
        · exact o5 q z
        · rw [List.mem_singleton.mp z]
          exact o2
/-- both readers, with the same outcome -/
theorem read_both {S : St} (hP : InvP S) : ∃ (r : Int32) (L : List Nat), (r = -6 ∨ ∃ j, j ≤ 60 ∧ r = nI j) ∧ L.length ≤ 60 ∧ (∀ q ∈ L, q < 2401) ∧ (∃ U, mX4_read S = some (r, U) ∧ Fr [20] KP S U ∧ (r = -6 → cL U L)) ∧ ∀ S1, (gI S1 0 5 = gI S 0 5) → (gA S1 5 = gA S 5) → ∃ U, mX11_fault S1 = some (r, U) ∧ Fr [6] KR S1 U ∧ (r = -6 → rL U L) := by
  obtain ⟨p, p1, p2, p3, p4⟩ := hP
  have hcs : ∃ cs : Nat → Nat, ∀ i, i < p → 33 ≤ cs i ∧ cs i ≤ 126 ∧ gA S 5 i = nI (cs i) ∧ gA S 21 i = nI (cs i) := by
    refine ⟨fun i => if h : i < p then (p4 i h).choose else 0, fun i hi => ?_⟩
    simp only [dif_pos hi]
    exact (p4 i hi).choose_spec
  obtain ⟨cs, hcs⟩ := hcs
  obtain ⟨k1, k2, k3⟩ := pout_ok (cs := cs) p1
  refine ⟨(pout p (pgo cs p 0 (mkS 0 0 0 []))).1, (pout p (pgo cs p 0 (mkS 0 0 0 []))).2, k1, k2, k3, ?_, fun S1 a1 a2 => ?_⟩
  · have hR : RC S (sI (sI (sI S 19 1 0) 19 4 0) 19 6 0) (mkS 0 0 0 []) := by
      show RQ S _ 0 0 0 []
      refine ⟨(((Fr.refl [20] KP S).sI (by decide)).sI (by decide)).sI (by decide), ?_, ?_, fun z => absurd z (by decide), ?_, fun j hj => absurd hj (Nat.not_lt_zero j)⟩
      · rw [gI_sI_k (by decide), gI_sI_same]
        rfl
      · rw [gI_sI_same]
        rfl
      · rw [gI_sI_k (by decide), gI_sI_k (by decide), gI_sI_same]
        rfl
    have := cread_loop p1 p3 (fun i hi => ⟨(hcs i hi).1, (hcs i hi).2.1⟩) (fun i hi => (hcs i hi).2.2.2) p 0 FU _ _ (by omega) (FU_gt (by omega)) hR ⟨by decide, by decide, fun _ => rfl, fun z => absurd z (by decide), fun x hx => (by cases hx), Nat.le_refl 0, fun z => absurd rfl z⟩ (fun _ => rfl)
    unfold mX4_read mX4_begin
    rw [obs]
    exact this
  · have hR : RR S1 (sI S1 0 7 0) (mkS 0 0 0 []) := by
      show RRQ S1 _ 0 0 0 []
      exact ⟨(Fr.refl [6] KR S1).sI (by decide), by rw [gI_sI_same]; rfl, fun j hj => absurd hj (Nat.not_lt_zero j), fun z => absurd rfl z, fun z => absurd z (by decide)⟩
    have := rread_loop p1 (a1.trans p2) (fun i hi => ⟨(hcs i hi).1, (hcs i hi).2.1⟩) (fun i hi => by rw [a2]; exact (hcs i hi).2.2.1) p 0 FU _ _ (by omega) (FU_gt (by omega)) hR ⟨by decide, by decide, fun _ => rfl, fun z => absurd z (by decide), fun x hx => (by cases hx), Nat.le_refl 0, fun z => absurd rfl z⟩ (fun _ => ⟨rfl, rfl⟩)
    unfold mX11_fault
    exact this
theorem pf_fault : PF_fault Inv := by
  intro pr S hI
  obtain ⟨r, L, -, -, -, ⟨U, u1, u2, -⟩, hr⟩ := read_both hI.1
  obtain ⟨U2, w1, w2, -⟩ := hr U (u2.2 0 5 (by decide)) (u2.1 5 (by decide))
  refine ⟨r, U, U2, by unfold mX10_fault; rw [u1, obs], w1, Inv_fr (Inv_fr hI (u2.mono (by decide) (by decide))) (w2.mono (by decide) (by decide))⟩
