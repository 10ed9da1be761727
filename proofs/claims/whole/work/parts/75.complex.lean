/-! PURE PART: holes of a complex -/
theorem nI_xor (a b : Nat) : nI a ^^^ nI b = nI (a ^^^ b) := by
  apply Int32.toBitVec_inj.mp
  apply BitVec.eq_of_toNat_eq
  rw [Int32.toBitVec_xor, BitVec.toNat_xor]
  show a % 2 ^ 32 ^^^ b % 2 ^ 32 = (a ^^^ b) % 2 ^ 32
  rw [Nat.xor_mod_two_pow]
def bdN (j : Nat) : Nat := ([0, 1, 1, 6, 1, 18, 20, 104, 1, 258, 260, 1544, 272, 4640, 5184, 26752] : List Nat).getD j 0
theorem bd_class_fuel (m : Nat) : ∀ j, j < 16 → mX0_borderOf_4 (m + 5) (nI j) 0 0 = some (nI (bdN j)) := by
  intro x hx
  rcases (show x = 0 ∨ x = 1 ∨ x = 2 ∨ x = 3 ∨ x = 4 ∨ x = 5 ∨ x = 6 ∨ x = 7 ∨ x = 8 ∨ x = 9 ∨ x = 10 ∨ x = 11 ∨ x = 12 ∨ x = 13 ∨ x = 14 ∨ x = 15 by omega) with rfl | rfl | rfl | rfl | rfl | rfl | rfl | rfl | rfl | rfl | rfl | rfl | rfl | rfl | rfl | rfl <;> rfl
theorem bd_class {j : Nat} (h : j < 16) : mX0_borderOf (nI j) = some (nI (bdN j)) := bd_class_fuel 1073741819 j h
theorem bd_ref_fuel (m : Nat) : ∀ j, j < 16 → mX11_border_4 (m + 5) (nI j) 0 0 = some (nI (bdN j)) := by
  intro x hx
  rcases (show x = 0 ∨ x = 1 ∨ x = 2 ∨ x = 3 ∨ x = 4 ∨ x = 5 ∨ x = 6 ∨ x = 7 ∨ x = 8 ∨ x = 9 ∨ x = 10 ∨ x = 11 ∨ x = 12 ∨ x = 13 ∨ x = 14 ∨ x = 15 by omega) with rfl | rfl | rfl | rfl | rfl | rfl | rfl | rfl | rfl | rfl | rfl | rfl | rfl | rfl | rfl | rfl <;> rfl
theorem bd_ref {j : Nat} (h : j < 16) : mX11_border (nI j) = some (nI (bdN j)) := bd_ref_fuel 1073741819 j h
theorem bdN_lt : ∀ j, j < 16 → bdN j < 65536 := by decide
theorem pc_pos0 : ∀ j, j < 16 → 1 ≤ j → 1 ≤ pc j ∧ pc j ≤ 4 := by decide
theorem pc_pos (j : Nat) (h1 : 1 ≤ j) (h2 : j < 16) : 1 ≤ pc j ∧ pc j ≤ 4 := pc_pos0 j h2 h1
def bit (X j : Nat) : Bool := decide (X / 2 ^ j % 2 = 1)
def selP (X s j : Nat) : Bool := bit X j && decide (pc j = s)
/-- the sets of a size that count for ranks -/
def rowP (X s j : Nat) : Bool := selP X s j && decide (0 < s)
def rowsL (X s i : Nat) : List Nat := (List.range i).filter (rowP X s)
def red (B : List Nat) (row : Nat) : Nat := B.foldl (fun x b => min x (x ^^^ b)) row
def clsStep (B : List Nat) (j : Nat) : List Nat := if red B (bdN j) = 0 then B else B ++ [red B (bdN j)]
theorem red_lt : ∀ (B : List Nat) (x : Nat), x < 65536 → red B x < 65536 := by
  intro B
  induction B with
  | nil => intro x hx; exact hx
  | cons b B ih =>
    intro x hx
    exact ih _ (show min x (x ^^^ b) < 65536 by omega)
theorem cls_ok : ∀ (L B : List Nat), (∀ j ∈ L, j < 16) → (∀ b ∈ B, b < 65536) → (∀ b ∈ L.foldl clsStep B, b < 65536) ∧ (L.foldl clsStep B).length ≤ B.length + L.length := by
  intro L
  induction L with
  | nil => intro B _ hB; exact ⟨hB, by simp⟩
  | cons j L ih =>
    intro B hL hB
    have hj := bdN_lt j (hL j (by simp))
    have hr := red_lt B _ hj
    have hs : (∀ b ∈ clsStep B j, b < 65536) ∧ (clsStep B j).length ≤ B.length + 1 := by
      unfold clsStep
      split
      · exact ⟨hB, by omega⟩
      · refine ⟨fun b hb => ?_, by rw [List.length_append]; exact Nat.le_refl _⟩
        rcases List.mem_append.mp hb with z | z
        · exact hB b z
        · rw [List.mem_singleton.mp z]
          exact hr
    obtain ⟨h1, h2⟩ := ih (clsStep B j) (fun x hx => hL x (by simp [hx])) hs.1
    refine ⟨h1, ?_⟩
    rw [List.foldl_cons, List.length_cons]
    omega
def bL (S : St) (B : List Nat) : Prop := ∀ t, t < B.length → gA S 27 t = nI (B.getD t 0)
theorem reduce_spec {S : St} {B : List Nat} {x : Nat} (hB : bL S B) (hl : B.length ≤ 16) (hb : ∀ b ∈ B, b < 65536) (hx : x < 65536) : mX0_reduce S (nI x) (nI B.length) = some (nI (red B x)) := by
  unfold mX0_reduce
  have := loopN (N := B.length) (R := some (nI (red B x))) (fun f i => mX0_reduce_5 S f (nI B.length) (nI (red (B.take i) x)) (nI i)) (by omega) ?_ ?_
  · exact this
  · intro i f hi
    have hr := red_lt (B.take i) x hx
    have hbi := hb _ (getD_mem hi)
    have hxr : red (B.take i) x ^^^ B.getD i 0 < 2 ^ 16 := Nat.xor_lt_two_pow hr hbi
    simp only [mX0_reduce_5, bnd_eq, nI_1]
    rw [if_neg (nI_ge hi (by omega)), if_neg (show ¬ (16 : Int32) ≤ nI i from nI_ge (b := 16) (by omega) (by decide)), inb_nI (show i < 16 by omega) (by decide), hB i hi, nI_xor, imin_nI (by omega) (by omega)]
    unfold red
    rw [take_succ' hi, List.foldl_append]
    rfl
  · intro f
    simp only [mX0_reduce_5]
    rw [if_pos (nI_le (Nat.le_refl _) (by omega)), List.take_length]
theorem rowsL_succ (X s i : Nat) : rowsL X s (i + 1) = rowsL X s i ++ (if rowP X s i then [i] else []) := filter_succ _ _
theorem rowsL_len (X s i : Nat) : (rowsL X s i).length ≤ i := filter_len_le _ i
theorem rowsL_lt {X s i : Nat} (hi : i ≤ 16) : ∀ j ∈ rowsL X s i, j < 16 := fun j hj => by
  have := List.mem_range.mp (List.mem_filter.mp hj).1
  omega
theorem bit_eq {X j : Nat} (hX : X < 65536) (hj : j < 16) : (((nI X >>> (nI j &&& 31)) &&& 1) = 1) = (bit X j = true) := by
  unfold bit
  rw [bit_spec (by omega) hj, decide_eq_true_eq]
  exact nI_eqI (b := 1) (by omega) (by decide)
theorem borders_spec {S : St} {X s : Nat} (hX : X < 65536) (hs : s ≤ 4) : ∃ S1, mX0_borders S (nI X) (nI s) = some (nI ((rowsL X s 16).foldl clsStep []).length, S1) ∧ Fr [27] [] S S1 := by
  unfold mX0_borders
  have h1 : rowsL X s 1 = [] := by
    rw [rowsL_succ]
    have : rowP X s 0 = false := by
      unfold rowP selP
      by_cases h0 : 0 < s
      · rw [decide_eq_false (show ¬ pc 0 = s by show ¬ 0 = s; omega), Bool.and_false, Bool.false_and]
      · rw [decide_eq_false h0, Bool.and_false]
    rw [this]
    rfl
  have key : ∀ k i n s1, i + k = 16 → k < n → 1 ≤ i → bL s1 ((rowsL X s i).foldl clsStep []) → Fr [27] [] S s1 → ∃ S1, mX0_borders_5 n s1 (nI X) (nI s) (nI ((rowsL X s i).foldl clsStep []).length) (nI i) = some (nI ((rowsL X s 16).foldl clsStep []).length, S1) ∧ Fr [27] [] S S1 := by
    intro k
    induction k with
    | zero =>
      intro i n s1 hi hn h1i hB hF
      obtain ⟨n, rfl⟩ : ∃ m, n = m + 1 := ⟨n - 1, by omega⟩
      have : i = 16 := by omega
      subst this
      simp only [mX0_borders_5]
      rw [if_pos (show (16 : Int32) ≤ nI 16 by decide)]
      exact ⟨s1, rfl, hF⟩
    | succ k ih =>
      intro i n s1 hi hn h1i hB hF
      obtain ⟨n, rfl⟩ : ∃ m, n = m + 1 := ⟨n - 1, by omega⟩
      have hi16 : i < 16 := by omega
      have hpc := pc_pos i h1i hi16
      obtain ⟨ok1, ok2⟩ := cls_ok (rowsL X s i) [] (rowsL_lt (by omega)) (fun b hb => by cases hb)
      have hlen := rowsL_len X s i
      have ok2 : ((rowsL X s i).foldl clsStep []).length ≤ 0 + (rowsL X s i).length := ok2
      have hb := bdN_lt i hi16
      simp only [mX0_borders_5, mX0_borders_68, bnd_eq, nI_1]
      rw [if_neg (show ¬ (16 : Int32) ≤ nI i from nI_ge (b := 16) hi16 (by decide))]
      simp only [bit_eq hX hi16]
      rw [bitCount4 hi16, obs, bd_class hi16, obs, reduce_spec hB (by omega) ok1 hb, obs]
      have skip : rowP X s i = false → ∃ S1, mX0_borders_5 n s1 (nI X) (nI s) (nI ((rowsL X s i).foldl clsStep []).length) (nI (i + 1)) = some (nI ((rowsL X s 16).foldl clsStep []).length, S1) ∧ Fr [27] [] S S1 := fun hz => by
        have e : rowsL X s (i + 1) = rowsL X s i := by rw [rowsL_succ, hz]; exact List.append_nil _
        have := ih (i + 1) n s1 (by omega) (by omega) (by omega) (by rw [e]; exact hB) hF
        rw [e] at this
        exact this
      cases hbit : bit X i with
      | false =>
        rw [if_neg (by decide)]
        exact skip (by unfold rowP selP; rw [hbit]; rfl)
      | true =>
        rw [if_pos rfl]
        by_cases hps : pc i = s
        · have hrow : rowP X s i = true := by
            unfold rowP selP
            rw [hbit, decide_eq_true hps, decide_eq_true (show 0 < s by omega)]
            rfl
          have e : rowsL X s (i + 1) = rowsL X s i ++ [i] := by rw [rowsL_succ, hrow]; rfl
          have e2 : (rowsL X s (i + 1)).foldl clsStep [] = clsStep ((rowsL X s i).foldl clsStep []) i := by
            rw [e, List.foldl_append]
            rfl
          rw [if_pos (congrArg nI hps)]
          have hrl := red_lt ((rowsL X s i).foldl clsStep []) _ hb
          by_cases hz : red ((rowsL X s i).foldl clsStep []) (bdN i) = 0
          · have e3 : (rowsL X s (i + 1)).foldl clsStep [] = (rowsL X s i).foldl clsStep [] := by
              rw [e2]
              show (if red ((rowsL X s i).foldl clsStep []) (bdN i) = 0 then _ else _) = _
              rw [if_pos hz]
            have := ih (i + 1) n s1 (by omega) (by omega) (by omega) (by rw [e3]; exact hB) hF
            rw [e3] at this
            rw [if_pos (show nI (red ((rowsL X s i).foldl clsStep []) (bdN i)) = 0 by rw [hz]; rfl)]
            exact this
          · have e3 : (rowsL X s (i + 1)).foldl clsStep [] = (rowsL X s i).foldl clsStep [] ++ [red ((rowsL X s i).foldl clsStep []) (bdN i)] := by
              rw [e2]
              show (if red ((rowsL X s i).foldl clsStep []) (bdN i) = 0 then _ else _) = _
              rw [if_neg hz]
            generalize (rowsL X s i).foldl clsStep [] = B at *
            have := ih (i + 1) n (sA s1 27 B.length (nI (red B (bdN i)))) (by omega) (by omega) (by omega) (by
              rw [e3]
              intro t ht
              rw [gA_sA_same]
              rw [List.length_append] at ht
              have ht : t < B.length + 1 := ht
              by_cases he : t = B.length
              · subst he
                rw [upd_at, show B.length = B.length + 0 from rfl, getD_right]
                rfl
              · rw [upd_ne he, hB t (by omega), getD_left (by omega)]) (hF.sA (by decide))
            rw [e3, List.length_append] at this
            rw [if_neg (nI_ne0 (by omega) (by omega)), if_neg (show ¬ (16 : Int32) ≤ nI B.length from nI_ge (b := 16) (by omega) (by decide)), inb_nI (show B.length < 16 by omega) (by decide)]
            exact this
        · rw [if_neg (fun z => hps ((nI_eq (by omega) (by omega)).mp z))]
          exact skip (by unfold rowP selP; rw [hbit, decide_eq_false hps]; rfl)
  have := key 15 1 FU S (by omega) (FU_gt (by decide)) (by decide) (by rw [h1]; exact fun t ht => absurd ht (Nat.not_lt_zero t)) (Fr.refl _ _ S)
  rw [h1] at this
  exact this
/-! the reference's rank -/
def rin : Nat → (Nat → Nat) → Nat → (Nat → Nat) × Nat
  | 0, bs, _ => (bs, 0)
  | k + 1, bs, left => if left = 0 then (bs, 0) else
    let l2 := if left / 2 ^ k % 2 = 1 then left ^^^ bs k else left
    if l2 / 2 ^ k % 2 = 1 then (fun t => if t = k then l2 else bs t, 1) else rin k bs l2
def refStep (s : (Nat → Nat) × Nat) (j : Nat) : (Nat → Nat) × Nat := ((rin 16 s.1 (bdN j)).1, s.2 + (rin 16 s.1 (bdN j)).2)
def aB (S : St) (bs : Nat → Nat) : Prop := ∀ k, k < 16 → gA S 15 k = nI (bs k) ∧ bs k < 65536
theorem rin_spec {x1 x3 : Int32} (k25 : St → Int32 → Int32 → Int32 → Option (Int32 × St)) : ∀ (k n : Nat) (S : St) (bs : Nat → Nat) (left c : Nat), k ≤ 16 → k + 1 < n → left < 65536 → aB S bs → ∃ S1, mX11_rank_69 k25 n S x1 (nI c) x3 (nI left) (nI k - 1) = k25 S1 x1 (nI (c + (rin k bs left).2)) (x3 + 1) ∧ aB S1 (rin k bs left).1 ∧ Fr [15] [] S S1 := by
  intro k
  induction k with
  | zero =>
    intro n S bs left c hk hn hl hA1
    obtain ⟨n, rfl⟩ : ∃ m, n = m + 1 := ⟨n - 1, by omega⟩
    simp only [mX11_rank_69, mX11_rank_138, bnd_eq, rin]
    rw [if_pos (show nI 0 - 1 < 0 by decide)]
    exact ⟨S, rfl, hA1, Fr.refl _ _ S⟩
  | succ k ih =>
    intro n S bs left c hk hn hl hA1
    obtain ⟨n, rfl⟩ : ∃ m, n = m + 1 := ⟨n - 1, by omega⟩
    have hk16 : k < 16 := by omega
    simp only [mX11_rank_69, mX11_rank_103, mX11_rank_132, mX11_rank_138, bnd_eq]
    rw [show nI (k + 1) - 1 = nI k from nI_pred k, if_neg (nI_pos (by omega))]
    by_cases h0 : left = 0
    · rw [if_pos (show nI left = 0 by rw [h0]; rfl)]
      refine ⟨S, ?_, ?_, Fr.refl _ _ S⟩
      · simp only [rin, if_pos h0, Nat.add_zero]
      · simp only [rin, if_pos h0]
        exact hA1
    · rw [if_neg (nI_ne0 (by omega) (by omega)), inb_nI hk16 (by decide), (hA1 k hk16).1, inb_nI hk16 (by decide), inb_nI hk16 (by decide)]
      have hb := (hA1 k hk16).2
      have hl2 : (if left / 2 ^ k % 2 = 1 then left ^^^ bs k else left) < 65536 := by
        split
        · exact Nat.xor_lt_two_pow (n := 16) hl hb
        · exact hl
      have main : ∀ l2, l2 < 65536 → ∃ S1, (if (nI l2 >>> (nI k &&& 31)) &&& 1 = 1 then (fun v3 => mX11_rank_69 k25 n (sA S 15 k (nI l2)) x1 v3 x3 0 (nI k + -1)) (nI c + 1) else mX11_rank_69 k25 n S x1 (nI c) x3 (nI l2) (nI k + -1)) = k25 S1 x1 (nI (c + (if l2 / 2 ^ k % 2 = 1 then ((fun t => if t = k then l2 else bs t : Nat → Nat), 1) else rin k bs l2).2)) (x3 + 1) ∧ aB S1 (if l2 / 2 ^ k % 2 = 1 then ((fun t => if t = k then l2 else bs t : Nat → Nat), 1) else rin k bs l2).1 ∧ Fr [15] [] S S1 := by
        intro l2 hl2
        have hm1 : nI k + -1 = nI k - 1 := by grind
        rw [bit_spec (by omega) hk16]
        by_cases hb1 : l2 / 2 ^ k % 2 = 1
        · rw [if_pos (show nI (l2 / 2 ^ k % 2) = 1 by rw [hb1]; rfl), if_pos hb1]
          have hA2 : aB (sA S 15 k (nI l2)) (fun t => if t = k then l2 else bs t) := fun t ht => by
            rw [gA_sA_same]
            show upd (gA S 15) k (nI l2) t = nI (if t = k then l2 else bs t) ∧ (if t = k then l2 else bs t) < 65536
            by_cases he : t = k
            · rw [if_pos he, he, upd_at]
              exact ⟨rfl, hl2⟩
            · rw [upd_ne he, if_neg he]
              exact hA1 t ht
          obtain ⟨S1, q1, q2, q3⟩ := ih n (sA S 15 k (nI l2)) (fun t => if t = k then l2 else bs t) 0 (c + 1) (by omega) (by omega) (by decide) hA2
          have hz : rin k (fun t => if t = k then l2 else bs t) 0 = ((fun t => if t = k then l2 else bs t), 0) := by
            cases k with
            | zero => rfl
            | succ k => simp [rin]
          rw [hz] at q1 q2
          refine ⟨S1, ?_, q2, Fr.trans ((Fr.refl _ _ S).sA (by decide)) q3⟩
          rw [hm1, nI_1]
          exact q1
        · rw [if_neg (show ¬ nI (l2 / 2 ^ k % 2) = 1 from fun e => hb1 ((nI_eq (b := 1) (by omega) (by decide)).mp e)), if_neg hb1, hm1]
          exact ih n S bs l2 c (by omega) (by omega) hl2 hA1
      have hm := main _ hl2
      simp only [rin]
      rw [if_neg h0]
      rw [bit_spec (by omega) hk16]
      by_cases hb1 : left / 2 ^ k % 2 = 1
      · rw [if_pos (show nI (left / 2 ^ k % 2) = 1 by rw [hb1]; rfl), nI_xor]
        rw [if_pos hb1] at hm ⊢
        exact hm
      · rw [if_neg (show ¬ nI (left / 2 ^ k % 2) = 1 from fun e => hb1 ((nI_eq (b := 1) (by omega) (by decide)).mp e)), show nI left ^^^ 0 = nI left by rw [show (0 : Int32) = nI 0 from rfl, nI_xor, Nat.xor_zero]]
        rw [if_neg hb1] at hm ⊢
        exact hm
theorem rank_spec {S : St} {X s : Nat} (hX : X < 65536) (hs : s ≤ 4) (hf : gI S 0 23 = nI X) : ∃ S1, mX11_rank S (nI s) = some (nI ((rowsL X s 16).foldl refStep ((fun _ => 0), 0)).2, S1) ∧ Fr [15] [] S S1 := by
  unfold mX11_rank
  have h1 : ∃ S1, mX11_rank_2 FU S (nI s) 0 = mX11_rank_25 FU S1 (nI s) 0 0 ∧ aB S1 (fun _ => 0) ∧ Fr [15] [] S S1 := by
    refine loopG (σ := St) (N := 16) (fun f i u => mX11_rank_2 f u (nI s) (nI i)) (fun i u => (∀ p, p < i → gA u 15 p = 0) ∧ Fr [15] [] S u) (fun r => ∃ S1, r = mX11_rank_25 FU S1 (nI s) 0 0 ∧ aB S1 (fun _ => 0) ∧ Fr [15] [] S S1) (by omega) ?_ ?_ S ⟨fun j hj => absurd hj (Nat.not_lt_zero j), Fr.refl _ _ S⟩
    · intro i f u hi hI
      refine Or.inl ⟨sA u 15 i 0, ⟨fun j hj => ?_, hI.2.sA (by decide)⟩, ?_⟩
      · rw [gA_sA_same]
        by_cases he : j = i
        · rw [he, upd_at]
        · rw [upd_ne he]
          exact hI.1 j (by omega)
      · simp only [mX11_rank_2]
        rw [if_neg (show ¬ (16 : Int32) ≤ nI i from nI_ge (b := 16) hi (by decide)), inb_nI hi (by decide), bnd_eq, nI_1]
    · intro f u hI
      simp only [mX11_rank_2]
      rw [if_pos (show (16 : Int32) ≤ nI 16 by decide)]
      exact ⟨u, rfl, fun k hk => ⟨hI.1 k hk, show (0 : Nat) < 65536 by decide⟩, hI.2⟩
  obtain ⟨S0, a1, a2, a3⟩ := h1
  rw [a1]
  refine loopG (σ := St) (N := 16) (fun f i u => mX11_rank_25 f u (nI s) (nI ((rowsL X s i).foldl refStep ((fun _ => 0), 0)).2) (nI i)) (fun i u => aB u ((rowsL X s i).foldl refStep ((fun _ => 0), 0)).1 ∧ Fr [15] [] S u) (fun r => ∃ S1, r = some (nI ((rowsL X s 16).foldl refStep ((fun _ => 0), 0)).2, S1) ∧ Fr [15] [] S S1) (by omega) ?_ ?_ S0 ⟨a2, a3⟩
  · intro i f u hi hI
    have hfu : gI u 0 23 = nI X := (hI.2.2 0 23 (by decide)).trans hf
    have hpl : pc i ≤ 4 := by unfold pc; omega
    refine Or.inl ?_
    simp only [mX11_rank_25, mX11_rank_62, mX11_rank_63]
    rw [if_neg (show ¬ (16 : Int32) ≤ nI i from nI_ge (b := 16) hi (by decide)), hfu]
    simp only [bit_eq hX hi]
    rw [ones_spec hi, obs, bd_ref hi, obs]
    have f15 : nI 16 - 1 = 15 := rfl
    have skip : rowP X s i = false → ∃ s1, (aB s1 ((rowsL X s (i + 1)).foldl refStep ((fun _ => 0), 0)).1 ∧ Fr [15] [] S s1) ∧ mX11_rank_69 (mX11_rank_25 f) FU u (nI s) (nI ((rowsL X s i).foldl refStep ((fun _ => 0), 0)).2) (nI i) 0 15 = mX11_rank_25 f s1 (nI s) (nI ((rowsL X s (i + 1)).foldl refStep ((fun _ => 0), 0)).2) (nI (i + 1)) := fun hz => by
      have e : rowsL X s (i + 1) = rowsL X s i := by rw [rowsL_succ, hz]; exact List.append_nil _
      obtain ⟨s1, q1, q2, q3⟩ := rin_spec (x1 := nI s) (x3 := nI i) (mX11_rank_25 f) 16 FU u _ 0 ((rowsL X s i).foldl refStep ((fun _ => 0), 0)).2 (by decide) (FU_gt (by decide)) (by decide) hI.1
      have hz0 : ∀ bs : Nat → Nat, rin 16 bs 0 = (bs, 0) := fun bs => rfl
      rw [hz0] at q1 q2
      rw [e]
      refine ⟨s1, ⟨q2, hI.2.trans q3⟩, ?_⟩
      rw [← nI_1, ← f15]
      exact q1
    cases hbit : bit X i with
    | false =>
      rw [if_neg (by decide)]
      exact skip (by unfold rowP selP; rw [hbit]; rfl)
    | true =>
      rw [if_pos rfl]
      by_cases hps : pc i = s
      · rw [if_pos (congrArg nI hps)]
        by_cases h0 : 0 < s
        · have hrow : rowP X s i = true := by
            unfold rowP selP
            rw [hbit, decide_eq_true hps, decide_eq_true h0]
            rfl
          have e : rowsL X s (i + 1) = rowsL X s i ++ [i] := by rw [rowsL_succ, hrow]; rfl
          have e2 : (rowsL X s (i + 1)).foldl refStep ((fun _ => 0), 0) = refStep ((rowsL X s i).foldl refStep ((fun _ => 0), 0)) i := by
            rw [e, List.foldl_append]
            rfl
          obtain ⟨s1, q1, q2, q3⟩ := rin_spec (x1 := nI s) (x3 := nI i) (mX11_rank_25 f) 16 FU u _ (bdN i) ((rowsL X s i).foldl refStep ((fun _ => 0), 0)).2 (by decide) (FU_gt (by decide)) (bdN_lt i hi) hI.1
          rw [if_neg (show ¬ nI s ≤ 0 from nI_nle h0 (by omega)), e2]
          refine ⟨s1, ⟨q2, hI.2.trans q3⟩, ?_⟩
          rw [← nI_1, ← f15]
          exact q1
        · rw [if_pos (show nI s ≤ 0 from nI_le (b := 0) (by omega) (by decide))]
          exact skip (by unfold rowP; rw [decide_eq_false h0, Bool.and_false])
      · rw [if_neg (fun z => hps ((nI_eq (by omega) (by omega)).mp z))]
        exact skip (by unfold rowP selP; rw [hbit, decide_eq_false hps]; rfl)
  · intro f u hI
    simp only [mX11_rank_25]
    rw [if_pos (show (16 : Int32) ≤ nI 16 by decide)]
    exact ⟨u, rfl, hI.2⟩
