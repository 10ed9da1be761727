/-! PURE PART: primary -/
def sdH (M : Nat → Nat) : Nat → Nat → Nat
  | 0 => M
  | i + 1 => fun c => if c = 342 - i then max (sdH M i (342 - i)) (mb (sdH M i) (342 - i)) else sdH M i c
def ge3 (c c1 : Nat) : Prop := c / 49 ≤ c1 / 49 ∧ c / 7 % 7 ≤ c1 / 7 % 7 ∧ c % 7 ≤ c1 % 7
theorem mb_lt {H : Nat → Nat} {c d : Nat} : d < mb H c ↔ (c < 294 ∧ d < H (c + 49)) ∨ (c % 49 < 42 ∧ d < H (c + 7)) ∨ (c % 7 < 6 ∧ d < H (c + 1)) := by
  have := mb_le (H := H) (c := c) (d := d)
  generalize H (c + 49) = x at *
  generalize H (c + 7) = y at *
  generalize H (c + 1) = z at *
  generalize mb H c = w at *
  omega
theorem ge_step1 {c c1 : Nat} (h : c < 294) : ge3 (c + 49) c1 ↔ c / 49 + 1 ≤ c1 / 49 ∧ c / 7 % 7 ≤ c1 / 7 % 7 ∧ c % 7 ≤ c1 % 7 := by
  unfold ge3
  rw [show (c + 49) / 49 = c / 49 + 1 by omega, show (c + 49) / 7 % 7 = c / 7 % 7 by omega, show (c + 49) % 7 = c % 7 by omega]
theorem ge_step2 {c c1 : Nat} (h : c % 49 < 42) : ge3 (c + 7) c1 ↔ c / 49 ≤ c1 / 49 ∧ c / 7 % 7 + 1 ≤ c1 / 7 % 7 ∧ c % 7 ≤ c1 % 7 := by
  unfold ge3
  rw [show (c + 7) / 49 = c / 49 by omega, show (c + 7) / 7 % 7 = c / 7 % 7 + 1 by omega, show (c + 7) % 7 = c % 7 by omega]
theorem ge_step3 {c c1 : Nat} (h : c % 7 < 6) : ge3 (c + 1) c1 ↔ c / 49 ≤ c1 / 49 ∧ c / 7 % 7 ≤ c1 / 7 % 7 ∧ c % 7 + 1 ≤ c1 % 7 := by
  unfold ge3
  rw [show (c + 1) / 49 = c / 49 by omega, show (c + 1) / 7 % 7 = c / 7 % 7 by omega, show (c + 1) % 7 = c % 7 + 1 by omega]
theorem sd_spec {M : Nat → Nat} (hM : ∀ c, c < 343 → M c ≤ 7) : ∀ i, i ≤ 343 → (∀ c, c < 343 → 343 - i ≤ c → ∀ d, (d < sdH M i c ↔ ∃ c1, c1 < 343 ∧ ge3 c c1 ∧ d < M c1)) ∧ (∀ c, c < 343 - i → sdH M i c = M c) ∧ ∀ c, c < 343 → sdH M i c ≤ 7 := by
  intro i
  induction i with
  | zero => exact fun _ => ⟨fun c hc hc1 => by omega, fun _ _ => rfl, hM⟩
  | succ i ih =>
    intro hi
    obtain ⟨h1, h2, h3⟩ := ih (by omega)
    refine ⟨fun c hc hc1 d => ?_, fun c hc => ?_, fun c hc => ?_⟩
    · show d < (if c = 342 - i then max (sdH M i (342 - i)) (mb (sdH M i) (342 - i)) else sdH M i c) ↔ _
      by_cases he : c = 342 - i
      · rw [if_pos he, ← he, show (d < max (sdH M i c) (mb (sdH M i) c)) = (d < sdH M i c ∨ d < mb (sdH M i) c) from propext (by omega), mb_lt, h2 c (by omega)]
        constructor
        · rintro (h | ⟨g, h⟩ | ⟨g, h⟩ | ⟨g, h⟩)
          · exact ⟨c, hc, ⟨Nat.le_refl _, Nat.le_refl _, Nat.le_refl _⟩, h⟩
          · obtain ⟨q, q1, q2, q3⟩ := (h1 (c + 49) (by omega) (by omega) d).mp h
            obtain ⟨a1, a2, a3⟩ := (ge_step1 g).mp q2
            exact ⟨q, q1, ⟨Nat.le_of_succ_le a1, a2, a3⟩, q3⟩
          · obtain ⟨q, q1, q2, q3⟩ := (h1 (c + 7) (by omega) (by omega) d).mp h
            obtain ⟨a1, a2, a3⟩ := (ge_step2 g).mp q2
            exact ⟨q, q1, ⟨a1, Nat.le_of_succ_le a2, a3⟩, q3⟩
          · obtain ⟨q, q1, q2, q3⟩ := (h1 (c + 1) (by omega) (by omega) d).mp h
            obtain ⟨a1, a2, a3⟩ := (ge_step3 g).mp q2
            exact ⟨q, q1, ⟨a1, a2, Nat.le_of_succ_le a3⟩, q3⟩
        · rintro ⟨q, q1, ⟨a1, a2, a3⟩, q3⟩
          by_cases e1 : c / 49 + 1 ≤ q / 49
          · have g : c < 294 := by omega
            exact Or.inr (Or.inl ⟨g, (h1 (c + 49) (by omega) (by omega) d).mpr ⟨q, q1, (ge_step1 g).mpr ⟨e1, a2, a3⟩, q3⟩⟩)
          · by_cases e2 : c / 7 % 7 + 1 ≤ q / 7 % 7
            · have g : c % 49 < 42 := by omega
              exact Or.inr (Or.inr (Or.inl ⟨g, (h1 (c + 7) (by omega) (by omega) d).mpr ⟨q, q1, (ge_step2 g).mpr ⟨a1, e2, a3⟩, q3⟩⟩))
            · by_cases e3 : c % 7 + 1 ≤ q % 7
              · have g : c % 7 < 6 := by omega
                exact Or.inr (Or.inr (Or.inr ⟨g, (h1 (c + 1) (by omega) (by omega) d).mpr ⟨q, q1, (ge_step3 g).mpr ⟨a1, a2, e3⟩, q3⟩⟩))
              · have : q = c := by
                  clear h1 h2 h3 ih hM q3
                  omega
                rw [this] at q3
                exact Or.inl q3
      · rw [if_neg he]
        exact h1 c hc (by omega) d
    · show (if c = 342 - i then max (sdH M i (342 - i)) (mb (sdH M i) (342 - i)) else sdH M i c) = M c
      rw [if_neg (by omega)]
      exact h2 c (by omega)
    · show (if c = 342 - i then max (sdH M i (342 - i)) (mb (sdH M i) (342 - i)) else sdH M i c) ≤ 7
      split
      · have a1 := h3 (342 - i) (by omega)
        have a2 := (mb_bd (show 342 - i < 343 by omega) h3).2.2
        omega
      · exact h3 c hc
theorem spreadDown_spec {S : St} {M : Nat → Nat} (h : hA S 56 M) : ∃ S1, mX6_spreadDown S 55 = some S1 ∧ hA S1 56 (sdH M 343) ∧ Fr [56] [] S S1 := by
  unfold mX6_spreadDown
  have := loopG (σ := St) (N := 343) (fun f i s => mX6_spreadDown_4 55 f s (342 - nI i)) (fun i s => hA s 56 (sdH M i) ∧ Fr [56] [] S s) (fun r => ∃ S1, r = some S1 ∧ hA S1 56 (sdH M 343) ∧ Fr [56] [] S S1) (by omega) ?_ ?_ S ⟨h, Fr.refl _ _ S⟩
  · exact this
  · intro i f s hi hI
    have hc : 342 - i < 343 := by omega
    obtain ⟨k1, k2⟩ := hI.1 _ hc
    have hb := (mb_bd hc (fun c hc => (hI.1 c hc).2)).2.2
    refine Or.inl ⟨sA s 56 (342 - i) (nI (max (sdH M i (342 - i)) (mb (sdH M i) (342 - i)))), ⟨fun c hc => ?_, hI.2.sA (List.mem_singleton.mpr rfl)⟩, ?_⟩
    · rw [gA_sA_same]
      show _ = nI (if c = 342 - i then max (sdH M i (342 - i)) (mb (sdH M i) (342 - i)) else sdH M i c) ∧ (if c = 342 - i then max (sdH M i (342 - i)) (mb (sdH M i) (342 - i)) else sdH M i c) ≤ 7
      by_cases he : c = 342 - i
      · rw [if_pos he, he, upd_at]
        exact ⟨rfl, by omega⟩
      · rw [upd_ne he, if_neg he]
        exact hI.1 c hc
    · have e : (342 : Int32) - nI i = nI (342 - i) := nI_sub (a := 342) (by omega)
      simp only [mX6_spreadDown_4]
      rw [← sub_m1, e, if_neg (nI_pos (by omega)), inb_nI hc (by decide), mb_spec (n := 55) hc hI.1, obs, inb_nI hc (by decide), k1, imax_nI (by omega) (by omega), bnd_eq]
  · intro f s hI
    simp only [mX6_spreadDown_4]
    rw [if_pos (show (342 : Int32) - nI 343 < 0 by decide)]
    exact ⟨s, rfl, hI.1, hI.2⟩
/-- in an ideal of powers -/
def inP (r p : Nat) : Bool := (decide (0 < ex 0 r) && decide (ex 0 r ≤ ex 0 p)) || ((decide (0 < ex 1 r) && decide (ex 1 r ≤ ex 1 p)) || ((decide (0 < ex 2 r) && decide (ex 2 r ≤ ex 2 p)) || (decide (0 < ex 3 r) && decide (ex 3 r ≤ ex 3 p))))
def anyF (f : Nat → Bool) : Nat → Nat → Bool
  | _, 0 => false
  | v, k + 1 => f v || anyF f (v + 1) k
theorem inP_any (r p : Nat) : inP r p = anyF (fun v => decide (0 < ex v r) && decide (ex v r ≤ ex v p)) 0 4 := by
  simp only [inP, anyF, Bool.or_false]
theorem inPart_loop {r p : Nat} (hr : r < 2401) (hp : p < 2401) : ∀ (k v n : Nat) (b : Bool), v + k = 4 → k < n → mX11_isInPart_4 n (nI (decN r)) (nI (decN p)) (b2 b) (nI v) = some (b2 (b || anyF (fun v => decide (0 < ex v r) && decide (ex v r ≤ ex v p)) v k)) := by
  intro k
  induction k with
  | zero =>
    intro v n b hv hn
    obtain ⟨n, rfl⟩ : ∃ m, n = m + 1 := ⟨n - 1, by omega⟩
    simp only [mX11_isInPart_4, anyF, Bool.or_false]
    rw [if_pos (show (4 : Int32) ≤ nI v from nI_le (a := 4) (by omega) (by omega)), zbg_b2]
  | succ k ih =>
    intro v n b hv hn
    obtain ⟨n, rfl⟩ : ∃ m, n = m + 1 := ⟨n - 1, by omega⟩
    have h1 := ex_lt (v := v) hr
    have h2 := ex_lt (v := v) hp
    have ht := ih (v + 1) n true (by omega) (by omega)
    have hf := ih (v + 1) n false (by omega) (by omega)
    simp only [mX11_isInPart_4, mX11_isInPart_34, mX11_isInPart_38, mX11_isInPart_39, bnd_eq, nI_1, anyF]
    rw [if_neg (show ¬ (4 : Int32) ≤ nI v from nI_ge (b := 4) (by omega) (by decide)), power_dec (by omega) hr, obs, power_dec (by omega) hp, obs, obs, show (1 : Int32) = b2 true from rfl, ht]
    cases b with
    | true =>
      rw [if_neg (by decide)]
      simp
    | false =>
      rw [if_pos (by decide)]
      have hf' : mX11_isInPart_4 n (nI (decN r)) (nI (decN p)) 0 (nI (v + 1)) = _ := hf
      rw [hf']
      by_cases h0 : 0 < ex v r
      · rw [if_neg (show ¬ nI (ex v r) ≤ 0 from nI_nle h0 (by omega)), decide_eq_true h0]
        by_cases h3 : ex v r ≤ ex v p
        · rw [if_neg (nI_nlt h3 (by omega)), decide_eq_true h3]
          simp
        · rw [if_pos (nI_lt (by omega) (by omega)), decide_eq_false h3]
          simp
      · rw [if_pos (show nI (ex v r) ≤ 0 from nI_le (b := 0) (by omega) (by decide)), decide_eq_false h0]
        simp
theorem inPart_spec {r p : Nat} (hr : r < 2401) (hp : p < 2401) : mX11_isInPart (nI (decN r)) (nI (decN p)) = some (b2 (inP r p)) := by
  unfold mX11_isInPart
  rw [inP_any]
  exact inPart_loop hr hp 4 0 FU false (by omega) (FU_gt (by decide))
def prB (L : List Nat) (m p : Nat) : Bool := L.all (fun r => !decide (supN r = m) || inP r p)
/-- the class's side -/
def mtH (H : Nat → Nat) (m : Nat) : Nat → Nat → Nat
  | 0 => fun _ => 0
  | i + 1 => fun c => if (isP H i && decide (supN (ptN H i) = m)) = true ∧ c = cio i then H c else mtH H m i c
theorem mt_lt {H : Nat → Nat} {m : Nat} : ∀ i, i ≤ 343 → ∀ c, c < 343 → ((∀ c, c < 343 → H c ≤ 7) → mtH H m i c ≤ 7) ∧ ∀ d, (d < mtH H m i c ↔ ∃ o, o < i ∧ isP H o = true ∧ supN (ptN H o) = m ∧ cio o = c ∧ d < H c) := by
  intro i
  induction i with
  | zero =>
    intro _ c hc
    refine ⟨fun _ => Nat.zero_le 7, fun d => ⟨fun h => absurd h (Nat.not_lt_zero d), ?_⟩⟩
    rintro ⟨o, o1, -⟩
    exact absurd o1 (Nat.not_lt_zero o)
  | succ i ih =>
    intro hi c hc
    obtain ⟨i1, i2⟩ := ih (by omega) c hc
    refine ⟨fun hH => ?_, fun d => ?_⟩
    · show (if (isP H i && decide (supN (ptN H i) = m)) = true ∧ c = cio i then H c else mtH H m i c) ≤ 7
      split
      · exact hH c hc
      · exact i1 hH
    · show d < (if (isP H i && decide (supN (ptN H i) = m)) = true ∧ c = cio i then H c else mtH H m i c) ↔ _
      by_cases hx : (isP H i && decide (supN (ptN H i) = m)) = true ∧ c = cio i
      · rw [if_pos hx]
        obtain ⟨x1, x2⟩ := hx
        rw [Bool.and_eq_true, decide_eq_true_eq] at x1
        constructor
        · intro h
          exact ⟨i, Nat.lt_succ_self i, x1.1, x1.2, x2.symm, h⟩
        · rintro ⟨o, -, -, -, -, h⟩
          exact h
      · rw [if_neg hx, i2 d]
        constructor
        · rintro ⟨o, o1, o2, o3, o4, o5⟩
          exact ⟨o, by omega, o2, o3, o4, o5⟩
        · rintro ⟨o, o1, o2, o3, o4, o5⟩
          by_cases he : o = i
          · subst he
            exact absurd ⟨by rw [o2, decide_eq_true o3]; rfl, o4.symm⟩ hx
          · exact ⟨o, by omega, o2, o3, o4, o5⟩
theorem meet_loop {S : St} {H : Nat → Nat} {m : Nat} (hm : m < 16) (h : hA S 60 H) : ∃ S1, mX9_meetParts S 59 (nI m) = some S1 ∧ hA S1 56 (sdH (mtH H m 343) 343) ∧ Fr [56] [] S S1 := by
  obtain ⟨S0, a1, a2, a3⟩ := all_spec (S := S) (n := 55) (Or.inl rfl)
  unfold mX9_meetParts
  rw [a1, obs]
  refine loopG (σ := St) (N := 343) (fun f i s => mX9_meetParts_9 59 f s (nI m) (nI i)) (fun i s => hA s 56 (mtH H m i) ∧ Fr [56] [] S s) (fun r => ∃ S1, r = some S1 ∧ hA S1 56 (sdH (mtH H m 343) 343) ∧ Fr [56] [] S S1) (by omega) ?_ ?_ S0 ⟨a2, a3⟩
  · intro i f s hi hI
    have h1 := hA_fr h hI.2 (by decide)
    have hs := (supN_bits (ptN H i)).1
    refine Or.inl ?_
    simp only [mX9_meetParts_9, mX9_meetParts_61, bnd_eq, nI_1]
    rw [if_neg (show ¬ (343 : Int32) ≤ nI i from nI_ge (b := 343) hi (by decide))]
    have same : (isP H i && decide (supN (ptN H i) = m)) = false → hA s 56 (mtH H m (i + 1)) := fun z c hc => by
      show _ = nI (if (isP H i && decide (supN (ptN H i) = m)) = true ∧ c = cio i then H c else mtH H m i c) ∧ (if (isP H i && decide (supN (ptN H i) = m)) = true ∧ c = cio i then H c else mtH H m i c) ≤ 7
      rw [if_neg (by rw [z]; simp)]
      exact hI.1 c hc
    cases hp : isP H i with
    | false =>
      rw [partAt_F hi h1 hp, obs, if_pos rfl]
      exact ⟨s, ⟨same (by rw [hp]; rfl), hI.2⟩, rfl⟩
    | true =>
      rw [partAt_T hi h1 hp, obs, if_neg (hexP hi), support_spec (ptN_lt hi), obs]
      by_cases he : supN (ptN H i) = m
      · have hcl := cio_lt i
        obtain ⟨k1, k2⟩ := h1 _ hcl
        rw [if_pos (congrArg nI he), cio_spec hi, obs, inb_nI hcl (by decide), inb_nI hcl (by decide), k1]
        refine ⟨_, ⟨fun c hc => ?_, hI.2.sA (by decide)⟩, rfl⟩
        rw [gA_sA_same]
        show _ = nI (if (isP H i && decide (supN (ptN H i) = m)) = true ∧ c = cio i then H c else mtH H m i c) ∧ (if (isP H i && decide (supN (ptN H i) = m)) = true ∧ c = cio i then H c else mtH H m i c) ≤ 7
        by_cases hcc : c = cio i
        · rw [if_pos ⟨by rw [hp, decide_eq_true he]; rfl, hcc⟩, hcc, upd_at]
          exact ⟨rfl, k2⟩
        · rw [if_neg (fun z => hcc z.2), upd_ne hcc]
          exact hI.1 c hc
      · rw [if_neg (fun e => he ((nI_eq (by omega) (by omega)).mp e))]
        exact ⟨s, ⟨same (by rw [decide_eq_false he, Bool.and_false]), hI.2⟩, rfl⟩
  · intro f s hI
    obtain ⟨s1, e1, e2, e3⟩ := spreadDown_spec hI.1
    simp only [mX9_meetParts_9]
    rw [if_pos (show (343 : Int32) ≤ nI 343 by decide), e1, obs]
    exact ⟨s1, rfl, e2, hI.2.trans e3⟩
theorem inP_pt {H : Nat → Nat} {o c d : Nat} (ho : o < 343) (hc : c < 343) (hd : d < 7) (h1 : 1 ≤ H (cio o)) (h7 : H (cio o) ≤ 7) : inP (ptN H o) (7 * c + d) = false ↔ ge3 c (cio o) ∧ d < H (cio o) := by
  have e0 : ex 0 (ptN H o) = o / 49 := by show (7 * o + H (cio o) % 7) / 343 = o / 49; omega
  have e1 : ex 1 (ptN H o) = o / 7 % 7 := by show (7 * o + H (cio o) % 7) / 49 % 7 = o / 7 % 7; omega
  have e2 : ex 2 (ptN H o) = o % 7 := by show (7 * o + H (cio o) % 7) / 7 % 7 = o % 7; omega
  have e3 : ex 3 (ptN H o) = H (cio o) % 7 := by show (7 * o + H (cio o) % 7) % 7 = H (cio o) % 7; omega
  have f0 : ex 0 (7 * c + d) = c / 49 := by show (7 * c + d) / 343 = c / 49; omega
  have f1 : ex 1 (7 * c + d) = c / 7 % 7 := by show (7 * c + d) / 49 % 7 = c / 7 % 7; omega
  have f2 : ex 2 (7 * c + d) = c % 7 := by show (7 * c + d) / 7 % 7 = c % 7; omega
  have f3 : ex 3 (7 * c + d) = d := by show (7 * c + d) % 7 = d; omega
  have g0 : cio o / 49 = (o / 49 + 6) % 7 := by
    unfold cio
    generalize (o / 49 + 6) % 7 = x
    have : (o / 7 + 6) % 7 < 7 := by omega
    have : (o + 6) % 7 < 7 := by omega
    omega
  have g1 : cio o / 7 % 7 = (o / 7 % 7 + 6) % 7 := by
    unfold cio
    have : (o / 7 + 6) % 7 = (o / 7 % 7 + 6) % 7 := by omega
    rw [this]
    have : (o / 49 + 6) % 7 < 7 := by omega
    have : (o / 7 % 7 + 6) % 7 < 7 := by omega
    have : (o + 6) % 7 < 7 := by omega
    generalize (o / 49 + 6) % 7 = x at *
    generalize (o / 7 % 7 + 6) % 7 = y at *
    generalize (o + 6) % 7 = z at *
    omega
  have g2 : cio o % 7 = (o % 7 + 6) % 7 := by
    unfold cio
    omega
  unfold inP ge3
  rw [e0, e1, e2, e3, f0, f1, f2, f3, g0, g1, g2]
  have b0 : o / 49 < 7 := by omega
  have b1 : o / 7 % 7 < 7 := by omega
  have b2 : o % 7 < 7 := by omega
  have k0 : c / 49 < 7 := by omega
  have k1 : c / 7 % 7 < 7 := by omega
  have k2 : c % 7 < 7 := by omega
  clear e0 e1 e2 e3 f0 f1 f2 f3 g0 g1 g2 ho hc
  generalize H (cio o) = x at *
  generalize o / 49 = o0 at *
  generalize o / 7 % 7 = o1 at *
  generalize o % 7 = o2 at *
  generalize c / 49 = c0 at *
  generalize c / 7 % 7 = c1 at *
  generalize c % 7 = c2 at *
  simp only [Bool.or_eq_false_iff, Bool.and_eq_false_iff, decide_eq_false_iff_not]
  omega
theorem prB_H {H : Nat → Nat} {m p : Nat} (hH : ∀ c, c < 343 → H c ≤ 7) (hp : p < 2401) : bH (sdH (mtH H m 343) 343) p = prB (pcl H 343) m p := by
  have hc : p / 7 < 343 := by omega
  have key := (sd_spec (M := mtH H m 343) (fun c hc => (mt_lt 343 (Nat.le_refl _) c hc).1 hH) 343 (Nat.le_refl _)).1 (p / 7) hc (by omega) (p % 7)
  have hmem : ∀ r, r ∈ pcl H 343 ↔ ∃ o, o < 343 ∧ isP H o = true ∧ ptN H o = r := fun r => by
    unfold pcl
    rw [List.mem_map]
    constructor
    · rintro ⟨o, o1, o2⟩
      obtain ⟨z1, z2⟩ := List.mem_filter.mp o1
      exact ⟨o, List.mem_range.mp z1, z2, o2⟩
    · rintro ⟨o, o1, o2, o3⟩
      exact ⟨o, List.mem_filter.mpr ⟨List.mem_range.mpr o1, o2⟩, o3⟩
  have hpos : ∀ o, isP H o = true → 1 ≤ H (cio o) := fun o z => by
    have := of_decide_eq_true z
    omega
  unfold bH
  cases hall : prB (pcl H 343) m p with
  | true =>
    refine decide_eq_true (Nat.le_of_not_lt (fun h => ?_))
    obtain ⟨c1, x1, x2, x3⟩ := key.mp h
    obtain ⟨o, o1, o2, o3, rfl, o5⟩ := ((mt_lt 343 (Nat.le_refl _) c1 x1).2 _).mp x3
    unfold prB at hall
    have := List.all_eq_true.mp hall _ ((hmem _).mpr ⟨o, o1, o2, rfl⟩)
    rw [decide_eq_true o3, Bool.not_true, Bool.false_or] at this
    have hf := (inP_pt (H := H) o1 hc (show p % 7 < 7 by omega) (hpos o o2) (hH _ x1)).mpr ⟨x2, o5⟩
    rw [show 7 * (p / 7) + p % 7 = p by omega, this] at hf
    cases hf
  | false =>
    unfold prB at hall
    obtain ⟨r, r1, r2⟩ := List.all_eq_false.mp hall
    obtain ⟨o, o1, o2, rfl⟩ := (hmem r).mp r1
    have r3 : supN (ptN H o) = m ∧ inP (ptN H o) p = false := by
      by_cases he : supN (ptN H o) = m
      · refine ⟨he, ?_⟩
        rw [decide_eq_true he, Bool.not_true, Bool.false_or] at r2
        simpa using r2
      · rw [decide_eq_false he] at r2
        simp at r2
    have hf := (inP_pt (H := H) (d := p % 7) o1 hc (by omega) (hpos o o2) (hH _ (cio_lt o))).mp (by rw [show 7 * (p / 7) + p % 7 = p by omega]; exact r3.2)
    refine decide_eq_false (Nat.not_le_of_lt (key.mpr ⟨cio o, cio_lt o, hf.1, ((mt_lt 343 (Nat.le_refl _) _ (cio_lt o)).2 _).mpr ⟨o, o1, o2, r3.1, rfl, hf.2⟩⟩))
theorem ex_dv {q p : Nat} (h : dv q p = true) (v : Nat) : ex v q ≤ ex v p := by
  obtain ⟨a1, a2, a3, a4⟩ := dv_iff.mp h
  match v with
  | 0 => exact a1
  | 1 => exact a2
  | 2 => exact a3
  | v + 3 => exact a4
theorem upc_prB (L : List Nat) (m : Nat) : upc (prB L m) := by
  intro q p hp hB hd
  unfold prB at hB ⊢
  rw [List.all_eq_true] at hB ⊢
  intro r hr
  have := hB r hr
  rw [Bool.or_eq_true] at this ⊢
  rcases this with h | h
  · exact Or.inl h
  · refine Or.inr ?_
    have m0 := ex_dv hd 0
    have m1 := ex_dv hd 1
    have m2 := ex_dv hd 2
    have m3 := ex_dv hd 3
    unfold inP at h ⊢
    simp only [Bool.or_eq_true, Bool.and_eq_true, decide_eq_true_eq] at h ⊢
    omega
/-- the reference's side -/
theorem prim_inner {S : St} {L : List Nat} {m i : Nat} {x3 : Int32} (k46 : St → Int32 → Int32 → Int32 → Option (Int32 × St)) (hm : m < 16) (hi : i < 2401) (hp : pL S L) (hlen : L.length ≤ 2401) (hlt : ∀ r ∈ L, r < 2401) (h1 : gA S 4 i = 1) : ∃ S1, mX11_primary_65 k46 FU S (nI m) x3 (nI i) 0 = k46 S1 (nI m) x3 (nI (i + 1)) ∧ gA S1 4 i = b2 (prB L m i) ∧ (∀ p, p ≠ i → gA S1 4 p = gA S 4 p) ∧ Fr [4] [] S S1 := by
  refine loopG (σ := St) (N := L.length) (fun f e s => mX11_primary_65 k46 f s (nI m) x3 (nI i) (nI e)) (fun e s => gA s 4 i = b2 (prB (L.take e) m i) ∧ (∀ p, p ≠ i → gA s 4 p = gA S 4 p) ∧ Fr [4] [] S s) (fun r => ∃ S1, r = k46 S1 (nI m) x3 (nI (i + 1)) ∧ gA S1 4 i = b2 (prB L m i) ∧ (∀ p, p ≠ i → gA S1 4 p = gA S 4 p) ∧ Fr [4] [] S S1) (by omega) ?_ ?_ S ⟨h1, fun _ _ => rfl, Fr.refl _ _ S⟩
  · intro e f s he hI
    obtain ⟨i1, i2, i3⟩ := hI
    have e1 : gI s 0 13 = nI L.length := (i3.2 0 13 (by decide)).trans hp.1
    have e2 : gA s 9 e = nI (decN (L.getD e 0)) := by
      rw [i3.1 9 (by decide)]
      exact hp.2 e he
    have hr := hlt _ (getD_mem he)
    have hs := (supN_bits (L.getD e 0)).1
    have ht : prB (L.take (e + 1)) m i = (prB (L.take e) m i && (!decide (supN (L.getD e 0) = m) || inP (L.getD e 0) i)) := all_take he
    refine Or.inl ⟨sA s 4 i (b2 (prB (L.take (e + 1)) m i)), ⟨by rw [gA_sA_same, upd_at], fun p hp => by rw [gA_sA_same, upd_ne hp]; exact i2 p hp, i3.sA (by decide)⟩, ?_⟩
    simp only [mX11_primary_65, mX11_primary_122, mX11_primary_126, mX11_primary_127]
    rw [e1, if_neg (nI_ge he (by omega)), inb_nI hi (by decide), i1, inb_nI (show e < 2401 by omega) (by decide), e2, rsupport_spec hr, obs, inb_nI (show e < 2401 by omega) (by decide), codeAt_spec hi, obs, e2, inPart_spec hr hi, obs]
    simp only [inb_nI hi (show 2401 < 2 ^ 31 by decide), bnd_eq, nI_1, zbg_0, zbg_1]
    rw [ht]
    cases prB (L.take e) m i with
    | false =>
      rw [if_pos (by decide), Bool.false_and]
      rfl
    | true =>
      rw [if_neg (by decide), Bool.true_and]
      by_cases hsm : supN (L.getD e 0) = m
      · rw [if_pos (congrArg nI hsm), decide_eq_true hsm]
        cases inP (L.getD e 0) i with
        | true =>
          rw [if_neg (by decide)]
          rfl
        | false =>
          rw [if_pos (by decide)]
          rfl
      · rw [if_neg (fun z => hsm ((nI_eq (by omega) (by omega)).mp z)), decide_eq_false hsm]
        rfl
  · intro f s hI
    obtain ⟨i1, i2, i3⟩ := hI
    have e1 : gI s 0 13 = nI L.length := (i3.2 0 13 (by decide)).trans hp.1
    rw [List.take_length] at i1
    simp only [mX11_primary_65]
    rw [e1, if_pos (nI_le (Nat.le_refl _) (by omega)), bnd_eq, nI_1]
    exact ⟨s, rfl, i1, i2, i3⟩
theorem prim_all {S : St} {L : List Nat} {m : Nat} {x3 : Int32} (hm : m < 16) (hp : pL S L) (hlen : L.length ≤ 2401) (hlt : ∀ r ∈ L, r < 2401) : ∃ S1, mX11_primary_46 FU S (nI m) x3 0 = ((mX11_keep S1 x3).bind fun r1 => some (r1.1, r1.2)) ∧ mk S1 4 (prB L m) ∧ Fr [4] [] S S1 := by
  refine loopG (σ := St) (N := 2401) (fun f i s => mX11_primary_46 f s (nI m) x3 (nI i)) (fun i s => (∀ p, p < i → gA s 4 p = b2 (prB L m p)) ∧ Fr [4] [] S s) (fun r => ∃ S1, r = ((mX11_keep S1 x3).bind fun r1 => some (r1.1, r1.2)) ∧ mk S1 4 (prB L m) ∧ Fr [4] [] S S1) (by omega) ?_ ?_ S ⟨fun j hj => absurd hj (Nat.not_lt_zero j), Fr.refl _ _ S⟩
  · intro i f s hi hI
    have f1 : Fr [4] [] S (sA s 4 i 1) := hI.2.sA (by decide)
    have hp1 : pL (sA s 4 i 1) L := ⟨(f1.2 0 13 (by decide)).trans hp.1, fun t ht => by rw [f1.1 9 (by decide)]; exact hp.2 t ht⟩
    obtain ⟨s1, e1, e2, e3, e4⟩ := prim_inner (x3 := x3) (mX11_primary_46 f) hm hi hp1 hlen hlt (by rw [gA_sA_same, upd_at])
    refine Or.inl ⟨s1, ⟨fun p hpi => ?_, f1.trans e4⟩, ?_⟩
    · by_cases he : p = i
      · rw [he]
        exact e2
      · rw [e3 p he, gA_sA_same, upd_ne he]
        exact hI.1 p (by omega)
    · simp only [mX11_primary_46]
      rw [if_neg (show ¬ (2401 : Int32) ≤ nI i from nI_ge (b := 2401) hi (by decide)), inb_nI hi (by decide), e1]
  · intro f s hI
    simp only [mX11_primary_46]
    rw [if_pos (show (2401 : Int32) ≤ nI 2401 by decide)]
    exact ⟨s, rfl, hI.1, hI.2⟩
theorem pf_primary : PF_primary Inv := by
  intro pr S a0 a1 a2 hI
  unfold mX10_primary mX11_primary
  rcases ideal_cases a0 with ⟨c0, r0⟩ | ⟨h, hh, rfl, c0, r0⟩
  · rw [c0, obs]
    exact ⟨-1, S, S, if_pos rfl, by rw [r0, obs, if_pos rfl], hI⟩
  rw [c0, obs, if_neg (by decide)]
  rcases ideal_cases a2 with ⟨c2, r2⟩ | ⟨t, ht, rfl, c2, r2⟩
  · rw [c2, obs]
    exact ⟨-1, S, S, if_pos rfl, by rw [r0, obs, if_neg (by decide), r2, obs, if_pos rfl], hI⟩
  rw [c2, obs, if_neg (by decide)]
  obtain ⟨G, g1, g2, g3⟩ := hI.2.1 h (by omega)
  obtain ⟨S1, H, l1, l2, l3, l4⟩ := look_spec (m := 65 + 2 * h) (by omega) g3 g1.1 g1.2.1
  have f1 : Fr scA scK S S1 := l4.mono (by decide) (by simp)
  have hPL := pls_of l2 l3
  have hX := prmN_lt (pcl H 343)
  rw [inb_nI hh (by decide), el62, l1, obs, primes_spec l2, obs]
  have R : ∀ S1 : St, ((mX11_isIdeal (nI h)).bind fun r1 => if r1 = 0 then (some ((-1), S1)) else ((mX11_isIdeal (nI t)).bind fun r2 => if r2 = 0 then (some ((-1), S1)) else ((mX11_in a1.toInt64 0 15).bind fun r3 => if r3 = 0 then (some ((-3), S1)) else ((mX11_primesOf S1 (nI h)).bind fun r4 => if ((r4.1 >>> (a1 &&& 31)) &&& 1) = 0 then (some ((-3), r4.2)) else (mX11_primary_46 FU r4.2 a1 (nI t) 0))))) = ((mX11_in a1.toInt64 0 15).bind fun r3 => if r3 = 0 then (some ((-3), S1)) else ((mX11_primesOf S1 (nI h)).bind fun r4 => if ((r4.1 >>> (a1 &&& 31)) &&& 1) = 0 then (some ((-3), r4.2)) else (mX11_primary_46 FU r4.2 a1 (nI t) 0))) := fun S1 => by
    rw [r0, obs, if_neg (by decide), r2, obs, if_neg (by decide)]
  unfold mX10_placeIsMissing mX10_placeIsMissing_18
  rcases arg a1 with ha | ⟨m, hm0, rfl⟩
  · rw [if_pos ha, obs, if_neg (by decide)]
    refine ⟨-3, S1, S1, rfl, ?_, Inv_fr hI f1⟩
    rw [R, show (0 : Int64) = lN 0 from rfl, in_neg (l := 0) ha (by decide), obs]
    rfl
  rw [if_neg (nI_pos hm0)]
  have hin : mX11_in (nI m).toInt64 0 15 = some (b2 (decide (0 ≤ m) && decide (m ≤ 15))) := in_nI (l := 0) (h := 15) hm0 (by decide) (by decide)
  rw [decide_eq_true (Nat.zero_le m), Bool.true_and] at hin
  by_cases hm : m < 16
  · rw [decide_eq_true (by omega)] at hin
    rw [if_neg (show ¬ (16 : Int32) ≤ nI m from nI_ge (b := 16) hm (by decide)), bit_spec (by omega) hm]
    by_cases hb : prmN (pcl H 343) / 2 ^ m % 2 = 0
    · rw [if_pos (show nI (prmN (pcl H 343) / 2 ^ m % 2) = 0 by rw [hb]; rfl), obs, if_neg (by decide)]
      obtain ⟨S2, p1, p2, p3, p4⟩ := primesOf_spec (S := S1) (h := h) (by omega) (mG_fr g2 l4 (by decide) (by decide)) g1.1 g1.2.1 (pls_len _) (pls_lt _)
      rw [hPL] at p1
      refine ⟨-3, S1, S2, rfl, ?_, Inv_fr (Inv_fr hI f1) (p4.mono (by decide) (by decide))⟩
      rw [R, hin, obs, if_neg (by decide), p1, obs]
      show (if ((nI (prmN (pcl H 343)) >>> (nI m &&& 31)) &&& 1) = 0 then _ else _) = _
      rw [bit_spec (by omega) hm, if_pos (show nI (prmN (pcl H 343) / 2 ^ m % 2) = 0 by rw [hb]; rfl)]
    · have hb1 : ¬ nI (prmN (pcl H 343) / 2 ^ m % 2) = 0 := nI_ne0 (by omega) (by omega)
      rw [if_neg hb1, obs, if_pos rfl]
      obtain ⟨S2, m1, m2, m3⟩ := meet_loop hm l2
      have hB : hS S2 56 (prB (pcl H 343) m) := ⟨_, m2, fun p hp => (prB_H (fun c hc => (l2 c hc).2) hp).symm⟩
      obtain ⟨r, S3, d1, d2, d3⟩ := finish_inv (h := t) hI (f1.trans (m3.mono (by decide) (by simp))) (by omega) hB (upc_prB _ _)
      obtain ⟨S4, p1, p2, p3, p4⟩ := primesOf_spec (S := S3) (h := h) (by omega) (d2 h G g2) g1.1 g1.2.1 (pls_len _) (pls_lt _)
      rw [hPL] at p1 p2
      obtain ⟨S5, q1, q2, q3⟩ := prim_all (x3 := nI t) hm p2 (by have := pcl_len H 343; omega) (pcl_lt (Nat.le_refl _))
      obtain ⟨S6, k1, k2⟩ := d3 S5 ((p4.mono (by decide) (by decide)).trans (q3.mono (by decide) (by simp))) q2
      rw [m1, obs, inb_nI ht (by decide), el62, d1, obs]
      refine ⟨r, S3, S6, rfl, ?_, k2⟩
      rw [R, hin, obs, if_neg (by decide), p1, obs]
      show (if ((nI (prmN (pcl H 343)) >>> (nI m &&& 31)) &&& 1) = 0 then _ else _) = _
      rw [bit_spec (by omega) hm, if_neg hb1, q1, k1, obs]
  · rw [decide_eq_false (by omega)] at hin
    rw [if_pos (show (16 : Int32) ≤ nI m from nI_le (a := 16) (by omega) hm0), obs, if_neg (by decide)]
    refine ⟨-3, S1, S1, rfl, ?_, Inv_fr hI f1⟩
    rw [R, hin, obs]
    rfl
