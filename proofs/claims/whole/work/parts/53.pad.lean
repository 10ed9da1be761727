/-! PURE PART: the pad's reader, as an automaton -/
def PS : Type := Nat × Nat × Nat × List Nat
def mkS (st q v : Nat) (M : List Nat) : PS := (st, q, v, M)
def PS.st (s : PS) : Nat := s.1
def PS.q (s : PS) : Nat := s.2.1
def PS.v (s : PS) : Nat := s.2.2.1
def PS.M (s : PS) : List Nat := s.2.2.2
def pstep (s : PS) (c : Nat) : Option PS :=
  if c = 44 then (if s.st = 0 then none else some (mkS 0 0 s.v (s.M ++ [s.q])))
  else if 97 ≤ c ∧ c ≤ 100 then (if s.st = 1 then none else if ex (c - 97) s.q < 6 then some (mkS 2 (s.q + sevN (c - 97) * 1) (c - 97) s.M) else none)
  else if 49 ≤ c ∧ c ≤ 54 then (if s.st = 0 then (if c = 49 then some (mkS 1 0 s.v s.M) else none) else if s.st = 2 then (if ex s.v s.q + (c - 49) ≤ 6 then some (mkS 3 (s.q + sevN s.v * (c - 49)) s.v s.M) else none) else none)
  else none
def okQ (st q v : Nat) (M : List Nat) (i : Nat) : Prop := st ≤ 3 ∧ q < 2401 ∧ (st = 0 → q = 0) ∧ (st = 2 → v < 4 ∧ 1 ≤ ex v q) ∧ (∀ x ∈ M, x < 2401) ∧ M.length ≤ i ∧ (st ≠ 0 → M.length < i)
def okS (s : PS) (i : Nat) : Prop := okQ s.st s.q s.v s.M i
def hexT (v : Nat) : Nat := match v with
  | 0 => 4096
  | 1 => 256
  | 2 => 16
  | _ => 1
theorem ex_add {q v w : Nat} (hv : v < 4) (hq : q < 2401) (h : ex v q + w ≤ 6) : q + sevN v * w < 2401 ∧ decN (q + sevN v * w) = decN q + tenN v * w ∧ hexN (q + sevN v * w) = hexN q + hexT v * w ∧ ex v (q + sevN v * w) = ex v q + w := by
  obtain ⟨ha, hb, hc, hd, e⟩ := digs q hq
  unfold decN hexN
  rcases (show v = 0 ∨ v = 1 ∨ v = 2 ∨ v = 3 by omega) with rfl | rfl | rfl | rfl
  · have h : q / 343 + w ≤ 6 := h
    show q + 343 * w < 2401 ∧ _ = _ + 1000 * w ∧ _ = _ + 4096 * w ∧ (q + 343 * w) / 343 = q / 343 + w
    rw [show sevN 0 = 343 from rfl]
    generalize q / 343 = a at *
    generalize q / 49 % 7 = b at *
    generalize q / 7 % 7 = c at *
    generalize q % 7 = d at *
    obtain ⟨g1, g2, g3, g4⟩ := dig4 (a := a + w) (b := b) (c := c) (d := d) hb hc hd
    rw [show q + 343 * w = 343 * (a + w) + 49 * b + 7 * c + d by omega, g1, g2, g3, g4]
    omega
  · have h : q / 49 % 7 + w ≤ 6 := h
    show q + 49 * w < 2401 ∧ _ = _ + 100 * w ∧ _ = _ + 256 * w ∧ (q + 49 * w) / 49 % 7 = q / 49 % 7 + w
    rw [show sevN 1 = 49 from rfl]
    generalize q / 343 = a at *
    generalize q / 49 % 7 = b at *
    generalize q / 7 % 7 = c at *
    generalize q % 7 = d at *
    obtain ⟨g1, g2, g3, g4⟩ := dig4 (a := a) (b := b + w) (c := c) (d := d) (by omega) hc hd
    rw [show q + 49 * w = 343 * a + 49 * (b + w) + 7 * c + d by omega, g1, g2, g3, g4]
    omega
  · have h : q / 7 % 7 + w ≤ 6 := h
    show q + 7 * w < 2401 ∧ _ = _ + 10 * w ∧ _ = _ + 16 * w ∧ (q + 7 * w) / 7 % 7 = q / 7 % 7 + w
    rw [show sevN 2 = 7 from rfl]
    generalize q / 343 = a at *
    generalize q / 49 % 7 = b at *
    generalize q / 7 % 7 = c at *
    generalize q % 7 = d at *
    obtain ⟨g1, g2, g3, g4⟩ := dig4 (a := a) (b := b) (c := c + w) (d := d) hb (by omega) hd
    rw [show q + 7 * w = 343 * a + 49 * b + 7 * (c + w) + d by omega, g1, g2, g3, g4]
    omega
  · have h : q % 7 + w ≤ 6 := h
    show q + 1 * w < 2401 ∧ _ = _ + 1 * w ∧ _ = _ + 1 * w ∧ (q + 1 * w) % 7 = q % 7 + w
    rw [show sevN 3 = 1 from rfl]
    generalize q / 343 = a at *
    generalize q / 49 % 7 = b at *
    generalize q / 7 % 7 = c at *
    generalize q % 7 = d at *
    obtain ⟨g1, g2, g3, g4⟩ := dig4 (a := a) (b := b) (c := c) (d := d + w) hb hc (by omega)
    rw [show q + 1 * w = 343 * a + 49 * b + 7 * c + (d + w) by omega, g1, g2, g3, g4]
    omega
theorem cpower_spec {v w : Nat} (hv : v < 4) (hw : w < 7) : mX3_power (nI v) (nI w) = some (nI (hexT v * w)) := by
  unfold mX3_power
  rcases (show v = 0 ∨ v = 1 ∨ v = 2 ∨ v = 3 by omega) with rfl | rfl | rfl | rfl
  · rw [pk_shlN _ 12 (by decide) (by omega)]
    exact congrArg (fun z => some (nI z)) (Nat.mul_comm w 4096)
  · rw [pk_shlN _ 8 (by decide) (by omega)]
    exact congrArg (fun z => some (nI z)) (Nat.mul_comm w 256)
  · rw [pk_shlN _ 4 (by decide) (by omega)]
    exact congrArg (fun z => some (nI z)) (Nat.mul_comm w 16)
  · rw [pk_shlN _ 0 (by decide) (by omega)]
    exact congrArg (fun z => some (nI z)) (Nat.mul_comm w 1)
theorem pstep_ok {s s1 : PS} {c i : Nat} (ho : okS s i) (h : pstep s c = some s1) : okS s1 (i + 1) := by
  obtain ⟨o1, o2, o3, o4, o5, o6, o7⟩ := ho
  unfold pstep at h
  split at h
  · split at h
    · cases h
    · cases h
      show okQ 0 0 s.v (s.M ++ [s.q]) (i + 1)
      refine ⟨by decide, by decide, fun _ => rfl, fun z => absurd z (by decide), fun x hx => ?_, ?_, fun z => absurd rfl z⟩
      · rcases List.mem_append.mp hx with z | z
        · exact o5 x z
        · rw [List.mem_singleton.mp z]
          exact o2
      · rw [List.length_append]
        exact Nat.add_le_add_right o6 1
  · split at h
    · rename_i hc
      split at h
      · cases h
      · split at h
        · rename_i hx
          cases h
          obtain ⟨g1, -, -, g4⟩ := ex_add (v := c - 97) (w := 1) (by omega) o2 (by omega)
          show okQ 2 (s.q + sevN (c - 97) * 1) (c - 97) s.M (i + 1)
          exact ⟨by decide, g1, fun z => absurd z (by decide), fun _ => ⟨by show c - 97 < 4; omega, by show 1 ≤ ex (c - 97) (s.q + sevN (c - 97) * 1); omega⟩, o5, by show s.M.length ≤ i + 1; omega, fun _ => by show s.M.length < i + 1; omega⟩
        · cases h
    · split at h
      · split at h
        · split at h
          · cases h
            show okQ 1 0 s.v s.M (i + 1)
            exact ⟨by decide, by decide, fun z => absurd z (by decide), fun z => absurd z (by decide), o5, by show s.M.length ≤ i + 1; omega, fun _ => by show s.M.length < i + 1; omega⟩
          · cases h
        · split at h
          · rename_i hs
            split at h
            · rename_i hx
              cases h
              obtain ⟨g1, -, -, g4⟩ := ex_add (w := c - 49) (o4 hs).1 o2 hx
              show okQ 3 (s.q + sevN s.v * (c - 49)) s.v s.M (i + 1)
              exact ⟨by decide, g1, fun z => absurd z (by decide), fun z => absurd z (by decide), o5, by show s.M.length ≤ i + 1; omega, fun _ => by show s.M.length < i + 1; omega⟩
            · cases h
          · cases h
      · cases h
