/-! PURE PART: bits; part, prime -/
theorem sub_m1 (a : Int32) (k : Nat) : a - nI k + (-1) = a - nI (k + 1) := by
  rw [← nI_1]
  grind
theorem sub_z (a : Int32) (k : Nat) : (a - nI k = 0) = (a = nI k) := by
  refine propext ⟨fun h => ?_, fun h => ?_⟩
  · grind
  · rw [h]
    grind
def pc (x : Nat) : Nat := x % 2 + x / 2 % 2 + x / 4 % 2 + x / 8 % 2
theorem hx_half {a b c d : Nat} : hx a b c d / 2 = hx (a / 2) (8 * (a % 2) + b / 2) (8 * (b % 2) + c / 2) (8 * (c % 2) + d / 2) := by
  unfold hx
  omega
theorem hx_quart {a b c d : Nat} : hx a b c d / 4 = hx (a / 4) (4 * (a % 4) + b / 4) (4 * (b % 4) + c / 4) (4 * (c % 4) + d / 4) := by
  unfold hx
  omega
theorem nib5 : ∀ t, t < 2 → ∀ y, y < 16 → (8 * t + y / 2) &&& 5 = (y / 2) &&& 5 := by decide
theorem nib5a : ∀ y, y < 16 → (y / 2) &&& 5 ≤ y := by decide
theorem nib3 : ∀ t, t < 4 → ∀ y, y < 16 → (4 * t + y / 4) &&& 3 = (y / 4) &&& 3 := by decide
theorem nibp : ∀ y, y < 16 → ((y - ((y / 2) &&& 5)) &&& 3) + (((y - ((y / 2) &&& 5)) / 4) &&& 3) = pc y := by decide
theorem bitCount_spec {a b c d : Nat} (ha : a < 16) (hb : b < 16) (hc : c < 16) (hd1 : d < 16) : mJ6_bitCount_0f7a4 (nI (hx a b c d)) = some (nI (pc a + pc b + pc c + pc d)) := by
  have hn : hx a b c d < 65536 := by unfold hx; omega
  have e1 : (((nI (hx a b c d)).toUInt32 >>> ((1 : Int32).toUInt32 &&& Int32.toUInt32 31)).toInt32 &&& 1431655765) = nI (hx ((a / 2) &&& 5) ((b / 2) &&& 5) ((c / 2) &&& 5) ((d / 2) &&& 5)) := by
    rw [pk_ushrN (by omega) _ 1 (by decide), show hx a b c d / 2 ^ 1 = hx a b c d / 2 from rfl, hx_half, show (1431655765 : Int32) = nI (hx (5 + 16 * 21845) 5 5 5) from rfl, nI_and, hx_and (by omega) (by omega) (by omega) (by omega) (by omega) (by omega), nib5 _ (by omega) b hb, nib5 _ (by omega) c hc, nib5 _ (by omega) d hd1]
    have : a / 2 &&& (5 + 16 * 21845) = (a / 2) &&& 5 := by
      rw [show a / 2 &&& (5 + 16 * 21845) = (16 * 0 + a / 2) &&& (16 * 21845 + 5) by rw [Nat.add_comm 5, Nat.mul_zero, Nat.zero_add], and16 (by omega) (by omega), Nat.zero_and, Nat.mul_zero, Nat.zero_add]
    rw [this]
  have l1 := nib5a a ha
  have l2 := nib5a b hb
  have l3 := nib5a c hc
  have l4 := nib5a d hd1
  have p1 := nibp a ha
  have p2 := nibp b hb
  have p3 := nibp c hc
  have p4 := nibp d hd1
  have e2 : nI (hx a b c d) - nI (hx ((a / 2) &&& 5) ((b / 2) &&& 5) ((c / 2) &&& 5) ((d / 2) &&& 5)) = nI (hx (a - ((a / 2) &&& 5)) (b - ((b / 2) &&& 5)) (c - ((c / 2) &&& 5)) (d - ((d / 2) &&& 5))) := by
    rw [nI_sub (by unfold hx; omega)]
    refine congrArg nI ?_
    unfold hx
    omega
  unfold mJ6_bitCount_0f7a4
  rw [e1, bnd_eq, e2]
  have ha1 : a - ((a / 2) &&& 5) < 16 := by omega
  have hb1 : b - ((b / 2) &&& 5) < 16 := by omega
  have hc1 : c - ((c / 2) &&& 5) < 16 := by omega
  have hd2 : d - ((d / 2) &&& 5) < 16 := by omega
  generalize a - ((a / 2) &&& 5) = a1 at *
  generalize b - ((b / 2) &&& 5) = b1 at *
  generalize c - ((c / 2) &&& 5) = c1 at *
  generalize d - ((d / 2) &&& 5) = d1 at *
  clear e1 e2 l1 l2 l3 l4
  have hn1 : hx a1 b1 c1 d1 < 65536 := by unfold hx; omega
  have top : ∀ x, x < 16 → x &&& (3 + 16 * 13107) = x &&& 3 := fun x hx => by
    rw [show x &&& (3 + 16 * 13107) = (16 * 0 + x) &&& (16 * 13107 + 3) by rw [Nat.add_comm 3, Nat.mul_zero, Nat.zero_add], and16 hx (by omega), Nat.zero_and, Nat.mul_zero, Nat.zero_add]
  have e3 : nI (hx a1 b1 c1 d1) &&& 858993459 = nI (hx (a1 &&& 3) (b1 &&& 3) (c1 &&& 3) (d1 &&& 3)) := by
    rw [show (858993459 : Int32) = nI (hx (3 + 16 * 13107) 3 3 3) from rfl, nI_and, hx_and (by omega) (by omega) (by omega) (by omega) (by omega) (by omega), top a1 ha1]
  have e4 : (((nI (hx a1 b1 c1 d1)).toUInt32 >>> ((2 : Int32).toUInt32 &&& Int32.toUInt32 31)).toInt32 &&& 858993459) = nI (hx ((a1 / 4) &&& 3) ((b1 / 4) &&& 3) ((c1 / 4) &&& 3) ((d1 / 4) &&& 3)) := by
    rw [pk_ushrN (by omega) _ 2 (by decide), show hx a1 b1 c1 d1 / 2 ^ 2 = hx a1 b1 c1 d1 / 4 from rfl, hx_quart, show (858993459 : Int32) = nI (hx (3 + 16 * 13107) 3 3 3) from rfl, nI_and, hx_and (by omega) (by omega) (by omega) (by omega) (by omega) (by omega), nib3 _ (by omega) b1 hb1, nib3 _ (by omega) c1 hc1, nib3 _ (by omega) d1 hd2, top (a1 / 4) (by omega)]
  rw [e3, e4, bnd_eq, nI_add, show hx (a1 &&& 3) (b1 &&& 3) (c1 &&& 3) (d1 &&& 3) + hx ((a1 / 4) &&& 3) ((b1 / 4) &&& 3) ((c1 / 4) &&& 3) ((d1 / 4) &&& 3) = hx (pc a) (pc b) (pc c) (pc d) by unfold hx; omega]
  have q1 : pc a ≤ 4 := by unfold pc; omega
  have q2 : pc b ≤ 4 := by unfold pc; omega
  have q3 : pc c ≤ 4 := by unfold pc; omega
  have q4 : pc d ≤ 4 := by unfold pc; omega
  generalize pc a = x at *
  generalize pc b = y at *
  generalize pc c = z at *
  generalize pc d = w at *
  have hn2 : hx x y z w < 65536 := by unfold hx; omega
  have e5 : (nI (hx x y z w) + ((nI (hx x y z w)).toUInt32 >>> ((4 : Int32).toUInt32 &&& Int32.toUInt32 31)).toInt32) &&& 252645135 = nI (hx 0 (x + y) 0 (z + w)) := by
    have a8 : ∀ t, t ≤ 8 → t &&& 15 = t := by decide
    rw [pk_ushrN (by omega) _ 4 (by decide), nI_add, show hx x y z w + hx x y z w / 2 ^ 4 = hx x (x + y) (y + z) (z + w) by show hx x y z w + hx x y z w / 16 = _; unfold hx; omega, show (252645135 : Int32) = nI (hx (16 * 3855) 15 0 15) from rfl, nI_and, hx_and (by omega) (by omega) (by omega) (by omega) (by omega) (by omega), show x &&& (16 * 3855) = 0 by rw [show x &&& (16 * 3855) = (16 * 0 + x) &&& (16 * 3855 + 0) by rw [Nat.mul_zero, Nat.zero_add, Nat.add_zero], and16 (by omega) (by omega), Nat.zero_and, Nat.and_zero], Nat.and_zero, a8 _ (by omega), a8 _ (by omega)]
  rw [e5, bnd_eq]
  have e6 : nI (hx 0 (x + y) 0 (z + w)) + ((nI (hx 0 (x + y) 0 (z + w))).toUInt32 >>> ((8 : Int32).toUInt32 &&& Int32.toUInt32 31)).toInt32 = nI (256 * (x + y) + (x + y + z + w)) := by
    rw [pk_ushrN (by unfold hx; omega) _ 8 (by decide), nI_add]
    refine congrArg nI ?_
    show hx 0 (x + y) 0 (z + w) + hx 0 (x + y) 0 (z + w) / 256 = _
    unfold hx
    omega
  rw [e6, bnd_eq]
  have e7 : nI (256 * (x + y) + (x + y + z + w)) + ((nI (256 * (x + y) + (x + y + z + w))).toUInt32 >>> ((16 : Int32).toUInt32 &&& Int32.toUInt32 31)).toInt32 = nI (256 * (x + y) + (x + y + z + w)) := by
    rw [pk_ushrN (by omega) _ 16 (by decide), nI_add]
    refine congrArg nI ?_
    show _ + _ / 65536 = _
    omega
  rw [e7, bnd_eq, pk_andN (by omega) 6 (by decide)]
  refine congrArg (fun z => some (nI z)) ?_
  show _ % 64 = _
  omega
theorem bitCount4 {x : Nat} (h : x < 16) : mJ6_bitCount_0f7a4 (nI x) = some (nI (pc x)) := by
  have := bitCount_spec (a := 0) (b := 0) (c := 0) (d := x) (by decide) (by decide) (by decide) h
  rw [show hx 0 0 0 x = x by unfold hx; omega, show pc 0 + pc 0 + pc 0 + pc x = pc x by unfold pc; omega] at this
  exact this
theorem ones_fuel (m : Nat) : ∀ x, x < 16 → mX11_ones_4 (m + 6) 0 (nI x) = some (nI (pc x)) := by
  intro x hx
  rcases (show x = 0 ∨ x = 1 ∨ x = 2 ∨ x = 3 ∨ x = 4 ∨ x = 5 ∨ x = 6 ∨ x = 7 ∨ x = 8 ∨ x = 9 ∨ x = 10 ∨ x = 11 ∨ x = 12 ∨ x = 13 ∨ x = 14 ∨ x = 15 by omega) with rfl | rfl | rfl | rfl | rfl | rfl | rfl | rfl | rfl | rfl | rfl | rfl | rfl | rfl | rfl | rfl <;> rfl
theorem ones_spec {x : Nat} (h : x < 16) : mX11_ones (nI x) = some (nI (pc x)) := by
  unfold mX11_ones
  rw [show FU = 1073741818 + 6 from rfl]
  exact ones_fuel _ x h
theorem bit_spec {X s : Nat} (hX : X < 2 ^ 31) (hs : s < 16) : (nI X >>> (nI s &&& 31)) &&& 1 = nI (X / 2 ^ s % 2) := by
  have h4 : ∀ s : Int32, ∀ k, (s.toBitVec.smod 32).toNat = k → (nI X >>> s) &&& 1 = nI (X / 2 ^ k % 2) := fun s k hs => by
    rw [pk_shrN hX s k hs, pk_andN (Nat.lt_of_le_of_lt (Nat.div_le_self _ _) (by omega)) 1 (by decide)]
  refine h4 _ s ?_
  revert s
  decide
