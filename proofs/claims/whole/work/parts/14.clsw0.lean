/-! StairIdeals$Monomial.ofSet(I)I -/
def mX3_ofSet (a0 : Int32) : Option (Int32) := inb 16 (a0 &&& 15) fun j1 => some (ofs j1)
theorem wX3_ofSet {κ : KT} {g : GT} (C : CX κ g RX3 cX3_ofSet 1 (some .int) 0 0) (S : St) (a0 : Int32) : J κ g 1 (fun a : Int32 => (some (Value.int a), S)) S 0 [(0, .int a0)] [] (mX3_ofSet a0) := by
  unfold mX3_ofSet
  refine j_gets1 C wd_434 dX3_ofSet_0 ?_
  refine j_iload_n C 0 rfl dX3_ofSet_3 rfl ?_
  refine j_bipush C (v := 15) (by decide) dX3_ofSet_4 ?_
  refine j_iand C dX3_ofSet_6 ?_
  refine j_tald1 C dX3_ofSet_7 (fun j1 => ?_)
  exact j_iret C rfl dX3_ofSet_8
theorem ctX3_ofSet {l : Launch} {g : GT} {S : St} {a0 : Int32} {out : Int32} (ho : mX3_ofSet a0 = some out) : CT l yX3_ofSet cX3_ofSet 1 (some .int) 0 0 [.int a0] g S ((fun a : Int32 => (some (Value.int a), S)) out) := CT_of (φ := (fun a : Int32 => (some (Value.int a), S))) [.int a0] ho (by decide) (Nat.le_of_ble_eq_true rfl) (xs := [(0, .int a0)]) rfl (fun κ C => wX3_ofSet C S a0)
/-! StairIdeals$Monomial.divides(II)Z -/
def mX3_divides (a0 : Int32) (a1 : Int32) : Option (Int32) := if (((a1 ||| 34952) - a0) &&& 34952) = 34952 then (some 1)
  else (some 0)
theorem wX3_divides {κ : KT} {g : GT} (C : CX κ g RX3 cX3_divides 2 (some .boolean) 0 0) (S : St) (a0 : Int32) (a1 : Int32) : J κ g 2 (fun a : Int32 => (some (Value.int a), S)) S 0 [(0, .int a0), (1, .int a1)] [] (mX3_divides a0 a1) := by
  unfold mX3_divides
  refine j_iload_n C 1 rfl dX3_divides_0 rfl ?_
  refine j_ldc C (v := 34952) wd_373 dX3_divides_1 ?_
  refine j_ior C dX3_divides_3 ?_
  refine j_iload_n C 0 rfl dX3_divides_4 rfl ?_
  refine j_isub C dX3_divides_5 ?_
  refine j_ldc C (v := 34952) wd_373 dX3_divides_6 ?_
  refine j_iand C dX3_divides_8 ?_
  refine j_ldc C (v := 34952) wd_373 dX3_divides_9 ?_
  refine j_icmp_ne C 18 dX3_divides_11 (by decide) ?_ ?_
  · refine j_iconst C (v := 0) (by decide) dX3_divides_18 ?_
    exact j_zret C rfl rfl dX3_divides_19
  · refine j_iconst C (v := 1) (by decide) dX3_divides_14 ?_
    refine j_goto C 19 dX3_divides_15 (by decide) ?_
    exact j_zret C rfl rfl dX3_divides_19
theorem ctX3_divides {l : Launch} {g : GT} {S : St} {a0 : Int32} {a1 : Int32} {out : Int32} (ho : mX3_divides a0 a1 = some out) : CT l yX3_divides cX3_divides 2 (some .boolean) 0 0 [.int a0, .int a1] g S ((fun a : Int32 => (some (Value.int a), S)) out) := CT_of (φ := (fun a : Int32 => (some (Value.int a), S))) [.int a0, .int a1] ho (by decide) (Nat.le_of_ble_eq_true rfl) (xs := [(0, .int a0), (1, .int a1)]) rfl (fun κ C => wX3_divides C S a0 a1)
/-! StairIdeals$Monomial.exponent(II)I -/
def mX3_exponent (a0 : Int32) (a1 : Int32) : Option (Int32) := some ((a0 >>> ((12 - (4 * a1)) &&& 31)) &&& 15)
theorem wX3_exponent {κ : KT} {g : GT} (C : CX κ g RX3 cX3_exponent 2 (some .int) 0 0) (S : St) (a0 : Int32) (a1 : Int32) : J κ g 2 (fun a : Int32 => (some (Value.int a), S)) S 0 [(0, .int a0), (1, .int a1)] [] (mX3_exponent a0 a1) := by
  unfold mX3_exponent
  refine j_iload_n C 0 rfl dX3_exponent_0 rfl ?_
  refine j_bipush C (v := 12) (by decide) dX3_exponent_1 ?_
  refine j_iconst C (v := 4) (by decide) dX3_exponent_3 ?_
  refine j_iload_n C 1 rfl dX3_exponent_4 rfl ?_
  refine j_imul C dX3_exponent_5 ?_
  refine j_isub C dX3_exponent_6 ?_
  refine j_ishr C dX3_exponent_7 ?_
  refine j_bipush C (v := 15) (by decide) dX3_exponent_8 ?_
  refine j_iand C dX3_exponent_10 ?_
  exact j_iret C rfl dX3_exponent_11
theorem ctX3_exponent {l : Launch} {g : GT} {S : St} {a0 : Int32} {a1 : Int32} {out : Int32} (ho : mX3_exponent a0 a1 = some out) : CT l yX3_exponent cX3_exponent 2 (some .int) 0 0 [.int a0, .int a1] g S ((fun a : Int32 => (some (Value.int a), S)) out) := CT_of (φ := (fun a : Int32 => (some (Value.int a), S))) [.int a0, .int a1] ho (by decide) (Nat.le_of_ble_eq_true rfl) (xs := [(0, .int a0), (1, .int a1)]) rfl (fun κ C => wX3_exponent C S a0 a1)
/-! StairIdeals$Stairs.cellOf(I)I -/
def mX6_cellOf (a0 : Int32) : Option (Int32) := (mX3_exponent a0 0).bind fun r1 => (mX3_exponent a0 1).bind fun r2 => (mX3_exponent a0 2).bind fun r3 => some (((49 * (imin 6 r1)) + (7 * (imin 6 r2))) + (1 * (imin 6 r3)))
theorem wX6_cellOf {κ : KT} {g : GT} (C : CX κ g RX6 cX6_cellOf 1 (some .int) 1 24) (S : St) (a0 : Int32) : J κ g 1 (fun a : Int32 => (some (Value.int a), S)) S 0 [(0, .int a0)] [] (mX6_cellOf a0) := by
  unfold mX6_cellOf
  refine j_bipush C (v := 49) (by decide) dX6_cellOf_0 ?_
  refine j_bipush C (v := 6) (by decide) dX6_cellOf_2 ?_
  refine j_iload_n C 0 rfl dX6_cellOf_4 rfl ?_
  refine j_iconst C (v := 0) (by decide) dX6_cellOf_5 ?_
  refine j_callSi C [.int a0, .int 0] [.int 6, .int 49] ms_X6_48 (fun _ h => ctX3_exponent h) ⟨(Nat.le_of_ble_eq_true rfl), (Nat.le_of_ble_eq_true rfl)⟩ (Nat.le_of_ble_eq_true rfl) dX6_cellOf_6 rfl (fun r1 => ?_)
  refine j_mmin C wd_322 (Nat.le_of_ble_eq_true rfl) (Nat.le_of_ble_eq_true rfl) dX6_cellOf_9 ?_
  refine j_imul C dX6_cellOf_12 ?_
  refine j_bipush C (v := 7) (by decide) dX6_cellOf_13 ?_
  refine j_bipush C (v := 6) (by decide) dX6_cellOf_15 ?_
  refine j_iload_n C 0 rfl dX6_cellOf_17 rfl ?_
  refine j_iconst C (v := 1) (by decide) dX6_cellOf_18 ?_
  refine j_callSi C [.int a0, .int 1] [.int 6, .int 7, .int (49 * (imin 6 r1))] ms_X6_48 (fun _ h => ctX3_exponent h) ⟨(Nat.le_of_ble_eq_true rfl), (Nat.le_of_ble_eq_true rfl)⟩ (Nat.le_of_ble_eq_true rfl) dX6_cellOf_19 rfl (fun r2 => ?_)
  refine j_mmin C wd_322 (Nat.le_of_ble_eq_true rfl) (Nat.le_of_ble_eq_true rfl) dX6_cellOf_22 ?_
  refine j_imul C dX6_cellOf_25 ?_
  refine j_iadd C dX6_cellOf_26 ?_
  refine j_iconst C (v := 1) (by decide) dX6_cellOf_27 ?_
  refine j_bipush C (v := 6) (by decide) dX6_cellOf_28 ?_
  refine j_iload_n C 0 rfl dX6_cellOf_30 rfl ?_
  refine j_iconst C (v := 2) (by decide) dX6_cellOf_31 ?_
  refine j_callSi C [.int a0, .int 2] [.int 6, .int 1, .int ((49 * (imin 6 r1)) + (7 * (imin 6 r2)))] ms_X6_48 (fun _ h => ctX3_exponent h) ⟨(Nat.le_of_ble_eq_true rfl), (Nat.le_of_ble_eq_true rfl)⟩ (Nat.le_of_ble_eq_true rfl) dX6_cellOf_32 rfl (fun r3 => ?_)
  refine j_mmin C wd_322 (Nat.le_of_ble_eq_true rfl) (Nat.le_of_ble_eq_true rfl) dX6_cellOf_35 ?_
  refine j_imul C dX6_cellOf_38 ?_
  refine j_iadd C dX6_cellOf_39 ?_
  exact j_iret C rfl dX6_cellOf_40
theorem ctX6_cellOf {l : Launch} {g : GT} {S : St} {a0 : Int32} {out : Int32} (ho : mX6_cellOf a0 = some out) : CT l yX6_cellOf cX6_cellOf 1 (some .int) 1 24 [.int a0] g S ((fun a : Int32 => (some (Value.int a), S)) out) := CT_of (φ := (fun a : Int32 => (some (Value.int a), S))) [.int a0] ho (by decide) (Nat.le_of_ble_eq_true rfl) (xs := [(0, .int a0)]) rfl (fun κ C => wX6_cellOf C S a0)
/-! StairIdeals$Stairs.contains(I)Z -/
def mX6_contains (S : St) (n0 : Nat) (a0 : Int32) : Option (Int32) := (mX6_cellOf a0).bind fun r1 => inb 343 r1 fun j2 => (mX3_exponent a0 3).bind fun r3 => if (imin 6 r3) < (gA S (n0 + 1) j2) then (some 0)
  else (some 1)
theorem wX6_contains {κ : KT} {g : GT} (C : CX κ g RX6 cX6_contains 2 (some .boolean) 2 44) (S : St) (n0 : Nat) (hn0 : okT g n0) (a0 : Int32) : J κ g 2 (fun a : Int32 => (some (Value.int a), S)) S 0 [(0, .ref (gad g n0)), (1, .int a0)] [] (mX6_contains S n0 a0) := by
  unfold mX6_contains
  refine j_aload_n C 0 rfl dX6_contains_0 rfl ?_
  refine j_getR C (x := n0 + 1) fl_X6_11 hn0.1 hn0.2.2.1 rfl dX6_contains_1 ?_
  refine j_iload_n C 1 rfl dX6_contains_4 rfl ?_
  refine j_callSi C [.int a0] [.ref (gad g (n0 + 1))] ms_X6_44 (fun _ h => ctX6_cellOf h) ⟨(Nat.le_of_ble_eq_true rfl), (Nat.le_of_ble_eq_true rfl)⟩ (Nat.le_of_ble_eq_true rfl) dX6_contains_5 rfl (fun r1 => ?_)
  refine j_iald C hn0.2.1 hn0.2.2.2 dX6_contains_8 (fun j2 => ?_)
  refine j_bipush C (v := 6) (by decide) dX6_contains_9 ?_
  refine j_iload_n C 1 rfl dX6_contains_11 rfl ?_
  refine j_iconst C (v := 3) (by decide) dX6_contains_12 ?_
  refine j_callSi C [.int a0, .int 3] [.int 6, .int (gA S (n0 + 1) j2)] ms_X6_48 (fun _ h => ctX3_exponent h) ⟨(Nat.le_of_ble_eq_true rfl), (Nat.le_of_ble_eq_true rfl)⟩ (Nat.le_of_ble_eq_true rfl) dX6_contains_13 rfl (fun r3 => ?_)
  refine j_mmin C wd_322 (Nat.le_of_ble_eq_true rfl) (Nat.le_of_ble_eq_true rfl) dX6_contains_16 ?_
  refine j_icmp_gt C 26 dX6_contains_19 (by decide) ?_ ?_
  · refine j_iconst C (v := 0) (by decide) dX6_contains_26 ?_
    exact j_zret C rfl rfl dX6_contains_27
  · refine j_iconst C (v := 1) (by decide) dX6_contains_22 ?_
    refine j_goto C 27 dX6_contains_23 (by decide) ?_
    exact j_zret C rfl rfl dX6_contains_27
theorem ctX6_contains {l : Launch} {g : GT} {S : St} {n0 : Nat} (hn0 : okT g n0) {a0 : Int32} {out : Int32} (ho : mX6_contains S n0 a0 = some out) : CT l yX6_contains cX6_contains 2 (some .boolean) 2 44 [.ref (gad g n0), .int a0] g S ((fun a : Int32 => (some (Value.int a), S)) out) := CT_of (φ := (fun a : Int32 => (some (Value.int a), S))) [.ref (gad g n0), .int a0] ho (by decide) (Nat.le_of_ble_eq_true rfl) (xs := [(0, .ref (gad g n0)), (1, .int a0)]) rfl (fun κ C => wX6_contains C S n0 hn0 a0)
/-! StairIdeals$Complex.sheetsAt(ILStairIdeals$Stairs;)I -/
def mX0_sheetsAt_42 (S : St) (n0 : Nat) (k4 : Int32 → Int32 → Int32 → Option (Int32)) (x0 : Int32) (x2 : Int32) (x3 : Int32) : Option (Int32) := bnd (x3 + 1) fun v1 => k4 x0 x2 v1
theorem wX0_sheetsAt_42 {κ : KT} {g : GT} (C : CX κ g RX0 cX0_sheetsAt 5 (some .int) 3 65) (S : St) (n0 : Nat) (hn0 : okT g n0) (k4 : Int32 → Int32 → Int32 → Option (Int32)) (hk4 : ∀ (x0 : Int32) (x2 : Int32) (x3 : Int32), J κ g 5 (fun a : Int32 => (some (Value.int a), S)) S 4 [(0, .int x0), (1, .ref (gad g n0)), (2, .int x2), (3, .int x3)] [] (k4 x0 x2 x3)) (x0 : Int32) (x2 : Int32) (x3 : Int32) : J κ g 5 (fun a : Int32 => (some (Value.int a), S)) S 42 [(0, .int x0), (1, .ref (gad g n0)), (2, .int x2), (3, .int x3)] [] (mX0_sheetsAt_42 S n0 k4 x0 x2 x3) := by
  unfold mX0_sheetsAt_42
  refine j_iinc C (xs2 := fun v1 => [(0, .int x0), (1, .ref (gad g n0)), (2, .int x2), (3, .int v1)]) 3 rfl dX0_sheetsAt_42 (by decide) (by decide) (fun _ => rfl) (fun v1 => ?_)
  refine j_goto C 4 dX0_sheetsAt_45 (by decide) ?_
  exact hk4 x0 x2 v1
def mX0_sheetsAt_4 (S : St) (n0 : Nat) : Nat → Int32 → Int32 → Int32 → Option (Int32)
  | 0, _, _, _ => none
  | n + 1, x0, x2, x3 => if 16 ≤ x3 then (some x2)
  else ((mX3_ofSet x3).bind fun r1 => (mX3_divides r1 x0).bind fun r2 => if r2 = 0 then (mX0_sheetsAt_42 S n0 (mX0_sheetsAt_4 S n0 n) x0 x2 x3)
  else ((mX6_contains S n0 (x0 - r1)).bind fun r3 => if r3 = 0 then (mX0_sheetsAt_42 S n0 (mX0_sheetsAt_4 S n0 n) x0 x2 x3)
  else (bnd (x2 ||| ((1 : Int32) <<< (x3 &&& 31))) fun v4 => mX0_sheetsAt_42 S n0 (mX0_sheetsAt_4 S n0 n) x0 v4 x3)))
theorem wX0_sheetsAt_4 {κ : KT} {g : GT} (C : CX κ g RX0 cX0_sheetsAt 5 (some .int) 3 65) (S : St) (n0 : Nat) (hn0 : okT g n0) : ∀ (n : Nat) (x0 : Int32) (x2 : Int32) (x3 : Int32), J κ g 5 (fun a : Int32 => (some (Value.int a), S)) S 4 [(0, .int x0), (1, .ref (gad g n0)), (2, .int x2), (3, .int x3)] [] (mX0_sheetsAt_4 S n0 n x0 x2 x3) := by
  intro n
  induction n with
  | zero => intro x0 x2 x3; exact j_none
  | succ n ih =>
    intro x0 x2 x3
    rw [mX0_sheetsAt_4]
    refine j_iload_n C 3 rfl dX0_sheetsAt_4 rfl ?_
    refine j_bipush C (v := 16) (by decide) dX0_sheetsAt_5 ?_
    refine j_icmp_ge C 48 dX0_sheetsAt_7 (by decide) ?_ ?_
    · refine j_iload_n C 2 rfl dX0_sheetsAt_48 rfl ?_
      exact j_iret C rfl dX0_sheetsAt_49
    · refine j_iload_n C 3 rfl dX0_sheetsAt_10 rfl ?_
      refine j_callSi C [.int x3] [] ms_X0_15 (fun _ h => ctX3_ofSet h) ⟨(Nat.le_of_ble_eq_true rfl), (Nat.le_of_ble_eq_true rfl)⟩ (Nat.le_of_ble_eq_true rfl) dX0_sheetsAt_11 rfl (fun r1 => ?_)
      refine j_istore C (xs1 := [(0, .int x0), (1, .ref (gad g n0)), (2, .int x2), (3, .int x3), (4, .int r1)]) dX0_sheetsAt_14 (by decide) rfl ?_
      refine j_iload C 4 rfl dX0_sheetsAt_16 ?_
      refine j_iload_n C 0 rfl dX0_sheetsAt_18 rfl ?_
      refine j_callSi C [.int r1, .int x0] [] ms_X0_21 (fun _ h => ctX3_divides h) ⟨(Nat.le_of_ble_eq_true rfl), (Nat.le_of_ble_eq_true rfl)⟩ (Nat.le_of_ble_eq_true rfl) dX0_sheetsAt_19 rfl (fun r2 => ?_)
      refine j_if_eq C 42 dX0_sheetsAt_22 (by decide) ?_ ?_
      · refine j_sub (xs1 := [(0, .int x0), (1, .ref (gad g n0)), (2, .int x2), (3, .int x3)]) [0, 1, 2, 3] rfl ?_
        exact wX0_sheetsAt_42 C S n0 hn0 (mX0_sheetsAt_4 S n0 n) ih x0 x2 x3
      · refine j_aload_n C 1 rfl dX0_sheetsAt_25 rfl ?_
        refine j_iload_n C 0 rfl dX0_sheetsAt_26 rfl ?_
        refine j_iload C 4 rfl dX0_sheetsAt_27 ?_
        refine j_isub C dX0_sheetsAt_29 ?_
        refine j_callVi C [.int (x0 - r1)] [] mv_X0_25 hn0.1 hn0.2.2.1 rfl (fun _ h => ctX6_contains hn0 h) ⟨(Nat.le_of_ble_eq_true rfl), (Nat.le_of_ble_eq_true rfl)⟩ (Nat.le_of_ble_eq_true rfl) dX0_sheetsAt_30 rfl (fun r3 => ?_)
        refine j_if_eq C 42 dX0_sheetsAt_33 (by decide) ?_ ?_
        · refine j_sub (xs1 := [(0, .int x0), (1, .ref (gad g n0)), (2, .int x2), (3, .int x3)]) [0, 1, 2, 3] rfl ?_
          exact wX0_sheetsAt_42 C S n0 hn0 (mX0_sheetsAt_4 S n0 n) ih x0 x2 x3
        · refine j_iload_n C 2 rfl dX0_sheetsAt_36 rfl ?_
          refine j_iconst C (v := 1) (by decide) dX0_sheetsAt_37 ?_
          refine j_iload_n C 3 rfl dX0_sheetsAt_38 rfl ?_
          refine j_ishl C dX0_sheetsAt_39 ?_
          refine j_ior C dX0_sheetsAt_40 ?_
          refine j_topi (fun v4 => ?_)
          refine j_istore_n C (xs1 := [(0, .int x0), (1, .ref (gad g n0)), (2, .int v4), (3, .int x3), (4, .int r1)]) dX0_sheetsAt_41 rfl (by decide) rfl ?_
          refine j_sub (xs1 := [(0, .int x0), (1, .ref (gad g n0)), (2, .int v4), (3, .int x3)]) [0, 1, 2, 3] rfl ?_
          exact wX0_sheetsAt_42 C S n0 hn0 (mX0_sheetsAt_4 S n0 n) ih x0 v4 x3
def mX0_sheetsAt (S : St) (n0 : Nat) (a0 : Int32) : Option (Int32) := mX0_sheetsAt_4 S n0 FU a0 0 0
theorem wX0_sheetsAt {κ : KT} {g : GT} (C : CX κ g RX0 cX0_sheetsAt 5 (some .int) 3 65) (S : St) (n0 : Nat) (hn0 : okT g n0) (a0 : Int32) : J κ g 5 (fun a : Int32 => (some (Value.int a), S)) S 0 [(0, .int a0), (1, .ref (gad g n0))] [] (mX0_sheetsAt S n0 a0) := by
  unfold mX0_sheetsAt
  refine j_iconst C (v := 0) (by decide) dX0_sheetsAt_0 ?_
  refine j_istore_n C (xs1 := [(0, .int a0), (1, .ref (gad g n0)), (2, .int 0)]) dX0_sheetsAt_1 rfl (by decide) rfl ?_
  refine j_iconst C (v := 0) (by decide) dX0_sheetsAt_2 ?_
  refine j_istore_n C (xs1 := [(0, .int a0), (1, .ref (gad g n0)), (2, .int 0), (3, .int 0)]) dX0_sheetsAt_3 rfl (by decide) rfl ?_
  exact wX0_sheetsAt_4 C S n0 hn0 FU a0 0 0
theorem ctX0_sheetsAt {l : Launch} {g : GT} {S : St} {n0 : Nat} (hn0 : okT g n0) {a0 : Int32} {out : Int32} (ho : mX0_sheetsAt S n0 a0 = some out) : CT l yX0_sheetsAt cX0_sheetsAt 5 (some .int) 3 65 [.int a0, .ref (gad g n0)] g S ((fun a : Int32 => (some (Value.int a), S)) out) := CT_of (φ := (fun a : Int32 => (some (Value.int a), S))) [.int a0, .ref (gad g n0)] ho (by decide) (Nat.le_of_ble_eq_true rfl) (xs := [(0, .int a0), (1, .ref (gad g n0))]) rfl (fun κ C => wX0_sheetsAt C S n0 hn0 a0)
/-! java/lang/Integer.bitCount(I)I -/
def mJ6_bitCount_0f7a4 (a0 : Int32) : Option (Int32) := bnd (a0 - (((a0.toUInt32 >>> ((1 : Int32).toUInt32 &&& Int32.toUInt32 31)).toInt32) &&& 1431655765)) fun v1 => bnd ((v1 &&& 858993459) + (((v1.toUInt32 >>> ((2 : Int32).toUInt32 &&& Int32.toUInt32 31)).toInt32) &&& 858993459)) fun v2 => bnd ((v2 + ((v2.toUInt32 >>> ((4 : Int32).toUInt32 &&& Int32.toUInt32 31)).toInt32)) &&& 252645135) fun v3 => bnd (v3 + ((v3.toUInt32 >>> ((8 : Int32).toUInt32 &&& Int32.toUInt32 31)).toInt32)) fun v4 => bnd (v4 + ((v4.toUInt32 >>> ((16 : Int32).toUInt32 &&& Int32.toUInt32 31)).toInt32)) fun v5 => some (v5 &&& 63)
theorem wJ6_bitCount_0f7a4 {κ : KT} {g : GT} (C : CX κ g RJ6 cJ6_bitCount_0f7a4 1 (some .int) 0 0) (S : St) (a0 : Int32) : J κ g 1 (fun a : Int32 => (some (Value.int a), S)) S 0 [(0, .int a0)] [] (mJ6_bitCount_0f7a4 a0) := by
  unfold mJ6_bitCount_0f7a4
  refine j_iload_n C 0 rfl dJ6_bitCount_0f7a4_0 rfl ?_
  refine j_iload_n C 0 rfl dJ6_bitCount_0f7a4_1 rfl ?_
  refine j_iconst C (v := 1) (by decide) dJ6_bitCount_0f7a4_2 ?_
  refine j_iushr C dJ6_bitCount_0f7a4_3 ?_
  refine j_ldcw C (v := 1431655765) wd_487 dJ6_bitCount_0f7a4_4 ?_
  refine j_iand C dJ6_bitCount_0f7a4_7 ?_
  refine j_isub C dJ6_bitCount_0f7a4_8 ?_
  refine j_topi (fun v1 => ?_)
  refine j_istore_n C (xs1 := [(0, .int v1)]) dJ6_bitCount_0f7a4_9 rfl (by decide) rfl ?_
  refine j_iload_n C 0 rfl dJ6_bitCount_0f7a4_10 rfl ?_
  refine j_ldcw C (v := 858993459) wd_488 dJ6_bitCount_0f7a4_11 ?_
  refine j_iand C dJ6_bitCount_0f7a4_14 ?_
  refine j_iload_n C 0 rfl dJ6_bitCount_0f7a4_15 rfl ?_
  refine j_iconst C (v := 2) (by decide) dJ6_bitCount_0f7a4_16 ?_
  refine j_iushr C dJ6_bitCount_0f7a4_17 ?_
  refine j_ldcw C (v := 858993459) wd_488 dJ6_bitCount_0f7a4_18 ?_
  refine j_iand C dJ6_bitCount_0f7a4_21 ?_
  refine j_iadd C dJ6_bitCount_0f7a4_22 ?_
  refine j_topi (fun v2 => ?_)
  refine j_istore_n C (xs1 := [(0, .int v2)]) dJ6_bitCount_0f7a4_23 rfl (by decide) rfl ?_
  refine j_iload_n C 0 rfl dJ6_bitCount_0f7a4_24 rfl ?_
  refine j_iload_n C 0 rfl dJ6_bitCount_0f7a4_25 rfl ?_
  refine j_iconst C (v := 4) (by decide) dJ6_bitCount_0f7a4_26 ?_
  refine j_iushr C dJ6_bitCount_0f7a4_27 ?_
  refine j_iadd C dJ6_bitCount_0f7a4_28 ?_
  refine j_ldcw C (v := 252645135) wd_489 dJ6_bitCount_0f7a4_29 ?_
  refine j_iand C dJ6_bitCount_0f7a4_32 ?_
  refine j_topi (fun v3 => ?_)
  refine j_istore_n C (xs1 := [(0, .int v3)]) dJ6_bitCount_0f7a4_33 rfl (by decide) rfl ?_
  refine j_iload_n C 0 rfl dJ6_bitCount_0f7a4_34 rfl ?_
  refine j_iload_n C 0 rfl dJ6_bitCount_0f7a4_35 rfl ?_
  refine j_bipush C (v := 8) (by decide) dJ6_bitCount_0f7a4_36 ?_
  refine j_iushr C dJ6_bitCount_0f7a4_38 ?_
  refine j_iadd C dJ6_bitCount_0f7a4_39 ?_
  refine j_topi (fun v4 => ?_)
  refine j_istore_n C (xs1 := [(0, .int v4)]) dJ6_bitCount_0f7a4_40 rfl (by decide) rfl ?_
  refine j_iload_n C 0 rfl dJ6_bitCount_0f7a4_41 rfl ?_
  refine j_iload_n C 0 rfl dJ6_bitCount_0f7a4_42 rfl ?_
  refine j_bipush C (v := 16) (by decide) dJ6_bitCount_0f7a4_43 ?_
  refine j_iushr C dJ6_bitCount_0f7a4_45 ?_
  refine j_iadd C dJ6_bitCount_0f7a4_46 ?_
  refine j_topi (fun v5 => ?_)
  refine j_istore_n C (xs1 := [(0, .int v5)]) dJ6_bitCount_0f7a4_47 rfl (by decide) rfl ?_
  refine j_iload_n C 0 rfl dJ6_bitCount_0f7a4_48 rfl ?_
  refine j_bipush C (v := 63) (by decide) dJ6_bitCount_0f7a4_49 ?_
  refine j_iand C dJ6_bitCount_0f7a4_51 ?_
  exact j_iret C rfl dJ6_bitCount_0f7a4_52
theorem ctJ6_bitCount_0f7a4 {l : Launch} {g : GT} {S : St} {a0 : Int32} {out : Int32} (ho : mJ6_bitCount_0f7a4 a0 = some out) : CT l yJ6_bitCount_0f7a4 cJ6_bitCount_0f7a4 1 (some .int) 0 0 [.int a0] g S ((fun a : Int32 => (some (Value.int a), S)) out) := CT_of (φ := (fun a : Int32 => (some (Value.int a), S))) [.int a0] ho (by decide) (Nat.le_of_ble_eq_true rfl) (xs := [(0, .int a0)]) rfl (fun κ C => wJ6_bitCount_0f7a4 C S a0)
/-! StairIdeals$Complex.sheetsOf(II)I -/
def mX0_sheetsOf_30 (k4 : Int32 → Int32 → Int32 → Int32 → Option (Int32)) (x0 : Int32) (x1 : Int32) (x2 : Int32) (x3 : Int32) : Option (Int32) := bnd (x3 + 1) fun v1 => k4 x0 x1 x2 v1
theorem wX0_sheetsOf_30 {κ : KT} {g : GT} (C : CX κ g RX0 cX0_sheetsOf 4 (some .int) 1 20) (S : St) (k4 : Int32 → Int32 → Int32 → Int32 → Option (Int32)) (hk4 : ∀ (x0 : Int32) (x1 : Int32) (x2 : Int32) (x3 : Int32), J κ g 4 (fun a : Int32 => (some (Value.int a), S)) S 4 [(0, .int x0), (1, .int x1), (2, .int x2), (3, .int x3)] [] (k4 x0 x1 x2 x3)) (x0 : Int32) (x1 : Int32) (x2 : Int32) (x3 : Int32) : J κ g 4 (fun a : Int32 => (some (Value.int a), S)) S 30 [(0, .int x0), (1, .int x1), (2, .int x2), (3, .int x3)] [] (mX0_sheetsOf_30 k4 x0 x1 x2 x3) := by
  unfold mX0_sheetsOf_30
  refine j_iinc C (xs2 := fun v1 => [(0, .int x0), (1, .int x1), (2, .int x2), (3, .int v1)]) 3 rfl dX0_sheetsOf_30 (by decide) (by decide) (fun _ => rfl) (fun v1 => ?_)
  refine j_goto C 4 dX0_sheetsOf_33 (by decide) ?_
  exact hk4 x0 x1 x2 v1
def mX0_sheetsOf_4 : Nat → Int32 → Int32 → Int32 → Int32 → Option (Int32)
  | 0, _, _, _, _ => none
  | n + 1, x0, x1, x2, x3 => if 16 ≤ x3 then (some x2)
  else (if ((x0 >>> (x3 &&& 31)) &&& 1) = 1 then ((mJ6_bitCount_0f7a4 x3).bind fun r1 => if r1 = x1 then (bnd (x2 + 1) fun v2 => mX0_sheetsOf_30 (mX0_sheetsOf_4 n) x0 x1 v2 x3)
  else (mX0_sheetsOf_30 (mX0_sheetsOf_4 n) x0 x1 x2 x3))
  else (mX0_sheetsOf_30 (mX0_sheetsOf_4 n) x0 x1 x2 x3))
theorem wX0_sheetsOf_4 {κ : KT} {g : GT} (C : CX κ g RX0 cX0_sheetsOf 4 (some .int) 1 20) (S : St) : ∀ (n : Nat) (x0 : Int32) (x1 : Int32) (x2 : Int32) (x3 : Int32), J κ g 4 (fun a : Int32 => (some (Value.int a), S)) S 4 [(0, .int x0), (1, .int x1), (2, .int x2), (3, .int x3)] [] (mX0_sheetsOf_4 n x0 x1 x2 x3) := by
  intro n
  induction n with
  | zero => intro x0 x1 x2 x3; exact j_none
  | succ n ih =>
    intro x0 x1 x2 x3
    rw [mX0_sheetsOf_4]
    refine j_iload_n C 3 rfl dX0_sheetsOf_4 rfl ?_
    refine j_bipush C (v := 16) (by decide) dX0_sheetsOf_5 ?_
    refine j_icmp_ge C 36 dX0_sheetsOf_7 (by decide) ?_ ?_
    · refine j_iload_n C 2 rfl dX0_sheetsOf_36 rfl ?_
      exact j_iret C rfl dX0_sheetsOf_37
    · refine j_iload_n C 0 rfl dX0_sheetsOf_10 rfl ?_
      refine j_iload_n C 3 rfl dX0_sheetsOf_11 rfl ?_
      refine j_ishr C dX0_sheetsOf_12 ?_
      refine j_iconst C (v := 1) (by decide) dX0_sheetsOf_13 ?_
      refine j_iand C dX0_sheetsOf_14 ?_
      refine j_iconst C (v := 1) (by decide) dX0_sheetsOf_15 ?_
      refine j_icmp_ne C 30 dX0_sheetsOf_16 (by decide) ?_ ?_
      · exact wX0_sheetsOf_30 C S (mX0_sheetsOf_4 n) ih x0 x1 x2 x3
      · refine j_iload_n C 3 rfl dX0_sheetsOf_19 rfl ?_
        refine j_callSi C [.int x3] [] ms_X0_38 (fun _ h => ctJ6_bitCount_0f7a4 h) ⟨(Nat.le_of_ble_eq_true rfl), (Nat.le_of_ble_eq_true rfl)⟩ (Nat.le_of_ble_eq_true rfl) dX0_sheetsOf_20 rfl (fun r1 => ?_)
        refine j_iload_n C 1 rfl dX0_sheetsOf_23 rfl ?_
        refine j_icmp_ne C 30 dX0_sheetsOf_24 (by decide) ?_ ?_
        · exact wX0_sheetsOf_30 C S (mX0_sheetsOf_4 n) ih x0 x1 x2 x3
        · refine j_iinc C (xs2 := fun v2 => [(0, .int x0), (1, .int x1), (2, .int v2), (3, .int x3)]) 2 rfl dX0_sheetsOf_27 (by decide) (by decide) (fun _ => rfl) (fun v2 => ?_)
          exact wX0_sheetsOf_30 C S (mX0_sheetsOf_4 n) ih x0 x1 v2 x3
def mX0_sheetsOf (a0 : Int32) (a1 : Int32) : Option (Int32) := mX0_sheetsOf_4 FU a0 a1 0 0
theorem wX0_sheetsOf {κ : KT} {g : GT} (C : CX κ g RX0 cX0_sheetsOf 4 (some .int) 1 20) (S : St) (a0 : Int32) (a1 : Int32) : J κ g 4 (fun a : Int32 => (some (Value.int a), S)) S 0 [(0, .int a0), (1, .int a1)] [] (mX0_sheetsOf a0 a1) := by
  unfold mX0_sheetsOf
  refine j_iconst C (v := 0) (by decide) dX0_sheetsOf_0 ?_
  refine j_istore_n C (xs1 := [(0, .int a0), (1, .int a1), (2, .int 0)]) dX0_sheetsOf_1 rfl (by decide) rfl ?_
  refine j_iconst C (v := 0) (by decide) dX0_sheetsOf_2 ?_
  refine j_istore_n C (xs1 := [(0, .int a0), (1, .int a1), (2, .int 0), (3, .int 0)]) dX0_sheetsOf_3 rfl (by decide) rfl ?_
  exact wX0_sheetsOf_4 C S FU a0 a1 0 0
theorem ctX0_sheetsOf {l : Launch} {g : GT} {S : St} {a0 : Int32} {a1 : Int32} {out : Int32} (ho : mX0_sheetsOf a0 a1 = some out) : CT l yX0_sheetsOf cX0_sheetsOf 4 (some .int) 1 20 [.int a0, .int a1] g S ((fun a : Int32 => (some (Value.int a), S)) out) := CT_of (φ := (fun a : Int32 => (some (Value.int a), S))) [.int a0, .int a1] ho (by decide) (Nat.le_of_ble_eq_true rfl) (xs := [(0, .int a0), (1, .int a1)]) rfl (fun κ C => wX0_sheetsOf C S a0 a1)
/-! StairIdeals$Complex.borderOf(I)I -/
def mX0_borderOf_30 (k4 : Int32 → Int32 → Int32 → Option (Int32)) (x0 : Int32) (x1 : Int32) (x2 : Int32) : Option (Int32) := bnd (x2 + 1) fun v1 => k4 x0 x1 v1
theorem wX0_borderOf_30 {κ : KT} {g : GT} (C : CX κ g RX0 cX0_borderOf 3 (some .int) 0 0) (S : St) (k4 : Int32 → Int32 → Int32 → Option (Int32)) (hk4 : ∀ (x0 : Int32) (x1 : Int32) (x2 : Int32), J κ g 3 (fun a : Int32 => (some (Value.int a), S)) S 4 [(0, .int x0), (1, .int x1), (2, .int x2)] [] (k4 x0 x1 x2)) (x0 : Int32) (x1 : Int32) (x2 : Int32) : J κ g 3 (fun a : Int32 => (some (Value.int a), S)) S 30 [(0, .int x0), (1, .int x1), (2, .int x2)] [] (mX0_borderOf_30 k4 x0 x1 x2) := by
  unfold mX0_borderOf_30
  refine j_iinc C (xs2 := fun v1 => [(0, .int x0), (1, .int x1), (2, .int v1)]) 2 rfl dX0_borderOf_30 (by decide) (by decide) (fun _ => rfl) (fun v1 => ?_)
  refine j_goto C 4 dX0_borderOf_33 (by decide) ?_
  exact hk4 x0 x1 v1
def mX0_borderOf_4 : Nat → Int32 → Int32 → Int32 → Option (Int32)
  | 0, _, _, _ => none
  | n + 1, x0, x1, x2 => if 4 ≤ x2 then (some x1)
  else (if ((x0 >>> (x2 &&& 31)) &&& 1) = 1 then (bnd (x1 ^^^ ((1 : Int32) <<< ((x0 &&& (((1 : Int32) <<< (x2 &&& 31)) ^^^ (-1))) &&& 31))) fun v1 => mX0_borderOf_30 (mX0_borderOf_4 n) x0 v1 x2)
  else (mX0_borderOf_30 (mX0_borderOf_4 n) x0 x1 x2))
theorem wX0_borderOf_4 {κ : KT} {g : GT} (C : CX κ g RX0 cX0_borderOf 3 (some .int) 0 0) (S : St) : ∀ (n : Nat) (x0 : Int32) (x1 : Int32) (x2 : Int32), J κ g 3 (fun a : Int32 => (some (Value.int a), S)) S 4 [(0, .int x0), (1, .int x1), (2, .int x2)] [] (mX0_borderOf_4 n x0 x1 x2) := by
  intro n
  induction n with
  | zero => intro x0 x1 x2; exact j_none
  | succ n ih =>
    intro x0 x1 x2
    rw [mX0_borderOf_4]
    refine j_iload_n C 2 rfl dX0_borderOf_4 rfl ?_
    refine j_iconst C (v := 4) (by decide) dX0_borderOf_5 ?_
    refine j_icmp_ge C 36 dX0_borderOf_6 (by decide) ?_ ?_
    · refine j_iload_n C 1 rfl dX0_borderOf_36 rfl ?_
      exact j_iret C rfl dX0_borderOf_37
    · refine j_iload_n C 0 rfl dX0_borderOf_9 rfl ?_
      refine j_iload_n C 2 rfl dX0_borderOf_10 rfl ?_
      refine j_ishr C dX0_borderOf_11 ?_
      refine j_iconst C (v := 1) (by decide) dX0_borderOf_12 ?_
      refine j_iand C dX0_borderOf_13 ?_
      refine j_iconst C (v := 1) (by decide) dX0_borderOf_14 ?_
      refine j_icmp_ne C 30 dX0_borderOf_15 (by decide) ?_ ?_
      · exact wX0_borderOf_30 C S (mX0_borderOf_4 n) ih x0 x1 x2
      · refine j_iload_n C 1 rfl dX0_borderOf_18 rfl ?_
        refine j_iconst C (v := 1) (by decide) dX0_borderOf_19 ?_
        refine j_iload_n C 0 rfl dX0_borderOf_20 rfl ?_
        refine j_iconst C (v := 1) (by decide) dX0_borderOf_21 ?_
        refine j_iload_n C 2 rfl dX0_borderOf_22 rfl ?_
        refine j_ishl C dX0_borderOf_23 ?_
        refine j_iconst C (v := (-1)) (by decide) dX0_borderOf_24 ?_
        refine j_ixor C dX0_borderOf_25 ?_
        refine j_iand C dX0_borderOf_26 ?_
        refine j_ishl C dX0_borderOf_27 ?_
        refine j_ixor C dX0_borderOf_28 ?_
        refine j_topi (fun v1 => ?_)
        refine j_istore_n C (xs1 := [(0, .int x0), (1, .int v1), (2, .int x2)]) dX0_borderOf_29 rfl (by decide) rfl ?_
        exact wX0_borderOf_30 C S (mX0_borderOf_4 n) ih x0 v1 x2
def mX0_borderOf (a0 : Int32) : Option (Int32) := mX0_borderOf_4 FU a0 0 0
theorem wX0_borderOf {κ : KT} {g : GT} (C : CX κ g RX0 cX0_borderOf 3 (some .int) 0 0) (S : St) (a0 : Int32) : J κ g 3 (fun a : Int32 => (some (Value.int a), S)) S 0 [(0, .int a0)] [] (mX0_borderOf a0) := by
  unfold mX0_borderOf
  refine j_iconst C (v := 0) (by decide) dX0_borderOf_0 ?_
  refine j_istore_n C (xs1 := [(0, .int a0), (1, .int 0)]) dX0_borderOf_1 rfl (by decide) rfl ?_
  refine j_iconst C (v := 0) (by decide) dX0_borderOf_2 ?_
  refine j_istore_n C (xs1 := [(0, .int a0), (1, .int 0), (2, .int 0)]) dX0_borderOf_3 rfl (by decide) rfl ?_
  exact wX0_borderOf_4 C S FU a0 0 0
theorem ctX0_borderOf {l : Launch} {g : GT} {S : St} {a0 : Int32} {out : Int32} (ho : mX0_borderOf a0 = some out) : CT l yX0_borderOf cX0_borderOf 3 (some .int) 0 0 [.int a0] g S ((fun a : Int32 => (some (Value.int a), S)) out) := CT_of (φ := (fun a : Int32 => (some (Value.int a), S))) [.int a0] ho (by decide) (Nat.le_of_ble_eq_true rfl) (xs := [(0, .int a0)]) rfl (fun κ C => wX0_borderOf C S a0)
/-! StairIdeals$Complex.reduce(II)I -/
def mX0_reduce_5 (S : St) : Nat → Int32 → Int32 → Int32 → Option (Int32)
  | 0, _, _, _ => none
  | n + 1, x2, x3, x4 => if x2 ≤ x4 then (some x3)
  else (if 16 ≤ x4 then (some x3)
  else (inb 16 x4 fun j1 => bnd (imin x3 (x3 ^^^ (gA S 27 j1))) fun v2 => bnd (x4 + 1) fun v3 => mX0_reduce_5 S n x2 v2 v3))
theorem wX0_reduce_5 {κ : KT} {g : GT} (C : CX κ g RX0 cX0_reduce 5 (some .int) 1 24) (S : St) : ∀ (n : Nat) (x2 : Int32) (x3 : Int32) (x4 : Int32), J κ g 5 (fun a : Int32 => (some (Value.int a), S)) S 5 [(0, .ref (gad g 26)), (2, .int x2), (3, .int x3), (4, .int x4)] [] (mX0_reduce_5 S n x2 x3 x4) := by
  intro n
  induction n with
  | zero => intro x2 x3 x4; exact j_none
  | succ n ih =>
    intro x2 x3 x4
    rw [mX0_reduce_5]
    refine j_iload C 3 rfl dX0_reduce_5 ?_
    refine j_iload_n C 1 rfl dX0_reduce_7 rfl ?_
    refine j_icmp_ge C 41 dX0_reduce_8 (by decide) ?_ ?_
    · refine j_iload_n C 2 rfl dX0_reduce_41 rfl ?_
      exact j_iret C rfl dX0_reduce_42
    · refine j_iload C 3 rfl dX0_reduce_11 ?_
      refine j_aload_n C 0 rfl dX0_reduce_13 rfl ?_
      refine j_getR C (x := 27) fl_X0_11 sh_26 rfl rfl dX0_reduce_14 ?_
      refine j_alen0 C (v := 16) sh_27 rfl (by decide) dX0_reduce_17 ?_
      refine j_icmp_ge C 41 dX0_reduce_18 (by decide) ?_ ?_
      · refine j_iload_n C 2 rfl dX0_reduce_41 rfl ?_
        exact j_iret C rfl dX0_reduce_42
      · refine j_iload_n C 2 rfl dX0_reduce_21 rfl ?_
        refine j_iload_n C 2 rfl dX0_reduce_22 rfl ?_
        refine j_aload_n C 0 rfl dX0_reduce_23 rfl ?_
        refine j_getR C (x := 27) fl_X0_11 sh_26 rfl rfl dX0_reduce_24 ?_
        refine j_iload C 3 rfl dX0_reduce_27 ?_
        refine j_iald C sh_27 rfl dX0_reduce_29 (fun j1 => ?_)
        refine j_ixor C dX0_reduce_30 ?_
        refine j_mmin C wd_655 (Nat.le_of_ble_eq_true rfl) (Nat.le_of_ble_eq_true rfl) dX0_reduce_31 ?_
        refine j_topi (fun v2 => ?_)
        refine j_istore_n C (xs1 := [(0, .ref (gad g 26)), (2, .int x2), (3, .int v2), (4, .int x4)]) dX0_reduce_34 rfl (by decide) rfl ?_
        refine j_iinc C (xs2 := fun v3 => [(0, .ref (gad g 26)), (2, .int x2), (3, .int v2), (4, .int v3)]) 3 rfl dX0_reduce_35 (by decide) (by decide) (fun _ => rfl) (fun v3 => ?_)
        refine j_goto C 5 dX0_reduce_38 (by decide) ?_
        exact ih x2 v2 v3
def mX0_reduce (S : St) (a0 : Int32) (a1 : Int32) : Option (Int32) := mX0_reduce_5 S FU a1 a0 0
theorem wX0_reduce {κ : KT} {g : GT} (C : CX κ g RX0 cX0_reduce 5 (some .int) 1 24) (S : St) (a0 : Int32) (a1 : Int32) : J κ g 5 (fun a : Int32 => (some (Value.int a), S)) S 0 [(0, .ref (gad g 26)), (1, .int a0), (2, .int a1)] [] (mX0_reduce S a0 a1) := by
  unfold mX0_reduce
  refine j_iload_n C 1 rfl dX0_reduce_0 rfl ?_
  refine j_istore_n C (xs1 := [(0, .ref (gad g 26)), (1, .int a0), (2, .int a1), (3, .int a0)]) dX0_reduce_1 rfl (by decide) rfl ?_
  refine j_iconst C (v := 0) (by decide) dX0_reduce_2 ?_
  refine j_istore C (xs1 := [(0, .ref (gad g 26)), (1, .int a0), (2, .int a1), (3, .int a0), (4, .int 0)]) dX0_reduce_3 (by decide) rfl ?_
  refine j_sub (xs1 := [(0, .ref (gad g 26)), (2, .int a1), (3, .int a0), (4, .int 0)]) [0, 2, 3, 4] rfl ?_
  exact wX0_reduce_5 C S FU a1 a0 0
theorem ctX0_reduce {l : Launch} {g : GT} {S : St} {a0 : Int32} {a1 : Int32} {out : Int32} (ho : mX0_reduce S a0 a1 = some out) : CT l yX0_reduce cX0_reduce 5 (some .int) 1 24 [.ref (gad g 26), .int a0, .int a1] g S ((fun a : Int32 => (some (Value.int a), S)) out) := CT_of (φ := (fun a : Int32 => (some (Value.int a), S))) [.ref (gad g 26), .int a0, .int a1] ho (by decide) (Nat.le_of_ble_eq_true rfl) (xs := [(0, .ref (gad g 26)), (1, .int a0), (2, .int a1)]) rfl (fun κ C => wX0_reduce C S a0 a1)
/-! StairIdeals$Complex.borders(II)I -/
def mX0_borders_68 (k5 : St → Int32 → Int32 → Int32 → Int32 → Option (Int32 × St)) (S : St) (x1 : Int32) (x2 : Int32) (x3 : Int32) (x4 : Int32) : Option (Int32 × St) := bnd (x4 + 1) fun v1 => k5 S x1 x2 x3 v1
theorem wX0_borders_68 {κ : KT} {g : GT} (C : CX κ g RX0 cX0_borders 6 (some .int) 2 48) (k5 : St → Int32 → Int32 → Int32 → Int32 → Option (Int32 × St)) (hk5 : ∀ (S : St) (x1 : Int32) (x2 : Int32) (x3 : Int32) (x4 : Int32), J κ g 6 (fun a : Int32 × St => (some (Value.int a.1), a.2)) S 5 [(0, .ref (gad g 26)), (1, .int x1), (2, .int x2), (3, .int x3), (4, .int x4)] [] (k5 S x1 x2 x3 x4)) (S : St) (x1 : Int32) (x2 : Int32) (x3 : Int32) (x4 : Int32) : J κ g 6 (fun a : Int32 × St => (some (Value.int a.1), a.2)) S 68 [(0, .ref (gad g 26)), (1, .int x1), (2, .int x2), (3, .int x3), (4, .int x4)] [] (mX0_borders_68 k5 S x1 x2 x3 x4) := by
  unfold mX0_borders_68
  refine j_iinc C (xs2 := fun v1 => [(0, .ref (gad g 26)), (1, .int x1), (2, .int x2), (3, .int x3), (4, .int v1)]) 4 rfl dX0_borders_68 (by decide) (by decide) (fun _ => rfl) (fun v1 => ?_)
  refine j_goto C 5 dX0_borders_71 (by decide) ?_
  exact hk5 S x1 x2 x3 v1
def mX0_borders_5 : Nat → St → Int32 → Int32 → Int32 → Int32 → Option (Int32 × St)
  | 0, _, _, _, _, _ => none
  | n + 1, S, x1, x2, x3, x4 => if 16 ≤ x4 then (some (x3, S))
  else (if ((x1 >>> (x4 &&& 31)) &&& 1) = 1 then ((mJ6_bitCount_0f7a4 x4).bind fun r1 => if r1 = x2 then ((mX0_borderOf x4).bind fun r2 => (mX0_reduce S r2 x3).bind fun r3 => if r3 = 0 then (mX0_borders_68 (mX0_borders_5 n) S x1 x2 x3 x4)
  else (if 16 ≤ x3 then (mX0_borders_68 (mX0_borders_5 n) S x1 x2 x3 x4)
  else (inb 16 x3 fun j4 => bnd (x3 + 1) fun v5 => mX0_borders_68 (mX0_borders_5 n) (sA S 27 j4 r3) x1 x2 v5 x4)))
  else (mX0_borders_68 (mX0_borders_5 n) S x1 x2 x3 x4))
  else (mX0_borders_68 (mX0_borders_5 n) S x1 x2 x3 x4))
theorem wX0_borders_5 {κ : KT} {g : GT} (C : CX κ g RX0 cX0_borders 6 (some .int) 2 48) : ∀ (n : Nat) (S : St) (x1 : Int32) (x2 : Int32) (x3 : Int32) (x4 : Int32), J κ g 6 (fun a : Int32 × St => (some (Value.int a.1), a.2)) S 5 [(0, .ref (gad g 26)), (1, .int x1), (2, .int x2), (3, .int x3), (4, .int x4)] [] (mX0_borders_5 n S x1 x2 x3 x4) := by
  intro n
  induction n with
  | zero => intro S x1 x2 x3 x4; exact j_none
  | succ n ih =>
    intro S x1 x2 x3 x4
    rw [mX0_borders_5]
    refine j_iload C 4 rfl dX0_borders_5 ?_
    refine j_bipush C (v := 16) (by decide) dX0_borders_7 ?_
    refine j_icmp_ge C 74 dX0_borders_9 (by decide) ?_ ?_
    · refine j_iload_n C 3 rfl dX0_borders_74 rfl ?_
      exact j_iret C rfl dX0_borders_75
    · refine j_iload_n C 1 rfl dX0_borders_12 rfl ?_
      refine j_iload C 4 rfl dX0_borders_13 ?_
      refine j_ishr C dX0_borders_15 ?_
      refine j_iconst C (v := 1) (by decide) dX0_borders_16 ?_
      refine j_iand C dX0_borders_17 ?_
      refine j_iconst C (v := 1) (by decide) dX0_borders_18 ?_
      refine j_icmp_ne C 68 dX0_borders_19 (by decide) ?_ ?_
      · exact wX0_borders_68 C (mX0_borders_5 n) ih S x1 x2 x3 x4
      · refine j_iload C 4 rfl dX0_borders_22 ?_
        refine j_callSi C [.int x4] [] ms_X0_38 (fun _ h => ctJ6_bitCount_0f7a4 h) ⟨(Nat.le_of_ble_eq_true rfl), (Nat.le_of_ble_eq_true rfl)⟩ (Nat.le_of_ble_eq_true rfl) dX0_borders_24 rfl (fun r1 => ?_)
        refine j_iload_n C 2 rfl dX0_borders_27 rfl ?_
        refine j_icmp_ne C 68 dX0_borders_28 (by decide) ?_ ?_
        · exact wX0_borders_68 C (mX0_borders_5 n) ih S x1 x2 x3 x4
        · refine j_aload_n C 0 rfl dX0_borders_31 rfl ?_
          refine j_iload C 4 rfl dX0_borders_32 ?_
          refine j_callSi C [.int x4] [.ref (gad g 26)] ms_X0_43 (fun _ h => ctX0_borderOf h) ⟨(Nat.le_of_ble_eq_true rfl), (Nat.le_of_ble_eq_true rfl)⟩ (Nat.le_of_ble_eq_true rfl) dX0_borders_34 rfl (fun r2 => ?_)
          refine j_iload_n C 3 rfl dX0_borders_37 rfl ?_
          refine j_callVi C [.int r2, .int x3] [] mv_X0_46 sh_26 rfl rfl (fun _ h => ctX0_reduce h) ⟨(Nat.le_of_ble_eq_true rfl), (Nat.le_of_ble_eq_true rfl)⟩ (Nat.le_of_ble_eq_true rfl) dX0_borders_38 rfl (fun r3 => ?_)
          refine j_istore C (xs1 := [(0, .ref (gad g 26)), (1, .int x1), (2, .int x2), (3, .int x3), (4, .int x4), (5, .int r3)]) dX0_borders_41 (by decide) rfl ?_
          refine j_iload C 5 rfl dX0_borders_43 ?_
          refine j_if_eq C 68 dX0_borders_45 (by decide) ?_ ?_
          · refine j_sub (xs1 := [(0, .ref (gad g 26)), (1, .int x1), (2, .int x2), (3, .int x3), (4, .int x4)]) [0, 1, 2, 3, 4] rfl ?_
            exact wX0_borders_68 C (mX0_borders_5 n) ih S x1 x2 x3 x4
          · refine j_iload_n C 3 rfl dX0_borders_48 rfl ?_
            refine j_aload_n C 0 rfl dX0_borders_49 rfl ?_
            refine j_getR C (x := 27) fl_X0_11 sh_26 rfl rfl dX0_borders_50 ?_
            refine j_alen0 C (v := 16) sh_27 rfl (by decide) dX0_borders_53 ?_
            refine j_icmp_ge C 68 dX0_borders_54 (by decide) ?_ ?_
            · refine j_sub (xs1 := [(0, .ref (gad g 26)), (1, .int x1), (2, .int x2), (3, .int x3), (4, .int x4)]) [0, 1, 2, 3, 4] rfl ?_
              exact wX0_borders_68 C (mX0_borders_5 n) ih S x1 x2 x3 x4
            · refine j_aload_n C 0 rfl dX0_borders_57 rfl ?_
              refine j_getR C (x := 27) fl_X0_11 sh_26 rfl rfl dX0_borders_58 ?_
              refine j_iload_n C 3 rfl dX0_borders_61 rfl ?_
              refine j_iload C 5 rfl dX0_borders_62 ?_
              refine j_iast C sh_27 rfl dX0_borders_64 (fun j4 => ?_)
              refine j_iinc C (xs2 := fun v5 => [(0, .ref (gad g 26)), (1, .int x1), (2, .int x2), (3, .int v5), (4, .int x4), (5, .int r3)]) 3 rfl dX0_borders_65 (by decide) (by decide) (fun _ => rfl) (fun v5 => ?_)
              refine j_sub (xs1 := [(0, .ref (gad g 26)), (1, .int x1), (2, .int x2), (3, .int v5), (4, .int x4)]) [0, 1, 2, 3, 4] rfl ?_
              exact wX0_borders_68 C (mX0_borders_5 n) ih (sA S 27 j4 r3) x1 x2 v5 x4
def mX0_borders (S : St) (a0 : Int32) (a1 : Int32) : Option (Int32 × St) := mX0_borders_5 FU S a0 a1 0 1
theorem wX0_borders {κ : KT} {g : GT} (C : CX κ g RX0 cX0_borders 6 (some .int) 2 48) (S : St) (a0 : Int32) (a1 : Int32) : J κ g 6 (fun a : Int32 × St => (some (Value.int a.1), a.2)) S 0 [(0, .ref (gad g 26)), (1, .int a0), (2, .int a1)] [] (mX0_borders S a0 a1) := by
  unfold mX0_borders
  refine j_iconst C (v := 0) (by decide) dX0_borders_0 ?_
  refine j_istore_n C (xs1 := [(0, .ref (gad g 26)), (1, .int a0), (2, .int a1), (3, .int 0)]) dX0_borders_1 rfl (by decide) rfl ?_
  refine j_iconst C (v := 1) (by decide) dX0_borders_2 ?_
  refine j_istore C (xs1 := [(0, .ref (gad g 26)), (1, .int a0), (2, .int a1), (3, .int 0), (4, .int 1)]) dX0_borders_3 (by decide) rfl ?_
  exact wX0_borders_5 C FU S a0 a1 0 1
theorem ctX0_borders {l : Launch} {g : GT} {S : St} {a0 : Int32} {a1 : Int32} {out : Int32 × St} (ho : mX0_borders S a0 a1 = some out) : CT l yX0_borders cX0_borders 6 (some .int) 2 48 [.ref (gad g 26), .int a0, .int a1] g S ((fun a : Int32 × St => (some (Value.int a.1), a.2)) out) := CT_of (φ := (fun a : Int32 × St => (some (Value.int a.1), a.2))) [.ref (gad g 26), .int a0, .int a1] ho (by decide) (Nat.le_of_ble_eq_true rfl) (xs := [(0, .ref (gad g 26)), (1, .int a0), (2, .int a1)]) rfl (fun κ C => wX0_borders C S a0 a1)
/-! StairIdeals$Complex.holes(II)I -/
def mX0_holes (S : St) (a0 : Int32) (a1 : Int32) : Option (Int32 × St) := (mX0_sheetsOf a0 a1).bind fun r1 => (mX0_borders S a0 a1).bind fun r2 => (mX0_borders r2.2 a0 (a1 + 1)).bind fun r3 => some ((r1 - r2.1) - r3.1, r3.2)
theorem wX0_holes {κ : KT} {g : GT} (C : CX κ g RX0 cX0_holes 3 (some .int) 3 73) (S : St) (a0 : Int32) (a1 : Int32) : J κ g 3 (fun a : Int32 × St => (some (Value.int a.1), a.2)) S 0 [(0, .ref (gad g 26)), (1, .int a0), (2, .int a1)] [] (mX0_holes S a0 a1) := by
  unfold mX0_holes
  refine j_iload_n C 1 rfl dX0_holes_0 rfl ?_
  refine j_iload_n C 2 rfl dX0_holes_1 rfl ?_
  refine j_callSi C [.int a0, .int a1] [] ms_X0_31 (fun _ h => ctX0_sheetsOf h) ⟨(Nat.le_of_ble_eq_true rfl), (Nat.le_of_ble_eq_true rfl)⟩ (Nat.le_of_ble_eq_true rfl) dX0_holes_2 rfl (fun r1 => ?_)
  refine j_aload_n C 0 rfl dX0_holes_5 rfl ?_
  refine j_iload_n C 1 rfl dX0_holes_6 rfl ?_
  refine j_iload_n C 2 rfl dX0_holes_7 rfl ?_
  refine j_callViS C [.int a0, .int a1] [.int r1] mv_X0_35 sh_26 rfl rfl (fun _ h => ctX0_borders h) ⟨(Nat.le_of_ble_eq_true rfl), (Nat.le_of_ble_eq_true rfl)⟩ (Nat.le_of_ble_eq_true rfl) dX0_holes_8 rfl (fun r2 => ?_)
  refine j_isub C dX0_holes_11 ?_
  refine j_aload_n C 0 rfl dX0_holes_12 rfl ?_
  refine j_iload_n C 1 rfl dX0_holes_13 rfl ?_
  refine j_iload_n C 2 rfl dX0_holes_14 rfl ?_
  refine j_iconst C (v := 1) (by decide) dX0_holes_15 ?_
  refine j_iadd C dX0_holes_16 ?_
  refine j_callViS C [.int a0, .int (a1 + 1)] [.int (r1 - r2.1)] mv_X0_35 sh_26 rfl rfl (fun _ h => ctX0_borders h) ⟨(Nat.le_of_ble_eq_true rfl), (Nat.le_of_ble_eq_true rfl)⟩ (Nat.le_of_ble_eq_true rfl) dX0_holes_17 rfl (fun r3 => ?_)
  refine j_isub C dX0_holes_20 ?_
  exact j_iret C rfl dX0_holes_21
theorem ctX0_holes {l : Launch} {g : GT} {S : St} {a0 : Int32} {a1 : Int32} {out : Int32 × St} (ho : mX0_holes S a0 a1 = some out) : CT l yX0_holes cX0_holes 3 (some .int) 3 73 [.ref (gad g 26), .int a0, .int a1] g S ((fun a : Int32 × St => (some (Value.int a.1), a.2)) out) := CT_of (φ := (fun a : Int32 × St => (some (Value.int a.1), a.2))) [.ref (gad g 26), .int a0, .int a1] ho (by decide) (Nat.le_of_ble_eq_true rfl) (xs := [(0, .ref (gad g 26)), (1, .int a0), (2, .int a1)]) rfl (fun κ C => wX0_holes C S a0 a1)
/-! StairIdeals$Ideal.copyFrom(LStairIdeals$Ideal;)V -/
def mX2_copyFrom (S : St) (n0 : Nat) (n1 : Nat) : Option (St) := some (sI (sAf S (n0 + 1) (va_cpy (gA S (n1 + 1)) (gA S (n0 + 1)) 0 0 40)) n0 1 (gI (sAf S (n0 + 1) (va_cpy (gA S (n1 + 1)) (gA S (n0 + 1)) 0 0 40)) n1 1))
theorem wX2_copyFrom {κ : KT} {g : GT} (C : CX κ g RX2 cX2_copyFrom 2 none 1 100) (S : St) (n0 : Nat) (hn0 : okI g n0) (n1 : Nat) (hn1 : okI g n1) : J κ g 2 (fun a : St => (none, a)) S 0 [(0, .ref (gad g n0)), (1, .ref (gad g n1))] [] (mX2_copyFrom S n0 n1) := by
  unfold mX2_copyFrom
  refine j_aload_n C 1 rfl dX2_copyFrom_0 rfl ?_
  refine j_getR C (x := n1 + 1) fl_X2_9 hn1.1 hn1.2.2.1 rfl dX2_copyFrom_1 ?_
  refine j_iconst C (v := 0) (by decide) dX2_copyFrom_4 ?_
  refine j_aload_n C 0 rfl dX2_copyFrom_5 rfl ?_
  refine j_getR C (x := n0 + 1) fl_X2_9 hn0.1 hn0.2.2.1 rfl dX2_copyFrom_6 ?_
  refine j_iconst C (v := 0) (by decide) dX2_copyFrom_9 ?_
  refine j_bipush C (v := 40) (by decide) dX2_copyFrom_10 ?_
  refine j_copy40 C hn1.2.1 hn0.2.1 hn1.2.2.2 hn0.2.2.2 wd_699 (Nat.le_of_ble_eq_true rfl) (Nat.le_of_ble_eq_true rfl) dX2_copyFrom_12 ?_
  refine j_aload_n C 0 rfl dX2_copyFrom_15 rfl ?_
  refine j_aload_n C 1 rfl dX2_copyFrom_16 rfl ?_
  refine j_getI C fl_X2_21 hn1.1 hn1.2.2.1 rfl dX2_copyFrom_17 ?_
  refine j_putI C fp_X2_21 hn0.1 hn0.2.2.1 rfl rfl rfl dX2_copyFrom_20 ?_
  exact j_vret C rfl dX2_copyFrom_23
theorem ctX2_copyFrom {l : Launch} {g : GT} {S : St} {n0 : Nat} (hn0 : okI g n0) {n1 : Nat} (hn1 : okI g n1) {out : St} (ho : mX2_copyFrom S n0 n1 = some out) : CT l yX2_copyFrom cX2_copyFrom 2 none 1 100 [.ref (gad g n0), .ref (gad g n1)] g S ((fun a : St => (none, a)) out) := CT_of (φ := (fun a : St => (none, a))) [.ref (gad g n0), .ref (gad g n1)] ho (by decide) (Nat.le_of_ble_eq_true rfl) (xs := [(0, .ref (gad g n0)), (1, .ref (gad g n1))]) rfl (fun κ C => wX2_copyFrom C S n0 hn0 n1 hn1)
/-! StairIdeals$Holdings.copyFrom(LStairIdeals$Holdings;)V -/
def mX1_copyFrom_34 (n0 : Nat) (n1 : Nat) : Nat → St → Int32 → Option (St)
  | 0, _, _ => none
  | n + 1, S, x2 => if 12 ≤ x2 then (some S)
  else (inb 12 x2 fun j1 => inb 12 x2 fun j2 => (mX2_copyFrom S (el (n0 + 2) j1) (el (n1 + 2) j2)).bind fun r3 => inb 12 x2 fun j4 => inb 12 x2 fun j5 => bnd (x2 + 1) fun v6 => mX1_copyFrom_34 n0 n1 n (sA r3 (n0 + 3) j5 (gA r3 (n1 + 3) j4)) v6)
theorem wX1_copyFrom_34 {κ : KT} {g : GT} (C : CX κ g RX1 cX1_copyFrom 3 none 2 121) (n0 : Nat) (hn0 : okH g n0) (n1 : Nat) (hn1 : okH g n1) : ∀ (n : Nat) (S : St) (x2 : Int32), J κ g 3 (fun a : St => (none, a)) S 34 [(0, .ref (gad g n0)), (1, .ref (gad g n1)), (2, .int x2)] [] (mX1_copyFrom_34 n0 n1 n S x2) := by
  intro n
  induction n with
  | zero => intro S x2; exact j_none
  | succ n ih =>
    intro S x2
    rw [mX1_copyFrom_34]
    refine j_iload_n C 2 rfl dX1_copyFrom_34 rfl ?_
    refine j_aload_n C 0 rfl dX1_copyFrom_35 rfl ?_
    refine j_getR C (x := n0 + 2) fl_X1_17 hn0.1 hn0.2.2.2.2.1 rfl dX1_copyFrom_36 ?_
    refine j_alen2 C (v := 12) hn0.2.2.1 hn0.2.2.2.2.2.2.1 (by decide) dX1_copyFrom_39 ?_
    refine j_icmp_ge C 76 dX1_copyFrom_40 (by decide) ?_ ?_
    · exact j_vret C rfl dX1_copyFrom_76
    · refine j_aload_n C 0 rfl dX1_copyFrom_43 rfl ?_
      refine j_getR C (x := n0 + 2) fl_X1_17 hn0.1 hn0.2.2.2.2.1 rfl dX1_copyFrom_44 ?_
      refine j_iload_n C 2 rfl dX1_copyFrom_47 rfl ?_
      refine j_aald2 C hn0.2.2.1 hn0.2.2.2.2.2.2.1 dX1_copyFrom_48 (fun j1 hj1 => ?_)
      refine j_aload_n C 1 rfl dX1_copyFrom_49 rfl ?_
      refine j_getR C (x := n1 + 2) fl_X1_17 hn1.1 hn1.2.2.2.2.1 rfl dX1_copyFrom_50 ?_
      refine j_iload_n C 2 rfl dX1_copyFrom_53 rfl ?_
      refine j_aald2 C hn1.2.2.1 hn1.2.2.2.2.2.2.1 dX1_copyFrom_54 (fun j2 hj2 => ?_)
      refine j_callVvS C [.ref (gad g (el (n1 + 2) j2))] [] mv_X1_25 (hn0.2.2.2.2.2.2.2.2.2 j1 hj1).1 (hn0.2.2.2.2.2.2.2.2.2 j1 hj1).2.2.1 rfl (fun _ h => ctX2_copyFrom (hn0.2.2.2.2.2.2.2.2.2 j1 hj1) (hn1.2.2.2.2.2.2.2.2.2 j2 hj2) h) ⟨(Nat.le_of_ble_eq_true rfl), (Nat.le_of_ble_eq_true rfl)⟩ (Nat.le_of_ble_eq_true rfl) dX1_copyFrom_55 rfl (fun r3 => ?_)
      refine j_aload_n C 0 rfl dX1_copyFrom_58 rfl ?_
      refine j_getR C (x := n0 + 3) fl_X1_20 hn0.1 hn0.2.2.2.2.1 rfl dX1_copyFrom_59 ?_
      refine j_iload_n C 2 rfl dX1_copyFrom_62 rfl ?_
      refine j_aload_n C 1 rfl dX1_copyFrom_63 rfl ?_
      refine j_getR C (x := n1 + 3) fl_X1_20 hn1.1 hn1.2.2.2.2.1 rfl dX1_copyFrom_64 ?_
      refine j_iload_n C 2 rfl dX1_copyFrom_67 rfl ?_
      refine j_iald C hn1.2.2.2.1 hn1.2.2.2.2.2.2.2.1 dX1_copyFrom_68 (fun j4 => ?_)
      refine j_iast C hn0.2.2.2.1 hn0.2.2.2.2.2.2.2.1 dX1_copyFrom_69 (fun j5 => ?_)
      refine j_iinc C (xs2 := fun v6 => [(0, .ref (gad g n0)), (1, .ref (gad g n1)), (2, .int v6)]) 2 rfl dX1_copyFrom_70 (by decide) (by decide) (fun _ => rfl) (fun v6 => ?_)
      refine j_goto C 34 dX1_copyFrom_73 (by decide) ?_
      exact ih (sA r3 (n0 + 3) j5 (gA r3 (n1 + 3) j4)) v6
def mX1_copyFrom_2 (n0 : Nat) (n1 : Nat) : Nat → St → Int32 → Option (St)
  | 0, _, _ => none
  | n + 1, S, x2 => if 4 ≤ x2 then (mX1_copyFrom_34 n0 n1 FU S 0)
  else (inb 4 x2 fun j1 => inb 4 x2 fun j2 => (mX2_copyFrom S (el (n0 + 1) j1) (el (n1 + 1) j2)).bind fun r3 => bnd (x2 + 1) fun v4 => mX1_copyFrom_2 n0 n1 n r3 v4)
theorem wX1_copyFrom_2 {κ : KT} {g : GT} (C : CX κ g RX1 cX1_copyFrom 3 none 2 121) (n0 : Nat) (hn0 : okH g n0) (n1 : Nat) (hn1 : okH g n1) : ∀ (n : Nat) (S : St) (x2 : Int32), J κ g 3 (fun a : St => (none, a)) S 2 [(0, .ref (gad g n0)), (1, .ref (gad g n1)), (2, .int x2)] [] (mX1_copyFrom_2 n0 n1 n S x2) := by
  intro n
  induction n with
  | zero => intro S x2; exact j_none
  | succ n ih =>
    intro S x2
    rw [mX1_copyFrom_2]
    refine j_iload_n C 2 rfl dX1_copyFrom_2 rfl ?_
    refine j_aload_n C 0 rfl dX1_copyFrom_3 rfl ?_
    refine j_getR C (x := n0 + 1) fl_X1_11 hn0.1 hn0.2.2.2.2.1 rfl dX1_copyFrom_4 ?_
    refine j_alen2 C (v := 4) hn0.2.1 hn0.2.2.2.2.2.1 (by decide) dX1_copyFrom_7 ?_
    refine j_icmp_ge C 32 dX1_copyFrom_8 (by decide) ?_ ?_
    · refine j_iconst C (v := 0) (by decide) dX1_copyFrom_32 ?_
      refine j_istore_n C (xs1 := [(0, .ref (gad g n0)), (1, .ref (gad g n1)), (2, .int 0)]) dX1_copyFrom_33 rfl (by decide) rfl ?_
      exact wX1_copyFrom_34 C n0 hn0 n1 hn1 FU S 0
    · refine j_aload_n C 0 rfl dX1_copyFrom_11 rfl ?_
      refine j_getR C (x := n0 + 1) fl_X1_11 hn0.1 hn0.2.2.2.2.1 rfl dX1_copyFrom_12 ?_
      refine j_iload_n C 2 rfl dX1_copyFrom_15 rfl ?_
      refine j_aald2 C hn0.2.1 hn0.2.2.2.2.2.1 dX1_copyFrom_16 (fun j1 hj1 => ?_)
      refine j_aload_n C 1 rfl dX1_copyFrom_17 rfl ?_
      refine j_getR C (x := n1 + 1) fl_X1_11 hn1.1 hn1.2.2.2.2.1 rfl dX1_copyFrom_18 ?_
      refine j_iload_n C 2 rfl dX1_copyFrom_21 rfl ?_
      refine j_aald2 C hn1.2.1 hn1.2.2.2.2.2.1 dX1_copyFrom_22 (fun j2 hj2 => ?_)
      refine j_callVvS C [.ref (gad g (el (n1 + 1) j2))] [] mv_X1_25 (hn0.2.2.2.2.2.2.2.2.1 j1 hj1).1 (hn0.2.2.2.2.2.2.2.2.1 j1 hj1).2.2.1 rfl (fun _ h => ctX2_copyFrom (hn0.2.2.2.2.2.2.2.2.1 j1 hj1) (hn1.2.2.2.2.2.2.2.2.1 j2 hj2) h) ⟨(Nat.le_of_ble_eq_true rfl), (Nat.le_of_ble_eq_true rfl)⟩ (Nat.le_of_ble_eq_true rfl) dX1_copyFrom_23 rfl (fun r3 => ?_)
      refine j_iinc C (xs2 := fun v4 => [(0, .ref (gad g n0)), (1, .ref (gad g n1)), (2, .int v4)]) 2 rfl dX1_copyFrom_26 (by decide) (by decide) (fun _ => rfl) (fun v4 => ?_)
      refine j_goto C 2 dX1_copyFrom_29 (by decide) ?_
      exact ih r3 v4
def mX1_copyFrom (S : St) (n0 : Nat) (n1 : Nat) : Option (St) := mX1_copyFrom_2 n0 n1 FU S 0
theorem wX1_copyFrom {κ : KT} {g : GT} (C : CX κ g RX1 cX1_copyFrom 3 none 2 121) (S : St) (n0 : Nat) (hn0 : okH g n0) (n1 : Nat) (hn1 : okH g n1) : J κ g 3 (fun a : St => (none, a)) S 0 [(0, .ref (gad g n0)), (1, .ref (gad g n1))] [] (mX1_copyFrom S n0 n1) := by
  unfold mX1_copyFrom
  refine j_iconst C (v := 0) (by decide) dX1_copyFrom_0 ?_
  refine j_istore_n C (xs1 := [(0, .ref (gad g n0)), (1, .ref (gad g n1)), (2, .int 0)]) dX1_copyFrom_1 rfl (by decide) rfl ?_
  exact wX1_copyFrom_2 C n0 hn0 n1 hn1 FU S 0
theorem ctX1_copyFrom {l : Launch} {g : GT} {S : St} {n0 : Nat} (hn0 : okH g n0) {n1 : Nat} (hn1 : okH g n1) {out : St} (ho : mX1_copyFrom S n0 n1 = some out) : CT l yX1_copyFrom cX1_copyFrom 3 none 2 121 [.ref (gad g n0), .ref (gad g n1)] g S ((fun a : St => (none, a)) out) := CT_of (φ := (fun a : St => (none, a))) [.ref (gad g n0), .ref (gad g n1)] ho (by decide) (Nat.le_of_ble_eq_true rfl) (xs := [(0, .ref (gad g n0)), (1, .ref (gad g n1))]) rfl (fun κ C => wX1_copyFrom C S n0 hn0 n1 hn1)
/-! StairIdeals$Ideal.contains(I)Z -/
def mX2_contains_2 (S : St) (n0 : Nat) : Nat → Int32 → Int32 → Option (Int32)
  | 0, _, _ => none
  | n + 1, x1, x2 => if (gI S n0 1) ≤ x2 then (some 0)
  else (inb 40 x2 fun j1 => (mX3_divides (gA S (n0 + 1) j1) x1).bind fun r2 => if r2 = 0 then (bnd (x2 + 1) fun v3 => mX2_contains_2 S n0 n x1 v3)
  else (some 1))
theorem wX2_contains_2 {κ : KT} {g : GT} (C : CX κ g RX2 cX2_contains 3 (some .boolean) 1 21) (S : St) (n0 : Nat) (hn0 : okI g n0) : ∀ (n : Nat) (x1 : Int32) (x2 : Int32), J κ g 3 (fun a : Int32 => (some (Value.int a), S)) S 2 [(0, .ref (gad g n0)), (1, .int x1), (2, .int x2)] [] (mX2_contains_2 S n0 n x1 x2) := by
  intro n
  induction n with
  | zero => intro x1 x2; exact j_none
  | succ n ih =>
    intro x1 x2
    rw [mX2_contains_2]
    refine j_iload_n C 2 rfl dX2_contains_2 rfl ?_
    refine j_aload_n C 0 rfl dX2_contains_3 rfl ?_
    refine j_getI C fl_X2_21 hn0.1 hn0.2.2.1 rfl dX2_contains_4 ?_
    refine j_icmp_ge C 31 dX2_contains_7 (by decide) ?_ ?_
    · refine j_iconst C (v := 0) (by decide) dX2_contains_31 ?_
      exact j_zret C rfl rfl dX2_contains_32
    · refine j_aload_n C 0 rfl dX2_contains_10 rfl ?_
      refine j_getR C (x := n0 + 1) fl_X2_9 hn0.1 hn0.2.2.1 rfl dX2_contains_11 ?_
      refine j_iload_n C 2 rfl dX2_contains_14 rfl ?_
      refine j_iald C hn0.2.1 hn0.2.2.2 dX2_contains_15 (fun j1 => ?_)
      refine j_iload_n C 1 rfl dX2_contains_16 rfl ?_
      refine j_callSi C [.int (gA S (n0 + 1) j1), .int x1] [] ms_X2_25 (fun _ h => ctX3_divides h) ⟨(Nat.le_of_ble_eq_true rfl), (Nat.le_of_ble_eq_true rfl)⟩ (Nat.le_of_ble_eq_true rfl) dX2_contains_17 rfl (fun r2 => ?_)
      refine j_if_eq C 25 dX2_contains_20 (by decide) ?_ ?_
      · refine j_iinc C (xs2 := fun v3 => [(0, .ref (gad g n0)), (1, .int x1), (2, .int v3)]) 2 rfl dX2_contains_25 (by decide) (by decide) (fun _ => rfl) (fun v3 => ?_)
        refine j_goto C 2 dX2_contains_28 (by decide) ?_
        exact ih x1 v3
      · refine j_iconst C (v := 1) (by decide) dX2_contains_23 ?_
        exact j_zret C rfl rfl dX2_contains_24
def mX2_contains (S : St) (n0 : Nat) (a0 : Int32) : Option (Int32) := mX2_contains_2 S n0 FU a0 0
theorem wX2_contains {κ : KT} {g : GT} (C : CX κ g RX2 cX2_contains 3 (some .boolean) 1 21) (S : St) (n0 : Nat) (hn0 : okI g n0) (a0 : Int32) : J κ g 3 (fun a : Int32 => (some (Value.int a), S)) S 0 [(0, .ref (gad g n0)), (1, .int a0)] [] (mX2_contains S n0 a0) := by
  unfold mX2_contains
  refine j_iconst C (v := 0) (by decide) dX2_contains_0 ?_
  refine j_istore_n C (xs1 := [(0, .ref (gad g n0)), (1, .int a0), (2, .int 0)]) dX2_contains_1 rfl (by decide) rfl ?_
  exact wX2_contains_2 C S n0 hn0 FU a0 0
theorem ctX2_contains {l : Launch} {g : GT} {S : St} {n0 : Nat} (hn0 : okI g n0) {a0 : Int32} {out : Int32} (ho : mX2_contains S n0 a0 = some out) : CT l yX2_contains cX2_contains 3 (some .boolean) 1 21 [.ref (gad g n0), .int a0] g S ((fun a : Int32 => (some (Value.int a), S)) out) := CT_of (φ := (fun a : Int32 => (some (Value.int a), S))) [.ref (gad g n0), .int a0] ho (by decide) (Nat.le_of_ble_eq_true rfl) (xs := [(0, .ref (gad g n0)), (1, .int a0)]) rfl (fun κ C => wX2_contains C S n0 hn0 a0)
/-! StairIdeals$Ideal.isWithin(LStairIdeals$Ideal;)Z -/
def mX2_isWithin_2 (S : St) (n0 : Nat) (n1 : Nat) : Nat → Int32 → Option (Int32)
  | 0, _ => none
  | n + 1, x2 => if (gI S n0 1) ≤ x2 then (some 1)
  else (inb 40 x2 fun j1 => (mX2_contains S n1 (gA S (n0 + 1) j1)).bind fun r2 => if r2 = 0 then (some 0)
  else (bnd (x2 + 1) fun v3 => mX2_isWithin_2 S n0 n1 n v3))
theorem wX2_isWithin_2 {κ : KT} {g : GT} (C : CX κ g RX2 cX2_isWithin 3 (some .boolean) 2 43) (S : St) (n0 : Nat) (hn0 : okI g n0) (n1 : Nat) (hn1 : okI g n1) : ∀ (n : Nat) (x2 : Int32), J κ g 3 (fun a : Int32 => (some (Value.int a), S)) S 2 [(0, .ref (gad g n0)), (1, .ref (gad g n1)), (2, .int x2)] [] (mX2_isWithin_2 S n0 n1 n x2) := by
  intro n
  induction n with
  | zero => intro x2; exact j_none
  | succ n ih =>
    intro x2
    rw [mX2_isWithin_2]
    refine j_iload_n C 2 rfl dX2_isWithin_2 rfl ?_
    refine j_aload_n C 0 rfl dX2_isWithin_3 rfl ?_
    refine j_getI C fl_X2_21 hn0.1 hn0.2.2.1 rfl dX2_isWithin_4 ?_
    refine j_icmp_ge C 31 dX2_isWithin_7 (by decide) ?_ ?_
    · refine j_iconst C (v := 1) (by decide) dX2_isWithin_31 ?_
      exact j_zret C rfl rfl dX2_isWithin_32
    · refine j_aload_n C 1 rfl dX2_isWithin_10 rfl ?_
      refine j_aload_n C 0 rfl dX2_isWithin_11 rfl ?_
      refine j_getR C (x := n0 + 1) fl_X2_9 hn0.1 hn0.2.2.1 rfl dX2_isWithin_12 ?_
      refine j_iload_n C 2 rfl dX2_isWithin_15 rfl ?_
      refine j_iald C hn0.2.1 hn0.2.2.2 dX2_isWithin_16 (fun j1 => ?_)
      refine j_callVi C [.int (gA S (n0 + 1) j1)] [] mv_X2_31 hn1.1 hn1.2.2.1 rfl (fun _ h => ctX2_contains hn1 h) ⟨(Nat.le_of_ble_eq_true rfl), (Nat.le_of_ble_eq_true rfl)⟩ (Nat.le_of_ble_eq_true rfl) dX2_isWithin_17 rfl (fun r2 => ?_)
      refine j_if_ne C 25 dX2_isWithin_20 (by decide) ?_ ?_
      · refine j_iinc C (xs2 := fun v3 => [(0, .ref (gad g n0)), (1, .ref (gad g n1)), (2, .int v3)]) 2 rfl dX2_isWithin_25 (by decide) (by decide) (fun _ => rfl) (fun v3 => ?_)
        refine j_goto C 2 dX2_isWithin_28 (by decide) ?_
        exact ih v3
      · refine j_iconst C (v := 0) (by decide) dX2_isWithin_23 ?_
        exact j_zret C rfl rfl dX2_isWithin_24
def mX2_isWithin (S : St) (n0 : Nat) (n1 : Nat) : Option (Int32) := mX2_isWithin_2 S n0 n1 FU 0
theorem wX2_isWithin {κ : KT} {g : GT} (C : CX κ g RX2 cX2_isWithin 3 (some .boolean) 2 43) (S : St) (n0 : Nat) (hn0 : okI g n0) (n1 : Nat) (hn1 : okI g n1) : J κ g 3 (fun a : Int32 => (some (Value.int a), S)) S 0 [(0, .ref (gad g n0)), (1, .ref (gad g n1))] [] (mX2_isWithin S n0 n1) := by
  unfold mX2_isWithin
  refine j_iconst C (v := 0) (by decide) dX2_isWithin_0 ?_
  refine j_istore_n C (xs1 := [(0, .ref (gad g n0)), (1, .ref (gad g n1)), (2, .int 0)]) dX2_isWithin_1 rfl (by decide) rfl ?_
  exact wX2_isWithin_2 C S n0 hn0 n1 hn1 FU 0
theorem ctX2_isWithin {l : Launch} {g : GT} {S : St} {n0 : Nat} (hn0 : okI g n0) {n1 : Nat} (hn1 : okI g n1) {out : Int32} (ho : mX2_isWithin S n0 n1 = some out) : CT l yX2_isWithin cX2_isWithin 3 (some .boolean) 2 43 [.ref (gad g n0), .ref (gad g n1)] g S ((fun a : Int32 => (some (Value.int a), S)) out) := CT_of (φ := (fun a : Int32 => (some (Value.int a), S))) [.ref (gad g n0), .ref (gad g n1)] ho (by decide) (Nat.le_of_ble_eq_true rfl) (xs := [(0, .ref (gad g n0)), (1, .ref (gad g n1))]) rfl (fun κ C => wX2_isWithin C S n0 hn0 n1 hn1)
/-! StairIdeals$Monomial.support(I)I -/
def mX3_support_23 (k4 : Int32 → Int32 → Int32 → Option (Int32)) (x0 : Int32) (x1 : Int32) (x2 : Int32) : Option (Int32) := bnd (x2 + 1) fun v1 => k4 x0 x1 v1
theorem wX3_support_23 {κ : KT} {g : GT} (C : CX κ g RX3 cX3_support 3 (some .int) 1 21) (S : St) (k4 : Int32 → Int32 → Int32 → Option (Int32)) (hk4 : ∀ (x0 : Int32) (x1 : Int32) (x2 : Int32), J κ g 3 (fun a : Int32 => (some (Value.int a), S)) S 4 [(0, .int x0), (1, .int x1), (2, .int x2)] [] (k4 x0 x1 x2)) (x0 : Int32) (x1 : Int32) (x2 : Int32) : J κ g 3 (fun a : Int32 => (some (Value.int a), S)) S 23 [(0, .int x0), (1, .int x1), (2, .int x2)] [] (mX3_support_23 k4 x0 x1 x2) := by
  unfold mX3_support_23
  refine j_iinc C (xs2 := fun v1 => [(0, .int x0), (1, .int x1), (2, .int v1)]) 2 rfl dX3_support_23 (by decide) (by decide) (fun _ => rfl) (fun v1 => ?_)
  refine j_goto C 4 dX3_support_26 (by decide) ?_
  exact hk4 x0 x1 v1
def mX3_support_4 : Nat → Int32 → Int32 → Int32 → Option (Int32)
  | 0, _, _, _ => none
  | n + 1, x0, x1, x2 => if 4 ≤ x2 then (some x1)
  else ((mX3_exponent x0 x2).bind fun r1 => if r1 ≤ 0 then (mX3_support_23 (mX3_support_4 n) x0 x1 x2)
  else (bnd (x1 ||| ((1 : Int32) <<< (x2 &&& 31))) fun v2 => mX3_support_23 (mX3_support_4 n) x0 v2 x2))
theorem wX3_support_4 {κ : KT} {g : GT} (C : CX κ g RX3 cX3_support 3 (some .int) 1 21) (S : St) : ∀ (n : Nat) (x0 : Int32) (x1 : Int32) (x2 : Int32), J κ g 3 (fun a : Int32 => (some (Value.int a), S)) S 4 [(0, .int x0), (1, .int x1), (2, .int x2)] [] (mX3_support_4 n x0 x1 x2) := by
  intro n
  induction n with
  | zero => intro x0 x1 x2; exact j_none
  | succ n ih =>
    intro x0 x1 x2
    rw [mX3_support_4]
    refine j_iload_n C 2 rfl dX3_support_4 rfl ?_
    refine j_iconst C (v := 4) (by decide) dX3_support_5 ?_
    refine j_icmp_ge C 29 dX3_support_6 (by decide) ?_ ?_
    · refine j_iload_n C 1 rfl dX3_support_29 rfl ?_
      exact j_iret C rfl dX3_support_30
    · refine j_iload_n C 0 rfl dX3_support_9 rfl ?_
      refine j_iload_n C 2 rfl dX3_support_10 rfl ?_
      refine j_callSi C [.int x0, .int x2] [] ms_X3_9 (fun _ h => ctX3_exponent h) ⟨(Nat.le_of_ble_eq_true rfl), (Nat.le_of_ble_eq_true rfl)⟩ (Nat.le_of_ble_eq_true rfl) dX3_support_11 rfl (fun r1 => ?_)
      refine j_if_le C 23 dX3_support_14 (by decide) ?_ ?_
      · exact wX3_support_23 C S (mX3_support_4 n) ih x0 x1 x2
      · refine j_iload_n C 1 rfl dX3_support_17 rfl ?_
        refine j_iconst C (v := 1) (by decide) dX3_support_18 ?_
        refine j_iload_n C 2 rfl dX3_support_19 rfl ?_
        refine j_ishl C dX3_support_20 ?_
        refine j_ior C dX3_support_21 ?_
        refine j_topi (fun v2 => ?_)
        refine j_istore_n C (xs1 := [(0, .int x0), (1, .int v2), (2, .int x2)]) dX3_support_22 rfl (by decide) rfl ?_
        exact wX3_support_23 C S (mX3_support_4 n) ih x0 v2 x2
def mX3_support (a0 : Int32) : Option (Int32) := mX3_support_4 FU a0 0 0
theorem wX3_support {κ : KT} {g : GT} (C : CX κ g RX3 cX3_support 3 (some .int) 1 21) (S : St) (a0 : Int32) : J κ g 3 (fun a : Int32 => (some (Value.int a), S)) S 0 [(0, .int a0)] [] (mX3_support a0) := by
  unfold mX3_support
  refine j_iconst C (v := 0) (by decide) dX3_support_0 ?_
  refine j_istore_n C (xs1 := [(0, .int a0), (1, .int 0)]) dX3_support_1 rfl (by decide) rfl ?_
  refine j_iconst C (v := 0) (by decide) dX3_support_2 ?_
  refine j_istore_n C (xs1 := [(0, .int a0), (1, .int 0), (2, .int 0)]) dX3_support_3 rfl (by decide) rfl ?_
  exact wX3_support_4 C S FU a0 0 0
theorem ctX3_support {l : Launch} {g : GT} {S : St} {a0 : Int32} {out : Int32} (ho : mX3_support a0 = some out) : CT l yX3_support cX3_support 3 (some .int) 1 21 [.int a0] g S ((fun a : Int32 => (some (Value.int a), S)) out) := CT_of (φ := (fun a : Int32 => (some (Value.int a), S))) [.int a0] ho (by decide) (Nat.le_of_ble_eq_true rfl) (xs := [(0, .int a0)]) rfl (fun κ C => wX3_support C S a0)
/-! StairIdeals$Ideal.isCommonMultiple(I)Z -/
def mX2_isCommonMultiple_56 (S : St) (n0 : Nat) (x2 : Int32) : Option (Int32) := if x2 = 15 then (some 1)
  else (some 0)
theorem wX2_isCommonMultiple_56 {κ : KT} {g : GT} (C : CX κ g RX2 cX2_isCommonMultiple 4 (some .boolean) 2 43) (S : St) (n0 : Nat) (hn0 : okI g n0) (x2 : Int32) : J κ g 4 (fun a : Int32 => (some (Value.int a), S)) S 56 [(2, .int x2)] [] (mX2_isCommonMultiple_56 S n0 x2) := by
  unfold mX2_isCommonMultiple_56
  refine j_iload_n C 0 rfl dX2_isCommonMultiple_56 rfl ?_
  refine j_bipush C (v := 15) (by decide) dX2_isCommonMultiple_57 ?_
  refine j_icmp_ne C 66 dX2_isCommonMultiple_59 (by decide) ?_ ?_
  · refine j_iconst C (v := 0) (by decide) dX2_isCommonMultiple_66 ?_
    exact j_zret C rfl rfl dX2_isCommonMultiple_67
  · refine j_iconst C (v := 1) (by decide) dX2_isCommonMultiple_62 ?_
    refine j_goto C 67 dX2_isCommonMultiple_63 (by decide) ?_
    exact j_zret C rfl rfl dX2_isCommonMultiple_67
def mX2_isCommonMultiple_50 (S : St) (n0 : Nat) (k4 : Int32 → Int32 → Int32 → Option (Int32)) (x1 : Int32) (x2 : Int32) (x3 : Int32) : Option (Int32) := bnd (x3 + 1) fun v1 => k4 x1 x2 v1
theorem wX2_isCommonMultiple_50 {κ : KT} {g : GT} (C : CX κ g RX2 cX2_isCommonMultiple 4 (some .boolean) 2 43) (S : St) (n0 : Nat) (hn0 : okI g n0) (k4 : Int32 → Int32 → Int32 → Option (Int32)) (hk4 : ∀ (x1 : Int32) (x2 : Int32) (x3 : Int32), J κ g 4 (fun a : Int32 => (some (Value.int a), S)) S 4 [(0, .ref (gad g n0)), (1, .int x1), (2, .int x2), (3, .int x3)] [] (k4 x1 x2 x3)) (x1 : Int32) (x2 : Int32) (x3 : Int32) : J κ g 4 (fun a : Int32 => (some (Value.int a), S)) S 50 [(0, .ref (gad g n0)), (1, .int x1), (2, .int x2), (3, .int x3)] [] (mX2_isCommonMultiple_50 S n0 k4 x1 x2 x3) := by
  unfold mX2_isCommonMultiple_50
  refine j_iinc C (xs2 := fun v1 => [(0, .ref (gad g n0)), (1, .int x1), (2, .int x2), (3, .int v1)]) 3 rfl dX2_isCommonMultiple_50 (by decide) (by decide) (fun _ => rfl) (fun v1 => ?_)
  refine j_goto C 4 dX2_isCommonMultiple_53 (by decide) ?_
  exact hk4 x1 x2 v1
def mX2_isCommonMultiple_4 (S : St) (n0 : Nat) : Nat → Int32 → Int32 → Int32 → Option (Int32)
  | 0, _, _, _ => none
  | n + 1, x1, x2, x3 => if (gI S n0 1) ≤ x3 then (mX2_isCommonMultiple_56 S n0 x2)
  else (if x2 = 15 then (mX2_isCommonMultiple_56 S n0 x2)
  else (inb 40 x3 fun j1 => (mX3_divides (gA S (n0 + 1) j1) x1).bind fun r2 => if r2 = 0 then (mX2_isCommonMultiple_50 S n0 (mX2_isCommonMultiple_4 S n0 n) x1 x2 x3)
  else (inb 40 x3 fun j3 => (mX3_support (x1 - (gA S (n0 + 1) j3))).bind fun r4 => bnd (x2 ||| (15 &&& (r4 ^^^ (-1)))) fun v5 => mX2_isCommonMultiple_50 S n0 (mX2_isCommonMultiple_4 S n0 n) x1 v5 x3)))
theorem wX2_isCommonMultiple_4 {κ : KT} {g : GT} (C : CX κ g RX2 cX2_isCommonMultiple 4 (some .boolean) 2 43) (S : St) (n0 : Nat) (hn0 : okI g n0) : ∀ (n : Nat) (x1 : Int32) (x2 : Int32) (x3 : Int32), J κ g 4 (fun a : Int32 => (some (Value.int a), S)) S 4 [(0, .ref (gad g n0)), (1, .int x1), (2, .int x2), (3, .int x3)] [] (mX2_isCommonMultiple_4 S n0 n x1 x2 x3) := by
  intro n
  induction n with
  | zero => intro x1 x2 x3; exact j_none
  | succ n ih =>
    intro x1 x2 x3
    rw [mX2_isCommonMultiple_4]
    refine j_iload_n C 3 rfl dX2_isCommonMultiple_4 rfl ?_
    refine j_aload_n C 0 rfl dX2_isCommonMultiple_5 rfl ?_
    refine j_getI C fl_X2_21 hn0.1 hn0.2.2.1 rfl dX2_isCommonMultiple_6 ?_
    refine j_icmp_ge C 56 dX2_isCommonMultiple_9 (by decide) ?_ ?_
    · refine j_sub (xs1 := [(2, .int x2)]) [2] rfl ?_
      exact wX2_isCommonMultiple_56 C S n0 hn0 x2
    · refine j_iload_n C 2 rfl dX2_isCommonMultiple_12 rfl ?_
      refine j_bipush C (v := 15) (by decide) dX2_isCommonMultiple_13 ?_
      refine j_icmp_eq C 56 dX2_isCommonMultiple_15 (by decide) ?_ ?_
      · refine j_sub (xs1 := [(2, .int x2)]) [2] rfl ?_
        exact wX2_isCommonMultiple_56 C S n0 hn0 x2
      · refine j_aload_n C 0 rfl dX2_isCommonMultiple_18 rfl ?_
        refine j_getR C (x := n0 + 1) fl_X2_9 hn0.1 hn0.2.2.1 rfl dX2_isCommonMultiple_19 ?_
        refine j_iload_n C 3 rfl dX2_isCommonMultiple_22 rfl ?_
        refine j_iald C hn0.2.1 hn0.2.2.2 dX2_isCommonMultiple_23 (fun j1 => ?_)
        refine j_iload_n C 1 rfl dX2_isCommonMultiple_24 rfl ?_
        refine j_callSi C [.int (gA S (n0 + 1) j1), .int x1] [] ms_X2_25 (fun _ h => ctX3_divides h) ⟨(Nat.le_of_ble_eq_true rfl), (Nat.le_of_ble_eq_true rfl)⟩ (Nat.le_of_ble_eq_true rfl) dX2_isCommonMultiple_25 rfl (fun r2 => ?_)
        refine j_if_eq C 50 dX2_isCommonMultiple_28 (by decide) ?_ ?_
        · exact wX2_isCommonMultiple_50 C S n0 hn0 (mX2_isCommonMultiple_4 S n0 n) ih x1 x2 x3
        · refine j_iload_n C 2 rfl dX2_isCommonMultiple_31 rfl ?_
          refine j_bipush C (v := 15) (by decide) dX2_isCommonMultiple_32 ?_
          refine j_iload_n C 1 rfl dX2_isCommonMultiple_34 rfl ?_
          refine j_aload_n C 0 rfl dX2_isCommonMultiple_35 rfl ?_
          refine j_getR C (x := n0 + 1) fl_X2_9 hn0.1 hn0.2.2.1 rfl dX2_isCommonMultiple_36 ?_
          refine j_iload_n C 3 rfl dX2_isCommonMultiple_39 rfl ?_
          refine j_iald C hn0.2.1 hn0.2.2.2 dX2_isCommonMultiple_40 (fun j3 => ?_)
          refine j_isub C dX2_isCommonMultiple_41 ?_
          refine j_callSi C [.int (x1 - (gA S (n0 + 1) j3))] [.int 15, .int x2] ms_X2_35 (fun _ h => ctX3_support h) ⟨(Nat.le_of_ble_eq_true rfl), (Nat.le_of_ble_eq_true rfl)⟩ (Nat.le_of_ble_eq_true rfl) dX2_isCommonMultiple_42 rfl (fun r4 => ?_)
          refine j_iconst C (v := (-1)) (by decide) dX2_isCommonMultiple_45 ?_
          refine j_ixor C dX2_isCommonMultiple_46 ?_
          refine j_iand C dX2_isCommonMultiple_47 ?_
          refine j_ior C dX2_isCommonMultiple_48 ?_
          refine j_topi (fun v5 => ?_)
          refine j_istore_n C (xs1 := [(0, .ref (gad g n0)), (1, .int x1), (2, .int v5), (3, .int x3)]) dX2_isCommonMultiple_49 rfl (by decide) rfl ?_
          exact wX2_isCommonMultiple_50 C S n0 hn0 (mX2_isCommonMultiple_4 S n0 n) ih x1 v5 x3
def mX2_isCommonMultiple (S : St) (n0 : Nat) (a0 : Int32) : Option (Int32) := mX2_isCommonMultiple_4 S n0 FU a0 0 0
theorem wX2_isCommonMultiple {κ : KT} {g : GT} (C : CX κ g RX2 cX2_isCommonMultiple 4 (some .boolean) 2 43) (S : St) (n0 : Nat) (hn0 : okI g n0) (a0 : Int32) : J κ g 4 (fun a : Int32 => (some (Value.int a), S)) S 0 [(0, .ref (gad g n0)), (1, .int a0)] [] (mX2_isCommonMultiple S n0 a0) := by
  unfold mX2_isCommonMultiple
  refine j_iconst C (v := 0) (by decide) dX2_isCommonMultiple_0 ?_
  refine j_istore_n C (xs1 := [(0, .ref (gad g n0)), (1, .int a0), (2, .int 0)]) dX2_isCommonMultiple_1 rfl (by decide) rfl ?_
  refine j_iconst C (v := 0) (by decide) dX2_isCommonMultiple_2 ?_
  refine j_istore_n C (xs1 := [(0, .ref (gad g n0)), (1, .int a0), (2, .int 0), (3, .int 0)]) dX2_isCommonMultiple_3 rfl (by decide) rfl ?_
  exact wX2_isCommonMultiple_4 C S n0 hn0 FU a0 0 0
theorem ctX2_isCommonMultiple {l : Launch} {g : GT} {S : St} {n0 : Nat} (hn0 : okI g n0) {a0 : Int32} {out : Int32} (ho : mX2_isCommonMultiple S n0 a0 = some out) : CT l yX2_isCommonMultiple cX2_isCommonMultiple 4 (some .boolean) 2 43 [.ref (gad g n0), .int a0] g S ((fun a : Int32 => (some (Value.int a), S)) out) := CT_of (φ := (fun a : Int32 => (some (Value.int a), S))) [.ref (gad g n0), .int a0] ho (by decide) (Nat.le_of_ble_eq_true rfl) (xs := [(0, .ref (gad g n0)), (1, .int a0)]) rfl (fun κ C => wX2_isCommonMultiple C S n0 hn0 a0)
/-! StairIdeals$Ideal.allDivide(I)Z -/
def mX2_allDivide_2 (S : St) (n0 : Nat) : Nat → Int32 → Int32 → Option (Int32)
  | 0, _, _ => none
  | n + 1, x1, x2 => if (gI S n0 1) ≤ x2 then (some 1)
  else (inb 40 x2 fun j1 => (mX3_divides (gA S (n0 + 1) j1) x1).bind fun r2 => if r2 = 0 then (some 0)
  else (bnd (x2 + 1) fun v3 => mX2_allDivide_2 S n0 n x1 v3))
theorem wX2_allDivide_2 {κ : KT} {g : GT} (C : CX κ g RX2 cX2_allDivide 3 (some .boolean) 1 21) (S : St) (n0 : Nat) (hn0 : okI g n0) : ∀ (n : Nat) (x1 : Int32) (x2 : Int32), J κ g 3 (fun a : Int32 => (some (Value.int a), S)) S 2 [(0, .ref (gad g n0)), (1, .int x1), (2, .int x2)] [] (mX2_allDivide_2 S n0 n x1 x2) := by
  intro n
  induction n with
  | zero => intro x1 x2; exact j_none
  | succ n ih =>
    intro x1 x2
    rw [mX2_allDivide_2]
    refine j_iload_n C 2 rfl dX2_allDivide_2 rfl ?_
    refine j_aload_n C 0 rfl dX2_allDivide_3 rfl ?_
    refine j_getI C fl_X2_21 hn0.1 hn0.2.2.1 rfl dX2_allDivide_4 ?_
    refine j_icmp_ge C 31 dX2_allDivide_7 (by decide) ?_ ?_
    · refine j_iconst C (v := 1) (by decide) dX2_allDivide_31 ?_
      exact j_zret C rfl rfl dX2_allDivide_32
    · refine j_aload_n C 0 rfl dX2_allDivide_10 rfl ?_
      refine j_getR C (x := n0 + 1) fl_X2_9 hn0.1 hn0.2.2.1 rfl dX2_allDivide_11 ?_
      refine j_iload_n C 2 rfl dX2_allDivide_14 rfl ?_
      refine j_iald C hn0.2.1 hn0.2.2.2 dX2_allDivide_15 (fun j1 => ?_)
      refine j_iload_n C 1 rfl dX2_allDivide_16 rfl ?_
      refine j_callSi C [.int (gA S (n0 + 1) j1), .int x1] [] ms_X2_25 (fun _ h => ctX3_divides h) ⟨(Nat.le_of_ble_eq_true rfl), (Nat.le_of_ble_eq_true rfl)⟩ (Nat.le_of_ble_eq_true rfl) dX2_allDivide_17 rfl (fun r2 => ?_)
      refine j_if_ne C 25 dX2_allDivide_20 (by decide) ?_ ?_
      · refine j_iinc C (xs2 := fun v3 => [(0, .ref (gad g n0)), (1, .int x1), (2, .int v3)]) 2 rfl dX2_allDivide_25 (by decide) (by decide) (fun _ => rfl) (fun v3 => ?_)
        refine j_goto C 2 dX2_allDivide_28 (by decide) ?_
        exact ih x1 v3
      · refine j_iconst C (v := 0) (by decide) dX2_allDivide_23 ?_
        exact j_zret C rfl rfl dX2_allDivide_24
def mX2_allDivide (S : St) (n0 : Nat) (a0 : Int32) : Option (Int32) := mX2_allDivide_2 S n0 FU a0 0
theorem wX2_allDivide {κ : KT} {g : GT} (C : CX κ g RX2 cX2_allDivide 3 (some .boolean) 1 21) (S : St) (n0 : Nat) (hn0 : okI g n0) (a0 : Int32) : J κ g 3 (fun a : Int32 => (some (Value.int a), S)) S 0 [(0, .ref (gad g n0)), (1, .int a0)] [] (mX2_allDivide S n0 a0) := by
  unfold mX2_allDivide
  refine j_iconst C (v := 0) (by decide) dX2_allDivide_0 ?_
  refine j_istore_n C (xs1 := [(0, .ref (gad g n0)), (1, .int a0), (2, .int 0)]) dX2_allDivide_1 rfl (by decide) rfl ?_
  exact wX2_allDivide_2 C S n0 hn0 FU a0 0
theorem ctX2_allDivide {l : Launch} {g : GT} {S : St} {n0 : Nat} (hn0 : okI g n0) {a0 : Int32} {out : Int32} (ho : mX2_allDivide S n0 a0 = some out) : CT l yX2_allDivide cX2_allDivide 3 (some .boolean) 1 21 [.ref (gad g n0), .int a0] g S ((fun a : Int32 => (some (Value.int a), S)) out) := CT_of (φ := (fun a : Int32 => (some (Value.int a), S))) [.ref (gad g n0), .int a0] ho (by decide) (Nat.le_of_ble_eq_true rfl) (xs := [(0, .ref (gad g n0)), (1, .int a0)]) rfl (fun κ C => wX2_allDivide C S n0 hn0 a0)
/-! StairIdeals$Monomial.isCode(I)Z -/
def mX3_isCode (a0 : Int32) : Option (Int32) := if a0 < 0 then (some 0)
  else (if 6666 < a0 then (some 0)
  else (if 6 < ((a0 / 100) - (a0 / 100) / 10 * 10) then (some 0)
  else (if 6 < ((a0 / 10) - (a0 / 10) / 10 * 10) then (some 0)
  else (if 6 < (a0 - a0 / 10 * 10) then (some 0)
  else (some 1)))))
theorem wX3_isCode {κ : KT} {g : GT} (C : CX κ g RX3 cX3_isCode 1 (some .boolean) 0 0) (S : St) (a0 : Int32) : J κ g 1 (fun a : Int32 => (some (Value.int a), S)) S 0 [(0, .int a0)] [] (mX3_isCode a0) := by
  unfold mX3_isCode
  refine j_iload_n C 0 rfl dX3_isCode_0 rfl ?_
  refine j_if_lt C 48 dX3_isCode_1 (by decide) ?_ ?_
  · refine j_iconst C (v := 0) (by decide) dX3_isCode_48 ?_
    exact j_zret C rfl rfl dX3_isCode_49
  · refine j_iload_n C 0 rfl dX3_isCode_4 rfl ?_
    refine j_sipush C (v := 6666) (by decide) dX3_isCode_5 ?_
    refine j_icmp_gt C 48 dX3_isCode_8 (by decide) ?_ ?_
    · refine j_iconst C (v := 0) (by decide) dX3_isCode_48 ?_
      exact j_zret C rfl rfl dX3_isCode_49
    · refine j_iload_n C 0 rfl dX3_isCode_11 rfl ?_
      refine j_bipush C (v := 100) (by decide) dX3_isCode_12 ?_
      refine j_idiv C (by decide) dX3_isCode_14 ?_
      refine j_bipush C (v := 10) (by decide) dX3_isCode_15 ?_
      refine j_irem C (by decide) dX3_isCode_17 ?_
      refine j_bipush C (v := 6) (by decide) dX3_isCode_18 ?_
      refine j_icmp_gt C 48 dX3_isCode_20 (by decide) ?_ ?_
      · refine j_iconst C (v := 0) (by decide) dX3_isCode_48 ?_
        exact j_zret C rfl rfl dX3_isCode_49
      · refine j_iload_n C 0 rfl dX3_isCode_23 rfl ?_
        refine j_bipush C (v := 10) (by decide) dX3_isCode_24 ?_
        refine j_idiv C (by decide) dX3_isCode_26 ?_
        refine j_bipush C (v := 10) (by decide) dX3_isCode_27 ?_
        refine j_irem C (by decide) dX3_isCode_29 ?_
        refine j_bipush C (v := 6) (by decide) dX3_isCode_30 ?_
        refine j_icmp_gt C 48 dX3_isCode_32 (by decide) ?_ ?_
        · refine j_iconst C (v := 0) (by decide) dX3_isCode_48 ?_
          exact j_zret C rfl rfl dX3_isCode_49
        · refine j_iload_n C 0 rfl dX3_isCode_35 rfl ?_
          refine j_bipush C (v := 10) (by decide) dX3_isCode_36 ?_
          refine j_irem C (by decide) dX3_isCode_38 ?_
          refine j_bipush C (v := 6) (by decide) dX3_isCode_39 ?_
          refine j_icmp_gt C 48 dX3_isCode_41 (by decide) ?_ ?_
          · refine j_iconst C (v := 0) (by decide) dX3_isCode_48 ?_
            exact j_zret C rfl rfl dX3_isCode_49
          · refine j_iconst C (v := 1) (by decide) dX3_isCode_44 ?_
            refine j_goto C 49 dX3_isCode_45 (by decide) ?_
            exact j_zret C rfl rfl dX3_isCode_49
theorem ctX3_isCode {l : Launch} {g : GT} {S : St} {a0 : Int32} {out : Int32} (ho : mX3_isCode a0 = some out) : CT l yX3_isCode cX3_isCode 1 (some .boolean) 0 0 [.int a0] g S ((fun a : Int32 => (some (Value.int a), S)) out) := CT_of (φ := (fun a : Int32 => (some (Value.int a), S))) [.int a0] ho (by decide) (Nat.le_of_ble_eq_true rfl) (xs := [(0, .int a0)]) rfl (fun κ C => wX3_isCode C S a0)
/-! StairIdeals$Monomial.ofCode(I)I -/
def mX3_ofCode (a0 : Int32) : Option (Int32) := some ((((((a0 / 1000) - (a0 / 1000) / 10 * 10) <<< ((12 : Int32) &&& 31)) ||| (((a0 / 100) - (a0 / 100) / 10 * 10) <<< ((8 : Int32) &&& 31))) ||| (((a0 / 10) - (a0 / 10) / 10 * 10) <<< ((4 : Int32) &&& 31))) ||| (a0 - a0 / 10 * 10))
theorem wX3_ofCode {κ : KT} {g : GT} (C : CX κ g RX3 cX3_ofCode 1 (some .int) 0 0) (S : St) (a0 : Int32) : J κ g 1 (fun a : Int32 => (some (Value.int a), S)) S 0 [(0, .int a0)] [] (mX3_ofCode a0) := by
  unfold mX3_ofCode
  refine j_iload_n C 0 rfl dX3_ofCode_0 rfl ?_
  refine j_sipush C (v := 1000) (by decide) dX3_ofCode_1 ?_
  refine j_idiv C (by decide) dX3_ofCode_4 ?_
  refine j_bipush C (v := 10) (by decide) dX3_ofCode_5 ?_
  refine j_irem C (by decide) dX3_ofCode_7 ?_
  refine j_bipush C (v := 12) (by decide) dX3_ofCode_8 ?_
  refine j_ishl C dX3_ofCode_10 ?_
  refine j_iload_n C 0 rfl dX3_ofCode_11 rfl ?_
  refine j_bipush C (v := 100) (by decide) dX3_ofCode_12 ?_
  refine j_idiv C (by decide) dX3_ofCode_14 ?_
  refine j_bipush C (v := 10) (by decide) dX3_ofCode_15 ?_
  refine j_irem C (by decide) dX3_ofCode_17 ?_
  refine j_bipush C (v := 8) (by decide) dX3_ofCode_18 ?_
  refine j_ishl C dX3_ofCode_20 ?_
  refine j_ior C dX3_ofCode_21 ?_
  refine j_iload_n C 0 rfl dX3_ofCode_22 rfl ?_
  refine j_bipush C (v := 10) (by decide) dX3_ofCode_23 ?_
  refine j_idiv C (by decide) dX3_ofCode_25 ?_
  refine j_bipush C (v := 10) (by decide) dX3_ofCode_26 ?_
  refine j_irem C (by decide) dX3_ofCode_28 ?_
  refine j_iconst C (v := 4) (by decide) dX3_ofCode_29 ?_
  refine j_ishl C dX3_ofCode_30 ?_
  refine j_ior C dX3_ofCode_31 ?_
  refine j_iload_n C 0 rfl dX3_ofCode_32 rfl ?_
  refine j_bipush C (v := 10) (by decide) dX3_ofCode_33 ?_
  refine j_irem C (by decide) dX3_ofCode_35 ?_
  refine j_ior C dX3_ofCode_36 ?_
  exact j_iret C rfl dX3_ofCode_37
theorem ctX3_ofCode {l : Launch} {g : GT} {S : St} {a0 : Int32} {out : Int32} (ho : mX3_ofCode a0 = some out) : CT l yX3_ofCode cX3_ofCode 1 (some .int) 0 0 [.int a0] g S ((fun a : Int32 => (some (Value.int a), S)) out) := CT_of (φ := (fun a : Int32 => (some (Value.int a), S))) [.int a0] ho (by decide) (Nat.le_of_ble_eq_true rfl) (xs := [(0, .int a0)]) rfl (fun κ C => wX3_ofCode C S a0)
/-! StairIdeals$Monomial.toCode(I)I -/
def mX3_toCode (a0 : Int32) : Option (Int32) := (mX3_exponent a0 0).bind fun r1 => (mX3_exponent a0 1).bind fun r2 => (mX3_exponent a0 2).bind fun r3 => (mX3_exponent a0 3).bind fun r4 => some ((((1000 * r1) + (100 * r2)) + (10 * r3)) + r4)
theorem wX3_toCode {κ : KT} {g : GT} (C : CX κ g RX3 cX3_toCode 1 (some .int) 1 21) (S : St) (a0 : Int32) : J κ g 1 (fun a : Int32 => (some (Value.int a), S)) S 0 [(0, .int a0)] [] (mX3_toCode a0) := by
  unfold mX3_toCode
  refine j_sipush C (v := 1000) (by decide) dX3_toCode_0 ?_
  refine j_iload_n C 0 rfl dX3_toCode_3 rfl ?_
  refine j_iconst C (v := 0) (by decide) dX3_toCode_4 ?_
  refine j_callSi C [.int a0, .int 0] [.int 1000] ms_X3_9 (fun _ h => ctX3_exponent h) ⟨(Nat.le_of_ble_eq_true rfl), (Nat.le_of_ble_eq_true rfl)⟩ (Nat.le_of_ble_eq_true rfl) dX3_toCode_5 rfl (fun r1 => ?_)
  refine j_imul C dX3_toCode_8 ?_
  refine j_bipush C (v := 100) (by decide) dX3_toCode_9 ?_
  refine j_iload_n C 0 rfl dX3_toCode_11 rfl ?_
  refine j_iconst C (v := 1) (by decide) dX3_toCode_12 ?_
  refine j_callSi C [.int a0, .int 1] [.int 100, .int (1000 * r1)] ms_X3_9 (fun _ h => ctX3_exponent h) ⟨(Nat.le_of_ble_eq_true rfl), (Nat.le_of_ble_eq_true rfl)⟩ (Nat.le_of_ble_eq_true rfl) dX3_toCode_13 rfl (fun r2 => ?_)
  refine j_imul C dX3_toCode_16 ?_
  refine j_iadd C dX3_toCode_17 ?_
  refine j_bipush C (v := 10) (by decide) dX3_toCode_18 ?_
  refine j_iload_n C 0 rfl dX3_toCode_20 rfl ?_
  refine j_iconst C (v := 2) (by decide) dX3_toCode_21 ?_
  refine j_callSi C [.int a0, .int 2] [.int 10, .int ((1000 * r1) + (100 * r2))] ms_X3_9 (fun _ h => ctX3_exponent h) ⟨(Nat.le_of_ble_eq_true rfl), (Nat.le_of_ble_eq_true rfl)⟩ (Nat.le_of_ble_eq_true rfl) dX3_toCode_22 rfl (fun r3 => ?_)
  refine j_imul C dX3_toCode_25 ?_
  refine j_iadd C dX3_toCode_26 ?_
  refine j_iload_n C 0 rfl dX3_toCode_27 rfl ?_
  refine j_iconst C (v := 3) (by decide) dX3_toCode_28 ?_
  refine j_callSi C [.int a0, .int 3] [.int (((1000 * r1) + (100 * r2)) + (10 * r3))] ms_X3_9 (fun _ h => ctX3_exponent h) ⟨(Nat.le_of_ble_eq_true rfl), (Nat.le_of_ble_eq_true rfl)⟩ (Nat.le_of_ble_eq_true rfl) dX3_toCode_29 rfl (fun r4 => ?_)
  refine j_iadd C dX3_toCode_32 ?_
  exact j_iret C rfl dX3_toCode_33
theorem ctX3_toCode {l : Launch} {g : GT} {S : St} {a0 : Int32} {out : Int32} (ho : mX3_toCode a0 = some out) : CT l yX3_toCode cX3_toCode 1 (some .int) 1 21 [.int a0] g S ((fun a : Int32 => (some (Value.int a), S)) out) := CT_of (φ := (fun a : Int32 => (some (Value.int a), S))) [.int a0] ho (by decide) (Nat.le_of_ble_eq_true rfl) (xs := [(0, .int a0)]) rfl (fun κ C => wX3_toCode C S a0)
/-! StairIdeals$Monomial.power(II)I -/
def mX3_power (a0 : Int32) (a1 : Int32) : Option (Int32) := some (a1 <<< ((12 - (4 * a0)) &&& 31))
theorem wX3_power {κ : KT} {g : GT} (C : CX κ g RX3 cX3_power 2 (some .int) 0 0) (S : St) (a0 : Int32) (a1 : Int32) : J κ g 2 (fun a : Int32 => (some (Value.int a), S)) S 0 [(0, .int a0), (1, .int a1)] [] (mX3_power a0 a1) := by
  unfold mX3_power
  refine j_iload_n C 1 rfl dX3_power_0 rfl ?_
  refine j_bipush C (v := 12) (by decide) dX3_power_1 ?_
  refine j_iconst C (v := 4) (by decide) dX3_power_3 ?_
  refine j_iload_n C 0 rfl dX3_power_4 rfl ?_
  refine j_imul C dX3_power_5 ?_
  refine j_isub C dX3_power_6 ?_
  refine j_ishl C dX3_power_7 ?_
  exact j_iret C rfl dX3_power_8
theorem ctX3_power {l : Launch} {g : GT} {S : St} {a0 : Int32} {a1 : Int32} {out : Int32} (ho : mX3_power a0 a1 = some out) : CT l yX3_power cX3_power 2 (some .int) 0 0 [.int a0, .int a1] g S ((fun a : Int32 => (some (Value.int a), S)) out) := CT_of (φ := (fun a : Int32 => (some (Value.int a), S))) [.int a0, .int a1] ho (by decide) (Nat.le_of_ble_eq_true rfl) (xs := [(0, .int a0), (1, .int a1)]) rfl (fun κ C => wX3_power C S a0 a1)
/-! StairIdeals$Monomial.isTooHigh(I)Z -/
def mX3_isTooHigh (a0 : Int32) : Option (Int32) := if ((a0 + 4369) &&& 34952) = 0 then (some 0)
  else (some 1)
theorem wX3_isTooHigh {κ : KT} {g : GT} (C : CX κ g RX3 cX3_isTooHigh 1 (some .boolean) 0 0) (S : St) (a0 : Int32) : J κ g 1 (fun a : Int32 => (some (Value.int a), S)) S 0 [(0, .int a0)] [] (mX3_isTooHigh a0) := by
  unfold mX3_isTooHigh
  refine j_iload_n C 0 rfl dX3_isTooHigh_0 rfl ?_
  refine j_sipush C (v := 4369) (by decide) dX3_isTooHigh_1 ?_
  refine j_iadd C dX3_isTooHigh_4 ?_
  refine j_ldc C (v := 34952) wd_373 dX3_isTooHigh_5 ?_
  refine j_iand C dX3_isTooHigh_7 ?_
  refine j_if_eq C 15 dX3_isTooHigh_8 (by decide) ?_ ?_
  · refine j_iconst C (v := 0) (by decide) dX3_isTooHigh_15 ?_
    exact j_zret C rfl rfl dX3_isTooHigh_16
  · refine j_iconst C (v := 1) (by decide) dX3_isTooHigh_11 ?_
    refine j_goto C 16 dX3_isTooHigh_12 (by decide) ?_
    exact j_zret C rfl rfl dX3_isTooHigh_16
theorem ctX3_isTooHigh {l : Launch} {g : GT} {S : St} {a0 : Int32} {out : Int32} (ho : mX3_isTooHigh a0 = some out) : CT l yX3_isTooHigh cX3_isTooHigh 1 (some .boolean) 0 0 [.int a0] g S ((fun a : Int32 => (some (Value.int a), S)) out) := CT_of (φ := (fun a : Int32 => (some (Value.int a), S))) [.int a0] ho (by decide) (Nat.le_of_ble_eq_true rfl) (xs := [(0, .int a0)]) rfl (fun κ C => wX3_isTooHigh C S a0)
/-! StairIdeals$Monomial.ofDegree(I)I -/
def mX3_ofDegree (a0 : Int32) : Option (Int32) := some ((((a0 + 1) * (a0 + 2)) * (a0 + 3)) / 6)
theorem wX3_ofDegree {κ : KT} {g : GT} (C : CX κ g RX3 cX3_ofDegree 1 (some .int) 0 0) (S : St) (a0 : Int32) : J κ g 1 (fun a : Int32 => (some (Value.int a), S)) S 0 [(0, .int a0)] [] (mX3_ofDegree a0) := by
  unfold mX3_ofDegree
  refine j_iload_n C 0 rfl dX3_ofDegree_0 rfl ?_
  refine j_iconst C (v := 1) (by decide) dX3_ofDegree_1 ?_
  refine j_iadd C dX3_ofDegree_2 ?_
  refine j_iload_n C 0 rfl dX3_ofDegree_3 rfl ?_
  refine j_iconst C (v := 2) (by decide) dX3_ofDegree_4 ?_
  refine j_iadd C dX3_ofDegree_5 ?_
  refine j_imul C dX3_ofDegree_6 ?_
  refine j_iload_n C 0 rfl dX3_ofDegree_7 rfl ?_
  refine j_iconst C (v := 3) (by decide) dX3_ofDegree_8 ?_
  refine j_iadd C dX3_ofDegree_9 ?_
  refine j_imul C dX3_ofDegree_10 ?_
  refine j_bipush C (v := 6) (by decide) dX3_ofDegree_11 ?_
  refine j_idiv C (by decide) dX3_ofDegree_13 ?_
  exact j_iret C rfl dX3_ofDegree_14
theorem ctX3_ofDegree {l : Launch} {g : GT} {S : St} {a0 : Int32} {out : Int32} (ho : mX3_ofDegree a0 = some out) : CT l yX3_ofDegree cX3_ofDegree 1 (some .int) 0 0 [.int a0] g S ((fun a : Int32 => (some (Value.int a), S)) out) := CT_of (φ := (fun a : Int32 => (some (Value.int a), S))) [.int a0] ho (by decide) (Nat.le_of_ble_eq_true rfl) (xs := [(0, .int a0)]) rfl (fun κ C => wX3_ofDegree C S a0)
/-! StairIdeals$Pad.append(I)Z -/
def mX4_append (S : St) (a0 : Int32) : Option (Int32 × St) := if (gI S 19 2) < 60 then (inb 60 (gI S 19 2) fun j1 => some (1, (sI (sA S 21 j1 a0) 19 2 ((gI (sA S 21 j1 a0) 19 2) + 1))))
  else (some (0, S))
theorem wX4_append {κ : KT} {g : GT} (C : CX κ g RX4 cX4_append 2 (some .boolean) 0 0) (S : St) (a0 : Int32) : J κ g 2 (fun a : Int32 × St => (some (Value.int a.1), a.2)) S 0 [(0, .ref (gad g 19)), (1, .int a0)] [] (mX4_append S a0) := by
  unfold mX4_append
  refine j_aload_n C 0 rfl dX4_append_0 rfl ?_
  refine j_getI C fl_X4_18 sh_19 rfl rfl dX4_append_1 ?_
  refine j_aload_n C 0 rfl dX4_append_4 rfl ?_
  refine j_getR C (x := 21) fl_X4_15 sh_19 rfl rfl dX4_append_5 ?_
  refine j_alen0 C (v := 60) sh_21 rfl (by decide) dX4_append_8 ?_
  refine j_icmp_lt C 14 dX4_append_9 (by decide) ?_ ?_
  · refine j_aload_n C 0 rfl dX4_append_14 rfl ?_
    refine j_getR C (x := 21) fl_X4_15 sh_19 rfl rfl dX4_append_15 ?_
    refine j_aload_n C 0 rfl dX4_append_18 rfl ?_
    refine j_getI C fl_X4_18 sh_19 rfl rfl dX4_append_19 ?_
    refine j_iload_n C 1 rfl dX4_append_22 rfl ?_
    refine j_iast C sh_21 rfl dX4_append_23 (fun j1 => ?_)
    refine j_aload_n C 0 rfl dX4_append_24 rfl ?_
    refine j_dup C rfl dX4_append_25 ?_
    refine j_getI C fl_X4_18 sh_19 rfl rfl dX4_append_26 ?_
    refine j_iconst C (v := 1) (by decide) dX4_append_29 ?_
    refine j_iadd C dX4_append_30 ?_
    refine j_putI C fp_X4_18 sh_19 rfl rfl rfl rfl dX4_append_31 ?_
    refine j_iconst C (v := 1) (by decide) dX4_append_34 ?_
    exact j_zret C rfl rfl dX4_append_35
  · refine j_iconst C (v := 0) (by decide) dX4_append_12 ?_
    exact j_zret C rfl rfl dX4_append_13
theorem ctX4_append {l : Launch} {g : GT} {S : St} {a0 : Int32} {out : Int32 × St} (ho : mX4_append S a0 = some out) : CT l yX4_append cX4_append 2 (some .boolean) 0 0 [.ref (gad g 19), .int a0] g S ((fun a : Int32 × St => (some (Value.int a.1), a.2)) out) := CT_of (φ := (fun a : Int32 × St => (some (Value.int a.1), a.2))) [.ref (gad g 19), .int a0] ho (by decide) (Nat.le_of_ble_eq_true rfl) (xs := [(0, .ref (gad g 19)), (1, .int a0)]) rfl (fun κ C => wX4_append C S a0)
/-! StairIdeals$Pad.begin()V -/
def mX4_begin (S : St) : Option (St) := some (sI (sI S 19 4 0) 19 6 0)
theorem wX4_begin {κ : KT} {g : GT} (C : CX κ g RX4 cX4_begin 1 none 0 0) (S : St) : J κ g 1 (fun a : St => (none, a)) S 0 [(0, .ref (gad g 19))] [] (mX4_begin S) := by
  unfold mX4_begin
  refine j_aload_n C 0 rfl dX4_begin_0 rfl ?_
  refine j_iconst C (v := 0) (by decide) dX4_begin_1 ?_
  refine j_putI C fp_X4_36 sh_19 rfl rfl rfl rfl dX4_begin_2 ?_
  refine j_aload_n C 0 rfl dX4_begin_5 rfl ?_
  refine j_iconst C (v := 0) (by decide) dX4_begin_6 ?_
  refine j_putI C fp_X4_39 sh_19 rfl rfl rfl rfl dX4_begin_7 ?_
  exact j_vret C rfl dX4_begin_10
theorem ctX4_begin {l : Launch} {g : GT} {S : St} {out : St} (ho : mX4_begin S = some out) : CT l yX4_begin cX4_begin 1 none 0 0 [.ref (gad g 19)] g S ((fun a : St => (none, a)) out) := CT_of (φ := (fun a : St => (none, a))) [.ref (gad g 19)] ho (by decide) (Nat.le_of_ble_eq_true rfl) (xs := [(0, .ref (gad g 19))]) rfl (fun κ C => wX4_begin C S)
/-! StairIdeals$Pad.endMonomial()Z -/
def mX4_endMonomial (S : St) : Option (Int32 × St) := if (gI S 19 4) = 0 then (some (0, S))
  else (if (gI S 19 1) < 60 then (inb 60 (gI S 19 1) fun j1 => (mX4_begin (sI (sA S 20 j1 (gI S 19 6)) 19 1 ((gI (sA S 20 j1 (gI S 19 6)) 19 1) + 1))).bind fun r2 => some (1, r2))
  else (some (0, S)))
theorem wX4_endMonomial {κ : KT} {g : GT} (C : CX κ g RX4 cX4_endMonomial 1 (some .boolean) 1 20) (S : St) : J κ g 1 (fun a : Int32 × St => (some (Value.int a.1), a.2)) S 0 [(0, .ref (gad g 19))] [] (mX4_endMonomial S) := by
  unfold mX4_endMonomial
  refine j_aload_n C 0 rfl dX4_endMonomial_0 rfl ?_
  refine j_getI C fl_X4_36 sh_19 rfl rfl dX4_endMonomial_1 ?_
  refine j_if_eq C 19 dX4_endMonomial_4 (by decide) ?_ ?_
  · refine j_iconst C (v := 0) (by decide) dX4_endMonomial_19 ?_
    exact j_zret C rfl rfl dX4_endMonomial_20
  · refine j_aload_n C 0 rfl dX4_endMonomial_7 rfl ?_
    refine j_getI C fl_X4_22 sh_19 rfl rfl dX4_endMonomial_8 ?_
    refine j_aload_n C 0 rfl dX4_endMonomial_11 rfl ?_
    refine j_getR C (x := 20) fl_X4_9 sh_19 rfl rfl dX4_endMonomial_12 ?_
    refine j_alen0 C (v := 60) sh_20 rfl (by decide) dX4_endMonomial_15 ?_
    refine j_icmp_lt C 21 dX4_endMonomial_16 (by decide) ?_ ?_
    · refine j_aload_n C 0 rfl dX4_endMonomial_21 rfl ?_
      refine j_getR C (x := 20) fl_X4_9 sh_19 rfl rfl dX4_endMonomial_22 ?_
      refine j_aload_n C 0 rfl dX4_endMonomial_25 rfl ?_
      refine j_getI C fl_X4_22 sh_19 rfl rfl dX4_endMonomial_26 ?_
      refine j_aload_n C 0 rfl dX4_endMonomial_29 rfl ?_
      refine j_getI C fl_X4_39 sh_19 rfl rfl dX4_endMonomial_30 ?_
      refine j_iast C sh_20 rfl dX4_endMonomial_33 (fun j1 => ?_)
      refine j_aload_n C 0 rfl dX4_endMonomial_34 rfl ?_
      refine j_dup C rfl dX4_endMonomial_35 ?_
      refine j_getI C fl_X4_22 sh_19 rfl rfl dX4_endMonomial_36 ?_
      refine j_iconst C (v := 1) (by decide) dX4_endMonomial_39 ?_
      refine j_iadd C dX4_endMonomial_40 ?_
      refine j_putI C fp_X4_22 sh_19 rfl rfl rfl rfl dX4_endMonomial_41 ?_
      refine j_aload_n C 0 rfl dX4_endMonomial_44 rfl ?_
      refine j_callVvS C [] [] mv_X4_25 sh_19 rfl rfl (fun _ h => ctX4_begin h) ⟨(Nat.le_of_ble_eq_true rfl), (Nat.le_of_ble_eq_true rfl)⟩ (Nat.le_of_ble_eq_true rfl) dX4_endMonomial_45 rfl (fun r2 => ?_)
      refine j_iconst C (v := 1) (by decide) dX4_endMonomial_48 ?_
      exact j_zret C rfl rfl dX4_endMonomial_49
    · refine j_iconst C (v := 0) (by decide) dX4_endMonomial_19 ?_
      exact j_zret C rfl rfl dX4_endMonomial_20
theorem ctX4_endMonomial {l : Launch} {g : GT} {S : St} {out : Int32 × St} (ho : mX4_endMonomial S = some out) : CT l yX4_endMonomial cX4_endMonomial 1 (some .boolean) 1 20 [.ref (gad g 19)] g S ((fun a : Int32 × St => (some (Value.int a.1), a.2)) out) := CT_of (φ := (fun a : Int32 × St => (some (Value.int a.1), a.2))) [.ref (gad g 19)] ho (by decide) (Nat.le_of_ble_eq_true rfl) (xs := [(0, .ref (gad g 19))]) rfl (fun κ C => wX4_endMonomial C S)
