/-! StairIdeals.fault()I -/
def mX10_fault (S : St) : Option (Int32 × St) := (mX4_read S).bind fun r1 => some (r1.1, r1.2)
theorem wX10_fault {κ : KT} {g : GT} (C : CX κ g RX10 cX10_fault 1 (some .int) 4 85) (S : St) : J κ g 1 (fun a : Int32 × St => (some (Value.int a.1), a.2)) S 0 [(0, .ref (gad g 18))] [] (mX10_fault S) := by
  unfold mX10_fault
  refine j_aload_n C 0 rfl dX10_fault_0 rfl ?_
  refine j_getR C (x := 19) fl_X10_10 sh_18 rfl rfl dX10_fault_1 ?_
  refine j_callViS C [] [] mv_X10_49 sh_19 rfl rfl (fun _ h => ctX4_read h) ⟨(Nat.le_of_ble_eq_true rfl), (Nat.le_of_ble_eq_true rfl)⟩ (Nat.le_of_ble_eq_true rfl) dX10_fault_4 rfl (fun r1 => ?_)
  exact j_iret C rfl dX10_fault_7
theorem ctX10_fault {l : Launch} {g : GT} {S : St} {out : Int32 × St} (ho : mX10_fault S = some out) : CT l yX10_fault cX10_fault 1 (some .int) 4 85 [.ref (gad g 18)] g S ((fun a : Int32 × St => (some (Value.int a.1), a.2)) out) := CT_of (φ := (fun a : Int32 × St => (some (Value.int a.1), a.2))) [.ref (gad g 18)] ho (by decide) (Nat.le_of_ble_eq_true rfl) (xs := [(0, .ref (gad g 18))]) rfl (fun κ C => wX10_fault C S)
/-! StairIdeals.isIdeal(I)Z -/
def mX10_isIdeal (a0 : Int32) : Option (Int32) := if a0 < 0 then (some 0)
  else (if 4 ≤ a0 then (some 0)
  else (some 1))
theorem wX10_isIdeal {κ : KT} {g : GT} (C : CX κ g RX10 cX10_isIdeal 1 (some .boolean) 0 0) (S : St) (a0 : Int32) : J κ g 1 (fun a : Int32 => (some (Value.int a), S)) S 0 [(0, .int a0)] [] (mX10_isIdeal a0) := by
  unfold mX10_isIdeal
  refine j_iload_n C 0 rfl dX10_isIdeal_0 rfl ?_
  refine j_if_lt C 13 dX10_isIdeal_1 (by decide) ?_ ?_
  · refine j_iconst C (v := 0) (by decide) dX10_isIdeal_13 ?_
    exact j_zret C rfl rfl dX10_isIdeal_14
  · refine j_iload_n C 0 rfl dX10_isIdeal_4 rfl ?_
    refine j_iconst C (v := 4) (by decide) dX10_isIdeal_5 ?_
    refine j_icmp_ge C 13 dX10_isIdeal_6 (by decide) ?_ ?_
    · refine j_iconst C (v := 0) (by decide) dX10_isIdeal_13 ?_
      exact j_zret C rfl rfl dX10_isIdeal_14
    · refine j_iconst C (v := 1) (by decide) dX10_isIdeal_9 ?_
      refine j_goto C 14 dX10_isIdeal_10 (by decide) ?_
      exact j_zret C rfl rfl dX10_isIdeal_14
theorem ctX10_isIdeal {l : Launch} {g : GT} {S : St} {a0 : Int32} {out : Int32} (ho : mX10_isIdeal a0 = some out) : CT l yX10_isIdeal cX10_isIdeal 1 (some .boolean) 0 0 [.int a0] g S ((fun a : Int32 => (some (Value.int a), S)) out) := CT_of (φ := (fun a : Int32 => (some (Value.int a), S))) [.int a0] ho (by decide) (Nat.le_of_ble_eq_true rfl) (xs := [(0, .int a0)]) rfl (fun κ C => wX10_isIdeal C S a0)
/-! StairIdeals.load(I)I -/
def mX10_load (S : St) (a0 : Int32) : Option (Int32 × St) := (mX10_isIdeal a0).bind fun r1 => if r1 = 0 then (some ((-1), S))
  else ((mX4_read S).bind fun r2 => if r2.1 = (-6) then ((mX9_gather r2.2).bind fun r3 => inb 4 a0 fun j4 => (mX9_deliver (sI r3 19 2 0) (el 62 j4)).bind fun r5 => some (r5.1, r5.2))
  else (some ((-5), r2.2)))
theorem wX10_load {κ : KT} {g : GT} (C : CX κ g RX10 cX10_load 2 (some .int) 5 113) (S : St) (a0 : Int32) : J κ g 2 (fun a : Int32 × St => (some (Value.int a.1), a.2)) S 0 [(0, .ref (gad g 18)), (1, .int a0)] [] (mX10_load S a0) := by
  unfold mX10_load
  refine j_iload_n C 1 rfl dX10_load_0 rfl ?_
  refine j_callSi C [.int a0] [] ms_X10_53 (fun _ h => ctX10_isIdeal h) ⟨(Nat.le_of_ble_eq_true rfl), (Nat.le_of_ble_eq_true rfl)⟩ (Nat.le_of_ble_eq_true rfl) dX10_load_1 rfl (fun r1 => ?_)
  refine j_if_ne C 9 dX10_load_4 (by decide) ?_ ?_
  · refine j_aload_n C 0 rfl dX10_load_9 rfl ?_
    refine j_getR C (x := 19) fl_X10_10 sh_18 rfl rfl dX10_load_10 ?_
    refine j_callViS C [] [] mv_X10_49 sh_19 rfl rfl (fun _ h => ctX4_read h) ⟨(Nat.le_of_ble_eq_true rfl), (Nat.le_of_ble_eq_true rfl)⟩ (Nat.le_of_ble_eq_true rfl) dX10_load_13 rfl (fun r2 => ?_)
    refine j_bipush C (v := (-6)) (by decide) dX10_load_16 ?_
    refine j_icmp_eq C 24 dX10_load_18 (by decide) ?_ ?_
    · refine j_aload_n C 0 rfl dX10_load_24 rfl ?_
      refine j_getR C (x := 23) fl_X10_30 sh_18 rfl rfl dX10_load_25 ?_
      refine j_aload_n C 0 rfl dX10_load_28 rfl ?_
      refine j_getR C (x := 19) fl_X10_10 sh_18 rfl rfl dX10_load_29 ?_
      refine j_callVvS C [.ref (gad g 19)] [] mv_X10_56 sh_23 rfl rfl (fun _ h => ctX9_gather h) ⟨(Nat.le_of_ble_eq_true rfl), (Nat.le_of_ble_eq_true rfl)⟩ (Nat.le_of_ble_eq_true rfl) dX10_load_32 rfl (fun r3 => ?_)
      refine j_aload_n C 0 rfl dX10_load_35 rfl ?_
      refine j_getR C (x := 19) fl_X10_10 sh_18 rfl rfl dX10_load_36 ?_
      refine j_iconst C (v := 0) (by decide) dX10_load_39 ?_
      refine j_putI C fp_X10_45 sh_19 rfl rfl rfl rfl dX10_load_40 ?_
      refine j_aload_n C 0 rfl dX10_load_43 rfl ?_
      refine j_getR C (x := 23) fl_X10_30 sh_18 rfl rfl dX10_load_44 ?_
      refine j_aload_n C 0 rfl dX10_load_47 rfl ?_
      refine j_getR C (x := 61) fl_X10_19 sh_18 rfl rfl dX10_load_48 ?_
      refine j_getR C (x := 62) fl_X10_60 sh_61 rfl rfl dX10_load_51 ?_
      refine j_iload_n C 1 rfl dX10_load_54 rfl ?_
      refine j_aald2 C sh_62 rfl dX10_load_55 (fun j4 hj4 => ?_)
      refine j_callViS C [.ref (gad g (el 62 j4))] [] mv_X10_64 sh_23 rfl rfl (fun _ h => ctX9_deliver (okI_62 (g := g) hj4) h) ⟨(Nat.le_of_ble_eq_true rfl), (Nat.le_of_ble_eq_true rfl)⟩ (Nat.le_of_ble_eq_true rfl) dX10_load_56 rfl (fun r5 => ?_)
      exact j_iret C rfl dX10_load_59
    · refine j_bipush C (v := (-5)) (by decide) dX10_load_21 ?_
      exact j_iret C rfl dX10_load_23
  · refine j_iconst C (v := (-1)) (by decide) dX10_load_7 ?_
    exact j_iret C rfl dX10_load_8
theorem ctX10_load {l : Launch} {g : GT} {S : St} {a0 : Int32} {out : Int32 × St} (ho : mX10_load S a0 = some out) : CT l yX10_load cX10_load 2 (some .int) 5 113 [.ref (gad g 18), .int a0] g S ((fun a : Int32 × St => (some (Value.int a.1), a.2)) out) := CT_of (φ := (fun a : Int32 × St => (some (Value.int a.1), a.2))) [.ref (gad g 18), .int a0] ho (by decide) (Nat.le_of_ble_eq_true rfl) (xs := [(0, .ref (gad g 18)), (1, .int a0)]) rfl (fun κ C => wX10_load C S a0)
/-! StairIdeals.generator(II)I -/
def mX10_generator (S : St) (a0 : Int32) (a1 : Int32) : Option (Int32) := (mX10_isIdeal a0).bind fun r1 => if r1 = 0 then (some (-1))
  else (inb 4 a0 fun j2 => if a1 = (-1) then (some (gI S (el 62 j2) 1))
  else (if a1 < 0 then (some (-6))
  else (if (gI S (el 62 j2) 1) ≤ a1 then (some (-6))
  else (inb 40 a1 fun j3 => (mX3_toCode (gA S ((el 62 j2) + 1) j3)).bind fun r4 => some r4))))
theorem wX10_generator {κ : KT} {g : GT} (C : CX κ g RX10 cX10_generator 4 (some .int) 2 41) (S : St) (a0 : Int32) (a1 : Int32) : J κ g 4 (fun a : Int32 => (some (Value.int a), S)) S 0 [(0, .ref (gad g 18)), (1, .int a0), (2, .int a1)] [] (mX10_generator S a0 a1) := by
  unfold mX10_generator
  refine j_iload_n C 1 rfl dX10_generator_0 rfl ?_
  refine j_callSi C [.int a0] [] ms_X10_53 (fun _ h => ctX10_isIdeal h) ⟨(Nat.le_of_ble_eq_true rfl), (Nat.le_of_ble_eq_true rfl)⟩ (Nat.le_of_ble_eq_true rfl) dX10_generator_1 rfl (fun r1 => ?_)
  refine j_if_ne C 9 dX10_generator_4 (by decide) ?_ ?_
  · refine j_aload_n C 0 rfl dX10_generator_9 rfl ?_
    refine j_getR C (x := 61) fl_X10_19 sh_18 rfl rfl dX10_generator_10 ?_
    refine j_getR C (x := 62) fl_X10_60 sh_61 rfl rfl dX10_generator_13 ?_
    refine j_iload_n C 1 rfl dX10_generator_16 rfl ?_
    refine j_aald2 C sh_62 rfl dX10_generator_17 (fun j2 hj2 => ?_)
    refine j_astore_n C (xs1 := [(0, .ref (gad g 18)), (1, .int a0), (2, .int a1), (3, .ref (gad g (el 62 j2)))]) dX10_generator_18 rfl (by decide) rfl ?_
    refine j_iload_n C 2 rfl dX10_generator_19 rfl ?_
    refine j_iconst C (v := (-1)) (by decide) dX10_generator_20 ?_
    refine j_icmp_ne C 29 dX10_generator_21 (by decide) ?_ ?_
    · refine j_iload_n C 2 rfl dX10_generator_29 rfl ?_
      refine j_if_lt C 53 dX10_generator_30 (by decide) ?_ ?_
      · refine j_bipush C (v := (-6)) (by decide) dX10_generator_53 ?_
        exact j_iret C rfl dX10_generator_55
      · refine j_iload_n C 2 rfl dX10_generator_33 rfl ?_
        refine j_aload_n C 3 rfl dX10_generator_34 rfl ?_
        refine j_getI C fl_X10_68 (okI_62 (g := g) hj2).1 (okI_62 (g := g) hj2).2.2.1 rfl dX10_generator_35 ?_
        refine j_icmp_ge C 53 dX10_generator_38 (by decide) ?_ ?_
        · refine j_bipush C (v := (-6)) (by decide) dX10_generator_53 ?_
          exact j_iret C rfl dX10_generator_55
        · refine j_aload_n C 3 rfl dX10_generator_41 rfl ?_
          refine j_getR C (x := (el 62 j2) + 1) fl_X10_71 (okI_62 (g := g) hj2).1 (okI_62 (g := g) hj2).2.2.1 rfl dX10_generator_42 ?_
          refine j_iload_n C 2 rfl dX10_generator_45 rfl ?_
          refine j_iald C (okI_62 (g := g) hj2).2.1 (okI_62 (g := g) hj2).2.2.2 dX10_generator_46 (fun j3 => ?_)
          refine j_callSi C [.int (gA S ((el 62 j2) + 1) j3)] [] ms_X10_75 (fun _ h => ctX3_toCode h) ⟨(Nat.le_of_ble_eq_true rfl), (Nat.le_of_ble_eq_true rfl)⟩ (Nat.le_of_ble_eq_true rfl) dX10_generator_47 rfl (fun r4 => ?_)
          refine j_goto C 55 dX10_generator_50 (by decide) ?_
          exact j_iret C rfl dX10_generator_55
    · refine j_aload_n C 3 rfl dX10_generator_24 rfl ?_
      refine j_getI C fl_X10_68 (okI_62 (g := g) hj2).1 (okI_62 (g := g) hj2).2.2.1 rfl dX10_generator_25 ?_
      exact j_iret C rfl dX10_generator_28
  · refine j_iconst C (v := (-1)) (by decide) dX10_generator_7 ?_
    exact j_iret C rfl dX10_generator_8
theorem ctX10_generator {l : Launch} {g : GT} {S : St} {a0 : Int32} {a1 : Int32} {out : Int32} (ho : mX10_generator S a0 a1 = some out) : CT l yX10_generator cX10_generator 4 (some .int) 2 41 [.ref (gad g 18), .int a0, .int a1] g S ((fun a : Int32 => (some (Value.int a), S)) out) := CT_of (φ := (fun a : Int32 => (some (Value.int a), S))) [.ref (gad g 18), .int a0, .int a1] ho (by decide) (Nat.le_of_ble_eq_true rfl) (xs := [(0, .ref (gad g 18)), (1, .int a0), (2, .int a1)]) rfl (fun κ C => wX10_generator C S a0 a1)
/-! StairIdeals.has(II)I -/
def mX10_has (S : St) (a0 : Int32) (a1 : Int32) : Option (Int32) := (mX10_isIdeal a0).bind fun r1 => if r1 = 0 then (some (-1))
  else ((mX3_isCode a1).bind fun r2 => if r2 = 0 then (some (-2))
  else (inb 4 a0 fun j3 => (mX3_ofCode a1).bind fun r4 => (mX2_contains S (el 62 j3) r4).bind fun r5 => if r5 = 0 then (some 0)
  else (some 1)))
theorem wX10_has {κ : KT} {g : GT} (C : CX κ g RX10 cX10_has 3 (some .int) 2 43) (S : St) (a0 : Int32) (a1 : Int32) : J κ g 3 (fun a : Int32 => (some (Value.int a), S)) S 0 [(0, .ref (gad g 18)), (1, .int a0), (2, .int a1)] [] (mX10_has S a0 a1) := by
  unfold mX10_has
  refine j_iload_n C 1 rfl dX10_has_0 rfl ?_
  refine j_callSi C [.int a0] [] ms_X10_53 (fun _ h => ctX10_isIdeal h) ⟨(Nat.le_of_ble_eq_true rfl), (Nat.le_of_ble_eq_true rfl)⟩ (Nat.le_of_ble_eq_true rfl) dX10_has_1 rfl (fun r1 => ?_)
  refine j_if_ne C 9 dX10_has_4 (by decide) ?_ ?_
  · refine j_iload_n C 2 rfl dX10_has_9 rfl ?_
    refine j_callSi C [.int a1] [] ms_X10_81 (fun _ h => ctX3_isCode h) ⟨(Nat.le_of_ble_eq_true rfl), (Nat.le_of_ble_eq_true rfl)⟩ (Nat.le_of_ble_eq_true rfl) dX10_has_10 rfl (fun r2 => ?_)
    refine j_if_ne C 19 dX10_has_13 (by decide) ?_ ?_
    · refine j_aload_n C 0 rfl dX10_has_19 rfl ?_
      refine j_getR C (x := 61) fl_X10_19 sh_18 rfl rfl dX10_has_20 ?_
      refine j_getR C (x := 62) fl_X10_60 sh_61 rfl rfl dX10_has_23 ?_
      refine j_iload_n C 1 rfl dX10_has_26 rfl ?_
      refine j_aald2 C sh_62 rfl dX10_has_27 (fun j3 hj3 => ?_)
      refine j_iload_n C 2 rfl dX10_has_28 rfl ?_
      refine j_callSi C [.int a1] [.ref (gad g (el 62 j3))] ms_X10_84 (fun _ h => ctX3_ofCode h) ⟨(Nat.le_of_ble_eq_true rfl), (Nat.le_of_ble_eq_true rfl)⟩ (Nat.le_of_ble_eq_true rfl) dX10_has_29 rfl (fun r4 => ?_)
      refine j_callVi C [.int r4] [] mv_X10_87 (okI_62 (g := g) hj3).1 (okI_62 (g := g) hj3).2.2.1 rfl (fun _ h => ctX2_contains (okI_62 (g := g) hj3) h) ⟨(Nat.le_of_ble_eq_true rfl), (Nat.le_of_ble_eq_true rfl)⟩ (Nat.le_of_ble_eq_true rfl) dX10_has_32 rfl (fun r5 => ?_)
      refine j_if_eq C 42 dX10_has_35 (by decide) ?_ ?_
      · refine j_iconst C (v := 0) (by decide) dX10_has_42 ?_
        exact j_iret C rfl dX10_has_43
      · refine j_iconst C (v := 1) (by decide) dX10_has_38 ?_
        refine j_goto C 43 dX10_has_39 (by decide) ?_
        exact j_iret C rfl dX10_has_43
    · refine j_bipush C (v := (-2)) (by decide) dX10_has_16 ?_
      exact j_iret C rfl dX10_has_18
  · refine j_iconst C (v := (-1)) (by decide) dX10_has_7 ?_
    exact j_iret C rfl dX10_has_8
theorem ctX10_has {l : Launch} {g : GT} {S : St} {a0 : Int32} {a1 : Int32} {out : Int32} (ho : mX10_has S a0 a1 = some out) : CT l yX10_has cX10_has 3 (some .int) 2 43 [.ref (gad g 18), .int a0, .int a1] g S ((fun a : Int32 => (some (Value.int a), S)) out) := CT_of (φ := (fun a : Int32 => (some (Value.int a), S))) [.ref (gad g 18), .int a0, .int a1] ho (by decide) (Nat.le_of_ble_eq_true rfl) (xs := [(0, .ref (gad g 18)), (1, .int a0), (2, .int a1)]) rfl (fun κ C => wX10_has C S a0 a1)
/-! StairIdeals.make(IIII)I -/
def mX10_make (S : St) (a0 : Int32) (a1 : Int32) (a2 : Int32) (a3 : Int32) : Option (Int32 × St) := (mX10_isIdeal a1).bind fun r1 => if r1 = 0 then (some ((-1), S))
  else ((mX10_isIdeal a2).bind fun r2 => if r2 = 0 then (some ((-1), S))
  else ((mX10_isIdeal a3).bind fun r3 => if r3 = 0 then (some ((-1), S))
  else (if a0 < 0 then (some ((-2), S))
  else (if a0 ≤ 4 then (inb 4 a1 fun j4 => inb 4 a2 fun j5 => (mX9_combine S (el 62 j4) (el 62 j5) a0).bind fun r6 => if r6.1 = 0 then (some ((-3), r6.2))
  else (inb 4 a3 fun j7 => (mX9_deliver r6.2 (el 62 j7)).bind fun r8 => some (r8.1, r8.2)))
  else (some ((-2), S))))))
theorem wX10_make {κ : KT} {g : GT} (C : CX κ g RX10 cX10_make 5 (some .int) 6 132) (S : St) (a0 : Int32) (a1 : Int32) (a2 : Int32) (a3 : Int32) : J κ g 5 (fun a : Int32 × St => (some (Value.int a.1), a.2)) S 0 [(0, .ref (gad g 18)), (1, .int a0), (2, .int a1), (3, .int a2), (4, .int a3)] [] (mX10_make S a0 a1 a2 a3) := by
  unfold mX10_make
  refine j_iload_n C 2 rfl dX10_make_0 rfl ?_
  refine j_callSi C [.int a1] [] ms_X10_53 (fun _ h => ctX10_isIdeal h) ⟨(Nat.le_of_ble_eq_true rfl), (Nat.le_of_ble_eq_true rfl)⟩ (Nat.le_of_ble_eq_true rfl) dX10_make_1 rfl (fun r1 => ?_)
  refine j_if_eq C 22 dX10_make_4 (by decide) ?_ ?_
  · refine j_iconst C (v := (-1)) (by decide) dX10_make_22 ?_
    exact j_iret C rfl dX10_make_23
  · refine j_iload_n C 3 rfl dX10_make_7 rfl ?_
    refine j_callSi C [.int a2] [] ms_X10_53 (fun _ h => ctX10_isIdeal h) ⟨(Nat.le_of_ble_eq_true rfl), (Nat.le_of_ble_eq_true rfl)⟩ (Nat.le_of_ble_eq_true rfl) dX10_make_8 rfl (fun r2 => ?_)
    refine j_if_eq C 22 dX10_make_11 (by decide) ?_ ?_
    · refine j_iconst C (v := (-1)) (by decide) dX10_make_22 ?_
      exact j_iret C rfl dX10_make_23
    · refine j_iload C 4 rfl dX10_make_14 ?_
      refine j_callSi C [.int a3] [] ms_X10_53 (fun _ h => ctX10_isIdeal h) ⟨(Nat.le_of_ble_eq_true rfl), (Nat.le_of_ble_eq_true rfl)⟩ (Nat.le_of_ble_eq_true rfl) dX10_make_16 rfl (fun r3 => ?_)
      refine j_if_ne C 24 dX10_make_19 (by decide) ?_ ?_
      · refine j_iload_n C 1 rfl dX10_make_24 rfl ?_
        refine j_if_lt C 33 dX10_make_25 (by decide) ?_ ?_
        · refine j_bipush C (v := (-2)) (by decide) dX10_make_33 ?_
          exact j_iret C rfl dX10_make_35
        · refine j_iload_n C 1 rfl dX10_make_28 rfl ?_
          refine j_iconst C (v := 4) (by decide) dX10_make_29 ?_
          refine j_icmp_le C 36 dX10_make_30 (by decide) ?_ ?_
          · refine j_aload_n C 0 rfl dX10_make_36 rfl ?_
            refine j_getR C (x := 23) fl_X10_30 sh_18 rfl rfl dX10_make_37 ?_
            refine j_iload_n C 1 rfl dX10_make_40 rfl ?_
            refine j_aload_n C 0 rfl dX10_make_41 rfl ?_
            refine j_getR C (x := 61) fl_X10_19 sh_18 rfl rfl dX10_make_42 ?_
            refine j_getR C (x := 62) fl_X10_60 sh_61 rfl rfl dX10_make_45 ?_
            refine j_iload_n C 2 rfl dX10_make_48 rfl ?_
            refine j_aald2 C sh_62 rfl dX10_make_49 (fun j4 hj4 => ?_)
            refine j_aload_n C 0 rfl dX10_make_50 rfl ?_
            refine j_getR C (x := 61) fl_X10_19 sh_18 rfl rfl dX10_make_51 ?_
            refine j_getR C (x := 62) fl_X10_60 sh_61 rfl rfl dX10_make_54 ?_
            refine j_iload_n C 3 rfl dX10_make_57 rfl ?_
            refine j_aald2 C sh_62 rfl dX10_make_58 (fun j5 hj5 => ?_)
            refine j_callViS C [.int a0, .ref (gad g (el 62 j4)), .ref (gad g (el 62 j5))] [] mv_X10_90 sh_23 rfl rfl (fun _ h => ctX9_combine (okI_62 (g := g) hj4) (okI_62 (g := g) hj5) h) ⟨(Nat.le_of_ble_eq_true rfl), (Nat.le_of_ble_eq_true rfl)⟩ (Nat.le_of_ble_eq_true rfl) dX10_make_59 rfl (fun r6 => ?_)
            refine j_if_ne C 68 dX10_make_62 (by decide) ?_ ?_
            · refine j_aload_n C 0 rfl dX10_make_68 rfl ?_
              refine j_getR C (x := 23) fl_X10_30 sh_18 rfl rfl dX10_make_69 ?_
              refine j_aload_n C 0 rfl dX10_make_72 rfl ?_
              refine j_getR C (x := 61) fl_X10_19 sh_18 rfl rfl dX10_make_73 ?_
              refine j_getR C (x := 62) fl_X10_60 sh_61 rfl rfl dX10_make_76 ?_
              refine j_iload C 4 rfl dX10_make_79 ?_
              refine j_aald2 C sh_62 rfl dX10_make_81 (fun j7 hj7 => ?_)
              refine j_callViS C [.ref (gad g (el 62 j7))] [] mv_X10_64 sh_23 rfl rfl (fun _ h => ctX9_deliver (okI_62 (g := g) hj7) h) ⟨(Nat.le_of_ble_eq_true rfl), (Nat.le_of_ble_eq_true rfl)⟩ (Nat.le_of_ble_eq_true rfl) dX10_make_82 rfl (fun r8 => ?_)
              exact j_iret C rfl dX10_make_85
            · refine j_bipush C (v := (-3)) (by decide) dX10_make_65 ?_
              exact j_iret C rfl dX10_make_67
          · refine j_bipush C (v := (-2)) (by decide) dX10_make_33 ?_
            exact j_iret C rfl dX10_make_35
      · refine j_iconst C (v := (-1)) (by decide) dX10_make_22 ?_
        exact j_iret C rfl dX10_make_23
theorem ctX10_make {l : Launch} {g : GT} {S : St} {a0 : Int32} {a1 : Int32} {a2 : Int32} {a3 : Int32} {out : Int32 × St} (ho : mX10_make S a0 a1 a2 a3 = some out) : CT l yX10_make cX10_make 5 (some .int) 6 132 [.ref (gad g 18), .int a0, .int a1, .int a2, .int a3] g S ((fun a : Int32 × St => (some (Value.int a.1), a.2)) out) := CT_of (φ := (fun a : Int32 × St => (some (Value.int a.1), a.2))) [.ref (gad g 18), .int a0, .int a1, .int a2, .int a3] ho (by decide) (Nat.le_of_ble_eq_true rfl) (xs := [(0, .ref (gad g 18)), (1, .int a0), (2, .int a1), (3, .int a2), (4, .int a3)]) rfl (fun κ C => wX10_make C S a0 a1 a2 a3)
/-! StairIdeals.compare(II)I -/
def mX10_compare (S : St) (a0 : Int32) (a1 : Int32) : Option (Int32) := (mX10_isIdeal a0).bind fun r1 => if r1 = 0 then (some (-1))
  else ((mX10_isIdeal a1).bind fun r2 => if r2 = 0 then (some (-1))
  else (inb 4 a0 fun j3 => inb 4 a1 fun j4 => (mX2_isWithin S (el 62 j3) (el 62 j4)).bind fun r5 => inb 4 a1 fun j6 => inb 4 a0 fun j7 => (mX2_isWithin S (el 62 j6) (el 62 j7)).bind fun r8 => if r5 = 0 then (if r8 = 0 then (some 3)
  else (some 2))
  else (if r8 = 0 then (some 1)
  else (some 0))))
theorem wX10_compare {κ : KT} {g : GT} (C : CX κ g RX10 cX10_compare 5 (some .int) 3 65) (S : St) (a0 : Int32) (a1 : Int32) : J κ g 5 (fun a : Int32 => (some (Value.int a), S)) S 0 [(0, .ref (gad g 18)), (1, .int a0), (2, .int a1)] [] (mX10_compare S a0 a1) := by
  unfold mX10_compare
  refine j_iload_n C 1 rfl dX10_compare_0 rfl ?_
  refine j_callSi C [.int a0] [] ms_X10_53 (fun _ h => ctX10_isIdeal h) ⟨(Nat.le_of_ble_eq_true rfl), (Nat.le_of_ble_eq_true rfl)⟩ (Nat.le_of_ble_eq_true rfl) dX10_compare_1 rfl (fun r1 => ?_)
  refine j_if_eq C 14 dX10_compare_4 (by decide) ?_ ?_
  · refine j_iconst C (v := (-1)) (by decide) dX10_compare_14 ?_
    exact j_iret C rfl dX10_compare_15
  · refine j_iload_n C 2 rfl dX10_compare_7 rfl ?_
    refine j_callSi C [.int a1] [] ms_X10_53 (fun _ h => ctX10_isIdeal h) ⟨(Nat.le_of_ble_eq_true rfl), (Nat.le_of_ble_eq_true rfl)⟩ (Nat.le_of_ble_eq_true rfl) dX10_compare_8 rfl (fun r2 => ?_)
    refine j_if_ne C 16 dX10_compare_11 (by decide) ?_ ?_
    · refine j_aload_n C 0 rfl dX10_compare_16 rfl ?_
      refine j_getR C (x := 61) fl_X10_19 sh_18 rfl rfl dX10_compare_17 ?_
      refine j_getR C (x := 62) fl_X10_60 sh_61 rfl rfl dX10_compare_20 ?_
      refine j_iload_n C 1 rfl dX10_compare_23 rfl ?_
      refine j_aald2 C sh_62 rfl dX10_compare_24 (fun j3 hj3 => ?_)
      refine j_aload_n C 0 rfl dX10_compare_25 rfl ?_
      refine j_getR C (x := 61) fl_X10_19 sh_18 rfl rfl dX10_compare_26 ?_
      refine j_getR C (x := 62) fl_X10_60 sh_61 rfl rfl dX10_compare_29 ?_
      refine j_iload_n C 2 rfl dX10_compare_32 rfl ?_
      refine j_aald2 C sh_62 rfl dX10_compare_33 (fun j4 hj4 => ?_)
      refine j_callVi C [.ref (gad g (el 62 j4))] [] mv_X10_94 (okI_62 (g := g) hj3).1 (okI_62 (g := g) hj3).2.2.1 rfl (fun _ h => ctX2_isWithin (okI_62 (g := g) hj3) (okI_62 (g := g) hj4) h) ⟨(Nat.le_of_ble_eq_true rfl), (Nat.le_of_ble_eq_true rfl)⟩ (Nat.le_of_ble_eq_true rfl) dX10_compare_34 rfl (fun r5 => ?_)
      refine j_istore_n C (xs1 := [(0, .ref (gad g 18)), (1, .int a0), (2, .int a1), (3, .int r5)]) dX10_compare_37 rfl (by decide) rfl ?_
      refine j_aload_n C 0 rfl dX10_compare_38 rfl ?_
      refine j_getR C (x := 61) fl_X10_19 sh_18 rfl rfl dX10_compare_39 ?_
      refine j_getR C (x := 62) fl_X10_60 sh_61 rfl rfl dX10_compare_42 ?_
      refine j_iload_n C 2 rfl dX10_compare_45 rfl ?_
      refine j_aald2 C sh_62 rfl dX10_compare_46 (fun j6 hj6 => ?_)
      refine j_aload_n C 0 rfl dX10_compare_47 rfl ?_
      refine j_getR C (x := 61) fl_X10_19 sh_18 rfl rfl dX10_compare_48 ?_
      refine j_getR C (x := 62) fl_X10_60 sh_61 rfl rfl dX10_compare_51 ?_
      refine j_iload_n C 1 rfl dX10_compare_54 rfl ?_
      refine j_aald2 C sh_62 rfl dX10_compare_55 (fun j7 hj7 => ?_)
      refine j_callVi C [.ref (gad g (el 62 j7))] [] mv_X10_94 (okI_62 (g := g) hj6).1 (okI_62 (g := g) hj6).2.2.1 rfl (fun _ h => ctX2_isWithin (okI_62 (g := g) hj6) (okI_62 (g := g) hj7) h) ⟨(Nat.le_of_ble_eq_true rfl), (Nat.le_of_ble_eq_true rfl)⟩ (Nat.le_of_ble_eq_true rfl) dX10_compare_56 rfl (fun r8 => ?_)
      refine j_istore C (xs1 := [(0, .ref (gad g 18)), (1, .int a0), (2, .int a1), (3, .int r5), (4, .int r8)]) dX10_compare_59 (by decide) rfl ?_
      refine j_iload_n C 3 rfl dX10_compare_61 rfl ?_
      refine j_if_eq C 76 dX10_compare_62 (by decide) ?_ ?_
      · refine j_iload C 4 rfl dX10_compare_76 ?_
        refine j_if_eq C 85 dX10_compare_78 (by decide) ?_ ?_
        · refine j_iconst C (v := 3) (by decide) dX10_compare_85 ?_
          exact j_iret C rfl dX10_compare_86
        · refine j_iconst C (v := 2) (by decide) dX10_compare_81 ?_
          refine j_goto C 86 dX10_compare_82 (by decide) ?_
          exact j_iret C rfl dX10_compare_86
      · refine j_iload C 4 rfl dX10_compare_65 ?_
        refine j_if_eq C 74 dX10_compare_67 (by decide) ?_ ?_
        · refine j_iconst C (v := 1) (by decide) dX10_compare_74 ?_
          exact j_iret C rfl dX10_compare_75
        · refine j_iconst C (v := 0) (by decide) dX10_compare_70 ?_
          refine j_goto C 75 dX10_compare_71 (by decide) ?_
          exact j_iret C rfl dX10_compare_75
    · refine j_iconst C (v := (-1)) (by decide) dX10_compare_14 ?_
      exact j_iret C rfl dX10_compare_15
theorem ctX10_compare {l : Launch} {g : GT} {S : St} {a0 : Int32} {a1 : Int32} {out : Int32} (ho : mX10_compare S a0 a1 = some out) : CT l yX10_compare cX10_compare 5 (some .int) 3 65 [.ref (gad g 18), .int a0, .int a1] g S ((fun a : Int32 => (some (Value.int a), S)) out) := CT_of (φ := (fun a : Int32 => (some (Value.int a), S))) [.ref (gad g 18), .int a0, .int a1] ho (by decide) (Nat.le_of_ble_eq_true rfl) (xs := [(0, .ref (gad g 18)), (1, .int a0), (2, .int a1)]) rfl (fun κ C => wX10_compare C S a0 a1)
/-! StairIdeals.part(II)I -/
def mX10_part (S : St) (a0 : Int32) (a1 : Int32) : Option (Int32 × St) := (mX10_isIdeal a0).bind fun r1 => if r1 = 0 then (some ((-1), S))
  else (inb 4 a0 fun j2 => (mX7_look S (el 62 j2)).bind fun r3 => if a1 = (-1) then ((mX7_partCount r3).bind fun r5 => some (r5, r3))
  else ((mX7_partCode r3 a1).bind fun r4 => some (r4, r3)))
theorem wX10_part {κ : KT} {g : GT} (C : CX κ g RX10 cX10_part 3 (some .int) 6 130) (S : St) (a0 : Int32) (a1 : Int32) : J κ g 3 (fun a : Int32 × St => (some (Value.int a.1), a.2)) S 0 [(0, .ref (gad g 18)), (1, .int a0), (2, .int a1)] [] (mX10_part S a0 a1) := by
  unfold mX10_part
  refine j_iload_n C 1 rfl dX10_part_0 rfl ?_
  refine j_callSi C [.int a0] [] ms_X10_53 (fun _ h => ctX10_isIdeal h) ⟨(Nat.le_of_ble_eq_true rfl), (Nat.le_of_ble_eq_true rfl)⟩ (Nat.le_of_ble_eq_true rfl) dX10_part_1 rfl (fun r1 => ?_)
  refine j_if_ne C 9 dX10_part_4 (by decide) ?_ ?_
  · refine j_aload_n C 0 rfl dX10_part_9 rfl ?_
    refine j_getR C (x := 24) fl_X10_37 sh_18 rfl rfl dX10_part_10 ?_
    refine j_aload_n C 0 rfl dX10_part_13 rfl ?_
    refine j_getR C (x := 61) fl_X10_19 sh_18 rfl rfl dX10_part_14 ?_
    refine j_getR C (x := 62) fl_X10_60 sh_61 rfl rfl dX10_part_17 ?_
    refine j_iload_n C 1 rfl dX10_part_20 rfl ?_
    refine j_aald2 C sh_62 rfl dX10_part_21 (fun j2 hj2 => ?_)
    refine j_callVvS C [.ref (gad g (el 62 j2))] [] mv_X10_98 sh_24 rfl rfl (fun _ h => ctX7_look (okI_62 (g := g) hj2) h) ⟨(Nat.le_of_ble_eq_true rfl), (Nat.le_of_ble_eq_true rfl)⟩ (Nat.le_of_ble_eq_true rfl) dX10_part_22 rfl (fun r3 => ?_)
    refine j_iload_n C 2 rfl dX10_part_25 rfl ?_
    refine j_iconst C (v := (-1)) (by decide) dX10_part_26 ?_
    refine j_icmp_ne C 40 dX10_part_27 (by decide) ?_ ?_
    · refine j_aload_n C 0 rfl dX10_part_40 rfl ?_
      refine j_getR C (x := 24) fl_X10_37 sh_18 rfl rfl dX10_part_41 ?_
      refine j_iload_n C 2 rfl dX10_part_44 rfl ?_
      refine j_callVi C [.int a1] [] mv_X10_105 sh_24 rfl rfl (fun _ h => ctX7_partCode h) ⟨(Nat.le_of_ble_eq_true rfl), (Nat.le_of_ble_eq_true rfl)⟩ (Nat.le_of_ble_eq_true rfl) dX10_part_45 rfl (fun r4 => ?_)
      exact j_iret C rfl dX10_part_48
    · refine j_aload_n C 0 rfl dX10_part_30 rfl ?_
      refine j_getR C (x := 24) fl_X10_37 sh_18 rfl rfl dX10_part_31 ?_
      refine j_callVi C [] [] mv_X10_102 sh_24 rfl rfl (fun _ h => ctX7_partCount h) ⟨(Nat.le_of_ble_eq_true rfl), (Nat.le_of_ble_eq_true rfl)⟩ (Nat.le_of_ble_eq_true rfl) dX10_part_34 rfl (fun r5 => ?_)
      refine j_goto C 48 dX10_part_37 (by decide) ?_
      exact j_iret C rfl dX10_part_48
  · refine j_iconst C (v := (-1)) (by decide) dX10_part_7 ?_
    exact j_iret C rfl dX10_part_8
theorem ctX10_part {l : Launch} {g : GT} {S : St} {a0 : Int32} {a1 : Int32} {out : Int32 × St} (ho : mX10_part S a0 a1 = some out) : CT l yX10_part cX10_part 3 (some .int) 6 130 [.ref (gad g 18), .int a0, .int a1] g S ((fun a : Int32 × St => (some (Value.int a.1), a.2)) out) := CT_of (φ := (fun a : Int32 × St => (some (Value.int a.1), a.2))) [.ref (gad g 18), .int a0, .int a1] ho (by decide) (Nat.le_of_ble_eq_true rfl) (xs := [(0, .ref (gad g 18)), (1, .int a0), (2, .int a1)]) rfl (fun κ C => wX10_part C S a0 a1)
/-! StairIdeals.placeOfBit(II)I -/
def mX10_placeOfBit_28 (k4 : Int32 → Int32 → Int32 → Option (Int32)) (x0 : Int32) (x2 : Int32) (x3 : Int32) : Option (Int32) := bnd (x3 + 1) fun v1 => k4 x0 x2 v1
theorem wX10_placeOfBit_28 {κ : KT} {g : GT} (C : CX κ g RX10 cX10_placeOfBit 4 (some .int) 0 0) (S : St) (k4 : Int32 → Int32 → Int32 → Option (Int32)) (hk4 : ∀ (x0 : Int32) (x2 : Int32) (x3 : Int32), J κ g 4 (fun a : Int32 => (some (Value.int a), S)) S 4 [(0, .int x0), (2, .int x2), (3, .int x3)] [] (k4 x0 x2 x3)) (x0 : Int32) (x2 : Int32) (x3 : Int32) : J κ g 4 (fun a : Int32 => (some (Value.int a), S)) S 28 [(0, .int x0), (2, .int x2), (3, .int x3)] [] (mX10_placeOfBit_28 k4 x0 x2 x3) := by
  unfold mX10_placeOfBit_28
  refine j_iinc C (xs2 := fun v1 => [(0, .int x0), (2, .int x2), (3, .int v1)]) 2 rfl dX10_placeOfBit_28 (by decide) (by decide) (fun _ => rfl) (fun v1 => ?_)
  refine j_goto C 4 dX10_placeOfBit_31 (by decide) ?_
  exact hk4 x0 x2 v1
def mX10_placeOfBit_4 : Nat → Int32 → Int32 → Int32 → Option (Int32)
  | 0, _, _, _ => none
  | n + 1, x0, x2, x3 => if 16 ≤ x3 then (some (-6))
  else (if ((x0 >>> (x3 &&& 31)) &&& 1) = 1 then (if x2 = 0 then (some x3)
  else (bnd (x2 + (-1)) fun v1 => mX10_placeOfBit_28 (mX10_placeOfBit_4 n) x0 v1 x3))
  else (mX10_placeOfBit_28 (mX10_placeOfBit_4 n) x0 x2 x3))
theorem wX10_placeOfBit_4 {κ : KT} {g : GT} (C : CX κ g RX10 cX10_placeOfBit 4 (some .int) 0 0) (S : St) : ∀ (n : Nat) (x0 : Int32) (x2 : Int32) (x3 : Int32), J κ g 4 (fun a : Int32 => (some (Value.int a), S)) S 4 [(0, .int x0), (2, .int x2), (3, .int x3)] [] (mX10_placeOfBit_4 n x0 x2 x3) := by
  intro n
  induction n with
  | zero => intro x0 x2 x3; exact j_none
  | succ n ih =>
    intro x0 x2 x3
    rw [mX10_placeOfBit_4]
    refine j_iload_n C 2 rfl dX10_placeOfBit_4 rfl ?_
    refine j_bipush C (v := 16) (by decide) dX10_placeOfBit_5 ?_
    refine j_icmp_ge C 34 dX10_placeOfBit_7 (by decide) ?_ ?_
    · refine j_bipush C (v := (-6)) (by decide) dX10_placeOfBit_34 ?_
      exact j_iret C rfl dX10_placeOfBit_36
    · refine j_iload_n C 0 rfl dX10_placeOfBit_10 rfl ?_
      refine j_iload_n C 2 rfl dX10_placeOfBit_11 rfl ?_
      refine j_ishr C dX10_placeOfBit_12 ?_
      refine j_iconst C (v := 1) (by decide) dX10_placeOfBit_13 ?_
      refine j_iand C dX10_placeOfBit_14 ?_
      refine j_iconst C (v := 1) (by decide) dX10_placeOfBit_15 ?_
      refine j_icmp_ne C 28 dX10_placeOfBit_16 (by decide) ?_ ?_
      · exact wX10_placeOfBit_28 C S (mX10_placeOfBit_4 n) ih x0 x2 x3
      · refine j_iload_n C 1 rfl dX10_placeOfBit_19 rfl ?_
        refine j_if_ne C 25 dX10_placeOfBit_20 (by decide) ?_ ?_
        · refine j_iinc C (xs2 := fun v1 => [(0, .int x0), (2, .int v1), (3, .int x3)]) 1 rfl dX10_placeOfBit_25 (by decide) (by decide) (fun _ => rfl) (fun v1 => ?_)
          exact wX10_placeOfBit_28 C S (mX10_placeOfBit_4 n) ih x0 v1 x3
        · refine j_iload_n C 2 rfl dX10_placeOfBit_23 rfl ?_
          exact j_iret C rfl dX10_placeOfBit_24
def mX10_placeOfBit (a0 : Int32) (a1 : Int32) : Option (Int32) := mX10_placeOfBit_4 FU a0 a1 0
theorem wX10_placeOfBit {κ : KT} {g : GT} (C : CX κ g RX10 cX10_placeOfBit 4 (some .int) 0 0) (S : St) (a0 : Int32) (a1 : Int32) : J κ g 4 (fun a : Int32 => (some (Value.int a), S)) S 0 [(0, .int a0), (1, .int a1)] [] (mX10_placeOfBit a0 a1) := by
  unfold mX10_placeOfBit
  refine j_iload_n C 1 rfl dX10_placeOfBit_0 rfl ?_
  refine j_istore_n C (xs1 := [(0, .int a0), (1, .int a1), (2, .int a1)]) dX10_placeOfBit_1 rfl (by decide) rfl ?_
  refine j_iconst C (v := 0) (by decide) dX10_placeOfBit_2 ?_
  refine j_istore_n C (xs1 := [(0, .int a0), (1, .int a1), (2, .int a1), (3, .int 0)]) dX10_placeOfBit_3 rfl (by decide) rfl ?_
  refine j_sub (xs1 := [(0, .int a0), (2, .int a1), (3, .int 0)]) [0, 2, 3] rfl ?_
  exact wX10_placeOfBit_4 C S FU a0 a1 0
theorem ctX10_placeOfBit {l : Launch} {g : GT} {S : St} {a0 : Int32} {a1 : Int32} {out : Int32} (ho : mX10_placeOfBit a0 a1 = some out) : CT l yX10_placeOfBit cX10_placeOfBit 4 (some .int) 0 0 [.int a0, .int a1] g S ((fun a : Int32 => (some (Value.int a), S)) out) := CT_of (φ := (fun a : Int32 => (some (Value.int a), S))) [.int a0, .int a1] ho (by decide) (Nat.le_of_ble_eq_true rfl) (xs := [(0, .int a0), (1, .int a1)]) rfl (fun κ C => wX10_placeOfBit C S a0 a1)
/-! StairIdeals.prime(II)I -/
def mX10_prime (S : St) (a0 : Int32) (a1 : Int32) : Option (Int32 × St) := (mX10_isIdeal a0).bind fun r1 => if r1 = 0 then (some ((-1), S))
  else (inb 4 a0 fun j2 => (mX7_look S (el 62 j2)).bind fun r3 => (mX6_primes r3 59).bind fun r4 => if a1 = (-1) then ((mJ6_bitCount_0f7a4 r4).bind fun r6 => some (r6, r3))
  else ((mX10_placeOfBit r4 a1).bind fun r5 => some (r5, r3)))
theorem wX10_prime {κ : KT} {g : GT} (C : CX κ g RX10 cX10_prime 4 (some .int) 6 130) (S : St) (a0 : Int32) (a1 : Int32) : J κ g 4 (fun a : Int32 × St => (some (Value.int a.1), a.2)) S 0 [(0, .ref (gad g 18)), (1, .int a0), (2, .int a1)] [] (mX10_prime S a0 a1) := by
  unfold mX10_prime
  refine j_iload_n C 1 rfl dX10_prime_0 rfl ?_
  refine j_callSi C [.int a0] [] ms_X10_53 (fun _ h => ctX10_isIdeal h) ⟨(Nat.le_of_ble_eq_true rfl), (Nat.le_of_ble_eq_true rfl)⟩ (Nat.le_of_ble_eq_true rfl) dX10_prime_1 rfl (fun r1 => ?_)
  refine j_if_ne C 9 dX10_prime_4 (by decide) ?_ ?_
  · refine j_aload_n C 0 rfl dX10_prime_9 rfl ?_
    refine j_getR C (x := 24) fl_X10_37 sh_18 rfl rfl dX10_prime_10 ?_
    refine j_aload_n C 0 rfl dX10_prime_13 rfl ?_
    refine j_getR C (x := 61) fl_X10_19 sh_18 rfl rfl dX10_prime_14 ?_
    refine j_getR C (x := 62) fl_X10_60 sh_61 rfl rfl dX10_prime_17 ?_
    refine j_iload_n C 1 rfl dX10_prime_20 rfl ?_
    refine j_aald2 C sh_62 rfl dX10_prime_21 (fun j2 hj2 => ?_)
    refine j_callVvS C [.ref (gad g (el 62 j2))] [] mv_X10_98 sh_24 rfl rfl (fun _ h => ctX7_look (okI_62 (g := g) hj2) h) ⟨(Nat.le_of_ble_eq_true rfl), (Nat.le_of_ble_eq_true rfl)⟩ (Nat.le_of_ble_eq_true rfl) dX10_prime_22 rfl (fun r3 => ?_)
    refine j_aload_n C 0 rfl dX10_prime_25 rfl ?_
    refine j_getR C (x := 24) fl_X10_37 sh_18 rfl rfl dX10_prime_26 ?_
    refine j_getR C (x := 59) fl_X10_108 sh_24 rfl rfl dX10_prime_29 ?_
    refine j_callVi C [] [] mv_X10_112 sh_59 rfl rfl (fun _ h => ctX6_primes (okT_59 (g := g)) h) ⟨(Nat.le_of_ble_eq_true rfl), (Nat.le_of_ble_eq_true rfl)⟩ (Nat.le_of_ble_eq_true rfl) dX10_prime_32 rfl (fun r4 => ?_)
    refine j_istore_n C (xs1 := [(0, .ref (gad g 18)), (1, .int a0), (2, .int a1), (3, .int r4)]) dX10_prime_35 rfl (by decide) rfl ?_
    refine j_iload_n C 2 rfl dX10_prime_36 rfl ?_
    refine j_iconst C (v := (-1)) (by decide) dX10_prime_37 ?_
    refine j_icmp_ne C 48 dX10_prime_38 (by decide) ?_ ?_
    · refine j_iload_n C 3 rfl dX10_prime_48 rfl ?_
      refine j_iload_n C 2 rfl dX10_prime_49 rfl ?_
      refine j_callSi C [.int r4, .int a1] [] ms_X10_122 (fun _ h => ctX10_placeOfBit h) ⟨(Nat.le_of_ble_eq_true rfl), (Nat.le_of_ble_eq_true rfl)⟩ (Nat.le_of_ble_eq_true rfl) dX10_prime_50 rfl (fun r5 => ?_)
      exact j_iret C rfl dX10_prime_53
    · refine j_iload_n C 3 rfl dX10_prime_41 rfl ?_
      refine j_callSi C [.int r4] [] ms_X10_117 (fun _ h => ctJ6_bitCount_0f7a4 h) ⟨(Nat.le_of_ble_eq_true rfl), (Nat.le_of_ble_eq_true rfl)⟩ (Nat.le_of_ble_eq_true rfl) dX10_prime_42 rfl (fun r6 => ?_)
      refine j_goto C 53 dX10_prime_45 (by decide) ?_
      exact j_iret C rfl dX10_prime_53
  · refine j_iconst C (v := (-1)) (by decide) dX10_prime_7 ?_
    exact j_iret C rfl dX10_prime_8
theorem ctX10_prime {l : Launch} {g : GT} {S : St} {a0 : Int32} {a1 : Int32} {out : Int32 × St} (ho : mX10_prime S a0 a1 = some out) : CT l yX10_prime cX10_prime 4 (some .int) 6 130 [.ref (gad g 18), .int a0, .int a1] g S ((fun a : Int32 × St => (some (Value.int a.1), a.2)) out) := CT_of (φ := (fun a : Int32 × St => (some (Value.int a.1), a.2))) [.ref (gad g 18), .int a0, .int a1] ho (by decide) (Nat.le_of_ble_eq_true rfl) (xs := [(0, .ref (gad g 18)), (1, .int a0), (2, .int a1)]) rfl (fun κ C => wX10_prime C S a0 a1)
/-! StairIdeals.placeIsMissing(II)Z -/
def mX10_placeIsMissing_18 : Option (Int32) := some 1
theorem wX10_placeIsMissing_18 {κ : KT} {g : GT} (C : CX κ g RX10 cX10_placeIsMissing 2 (some .boolean) 0 0) (S : St) : J κ g 2 (fun a : Int32 => (some (Value.int a), S)) S 18 [] [] (mX10_placeIsMissing_18) := by
  unfold mX10_placeIsMissing_18
  refine j_iconst C (v := 1) (by decide) dX10_placeIsMissing_18 ?_
  refine j_goto C 23 dX10_placeIsMissing_19 (by decide) ?_
  exact j_zret C rfl rfl dX10_placeIsMissing_23
def mX10_placeIsMissing (a0 : Int32) (a1 : Int32) : Option (Int32) := if a1 < 0 then (mX10_placeIsMissing_18)
  else (if 16 ≤ a1 then (mX10_placeIsMissing_18)
  else (if ((a0 >>> (a1 &&& 31)) &&& 1) = 0 then (mX10_placeIsMissing_18)
  else (some 0)))
theorem wX10_placeIsMissing {κ : KT} {g : GT} (C : CX κ g RX10 cX10_placeIsMissing 2 (some .boolean) 0 0) (S : St) (a0 : Int32) (a1 : Int32) : J κ g 2 (fun a : Int32 => (some (Value.int a), S)) S 0 [(0, .int a0), (1, .int a1)] [] (mX10_placeIsMissing a0 a1) := by
  unfold mX10_placeIsMissing
  refine j_iload_n C 1 rfl dX10_placeIsMissing_0 rfl ?_
  refine j_if_lt C 18 dX10_placeIsMissing_1 (by decide) ?_ ?_
  · refine j_sub (xs1 := []) [] rfl ?_
    exact wX10_placeIsMissing_18 C S
  · refine j_iload_n C 1 rfl dX10_placeIsMissing_4 rfl ?_
    refine j_bipush C (v := 16) (by decide) dX10_placeIsMissing_5 ?_
    refine j_icmp_ge C 18 dX10_placeIsMissing_7 (by decide) ?_ ?_
    · refine j_sub (xs1 := []) [] rfl ?_
      exact wX10_placeIsMissing_18 C S
    · refine j_iload_n C 0 rfl dX10_placeIsMissing_10 rfl ?_
      refine j_iload_n C 1 rfl dX10_placeIsMissing_11 rfl ?_
      refine j_ishr C dX10_placeIsMissing_12 ?_
      refine j_iconst C (v := 1) (by decide) dX10_placeIsMissing_13 ?_
      refine j_iand C dX10_placeIsMissing_14 ?_
      refine j_if_ne C 22 dX10_placeIsMissing_15 (by decide) ?_ ?_
      · refine j_iconst C (v := 0) (by decide) dX10_placeIsMissing_22 ?_
        exact j_zret C rfl rfl dX10_placeIsMissing_23
      · refine j_sub (xs1 := []) [] rfl ?_
        exact wX10_placeIsMissing_18 C S
theorem ctX10_placeIsMissing {l : Launch} {g : GT} {S : St} {a0 : Int32} {a1 : Int32} {out : Int32} (ho : mX10_placeIsMissing a0 a1 = some out) : CT l yX10_placeIsMissing cX10_placeIsMissing 2 (some .boolean) 0 0 [.int a0, .int a1] g S ((fun a : Int32 => (some (Value.int a), S)) out) := CT_of (φ := (fun a : Int32 => (some (Value.int a), S))) [.int a0, .int a1] ho (by decide) (Nat.le_of_ble_eq_true rfl) (xs := [(0, .int a0), (1, .int a1)]) rfl (fun κ C => wX10_placeIsMissing C S a0 a1)
/-! StairIdeals.primary(III)I -/
def mX10_primary (S : St) (a0 : Int32) (a1 : Int32) (a2 : Int32) : Option (Int32 × St) := (mX10_isIdeal a0).bind fun r1 => if r1 = 0 then (some ((-1), S))
  else ((mX10_isIdeal a2).bind fun r2 => if r2 = 0 then (some ((-1), S))
  else (inb 4 a0 fun j3 => (mX7_look S (el 62 j3)).bind fun r4 => (mX6_primes r4 59).bind fun r5 => (mX10_placeIsMissing r5 a1).bind fun r6 => if r6 = 0 then ((mX9_meetParts r4 59 a1).bind fun r7 => inb 4 a2 fun j8 => (mX9_deliver r7 (el 62 j8)).bind fun r9 => some (r9.1, r9.2))
  else (some ((-3), r4))))
theorem wX10_primary {κ : KT} {g : GT} (C : CX κ g RX10 cX10_primary 4 (some .int) 6 130) (S : St) (a0 : Int32) (a1 : Int32) (a2 : Int32) : J κ g 4 (fun a : Int32 × St => (some (Value.int a.1), a.2)) S 0 [(0, .ref (gad g 18)), (1, .int a0), (2, .int a1), (3, .int a2)] [] (mX10_primary S a0 a1 a2) := by
  unfold mX10_primary
  refine j_iload_n C 1 rfl dX10_primary_0 rfl ?_
  refine j_callSi C [.int a0] [] ms_X10_53 (fun _ h => ctX10_isIdeal h) ⟨(Nat.le_of_ble_eq_true rfl), (Nat.le_of_ble_eq_true rfl)⟩ (Nat.le_of_ble_eq_true rfl) dX10_primary_1 rfl (fun r1 => ?_)
  refine j_if_eq C 14 dX10_primary_4 (by decide) ?_ ?_
  · refine j_iconst C (v := (-1)) (by decide) dX10_primary_14 ?_
    exact j_iret C rfl dX10_primary_15
  · refine j_iload_n C 3 rfl dX10_primary_7 rfl ?_
    refine j_callSi C [.int a2] [] ms_X10_53 (fun _ h => ctX10_isIdeal h) ⟨(Nat.le_of_ble_eq_true rfl), (Nat.le_of_ble_eq_true rfl)⟩ (Nat.le_of_ble_eq_true rfl) dX10_primary_8 rfl (fun r2 => ?_)
    refine j_if_ne C 16 dX10_primary_11 (by decide) ?_ ?_
    · refine j_aload_n C 0 rfl dX10_primary_16 rfl ?_
      refine j_getR C (x := 24) fl_X10_37 sh_18 rfl rfl dX10_primary_17 ?_
      refine j_aload_n C 0 rfl dX10_primary_20 rfl ?_
      refine j_getR C (x := 61) fl_X10_19 sh_18 rfl rfl dX10_primary_21 ?_
      refine j_getR C (x := 62) fl_X10_60 sh_61 rfl rfl dX10_primary_24 ?_
      refine j_iload_n C 1 rfl dX10_primary_27 rfl ?_
      refine j_aald2 C sh_62 rfl dX10_primary_28 (fun j3 hj3 => ?_)
      refine j_callVvS C [.ref (gad g (el 62 j3))] [] mv_X10_98 sh_24 rfl rfl (fun _ h => ctX7_look (okI_62 (g := g) hj3) h) ⟨(Nat.le_of_ble_eq_true rfl), (Nat.le_of_ble_eq_true rfl)⟩ (Nat.le_of_ble_eq_true rfl) dX10_primary_29 rfl (fun r4 => ?_)
      refine j_aload_n C 0 rfl dX10_primary_32 rfl ?_
      refine j_getR C (x := 24) fl_X10_37 sh_18 rfl rfl dX10_primary_33 ?_
      refine j_getR C (x := 59) fl_X10_108 sh_24 rfl rfl dX10_primary_36 ?_
      refine j_callVi C [] [] mv_X10_112 sh_59 rfl rfl (fun _ h => ctX6_primes (okT_59 (g := g)) h) ⟨(Nat.le_of_ble_eq_true rfl), (Nat.le_of_ble_eq_true rfl)⟩ (Nat.le_of_ble_eq_true rfl) dX10_primary_39 rfl (fun r5 => ?_)
      refine j_iload_n C 2 rfl dX10_primary_42 rfl ?_
      refine j_callSi C [.int r5, .int a1] [] ms_X10_126 (fun _ h => ctX10_placeIsMissing h) ⟨(Nat.le_of_ble_eq_true rfl), (Nat.le_of_ble_eq_true rfl)⟩ (Nat.le_of_ble_eq_true rfl) dX10_primary_43 rfl (fun r6 => ?_)
      refine j_if_eq C 52 dX10_primary_46 (by decide) ?_ ?_
      · refine j_aload_n C 0 rfl dX10_primary_52 rfl ?_
        refine j_getR C (x := 23) fl_X10_30 sh_18 rfl rfl dX10_primary_53 ?_
        refine j_aload_n C 0 rfl dX10_primary_56 rfl ?_
        refine j_getR C (x := 24) fl_X10_37 sh_18 rfl rfl dX10_primary_57 ?_
        refine j_getR C (x := 59) fl_X10_108 sh_24 rfl rfl dX10_primary_60 ?_
        refine j_iload_n C 2 rfl dX10_primary_63 rfl ?_
        refine j_callVvS C [.ref (gad g 59), .int a1] [] mv_X10_130 sh_23 rfl rfl (fun _ h => ctX9_meetParts (okT_59 (g := g)) h) ⟨(Nat.le_of_ble_eq_true rfl), (Nat.le_of_ble_eq_true rfl)⟩ (Nat.le_of_ble_eq_true rfl) dX10_primary_64 rfl (fun r7 => ?_)
        refine j_aload_n C 0 rfl dX10_primary_67 rfl ?_
        refine j_getR C (x := 23) fl_X10_30 sh_18 rfl rfl dX10_primary_68 ?_
        refine j_aload_n C 0 rfl dX10_primary_71 rfl ?_
        refine j_getR C (x := 61) fl_X10_19 sh_18 rfl rfl dX10_primary_72 ?_
        refine j_getR C (x := 62) fl_X10_60 sh_61 rfl rfl dX10_primary_75 ?_
        refine j_iload_n C 3 rfl dX10_primary_78 rfl ?_
        refine j_aald2 C sh_62 rfl dX10_primary_79 (fun j8 hj8 => ?_)
        refine j_callViS C [.ref (gad g (el 62 j8))] [] mv_X10_64 sh_23 rfl rfl (fun _ h => ctX9_deliver (okI_62 (g := g) hj8) h) ⟨(Nat.le_of_ble_eq_true rfl), (Nat.le_of_ble_eq_true rfl)⟩ (Nat.le_of_ble_eq_true rfl) dX10_primary_80 rfl (fun r9 => ?_)
        exact j_iret C rfl dX10_primary_83
      · refine j_bipush C (v := (-3)) (by decide) dX10_primary_49 ?_
        exact j_iret C rfl dX10_primary_51
    · refine j_iconst C (v := (-1)) (by decide) dX10_primary_14 ?_
      exact j_iret C rfl dX10_primary_15
theorem ctX10_primary {l : Launch} {g : GT} {S : St} {a0 : Int32} {a1 : Int32} {a2 : Int32} {out : Int32 × St} (ho : mX10_primary S a0 a1 a2 = some out) : CT l yX10_primary cX10_primary 4 (some .int) 6 130 [.ref (gad g 18), .int a0, .int a1, .int a2] g S ((fun a : Int32 × St => (some (Value.int a.1), a.2)) out) := CT_of (φ := (fun a : Int32 × St => (some (Value.int a.1), a.2))) [.ref (gad g 18), .int a0, .int a1, .int a2] ho (by decide) (Nat.le_of_ble_eq_true rfl) (xs := [(0, .ref (gad g 18)), (1, .int a0), (2, .int a1), (3, .int a2)]) rfl (fun κ C => wX10_primary C S a0 a1 a2)
/-! StairIdeals.dual(III)I -/
def mX10_dual (S : St) (a0 : Int32) (a1 : Int32) (a2 : Int32) : Option (Int32 × St) := (mX10_isIdeal a0).bind fun r1 => if r1 = 0 then (some ((-1), S))
  else ((mX10_isIdeal a2).bind fun r2 => if r2 = 0 then (some ((-1), S))
  else ((mX3_isCode a1).bind fun r3 => if r3 = 0 then (some ((-2), S))
  else ((mX3_ofCode a1).bind fun r4 => inb 4 a0 fun j5 => (mX2_allDivide S (el 62 j5) r4).bind fun r6 => if r6 = 0 then (some ((-3), S))
  else (inb 4 a0 fun j7 => (mX7_look S (el 62 j7)).bind fun r8 => (mX9_turnParts r8 59 r4).bind fun r9 => inb 4 a2 fun j10 => (mX9_deliver r9 (el 62 j10)).bind fun r11 => some (r11.1, r11.2)))))
theorem wX10_dual {κ : KT} {g : GT} (C : CX κ g RX10 cX10_dual 5 (some .int) 6 130) (S : St) (a0 : Int32) (a1 : Int32) (a2 : Int32) : J κ g 5 (fun a : Int32 × St => (some (Value.int a.1), a.2)) S 0 [(0, .ref (gad g 18)), (1, .int a0), (2, .int a1), (3, .int a2)] [] (mX10_dual S a0 a1 a2) := by
  unfold mX10_dual
  refine j_iload_n C 1 rfl dX10_dual_0 rfl ?_
  refine j_callSi C [.int a0] [] ms_X10_53 (fun _ h => ctX10_isIdeal h) ⟨(Nat.le_of_ble_eq_true rfl), (Nat.le_of_ble_eq_true rfl)⟩ (Nat.le_of_ble_eq_true rfl) dX10_dual_1 rfl (fun r1 => ?_)
  refine j_if_eq C 14 dX10_dual_4 (by decide) ?_ ?_
  · refine j_iconst C (v := (-1)) (by decide) dX10_dual_14 ?_
    exact j_iret C rfl dX10_dual_15
  · refine j_iload_n C 3 rfl dX10_dual_7 rfl ?_
    refine j_callSi C [.int a2] [] ms_X10_53 (fun _ h => ctX10_isIdeal h) ⟨(Nat.le_of_ble_eq_true rfl), (Nat.le_of_ble_eq_true rfl)⟩ (Nat.le_of_ble_eq_true rfl) dX10_dual_8 rfl (fun r2 => ?_)
    refine j_if_ne C 16 dX10_dual_11 (by decide) ?_ ?_
    · refine j_iload_n C 2 rfl dX10_dual_16 rfl ?_
      refine j_callSi C [.int a1] [] ms_X10_81 (fun _ h => ctX3_isCode h) ⟨(Nat.le_of_ble_eq_true rfl), (Nat.le_of_ble_eq_true rfl)⟩ (Nat.le_of_ble_eq_true rfl) dX10_dual_17 rfl (fun r3 => ?_)
      refine j_if_ne C 26 dX10_dual_20 (by decide) ?_ ?_
      · refine j_iload_n C 2 rfl dX10_dual_26 rfl ?_
        refine j_callSi C [.int a1] [] ms_X10_84 (fun _ h => ctX3_ofCode h) ⟨(Nat.le_of_ble_eq_true rfl), (Nat.le_of_ble_eq_true rfl)⟩ (Nat.le_of_ble_eq_true rfl) dX10_dual_27 rfl (fun r4 => ?_)
        refine j_istore C (xs1 := [(0, .ref (gad g 18)), (1, .int a0), (2, .int a1), (3, .int a2), (4, .int r4)]) dX10_dual_30 (by decide) rfl ?_
        refine j_aload_n C 0 rfl dX10_dual_32 rfl ?_
        refine j_getR C (x := 61) fl_X10_19 sh_18 rfl rfl dX10_dual_33 ?_
        refine j_getR C (x := 62) fl_X10_60 sh_61 rfl rfl dX10_dual_36 ?_
        refine j_iload_n C 1 rfl dX10_dual_39 rfl ?_
        refine j_aald2 C sh_62 rfl dX10_dual_40 (fun j5 hj5 => ?_)
        refine j_iload C 4 rfl dX10_dual_41 ?_
        refine j_callVi C [.int r4] [] mv_X10_134 (okI_62 (g := g) hj5).1 (okI_62 (g := g) hj5).2.2.1 rfl (fun _ h => ctX2_allDivide (okI_62 (g := g) hj5) h) ⟨(Nat.le_of_ble_eq_true rfl), (Nat.le_of_ble_eq_true rfl)⟩ (Nat.le_of_ble_eq_true rfl) dX10_dual_43 rfl (fun r6 => ?_)
        refine j_if_ne C 52 dX10_dual_46 (by decide) ?_ ?_
        · refine j_aload_n C 0 rfl dX10_dual_52 rfl ?_
          refine j_getR C (x := 24) fl_X10_37 sh_18 rfl rfl dX10_dual_53 ?_
          refine j_aload_n C 0 rfl dX10_dual_56 rfl ?_
          refine j_getR C (x := 61) fl_X10_19 sh_18 rfl rfl dX10_dual_57 ?_
          refine j_getR C (x := 62) fl_X10_60 sh_61 rfl rfl dX10_dual_60 ?_
          refine j_iload_n C 1 rfl dX10_dual_63 rfl ?_
          refine j_aald2 C sh_62 rfl dX10_dual_64 (fun j7 hj7 => ?_)
          refine j_callVvS C [.ref (gad g (el 62 j7))] [] mv_X10_98 sh_24 rfl rfl (fun _ h => ctX7_look (okI_62 (g := g) hj7) h) ⟨(Nat.le_of_ble_eq_true rfl), (Nat.le_of_ble_eq_true rfl)⟩ (Nat.le_of_ble_eq_true rfl) dX10_dual_65 rfl (fun r8 => ?_)
          refine j_aload_n C 0 rfl dX10_dual_68 rfl ?_
          refine j_getR C (x := 23) fl_X10_30 sh_18 rfl rfl dX10_dual_69 ?_
          refine j_aload_n C 0 rfl dX10_dual_72 rfl ?_
          refine j_getR C (x := 24) fl_X10_37 sh_18 rfl rfl dX10_dual_73 ?_
          refine j_getR C (x := 59) fl_X10_108 sh_24 rfl rfl dX10_dual_76 ?_
          refine j_iload C 4 rfl dX10_dual_79 ?_
          refine j_callVvS C [.ref (gad g 59), .int r4] [] mv_X10_137 sh_23 rfl rfl (fun _ h => ctX9_turnParts (okT_59 (g := g)) h) ⟨(Nat.le_of_ble_eq_true rfl), (Nat.le_of_ble_eq_true rfl)⟩ (Nat.le_of_ble_eq_true rfl) dX10_dual_81 rfl (fun r9 => ?_)
          refine j_aload_n C 0 rfl dX10_dual_84 rfl ?_
          refine j_getR C (x := 23) fl_X10_30 sh_18 rfl rfl dX10_dual_85 ?_
          refine j_aload_n C 0 rfl dX10_dual_88 rfl ?_
          refine j_getR C (x := 61) fl_X10_19 sh_18 rfl rfl dX10_dual_89 ?_
          refine j_getR C (x := 62) fl_X10_60 sh_61 rfl rfl dX10_dual_92 ?_
          refine j_iload_n C 3 rfl dX10_dual_95 rfl ?_
          refine j_aald2 C sh_62 rfl dX10_dual_96 (fun j10 hj10 => ?_)
          refine j_callViS C [.ref (gad g (el 62 j10))] [] mv_X10_64 sh_23 rfl rfl (fun _ h => ctX9_deliver (okI_62 (g := g) hj10) h) ⟨(Nat.le_of_ble_eq_true rfl), (Nat.le_of_ble_eq_true rfl)⟩ (Nat.le_of_ble_eq_true rfl) dX10_dual_97 rfl (fun r11 => ?_)
          exact j_iret C rfl dX10_dual_100
        · refine j_bipush C (v := (-3)) (by decide) dX10_dual_49 ?_
          exact j_iret C rfl dX10_dual_51
      · refine j_bipush C (v := (-2)) (by decide) dX10_dual_23 ?_
        exact j_iret C rfl dX10_dual_25
    · refine j_iconst C (v := (-1)) (by decide) dX10_dual_14 ?_
      exact j_iret C rfl dX10_dual_15
theorem ctX10_dual {l : Launch} {g : GT} {S : St} {a0 : Int32} {a1 : Int32} {a2 : Int32} {out : Int32 × St} (ho : mX10_dual S a0 a1 a2 = some out) : CT l yX10_dual cX10_dual 5 (some .int) 6 130 [.ref (gad g 18), .int a0, .int a1, .int a2] g S ((fun a : Int32 × St => (some (Value.int a.1), a.2)) out) := CT_of (φ := (fun a : Int32 × St => (some (Value.int a.1), a.2))) [.ref (gad g 18), .int a0, .int a1, .int a2] ho (by decide) (Nat.le_of_ble_eq_true rfl) (xs := [(0, .ref (gad g 18)), (1, .int a0), (2, .int a1), (3, .int a2)]) rfl (fun κ C => wX10_dual C S a0 a1 a2)
/-! StairIdeals.refuseDegree(II)I -/
def mX10_refuseDegree_19 : Option (Int32) := some (-2)
theorem wX10_refuseDegree_19 {κ : KT} {g : GT} (C : CX κ g RX10 cX10_refuseDegree 2 (some .int) 1 20) (S : St) : J κ g 2 (fun a : Int32 => (some (Value.int a), S)) S 19 [] [] (mX10_refuseDegree_19) := by
  unfold mX10_refuseDegree_19
  refine j_bipush C (v := (-2)) (by decide) dX10_refuseDegree_19 ?_
  refine j_goto C 25 dX10_refuseDegree_21 (by decide) ?_
  exact j_iret C rfl dX10_refuseDegree_25
def mX10_refuseDegree (a0 : Int32) (a1 : Int32) : Option (Int32) := (mX10_isIdeal a0).bind fun r1 => if r1 = 0 then (some (-1))
  else (if a1 < 0 then (mX10_refuseDegree_19)
  else (if a1 ≤ 60 then (some 0)
  else (mX10_refuseDegree_19)))
theorem wX10_refuseDegree {κ : KT} {g : GT} (C : CX κ g RX10 cX10_refuseDegree 2 (some .int) 1 20) (S : St) (a0 : Int32) (a1 : Int32) : J κ g 2 (fun a : Int32 => (some (Value.int a), S)) S 0 [(0, .int a0), (1, .int a1)] [] (mX10_refuseDegree a0 a1) := by
  unfold mX10_refuseDegree
  refine j_iload_n C 0 rfl dX10_refuseDegree_0 rfl ?_
  refine j_callSi C [.int a0] [] ms_X10_53 (fun _ h => ctX10_isIdeal h) ⟨(Nat.le_of_ble_eq_true rfl), (Nat.le_of_ble_eq_true rfl)⟩ (Nat.le_of_ble_eq_true rfl) dX10_refuseDegree_1 rfl (fun r1 => ?_)
  refine j_if_ne C 9 dX10_refuseDegree_4 (by decide) ?_ ?_
  · refine j_iload_n C 1 rfl dX10_refuseDegree_9 rfl ?_
    refine j_if_lt C 19 dX10_refuseDegree_10 (by decide) ?_ ?_
    · refine j_sub (xs1 := []) [] rfl ?_
      exact wX10_refuseDegree_19 C S
    · refine j_iload_n C 1 rfl dX10_refuseDegree_13 rfl ?_
      refine j_bipush C (v := 60) (by decide) dX10_refuseDegree_14 ?_
      refine j_icmp_le C 24 dX10_refuseDegree_16 (by decide) ?_ ?_
      · refine j_iconst C (v := 0) (by decide) dX10_refuseDegree_24 ?_
        exact j_iret C rfl dX10_refuseDegree_25
      · refine j_sub (xs1 := []) [] rfl ?_
        exact wX10_refuseDegree_19 C S
  · refine j_iconst C (v := (-1)) (by decide) dX10_refuseDegree_7 ?_
    exact j_iret C rfl dX10_refuseDegree_8
theorem ctX10_refuseDegree {l : Launch} {g : GT} {S : St} {a0 : Int32} {a1 : Int32} {out : Int32} (ho : mX10_refuseDegree a0 a1 = some out) : CT l yX10_refuseDegree cX10_refuseDegree 2 (some .int) 1 20 [.int a0, .int a1] g S ((fun a : Int32 => (some (Value.int a), S)) out) := CT_of (φ := (fun a : Int32 => (some (Value.int a), S))) [.int a0, .int a1] ho (by decide) (Nat.le_of_ble_eq_true rfl) (xs := [(0, .int a0), (1, .int a1)]) rfl (fun κ C => wX10_refuseDegree C S a0 a1)
/-! StairIdeals.count(II)I -/
def mX10_count (S : St) (a0 : Int32) (a1 : Int32) : Option (Int32 × St) := (mX10_refuseDegree a0 a1).bind fun r1 => if r1 = 0 then (inb 4 a0 fun j2 => (mX7_look S (el 62 j2)).bind fun r3 => (mX7_standardOfDegree r3 a1).bind fun r4 => some (r4.1, r4.2))
  else (some (r1, S))
theorem wX10_count {κ : KT} {g : GT} (C : CX κ g RX10 cX10_count 4 (some .int) 6 130) (S : St) (a0 : Int32) (a1 : Int32) : J κ g 4 (fun a : Int32 × St => (some (Value.int a.1), a.2)) S 0 [(0, .ref (gad g 18)), (1, .int a0), (2, .int a1)] [] (mX10_count S a0 a1) := by
  unfold mX10_count
  refine j_iload_n C 1 rfl dX10_count_0 rfl ?_
  refine j_iload_n C 2 rfl dX10_count_1 rfl ?_
  refine j_callSi C [.int a0, .int a1] [] ms_X10_140 (fun _ h => ctX10_refuseDegree h) ⟨(Nat.le_of_ble_eq_true rfl), (Nat.le_of_ble_eq_true rfl)⟩ (Nat.le_of_ble_eq_true rfl) dX10_count_2 rfl (fun r1 => ?_)
  refine j_istore_n C (xs1 := [(0, .ref (gad g 18)), (1, .int a0), (2, .int a1), (3, .int r1)]) dX10_count_5 rfl (by decide) rfl ?_
  refine j_iload_n C 3 rfl dX10_count_6 rfl ?_
  refine j_if_eq C 12 dX10_count_7 (by decide) ?_ ?_
  · refine j_aload_n C 0 rfl dX10_count_12 rfl ?_
    refine j_getR C (x := 24) fl_X10_37 sh_18 rfl rfl dX10_count_13 ?_
    refine j_aload_n C 0 rfl dX10_count_16 rfl ?_
    refine j_getR C (x := 61) fl_X10_19 sh_18 rfl rfl dX10_count_17 ?_
    refine j_getR C (x := 62) fl_X10_60 sh_61 rfl rfl dX10_count_20 ?_
    refine j_iload_n C 1 rfl dX10_count_23 rfl ?_
    refine j_aald2 C sh_62 rfl dX10_count_24 (fun j2 hj2 => ?_)
    refine j_callVvS C [.ref (gad g (el 62 j2))] [] mv_X10_98 sh_24 rfl rfl (fun _ h => ctX7_look (okI_62 (g := g) hj2) h) ⟨(Nat.le_of_ble_eq_true rfl), (Nat.le_of_ble_eq_true rfl)⟩ (Nat.le_of_ble_eq_true rfl) dX10_count_25 rfl (fun r3 => ?_)
    refine j_aload_n C 0 rfl dX10_count_28 rfl ?_
    refine j_getR C (x := 24) fl_X10_37 sh_18 rfl rfl dX10_count_29 ?_
    refine j_iload_n C 2 rfl dX10_count_32 rfl ?_
    refine j_callViS C [.int a1] [] mv_X10_143 sh_24 rfl rfl (fun _ h => ctX7_standardOfDegree h) ⟨(Nat.le_of_ble_eq_true rfl), (Nat.le_of_ble_eq_true rfl)⟩ (Nat.le_of_ble_eq_true rfl) dX10_count_33 rfl (fun r4 => ?_)
    exact j_iret C rfl dX10_count_36
  · refine j_iload_n C 3 rfl dX10_count_10 rfl ?_
    exact j_iret C rfl dX10_count_11
theorem ctX10_count {l : Launch} {g : GT} {S : St} {a0 : Int32} {a1 : Int32} {out : Int32 × St} (ho : mX10_count S a0 a1 = some out) : CT l yX10_count cX10_count 4 (some .int) 6 130 [.ref (gad g 18), .int a0, .int a1] g S ((fun a : Int32 × St => (some (Value.int a.1), a.2)) out) := CT_of (φ := (fun a : Int32 × St => (some (Value.int a.1), a.2))) [.ref (gad g 18), .int a0, .int a1] ho (by decide) (Nat.le_of_ble_eq_true rfl) (xs := [(0, .ref (gad g 18)), (1, .int a0), (2, .int a1)]) rfl (fun κ C => wX10_count C S a0 a1)
/-! StairIdeals.series(II)I -/
def mX10_series (S : St) (a0 : Int32) (a1 : Int32) : Option (Int32 × St) := (mX10_refuseDegree a0 a1).bind fun r1 => if r1 = 0 then (inb 4 a0 fun j2 => (mX7_look S (el 62 j2)).bind fun r3 => (mX7_seriesFactor r3 a1).bind fun r4 => some (r4.1, r4.2))
  else (some ((-1000000) + r1, S))
theorem wX10_series {κ : KT} {g : GT} (C : CX κ g RX10 cX10_series 4 (some .int) 6 130) (S : St) (a0 : Int32) (a1 : Int32) : J κ g 4 (fun a : Int32 × St => (some (Value.int a.1), a.2)) S 0 [(0, .ref (gad g 18)), (1, .int a0), (2, .int a1)] [] (mX10_series S a0 a1) := by
  unfold mX10_series
  refine j_iload_n C 1 rfl dX10_series_0 rfl ?_
  refine j_iload_n C 2 rfl dX10_series_1 rfl ?_
  refine j_callSi C [.int a0, .int a1] [] ms_X10_140 (fun _ h => ctX10_refuseDegree h) ⟨(Nat.le_of_ble_eq_true rfl), (Nat.le_of_ble_eq_true rfl)⟩ (Nat.le_of_ble_eq_true rfl) dX10_series_2 rfl (fun r1 => ?_)
  refine j_istore_n C (xs1 := [(0, .ref (gad g 18)), (1, .int a0), (2, .int a1), (3, .int r1)]) dX10_series_5 rfl (by decide) rfl ?_
  refine j_iload_n C 3 rfl dX10_series_6 rfl ?_
  refine j_if_eq C 15 dX10_series_7 (by decide) ?_ ?_
  · refine j_aload_n C 0 rfl dX10_series_15 rfl ?_
    refine j_getR C (x := 24) fl_X10_37 sh_18 rfl rfl dX10_series_16 ?_
    refine j_aload_n C 0 rfl dX10_series_19 rfl ?_
    refine j_getR C (x := 61) fl_X10_19 sh_18 rfl rfl dX10_series_20 ?_
    refine j_getR C (x := 62) fl_X10_60 sh_61 rfl rfl dX10_series_23 ?_
    refine j_iload_n C 1 rfl dX10_series_26 rfl ?_
    refine j_aald2 C sh_62 rfl dX10_series_27 (fun j2 hj2 => ?_)
    refine j_callVvS C [.ref (gad g (el 62 j2))] [] mv_X10_98 sh_24 rfl rfl (fun _ h => ctX7_look (okI_62 (g := g) hj2) h) ⟨(Nat.le_of_ble_eq_true rfl), (Nat.le_of_ble_eq_true rfl)⟩ (Nat.le_of_ble_eq_true rfl) dX10_series_28 rfl (fun r3 => ?_)
    refine j_aload_n C 0 rfl dX10_series_31 rfl ?_
    refine j_getR C (x := 24) fl_X10_37 sh_18 rfl rfl dX10_series_32 ?_
    refine j_iload_n C 2 rfl dX10_series_35 rfl ?_
    refine j_callViS C [.int a1] [] mv_X10_147 sh_24 rfl rfl (fun _ h => ctX7_seriesFactor h) ⟨(Nat.le_of_ble_eq_true rfl), (Nat.le_of_ble_eq_true rfl)⟩ (Nat.le_of_ble_eq_true rfl) dX10_series_36 rfl (fun r4 => ?_)
    exact j_iret C rfl dX10_series_39
  · refine j_ldc C (v := (-1000000)) wd_556 dX10_series_10 ?_
    refine j_iload_n C 3 rfl dX10_series_12 rfl ?_
    refine j_iadd C dX10_series_13 ?_
    exact j_iret C rfl dX10_series_14
theorem ctX10_series {l : Launch} {g : GT} {S : St} {a0 : Int32} {a1 : Int32} {out : Int32 × St} (ho : mX10_series S a0 a1 = some out) : CT l yX10_series cX10_series 4 (some .int) 6 130 [.ref (gad g 18), .int a0, .int a1] g S ((fun a : Int32 × St => (some (Value.int a.1), a.2)) out) := CT_of (φ := (fun a : Int32 × St => (some (Value.int a.1), a.2))) [.ref (gad g 18), .int a0, .int a1] ho (by decide) (Nat.le_of_ble_eq_true rfl) (xs := [(0, .ref (gad g 18)), (1, .int a0), (2, .int a1)]) rfl (fun κ C => wX10_series C S a0 a1)
/-! StairIdeals.facts(II)I -/
def mX10_facts (S : St) (a0 : Int32) (a1 : Int32) : Option (Int32 × St) := (mX10_isIdeal a0).bind fun r1 => if r1 = 0 then (some ((-1), S))
  else (inb 4 a0 fun j2 => (mX7_look S (el 62 j2)).bind fun r3 => if a1 = 0 then ((mX6_dimension r3 59).bind fun r4 => some (r4, r3))
  else if a1 = 1 then ((mX6_standardInAll r3 59).bind fun r5 => some (r5, r3))
  else if a1 = 2 then ((mX7_pivots r3 (el 62 j2)).bind fun r6 => some (r6.1, r6.2))
  else if a1 = 3 then ((mX7_nestedPivots r3 (el 62 j2)).bind fun r7 => some (r7.1, r7.2))
  else if a1 = 4 then ((mX7_latticeSize r3 (el 62 j2)).bind fun r8 => some (r8, r3))
  else (some ((-2), r3)))
theorem wX10_facts {κ : KT} {g : GT} (C : CX κ g RX10 cX10_facts 4 (some .int) 32 750) (S : St) (a0 : Int32) (a1 : Int32) : J κ g 4 (fun a : Int32 × St => (some (Value.int a.1), a.2)) S 0 [(0, .ref (gad g 18)), (1, .int a0), (2, .int a1)] [] (mX10_facts S a0 a1) := by
  unfold mX10_facts
  refine j_iload_n C 1 rfl dX10_facts_0 rfl ?_
  refine j_callSi C [.int a0] [] ms_X10_53 (fun _ h => ctX10_isIdeal h) ⟨(Nat.le_of_ble_eq_true rfl), (Nat.le_of_ble_eq_true rfl)⟩ (Nat.le_of_ble_eq_true rfl) dX10_facts_1 rfl (fun r1 => ?_)
  refine j_if_ne C 9 dX10_facts_4 (by decide) ?_ ?_
  · refine j_aload_n C 0 rfl dX10_facts_9 rfl ?_
    refine j_getR C (x := 61) fl_X10_19 sh_18 rfl rfl dX10_facts_10 ?_
    refine j_getR C (x := 62) fl_X10_60 sh_61 rfl rfl dX10_facts_13 ?_
    refine j_iload_n C 1 rfl dX10_facts_16 rfl ?_
    refine j_aald2 C sh_62 rfl dX10_facts_17 (fun j2 hj2 => ?_)
    refine j_astore_n C (xs1 := [(0, .ref (gad g 18)), (1, .int a0), (2, .int a1), (3, .ref (gad g (el 62 j2)))]) dX10_facts_18 rfl (by decide) rfl ?_
    refine j_aload_n C 0 rfl dX10_facts_19 rfl ?_
    refine j_getR C (x := 24) fl_X10_37 sh_18 rfl rfl dX10_facts_20 ?_
    refine j_aload_n C 3 rfl dX10_facts_23 rfl ?_
    refine j_callVvS C [.ref (gad g (el 62 j2))] [] mv_X10_98 sh_24 rfl rfl (fun _ h => ctX7_look (okI_62 (g := g) hj2) h) ⟨(Nat.le_of_ble_eq_true rfl), (Nat.le_of_ble_eq_true rfl)⟩ (Nat.le_of_ble_eq_true rfl) dX10_facts_24 rfl (fun r3 => ?_)
    refine j_iload_n C 2 rfl dX10_facts_27 rfl ?_
    refine j_case (fun hx0 => ?_) (fun hx0 => ?_)
    · refine j_tswIn C (off := 36) 64 hx0 dX10_facts_28 (by decide) (by decide) (by decide) (by decide) ?_
      refine j_aload_n C 0 rfl dX10_facts_64 rfl ?_
      refine j_getR C (x := 24) fl_X10_37 sh_18 rfl rfl dX10_facts_65 ?_
      refine j_getR C (x := 59) fl_X10_108 sh_24 rfl rfl dX10_facts_68 ?_
      refine j_callVi C [] [] mv_X10_150 sh_59 rfl rfl (fun _ h => ctX6_dimension (okT_59 (g := g)) h) ⟨(Nat.le_of_ble_eq_true rfl), (Nat.le_of_ble_eq_true rfl)⟩ (Nat.le_of_ble_eq_true rfl) dX10_facts_71 rfl (fun r4 => ?_)
      exact j_iret C rfl dX10_facts_74
    refine j_case (fun hx1 => ?_) (fun hx1 => ?_)
    · refine j_tswIn C (off := 47) 75 hx1 dX10_facts_28 (by decide) (by decide) (by decide) (by decide) ?_
      refine j_aload_n C 0 rfl dX10_facts_75 rfl ?_
      refine j_getR C (x := 24) fl_X10_37 sh_18 rfl rfl dX10_facts_76 ?_
      refine j_getR C (x := 59) fl_X10_108 sh_24 rfl rfl dX10_facts_79 ?_
      refine j_callVi C [] [] mv_X10_153 sh_59 rfl rfl (fun _ h => ctX6_standardInAll (okT_59 (g := g)) h) ⟨(Nat.le_of_ble_eq_true rfl), (Nat.le_of_ble_eq_true rfl)⟩ (Nat.le_of_ble_eq_true rfl) dX10_facts_82 rfl (fun r5 => ?_)
      exact j_iret C rfl dX10_facts_85
    refine j_case (fun hx2 => ?_) (fun hx2 => ?_)
    · refine j_tswIn C (off := 58) 86 hx2 dX10_facts_28 (by decide) (by decide) (by decide) (by decide) ?_
      refine j_aload_n C 0 rfl dX10_facts_86 rfl ?_
      refine j_getR C (x := 24) fl_X10_37 sh_18 rfl rfl dX10_facts_87 ?_
      refine j_aload_n C 3 rfl dX10_facts_90 rfl ?_
      refine j_callViS C [.ref (gad g (el 62 j2))] [] mv_X10_156 sh_24 rfl rfl (fun _ h => ctX7_pivots (okI_62 (g := g) hj2) h) ⟨(Nat.le_of_ble_eq_true rfl), (Nat.le_of_ble_eq_true rfl)⟩ (Nat.le_of_ble_eq_true rfl) dX10_facts_91 rfl (fun r6 => ?_)
      exact j_iret C rfl dX10_facts_94
    refine j_case (fun hx3 => ?_) (fun hx3 => ?_)
    · refine j_tswIn C (off := 67) 95 hx3 dX10_facts_28 (by decide) (by decide) (by decide) (by decide) ?_
      refine j_aload_n C 0 rfl dX10_facts_95 rfl ?_
      refine j_getR C (x := 24) fl_X10_37 sh_18 rfl rfl dX10_facts_96 ?_
      refine j_aload_n C 3 rfl dX10_facts_99 rfl ?_
      refine j_callViS C [.ref (gad g (el 62 j2))] [] mv_X10_159 sh_24 rfl rfl (fun _ h => ctX7_nestedPivots (okI_62 (g := g) hj2) h) ⟨(Nat.le_of_ble_eq_true rfl), (Nat.le_of_ble_eq_true rfl)⟩ (Nat.le_of_ble_eq_true rfl) dX10_facts_100 rfl (fun r7 => ?_)
      exact j_iret C rfl dX10_facts_103
    refine j_case (fun hx4 => ?_) (fun hx4 => ?_)
    · refine j_tswIn C (off := 76) 104 hx4 dX10_facts_28 (by decide) (by decide) (by decide) (by decide) ?_
      refine j_aload_n C 0 rfl dX10_facts_104 rfl ?_
      refine j_getR C (x := 24) fl_X10_37 sh_18 rfl rfl dX10_facts_105 ?_
      refine j_aload_n C 3 rfl dX10_facts_108 rfl ?_
      refine j_callVi C [.ref (gad g (el 62 j2))] [] mv_X10_162 sh_24 rfl rfl (fun _ h => ctX7_latticeSize (okI_62 (g := g) hj2) h) ⟨(Nat.le_of_ble_eq_true rfl), (Nat.le_of_ble_eq_true rfl)⟩ (Nat.le_of_ble_eq_true rfl) dX10_facts_109 rfl (fun r8 => ?_)
      exact j_iret C rfl dX10_facts_112
    refine j_tswOut4 C 113 dX10_facts_28 hx0 hx1 hx2 hx3 hx4 (by decide) ?_
    refine j_bipush C (v := (-2)) (by decide) dX10_facts_113 ?_
    exact j_iret C rfl dX10_facts_115
  · refine j_iconst C (v := (-1)) (by decide) dX10_facts_7 ?_
    exact j_iret C rfl dX10_facts_8
theorem ctX10_facts {l : Launch} {g : GT} {S : St} {a0 : Int32} {a1 : Int32} {out : Int32 × St} (ho : mX10_facts S a0 a1 = some out) : CT l yX10_facts cX10_facts 4 (some .int) 32 750 [.ref (gad g 18), .int a0, .int a1] g S ((fun a : Int32 × St => (some (Value.int a.1), a.2)) out) := CT_of (φ := (fun a : Int32 × St => (some (Value.int a.1), a.2))) [.ref (gad g 18), .int a0, .int a1] ho (by decide) (Nat.le_of_ble_eq_true rfl) (xs := [(0, .ref (gad g 18)), (1, .int a0), (2, .int a1)]) rfl (fun κ C => wX10_facts C S a0 a1)
/-! StairIdeals.betti(II)I -/
def mX10_betti (S : St) (a0 : Int32) (a1 : Int32) : Option (Int32 × St) := (mX10_isIdeal a0).bind fun r1 => if r1 = 0 then (some ((-1), S))
  else (if a1 < 0 then (some ((-2), S))
  else (if a1 < 4 then (inb 4 a0 fun j2 => (mX7_look S (el 62 j2)).bind fun r3 => inb 4 a0 fun j4 => (mX7_holesInAll r3 (el 62 j4) a1).bind fun r5 => some (r5.1, r5.2))
  else (some ((-2), S))))
theorem wX10_betti {κ : KT} {g : GT} (C : CX κ g RX10 cX10_betti 3 (some .int) 6 143) (S : St) (a0 : Int32) (a1 : Int32) : J κ g 3 (fun a : Int32 × St => (some (Value.int a.1), a.2)) S 0 [(0, .ref (gad g 18)), (1, .int a0), (2, .int a1)] [] (mX10_betti S a0 a1) := by
  unfold mX10_betti
  refine j_iload_n C 1 rfl dX10_betti_0 rfl ?_
  refine j_callSi C [.int a0] [] ms_X10_53 (fun _ h => ctX10_isIdeal h) ⟨(Nat.le_of_ble_eq_true rfl), (Nat.le_of_ble_eq_true rfl)⟩ (Nat.le_of_ble_eq_true rfl) dX10_betti_1 rfl (fun r1 => ?_)
  refine j_if_ne C 9 dX10_betti_4 (by decide) ?_ ?_
  · refine j_iload_n C 2 rfl dX10_betti_9 rfl ?_
    refine j_if_lt C 18 dX10_betti_10 (by decide) ?_ ?_
    · refine j_bipush C (v := (-2)) (by decide) dX10_betti_18 ?_
      exact j_iret C rfl dX10_betti_20
    · refine j_iload_n C 2 rfl dX10_betti_13 rfl ?_
      refine j_iconst C (v := 4) (by decide) dX10_betti_14 ?_
      refine j_icmp_lt C 21 dX10_betti_15 (by decide) ?_ ?_
      · refine j_aload_n C 0 rfl dX10_betti_21 rfl ?_
        refine j_getR C (x := 24) fl_X10_37 sh_18 rfl rfl dX10_betti_22 ?_
        refine j_aload_n C 0 rfl dX10_betti_25 rfl ?_
        refine j_getR C (x := 61) fl_X10_19 sh_18 rfl rfl dX10_betti_26 ?_
        refine j_getR C (x := 62) fl_X10_60 sh_61 rfl rfl dX10_betti_29 ?_
        refine j_iload_n C 1 rfl dX10_betti_32 rfl ?_
        refine j_aald2 C sh_62 rfl dX10_betti_33 (fun j2 hj2 => ?_)
        refine j_callVvS C [.ref (gad g (el 62 j2))] [] mv_X10_98 sh_24 rfl rfl (fun _ h => ctX7_look (okI_62 (g := g) hj2) h) ⟨(Nat.le_of_ble_eq_true rfl), (Nat.le_of_ble_eq_true rfl)⟩ (Nat.le_of_ble_eq_true rfl) dX10_betti_34 rfl (fun r3 => ?_)
        refine j_aload_n C 0 rfl dX10_betti_37 rfl ?_
        refine j_getR C (x := 24) fl_X10_37 sh_18 rfl rfl dX10_betti_38 ?_
        refine j_aload_n C 0 rfl dX10_betti_41 rfl ?_
        refine j_getR C (x := 61) fl_X10_19 sh_18 rfl rfl dX10_betti_42 ?_
        refine j_getR C (x := 62) fl_X10_60 sh_61 rfl rfl dX10_betti_45 ?_
        refine j_iload_n C 1 rfl dX10_betti_48 rfl ?_
        refine j_aald2 C sh_62 rfl dX10_betti_49 (fun j4 hj4 => ?_)
        refine j_iload_n C 2 rfl dX10_betti_50 rfl ?_
        refine j_callViS C [.ref (gad g (el 62 j4)), .int a1] [] mv_X10_165 sh_24 rfl rfl (fun _ h => ctX7_holesInAll (okI_62 (g := g) hj4) h) ⟨(Nat.le_of_ble_eq_true rfl), (Nat.le_of_ble_eq_true rfl)⟩ (Nat.le_of_ble_eq_true rfl) dX10_betti_51 rfl (fun r5 => ?_)
        exact j_iret C rfl dX10_betti_54
      · refine j_bipush C (v := (-2)) (by decide) dX10_betti_18 ?_
        exact j_iret C rfl dX10_betti_20
  · refine j_iconst C (v := (-1)) (by decide) dX10_betti_7 ?_
    exact j_iret C rfl dX10_betti_8
theorem ctX10_betti {l : Launch} {g : GT} {S : St} {a0 : Int32} {a1 : Int32} {out : Int32 × St} (ho : mX10_betti S a0 a1 = some out) : CT l yX10_betti cX10_betti 3 (some .int) 6 143 [.ref (gad g 18), .int a0, .int a1] g S ((fun a : Int32 × St => (some (Value.int a.1), a.2)) out) := CT_of (φ := (fun a : Int32 × St => (some (Value.int a.1), a.2))) [.ref (gad g 18), .int a0, .int a1] ho (by decide) (Nat.le_of_ble_eq_true rfl) (xs := [(0, .ref (gad g 18)), (1, .int a0), (2, .int a1)]) rfl (fun κ C => wX10_betti C S a0 a1)
/-! StairIdeals.bettiAt(III)I -/
def mX10_bettiAt (S : St) (a0 : Int32) (a1 : Int32) (a2 : Int32) : Option (Int32 × St) := (mX10_isIdeal a0).bind fun r1 => if r1 = 0 then (some ((-1), S))
  else (if a1 < 0 then (some ((-2), S))
  else (if 4 ≤ a1 then (some ((-2), S))
  else ((mX3_isCode a2).bind fun r2 => if r2 = 0 then (some ((-2), S))
  else (inb 4 a0 fun j3 => (mX7_look S (el 62 j3)).bind fun r4 => inb 4 a0 fun j5 => (mX3_ofCode a2).bind fun r6 => (mX7_holesAt r4 (el 62 j5) a1 r6).bind fun r7 => some (r7.1, r7.2)))))
theorem wX10_bettiAt {κ : KT} {g : GT} (C : CX κ g RX10 cX10_bettiAt 4 (some .int) 6 130) (S : St) (a0 : Int32) (a1 : Int32) (a2 : Int32) : J κ g 4 (fun a : Int32 × St => (some (Value.int a.1), a.2)) S 0 [(0, .ref (gad g 18)), (1, .int a0), (2, .int a1), (3, .int a2)] [] (mX10_bettiAt S a0 a1 a2) := by
  unfold mX10_bettiAt
  refine j_iload_n C 1 rfl dX10_bettiAt_0 rfl ?_
  refine j_callSi C [.int a0] [] ms_X10_53 (fun _ h => ctX10_isIdeal h) ⟨(Nat.le_of_ble_eq_true rfl), (Nat.le_of_ble_eq_true rfl)⟩ (Nat.le_of_ble_eq_true rfl) dX10_bettiAt_1 rfl (fun r1 => ?_)
  refine j_if_ne C 9 dX10_bettiAt_4 (by decide) ?_ ?_
  · refine j_iload_n C 2 rfl dX10_bettiAt_9 rfl ?_
    refine j_if_lt C 25 dX10_bettiAt_10 (by decide) ?_ ?_
    · refine j_bipush C (v := (-2)) (by decide) dX10_bettiAt_25 ?_
      exact j_iret C rfl dX10_bettiAt_27
    · refine j_iload_n C 2 rfl dX10_bettiAt_13 rfl ?_
      refine j_iconst C (v := 4) (by decide) dX10_bettiAt_14 ?_
      refine j_icmp_ge C 25 dX10_bettiAt_15 (by decide) ?_ ?_
      · refine j_bipush C (v := (-2)) (by decide) dX10_bettiAt_25 ?_
        exact j_iret C rfl dX10_bettiAt_27
      · refine j_iload_n C 3 rfl dX10_bettiAt_18 rfl ?_
        refine j_callSi C [.int a2] [] ms_X10_81 (fun _ h => ctX3_isCode h) ⟨(Nat.le_of_ble_eq_true rfl), (Nat.le_of_ble_eq_true rfl)⟩ (Nat.le_of_ble_eq_true rfl) dX10_bettiAt_19 rfl (fun r2 => ?_)
        refine j_if_ne C 28 dX10_bettiAt_22 (by decide) ?_ ?_
        · refine j_aload_n C 0 rfl dX10_bettiAt_28 rfl ?_
          refine j_getR C (x := 24) fl_X10_37 sh_18 rfl rfl dX10_bettiAt_29 ?_
          refine j_aload_n C 0 rfl dX10_bettiAt_32 rfl ?_
          refine j_getR C (x := 61) fl_X10_19 sh_18 rfl rfl dX10_bettiAt_33 ?_
          refine j_getR C (x := 62) fl_X10_60 sh_61 rfl rfl dX10_bettiAt_36 ?_
          refine j_iload_n C 1 rfl dX10_bettiAt_39 rfl ?_
          refine j_aald2 C sh_62 rfl dX10_bettiAt_40 (fun j3 hj3 => ?_)
          refine j_callVvS C [.ref (gad g (el 62 j3))] [] mv_X10_98 sh_24 rfl rfl (fun _ h => ctX7_look (okI_62 (g := g) hj3) h) ⟨(Nat.le_of_ble_eq_true rfl), (Nat.le_of_ble_eq_true rfl)⟩ (Nat.le_of_ble_eq_true rfl) dX10_bettiAt_41 rfl (fun r4 => ?_)
          refine j_aload_n C 0 rfl dX10_bettiAt_44 rfl ?_
          refine j_getR C (x := 24) fl_X10_37 sh_18 rfl rfl dX10_bettiAt_45 ?_
          refine j_aload_n C 0 rfl dX10_bettiAt_48 rfl ?_
          refine j_getR C (x := 61) fl_X10_19 sh_18 rfl rfl dX10_bettiAt_49 ?_
          refine j_getR C (x := 62) fl_X10_60 sh_61 rfl rfl dX10_bettiAt_52 ?_
          refine j_iload_n C 1 rfl dX10_bettiAt_55 rfl ?_
          refine j_aald2 C sh_62 rfl dX10_bettiAt_56 (fun j5 hj5 => ?_)
          refine j_iload_n C 2 rfl dX10_bettiAt_57 rfl ?_
          refine j_iload_n C 3 rfl dX10_bettiAt_58 rfl ?_
          refine j_callSi C [.int a2] [.int a1, .ref (gad g (el 62 j5)), .ref (gad g 24)] ms_X10_84 (fun _ h => ctX3_ofCode h) ⟨(Nat.le_of_ble_eq_true rfl), (Nat.le_of_ble_eq_true rfl)⟩ (Nat.le_of_ble_eq_true rfl) dX10_bettiAt_59 rfl (fun r6 => ?_)
          refine j_callViS C [.ref (gad g (el 62 j5)), .int a1, .int r6] [] mv_X10_169 sh_24 rfl rfl (fun _ h => ctX7_holesAt (okI_62 (g := g) hj5) h) ⟨(Nat.le_of_ble_eq_true rfl), (Nat.le_of_ble_eq_true rfl)⟩ (Nat.le_of_ble_eq_true rfl) dX10_bettiAt_62 rfl (fun r7 => ?_)
          exact j_iret C rfl dX10_bettiAt_65
        · refine j_bipush C (v := (-2)) (by decide) dX10_bettiAt_25 ?_
          exact j_iret C rfl dX10_bettiAt_27
  · refine j_iconst C (v := (-1)) (by decide) dX10_bettiAt_7 ?_
    exact j_iret C rfl dX10_bettiAt_8
theorem ctX10_bettiAt {l : Launch} {g : GT} {S : St} {a0 : Int32} {a1 : Int32} {a2 : Int32} {out : Int32 × St} (ho : mX10_bettiAt S a0 a1 a2 = some out) : CT l yX10_bettiAt cX10_bettiAt 4 (some .int) 6 130 [.ref (gad g 18), .int a0, .int a1, .int a2] g S ((fun a : Int32 × St => (some (Value.int a.1), a.2)) out) := CT_of (φ := (fun a : Int32 × St => (some (Value.int a.1), a.2))) [.ref (gad g 18), .int a0, .int a1, .int a2] ho (by decide) (Nat.le_of_ble_eq_true rfl) (xs := [(0, .ref (gad g 18)), (1, .int a0), (2, .int a1), (3, .int a2)]) rfl (fun κ C => wX10_bettiAt C S a0 a1 a2)
/-! StairIdeals.share(III)J -/
def mX10_share (S : St) (a0 : Int32) (a1 : Int32) (a2 : Int32) : Option (Int64 × St) := (mX10_refuseDegree a0 a1).bind fun r1 => if r1 = 0 then (if a2 < 0 then (some ((-1000000000000000002), S))
  else (if a2 ≤ 2 then (inb 4 a0 fun j2 => (mX7_look S (el 62 j2)).bind fun r3 => (mX7_standardOfDegree r3 a1).bind fun r4 => (mX3_ofDegree a1).bind fun r5 => if a2 = 0 then ((mX5_singleBits r4.1 r5).bind fun r8 => some (r8, r4.2))
  else (if a2 = 1 then ((mX5_doubleBits r4.1 r5).bind fun r7 => some (r7, r4.2))
  else ((mX5_thousandths r4.1 r5).bind fun r6 => some (r6, r4.2))))
  else (some ((-1000000000000000002), S))))
  else (some ((-1000000000000000000) + r1.toInt64, S))
theorem wX10_share {κ : KT} {g : GT} (C : CX κ g RX10 cX10_share 7 (some .long) 6 130) (S : St) (a0 : Int32) (a1 : Int32) (a2 : Int32) : J κ g 7 (fun a : Int64 × St => (some (Value.long a.1), a.2)) S 0 [(0, .ref (gad g 18)), (1, .int a0), (2, .int a1), (3, .int a2)] [] (mX10_share S a0 a1 a2) := by
  unfold mX10_share
  refine j_iload_n C 1 rfl dX10_share_0 rfl ?_
  refine j_iload_n C 2 rfl dX10_share_1 rfl ?_
  refine j_callSi C [.int a0, .int a1] [] ms_X10_140 (fun _ h => ctX10_refuseDegree h) ⟨(Nat.le_of_ble_eq_true rfl), (Nat.le_of_ble_eq_true rfl)⟩ (Nat.le_of_ble_eq_true rfl) dX10_share_2 rfl (fun r1 => ?_)
  refine j_istore C (xs1 := [(0, .ref (gad g 18)), (1, .int a0), (2, .int a1), (3, .int a2), (4, .int r1)]) dX10_share_5 (by decide) rfl ?_
  refine j_iload C 4 rfl dX10_share_7 ?_
  refine j_if_eq C 20 dX10_share_9 (by decide) ?_ ?_
  · refine j_iload_n C 3 rfl dX10_share_20 rfl ?_
    refine j_if_lt C 29 dX10_share_21 (by decide) ?_ ?_
    · refine j_ldc2 C (v := (-1000000000000000002)) wd_666 dX10_share_29 ?_
      exact j_lret C rfl dX10_share_32
    · refine j_iload_n C 3 rfl dX10_share_24 rfl ?_
      refine j_iconst C (v := 2) (by decide) dX10_share_25 ?_
      refine j_icmp_le C 33 dX10_share_26 (by decide) ?_ ?_
      · refine j_aload_n C 0 rfl dX10_share_33 rfl ?_
        refine j_getR C (x := 24) fl_X10_37 sh_18 rfl rfl dX10_share_34 ?_
        refine j_aload_n C 0 rfl dX10_share_37 rfl ?_
        refine j_getR C (x := 61) fl_X10_19 sh_18 rfl rfl dX10_share_38 ?_
        refine j_getR C (x := 62) fl_X10_60 sh_61 rfl rfl dX10_share_41 ?_
        refine j_iload_n C 1 rfl dX10_share_44 rfl ?_
        refine j_aald2 C sh_62 rfl dX10_share_45 (fun j2 hj2 => ?_)
        refine j_callVvS C [.ref (gad g (el 62 j2))] [] mv_X10_98 sh_24 rfl rfl (fun _ h => ctX7_look (okI_62 (g := g) hj2) h) ⟨(Nat.le_of_ble_eq_true rfl), (Nat.le_of_ble_eq_true rfl)⟩ (Nat.le_of_ble_eq_true rfl) dX10_share_46 rfl (fun r3 => ?_)
        refine j_aload_n C 0 rfl dX10_share_49 rfl ?_
        refine j_getR C (x := 24) fl_X10_37 sh_18 rfl rfl dX10_share_50 ?_
        refine j_iload_n C 2 rfl dX10_share_53 rfl ?_
        refine j_callViS C [.int a1] [] mv_X10_143 sh_24 rfl rfl (fun _ h => ctX7_standardOfDegree h) ⟨(Nat.le_of_ble_eq_true rfl), (Nat.le_of_ble_eq_true rfl)⟩ (Nat.le_of_ble_eq_true rfl) dX10_share_54 rfl (fun r4 => ?_)
        refine j_istore C (xs1 := [(0, .ref (gad g 18)), (1, .int a0), (2, .int a1), (3, .int a2), (4, .int r1), (5, .int r4.1)]) dX10_share_57 (by decide) rfl ?_
        refine j_iload_n C 2 rfl dX10_share_59 rfl ?_
        refine j_callSi C [.int a1] [] ms_X10_177 (fun _ h => ctX3_ofDegree h) ⟨(Nat.le_of_ble_eq_true rfl), (Nat.le_of_ble_eq_true rfl)⟩ (Nat.le_of_ble_eq_true rfl) dX10_share_60 rfl (fun r5 => ?_)
        refine j_istore C (xs1 := [(0, .ref (gad g 18)), (1, .int a0), (2, .int a1), (3, .int a2), (4, .int r1), (5, .int r4.1), (6, .int r5)]) dX10_share_63 (by decide) rfl ?_
        refine j_iload_n C 3 rfl dX10_share_65 rfl ?_
        refine j_if_ne C 77 dX10_share_66 (by decide) ?_ ?_
        · refine j_iload_n C 3 rfl dX10_share_77 rfl ?_
          refine j_iconst C (v := 1) (by decide) dX10_share_78 ?_
          refine j_icmp_ne C 92 dX10_share_79 (by decide) ?_ ?_
          · refine j_iload C 5 rfl dX10_share_92 ?_
            refine j_iload C 6 rfl dX10_share_94 ?_
            refine j_callSl C [.int r4.1, .int r5] [] ms_X10_189 (fun _ h => ctX5_thousandths h) ⟨(Nat.le_of_ble_eq_true rfl), (Nat.le_of_ble_eq_true rfl)⟩ (Nat.le_of_ble_eq_true rfl) dX10_share_96 rfl (fun r6 => ?_)
            exact j_lret C rfl dX10_share_99
          · refine j_iload C 5 rfl dX10_share_82 ?_
            refine j_iload C 6 rfl dX10_share_84 ?_
            refine j_callSl C [.int r4.1, .int r5] [] ms_X10_186 (fun _ h => ctX5_doubleBits h) ⟨(Nat.le_of_ble_eq_true rfl), (Nat.le_of_ble_eq_true rfl)⟩ (Nat.le_of_ble_eq_true rfl) dX10_share_86 rfl (fun r7 => ?_)
            refine j_goto C 99 dX10_share_89 (by decide) ?_
            exact j_lret C rfl dX10_share_99
        · refine j_iload C 5 rfl dX10_share_69 ?_
          refine j_iload C 6 rfl dX10_share_71 ?_
          refine j_callSl C [.int r4.1, .int r5] [] ms_X10_180 (fun _ h => ctX5_singleBits h) ⟨(Nat.le_of_ble_eq_true rfl), (Nat.le_of_ble_eq_true rfl)⟩ (Nat.le_of_ble_eq_true rfl) dX10_share_73 rfl (fun r8 => ?_)
          exact j_lret C rfl dX10_share_76
      · refine j_ldc2 C (v := (-1000000000000000002)) wd_666 dX10_share_29 ?_
        exact j_lret C rfl dX10_share_32
  · refine j_ldc2 C (v := (-1000000000000000000)) wd_665 dX10_share_12 ?_
    refine j_iload C 4 rfl dX10_share_15 ?_
    refine j_i2l C dX10_share_17 ?_
    refine j_ladd C dX10_share_18 ?_
    exact j_lret C rfl dX10_share_19
theorem ctX10_share {l : Launch} {g : GT} {S : St} {a0 : Int32} {a1 : Int32} {a2 : Int32} {out : Int64 × St} (ho : mX10_share S a0 a1 a2 = some out) : CT l yX10_share cX10_share 7 (some .long) 6 130 [.ref (gad g 18), .int a0, .int a1, .int a2] g S ((fun a : Int64 × St => (some (Value.long a.1), a.2)) out) := CT_of (φ := (fun a : Int64 × St => (some (Value.long a.1), a.2))) [.ref (gad g 18), .int a0, .int a1, .int a2] ho (by decide) (Nat.le_of_ble_eq_true rfl) (xs := [(0, .ref (gad g 18)), (1, .int a0), (2, .int a1), (3, .int a2)]) rfl (fun κ C => wX10_share C S a0 a1 a2)
/-! StairIdeals.isPlace(II)Z -/
def mX10_isPlace (a0 : Int32) (a1 : Int32) : Option (Int32) := if a0 < 0 then (some 0)
  else (if 3 ≤ a0 then (some 0)
  else (if a1 < 0 then (some 0)
  else (if 4 ≤ a1 then (some 0)
  else (some 1))))
theorem wX10_isPlace {κ : KT} {g : GT} (C : CX κ g RX10 cX10_isPlace 2 (some .boolean) 0 0) (S : St) (a0 : Int32) (a1 : Int32) : J κ g 2 (fun a : Int32 => (some (Value.int a), S)) S 0 [(0, .int a0), (1, .int a1)] [] (mX10_isPlace a0 a1) := by
  unfold mX10_isPlace
  refine j_iload_n C 0 rfl dX10_isPlace_0 rfl ?_
  refine j_if_lt C 22 dX10_isPlace_1 (by decide) ?_ ?_
  · refine j_iconst C (v := 0) (by decide) dX10_isPlace_22 ?_
    exact j_zret C rfl rfl dX10_isPlace_23
  · refine j_iload_n C 0 rfl dX10_isPlace_4 rfl ?_
    refine j_iconst C (v := 3) (by decide) dX10_isPlace_5 ?_
    refine j_icmp_ge C 22 dX10_isPlace_6 (by decide) ?_ ?_
    · refine j_iconst C (v := 0) (by decide) dX10_isPlace_22 ?_
      exact j_zret C rfl rfl dX10_isPlace_23
    · refine j_iload_n C 1 rfl dX10_isPlace_9 rfl ?_
      refine j_if_lt C 22 dX10_isPlace_10 (by decide) ?_ ?_
      · refine j_iconst C (v := 0) (by decide) dX10_isPlace_22 ?_
        exact j_zret C rfl rfl dX10_isPlace_23
      · refine j_iload_n C 1 rfl dX10_isPlace_13 rfl ?_
        refine j_iconst C (v := 4) (by decide) dX10_isPlace_14 ?_
        refine j_icmp_ge C 22 dX10_isPlace_15 (by decide) ?_ ?_
        · refine j_iconst C (v := 0) (by decide) dX10_isPlace_22 ?_
          exact j_zret C rfl rfl dX10_isPlace_23
        · refine j_iconst C (v := 1) (by decide) dX10_isPlace_18 ?_
          refine j_goto C 23 dX10_isPlace_19 (by decide) ?_
          exact j_zret C rfl rfl dX10_isPlace_23
theorem ctX10_isPlace {l : Launch} {g : GT} {S : St} {a0 : Int32} {a1 : Int32} {out : Int32} (ho : mX10_isPlace a0 a1 = some out) : CT l yX10_isPlace cX10_isPlace 2 (some .boolean) 0 0 [.int a0, .int a1] g S ((fun a : Int32 => (some (Value.int a), S)) out) := CT_of (φ := (fun a : Int32 => (some (Value.int a), S))) [.int a0, .int a1] ho (by decide) (Nat.le_of_ble_eq_true rfl) (xs := [(0, .int a0), (1, .int a1)]) rfl (fun κ C => wX10_isPlace C S a0 a1)
/-! StairIdeals.hold(IIIZ)I -/
def mX10_hold_37 (S : St) (x1 : Int32) (x2 : Int32) (x3 : Int32) (x4 : Int32) : Option (Int32 × St) := bnd ((x1 * 4) + x2) fun v1 => inb 12 v1 fun j2 => inb 4 x3 fun j3 => (mX2_copyFrom S (el 63 j2) (el 62 j3)).bind fun r4 => if x4 = 0 then (inb 12 v1 fun j5 => some (1, (sA r4 64 j5 1)))
  else (inb 12 v1 fun j6 => some (1, (sA r4 64 j6 2)))
theorem wX10_hold_37 {κ : KT} {g : GT} (C : CX κ g RX10 cX10_hold 6 (some .int) 2 121) (S : St) (x1 : Int32) (x2 : Int32) (x3 : Int32) (x4 : Int32) : J κ g 6 (fun a : Int32 × St => (some (Value.int a.1), a.2)) S 37 [(0, .ref (gad g 18)), (1, .int x1), (2, .int x2), (3, .int x3), (4, .int x4)] [] (mX10_hold_37 S x1 x2 x3 x4) := by
  unfold mX10_hold_37
  refine j_iload_n C 1 rfl dX10_hold_37 rfl ?_
  refine j_iconst C (v := 4) (by decide) dX10_hold_38 ?_
  refine j_imul C dX10_hold_39 ?_
  refine j_iload_n C 2 rfl dX10_hold_40 rfl ?_
  refine j_iadd C dX10_hold_41 ?_
  refine j_topi (fun v1 => ?_)
  refine j_istore C (xs1 := [(0, .ref (gad g 18)), (1, .int x1), (2, .int x2), (3, .int x3), (4, .int x4), (5, .int v1)]) dX10_hold_42 (by decide) rfl ?_
  refine j_aload_n C 0 rfl dX10_hold_44 rfl ?_
  refine j_getR C (x := 61) fl_X10_19 sh_18 rfl rfl dX10_hold_45 ?_
  refine j_getR C (x := 63) fl_X10_195 sh_61 rfl rfl dX10_hold_48 ?_
  refine j_iload C 5 rfl dX10_hold_51 ?_
  refine j_aald2 C sh_63 rfl dX10_hold_53 (fun j2 hj2 => ?_)
  refine j_aload_n C 0 rfl dX10_hold_54 rfl ?_
  refine j_getR C (x := 61) fl_X10_19 sh_18 rfl rfl dX10_hold_55 ?_
  refine j_getR C (x := 62) fl_X10_60 sh_61 rfl rfl dX10_hold_58 ?_
  refine j_iload_n C 3 rfl dX10_hold_61 rfl ?_
  refine j_aald2 C sh_62 rfl dX10_hold_62 (fun j3 hj3 => ?_)
  refine j_callVvS C [.ref (gad g (el 62 j3))] [] mv_X10_198 (okI_63 (g := g) hj2).1 (okI_63 (g := g) hj2).2.2.1 rfl (fun _ h => ctX2_copyFrom (okI_63 (g := g) hj2) (okI_62 (g := g) hj3) h) ⟨(Nat.le_of_ble_eq_true rfl), (Nat.le_of_ble_eq_true rfl)⟩ (Nat.le_of_ble_eq_true rfl) dX10_hold_63 rfl (fun r4 => ?_)
  refine j_aload_n C 0 rfl dX10_hold_66 rfl ?_
  refine j_getR C (x := 61) fl_X10_19 sh_18 rfl rfl dX10_hold_67 ?_
  refine j_getR C (x := 64) fl_X10_201 sh_61 rfl rfl dX10_hold_70 ?_
  refine j_iload C 5 rfl dX10_hold_73 ?_
  refine j_iload C 4 rfl dX10_hold_75 ?_
  refine j_if_eq C 84 dX10_hold_77 (by decide) ?_ ?_
  · refine j_iconst C (v := 1) (by decide) dX10_hold_84 ?_
    refine j_iast C sh_64 rfl dX10_hold_85 (fun j5 => ?_)
    refine j_iconst C (v := 1) (by decide) dX10_hold_86 ?_
    exact j_iret C rfl dX10_hold_87
  · refine j_iconst C (v := 2) (by decide) dX10_hold_80 ?_
    refine j_goto C 85 dX10_hold_81 (by decide) ?_
    refine j_iast C sh_64 rfl dX10_hold_85 (fun j6 => ?_)
    refine j_iconst C (v := 1) (by decide) dX10_hold_86 ?_
    exact j_iret C rfl dX10_hold_87
def mX10_hold (S : St) (a0 : Int32) (a1 : Int32) (a2 : Int32) (a3 : Int32) : Option (Int32 × St) := (mX10_isPlace a0 a1).bind fun r1 => if r1 = 0 then (some ((-1), S))
  else ((mX10_isIdeal a2).bind fun r2 => if r2 = 0 then (some ((-1), S))
  else (if a3 = 0 then (if a0 = 1 then (some ((-3), S))
  else (mX10_hold_37 S a0 a1 a2 a3))
  else (if a0 = 0 then (some ((-3), S))
  else (mX10_hold_37 S a0 a1 a2 a3))))
theorem wX10_hold {κ : KT} {g : GT} (C : CX κ g RX10 cX10_hold 6 (some .int) 2 121) (S : St) (a0 : Int32) (a1 : Int32) (a2 : Int32) (a3 : Int32) : J κ g 6 (fun a : Int32 × St => (some (Value.int a.1), a.2)) S 0 [(0, .ref (gad g 18)), (1, .int a0), (2, .int a1), (3, .int a2), (4, .int a3)] [] (mX10_hold S a0 a1 a2 a3) := by
  unfold mX10_hold
  refine j_iload_n C 1 rfl dX10_hold_0 rfl ?_
  refine j_iload_n C 2 rfl dX10_hold_1 rfl ?_
  refine j_callSi C [.int a0, .int a1] [] ms_X10_192 (fun _ h => ctX10_isPlace h) ⟨(Nat.le_of_ble_eq_true rfl), (Nat.le_of_ble_eq_true rfl)⟩ (Nat.le_of_ble_eq_true rfl) dX10_hold_2 rfl (fun r1 => ?_)
  refine j_if_eq C 15 dX10_hold_5 (by decide) ?_ ?_
  · refine j_iconst C (v := (-1)) (by decide) dX10_hold_15 ?_
    exact j_iret C rfl dX10_hold_16
  · refine j_iload_n C 3 rfl dX10_hold_8 rfl ?_
    refine j_callSi C [.int a2] [] ms_X10_53 (fun _ h => ctX10_isIdeal h) ⟨(Nat.le_of_ble_eq_true rfl), (Nat.le_of_ble_eq_true rfl)⟩ (Nat.le_of_ble_eq_true rfl) dX10_hold_9 rfl (fun r2 => ?_)
    refine j_if_ne C 17 dX10_hold_12 (by decide) ?_ ?_
    · refine j_iload C 4 rfl dX10_hold_17 ?_
      refine j_if_eq C 29 dX10_hold_19 (by decide) ?_ ?_
      · refine j_iload_n C 1 rfl dX10_hold_29 rfl ?_
        refine j_iconst C (v := 1) (by decide) dX10_hold_30 ?_
        refine j_icmp_ne C 37 dX10_hold_31 (by decide) ?_ ?_
        · exact wX10_hold_37 C S a0 a1 a2 a3
        · refine j_bipush C (v := (-3)) (by decide) dX10_hold_34 ?_
          exact j_iret C rfl dX10_hold_36
      · refine j_iload_n C 1 rfl dX10_hold_22 rfl ?_
        refine j_if_ne C 37 dX10_hold_23 (by decide) ?_ ?_
        · exact wX10_hold_37 C S a0 a1 a2 a3
        · refine j_goto C 34 dX10_hold_26 (by decide) ?_
          refine j_bipush C (v := (-3)) (by decide) dX10_hold_34 ?_
          exact j_iret C rfl dX10_hold_36
    · refine j_iconst C (v := (-1)) (by decide) dX10_hold_15 ?_
      exact j_iret C rfl dX10_hold_16
theorem ctX10_hold {l : Launch} {g : GT} {S : St} {a0 : Int32} {a1 : Int32} {a2 : Int32} {a3 : Int32} {out : Int32 × St} (ho : mX10_hold S a0 a1 a2 a3 = some out) : CT l yX10_hold cX10_hold 6 (some .int) 2 121 [.ref (gad g 18), .int a0, .int a1, .int a2, .int a3] g S ((fun a : Int32 × St => (some (Value.int a.1), a.2)) out) := CT_of (φ := (fun a : Int32 × St => (some (Value.int a.1), a.2))) [.ref (gad g 18), .int a0, .int a1, .int a2, .int a3] ho (by decide) (Nat.le_of_ble_eq_true rfl) (xs := [(0, .ref (gad g 18)), (1, .int a0), (2, .int a1), (3, .int a2), (4, .int a3)]) rfl (fun κ C => wX10_hold C S a0 a1 a2 a3)
/-! StairIdeals.take(III)I -/
def mX10_take (S : St) (a0 : Int32) (a1 : Int32) (a2 : Int32) : Option (Int32 × St) := (mX10_isPlace a0 a1).bind fun r1 => if r1 = 0 then (some ((-1), S))
  else ((mX10_isIdeal a2).bind fun r2 => if r2 = 0 then (some ((-1), S))
  else (bnd ((a0 * 4) + a1) fun v3 => inb 12 v3 fun j4 => if (gA S 64 j4) = 0 then (some ((-5), S))
  else (inb 12 v3 fun j5 => if (gA S 64 j5) = 2 then (some ((-3), S))
  else (inb 4 a2 fun j6 => inb 12 v3 fun j7 => (mX2_copyFrom S (el 62 j6) (el 63 j7)).bind fun r8 => inb 4 a2 fun j9 => some (gI r8 (el 62 j9) 1, r8)))))
theorem wX10_take {κ : KT} {g : GT} (C : CX κ g RX10 cX10_take 5 (some .int) 2 121) (S : St) (a0 : Int32) (a1 : Int32) (a2 : Int32) : J κ g 5 (fun a : Int32 × St => (some (Value.int a.1), a.2)) S 0 [(0, .ref (gad g 18)), (1, .int a0), (2, .int a1), (3, .int a2)] [] (mX10_take S a0 a1 a2) := by
  unfold mX10_take
  refine j_iload_n C 1 rfl dX10_take_0 rfl ?_
  refine j_iload_n C 2 rfl dX10_take_1 rfl ?_
  refine j_callSi C [.int a0, .int a1] [] ms_X10_192 (fun _ h => ctX10_isPlace h) ⟨(Nat.le_of_ble_eq_true rfl), (Nat.le_of_ble_eq_true rfl)⟩ (Nat.le_of_ble_eq_true rfl) dX10_take_2 rfl (fun r1 => ?_)
  refine j_if_eq C 15 dX10_take_5 (by decide) ?_ ?_
  · refine j_iconst C (v := (-1)) (by decide) dX10_take_15 ?_
    exact j_iret C rfl dX10_take_16
  · refine j_iload_n C 3 rfl dX10_take_8 rfl ?_
    refine j_callSi C [.int a2] [] ms_X10_53 (fun _ h => ctX10_isIdeal h) ⟨(Nat.le_of_ble_eq_true rfl), (Nat.le_of_ble_eq_true rfl)⟩ (Nat.le_of_ble_eq_true rfl) dX10_take_9 rfl (fun r2 => ?_)
    refine j_if_ne C 17 dX10_take_12 (by decide) ?_ ?_
    · refine j_iload_n C 1 rfl dX10_take_17 rfl ?_
      refine j_iconst C (v := 4) (by decide) dX10_take_18 ?_
      refine j_imul C dX10_take_19 ?_
      refine j_iload_n C 2 rfl dX10_take_20 rfl ?_
      refine j_iadd C dX10_take_21 ?_
      refine j_topi (fun v3 => ?_)
      refine j_istore C (xs1 := [(0, .ref (gad g 18)), (1, .int a0), (2, .int a1), (3, .int a2), (4, .int v3)]) dX10_take_22 (by decide) rfl ?_
      refine j_aload_n C 0 rfl dX10_take_24 rfl ?_
      refine j_getR C (x := 61) fl_X10_19 sh_18 rfl rfl dX10_take_25 ?_
      refine j_getR C (x := 64) fl_X10_201 sh_61 rfl rfl dX10_take_28 ?_
      refine j_iload C 4 rfl dX10_take_31 ?_
      refine j_iald C sh_64 rfl dX10_take_33 (fun j4 => ?_)
      refine j_if_ne C 40 dX10_take_34 (by decide) ?_ ?_
      · refine j_aload_n C 0 rfl dX10_take_40 rfl ?_
        refine j_getR C (x := 61) fl_X10_19 sh_18 rfl rfl dX10_take_41 ?_
        refine j_getR C (x := 64) fl_X10_201 sh_61 rfl rfl dX10_take_44 ?_
        refine j_iload C 4 rfl dX10_take_47 ?_
        refine j_iald C sh_64 rfl dX10_take_49 (fun j5 => ?_)
        refine j_iconst C (v := 2) (by decide) dX10_take_50 ?_
        refine j_icmp_ne C 57 dX10_take_51 (by decide) ?_ ?_
        · refine j_aload_n C 0 rfl dX10_take_57 rfl ?_
          refine j_getR C (x := 61) fl_X10_19 sh_18 rfl rfl dX10_take_58 ?_
          refine j_getR C (x := 62) fl_X10_60 sh_61 rfl rfl dX10_take_61 ?_
          refine j_iload_n C 3 rfl dX10_take_64 rfl ?_
          refine j_aald2 C sh_62 rfl dX10_take_65 (fun j6 hj6 => ?_)
          refine j_aload_n C 0 rfl dX10_take_66 rfl ?_
          refine j_getR C (x := 61) fl_X10_19 sh_18 rfl rfl dX10_take_67 ?_
          refine j_getR C (x := 63) fl_X10_195 sh_61 rfl rfl dX10_take_70 ?_
          refine j_iload C 4 rfl dX10_take_73 ?_
          refine j_aald2 C sh_63 rfl dX10_take_75 (fun j7 hj7 => ?_)
          refine j_callVvS C [.ref (gad g (el 63 j7))] [] mv_X10_198 (okI_62 (g := g) hj6).1 (okI_62 (g := g) hj6).2.2.1 rfl (fun _ h => ctX2_copyFrom (okI_62 (g := g) hj6) (okI_63 (g := g) hj7) h) ⟨(Nat.le_of_ble_eq_true rfl), (Nat.le_of_ble_eq_true rfl)⟩ (Nat.le_of_ble_eq_true rfl) dX10_take_76 rfl (fun r8 => ?_)
          refine j_aload_n C 0 rfl dX10_take_79 rfl ?_
          refine j_getR C (x := 61) fl_X10_19 sh_18 rfl rfl dX10_take_80 ?_
          refine j_getR C (x := 62) fl_X10_60 sh_61 rfl rfl dX10_take_83 ?_
          refine j_iload_n C 3 rfl dX10_take_86 rfl ?_
          refine j_aald2 C sh_62 rfl dX10_take_87 (fun j9 hj9 => ?_)
          refine j_getI C fl_X10_68 (okI_62 (g := g) hj9).1 (okI_62 (g := g) hj9).2.2.1 rfl dX10_take_88 ?_
          exact j_iret C rfl dX10_take_91
        · refine j_bipush C (v := (-3)) (by decide) dX10_take_54 ?_
          exact j_iret C rfl dX10_take_56
      · refine j_bipush C (v := (-5)) (by decide) dX10_take_37 ?_
        exact j_iret C rfl dX10_take_39
    · refine j_iconst C (v := (-1)) (by decide) dX10_take_15 ?_
      exact j_iret C rfl dX10_take_16
theorem ctX10_take {l : Launch} {g : GT} {S : St} {a0 : Int32} {a1 : Int32} {a2 : Int32} {out : Int32 × St} (ho : mX10_take S a0 a1 a2 = some out) : CT l yX10_take cX10_take 5 (some .int) 2 121 [.ref (gad g 18), .int a0, .int a1, .int a2] g S ((fun a : Int32 × St => (some (Value.int a.1), a.2)) out) := CT_of (φ := (fun a : Int32 × St => (some (Value.int a.1), a.2))) [.ref (gad g 18), .int a0, .int a1, .int a2] ho (by decide) (Nat.le_of_ble_eq_true rfl) (xs := [(0, .ref (gad g 18)), (1, .int a0), (2, .int a1), (3, .int a2)]) rfl (fun κ C => wX10_take C S a0 a1 a2)
/-! StairIdeals.measure(II)I -/
def mX10_measure (S : St) (a0 : Int32) (a1 : Int32) : Option (Int32 × St) := (mX10_isPlace a0 a1).bind fun r1 => if r1 = 0 then (some ((-1), S))
  else (bnd ((a0 * 4) + a1) fun v2 => inb 12 v2 fun j3 => if (gA S 64 j3) = 0 then (some ((-5), S))
  else (inb 12 v2 fun j4 => if (gA S 64 j4) = 1 then (inb 12 v2 fun j8 => some (gI S (el 63 j8) 1, S))
  else (inb 12 v2 fun j5 => (mX7_look S (el 63 j5)).bind fun r6 => (mX6_standardInAll r6 59).bind fun r7 => some (r7, r6))))
theorem wX10_measure {κ : KT} {g : GT} (C : CX κ g RX10 cX10_measure 4 (some .int) 6 130) (S : St) (a0 : Int32) (a1 : Int32) : J κ g 4 (fun a : Int32 × St => (some (Value.int a.1), a.2)) S 0 [(0, .ref (gad g 18)), (1, .int a0), (2, .int a1)] [] (mX10_measure S a0 a1) := by
  unfold mX10_measure
  refine j_iload_n C 1 rfl dX10_measure_0 rfl ?_
  refine j_iload_n C 2 rfl dX10_measure_1 rfl ?_
  refine j_callSi C [.int a0, .int a1] [] ms_X10_192 (fun _ h => ctX10_isPlace h) ⟨(Nat.le_of_ble_eq_true rfl), (Nat.le_of_ble_eq_true rfl)⟩ (Nat.le_of_ble_eq_true rfl) dX10_measure_2 rfl (fun r1 => ?_)
  refine j_if_ne C 10 dX10_measure_5 (by decide) ?_ ?_
  · refine j_iload_n C 1 rfl dX10_measure_10 rfl ?_
    refine j_iconst C (v := 4) (by decide) dX10_measure_11 ?_
    refine j_imul C dX10_measure_12 ?_
    refine j_iload_n C 2 rfl dX10_measure_13 rfl ?_
    refine j_iadd C dX10_measure_14 ?_
    refine j_topi (fun v2 => ?_)
    refine j_istore_n C (xs1 := [(0, .ref (gad g 18)), (1, .int a0), (2, .int a1), (3, .int v2)]) dX10_measure_15 rfl (by decide) rfl ?_
    refine j_aload_n C 0 rfl dX10_measure_16 rfl ?_
    refine j_getR C (x := 61) fl_X10_19 sh_18 rfl rfl dX10_measure_17 ?_
    refine j_getR C (x := 64) fl_X10_201 sh_61 rfl rfl dX10_measure_20 ?_
    refine j_iload_n C 3 rfl dX10_measure_23 rfl ?_
    refine j_iald C sh_64 rfl dX10_measure_24 (fun j3 => ?_)
    refine j_if_ne C 31 dX10_measure_25 (by decide) ?_ ?_
    · refine j_aload_n C 0 rfl dX10_measure_31 rfl ?_
      refine j_getR C (x := 61) fl_X10_19 sh_18 rfl rfl dX10_measure_32 ?_
      refine j_getR C (x := 64) fl_X10_201 sh_61 rfl rfl dX10_measure_35 ?_
      refine j_iload_n C 3 rfl dX10_measure_38 rfl ?_
      refine j_iald C sh_64 rfl dX10_measure_39 (fun j4 => ?_)
      refine j_iconst C (v := 1) (by decide) dX10_measure_40 ?_
      refine j_icmp_ne C 57 dX10_measure_41 (by decide) ?_ ?_
      · refine j_aload_n C 0 rfl dX10_measure_57 rfl ?_
        refine j_getR C (x := 24) fl_X10_37 sh_18 rfl rfl dX10_measure_58 ?_
        refine j_aload_n C 0 rfl dX10_measure_61 rfl ?_
        refine j_getR C (x := 61) fl_X10_19 sh_18 rfl rfl dX10_measure_62 ?_
        refine j_getR C (x := 63) fl_X10_195 sh_61 rfl rfl dX10_measure_65 ?_
        refine j_iload_n C 3 rfl dX10_measure_68 rfl ?_
        refine j_aald2 C sh_63 rfl dX10_measure_69 (fun j5 hj5 => ?_)
        refine j_callVvS C [.ref (gad g (el 63 j5))] [] mv_X10_98 sh_24 rfl rfl (fun _ h => ctX7_look (okI_63 (g := g) hj5) h) ⟨(Nat.le_of_ble_eq_true rfl), (Nat.le_of_ble_eq_true rfl)⟩ (Nat.le_of_ble_eq_true rfl) dX10_measure_70 rfl (fun r6 => ?_)
        refine j_aload_n C 0 rfl dX10_measure_73 rfl ?_
        refine j_getR C (x := 24) fl_X10_37 sh_18 rfl rfl dX10_measure_74 ?_
        refine j_getR C (x := 59) fl_X10_108 sh_24 rfl rfl dX10_measure_77 ?_
        refine j_callVi C [] [] mv_X10_153 sh_59 rfl rfl (fun _ h => ctX6_standardInAll (okT_59 (g := g)) h) ⟨(Nat.le_of_ble_eq_true rfl), (Nat.le_of_ble_eq_true rfl)⟩ (Nat.le_of_ble_eq_true rfl) dX10_measure_80 rfl (fun r7 => ?_)
        exact j_iret C rfl dX10_measure_83
      · refine j_aload_n C 0 rfl dX10_measure_44 rfl ?_
        refine j_getR C (x := 61) fl_X10_19 sh_18 rfl rfl dX10_measure_45 ?_
        refine j_getR C (x := 63) fl_X10_195 sh_61 rfl rfl dX10_measure_48 ?_
        refine j_iload_n C 3 rfl dX10_measure_51 rfl ?_
        refine j_aald2 C sh_63 rfl dX10_measure_52 (fun j8 hj8 => ?_)
        refine j_getI C fl_X10_68 (okI_63 (g := g) hj8).1 (okI_63 (g := g) hj8).2.2.1 rfl dX10_measure_53 ?_
        exact j_iret C rfl dX10_measure_56
    · refine j_bipush C (v := (-5)) (by decide) dX10_measure_28 ?_
      exact j_iret C rfl dX10_measure_30
  · refine j_iconst C (v := (-1)) (by decide) dX10_measure_8 ?_
    exact j_iret C rfl dX10_measure_9
theorem ctX10_measure {l : Launch} {g : GT} {S : St} {a0 : Int32} {a1 : Int32} {out : Int32 × St} (ho : mX10_measure S a0 a1 = some out) : CT l yX10_measure cX10_measure 4 (some .int) 6 130 [.ref (gad g 18), .int a0, .int a1] g S ((fun a : Int32 × St => (some (Value.int a.1), a.2)) out) := CT_of (φ := (fun a : Int32 × St => (some (Value.int a.1), a.2))) [.ref (gad g 18), .int a0, .int a1] ho (by decide) (Nat.le_of_ble_eq_true rfl) (xs := [(0, .ref (gad g 18)), (1, .int a0), (2, .int a1)]) rfl (fun κ C => wX10_measure C S a0 a1)
/-! StairIdeals.told(I)I -/
def mX10_told_80 (S : St) (k42 : Int32 → Int32 → Option (Int32)) (x1 : Int32) (x2 : Int32) : Option (Int32) := bnd (x2 + 1) fun v1 => k42 x1 v1
theorem wX10_told_80 {κ : KT} {g : GT} (C : CX κ g RX10 cX10_told 4 (some .int) 0 0) (S : St) (k42 : Int32 → Int32 → Option (Int32)) (hk42 : ∀ (x1 : Int32) (x2 : Int32), J κ g 4 (fun a : Int32 => (some (Value.int a), S)) S 42 [(0, .ref (gad g 18)), (1, .int x1), (2, .int x2)] [] (k42 x1 x2)) (x1 : Int32) (x2 : Int32) : J κ g 4 (fun a : Int32 => (some (Value.int a), S)) S 80 [(0, .ref (gad g 18)), (1, .int x1), (2, .int x2)] [] (mX10_told_80 S k42 x1 x2) := by
  unfold mX10_told_80
  refine j_iinc C (xs2 := fun v1 => [(0, .ref (gad g 18)), (1, .int x1), (2, .int v1)]) 2 rfl dX10_told_80 (by decide) (by decide) (fun _ => rfl) (fun v1 => ?_)
  refine j_goto C 42 dX10_told_83 (by decide) ?_
  exact hk42 x1 v1
def mX10_told_42 (S : St) : Nat → Int32 → Int32 → Option (Int32)
  | 0, _, _ => none
  | n + 1, x1, x2 => if 3 ≤ x2 then (some (-2))
  else (bnd ((x1 - 20) - (10 * x2)) fun v1 => if v1 < 0 then (mX10_told_80 S (mX10_told_42 S n) x1 x2)
  else (if 4 ≤ v1 then (mX10_told_80 S (mX10_told_42 S n) x1 x2)
  else (inb 12 ((x2 * 4) + v1) fun j2 => some (gA S 64 j2))))
theorem wX10_told_42 {κ : KT} {g : GT} (C : CX κ g RX10 cX10_told 4 (some .int) 0 0) (S : St) : ∀ (n : Nat) (x1 : Int32) (x2 : Int32), J κ g 4 (fun a : Int32 => (some (Value.int a), S)) S 42 [(0, .ref (gad g 18)), (1, .int x1), (2, .int x2)] [] (mX10_told_42 S n x1 x2) := by
  intro n
  induction n with
  | zero => intro x1 x2; exact j_none
  | succ n ih =>
    intro x1 x2
    rw [mX10_told_42]
    refine j_iload_n C 2 rfl dX10_told_42 rfl ?_
    refine j_iconst C (v := 3) (by decide) dX10_told_43 ?_
    refine j_icmp_ge C 86 dX10_told_44 (by decide) ?_ ?_
    · refine j_bipush C (v := (-2)) (by decide) dX10_told_86 ?_
      exact j_iret C rfl dX10_told_88
    · refine j_iload_n C 1 rfl dX10_told_47 rfl ?_
      refine j_bipush C (v := 20) (by decide) dX10_told_48 ?_
      refine j_isub C dX10_told_50 ?_
      refine j_bipush C (v := 10) (by decide) dX10_told_51 ?_
      refine j_iload_n C 2 rfl dX10_told_53 rfl ?_
      refine j_imul C dX10_told_54 ?_
      refine j_isub C dX10_told_55 ?_
      refine j_topi (fun v1 => ?_)
      refine j_istore_n C (xs1 := [(0, .ref (gad g 18)), (1, .int x1), (2, .int x2), (3, .int v1)]) dX10_told_56 rfl (by decide) rfl ?_
      refine j_iload_n C 3 rfl dX10_told_57 rfl ?_
      refine j_if_lt C 80 dX10_told_58 (by decide) ?_ ?_
      · refine j_sub (xs1 := [(0, .ref (gad g 18)), (1, .int x1), (2, .int x2)]) [0, 1, 2] rfl ?_
        exact wX10_told_80 C S (mX10_told_42 S n) ih x1 x2
      · refine j_iload_n C 3 rfl dX10_told_61 rfl ?_
        refine j_iconst C (v := 4) (by decide) dX10_told_62 ?_
        refine j_icmp_ge C 80 dX10_told_63 (by decide) ?_ ?_
        · refine j_sub (xs1 := [(0, .ref (gad g 18)), (1, .int x1), (2, .int x2)]) [0, 1, 2] rfl ?_
          exact wX10_told_80 C S (mX10_told_42 S n) ih x1 x2
        · refine j_aload_n C 0 rfl dX10_told_66 rfl ?_
          refine j_getR C (x := 61) fl_X10_19 sh_18 rfl rfl dX10_told_67 ?_
          refine j_getR C (x := 64) fl_X10_201 sh_61 rfl rfl dX10_told_70 ?_
          refine j_iload_n C 2 rfl dX10_told_73 rfl ?_
          refine j_iconst C (v := 4) (by decide) dX10_told_74 ?_
          refine j_imul C dX10_told_75 ?_
          refine j_iload_n C 3 rfl dX10_told_76 rfl ?_
          refine j_iadd C dX10_told_77 ?_
          refine j_iald C sh_64 rfl dX10_told_78 (fun j2 => ?_)
          exact j_iret C rfl dX10_told_79
def mX10_told_40 (S : St) (x1 : Int32) : Option (Int32) := mX10_told_42 S FU x1 0
theorem wX10_told_40 {κ : KT} {g : GT} (C : CX κ g RX10 cX10_told 4 (some .int) 0 0) (S : St) (x1 : Int32) : J κ g 4 (fun a : Int32 => (some (Value.int a), S)) S 40 [(0, .ref (gad g 18)), (1, .int x1)] [] (mX10_told_40 S x1) := by
  unfold mX10_told_40
  refine j_iconst C (v := 0) (by decide) dX10_told_40 ?_
  refine j_istore_n C (xs1 := [(0, .ref (gad g 18)), (1, .int x1), (2, .int 0)]) dX10_told_41 rfl (by decide) rfl ?_
  exact wX10_told_42 C S FU x1 0
def mX10_told (S : St) (a0 : Int32) : Option (Int32) := if a0 = 0 then (some (gI S 19 2))
  else (if a0 < 10 then (mX10_told_40 S a0)
  else (if 14 ≤ a0 then (mX10_told_40 S a0)
  else (inb 4 (a0 - 10) fun j1 => some (gI S (el 62 j1) 1))))
theorem wX10_told {κ : KT} {g : GT} (C : CX κ g RX10 cX10_told 4 (some .int) 0 0) (S : St) (a0 : Int32) : J κ g 4 (fun a : Int32 => (some (Value.int a), S)) S 0 [(0, .ref (gad g 18)), (1, .int a0)] [] (mX10_told S a0) := by
  unfold mX10_told
  refine j_iload_n C 1 rfl dX10_told_0 rfl ?_
  refine j_if_ne C 12 dX10_told_1 (by decide) ?_ ?_
  · refine j_iload_n C 1 rfl dX10_told_12 rfl ?_
    refine j_bipush C (v := 10) (by decide) dX10_told_13 ?_
    refine j_icmp_lt C 40 dX10_told_15 (by decide) ?_ ?_
    · exact wX10_told_40 C S a0
    · refine j_iload_n C 1 rfl dX10_told_18 rfl ?_
      refine j_bipush C (v := 14) (by decide) dX10_told_19 ?_
      refine j_icmp_ge C 40 dX10_told_21 (by decide) ?_ ?_
      · exact wX10_told_40 C S a0
      · refine j_aload_n C 0 rfl dX10_told_24 rfl ?_
        refine j_getR C (x := 61) fl_X10_19 sh_18 rfl rfl dX10_told_25 ?_
        refine j_getR C (x := 62) fl_X10_60 sh_61 rfl rfl dX10_told_28 ?_
        refine j_iload_n C 1 rfl dX10_told_31 rfl ?_
        refine j_bipush C (v := 10) (by decide) dX10_told_32 ?_
        refine j_isub C dX10_told_34 ?_
        refine j_aald2 C sh_62 rfl dX10_told_35 (fun j1 hj1 => ?_)
        refine j_getI C fl_X10_68 (okI_62 (g := g) hj1).1 (okI_62 (g := g) hj1).2.2.1 rfl dX10_told_36 ?_
        exact j_iret C rfl dX10_told_39
  · refine j_aload_n C 0 rfl dX10_told_4 rfl ?_
    refine j_getR C (x := 19) fl_X10_10 sh_18 rfl rfl dX10_told_5 ?_
    refine j_getI C fl_X10_45 sh_19 rfl rfl dX10_told_8 ?_
    exact j_iret C rfl dX10_told_11
theorem ctX10_told {l : Launch} {g : GT} {S : St} {a0 : Int32} {out : Int32} (ho : mX10_told S a0 = some out) : CT l yX10_told cX10_told 4 (some .int) 0 0 [.ref (gad g 18), .int a0] g S ((fun a : Int32 => (some (Value.int a), S)) out) := CT_of (φ := (fun a : Int32 => (some (Value.int a), S))) [.ref (gad g 18), .int a0] ho (by decide) (Nat.le_of_ble_eq_true rfl) (xs := [(0, .ref (gad g 18)), (1, .int a0)]) rfl (fun κ C => wX10_told C S a0)
