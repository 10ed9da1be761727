/-! StairIdealsModel.fault()I -/
def mX11_fault_55 (S : St) (x1 : Int32) (s0 : Int32) (s1 : Int32) : Option (Int32 × St) := if (gI (sI S 0 7 (s1 + s0)) 0 5) ≤ 0 then (some ((-6), (sI S 0 7 (s1 + s0))))
  else (if x1 = 0 then (some (gI (sI S 0 7 (s1 + s0)) 0 5, (sI S 0 7 (s1 + s0))))
  else (some ((-6), (sI S 0 7 (s1 + s0)))))
theorem wX11_fault_55 {κ : KT} {g : GT} (C : CX κ g RX11 cX11_fault 3 (some .int) 3 64) (S : St) (x1 : Int32) (s0 : Int32) (s1 : Int32) : J κ g 3 (fun a : Int32 × St => (some (Value.int a.1), a.2)) S 55 [(0, .ref (gad g 0)), (1, .int x1)] [.int s0, .int s1, .ref (gad g 0)] (mX11_fault_55 S x1 s0 s1) := by
  unfold mX11_fault_55
  refine j_iadd C dX11_fault_55 ?_
  refine j_putI C fp_X11_111 sh_0 rfl rfl rfl rfl dX11_fault_56 ?_
  refine j_aload_n C 0 rfl dX11_fault_59 rfl ?_
  refine j_getI C fl_X11_107 sh_0 rfl rfl dX11_fault_60 ?_
  refine j_if_le C 77 dX11_fault_63 (by decide) ?_ ?_
  · refine j_bipush C (v := (-6)) (by decide) dX11_fault_77 ?_
    exact j_iret C rfl dX11_fault_79
  · refine j_iload_n C 1 rfl dX11_fault_66 rfl ?_
    refine j_if_ne C 77 dX11_fault_67 (by decide) ?_ ?_
    · refine j_bipush C (v := (-6)) (by decide) dX11_fault_77 ?_
      exact j_iret C rfl dX11_fault_79
    · refine j_aload_n C 0 rfl dX11_fault_70 rfl ?_
      refine j_getI C fl_X11_107 sh_0 rfl rfl dX11_fault_71 ?_
      refine j_goto C 79 dX11_fault_74 (by decide) ?_
      exact j_iret C rfl dX11_fault_79
def mX11_fault_9 : Nat → St → Int32 → Int32 → Option (Int32 × St)
  | 0, _, _, _ => none
  | n + 1, S, x1, x2 => if (gI S 0 5) ≤ x2 then (if x1 = 0 then (mX11_fault_55 S x1 0 (gI S 0 7))
  else (mX11_fault_55 S x1 1 (gI S 0 7)))
  else (inb 60 x2 fun j1 => (mX11_goOn S x1 (gA S 5 j1)).bind fun r2 => if 0 ≤ r2.1 then (bnd (x2 + 1) fun v3 => mX11_fault_9 n r2.2 r2.1 v3)
  else (some (x2, r2.2)))
theorem wX11_fault_9 {κ : KT} {g : GT} (C : CX κ g RX11 cX11_fault 3 (some .int) 3 64) : ∀ (n : Nat) (S : St) (x1 : Int32) (x2 : Int32), J κ g 3 (fun a : Int32 × St => (some (Value.int a.1), a.2)) S 9 [(0, .ref (gad g 0)), (1, .int x1), (2, .int x2)] [] (mX11_fault_9 n S x1 x2) := by
  intro n
  induction n with
  | zero => intro S x1 x2; exact j_none
  | succ n ih =>
    intro S x1 x2
    rw [mX11_fault_9]
    refine j_iload_n C 2 rfl dX11_fault_9 rfl ?_
    refine j_aload_n C 0 rfl dX11_fault_10 rfl ?_
    refine j_getI C fl_X11_107 sh_0 rfl rfl dX11_fault_11 ?_
    refine j_icmp_ge C 41 dX11_fault_14 (by decide) ?_ ?_
    · refine j_aload_n C 0 rfl dX11_fault_41 rfl ?_
      refine j_dup C rfl dX11_fault_42 ?_
      refine j_getI C fl_X11_111 sh_0 rfl rfl dX11_fault_43 ?_
      refine j_iload_n C 1 rfl dX11_fault_46 rfl ?_
      refine j_if_ne C 54 dX11_fault_47 (by decide) ?_ ?_
      · refine j_iconst C (v := 1) (by decide) dX11_fault_54 ?_
        refine j_sub (xs1 := [(0, .ref (gad g 0)), (1, .int x1)]) [0, 1] rfl ?_
        exact wX11_fault_55 C S x1 1 (gI S 0 7)
      · refine j_iconst C (v := 0) (by decide) dX11_fault_50 ?_
        refine j_goto C 55 dX11_fault_51 (by decide) ?_
        refine j_sub (xs1 := [(0, .ref (gad g 0)), (1, .int x1)]) [0, 1] rfl ?_
        exact wX11_fault_55 C S x1 0 (gI S 0 7)
    · refine j_aload_n C 0 rfl dX11_fault_17 rfl ?_
      refine j_iload_n C 1 rfl dX11_fault_18 rfl ?_
      refine j_aload_n C 0 rfl dX11_fault_19 rfl ?_
      refine j_getR C (x := 5) fl_X11_23 sh_0 rfl rfl dX11_fault_20 ?_
      refine j_iload_n C 2 rfl dX11_fault_23 rfl ?_
      refine j_iald C sh_5 rfl dX11_fault_24 (fun j1 => ?_)
      refine j_callViS C [.int x1, .int (gA S 5 j1)] [] mv_X11_125 sh_0 rfl rfl (fun _ h => ctX11_goOn h) ⟨(Nat.le_of_ble_eq_true rfl), (Nat.le_of_ble_eq_true rfl)⟩ (Nat.le_of_ble_eq_true rfl) dX11_fault_25 rfl (fun r2 => ?_)
      refine j_istore_n C (xs1 := [(0, .ref (gad g 0)), (1, .int r2.1), (2, .int x2)]) dX11_fault_28 rfl (by decide) rfl ?_
      refine j_iload_n C 1 rfl dX11_fault_29 rfl ?_
      refine j_if_ge C 35 dX11_fault_30 (by decide) ?_ ?_
      · refine j_iinc C (xs2 := fun v3 => [(0, .ref (gad g 0)), (1, .int r2.1), (2, .int v3)]) 2 rfl dX11_fault_35 (by decide) (by decide) (fun _ => rfl) (fun v3 => ?_)
        refine j_goto C 9 dX11_fault_38 (by decide) ?_
        exact ih r2.2 r2.1 v3
      · refine j_iload_n C 2 rfl dX11_fault_33 rfl ?_
        exact j_iret C rfl dX11_fault_34
def mX11_fault (S : St) : Option (Int32 × St) := mX11_fault_9 FU (sI S 0 7 0) 0 0
theorem wX11_fault {κ : KT} {g : GT} (C : CX κ g RX11 cX11_fault 3 (some .int) 3 64) (S : St) : J κ g 3 (fun a : Int32 × St => (some (Value.int a.1), a.2)) S 0 [(0, .ref (gad g 0))] [] (mX11_fault S) := by
  unfold mX11_fault
  refine j_aload_n C 0 rfl dX11_fault_0 rfl ?_
  refine j_iconst C (v := 0) (by decide) dX11_fault_1 ?_
  refine j_putI C fp_X11_111 sh_0 rfl rfl rfl rfl dX11_fault_2 ?_
  refine j_iconst C (v := 0) (by decide) dX11_fault_5 ?_
  refine j_istore_n C (xs1 := [(0, .ref (gad g 0)), (1, .int 0)]) dX11_fault_6 rfl (by decide) rfl ?_
  refine j_iconst C (v := 0) (by decide) dX11_fault_7 ?_
  refine j_istore_n C (xs1 := [(0, .ref (gad g 0)), (1, .int 0), (2, .int 0)]) dX11_fault_8 rfl (by decide) rfl ?_
  exact wX11_fault_9 C FU (sI S 0 7 0) 0 0
theorem ctX11_fault {l : Launch} {g : GT} {S : St} {out : Int32 × St} (ho : mX11_fault S = some out) : CT l yX11_fault cX11_fault 3 (some .int) 3 64 [.ref (gad g 0)] g S ((fun a : Int32 × St => (some (Value.int a.1), a.2)) out) := CT_of (φ := (fun a : Int32 × St => (some (Value.int a.1), a.2))) [.ref (gad g 0)] ho (by decide) (Nat.le_of_ble_eq_true rfl) (xs := [(0, .ref (gad g 0))]) rfl (fun κ C => wX11_fault C S)
/-! StairIdealsModel.load(I)I -/
def mX11_load_25 : Nat → St → Int32 → Int32 → Option (Int32 × St)
  | 0, _, _, _ => none
  | n + 1, S, x1, x2 => if (gI S 0 7) ≤ x2 then ((mX11_keep (sI S 0 5 0) x1).bind fun r1 => some (r1.1, r1.2))
  else (inb 60 x2 fun j2 => (mX11_markAbove S (gA S 6 j2)).bind fun r3 => bnd (x2 + 1) fun v4 => mX11_load_25 n r3 x1 v4)
theorem wX11_load_25 {κ : KT} {g : GT} (C : CX κ g RX11 cX11_load 3 (some .int) 5 108) : ∀ (n : Nat) (S : St) (x1 : Int32) (x2 : Int32), J κ g 3 (fun a : Int32 × St => (some (Value.int a.1), a.2)) S 25 [(0, .ref (gad g 0)), (1, .int x1), (2, .int x2)] [] (mX11_load_25 n S x1 x2) := by
  intro n
  induction n with
  | zero => intro S x1 x2; exact j_none
  | succ n ih =>
    intro S x1 x2
    rw [mX11_load_25]
    refine j_iload_n C 2 rfl dX11_load_25 rfl ?_
    refine j_aload_n C 0 rfl dX11_load_26 rfl ?_
    refine j_getI C fl_X11_111 sh_0 rfl rfl dX11_load_27 ?_
    refine j_icmp_ge C 49 dX11_load_30 (by decide) ?_ ?_
    · refine j_aload_n C 0 rfl dX11_load_49 rfl ?_
      refine j_iconst C (v := 0) (by decide) dX11_load_50 ?_
      refine j_putI C fp_X11_107 sh_0 rfl rfl rfl rfl dX11_load_51 ?_
      refine j_aload_n C 0 rfl dX11_load_54 rfl ?_
      refine j_iload_n C 1 rfl dX11_load_55 rfl ?_
      refine j_callViS C [.int x1] [] mv_X11_142 sh_0 rfl rfl (fun _ h => ctX11_keep h) ⟨(Nat.le_of_ble_eq_true rfl), (Nat.le_of_ble_eq_true rfl)⟩ (Nat.le_of_ble_eq_true rfl) dX11_load_56 rfl (fun r1 => ?_)
      exact j_iret C rfl dX11_load_59
    · refine j_aload_n C 0 rfl dX11_load_33 rfl ?_
      refine j_aload_n C 0 rfl dX11_load_34 rfl ?_
      refine j_getR C (x := 6) fl_X11_26 sh_0 rfl rfl dX11_load_35 ?_
      refine j_iload_n C 2 rfl dX11_load_38 rfl ?_
      refine j_iald C sh_6 rfl dX11_load_39 (fun j2 => ?_)
      refine j_callVvS C [.int (gA S 6 j2)] [] mv_X11_138 sh_0 rfl rfl (fun _ h => ctX11_markAbove h) ⟨(Nat.le_of_ble_eq_true rfl), (Nat.le_of_ble_eq_true rfl)⟩ (Nat.le_of_ble_eq_true rfl) dX11_load_40 rfl (fun r3 => ?_)
      refine j_iinc C (xs2 := fun v4 => [(0, .ref (gad g 0)), (1, .int x1), (2, .int v4)]) 2 rfl dX11_load_43 (by decide) (by decide) (fun _ => rfl) (fun v4 => ?_)
      refine j_goto C 25 dX11_load_46 (by decide) ?_
      exact ih r3 x1 v4
def mX11_load (S : St) (a0 : Int32) : Option (Int32 × St) := (mX11_isIdeal a0).bind fun r1 => if r1 = 0 then (some ((-1), S))
  else ((mX11_fault S).bind fun r2 => if r2.1 < 0 then ((mX11_clear r2.2).bind fun r3 => mX11_load_25 FU r3 a0 0)
  else (some ((-5), r2.2)))
theorem wX11_load {κ : KT} {g : GT} (C : CX κ g RX11 cX11_load 3 (some .int) 5 108) (S : St) (a0 : Int32) : J κ g 3 (fun a : Int32 × St => (some (Value.int a.1), a.2)) S 0 [(0, .ref (gad g 0)), (1, .int a0)] [] (mX11_load S a0) := by
  unfold mX11_load
  refine j_iload_n C 1 rfl dX11_load_0 rfl ?_
  refine j_callSi C [.int a0] [] ms_X11_128 (fun _ h => ctX11_isIdeal h) ⟨(Nat.le_of_ble_eq_true rfl), (Nat.le_of_ble_eq_true rfl)⟩ (Nat.le_of_ble_eq_true rfl) dX11_load_1 rfl (fun r1 => ?_)
  refine j_if_ne C 9 dX11_load_4 (by decide) ?_ ?_
  · refine j_aload_n C 0 rfl dX11_load_9 rfl ?_
    refine j_callViS C [] [] mv_X11_131 sh_0 rfl rfl (fun _ h => ctX11_fault h) ⟨(Nat.le_of_ble_eq_true rfl), (Nat.le_of_ble_eq_true rfl)⟩ (Nat.le_of_ble_eq_true rfl) dX11_load_10 rfl (fun r2 => ?_)
    refine j_if_lt C 19 dX11_load_13 (by decide) ?_ ?_
    · refine j_aload_n C 0 rfl dX11_load_19 rfl ?_
      refine j_callVvS C [] [] mv_X11_135 sh_0 rfl rfl (fun _ h => ctX11_clear h) ⟨(Nat.le_of_ble_eq_true rfl), (Nat.le_of_ble_eq_true rfl)⟩ (Nat.le_of_ble_eq_true rfl) dX11_load_20 rfl (fun r3 => ?_)
      refine j_iconst C (v := 0) (by decide) dX11_load_23 ?_
      refine j_istore_n C (xs1 := [(0, .ref (gad g 0)), (1, .int a0), (2, .int 0)]) dX11_load_24 rfl (by decide) rfl ?_
      exact wX11_load_25 C FU r3 a0 0
    · refine j_bipush C (v := (-5)) (by decide) dX11_load_16 ?_
      exact j_iret C rfl dX11_load_18
  · refine j_iconst C (v := (-1)) (by decide) dX11_load_7 ?_
    exact j_iret C rfl dX11_load_8
theorem ctX11_load {l : Launch} {g : GT} {S : St} {a0 : Int32} {out : Int32 × St} (ho : mX11_load S a0 = some out) : CT l yX11_load cX11_load 3 (some .int) 5 108 [.ref (gad g 0), .int a0] g S ((fun a : Int32 × St => (some (Value.int a.1), a.2)) out) := CT_of (φ := (fun a : Int32 × St => (some (Value.int a.1), a.2))) [.ref (gad g 0), .int a0] ho (by decide) (Nat.le_of_ble_eq_true rfl) (xs := [(0, .ref (gad g 0)), (1, .int a0)]) rfl (fun κ C => wX11_load C S a0)
/-! StairIdealsModel.generator(II)I -/
def mX11_generator (S : St) (a0 : Int32) (a1 : Int32) : Option (Int32) := (mX11_isIdeal a0).bind fun r1 => if r1 = 0 then (some (-1))
  else (if a1 = (-1) then (inb 16 a0 fun j5 => some (gA S 2 j5))
  else (inb 16 a0 fun j2 => (mX11_in a1.toInt64 0 (((gA S 2 j2) - 1).toInt64)).bind fun r3 => if r3 = 0 then (some (-6))
  else ((mX11_at S a0 a1).bind fun r4 => some r4)))
theorem wX11_generator {κ : KT} {g : GT} (C : CX κ g RX11 cX11_generator 3 (some .int) 2 45) (S : St) (a0 : Int32) (a1 : Int32) : J κ g 3 (fun a : Int32 => (some (Value.int a), S)) S 0 [(0, .ref (gad g 0)), (1, .int a0), (2, .int a1)] [] (mX11_generator S a0 a1) := by
  unfold mX11_generator
  refine j_iload_n C 1 rfl dX11_generator_0 rfl ?_
  refine j_callSi C [.int a0] [] ms_X11_128 (fun _ h => ctX11_isIdeal h) ⟨(Nat.le_of_ble_eq_true rfl), (Nat.le_of_ble_eq_true rfl)⟩ (Nat.le_of_ble_eq_true rfl) dX11_generator_1 rfl (fun r1 => ?_)
  refine j_if_ne C 9 dX11_generator_4 (by decide) ?_ ?_
  · refine j_iload_n C 2 rfl dX11_generator_9 rfl ?_
    refine j_iconst C (v := (-1)) (by decide) dX11_generator_10 ?_
    refine j_icmp_ne C 23 dX11_generator_11 (by decide) ?_ ?_
    · refine j_iload_n C 2 rfl dX11_generator_23 rfl ?_
      refine j_i2l C dX11_generator_24 ?_
      refine j_lconst C (v := 0) (by decide) dX11_generator_25 ?_
      refine j_aload_n C 0 rfl dX11_generator_26 rfl ?_
      refine j_getR C (x := 2) fl_X11_13 sh_0 rfl rfl dX11_generator_27 ?_
      refine j_iload_n C 1 rfl dX11_generator_30 rfl ?_
      refine j_iald C sh_2 rfl dX11_generator_31 (fun j2 => ?_)
      refine j_iconst C (v := 1) (by decide) dX11_generator_32 ?_
      refine j_isub C dX11_generator_33 ?_
      refine j_i2l C dX11_generator_34 ?_
      refine j_callSi C [.long a1.toInt64, .long 0, .long (((gA S 2 j2) - 1).toInt64)] [] ms_X11_64 (fun _ h => ctX11_in h) ⟨(Nat.le_of_ble_eq_true rfl), (Nat.le_of_ble_eq_true rfl)⟩ (Nat.le_of_ble_eq_true rfl) dX11_generator_35 rfl (fun r3 => ?_)
      refine j_if_eq C 50 dX11_generator_38 (by decide) ?_ ?_
      · refine j_bipush C (v := (-6)) (by decide) dX11_generator_50 ?_
        exact j_iret C rfl dX11_generator_52
      · refine j_aload_n C 0 rfl dX11_generator_41 rfl ?_
        refine j_iload_n C 1 rfl dX11_generator_42 rfl ?_
        refine j_iload_n C 2 rfl dX11_generator_43 rfl ?_
        refine j_callVi C [.int a0, .int a1] [] mv_X11_86 sh_0 rfl rfl (fun _ h => ctX11_at h) ⟨(Nat.le_of_ble_eq_true rfl), (Nat.le_of_ble_eq_true rfl)⟩ (Nat.le_of_ble_eq_true rfl) dX11_generator_44 rfl (fun r4 => ?_)
        refine j_goto C 52 dX11_generator_47 (by decide) ?_
        exact j_iret C rfl dX11_generator_52
    · refine j_aload_n C 0 rfl dX11_generator_14 rfl ?_
      refine j_getR C (x := 2) fl_X11_13 sh_0 rfl rfl dX11_generator_15 ?_
      refine j_iload_n C 1 rfl dX11_generator_18 rfl ?_
      refine j_iald C sh_2 rfl dX11_generator_19 (fun j5 => ?_)
      refine j_goto C 52 dX11_generator_20 (by decide) ?_
      exact j_iret C rfl dX11_generator_52
  · refine j_iconst C (v := (-1)) (by decide) dX11_generator_7 ?_
    exact j_iret C rfl dX11_generator_8
theorem ctX11_generator {l : Launch} {g : GT} {S : St} {a0 : Int32} {a1 : Int32} {out : Int32} (ho : mX11_generator S a0 a1 = some out) : CT l yX11_generator cX11_generator 3 (some .int) 2 45 [.ref (gad g 0), .int a0, .int a1] g S ((fun a : Int32 => (some (Value.int a), S)) out) := CT_of (φ := (fun a : Int32 => (some (Value.int a), S))) [.ref (gad g 0), .int a0, .int a1] ho (by decide) (Nat.le_of_ble_eq_true rfl) (xs := [(0, .ref (gad g 0)), (1, .int a0), (2, .int a1)]) rfl (fun κ C => wX11_generator C S a0 a1)
/-! StairIdealsModel.has(II)I -/
def mX11_has (S : St) (a0 : Int32) (a1 : Int32) : Option (Int32) := (mX11_isIdeal a0).bind fun r1 => if r1 = 0 then (some (-1))
  else ((mX11_isCode a1).bind fun r2 => if r2 = 0 then (some (-2))
  else ((mX11_isIn S a0 a1).bind fun r3 => if r3 = 0 then (some 0)
  else (some 1)))
theorem wX11_has {κ : KT} {g : GT} (C : CX κ g RX11 cX11_has 3 (some .int) 4 88) (S : St) (a0 : Int32) (a1 : Int32) : J κ g 3 (fun a : Int32 => (some (Value.int a), S)) S 0 [(0, .ref (gad g 0)), (1, .int a0), (2, .int a1)] [] (mX11_has S a0 a1) := by
  unfold mX11_has
  refine j_iload_n C 1 rfl dX11_has_0 rfl ?_
  refine j_callSi C [.int a0] [] ms_X11_128 (fun _ h => ctX11_isIdeal h) ⟨(Nat.le_of_ble_eq_true rfl), (Nat.le_of_ble_eq_true rfl)⟩ (Nat.le_of_ble_eq_true rfl) dX11_has_1 rfl (fun r1 => ?_)
  refine j_if_ne C 9 dX11_has_4 (by decide) ?_ ?_
  · refine j_iload_n C 2 rfl dX11_has_9 rfl ?_
    refine j_callSi C [.int a1] [] ms_X11_145 (fun _ h => ctX11_isCode h) ⟨(Nat.le_of_ble_eq_true rfl), (Nat.le_of_ble_eq_true rfl)⟩ (Nat.le_of_ble_eq_true rfl) dX11_has_10 rfl (fun r2 => ?_)
    refine j_if_ne C 21 dX11_has_13 (by decide) ?_ ?_
    · refine j_aload_n C 0 rfl dX11_has_21 rfl ?_
      refine j_iload_n C 1 rfl dX11_has_22 rfl ?_
      refine j_iload_n C 2 rfl dX11_has_23 rfl ?_
      refine j_callVi C [.int a0, .int a1] [] mv_X11_148 sh_0 rfl rfl (fun _ h => ctX11_isIn h) ⟨(Nat.le_of_ble_eq_true rfl), (Nat.le_of_ble_eq_true rfl)⟩ (Nat.le_of_ble_eq_true rfl) dX11_has_24 rfl (fun r3 => ?_)
      refine j_if_eq C 34 dX11_has_27 (by decide) ?_ ?_
      · refine j_iconst C (v := 0) (by decide) dX11_has_34 ?_
        exact j_iret C rfl dX11_has_35
      · refine j_iconst C (v := 1) (by decide) dX11_has_30 ?_
        refine j_goto C 35 dX11_has_31 (by decide) ?_
        exact j_iret C rfl dX11_has_35
    · refine j_bipush C (v := (-2)) (by decide) dX11_has_16 ?_
      refine j_goto C 35 dX11_has_18 (by decide) ?_
      exact j_iret C rfl dX11_has_35
  · refine j_iconst C (v := (-1)) (by decide) dX11_has_7 ?_
    exact j_iret C rfl dX11_has_8
theorem ctX11_has {l : Launch} {g : GT} {S : St} {a0 : Int32} {a1 : Int32} {out : Int32} (ho : mX11_has S a0 a1 = some out) : CT l yX11_has cX11_has 3 (some .int) 4 88 [.ref (gad g 0), .int a0, .int a1] g S ((fun a : Int32 => (some (Value.int a), S)) out) := CT_of (φ := (fun a : Int32 => (some (Value.int a), S))) [.ref (gad g 0), .int a0, .int a1] ho (by decide) (Nat.le_of_ble_eq_true rfl) (xs := [(0, .ref (gad g 0)), (1, .int a0), (2, .int a1)]) rfl (fun κ C => wX11_has C S a0 a1)
/-! StairIdealsModel.isQuotient(III)Z -/
def mX11_isQuotient_46 (S : St) (k6 : Int32 → Int32 → Int32 → Int32 → Int32 → Option (Int32)) (x1 : Int32) (x2 : Int32) (x3 : Int32) (x5 : Int32) (s0 : Int32) : Option (Int32) := bnd (x5 + 1) fun v1 => k6 x1 x2 x3 s0 v1
theorem wX11_isQuotient_46 {κ : KT} {g : GT} (C : CX κ g RX11 cX11_isQuotient 6 (some .boolean) 4 88) (S : St) (k6 : Int32 → Int32 → Int32 → Int32 → Int32 → Option (Int32)) (hk6 : ∀ (x1 : Int32) (x2 : Int32) (x3 : Int32) (x4 : Int32) (x5 : Int32), J κ g 6 (fun a : Int32 => (some (Value.int a), S)) S 6 [(0, .ref (gad g 0)), (1, .int x1), (2, .int x2), (3, .int x3), (4, .int x4), (5, .int x5)] [] (k6 x1 x2 x3 x4 x5)) (x1 : Int32) (x2 : Int32) (x3 : Int32) (x5 : Int32) (s0 : Int32) : J κ g 6 (fun a : Int32 => (some (Value.int a), S)) S 46 [(0, .ref (gad g 0)), (1, .int x1), (2, .int x2), (3, .int x3), (5, .int x5)] [.int s0] (mX11_isQuotient_46 S k6 x1 x2 x3 x5 s0) := by
  unfold mX11_isQuotient_46
  refine j_istore C (xs1 := [(0, .ref (gad g 0)), (1, .int x1), (2, .int x2), (3, .int x3), (4, .int s0), (5, .int x5)]) dX11_isQuotient_46 (by decide) rfl ?_
  refine j_iinc C (xs2 := fun v1 => [(0, .ref (gad g 0)), (1, .int x1), (2, .int x2), (3, .int x3), (4, .int s0), (5, .int v1)]) 5 rfl dX11_isQuotient_48 (by decide) (by decide) (fun _ => rfl) (fun v1 => ?_)
  refine j_goto C 6 dX11_isQuotient_51 (by decide) ?_
  exact hk6 x1 x2 x3 s0 v1
def mX11_isQuotient_45 (S : St) (k6 : Int32 → Int32 → Int32 → Int32 → Int32 → Option (Int32)) (x1 : Int32) (x2 : Int32) (x3 : Int32) (x5 : Int32) : Option (Int32) := mX11_isQuotient_46 S k6 x1 x2 x3 x5 0
theorem wX11_isQuotient_45 {κ : KT} {g : GT} (C : CX κ g RX11 cX11_isQuotient 6 (some .boolean) 4 88) (S : St) (k6 : Int32 → Int32 → Int32 → Int32 → Int32 → Option (Int32)) (hk6 : ∀ (x1 : Int32) (x2 : Int32) (x3 : Int32) (x4 : Int32) (x5 : Int32), J κ g 6 (fun a : Int32 => (some (Value.int a), S)) S 6 [(0, .ref (gad g 0)), (1, .int x1), (2, .int x2), (3, .int x3), (4, .int x4), (5, .int x5)] [] (k6 x1 x2 x3 x4 x5)) (x1 : Int32) (x2 : Int32) (x3 : Int32) (x5 : Int32) : J κ g 6 (fun a : Int32 => (some (Value.int a), S)) S 45 [(0, .ref (gad g 0)), (1, .int x1), (2, .int x2), (3, .int x3), (5, .int x5)] [] (mX11_isQuotient_45 S k6 x1 x2 x3 x5) := by
  unfold mX11_isQuotient_45
  refine j_iconst C (v := 0) (by decide) dX11_isQuotient_45 ?_
  exact wX11_isQuotient_46 C S k6 hk6 x1 x2 x3 x5 0
def mX11_isQuotient_6 (S : St) : Nat → Int32 → Int32 → Int32 → Int32 → Int32 → Option (Int32)
  | 0, _, _, _, _, _ => none
  | n + 1, x1, x2, x3, x4, x5 => inb 16 x2 fun j1 => if (gA S 2 j1) ≤ x5 then (zbg x4 (some x4))
  else (if x4 = 0 then (mX11_isQuotient_45 S (mX11_isQuotient_6 S n) x1 x2 x3 x5)
  else ((mX11_at S x2 x5).bind fun r2 => (mX11_capped x3 r2).bind fun r3 => (mX11_isIn S x1 r3).bind fun r4 => if r4 = 0 then (mX11_isQuotient_45 S (mX11_isQuotient_6 S n) x1 x2 x3 x5)
  else (mX11_isQuotient_46 S (mX11_isQuotient_6 S n) x1 x2 x3 x5 1)))
theorem wX11_isQuotient_6 {κ : KT} {g : GT} (C : CX κ g RX11 cX11_isQuotient 6 (some .boolean) 4 88) (S : St) : ∀ (n : Nat) (x1 : Int32) (x2 : Int32) (x3 : Int32) (x4 : Int32) (x5 : Int32), J κ g 6 (fun a : Int32 => (some (Value.int a), S)) S 6 [(0, .ref (gad g 0)), (1, .int x1), (2, .int x2), (3, .int x3), (4, .int x4), (5, .int x5)] [] (mX11_isQuotient_6 S n x1 x2 x3 x4 x5) := by
  intro n
  induction n with
  | zero => intro x1 x2 x3 x4 x5; exact j_none
  | succ n ih =>
    intro x1 x2 x3 x4 x5
    rw [mX11_isQuotient_6]
    refine j_iload C 5 rfl dX11_isQuotient_6 ?_
    refine j_aload_n C 0 rfl dX11_isQuotient_8 rfl ?_
    refine j_getR C (x := 2) fl_X11_13 sh_0 rfl rfl dX11_isQuotient_9 ?_
    refine j_iload_n C 2 rfl dX11_isQuotient_12 rfl ?_
    refine j_iald C sh_2 rfl dX11_isQuotient_13 (fun j1 => ?_)
    refine j_icmp_ge C 54 dX11_isQuotient_14 (by decide) ?_ ?_
    · refine j_iload C 4 rfl dX11_isQuotient_54 ?_
      refine j_zbg (fun hb => ?_)
      exact j_zret C (nar_z hb) rfl dX11_isQuotient_56
    · refine j_iload C 4 rfl dX11_isQuotient_17 ?_
      refine j_if_eq C 45 dX11_isQuotient_19 (by decide) ?_ ?_
      · refine j_sub (xs1 := [(0, .ref (gad g 0)), (1, .int x1), (2, .int x2), (3, .int x3), (5, .int x5)]) [0, 1, 2, 3, 5] rfl ?_
        exact wX11_isQuotient_45 C S (mX11_isQuotient_6 S n) ih x1 x2 x3 x5
      · refine j_aload_n C 0 rfl dX11_isQuotient_22 rfl ?_
        refine j_iload_n C 1 rfl dX11_isQuotient_23 rfl ?_
        refine j_iload_n C 3 rfl dX11_isQuotient_24 rfl ?_
        refine j_aload_n C 0 rfl dX11_isQuotient_25 rfl ?_
        refine j_iload_n C 2 rfl dX11_isQuotient_26 rfl ?_
        refine j_iload C 5 rfl dX11_isQuotient_27 ?_
        refine j_callVi C [.int x2, .int x5] [.int x3, .int x1, .ref (gad g 0)] mv_X11_86 sh_0 rfl rfl (fun _ h => ctX11_at h) ⟨(Nat.le_of_ble_eq_true rfl), (Nat.le_of_ble_eq_true rfl)⟩ (Nat.le_of_ble_eq_true rfl) dX11_isQuotient_29 rfl (fun r2 => ?_)
        refine j_callSi C [.int x3, .int r2] [.int x1, .ref (gad g 0)] ms_X11_151 (fun _ h => ctX11_capped h) ⟨(Nat.le_of_ble_eq_true rfl), (Nat.le_of_ble_eq_true rfl)⟩ (Nat.le_of_ble_eq_true rfl) dX11_isQuotient_32 rfl (fun r3 => ?_)
        refine j_callVi C [.int x1, .int r3] [] mv_X11_148 sh_0 rfl rfl (fun _ h => ctX11_isIn h) ⟨(Nat.le_of_ble_eq_true rfl), (Nat.le_of_ble_eq_true rfl)⟩ (Nat.le_of_ble_eq_true rfl) dX11_isQuotient_35 rfl (fun r4 => ?_)
        refine j_if_eq C 45 dX11_isQuotient_38 (by decide) ?_ ?_
        · refine j_sub (xs1 := [(0, .ref (gad g 0)), (1, .int x1), (2, .int x2), (3, .int x3), (5, .int x5)]) [0, 1, 2, 3, 5] rfl ?_
          exact wX11_isQuotient_45 C S (mX11_isQuotient_6 S n) ih x1 x2 x3 x5
        · refine j_iconst C (v := 1) (by decide) dX11_isQuotient_41 ?_
          refine j_goto C 46 dX11_isQuotient_42 (by decide) ?_
          refine j_sub (xs1 := [(0, .ref (gad g 0)), (1, .int x1), (2, .int x2), (3, .int x3), (5, .int x5)]) [0, 1, 2, 3, 5] rfl ?_
          exact wX11_isQuotient_46 C S (mX11_isQuotient_6 S n) ih x1 x2 x3 x5 1
def mX11_isQuotient (S : St) (a0 : Int32) (a1 : Int32) (a2 : Int32) : Option (Int32) := mX11_isQuotient_6 S FU a0 a1 a2 1 0
theorem wX11_isQuotient {κ : KT} {g : GT} (C : CX κ g RX11 cX11_isQuotient 6 (some .boolean) 4 88) (S : St) (a0 : Int32) (a1 : Int32) (a2 : Int32) : J κ g 6 (fun a : Int32 => (some (Value.int a), S)) S 0 [(0, .ref (gad g 0)), (1, .int a0), (2, .int a1), (3, .int a2)] [] (mX11_isQuotient S a0 a1 a2) := by
  unfold mX11_isQuotient
  refine j_iconst C (v := 1) (by decide) dX11_isQuotient_0 ?_
  refine j_istore C (xs1 := [(0, .ref (gad g 0)), (1, .int a0), (2, .int a1), (3, .int a2), (4, .int 1)]) dX11_isQuotient_1 (by decide) rfl ?_
  refine j_iconst C (v := 0) (by decide) dX11_isQuotient_3 ?_
  refine j_istore C (xs1 := [(0, .ref (gad g 0)), (1, .int a0), (2, .int a1), (3, .int a2), (4, .int 1), (5, .int 0)]) dX11_isQuotient_4 (by decide) rfl ?_
  exact wX11_isQuotient_6 C S FU a0 a1 a2 1 0
theorem ctX11_isQuotient {l : Launch} {g : GT} {S : St} {a0 : Int32} {a1 : Int32} {a2 : Int32} {out : Int32} (ho : mX11_isQuotient S a0 a1 a2 = some out) : CT l yX11_isQuotient cX11_isQuotient 6 (some .boolean) 4 88 [.ref (gad g 0), .int a0, .int a1, .int a2] g S ((fun a : Int32 => (some (Value.int a), S)) out) := CT_of (φ := (fun a : Int32 => (some (Value.int a), S))) [.ref (gad g 0), .int a0, .int a1, .int a2] ho (by decide) (Nat.le_of_ble_eq_true rfl) (xs := [(0, .ref (gad g 0)), (1, .int a0), (2, .int a1), (3, .int a2)]) rfl (fun κ C => wX11_isQuotient C S a0 a1 a2)
/-! StairIdealsModel.isRoot(II)Z -/
def mX11_isRoot_45 (S : St) (k5 : Int32 → Int32 → Int32 → Int32 → Option (Int32)) (x1 : Int32) (x2 : Int32) (x4 : Int32) (s0 : Int32) : Option (Int32) := bnd (x4 + 1) fun v1 => k5 x1 x2 s0 v1
theorem wX11_isRoot_45 {κ : KT} {g : GT} (C : CX κ g RX11 cX11_isRoot 5 (some .boolean) 3 63) (S : St) (k5 : Int32 → Int32 → Int32 → Int32 → Option (Int32)) (hk5 : ∀ (x1 : Int32) (x2 : Int32) (x3 : Int32) (x4 : Int32), J κ g 5 (fun a : Int32 => (some (Value.int a), S)) S 5 [(0, .ref (gad g 0)), (1, .int x1), (2, .int x2), (3, .int x3), (4, .int x4)] [] (k5 x1 x2 x3 x4)) (x1 : Int32) (x2 : Int32) (x4 : Int32) (s0 : Int32) : J κ g 5 (fun a : Int32 => (some (Value.int a), S)) S 45 [(0, .ref (gad g 0)), (1, .int x1), (2, .int x2), (4, .int x4)] [.int s0] (mX11_isRoot_45 S k5 x1 x2 x4 s0) := by
  unfold mX11_isRoot_45
  refine j_istore_n C (xs1 := [(0, .ref (gad g 0)), (1, .int x1), (2, .int x2), (3, .int s0), (4, .int x4)]) dX11_isRoot_45 rfl (by decide) rfl ?_
  refine j_iinc C (xs2 := fun v1 => [(0, .ref (gad g 0)), (1, .int x1), (2, .int x2), (3, .int s0), (4, .int v1)]) 4 rfl dX11_isRoot_46 (by decide) (by decide) (fun _ => rfl) (fun v1 => ?_)
  refine j_goto C 5 dX11_isRoot_49 (by decide) ?_
  exact hk5 x1 x2 s0 v1
def mX11_isRoot_40 (S : St) (k5 : Int32 → Int32 → Int32 → Int32 → Option (Int32)) (x1 : Int32) (x2 : Int32) (x4 : Int32) : Option (Int32) := mX11_isRoot_45 S k5 x1 x2 x4 1
theorem wX11_isRoot_40 {κ : KT} {g : GT} (C : CX κ g RX11 cX11_isRoot 5 (some .boolean) 3 63) (S : St) (k5 : Int32 → Int32 → Int32 → Int32 → Option (Int32)) (hk5 : ∀ (x1 : Int32) (x2 : Int32) (x3 : Int32) (x4 : Int32), J κ g 5 (fun a : Int32 => (some (Value.int a), S)) S 5 [(0, .ref (gad g 0)), (1, .int x1), (2, .int x2), (3, .int x3), (4, .int x4)] [] (k5 x1 x2 x3 x4)) (x1 : Int32) (x2 : Int32) (x4 : Int32) : J κ g 5 (fun a : Int32 => (some (Value.int a), S)) S 40 [(0, .ref (gad g 0)), (1, .int x1), (2, .int x2), (4, .int x4)] [] (mX11_isRoot_40 S k5 x1 x2 x4) := by
  unfold mX11_isRoot_40
  refine j_iconst C (v := 1) (by decide) dX11_isRoot_40 ?_
  refine j_goto C 45 dX11_isRoot_41 (by decide) ?_
  exact wX11_isRoot_45 C S k5 hk5 x1 x2 x4 1
def mX11_isRoot_5 (S : St) : Nat → Int32 → Int32 → Int32 → Int32 → Option (Int32)
  | 0, _, _, _, _ => none
  | n + 1, x1, x2, x3, x4 => inb 16 x1 fun j1 => if (gA S 2 j1) ≤ x4 then (zbg x3 (some x3))
  else (if x3 = 0 then ((mX11_at S x1 x4).bind fun r2 => (mX11_support r2).bind fun r3 => (mX11_support x2).bind fun r4 => if (r3 &&& (r4 ^^^ (-1))) = 0 then (mX11_isRoot_40 S (mX11_isRoot_5 S n) x1 x2 x4)
  else (mX11_isRoot_45 S (mX11_isRoot_5 S n) x1 x2 x4 0))
  else (mX11_isRoot_40 S (mX11_isRoot_5 S n) x1 x2 x4))
theorem wX11_isRoot_5 {κ : KT} {g : GT} (C : CX κ g RX11 cX11_isRoot 5 (some .boolean) 3 63) (S : St) : ∀ (n : Nat) (x1 : Int32) (x2 : Int32) (x3 : Int32) (x4 : Int32), J κ g 5 (fun a : Int32 => (some (Value.int a), S)) S 5 [(0, .ref (gad g 0)), (1, .int x1), (2, .int x2), (3, .int x3), (4, .int x4)] [] (mX11_isRoot_5 S n x1 x2 x3 x4) := by
  intro n
  induction n with
  | zero => intro x1 x2 x3 x4; exact j_none
  | succ n ih =>
    intro x1 x2 x3 x4
    rw [mX11_isRoot_5]
    refine j_iload C 4 rfl dX11_isRoot_5 ?_
    refine j_aload_n C 0 rfl dX11_isRoot_7 rfl ?_
    refine j_getR C (x := 2) fl_X11_13 sh_0 rfl rfl dX11_isRoot_8 ?_
    refine j_iload_n C 1 rfl dX11_isRoot_11 rfl ?_
    refine j_iald C sh_2 rfl dX11_isRoot_12 (fun j1 => ?_)
    refine j_icmp_ge C 52 dX11_isRoot_13 (by decide) ?_ ?_
    · refine j_iload_n C 3 rfl dX11_isRoot_52 rfl ?_
      refine j_zbg (fun hb => ?_)
      exact j_zret C (nar_z hb) rfl dX11_isRoot_53
    · refine j_iload_n C 3 rfl dX11_isRoot_16 rfl ?_
      refine j_if_ne C 40 dX11_isRoot_17 (by decide) ?_ ?_
      · refine j_sub (xs1 := [(0, .ref (gad g 0)), (1, .int x1), (2, .int x2), (4, .int x4)]) [0, 1, 2, 4] rfl ?_
        exact wX11_isRoot_40 C S (mX11_isRoot_5 S n) ih x1 x2 x4
      · refine j_aload_n C 0 rfl dX11_isRoot_20 rfl ?_
        refine j_iload_n C 1 rfl dX11_isRoot_21 rfl ?_
        refine j_iload C 4 rfl dX11_isRoot_22 ?_
        refine j_callVi C [.int x1, .int x4] [] mv_X11_86 sh_0 rfl rfl (fun _ h => ctX11_at h) ⟨(Nat.le_of_ble_eq_true rfl), (Nat.le_of_ble_eq_true rfl)⟩ (Nat.le_of_ble_eq_true rfl) dX11_isRoot_24 rfl (fun r2 => ?_)
        refine j_callSi C [.int r2] [] ms_X11_154 (fun _ h => ctX11_support h) ⟨(Nat.le_of_ble_eq_true rfl), (Nat.le_of_ble_eq_true rfl)⟩ (Nat.le_of_ble_eq_true rfl) dX11_isRoot_27 rfl (fun r3 => ?_)
        refine j_iload_n C 2 rfl dX11_isRoot_30 rfl ?_
        refine j_callSi C [.int x2] [.int r3] ms_X11_154 (fun _ h => ctX11_support h) ⟨(Nat.le_of_ble_eq_true rfl), (Nat.le_of_ble_eq_true rfl)⟩ (Nat.le_of_ble_eq_true rfl) dX11_isRoot_31 rfl (fun r4 => ?_)
        refine j_iconst C (v := (-1)) (by decide) dX11_isRoot_34 ?_
        refine j_ixor C dX11_isRoot_35 ?_
        refine j_iand C dX11_isRoot_36 ?_
        refine j_if_ne C 44 dX11_isRoot_37 (by decide) ?_ ?_
        · refine j_iconst C (v := 0) (by decide) dX11_isRoot_44 ?_
          refine j_sub (xs1 := [(0, .ref (gad g 0)), (1, .int x1), (2, .int x2), (4, .int x4)]) [0, 1, 2, 4] rfl ?_
          exact wX11_isRoot_45 C S (mX11_isRoot_5 S n) ih x1 x2 x4 0
        · refine j_sub (xs1 := [(0, .ref (gad g 0)), (1, .int x1), (2, .int x2), (4, .int x4)]) [0, 1, 2, 4] rfl ?_
          exact wX11_isRoot_40 C S (mX11_isRoot_5 S n) ih x1 x2 x4
def mX11_isRoot (S : St) (a0 : Int32) (a1 : Int32) : Option (Int32) := mX11_isRoot_5 S FU a0 a1 0 0
theorem wX11_isRoot {κ : KT} {g : GT} (C : CX κ g RX11 cX11_isRoot 5 (some .boolean) 3 63) (S : St) (a0 : Int32) (a1 : Int32) : J κ g 5 (fun a : Int32 => (some (Value.int a), S)) S 0 [(0, .ref (gad g 0)), (1, .int a0), (2, .int a1)] [] (mX11_isRoot S a0 a1) := by
  unfold mX11_isRoot
  refine j_iconst C (v := 0) (by decide) dX11_isRoot_0 ?_
  refine j_istore_n C (xs1 := [(0, .ref (gad g 0)), (1, .int a0), (2, .int a1), (3, .int 0)]) dX11_isRoot_1 rfl (by decide) rfl ?_
  refine j_iconst C (v := 0) (by decide) dX11_isRoot_2 ?_
  refine j_istore C (xs1 := [(0, .ref (gad g 0)), (1, .int a0), (2, .int a1), (3, .int 0), (4, .int 0)]) dX11_isRoot_3 (by decide) rfl ?_
  exact wX11_isRoot_5 C S FU a0 a1 0 0
theorem ctX11_isRoot {l : Launch} {g : GT} {S : St} {a0 : Int32} {a1 : Int32} {out : Int32} (ho : mX11_isRoot S a0 a1 = some out) : CT l yX11_isRoot cX11_isRoot 5 (some .boolean) 3 63 [.ref (gad g 0), .int a0, .int a1] g S ((fun a : Int32 => (some (Value.int a), S)) out) := CT_of (φ := (fun a : Int32 => (some (Value.int a), S))) [.ref (gad g 0), .int a0, .int a1] ho (by decide) (Nat.le_of_ble_eq_true rfl) (xs := [(0, .ref (gad g 0)), (1, .int a0), (2, .int a1)]) rfl (fun κ C => wX11_isRoot C S a0 a1)
/-! StairIdealsModel.isMade(IIII)Z -/
def mX11_isMade_52 (S : St) : Option (Int32) := some 1
theorem wX11_isMade_52 {κ : KT} {g : GT} (C : CX κ g RX11 cX11_isMade 5 (some .boolean) 5 113) (S : St) : J κ g 5 (fun a : Int32 => (some (Value.int a), S)) S 52 [] [] (mX11_isMade_52 S) := by
  unfold mX11_isMade_52
  refine j_iconst C (v := 1) (by decide) dX11_isMade_52 ?_
  refine j_goto C 57 dX11_isMade_53 (by decide) ?_
  exact j_zret C rfl rfl dX11_isMade_57
def mX11_isMade (S : St) (a0 : Int32) (a1 : Int32) (a2 : Int32) (a3 : Int32) : Option (Int32) := if a0 = 0 then ((mX11_isIn S a1 a3).bind fun r1 => if r1 = 0 then ((mX11_isIn S a2 a3).bind fun r2 => if r2 = 0 then (some 0)
  else (mX11_isMade_52 S))
  else (mX11_isMade_52 S))
  else if a0 = 1 then ((mX11_isIn S a1 a3).bind fun r3 => if r3 = 0 then (some 0)
  else ((mX11_isIn S a2 a3).bind fun r4 => if r4 = 0 then (some 0)
  else (some 1)))
  else if a0 = 2 then ((mX11_isRoot S a1 a3).bind fun r5 => zbg r5 (some r5))
  else if a0 = 3 then ((mX11_isQuotient S a1 a2 a3).bind fun r6 => zbg r6 (some r6))
  else ((mX11_isRoot S a1 a3).bind fun r7 => zbg r7 (some r7))
theorem wX11_isMade {κ : KT} {g : GT} (C : CX κ g RX11 cX11_isMade 5 (some .boolean) 5 113) (S : St) (a0 : Int32) (a1 : Int32) (a2 : Int32) (a3 : Int32) : J κ g 5 (fun a : Int32 => (some (Value.int a), S)) S 0 [(0, .ref (gad g 0)), (1, .int a0), (2, .int a1), (3, .int a2), (4, .int a3)] [] (mX11_isMade S a0 a1 a2 a3) := by
  unfold mX11_isMade
  refine j_iload_n C 1 rfl dX11_isMade_0 rfl ?_
  refine j_case (fun hx0 => ?_) (fun hx0 => ?_)
  · refine j_tswIn C (off := 31) 32 hx0 dX11_isMade_1 (by decide) (by decide) (by decide) (by decide) ?_
    refine j_aload_n C 0 rfl dX11_isMade_32 rfl ?_
    refine j_iload_n C 2 rfl dX11_isMade_33 rfl ?_
    refine j_iload C 4 rfl dX11_isMade_34 ?_
    refine j_callVi C [.int a1, .int a3] [] mv_X11_148 sh_0 rfl rfl (fun _ h => ctX11_isIn h) ⟨(Nat.le_of_ble_eq_true rfl), (Nat.le_of_ble_eq_true rfl)⟩ (Nat.le_of_ble_eq_true rfl) dX11_isMade_36 rfl (fun r1 => ?_)
    refine j_if_ne C 52 dX11_isMade_39 (by decide) ?_ ?_
    · refine j_sub (xs1 := []) [] rfl ?_
      exact wX11_isMade_52 C S
    · refine j_aload_n C 0 rfl dX11_isMade_42 rfl ?_
      refine j_iload_n C 3 rfl dX11_isMade_43 rfl ?_
      refine j_iload C 4 rfl dX11_isMade_44 ?_
      refine j_callVi C [.int a2, .int a3] [] mv_X11_148 sh_0 rfl rfl (fun _ h => ctX11_isIn h) ⟨(Nat.le_of_ble_eq_true rfl), (Nat.le_of_ble_eq_true rfl)⟩ (Nat.le_of_ble_eq_true rfl) dX11_isMade_46 rfl (fun r2 => ?_)
      refine j_if_eq C 56 dX11_isMade_49 (by decide) ?_ ?_
      · refine j_iconst C (v := 0) (by decide) dX11_isMade_56 ?_
        exact j_zret C rfl rfl dX11_isMade_57
      · refine j_sub (xs1 := []) [] rfl ?_
        exact wX11_isMade_52 C S
  refine j_case (fun hx1 => ?_) (fun hx1 => ?_)
  · refine j_tswIn C (off := 57) 58 hx1 dX11_isMade_1 (by decide) (by decide) (by decide) (by decide) ?_
    refine j_aload_n C 0 rfl dX11_isMade_58 rfl ?_
    refine j_iload_n C 2 rfl dX11_isMade_59 rfl ?_
    refine j_iload C 4 rfl dX11_isMade_60 ?_
    refine j_callVi C [.int a1, .int a3] [] mv_X11_148 sh_0 rfl rfl (fun _ h => ctX11_isIn h) ⟨(Nat.le_of_ble_eq_true rfl), (Nat.le_of_ble_eq_true rfl)⟩ (Nat.le_of_ble_eq_true rfl) dX11_isMade_62 rfl (fun r3 => ?_)
    refine j_if_eq C 82 dX11_isMade_65 (by decide) ?_ ?_
    · refine j_iconst C (v := 0) (by decide) dX11_isMade_82 ?_
      exact j_zret C rfl rfl dX11_isMade_83
    · refine j_aload_n C 0 rfl dX11_isMade_68 rfl ?_
      refine j_iload_n C 3 rfl dX11_isMade_69 rfl ?_
      refine j_iload C 4 rfl dX11_isMade_70 ?_
      refine j_callVi C [.int a2, .int a3] [] mv_X11_148 sh_0 rfl rfl (fun _ h => ctX11_isIn h) ⟨(Nat.le_of_ble_eq_true rfl), (Nat.le_of_ble_eq_true rfl)⟩ (Nat.le_of_ble_eq_true rfl) dX11_isMade_72 rfl (fun r4 => ?_)
      refine j_if_eq C 82 dX11_isMade_75 (by decide) ?_ ?_
      · refine j_iconst C (v := 0) (by decide) dX11_isMade_82 ?_
        exact j_zret C rfl rfl dX11_isMade_83
      · refine j_iconst C (v := 1) (by decide) dX11_isMade_78 ?_
        refine j_goto C 83 dX11_isMade_79 (by decide) ?_
        exact j_zret C rfl rfl dX11_isMade_83
  refine j_case (fun hx2 => ?_) (fun hx2 => ?_)
  · refine j_tswIn C (off := 92) 93 hx2 dX11_isMade_1 (by decide) (by decide) (by decide) (by decide) ?_
    refine j_aload_n C 0 rfl dX11_isMade_93 rfl ?_
    refine j_iload_n C 2 rfl dX11_isMade_94 rfl ?_
    refine j_iload C 4 rfl dX11_isMade_95 ?_
    refine j_callVi C [.int a1, .int a3] [] mv_X11_161 sh_0 rfl rfl (fun _ h => ctX11_isRoot h) ⟨(Nat.le_of_ble_eq_true rfl), (Nat.le_of_ble_eq_true rfl)⟩ (Nat.le_of_ble_eq_true rfl) dX11_isMade_97 rfl (fun r5 => ?_)
    refine j_zbg (fun hb => ?_)
    exact j_zret C (nar_z hb) rfl dX11_isMade_100
  refine j_case (fun hx3 => ?_) (fun hx3 => ?_)
  · refine j_tswIn C (off := 83) 84 hx3 dX11_isMade_1 (by decide) (by decide) (by decide) (by decide) ?_
    refine j_aload_n C 0 rfl dX11_isMade_84 rfl ?_
    refine j_iload_n C 2 rfl dX11_isMade_85 rfl ?_
    refine j_iload_n C 3 rfl dX11_isMade_86 rfl ?_
    refine j_iload C 4 rfl dX11_isMade_87 ?_
    refine j_callVi C [.int a1, .int a2, .int a3] [] mv_X11_157 sh_0 rfl rfl (fun _ h => ctX11_isQuotient h) ⟨(Nat.le_of_ble_eq_true rfl), (Nat.le_of_ble_eq_true rfl)⟩ (Nat.le_of_ble_eq_true rfl) dX11_isMade_89 rfl (fun r6 => ?_)
    refine j_zbg (fun hb => ?_)
    exact j_zret C (nar_z hb) rfl dX11_isMade_92
  refine j_tswOut3 C 93 dX11_isMade_1 hx0 hx1 hx2 hx3 (by decide) ?_
  refine j_aload_n C 0 rfl dX11_isMade_93 rfl ?_
  refine j_iload_n C 2 rfl dX11_isMade_94 rfl ?_
  refine j_iload C 4 rfl dX11_isMade_95 ?_
  refine j_callVi C [.int a1, .int a3] [] mv_X11_161 sh_0 rfl rfl (fun _ h => ctX11_isRoot h) ⟨(Nat.le_of_ble_eq_true rfl), (Nat.le_of_ble_eq_true rfl)⟩ (Nat.le_of_ble_eq_true rfl) dX11_isMade_97 rfl (fun r7 => ?_)
  refine j_zbg (fun hb => ?_)
  exact j_zret C (nar_z hb) rfl dX11_isMade_100
theorem ctX11_isMade {l : Launch} {g : GT} {S : St} {a0 : Int32} {a1 : Int32} {a2 : Int32} {a3 : Int32} {out : Int32} (ho : mX11_isMade S a0 a1 a2 a3 = some out) : CT l yX11_isMade cX11_isMade 5 (some .boolean) 5 113 [.ref (gad g 0), .int a0, .int a1, .int a2, .int a3] g S ((fun a : Int32 => (some (Value.int a), S)) out) := CT_of (φ := (fun a : Int32 => (some (Value.int a), S))) [.ref (gad g 0), .int a0, .int a1, .int a2, .int a3] ho (by decide) (Nat.le_of_ble_eq_true rfl) (xs := [(0, .ref (gad g 0)), (1, .int a0), (2, .int a1), (3, .int a2), (4, .int a3)]) rfl (fun κ C => wX11_isMade C S a0 a1 a2 a3)
/-! StairIdealsModel.packed(II)I -/
def mX11_packed_4 : Nat → Int32 → Int32 → Int32 → Int32 → Option (Int32)
  | 0, _, _, _, _ => none
  | n + 1, x0, x1, x2, x3 => if 4 ≤ x3 then (some x2)
  else ((mX11_power x0 x3).bind fun r1 => (mX11_power x1 x3).bind fun r2 => bnd (((16 * x2) + r1) + r2) fun v3 => bnd (x3 + 1) fun v4 => mX11_packed_4 n x0 x1 v3 v4)
theorem wX11_packed_4 {κ : KT} {g : GT} (C : CX κ g RX11 cX11_packed 4 (some .int) 2 41) (S : St) : ∀ (n : Nat) (x0 : Int32) (x1 : Int32) (x2 : Int32) (x3 : Int32), J κ g 4 (fun a : Int32 => (some (Value.int a), S)) S 4 [(0, .int x0), (1, .int x1), (2, .int x2), (3, .int x3)] [] (mX11_packed_4 n x0 x1 x2 x3) := by
  intro n
  induction n with
  | zero => intro x0 x1 x2 x3; exact j_none
  | succ n ih =>
    intro x0 x1 x2 x3
    rw [mX11_packed_4]
    refine j_iload_n C 3 rfl dX11_packed_4 rfl ?_
    refine j_iconst C (v := 4) (by decide) dX11_packed_5 ?_
    refine j_icmp_ge C 32 dX11_packed_6 (by decide) ?_ ?_
    · refine j_iload_n C 2 rfl dX11_packed_32 rfl ?_
      exact j_iret C rfl dX11_packed_33
    · refine j_bipush C (v := 16) (by decide) dX11_packed_9 ?_
      refine j_iload_n C 2 rfl dX11_packed_11 rfl ?_
      refine j_imul C dX11_packed_12 ?_
      refine j_iload_n C 0 rfl dX11_packed_13 rfl ?_
      refine j_iload_n C 3 rfl dX11_packed_14 rfl ?_
      refine j_callSi C [.int x0, .int x3] [.int (16 * x2)] ms_X11_76 (fun _ h => ctX11_power h) ⟨(Nat.le_of_ble_eq_true rfl), (Nat.le_of_ble_eq_true rfl)⟩ (Nat.le_of_ble_eq_true rfl) dX11_packed_15 rfl (fun r1 => ?_)
      refine j_iadd C dX11_packed_18 ?_
      refine j_iload_n C 1 rfl dX11_packed_19 rfl ?_
      refine j_iload_n C 3 rfl dX11_packed_20 rfl ?_
      refine j_callSi C [.int x1, .int x3] [.int ((16 * x2) + r1)] ms_X11_76 (fun _ h => ctX11_power h) ⟨(Nat.le_of_ble_eq_true rfl), (Nat.le_of_ble_eq_true rfl)⟩ (Nat.le_of_ble_eq_true rfl) dX11_packed_21 rfl (fun r2 => ?_)
      refine j_iadd C dX11_packed_24 ?_
      refine j_topi (fun v3 => ?_)
      refine j_istore_n C (xs1 := [(0, .int x0), (1, .int x1), (2, .int v3), (3, .int x3)]) dX11_packed_25 rfl (by decide) rfl ?_
      refine j_iinc C (xs2 := fun v4 => [(0, .int x0), (1, .int x1), (2, .int v3), (3, .int v4)]) 3 rfl dX11_packed_26 (by decide) (by decide) (fun _ => rfl) (fun v4 => ?_)
      refine j_goto C 4 dX11_packed_29 (by decide) ?_
      exact ih x0 x1 v3 v4
def mX11_packed (a0 : Int32) (a1 : Int32) : Option (Int32) := mX11_packed_4 FU a0 a1 0 0
theorem wX11_packed {κ : KT} {g : GT} (C : CX κ g RX11 cX11_packed 4 (some .int) 2 41) (S : St) (a0 : Int32) (a1 : Int32) : J κ g 4 (fun a : Int32 => (some (Value.int a), S)) S 0 [(0, .int a0), (1, .int a1)] [] (mX11_packed a0 a1) := by
  unfold mX11_packed
  refine j_iconst C (v := 0) (by decide) dX11_packed_0 ?_
  refine j_istore_n C (xs1 := [(0, .int a0), (1, .int a1), (2, .int 0)]) dX11_packed_1 rfl (by decide) rfl ?_
  refine j_iconst C (v := 0) (by decide) dX11_packed_2 ?_
  refine j_istore_n C (xs1 := [(0, .int a0), (1, .int a1), (2, .int 0), (3, .int 0)]) dX11_packed_3 rfl (by decide) rfl ?_
  exact wX11_packed_4 C S FU a0 a1 0 0
theorem ctX11_packed {l : Launch} {g : GT} {S : St} {a0 : Int32} {a1 : Int32} {out : Int32} (ho : mX11_packed a0 a1 = some out) : CT l yX11_packed cX11_packed 4 (some .int) 2 41 [.int a0, .int a1] g S ((fun a : Int32 => (some (Value.int a), S)) out) := CT_of (φ := (fun a : Int32 => (some (Value.int a), S))) [.int a0, .int a1] ho (by decide) (Nat.le_of_ble_eq_true rfl) (xs := [(0, .int a0), (1, .int a1)]) rfl (fun κ C => wX11_packed C S a0 a1)
/-! StairIdealsModel.isUnder(II)Z -/
def mX11_isUnder_37 (k4 : Int32 → Int32 → Int32 → Int32 → Option (Int32)) (x0 : Int32) (x1 : Int32) (x3 : Int32) (s0 : Int32) : Option (Int32) := bnd (x3 + 1) fun v1 => k4 x0 x1 s0 v1
theorem wX11_isUnder_37 {κ : KT} {g : GT} (C : CX κ g RX11 cX11_isUnder 4 (some .boolean) 0 0) (S : St) (k4 : Int32 → Int32 → Int32 → Int32 → Option (Int32)) (hk4 : ∀ (x0 : Int32) (x1 : Int32) (x2 : Int32) (x3 : Int32), J κ g 4 (fun a : Int32 => (some (Value.int a), S)) S 4 [(0, .int x0), (1, .int x1), (2, .int x2), (3, .int x3)] [] (k4 x0 x1 x2 x3)) (x0 : Int32) (x1 : Int32) (x3 : Int32) (s0 : Int32) : J κ g 4 (fun a : Int32 => (some (Value.int a), S)) S 37 [(0, .int x0), (1, .int x1), (3, .int x3)] [.int s0] (mX11_isUnder_37 k4 x0 x1 x3 s0) := by
  unfold mX11_isUnder_37
  refine j_istore_n C (xs1 := [(0, .int x0), (1, .int x1), (2, .int s0), (3, .int x3)]) dX11_isUnder_37 rfl (by decide) rfl ?_
  refine j_iinc C (xs2 := fun v1 => [(0, .int x0), (1, .int x1), (2, .int s0), (3, .int v1)]) 3 rfl dX11_isUnder_38 (by decide) (by decide) (fun _ => rfl) (fun v1 => ?_)
  refine j_goto C 4 dX11_isUnder_41 (by decide) ?_
  exact hk4 x0 x1 s0 v1
def mX11_isUnder_36 (k4 : Int32 → Int32 → Int32 → Int32 → Option (Int32)) (x0 : Int32) (x1 : Int32) (x3 : Int32) : Option (Int32) := mX11_isUnder_37 k4 x0 x1 x3 0
theorem wX11_isUnder_36 {κ : KT} {g : GT} (C : CX κ g RX11 cX11_isUnder 4 (some .boolean) 0 0) (S : St) (k4 : Int32 → Int32 → Int32 → Int32 → Option (Int32)) (hk4 : ∀ (x0 : Int32) (x1 : Int32) (x2 : Int32) (x3 : Int32), J κ g 4 (fun a : Int32 => (some (Value.int a), S)) S 4 [(0, .int x0), (1, .int x1), (2, .int x2), (3, .int x3)] [] (k4 x0 x1 x2 x3)) (x0 : Int32) (x1 : Int32) (x3 : Int32) : J κ g 4 (fun a : Int32 => (some (Value.int a), S)) S 36 [(0, .int x0), (1, .int x1), (3, .int x3)] [] (mX11_isUnder_36 k4 x0 x1 x3) := by
  unfold mX11_isUnder_36
  refine j_iconst C (v := 0) (by decide) dX11_isUnder_36 ?_
  exact wX11_isUnder_37 C S k4 hk4 x0 x1 x3 0
def mX11_isUnder_4 : Nat → Int32 → Int32 → Int32 → Int32 → Option (Int32)
  | 0, _, _, _, _ => none
  | n + 1, x0, x1, x2, x3 => if 4 ≤ x3 then (zbg x2 (some x2))
  else (if x2 = 0 then (mX11_isUnder_36 (mX11_isUnder_4 n) x0 x1 x3)
  else (if ((x1 >>> ((4 * x3) &&& 31)) &&& 15) < ((x0 >>> ((4 * x3) &&& 31)) &&& 15) then (mX11_isUnder_36 (mX11_isUnder_4 n) x0 x1 x3)
  else (mX11_isUnder_37 (mX11_isUnder_4 n) x0 x1 x3 1)))
theorem wX11_isUnder_4 {κ : KT} {g : GT} (C : CX κ g RX11 cX11_isUnder 4 (some .boolean) 0 0) (S : St) : ∀ (n : Nat) (x0 : Int32) (x1 : Int32) (x2 : Int32) (x3 : Int32), J κ g 4 (fun a : Int32 => (some (Value.int a), S)) S 4 [(0, .int x0), (1, .int x1), (2, .int x2), (3, .int x3)] [] (mX11_isUnder_4 n x0 x1 x2 x3) := by
  intro n
  induction n with
  | zero => intro x0 x1 x2 x3; exact j_none
  | succ n ih =>
    intro x0 x1 x2 x3
    rw [mX11_isUnder_4]
    refine j_iload_n C 3 rfl dX11_isUnder_4 rfl ?_
    refine j_iconst C (v := 4) (by decide) dX11_isUnder_5 ?_
    refine j_icmp_ge C 44 dX11_isUnder_6 (by decide) ?_ ?_
    · refine j_iload_n C 2 rfl dX11_isUnder_44 rfl ?_
      refine j_zbg (fun hb => ?_)
      exact j_zret C (nar_z hb) rfl dX11_isUnder_45
    · refine j_iload_n C 2 rfl dX11_isUnder_9 rfl ?_
      refine j_if_eq C 36 dX11_isUnder_10 (by decide) ?_ ?_
      · refine j_sub (xs1 := [(0, .int x0), (1, .int x1), (3, .int x3)]) [0, 1, 3] rfl ?_
        exact wX11_isUnder_36 C S (mX11_isUnder_4 n) ih x0 x1 x3
      · refine j_iload_n C 0 rfl dX11_isUnder_13 rfl ?_
        refine j_iconst C (v := 4) (by decide) dX11_isUnder_14 ?_
        refine j_iload_n C 3 rfl dX11_isUnder_15 rfl ?_
        refine j_imul C dX11_isUnder_16 ?_
        refine j_ishr C dX11_isUnder_17 ?_
        refine j_bipush C (v := 15) (by decide) dX11_isUnder_18 ?_
        refine j_iand C dX11_isUnder_20 ?_
        refine j_iload_n C 1 rfl dX11_isUnder_21 rfl ?_
        refine j_iconst C (v := 4) (by decide) dX11_isUnder_22 ?_
        refine j_iload_n C 3 rfl dX11_isUnder_23 rfl ?_
        refine j_imul C dX11_isUnder_24 ?_
        refine j_ishr C dX11_isUnder_25 ?_
        refine j_bipush C (v := 15) (by decide) dX11_isUnder_26 ?_
        refine j_iand C dX11_isUnder_28 ?_
        refine j_icmp_gt C 36 dX11_isUnder_29 (by decide) ?_ ?_
        · refine j_sub (xs1 := [(0, .int x0), (1, .int x1), (3, .int x3)]) [0, 1, 3] rfl ?_
          exact wX11_isUnder_36 C S (mX11_isUnder_4 n) ih x0 x1 x3
        · refine j_iconst C (v := 1) (by decide) dX11_isUnder_32 ?_
          refine j_goto C 37 dX11_isUnder_33 (by decide) ?_
          refine j_sub (xs1 := [(0, .int x0), (1, .int x1), (3, .int x3)]) [0, 1, 3] rfl ?_
          exact wX11_isUnder_37 C S (mX11_isUnder_4 n) ih x0 x1 x3 1
def mX11_isUnder (a0 : Int32) (a1 : Int32) : Option (Int32) := mX11_isUnder_4 FU a0 a1 1 0
theorem wX11_isUnder {κ : KT} {g : GT} (C : CX κ g RX11 cX11_isUnder 4 (some .boolean) 0 0) (S : St) (a0 : Int32) (a1 : Int32) : J κ g 4 (fun a : Int32 => (some (Value.int a), S)) S 0 [(0, .int a0), (1, .int a1)] [] (mX11_isUnder a0 a1) := by
  unfold mX11_isUnder
  refine j_iconst C (v := 1) (by decide) dX11_isUnder_0 ?_
  refine j_istore_n C (xs1 := [(0, .int a0), (1, .int a1), (2, .int 1)]) dX11_isUnder_1 rfl (by decide) rfl ?_
  refine j_iconst C (v := 0) (by decide) dX11_isUnder_2 ?_
  refine j_istore_n C (xs1 := [(0, .int a0), (1, .int a1), (2, .int 1), (3, .int 0)]) dX11_isUnder_3 rfl (by decide) rfl ?_
  exact wX11_isUnder_4 C S FU a0 a1 1 0
theorem ctX11_isUnder {l : Launch} {g : GT} {S : St} {a0 : Int32} {a1 : Int32} {out : Int32} (ho : mX11_isUnder a0 a1 = some out) : CT l yX11_isUnder cX11_isUnder 4 (some .boolean) 0 0 [.int a0, .int a1] g S ((fun a : Int32 => (some (Value.int a), S)) out) := CT_of (φ := (fun a : Int32 => (some (Value.int a), S))) [.int a0, .int a1] ho (by decide) (Nat.le_of_ble_eq_true rfl) (xs := [(0, .int a0), (1, .int a1)]) rfl (fun κ C => wX11_isUnder C S a0 a1)
/-! StairIdealsModel.addProduct(I)V -/
def mX11_addProduct_73 (k34 : St → Int32 → Int32 → Int32 → Option (St)) (S : St) (x1 : Int32) (x3 : Int32) (s0 : Int32) (s1 : Int32) : Option (St) := bnd (s1 + s0) fun v1 => bnd (x3 + 1) fun v2 => k34 S x1 v1 v2
theorem wX11_addProduct_73 {κ : KT} {g : GT} (C : CX κ g RX11 cX11_addProduct 4 none 1 23) (k34 : St → Int32 → Int32 → Int32 → Option (St)) (hk34 : ∀ (S : St) (x1 : Int32) (x2 : Int32) (x3 : Int32), J κ g 4 (fun a : St => (none, a)) S 34 [(0, .ref (gad g 0)), (1, .int x1), (2, .int x2), (3, .int x3)] [] (k34 S x1 x2 x3)) (S : St) (x1 : Int32) (x3 : Int32) (s0 : Int32) (s1 : Int32) : J κ g 4 (fun a : St => (none, a)) S 73 [(0, .ref (gad g 0)), (1, .int x1), (3, .int x3)] [.int s0, .int s1] (mX11_addProduct_73 k34 S x1 x3 s0 s1) := by
  unfold mX11_addProduct_73
  refine j_iadd C dX11_addProduct_73 ?_
  refine j_topi (fun v1 => ?_)
  refine j_istore_n C (xs1 := [(0, .ref (gad g 0)), (1, .int x1), (2, .int v1), (3, .int x3)]) dX11_addProduct_74 rfl (by decide) rfl ?_
  refine j_iinc C (xs2 := fun v2 => [(0, .ref (gad g 0)), (1, .int x1), (2, .int v1), (3, .int v2)]) 3 rfl dX11_addProduct_75 (by decide) (by decide) (fun _ => rfl) (fun v2 => ?_)
  refine j_goto C 34 dX11_addProduct_78 (by decide) ?_
  exact hk34 S x1 v1 v2
def mX11_addProduct_34 : Nat → St → Int32 → Int32 → Int32 → Option (St)
  | 0, _, _, _, _ => none
  | n + 1, S, x1, x2, x3 => if (gI S 0 10) ≤ x3 then (inb 1600 x2 fun j1 => some (sI (sA S 7 j1 x1) 0 10 (x2 + 1)))
  else (inb 1600 x3 fun j2 => inb 1600 x2 fun j3 => inb 1600 x3 fun j4 => (mX11_isUnder x1 (gA (sA S 7 j3 (gA S 7 j2)) 7 j4)).bind fun r5 => if r5 = 0 then (mX11_addProduct_73 (mX11_addProduct_34 n) (sA S 7 j3 (gA S 7 j2)) x1 x3 1 x2)
  else (mX11_addProduct_73 (mX11_addProduct_34 n) (sA S 7 j3 (gA S 7 j2)) x1 x3 0 x2))
theorem wX11_addProduct_34 {κ : KT} {g : GT} (C : CX κ g RX11 cX11_addProduct 4 none 1 23) : ∀ (n : Nat) (S : St) (x1 : Int32) (x2 : Int32) (x3 : Int32), J κ g 4 (fun a : St => (none, a)) S 34 [(0, .ref (gad g 0)), (1, .int x1), (2, .int x2), (3, .int x3)] [] (mX11_addProduct_34 n S x1 x2 x3) := by
  intro n
  induction n with
  | zero => intro S x1 x2 x3; exact j_none
  | succ n ih =>
    intro S x1 x2 x3
    rw [mX11_addProduct_34]
    refine j_iload_n C 3 rfl dX11_addProduct_34 rfl ?_
    refine j_aload_n C 0 rfl dX11_addProduct_35 rfl ?_
    refine j_getI C fl_X11_164 sh_0 rfl rfl dX11_addProduct_36 ?_
    refine j_icmp_ge C 81 dX11_addProduct_39 (by decide) ?_ ?_
    · refine j_aload_n C 0 rfl dX11_addProduct_81 rfl ?_
      refine j_getR C (x := 7) fl_X11_29 sh_0 rfl rfl dX11_addProduct_82 ?_
      refine j_iload_n C 2 rfl dX11_addProduct_85 rfl ?_
      refine j_iload_n C 1 rfl dX11_addProduct_86 rfl ?_
      refine j_iast C sh_7 rfl dX11_addProduct_87 (fun j1 => ?_)
      refine j_aload_n C 0 rfl dX11_addProduct_88 rfl ?_
      refine j_iload_n C 2 rfl dX11_addProduct_89 rfl ?_
      refine j_iconst C (v := 1) (by decide) dX11_addProduct_90 ?_
      refine j_iadd C dX11_addProduct_91 ?_
      refine j_putI C fp_X11_164 sh_0 rfl rfl rfl rfl dX11_addProduct_92 ?_
      exact j_vret C rfl dX11_addProduct_95
    · refine j_aload_n C 0 rfl dX11_addProduct_42 rfl ?_
      refine j_getR C (x := 7) fl_X11_29 sh_0 rfl rfl dX11_addProduct_43 ?_
      refine j_iload_n C 2 rfl dX11_addProduct_46 rfl ?_
      refine j_aload_n C 0 rfl dX11_addProduct_47 rfl ?_
      refine j_getR C (x := 7) fl_X11_29 sh_0 rfl rfl dX11_addProduct_48 ?_
      refine j_iload_n C 3 rfl dX11_addProduct_51 rfl ?_
      refine j_iald C sh_7 rfl dX11_addProduct_52 (fun j2 => ?_)
      refine j_iast C sh_7 rfl dX11_addProduct_53 (fun j3 => ?_)
      refine j_iload_n C 2 rfl dX11_addProduct_54 rfl ?_
      refine j_iload_n C 1 rfl dX11_addProduct_55 rfl ?_
      refine j_aload_n C 0 rfl dX11_addProduct_56 rfl ?_
      refine j_getR C (x := 7) fl_X11_29 sh_0 rfl rfl dX11_addProduct_57 ?_
      refine j_iload_n C 3 rfl dX11_addProduct_60 rfl ?_
      refine j_iald C sh_7 rfl dX11_addProduct_61 (fun j4 => ?_)
      refine j_callSi C [.int x1, .int (gA (sA S 7 j3 (gA S 7 j2)) 7 j4)] [.int x2] ms_X11_167 (fun _ h => ctX11_isUnder h) ⟨(Nat.le_of_ble_eq_true rfl), (Nat.le_of_ble_eq_true rfl)⟩ (Nat.le_of_ble_eq_true rfl) dX11_addProduct_62 rfl (fun r5 => ?_)
      refine j_if_eq C 72 dX11_addProduct_65 (by decide) ?_ ?_
      · refine j_iconst C (v := 1) (by decide) dX11_addProduct_72 ?_
        refine j_sub (xs1 := [(0, .ref (gad g 0)), (1, .int x1), (3, .int x3)]) [0, 1, 3] rfl ?_
        exact wX11_addProduct_73 C (mX11_addProduct_34 n) ih (sA S 7 j3 (gA S 7 j2)) x1 x3 1 x2
      · refine j_iconst C (v := 0) (by decide) dX11_addProduct_68 ?_
        refine j_goto C 73 dX11_addProduct_69 (by decide) ?_
        refine j_sub (xs1 := [(0, .ref (gad g 0)), (1, .int x1), (3, .int x3)]) [0, 1, 3] rfl ?_
        exact wX11_addProduct_73 C (mX11_addProduct_34 n) ih (sA S 7 j3 (gA S 7 j2)) x1 x3 0 x2
def mX11_addProduct_4 : Nat → St → Int32 → Int32 → Int32 → Option (St)
  | 0, _, _, _, _ => none
  | n + 1, S, x1, x2, x3 => if (gI S 0 10) ≤ x3 then (mX11_addProduct_34 FU S x1 x2 0)
  else (inb 1600 x3 fun j1 => (mX11_isUnder (gA S 7 j1) x1).bind fun r2 => if r2 = 0 then (bnd (x3 + 1) fun v3 => mX11_addProduct_4 n S x1 x2 v3)
  else (some S))
theorem wX11_addProduct_4 {κ : KT} {g : GT} (C : CX κ g RX11 cX11_addProduct 4 none 1 23) : ∀ (n : Nat) (S : St) (x1 : Int32) (x2 : Int32) (x3 : Int32), J κ g 4 (fun a : St => (none, a)) S 4 [(0, .ref (gad g 0)), (1, .int x1), (2, .int x2), (3, .int x3)] [] (mX11_addProduct_4 n S x1 x2 x3) := by
  intro n
  induction n with
  | zero => intro S x1 x2 x3; exact j_none
  | succ n ih =>
    intro S x1 x2 x3
    rw [mX11_addProduct_4]
    refine j_iload_n C 3 rfl dX11_addProduct_4 rfl ?_
    refine j_aload_n C 0 rfl dX11_addProduct_5 rfl ?_
    refine j_getI C fl_X11_164 sh_0 rfl rfl dX11_addProduct_6 ?_
    refine j_icmp_ge C 32 dX11_addProduct_9 (by decide) ?_ ?_
    · refine j_iconst C (v := 0) (by decide) dX11_addProduct_32 ?_
      refine j_istore_n C (xs1 := [(0, .ref (gad g 0)), (1, .int x1), (2, .int x2), (3, .int 0)]) dX11_addProduct_33 rfl (by decide) rfl ?_
      exact wX11_addProduct_34 C FU S x1 x2 0
    · refine j_aload_n C 0 rfl dX11_addProduct_12 rfl ?_
      refine j_getR C (x := 7) fl_X11_29 sh_0 rfl rfl dX11_addProduct_13 ?_
      refine j_iload_n C 3 rfl dX11_addProduct_16 rfl ?_
      refine j_iald C sh_7 rfl dX11_addProduct_17 (fun j1 => ?_)
      refine j_iload_n C 1 rfl dX11_addProduct_18 rfl ?_
      refine j_callSi C [.int (gA S 7 j1), .int x1] [] ms_X11_167 (fun _ h => ctX11_isUnder h) ⟨(Nat.le_of_ble_eq_true rfl), (Nat.le_of_ble_eq_true rfl)⟩ (Nat.le_of_ble_eq_true rfl) dX11_addProduct_19 rfl (fun r2 => ?_)
      refine j_if_eq C 26 dX11_addProduct_22 (by decide) ?_ ?_
      · refine j_iinc C (xs2 := fun v3 => [(0, .ref (gad g 0)), (1, .int x1), (2, .int x2), (3, .int v3)]) 3 rfl dX11_addProduct_26 (by decide) (by decide) (fun _ => rfl) (fun v3 => ?_)
        refine j_goto C 4 dX11_addProduct_29 (by decide) ?_
        exact ih S x1 x2 v3
      · exact j_vret C rfl dX11_addProduct_25
def mX11_addProduct (S : St) (a0 : Int32) : Option (St) := mX11_addProduct_4 FU S a0 0 0
theorem wX11_addProduct {κ : KT} {g : GT} (C : CX κ g RX11 cX11_addProduct 4 none 1 23) (S : St) (a0 : Int32) : J κ g 4 (fun a : St => (none, a)) S 0 [(0, .ref (gad g 0)), (1, .int a0)] [] (mX11_addProduct S a0) := by
  unfold mX11_addProduct
  refine j_iconst C (v := 0) (by decide) dX11_addProduct_0 ?_
  refine j_istore_n C (xs1 := [(0, .ref (gad g 0)), (1, .int a0), (2, .int 0)]) dX11_addProduct_1 rfl (by decide) rfl ?_
  refine j_iconst C (v := 0) (by decide) dX11_addProduct_2 ?_
  refine j_istore_n C (xs1 := [(0, .ref (gad g 0)), (1, .int a0), (2, .int 0), (3, .int 0)]) dX11_addProduct_3 rfl (by decide) rfl ?_
  exact wX11_addProduct_4 C FU S a0 0 0
theorem ctX11_addProduct {l : Launch} {g : GT} {S : St} {a0 : Int32} {out : St} (ho : mX11_addProduct S a0 = some out) : CT l yX11_addProduct cX11_addProduct 4 none 1 23 [.ref (gad g 0), .int a0] g S ((fun a : St => (none, a)) out) := CT_of (φ := (fun a : St => (none, a))) [.ref (gad g 0), .int a0] ho (by decide) (Nat.le_of_ble_eq_true rfl) (xs := [(0, .ref (gad g 0)), (1, .int a0)]) rfl (fun κ C => wX11_addProduct C S a0)
/-! StairIdealsModel.isHigh(I)Z -/
def mX11_isHigh_41 : Option (Int32) := some 1
theorem wX11_isHigh_41 {κ : KT} {g : GT} (C : CX κ g RX11 cX11_isHigh 1 (some .boolean) 0 0) (S : St) : J κ g 1 (fun a : Int32 => (some (Value.int a), S)) S 41 [] [] (mX11_isHigh_41) := by
  unfold mX11_isHigh_41
  refine j_iconst C (v := 1) (by decide) dX11_isHigh_41 ?_
  refine j_goto C 46 dX11_isHigh_42 (by decide) ?_
  exact j_zret C rfl rfl dX11_isHigh_46
def mX11_isHigh (a0 : Int32) : Option (Int32) := if 6 < (a0 &&& 15) then (mX11_isHigh_41)
  else (if 6 < ((a0 >>> ((4 : Int32) &&& 31)) &&& 15) then (mX11_isHigh_41)
  else (if 6 < ((a0 >>> ((8 : Int32) &&& 31)) &&& 15) then (mX11_isHigh_41)
  else (if (a0 >>> ((12 : Int32) &&& 31)) ≤ 6 then (some 0)
  else (mX11_isHigh_41))))
theorem wX11_isHigh {κ : KT} {g : GT} (C : CX κ g RX11 cX11_isHigh 1 (some .boolean) 0 0) (S : St) (a0 : Int32) : J κ g 1 (fun a : Int32 => (some (Value.int a), S)) S 0 [(0, .int a0)] [] (mX11_isHigh a0) := by
  unfold mX11_isHigh
  refine j_iload_n C 0 rfl dX11_isHigh_0 rfl ?_
  refine j_bipush C (v := 15) (by decide) dX11_isHigh_1 ?_
  refine j_iand C dX11_isHigh_3 ?_
  refine j_bipush C (v := 6) (by decide) dX11_isHigh_4 ?_
  refine j_icmp_gt C 41 dX11_isHigh_6 (by decide) ?_ ?_
  · refine j_sub (xs1 := []) [] rfl ?_
    exact wX11_isHigh_41 C S
  · refine j_iload_n C 0 rfl dX11_isHigh_9 rfl ?_
    refine j_iconst C (v := 4) (by decide) dX11_isHigh_10 ?_
    refine j_ishr C dX11_isHigh_11 ?_
    refine j_bipush C (v := 15) (by decide) dX11_isHigh_12 ?_
    refine j_iand C dX11_isHigh_14 ?_
    refine j_bipush C (v := 6) (by decide) dX11_isHigh_15 ?_
    refine j_icmp_gt C 41 dX11_isHigh_17 (by decide) ?_ ?_
    · refine j_sub (xs1 := []) [] rfl ?_
      exact wX11_isHigh_41 C S
    · refine j_iload_n C 0 rfl dX11_isHigh_20 rfl ?_
      refine j_bipush C (v := 8) (by decide) dX11_isHigh_21 ?_
      refine j_ishr C dX11_isHigh_23 ?_
      refine j_bipush C (v := 15) (by decide) dX11_isHigh_24 ?_
      refine j_iand C dX11_isHigh_26 ?_
      refine j_bipush C (v := 6) (by decide) dX11_isHigh_27 ?_
      refine j_icmp_gt C 41 dX11_isHigh_29 (by decide) ?_ ?_
      · refine j_sub (xs1 := []) [] rfl ?_
        exact wX11_isHigh_41 C S
      · refine j_iload_n C 0 rfl dX11_isHigh_32 rfl ?_
        refine j_bipush C (v := 12) (by decide) dX11_isHigh_33 ?_
        refine j_ishr C dX11_isHigh_35 ?_
        refine j_bipush C (v := 6) (by decide) dX11_isHigh_36 ?_
        refine j_icmp_le C 45 dX11_isHigh_38 (by decide) ?_ ?_
        · refine j_iconst C (v := 0) (by decide) dX11_isHigh_45 ?_
          exact j_zret C rfl rfl dX11_isHigh_46
        · refine j_sub (xs1 := []) [] rfl ?_
          exact wX11_isHigh_41 C S
theorem ctX11_isHigh {l : Launch} {g : GT} {S : St} {a0 : Int32} {out : Int32} (ho : mX11_isHigh a0 = some out) : CT l yX11_isHigh cX11_isHigh 1 (some .boolean) 0 0 [.int a0] g S ((fun a : Int32 => (some (Value.int a), S)) out) := CT_of (φ := (fun a : Int32 => (some (Value.int a), S))) [.int a0] ho (by decide) (Nat.le_of_ble_eq_true rfl) (xs := [(0, .int a0)]) rfl (fun κ C => wX11_isHigh C S a0)
/-! StairIdealsModel.multiply(III)I -/
def mX11_multiply_119 : Nat → St → Int32 → Int32 → Option (Int32 × St)
  | 0, _, _, _ => none
  | n + 1, S, x3, x4 => if (gI S 0 10) ≤ x4 then ((mX11_keep S x3).bind fun r1 => some (r1.1, r1.2))
  else (inb 1600 x4 fun j2 => inb 1600 x4 fun j3 => inb 1600 x4 fun j4 => inb 1600 x4 fun j5 => (mX11_markAbove S ((((((gA S 7 j2) >>> ((12 : Int32) &&& 31)) * 1000) + ((((gA S 7 j3) >>> ((8 : Int32) &&& 31)) &&& 15) * 100)) + ((((gA S 7 j4) >>> ((4 : Int32) &&& 31)) &&& 15) * 10)) + ((gA S 7 j5) &&& 15))).bind fun r6 => bnd (x4 + 1) fun v7 => mX11_multiply_119 n r6 x3 v7)
theorem wX11_multiply_119 {κ : KT} {g : GT} (C : CX κ g RX11 cX11_multiply 6 (some .int) 5 108) : ∀ (n : Nat) (S : St) (x3 : Int32) (x4 : Int32), J κ g 6 (fun a : Int32 × St => (some (Value.int a.1), a.2)) S 119 [(0, .ref (gad g 0)), (3, .int x3), (4, .int x4)] [] (mX11_multiply_119 n S x3 x4) := by
  intro n
  induction n with
  | zero => intro S x3 x4; exact j_none
  | succ n ih =>
    intro S x3 x4
    rw [mX11_multiply_119]
    refine j_iload C 2 rfl dX11_multiply_119 ?_
    refine j_aload_n C 0 rfl dX11_multiply_121 rfl ?_
    refine j_getI C fl_X11_164 sh_0 rfl rfl dX11_multiply_122 ?_
    refine j_icmp_ge C 196 dX11_multiply_125 (by decide) ?_ ?_
    · refine j_aload_n C 0 rfl dX11_multiply_196 rfl ?_
      refine j_iload_n C 1 rfl dX11_multiply_197 rfl ?_
      refine j_callViS C [.int x3] [] mv_X11_142 sh_0 rfl rfl (fun _ h => ctX11_keep h) ⟨(Nat.le_of_ble_eq_true rfl), (Nat.le_of_ble_eq_true rfl)⟩ (Nat.le_of_ble_eq_true rfl) dX11_multiply_198 rfl (fun r1 => ?_)
      exact j_iret C rfl dX11_multiply_201
    · refine j_aload_n C 0 rfl dX11_multiply_128 rfl ?_
      refine j_aload_n C 0 rfl dX11_multiply_129 rfl ?_
      refine j_getR C (x := 7) fl_X11_29 sh_0 rfl rfl dX11_multiply_130 ?_
      refine j_iload C 2 rfl dX11_multiply_133 ?_
      refine j_iald C sh_7 rfl dX11_multiply_135 (fun j2 => ?_)
      refine j_bipush C (v := 12) (by decide) dX11_multiply_136 ?_
      refine j_ishr C dX11_multiply_138 ?_
      refine j_sipush C (v := 1000) (by decide) dX11_multiply_139 ?_
      refine j_imul C dX11_multiply_142 ?_
      refine j_aload_n C 0 rfl dX11_multiply_143 rfl ?_
      refine j_getR C (x := 7) fl_X11_29 sh_0 rfl rfl dX11_multiply_144 ?_
      refine j_iload C 2 rfl dX11_multiply_147 ?_
      refine j_iald C sh_7 rfl dX11_multiply_149 (fun j3 => ?_)
      refine j_bipush C (v := 8) (by decide) dX11_multiply_150 ?_
      refine j_ishr C dX11_multiply_152 ?_
      refine j_bipush C (v := 15) (by decide) dX11_multiply_153 ?_
      refine j_iand C dX11_multiply_155 ?_
      refine j_bipush C (v := 100) (by decide) dX11_multiply_156 ?_
      refine j_imul C dX11_multiply_158 ?_
      refine j_iadd C dX11_multiply_159 ?_
      refine j_aload_n C 0 rfl dX11_multiply_160 rfl ?_
      refine j_getR C (x := 7) fl_X11_29 sh_0 rfl rfl dX11_multiply_161 ?_
      refine j_iload C 2 rfl dX11_multiply_164 ?_
      refine j_iald C sh_7 rfl dX11_multiply_166 (fun j4 => ?_)
      refine j_iconst C (v := 4) (by decide) dX11_multiply_167 ?_
      refine j_ishr C dX11_multiply_168 ?_
      refine j_bipush C (v := 15) (by decide) dX11_multiply_169 ?_
      refine j_iand C dX11_multiply_171 ?_
      refine j_bipush C (v := 10) (by decide) dX11_multiply_172 ?_
      refine j_imul C dX11_multiply_174 ?_
      refine j_iadd C dX11_multiply_175 ?_
      refine j_aload_n C 0 rfl dX11_multiply_176 rfl ?_
      refine j_getR C (x := 7) fl_X11_29 sh_0 rfl rfl dX11_multiply_177 ?_
      refine j_iload C 2 rfl dX11_multiply_180 ?_
      refine j_iald C sh_7 rfl dX11_multiply_182 (fun j5 => ?_)
      refine j_bipush C (v := 15) (by decide) dX11_multiply_183 ?_
      refine j_iand C dX11_multiply_185 ?_
      refine j_iadd C dX11_multiply_186 ?_
      refine j_callVvS C [.int ((((((gA S 7 j2) >>> ((12 : Int32) &&& 31)) * 1000) + ((((gA S 7 j3) >>> ((8 : Int32) &&& 31)) &&& 15) * 100)) + ((((gA S 7 j4) >>> ((4 : Int32) &&& 31)) &&& 15) * 10)) + ((gA S 7 j5) &&& 15))] [] mv_X11_138 sh_0 rfl rfl (fun _ h => ctX11_markAbove h) ⟨(Nat.le_of_ble_eq_true rfl), (Nat.le_of_ble_eq_true rfl)⟩ (Nat.le_of_ble_eq_true rfl) dX11_multiply_187 rfl (fun r6 => ?_)
      refine j_iinc C (xs2 := fun v7 => [(0, .ref (gad g 0)), (3, .int x3), (4, .int v7)]) 2 rfl dX11_multiply_190 (by decide) (by decide) (fun _ => rfl) (fun v7 => ?_)
      refine j_goto C 119 dX11_multiply_193 (by decide) ?_
      exact ih r6 x3 v7
def mX11_multiply_73 : Nat → St → Int32 → Int32 → Option (Int32 × St)
  | 0, _, _, _ => none
  | n + 1, S, x3, x4 => if (gI S 0 10) ≤ x4 then (if (gI S 0 10) ≤ 40 then (mX11_multiply_119 FU S x3 0)
  else (some ((-4), S)))
  else (inb 1600 x4 fun j1 => (mX11_isHigh (gA S 7 j1)).bind fun r2 => if r2 = 0 then (bnd (x4 + 1) fun v3 => mX11_multiply_73 n S x3 v3)
  else (some ((-3), S)))
theorem wX11_multiply_73 {κ : KT} {g : GT} (C : CX κ g RX11 cX11_multiply 6 (some .int) 5 108) : ∀ (n : Nat) (S : St) (x3 : Int32) (x4 : Int32), J κ g 6 (fun a : Int32 × St => (some (Value.int a.1), a.2)) S 73 [(0, .ref (gad g 0)), (3, .int x3), (4, .int x4)] [] (mX11_multiply_73 n S x3 x4) := by
  intro n
  induction n with
  | zero => intro S x3 x4; exact j_none
  | succ n ih =>
    intro S x3 x4
    rw [mX11_multiply_73]
    refine j_iload C 2 rfl dX11_multiply_73 ?_
    refine j_aload_n C 0 rfl dX11_multiply_75 rfl ?_
    refine j_getI C fl_X11_164 sh_0 rfl rfl dX11_multiply_76 ?_
    refine j_icmp_ge C 104 dX11_multiply_79 (by decide) ?_ ?_
    · refine j_aload_n C 0 rfl dX11_multiply_104 rfl ?_
      refine j_getI C fl_X11_164 sh_0 rfl rfl dX11_multiply_105 ?_
      refine j_bipush C (v := 40) (by decide) dX11_multiply_108 ?_
      refine j_icmp_le C 116 dX11_multiply_110 (by decide) ?_ ?_
      · refine j_iconst C (v := 0) (by decide) dX11_multiply_116 ?_
        refine j_istore C (xs1 := [(0, .ref (gad g 0)), (3, .int x3), (4, .int 0)]) dX11_multiply_117 (by decide) rfl ?_
        exact wX11_multiply_119 C FU S x3 0
      · refine j_bipush C (v := (-4)) (by decide) dX11_multiply_113 ?_
        exact j_iret C rfl dX11_multiply_115
    · refine j_aload_n C 0 rfl dX11_multiply_82 rfl ?_
      refine j_getR C (x := 7) fl_X11_29 sh_0 rfl rfl dX11_multiply_83 ?_
      refine j_iload C 2 rfl dX11_multiply_86 ?_
      refine j_iald C sh_7 rfl dX11_multiply_88 (fun j1 => ?_)
      refine j_callSi C [.int (gA S 7 j1)] [] ms_X11_176 (fun _ h => ctX11_isHigh h) ⟨(Nat.le_of_ble_eq_true rfl), (Nat.le_of_ble_eq_true rfl)⟩ (Nat.le_of_ble_eq_true rfl) dX11_multiply_89 rfl (fun r2 => ?_)
      refine j_if_eq C 98 dX11_multiply_92 (by decide) ?_ ?_
      · refine j_iinc C (xs2 := fun v3 => [(0, .ref (gad g 0)), (3, .int x3), (4, .int v3)]) 2 rfl dX11_multiply_98 (by decide) (by decide) (fun _ => rfl) (fun v3 => ?_)
        refine j_goto C 73 dX11_multiply_101 (by decide) ?_
        exact ih S x3 v3
      · refine j_bipush C (v := (-3)) (by decide) dX11_multiply_95 ?_
        exact j_iret C rfl dX11_multiply_97
def mX11_multiply_22 (k8 : St → Int32 → Int32 → Int32 → Int32 → Option (Int32 × St)) : Nat → St → Int32 → Int32 → Int32 → Int32 → Int32 → Option (Int32 × St)
  | 0, _, _, _, _, _, _ => none
  | n + 1, S, x1, x2, x3, x4, x5 => inb 16 x2 fun j1 => if (gA S 2 j1) ≤ x5 then (bnd (x4 + 1) fun v2 => k8 S x1 x2 x3 v2)
  else ((mX11_at S x1 x4).bind fun r3 => (mX11_at S x2 x5).bind fun r4 => (mX11_packed r3 r4).bind fun r5 => (mX11_addProduct S r5).bind fun r6 => bnd (x5 + 1) fun v7 => mX11_multiply_22 k8 n r6 x1 x2 x3 x4 v7)
theorem wX11_multiply_22 {κ : KT} {g : GT} (C : CX κ g RX11 cX11_multiply 6 (some .int) 5 108) (k8 : St → Int32 → Int32 → Int32 → Int32 → Option (Int32 × St)) (hk8 : ∀ (S : St) (x1 : Int32) (x2 : Int32) (x3 : Int32) (x4 : Int32), J κ g 6 (fun a : Int32 × St => (some (Value.int a.1), a.2)) S 8 [(0, .ref (gad g 0)), (1, .int x1), (2, .int x2), (3, .int x3), (4, .int x4)] [] (k8 S x1 x2 x3 x4)) : ∀ (n : Nat) (S : St) (x1 : Int32) (x2 : Int32) (x3 : Int32) (x4 : Int32) (x5 : Int32), J κ g 6 (fun a : Int32 × St => (some (Value.int a.1), a.2)) S 22 [(0, .ref (gad g 0)), (1, .int x1), (2, .int x2), (3, .int x3), (4, .int x4), (5, .int x5)] [] (mX11_multiply_22 k8 n S x1 x2 x3 x4 x5) := by
  intro n
  induction n with
  | zero => intro S x1 x2 x3 x4 x5; exact j_none
  | succ n ih =>
    intro S x1 x2 x3 x4 x5
    rw [mX11_multiply_22]
    refine j_iload C 5 rfl dX11_multiply_22 ?_
    refine j_aload_n C 0 rfl dX11_multiply_24 rfl ?_
    refine j_getR C (x := 2) fl_X11_13 sh_0 rfl rfl dX11_multiply_25 ?_
    refine j_iload_n C 2 rfl dX11_multiply_28 rfl ?_
    refine j_iald C sh_2 rfl dX11_multiply_29 (fun j1 => ?_)
    refine j_icmp_ge C 60 dX11_multiply_30 (by decide) ?_ ?_
    · refine j_iinc C (xs2 := fun v2 => [(0, .ref (gad g 0)), (1, .int x1), (2, .int x2), (3, .int x3), (4, .int v2), (5, .int x5)]) 4 rfl dX11_multiply_60 (by decide) (by decide) (fun _ => rfl) (fun v2 => ?_)
      refine j_goto C 8 dX11_multiply_63 (by decide) ?_
      refine j_sub (xs1 := [(0, .ref (gad g 0)), (1, .int x1), (2, .int x2), (3, .int x3), (4, .int v2)]) [0, 1, 2, 3, 4] rfl ?_
      exact hk8 S x1 x2 x3 v2
    · refine j_aload_n C 0 rfl dX11_multiply_33 rfl ?_
      refine j_aload_n C 0 rfl dX11_multiply_34 rfl ?_
      refine j_iload_n C 1 rfl dX11_multiply_35 rfl ?_
      refine j_iload C 4 rfl dX11_multiply_36 ?_
      refine j_callVi C [.int x1, .int x4] [.ref (gad g 0)] mv_X11_86 sh_0 rfl rfl (fun _ h => ctX11_at h) ⟨(Nat.le_of_ble_eq_true rfl), (Nat.le_of_ble_eq_true rfl)⟩ (Nat.le_of_ble_eq_true rfl) dX11_multiply_38 rfl (fun r3 => ?_)
      refine j_aload_n C 0 rfl dX11_multiply_41 rfl ?_
      refine j_iload_n C 2 rfl dX11_multiply_42 rfl ?_
      refine j_iload C 5 rfl dX11_multiply_43 ?_
      refine j_callVi C [.int x2, .int x5] [.int r3, .ref (gad g 0)] mv_X11_86 sh_0 rfl rfl (fun _ h => ctX11_at h) ⟨(Nat.le_of_ble_eq_true rfl), (Nat.le_of_ble_eq_true rfl)⟩ (Nat.le_of_ble_eq_true rfl) dX11_multiply_45 rfl (fun r4 => ?_)
      refine j_callSi C [.int r3, .int r4] [.ref (gad g 0)] ms_X11_170 (fun _ h => ctX11_packed h) ⟨(Nat.le_of_ble_eq_true rfl), (Nat.le_of_ble_eq_true rfl)⟩ (Nat.le_of_ble_eq_true rfl) dX11_multiply_48 rfl (fun r5 => ?_)
      refine j_callVvS C [.int r5] [] mv_X11_173 sh_0 rfl rfl (fun _ h => ctX11_addProduct h) ⟨(Nat.le_of_ble_eq_true rfl), (Nat.le_of_ble_eq_true rfl)⟩ (Nat.le_of_ble_eq_true rfl) dX11_multiply_51 rfl (fun r6 => ?_)
      refine j_iinc C (xs2 := fun v7 => [(0, .ref (gad g 0)), (1, .int x1), (2, .int x2), (3, .int x3), (4, .int x4), (5, .int v7)]) 5 rfl dX11_multiply_54 (by decide) (by decide) (fun _ => rfl) (fun v7 => ?_)
      refine j_goto C 22 dX11_multiply_57 (by decide) ?_
      exact ih r6 x1 x2 x3 x4 v7
def mX11_multiply_8 : Nat → St → Int32 → Int32 → Int32 → Int32 → Option (Int32 × St)
  | 0, _, _, _, _, _ => none
  | n + 1, S, x1, x2, x3, x4 => inb 16 x1 fun j1 => if (gA S 2 j1) ≤ x4 then ((mX11_clear S).bind fun r2 => mX11_multiply_73 FU r2 x3 0)
  else (mX11_multiply_22 (mX11_multiply_8 n) FU S x1 x2 x3 x4 0)
theorem wX11_multiply_8 {κ : KT} {g : GT} (C : CX κ g RX11 cX11_multiply 6 (some .int) 5 108) : ∀ (n : Nat) (S : St) (x1 : Int32) (x2 : Int32) (x3 : Int32) (x4 : Int32), J κ g 6 (fun a : Int32 × St => (some (Value.int a.1), a.2)) S 8 [(0, .ref (gad g 0)), (1, .int x1), (2, .int x2), (3, .int x3), (4, .int x4)] [] (mX11_multiply_8 n S x1 x2 x3 x4) := by
  intro n
  induction n with
  | zero => intro S x1 x2 x3 x4; exact j_none
  | succ n ih =>
    intro S x1 x2 x3 x4
    rw [mX11_multiply_8]
    refine j_iload C 4 rfl dX11_multiply_8 ?_
    refine j_aload_n C 0 rfl dX11_multiply_10 rfl ?_
    refine j_getR C (x := 2) fl_X11_13 sh_0 rfl rfl dX11_multiply_11 ?_
    refine j_iload_n C 1 rfl dX11_multiply_14 rfl ?_
    refine j_iald C sh_2 rfl dX11_multiply_15 (fun j1 => ?_)
    refine j_icmp_ge C 66 dX11_multiply_16 (by decide) ?_ ?_
    · refine j_aload_n C 0 rfl dX11_multiply_66 rfl ?_
      refine j_callVvS C [] [] mv_X11_135 sh_0 rfl rfl (fun _ h => ctX11_clear h) ⟨(Nat.le_of_ble_eq_true rfl), (Nat.le_of_ble_eq_true rfl)⟩ (Nat.le_of_ble_eq_true rfl) dX11_multiply_67 rfl (fun r2 => ?_)
      refine j_iconst C (v := 0) (by decide) dX11_multiply_70 ?_
      refine j_istore C (xs1 := [(0, .ref (gad g 0)), (1, .int x1), (2, .int x2), (3, .int x3), (4, .int 0)]) dX11_multiply_71 (by decide) rfl ?_
      refine j_sub (xs1 := [(0, .ref (gad g 0)), (3, .int x3), (4, .int 0)]) [0, 3, 4] rfl ?_
      exact wX11_multiply_73 C FU r2 x3 0
    · refine j_iconst C (v := 0) (by decide) dX11_multiply_19 ?_
      refine j_istore C (xs1 := [(0, .ref (gad g 0)), (1, .int x1), (2, .int x2), (3, .int x3), (4, .int x4), (5, .int 0)]) dX11_multiply_20 (by decide) rfl ?_
      exact wX11_multiply_22 C (mX11_multiply_8 n) ih FU S x1 x2 x3 x4 0
def mX11_multiply (S : St) (a0 : Int32) (a1 : Int32) (a2 : Int32) : Option (Int32 × St) := mX11_multiply_8 FU (sI S 0 10 0) a0 a1 a2 0
theorem wX11_multiply {κ : KT} {g : GT} (C : CX κ g RX11 cX11_multiply 6 (some .int) 5 108) (S : St) (a0 : Int32) (a1 : Int32) (a2 : Int32) : J κ g 6 (fun a : Int32 × St => (some (Value.int a.1), a.2)) S 0 [(0, .ref (gad g 0)), (1, .int a0), (2, .int a1), (3, .int a2)] [] (mX11_multiply S a0 a1 a2) := by
  unfold mX11_multiply
  refine j_aload_n C 0 rfl dX11_multiply_0 rfl ?_
  refine j_iconst C (v := 0) (by decide) dX11_multiply_1 ?_
  refine j_putI C fp_X11_164 sh_0 rfl rfl rfl rfl dX11_multiply_2 ?_
  refine j_iconst C (v := 0) (by decide) dX11_multiply_5 ?_
  refine j_istore C (xs1 := [(0, .ref (gad g 0)), (1, .int a0), (2, .int a1), (3, .int a2), (4, .int 0)]) dX11_multiply_6 (by decide) rfl ?_
  exact wX11_multiply_8 C FU (sI S 0 10 0) a0 a1 a2 0
theorem ctX11_multiply {l : Launch} {g : GT} {S : St} {a0 : Int32} {a1 : Int32} {a2 : Int32} {out : Int32 × St} (ho : mX11_multiply S a0 a1 a2 = some out) : CT l yX11_multiply cX11_multiply 6 (some .int) 5 108 [.ref (gad g 0), .int a0, .int a1, .int a2] g S ((fun a : Int32 × St => (some (Value.int a.1), a.2)) out) := CT_of (φ := (fun a : Int32 × St => (some (Value.int a.1), a.2))) [.ref (gad g 0), .int a0, .int a1, .int a2] ho (by decide) (Nat.le_of_ble_eq_true rfl) (xs := [(0, .ref (gad g 0)), (1, .int a0), (2, .int a1), (3, .int a2)]) rfl (fun κ C => wX11_multiply C S a0 a1 a2)
/-! StairIdealsModel.make(IIII)I -/
def mX11_make_56 : Nat → St → Int32 → Int32 → Int32 → Int32 → Int32 → Option (Int32 × St)
  | 0, _, _, _, _, _, _ => none
  | n + 1, S, x1, x2, x3, x4, x5 => if 2401 ≤ x5 then ((mX11_keep S x4).bind fun r1 => some (r1.1, r1.2))
  else ((mX11_codeAt x5).bind fun r2 => (mX11_isMade S x1 x2 x3 r2).bind fun r3 => zbg r3 <| inb 2401 x5 fun j4 => bnd (x5 + 1) fun v5 => mX11_make_56 n (sA S 4 j4 r3) x1 x2 x3 x4 v5)
theorem wX11_make_56 {κ : KT} {g : GT} (C : CX κ g RX11 cX11_make 6 (some .int) 6 137) : ∀ (n : Nat) (S : St) (x1 : Int32) (x2 : Int32) (x3 : Int32) (x4 : Int32) (x5 : Int32), J κ g 6 (fun a : Int32 × St => (some (Value.int a.1), a.2)) S 56 [(0, .ref (gad g 0)), (1, .int x1), (2, .int x2), (3, .int x3), (4, .int x4), (5, .int x5)] [] (mX11_make_56 n S x1 x2 x3 x4 x5) := by
  intro n
  induction n with
  | zero => intro S x1 x2 x3 x4 x5; exact j_none
  | succ n ih =>
    intro S x1 x2 x3 x4 x5
    rw [mX11_make_56]
    refine j_iload C 5 rfl dX11_make_56 ?_
    refine j_sipush C (v := 2401) (by decide) dX11_make_58 ?_
    refine j_icmp_ge C 89 dX11_make_61 (by decide) ?_ ?_
    · refine j_aload_n C 0 rfl dX11_make_89 rfl ?_
      refine j_iload C 4 rfl dX11_make_90 ?_
      refine j_callViS C [.int x4] [] mv_X11_142 sh_0 rfl rfl (fun _ h => ctX11_keep h) ⟨(Nat.le_of_ble_eq_true rfl), (Nat.le_of_ble_eq_true rfl)⟩ (Nat.le_of_ble_eq_true rfl) dX11_make_92 rfl (fun r1 => ?_)
      exact j_iret C rfl dX11_make_95
    · refine j_aload_n C 0 rfl dX11_make_64 rfl ?_
      refine j_getR C (x := 4) fl_X11_19 sh_0 rfl rfl dX11_make_65 ?_
      refine j_iload C 5 rfl dX11_make_68 ?_
      refine j_aload_n C 0 rfl dX11_make_70 rfl ?_
      refine j_iload_n C 1 rfl dX11_make_71 rfl ?_
      refine j_iload_n C 2 rfl dX11_make_72 rfl ?_
      refine j_iload_n C 3 rfl dX11_make_73 rfl ?_
      refine j_iload C 5 rfl dX11_make_74 ?_
      refine j_callSi C [.int x5] [.int x3, .int x2, .int x1, .ref (gad g 0), .int x5, .ref (gad g 4)] ms_X11_93 (fun _ h => ctX11_codeAt h) ⟨(Nat.le_of_ble_eq_true rfl), (Nat.le_of_ble_eq_true rfl)⟩ (Nat.le_of_ble_eq_true rfl) dX11_make_76 rfl (fun r2 => ?_)
      refine j_callVi C [.int x1, .int x2, .int x3, .int r2] [.int x5, .ref (gad g 4)] mv_X11_185 sh_0 rfl rfl (fun _ h => ctX11_isMade h) ⟨(Nat.le_of_ble_eq_true rfl), (Nat.le_of_ble_eq_true rfl)⟩ (Nat.le_of_ble_eq_true rfl) dX11_make_79 rfl (fun r3 => ?_)
      refine j_zbg (fun hb => ?_)
      refine j_zast C sh_4 rfl hb dX11_make_82 (fun j4 => ?_)
      refine j_iinc C (xs2 := fun v5 => [(0, .ref (gad g 0)), (1, .int x1), (2, .int x2), (3, .int x3), (4, .int x4), (5, .int v5)]) 5 rfl dX11_make_83 (by decide) (by decide) (fun _ => rfl) (fun v5 => ?_)
      refine j_goto C 56 dX11_make_86 (by decide) ?_
      exact ih (sA S 4 j4 r3) x1 x2 x3 x4 v5
def mX11_make (S : St) (a0 : Int32) (a1 : Int32) (a2 : Int32) (a3 : Int32) : Option (Int32 × St) := (mX11_isIdeal a1).bind fun r1 => if r1 = 0 then (some ((-1), S))
  else ((mX11_isIdeal a2).bind fun r2 => if r2 = 0 then (some ((-1), S))
  else ((mX11_isIdeal a3).bind fun r3 => if r3 = 0 then (some ((-1), S))
  else ((mX11_in a0.toInt64 0 4).bind fun r4 => if r4 = 0 then (some ((-2), S))
  else (if a0 = 2 then ((mX11_multiply S a1 a2 a3).bind fun r5 => some (r5.1, r5.2))
  else (mX11_make_56 FU S a0 a1 a2 a3 0)))))
theorem wX11_make {κ : KT} {g : GT} (C : CX κ g RX11 cX11_make 6 (some .int) 6 137) (S : St) (a0 : Int32) (a1 : Int32) (a2 : Int32) (a3 : Int32) : J κ g 6 (fun a : Int32 × St => (some (Value.int a.1), a.2)) S 0 [(0, .ref (gad g 0)), (1, .int a0), (2, .int a1), (3, .int a2), (4, .int a3)] [] (mX11_make S a0 a1 a2 a3) := by
  unfold mX11_make
  refine j_iload_n C 2 rfl dX11_make_0 rfl ?_
  refine j_callSi C [.int a1] [] ms_X11_128 (fun _ h => ctX11_isIdeal h) ⟨(Nat.le_of_ble_eq_true rfl), (Nat.le_of_ble_eq_true rfl)⟩ (Nat.le_of_ble_eq_true rfl) dX11_make_1 rfl (fun r1 => ?_)
  refine j_if_eq C 22 dX11_make_4 (by decide) ?_ ?_
  · refine j_iconst C (v := (-1)) (by decide) dX11_make_22 ?_
    exact j_iret C rfl dX11_make_23
  · refine j_iload_n C 3 rfl dX11_make_7 rfl ?_
    refine j_callSi C [.int a2] [] ms_X11_128 (fun _ h => ctX11_isIdeal h) ⟨(Nat.le_of_ble_eq_true rfl), (Nat.le_of_ble_eq_true rfl)⟩ (Nat.le_of_ble_eq_true rfl) dX11_make_8 rfl (fun r2 => ?_)
    refine j_if_eq C 22 dX11_make_11 (by decide) ?_ ?_
    · refine j_iconst C (v := (-1)) (by decide) dX11_make_22 ?_
      exact j_iret C rfl dX11_make_23
    · refine j_iload C 4 rfl dX11_make_14 ?_
      refine j_callSi C [.int a3] [] ms_X11_128 (fun _ h => ctX11_isIdeal h) ⟨(Nat.le_of_ble_eq_true rfl), (Nat.le_of_ble_eq_true rfl)⟩ (Nat.le_of_ble_eq_true rfl) dX11_make_16 rfl (fun r3 => ?_)
      refine j_if_ne C 24 dX11_make_19 (by decide) ?_ ?_
      · refine j_iload_n C 1 rfl dX11_make_24 rfl ?_
        refine j_i2l C dX11_make_25 ?_
        refine j_lconst C (v := 0) (by decide) dX11_make_26 ?_
        refine j_ldc2 C (v := 4) wd_915 dX11_make_27 ?_
        refine j_callSi C [.long a0.toInt64, .long 0, .long 4] [] ms_X11_64 (fun _ h => ctX11_in h) ⟨(Nat.le_of_ble_eq_true rfl), (Nat.le_of_ble_eq_true rfl)⟩ (Nat.le_of_ble_eq_true rfl) dX11_make_30 rfl (fun r4 => ?_)
        refine j_if_ne C 39 dX11_make_33 (by decide) ?_ ?_
        · refine j_iload_n C 1 rfl dX11_make_39 rfl ?_
          refine j_iconst C (v := 2) (by decide) dX11_make_40 ?_
          refine j_icmp_ne C 53 dX11_make_41 (by decide) ?_ ?_
          · refine j_iconst C (v := 0) (by decide) dX11_make_53 ?_
            refine j_istore C (xs1 := [(0, .ref (gad g 0)), (1, .int a0), (2, .int a1), (3, .int a2), (4, .int a3), (5, .int 0)]) dX11_make_54 (by decide) rfl ?_
            exact wX11_make_56 C FU S a0 a1 a2 a3 0
          · refine j_aload_n C 0 rfl dX11_make_44 rfl ?_
            refine j_iload_n C 2 rfl dX11_make_45 rfl ?_
            refine j_iload_n C 3 rfl dX11_make_46 rfl ?_
            refine j_iload C 4 rfl dX11_make_47 ?_
            refine j_callViS C [.int a1, .int a2, .int a3] [] mv_X11_181 sh_0 rfl rfl (fun _ h => ctX11_multiply h) ⟨(Nat.le_of_ble_eq_true rfl), (Nat.le_of_ble_eq_true rfl)⟩ (Nat.le_of_ble_eq_true rfl) dX11_make_49 rfl (fun r5 => ?_)
            exact j_iret C rfl dX11_make_52
        · refine j_bipush C (v := (-2)) (by decide) dX11_make_36 ?_
          exact j_iret C rfl dX11_make_38
      · refine j_iconst C (v := (-1)) (by decide) dX11_make_22 ?_
        exact j_iret C rfl dX11_make_23
theorem ctX11_make {l : Launch} {g : GT} {S : St} {a0 : Int32} {a1 : Int32} {a2 : Int32} {a3 : Int32} {out : Int32 × St} (ho : mX11_make S a0 a1 a2 a3 = some out) : CT l yX11_make cX11_make 6 (some .int) 6 137 [.ref (gad g 0), .int a0, .int a1, .int a2, .int a3] g S ((fun a : Int32 × St => (some (Value.int a.1), a.2)) out) := CT_of (φ := (fun a : Int32 × St => (some (Value.int a.1), a.2))) [.ref (gad g 0), .int a0, .int a1, .int a2, .int a3] ho (by decide) (Nat.le_of_ble_eq_true rfl) (xs := [(0, .ref (gad g 0)), (1, .int a0), (2, .int a1), (3, .int a2), (4, .int a3)]) rfl (fun κ C => wX11_make C S a0 a1 a2 a3)
/-! StairIdealsModel.isWithin(II)Z -/
def mX11_isWithin_40 (S : St) (k5 : Int32 → Int32 → Int32 → Int32 → Option (Int32)) (x1 : Int32) (x2 : Int32) (x4 : Int32) (s0 : Int32) : Option (Int32) := bnd (x4 + 1) fun v1 => k5 x1 x2 s0 v1
theorem wX11_isWithin_40 {κ : KT} {g : GT} (C : CX κ g RX11 cX11_isWithin 5 (some .boolean) 4 88) (S : St) (k5 : Int32 → Int32 → Int32 → Int32 → Option (Int32)) (hk5 : ∀ (x1 : Int32) (x2 : Int32) (x3 : Int32) (x4 : Int32), J κ g 5 (fun a : Int32 => (some (Value.int a), S)) S 5 [(0, .ref (gad g 0)), (1, .int x1), (2, .int x2), (3, .int x3), (4, .int x4)] [] (k5 x1 x2 x3 x4)) (x1 : Int32) (x2 : Int32) (x4 : Int32) (s0 : Int32) : J κ g 5 (fun a : Int32 => (some (Value.int a), S)) S 40 [(0, .ref (gad g 0)), (1, .int x1), (2, .int x2), (4, .int x4)] [.int s0] (mX11_isWithin_40 S k5 x1 x2 x4 s0) := by
  unfold mX11_isWithin_40
  refine j_istore_n C (xs1 := [(0, .ref (gad g 0)), (1, .int x1), (2, .int x2), (3, .int s0), (4, .int x4)]) dX11_isWithin_40 rfl (by decide) rfl ?_
  refine j_iinc C (xs2 := fun v1 => [(0, .ref (gad g 0)), (1, .int x1), (2, .int x2), (3, .int s0), (4, .int v1)]) 4 rfl dX11_isWithin_41 (by decide) (by decide) (fun _ => rfl) (fun v1 => ?_)
  refine j_goto C 5 dX11_isWithin_44 (by decide) ?_
  exact hk5 x1 x2 s0 v1
def mX11_isWithin_39 (S : St) (k5 : Int32 → Int32 → Int32 → Int32 → Option (Int32)) (x1 : Int32) (x2 : Int32) (x4 : Int32) : Option (Int32) := mX11_isWithin_40 S k5 x1 x2 x4 0
theorem wX11_isWithin_39 {κ : KT} {g : GT} (C : CX κ g RX11 cX11_isWithin 5 (some .boolean) 4 88) (S : St) (k5 : Int32 → Int32 → Int32 → Int32 → Option (Int32)) (hk5 : ∀ (x1 : Int32) (x2 : Int32) (x3 : Int32) (x4 : Int32), J κ g 5 (fun a : Int32 => (some (Value.int a), S)) S 5 [(0, .ref (gad g 0)), (1, .int x1), (2, .int x2), (3, .int x3), (4, .int x4)] [] (k5 x1 x2 x3 x4)) (x1 : Int32) (x2 : Int32) (x4 : Int32) : J κ g 5 (fun a : Int32 => (some (Value.int a), S)) S 39 [(0, .ref (gad g 0)), (1, .int x1), (2, .int x2), (4, .int x4)] [] (mX11_isWithin_39 S k5 x1 x2 x4) := by
  unfold mX11_isWithin_39
  refine j_iconst C (v := 0) (by decide) dX11_isWithin_39 ?_
  exact wX11_isWithin_40 C S k5 hk5 x1 x2 x4 0
def mX11_isWithin_5 (S : St) : Nat → Int32 → Int32 → Int32 → Int32 → Option (Int32)
  | 0, _, _, _, _ => none
  | n + 1, x1, x2, x3, x4 => inb 16 x1 fun j1 => if (gA S 2 j1) ≤ x4 then (zbg x3 (some x3))
  else (if x3 = 0 then (mX11_isWithin_39 S (mX11_isWithin_5 S n) x1 x2 x4)
  else ((mX11_at S x1 x4).bind fun r2 => (mX11_isIn S x2 r2).bind fun r3 => if r3 = 0 then (mX11_isWithin_39 S (mX11_isWithin_5 S n) x1 x2 x4)
  else (mX11_isWithin_40 S (mX11_isWithin_5 S n) x1 x2 x4 1)))
theorem wX11_isWithin_5 {κ : KT} {g : GT} (C : CX κ g RX11 cX11_isWithin 5 (some .boolean) 4 88) (S : St) : ∀ (n : Nat) (x1 : Int32) (x2 : Int32) (x3 : Int32) (x4 : Int32), J κ g 5 (fun a : Int32 => (some (Value.int a), S)) S 5 [(0, .ref (gad g 0)), (1, .int x1), (2, .int x2), (3, .int x3), (4, .int x4)] [] (mX11_isWithin_5 S n x1 x2 x3 x4) := by
  intro n
  induction n with
  | zero => intro x1 x2 x3 x4; exact j_none
  | succ n ih =>
    intro x1 x2 x3 x4
    rw [mX11_isWithin_5]
    refine j_iload C 4 rfl dX11_isWithin_5 ?_
    refine j_aload_n C 0 rfl dX11_isWithin_7 rfl ?_
    refine j_getR C (x := 2) fl_X11_13 sh_0 rfl rfl dX11_isWithin_8 ?_
    refine j_iload_n C 1 rfl dX11_isWithin_11 rfl ?_
    refine j_iald C sh_2 rfl dX11_isWithin_12 (fun j1 => ?_)
    refine j_icmp_ge C 47 dX11_isWithin_13 (by decide) ?_ ?_
    · refine j_iload_n C 3 rfl dX11_isWithin_47 rfl ?_
      refine j_zbg (fun hb => ?_)
      exact j_zret C (nar_z hb) rfl dX11_isWithin_48
    · refine j_iload_n C 3 rfl dX11_isWithin_16 rfl ?_
      refine j_if_eq C 39 dX11_isWithin_17 (by decide) ?_ ?_
      · refine j_sub (xs1 := [(0, .ref (gad g 0)), (1, .int x1), (2, .int x2), (4, .int x4)]) [0, 1, 2, 4] rfl ?_
        exact wX11_isWithin_39 C S (mX11_isWithin_5 S n) ih x1 x2 x4
      · refine j_aload_n C 0 rfl dX11_isWithin_20 rfl ?_
        refine j_iload_n C 2 rfl dX11_isWithin_21 rfl ?_
        refine j_aload_n C 0 rfl dX11_isWithin_22 rfl ?_
        refine j_iload_n C 1 rfl dX11_isWithin_23 rfl ?_
        refine j_iload C 4 rfl dX11_isWithin_24 ?_
        refine j_callVi C [.int x1, .int x4] [.int x2, .ref (gad g 0)] mv_X11_86 sh_0 rfl rfl (fun _ h => ctX11_at h) ⟨(Nat.le_of_ble_eq_true rfl), (Nat.le_of_ble_eq_true rfl)⟩ (Nat.le_of_ble_eq_true rfl) dX11_isWithin_26 rfl (fun r2 => ?_)
        refine j_callVi C [.int x2, .int r2] [] mv_X11_148 sh_0 rfl rfl (fun _ h => ctX11_isIn h) ⟨(Nat.le_of_ble_eq_true rfl), (Nat.le_of_ble_eq_true rfl)⟩ (Nat.le_of_ble_eq_true rfl) dX11_isWithin_29 rfl (fun r3 => ?_)
        refine j_if_eq C 39 dX11_isWithin_32 (by decide) ?_ ?_
        · refine j_sub (xs1 := [(0, .ref (gad g 0)), (1, .int x1), (2, .int x2), (4, .int x4)]) [0, 1, 2, 4] rfl ?_
          exact wX11_isWithin_39 C S (mX11_isWithin_5 S n) ih x1 x2 x4
        · refine j_iconst C (v := 1) (by decide) dX11_isWithin_35 ?_
          refine j_goto C 40 dX11_isWithin_36 (by decide) ?_
          refine j_sub (xs1 := [(0, .ref (gad g 0)), (1, .int x1), (2, .int x2), (4, .int x4)]) [0, 1, 2, 4] rfl ?_
          exact wX11_isWithin_40 C S (mX11_isWithin_5 S n) ih x1 x2 x4 1
def mX11_isWithin (S : St) (a0 : Int32) (a1 : Int32) : Option (Int32) := mX11_isWithin_5 S FU a0 a1 1 0
theorem wX11_isWithin {κ : KT} {g : GT} (C : CX κ g RX11 cX11_isWithin 5 (some .boolean) 4 88) (S : St) (a0 : Int32) (a1 : Int32) : J κ g 5 (fun a : Int32 => (some (Value.int a), S)) S 0 [(0, .ref (gad g 0)), (1, .int a0), (2, .int a1)] [] (mX11_isWithin S a0 a1) := by
  unfold mX11_isWithin
  refine j_iconst C (v := 1) (by decide) dX11_isWithin_0 ?_
  refine j_istore_n C (xs1 := [(0, .ref (gad g 0)), (1, .int a0), (2, .int a1), (3, .int 1)]) dX11_isWithin_1 rfl (by decide) rfl ?_
  refine j_iconst C (v := 0) (by decide) dX11_isWithin_2 ?_
  refine j_istore C (xs1 := [(0, .ref (gad g 0)), (1, .int a0), (2, .int a1), (3, .int 1), (4, .int 0)]) dX11_isWithin_3 (by decide) rfl ?_
  exact wX11_isWithin_5 C S FU a0 a1 1 0
theorem ctX11_isWithin {l : Launch} {g : GT} {S : St} {a0 : Int32} {a1 : Int32} {out : Int32} (ho : mX11_isWithin S a0 a1 = some out) : CT l yX11_isWithin cX11_isWithin 5 (some .boolean) 4 88 [.ref (gad g 0), .int a0, .int a1] g S ((fun a : Int32 => (some (Value.int a), S)) out) := CT_of (φ := (fun a : Int32 => (some (Value.int a), S))) [.ref (gad g 0), .int a0, .int a1] ho (by decide) (Nat.le_of_ble_eq_true rfl) (xs := [(0, .ref (gad g 0)), (1, .int a0), (2, .int a1)]) rfl (fun κ C => wX11_isWithin C S a0 a1)
/-! StairIdealsModel.compare(II)I -/
def mX11_compare (S : St) (a0 : Int32) (a1 : Int32) : Option (Int32) := (mX11_isIdeal a0).bind fun r1 => if r1 = 0 then (some (-1))
  else ((mX11_isIdeal a1).bind fun r2 => if r2 = 0 then (some (-1))
  else ((mX11_isWithin S a0 a1).bind fun r3 => if r3 = 0 then ((mX11_isWithin S a1 a0).bind fun r4 => if r4 = 0 then (some 3)
  else (some 2))
  else ((mX11_isWithin S a1 a0).bind fun r5 => if r5 = 0 then (some 1)
  else (some 0))))
theorem wX11_compare {κ : KT} {g : GT} (C : CX κ g RX11 cX11_compare 3 (some .int) 5 112) (S : St) (a0 : Int32) (a1 : Int32) : J κ g 3 (fun a : Int32 => (some (Value.int a), S)) S 0 [(0, .ref (gad g 0)), (1, .int a0), (2, .int a1)] [] (mX11_compare S a0 a1) := by
  unfold mX11_compare
  refine j_iload_n C 1 rfl dX11_compare_0 rfl ?_
  refine j_callSi C [.int a0] [] ms_X11_128 (fun _ h => ctX11_isIdeal h) ⟨(Nat.le_of_ble_eq_true rfl), (Nat.le_of_ble_eq_true rfl)⟩ (Nat.le_of_ble_eq_true rfl) dX11_compare_1 rfl (fun r1 => ?_)
  refine j_if_eq C 14 dX11_compare_4 (by decide) ?_ ?_
  · refine j_iconst C (v := (-1)) (by decide) dX11_compare_14 ?_
    exact j_iret C rfl dX11_compare_15
  · refine j_iload_n C 2 rfl dX11_compare_7 rfl ?_
    refine j_callSi C [.int a1] [] ms_X11_128 (fun _ h => ctX11_isIdeal h) ⟨(Nat.le_of_ble_eq_true rfl), (Nat.le_of_ble_eq_true rfl)⟩ (Nat.le_of_ble_eq_true rfl) dX11_compare_8 rfl (fun r2 => ?_)
    refine j_if_ne C 16 dX11_compare_11 (by decide) ?_ ?_
    · refine j_aload_n C 0 rfl dX11_compare_16 rfl ?_
      refine j_iload_n C 1 rfl dX11_compare_17 rfl ?_
      refine j_iload_n C 2 rfl dX11_compare_18 rfl ?_
      refine j_callVi C [.int a0, .int a1] [] mv_X11_189 sh_0 rfl rfl (fun _ h => ctX11_isWithin h) ⟨(Nat.le_of_ble_eq_true rfl), (Nat.le_of_ble_eq_true rfl)⟩ (Nat.le_of_ble_eq_true rfl) dX11_compare_19 rfl (fun r3 => ?_)
      refine j_if_eq C 42 dX11_compare_22 (by decide) ?_ ?_
      · refine j_aload_n C 0 rfl dX11_compare_42 rfl ?_
        refine j_iload_n C 2 rfl dX11_compare_43 rfl ?_
        refine j_iload_n C 1 rfl dX11_compare_44 rfl ?_
        refine j_callVi C [.int a1, .int a0] [] mv_X11_189 sh_0 rfl rfl (fun _ h => ctX11_isWithin h) ⟨(Nat.le_of_ble_eq_true rfl), (Nat.le_of_ble_eq_true rfl)⟩ (Nat.le_of_ble_eq_true rfl) dX11_compare_45 rfl (fun r4 => ?_)
        refine j_if_eq C 55 dX11_compare_48 (by decide) ?_ ?_
        · refine j_iconst C (v := 3) (by decide) dX11_compare_55 ?_
          exact j_iret C rfl dX11_compare_56
        · refine j_iconst C (v := 2) (by decide) dX11_compare_51 ?_
          refine j_goto C 56 dX11_compare_52 (by decide) ?_
          exact j_iret C rfl dX11_compare_56
      · refine j_aload_n C 0 rfl dX11_compare_25 rfl ?_
        refine j_iload_n C 2 rfl dX11_compare_26 rfl ?_
        refine j_iload_n C 1 rfl dX11_compare_27 rfl ?_
        refine j_callVi C [.int a1, .int a0] [] mv_X11_189 sh_0 rfl rfl (fun _ h => ctX11_isWithin h) ⟨(Nat.le_of_ble_eq_true rfl), (Nat.le_of_ble_eq_true rfl)⟩ (Nat.le_of_ble_eq_true rfl) dX11_compare_28 rfl (fun r5 => ?_)
        refine j_if_eq C 38 dX11_compare_31 (by decide) ?_ ?_
        · refine j_iconst C (v := 1) (by decide) dX11_compare_38 ?_
          refine j_goto C 56 dX11_compare_39 (by decide) ?_
          exact j_iret C rfl dX11_compare_56
        · refine j_iconst C (v := 0) (by decide) dX11_compare_34 ?_
          refine j_goto C 56 dX11_compare_35 (by decide) ?_
          exact j_iret C rfl dX11_compare_56
    · refine j_iconst C (v := (-1)) (by decide) dX11_compare_14 ?_
      exact j_iret C rfl dX11_compare_15
theorem ctX11_compare {l : Launch} {g : GT} {S : St} {a0 : Int32} {a1 : Int32} {out : Int32} (ho : mX11_compare S a0 a1 = some out) : CT l yX11_compare cX11_compare 3 (some .int) 5 112 [.ref (gad g 0), .int a0, .int a1] g S ((fun a : Int32 => (some (Value.int a), S)) out) := CT_of (φ := (fun a : Int32 => (some (Value.int a), S))) [.ref (gad g 0), .int a0, .int a1] ho (by decide) (Nat.le_of_ble_eq_true rfl) (xs := [(0, .ref (gad g 0)), (1, .int a0), (2, .int a1)]) rfl (fun κ C => wX11_compare C S a0 a1)
/-! StairIdealsModel.findStandard(I)V -/
def mX11_findStandard_31 (k2 : St → Int32 → Int32 → Option (St)) (S : St) (x1 : Int32) (x2 : Int32) (s0 : Int32) (s1 : Int32) : Option (St) := zbg s0 <| inb 2401 s1 fun j1 => bnd (x2 + 1) fun v2 => k2 (sA S 8 j1 s0) x1 v2
theorem wX11_findStandard_31 {κ : KT} {g : GT} (C : CX κ g RX11 cX11_findStandard 3 none 4 88) (k2 : St → Int32 → Int32 → Option (St)) (hk2 : ∀ (S : St) (x1 : Int32) (x2 : Int32), J κ g 3 (fun a : St => (none, a)) S 2 [(0, .ref (gad g 0)), (1, .int x1), (2, .int x2)] [] (k2 S x1 x2)) (S : St) (x1 : Int32) (x2 : Int32) (s0 : Int32) (s1 : Int32) : J κ g 3 (fun a : St => (none, a)) S 31 [(0, .ref (gad g 0)), (1, .int x1), (2, .int x2)] [.int s0, .int s1, .ref (gad g 8)] (mX11_findStandard_31 k2 S x1 x2 s0 s1) := by
  unfold mX11_findStandard_31
  refine j_zbg (fun hb => ?_)
  refine j_zast C sh_8 rfl hb dX11_findStandard_31 (fun j1 => ?_)
  refine j_iinc C (xs2 := fun v2 => [(0, .ref (gad g 0)), (1, .int x1), (2, .int v2)]) 2 rfl dX11_findStandard_32 (by decide) (by decide) (fun _ => rfl) (fun v2 => ?_)
  refine j_goto C 2 dX11_findStandard_35 (by decide) ?_
  exact hk2 (sA S 8 j1 s0) x1 v2
def mX11_findStandard_2 : Nat → St → Int32 → Int32 → Option (St)
  | 0, _, _, _ => none
  | n + 1, S, x1, x2 => if 2401 ≤ x2 then (some S)
  else ((mX11_codeAt x2).bind fun r1 => (mX11_isIn S x1 r1).bind fun r2 => if r2 = 0 then (mX11_findStandard_31 (mX11_findStandard_2 n) S x1 x2 1 x2)
  else (mX11_findStandard_31 (mX11_findStandard_2 n) S x1 x2 0 x2))
theorem wX11_findStandard_2 {κ : KT} {g : GT} (C : CX κ g RX11 cX11_findStandard 3 none 4 88) : ∀ (n : Nat) (S : St) (x1 : Int32) (x2 : Int32), J κ g 3 (fun a : St => (none, a)) S 2 [(0, .ref (gad g 0)), (1, .int x1), (2, .int x2)] [] (mX11_findStandard_2 n S x1 x2) := by
  intro n
  induction n with
  | zero => intro S x1 x2; exact j_none
  | succ n ih =>
    intro S x1 x2
    rw [mX11_findStandard_2]
    refine j_iload_n C 2 rfl dX11_findStandard_2 rfl ?_
    refine j_sipush C (v := 2401) (by decide) dX11_findStandard_3 ?_
    refine j_icmp_ge C 38 dX11_findStandard_6 (by decide) ?_ ?_
    · exact j_vret C rfl dX11_findStandard_38
    · refine j_aload_n C 0 rfl dX11_findStandard_9 rfl ?_
      refine j_getR C (x := 8) fl_X11_32 sh_0 rfl rfl dX11_findStandard_10 ?_
      refine j_iload_n C 2 rfl dX11_findStandard_13 rfl ?_
      refine j_aload_n C 0 rfl dX11_findStandard_14 rfl ?_
      refine j_iload_n C 1 rfl dX11_findStandard_15 rfl ?_
      refine j_iload_n C 2 rfl dX11_findStandard_16 rfl ?_
      refine j_callSi C [.int x2] [.int x1, .ref (gad g 0), .int x2, .ref (gad g 8)] ms_X11_93 (fun _ h => ctX11_codeAt h) ⟨(Nat.le_of_ble_eq_true rfl), (Nat.le_of_ble_eq_true rfl)⟩ (Nat.le_of_ble_eq_true rfl) dX11_findStandard_17 rfl (fun r1 => ?_)
      refine j_callVi C [.int x1, .int r1] [.int x2, .ref (gad g 8)] mv_X11_148 sh_0 rfl rfl (fun _ h => ctX11_isIn h) ⟨(Nat.le_of_ble_eq_true rfl), (Nat.le_of_ble_eq_true rfl)⟩ (Nat.le_of_ble_eq_true rfl) dX11_findStandard_20 rfl (fun r2 => ?_)
      refine j_if_ne C 30 dX11_findStandard_23 (by decide) ?_ ?_
      · refine j_iconst C (v := 0) (by decide) dX11_findStandard_30 ?_
        exact wX11_findStandard_31 C (mX11_findStandard_2 n) ih S x1 x2 0 x2
      · refine j_iconst C (v := 1) (by decide) dX11_findStandard_26 ?_
        refine j_goto C 31 dX11_findStandard_27 (by decide) ?_
        exact wX11_findStandard_31 C (mX11_findStandard_2 n) ih S x1 x2 1 x2
def mX11_findStandard (S : St) (a0 : Int32) : Option (St) := mX11_findStandard_2 FU S a0 0
theorem wX11_findStandard {κ : KT} {g : GT} (C : CX κ g RX11 cX11_findStandard 3 none 4 88) (S : St) (a0 : Int32) : J κ g 3 (fun a : St => (none, a)) S 0 [(0, .ref (gad g 0)), (1, .int a0)] [] (mX11_findStandard S a0) := by
  unfold mX11_findStandard
  refine j_iconst C (v := 0) (by decide) dX11_findStandard_0 ?_
  refine j_istore_n C (xs1 := [(0, .ref (gad g 0)), (1, .int a0), (2, .int 0)]) dX11_findStandard_1 rfl (by decide) rfl ?_
  exact wX11_findStandard_2 C FU S a0 0
theorem ctX11_findStandard {l : Launch} {g : GT} {S : St} {a0 : Int32} {out : St} (ho : mX11_findStandard S a0 = some out) : CT l yX11_findStandard cX11_findStandard 3 none 4 88 [.ref (gad g 0), .int a0] g S ((fun a : St => (none, a)) out) := CT_of (φ := (fun a : St => (none, a))) [.ref (gad g 0), .int a0] ho (by decide) (Nat.le_of_ble_eq_true rfl) (xs := [(0, .ref (gad g 0)), (1, .int a0)]) rfl (fun κ C => wX11_findStandard C S a0)
/-! StairIdealsModel.isHighest(I)Z -/
def mX11_isHighest_59 (S : St) (k15 : Int32 → Int32 → Int32 → Option (Int32)) (x2 : Int32) (x4 : Int32) (s0 : Int32) : Option (Int32) := bnd (x4 + 1) fun v1 => k15 x2 s0 v1
theorem wX11_isHighest_59 {κ : KT} {g : GT} (C : CX κ g RX11 cX11_isHighest 5 (some .boolean) 3 61) (S : St) (k15 : Int32 → Int32 → Int32 → Option (Int32)) (hk15 : ∀ (x2 : Int32) (x3 : Int32) (x4 : Int32), J κ g 5 (fun a : Int32 => (some (Value.int a), S)) S 15 [(0, .ref (gad g 0)), (2, .int x2), (3, .int x3), (4, .int x4)] [] (k15 x2 x3 x4)) (x2 : Int32) (x4 : Int32) (s0 : Int32) : J κ g 5 (fun a : Int32 => (some (Value.int a), S)) S 59 [(0, .ref (gad g 0)), (2, .int x2), (4, .int x4)] [.int s0] (mX11_isHighest_59 S k15 x2 x4 s0) := by
  unfold mX11_isHighest_59
  refine j_istore_n C (xs1 := [(0, .ref (gad g 0)), (2, .int x2), (3, .int s0), (4, .int x4)]) dX11_isHighest_59 rfl (by decide) rfl ?_
  refine j_iinc C (xs2 := fun v1 => [(0, .ref (gad g 0)), (2, .int x2), (3, .int s0), (4, .int v1)]) 3 rfl dX11_isHighest_60 (by decide) (by decide) (fun _ => rfl) (fun v1 => ?_)
  refine j_goto C 15 dX11_isHighest_63 (by decide) ?_
  exact hk15 x2 s0 v1
def mX11_isHighest_58 (S : St) (k15 : Int32 → Int32 → Int32 → Option (Int32)) (x2 : Int32) (x4 : Int32) : Option (Int32) := mX11_isHighest_59 S k15 x2 x4 0
theorem wX11_isHighest_58 {κ : KT} {g : GT} (C : CX κ g RX11 cX11_isHighest 5 (some .boolean) 3 61) (S : St) (k15 : Int32 → Int32 → Int32 → Option (Int32)) (hk15 : ∀ (x2 : Int32) (x3 : Int32) (x4 : Int32), J κ g 5 (fun a : Int32 => (some (Value.int a), S)) S 15 [(0, .ref (gad g 0)), (2, .int x2), (3, .int x3), (4, .int x4)] [] (k15 x2 x3 x4)) (x2 : Int32) (x4 : Int32) : J κ g 5 (fun a : Int32 => (some (Value.int a), S)) S 58 [(0, .ref (gad g 0)), (2, .int x2), (4, .int x4)] [] (mX11_isHighest_58 S k15 x2 x4) := by
  unfold mX11_isHighest_58
  refine j_iconst C (v := 0) (by decide) dX11_isHighest_58 ?_
  exact wX11_isHighest_59 C S k15 hk15 x2 x4 0
def mX11_isHighest_54 (S : St) (k15 : Int32 → Int32 → Int32 → Option (Int32)) (x2 : Int32) (x4 : Int32) : Option (Int32) := mX11_isHighest_59 S k15 x2 x4 1
theorem wX11_isHighest_54 {κ : KT} {g : GT} (C : CX κ g RX11 cX11_isHighest 5 (some .boolean) 3 61) (S : St) (k15 : Int32 → Int32 → Int32 → Option (Int32)) (hk15 : ∀ (x2 : Int32) (x3 : Int32) (x4 : Int32), J κ g 5 (fun a : Int32 => (some (Value.int a), S)) S 15 [(0, .ref (gad g 0)), (2, .int x2), (3, .int x3), (4, .int x4)] [] (k15 x2 x3 x4)) (x2 : Int32) (x4 : Int32) : J κ g 5 (fun a : Int32 => (some (Value.int a), S)) S 54 [(0, .ref (gad g 0)), (2, .int x2), (4, .int x4)] [] (mX11_isHighest_54 S k15 x2 x4) := by
  unfold mX11_isHighest_54
  refine j_iconst C (v := 1) (by decide) dX11_isHighest_54 ?_
  refine j_goto C 59 dX11_isHighest_55 (by decide) ?_
  exact wX11_isHighest_59 C S k15 hk15 x2 x4 1
def mX11_isHighest_15 (S : St) : Nat → Int32 → Int32 → Int32 → Option (Int32)
  | 0, _, _, _ => none
  | n + 1, x2, x3, x4 => if 4 ≤ x4 then (zbg x3 (some x3))
  else (if x3 = 0 then (mX11_isHighest_58 S (mX11_isHighest_15 S n) x2 x4)
  else ((mX11_power x2 x4).bind fun r1 => if r1 = 6 then (mX11_isHighest_54 S (mX11_isHighest_15 S n) x2 x4)
  else ((mX11_ten x4).bind fun r2 => (mX11_placeOf (x2 + r2)).bind fun r3 => inb 2401 r3 fun j4 => if (gA S 8 j4) = 0 then (mX11_isHighest_54 S (mX11_isHighest_15 S n) x2 x4)
  else (mX11_isHighest_58 S (mX11_isHighest_15 S n) x2 x4))))
theorem wX11_isHighest_15 {κ : KT} {g : GT} (C : CX κ g RX11 cX11_isHighest 5 (some .boolean) 3 61) (S : St) : ∀ (n : Nat) (x2 : Int32) (x3 : Int32) (x4 : Int32), J κ g 5 (fun a : Int32 => (some (Value.int a), S)) S 15 [(0, .ref (gad g 0)), (2, .int x2), (3, .int x3), (4, .int x4)] [] (mX11_isHighest_15 S n x2 x3 x4) := by
  intro n
  induction n with
  | zero => intro x2 x3 x4; exact j_none
  | succ n ih =>
    intro x2 x3 x4
    rw [mX11_isHighest_15]
    refine j_iload C 3 rfl dX11_isHighest_15 ?_
    refine j_iconst C (v := 4) (by decide) dX11_isHighest_17 ?_
    refine j_icmp_ge C 66 dX11_isHighest_18 (by decide) ?_ ?_
    · refine j_iload_n C 2 rfl dX11_isHighest_66 rfl ?_
      refine j_zbg (fun hb => ?_)
      exact j_zret C (nar_z hb) rfl dX11_isHighest_67
    · refine j_iload_n C 2 rfl dX11_isHighest_21 rfl ?_
      refine j_if_eq C 58 dX11_isHighest_22 (by decide) ?_ ?_
      · refine j_sub (xs1 := [(0, .ref (gad g 0)), (2, .int x2), (4, .int x4)]) [0, 1, 3] rfl ?_
        exact wX11_isHighest_58 C S (mX11_isHighest_15 S n) ih x2 x4
      · refine j_iload_n C 1 rfl dX11_isHighest_25 rfl ?_
        refine j_iload C 3 rfl dX11_isHighest_26 ?_
        refine j_callSi C [.int x2, .int x4] [] ms_X11_76 (fun _ h => ctX11_power h) ⟨(Nat.le_of_ble_eq_true rfl), (Nat.le_of_ble_eq_true rfl)⟩ (Nat.le_of_ble_eq_true rfl) dX11_isHighest_28 rfl (fun r1 => ?_)
        refine j_bipush C (v := 6) (by decide) dX11_isHighest_31 ?_
        refine j_icmp_eq C 54 dX11_isHighest_33 (by decide) ?_ ?_
        · refine j_sub (xs1 := [(0, .ref (gad g 0)), (2, .int x2), (4, .int x4)]) [0, 1, 3] rfl ?_
          exact wX11_isHighest_54 C S (mX11_isHighest_15 S n) ih x2 x4
        · refine j_aload_n C 0 rfl dX11_isHighest_36 rfl ?_
          refine j_getR C (x := 8) fl_X11_32 sh_0 rfl rfl dX11_isHighest_37 ?_
          refine j_iload_n C 1 rfl dX11_isHighest_40 rfl ?_
          refine j_iload C 3 rfl dX11_isHighest_41 ?_
          refine j_callSi C [.int x4] [.int x2, .ref (gad g 8)] ms_X11_70 (fun _ h => ctX11_ten h) ⟨(Nat.le_of_ble_eq_true rfl), (Nat.le_of_ble_eq_true rfl)⟩ (Nat.le_of_ble_eq_true rfl) dX11_isHighest_43 rfl (fun r2 => ?_)
          refine j_iadd C dX11_isHighest_46 ?_
          refine j_callSi C [.int (x2 + r2)] [.ref (gad g 8)] ms_X11_96 (fun _ h => ctX11_placeOf h) ⟨(Nat.le_of_ble_eq_true rfl), (Nat.le_of_ble_eq_true rfl)⟩ (Nat.le_of_ble_eq_true rfl) dX11_isHighest_47 rfl (fun r3 => ?_)
          refine j_zald C sh_8 rfl dX11_isHighest_50 (fun j4 => ?_)
          refine j_if_ne C 58 dX11_isHighest_51 (by decide) ?_ ?_
          · refine j_sub (xs1 := [(0, .ref (gad g 0)), (2, .int x2), (4, .int x4)]) [0, 1, 3] rfl ?_
            exact wX11_isHighest_58 C S (mX11_isHighest_15 S n) ih x2 x4
          · refine j_sub (xs1 := [(0, .ref (gad g 0)), (2, .int x2), (4, .int x4)]) [0, 1, 3] rfl ?_
            exact wX11_isHighest_54 C S (mX11_isHighest_15 S n) ih x2 x4
def mX11_isHighest (S : St) (a0 : Int32) : Option (Int32) := (mX11_codeAt a0).bind fun r1 => inb 2401 a0 fun j2 => bnd (gA S 8 j2) fun v3 => mX11_isHighest_15 S FU r1 v3 0
theorem wX11_isHighest {κ : KT} {g : GT} (C : CX κ g RX11 cX11_isHighest 5 (some .boolean) 3 61) (S : St) (a0 : Int32) : J κ g 5 (fun a : Int32 => (some (Value.int a), S)) S 0 [(0, .ref (gad g 0)), (1, .int a0)] [] (mX11_isHighest S a0) := by
  unfold mX11_isHighest
  refine j_iload_n C 1 rfl dX11_isHighest_0 rfl ?_
  refine j_callSi C [.int a0] [] ms_X11_93 (fun _ h => ctX11_codeAt h) ⟨(Nat.le_of_ble_eq_true rfl), (Nat.le_of_ble_eq_true rfl)⟩ (Nat.le_of_ble_eq_true rfl) dX11_isHighest_1 rfl (fun r1 => ?_)
  refine j_istore_n C (xs1 := [(0, .ref (gad g 0)), (1, .int a0), (2, .int r1)]) dX11_isHighest_4 rfl (by decide) rfl ?_
  refine j_aload_n C 0 rfl dX11_isHighest_5 rfl ?_
  refine j_getR C (x := 8) fl_X11_32 sh_0 rfl rfl dX11_isHighest_6 ?_
  refine j_iload_n C 1 rfl dX11_isHighest_9 rfl ?_
  refine j_zald C sh_8 rfl dX11_isHighest_10 (fun j2 => ?_)
  refine j_topi (fun v3 => ?_)
  refine j_istore_n C (xs1 := [(0, .ref (gad g 0)), (1, .int a0), (2, .int r1), (3, .int v3)]) dX11_isHighest_11 rfl (by decide) rfl ?_
  refine j_iconst C (v := 0) (by decide) dX11_isHighest_12 ?_
  refine j_istore C (xs1 := [(0, .ref (gad g 0)), (1, .int a0), (2, .int r1), (3, .int v3), (4, .int 0)]) dX11_isHighest_13 (by decide) rfl ?_
  refine j_sub (xs1 := [(0, .ref (gad g 0)), (2, .int r1), (3, .int v3), (4, .int 0)]) [0, 2, 3, 4] rfl ?_
  exact wX11_isHighest_15 C S FU r1 v3 0
theorem ctX11_isHighest {l : Launch} {g : GT} {S : St} {a0 : Int32} {out : Int32} (ho : mX11_isHighest S a0 = some out) : CT l yX11_isHighest cX11_isHighest 5 (some .boolean) 3 61 [.ref (gad g 0), .int a0] g S ((fun a : Int32 => (some (Value.int a), S)) out) := CT_of (φ := (fun a : Int32 => (some (Value.int a), S))) [.ref (gad g 0), .int a0] ho (by decide) (Nat.le_of_ble_eq_true rfl) (xs := [(0, .ref (gad g 0)), (1, .int a0)]) rfl (fun κ C => wX11_isHighest C S a0)
/-! StairIdealsModel.partBy(I)I -/
def mX11_partBy_36 (k4 : Int32 → Int32 → Int32 → Option (Int32)) (x0 : Int32) (x2 : Int32) (s0 : Int32) (s1 : Int32) : Option (Int32) := bnd (s1 + s0) fun v1 => bnd (x2 + 1) fun v2 => k4 x0 v1 v2
theorem wX11_partBy_36 {κ : KT} {g : GT} (C : CX κ g RX11 cX11_partBy 3 (some .int) 2 41) (S : St) (k4 : Int32 → Int32 → Int32 → Option (Int32)) (hk4 : ∀ (x0 : Int32) (x1 : Int32) (x2 : Int32), J κ g 3 (fun a : Int32 => (some (Value.int a), S)) S 4 [(0, .int x0), (1, .int x1), (2, .int x2)] [] (k4 x0 x1 x2)) (x0 : Int32) (x2 : Int32) (s0 : Int32) (s1 : Int32) : J κ g 3 (fun a : Int32 => (some (Value.int a), S)) S 36 [(0, .int x0), (2, .int x2)] [.int s0, .int s1] (mX11_partBy_36 k4 x0 x2 s0 s1) := by
  unfold mX11_partBy_36
  refine j_iadd C dX11_partBy_36 ?_
  refine j_topi (fun v1 => ?_)
  refine j_istore_n C (xs1 := [(0, .int x0), (1, .int v1), (2, .int x2)]) dX11_partBy_37 rfl (by decide) rfl ?_
  refine j_iinc C (xs2 := fun v2 => [(0, .int x0), (1, .int v1), (2, .int v2)]) 2 rfl dX11_partBy_38 (by decide) (by decide) (fun _ => rfl) (fun v2 => ?_)
  refine j_goto C 4 dX11_partBy_41 (by decide) ?_
  exact hk4 x0 v1 v2
def mX11_partBy_4 : Nat → Int32 → Int32 → Int32 → Option (Int32)
  | 0, _, _, _ => none
  | n + 1, x0, x1, x2 => if 4 ≤ x2 then (some x1)
  else ((mX11_power x0 x2).bind fun r1 => if r1 = 6 then (mX11_partBy_36 (mX11_partBy_4 n) x0 x2 0 x1)
  else ((mX11_ten x2).bind fun r2 => (mX11_power x0 x2).bind fun r3 => mX11_partBy_36 (mX11_partBy_4 n) x0 x2 (r2 * (r3 + 1)) x1))
theorem wX11_partBy_4 {κ : KT} {g : GT} (C : CX κ g RX11 cX11_partBy 3 (some .int) 2 41) (S : St) : ∀ (n : Nat) (x0 : Int32) (x1 : Int32) (x2 : Int32), J κ g 3 (fun a : Int32 => (some (Value.int a), S)) S 4 [(0, .int x0), (1, .int x1), (2, .int x2)] [] (mX11_partBy_4 n x0 x1 x2) := by
  intro n
  induction n with
  | zero => intro x0 x1 x2; exact j_none
  | succ n ih =>
    intro x0 x1 x2
    rw [mX11_partBy_4]
    refine j_iload_n C 2 rfl dX11_partBy_4 rfl ?_
    refine j_iconst C (v := 4) (by decide) dX11_partBy_5 ?_
    refine j_icmp_ge C 44 dX11_partBy_6 (by decide) ?_ ?_
    · refine j_iload_n C 1 rfl dX11_partBy_44 rfl ?_
      exact j_iret C rfl dX11_partBy_45
    · refine j_iload_n C 1 rfl dX11_partBy_9 rfl ?_
      refine j_iload_n C 0 rfl dX11_partBy_10 rfl ?_
      refine j_iload_n C 2 rfl dX11_partBy_11 rfl ?_
      refine j_callSi C [.int x0, .int x2] [.int x1] ms_X11_76 (fun _ h => ctX11_power h) ⟨(Nat.le_of_ble_eq_true rfl), (Nat.le_of_ble_eq_true rfl)⟩ (Nat.le_of_ble_eq_true rfl) dX11_partBy_12 rfl (fun r1 => ?_)
      refine j_bipush C (v := 6) (by decide) dX11_partBy_15 ?_
      refine j_icmp_ne C 24 dX11_partBy_17 (by decide) ?_ ?_
      · refine j_iload_n C 2 rfl dX11_partBy_24 rfl ?_
        refine j_callSi C [.int x2] [.int x1] ms_X11_70 (fun _ h => ctX11_ten h) ⟨(Nat.le_of_ble_eq_true rfl), (Nat.le_of_ble_eq_true rfl)⟩ (Nat.le_of_ble_eq_true rfl) dX11_partBy_25 rfl (fun r2 => ?_)
        refine j_iload_n C 0 rfl dX11_partBy_28 rfl ?_
        refine j_iload_n C 2 rfl dX11_partBy_29 rfl ?_
        refine j_callSi C [.int x0, .int x2] [.int r2, .int x1] ms_X11_76 (fun _ h => ctX11_power h) ⟨(Nat.le_of_ble_eq_true rfl), (Nat.le_of_ble_eq_true rfl)⟩ (Nat.le_of_ble_eq_true rfl) dX11_partBy_30 rfl (fun r3 => ?_)
        refine j_iconst C (v := 1) (by decide) dX11_partBy_33 ?_
        refine j_iadd C dX11_partBy_34 ?_
        refine j_imul C dX11_partBy_35 ?_
        refine j_sub (xs1 := [(0, .int x0), (2, .int x2)]) [0, 2] rfl ?_
        exact wX11_partBy_36 C S (mX11_partBy_4 n) ih x0 x2 (r2 * (r3 + 1)) x1
      · refine j_iconst C (v := 0) (by decide) dX11_partBy_20 ?_
        refine j_goto C 36 dX11_partBy_21 (by decide) ?_
        refine j_sub (xs1 := [(0, .int x0), (2, .int x2)]) [0, 2] rfl ?_
        exact wX11_partBy_36 C S (mX11_partBy_4 n) ih x0 x2 0 x1
def mX11_partBy (a0 : Int32) : Option (Int32) := mX11_partBy_4 FU a0 0 0
theorem wX11_partBy {κ : KT} {g : GT} (C : CX κ g RX11 cX11_partBy 3 (some .int) 2 41) (S : St) (a0 : Int32) : J κ g 3 (fun a : Int32 => (some (Value.int a), S)) S 0 [(0, .int a0)] [] (mX11_partBy a0) := by
  unfold mX11_partBy
  refine j_iconst C (v := 0) (by decide) dX11_partBy_0 ?_
  refine j_istore_n C (xs1 := [(0, .int a0), (1, .int 0)]) dX11_partBy_1 rfl (by decide) rfl ?_
  refine j_iconst C (v := 0) (by decide) dX11_partBy_2 ?_
  refine j_istore_n C (xs1 := [(0, .int a0), (1, .int 0), (2, .int 0)]) dX11_partBy_3 rfl (by decide) rfl ?_
  exact wX11_partBy_4 C S FU a0 0 0
theorem ctX11_partBy {l : Launch} {g : GT} {S : St} {a0 : Int32} {out : Int32} (ho : mX11_partBy a0 = some out) : CT l yX11_partBy cX11_partBy 3 (some .int) 2 41 [.int a0] g S ((fun a : Int32 => (some (Value.int a), S)) out) := CT_of (φ := (fun a : Int32 => (some (Value.int a), S))) [.int a0] ho (by decide) (Nat.le_of_ble_eq_true rfl) (xs := [(0, .int a0)]) rfl (fun κ C => wX11_partBy C S a0)
/-! StairIdealsModel.layPart(I)V -/
def mX11_layPart_41 (S : St) (x1 : Int32) (x2 : Int32) : Option (St) := inb 2401 x2 fun j1 => some (sI (sA S 9 j1 x1) 0 13 ((gI (sA S 9 j1 x1) 0 13) + 1))
theorem wX11_layPart_41 {κ : KT} {g : GT} (C : CX κ g RX11 cX11_layPart 3 none 0 0) (S : St) (x1 : Int32) (x2 : Int32) : J κ g 3 (fun a : St => (none, a)) S 41 [(0, .ref (gad g 0)), (1, .int x1), (2, .int x2)] [] (mX11_layPart_41 S x1 x2) := by
  unfold mX11_layPart_41
  refine j_aload_n C 0 rfl dX11_layPart_41 rfl ?_
  refine j_getR C (x := 9) fl_X11_35 sh_0 rfl rfl dX11_layPart_42 ?_
  refine j_iload_n C 2 rfl dX11_layPart_45 rfl ?_
  refine j_iload_n C 1 rfl dX11_layPart_46 rfl ?_
  refine j_iast C sh_9 rfl dX11_layPart_47 (fun j1 => ?_)
  refine j_aload_n C 0 rfl dX11_layPart_48 rfl ?_
  refine j_dup C rfl dX11_layPart_49 ?_
  refine j_getI C fl_X11_195 sh_0 rfl rfl dX11_layPart_50 ?_
  refine j_iconst C (v := 1) (by decide) dX11_layPart_53 ?_
  refine j_iadd C dX11_layPart_54 ?_
  refine j_putI C fp_X11_195 sh_0 rfl rfl rfl rfl dX11_layPart_55 ?_
  exact j_vret C rfl dX11_layPart_58
def mX11_layPart_5 : Nat → St → Int32 → Int32 → Option (St)
  | 0, _, _, _ => none
  | n + 1, S, x1, x2 => if x2 ≤ 0 then (mX11_layPart_41 S x1 x2)
  else (inb 2401 (x2 - 1) fun j1 => if (gA S 9 j1) ≤ x1 then (mX11_layPart_41 S x1 x2)
  else (inb 2401 (x2 - 1) fun j2 => inb 2401 x2 fun j3 => bnd (x2 + (-1)) fun v4 => mX11_layPart_5 n (sA S 9 j3 (gA S 9 j2)) x1 v4))
theorem wX11_layPart_5 {κ : KT} {g : GT} (C : CX κ g RX11 cX11_layPart 3 none 0 0) : ∀ (n : Nat) (S : St) (x1 : Int32) (x2 : Int32), J κ g 3 (fun a : St => (none, a)) S 5 [(0, .ref (gad g 0)), (1, .int x1), (2, .int x2)] [] (mX11_layPart_5 n S x1 x2) := by
  intro n
  induction n with
  | zero => intro S x1 x2; exact j_none
  | succ n ih =>
    intro S x1 x2
    rw [mX11_layPart_5]
    refine j_iload_n C 2 rfl dX11_layPart_5 rfl ?_
    refine j_if_le C 41 dX11_layPart_6 (by decide) ?_ ?_
    · exact wX11_layPart_41 C S x1 x2
    · refine j_aload_n C 0 rfl dX11_layPart_9 rfl ?_
      refine j_getR C (x := 9) fl_X11_35 sh_0 rfl rfl dX11_layPart_10 ?_
      refine j_iload_n C 2 rfl dX11_layPart_13 rfl ?_
      refine j_iconst C (v := 1) (by decide) dX11_layPart_14 ?_
      refine j_isub C dX11_layPart_15 ?_
      refine j_iald C sh_9 rfl dX11_layPart_16 (fun j1 => ?_)
      refine j_iload_n C 1 rfl dX11_layPart_17 rfl ?_
      refine j_icmp_le C 41 dX11_layPart_18 (by decide) ?_ ?_
      · exact wX11_layPart_41 C S x1 x2
      · refine j_aload_n C 0 rfl dX11_layPart_21 rfl ?_
        refine j_getR C (x := 9) fl_X11_35 sh_0 rfl rfl dX11_layPart_22 ?_
        refine j_iload_n C 2 rfl dX11_layPart_25 rfl ?_
        refine j_aload_n C 0 rfl dX11_layPart_26 rfl ?_
        refine j_getR C (x := 9) fl_X11_35 sh_0 rfl rfl dX11_layPart_27 ?_
        refine j_iload_n C 2 rfl dX11_layPart_30 rfl ?_
        refine j_iconst C (v := 1) (by decide) dX11_layPart_31 ?_
        refine j_isub C dX11_layPart_32 ?_
        refine j_iald C sh_9 rfl dX11_layPart_33 (fun j2 => ?_)
        refine j_iast C sh_9 rfl dX11_layPart_34 (fun j3 => ?_)
        refine j_iinc C (xs2 := fun v4 => [(0, .ref (gad g 0)), (1, .int x1), (2, .int v4)]) 2 rfl dX11_layPart_35 (by decide) (by decide) (fun _ => rfl) (fun v4 => ?_)
        refine j_goto C 5 dX11_layPart_38 (by decide) ?_
        exact ih (sA S 9 j3 (gA S 9 j2)) x1 v4
def mX11_layPart (S : St) (a0 : Int32) : Option (St) := bnd (gI S 0 13) fun v1 => mX11_layPart_5 FU S a0 v1
theorem wX11_layPart {κ : KT} {g : GT} (C : CX κ g RX11 cX11_layPart 3 none 0 0) (S : St) (a0 : Int32) : J κ g 3 (fun a : St => (none, a)) S 0 [(0, .ref (gad g 0)), (1, .int a0)] [] (mX11_layPart S a0) := by
  unfold mX11_layPart
  refine j_aload_n C 0 rfl dX11_layPart_0 rfl ?_
  refine j_getI C fl_X11_195 sh_0 rfl rfl dX11_layPart_1 ?_
  refine j_topi (fun v1 => ?_)
  refine j_istore_n C (xs1 := [(0, .ref (gad g 0)), (1, .int a0), (2, .int v1)]) dX11_layPart_4 rfl (by decide) rfl ?_
  exact wX11_layPart_5 C FU S a0 v1
theorem ctX11_layPart {l : Launch} {g : GT} {S : St} {a0 : Int32} {out : St} (ho : mX11_layPart S a0 = some out) : CT l yX11_layPart cX11_layPart 3 none 0 0 [.ref (gad g 0), .int a0] g S ((fun a : St => (none, a)) out) := CT_of (φ := (fun a : St => (none, a))) [.ref (gad g 0), .int a0] ho (by decide) (Nat.le_of_ble_eq_true rfl) (xs := [(0, .ref (gad g 0)), (1, .int a0)]) rfl (fun κ C => wX11_layPart C S a0)
/-! StairIdealsModel.findParts(I)V -/
def mX11_findParts_38 (k12 : St → Int32 → Option (St)) (S : St) (x2 : Int32) : Option (St) := bnd (x2 + 1) fun v1 => k12 S v1
theorem wX11_findParts_38 {κ : KT} {g : GT} (C : CX κ g RX11 cX11_findParts 3 none 5 110) (k12 : St → Int32 → Option (St)) (hk12 : ∀ (S : St) (x2 : Int32), J κ g 3 (fun a : St => (none, a)) S 12 [(0, .ref (gad g 0)), (2, .int x2)] [] (k12 S x2)) (S : St) (x2 : Int32) : J κ g 3 (fun a : St => (none, a)) S 38 [(0, .ref (gad g 0)), (2, .int x2)] [] (mX11_findParts_38 k12 S x2) := by
  unfold mX11_findParts_38
  refine j_iinc C (xs2 := fun v1 => [(0, .ref (gad g 0)), (2, .int v1)]) 1 rfl dX11_findParts_38 (by decide) (by decide) (fun _ => rfl) (fun v1 => ?_)
  refine j_goto C 12 dX11_findParts_41 (by decide) ?_
  exact hk12 S v1
def mX11_findParts_12 : Nat → St → Int32 → Option (St)
  | 0, _, _ => none
  | n + 1, S, x2 => if 2401 ≤ x2 then (some S)
  else ((mX11_isHighest S x2).bind fun r1 => if r1 = 0 then (mX11_findParts_38 (mX11_findParts_12 n) S x2)
  else ((mX11_codeAt x2).bind fun r2 => (mX11_partBy r2).bind fun r3 => (mX11_layPart S r3).bind fun r4 => mX11_findParts_38 (mX11_findParts_12 n) r4 x2))
theorem wX11_findParts_12 {κ : KT} {g : GT} (C : CX κ g RX11 cX11_findParts 3 none 5 110) : ∀ (n : Nat) (S : St) (x2 : Int32), J κ g 3 (fun a : St => (none, a)) S 12 [(0, .ref (gad g 0)), (2, .int x2)] [] (mX11_findParts_12 n S x2) := by
  intro n
  induction n with
  | zero => intro S x2; exact j_none
  | succ n ih =>
    intro S x2
    rw [mX11_findParts_12]
    refine j_iload_n C 1 rfl dX11_findParts_12 rfl ?_
    refine j_sipush C (v := 2401) (by decide) dX11_findParts_13 ?_
    refine j_icmp_ge C 44 dX11_findParts_16 (by decide) ?_ ?_
    · exact j_vret C rfl dX11_findParts_44
    · refine j_aload_n C 0 rfl dX11_findParts_19 rfl ?_
      refine j_iload_n C 1 rfl dX11_findParts_20 rfl ?_
      refine j_callVi C [.int x2] [] mv_X11_198 sh_0 rfl rfl (fun _ h => ctX11_isHighest h) ⟨(Nat.le_of_ble_eq_true rfl), (Nat.le_of_ble_eq_true rfl)⟩ (Nat.le_of_ble_eq_true rfl) dX11_findParts_21 rfl (fun r1 => ?_)
      refine j_if_eq C 38 dX11_findParts_24 (by decide) ?_ ?_
      · exact wX11_findParts_38 C (mX11_findParts_12 n) ih S x2
      · refine j_aload_n C 0 rfl dX11_findParts_27 rfl ?_
        refine j_iload_n C 1 rfl dX11_findParts_28 rfl ?_
        refine j_callSi C [.int x2] [.ref (gad g 0)] ms_X11_93 (fun _ h => ctX11_codeAt h) ⟨(Nat.le_of_ble_eq_true rfl), (Nat.le_of_ble_eq_true rfl)⟩ (Nat.le_of_ble_eq_true rfl) dX11_findParts_29 rfl (fun r2 => ?_)
        refine j_callSi C [.int r2] [.ref (gad g 0)] ms_X11_201 (fun _ h => ctX11_partBy h) ⟨(Nat.le_of_ble_eq_true rfl), (Nat.le_of_ble_eq_true rfl)⟩ (Nat.le_of_ble_eq_true rfl) dX11_findParts_32 rfl (fun r3 => ?_)
        refine j_callVvS C [.int r3] [] mv_X11_204 sh_0 rfl rfl (fun _ h => ctX11_layPart h) ⟨(Nat.le_of_ble_eq_true rfl), (Nat.le_of_ble_eq_true rfl)⟩ (Nat.le_of_ble_eq_true rfl) dX11_findParts_35 rfl (fun r4 => ?_)
        exact wX11_findParts_38 C (mX11_findParts_12 n) ih r4 x2
def mX11_findParts (S : St) (a0 : Int32) : Option (St) := (mX11_findStandard S a0).bind fun r1 => mX11_findParts_12 FU (sI r1 0 13 0) 0
theorem wX11_findParts {κ : KT} {g : GT} (C : CX κ g RX11 cX11_findParts 3 none 5 110) (S : St) (a0 : Int32) : J κ g 3 (fun a : St => (none, a)) S 0 [(0, .ref (gad g 0)), (1, .int a0)] [] (mX11_findParts S a0) := by
  unfold mX11_findParts
  refine j_aload_n C 0 rfl dX11_findParts_0 rfl ?_
  refine j_iload_n C 1 rfl dX11_findParts_1 rfl ?_
  refine j_callVvS C [.int a0] [] mv_X11_192 sh_0 rfl rfl (fun _ h => ctX11_findStandard h) ⟨(Nat.le_of_ble_eq_true rfl), (Nat.le_of_ble_eq_true rfl)⟩ (Nat.le_of_ble_eq_true rfl) dX11_findParts_2 rfl (fun r1 => ?_)
  refine j_aload_n C 0 rfl dX11_findParts_5 rfl ?_
  refine j_iconst C (v := 0) (by decide) dX11_findParts_6 ?_
  refine j_putI C fp_X11_195 sh_0 rfl rfl rfl rfl dX11_findParts_7 ?_
  refine j_iconst C (v := 0) (by decide) dX11_findParts_10 ?_
  refine j_istore_n C (xs1 := [(0, .ref (gad g 0)), (1, .int a0), (2, .int 0)]) dX11_findParts_11 rfl (by decide) rfl ?_
  refine j_sub (xs1 := [(0, .ref (gad g 0)), (2, .int 0)]) [0, 2] rfl ?_
  exact wX11_findParts_12 C FU (sI r1 0 13 0) 0
theorem ctX11_findParts {l : Launch} {g : GT} {S : St} {a0 : Int32} {out : St} (ho : mX11_findParts S a0 = some out) : CT l yX11_findParts cX11_findParts 3 none 5 110 [.ref (gad g 0), .int a0] g S ((fun a : St => (none, a)) out) := CT_of (φ := (fun a : St => (none, a))) [.ref (gad g 0), .int a0] ho (by decide) (Nat.le_of_ble_eq_true rfl) (xs := [(0, .ref (gad g 0)), (1, .int a0)]) rfl (fun κ C => wX11_findParts C S a0)
/-! StairIdealsModel.part(II)I -/
def mX11_part (S : St) (a0 : Int32) (a1 : Int32) : Option (Int32 × St) := (mX11_isIdeal a0).bind fun r1 => if r1 = 0 then (some ((-1), S))
  else ((mX11_findParts S a0).bind fun r2 => if a1 = (-1) then (some (gI r2 0 13, r2))
  else ((mX11_in a1.toInt64 0 (((gI r2 0 13) - 1).toInt64)).bind fun r3 => if r3 = 0 then (some ((-6), r2))
  else (inb 2401 a1 fun j4 => some (gA r2 9 j4, r2))))
theorem wX11_part {κ : KT} {g : GT} (C : CX κ g RX11 cX11_part 3 (some .int) 6 132) (S : St) (a0 : Int32) (a1 : Int32) : J κ g 3 (fun a : Int32 × St => (some (Value.int a.1), a.2)) S 0 [(0, .ref (gad g 0)), (1, .int a0), (2, .int a1)] [] (mX11_part S a0 a1) := by
  unfold mX11_part
  refine j_iload_n C 1 rfl dX11_part_0 rfl ?_
  refine j_callSi C [.int a0] [] ms_X11_128 (fun _ h => ctX11_isIdeal h) ⟨(Nat.le_of_ble_eq_true rfl), (Nat.le_of_ble_eq_true rfl)⟩ (Nat.le_of_ble_eq_true rfl) dX11_part_1 rfl (fun r1 => ?_)
  refine j_if_ne C 9 dX11_part_4 (by decide) ?_ ?_
  · refine j_aload_n C 0 rfl dX11_part_9 rfl ?_
    refine j_iload_n C 1 rfl dX11_part_10 rfl ?_
    refine j_callVvS C [.int a0] [] mv_X11_207 sh_0 rfl rfl (fun _ h => ctX11_findParts h) ⟨(Nat.le_of_ble_eq_true rfl), (Nat.le_of_ble_eq_true rfl)⟩ (Nat.le_of_ble_eq_true rfl) dX11_part_11 rfl (fun r2 => ?_)
    refine j_iload_n C 2 rfl dX11_part_14 rfl ?_
    refine j_iconst C (v := (-1)) (by decide) dX11_part_15 ?_
    refine j_icmp_ne C 26 dX11_part_16 (by decide) ?_ ?_
    · refine j_iload_n C 2 rfl dX11_part_26 rfl ?_
      refine j_i2l C dX11_part_27 ?_
      refine j_lconst C (v := 0) (by decide) dX11_part_28 ?_
      refine j_aload_n C 0 rfl dX11_part_29 rfl ?_
      refine j_getI C fl_X11_195 sh_0 rfl rfl dX11_part_30 ?_
      refine j_iconst C (v := 1) (by decide) dX11_part_33 ?_
      refine j_isub C dX11_part_34 ?_
      refine j_i2l C dX11_part_35 ?_
      refine j_callSi C [.long a1.toInt64, .long 0, .long (((gI r2 0 13) - 1).toInt64)] [] ms_X11_64 (fun _ h => ctX11_in h) ⟨(Nat.le_of_ble_eq_true rfl), (Nat.le_of_ble_eq_true rfl)⟩ (Nat.le_of_ble_eq_true rfl) dX11_part_36 rfl (fun r3 => ?_)
      refine j_if_eq C 51 dX11_part_39 (by decide) ?_ ?_
      · refine j_bipush C (v := (-6)) (by decide) dX11_part_51 ?_
        exact j_iret C rfl dX11_part_53
      · refine j_aload_n C 0 rfl dX11_part_42 rfl ?_
        refine j_getR C (x := 9) fl_X11_35 sh_0 rfl rfl dX11_part_43 ?_
        refine j_iload_n C 2 rfl dX11_part_46 rfl ?_
        refine j_iald C sh_9 rfl dX11_part_47 (fun j4 => ?_)
        refine j_goto C 53 dX11_part_48 (by decide) ?_
        exact j_iret C rfl dX11_part_53
    · refine j_aload_n C 0 rfl dX11_part_19 rfl ?_
      refine j_getI C fl_X11_195 sh_0 rfl rfl dX11_part_20 ?_
      refine j_goto C 53 dX11_part_23 (by decide) ?_
      exact j_iret C rfl dX11_part_53
  · refine j_iconst C (v := (-1)) (by decide) dX11_part_7 ?_
    exact j_iret C rfl dX11_part_8
theorem ctX11_part {l : Launch} {g : GT} {S : St} {a0 : Int32} {a1 : Int32} {out : Int32 × St} (ho : mX11_part S a0 a1 = some out) : CT l yX11_part cX11_part 3 (some .int) 6 132 [.ref (gad g 0), .int a0, .int a1] g S ((fun a : Int32 × St => (some (Value.int a.1), a.2)) out) := CT_of (φ := (fun a : Int32 × St => (some (Value.int a.1), a.2))) [.ref (gad g 0), .int a0, .int a1] ho (by decide) (Nat.le_of_ble_eq_true rfl) (xs := [(0, .ref (gad g 0)), (1, .int a0), (2, .int a1)]) rfl (fun κ C => wX11_part C S a0 a1)
/-! StairIdealsModel.primesOf(I)I -/
def mX11_primesOf_9 : Nat → St → Int32 → Int32 → Option (Int32 × St)
  | 0, _, _, _ => none
  | n + 1, S, x2, x3 => if (gI S 0 13) ≤ x3 then (some (x2, S))
  else (inb 2401 x3 fun j1 => (mX11_support (gA S 9 j1)).bind fun r2 => bnd (x2 ||| ((1 : Int32) <<< (r2 &&& 31))) fun v3 => bnd (x3 + 1) fun v4 => mX11_primesOf_9 n S v3 v4)
theorem wX11_primesOf_9 {κ : KT} {g : GT} (C : CX κ g RX11 cX11_primesOf 4 (some .int) 6 132) : ∀ (n : Nat) (S : St) (x2 : Int32) (x3 : Int32), J κ g 4 (fun a : Int32 × St => (some (Value.int a.1), a.2)) S 9 [(0, .ref (gad g 0)), (2, .int x2), (3, .int x3)] [] (mX11_primesOf_9 n S x2 x3) := by
  intro n
  induction n with
  | zero => intro S x2 x3; exact j_none
  | succ n ih =>
    intro S x2 x3
    rw [mX11_primesOf_9]
    refine j_iload_n C 2 rfl dX11_primesOf_9 rfl ?_
    refine j_aload_n C 0 rfl dX11_primesOf_10 rfl ?_
    refine j_getI C fl_X11_195 sh_0 rfl rfl dX11_primesOf_11 ?_
    refine j_icmp_ge C 37 dX11_primesOf_14 (by decide) ?_ ?_
    · refine j_iload_n C 1 rfl dX11_primesOf_37 rfl ?_
      exact j_iret C rfl dX11_primesOf_38
    · refine j_iload_n C 1 rfl dX11_primesOf_17 rfl ?_
      refine j_iconst C (v := 1) (by decide) dX11_primesOf_18 ?_
      refine j_aload_n C 0 rfl dX11_primesOf_19 rfl ?_
      refine j_getR C (x := 9) fl_X11_35 sh_0 rfl rfl dX11_primesOf_20 ?_
      refine j_iload_n C 2 rfl dX11_primesOf_23 rfl ?_
      refine j_iald C sh_9 rfl dX11_primesOf_24 (fun j1 => ?_)
      refine j_callSi C [.int (gA S 9 j1)] [.int 1, .int x2] ms_X11_154 (fun _ h => ctX11_support h) ⟨(Nat.le_of_ble_eq_true rfl), (Nat.le_of_ble_eq_true rfl)⟩ (Nat.le_of_ble_eq_true rfl) dX11_primesOf_25 rfl (fun r2 => ?_)
      refine j_ishl C dX11_primesOf_28 ?_
      refine j_ior C dX11_primesOf_29 ?_
      refine j_topi (fun v3 => ?_)
      refine j_istore_n C (xs1 := [(0, .ref (gad g 0)), (2, .int v3), (3, .int x3)]) dX11_primesOf_30 rfl (by decide) rfl ?_
      refine j_iinc C (xs2 := fun v4 => [(0, .ref (gad g 0)), (2, .int v3), (3, .int v4)]) 2 rfl dX11_primesOf_31 (by decide) (by decide) (fun _ => rfl) (fun v4 => ?_)
      refine j_goto C 9 dX11_primesOf_34 (by decide) ?_
      exact ih S v3 v4
def mX11_primesOf (S : St) (a0 : Int32) : Option (Int32 × St) := (mX11_findParts S a0).bind fun r1 => mX11_primesOf_9 FU r1 0 0
theorem wX11_primesOf {κ : KT} {g : GT} (C : CX κ g RX11 cX11_primesOf 4 (some .int) 6 132) (S : St) (a0 : Int32) : J κ g 4 (fun a : Int32 × St => (some (Value.int a.1), a.2)) S 0 [(0, .ref (gad g 0)), (1, .int a0)] [] (mX11_primesOf S a0) := by
  unfold mX11_primesOf
  refine j_aload_n C 0 rfl dX11_primesOf_0 rfl ?_
  refine j_iload_n C 1 rfl dX11_primesOf_1 rfl ?_
  refine j_callVvS C [.int a0] [] mv_X11_207 sh_0 rfl rfl (fun _ h => ctX11_findParts h) ⟨(Nat.le_of_ble_eq_true rfl), (Nat.le_of_ble_eq_true rfl)⟩ (Nat.le_of_ble_eq_true rfl) dX11_primesOf_2 rfl (fun r1 => ?_)
  refine j_iconst C (v := 0) (by decide) dX11_primesOf_5 ?_
  refine j_istore_n C (xs1 := [(0, .ref (gad g 0)), (1, .int a0), (2, .int 0)]) dX11_primesOf_6 rfl (by decide) rfl ?_
  refine j_iconst C (v := 0) (by decide) dX11_primesOf_7 ?_
  refine j_istore_n C (xs1 := [(0, .ref (gad g 0)), (1, .int a0), (2, .int 0), (3, .int 0)]) dX11_primesOf_8 rfl (by decide) rfl ?_
  refine j_sub (xs1 := [(0, .ref (gad g 0)), (2, .int 0), (3, .int 0)]) [0, 2, 3] rfl ?_
  exact wX11_primesOf_9 C FU r1 0 0
theorem ctX11_primesOf {l : Launch} {g : GT} {S : St} {a0 : Int32} {out : Int32 × St} (ho : mX11_primesOf S a0 = some out) : CT l yX11_primesOf cX11_primesOf 4 (some .int) 6 132 [.ref (gad g 0), .int a0] g S ((fun a : Int32 × St => (some (Value.int a.1), a.2)) out) := CT_of (φ := (fun a : Int32 × St => (some (Value.int a.1), a.2))) [.ref (gad g 0), .int a0] ho (by decide) (Nat.le_of_ble_eq_true rfl) (xs := [(0, .ref (gad g 0)), (1, .int a0)]) rfl (fun κ C => wX11_primesOf C S a0)
/-! StairIdealsModel.prime(II)I -/
def mX11_prime_50 (k21 : St → Int32 → Int32 → Int32 → Int32 → Option (Int32 × St)) (S : St) (x2 : Int32) (x3 : Int32) (x4 : Int32) (x5 : Int32) : Option (Int32 × St) := bnd (x5 + 1) fun v1 => k21 S x2 x3 x4 v1
theorem wX11_prime_50 {κ : KT} {g : GT} (C : CX κ g RX11 cX11_prime 6 (some .int) 7 155) (k21 : St → Int32 → Int32 → Int32 → Int32 → Option (Int32 × St)) (hk21 : ∀ (S : St) (x2 : Int32) (x3 : Int32) (x4 : Int32) (x5 : Int32), J κ g 6 (fun a : Int32 × St => (some (Value.int a.1), a.2)) S 21 [(2, .int x2), (3, .int x3), (4, .int x4), (5, .int x5)] [] (k21 S x2 x3 x4 x5)) (S : St) (x2 : Int32) (x3 : Int32) (x4 : Int32) (x5 : Int32) : J κ g 6 (fun a : Int32 × St => (some (Value.int a.1), a.2)) S 50 [(2, .int x2), (3, .int x3), (4, .int x4), (5, .int x5)] [] (mX11_prime_50 k21 S x2 x3 x4 x5) := by
  unfold mX11_prime_50
  refine j_iinc C (xs2 := fun v1 => [(2, .int x2), (3, .int x3), (4, .int x4), (5, .int v1)]) 3 rfl dX11_prime_50 (by decide) (by decide) (fun _ => rfl) (fun v1 => ?_)
  refine j_goto C 21 dX11_prime_53 (by decide) ?_
  exact hk21 S x2 x3 x4 v1
def mX11_prime_21 : Nat → St → Int32 → Int32 → Int32 → Int32 → Option (Int32 × St)
  | 0, _, _, _, _, _ => none
  | n + 1, S, x2, x3, x4, x5 => if 16 ≤ x5 then (if x2 = (-1) then (some (x4, S))
  else (some ((-6), S)))
  else (if ((x3 >>> (x5 &&& 31)) &&& 1) = 1 then (if x4 = x2 then (some (x5, S))
  else (bnd (x4 + 1) fun v1 => mX11_prime_50 (mX11_prime_21 n) S x2 x3 v1 x5))
  else (mX11_prime_50 (mX11_prime_21 n) S x2 x3 x4 x5))
theorem wX11_prime_21 {κ : KT} {g : GT} (C : CX κ g RX11 cX11_prime 6 (some .int) 7 155) : ∀ (n : Nat) (S : St) (x2 : Int32) (x3 : Int32) (x4 : Int32) (x5 : Int32), J κ g 6 (fun a : Int32 × St => (some (Value.int a.1), a.2)) S 21 [(2, .int x2), (3, .int x3), (4, .int x4), (5, .int x5)] [] (mX11_prime_21 n S x2 x3 x4 x5) := by
  intro n
  induction n with
  | zero => intro S x2 x3 x4 x5; exact j_none
  | succ n ih =>
    intro S x2 x3 x4 x5
    rw [mX11_prime_21]
    refine j_iload C 3 rfl dX11_prime_21 ?_
    refine j_bipush C (v := 16) (by decide) dX11_prime_23 ?_
    refine j_icmp_ge C 56 dX11_prime_25 (by decide) ?_ ?_
    · refine j_iload_n C 0 rfl dX11_prime_56 rfl ?_
      refine j_iconst C (v := (-1)) (by decide) dX11_prime_57 ?_
      refine j_icmp_ne C 66 dX11_prime_58 (by decide) ?_ ?_
      · refine j_bipush C (v := (-6)) (by decide) dX11_prime_66 ?_
        exact j_iret C rfl dX11_prime_68
      · refine j_iload C 2 rfl dX11_prime_61 ?_
        refine j_goto C 68 dX11_prime_63 (by decide) ?_
        exact j_iret C rfl dX11_prime_68
    · refine j_iload_n C 1 rfl dX11_prime_28 rfl ?_
      refine j_iload C 3 rfl dX11_prime_29 ?_
      refine j_ishr C dX11_prime_31 ?_
      refine j_iconst C (v := 1) (by decide) dX11_prime_32 ?_
      refine j_iand C dX11_prime_33 ?_
      refine j_iconst C (v := 1) (by decide) dX11_prime_34 ?_
      refine j_icmp_ne C 50 dX11_prime_35 (by decide) ?_ ?_
      · exact wX11_prime_50 C (mX11_prime_21 n) ih S x2 x3 x4 x5
      · refine j_iload C 2 rfl dX11_prime_38 ?_
        refine j_iload_n C 0 rfl dX11_prime_40 rfl ?_
        refine j_icmp_ne C 47 dX11_prime_41 (by decide) ?_ ?_
        · refine j_iinc C (xs2 := fun v1 => [(2, .int x2), (3, .int x3), (4, .int v1), (5, .int x5)]) 2 rfl dX11_prime_47 (by decide) (by decide) (fun _ => rfl) (fun v1 => ?_)
          exact wX11_prime_50 C (mX11_prime_21 n) ih S x2 x3 v1 x5
        · refine j_iload C 3 rfl dX11_prime_44 ?_
          exact j_iret C rfl dX11_prime_46
def mX11_prime (S : St) (a0 : Int32) (a1 : Int32) : Option (Int32 × St) := (mX11_isIdeal a0).bind fun r1 => if r1 = 0 then (some ((-1), S))
  else ((mX11_primesOf S a0).bind fun r2 => mX11_prime_21 FU r2.2 a1 r2.1 0 0)
theorem wX11_prime {κ : KT} {g : GT} (C : CX κ g RX11 cX11_prime 6 (some .int) 7 155) (S : St) (a0 : Int32) (a1 : Int32) : J κ g 6 (fun a : Int32 × St => (some (Value.int a.1), a.2)) S 0 [(0, .ref (gad g 0)), (1, .int a0), (2, .int a1)] [] (mX11_prime S a0 a1) := by
  unfold mX11_prime
  refine j_iload_n C 1 rfl dX11_prime_0 rfl ?_
  refine j_callSi C [.int a0] [] ms_X11_128 (fun _ h => ctX11_isIdeal h) ⟨(Nat.le_of_ble_eq_true rfl), (Nat.le_of_ble_eq_true rfl)⟩ (Nat.le_of_ble_eq_true rfl) dX11_prime_1 rfl (fun r1 => ?_)
  refine j_if_ne C 9 dX11_prime_4 (by decide) ?_ ?_
  · refine j_aload_n C 0 rfl dX11_prime_9 rfl ?_
    refine j_iload_n C 1 rfl dX11_prime_10 rfl ?_
    refine j_callViS C [.int a0] [] mv_X11_210 sh_0 rfl rfl (fun _ h => ctX11_primesOf h) ⟨(Nat.le_of_ble_eq_true rfl), (Nat.le_of_ble_eq_true rfl)⟩ (Nat.le_of_ble_eq_true rfl) dX11_prime_11 rfl (fun r2 => ?_)
    refine j_istore_n C (xs1 := [(0, .ref (gad g 0)), (1, .int a0), (2, .int a1), (3, .int r2.1)]) dX11_prime_14 rfl (by decide) rfl ?_
    refine j_iconst C (v := 0) (by decide) dX11_prime_15 ?_
    refine j_istore C (xs1 := [(0, .ref (gad g 0)), (1, .int a0), (2, .int a1), (3, .int r2.1), (4, .int 0)]) dX11_prime_16 (by decide) rfl ?_
    refine j_iconst C (v := 0) (by decide) dX11_prime_18 ?_
    refine j_istore C (xs1 := [(0, .ref (gad g 0)), (1, .int a0), (2, .int a1), (3, .int r2.1), (4, .int 0), (5, .int 0)]) dX11_prime_19 (by decide) rfl ?_
    refine j_sub (xs1 := [(2, .int a1), (3, .int r2.1), (4, .int 0), (5, .int 0)]) [2, 3, 4, 5] rfl ?_
    exact wX11_prime_21 C FU r2.2 a1 r2.1 0 0
  · refine j_iconst C (v := (-1)) (by decide) dX11_prime_7 ?_
    exact j_iret C rfl dX11_prime_8
theorem ctX11_prime {l : Launch} {g : GT} {S : St} {a0 : Int32} {a1 : Int32} {out : Int32 × St} (ho : mX11_prime S a0 a1 = some out) : CT l yX11_prime cX11_prime 6 (some .int) 7 155 [.ref (gad g 0), .int a0, .int a1] g S ((fun a : Int32 × St => (some (Value.int a.1), a.2)) out) := CT_of (φ := (fun a : Int32 × St => (some (Value.int a.1), a.2))) [.ref (gad g 0), .int a0, .int a1] ho (by decide) (Nat.le_of_ble_eq_true rfl) (xs := [(0, .ref (gad g 0)), (1, .int a0), (2, .int a1)]) rfl (fun κ C => wX11_prime C S a0 a1)
/-! StairIdealsModel.isInPart(II)Z -/
def mX11_isInPart_39 (k4 : Int32 → Int32 → Int32 → Int32 → Option (Int32)) (x0 : Int32) (x1 : Int32) (x3 : Int32) (s0 : Int32) : Option (Int32) := bnd (x3 + 1) fun v1 => k4 x0 x1 s0 v1
theorem wX11_isInPart_39 {κ : KT} {g : GT} (C : CX κ g RX11 cX11_isInPart 4 (some .boolean) 2 41) (S : St) (k4 : Int32 → Int32 → Int32 → Int32 → Option (Int32)) (hk4 : ∀ (x0 : Int32) (x1 : Int32) (x2 : Int32) (x3 : Int32), J κ g 4 (fun a : Int32 => (some (Value.int a), S)) S 4 [(0, .int x0), (1, .int x1), (2, .int x2), (3, .int x3)] [] (k4 x0 x1 x2 x3)) (x0 : Int32) (x1 : Int32) (x3 : Int32) (s0 : Int32) : J κ g 4 (fun a : Int32 => (some (Value.int a), S)) S 39 [(0, .int x0), (1, .int x1), (3, .int x3)] [.int s0] (mX11_isInPart_39 k4 x0 x1 x3 s0) := by
  unfold mX11_isInPart_39
  refine j_istore_n C (xs1 := [(0, .int x0), (1, .int x1), (2, .int s0), (3, .int x3)]) dX11_isInPart_39 rfl (by decide) rfl ?_
  refine j_iinc C (xs2 := fun v1 => [(0, .int x0), (1, .int x1), (2, .int s0), (3, .int v1)]) 3 rfl dX11_isInPart_40 (by decide) (by decide) (fun _ => rfl) (fun v1 => ?_)
  refine j_goto C 4 dX11_isInPart_43 (by decide) ?_
  exact hk4 x0 x1 s0 v1
def mX11_isInPart_38 (k4 : Int32 → Int32 → Int32 → Int32 → Option (Int32)) (x0 : Int32) (x1 : Int32) (x3 : Int32) : Option (Int32) := mX11_isInPart_39 k4 x0 x1 x3 0
theorem wX11_isInPart_38 {κ : KT} {g : GT} (C : CX κ g RX11 cX11_isInPart 4 (some .boolean) 2 41) (S : St) (k4 : Int32 → Int32 → Int32 → Int32 → Option (Int32)) (hk4 : ∀ (x0 : Int32) (x1 : Int32) (x2 : Int32) (x3 : Int32), J κ g 4 (fun a : Int32 => (some (Value.int a), S)) S 4 [(0, .int x0), (1, .int x1), (2, .int x2), (3, .int x3)] [] (k4 x0 x1 x2 x3)) (x0 : Int32) (x1 : Int32) (x3 : Int32) : J κ g 4 (fun a : Int32 => (some (Value.int a), S)) S 38 [(0, .int x0), (1, .int x1), (3, .int x3)] [] (mX11_isInPart_38 k4 x0 x1 x3) := by
  unfold mX11_isInPart_38
  refine j_iconst C (v := 0) (by decide) dX11_isInPart_38 ?_
  exact wX11_isInPart_39 C S k4 hk4 x0 x1 x3 0
def mX11_isInPart_34 (k4 : Int32 → Int32 → Int32 → Int32 → Option (Int32)) (x0 : Int32) (x1 : Int32) (x3 : Int32) : Option (Int32) := mX11_isInPart_39 k4 x0 x1 x3 1
theorem wX11_isInPart_34 {κ : KT} {g : GT} (C : CX κ g RX11 cX11_isInPart 4 (some .boolean) 2 41) (S : St) (k4 : Int32 → Int32 → Int32 → Int32 → Option (Int32)) (hk4 : ∀ (x0 : Int32) (x1 : Int32) (x2 : Int32) (x3 : Int32), J κ g 4 (fun a : Int32 => (some (Value.int a), S)) S 4 [(0, .int x0), (1, .int x1), (2, .int x2), (3, .int x3)] [] (k4 x0 x1 x2 x3)) (x0 : Int32) (x1 : Int32) (x3 : Int32) : J κ g 4 (fun a : Int32 => (some (Value.int a), S)) S 34 [(0, .int x0), (1, .int x1), (3, .int x3)] [] (mX11_isInPart_34 k4 x0 x1 x3) := by
  unfold mX11_isInPart_34
  refine j_iconst C (v := 1) (by decide) dX11_isInPart_34 ?_
  refine j_goto C 39 dX11_isInPart_35 (by decide) ?_
  exact wX11_isInPart_39 C S k4 hk4 x0 x1 x3 1
def mX11_isInPart_4 : Nat → Int32 → Int32 → Int32 → Int32 → Option (Int32)
  | 0, _, _, _, _ => none
  | n + 1, x0, x1, x2, x3 => if 4 ≤ x3 then (zbg x2 (some x2))
  else (if x2 = 0 then ((mX11_power x0 x3).bind fun r1 => if r1 ≤ 0 then (mX11_isInPart_38 (mX11_isInPart_4 n) x0 x1 x3)
  else ((mX11_power x1 x3).bind fun r2 => (mX11_power x0 x3).bind fun r3 => if r2 < r3 then (mX11_isInPart_38 (mX11_isInPart_4 n) x0 x1 x3)
  else (mX11_isInPart_34 (mX11_isInPart_4 n) x0 x1 x3)))
  else (mX11_isInPart_34 (mX11_isInPart_4 n) x0 x1 x3))
theorem wX11_isInPart_4 {κ : KT} {g : GT} (C : CX κ g RX11 cX11_isInPart 4 (some .boolean) 2 41) (S : St) : ∀ (n : Nat) (x0 : Int32) (x1 : Int32) (x2 : Int32) (x3 : Int32), J κ g 4 (fun a : Int32 => (some (Value.int a), S)) S 4 [(0, .int x0), (1, .int x1), (2, .int x2), (3, .int x3)] [] (mX11_isInPart_4 n x0 x1 x2 x3) := by
  intro n
  induction n with
  | zero => intro x0 x1 x2 x3; exact j_none
  | succ n ih =>
    intro x0 x1 x2 x3
    rw [mX11_isInPart_4]
    refine j_iload_n C 3 rfl dX11_isInPart_4 rfl ?_
    refine j_iconst C (v := 4) (by decide) dX11_isInPart_5 ?_
    refine j_icmp_ge C 46 dX11_isInPart_6 (by decide) ?_ ?_
    · refine j_iload_n C 2 rfl dX11_isInPart_46 rfl ?_
      refine j_zbg (fun hb => ?_)
      exact j_zret C (nar_z hb) rfl dX11_isInPart_47
    · refine j_iload_n C 2 rfl dX11_isInPart_9 rfl ?_
      refine j_if_ne C 34 dX11_isInPart_10 (by decide) ?_ ?_
      · refine j_sub (xs1 := [(0, .int x0), (1, .int x1), (3, .int x3)]) [0, 1, 3] rfl ?_
        exact wX11_isInPart_34 C S (mX11_isInPart_4 n) ih x0 x1 x3
      · refine j_iload_n C 0 rfl dX11_isInPart_13 rfl ?_
        refine j_iload_n C 3 rfl dX11_isInPart_14 rfl ?_
        refine j_callSi C [.int x0, .int x3] [] ms_X11_76 (fun _ h => ctX11_power h) ⟨(Nat.le_of_ble_eq_true rfl), (Nat.le_of_ble_eq_true rfl)⟩ (Nat.le_of_ble_eq_true rfl) dX11_isInPart_15 rfl (fun r1 => ?_)
        refine j_if_le C 38 dX11_isInPart_18 (by decide) ?_ ?_
        · refine j_sub (xs1 := [(0, .int x0), (1, .int x1), (3, .int x3)]) [0, 1, 3] rfl ?_
          exact wX11_isInPart_38 C S (mX11_isInPart_4 n) ih x0 x1 x3
        · refine j_iload_n C 1 rfl dX11_isInPart_21 rfl ?_
          refine j_iload_n C 3 rfl dX11_isInPart_22 rfl ?_
          refine j_callSi C [.int x1, .int x3] [] ms_X11_76 (fun _ h => ctX11_power h) ⟨(Nat.le_of_ble_eq_true rfl), (Nat.le_of_ble_eq_true rfl)⟩ (Nat.le_of_ble_eq_true rfl) dX11_isInPart_23 rfl (fun r2 => ?_)
          refine j_iload_n C 0 rfl dX11_isInPart_26 rfl ?_
          refine j_iload_n C 3 rfl dX11_isInPart_27 rfl ?_
          refine j_callSi C [.int x0, .int x3] [.int r2] ms_X11_76 (fun _ h => ctX11_power h) ⟨(Nat.le_of_ble_eq_true rfl), (Nat.le_of_ble_eq_true rfl)⟩ (Nat.le_of_ble_eq_true rfl) dX11_isInPart_28 rfl (fun r3 => ?_)
          refine j_icmp_lt C 38 dX11_isInPart_31 (by decide) ?_ ?_
          · refine j_sub (xs1 := [(0, .int x0), (1, .int x1), (3, .int x3)]) [0, 1, 3] rfl ?_
            exact wX11_isInPart_38 C S (mX11_isInPart_4 n) ih x0 x1 x3
          · refine j_sub (xs1 := [(0, .int x0), (1, .int x1), (3, .int x3)]) [0, 1, 3] rfl ?_
            exact wX11_isInPart_34 C S (mX11_isInPart_4 n) ih x0 x1 x3
def mX11_isInPart (a0 : Int32) (a1 : Int32) : Option (Int32) := mX11_isInPart_4 FU a0 a1 0 0
theorem wX11_isInPart {κ : KT} {g : GT} (C : CX κ g RX11 cX11_isInPart 4 (some .boolean) 2 41) (S : St) (a0 : Int32) (a1 : Int32) : J κ g 4 (fun a : Int32 => (some (Value.int a), S)) S 0 [(0, .int a0), (1, .int a1)] [] (mX11_isInPart a0 a1) := by
  unfold mX11_isInPart
  refine j_iconst C (v := 0) (by decide) dX11_isInPart_0 ?_
  refine j_istore_n C (xs1 := [(0, .int a0), (1, .int a1), (2, .int 0)]) dX11_isInPart_1 rfl (by decide) rfl ?_
  refine j_iconst C (v := 0) (by decide) dX11_isInPart_2 ?_
  refine j_istore_n C (xs1 := [(0, .int a0), (1, .int a1), (2, .int 0), (3, .int 0)]) dX11_isInPart_3 rfl (by decide) rfl ?_
  exact wX11_isInPart_4 C S FU a0 a1 0 0
theorem ctX11_isInPart {l : Launch} {g : GT} {S : St} {a0 : Int32} {a1 : Int32} {out : Int32} (ho : mX11_isInPart a0 a1 = some out) : CT l yX11_isInPart cX11_isInPart 4 (some .boolean) 2 41 [.int a0, .int a1] g S ((fun a : Int32 => (some (Value.int a), S)) out) := CT_of (φ := (fun a : Int32 => (some (Value.int a), S))) [.int a0, .int a1] ho (by decide) (Nat.le_of_ble_eq_true rfl) (xs := [(0, .int a0), (1, .int a1)]) rfl (fun κ C => wX11_isInPart C S a0 a1)
