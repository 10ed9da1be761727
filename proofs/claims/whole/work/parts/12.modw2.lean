/-! StairIdealsModel.primary(III)I -/
def mX11_primary_127 (k46 : St → Int32 → Int32 → Int32 → Option (Int32 × St)) (k65 : St → Int32 → Int32 → Int32 → Int32 → Option (Int32 × St)) (S : St) (x2 : Int32) (x3 : Int32) (x4 : Int32) (x5 : Int32) (s0 : Int32) (s1 : Int32) : Option (Int32 × St) := zbg s0 <| inb 2401 s1 fun j1 => bnd (x5 + 1) fun v2 => k65 (sA S 4 j1 s0) x2 x3 x4 v2
theorem wX11_primary_127 {κ : KT} {g : GT} (C : CX κ g RX11 cX11_primary 6 (some .int) 7 155) (k46 : St → Int32 → Int32 → Int32 → Option (Int32 × St)) (hk46 : ∀ (S : St) (x2 : Int32) (x3 : Int32) (x4 : Int32), J κ g 6 (fun a : Int32 × St => (some (Value.int a.1), a.2)) S 46 [(0, .ref (gad g 0)), (2, .int x2), (3, .int x3), (4, .int x4)] [] (k46 S x2 x3 x4)) (k65 : St → Int32 → Int32 → Int32 → Int32 → Option (Int32 × St)) (hk65 : ∀ (S : St) (x2 : Int32) (x3 : Int32) (x4 : Int32) (x5 : Int32), J κ g 6 (fun a : Int32 × St => (some (Value.int a.1), a.2)) S 65 [(0, .ref (gad g 0)), (2, .int x2), (3, .int x3), (4, .int x4), (5, .int x5)] [] (k65 S x2 x3 x4 x5)) (S : St) (x2 : Int32) (x3 : Int32) (x4 : Int32) (x5 : Int32) (s0 : Int32) (s1 : Int32) : J κ g 6 (fun a : Int32 × St => (some (Value.int a.1), a.2)) S 127 [(0, .ref (gad g 0)), (2, .int x2), (3, .int x3), (4, .int x4), (5, .int x5)] [.int s0, .int s1, .ref (gad g 4)] (mX11_primary_127 k46 k65 S x2 x3 x4 x5 s0 s1) := by
  unfold mX11_primary_127
  refine j_zbg (fun hb => ?_)
  refine j_zast C sh_4 rfl hb dX11_primary_127 (fun j1 => ?_)
  refine j_iinc C (xs2 := fun v2 => [(0, .ref (gad g 0)), (2, .int x2), (3, .int x3), (4, .int x4), (5, .int v2)]) 4 rfl dX11_primary_128 (by decide) (by decide) (fun _ => rfl) (fun v2 => ?_)
  refine j_goto C 65 dX11_primary_131 (by decide) ?_
  exact hk65 (sA S 4 j1 s0) x2 x3 x4 v2
def mX11_primary_126 (k46 : St → Int32 → Int32 → Int32 → Option (Int32 × St)) (k65 : St → Int32 → Int32 → Int32 → Int32 → Option (Int32 × St)) (S : St) (x2 : Int32) (x3 : Int32) (x4 : Int32) (x5 : Int32) (s0 : Int32) : Option (Int32 × St) := mX11_primary_127 k46 k65 S x2 x3 x4 x5 0 s0
theorem wX11_primary_126 {κ : KT} {g : GT} (C : CX κ g RX11 cX11_primary 6 (some .int) 7 155) (k46 : St → Int32 → Int32 → Int32 → Option (Int32 × St)) (hk46 : ∀ (S : St) (x2 : Int32) (x3 : Int32) (x4 : Int32), J κ g 6 (fun a : Int32 × St => (some (Value.int a.1), a.2)) S 46 [(0, .ref (gad g 0)), (2, .int x2), (3, .int x3), (4, .int x4)] [] (k46 S x2 x3 x4)) (k65 : St → Int32 → Int32 → Int32 → Int32 → Option (Int32 × St)) (hk65 : ∀ (S : St) (x2 : Int32) (x3 : Int32) (x4 : Int32) (x5 : Int32), J κ g 6 (fun a : Int32 × St => (some (Value.int a.1), a.2)) S 65 [(0, .ref (gad g 0)), (2, .int x2), (3, .int x3), (4, .int x4), (5, .int x5)] [] (k65 S x2 x3 x4 x5)) (S : St) (x2 : Int32) (x3 : Int32) (x4 : Int32) (x5 : Int32) (s0 : Int32) : J κ g 6 (fun a : Int32 × St => (some (Value.int a.1), a.2)) S 126 [(0, .ref (gad g 0)), (2, .int x2), (3, .int x3), (4, .int x4), (5, .int x5)] [.int s0, .ref (gad g 4)] (mX11_primary_126 k46 k65 S x2 x3 x4 x5 s0) := by
  unfold mX11_primary_126
  refine j_iconst C (v := 0) (by decide) dX11_primary_126 ?_
  exact wX11_primary_127 C k46 hk46 k65 hk65 S x2 x3 x4 x5 0 s0
def mX11_primary_122 (k46 : St → Int32 → Int32 → Int32 → Option (Int32 × St)) (k65 : St → Int32 → Int32 → Int32 → Int32 → Option (Int32 × St)) (S : St) (x2 : Int32) (x3 : Int32) (x4 : Int32) (x5 : Int32) (s0 : Int32) : Option (Int32 × St) := mX11_primary_127 k46 k65 S x2 x3 x4 x5 1 s0
theorem wX11_primary_122 {κ : KT} {g : GT} (C : CX κ g RX11 cX11_primary 6 (some .int) 7 155) (k46 : St → Int32 → Int32 → Int32 → Option (Int32 × St)) (hk46 : ∀ (S : St) (x2 : Int32) (x3 : Int32) (x4 : Int32), J κ g 6 (fun a : Int32 × St => (some (Value.int a.1), a.2)) S 46 [(0, .ref (gad g 0)), (2, .int x2), (3, .int x3), (4, .int x4)] [] (k46 S x2 x3 x4)) (k65 : St → Int32 → Int32 → Int32 → Int32 → Option (Int32 × St)) (hk65 : ∀ (S : St) (x2 : Int32) (x3 : Int32) (x4 : Int32) (x5 : Int32), J κ g 6 (fun a : Int32 × St => (some (Value.int a.1), a.2)) S 65 [(0, .ref (gad g 0)), (2, .int x2), (3, .int x3), (4, .int x4), (5, .int x5)] [] (k65 S x2 x3 x4 x5)) (S : St) (x2 : Int32) (x3 : Int32) (x4 : Int32) (x5 : Int32) (s0 : Int32) : J κ g 6 (fun a : Int32 × St => (some (Value.int a.1), a.2)) S 122 [(0, .ref (gad g 0)), (2, .int x2), (3, .int x3), (4, .int x4), (5, .int x5)] [.int s0, .ref (gad g 4)] (mX11_primary_122 k46 k65 S x2 x3 x4 x5 s0) := by
  unfold mX11_primary_122
  refine j_iconst C (v := 1) (by decide) dX11_primary_122 ?_
  refine j_goto C 127 dX11_primary_123 (by decide) ?_
  exact wX11_primary_127 C k46 hk46 k65 hk65 S x2 x3 x4 x5 1 s0
def mX11_primary_65 (k46 : St → Int32 → Int32 → Int32 → Option (Int32 × St)) : Nat → St → Int32 → Int32 → Int32 → Int32 → Option (Int32 × St)
  | 0, _, _, _, _, _ => none
  | n + 1, S, x2, x3, x4, x5 => if (gI S 0 13) ≤ x5 then (bnd (x4 + 1) fun v1 => k46 S x2 x3 v1)
  else (inb 2401 x4 fun j2 => if (gA S 4 j2) = 0 then (mX11_primary_126 k46 (mX11_primary_65 k46 n) S x2 x3 x4 x5 x4)
  else (inb 2401 x5 fun j3 => (mX11_support (gA S 9 j3)).bind fun r4 => if r4 = x2 then (inb 2401 x5 fun j5 => (mX11_codeAt x4).bind fun r6 => (mX11_isInPart (gA S 9 j5) r6).bind fun r7 => if r7 = 0 then (mX11_primary_126 k46 (mX11_primary_65 k46 n) S x2 x3 x4 x5 x4)
  else (mX11_primary_122 k46 (mX11_primary_65 k46 n) S x2 x3 x4 x5 x4))
  else (mX11_primary_122 k46 (mX11_primary_65 k46 n) S x2 x3 x4 x5 x4)))
theorem wX11_primary_65 {κ : KT} {g : GT} (C : CX κ g RX11 cX11_primary 6 (some .int) 7 155) (k46 : St → Int32 → Int32 → Int32 → Option (Int32 × St)) (hk46 : ∀ (S : St) (x2 : Int32) (x3 : Int32) (x4 : Int32), J κ g 6 (fun a : Int32 × St => (some (Value.int a.1), a.2)) S 46 [(0, .ref (gad g 0)), (2, .int x2), (3, .int x3), (4, .int x4)] [] (k46 S x2 x3 x4)) : ∀ (n : Nat) (S : St) (x2 : Int32) (x3 : Int32) (x4 : Int32) (x5 : Int32), J κ g 6 (fun a : Int32 × St => (some (Value.int a.1), a.2)) S 65 [(0, .ref (gad g 0)), (2, .int x2), (3, .int x3), (4, .int x4), (5, .int x5)] [] (mX11_primary_65 k46 n S x2 x3 x4 x5) := by
  intro n
  induction n with
  | zero => intro S x2 x3 x4 x5; exact j_none
  | succ n ih =>
    intro S x2 x3 x4 x5
    rw [mX11_primary_65]
    refine j_iload C 4 rfl dX11_primary_65 ?_
    refine j_aload_n C 0 rfl dX11_primary_67 rfl ?_
    refine j_getI C fl_X11_195 sh_0 rfl rfl dX11_primary_68 ?_
    refine j_icmp_ge C 134 dX11_primary_71 (by decide) ?_ ?_
    · refine j_iinc C (xs2 := fun v1 => [(0, .ref (gad g 0)), (2, .int x2), (3, .int x3), (4, .int v1), (5, .int x5)]) 3 rfl dX11_primary_134 (by decide) (by decide) (fun _ => rfl) (fun v1 => ?_)
      refine j_goto C 46 dX11_primary_137 (by decide) ?_
      refine j_sub (xs1 := [(0, .ref (gad g 0)), (2, .int x2), (3, .int x3), (4, .int v1)]) [0, 1, 2, 3] rfl ?_
      exact hk46 S x2 x3 v1
    · refine j_aload_n C 0 rfl dX11_primary_74 rfl ?_
      refine j_getR C (x := 4) fl_X11_19 sh_0 rfl rfl dX11_primary_75 ?_
      refine j_iload C 3 rfl dX11_primary_78 ?_
      refine j_aload_n C 0 rfl dX11_primary_80 rfl ?_
      refine j_getR C (x := 4) fl_X11_19 sh_0 rfl rfl dX11_primary_81 ?_
      refine j_iload C 3 rfl dX11_primary_84 ?_
      refine j_zald C sh_4 rfl dX11_primary_86 (fun j2 => ?_)
      refine j_if_eq C 126 dX11_primary_87 (by decide) ?_ ?_
      · exact wX11_primary_126 C k46 hk46 (mX11_primary_65 k46 n) ih S x2 x3 x4 x5 x4
      · refine j_aload_n C 0 rfl dX11_primary_90 rfl ?_
        refine j_getR C (x := 9) fl_X11_35 sh_0 rfl rfl dX11_primary_91 ?_
        refine j_iload C 4 rfl dX11_primary_94 ?_
        refine j_iald C sh_9 rfl dX11_primary_96 (fun j3 => ?_)
        refine j_callSi C [.int (gA S 9 j3)] [.int x4, .ref (gad g 4)] ms_X11_154 (fun _ h => ctX11_support h) ⟨(Nat.le_of_ble_eq_true rfl), (Nat.le_of_ble_eq_true rfl)⟩ (Nat.le_of_ble_eq_true rfl) dX11_primary_97 rfl (fun r4 => ?_)
        refine j_iload_n C 1 rfl dX11_primary_100 rfl ?_
        refine j_icmp_ne C 122 dX11_primary_101 (by decide) ?_ ?_
        · exact wX11_primary_122 C k46 hk46 (mX11_primary_65 k46 n) ih S x2 x3 x4 x5 x4
        · refine j_aload_n C 0 rfl dX11_primary_104 rfl ?_
          refine j_getR C (x := 9) fl_X11_35 sh_0 rfl rfl dX11_primary_105 ?_
          refine j_iload C 4 rfl dX11_primary_108 ?_
          refine j_iald C sh_9 rfl dX11_primary_110 (fun j5 => ?_)
          refine j_iload C 3 rfl dX11_primary_111 ?_
          refine j_callSi C [.int x4] [.int (gA S 9 j5), .int x4, .ref (gad g 4)] ms_X11_93 (fun _ h => ctX11_codeAt h) ⟨(Nat.le_of_ble_eq_true rfl), (Nat.le_of_ble_eq_true rfl)⟩ (Nat.le_of_ble_eq_true rfl) dX11_primary_113 rfl (fun r6 => ?_)
          refine j_callSi C [.int (gA S 9 j5), .int r6] [.int x4, .ref (gad g 4)] ms_X11_215 (fun _ h => ctX11_isInPart h) ⟨(Nat.le_of_ble_eq_true rfl), (Nat.le_of_ble_eq_true rfl)⟩ (Nat.le_of_ble_eq_true rfl) dX11_primary_116 rfl (fun r7 => ?_)
          refine j_if_eq C 126 dX11_primary_119 (by decide) ?_ ?_
          · exact wX11_primary_126 C k46 hk46 (mX11_primary_65 k46 n) ih S x2 x3 x4 x5 x4
          · exact wX11_primary_122 C k46 hk46 (mX11_primary_65 k46 n) ih S x2 x3 x4 x5 x4
def mX11_primary_46 : Nat → St → Int32 → Int32 → Int32 → Option (Int32 × St)
  | 0, _, _, _, _ => none
  | n + 1, S, x2, x3, x4 => if 2401 ≤ x4 then ((mX11_keep S x3).bind fun r1 => some (r1.1, r1.2))
  else (inb 2401 x4 fun j2 => mX11_primary_65 (mX11_primary_46 n) FU (sA S 4 j2 1) x2 x3 x4 0)
theorem wX11_primary_46 {κ : KT} {g : GT} (C : CX κ g RX11 cX11_primary 6 (some .int) 7 155) : ∀ (n : Nat) (S : St) (x2 : Int32) (x3 : Int32) (x4 : Int32), J κ g 6 (fun a : Int32 × St => (some (Value.int a.1), a.2)) S 46 [(0, .ref (gad g 0)), (2, .int x2), (3, .int x3), (4, .int x4)] [] (mX11_primary_46 n S x2 x3 x4) := by
  intro n
  induction n with
  | zero => intro S x2 x3 x4; exact j_none
  | succ n ih =>
    intro S x2 x3 x4
    rw [mX11_primary_46]
    refine j_iload C 3 rfl dX11_primary_46 ?_
    refine j_sipush C (v := 2401) (by decide) dX11_primary_48 ?_
    refine j_icmp_ge C 140 dX11_primary_51 (by decide) ?_ ?_
    · refine j_aload_n C 0 rfl dX11_primary_140 rfl ?_
      refine j_iload_n C 2 rfl dX11_primary_141 rfl ?_
      refine j_callViS C [.int x3] [] mv_X11_142 sh_0 rfl rfl (fun _ h => ctX11_keep h) ⟨(Nat.le_of_ble_eq_true rfl), (Nat.le_of_ble_eq_true rfl)⟩ (Nat.le_of_ble_eq_true rfl) dX11_primary_142 rfl (fun r1 => ?_)
      exact j_iret C rfl dX11_primary_145
    · refine j_aload_n C 0 rfl dX11_primary_54 rfl ?_
      refine j_getR C (x := 4) fl_X11_19 sh_0 rfl rfl dX11_primary_55 ?_
      refine j_iload C 3 rfl dX11_primary_58 ?_
      refine j_iconst C (v := 1) (by decide) dX11_primary_60 ?_
      refine j_zast C sh_4 rfl (by decide) dX11_primary_61 (fun j2 => ?_)
      refine j_iconst C (v := 0) (by decide) dX11_primary_62 ?_
      refine j_istore C (xs1 := [(0, .ref (gad g 0)), (2, .int x2), (3, .int x3), (4, .int x4), (5, .int 0)]) dX11_primary_63 (by decide) rfl ?_
      exact wX11_primary_65 C (mX11_primary_46 n) ih FU (sA S 4 j2 1) x2 x3 x4 0
def mX11_primary (S : St) (a0 : Int32) (a1 : Int32) (a2 : Int32) : Option (Int32 × St) := (mX11_isIdeal a0).bind fun r1 => if r1 = 0 then (some ((-1), S))
  else ((mX11_isIdeal a2).bind fun r2 => if r2 = 0 then (some ((-1), S))
  else ((mX11_in a1.toInt64 0 15).bind fun r3 => if r3 = 0 then (some ((-3), S))
  else ((mX11_primesOf S a0).bind fun r4 => if ((r4.1 >>> (a1 &&& 31)) &&& 1) = 0 then (some ((-3), r4.2))
  else (mX11_primary_46 FU r4.2 a1 a2 0))))
theorem wX11_primary {κ : KT} {g : GT} (C : CX κ g RX11 cX11_primary 6 (some .int) 7 155) (S : St) (a0 : Int32) (a1 : Int32) (a2 : Int32) : J κ g 6 (fun a : Int32 × St => (some (Value.int a.1), a.2)) S 0 [(0, .ref (gad g 0)), (1, .int a0), (2, .int a1), (3, .int a2)] [] (mX11_primary S a0 a1 a2) := by
  unfold mX11_primary
  refine j_iload_n C 1 rfl dX11_primary_0 rfl ?_
  refine j_callSi C [.int a0] [] ms_X11_128 (fun _ h => ctX11_isIdeal h) ⟨(Nat.le_of_ble_eq_true rfl), (Nat.le_of_ble_eq_true rfl)⟩ (Nat.le_of_ble_eq_true rfl) dX11_primary_1 rfl (fun r1 => ?_)
  refine j_if_eq C 14 dX11_primary_4 (by decide) ?_ ?_
  · refine j_iconst C (v := (-1)) (by decide) dX11_primary_14 ?_
    exact j_iret C rfl dX11_primary_15
  · refine j_iload_n C 3 rfl dX11_primary_7 rfl ?_
    refine j_callSi C [.int a2] [] ms_X11_128 (fun _ h => ctX11_isIdeal h) ⟨(Nat.le_of_ble_eq_true rfl), (Nat.le_of_ble_eq_true rfl)⟩ (Nat.le_of_ble_eq_true rfl) dX11_primary_8 rfl (fun r2 => ?_)
    refine j_if_ne C 16 dX11_primary_11 (by decide) ?_ ?_
    · refine j_iload_n C 2 rfl dX11_primary_16 rfl ?_
      refine j_i2l C dX11_primary_17 ?_
      refine j_lconst C (v := 0) (by decide) dX11_primary_18 ?_
      refine j_ldc2 C (v := 15) wd_997 dX11_primary_19 ?_
      refine j_callSi C [.long a1.toInt64, .long 0, .long 15] [] ms_X11_64 (fun _ h => ctX11_in h) ⟨(Nat.le_of_ble_eq_true rfl), (Nat.le_of_ble_eq_true rfl)⟩ (Nat.le_of_ble_eq_true rfl) dX11_primary_22 rfl (fun r3 => ?_)
      refine j_if_eq C 40 dX11_primary_25 (by decide) ?_ ?_
      · refine j_bipush C (v := (-3)) (by decide) dX11_primary_40 ?_
        exact j_iret C rfl dX11_primary_42
      · refine j_aload_n C 0 rfl dX11_primary_28 rfl ?_
        refine j_iload_n C 1 rfl dX11_primary_29 rfl ?_
        refine j_callViS C [.int a0] [] mv_X11_210 sh_0 rfl rfl (fun _ h => ctX11_primesOf h) ⟨(Nat.le_of_ble_eq_true rfl), (Nat.le_of_ble_eq_true rfl)⟩ (Nat.le_of_ble_eq_true rfl) dX11_primary_30 rfl (fun r4 => ?_)
        refine j_iload_n C 2 rfl dX11_primary_33 rfl ?_
        refine j_ishr C dX11_primary_34 ?_
        refine j_iconst C (v := 1) (by decide) dX11_primary_35 ?_
        refine j_iand C dX11_primary_36 ?_
        refine j_if_ne C 43 dX11_primary_37 (by decide) ?_ ?_
        · refine j_iconst C (v := 0) (by decide) dX11_primary_43 ?_
          refine j_istore C (xs1 := [(0, .ref (gad g 0)), (1, .int a0), (2, .int a1), (3, .int a2), (4, .int 0)]) dX11_primary_44 (by decide) rfl ?_
          refine j_sub (xs1 := [(0, .ref (gad g 0)), (2, .int a1), (3, .int a2), (4, .int 0)]) [0, 2, 3, 4] rfl ?_
          exact wX11_primary_46 C FU r4.2 a1 a2 0
        · refine j_bipush C (v := (-3)) (by decide) dX11_primary_40 ?_
          exact j_iret C rfl dX11_primary_42
    · refine j_iconst C (v := (-1)) (by decide) dX11_primary_14 ?_
      exact j_iret C rfl dX11_primary_15
theorem ctX11_primary {l : Launch} {g : GT} {S : St} {a0 : Int32} {a1 : Int32} {a2 : Int32} {out : Int32 × St} (ho : mX11_primary S a0 a1 a2 = some out) : CT l yX11_primary cX11_primary 6 (some .int) 7 155 [.ref (gad g 0), .int a0, .int a1, .int a2] g S ((fun a : Int32 × St => (some (Value.int a.1), a.2)) out) := CT_of (φ := (fun a : Int32 × St => (some (Value.int a.1), a.2))) [.ref (gad g 0), .int a0, .int a1, .int a2] ho (by decide) (Nat.le_of_ble_eq_true rfl) (xs := [(0, .ref (gad g 0)), (1, .int a0), (2, .int a1), (3, .int a2)]) rfl (fun κ C => wX11_primary C S a0 a1 a2)
/-! StairIdealsModel.dualBy(II)I -/
def mX11_dualBy_40 (k4 : Int32 → Int32 → Int32 → Int32 → Option (Int32)) (x0 : Int32) (x1 : Int32) (x3 : Int32) (s0 : Int32) (s1 : Int32) : Option (Int32) := bnd (s1 + s0) fun v1 => bnd (x3 + 1) fun v2 => k4 x0 x1 v1 v2
theorem wX11_dualBy_40 {κ : KT} {g : GT} (C : CX κ g RX11 cX11_dualBy 4 (some .int) 2 41) (S : St) (k4 : Int32 → Int32 → Int32 → Int32 → Option (Int32)) (hk4 : ∀ (x0 : Int32) (x1 : Int32) (x2 : Int32) (x3 : Int32), J κ g 4 (fun a : Int32 => (some (Value.int a), S)) S 4 [(0, .int x0), (1, .int x1), (2, .int x2), (3, .int x3)] [] (k4 x0 x1 x2 x3)) (x0 : Int32) (x1 : Int32) (x3 : Int32) (s0 : Int32) (s1 : Int32) : J κ g 4 (fun a : Int32 => (some (Value.int a), S)) S 40 [(0, .int x0), (1, .int x1), (3, .int x3)] [.int s0, .int s1] (mX11_dualBy_40 k4 x0 x1 x3 s0 s1) := by
  unfold mX11_dualBy_40
  refine j_iadd C dX11_dualBy_40 ?_
  refine j_topi (fun v1 => ?_)
  refine j_istore_n C (xs1 := [(0, .int x0), (1, .int x1), (2, .int v1), (3, .int x3)]) dX11_dualBy_41 rfl (by decide) rfl ?_
  refine j_iinc C (xs2 := fun v2 => [(0, .int x0), (1, .int x1), (2, .int v1), (3, .int v2)]) 3 rfl dX11_dualBy_42 (by decide) (by decide) (fun _ => rfl) (fun v2 => ?_)
  refine j_goto C 4 dX11_dualBy_45 (by decide) ?_
  exact hk4 x0 x1 v1 v2
def mX11_dualBy_4 : Nat → Int32 → Int32 → Int32 → Int32 → Option (Int32)
  | 0, _, _, _, _ => none
  | n + 1, x0, x1, x2, x3 => if 4 ≤ x3 then (some x2)
  else ((mX11_power x0 x3).bind fun r1 => if r1 = 0 then (mX11_dualBy_40 (mX11_dualBy_4 n) x0 x1 x3 0 x2)
  else ((mX11_ten x3).bind fun r2 => (mX11_power x1 x3).bind fun r3 => (mX11_power x0 x3).bind fun r4 => mX11_dualBy_40 (mX11_dualBy_4 n) x0 x1 x3 (r2 * ((r3 + 1) - r4)) x2))
theorem wX11_dualBy_4 {κ : KT} {g : GT} (C : CX κ g RX11 cX11_dualBy 4 (some .int) 2 41) (S : St) : ∀ (n : Nat) (x0 : Int32) (x1 : Int32) (x2 : Int32) (x3 : Int32), J κ g 4 (fun a : Int32 => (some (Value.int a), S)) S 4 [(0, .int x0), (1, .int x1), (2, .int x2), (3, .int x3)] [] (mX11_dualBy_4 n x0 x1 x2 x3) := by
  intro n
  induction n with
  | zero => intro x0 x1 x2 x3; exact j_none
  | succ n ih =>
    intro x0 x1 x2 x3
    rw [mX11_dualBy_4]
    refine j_iload_n C 3 rfl dX11_dualBy_4 rfl ?_
    refine j_iconst C (v := 4) (by decide) dX11_dualBy_5 ?_
    refine j_icmp_ge C 48 dX11_dualBy_6 (by decide) ?_ ?_
    · refine j_iload_n C 2 rfl dX11_dualBy_48 rfl ?_
      exact j_iret C rfl dX11_dualBy_49
    · refine j_iload_n C 2 rfl dX11_dualBy_9 rfl ?_
      refine j_iload_n C 0 rfl dX11_dualBy_10 rfl ?_
      refine j_iload_n C 3 rfl dX11_dualBy_11 rfl ?_
      refine j_callSi C [.int x0, .int x3] [.int x2] ms_X11_76 (fun _ h => ctX11_power h) ⟨(Nat.le_of_ble_eq_true rfl), (Nat.le_of_ble_eq_true rfl)⟩ (Nat.le_of_ble_eq_true rfl) dX11_dualBy_12 rfl (fun r1 => ?_)
      refine j_if_ne C 22 dX11_dualBy_15 (by decide) ?_ ?_
      · refine j_iload_n C 3 rfl dX11_dualBy_22 rfl ?_
        refine j_callSi C [.int x3] [.int x2] ms_X11_70 (fun _ h => ctX11_ten h) ⟨(Nat.le_of_ble_eq_true rfl), (Nat.le_of_ble_eq_true rfl)⟩ (Nat.le_of_ble_eq_true rfl) dX11_dualBy_23 rfl (fun r2 => ?_)
        refine j_iload_n C 1 rfl dX11_dualBy_26 rfl ?_
        refine j_iload_n C 3 rfl dX11_dualBy_27 rfl ?_
        refine j_callSi C [.int x1, .int x3] [.int r2, .int x2] ms_X11_76 (fun _ h => ctX11_power h) ⟨(Nat.le_of_ble_eq_true rfl), (Nat.le_of_ble_eq_true rfl)⟩ (Nat.le_of_ble_eq_true rfl) dX11_dualBy_28 rfl (fun r3 => ?_)
        refine j_iconst C (v := 1) (by decide) dX11_dualBy_31 ?_
        refine j_iadd C dX11_dualBy_32 ?_
        refine j_iload_n C 0 rfl dX11_dualBy_33 rfl ?_
        refine j_iload_n C 3 rfl dX11_dualBy_34 rfl ?_
        refine j_callSi C [.int x0, .int x3] [.int (r3 + 1), .int r2, .int x2] ms_X11_76 (fun _ h => ctX11_power h) ⟨(Nat.le_of_ble_eq_true rfl), (Nat.le_of_ble_eq_true rfl)⟩ (Nat.le_of_ble_eq_true rfl) dX11_dualBy_35 rfl (fun r4 => ?_)
        refine j_isub C dX11_dualBy_38 ?_
        refine j_imul C dX11_dualBy_39 ?_
        refine j_sub (xs1 := [(0, .int x0), (1, .int x1), (3, .int x3)]) [0, 1, 3] rfl ?_
        exact wX11_dualBy_40 C S (mX11_dualBy_4 n) ih x0 x1 x3 (r2 * ((r3 + 1) - r4)) x2
      · refine j_iconst C (v := 0) (by decide) dX11_dualBy_18 ?_
        refine j_goto C 40 dX11_dualBy_19 (by decide) ?_
        refine j_sub (xs1 := [(0, .int x0), (1, .int x1), (3, .int x3)]) [0, 1, 3] rfl ?_
        exact wX11_dualBy_40 C S (mX11_dualBy_4 n) ih x0 x1 x3 0 x2
def mX11_dualBy (a0 : Int32) (a1 : Int32) : Option (Int32) := mX11_dualBy_4 FU a0 a1 0 0
theorem wX11_dualBy {κ : KT} {g : GT} (C : CX κ g RX11 cX11_dualBy 4 (some .int) 2 41) (S : St) (a0 : Int32) (a1 : Int32) : J κ g 4 (fun a : Int32 => (some (Value.int a), S)) S 0 [(0, .int a0), (1, .int a1)] [] (mX11_dualBy a0 a1) := by
  unfold mX11_dualBy
  refine j_iconst C (v := 0) (by decide) dX11_dualBy_0 ?_
  refine j_istore_n C (xs1 := [(0, .int a0), (1, .int a1), (2, .int 0)]) dX11_dualBy_1 rfl (by decide) rfl ?_
  refine j_iconst C (v := 0) (by decide) dX11_dualBy_2 ?_
  refine j_istore_n C (xs1 := [(0, .int a0), (1, .int a1), (2, .int 0), (3, .int 0)]) dX11_dualBy_3 rfl (by decide) rfl ?_
  exact wX11_dualBy_4 C S FU a0 a1 0 0
theorem ctX11_dualBy {l : Launch} {g : GT} {S : St} {a0 : Int32} {a1 : Int32} {out : Int32} (ho : mX11_dualBy a0 a1 = some out) : CT l yX11_dualBy cX11_dualBy 4 (some .int) 2 41 [.int a0, .int a1] g S ((fun a : Int32 => (some (Value.int a), S)) out) := CT_of (φ := (fun a : Int32 => (some (Value.int a), S))) [.int a0, .int a1] ho (by decide) (Nat.le_of_ble_eq_true rfl) (xs := [(0, .int a0), (1, .int a1)]) rfl (fun κ C => wX11_dualBy C S a0 a1)
/-! StairIdealsModel.dual(III)I -/
def mX11_dual_75 : Nat → St → Int32 → Int32 → Int32 → Option (Int32 × St)
  | 0, _, _, _, _ => none
  | n + 1, S, x2, x3, x4 => if (gI S 0 13) ≤ x4 then ((mX11_keep S x3).bind fun r1 => some (r1.1, r1.2))
  else (inb 2401 x4 fun j2 => (mX11_dualBy (gA S 9 j2) x2).bind fun r3 => (mX11_markAbove S r3).bind fun r4 => bnd (x4 + 1) fun v5 => mX11_dual_75 n r4 x2 x3 v5)
theorem wX11_dual_75 {κ : KT} {g : GT} (C : CX κ g RX11 cX11_dual 5 (some .int) 6 132) : ∀ (n : Nat) (S : St) (x2 : Int32) (x3 : Int32) (x4 : Int32), J κ g 5 (fun a : Int32 × St => (some (Value.int a.1), a.2)) S 75 [(0, .ref (gad g 0)), (2, .int x2), (3, .int x3), (4, .int x4)] [] (mX11_dual_75 n S x2 x3 x4) := by
  intro n
  induction n with
  | zero => intro S x2 x3 x4; exact j_none
  | succ n ih =>
    intro S x2 x3 x4
    rw [mX11_dual_75]
    refine j_iload C 3 rfl dX11_dual_75 ?_
    refine j_aload_n C 0 rfl dX11_dual_77 rfl ?_
    refine j_getI C fl_X11_195 sh_0 rfl rfl dX11_dual_78 ?_
    refine j_icmp_ge C 105 dX11_dual_81 (by decide) ?_ ?_
    · refine j_aload_n C 0 rfl dX11_dual_105 rfl ?_
      refine j_iload_n C 2 rfl dX11_dual_106 rfl ?_
      refine j_callViS C [.int x3] [] mv_X11_142 sh_0 rfl rfl (fun _ h => ctX11_keep h) ⟨(Nat.le_of_ble_eq_true rfl), (Nat.le_of_ble_eq_true rfl)⟩ (Nat.le_of_ble_eq_true rfl) dX11_dual_107 rfl (fun r1 => ?_)
      exact j_iret C rfl dX11_dual_110
    · refine j_aload_n C 0 rfl dX11_dual_84 rfl ?_
      refine j_aload_n C 0 rfl dX11_dual_85 rfl ?_
      refine j_getR C (x := 9) fl_X11_35 sh_0 rfl rfl dX11_dual_86 ?_
      refine j_iload C 3 rfl dX11_dual_89 ?_
      refine j_iald C sh_9 rfl dX11_dual_91 (fun j2 => ?_)
      refine j_iload_n C 1 rfl dX11_dual_92 rfl ?_
      refine j_callSi C [.int (gA S 9 j2), .int x2] [.ref (gad g 0)] ms_X11_218 (fun _ h => ctX11_dualBy h) ⟨(Nat.le_of_ble_eq_true rfl), (Nat.le_of_ble_eq_true rfl)⟩ (Nat.le_of_ble_eq_true rfl) dX11_dual_93 rfl (fun r3 => ?_)
      refine j_callVvS C [.int r3] [] mv_X11_138 sh_0 rfl rfl (fun _ h => ctX11_markAbove h) ⟨(Nat.le_of_ble_eq_true rfl), (Nat.le_of_ble_eq_true rfl)⟩ (Nat.le_of_ble_eq_true rfl) dX11_dual_96 rfl (fun r4 => ?_)
      refine j_iinc C (xs2 := fun v5 => [(0, .ref (gad g 0)), (2, .int x2), (3, .int x3), (4, .int v5)]) 3 rfl dX11_dual_99 (by decide) (by decide) (fun _ => rfl) (fun v5 => ?_)
      refine j_goto C 75 dX11_dual_102 (by decide) ?_
      exact ih r4 x2 x3 v5
def mX11_dual_29 : Nat → St → Int32 → Int32 → Int32 → Int32 → Option (Int32 × St)
  | 0, _, _, _, _, _ => none
  | n + 1, S, x1, x2, x3, x4 => inb 16 x1 fun j1 => if (gA S 2 j1) ≤ x4 then ((mX11_findParts S x1).bind fun r2 => (mX11_clear r2).bind fun r3 => mX11_dual_75 FU r3 x2 x3 0)
  else ((mX11_at S x1 x4).bind fun r4 => (mX11_divides r4 x2).bind fun r5 => if r5 = 0 then (some ((-3), S))
  else (bnd (x4 + 1) fun v6 => mX11_dual_29 n S x1 x2 x3 v6))
theorem wX11_dual_29 {κ : KT} {g : GT} (C : CX κ g RX11 cX11_dual 5 (some .int) 6 132) : ∀ (n : Nat) (S : St) (x1 : Int32) (x2 : Int32) (x3 : Int32) (x4 : Int32), J κ g 5 (fun a : Int32 × St => (some (Value.int a.1), a.2)) S 29 [(0, .ref (gad g 0)), (1, .int x1), (2, .int x2), (3, .int x3), (4, .int x4)] [] (mX11_dual_29 n S x1 x2 x3 x4) := by
  intro n
  induction n with
  | zero => intro S x1 x2 x3 x4; exact j_none
  | succ n ih =>
    intro S x1 x2 x3 x4
    rw [mX11_dual_29]
    refine j_iload C 4 rfl dX11_dual_29 ?_
    refine j_aload_n C 0 rfl dX11_dual_31 rfl ?_
    refine j_getR C (x := 2) fl_X11_13 sh_0 rfl rfl dX11_dual_32 ?_
    refine j_iload_n C 1 rfl dX11_dual_35 rfl ?_
    refine j_iald C sh_2 rfl dX11_dual_36 (fun j1 => ?_)
    refine j_icmp_ge C 63 dX11_dual_37 (by decide) ?_ ?_
    · refine j_aload_n C 0 rfl dX11_dual_63 rfl ?_
      refine j_iload_n C 1 rfl dX11_dual_64 rfl ?_
      refine j_callVvS C [.int x1] [] mv_X11_207 sh_0 rfl rfl (fun _ h => ctX11_findParts h) ⟨(Nat.le_of_ble_eq_true rfl), (Nat.le_of_ble_eq_true rfl)⟩ (Nat.le_of_ble_eq_true rfl) dX11_dual_65 rfl (fun r2 => ?_)
      refine j_aload_n C 0 rfl dX11_dual_68 rfl ?_
      refine j_callVvS C [] [] mv_X11_135 sh_0 rfl rfl (fun _ h => ctX11_clear h) ⟨(Nat.le_of_ble_eq_true rfl), (Nat.le_of_ble_eq_true rfl)⟩ (Nat.le_of_ble_eq_true rfl) dX11_dual_69 rfl (fun r3 => ?_)
      refine j_iconst C (v := 0) (by decide) dX11_dual_72 ?_
      refine j_istore C (xs1 := [(0, .ref (gad g 0)), (1, .int x1), (2, .int x2), (3, .int x3), (4, .int 0)]) dX11_dual_73 (by decide) rfl ?_
      refine j_sub (xs1 := [(0, .ref (gad g 0)), (2, .int x2), (3, .int x3), (4, .int 0)]) [0, 2, 3, 4] rfl ?_
      exact wX11_dual_75 C FU r3 x2 x3 0
    · refine j_aload_n C 0 rfl dX11_dual_40 rfl ?_
      refine j_iload_n C 1 rfl dX11_dual_41 rfl ?_
      refine j_iload C 4 rfl dX11_dual_42 ?_
      refine j_callVi C [.int x1, .int x4] [] mv_X11_86 sh_0 rfl rfl (fun _ h => ctX11_at h) ⟨(Nat.le_of_ble_eq_true rfl), (Nat.le_of_ble_eq_true rfl)⟩ (Nat.le_of_ble_eq_true rfl) dX11_dual_44 rfl (fun r4 => ?_)
      refine j_iload_n C 2 rfl dX11_dual_47 rfl ?_
      refine j_callSi C [.int r4, .int x2] [] ms_X11_89 (fun _ h => ctX11_divides h) ⟨(Nat.le_of_ble_eq_true rfl), (Nat.le_of_ble_eq_true rfl)⟩ (Nat.le_of_ble_eq_true rfl) dX11_dual_48 rfl (fun r5 => ?_)
      refine j_if_ne C 57 dX11_dual_51 (by decide) ?_ ?_
      · refine j_iinc C (xs2 := fun v6 => [(0, .ref (gad g 0)), (1, .int x1), (2, .int x2), (3, .int x3), (4, .int v6)]) 4 rfl dX11_dual_57 (by decide) (by decide) (fun _ => rfl) (fun v6 => ?_)
        refine j_goto C 29 dX11_dual_60 (by decide) ?_
        exact ih S x1 x2 x3 v6
      · refine j_bipush C (v := (-3)) (by decide) dX11_dual_54 ?_
        exact j_iret C rfl dX11_dual_56
def mX11_dual (S : St) (a0 : Int32) (a1 : Int32) (a2 : Int32) : Option (Int32 × St) := (mX11_isIdeal a0).bind fun r1 => if r1 = 0 then (some ((-1), S))
  else ((mX11_isIdeal a2).bind fun r2 => if r2 = 0 then (some ((-1), S))
  else ((mX11_isCode a1).bind fun r3 => if r3 = 0 then (some ((-2), S))
  else (mX11_dual_29 FU S a0 a1 a2 0)))
theorem wX11_dual {κ : KT} {g : GT} (C : CX κ g RX11 cX11_dual 5 (some .int) 6 132) (S : St) (a0 : Int32) (a1 : Int32) (a2 : Int32) : J κ g 5 (fun a : Int32 × St => (some (Value.int a.1), a.2)) S 0 [(0, .ref (gad g 0)), (1, .int a0), (2, .int a1), (3, .int a2)] [] (mX11_dual S a0 a1 a2) := by
  unfold mX11_dual
  refine j_iload_n C 1 rfl dX11_dual_0 rfl ?_
  refine j_callSi C [.int a0] [] ms_X11_128 (fun _ h => ctX11_isIdeal h) ⟨(Nat.le_of_ble_eq_true rfl), (Nat.le_of_ble_eq_true rfl)⟩ (Nat.le_of_ble_eq_true rfl) dX11_dual_1 rfl (fun r1 => ?_)
  refine j_if_eq C 14 dX11_dual_4 (by decide) ?_ ?_
  · refine j_iconst C (v := (-1)) (by decide) dX11_dual_14 ?_
    exact j_iret C rfl dX11_dual_15
  · refine j_iload_n C 3 rfl dX11_dual_7 rfl ?_
    refine j_callSi C [.int a2] [] ms_X11_128 (fun _ h => ctX11_isIdeal h) ⟨(Nat.le_of_ble_eq_true rfl), (Nat.le_of_ble_eq_true rfl)⟩ (Nat.le_of_ble_eq_true rfl) dX11_dual_8 rfl (fun r2 => ?_)
    refine j_if_ne C 16 dX11_dual_11 (by decide) ?_ ?_
    · refine j_iload_n C 2 rfl dX11_dual_16 rfl ?_
      refine j_callSi C [.int a1] [] ms_X11_145 (fun _ h => ctX11_isCode h) ⟨(Nat.le_of_ble_eq_true rfl), (Nat.le_of_ble_eq_true rfl)⟩ (Nat.le_of_ble_eq_true rfl) dX11_dual_17 rfl (fun r3 => ?_)
      refine j_if_ne C 26 dX11_dual_20 (by decide) ?_ ?_
      · refine j_iconst C (v := 0) (by decide) dX11_dual_26 ?_
        refine j_istore C (xs1 := [(0, .ref (gad g 0)), (1, .int a0), (2, .int a1), (3, .int a2), (4, .int 0)]) dX11_dual_27 (by decide) rfl ?_
        exact wX11_dual_29 C FU S a0 a1 a2 0
      · refine j_bipush C (v := (-2)) (by decide) dX11_dual_23 ?_
        exact j_iret C rfl dX11_dual_25
    · refine j_iconst C (v := (-1)) (by decide) dX11_dual_14 ?_
      exact j_iret C rfl dX11_dual_15
theorem ctX11_dual {l : Launch} {g : GT} {S : St} {a0 : Int32} {a1 : Int32} {a2 : Int32} {out : Int32 × St} (ho : mX11_dual S a0 a1 a2 = some out) : CT l yX11_dual cX11_dual 5 (some .int) 6 132 [.ref (gad g 0), .int a0, .int a1, .int a2] g S ((fun a : Int32 × St => (some (Value.int a.1), a.2)) out) := CT_of (φ := (fun a : Int32 × St => (some (Value.int a.1), a.2))) [.ref (gad g 0), .int a0, .int a1, .int a2] ho (by decide) (Nat.le_of_ble_eq_true rfl) (xs := [(0, .ref (gad g 0)), (1, .int a0), (2, .int a1), (3, .int a2)]) rfl (fun κ C => wX11_dual C S a0 a1 a2)
/-! StairIdealsModel.choose(II)I -/
def mX11_choose_4 : Nat → Int32 → Int32 → Int32 → Int32 → Option (Int32)
  | 0, _, _, _, _ => none
  | n + 1, x0, x1, x2, x3 => if x1 ≤ x3 then (some x2)
  else (nzg (x3 + 1) <| bnd ((x2 * (x0 - x3)) / (x3 + 1)) fun v1 => bnd (x3 + 1) fun v2 => mX11_choose_4 n x0 x1 v1 v2)
theorem wX11_choose_4 {κ : KT} {g : GT} (C : CX κ g RX11 cX11_choose 4 (some .int) 0 0) (S : St) : ∀ (n : Nat) (x0 : Int32) (x1 : Int32) (x2 : Int32) (x3 : Int32), J κ g 4 (fun a : Int32 => (some (Value.int a), S)) S 4 [(0, .int x0), (1, .int x1), (2, .int x2), (3, .int x3)] [] (mX11_choose_4 n x0 x1 x2 x3) := by
  intro n
  induction n with
  | zero => intro x0 x1 x2 x3; exact j_none
  | succ n ih =>
    intro x0 x1 x2 x3
    rw [mX11_choose_4]
    refine j_iload_n C 3 rfl dX11_choose_4 rfl ?_
    refine j_iload_n C 1 rfl dX11_choose_5 rfl ?_
    refine j_icmp_ge C 25 dX11_choose_6 (by decide) ?_ ?_
    · refine j_iload_n C 2 rfl dX11_choose_25 rfl ?_
      exact j_iret C rfl dX11_choose_26
    · refine j_iload_n C 2 rfl dX11_choose_9 rfl ?_
      refine j_iload_n C 0 rfl dX11_choose_10 rfl ?_
      refine j_iload_n C 3 rfl dX11_choose_11 rfl ?_
      refine j_isub C dX11_choose_12 ?_
      refine j_imul C dX11_choose_13 ?_
      refine j_iload_n C 3 rfl dX11_choose_14 rfl ?_
      refine j_iconst C (v := 1) (by decide) dX11_choose_15 ?_
      refine j_iadd C dX11_choose_16 ?_
      refine j_nzg (fun hz => ?_)
      refine j_idiv C hz dX11_choose_17 ?_
      refine j_topi (fun v1 => ?_)
      refine j_istore_n C (xs1 := [(0, .int x0), (1, .int x1), (2, .int v1), (3, .int x3)]) dX11_choose_18 rfl (by decide) rfl ?_
      refine j_iinc C (xs2 := fun v2 => [(0, .int x0), (1, .int x1), (2, .int v1), (3, .int v2)]) 3 rfl dX11_choose_19 (by decide) (by decide) (fun _ => rfl) (fun v2 => ?_)
      refine j_goto C 4 dX11_choose_22 (by decide) ?_
      exact ih x0 x1 v1 v2
def mX11_choose (a0 : Int32) (a1 : Int32) : Option (Int32) := mX11_choose_4 FU a0 a1 1 0
theorem wX11_choose {κ : KT} {g : GT} (C : CX κ g RX11 cX11_choose 4 (some .int) 0 0) (S : St) (a0 : Int32) (a1 : Int32) : J κ g 4 (fun a : Int32 => (some (Value.int a), S)) S 0 [(0, .int a0), (1, .int a1)] [] (mX11_choose a0 a1) := by
  unfold mX11_choose
  refine j_iconst C (v := 1) (by decide) dX11_choose_0 ?_
  refine j_istore_n C (xs1 := [(0, .int a0), (1, .int a1), (2, .int 1)]) dX11_choose_1 rfl (by decide) rfl ?_
  refine j_iconst C (v := 0) (by decide) dX11_choose_2 ?_
  refine j_istore_n C (xs1 := [(0, .int a0), (1, .int a1), (2, .int 1), (3, .int 0)]) dX11_choose_3 rfl (by decide) rfl ?_
  exact wX11_choose_4 C S FU a0 a1 1 0
theorem ctX11_choose {l : Launch} {g : GT} {S : St} {a0 : Int32} {a1 : Int32} {out : Int32} (ho : mX11_choose a0 a1 = some out) : CT l yX11_choose cX11_choose 4 (some .int) 0 0 [.int a0, .int a1] g S ((fun a : Int32 => (some (Value.int a), S)) out) := CT_of (φ := (fun a : Int32 => (some (Value.int a), S))) [.int a0, .int a1] ho (by decide) (Nat.le_of_ble_eq_true rfl) (xs := [(0, .int a0), (1, .int a1)]) rfl (fun κ C => wX11_choose C S a0 a1)
/-! StairIdealsModel.standsFor(II)I -/
def mX11_standsFor_39 (k7 : Int32 → Int32 → Int32 → Int32 → Int32 → Option (Int32)) (x0 : Int32) (x1 : Int32) (x2 : Int32) (x4 : Int32) (s0 : Int32) (s1 : Int32) : Option (Int32) := bnd (s1 + s0) fun v1 => bnd (x4 + 1) fun v2 => k7 x0 x1 x2 v1 v2
theorem wX11_standsFor_39 {κ : KT} {g : GT} (C : CX κ g RX11 cX11_standsFor 5 (some .int) 2 41) (S : St) (k7 : Int32 → Int32 → Int32 → Int32 → Int32 → Option (Int32)) (hk7 : ∀ (x0 : Int32) (x1 : Int32) (x2 : Int32) (x3 : Int32) (x4 : Int32), J κ g 5 (fun a : Int32 => (some (Value.int a), S)) S 7 [(0, .int x0), (1, .int x1), (2, .int x2), (3, .int x3), (4, .int x4)] [] (k7 x0 x1 x2 x3 x4)) (x0 : Int32) (x1 : Int32) (x2 : Int32) (x4 : Int32) (s0 : Int32) (s1 : Int32) : J κ g 5 (fun a : Int32 => (some (Value.int a), S)) S 39 [(0, .int x0), (1, .int x1), (2, .int x2), (4, .int x4)] [.int s0, .int s1] (mX11_standsFor_39 k7 x0 x1 x2 x4 s0 s1) := by
  unfold mX11_standsFor_39
  refine j_iadd C dX11_standsFor_39 ?_
  refine j_topi (fun v1 => ?_)
  refine j_istore_n C (xs1 := [(0, .int x0), (1, .int x1), (2, .int x2), (3, .int v1), (4, .int x4)]) dX11_standsFor_40 rfl (by decide) rfl ?_
  refine j_iinc C (xs2 := fun v2 => [(0, .int x0), (1, .int x1), (2, .int x2), (3, .int v1), (4, .int v2)]) 4 rfl dX11_standsFor_41 (by decide) (by decide) (fun _ => rfl) (fun v2 => ?_)
  refine j_goto C 7 dX11_standsFor_44 (by decide) ?_
  exact hk7 x0 x1 x2 v1 v2
def mX11_standsFor_7 : Nat → Int32 → Int32 → Int32 → Int32 → Int32 → Option (Int32)
  | 0, _, _, _, _, _ => none
  | n + 1, x0, x1, x2, x3, x4 => if 4 ≤ x4 then (if x3 = 0 then (if x2 = x1 then (some 1)
  else (some 0))
  else (if x2 ≤ x1 then ((mX11_choose (((x1 - x2) + x3) - 1) (x3 - 1)).bind fun r1 => some r1)
  else (some 0)))
  else ((mX11_power x0 x4).bind fun r2 => bnd (x2 + r2) fun v3 => (mX11_power x0 x4).bind fun r4 => if r4 = 6 then (mX11_standsFor_39 (mX11_standsFor_7 n) x0 x1 v3 x4 1 x3)
  else (mX11_standsFor_39 (mX11_standsFor_7 n) x0 x1 v3 x4 0 x3))
theorem wX11_standsFor_7 {κ : KT} {g : GT} (C : CX κ g RX11 cX11_standsFor 5 (some .int) 2 41) (S : St) : ∀ (n : Nat) (x0 : Int32) (x1 : Int32) (x2 : Int32) (x3 : Int32) (x4 : Int32), J κ g 5 (fun a : Int32 => (some (Value.int a), S)) S 7 [(0, .int x0), (1, .int x1), (2, .int x2), (3, .int x3), (4, .int x4)] [] (mX11_standsFor_7 n x0 x1 x2 x3 x4) := by
  intro n
  induction n with
  | zero => intro x0 x1 x2 x3 x4; exact j_none
  | succ n ih =>
    intro x0 x1 x2 x3 x4
    rw [mX11_standsFor_7]
    refine j_iload C 4 rfl dX11_standsFor_7 ?_
    refine j_iconst C (v := 4) (by decide) dX11_standsFor_9 ?_
    refine j_icmp_ge C 47 dX11_standsFor_10 (by decide) ?_ ?_
    · refine j_iload_n C 3 rfl dX11_standsFor_47 rfl ?_
      refine j_if_ne C 62 dX11_standsFor_48 (by decide) ?_ ?_
      · refine j_iload_n C 2 rfl dX11_standsFor_62 rfl ?_
        refine j_iload_n C 1 rfl dX11_standsFor_63 rfl ?_
        refine j_icmp_le C 71 dX11_standsFor_64 (by decide) ?_ ?_
        · refine j_iload_n C 1 rfl dX11_standsFor_71 rfl ?_
          refine j_iload_n C 2 rfl dX11_standsFor_72 rfl ?_
          refine j_isub C dX11_standsFor_73 ?_
          refine j_iload_n C 3 rfl dX11_standsFor_74 rfl ?_
          refine j_iadd C dX11_standsFor_75 ?_
          refine j_iconst C (v := 1) (by decide) dX11_standsFor_76 ?_
          refine j_isub C dX11_standsFor_77 ?_
          refine j_iload_n C 3 rfl dX11_standsFor_78 rfl ?_
          refine j_iconst C (v := 1) (by decide) dX11_standsFor_79 ?_
          refine j_isub C dX11_standsFor_80 ?_
          refine j_callSi C [.int (((x1 - x2) + x3) - 1), .int (x3 - 1)] [] ms_X11_221 (fun _ h => ctX11_choose h) ⟨(Nat.le_of_ble_eq_true rfl), (Nat.le_of_ble_eq_true rfl)⟩ (Nat.le_of_ble_eq_true rfl) dX11_standsFor_81 rfl (fun r1 => ?_)
          exact j_iret C rfl dX11_standsFor_84
        · refine j_iconst C (v := 0) (by decide) dX11_standsFor_67 ?_
          refine j_goto C 84 dX11_standsFor_68 (by decide) ?_
          exact j_iret C rfl dX11_standsFor_84
      · refine j_iload_n C 2 rfl dX11_standsFor_51 rfl ?_
        refine j_iload_n C 1 rfl dX11_standsFor_52 rfl ?_
        refine j_icmp_ne C 60 dX11_standsFor_53 (by decide) ?_ ?_
        · refine j_iconst C (v := 0) (by decide) dX11_standsFor_60 ?_
          exact j_iret C rfl dX11_standsFor_61
        · refine j_iconst C (v := 1) (by decide) dX11_standsFor_56 ?_
          refine j_goto C 61 dX11_standsFor_57 (by decide) ?_
          exact j_iret C rfl dX11_standsFor_61
    · refine j_iload_n C 2 rfl dX11_standsFor_13 rfl ?_
      refine j_iload_n C 0 rfl dX11_standsFor_14 rfl ?_
      refine j_iload C 4 rfl dX11_standsFor_15 ?_
      refine j_callSi C [.int x0, .int x4] [.int x2] ms_X11_76 (fun _ h => ctX11_power h) ⟨(Nat.le_of_ble_eq_true rfl), (Nat.le_of_ble_eq_true rfl)⟩ (Nat.le_of_ble_eq_true rfl) dX11_standsFor_17 rfl (fun r2 => ?_)
      refine j_iadd C dX11_standsFor_20 ?_
      refine j_topi (fun v3 => ?_)
      refine j_istore_n C (xs1 := [(0, .int x0), (1, .int x1), (2, .int v3), (3, .int x3), (4, .int x4)]) dX11_standsFor_21 rfl (by decide) rfl ?_
      refine j_iload_n C 3 rfl dX11_standsFor_22 rfl ?_
      refine j_iload_n C 0 rfl dX11_standsFor_23 rfl ?_
      refine j_iload C 4 rfl dX11_standsFor_24 ?_
      refine j_callSi C [.int x0, .int x4] [.int x3] ms_X11_76 (fun _ h => ctX11_power h) ⟨(Nat.le_of_ble_eq_true rfl), (Nat.le_of_ble_eq_true rfl)⟩ (Nat.le_of_ble_eq_true rfl) dX11_standsFor_26 rfl (fun r4 => ?_)
      refine j_bipush C (v := 6) (by decide) dX11_standsFor_29 ?_
      refine j_icmp_ne C 38 dX11_standsFor_31 (by decide) ?_ ?_
      · refine j_iconst C (v := 0) (by decide) dX11_standsFor_38 ?_
        refine j_sub (xs1 := [(0, .int x0), (1, .int x1), (2, .int v3), (4, .int x4)]) [0, 1, 2, 4] rfl ?_
        exact wX11_standsFor_39 C S (mX11_standsFor_7 n) ih x0 x1 v3 x4 0 x3
      · refine j_iconst C (v := 1) (by decide) dX11_standsFor_34 ?_
        refine j_goto C 39 dX11_standsFor_35 (by decide) ?_
        refine j_sub (xs1 := [(0, .int x0), (1, .int x1), (2, .int v3), (4, .int x4)]) [0, 1, 2, 4] rfl ?_
        exact wX11_standsFor_39 C S (mX11_standsFor_7 n) ih x0 x1 v3 x4 1 x3
def mX11_standsFor (a0 : Int32) (a1 : Int32) : Option (Int32) := mX11_standsFor_7 FU a0 a1 0 0 0
theorem wX11_standsFor {κ : KT} {g : GT} (C : CX κ g RX11 cX11_standsFor 5 (some .int) 2 41) (S : St) (a0 : Int32) (a1 : Int32) : J κ g 5 (fun a : Int32 => (some (Value.int a), S)) S 0 [(0, .int a0), (1, .int a1)] [] (mX11_standsFor a0 a1) := by
  unfold mX11_standsFor
  refine j_iconst C (v := 0) (by decide) dX11_standsFor_0 ?_
  refine j_istore_n C (xs1 := [(0, .int a0), (1, .int a1), (2, .int 0)]) dX11_standsFor_1 rfl (by decide) rfl ?_
  refine j_iconst C (v := 0) (by decide) dX11_standsFor_2 ?_
  refine j_istore_n C (xs1 := [(0, .int a0), (1, .int a1), (2, .int 0), (3, .int 0)]) dX11_standsFor_3 rfl (by decide) rfl ?_
  refine j_iconst C (v := 0) (by decide) dX11_standsFor_4 ?_
  refine j_istore C (xs1 := [(0, .int a0), (1, .int a1), (2, .int 0), (3, .int 0), (4, .int 0)]) dX11_standsFor_5 (by decide) rfl ?_
  exact wX11_standsFor_7 C S FU a0 a1 0 0 0
theorem ctX11_standsFor {l : Launch} {g : GT} {S : St} {a0 : Int32} {a1 : Int32} {out : Int32} (ho : mX11_standsFor a0 a1 = some out) : CT l yX11_standsFor cX11_standsFor 5 (some .int) 2 41 [.int a0, .int a1] g S ((fun a : Int32 => (some (Value.int a), S)) out) := CT_of (φ := (fun a : Int32 => (some (Value.int a), S))) [.int a0, .int a1] ho (by decide) (Nat.le_of_ble_eq_true rfl) (xs := [(0, .int a0), (1, .int a1)]) rfl (fun κ C => wX11_standsFor C S a0 a1)
/-! StairIdealsModel.countOf(I)I -/
def mX11_countOf_37 (S : St) (k4 : Int32 → Int32 → Int32 → Option (Int32)) (x1 : Int32) (x3 : Int32) (s0 : Int32) (s1 : Int32) : Option (Int32) := bnd (s1 + s0) fun v1 => bnd (x3 + 1) fun v2 => k4 x1 v1 v2
theorem wX11_countOf_37 {κ : KT} {g : GT} (C : CX κ g RX11 cX11_countOf 4 (some .int) 3 65) (S : St) (k4 : Int32 → Int32 → Int32 → Option (Int32)) (hk4 : ∀ (x1 : Int32) (x2 : Int32) (x3 : Int32), J κ g 4 (fun a : Int32 => (some (Value.int a), S)) S 4 [(0, .ref (gad g 0)), (1, .int x1), (2, .int x2), (3, .int x3)] [] (k4 x1 x2 x3)) (x1 : Int32) (x3 : Int32) (s0 : Int32) (s1 : Int32) : J κ g 4 (fun a : Int32 => (some (Value.int a), S)) S 37 [(0, .ref (gad g 0)), (1, .int x1), (3, .int x3)] [.int s0, .int s1] (mX11_countOf_37 S k4 x1 x3 s0 s1) := by
  unfold mX11_countOf_37
  refine j_iadd C dX11_countOf_37 ?_
  refine j_topi (fun v1 => ?_)
  refine j_istore_n C (xs1 := [(0, .ref (gad g 0)), (1, .int x1), (2, .int v1), (3, .int x3)]) dX11_countOf_38 rfl (by decide) rfl ?_
  refine j_iinc C (xs2 := fun v2 => [(0, .ref (gad g 0)), (1, .int x1), (2, .int v1), (3, .int v2)]) 3 rfl dX11_countOf_39 (by decide) (by decide) (fun _ => rfl) (fun v2 => ?_)
  refine j_goto C 4 dX11_countOf_42 (by decide) ?_
  exact hk4 x1 v1 v2
def mX11_countOf_4 (S : St) : Nat → Int32 → Int32 → Int32 → Option (Int32)
  | 0, _, _, _ => none
  | n + 1, x1, x2, x3 => if 2401 ≤ x3 then (some x2)
  else (if x1 < 0 then (some x2)
  else (inb 2401 x3 fun j1 => if (gA S 8 j1) = 0 then (mX11_countOf_37 S (mX11_countOf_4 S n) x1 x3 0 x2)
  else ((mX11_codeAt x3).bind fun r2 => (mX11_standsFor r2 x1).bind fun r3 => mX11_countOf_37 S (mX11_countOf_4 S n) x1 x3 r3 x2)))
theorem wX11_countOf_4 {κ : KT} {g : GT} (C : CX κ g RX11 cX11_countOf 4 (some .int) 3 65) (S : St) : ∀ (n : Nat) (x1 : Int32) (x2 : Int32) (x3 : Int32), J κ g 4 (fun a : Int32 => (some (Value.int a), S)) S 4 [(0, .ref (gad g 0)), (1, .int x1), (2, .int x2), (3, .int x3)] [] (mX11_countOf_4 S n x1 x2 x3) := by
  intro n
  induction n with
  | zero => intro x1 x2 x3; exact j_none
  | succ n ih =>
    intro x1 x2 x3
    rw [mX11_countOf_4]
    refine j_iload_n C 3 rfl dX11_countOf_4 rfl ?_
    refine j_sipush C (v := 2401) (by decide) dX11_countOf_5 ?_
    refine j_icmp_ge C 45 dX11_countOf_8 (by decide) ?_ ?_
    · refine j_iload_n C 2 rfl dX11_countOf_45 rfl ?_
      exact j_iret C rfl dX11_countOf_46
    · refine j_iload_n C 1 rfl dX11_countOf_11 rfl ?_
      refine j_if_lt C 45 dX11_countOf_12 (by decide) ?_ ?_
      · refine j_iload_n C 2 rfl dX11_countOf_45 rfl ?_
        exact j_iret C rfl dX11_countOf_46
      · refine j_iload_n C 2 rfl dX11_countOf_15 rfl ?_
        refine j_aload_n C 0 rfl dX11_countOf_16 rfl ?_
        refine j_getR C (x := 8) fl_X11_32 sh_0 rfl rfl dX11_countOf_17 ?_
        refine j_iload_n C 3 rfl dX11_countOf_20 rfl ?_
        refine j_zald C sh_8 rfl dX11_countOf_21 (fun j1 => ?_)
        refine j_if_eq C 36 dX11_countOf_22 (by decide) ?_ ?_
        · refine j_iconst C (v := 0) (by decide) dX11_countOf_36 ?_
          refine j_sub (xs1 := [(0, .ref (gad g 0)), (1, .int x1), (3, .int x3)]) [0, 1, 3] rfl ?_
          exact wX11_countOf_37 C S (mX11_countOf_4 S n) ih x1 x3 0 x2
        · refine j_iload_n C 3 rfl dX11_countOf_25 rfl ?_
          refine j_callSi C [.int x3] [.int x2] ms_X11_93 (fun _ h => ctX11_codeAt h) ⟨(Nat.le_of_ble_eq_true rfl), (Nat.le_of_ble_eq_true rfl)⟩ (Nat.le_of_ble_eq_true rfl) dX11_countOf_26 rfl (fun r2 => ?_)
          refine j_iload_n C 1 rfl dX11_countOf_29 rfl ?_
          refine j_callSi C [.int r2, .int x1] [.int x2] ms_X11_224 (fun _ h => ctX11_standsFor h) ⟨(Nat.le_of_ble_eq_true rfl), (Nat.le_of_ble_eq_true rfl)⟩ (Nat.le_of_ble_eq_true rfl) dX11_countOf_30 rfl (fun r3 => ?_)
          refine j_goto C 37 dX11_countOf_33 (by decide) ?_
          refine j_sub (xs1 := [(0, .ref (gad g 0)), (1, .int x1), (3, .int x3)]) [0, 1, 3] rfl ?_
          exact wX11_countOf_37 C S (mX11_countOf_4 S n) ih x1 x3 r3 x2
def mX11_countOf (S : St) (a0 : Int32) : Option (Int32) := mX11_countOf_4 S FU a0 0 0
theorem wX11_countOf {κ : KT} {g : GT} (C : CX κ g RX11 cX11_countOf 4 (some .int) 3 65) (S : St) (a0 : Int32) : J κ g 4 (fun a : Int32 => (some (Value.int a), S)) S 0 [(0, .ref (gad g 0)), (1, .int a0)] [] (mX11_countOf S a0) := by
  unfold mX11_countOf
  refine j_iconst C (v := 0) (by decide) dX11_countOf_0 ?_
  refine j_istore_n C (xs1 := [(0, .ref (gad g 0)), (1, .int a0), (2, .int 0)]) dX11_countOf_1 rfl (by decide) rfl ?_
  refine j_iconst C (v := 0) (by decide) dX11_countOf_2 ?_
  refine j_istore_n C (xs1 := [(0, .ref (gad g 0)), (1, .int a0), (2, .int 0), (3, .int 0)]) dX11_countOf_3 rfl (by decide) rfl ?_
  exact wX11_countOf_4 C S FU a0 0 0
theorem ctX11_countOf {l : Launch} {g : GT} {S : St} {a0 : Int32} {out : Int32} (ho : mX11_countOf S a0 = some out) : CT l yX11_countOf cX11_countOf 4 (some .int) 3 65 [.ref (gad g 0), .int a0] g S ((fun a : Int32 => (some (Value.int a), S)) out) := CT_of (φ := (fun a : Int32 => (some (Value.int a), S))) [.ref (gad g 0), .int a0] ho (by decide) (Nat.le_of_ble_eq_true rfl) (xs := [(0, .ref (gad g 0)), (1, .int a0)]) rfl (fun κ C => wX11_countOf C S a0)
/-! StairIdealsModel.count(II)I -/
def mX11_count (S : St) (a0 : Int32) (a1 : Int32) : Option (Int32 × St) := (mX11_isIdeal a0).bind fun r1 => if r1 = 0 then (some ((-1), S))
  else ((mX11_in a1.toInt64 0 60).bind fun r2 => if r2 = 0 then (some ((-2), S))
  else ((mX11_findStandard S a0).bind fun r3 => (mX11_countOf r3 a1).bind fun r4 => some (r4, r3)))
theorem wX11_count {κ : KT} {g : GT} (C : CX κ g RX11 cX11_count 3 (some .int) 5 110) (S : St) (a0 : Int32) (a1 : Int32) : J κ g 3 (fun a : Int32 × St => (some (Value.int a.1), a.2)) S 0 [(0, .ref (gad g 0)), (1, .int a0), (2, .int a1)] [] (mX11_count S a0 a1) := by
  unfold mX11_count
  refine j_iload_n C 1 rfl dX11_count_0 rfl ?_
  refine j_callSi C [.int a0] [] ms_X11_128 (fun _ h => ctX11_isIdeal h) ⟨(Nat.le_of_ble_eq_true rfl), (Nat.le_of_ble_eq_true rfl)⟩ (Nat.le_of_ble_eq_true rfl) dX11_count_1 rfl (fun r1 => ?_)
  refine j_if_ne C 9 dX11_count_4 (by decide) ?_ ?_
  · refine j_iload_n C 2 rfl dX11_count_9 rfl ?_
    refine j_i2l C dX11_count_10 ?_
    refine j_lconst C (v := 0) (by decide) dX11_count_11 ?_
    refine j_ldc2 C (v := 60) wd_1012 dX11_count_12 ?_
    refine j_callSi C [.long a1.toInt64, .long 0, .long 60] [] ms_X11_64 (fun _ h => ctX11_in h) ⟨(Nat.le_of_ble_eq_true rfl), (Nat.le_of_ble_eq_true rfl)⟩ (Nat.le_of_ble_eq_true rfl) dX11_count_15 rfl (fun r2 => ?_)
    refine j_if_ne C 24 dX11_count_18 (by decide) ?_ ?_
    · refine j_aload_n C 0 rfl dX11_count_24 rfl ?_
      refine j_iload_n C 1 rfl dX11_count_25 rfl ?_
      refine j_callVvS C [.int a0] [] mv_X11_192 sh_0 rfl rfl (fun _ h => ctX11_findStandard h) ⟨(Nat.le_of_ble_eq_true rfl), (Nat.le_of_ble_eq_true rfl)⟩ (Nat.le_of_ble_eq_true rfl) dX11_count_26 rfl (fun r3 => ?_)
      refine j_aload_n C 0 rfl dX11_count_29 rfl ?_
      refine j_iload_n C 2 rfl dX11_count_30 rfl ?_
      refine j_callVi C [.int a1] [] mv_X11_229 sh_0 rfl rfl (fun _ h => ctX11_countOf h) ⟨(Nat.le_of_ble_eq_true rfl), (Nat.le_of_ble_eq_true rfl)⟩ (Nat.le_of_ble_eq_true rfl) dX11_count_31 rfl (fun r4 => ?_)
      exact j_iret C rfl dX11_count_34
    · refine j_bipush C (v := (-2)) (by decide) dX11_count_21 ?_
      exact j_iret C rfl dX11_count_23
  · refine j_iconst C (v := (-1)) (by decide) dX11_count_7 ?_
    exact j_iret C rfl dX11_count_8
theorem ctX11_count {l : Launch} {g : GT} {S : St} {a0 : Int32} {a1 : Int32} {out : Int32 × St} (ho : mX11_count S a0 a1 = some out) : CT l yX11_count cX11_count 3 (some .int) 5 110 [.ref (gad g 0), .int a0, .int a1] g S ((fun a : Int32 × St => (some (Value.int a.1), a.2)) out) := CT_of (φ := (fun a : Int32 × St => (some (Value.int a.1), a.2))) [.ref (gad g 0), .int a0, .int a1] ho (by decide) (Nat.le_of_ble_eq_true rfl) (xs := [(0, .ref (gad g 0)), (1, .int a0), (2, .int a1)]) rfl (fun κ C => wX11_count C S a0 a1)
/-! StairIdealsModel.series(II)I -/
def mX11_series (S : St) (a0 : Int32) (a1 : Int32) : Option (Int32 × St) := (mX11_isIdeal a0).bind fun r1 => if r1 = 0 then (some ((-1000001), S))
  else ((mX11_in a1.toInt64 0 60).bind fun r2 => if r2 = 0 then (some ((-1000002), S))
  else ((mX11_findStandard S a0).bind fun r3 => (mX11_countOf r3 a1).bind fun r4 => (mX11_countOf r3 (a1 - 1)).bind fun r5 => (mX11_countOf r3 (a1 - 2)).bind fun r6 => (mX11_countOf r3 (a1 - 3)).bind fun r7 => (mX11_countOf r3 (a1 - 4)).bind fun r8 => some ((((r4 - (4 * r5)) + (6 * r6)) - (4 * r7)) + r8, r3)))
theorem wX11_series {κ : KT} {g : GT} (C : CX κ g RX11 cX11_series 3 (some .int) 5 110) (S : St) (a0 : Int32) (a1 : Int32) : J κ g 3 (fun a : Int32 × St => (some (Value.int a.1), a.2)) S 0 [(0, .ref (gad g 0)), (1, .int a0), (2, .int a1)] [] (mX11_series S a0 a1) := by
  unfold mX11_series
  refine j_iload_n C 1 rfl dX11_series_0 rfl ?_
  refine j_callSi C [.int a0] [] ms_X11_128 (fun _ h => ctX11_isIdeal h) ⟨(Nat.le_of_ble_eq_true rfl), (Nat.le_of_ble_eq_true rfl)⟩ (Nat.le_of_ble_eq_true rfl) dX11_series_1 rfl (fun r1 => ?_)
  refine j_if_ne C 10 dX11_series_4 (by decide) ?_ ?_
  · refine j_iload_n C 2 rfl dX11_series_10 rfl ?_
    refine j_i2l C dX11_series_11 ?_
    refine j_lconst C (v := 0) (by decide) dX11_series_12 ?_
    refine j_ldc2 C (v := 60) wd_1012 dX11_series_13 ?_
    refine j_callSi C [.long a1.toInt64, .long 0, .long 60] [] ms_X11_64 (fun _ h => ctX11_in h) ⟨(Nat.le_of_ble_eq_true rfl), (Nat.le_of_ble_eq_true rfl)⟩ (Nat.le_of_ble_eq_true rfl) dX11_series_16 rfl (fun r2 => ?_)
    refine j_if_ne C 25 dX11_series_19 (by decide) ?_ ?_
    · refine j_aload_n C 0 rfl dX11_series_25 rfl ?_
      refine j_iload_n C 1 rfl dX11_series_26 rfl ?_
      refine j_callVvS C [.int a0] [] mv_X11_192 sh_0 rfl rfl (fun _ h => ctX11_findStandard h) ⟨(Nat.le_of_ble_eq_true rfl), (Nat.le_of_ble_eq_true rfl)⟩ (Nat.le_of_ble_eq_true rfl) dX11_series_27 rfl (fun r3 => ?_)
      refine j_aload_n C 0 rfl dX11_series_30 rfl ?_
      refine j_iload_n C 2 rfl dX11_series_31 rfl ?_
      refine j_callVi C [.int a1] [] mv_X11_229 sh_0 rfl rfl (fun _ h => ctX11_countOf h) ⟨(Nat.le_of_ble_eq_true rfl), (Nat.le_of_ble_eq_true rfl)⟩ (Nat.le_of_ble_eq_true rfl) dX11_series_32 rfl (fun r4 => ?_)
      refine j_iconst C (v := 4) (by decide) dX11_series_35 ?_
      refine j_aload_n C 0 rfl dX11_series_36 rfl ?_
      refine j_iload_n C 2 rfl dX11_series_37 rfl ?_
      refine j_iconst C (v := 1) (by decide) dX11_series_38 ?_
      refine j_isub C dX11_series_39 ?_
      refine j_callVi C [.int (a1 - 1)] [.int 4, .int r4] mv_X11_229 sh_0 rfl rfl (fun _ h => ctX11_countOf h) ⟨(Nat.le_of_ble_eq_true rfl), (Nat.le_of_ble_eq_true rfl)⟩ (Nat.le_of_ble_eq_true rfl) dX11_series_40 rfl (fun r5 => ?_)
      refine j_imul C dX11_series_43 ?_
      refine j_isub C dX11_series_44 ?_
      refine j_bipush C (v := 6) (by decide) dX11_series_45 ?_
      refine j_aload_n C 0 rfl dX11_series_47 rfl ?_
      refine j_iload_n C 2 rfl dX11_series_48 rfl ?_
      refine j_iconst C (v := 2) (by decide) dX11_series_49 ?_
      refine j_isub C dX11_series_50 ?_
      refine j_callVi C [.int (a1 - 2)] [.int 6, .int (r4 - (4 * r5))] mv_X11_229 sh_0 rfl rfl (fun _ h => ctX11_countOf h) ⟨(Nat.le_of_ble_eq_true rfl), (Nat.le_of_ble_eq_true rfl)⟩ (Nat.le_of_ble_eq_true rfl) dX11_series_51 rfl (fun r6 => ?_)
      refine j_imul C dX11_series_54 ?_
      refine j_iadd C dX11_series_55 ?_
      refine j_iconst C (v := 4) (by decide) dX11_series_56 ?_
      refine j_aload_n C 0 rfl dX11_series_57 rfl ?_
      refine j_iload_n C 2 rfl dX11_series_58 rfl ?_
      refine j_iconst C (v := 3) (by decide) dX11_series_59 ?_
      refine j_isub C dX11_series_60 ?_
      refine j_callVi C [.int (a1 - 3)] [.int 4, .int ((r4 - (4 * r5)) + (6 * r6))] mv_X11_229 sh_0 rfl rfl (fun _ h => ctX11_countOf h) ⟨(Nat.le_of_ble_eq_true rfl), (Nat.le_of_ble_eq_true rfl)⟩ (Nat.le_of_ble_eq_true rfl) dX11_series_61 rfl (fun r7 => ?_)
      refine j_imul C dX11_series_64 ?_
      refine j_isub C dX11_series_65 ?_
      refine j_aload_n C 0 rfl dX11_series_66 rfl ?_
      refine j_iload_n C 2 rfl dX11_series_67 rfl ?_
      refine j_iconst C (v := 4) (by decide) dX11_series_68 ?_
      refine j_isub C dX11_series_69 ?_
      refine j_callVi C [.int (a1 - 4)] [.int (((r4 - (4 * r5)) + (6 * r6)) - (4 * r7))] mv_X11_229 sh_0 rfl rfl (fun _ h => ctX11_countOf h) ⟨(Nat.le_of_ble_eq_true rfl), (Nat.le_of_ble_eq_true rfl)⟩ (Nat.le_of_ble_eq_true rfl) dX11_series_70 rfl (fun r8 => ?_)
      refine j_iadd C dX11_series_73 ?_
      exact j_iret C rfl dX11_series_74
    · refine j_ldc C (v := (-1000002)) wd_1028 dX11_series_22 ?_
      exact j_iret C rfl dX11_series_24
  · refine j_ldc C (v := (-1000001)) wd_1027 dX11_series_7 ?_
    exact j_iret C rfl dX11_series_9
theorem ctX11_series {l : Launch} {g : GT} {S : St} {a0 : Int32} {a1 : Int32} {out : Int32 × St} (ho : mX11_series S a0 a1 = some out) : CT l yX11_series cX11_series 3 (some .int) 5 110 [.ref (gad g 0), .int a0, .int a1] g S ((fun a : Int32 × St => (some (Value.int a.1), a.2)) out) := CT_of (φ := (fun a : Int32 × St => (some (Value.int a.1), a.2))) [.ref (gad g 0), .int a0, .int a1] ho (by decide) (Nat.le_of_ble_eq_true rfl) (xs := [(0, .ref (gad g 0)), (1, .int a0), (2, .int a1)]) rfl (fun κ C => wX11_series C S a0 a1)
/-! StairIdealsModel.dimension()I -/
def mX11_dimension_5 (S : St) : Nat → Int32 → Int32 → Option (Int32)
  | 0, _, _ => none
  | n + 1, x1, x2 => if (gI S 0 13) ≤ x2 then (some x1)
  else (inb 2401 x2 fun j1 => (mX11_support (gA S 9 j1)).bind fun r2 => (mX11_ones r2).bind fun r3 => (mX11_greater x1 (4 - r3)).bind fun r4 => bnd (x2 + 1) fun v5 => mX11_dimension_5 S n r4 v5)
theorem wX11_dimension_5 {κ : KT} {g : GT} (C : CX κ g RX11 cX11_dimension 3 (some .int) 3 63) (S : St) : ∀ (n : Nat) (x1 : Int32) (x2 : Int32), J κ g 3 (fun a : Int32 => (some (Value.int a), S)) S 5 [(0, .ref (gad g 0)), (1, .int x1), (2, .int x2)] [] (mX11_dimension_5 S n x1 x2) := by
  intro n
  induction n with
  | zero => intro x1 x2; exact j_none
  | succ n ih =>
    intro x1 x2
    rw [mX11_dimension_5]
    refine j_iload_n C 2 rfl dX11_dimension_5 rfl ?_
    refine j_aload_n C 0 rfl dX11_dimension_6 rfl ?_
    refine j_getI C fl_X11_195 sh_0 rfl rfl dX11_dimension_7 ?_
    refine j_icmp_ge C 38 dX11_dimension_10 (by decide) ?_ ?_
    · refine j_iload_n C 1 rfl dX11_dimension_38 rfl ?_
      exact j_iret C rfl dX11_dimension_39
    · refine j_iload_n C 1 rfl dX11_dimension_13 rfl ?_
      refine j_iconst C (v := 4) (by decide) dX11_dimension_14 ?_
      refine j_aload_n C 0 rfl dX11_dimension_15 rfl ?_
      refine j_getR C (x := 9) fl_X11_35 sh_0 rfl rfl dX11_dimension_16 ?_
      refine j_iload_n C 2 rfl dX11_dimension_19 rfl ?_
      refine j_iald C sh_9 rfl dX11_dimension_20 (fun j1 => ?_)
      refine j_callSi C [.int (gA S 9 j1)] [.int 4, .int x1] ms_X11_154 (fun _ h => ctX11_support h) ⟨(Nat.le_of_ble_eq_true rfl), (Nat.le_of_ble_eq_true rfl)⟩ (Nat.le_of_ble_eq_true rfl) dX11_dimension_21 rfl (fun r2 => ?_)
      refine j_callSi C [.int r2] [.int 4, .int x1] ms_X11_234 (fun _ h => ctX11_ones h) ⟨(Nat.le_of_ble_eq_true rfl), (Nat.le_of_ble_eq_true rfl)⟩ (Nat.le_of_ble_eq_true rfl) dX11_dimension_24 rfl (fun r3 => ?_)
      refine j_isub C dX11_dimension_27 ?_
      refine j_callSi C [.int x1, .int (4 - r3)] [] ms_X11_80 (fun _ h => ctX11_greater h) ⟨(Nat.le_of_ble_eq_true rfl), (Nat.le_of_ble_eq_true rfl)⟩ (Nat.le_of_ble_eq_true rfl) dX11_dimension_28 rfl (fun r4 => ?_)
      refine j_istore_n C (xs1 := [(0, .ref (gad g 0)), (1, .int r4), (2, .int x2)]) dX11_dimension_31 rfl (by decide) rfl ?_
      refine j_iinc C (xs2 := fun v5 => [(0, .ref (gad g 0)), (1, .int r4), (2, .int v5)]) 2 rfl dX11_dimension_32 (by decide) (by decide) (fun _ => rfl) (fun v5 => ?_)
      refine j_goto C 5 dX11_dimension_35 (by decide) ?_
      exact ih r4 v5
def mX11_dimension (S : St) : Option (Int32) := mX11_dimension_5 S FU (-6) 0
theorem wX11_dimension {κ : KT} {g : GT} (C : CX κ g RX11 cX11_dimension 3 (some .int) 3 63) (S : St) : J κ g 3 (fun a : Int32 => (some (Value.int a), S)) S 0 [(0, .ref (gad g 0))] [] (mX11_dimension S) := by
  unfold mX11_dimension
  refine j_bipush C (v := (-6)) (by decide) dX11_dimension_0 ?_
  refine j_istore_n C (xs1 := [(0, .ref (gad g 0)), (1, .int (-6))]) dX11_dimension_2 rfl (by decide) rfl ?_
  refine j_iconst C (v := 0) (by decide) dX11_dimension_3 ?_
  refine j_istore_n C (xs1 := [(0, .ref (gad g 0)), (1, .int (-6)), (2, .int 0)]) dX11_dimension_4 rfl (by decide) rfl ?_
  exact wX11_dimension_5 C S FU (-6) 0
theorem ctX11_dimension {l : Launch} {g : GT} {S : St} {out : Int32} (ho : mX11_dimension S = some out) : CT l yX11_dimension cX11_dimension 3 (some .int) 3 63 [.ref (gad g 0)] g S ((fun a : Int32 => (some (Value.int a), S)) out) := CT_of (φ := (fun a : Int32 => (some (Value.int a), S))) [.ref (gad g 0)] ho (by decide) (Nat.le_of_ble_eq_true rfl) (xs := [(0, .ref (gad g 0))]) rfl (fun κ C => wX11_dimension C S)
/-! StairIdealsModel.sizeOf(I)I -/
def mX11_sizeOf_41 (k19 : St → Int32 → Int32 → Option (Int32 × St)) (S : St) (x3 : Int32) (s0 : Int32) (s1 : Int32) : Option (Int32 × St) := bnd (s1 + s0) fun v1 => bnd (x3 + 1) fun v2 => k19 S v1 v2
theorem wX11_sizeOf_41 {κ : KT} {g : GT} (C : CX κ g RX11 cX11_sizeOf 4 (some .int) 6 132) (k19 : St → Int32 → Int32 → Option (Int32 × St)) (hk19 : ∀ (S : St) (x2 : Int32) (x3 : Int32), J κ g 4 (fun a : Int32 × St => (some (Value.int a.1), a.2)) S 19 [(0, .ref (gad g 0)), (2, .int x2), (3, .int x3)] [] (k19 S x2 x3)) (S : St) (x3 : Int32) (s0 : Int32) (s1 : Int32) : J κ g 4 (fun a : Int32 × St => (some (Value.int a.1), a.2)) S 41 [(0, .ref (gad g 0)), (3, .int x3)] [.int s0, .int s1] (mX11_sizeOf_41 k19 S x3 s0 s1) := by
  unfold mX11_sizeOf_41
  refine j_iadd C dX11_sizeOf_41 ?_
  refine j_topi (fun v1 => ?_)
  refine j_istore_n C (xs1 := [(0, .ref (gad g 0)), (2, .int v1), (3, .int x3)]) dX11_sizeOf_42 rfl (by decide) rfl ?_
  refine j_iinc C (xs2 := fun v2 => [(0, .ref (gad g 0)), (2, .int v1), (3, .int v2)]) 2 rfl dX11_sizeOf_43 (by decide) (by decide) (fun _ => rfl) (fun v2 => ?_)
  refine j_goto C 19 dX11_sizeOf_46 (by decide) ?_
  exact hk19 S v1 v2
def mX11_sizeOf_19 : Nat → St → Int32 → Int32 → Option (Int32 × St)
  | 0, _, _, _ => none
  | n + 1, S, x2, x3 => if 2401 ≤ x3 then (some (x2, S))
  else (inb 2401 x3 fun j1 => if (gA S 8 j1) = 0 then (mX11_sizeOf_41 (mX11_sizeOf_19 n) S x3 0 x2)
  else (mX11_sizeOf_41 (mX11_sizeOf_19 n) S x3 1 x2))
theorem wX11_sizeOf_19 {κ : KT} {g : GT} (C : CX κ g RX11 cX11_sizeOf 4 (some .int) 6 132) : ∀ (n : Nat) (S : St) (x2 : Int32) (x3 : Int32), J κ g 4 (fun a : Int32 × St => (some (Value.int a.1), a.2)) S 19 [(0, .ref (gad g 0)), (2, .int x2), (3, .int x3)] [] (mX11_sizeOf_19 n S x2 x3) := by
  intro n
  induction n with
  | zero => intro S x2 x3; exact j_none
  | succ n ih =>
    intro S x2 x3
    rw [mX11_sizeOf_19]
    refine j_iload_n C 2 rfl dX11_sizeOf_19 rfl ?_
    refine j_sipush C (v := 2401) (by decide) dX11_sizeOf_20 ?_
    refine j_icmp_ge C 49 dX11_sizeOf_23 (by decide) ?_ ?_
    · refine j_iload_n C 1 rfl dX11_sizeOf_49 rfl ?_
      exact j_iret C rfl dX11_sizeOf_50
    · refine j_iload_n C 1 rfl dX11_sizeOf_26 rfl ?_
      refine j_aload_n C 0 rfl dX11_sizeOf_27 rfl ?_
      refine j_getR C (x := 8) fl_X11_32 sh_0 rfl rfl dX11_sizeOf_28 ?_
      refine j_iload_n C 2 rfl dX11_sizeOf_31 rfl ?_
      refine j_zald C sh_8 rfl dX11_sizeOf_32 (fun j1 => ?_)
      refine j_if_eq C 40 dX11_sizeOf_33 (by decide) ?_ ?_
      · refine j_iconst C (v := 0) (by decide) dX11_sizeOf_40 ?_
        refine j_sub (xs1 := [(0, .ref (gad g 0)), (3, .int x3)]) [0, 2] rfl ?_
        exact wX11_sizeOf_41 C (mX11_sizeOf_19 n) ih S x3 0 x2
      · refine j_iconst C (v := 1) (by decide) dX11_sizeOf_36 ?_
        refine j_goto C 41 dX11_sizeOf_37 (by decide) ?_
        refine j_sub (xs1 := [(0, .ref (gad g 0)), (3, .int x3)]) [0, 2] rfl ?_
        exact wX11_sizeOf_41 C (mX11_sizeOf_19 n) ih S x3 1 x2
def mX11_sizeOf (S : St) (a0 : Int32) : Option (Int32 × St) := (mX11_findParts S a0).bind fun r1 => (mX11_dimension r1).bind fun r2 => if r2 ≤ 0 then (mX11_sizeOf_19 FU r1 0 0)
  else (some ((-6), r1))
theorem wX11_sizeOf {κ : KT} {g : GT} (C : CX κ g RX11 cX11_sizeOf 4 (some .int) 6 132) (S : St) (a0 : Int32) : J κ g 4 (fun a : Int32 × St => (some (Value.int a.1), a.2)) S 0 [(0, .ref (gad g 0)), (1, .int a0)] [] (mX11_sizeOf S a0) := by
  unfold mX11_sizeOf
  refine j_aload_n C 0 rfl dX11_sizeOf_0 rfl ?_
  refine j_iload_n C 1 rfl dX11_sizeOf_1 rfl ?_
  refine j_callVvS C [.int a0] [] mv_X11_207 sh_0 rfl rfl (fun _ h => ctX11_findParts h) ⟨(Nat.le_of_ble_eq_true rfl), (Nat.le_of_ble_eq_true rfl)⟩ (Nat.le_of_ble_eq_true rfl) dX11_sizeOf_2 rfl (fun r1 => ?_)
  refine j_aload_n C 0 rfl dX11_sizeOf_5 rfl ?_
  refine j_callVi C [] [] mv_X11_237 sh_0 rfl rfl (fun _ h => ctX11_dimension h) ⟨(Nat.le_of_ble_eq_true rfl), (Nat.le_of_ble_eq_true rfl)⟩ (Nat.le_of_ble_eq_true rfl) dX11_sizeOf_6 rfl (fun r2 => ?_)
  refine j_if_le C 15 dX11_sizeOf_9 (by decide) ?_ ?_
  · refine j_iconst C (v := 0) (by decide) dX11_sizeOf_15 ?_
    refine j_istore_n C (xs1 := [(0, .ref (gad g 0)), (1, .int a0), (2, .int 0)]) dX11_sizeOf_16 rfl (by decide) rfl ?_
    refine j_iconst C (v := 0) (by decide) dX11_sizeOf_17 ?_
    refine j_istore_n C (xs1 := [(0, .ref (gad g 0)), (1, .int a0), (2, .int 0), (3, .int 0)]) dX11_sizeOf_18 rfl (by decide) rfl ?_
    refine j_sub (xs1 := [(0, .ref (gad g 0)), (2, .int 0), (3, .int 0)]) [0, 2, 3] rfl ?_
    exact wX11_sizeOf_19 C FU r1 0 0
  · refine j_bipush C (v := (-6)) (by decide) dX11_sizeOf_12 ?_
    exact j_iret C rfl dX11_sizeOf_14
theorem ctX11_sizeOf {l : Launch} {g : GT} {S : St} {a0 : Int32} {out : Int32 × St} (ho : mX11_sizeOf S a0 = some out) : CT l yX11_sizeOf cX11_sizeOf 4 (some .int) 6 132 [.ref (gad g 0), .int a0] g S ((fun a : Int32 × St => (some (Value.int a.1), a.2)) out) := CT_of (φ := (fun a : Int32 × St => (some (Value.int a.1), a.2))) [.ref (gad g 0), .int a0] ho (by decide) (Nat.le_of_ble_eq_true rfl) (xs := [(0, .ref (gad g 0)), (1, .int a0)]) rfl (fun κ C => wX11_sizeOf C S a0)
/-! StairIdealsModel.isLeaf()Z -/
def mX11_isLeaf_55 (S : St) (k4 : Int32 → Int32 → Option (Int32)) (k16 : Int32 → Int32 → Int32 → Option (Int32)) (x2 : Int32) (x3 : Int32) (s0 : Int32) : Option (Int32) := bnd (x3 + 1) fun v1 => k16 s0 x2 v1
theorem wX11_isLeaf_55 {κ : KT} {g : GT} (C : CX κ g RX11 cX11_isLeaf 4 (some .boolean) 3 63) (S : St) (k4 : Int32 → Int32 → Option (Int32)) (hk4 : ∀ (x1 : Int32) (x2 : Int32), J κ g 4 (fun a : Int32 => (some (Value.int a), S)) S 4 [(0, .ref (gad g 0)), (1, .int x1), (2, .int x2)] [] (k4 x1 x2)) (k16 : Int32 → Int32 → Int32 → Option (Int32)) (hk16 : ∀ (x1 : Int32) (x2 : Int32) (x3 : Int32), J κ g 4 (fun a : Int32 => (some (Value.int a), S)) S 16 [(0, .ref (gad g 0)), (1, .int x1), (2, .int x2), (3, .int x3)] [] (k16 x1 x2 x3)) (x2 : Int32) (x3 : Int32) (s0 : Int32) : J κ g 4 (fun a : Int32 => (some (Value.int a), S)) S 55 [(0, .ref (gad g 0)), (2, .int x2), (3, .int x3)] [.int s0] (mX11_isLeaf_55 S k4 k16 x2 x3 s0) := by
  unfold mX11_isLeaf_55
  refine j_istore_n C (xs1 := [(0, .ref (gad g 0)), (1, .int s0), (2, .int x2), (3, .int x3)]) dX11_isLeaf_55 rfl (by decide) rfl ?_
  refine j_iinc C (xs2 := fun v1 => [(0, .ref (gad g 0)), (1, .int s0), (2, .int x2), (3, .int v1)]) 3 rfl dX11_isLeaf_56 (by decide) (by decide) (fun _ => rfl) (fun v1 => ?_)
  refine j_goto C 16 dX11_isLeaf_59 (by decide) ?_
  exact hk16 s0 x2 v1
def mX11_isLeaf_54 (S : St) (k4 : Int32 → Int32 → Option (Int32)) (k16 : Int32 → Int32 → Int32 → Option (Int32)) (x2 : Int32) (x3 : Int32) : Option (Int32) := mX11_isLeaf_55 S k4 k16 x2 x3 0
theorem wX11_isLeaf_54 {κ : KT} {g : GT} (C : CX κ g RX11 cX11_isLeaf 4 (some .boolean) 3 63) (S : St) (k4 : Int32 → Int32 → Option (Int32)) (hk4 : ∀ (x1 : Int32) (x2 : Int32), J κ g 4 (fun a : Int32 => (some (Value.int a), S)) S 4 [(0, .ref (gad g 0)), (1, .int x1), (2, .int x2)] [] (k4 x1 x2)) (k16 : Int32 → Int32 → Int32 → Option (Int32)) (hk16 : ∀ (x1 : Int32) (x2 : Int32) (x3 : Int32), J κ g 4 (fun a : Int32 => (some (Value.int a), S)) S 16 [(0, .ref (gad g 0)), (1, .int x1), (2, .int x2), (3, .int x3)] [] (k16 x1 x2 x3)) (x2 : Int32) (x3 : Int32) : J κ g 4 (fun a : Int32 => (some (Value.int a), S)) S 54 [(0, .ref (gad g 0)), (2, .int x2), (3, .int x3)] [] (mX11_isLeaf_54 S k4 k16 x2 x3) := by
  unfold mX11_isLeaf_54
  refine j_iconst C (v := 0) (by decide) dX11_isLeaf_54 ?_
  exact wX11_isLeaf_55 C S k4 hk4 k16 hk16 x2 x3 0
def mX11_isLeaf_16 (S : St) (k4 : Int32 → Int32 → Option (Int32)) : Nat → Int32 → Int32 → Int32 → Option (Int32)
  | 0, _, _, _ => none
  | n + 1, x1, x2, x3 => if (gI S 0 19) ≤ x3 then (bnd (x2 + 1) fun v1 => k4 x1 v1)
  else (if x1 = 0 then (mX11_isLeaf_54 S k4 (mX11_isLeaf_16 S k4 n) x2 x3)
  else (inb 40 x2 fun j2 => (mX11_support (gA S 13 j2)).bind fun r3 => inb 40 x3 fun j4 => (mX11_support (gA S 13 j4)).bind fun r5 => if (r3 &&& r5) = 0 then (mX11_isLeaf_55 S k4 (mX11_isLeaf_16 S k4 n) x2 x3 1)
  else (mX11_isLeaf_54 S k4 (mX11_isLeaf_16 S k4 n) x2 x3)))
theorem wX11_isLeaf_16 {κ : KT} {g : GT} (C : CX κ g RX11 cX11_isLeaf 4 (some .boolean) 3 63) (S : St) (k4 : Int32 → Int32 → Option (Int32)) (hk4 : ∀ (x1 : Int32) (x2 : Int32), J κ g 4 (fun a : Int32 => (some (Value.int a), S)) S 4 [(0, .ref (gad g 0)), (1, .int x1), (2, .int x2)] [] (k4 x1 x2)) : ∀ (n : Nat) (x1 : Int32) (x2 : Int32) (x3 : Int32), J κ g 4 (fun a : Int32 => (some (Value.int a), S)) S 16 [(0, .ref (gad g 0)), (1, .int x1), (2, .int x2), (3, .int x3)] [] (mX11_isLeaf_16 S k4 n x1 x2 x3) := by
  intro n
  induction n with
  | zero => intro x1 x2 x3; exact j_none
  | succ n ih =>
    intro x1 x2 x3
    rw [mX11_isLeaf_16]
    refine j_iload_n C 3 rfl dX11_isLeaf_16 rfl ?_
    refine j_aload_n C 0 rfl dX11_isLeaf_17 rfl ?_
    refine j_getI C fl_X11_240 sh_0 rfl rfl dX11_isLeaf_18 ?_
    refine j_icmp_ge C 62 dX11_isLeaf_21 (by decide) ?_ ?_
    · refine j_iinc C (xs2 := fun v1 => [(0, .ref (gad g 0)), (1, .int x1), (2, .int v1), (3, .int x3)]) 2 rfl dX11_isLeaf_62 (by decide) (by decide) (fun _ => rfl) (fun v1 => ?_)
      refine j_goto C 4 dX11_isLeaf_65 (by decide) ?_
      refine j_sub (xs1 := [(0, .ref (gad g 0)), (1, .int x1), (2, .int v1)]) [0, 1, 2] rfl ?_
      exact hk4 x1 v1
    · refine j_iload_n C 1 rfl dX11_isLeaf_24 rfl ?_
      refine j_if_eq C 54 dX11_isLeaf_25 (by decide) ?_ ?_
      · refine j_sub (xs1 := [(0, .ref (gad g 0)), (2, .int x2), (3, .int x3)]) [0, 2, 3] rfl ?_
        exact wX11_isLeaf_54 C S k4 hk4 (mX11_isLeaf_16 S k4 n) ih x2 x3
      · refine j_aload_n C 0 rfl dX11_isLeaf_28 rfl ?_
        refine j_getR C (x := 13) fl_X11_47 sh_0 rfl rfl dX11_isLeaf_29 ?_
        refine j_iload_n C 2 rfl dX11_isLeaf_32 rfl ?_
        refine j_iald C sh_13 rfl dX11_isLeaf_33 (fun j2 => ?_)
        refine j_callSi C [.int (gA S 13 j2)] [] ms_X11_154 (fun _ h => ctX11_support h) ⟨(Nat.le_of_ble_eq_true rfl), (Nat.le_of_ble_eq_true rfl)⟩ (Nat.le_of_ble_eq_true rfl) dX11_isLeaf_34 rfl (fun r3 => ?_)
        refine j_aload_n C 0 rfl dX11_isLeaf_37 rfl ?_
        refine j_getR C (x := 13) fl_X11_47 sh_0 rfl rfl dX11_isLeaf_38 ?_
        refine j_iload_n C 3 rfl dX11_isLeaf_41 rfl ?_
        refine j_iald C sh_13 rfl dX11_isLeaf_42 (fun j4 => ?_)
        refine j_callSi C [.int (gA S 13 j4)] [.int r3] ms_X11_154 (fun _ h => ctX11_support h) ⟨(Nat.le_of_ble_eq_true rfl), (Nat.le_of_ble_eq_true rfl)⟩ (Nat.le_of_ble_eq_true rfl) dX11_isLeaf_43 rfl (fun r5 => ?_)
        refine j_iand C dX11_isLeaf_46 ?_
        refine j_if_ne C 54 dX11_isLeaf_47 (by decide) ?_ ?_
        · refine j_sub (xs1 := [(0, .ref (gad g 0)), (2, .int x2), (3, .int x3)]) [0, 2, 3] rfl ?_
          exact wX11_isLeaf_54 C S k4 hk4 (mX11_isLeaf_16 S k4 n) ih x2 x3
        · refine j_iconst C (v := 1) (by decide) dX11_isLeaf_50 ?_
          refine j_goto C 55 dX11_isLeaf_51 (by decide) ?_
          refine j_sub (xs1 := [(0, .ref (gad g 0)), (2, .int x2), (3, .int x3)]) [0, 2, 3] rfl ?_
          exact wX11_isLeaf_55 C S k4 hk4 (mX11_isLeaf_16 S k4 n) ih x2 x3 1
def mX11_isLeaf_4 (S : St) : Nat → Int32 → Int32 → Option (Int32)
  | 0, _, _ => none
  | n + 1, x1, x2 => if (gI S 0 19) ≤ x2 then (zbg x1 (some x1))
  else (bnd (x2 + 1) fun v1 => mX11_isLeaf_16 S (mX11_isLeaf_4 S n) FU x1 x2 v1)
theorem wX11_isLeaf_4 {κ : KT} {g : GT} (C : CX κ g RX11 cX11_isLeaf 4 (some .boolean) 3 63) (S : St) : ∀ (n : Nat) (x1 : Int32) (x2 : Int32), J κ g 4 (fun a : Int32 => (some (Value.int a), S)) S 4 [(0, .ref (gad g 0)), (1, .int x1), (2, .int x2)] [] (mX11_isLeaf_4 S n x1 x2) := by
  intro n
  induction n with
  | zero => intro x1 x2; exact j_none
  | succ n ih =>
    intro x1 x2
    rw [mX11_isLeaf_4]
    refine j_iload_n C 2 rfl dX11_isLeaf_4 rfl ?_
    refine j_aload_n C 0 rfl dX11_isLeaf_5 rfl ?_
    refine j_getI C fl_X11_240 sh_0 rfl rfl dX11_isLeaf_6 ?_
    refine j_icmp_ge C 68 dX11_isLeaf_9 (by decide) ?_ ?_
    · refine j_iload_n C 1 rfl dX11_isLeaf_68 rfl ?_
      refine j_zbg (fun hb => ?_)
      exact j_zret C (nar_z hb) rfl dX11_isLeaf_69
    · refine j_iload_n C 2 rfl dX11_isLeaf_12 rfl ?_
      refine j_iconst C (v := 1) (by decide) dX11_isLeaf_13 ?_
      refine j_iadd C dX11_isLeaf_14 ?_
      refine j_topi (fun v1 => ?_)
      refine j_istore_n C (xs1 := [(0, .ref (gad g 0)), (1, .int x1), (2, .int x2), (3, .int v1)]) dX11_isLeaf_15 rfl (by decide) rfl ?_
      exact wX11_isLeaf_16 C S (mX11_isLeaf_4 S n) ih FU x1 x2 v1
def mX11_isLeaf (S : St) : Option (Int32) := mX11_isLeaf_4 S FU 1 0
theorem wX11_isLeaf {κ : KT} {g : GT} (C : CX κ g RX11 cX11_isLeaf 4 (some .boolean) 3 63) (S : St) : J κ g 4 (fun a : Int32 => (some (Value.int a), S)) S 0 [(0, .ref (gad g 0))] [] (mX11_isLeaf S) := by
  unfold mX11_isLeaf
  refine j_iconst C (v := 1) (by decide) dX11_isLeaf_0 ?_
  refine j_istore_n C (xs1 := [(0, .ref (gad g 0)), (1, .int 1)]) dX11_isLeaf_1 rfl (by decide) rfl ?_
  refine j_iconst C (v := 0) (by decide) dX11_isLeaf_2 ?_
  refine j_istore_n C (xs1 := [(0, .ref (gad g 0)), (1, .int 1), (2, .int 0)]) dX11_isLeaf_3 rfl (by decide) rfl ?_
  exact wX11_isLeaf_4 C S FU 1 0
theorem ctX11_isLeaf {l : Launch} {g : GT} {S : St} {out : Int32} (ho : mX11_isLeaf S = some out) : CT l yX11_isLeaf cX11_isLeaf 4 (some .boolean) 3 63 [.ref (gad g 0)] g S ((fun a : Int32 => (some (Value.int a), S)) out) := CT_of (φ := (fun a : Int32 => (some (Value.int a), S))) [.ref (gad g 0)] ho (by decide) (Nat.le_of_ble_eq_true rfl) (xs := [(0, .ref (gad g 0))]) rfl (fun κ C => wX11_isLeaf C S)
/-! StairIdealsModel.pivot()I -/
def mX11_pivot_67 (S : St) (k6 : Int32 → Int32 → Int32 → Option (Int32)) (x2 : Int32) (x3 : Int32) (x4 : Int32) (s0 : Int32) : Option (Int32) := (mX11_greater x2 x4).bind fun r1 => bnd (x3 + 1) fun v2 => k6 s0 r1 v2
theorem wX11_pivot_67 {κ : KT} {g : GT} (C : CX κ g RX11 cX11_pivot 6 (some .int) 2 41) (S : St) (k6 : Int32 → Int32 → Int32 → Option (Int32)) (hk6 : ∀ (x1 : Int32) (x2 : Int32) (x3 : Int32), J κ g 6 (fun a : Int32 => (some (Value.int a), S)) S 6 [(0, .ref (gad g 0)), (1, .int x1), (2, .int x2), (3, .int x3)] [] (k6 x1 x2 x3)) (x2 : Int32) (x3 : Int32) (x4 : Int32) (s0 : Int32) : J κ g 6 (fun a : Int32 => (some (Value.int a), S)) S 67 [(0, .ref (gad g 0)), (2, .int x2), (3, .int x3), (4, .int x4)] [.int s0] (mX11_pivot_67 S k6 x2 x3 x4 s0) := by
  unfold mX11_pivot_67
  refine j_istore_n C (xs1 := [(0, .ref (gad g 0)), (1, .int s0), (2, .int x2), (3, .int x3), (4, .int x4)]) dX11_pivot_67 rfl (by decide) rfl ?_
  refine j_iload_n C 2 rfl dX11_pivot_68 rfl ?_
  refine j_iload C 4 rfl dX11_pivot_69 ?_
  refine j_callSi C [.int x2, .int x4] [] ms_X11_80 (fun _ h => ctX11_greater h) ⟨(Nat.le_of_ble_eq_true rfl), (Nat.le_of_ble_eq_true rfl)⟩ (Nat.le_of_ble_eq_true rfl) dX11_pivot_71 rfl (fun r1 => ?_)
  refine j_istore_n C (xs1 := [(0, .ref (gad g 0)), (1, .int s0), (2, .int r1), (3, .int x3), (4, .int x4)]) dX11_pivot_74 rfl (by decide) rfl ?_
  refine j_iinc C (xs2 := fun v2 => [(0, .ref (gad g 0)), (1, .int s0), (2, .int r1), (3, .int v2), (4, .int x4)]) 3 rfl dX11_pivot_75 (by decide) (by decide) (fun _ => rfl) (fun v2 => ?_)
  refine j_goto C 6 dX11_pivot_78 (by decide) ?_
  refine j_sub (xs1 := [(0, .ref (gad g 0)), (1, .int s0), (2, .int r1), (3, .int v2)]) [0, 1, 2, 3] rfl ?_
  exact hk6 s0 r1 v2
def mX11_pivot_47 (S : St) (k6 : Int32 → Int32 → Int32 → Option (Int32)) (k17 : Int32 → Int32 → Int32 → Int32 → Int32 → Option (Int32)) (x1 : Int32) (x2 : Int32) (x3 : Int32) (x5 : Int32) (s0 : Int32) (s1 : Int32) : Option (Int32) := bnd (s1 + s0) fun v1 => bnd (x5 + 1) fun v2 => k17 x1 x2 x3 v1 v2
theorem wX11_pivot_47 {κ : KT} {g : GT} (C : CX κ g RX11 cX11_pivot 6 (some .int) 2 41) (S : St) (k6 : Int32 → Int32 → Int32 → Option (Int32)) (hk6 : ∀ (x1 : Int32) (x2 : Int32) (x3 : Int32), J κ g 6 (fun a : Int32 => (some (Value.int a), S)) S 6 [(0, .ref (gad g 0)), (1, .int x1), (2, .int x2), (3, .int x3)] [] (k6 x1 x2 x3)) (k17 : Int32 → Int32 → Int32 → Int32 → Int32 → Option (Int32)) (hk17 : ∀ (x1 : Int32) (x2 : Int32) (x3 : Int32) (x4 : Int32) (x5 : Int32), J κ g 6 (fun a : Int32 => (some (Value.int a), S)) S 17 [(0, .ref (gad g 0)), (1, .int x1), (2, .int x2), (3, .int x3), (4, .int x4), (5, .int x5)] [] (k17 x1 x2 x3 x4 x5)) (x1 : Int32) (x2 : Int32) (x3 : Int32) (x5 : Int32) (s0 : Int32) (s1 : Int32) : J κ g 6 (fun a : Int32 => (some (Value.int a), S)) S 47 [(0, .ref (gad g 0)), (1, .int x1), (2, .int x2), (3, .int x3), (5, .int x5)] [.int s0, .int s1] (mX11_pivot_47 S k6 k17 x1 x2 x3 x5 s0 s1) := by
  unfold mX11_pivot_47
  refine j_iadd C dX11_pivot_47 ?_
  refine j_topi (fun v1 => ?_)
  refine j_istore C (xs1 := [(0, .ref (gad g 0)), (1, .int x1), (2, .int x2), (3, .int x3), (4, .int v1), (5, .int x5)]) dX11_pivot_48 (by decide) rfl ?_
  refine j_iinc C (xs2 := fun v2 => [(0, .ref (gad g 0)), (1, .int x1), (2, .int x2), (3, .int x3), (4, .int v1), (5, .int v2)]) 5 rfl dX11_pivot_50 (by decide) (by decide) (fun _ => rfl) (fun v2 => ?_)
  refine j_goto C 17 dX11_pivot_53 (by decide) ?_
  exact hk17 x1 x2 x3 v1 v2
def mX11_pivot_17 (S : St) (k6 : Int32 → Int32 → Int32 → Option (Int32)) : Nat → Int32 → Int32 → Int32 → Int32 → Int32 → Option (Int32)
  | 0, _, _, _, _, _ => none
  | n + 1, x1, x2, x3, x4, x5 => if (gI S 0 19) ≤ x5 then (if x4 ≤ x2 then (mX11_pivot_67 S k6 x2 x3 x4 x1)
  else (mX11_pivot_67 S k6 x2 x3 x4 x3))
  else (inb 40 x5 fun j1 => (mX11_power (gA S 13 j1) x3).bind fun r2 => if r2 ≤ 0 then (mX11_pivot_47 S k6 (mX11_pivot_17 S k6 n) x1 x2 x3 x5 0 x4)
  else (mX11_pivot_47 S k6 (mX11_pivot_17 S k6 n) x1 x2 x3 x5 1 x4))
theorem wX11_pivot_17 {κ : KT} {g : GT} (C : CX κ g RX11 cX11_pivot 6 (some .int) 2 41) (S : St) (k6 : Int32 → Int32 → Int32 → Option (Int32)) (hk6 : ∀ (x1 : Int32) (x2 : Int32) (x3 : Int32), J κ g 6 (fun a : Int32 => (some (Value.int a), S)) S 6 [(0, .ref (gad g 0)), (1, .int x1), (2, .int x2), (3, .int x3)] [] (k6 x1 x2 x3)) : ∀ (n : Nat) (x1 : Int32) (x2 : Int32) (x3 : Int32) (x4 : Int32) (x5 : Int32), J κ g 6 (fun a : Int32 => (some (Value.int a), S)) S 17 [(0, .ref (gad g 0)), (1, .int x1), (2, .int x2), (3, .int x3), (4, .int x4), (5, .int x5)] [] (mX11_pivot_17 S k6 n x1 x2 x3 x4 x5) := by
  intro n
  induction n with
  | zero => intro x1 x2 x3 x4 x5; exact j_none
  | succ n ih =>
    intro x1 x2 x3 x4 x5
    rw [mX11_pivot_17]
    refine j_iload C 5 rfl dX11_pivot_17 ?_
    refine j_aload_n C 0 rfl dX11_pivot_19 rfl ?_
    refine j_getI C fl_X11_240 sh_0 rfl rfl dX11_pivot_20 ?_
    refine j_icmp_ge C 56 dX11_pivot_23 (by decide) ?_ ?_
    · refine j_iload C 4 rfl dX11_pivot_56 ?_
      refine j_iload_n C 2 rfl dX11_pivot_58 rfl ?_
      refine j_icmp_le C 66 dX11_pivot_59 (by decide) ?_ ?_
      · refine j_iload_n C 1 rfl dX11_pivot_66 rfl ?_
        refine j_sub (xs1 := [(0, .ref (gad g 0)), (2, .int x2), (3, .int x3), (4, .int x4)]) [0, 2, 3, 4] rfl ?_
        exact wX11_pivot_67 C S k6 hk6 x2 x3 x4 x1
      · refine j_iload_n C 3 rfl dX11_pivot_62 rfl ?_
        refine j_goto C 67 dX11_pivot_63 (by decide) ?_
        refine j_sub (xs1 := [(0, .ref (gad g 0)), (2, .int x2), (3, .int x3), (4, .int x4)]) [0, 2, 3, 4] rfl ?_
        exact wX11_pivot_67 C S k6 hk6 x2 x3 x4 x3
    · refine j_iload C 4 rfl dX11_pivot_26 ?_
      refine j_aload_n C 0 rfl dX11_pivot_28 rfl ?_
      refine j_getR C (x := 13) fl_X11_47 sh_0 rfl rfl dX11_pivot_29 ?_
      refine j_iload C 5 rfl dX11_pivot_32 ?_
      refine j_iald C sh_13 rfl dX11_pivot_34 (fun j1 => ?_)
      refine j_iload_n C 3 rfl dX11_pivot_35 rfl ?_
      refine j_callSi C [.int (gA S 13 j1), .int x3] [.int x4] ms_X11_76 (fun _ h => ctX11_power h) ⟨(Nat.le_of_ble_eq_true rfl), (Nat.le_of_ble_eq_true rfl)⟩ (Nat.le_of_ble_eq_true rfl) dX11_pivot_36 rfl (fun r2 => ?_)
      refine j_if_le C 46 dX11_pivot_39 (by decide) ?_ ?_
      · refine j_iconst C (v := 0) (by decide) dX11_pivot_46 ?_
        refine j_sub (xs1 := [(0, .ref (gad g 0)), (1, .int x1), (2, .int x2), (3, .int x3), (5, .int x5)]) [0, 1, 2, 3, 5] rfl ?_
        exact wX11_pivot_47 C S k6 hk6 (mX11_pivot_17 S k6 n) ih x1 x2 x3 x5 0 x4
      · refine j_iconst C (v := 1) (by decide) dX11_pivot_42 ?_
        refine j_goto C 47 dX11_pivot_43 (by decide) ?_
        refine j_sub (xs1 := [(0, .ref (gad g 0)), (1, .int x1), (2, .int x2), (3, .int x3), (5, .int x5)]) [0, 1, 2, 3, 5] rfl ?_
        exact wX11_pivot_47 C S k6 hk6 (mX11_pivot_17 S k6 n) ih x1 x2 x3 x5 1 x4
def mX11_pivot_6 (S : St) : Nat → Int32 → Int32 → Int32 → Option (Int32)
  | 0, _, _, _ => none
  | n + 1, x1, x2, x3 => if 4 ≤ x3 then (some x1)
  else (mX11_pivot_17 S (mX11_pivot_6 S n) FU x1 x2 x3 0 0)
theorem wX11_pivot_6 {κ : KT} {g : GT} (C : CX κ g RX11 cX11_pivot 6 (some .int) 2 41) (S : St) : ∀ (n : Nat) (x1 : Int32) (x2 : Int32) (x3 : Int32), J κ g 6 (fun a : Int32 => (some (Value.int a), S)) S 6 [(0, .ref (gad g 0)), (1, .int x1), (2, .int x2), (3, .int x3)] [] (mX11_pivot_6 S n x1 x2 x3) := by
  intro n
  induction n with
  | zero => intro x1 x2 x3; exact j_none
  | succ n ih =>
    intro x1 x2 x3
    rw [mX11_pivot_6]
    refine j_iload_n C 3 rfl dX11_pivot_6 rfl ?_
    refine j_iconst C (v := 4) (by decide) dX11_pivot_7 ?_
    refine j_icmp_ge C 81 dX11_pivot_8 (by decide) ?_ ?_
    · refine j_iload_n C 1 rfl dX11_pivot_81 rfl ?_
      exact j_iret C rfl dX11_pivot_82
    · refine j_iconst C (v := 0) (by decide) dX11_pivot_11 ?_
      refine j_istore C (xs1 := [(0, .ref (gad g 0)), (1, .int x1), (2, .int x2), (3, .int x3), (4, .int 0)]) dX11_pivot_12 (by decide) rfl ?_
      refine j_iconst C (v := 0) (by decide) dX11_pivot_14 ?_
      refine j_istore C (xs1 := [(0, .ref (gad g 0)), (1, .int x1), (2, .int x2), (3, .int x3), (4, .int 0), (5, .int 0)]) dX11_pivot_15 (by decide) rfl ?_
      exact wX11_pivot_17 C S (mX11_pivot_6 S n) ih FU x1 x2 x3 0 0
def mX11_pivot (S : St) : Option (Int32) := mX11_pivot_6 S FU 0 (-1) 0
theorem wX11_pivot {κ : KT} {g : GT} (C : CX κ g RX11 cX11_pivot 6 (some .int) 2 41) (S : St) : J κ g 6 (fun a : Int32 => (some (Value.int a), S)) S 0 [(0, .ref (gad g 0))] [] (mX11_pivot S) := by
  unfold mX11_pivot
  refine j_iconst C (v := 0) (by decide) dX11_pivot_0 ?_
  refine j_istore_n C (xs1 := [(0, .ref (gad g 0)), (1, .int 0)]) dX11_pivot_1 rfl (by decide) rfl ?_
  refine j_iconst C (v := (-1)) (by decide) dX11_pivot_2 ?_
  refine j_istore_n C (xs1 := [(0, .ref (gad g 0)), (1, .int 0), (2, .int (-1))]) dX11_pivot_3 rfl (by decide) rfl ?_
  refine j_iconst C (v := 0) (by decide) dX11_pivot_4 ?_
  refine j_istore_n C (xs1 := [(0, .ref (gad g 0)), (1, .int 0), (2, .int (-1)), (3, .int 0)]) dX11_pivot_5 rfl (by decide) rfl ?_
  exact wX11_pivot_6 C S FU 0 (-1) 0
theorem ctX11_pivot {l : Launch} {g : GT} {S : St} {out : Int32} (ho : mX11_pivot S = some out) : CT l yX11_pivot cX11_pivot 6 (some .int) 2 41 [.ref (gad g 0)] g S ((fun a : Int32 => (some (Value.int a), S)) out) := CT_of (φ := (fun a : Int32 => (some (Value.int a), S))) [.ref (gad g 0)] ho (by decide) (Nat.le_of_ble_eq_true rfl) (xs := [(0, .ref (gad g 0))]) rfl (fun κ C => wX11_pivot C S)
/-! StairIdealsModel.push(I)V -/
def mX11_push (S : St) (a0 : Int32) : Option (St) := inb 60 (gI S 0 17) fun j1 => inb 2400 ((40 * (gI S 0 17)) + (gA S 11 j1)) fun j2 => inb 60 (gI (sA S 10 j2 a0) 0 17) fun j3 => inb 60 (gI (sA S 10 j2 a0) 0 17) fun j4 => some (sA (sA S 10 j2 a0) 11 j4 ((gA (sA S 10 j2 a0) 11 j3) + 1))
theorem wX11_push {κ : KT} {g : GT} (C : CX κ g RX11 cX11_push 2 none 0 0) (S : St) (a0 : Int32) : J κ g 2 (fun a : St => (none, a)) S 0 [(0, .ref (gad g 0)), (1, .int a0)] [] (mX11_push S a0) := by
  unfold mX11_push
  refine j_aload_n C 0 rfl dX11_push_0 rfl ?_
  refine j_getR C (x := 10) fl_X11_38 sh_0 rfl rfl dX11_push_1 ?_
  refine j_bipush C (v := 40) (by decide) dX11_push_4 ?_
  refine j_aload_n C 0 rfl dX11_push_6 rfl ?_
  refine j_getI C fl_X11_243 sh_0 rfl rfl dX11_push_7 ?_
  refine j_imul C dX11_push_10 ?_
  refine j_aload_n C 0 rfl dX11_push_11 rfl ?_
  refine j_getR C (x := 11) fl_X11_41 sh_0 rfl rfl dX11_push_12 ?_
  refine j_aload_n C 0 rfl dX11_push_15 rfl ?_
  refine j_getI C fl_X11_243 sh_0 rfl rfl dX11_push_16 ?_
  refine j_iald C sh_11 rfl dX11_push_19 (fun j1 => ?_)
  refine j_iadd C dX11_push_20 ?_
  refine j_iload_n C 1 rfl dX11_push_21 rfl ?_
  refine j_iast C sh_10 rfl dX11_push_22 (fun j2 => ?_)
  refine j_aload_n C 0 rfl dX11_push_23 rfl ?_
  refine j_getR C (x := 11) fl_X11_41 sh_0 rfl rfl dX11_push_24 ?_
  refine j_aload_n C 0 rfl dX11_push_27 rfl ?_
  refine j_getI C fl_X11_243 sh_0 rfl rfl dX11_push_28 ?_
  refine j_dup2_11 C rfl rfl dX11_push_31 ?_
  refine j_iald C sh_11 rfl dX11_push_32 (fun j3 => ?_)
  refine j_iconst C (v := 1) (by decide) dX11_push_33 ?_
  refine j_iadd C dX11_push_34 ?_
  refine j_iast C sh_11 rfl dX11_push_35 (fun j4 => ?_)
  exact j_vret C rfl dX11_push_36
theorem ctX11_push {l : Launch} {g : GT} {S : St} {a0 : Int32} {out : St} (ho : mX11_push S a0 = some out) : CT l yX11_push cX11_push 2 none 0 0 [.ref (gad g 0), .int a0] g S ((fun a : St => (none, a)) out) := CT_of (φ := (fun a : St => (none, a))) [.ref (gad g 0), .int a0] ho (by decide) (Nat.le_of_ble_eq_true rfl) (xs := [(0, .ref (gad g 0)), (1, .int a0)]) rfl (fun κ C => wX11_push C S a0)
/-! StairIdealsModel.opens(I)V -/
def mX11_opens (S : St) (a0 : Int32) : Option (St) := inb 60 (gI S 0 17) fun j1 => inb 60 (gI (sA S 11 j1 0) 0 17) fun j2 => some (sA (sA S 11 j1 0) 12 j2 a0)
theorem wX11_opens {κ : KT} {g : GT} (C : CX κ g RX11 cX11_opens 2 none 0 0) (S : St) (a0 : Int32) : J κ g 2 (fun a : St => (none, a)) S 0 [(0, .ref (gad g 0)), (1, .int a0)] [] (mX11_opens S a0) := by
  unfold mX11_opens
  refine j_aload_n C 0 rfl dX11_opens_0 rfl ?_
  refine j_getR C (x := 11) fl_X11_41 sh_0 rfl rfl dX11_opens_1 ?_
  refine j_aload_n C 0 rfl dX11_opens_4 rfl ?_
  refine j_getI C fl_X11_243 sh_0 rfl rfl dX11_opens_5 ?_
  refine j_iconst C (v := 0) (by decide) dX11_opens_8 ?_
  refine j_iast C sh_11 rfl dX11_opens_9 (fun j1 => ?_)
  refine j_aload_n C 0 rfl dX11_opens_10 rfl ?_
  refine j_getR C (x := 12) fl_X11_44 sh_0 rfl rfl dX11_opens_11 ?_
  refine j_aload_n C 0 rfl dX11_opens_14 rfl ?_
  refine j_getI C fl_X11_243 sh_0 rfl rfl dX11_opens_15 ?_
  refine j_iload_n C 1 rfl dX11_opens_18 rfl ?_
  refine j_iast C sh_12 rfl dX11_opens_19 (fun j2 => ?_)
  exact j_vret C rfl dX11_opens_20
theorem ctX11_opens {l : Launch} {g : GT} {S : St} {a0 : Int32} {out : St} (ho : mX11_opens S a0 = some out) : CT l yX11_opens cX11_opens 2 none 0 0 [.ref (gad g 0), .int a0] g S ((fun a : St => (none, a)) out) := CT_of (φ := (fun a : St => (none, a))) [.ref (gad g 0), .int a0] ho (by decide) (Nat.le_of_ble_eq_true rfl) (xs := [(0, .ref (gad g 0)), (1, .int a0)]) rfl (fun κ C => wX11_opens C S a0)
/-! StairIdealsModel.pushSum(II)V -/
def mX11_pushSum_46 (k15 : St → Int32 → Int32 → Option (St)) (S : St) (x1 : Int32) (x3 : Int32) : Option (St) := bnd (x3 + 1) fun v1 => k15 S x1 v1
theorem wX11_pushSum_46 {κ : KT} {g : GT} (C : CX κ g RX11 cX11_pushSum 4 none 2 41) (k15 : St → Int32 → Int32 → Option (St)) (hk15 : ∀ (S : St) (x1 : Int32) (x3 : Int32), J κ g 4 (fun a : St => (none, a)) S 15 [(0, .ref (gad g 0)), (1, .int x1), (3, .int x3)] [] (k15 S x1 x3)) (S : St) (x1 : Int32) (x3 : Int32) : J κ g 4 (fun a : St => (none, a)) S 46 [(0, .ref (gad g 0)), (1, .int x1), (3, .int x3)] [] (mX11_pushSum_46 k15 S x1 x3) := by
  unfold mX11_pushSum_46
  refine j_iinc C (xs2 := fun v1 => [(0, .ref (gad g 0)), (1, .int x1), (3, .int v1)]) 2 rfl dX11_pushSum_46 (by decide) (by decide) (fun _ => rfl) (fun v1 => ?_)
  refine j_goto C 15 dX11_pushSum_49 (by decide) ?_
  exact hk15 S x1 v1
def mX11_pushSum_15 : Nat → St → Int32 → Int32 → Option (St)
  | 0, _, _, _ => none
  | n + 1, S, x1, x3 => if (gI S 0 19) ≤ x3 then (some (sI S 0 17 ((gI S 0 17) + 1)))
  else (inb 40 x3 fun j1 => (mX11_power (gA S 13 j1) x1).bind fun r2 => if r2 = 0 then (inb 40 x3 fun j3 => (mX11_push S (gA S 13 j3)).bind fun r4 => mX11_pushSum_46 (mX11_pushSum_15 n) r4 x1 x3)
  else (mX11_pushSum_46 (mX11_pushSum_15 n) S x1 x3))
theorem wX11_pushSum_15 {κ : KT} {g : GT} (C : CX κ g RX11 cX11_pushSum 4 none 2 41) : ∀ (n : Nat) (S : St) (x1 : Int32) (x3 : Int32), J κ g 4 (fun a : St => (none, a)) S 15 [(0, .ref (gad g 0)), (1, .int x1), (3, .int x3)] [] (mX11_pushSum_15 n S x1 x3) := by
  intro n
  induction n with
  | zero => intro S x1 x3; exact j_none
  | succ n ih =>
    intro S x1 x3
    rw [mX11_pushSum_15]
    refine j_iload_n C 2 rfl dX11_pushSum_15 rfl ?_
    refine j_aload_n C 0 rfl dX11_pushSum_16 rfl ?_
    refine j_getI C fl_X11_240 sh_0 rfl rfl dX11_pushSum_17 ?_
    refine j_icmp_ge C 52 dX11_pushSum_20 (by decide) ?_ ?_
    · refine j_aload_n C 0 rfl dX11_pushSum_52 rfl ?_
      refine j_dup C rfl dX11_pushSum_53 ?_
      refine j_getI C fl_X11_243 sh_0 rfl rfl dX11_pushSum_54 ?_
      refine j_iconst C (v := 1) (by decide) dX11_pushSum_57 ?_
      refine j_iadd C dX11_pushSum_58 ?_
      refine j_putI C fp_X11_243 sh_0 rfl rfl rfl rfl dX11_pushSum_59 ?_
      exact j_vret C rfl dX11_pushSum_62
    · refine j_aload_n C 0 rfl dX11_pushSum_23 rfl ?_
      refine j_getR C (x := 13) fl_X11_47 sh_0 rfl rfl dX11_pushSum_24 ?_
      refine j_iload_n C 2 rfl dX11_pushSum_27 rfl ?_
      refine j_iald C sh_13 rfl dX11_pushSum_28 (fun j1 => ?_)
      refine j_iload_n C 1 rfl dX11_pushSum_29 rfl ?_
      refine j_callSi C [.int (gA S 13 j1), .int x1] [] ms_X11_76 (fun _ h => ctX11_power h) ⟨(Nat.le_of_ble_eq_true rfl), (Nat.le_of_ble_eq_true rfl)⟩ (Nat.le_of_ble_eq_true rfl) dX11_pushSum_30 rfl (fun r2 => ?_)
      refine j_if_ne C 46 dX11_pushSum_33 (by decide) ?_ ?_
      · exact wX11_pushSum_46 C (mX11_pushSum_15 n) ih S x1 x3
      · refine j_aload_n C 0 rfl dX11_pushSum_36 rfl ?_
        refine j_aload_n C 0 rfl dX11_pushSum_37 rfl ?_
        refine j_getR C (x := 13) fl_X11_47 sh_0 rfl rfl dX11_pushSum_38 ?_
        refine j_iload_n C 2 rfl dX11_pushSum_41 rfl ?_
        refine j_iald C sh_13 rfl dX11_pushSum_42 (fun j3 => ?_)
        refine j_callVvS C [.int (gA S 13 j3)] [] mv_X11_249 sh_0 rfl rfl (fun _ h => ctX11_push h) ⟨(Nat.le_of_ble_eq_true rfl), (Nat.le_of_ble_eq_true rfl)⟩ (Nat.le_of_ble_eq_true rfl) dX11_pushSum_43 rfl (fun r4 => ?_)
        exact wX11_pushSum_46 C (mX11_pushSum_15 n) ih r4 x1 x3
def mX11_pushSum (S : St) (a0 : Int32) (a1 : Int32) : Option (St) := (mX11_opens S a1).bind fun r1 => (mX11_ten a0).bind fun r2 => (mX11_push r1 r2).bind fun r3 => mX11_pushSum_15 FU r3 a0 0
theorem wX11_pushSum {κ : KT} {g : GT} (C : CX κ g RX11 cX11_pushSum 4 none 2 41) (S : St) (a0 : Int32) (a1 : Int32) : J κ g 4 (fun a : St => (none, a)) S 0 [(0, .ref (gad g 0)), (1, .int a0), (2, .int a1)] [] (mX11_pushSum S a0 a1) := by
  unfold mX11_pushSum
  refine j_aload_n C 0 rfl dX11_pushSum_0 rfl ?_
  refine j_iload_n C 2 rfl dX11_pushSum_1 rfl ?_
  refine j_callVvS C [.int a1] [] mv_X11_246 sh_0 rfl rfl (fun _ h => ctX11_opens h) ⟨(Nat.le_of_ble_eq_true rfl), (Nat.le_of_ble_eq_true rfl)⟩ (Nat.le_of_ble_eq_true rfl) dX11_pushSum_2 rfl (fun r1 => ?_)
  refine j_aload_n C 0 rfl dX11_pushSum_5 rfl ?_
  refine j_iload_n C 1 rfl dX11_pushSum_6 rfl ?_
  refine j_callSi C [.int a0] [.ref (gad g 0)] ms_X11_70 (fun _ h => ctX11_ten h) ⟨(Nat.le_of_ble_eq_true rfl), (Nat.le_of_ble_eq_true rfl)⟩ (Nat.le_of_ble_eq_true rfl) dX11_pushSum_7 rfl (fun r2 => ?_)
  refine j_callVvS C [.int r2] [] mv_X11_249 sh_0 rfl rfl (fun _ h => ctX11_push h) ⟨(Nat.le_of_ble_eq_true rfl), (Nat.le_of_ble_eq_true rfl)⟩ (Nat.le_of_ble_eq_true rfl) dX11_pushSum_10 rfl (fun r3 => ?_)
  refine j_iconst C (v := 0) (by decide) dX11_pushSum_13 ?_
  refine j_istore_n C (xs1 := [(0, .ref (gad g 0)), (1, .int a0), (2, .int a1), (3, .int 0)]) dX11_pushSum_14 rfl (by decide) rfl ?_
  refine j_sub (xs1 := [(0, .ref (gad g 0)), (1, .int a0), (3, .int 0)]) [0, 1, 3] rfl ?_
  exact wX11_pushSum_15 C FU r3 a0 0
theorem ctX11_pushSum {l : Launch} {g : GT} {S : St} {a0 : Int32} {a1 : Int32} {out : St} (ho : mX11_pushSum S a0 a1 = some out) : CT l yX11_pushSum cX11_pushSum 4 none 2 41 [.ref (gad g 0), .int a0, .int a1] g S ((fun a : St => (none, a)) out) := CT_of (φ := (fun a : St => (none, a))) [.ref (gad g 0), .int a0, .int a1] ho (by decide) (Nat.le_of_ble_eq_true rfl) (xs := [(0, .ref (gad g 0)), (1, .int a0), (2, .int a1)]) rfl (fun κ C => wX11_pushSum C S a0 a1)
/-! StairIdealsModel.lessened(II)I -/
def mX11_lessened (a0 : Int32) (a1 : Int32) : Option (Int32) := (mX11_power a0 a1).bind fun r1 => if r1 ≤ 0 then (some a0)
  else ((mX11_ten a1).bind fun r2 => some (a0 - r2))
theorem wX11_lessened {κ : KT} {g : GT} (C : CX κ g RX11 cX11_lessened 2 (some .int) 2 41) (S : St) (a0 : Int32) (a1 : Int32) : J κ g 2 (fun a : Int32 => (some (Value.int a), S)) S 0 [(0, .int a0), (1, .int a1)] [] (mX11_lessened a0 a1) := by
  unfold mX11_lessened
  refine j_iload_n C 0 rfl dX11_lessened_0 rfl ?_
  refine j_iload_n C 1 rfl dX11_lessened_1 rfl ?_
  refine j_callSi C [.int a0, .int a1] [] ms_X11_76 (fun _ h => ctX11_power h) ⟨(Nat.le_of_ble_eq_true rfl), (Nat.le_of_ble_eq_true rfl)⟩ (Nat.le_of_ble_eq_true rfl) dX11_lessened_2 rfl (fun r1 => ?_)
  refine j_if_le C 17 dX11_lessened_5 (by decide) ?_ ?_
  · refine j_iload_n C 0 rfl dX11_lessened_17 rfl ?_
    exact j_iret C rfl dX11_lessened_18
  · refine j_iload_n C 0 rfl dX11_lessened_8 rfl ?_
    refine j_iload_n C 1 rfl dX11_lessened_9 rfl ?_
    refine j_callSi C [.int a1] [.int a0] ms_X11_70 (fun _ h => ctX11_ten h) ⟨(Nat.le_of_ble_eq_true rfl), (Nat.le_of_ble_eq_true rfl)⟩ (Nat.le_of_ble_eq_true rfl) dX11_lessened_10 rfl (fun r2 => ?_)
    refine j_isub C dX11_lessened_13 ?_
    refine j_goto C 18 dX11_lessened_14 (by decide) ?_
    exact j_iret C rfl dX11_lessened_18
theorem ctX11_lessened {l : Launch} {g : GT} {S : St} {a0 : Int32} {a1 : Int32} {out : Int32} (ho : mX11_lessened a0 a1 = some out) : CT l yX11_lessened cX11_lessened 2 (some .int) 2 41 [.int a0, .int a1] g S ((fun a : Int32 => (some (Value.int a), S)) out) := CT_of (φ := (fun a : Int32 => (some (Value.int a), S))) [.int a0, .int a1] ho (by decide) (Nat.le_of_ble_eq_true rfl) (xs := [(0, .int a0), (1, .int a1)]) rfl (fun κ C => wX11_lessened C S a0 a1)
/-! StairIdealsModel.isTooMuch(II)Z -/
def mX11_isTooMuch_76 (S : St) (k17 : Int32 → Int32 → Int32 → Int32 → Int32 → Option (Int32)) (x1 : Int32) (x2 : Int32) (x3 : Int32) (x5 : Int32) (s0 : Int32) : Option (Int32) := bnd (x5 + 1) fun v1 => k17 x1 x2 x3 s0 v1
theorem wX11_isTooMuch_76 {κ : KT} {g : GT} (C : CX κ g RX11 cX11_isTooMuch 7 (some .boolean) 3 64) (S : St) (k17 : Int32 → Int32 → Int32 → Int32 → Int32 → Option (Int32)) (hk17 : ∀ (x1 : Int32) (x2 : Int32) (x3 : Int32) (x4 : Int32) (x5 : Int32), J κ g 7 (fun a : Int32 => (some (Value.int a), S)) S 17 [(0, .ref (gad g 0)), (1, .int x1), (2, .int x2), (3, .int x3), (4, .int x4), (5, .int x5)] [] (k17 x1 x2 x3 x4 x5)) (x1 : Int32) (x2 : Int32) (x3 : Int32) (x5 : Int32) (s0 : Int32) : J κ g 7 (fun a : Int32 => (some (Value.int a), S)) S 76 [(0, .ref (gad g 0)), (1, .int x1), (2, .int x2), (3, .int x3), (5, .int x5)] [.int s0] (mX11_isTooMuch_76 S k17 x1 x2 x3 x5 s0) := by
  unfold mX11_isTooMuch_76
  refine j_istore C (xs1 := [(0, .ref (gad g 0)), (1, .int x1), (2, .int x2), (3, .int x3), (4, .int s0), (5, .int x5)]) dX11_isTooMuch_76 (by decide) rfl ?_
  refine j_iinc C (xs2 := fun v1 => [(0, .ref (gad g 0)), (1, .int x1), (2, .int x2), (3, .int x3), (4, .int s0), (5, .int v1)]) 5 rfl dX11_isTooMuch_78 (by decide) (by decide) (fun _ => rfl) (fun v1 => ?_)
  refine j_goto C 17 dX11_isTooMuch_81 (by decide) ?_
  exact hk17 x1 x2 x3 s0 v1
def mX11_isTooMuch_75 (S : St) (k17 : Int32 → Int32 → Int32 → Int32 → Int32 → Option (Int32)) (x1 : Int32) (x2 : Int32) (x3 : Int32) (x5 : Int32) : Option (Int32) := mX11_isTooMuch_76 S k17 x1 x2 x3 x5 0
theorem wX11_isTooMuch_75 {κ : KT} {g : GT} (C : CX κ g RX11 cX11_isTooMuch 7 (some .boolean) 3 64) (S : St) (k17 : Int32 → Int32 → Int32 → Int32 → Int32 → Option (Int32)) (hk17 : ∀ (x1 : Int32) (x2 : Int32) (x3 : Int32) (x4 : Int32) (x5 : Int32), J κ g 7 (fun a : Int32 => (some (Value.int a), S)) S 17 [(0, .ref (gad g 0)), (1, .int x1), (2, .int x2), (3, .int x3), (4, .int x4), (5, .int x5)] [] (k17 x1 x2 x3 x4 x5)) (x1 : Int32) (x2 : Int32) (x3 : Int32) (x5 : Int32) : J κ g 7 (fun a : Int32 => (some (Value.int a), S)) S 75 [(0, .ref (gad g 0)), (1, .int x1), (2, .int x2), (3, .int x3), (5, .int x5)] [] (mX11_isTooMuch_75 S k17 x1 x2 x3 x5) := by
  unfold mX11_isTooMuch_75
  refine j_iconst C (v := 0) (by decide) dX11_isTooMuch_75 ?_
  exact wX11_isTooMuch_76 C S k17 hk17 x1 x2 x3 x5 0
def mX11_isTooMuch_71 (S : St) (k17 : Int32 → Int32 → Int32 → Int32 → Int32 → Option (Int32)) (x1 : Int32) (x2 : Int32) (x3 : Int32) (x5 : Int32) : Option (Int32) := mX11_isTooMuch_76 S k17 x1 x2 x3 x5 1
theorem wX11_isTooMuch_71 {κ : KT} {g : GT} (C : CX κ g RX11 cX11_isTooMuch 7 (some .boolean) 3 64) (S : St) (k17 : Int32 → Int32 → Int32 → Int32 → Int32 → Option (Int32)) (hk17 : ∀ (x1 : Int32) (x2 : Int32) (x3 : Int32) (x4 : Int32) (x5 : Int32), J κ g 7 (fun a : Int32 => (some (Value.int a), S)) S 17 [(0, .ref (gad g 0)), (1, .int x1), (2, .int x2), (3, .int x3), (4, .int x4), (5, .int x5)] [] (k17 x1 x2 x3 x4 x5)) (x1 : Int32) (x2 : Int32) (x3 : Int32) (x5 : Int32) : J κ g 7 (fun a : Int32 => (some (Value.int a), S)) S 71 [(0, .ref (gad g 0)), (1, .int x1), (2, .int x2), (3, .int x3), (5, .int x5)] [] (mX11_isTooMuch_71 S k17 x1 x2 x3 x5) := by
  unfold mX11_isTooMuch_71
  refine j_iconst C (v := 1) (by decide) dX11_isTooMuch_71 ?_
  refine j_goto C 76 dX11_isTooMuch_72 (by decide) ?_
  exact wX11_isTooMuch_76 C S k17 hk17 x1 x2 x3 x5 1
def mX11_isTooMuch_17 (S : St) : Nat → Int32 → Int32 → Int32 → Int32 → Int32 → Option (Int32)
  | 0, _, _, _, _, _ => none
  | n + 1, x1, x2, x3, x4, x5 => if (gI S 0 19) ≤ x5 then (zbg x4 (some x4))
  else (inb 40 x5 fun j1 => (mX11_lessened (gA S 13 j1) x2).bind fun r2 => if x4 = 0 then (if x5 = x1 then (mX11_isTooMuch_75 S (mX11_isTooMuch_17 S n) x1 x2 x3 x5)
  else ((mX11_divides r2 x3).bind fun r3 => if r3 = 0 then (mX11_isTooMuch_75 S (mX11_isTooMuch_17 S n) x1 x2 x3 x5)
  else (if r2 = x3 then (if x1 ≤ x5 then (mX11_isTooMuch_75 S (mX11_isTooMuch_17 S n) x1 x2 x3 x5)
  else (mX11_isTooMuch_71 S (mX11_isTooMuch_17 S n) x1 x2 x3 x5))
  else (mX11_isTooMuch_71 S (mX11_isTooMuch_17 S n) x1 x2 x3 x5))))
  else (mX11_isTooMuch_71 S (mX11_isTooMuch_17 S n) x1 x2 x3 x5))
theorem wX11_isTooMuch_17 {κ : KT} {g : GT} (C : CX κ g RX11 cX11_isTooMuch 7 (some .boolean) 3 64) (S : St) : ∀ (n : Nat) (x1 : Int32) (x2 : Int32) (x3 : Int32) (x4 : Int32) (x5 : Int32), J κ g 7 (fun a : Int32 => (some (Value.int a), S)) S 17 [(0, .ref (gad g 0)), (1, .int x1), (2, .int x2), (3, .int x3), (4, .int x4), (5, .int x5)] [] (mX11_isTooMuch_17 S n x1 x2 x3 x4 x5) := by
  intro n
  induction n with
  | zero => intro x1 x2 x3 x4 x5; exact j_none
  | succ n ih =>
    intro x1 x2 x3 x4 x5
    rw [mX11_isTooMuch_17]
    refine j_iload C 5 rfl dX11_isTooMuch_17 ?_
    refine j_aload_n C 0 rfl dX11_isTooMuch_19 rfl ?_
    refine j_getI C fl_X11_240 sh_0 rfl rfl dX11_isTooMuch_20 ?_
    refine j_icmp_ge C 84 dX11_isTooMuch_23 (by decide) ?_ ?_
    · refine j_iload C 4 rfl dX11_isTooMuch_84 ?_
      refine j_zbg (fun hb => ?_)
      exact j_zret C (nar_z hb) rfl dX11_isTooMuch_86
    · refine j_aload_n C 0 rfl dX11_isTooMuch_26 rfl ?_
      refine j_getR C (x := 13) fl_X11_47 sh_0 rfl rfl dX11_isTooMuch_27 ?_
      refine j_iload C 5 rfl dX11_isTooMuch_30 ?_
      refine j_iald C sh_13 rfl dX11_isTooMuch_32 (fun j1 => ?_)
      refine j_iload_n C 2 rfl dX11_isTooMuch_33 rfl ?_
      refine j_callSi C [.int (gA S 13 j1), .int x2] [] ms_X11_252 (fun _ h => ctX11_lessened h) ⟨(Nat.le_of_ble_eq_true rfl), (Nat.le_of_ble_eq_true rfl)⟩ (Nat.le_of_ble_eq_true rfl) dX11_isTooMuch_34 rfl (fun r2 => ?_)
      refine j_istore C (xs1 := [(0, .ref (gad g 0)), (1, .int x1), (2, .int x2), (3, .int x3), (4, .int x4), (5, .int x5), (6, .int r2)]) dX11_isTooMuch_37 (by decide) rfl ?_
      refine j_iload C 4 rfl dX11_isTooMuch_39 ?_
      refine j_if_ne C 71 dX11_isTooMuch_41 (by decide) ?_ ?_
      · refine j_sub (xs1 := [(0, .ref (gad g 0)), (1, .int x1), (2, .int x2), (3, .int x3), (5, .int x5)]) [0, 1, 2, 3, 5] rfl ?_
        exact wX11_isTooMuch_71 C S (mX11_isTooMuch_17 S n) ih x1 x2 x3 x5
      · refine j_iload C 5 rfl dX11_isTooMuch_44 ?_
        refine j_iload_n C 1 rfl dX11_isTooMuch_46 rfl ?_
        refine j_icmp_eq C 75 dX11_isTooMuch_47 (by decide) ?_ ?_
        · refine j_sub (xs1 := [(0, .ref (gad g 0)), (1, .int x1), (2, .int x2), (3, .int x3), (5, .int x5)]) [0, 1, 2, 3, 5] rfl ?_
          exact wX11_isTooMuch_75 C S (mX11_isTooMuch_17 S n) ih x1 x2 x3 x5
        · refine j_iload C 6 rfl dX11_isTooMuch_50 ?_
          refine j_iload_n C 3 rfl dX11_isTooMuch_52 rfl ?_
          refine j_callSi C [.int r2, .int x3] [] ms_X11_89 (fun _ h => ctX11_divides h) ⟨(Nat.le_of_ble_eq_true rfl), (Nat.le_of_ble_eq_true rfl)⟩ (Nat.le_of_ble_eq_true rfl) dX11_isTooMuch_53 rfl (fun r3 => ?_)
          refine j_if_eq C 75 dX11_isTooMuch_56 (by decide) ?_ ?_
          · refine j_sub (xs1 := [(0, .ref (gad g 0)), (1, .int x1), (2, .int x2), (3, .int x3), (5, .int x5)]) [0, 1, 2, 3, 5] rfl ?_
            exact wX11_isTooMuch_75 C S (mX11_isTooMuch_17 S n) ih x1 x2 x3 x5
          · refine j_iload C 6 rfl dX11_isTooMuch_59 ?_
            refine j_iload_n C 3 rfl dX11_isTooMuch_61 rfl ?_
            refine j_icmp_ne C 71 dX11_isTooMuch_62 (by decide) ?_ ?_
            · refine j_sub (xs1 := [(0, .ref (gad g 0)), (1, .int x1), (2, .int x2), (3, .int x3), (5, .int x5)]) [0, 1, 2, 3, 5] rfl ?_
              exact wX11_isTooMuch_71 C S (mX11_isTooMuch_17 S n) ih x1 x2 x3 x5
            · refine j_iload C 5 rfl dX11_isTooMuch_65 ?_
              refine j_iload_n C 1 rfl dX11_isTooMuch_67 rfl ?_
              refine j_icmp_ge C 75 dX11_isTooMuch_68 (by decide) ?_ ?_
              · refine j_sub (xs1 := [(0, .ref (gad g 0)), (1, .int x1), (2, .int x2), (3, .int x3), (5, .int x5)]) [0, 1, 2, 3, 5] rfl ?_
                exact wX11_isTooMuch_75 C S (mX11_isTooMuch_17 S n) ih x1 x2 x3 x5
              · refine j_sub (xs1 := [(0, .ref (gad g 0)), (1, .int x1), (2, .int x2), (3, .int x3), (5, .int x5)]) [0, 1, 2, 3, 5] rfl ?_
                exact wX11_isTooMuch_71 C S (mX11_isTooMuch_17 S n) ih x1 x2 x3 x5
def mX11_isTooMuch (S : St) (a0 : Int32) (a1 : Int32) : Option (Int32) := inb 40 a0 fun j1 => (mX11_lessened (gA S 13 j1) a1).bind fun r2 => mX11_isTooMuch_17 S FU a0 a1 r2 0 0
theorem wX11_isTooMuch {κ : KT} {g : GT} (C : CX κ g RX11 cX11_isTooMuch 7 (some .boolean) 3 64) (S : St) (a0 : Int32) (a1 : Int32) : J κ g 7 (fun a : Int32 => (some (Value.int a), S)) S 0 [(0, .ref (gad g 0)), (1, .int a0), (2, .int a1)] [] (mX11_isTooMuch S a0 a1) := by
  unfold mX11_isTooMuch
  refine j_aload_n C 0 rfl dX11_isTooMuch_0 rfl ?_
  refine j_getR C (x := 13) fl_X11_47 sh_0 rfl rfl dX11_isTooMuch_1 ?_
  refine j_iload_n C 1 rfl dX11_isTooMuch_4 rfl ?_
  refine j_iald C sh_13 rfl dX11_isTooMuch_5 (fun j1 => ?_)
  refine j_iload_n C 2 rfl dX11_isTooMuch_6 rfl ?_
  refine j_callSi C [.int (gA S 13 j1), .int a1] [] ms_X11_252 (fun _ h => ctX11_lessened h) ⟨(Nat.le_of_ble_eq_true rfl), (Nat.le_of_ble_eq_true rfl)⟩ (Nat.le_of_ble_eq_true rfl) dX11_isTooMuch_7 rfl (fun r2 => ?_)
  refine j_istore_n C (xs1 := [(0, .ref (gad g 0)), (1, .int a0), (2, .int a1), (3, .int r2)]) dX11_isTooMuch_10 rfl (by decide) rfl ?_
  refine j_iconst C (v := 0) (by decide) dX11_isTooMuch_11 ?_
  refine j_istore C (xs1 := [(0, .ref (gad g 0)), (1, .int a0), (2, .int a1), (3, .int r2), (4, .int 0)]) dX11_isTooMuch_12 (by decide) rfl ?_
  refine j_iconst C (v := 0) (by decide) dX11_isTooMuch_14 ?_
  refine j_istore C (xs1 := [(0, .ref (gad g 0)), (1, .int a0), (2, .int a1), (3, .int r2), (4, .int 0), (5, .int 0)]) dX11_isTooMuch_15 (by decide) rfl ?_
  exact wX11_isTooMuch_17 C S FU a0 a1 r2 0 0
theorem ctX11_isTooMuch {l : Launch} {g : GT} {S : St} {a0 : Int32} {a1 : Int32} {out : Int32} (ho : mX11_isTooMuch S a0 a1 = some out) : CT l yX11_isTooMuch cX11_isTooMuch 7 (some .boolean) 3 64 [.ref (gad g 0), .int a0, .int a1] g S ((fun a : Int32 => (some (Value.int a), S)) out) := CT_of (φ := (fun a : Int32 => (some (Value.int a), S))) [.ref (gad g 0), .int a0, .int a1] ho (by decide) (Nat.le_of_ble_eq_true rfl) (xs := [(0, .ref (gad g 0)), (1, .int a0), (2, .int a1)]) rfl (fun κ C => wX11_isTooMuch C S a0 a1)
/-! StairIdealsModel.pushQuotient(II)V -/
def mX11_pushQuotient_38 (k7 : St → Int32 → Int32 → Option (St)) (S : St) (x1 : Int32) (x3 : Int32) : Option (St) := bnd (x3 + 1) fun v1 => k7 S x1 v1
theorem wX11_pushQuotient_38 {κ : KT} {g : GT} (C : CX κ g RX11 cX11_pushQuotient 4 none 4 90) (k7 : St → Int32 → Int32 → Option (St)) (hk7 : ∀ (S : St) (x1 : Int32) (x3 : Int32), J κ g 4 (fun a : St => (none, a)) S 7 [(0, .ref (gad g 0)), (1, .int x1), (3, .int x3)] [] (k7 S x1 x3)) (S : St) (x1 : Int32) (x3 : Int32) : J κ g 4 (fun a : St => (none, a)) S 38 [(0, .ref (gad g 0)), (1, .int x1), (3, .int x3)] [] (mX11_pushQuotient_38 k7 S x1 x3) := by
  unfold mX11_pushQuotient_38
  refine j_iinc C (xs2 := fun v1 => [(0, .ref (gad g 0)), (1, .int x1), (3, .int v1)]) 2 rfl dX11_pushQuotient_38 (by decide) (by decide) (fun _ => rfl) (fun v1 => ?_)
  refine j_goto C 7 dX11_pushQuotient_41 (by decide) ?_
  exact hk7 S x1 v1
def mX11_pushQuotient_7 : Nat → St → Int32 → Int32 → Option (St)
  | 0, _, _, _ => none
  | n + 1, S, x1, x3 => if (gI S 0 19) ≤ x3 then (some (sI S 0 17 ((gI S 0 17) + 1)))
  else ((mX11_isTooMuch S x3 x1).bind fun r1 => if r1 = 0 then (inb 40 x3 fun j2 => (mX11_lessened (gA S 13 j2) x1).bind fun r3 => (mX11_push S r3).bind fun r4 => mX11_pushQuotient_38 (mX11_pushQuotient_7 n) r4 x1 x3)
  else (mX11_pushQuotient_38 (mX11_pushQuotient_7 n) S x1 x3))
theorem wX11_pushQuotient_7 {κ : KT} {g : GT} (C : CX κ g RX11 cX11_pushQuotient 4 none 4 90) : ∀ (n : Nat) (S : St) (x1 : Int32) (x3 : Int32), J κ g 4 (fun a : St => (none, a)) S 7 [(0, .ref (gad g 0)), (1, .int x1), (3, .int x3)] [] (mX11_pushQuotient_7 n S x1 x3) := by
  intro n
  induction n with
  | zero => intro S x1 x3; exact j_none
  | succ n ih =>
    intro S x1 x3
    rw [mX11_pushQuotient_7]
    refine j_iload_n C 2 rfl dX11_pushQuotient_7 rfl ?_
    refine j_aload_n C 0 rfl dX11_pushQuotient_8 rfl ?_
    refine j_getI C fl_X11_240 sh_0 rfl rfl dX11_pushQuotient_9 ?_
    refine j_icmp_ge C 44 dX11_pushQuotient_12 (by decide) ?_ ?_
    · refine j_aload_n C 0 rfl dX11_pushQuotient_44 rfl ?_
      refine j_dup C rfl dX11_pushQuotient_45 ?_
      refine j_getI C fl_X11_243 sh_0 rfl rfl dX11_pushQuotient_46 ?_
      refine j_iconst C (v := 1) (by decide) dX11_pushQuotient_49 ?_
      refine j_iadd C dX11_pushQuotient_50 ?_
      refine j_putI C fp_X11_243 sh_0 rfl rfl rfl rfl dX11_pushQuotient_51 ?_
      exact j_vret C rfl dX11_pushQuotient_54
    · refine j_aload_n C 0 rfl dX11_pushQuotient_15 rfl ?_
      refine j_iload_n C 2 rfl dX11_pushQuotient_16 rfl ?_
      refine j_iload_n C 1 rfl dX11_pushQuotient_17 rfl ?_
      refine j_callVi C [.int x3, .int x1] [] mv_X11_255 sh_0 rfl rfl (fun _ h => ctX11_isTooMuch h) ⟨(Nat.le_of_ble_eq_true rfl), (Nat.le_of_ble_eq_true rfl)⟩ (Nat.le_of_ble_eq_true rfl) dX11_pushQuotient_18 rfl (fun r1 => ?_)
      refine j_if_ne C 38 dX11_pushQuotient_21 (by decide) ?_ ?_
      · exact wX11_pushQuotient_38 C (mX11_pushQuotient_7 n) ih S x1 x3
      · refine j_aload_n C 0 rfl dX11_pushQuotient_24 rfl ?_
        refine j_aload_n C 0 rfl dX11_pushQuotient_25 rfl ?_
        refine j_getR C (x := 13) fl_X11_47 sh_0 rfl rfl dX11_pushQuotient_26 ?_
        refine j_iload_n C 2 rfl dX11_pushQuotient_29 rfl ?_
        refine j_iald C sh_13 rfl dX11_pushQuotient_30 (fun j2 => ?_)
        refine j_iload_n C 1 rfl dX11_pushQuotient_31 rfl ?_
        refine j_callSi C [.int (gA S 13 j2), .int x1] [.ref (gad g 0)] ms_X11_252 (fun _ h => ctX11_lessened h) ⟨(Nat.le_of_ble_eq_true rfl), (Nat.le_of_ble_eq_true rfl)⟩ (Nat.le_of_ble_eq_true rfl) dX11_pushQuotient_32 rfl (fun r3 => ?_)
        refine j_callVvS C [.int r3] [] mv_X11_249 sh_0 rfl rfl (fun _ h => ctX11_push h) ⟨(Nat.le_of_ble_eq_true rfl), (Nat.le_of_ble_eq_true rfl)⟩ (Nat.le_of_ble_eq_true rfl) dX11_pushQuotient_35 rfl (fun r4 => ?_)
        exact wX11_pushQuotient_38 C (mX11_pushQuotient_7 n) ih r4 x1 x3
def mX11_pushQuotient (S : St) (a0 : Int32) (a1 : Int32) : Option (St) := (mX11_opens S a1).bind fun r1 => mX11_pushQuotient_7 FU r1 a0 0
theorem wX11_pushQuotient {κ : KT} {g : GT} (C : CX κ g RX11 cX11_pushQuotient 4 none 4 90) (S : St) (a0 : Int32) (a1 : Int32) : J κ g 4 (fun a : St => (none, a)) S 0 [(0, .ref (gad g 0)), (1, .int a0), (2, .int a1)] [] (mX11_pushQuotient S a0 a1) := by
  unfold mX11_pushQuotient
  refine j_aload_n C 0 rfl dX11_pushQuotient_0 rfl ?_
  refine j_iload_n C 2 rfl dX11_pushQuotient_1 rfl ?_
  refine j_callVvS C [.int a1] [] mv_X11_246 sh_0 rfl rfl (fun _ h => ctX11_opens h) ⟨(Nat.le_of_ble_eq_true rfl), (Nat.le_of_ble_eq_true rfl)⟩ (Nat.le_of_ble_eq_true rfl) dX11_pushQuotient_2 rfl (fun r1 => ?_)
  refine j_iconst C (v := 0) (by decide) dX11_pushQuotient_5 ?_
  refine j_istore_n C (xs1 := [(0, .ref (gad g 0)), (1, .int a0), (2, .int a1), (3, .int 0)]) dX11_pushQuotient_6 rfl (by decide) rfl ?_
  refine j_sub (xs1 := [(0, .ref (gad g 0)), (1, .int a0), (3, .int 0)]) [0, 1, 3] rfl ?_
  exact wX11_pushQuotient_7 C FU r1 a0 0
theorem ctX11_pushQuotient {l : Launch} {g : GT} {S : St} {a0 : Int32} {a1 : Int32} {out : St} (ho : mX11_pushQuotient S a0 a1 = some out) : CT l yX11_pushQuotient cX11_pushQuotient 4 none 4 90 [.ref (gad g 0), .int a0, .int a1] g S ((fun a : St => (none, a)) out) := CT_of (φ := (fun a : St => (none, a))) [.ref (gad g 0), .int a0, .int a1] ho (by decide) (Nat.le_of_ble_eq_true rfl) (xs := [(0, .ref (gad g 0)), (1, .int a0), (2, .int a1)]) rfl (fun κ C => wX11_pushQuotient C S a0 a1)
/-! StairIdealsModel.popList()V -/
def mX11_popList_25 : Nat → St → Int32 → Option (St)
  | 0, _, _ => none
  | n + 1, S, x1 => if (gI S 0 19) ≤ x1 then (some S)
  else (inb 2400 ((40 * (gI S 0 17)) + x1) fun j1 => inb 40 x1 fun j2 => bnd (x1 + 1) fun v3 => mX11_popList_25 n (sA S 13 j2 (gA S 10 j1)) v3)
theorem wX11_popList_25 {κ : KT} {g : GT} (C : CX κ g RX11 cX11_popList 2 none 0 0) : ∀ (n : Nat) (S : St) (x1 : Int32), J κ g 2 (fun a : St => (none, a)) S 25 [(0, .ref (gad g 0)), (1, .int x1)] [] (mX11_popList_25 n S x1) := by
  intro n
  induction n with
  | zero => intro S x1; exact j_none
  | succ n ih =>
    intro S x1
    rw [mX11_popList_25]
    refine j_iload_n C 1 rfl dX11_popList_25 rfl ?_
    refine j_aload_n C 0 rfl dX11_popList_26 rfl ?_
    refine j_getI C fl_X11_240 sh_0 rfl rfl dX11_popList_27 ?_
    refine j_icmp_ge C 59 dX11_popList_30 (by decide) ?_ ?_
    · exact j_vret C rfl dX11_popList_59
    · refine j_aload_n C 0 rfl dX11_popList_33 rfl ?_
      refine j_getR C (x := 13) fl_X11_47 sh_0 rfl rfl dX11_popList_34 ?_
      refine j_iload_n C 1 rfl dX11_popList_37 rfl ?_
      refine j_aload_n C 0 rfl dX11_popList_38 rfl ?_
      refine j_getR C (x := 10) fl_X11_38 sh_0 rfl rfl dX11_popList_39 ?_
      refine j_bipush C (v := 40) (by decide) dX11_popList_42 ?_
      refine j_aload_n C 0 rfl dX11_popList_44 rfl ?_
      refine j_getI C fl_X11_243 sh_0 rfl rfl dX11_popList_45 ?_
      refine j_imul C dX11_popList_48 ?_
      refine j_iload_n C 1 rfl dX11_popList_49 rfl ?_
      refine j_iadd C dX11_popList_50 ?_
      refine j_iald C sh_10 rfl dX11_popList_51 (fun j1 => ?_)
      refine j_iast C sh_13 rfl dX11_popList_52 (fun j2 => ?_)
      refine j_iinc C (xs2 := fun v3 => [(0, .ref (gad g 0)), (1, .int v3)]) 1 rfl dX11_popList_53 (by decide) (by decide) (fun _ => rfl) (fun v3 => ?_)
      refine j_goto C 25 dX11_popList_56 (by decide) ?_
      exact ih (sA S 13 j2 (gA S 10 j1)) v3
def mX11_popList (S : St) : Option (St) := inb 60 (gI (sI S 0 17 ((gI S 0 17) - 1)) 0 17) fun j1 => mX11_popList_25 FU (sI (sI S 0 17 ((gI S 0 17) - 1)) 0 19 (gA (sI S 0 17 ((gI S 0 17) - 1)) 11 j1)) 0
theorem wX11_popList {κ : KT} {g : GT} (C : CX κ g RX11 cX11_popList 2 none 0 0) (S : St) : J κ g 2 (fun a : St => (none, a)) S 0 [(0, .ref (gad g 0))] [] (mX11_popList S) := by
  unfold mX11_popList
  refine j_aload_n C 0 rfl dX11_popList_0 rfl ?_
  refine j_dup C rfl dX11_popList_1 ?_
  refine j_getI C fl_X11_243 sh_0 rfl rfl dX11_popList_2 ?_
  refine j_iconst C (v := 1) (by decide) dX11_popList_5 ?_
  refine j_isub C dX11_popList_6 ?_
  refine j_putI C fp_X11_243 sh_0 rfl rfl rfl rfl dX11_popList_7 ?_
  refine j_aload_n C 0 rfl dX11_popList_10 rfl ?_
  refine j_aload_n C 0 rfl dX11_popList_11 rfl ?_
  refine j_getR C (x := 11) fl_X11_41 sh_0 rfl rfl dX11_popList_12 ?_
  refine j_aload_n C 0 rfl dX11_popList_15 rfl ?_
  refine j_getI C fl_X11_243 sh_0 rfl rfl dX11_popList_16 ?_
  refine j_iald C sh_11 rfl dX11_popList_19 (fun j1 => ?_)
  refine j_putI C fp_X11_240 sh_0 rfl rfl rfl rfl dX11_popList_20 ?_
  refine j_iconst C (v := 0) (by decide) dX11_popList_23 ?_
  refine j_istore_n C (xs1 := [(0, .ref (gad g 0)), (1, .int 0)]) dX11_popList_24 rfl (by decide) rfl ?_
  exact wX11_popList_25 C FU (sI (sI S 0 17 ((gI S 0 17) - 1)) 0 19 (gA (sI S 0 17 ((gI S 0 17) - 1)) 11 j1)) 0
theorem ctX11_popList {l : Launch} {g : GT} {S : St} {out : St} (ho : mX11_popList S = some out) : CT l yX11_popList cX11_popList 2 none 0 0 [.ref (gad g 0)] g S ((fun a : St => (none, a)) out) := CT_of (φ := (fun a : St => (none, a))) [.ref (gad g 0)] ho (by decide) (Nat.le_of_ble_eq_true rfl) (xs := [(0, .ref (gad g 0))]) rfl (fun κ C => wX11_popList C S)
/-! StairIdealsModel.findTree(I)V -/
def mX11_findTree_122 (k53 : St → Option (St)) (S : St) : Option (St) := k53 S
theorem wX11_findTree_122 {κ : KT} {g : GT} (C : CX κ g RX11 cX11_findTree 4 none 5 113) (k53 : St → Option (St)) (hk53 : ∀ (S : St), J κ g 4 (fun a : St => (none, a)) S 53 [(0, .ref (gad g 0))] [] (k53 S)) (S : St) : J κ g 4 (fun a : St => (none, a)) S 122 [(0, .ref (gad g 0))] [] (mX11_findTree_122 k53 S) := by
  unfold mX11_findTree_122
  refine j_goto C 53 dX11_findTree_122 (by decide) ?_
  exact hk53 S
def mX11_findTree_53 : Nat → St → Option (St)
  | 0, _ => none
  | n + 1, S => if (gI S 0 17) ≤ 0 then (some S)
  else ((mX11_popList S).bind fun r1 => inb 60 (gI r1 0 17) fun j2 => bnd ((gA r1 12 j2) + 1) fun v3 => (mX11_isLeaf r1).bind fun r4 => if r4 = 0 then ((mX11_pivot r1).bind fun r5 => (mX11_greater (gI (sI r1 0 20 ((gI r1 0 20) + 1)) 0 21) v3).bind fun r6 => (mX11_pushSum (sI (sI r1 0 20 ((gI r1 0 20) + 1)) 0 21 r6) r5 v3).bind fun r7 => (mX11_pushQuotient r7 r5 v3).bind fun r8 => mX11_findTree_122 (mX11_findTree_53 n) r8)
  else (mX11_findTree_122 (mX11_findTree_53 n) r1))
theorem wX11_findTree_53 {κ : KT} {g : GT} (C : CX κ g RX11 cX11_findTree 4 none 5 113) : ∀ (n : Nat) (S : St), J κ g 4 (fun a : St => (none, a)) S 53 [(0, .ref (gad g 0))] [] (mX11_findTree_53 n S) := by
  intro n
  induction n with
  | zero => intro S; exact j_none
  | succ n ih =>
    intro S
    rw [mX11_findTree_53]
    refine j_aload_n C 0 rfl dX11_findTree_53 rfl ?_
    refine j_getI C fl_X11_243 sh_0 rfl rfl dX11_findTree_54 ?_
    refine j_if_le C 125 dX11_findTree_57 (by decide) ?_ ?_
    · exact j_vret C rfl dX11_findTree_125
    · refine j_aload_n C 0 rfl dX11_findTree_60 rfl ?_
      refine j_callVvS C [] [] mv_X11_264 sh_0 rfl rfl (fun _ h => ctX11_popList h) ⟨(Nat.le_of_ble_eq_true rfl), (Nat.le_of_ble_eq_true rfl)⟩ (Nat.le_of_ble_eq_true rfl) dX11_findTree_61 rfl (fun r1 => ?_)
      refine j_aload_n C 0 rfl dX11_findTree_64 rfl ?_
      refine j_getR C (x := 12) fl_X11_44 sh_0 rfl rfl dX11_findTree_65 ?_
      refine j_aload_n C 0 rfl dX11_findTree_68 rfl ?_
      refine j_getI C fl_X11_243 sh_0 rfl rfl dX11_findTree_69 ?_
      refine j_iald C sh_12 rfl dX11_findTree_72 (fun j2 => ?_)
      refine j_iconst C (v := 1) (by decide) dX11_findTree_73 ?_
      refine j_iadd C dX11_findTree_74 ?_
      refine j_topi (fun v3 => ?_)
      refine j_istore_n C (xs1 := [(0, .ref (gad g 0)), (2, .int v3)]) dX11_findTree_75 rfl (by decide) rfl ?_
      refine j_aload_n C 0 rfl dX11_findTree_76 rfl ?_
      refine j_callVi C [] [] mv_X11_267 sh_0 rfl rfl (fun _ h => ctX11_isLeaf h) ⟨(Nat.le_of_ble_eq_true rfl), (Nat.le_of_ble_eq_true rfl)⟩ (Nat.le_of_ble_eq_true rfl) dX11_findTree_77 rfl (fun r4 => ?_)
      refine j_if_ne C 122 dX11_findTree_80 (by decide) ?_ ?_
      · refine j_sub (xs1 := [(0, .ref (gad g 0))]) [0] rfl ?_
        exact wX11_findTree_122 C (mX11_findTree_53 n) ih r1
      · refine j_aload_n C 0 rfl dX11_findTree_83 rfl ?_
        refine j_callVi C [] [] mv_X11_271 sh_0 rfl rfl (fun _ h => ctX11_pivot h) ⟨(Nat.le_of_ble_eq_true rfl), (Nat.le_of_ble_eq_true rfl)⟩ (Nat.le_of_ble_eq_true rfl) dX11_findTree_84 rfl (fun r5 => ?_)
        refine j_istore_n C (xs1 := [(0, .ref (gad g 0)), (2, .int v3), (3, .int r5)]) dX11_findTree_87 rfl (by decide) rfl ?_
        refine j_aload_n C 0 rfl dX11_findTree_88 rfl ?_
        refine j_dup C rfl dX11_findTree_89 ?_
        refine j_getI C fl_X11_258 sh_0 rfl rfl dX11_findTree_90 ?_
        refine j_iconst C (v := 1) (by decide) dX11_findTree_93 ?_
        refine j_iadd C dX11_findTree_94 ?_
        refine j_putI C fp_X11_258 sh_0 rfl rfl rfl rfl dX11_findTree_95 ?_
        refine j_aload_n C 0 rfl dX11_findTree_98 rfl ?_
        refine j_aload_n C 0 rfl dX11_findTree_99 rfl ?_
        refine j_getI C fl_X11_261 sh_0 rfl rfl dX11_findTree_100 ?_
        refine j_iload_n C 1 rfl dX11_findTree_103 rfl ?_
        refine j_callSi C [.int (gI (sI r1 0 20 ((gI r1 0 20) + 1)) 0 21), .int v3] [.ref (gad g 0)] ms_X11_80 (fun _ h => ctX11_greater h) ⟨(Nat.le_of_ble_eq_true rfl), (Nat.le_of_ble_eq_true rfl)⟩ (Nat.le_of_ble_eq_true rfl) dX11_findTree_104 rfl (fun r6 => ?_)
        refine j_putI C fp_X11_261 sh_0 rfl rfl rfl rfl dX11_findTree_107 ?_
        refine j_aload_n C 0 rfl dX11_findTree_110 rfl ?_
        refine j_iload_n C 2 rfl dX11_findTree_111 rfl ?_
        refine j_iload_n C 1 rfl dX11_findTree_112 rfl ?_
        refine j_callVvS C [.int r5, .int v3] [] mv_X11_274 sh_0 rfl rfl (fun _ h => ctX11_pushSum h) ⟨(Nat.le_of_ble_eq_true rfl), (Nat.le_of_ble_eq_true rfl)⟩ (Nat.le_of_ble_eq_true rfl) dX11_findTree_113 rfl (fun r7 => ?_)
        refine j_aload_n C 0 rfl dX11_findTree_116 rfl ?_
        refine j_iload_n C 2 rfl dX11_findTree_117 rfl ?_
        refine j_iload_n C 1 rfl dX11_findTree_118 rfl ?_
        refine j_callVvS C [.int r5, .int v3] [] mv_X11_278 sh_0 rfl rfl (fun _ h => ctX11_pushQuotient h) ⟨(Nat.le_of_ble_eq_true rfl), (Nat.le_of_ble_eq_true rfl)⟩ (Nat.le_of_ble_eq_true rfl) dX11_findTree_119 rfl (fun r8 => ?_)
        refine j_sub (xs1 := [(0, .ref (gad g 0))]) [0] rfl ?_
        exact wX11_findTree_122 C (mX11_findTree_53 n) ih r8
def mX11_findTree_12 : Nat → St → Int32 → Int32 → Option (St)
  | 0, _, _, _ => none
  | n + 1, S, x1, x2 => inb 16 x1 fun j1 => if (gA S 2 j1) ≤ x2 then (mX11_findTree_53 FU (sI (sI (sI S 0 17 1) 0 20 0) 0 21 0))
  else ((mX11_at S x1 x2).bind fun r2 => (mX11_push S r2).bind fun r3 => bnd (x2 + 1) fun v4 => mX11_findTree_12 n r3 x1 v4)
theorem wX11_findTree_12 {κ : KT} {g : GT} (C : CX κ g RX11 cX11_findTree 4 none 5 113) : ∀ (n : Nat) (S : St) (x1 : Int32) (x2 : Int32), J κ g 4 (fun a : St => (none, a)) S 12 [(0, .ref (gad g 0)), (1, .int x1), (2, .int x2)] [] (mX11_findTree_12 n S x1 x2) := by
  intro n
  induction n with
  | zero => intro S x1 x2; exact j_none
  | succ n ih =>
    intro S x1 x2
    rw [mX11_findTree_12]
    refine j_iload_n C 2 rfl dX11_findTree_12 rfl ?_
    refine j_aload_n C 0 rfl dX11_findTree_13 rfl ?_
    refine j_getR C (x := 2) fl_X11_13 sh_0 rfl rfl dX11_findTree_14 ?_
    refine j_iload_n C 1 rfl dX11_findTree_17 rfl ?_
    refine j_iald C sh_2 rfl dX11_findTree_18 (fun j1 => ?_)
    refine j_icmp_ge C 38 dX11_findTree_19 (by decide) ?_ ?_
    · refine j_aload_n C 0 rfl dX11_findTree_38 rfl ?_
      refine j_iconst C (v := 1) (by decide) dX11_findTree_39 ?_
      refine j_putI C fp_X11_243 sh_0 rfl rfl rfl rfl dX11_findTree_40 ?_
      refine j_aload_n C 0 rfl dX11_findTree_43 rfl ?_
      refine j_iconst C (v := 0) (by decide) dX11_findTree_44 ?_
      refine j_putI C fp_X11_258 sh_0 rfl rfl rfl rfl dX11_findTree_45 ?_
      refine j_aload_n C 0 rfl dX11_findTree_48 rfl ?_
      refine j_iconst C (v := 0) (by decide) dX11_findTree_49 ?_
      refine j_putI C fp_X11_261 sh_0 rfl rfl rfl rfl dX11_findTree_50 ?_
      refine j_sub (xs1 := [(0, .ref (gad g 0))]) [0] rfl ?_
      exact wX11_findTree_53 C FU (sI (sI (sI S 0 17 1) 0 20 0) 0 21 0)
    · refine j_aload_n C 0 rfl dX11_findTree_22 rfl ?_
      refine j_aload_n C 0 rfl dX11_findTree_23 rfl ?_
      refine j_iload_n C 1 rfl dX11_findTree_24 rfl ?_
      refine j_iload_n C 2 rfl dX11_findTree_25 rfl ?_
      refine j_callVi C [.int x1, .int x2] [.ref (gad g 0)] mv_X11_86 sh_0 rfl rfl (fun _ h => ctX11_at h) ⟨(Nat.le_of_ble_eq_true rfl), (Nat.le_of_ble_eq_true rfl)⟩ (Nat.le_of_ble_eq_true rfl) dX11_findTree_26 rfl (fun r2 => ?_)
      refine j_callVvS C [.int r2] [] mv_X11_249 sh_0 rfl rfl (fun _ h => ctX11_push h) ⟨(Nat.le_of_ble_eq_true rfl), (Nat.le_of_ble_eq_true rfl)⟩ (Nat.le_of_ble_eq_true rfl) dX11_findTree_29 rfl (fun r3 => ?_)
      refine j_iinc C (xs2 := fun v4 => [(0, .ref (gad g 0)), (1, .int x1), (2, .int v4)]) 2 rfl dX11_findTree_32 (by decide) (by decide) (fun _ => rfl) (fun v4 => ?_)
      refine j_goto C 12 dX11_findTree_35 (by decide) ?_
      exact ih r3 x1 v4
def mX11_findTree (S : St) (a0 : Int32) : Option (St) := (mX11_opens (sI S 0 17 0) 0).bind fun r1 => mX11_findTree_12 FU r1 a0 0
theorem wX11_findTree {κ : KT} {g : GT} (C : CX κ g RX11 cX11_findTree 4 none 5 113) (S : St) (a0 : Int32) : J κ g 4 (fun a : St => (none, a)) S 0 [(0, .ref (gad g 0)), (1, .int a0)] [] (mX11_findTree S a0) := by
  unfold mX11_findTree
  refine j_aload_n C 0 rfl dX11_findTree_0 rfl ?_
  refine j_iconst C (v := 0) (by decide) dX11_findTree_1 ?_
  refine j_putI C fp_X11_243 sh_0 rfl rfl rfl rfl dX11_findTree_2 ?_
  refine j_aload_n C 0 rfl dX11_findTree_5 rfl ?_
  refine j_iconst C (v := 0) (by decide) dX11_findTree_6 ?_
  refine j_callVvS C [.int 0] [] mv_X11_246 sh_0 rfl rfl (fun _ h => ctX11_opens h) ⟨(Nat.le_of_ble_eq_true rfl), (Nat.le_of_ble_eq_true rfl)⟩ (Nat.le_of_ble_eq_true rfl) dX11_findTree_7 rfl (fun r1 => ?_)
  refine j_iconst C (v := 0) (by decide) dX11_findTree_10 ?_
  refine j_istore_n C (xs1 := [(0, .ref (gad g 0)), (1, .int a0), (2, .int 0)]) dX11_findTree_11 rfl (by decide) rfl ?_
  exact wX11_findTree_12 C FU r1 a0 0
theorem ctX11_findTree {l : Launch} {g : GT} {S : St} {a0 : Int32} {out : St} (ho : mX11_findTree S a0 = some out) : CT l yX11_findTree cX11_findTree 4 none 5 113 [.ref (gad g 0), .int a0] g S ((fun a : St => (none, a)) out) := CT_of (φ := (fun a : St => (none, a))) [.ref (gad g 0), .int a0] ho (by decide) (Nat.le_of_ble_eq_true rfl) (xs := [(0, .ref (gad g 0)), (1, .int a0)]) rfl (fun κ C => wX11_findTree C S a0)
/-! StairIdealsModel.findLattice(I)V -/
def mX11_findLattice_100 (k24 : St → Int32 → Int32 → Option (St)) (k62 : St → Int32 → Int32 → Int32 → Option (St)) (S : St) (x1 : Int32) (x2 : Int32) (x3 : Int32) : Option (St) := bnd (x3 + 1) fun v1 => k62 S x1 x2 v1
theorem wX11_findLattice_100 {κ : KT} {g : GT} (C : CX κ g RX11 cX11_findLattice 4 none 3 64) (k24 : St → Int32 → Int32 → Option (St)) (hk24 : ∀ (S : St) (x1 : Int32) (x2 : Int32), J κ g 4 (fun a : St => (none, a)) S 24 [(0, .ref (gad g 0)), (1, .int x1), (2, .int x2)] [] (k24 S x1 x2)) (k62 : St → Int32 → Int32 → Int32 → Option (St)) (hk62 : ∀ (S : St) (x1 : Int32) (x2 : Int32) (x3 : Int32), J κ g 4 (fun a : St => (none, a)) S 62 [(0, .ref (gad g 0)), (1, .int x1), (2, .int x2), (3, .int x3)] [] (k62 S x1 x2 x3)) (S : St) (x1 : Int32) (x2 : Int32) (x3 : Int32) : J κ g 4 (fun a : St => (none, a)) S 100 [(0, .ref (gad g 0)), (1, .int x1), (2, .int x2), (3, .int x3)] [] (mX11_findLattice_100 k24 k62 S x1 x2 x3) := by
  unfold mX11_findLattice_100
  refine j_iinc C (xs2 := fun v1 => [(0, .ref (gad g 0)), (1, .int x1), (2, .int x2), (3, .int v1)]) 3 rfl dX11_findLattice_100 (by decide) (by decide) (fun _ => rfl) (fun v1 => ?_)
  refine j_goto C 62 dX11_findLattice_103 (by decide) ?_
  exact hk62 S x1 x2 v1
def mX11_findLattice_62 (k24 : St → Int32 → Int32 → Option (St)) : Nat → St → Int32 → Int32 → Int32 → Option (St)
  | 0, _, _, _, _ => none
  | n + 1, S, x1, x2, x3 => if 2401 ≤ x3 then ((mX11_at S x1 x2).bind fun r1 => (mX11_placeOf r1).bind fun r2 => inb 2401 r2 fun j3 => bnd (x2 + 1) fun v4 => k24 (sA S 14 j3 1) x1 v4)
  else (inb 2401 x3 fun j5 => if (gA S 4 j5) = 0 then (mX11_findLattice_100 k24 (mX11_findLattice_62 k24 n) S x1 x2 x3)
  else ((mX11_codeAt x3).bind fun r6 => (mX11_at S x1 x2).bind fun r7 => (mX11_together r6 r7).bind fun r8 => (mX11_placeOf r8).bind fun r9 => inb 2401 r9 fun j10 => mX11_findLattice_100 k24 (mX11_findLattice_62 k24 n) (sA S 14 j10 1) x1 x2 x3))
theorem wX11_findLattice_62 {κ : KT} {g : GT} (C : CX κ g RX11 cX11_findLattice 4 none 3 64) (k24 : St → Int32 → Int32 → Option (St)) (hk24 : ∀ (S : St) (x1 : Int32) (x2 : Int32), J κ g 4 (fun a : St => (none, a)) S 24 [(0, .ref (gad g 0)), (1, .int x1), (2, .int x2)] [] (k24 S x1 x2)) : ∀ (n : Nat) (S : St) (x1 : Int32) (x2 : Int32) (x3 : Int32), J κ g 4 (fun a : St => (none, a)) S 62 [(0, .ref (gad g 0)), (1, .int x1), (2, .int x2), (3, .int x3)] [] (mX11_findLattice_62 k24 n S x1 x2 x3) := by
  intro n
  induction n with
  | zero => intro S x1 x2 x3; exact j_none
  | succ n ih =>
    intro S x1 x2 x3
    rw [mX11_findLattice_62]
    refine j_iload_n C 3 rfl dX11_findLattice_62 rfl ?_
    refine j_sipush C (v := 2401) (by decide) dX11_findLattice_63 ?_
    refine j_icmp_ge C 106 dX11_findLattice_66 (by decide) ?_ ?_
    · refine j_aload_n C 0 rfl dX11_findLattice_106 rfl ?_
      refine j_getR C (x := 14) fl_X11_50 sh_0 rfl rfl dX11_findLattice_107 ?_
      refine j_aload_n C 0 rfl dX11_findLattice_110 rfl ?_
      refine j_iload_n C 1 rfl dX11_findLattice_111 rfl ?_
      refine j_iload_n C 2 rfl dX11_findLattice_112 rfl ?_
      refine j_callVi C [.int x1, .int x2] [.ref (gad g 14)] mv_X11_86 sh_0 rfl rfl (fun _ h => ctX11_at h) ⟨(Nat.le_of_ble_eq_true rfl), (Nat.le_of_ble_eq_true rfl)⟩ (Nat.le_of_ble_eq_true rfl) dX11_findLattice_113 rfl (fun r1 => ?_)
      refine j_callSi C [.int r1] [.ref (gad g 14)] ms_X11_96 (fun _ h => ctX11_placeOf h) ⟨(Nat.le_of_ble_eq_true rfl), (Nat.le_of_ble_eq_true rfl)⟩ (Nat.le_of_ble_eq_true rfl) dX11_findLattice_116 rfl (fun r2 => ?_)
      refine j_iconst C (v := 1) (by decide) dX11_findLattice_119 ?_
      refine j_zast C sh_14 rfl (by decide) dX11_findLattice_120 (fun j3 => ?_)
      refine j_iinc C (xs2 := fun v4 => [(0, .ref (gad g 0)), (1, .int x1), (2, .int v4), (3, .int x3)]) 2 rfl dX11_findLattice_121 (by decide) (by decide) (fun _ => rfl) (fun v4 => ?_)
      refine j_goto C 24 dX11_findLattice_124 (by decide) ?_
      refine j_sub (xs1 := [(0, .ref (gad g 0)), (1, .int x1), (2, .int v4)]) [0, 1, 2] rfl ?_
      exact hk24 (sA S 14 j3 1) x1 v4
    · refine j_aload_n C 0 rfl dX11_findLattice_69 rfl ?_
      refine j_getR C (x := 4) fl_X11_19 sh_0 rfl rfl dX11_findLattice_70 ?_
      refine j_iload_n C 3 rfl dX11_findLattice_73 rfl ?_
      refine j_zald C sh_4 rfl dX11_findLattice_74 (fun j5 => ?_)
      refine j_if_eq C 100 dX11_findLattice_75 (by decide) ?_ ?_
      · exact wX11_findLattice_100 C k24 hk24 (mX11_findLattice_62 k24 n) ih S x1 x2 x3
      · refine j_aload_n C 0 rfl dX11_findLattice_78 rfl ?_
        refine j_getR C (x := 14) fl_X11_50 sh_0 rfl rfl dX11_findLattice_79 ?_
        refine j_iload_n C 3 rfl dX11_findLattice_82 rfl ?_
        refine j_callSi C [.int x3] [.ref (gad g 14)] ms_X11_93 (fun _ h => ctX11_codeAt h) ⟨(Nat.le_of_ble_eq_true rfl), (Nat.le_of_ble_eq_true rfl)⟩ (Nat.le_of_ble_eq_true rfl) dX11_findLattice_83 rfl (fun r6 => ?_)
        refine j_aload_n C 0 rfl dX11_findLattice_86 rfl ?_
        refine j_iload_n C 1 rfl dX11_findLattice_87 rfl ?_
        refine j_iload_n C 2 rfl dX11_findLattice_88 rfl ?_
        refine j_callVi C [.int x1, .int x2] [.int r6, .ref (gad g 14)] mv_X11_86 sh_0 rfl rfl (fun _ h => ctX11_at h) ⟨(Nat.le_of_ble_eq_true rfl), (Nat.le_of_ble_eq_true rfl)⟩ (Nat.le_of_ble_eq_true rfl) dX11_findLattice_89 rfl (fun r7 => ?_)
        refine j_callSi C [.int r6, .int r7] [.ref (gad g 14)] ms_X11_281 (fun _ h => ctX11_together h) ⟨(Nat.le_of_ble_eq_true rfl), (Nat.le_of_ble_eq_true rfl)⟩ (Nat.le_of_ble_eq_true rfl) dX11_findLattice_92 rfl (fun r8 => ?_)
        refine j_callSi C [.int r8] [.ref (gad g 14)] ms_X11_96 (fun _ h => ctX11_placeOf h) ⟨(Nat.le_of_ble_eq_true rfl), (Nat.le_of_ble_eq_true rfl)⟩ (Nat.le_of_ble_eq_true rfl) dX11_findLattice_95 rfl (fun r9 => ?_)
        refine j_iconst C (v := 1) (by decide) dX11_findLattice_98 ?_
        refine j_zast C sh_14 rfl (by decide) dX11_findLattice_99 (fun j10 => ?_)
        exact wX11_findLattice_100 C k24 hk24 (mX11_findLattice_62 k24 n) ih (sA S 14 j10 1) x1 x2 x3
def mX11_findLattice_38 (k24 : St → Int32 → Int32 → Option (St)) : Nat → St → Int32 → Int32 → Int32 → Option (St)
  | 0, _, _, _, _ => none
  | n + 1, S, x1, x2, x3 => if x3 < 0 then (mX11_findLattice_62 k24 FU S x1 x2 0)
  else (inb 2401 x3 fun j1 => zbg (gA S 14 j1) <| inb 2401 x3 fun j2 => bnd (x3 + (-1)) fun v3 => mX11_findLattice_38 k24 n (sA S 4 j2 (gA S 14 j1)) x1 x2 v3)
theorem wX11_findLattice_38 {κ : KT} {g : GT} (C : CX κ g RX11 cX11_findLattice 4 none 3 64) (k24 : St → Int32 → Int32 → Option (St)) (hk24 : ∀ (S : St) (x1 : Int32) (x2 : Int32), J κ g 4 (fun a : St => (none, a)) S 24 [(0, .ref (gad g 0)), (1, .int x1), (2, .int x2)] [] (k24 S x1 x2)) : ∀ (n : Nat) (S : St) (x1 : Int32) (x2 : Int32) (x3 : Int32), J κ g 4 (fun a : St => (none, a)) S 38 [(0, .ref (gad g 0)), (1, .int x1), (2, .int x2), (3, .int x3)] [] (mX11_findLattice_38 k24 n S x1 x2 x3) := by
  intro n
  induction n with
  | zero => intro S x1 x2 x3; exact j_none
  | succ n ih =>
    intro S x1 x2 x3
    rw [mX11_findLattice_38]
    refine j_iload_n C 3 rfl dX11_findLattice_38 rfl ?_
    refine j_if_lt C 60 dX11_findLattice_39 (by decide) ?_ ?_
    · refine j_iconst C (v := 0) (by decide) dX11_findLattice_60 ?_
      refine j_istore_n C (xs1 := [(0, .ref (gad g 0)), (1, .int x1), (2, .int x2), (3, .int 0)]) dX11_findLattice_61 rfl (by decide) rfl ?_
      exact wX11_findLattice_62 C k24 hk24 FU S x1 x2 0
    · refine j_aload_n C 0 rfl dX11_findLattice_42 rfl ?_
      refine j_getR C (x := 4) fl_X11_19 sh_0 rfl rfl dX11_findLattice_43 ?_
      refine j_iload_n C 3 rfl dX11_findLattice_46 rfl ?_
      refine j_aload_n C 0 rfl dX11_findLattice_47 rfl ?_
      refine j_getR C (x := 14) fl_X11_50 sh_0 rfl rfl dX11_findLattice_48 ?_
      refine j_iload_n C 3 rfl dX11_findLattice_51 rfl ?_
      refine j_zald C sh_14 rfl dX11_findLattice_52 (fun j1 => ?_)
      refine j_zbg (fun hb => ?_)
      refine j_zast C sh_4 rfl hb dX11_findLattice_53 (fun j2 => ?_)
      refine j_iinc C (xs2 := fun v3 => [(0, .ref (gad g 0)), (1, .int x1), (2, .int x2), (3, .int v3)]) 3 rfl dX11_findLattice_54 (by decide) (by decide) (fun _ => rfl) (fun v3 => ?_)
      refine j_goto C 38 dX11_findLattice_57 (by decide) ?_
      exact ih (sA S 4 j2 (gA S 14 j1)) x1 x2 v3
def mX11_findLattice_24 : Nat → St → Int32 → Int32 → Option (St)
  | 0, _, _, _ => none
  | n + 1, S, x1, x2 => inb 16 x1 fun j1 => if (gA S 2 j1) ≤ x2 then (some S)
  else (mX11_findLattice_38 (mX11_findLattice_24 n) FU S x1 x2 2400)
theorem wX11_findLattice_24 {κ : KT} {g : GT} (C : CX κ g RX11 cX11_findLattice 4 none 3 64) : ∀ (n : Nat) (S : St) (x1 : Int32) (x2 : Int32), J κ g 4 (fun a : St => (none, a)) S 24 [(0, .ref (gad g 0)), (1, .int x1), (2, .int x2)] [] (mX11_findLattice_24 n S x1 x2) := by
  intro n
  induction n with
  | zero => intro S x1 x2; exact j_none
  | succ n ih =>
    intro S x1 x2
    rw [mX11_findLattice_24]
    refine j_iload_n C 2 rfl dX11_findLattice_24 rfl ?_
    refine j_aload_n C 0 rfl dX11_findLattice_25 rfl ?_
    refine j_getR C (x := 2) fl_X11_13 sh_0 rfl rfl dX11_findLattice_26 ?_
    refine j_iload_n C 1 rfl dX11_findLattice_29 rfl ?_
    refine j_iald C sh_2 rfl dX11_findLattice_30 (fun j1 => ?_)
    refine j_icmp_ge C 127 dX11_findLattice_31 (by decide) ?_ ?_
    · exact j_vret C rfl dX11_findLattice_127
    · refine j_sipush C (v := 2400) (by decide) dX11_findLattice_34 ?_
      refine j_istore_n C (xs1 := [(0, .ref (gad g 0)), (1, .int x1), (2, .int x2), (3, .int 2400)]) dX11_findLattice_37 rfl (by decide) rfl ?_
      exact wX11_findLattice_38 C (mX11_findLattice_24 n) ih FU S x1 x2 2400
def mX11_findLattice_2 : Nat → St → Int32 → Int32 → Option (St)
  | 0, _, _, _ => none
  | n + 1, S, x1, x2 => if 2401 ≤ x2 then (mX11_findLattice_24 FU S x1 0)
  else (inb 2401 x2 fun j1 => bnd (x2 + 1) fun v2 => mX11_findLattice_2 n (sA S 14 j1 0) x1 v2)
theorem wX11_findLattice_2 {κ : KT} {g : GT} (C : CX κ g RX11 cX11_findLattice 4 none 3 64) : ∀ (n : Nat) (S : St) (x1 : Int32) (x2 : Int32), J κ g 4 (fun a : St => (none, a)) S 2 [(0, .ref (gad g 0)), (1, .int x1), (2, .int x2)] [] (mX11_findLattice_2 n S x1 x2) := by
  intro n
  induction n with
  | zero => intro S x1 x2; exact j_none
  | succ n ih =>
    intro S x1 x2
    rw [mX11_findLattice_2]
    refine j_iload_n C 2 rfl dX11_findLattice_2 rfl ?_
    refine j_sipush C (v := 2401) (by decide) dX11_findLattice_3 ?_
    refine j_icmp_ge C 22 dX11_findLattice_6 (by decide) ?_ ?_
    · refine j_iconst C (v := 0) (by decide) dX11_findLattice_22 ?_
      refine j_istore_n C (xs1 := [(0, .ref (gad g 0)), (1, .int x1), (2, .int 0)]) dX11_findLattice_23 rfl (by decide) rfl ?_
      exact wX11_findLattice_24 C FU S x1 0
    · refine j_aload_n C 0 rfl dX11_findLattice_9 rfl ?_
      refine j_getR C (x := 14) fl_X11_50 sh_0 rfl rfl dX11_findLattice_10 ?_
      refine j_iload_n C 2 rfl dX11_findLattice_13 rfl ?_
      refine j_iconst C (v := 0) (by decide) dX11_findLattice_14 ?_
      refine j_zast C sh_14 rfl (by decide) dX11_findLattice_15 (fun j1 => ?_)
      refine j_iinc C (xs2 := fun v2 => [(0, .ref (gad g 0)), (1, .int x1), (2, .int v2)]) 2 rfl dX11_findLattice_16 (by decide) (by decide) (fun _ => rfl) (fun v2 => ?_)
      refine j_goto C 2 dX11_findLattice_19 (by decide) ?_
      exact ih (sA S 14 j1 0) x1 v2
def mX11_findLattice (S : St) (a0 : Int32) : Option (St) := mX11_findLattice_2 FU S a0 0
theorem wX11_findLattice {κ : KT} {g : GT} (C : CX κ g RX11 cX11_findLattice 4 none 3 64) (S : St) (a0 : Int32) : J κ g 4 (fun a : St => (none, a)) S 0 [(0, .ref (gad g 0)), (1, .int a0)] [] (mX11_findLattice S a0) := by
  unfold mX11_findLattice
  refine j_iconst C (v := 0) (by decide) dX11_findLattice_0 ?_
  refine j_istore_n C (xs1 := [(0, .ref (gad g 0)), (1, .int a0), (2, .int 0)]) dX11_findLattice_1 rfl (by decide) rfl ?_
  exact wX11_findLattice_2 C FU S a0 0
theorem ctX11_findLattice {l : Launch} {g : GT} {S : St} {a0 : Int32} {out : St} (ho : mX11_findLattice S a0 = some out) : CT l yX11_findLattice cX11_findLattice 4 none 3 64 [.ref (gad g 0), .int a0] g S ((fun a : St => (none, a)) out) := CT_of (φ := (fun a : St => (none, a))) [.ref (gad g 0), .int a0] ho (by decide) (Nat.le_of_ble_eq_true rfl) (xs := [(0, .ref (gad g 0)), (1, .int a0)]) rfl (fun κ C => wX11_findLattice C S a0)
/-! StairIdealsModel.latticeMany(I)I -/
def mX11_latticeMany_31 (k9 : St → Int32 → Int32 → Option (Int32 × St)) (S : St) (x3 : Int32) (s0 : Int32) (s1 : Int32) : Option (Int32 × St) := bnd (s1 + s0) fun v1 => bnd (x3 + 1) fun v2 => k9 S v1 v2
theorem wX11_latticeMany_31 {κ : KT} {g : GT} (C : CX κ g RX11 cX11_latticeMany 4 (some .int) 4 87) (k9 : St → Int32 → Int32 → Option (Int32 × St)) (hk9 : ∀ (S : St) (x2 : Int32) (x3 : Int32), J κ g 4 (fun a : Int32 × St => (some (Value.int a.1), a.2)) S 9 [(0, .ref (gad g 0)), (2, .int x2), (3, .int x3)] [] (k9 S x2 x3)) (S : St) (x3 : Int32) (s0 : Int32) (s1 : Int32) : J κ g 4 (fun a : Int32 × St => (some (Value.int a.1), a.2)) S 31 [(0, .ref (gad g 0)), (3, .int x3)] [.int s0, .int s1] (mX11_latticeMany_31 k9 S x3 s0 s1) := by
  unfold mX11_latticeMany_31
  refine j_iadd C dX11_latticeMany_31 ?_
  refine j_topi (fun v1 => ?_)
  refine j_istore_n C (xs1 := [(0, .ref (gad g 0)), (2, .int v1), (3, .int x3)]) dX11_latticeMany_32 rfl (by decide) rfl ?_
  refine j_iinc C (xs2 := fun v2 => [(0, .ref (gad g 0)), (2, .int v1), (3, .int v2)]) 2 rfl dX11_latticeMany_33 (by decide) (by decide) (fun _ => rfl) (fun v2 => ?_)
  refine j_goto C 9 dX11_latticeMany_36 (by decide) ?_
  exact hk9 S v1 v2
def mX11_latticeMany_9 : Nat → St → Int32 → Int32 → Option (Int32 × St)
  | 0, _, _, _ => none
  | n + 1, S, x2, x3 => if 2401 ≤ x3 then (some (x2, S))
  else (inb 2401 x3 fun j1 => if (gA S 14 j1) = 0 then (mX11_latticeMany_31 (mX11_latticeMany_9 n) S x3 0 x2)
  else (mX11_latticeMany_31 (mX11_latticeMany_9 n) S x3 1 x2))
theorem wX11_latticeMany_9 {κ : KT} {g : GT} (C : CX κ g RX11 cX11_latticeMany 4 (some .int) 4 87) : ∀ (n : Nat) (S : St) (x2 : Int32) (x3 : Int32), J κ g 4 (fun a : Int32 × St => (some (Value.int a.1), a.2)) S 9 [(0, .ref (gad g 0)), (2, .int x2), (3, .int x3)] [] (mX11_latticeMany_9 n S x2 x3) := by
  intro n
  induction n with
  | zero => intro S x2 x3; exact j_none
  | succ n ih =>
    intro S x2 x3
    rw [mX11_latticeMany_9]
    refine j_iload_n C 2 rfl dX11_latticeMany_9 rfl ?_
    refine j_sipush C (v := 2401) (by decide) dX11_latticeMany_10 ?_
    refine j_icmp_ge C 39 dX11_latticeMany_13 (by decide) ?_ ?_
    · refine j_iload_n C 1 rfl dX11_latticeMany_39 rfl ?_
      exact j_iret C rfl dX11_latticeMany_40
    · refine j_iload_n C 1 rfl dX11_latticeMany_16 rfl ?_
      refine j_aload_n C 0 rfl dX11_latticeMany_17 rfl ?_
      refine j_getR C (x := 14) fl_X11_50 sh_0 rfl rfl dX11_latticeMany_18 ?_
      refine j_iload_n C 2 rfl dX11_latticeMany_21 rfl ?_
      refine j_zald C sh_14 rfl dX11_latticeMany_22 (fun j1 => ?_)
      refine j_if_eq C 30 dX11_latticeMany_23 (by decide) ?_ ?_
      · refine j_iconst C (v := 0) (by decide) dX11_latticeMany_30 ?_
        refine j_sub (xs1 := [(0, .ref (gad g 0)), (3, .int x3)]) [0, 2] rfl ?_
        exact wX11_latticeMany_31 C (mX11_latticeMany_9 n) ih S x3 0 x2
      · refine j_iconst C (v := 1) (by decide) dX11_latticeMany_26 ?_
        refine j_goto C 31 dX11_latticeMany_27 (by decide) ?_
        refine j_sub (xs1 := [(0, .ref (gad g 0)), (3, .int x3)]) [0, 2] rfl ?_
        exact wX11_latticeMany_31 C (mX11_latticeMany_9 n) ih S x3 1 x2
def mX11_latticeMany (S : St) (a0 : Int32) : Option (Int32 × St) := (mX11_findLattice S a0).bind fun r1 => mX11_latticeMany_9 FU r1 0 0
theorem wX11_latticeMany {κ : KT} {g : GT} (C : CX κ g RX11 cX11_latticeMany 4 (some .int) 4 87) (S : St) (a0 : Int32) : J κ g 4 (fun a : Int32 × St => (some (Value.int a.1), a.2)) S 0 [(0, .ref (gad g 0)), (1, .int a0)] [] (mX11_latticeMany S a0) := by
  unfold mX11_latticeMany
  refine j_aload_n C 0 rfl dX11_latticeMany_0 rfl ?_
  refine j_iload_n C 1 rfl dX11_latticeMany_1 rfl ?_
  refine j_callVvS C [.int a0] [] mv_X11_284 sh_0 rfl rfl (fun _ h => ctX11_findLattice h) ⟨(Nat.le_of_ble_eq_true rfl), (Nat.le_of_ble_eq_true rfl)⟩ (Nat.le_of_ble_eq_true rfl) dX11_latticeMany_2 rfl (fun r1 => ?_)
  refine j_iconst C (v := 0) (by decide) dX11_latticeMany_5 ?_
  refine j_istore_n C (xs1 := [(0, .ref (gad g 0)), (1, .int a0), (2, .int 0)]) dX11_latticeMany_6 rfl (by decide) rfl ?_
  refine j_iconst C (v := 0) (by decide) dX11_latticeMany_7 ?_
  refine j_istore_n C (xs1 := [(0, .ref (gad g 0)), (1, .int a0), (2, .int 0), (3, .int 0)]) dX11_latticeMany_8 rfl (by decide) rfl ?_
  refine j_sub (xs1 := [(0, .ref (gad g 0)), (2, .int 0), (3, .int 0)]) [0, 2, 3] rfl ?_
  exact wX11_latticeMany_9 C FU r1 0 0
theorem ctX11_latticeMany {l : Launch} {g : GT} {S : St} {a0 : Int32} {out : Int32 × St} (ho : mX11_latticeMany S a0 = some out) : CT l yX11_latticeMany cX11_latticeMany 4 (some .int) 4 87 [.ref (gad g 0), .int a0] g S ((fun a : Int32 × St => (some (Value.int a.1), a.2)) out) := CT_of (φ := (fun a : Int32 × St => (some (Value.int a.1), a.2))) [.ref (gad g 0), .int a0] ho (by decide) (Nat.le_of_ble_eq_true rfl) (xs := [(0, .ref (gad g 0)), (1, .int a0)]) rfl (fun κ C => wX11_latticeMany C S a0)
/-! StairIdealsModel.sizeTold(I)I -/
def mX11_sizeTold (S : St) (a0 : Int32) : Option (Int32 × St) := (mX11_findParts S a0).bind fun r1 => if (gI r1 0 13) = 0 then (some (0, r1))
  else ((mX11_sizeOf r1 a0).bind fun r2 => some (r2.1, r2.2))
theorem wX11_sizeTold {κ : KT} {g : GT} (C : CX κ g RX11 cX11_sizeTold 2 (some .int) 7 155) (S : St) (a0 : Int32) : J κ g 2 (fun a : Int32 × St => (some (Value.int a.1), a.2)) S 0 [(0, .ref (gad g 0)), (1, .int a0)] [] (mX11_sizeTold S a0) := by
  unfold mX11_sizeTold
  refine j_aload_n C 0 rfl dX11_sizeTold_0 rfl ?_
  refine j_iload_n C 1 rfl dX11_sizeTold_1 rfl ?_
  refine j_callVvS C [.int a0] [] mv_X11_207 sh_0 rfl rfl (fun _ h => ctX11_findParts h) ⟨(Nat.le_of_ble_eq_true rfl), (Nat.le_of_ble_eq_true rfl)⟩ (Nat.le_of_ble_eq_true rfl) dX11_sizeTold_2 rfl (fun r1 => ?_)
  refine j_aload_n C 0 rfl dX11_sizeTold_5 rfl ?_
  refine j_getI C fl_X11_195 sh_0 rfl rfl dX11_sizeTold_6 ?_
  refine j_if_ne C 16 dX11_sizeTold_9 (by decide) ?_ ?_
  · refine j_aload_n C 0 rfl dX11_sizeTold_16 rfl ?_
    refine j_iload_n C 1 rfl dX11_sizeTold_17 rfl ?_
    refine j_callViS C [.int a0] [] mv_X11_287 sh_0 rfl rfl (fun _ h => ctX11_sizeOf h) ⟨(Nat.le_of_ble_eq_true rfl), (Nat.le_of_ble_eq_true rfl)⟩ (Nat.le_of_ble_eq_true rfl) dX11_sizeTold_18 rfl (fun r2 => ?_)
    exact j_iret C rfl dX11_sizeTold_21
  · refine j_iconst C (v := 0) (by decide) dX11_sizeTold_12 ?_
    refine j_goto C 21 dX11_sizeTold_13 (by decide) ?_
    exact j_iret C rfl dX11_sizeTold_21
theorem ctX11_sizeTold {l : Launch} {g : GT} {S : St} {a0 : Int32} {out : Int32 × St} (ho : mX11_sizeTold S a0 = some out) : CT l yX11_sizeTold cX11_sizeTold 2 (some .int) 7 155 [.ref (gad g 0), .int a0] g S ((fun a : Int32 × St => (some (Value.int a.1), a.2)) out) := CT_of (φ := (fun a : Int32 × St => (some (Value.int a.1), a.2))) [.ref (gad g 0), .int a0] ho (by decide) (Nat.le_of_ble_eq_true rfl) (xs := [(0, .ref (gad g 0)), (1, .int a0)]) rfl (fun κ C => wX11_sizeTold C S a0)
/-! StairIdealsModel.facts(II)I -/
def mX11_facts (S : St) (a0 : Int32) (a1 : Int32) : Option (Int32 × St) := (mX11_isIdeal a0).bind fun r1 => if r1 = 0 then (some ((-1), S))
  else ((mX11_in a1.toInt64 0 4).bind fun r2 => if r2 = 0 then (some ((-2), S))
  else (if a1 = 0 then ((mX11_findParts S a0).bind fun r3 => (mX11_dimension r3).bind fun r4 => some (r4, r3))
  else if a1 = 1 then ((mX11_sizeTold S a0).bind fun r5 => some (r5.1, r5.2))
  else if a1 = 2 then ((mX11_findTree S a0).bind fun r6 => if a1 = 2 then (some (gI r6 0 20, r6))
  else (some (gI r6 0 21, r6)))
  else if a1 = 3 then ((mX11_findTree S a0).bind fun r7 => if a1 = 2 then (some (gI r7 0 20, r7))
  else (some (gI r7 0 21, r7)))
  else if a1 = 4 then ((mX11_latticeMany S a0).bind fun r8 => some (r8.1, r8.2))
  else ((mX11_findTree S a0).bind fun r9 => if a1 = 2 then (some (gI r9 0 20, r9))
  else (some (gI r9 0 21, r9)))))
theorem wX11_facts {κ : KT} {g : GT} (C : CX κ g RX11 cX11_facts 3 (some .int) 8 176) (S : St) (a0 : Int32) (a1 : Int32) : J κ g 3 (fun a : Int32 × St => (some (Value.int a.1), a.2)) S 0 [(0, .ref (gad g 0)), (1, .int a0), (2, .int a1)] [] (mX11_facts S a0 a1) := by
  unfold mX11_facts
  refine j_iload_n C 1 rfl dX11_facts_0 rfl ?_
  refine j_callSi C [.int a0] [] ms_X11_128 (fun _ h => ctX11_isIdeal h) ⟨(Nat.le_of_ble_eq_true rfl), (Nat.le_of_ble_eq_true rfl)⟩ (Nat.le_of_ble_eq_true rfl) dX11_facts_1 rfl (fun r1 => ?_)
  refine j_if_ne C 9 dX11_facts_4 (by decide) ?_ ?_
  · refine j_iload_n C 2 rfl dX11_facts_9 rfl ?_
    refine j_i2l C dX11_facts_10 ?_
    refine j_lconst C (v := 0) (by decide) dX11_facts_11 ?_
    refine j_ldc2 C (v := 4) wd_915 dX11_facts_12 ?_
    refine j_callSi C [.long a1.toInt64, .long 0, .long 4] [] ms_X11_64 (fun _ h => ctX11_in h) ⟨(Nat.le_of_ble_eq_true rfl), (Nat.le_of_ble_eq_true rfl)⟩ (Nat.le_of_ble_eq_true rfl) dX11_facts_15 rfl (fun r2 => ?_)
    refine j_if_ne C 24 dX11_facts_18 (by decide) ?_ ?_
    · refine j_iload_n C 2 rfl dX11_facts_24 rfl ?_
      refine j_case (fun hx0 => ?_) (fun hx0 => ?_)
      · refine j_tswIn C (off := 35) 60 hx0 dX11_facts_25 (by decide) (by decide) (by decide) (by decide) ?_
        refine j_aload_n C 0 rfl dX11_facts_60 rfl ?_
        refine j_iload_n C 1 rfl dX11_facts_61 rfl ?_
        refine j_callVvS C [.int a0] [] mv_X11_207 sh_0 rfl rfl (fun _ h => ctX11_findParts h) ⟨(Nat.le_of_ble_eq_true rfl), (Nat.le_of_ble_eq_true rfl)⟩ (Nat.le_of_ble_eq_true rfl) dX11_facts_62 rfl (fun r3 => ?_)
        refine j_aload_n C 0 rfl dX11_facts_65 rfl ?_
        refine j_callVi C [] [] mv_X11_237 sh_0 rfl rfl (fun _ h => ctX11_dimension h) ⟨(Nat.le_of_ble_eq_true rfl), (Nat.le_of_ble_eq_true rfl)⟩ (Nat.le_of_ble_eq_true rfl) dX11_facts_66 rfl (fun r4 => ?_)
        exact j_iret C rfl dX11_facts_69
      refine j_case (fun hx1 => ?_) (fun hx1 => ?_)
      · refine j_tswIn C (off := 45) 70 hx1 dX11_facts_25 (by decide) (by decide) (by decide) (by decide) ?_
        refine j_aload_n C 0 rfl dX11_facts_70 rfl ?_
        refine j_iload_n C 1 rfl dX11_facts_71 rfl ?_
        refine j_callViS C [.int a0] [] mv_X11_290 sh_0 rfl rfl (fun _ h => ctX11_sizeTold h) ⟨(Nat.le_of_ble_eq_true rfl), (Nat.le_of_ble_eq_true rfl)⟩ (Nat.le_of_ble_eq_true rfl) dX11_facts_72 rfl (fun r5 => ?_)
        exact j_iret C rfl dX11_facts_75
      refine j_case (fun hx2 => ?_) (fun hx2 => ?_)
      · refine j_tswIn C (off := 57) 82 hx2 dX11_facts_25 (by decide) (by decide) (by decide) (by decide) ?_
        refine j_aload_n C 0 rfl dX11_facts_82 rfl ?_
        refine j_iload_n C 1 rfl dX11_facts_83 rfl ?_
        refine j_callVvS C [.int a0] [] mv_X11_296 sh_0 rfl rfl (fun _ h => ctX11_findTree h) ⟨(Nat.le_of_ble_eq_true rfl), (Nat.le_of_ble_eq_true rfl)⟩ (Nat.le_of_ble_eq_true rfl) dX11_facts_84 rfl (fun r6 => ?_)
        refine j_iload_n C 2 rfl dX11_facts_87 rfl ?_
        refine j_iconst C (v := 2) (by decide) dX11_facts_88 ?_
        refine j_icmp_ne C 99 dX11_facts_89 (by decide) ?_ ?_
        · refine j_aload_n C 0 rfl dX11_facts_99 rfl ?_
          refine j_getI C fl_X11_261 sh_0 rfl rfl dX11_facts_100 ?_
          exact j_iret C rfl dX11_facts_103
        · refine j_aload_n C 0 rfl dX11_facts_92 rfl ?_
          refine j_getI C fl_X11_258 sh_0 rfl rfl dX11_facts_93 ?_
          refine j_goto C 103 dX11_facts_96 (by decide) ?_
          exact j_iret C rfl dX11_facts_103
      refine j_case (fun hx3 => ?_) (fun hx3 => ?_)
      · refine j_tswIn C (off := 57) 82 hx3 dX11_facts_25 (by decide) (by decide) (by decide) (by decide) ?_
        refine j_aload_n C 0 rfl dX11_facts_82 rfl ?_
        refine j_iload_n C 1 rfl dX11_facts_83 rfl ?_
        refine j_callVvS C [.int a0] [] mv_X11_296 sh_0 rfl rfl (fun _ h => ctX11_findTree h) ⟨(Nat.le_of_ble_eq_true rfl), (Nat.le_of_ble_eq_true rfl)⟩ (Nat.le_of_ble_eq_true rfl) dX11_facts_84 rfl (fun r7 => ?_)
        refine j_iload_n C 2 rfl dX11_facts_87 rfl ?_
        refine j_iconst C (v := 2) (by decide) dX11_facts_88 ?_
        refine j_icmp_ne C 99 dX11_facts_89 (by decide) ?_ ?_
        · refine j_aload_n C 0 rfl dX11_facts_99 rfl ?_
          refine j_getI C fl_X11_261 sh_0 rfl rfl dX11_facts_100 ?_
          exact j_iret C rfl dX11_facts_103
        · refine j_aload_n C 0 rfl dX11_facts_92 rfl ?_
          refine j_getI C fl_X11_258 sh_0 rfl rfl dX11_facts_93 ?_
          refine j_goto C 103 dX11_facts_96 (by decide) ?_
          exact j_iret C rfl dX11_facts_103
      refine j_case (fun hx4 => ?_) (fun hx4 => ?_)
      · refine j_tswIn C (off := 51) 76 hx4 dX11_facts_25 (by decide) (by decide) (by decide) (by decide) ?_
        refine j_aload_n C 0 rfl dX11_facts_76 rfl ?_
        refine j_iload_n C 1 rfl dX11_facts_77 rfl ?_
        refine j_callViS C [.int a0] [] mv_X11_293 sh_0 rfl rfl (fun _ h => ctX11_latticeMany h) ⟨(Nat.le_of_ble_eq_true rfl), (Nat.le_of_ble_eq_true rfl)⟩ (Nat.le_of_ble_eq_true rfl) dX11_facts_78 rfl (fun r8 => ?_)
        exact j_iret C rfl dX11_facts_81
      refine j_tswOut4 C 82 dX11_facts_25 hx0 hx1 hx2 hx3 hx4 (by decide) ?_
      refine j_aload_n C 0 rfl dX11_facts_82 rfl ?_
      refine j_iload_n C 1 rfl dX11_facts_83 rfl ?_
      refine j_callVvS C [.int a0] [] mv_X11_296 sh_0 rfl rfl (fun _ h => ctX11_findTree h) ⟨(Nat.le_of_ble_eq_true rfl), (Nat.le_of_ble_eq_true rfl)⟩ (Nat.le_of_ble_eq_true rfl) dX11_facts_84 rfl (fun r9 => ?_)
      refine j_iload_n C 2 rfl dX11_facts_87 rfl ?_
      refine j_iconst C (v := 2) (by decide) dX11_facts_88 ?_
      refine j_icmp_ne C 99 dX11_facts_89 (by decide) ?_ ?_
      · refine j_aload_n C 0 rfl dX11_facts_99 rfl ?_
        refine j_getI C fl_X11_261 sh_0 rfl rfl dX11_facts_100 ?_
        exact j_iret C rfl dX11_facts_103
      · refine j_aload_n C 0 rfl dX11_facts_92 rfl ?_
        refine j_getI C fl_X11_258 sh_0 rfl rfl dX11_facts_93 ?_
        refine j_goto C 103 dX11_facts_96 (by decide) ?_
        exact j_iret C rfl dX11_facts_103
    · refine j_bipush C (v := (-2)) (by decide) dX11_facts_21 ?_
      exact j_iret C rfl dX11_facts_23
  · refine j_iconst C (v := (-1)) (by decide) dX11_facts_7 ?_
    exact j_iret C rfl dX11_facts_8
theorem ctX11_facts {l : Launch} {g : GT} {S : St} {a0 : Int32} {a1 : Int32} {out : Int32 × St} (ho : mX11_facts S a0 a1 = some out) : CT l yX11_facts cX11_facts 3 (some .int) 8 176 [.ref (gad g 0), .int a0, .int a1] g S ((fun a : Int32 × St => (some (Value.int a.1), a.2)) out) := CT_of (φ := (fun a : Int32 × St => (some (Value.int a.1), a.2))) [.ref (gad g 0), .int a0, .int a1] ho (by decide) (Nat.le_of_ble_eq_true rfl) (xs := [(0, .ref (gad g 0)), (1, .int a0), (2, .int a1)]) rfl (fun κ C => wX11_facts C S a0 a1)
