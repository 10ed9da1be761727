/-! StairIdeals$Pad.acceptLetter(I)Z -/
def mX4_acceptLetter (S : St) (a0 : Int32) : Option (Int32 × St) := if (gI S 19 4) = 1 then (some (0, S))
  else ((mX3_exponent (gI S 19 6) a0).bind fun r1 => if r1 < 6 then ((mX3_power a0 1).bind fun r2 => some (1, (sI (sI (sI S 19 5 a0) 19 6 ((gI (sI S 19 5 a0) 19 6) + r2)) 19 4 2)))
  else (some (0, S)))
theorem wX4_acceptLetter {κ : KT} {g : GT} (C : CX κ g RX4 cX4_acceptLetter 2 (some .boolean) 1 21) (S : St) (a0 : Int32) : J κ g 2 (fun a : Int32 × St => (some (Value.int a.1), a.2)) S 0 [(0, .ref (gad g 19)), (1, .int a0)] [] (mX4_acceptLetter S a0) := by
  unfold mX4_acceptLetter
  refine j_aload_n C 0 rfl dX4_acceptLetter_0 rfl ?_
  refine j_getI C fl_X4_36 sh_19 rfl rfl dX4_acceptLetter_1 ?_
  refine j_iconst C (v := 1) (by decide) dX4_acceptLetter_4 ?_
  refine j_icmp_eq C 21 dX4_acceptLetter_5 (by decide) ?_ ?_
  · refine j_iconst C (v := 0) (by decide) dX4_acceptLetter_21 ?_
    exact j_zret C rfl rfl dX4_acceptLetter_22
  · refine j_aload_n C 0 rfl dX4_acceptLetter_8 rfl ?_
    refine j_getI C fl_X4_39 sh_19 rfl rfl dX4_acceptLetter_9 ?_
    refine j_iload_n C 1 rfl dX4_acceptLetter_12 rfl ?_
    refine j_callSi C [.int (gI S 19 6), .int a0] [] ms_X4_48 (fun _ h => ctX3_exponent h) ⟨(Nat.le_of_ble_eq_true rfl), (Nat.le_of_ble_eq_true rfl)⟩ (Nat.le_of_ble_eq_true rfl) dX4_acceptLetter_13 rfl (fun r1 => ?_)
    refine j_bipush C (v := 6) (by decide) dX4_acceptLetter_16 ?_
    refine j_icmp_lt C 23 dX4_acceptLetter_18 (by decide) ?_ ?_
    · refine j_aload_n C 0 rfl dX4_acceptLetter_23 rfl ?_
      refine j_iload_n C 1 rfl dX4_acceptLetter_24 rfl ?_
      refine j_putI C fp_X4_54 sh_19 rfl rfl rfl rfl dX4_acceptLetter_25 ?_
      refine j_aload_n C 0 rfl dX4_acceptLetter_28 rfl ?_
      refine j_dup C rfl dX4_acceptLetter_29 ?_
      refine j_getI C fl_X4_39 sh_19 rfl rfl dX4_acceptLetter_30 ?_
      refine j_iload_n C 1 rfl dX4_acceptLetter_33 rfl ?_
      refine j_iconst C (v := 1) (by decide) dX4_acceptLetter_34 ?_
      refine j_callSi C [.int a0, .int 1] [.int (gI (sI S 19 5 a0) 19 6), .ref (gad g 19)] ms_X4_57 (fun _ h => ctX3_power h) ⟨(Nat.le_of_ble_eq_true rfl), (Nat.le_of_ble_eq_true rfl)⟩ (Nat.le_of_ble_eq_true rfl) dX4_acceptLetter_35 rfl (fun r2 => ?_)
      refine j_iadd C dX4_acceptLetter_38 ?_
      refine j_putI C fp_X4_39 sh_19 rfl rfl rfl rfl dX4_acceptLetter_39 ?_
      refine j_aload_n C 0 rfl dX4_acceptLetter_42 rfl ?_
      refine j_iconst C (v := 2) (by decide) dX4_acceptLetter_43 ?_
      refine j_putI C fp_X4_36 sh_19 rfl rfl rfl rfl dX4_acceptLetter_44 ?_
      refine j_iconst C (v := 1) (by decide) dX4_acceptLetter_47 ?_
      exact j_zret C rfl rfl dX4_acceptLetter_48
    · refine j_iconst C (v := 0) (by decide) dX4_acceptLetter_21 ?_
      exact j_zret C rfl rfl dX4_acceptLetter_22
theorem ctX4_acceptLetter {l : Launch} {g : GT} {S : St} {a0 : Int32} {out : Int32 × St} (ho : mX4_acceptLetter S a0 = some out) : CT l yX4_acceptLetter cX4_acceptLetter 2 (some .boolean) 1 21 [.ref (gad g 19), .int a0] g S ((fun a : Int32 × St => (some (Value.int a.1), a.2)) out) := CT_of (φ := (fun a : Int32 × St => (some (Value.int a.1), a.2))) [.ref (gad g 19), .int a0] ho (by decide) (Nat.le_of_ble_eq_true rfl) (xs := [(0, .ref (gad g 19)), (1, .int a0)]) rfl (fun κ C => wX4_acceptLetter C S a0)
/-! StairIdeals$Pad.acceptFigure(I)Z -/
def mX4_acceptFigure_19 (S : St) (x1 : Int32) : Option (Int32 × St) := bnd (x1 - 1) fun v1 => if (gI S 19 4) = 2 then ((mX3_exponent (gI S 19 6) (gI S 19 5)).bind fun r2 => if (r2 + v1) ≤ 6 then ((mX3_power (gI S 19 5) v1).bind fun r3 => some (1, (sI (sI S 19 6 ((gI S 19 6) + r3)) 19 4 3)))
  else (some (0, S)))
  else (some (0, S))
theorem wX4_acceptFigure_19 {κ : KT} {g : GT} (C : CX κ g RX4 cX4_acceptFigure 3 (some .boolean) 1 21) (S : St) (x1 : Int32) : J κ g 3 (fun a : Int32 × St => (some (Value.int a.1), a.2)) S 19 [(0, .ref (gad g 19)), (1, .int x1)] [] (mX4_acceptFigure_19 S x1) := by
  unfold mX4_acceptFigure_19
  refine j_iload_n C 1 rfl dX4_acceptFigure_19 rfl ?_
  refine j_iconst C (v := 1) (by decide) dX4_acceptFigure_20 ?_
  refine j_isub C dX4_acceptFigure_21 ?_
  refine j_topi (fun v1 => ?_)
  refine j_istore_n C (xs1 := [(0, .ref (gad g 19)), (1, .int x1), (2, .int v1)]) dX4_acceptFigure_22 rfl (by decide) rfl ?_
  refine j_aload_n C 0 rfl dX4_acceptFigure_23 rfl ?_
  refine j_getI C fl_X4_36 sh_19 rfl rfl dX4_acceptFigure_24 ?_
  refine j_iconst C (v := 2) (by decide) dX4_acceptFigure_27 ?_
  refine j_icmp_ne C 49 dX4_acceptFigure_28 (by decide) ?_ ?_
  · refine j_iconst C (v := 0) (by decide) dX4_acceptFigure_49 ?_
    exact j_zret C rfl rfl dX4_acceptFigure_50
  · refine j_aload_n C 0 rfl dX4_acceptFigure_31 rfl ?_
    refine j_getI C fl_X4_39 sh_19 rfl rfl dX4_acceptFigure_32 ?_
    refine j_aload_n C 0 rfl dX4_acceptFigure_35 rfl ?_
    refine j_getI C fl_X4_54 sh_19 rfl rfl dX4_acceptFigure_36 ?_
    refine j_callSi C [.int (gI S 19 6), .int (gI S 19 5)] [] ms_X4_48 (fun _ h => ctX3_exponent h) ⟨(Nat.le_of_ble_eq_true rfl), (Nat.le_of_ble_eq_true rfl)⟩ (Nat.le_of_ble_eq_true rfl) dX4_acceptFigure_39 rfl (fun r2 => ?_)
    refine j_iload_n C 2 rfl dX4_acceptFigure_42 rfl ?_
    refine j_iadd C dX4_acceptFigure_43 ?_
    refine j_bipush C (v := 6) (by decide) dX4_acceptFigure_44 ?_
    refine j_icmp_le C 51 dX4_acceptFigure_46 (by decide) ?_ ?_
    · refine j_aload_n C 0 rfl dX4_acceptFigure_51 rfl ?_
      refine j_dup C rfl dX4_acceptFigure_52 ?_
      refine j_getI C fl_X4_39 sh_19 rfl rfl dX4_acceptFigure_53 ?_
      refine j_aload_n C 0 rfl dX4_acceptFigure_56 rfl ?_
      refine j_getI C fl_X4_54 sh_19 rfl rfl dX4_acceptFigure_57 ?_
      refine j_iload_n C 2 rfl dX4_acceptFigure_60 rfl ?_
      refine j_callSi C [.int (gI S 19 5), .int v1] [.int (gI S 19 6), .ref (gad g 19)] ms_X4_57 (fun _ h => ctX3_power h) ⟨(Nat.le_of_ble_eq_true rfl), (Nat.le_of_ble_eq_true rfl)⟩ (Nat.le_of_ble_eq_true rfl) dX4_acceptFigure_61 rfl (fun r3 => ?_)
      refine j_iadd C dX4_acceptFigure_64 ?_
      refine j_putI C fp_X4_39 sh_19 rfl rfl rfl rfl dX4_acceptFigure_65 ?_
      refine j_aload_n C 0 rfl dX4_acceptFigure_68 rfl ?_
      refine j_iconst C (v := 3) (by decide) dX4_acceptFigure_69 ?_
      refine j_putI C fp_X4_36 sh_19 rfl rfl rfl rfl dX4_acceptFigure_70 ?_
      refine j_iconst C (v := 1) (by decide) dX4_acceptFigure_73 ?_
      exact j_zret C rfl rfl dX4_acceptFigure_74
    · refine j_iconst C (v := 0) (by decide) dX4_acceptFigure_49 ?_
      exact j_zret C rfl rfl dX4_acceptFigure_50
def mX4_acceptFigure (S : St) (a0 : Int32) : Option (Int32 × St) := if (gI S 19 4) = 0 then (if a0 = 1 then (some (1, (sI S 19 4 1)))
  else (mX4_acceptFigure_19 S a0))
  else (mX4_acceptFigure_19 S a0)
theorem wX4_acceptFigure {κ : KT} {g : GT} (C : CX κ g RX4 cX4_acceptFigure 3 (some .boolean) 1 21) (S : St) (a0 : Int32) : J κ g 3 (fun a : Int32 × St => (some (Value.int a.1), a.2)) S 0 [(0, .ref (gad g 19)), (1, .int a0)] [] (mX4_acceptFigure S a0) := by
  unfold mX4_acceptFigure
  refine j_aload_n C 0 rfl dX4_acceptFigure_0 rfl ?_
  refine j_getI C fl_X4_36 sh_19 rfl rfl dX4_acceptFigure_1 ?_
  refine j_if_ne C 19 dX4_acceptFigure_4 (by decide) ?_ ?_
  · exact wX4_acceptFigure_19 C S a0
  · refine j_iload_n C 1 rfl dX4_acceptFigure_7 rfl ?_
    refine j_iconst C (v := 1) (by decide) dX4_acceptFigure_8 ?_
    refine j_icmp_ne C 19 dX4_acceptFigure_9 (by decide) ?_ ?_
    · exact wX4_acceptFigure_19 C S a0
    · refine j_aload_n C 0 rfl dX4_acceptFigure_12 rfl ?_
      refine j_iconst C (v := 1) (by decide) dX4_acceptFigure_13 ?_
      refine j_putI C fp_X4_36 sh_19 rfl rfl rfl rfl dX4_acceptFigure_14 ?_
      refine j_iconst C (v := 1) (by decide) dX4_acceptFigure_17 ?_
      exact j_zret C rfl rfl dX4_acceptFigure_18
theorem ctX4_acceptFigure {l : Launch} {g : GT} {S : St} {a0 : Int32} {out : Int32 × St} (ho : mX4_acceptFigure S a0 = some out) : CT l yX4_acceptFigure cX4_acceptFigure 3 (some .boolean) 1 21 [.ref (gad g 19), .int a0] g S ((fun a : Int32 × St => (some (Value.int a.1), a.2)) out) := CT_of (φ := (fun a : Int32 × St => (some (Value.int a.1), a.2))) [.ref (gad g 19), .int a0] ho (by decide) (Nat.le_of_ble_eq_true rfl) (xs := [(0, .ref (gad g 19)), (1, .int a0)]) rfl (fun κ C => wX4_acceptFigure C S a0)
/-! StairIdeals$Pad.accept(I)Z -/
def mX4_accept_32 (S : St) (x1 : Int32) : Option (Int32 × St) := if x1 < 49 then (some (0, S))
  else (if 54 < x1 then (some (0, S))
  else ((mX4_acceptFigure S (x1 - 48)).bind fun r1 => zbg r1.1 (some (r1.1, r1.2))))
theorem wX4_accept_32 {κ : KT} {g : GT} (C : CX κ g RX4 cX4_accept 2 (some .boolean) 2 43) (S : St) (x1 : Int32) : J κ g 2 (fun a : Int32 × St => (some (Value.int a.1), a.2)) S 32 [(0, .ref (gad g 19)), (1, .int x1)] [] (mX4_accept_32 S x1) := by
  unfold mX4_accept_32
  refine j_iload_n C 1 rfl dX4_accept_32 rfl ?_
  refine j_bipush C (v := 49) (by decide) dX4_accept_33 ?_
  refine j_icmp_lt C 53 dX4_accept_35 (by decide) ?_ ?_
  · refine j_iconst C (v := 0) (by decide) dX4_accept_53 ?_
    exact j_zret C rfl rfl dX4_accept_54
  · refine j_iload_n C 1 rfl dX4_accept_38 rfl ?_
    refine j_bipush C (v := 54) (by decide) dX4_accept_39 ?_
    refine j_icmp_gt C 53 dX4_accept_41 (by decide) ?_ ?_
    · refine j_iconst C (v := 0) (by decide) dX4_accept_53 ?_
      exact j_zret C rfl rfl dX4_accept_54
    · refine j_aload_n C 0 rfl dX4_accept_44 rfl ?_
      refine j_iload_n C 1 rfl dX4_accept_45 rfl ?_
      refine j_bipush C (v := 48) (by decide) dX4_accept_46 ?_
      refine j_isub C dX4_accept_48 ?_
      refine j_callViS C [.int (x1 - 48)] [] mv_X4_45 sh_19 rfl rfl (fun _ h => ctX4_acceptFigure h) ⟨(Nat.le_of_ble_eq_true rfl), (Nat.le_of_ble_eq_true rfl)⟩ (Nat.le_of_ble_eq_true rfl) dX4_accept_49 rfl (fun r1 => ?_)
      refine j_zbg (fun hb => ?_)
      exact j_zret C (nar_z hb) rfl dX4_accept_52
def mX4_accept (S : St) (a0 : Int32) : Option (Int32 × St) := if a0 = 44 then ((mX4_endMonomial S).bind fun r2 => zbg r2.1 (some (r2.1, r2.2)))
  else (if a0 < 97 then (mX4_accept_32 S a0)
  else (if 101 ≤ a0 then (mX4_accept_32 S a0)
  else ((mX4_acceptLetter S (a0 - 97)).bind fun r1 => zbg r1.1 (some (r1.1, r1.2)))))
theorem wX4_accept {κ : KT} {g : GT} (C : CX κ g RX4 cX4_accept 2 (some .boolean) 2 43) (S : St) (a0 : Int32) : J κ g 2 (fun a : Int32 × St => (some (Value.int a.1), a.2)) S 0 [(0, .ref (gad g 19)), (1, .int a0)] [] (mX4_accept S a0) := by
  unfold mX4_accept
  refine j_iload_n C 1 rfl dX4_accept_0 rfl ?_
  refine j_bipush C (v := 44) (by decide) dX4_accept_1 ?_
  refine j_icmp_ne C 11 dX4_accept_3 (by decide) ?_ ?_
  · refine j_iload_n C 1 rfl dX4_accept_11 rfl ?_
    refine j_bipush C (v := 97) (by decide) dX4_accept_12 ?_
    refine j_icmp_lt C 32 dX4_accept_14 (by decide) ?_ ?_
    · exact wX4_accept_32 C S a0
    · refine j_iload_n C 1 rfl dX4_accept_17 rfl ?_
      refine j_bipush C (v := 101) (by decide) dX4_accept_18 ?_
      refine j_icmp_ge C 32 dX4_accept_20 (by decide) ?_ ?_
      · exact wX4_accept_32 C S a0
      · refine j_aload_n C 0 rfl dX4_accept_23 rfl ?_
        refine j_iload_n C 1 rfl dX4_accept_24 rfl ?_
        refine j_bipush C (v := 97) (by decide) dX4_accept_25 ?_
        refine j_isub C dX4_accept_27 ?_
        refine j_callViS C [.int (a0 - 97)] [] mv_X4_42 sh_19 rfl rfl (fun _ h => ctX4_acceptLetter h) ⟨(Nat.le_of_ble_eq_true rfl), (Nat.le_of_ble_eq_true rfl)⟩ (Nat.le_of_ble_eq_true rfl) dX4_accept_28 rfl (fun r1 => ?_)
        refine j_zbg (fun hb => ?_)
        exact j_zret C (nar_z hb) rfl dX4_accept_31
  · refine j_aload_n C 0 rfl dX4_accept_6 rfl ?_
    refine j_callViS C [] [] mv_X4_32 sh_19 rfl rfl (fun _ h => ctX4_endMonomial h) ⟨(Nat.le_of_ble_eq_true rfl), (Nat.le_of_ble_eq_true rfl)⟩ (Nat.le_of_ble_eq_true rfl) dX4_accept_7 rfl (fun r2 => ?_)
    refine j_zbg (fun hb => ?_)
    exact j_zret C (nar_z hb) rfl dX4_accept_10
theorem ctX4_accept {l : Launch} {g : GT} {S : St} {a0 : Int32} {out : Int32 × St} (ho : mX4_accept S a0 = some out) : CT l yX4_accept cX4_accept 2 (some .boolean) 2 43 [.ref (gad g 19), .int a0] g S ((fun a : Int32 × St => (some (Value.int a.1), a.2)) out) := CT_of (φ := (fun a : Int32 × St => (some (Value.int a.1), a.2))) [.ref (gad g 19), .int a0] ho (by decide) (Nat.le_of_ble_eq_true rfl) (xs := [(0, .ref (gad g 19)), (1, .int a0)]) rfl (fun κ C => wX4_accept C S a0)
/-! StairIdeals$Pad.read()I -/
def mX4_read_11 : Nat → St → Int32 → Option (Int32 × St)
  | 0, _, _ => none
  | n + 1, S, x1 => if (gI S 19 2) ≤ x1 then (if (gI S 19 2) = 0 then (some ((-6), S))
  else ((mX4_endMonomial S).bind fun r1 => if r1.1 = 0 then (some (gI r1.2 19 2, r1.2))
  else (some ((-6), r1.2))))
  else (inb 60 x1 fun j2 => (mX4_accept S (gA S 21 j2)).bind fun r3 => if r3.1 = 0 then (some (x1, r3.2))
  else (bnd (x1 + 1) fun v4 => mX4_read_11 n r3.2 v4))
theorem wX4_read_11 {κ : KT} {g : GT} (C : CX κ g RX4 cX4_read 2 (some .int) 3 64) : ∀ (n : Nat) (S : St) (x1 : Int32), J κ g 2 (fun a : Int32 × St => (some (Value.int a.1), a.2)) S 11 [(0, .ref (gad g 19)), (1, .int x1)] [] (mX4_read_11 n S x1) := by
  intro n
  induction n with
  | zero => intro S x1; exact j_none
  | succ n ih =>
    intro S x1
    rw [mX4_read_11]
    refine j_iload_n C 1 rfl dX4_read_11 rfl ?_
    refine j_aload_n C 0 rfl dX4_read_12 rfl ?_
    refine j_getI C fl_X4_18 sh_19 rfl rfl dX4_read_13 ?_
    refine j_icmp_ge C 40 dX4_read_16 (by decide) ?_ ?_
    · refine j_aload_n C 0 rfl dX4_read_40 rfl ?_
      refine j_getI C fl_X4_18 sh_19 rfl rfl dX4_read_41 ?_
      refine j_if_ne C 50 dX4_read_44 (by decide) ?_ ?_
      · refine j_aload_n C 0 rfl dX4_read_50 rfl ?_
        refine j_callViS C [] [] mv_X4_32 sh_19 rfl rfl (fun _ h => ctX4_endMonomial h) ⟨(Nat.le_of_ble_eq_true rfl), (Nat.le_of_ble_eq_true rfl)⟩ (Nat.le_of_ble_eq_true rfl) dX4_read_51 rfl (fun r1 => ?_)
        refine j_if_eq C 62 dX4_read_54 (by decide) ?_ ?_
        · refine j_aload_n C 0 rfl dX4_read_62 rfl ?_
          refine j_getI C fl_X4_18 sh_19 rfl rfl dX4_read_63 ?_
          exact j_iret C rfl dX4_read_66
        · refine j_bipush C (v := (-6)) (by decide) dX4_read_57 ?_
          refine j_goto C 66 dX4_read_59 (by decide) ?_
          exact j_iret C rfl dX4_read_66
      · refine j_bipush C (v := (-6)) (by decide) dX4_read_47 ?_
        exact j_iret C rfl dX4_read_49
    · refine j_aload_n C 0 rfl dX4_read_19 rfl ?_
      refine j_aload_n C 0 rfl dX4_read_20 rfl ?_
      refine j_getR C (x := 21) fl_X4_15 sh_19 rfl rfl dX4_read_21 ?_
      refine j_iload_n C 1 rfl dX4_read_24 rfl ?_
      refine j_iald C sh_21 rfl dX4_read_25 (fun j2 => ?_)
      refine j_callViS C [.int (gA S 21 j2)] [] mv_X4_28 sh_19 rfl rfl (fun _ h => ctX4_accept h) ⟨(Nat.le_of_ble_eq_true rfl), (Nat.le_of_ble_eq_true rfl)⟩ (Nat.le_of_ble_eq_true rfl) dX4_read_26 rfl (fun r3 => ?_)
      refine j_if_ne C 34 dX4_read_29 (by decide) ?_ ?_
      · refine j_iinc C (xs2 := fun v4 => [(0, .ref (gad g 19)), (1, .int v4)]) 1 rfl dX4_read_34 (by decide) (by decide) (fun _ => rfl) (fun v4 => ?_)
        refine j_goto C 11 dX4_read_37 (by decide) ?_
        exact ih r3.2 v4
      · refine j_iload_n C 1 rfl dX4_read_32 rfl ?_
        exact j_iret C rfl dX4_read_33
def mX4_read (S : St) : Option (Int32 × St) := (mX4_begin (sI S 19 1 0)).bind fun r1 => mX4_read_11 FU r1 0
theorem wX4_read {κ : KT} {g : GT} (C : CX κ g RX4 cX4_read 2 (some .int) 3 64) (S : St) : J κ g 2 (fun a : Int32 × St => (some (Value.int a.1), a.2)) S 0 [(0, .ref (gad g 19))] [] (mX4_read S) := by
  unfold mX4_read
  refine j_aload_n C 0 rfl dX4_read_0 rfl ?_
  refine j_iconst C (v := 0) (by decide) dX4_read_1 ?_
  refine j_putI C fp_X4_22 sh_19 rfl rfl rfl rfl dX4_read_2 ?_
  refine j_aload_n C 0 rfl dX4_read_5 rfl ?_
  refine j_callVvS C [] [] mv_X4_25 sh_19 rfl rfl (fun _ h => ctX4_begin h) ⟨(Nat.le_of_ble_eq_true rfl), (Nat.le_of_ble_eq_true rfl)⟩ (Nat.le_of_ble_eq_true rfl) dX4_read_6 rfl (fun r1 => ?_)
  refine j_iconst C (v := 0) (by decide) dX4_read_9 ?_
  refine j_istore_n C (xs1 := [(0, .ref (gad g 19)), (1, .int 0)]) dX4_read_10 rfl (by decide) rfl ?_
  exact wX4_read_11 C FU r1 0
theorem ctX4_read {l : Launch} {g : GT} {S : St} {out : Int32 × St} (ho : mX4_read S = some out) : CT l yX4_read cX4_read 2 (some .int) 3 64 [.ref (gad g 19)] g S ((fun a : Int32 × St => (some (Value.int a.1), a.2)) out) := CT_of (φ := (fun a : Int32 × St => (some (Value.int a.1), a.2))) [.ref (gad g 19)] ho (by decide) (Nat.le_of_ble_eq_true rfl) (xs := [(0, .ref (gad g 19))]) rfl (fun κ C => wX4_read C S)
/-! StairIdeals$Share.single(II)F -/
def mX5_single (a0 : Int32) (a1 : Int32) : Option (UInt32) := if a1 = 0 then (some FP.fconst0)
  else (nn32 (FP.fdiv (FP.i2f a0) (FP.i2f a1)) <| some (FP.fdiv (FP.i2f a0) (FP.i2f a1)))
theorem wX5_single {κ : KT} {g : GT} (C : CX κ g RX5 cX5_single 2 (some .float) 0 0) (S : St) (a0 : Int32) (a1 : Int32) : J κ g 2 (fun a : UInt32 => (some (Value.float a), S)) S 0 [(0, .int a0), (1, .int a1)] [] (mX5_single a0 a1) := by
  unfold mX5_single
  refine j_iload_n C 1 rfl dX5_single_0 rfl ?_
  refine j_if_ne C 8 dX5_single_1 (by decide) ?_ ?_
  · refine j_iload_n C 0 rfl dX5_single_8 rfl ?_
    refine j_i2f C dX5_single_9 ?_
    refine j_iload_n C 1 rfl dX5_single_10 rfl ?_
    refine j_i2f C dX5_single_11 ?_
    refine j_nn32 (fun hnn => ?_)
    refine j_fdiv C hnn dX5_single_12 ?_
    exact j_fret C rfl dX5_single_13
  · refine j_fconst0 C dX5_single_4 ?_
    refine j_goto C 13 dX5_single_5 (by decide) ?_
    exact j_fret C rfl dX5_single_13
theorem ctX5_single {l : Launch} {g : GT} {S : St} {a0 : Int32} {a1 : Int32} {out : UInt32} (ho : mX5_single a0 a1 = some out) : CT l yX5_single cX5_single 2 (some .float) 0 0 [.int a0, .int a1] g S ((fun a : UInt32 => (some (Value.float a), S)) out) := CT_of (φ := (fun a : UInt32 => (some (Value.float a), S))) [.int a0, .int a1] ho (by decide) (Nat.le_of_ble_eq_true rfl) (xs := [(0, .int a0), (1, .int a1)]) rfl (fun κ C => wX5_single C S a0 a1)
/-! StairIdeals$Share.singleBits(II)J -/
def mX5_singleBits_39 (x2 : UInt32) (x3 : Int32) : Option (Int64) := some (((150 - x3.toInt64) * 8388608) + ((FP.f2l x2) - 8388608))
theorem wX5_singleBits_39 {κ : KT} {g : GT} (C : CX κ g RX5 cX5_singleBits 4 (some .long) 1 21) (S : St) (x2 : UInt32) (x3 : Int32) : J κ g 4 (fun a : Int64 => (some (Value.long a), S)) S 39 [(2, .float x2), (3, .int x3)] [] (mX5_singleBits_39 x2 x3) := by
  unfold mX5_singleBits_39
  refine j_ldc2 C (v := 150) wd_675 dX5_singleBits_39 ?_
  refine j_iload_n C 1 rfl dX5_singleBits_42 rfl ?_
  refine j_i2l C dX5_singleBits_43 ?_
  refine j_lsub C dX5_singleBits_44 ?_
  refine j_ldc2 C (v := 8388608) wd_676 dX5_singleBits_45 ?_
  refine j_lmul C dX5_singleBits_48 ?_
  refine j_fload_n C 0 rfl dX5_singleBits_49 rfl ?_
  refine j_f2l C dX5_singleBits_50 ?_
  refine j_ldc2 C (v := 8388608) wd_676 dX5_singleBits_51 ?_
  refine j_lsub C dX5_singleBits_54 ?_
  refine j_ladd C dX5_singleBits_55 ?_
  exact j_lret C rfl dX5_singleBits_56
def mX5_singleBits_16 : Nat → UInt32 → Int32 → Option (Int64)
  | 0, _, _ => none
  | n + 1, x2, x3 => if 0 ≤ (Op.cmpValue (FP.fcmp x2 1258291200) CmpOp.g) then (mX5_singleBits_39 x2 x3)
  else (if 100 ≤ x3 then (mX5_singleBits_39 x2 x3)
  else (nn32 (FP.fmul x2 FP.fconst2) <| bnd (FP.fmul x2 FP.fconst2) fun v1 => bnd (x3 + 1) fun v2 => mX5_singleBits_16 n v1 v2))
theorem wX5_singleBits_16 {κ : KT} {g : GT} (C : CX κ g RX5 cX5_singleBits 4 (some .long) 1 21) (S : St) : ∀ (n : Nat) (x2 : UInt32) (x3 : Int32), J κ g 4 (fun a : Int64 => (some (Value.long a), S)) S 16 [(2, .float x2), (3, .int x3)] [] (mX5_singleBits_16 n x2 x3) := by
  intro n
  induction n with
  | zero => intro x2 x3; exact j_none
  | succ n ih =>
    intro x2 x3
    rw [mX5_singleBits_16]
    refine j_fload_n C 0 rfl dX5_singleBits_16 rfl ?_
    refine j_ldcf C (v := 1258291200) wd_674 dX5_singleBits_17 ?_
    refine j_fcmp C dX5_singleBits_19 ?_
    refine j_if_ge C 39 dX5_singleBits_20 (by decide) ?_ ?_
    · exact wX5_singleBits_39 C S x2 x3
    · refine j_iload_n C 1 rfl dX5_singleBits_23 rfl ?_
      refine j_bipush C (v := 100) (by decide) dX5_singleBits_24 ?_
      refine j_icmp_ge C 39 dX5_singleBits_26 (by decide) ?_ ?_
      · exact wX5_singleBits_39 C S x2 x3
      · refine j_fload_n C 0 rfl dX5_singleBits_29 rfl ?_
        refine j_fconst2 C dX5_singleBits_30 ?_
        refine j_nn32 (fun hnn => ?_)
        refine j_fmul C hnn dX5_singleBits_31 ?_
        refine j_topf (fun v1 => ?_)
        refine j_fstore_n C (xs1 := [(2, .float v1), (3, .int x3)]) dX5_singleBits_32 rfl (by decide) rfl ?_
        refine j_iinc C (xs2 := fun v2 => [(2, .float v1), (3, .int v2)]) 1 rfl dX5_singleBits_33 (by decide) (by decide) (fun _ => rfl) (fun v2 => ?_)
        refine j_goto C 16 dX5_singleBits_36 (by decide) ?_
        exact ih v1 v2
def mX5_singleBits (a0 : Int32) (a1 : Int32) : Option (Int64) := (mX5_single a0 a1).bind fun r1 => if 0 < (Op.cmpValue (FP.fcmp r1 FP.fconst0) CmpOp.g) then (mX5_singleBits_16 FU r1 0)
  else (some 0)
theorem wX5_singleBits {κ : KT} {g : GT} (C : CX κ g RX5 cX5_singleBits 4 (some .long) 1 21) (S : St) (a0 : Int32) (a1 : Int32) : J κ g 4 (fun a : Int64 => (some (Value.long a), S)) S 0 [(0, .int a0), (1, .int a1)] [] (mX5_singleBits a0 a1) := by
  unfold mX5_singleBits
  refine j_iload_n C 0 rfl dX5_singleBits_0 rfl ?_
  refine j_iload_n C 1 rfl dX5_singleBits_1 rfl ?_
  refine j_callSf C [.int a0, .int a1] [] ms_X5_7 (fun _ h => ctX5_single h) ⟨(Nat.le_of_ble_eq_true rfl), (Nat.le_of_ble_eq_true rfl)⟩ (Nat.le_of_ble_eq_true rfl) dX5_singleBits_2 rfl (fun r1 => ?_)
  refine j_fstore_n C (xs1 := [(0, .int a0), (1, .int a1), (2, .float r1)]) dX5_singleBits_5 rfl (by decide) rfl ?_
  refine j_fload_n C 2 rfl dX5_singleBits_6 rfl ?_
  refine j_fconst0 C dX5_singleBits_7 ?_
  refine j_fcmp C dX5_singleBits_8 ?_
  refine j_if_gt C 14 dX5_singleBits_9 (by decide) ?_ ?_
  · refine j_iconst C (v := 0) (by decide) dX5_singleBits_14 ?_
    refine j_istore_n C (xs1 := [(0, .int a0), (1, .int a1), (2, .float r1), (3, .int 0)]) dX5_singleBits_15 rfl (by decide) rfl ?_
    refine j_sub (xs1 := [(2, .float r1), (3, .int 0)]) [2, 3] rfl ?_
    exact wX5_singleBits_16 C S FU r1 0
  · refine j_lconst C (v := 0) (by decide) dX5_singleBits_12 ?_
    exact j_lret C rfl dX5_singleBits_13
theorem ctX5_singleBits {l : Launch} {g : GT} {S : St} {a0 : Int32} {a1 : Int32} {out : Int64} (ho : mX5_singleBits a0 a1 = some out) : CT l yX5_singleBits cX5_singleBits 4 (some .long) 1 21 [.int a0, .int a1] g S ((fun a : Int64 => (some (Value.long a), S)) out) := CT_of (φ := (fun a : Int64 => (some (Value.long a), S))) [.int a0, .int a1] ho (by decide) (Nat.le_of_ble_eq_true rfl) (xs := [(0, .int a0), (1, .int a1)]) rfl (fun κ C => wX5_singleBits C S a0 a1)
/-! StairIdeals$Share.doubleBits(II)J -/
def mX5_doubleBits_52 (x2 : UInt64) (x4 : Int32) : Option (Int64) := some (((1075 - x4.toInt64) * 4503599627370496) + ((FP.d2l x2) - 4503599627370496))
theorem wX5_doubleBits_52 {κ : KT} {g : GT} (C : CX κ g RX5 cX5_doubleBits 5 (some .long) 0 0) (S : St) (x2 : UInt64) (x4 : Int32) : J κ g 5 (fun a : Int64 => (some (Value.long a), S)) S 52 [(2, .double x2), (4, .int x4)] [] (mX5_doubleBits_52 x2 x4) := by
  unfold mX5_doubleBits_52
  refine j_ldc2 C (v := 1075) wd_682 dX5_doubleBits_52 ?_
  refine j_iload C 1 rfl dX5_doubleBits_55 ?_
  refine j_i2l C dX5_doubleBits_57 ?_
  refine j_lsub C dX5_doubleBits_58 ?_
  refine j_ldc2 C (v := 4503599627370496) wd_683 dX5_doubleBits_59 ?_
  refine j_lmul C dX5_doubleBits_62 ?_
  refine j_dload_n C 0 rfl dX5_doubleBits_63 rfl ?_
  refine j_d2l C dX5_doubleBits_64 ?_
  refine j_ldc2 C (v := 4503599627370496) wd_683 dX5_doubleBits_65 ?_
  refine j_lsub C dX5_doubleBits_68 ?_
  refine j_ladd C dX5_doubleBits_69 ?_
  exact j_lret C rfl dX5_doubleBits_70
def mX5_doubleBits_25 : Nat → UInt64 → Int32 → Option (Int64)
  | 0, _, _ => none
  | n + 1, x2, x4 => if 0 ≤ (Op.cmpValue (FP.dcmp x2 4841369599423283200) CmpOp.g) then (mX5_doubleBits_52 x2 x4)
  else (if 100 ≤ x4 then (mX5_doubleBits_52 x2 x4)
  else (nn64 (FP.dmul x2 4611686018427387904) <| bnd (FP.dmul x2 4611686018427387904) fun v1 => bnd (x4 + 1) fun v2 => mX5_doubleBits_25 n v1 v2))
theorem wX5_doubleBits_25 {κ : KT} {g : GT} (C : CX κ g RX5 cX5_doubleBits 5 (some .long) 0 0) (S : St) : ∀ (n : Nat) (x2 : UInt64) (x4 : Int32), J κ g 5 (fun a : Int64 => (some (Value.long a), S)) S 25 [(2, .double x2), (4, .int x4)] [] (mX5_doubleBits_25 n x2 x4) := by
  intro n
  induction n with
  | zero => intro x2 x4; exact j_none
  | succ n ih =>
    intro x2 x4
    rw [mX5_doubleBits_25]
    refine j_dload_n C 0 rfl dX5_doubleBits_25 rfl ?_
    refine j_ldc2d C (v := 4841369599423283200) wd_680 dX5_doubleBits_26 ?_
    refine j_dcmp C dX5_doubleBits_29 ?_
    refine j_if_ge C 52 dX5_doubleBits_30 (by decide) ?_ ?_
    · exact wX5_doubleBits_52 C S x2 x4
    · refine j_iload C 1 rfl dX5_doubleBits_33 ?_
      refine j_bipush C (v := 100) (by decide) dX5_doubleBits_35 ?_
      refine j_icmp_ge C 52 dX5_doubleBits_37 (by decide) ?_ ?_
      · exact wX5_doubleBits_52 C S x2 x4
      · refine j_dload_n C 0 rfl dX5_doubleBits_40 rfl ?_
        refine j_ldc2d C (v := 4611686018427387904) wd_681 dX5_doubleBits_41 ?_
        refine j_nn64 (fun hnn => ?_)
        refine j_dmul C hnn dX5_doubleBits_44 ?_
        refine j_topd (fun v1 => ?_)
        refine j_dstore_n C (xs1 := [(2, .double v1), (4, .int x4)]) dX5_doubleBits_45 rfl (by decide) rfl ?_
        refine j_iinc C (xs2 := fun v2 => [(2, .double v1), (4, .int v2)]) 1 rfl dX5_doubleBits_46 (by decide) (by decide) (fun _ => rfl) (fun v2 => ?_)
        refine j_goto C 25 dX5_doubleBits_49 (by decide) ?_
        exact ih v1 v2
def mX5_doubleBits_13 (s0 : UInt64) : Option (Int64) := if 0 < (Op.cmpValue (FP.dcmp s0 FP.dconst0) CmpOp.g) then (mX5_doubleBits_25 FU s0 0)
  else (some 0)
theorem wX5_doubleBits_13 {κ : KT} {g : GT} (C : CX κ g RX5 cX5_doubleBits 5 (some .long) 0 0) (S : St) (s0 : UInt64) : J κ g 5 (fun a : Int64 => (some (Value.long a), S)) S 13 [] [.double s0] (mX5_doubleBits_13 s0) := by
  unfold mX5_doubleBits_13
  refine j_dstore_n C (xs1 := [(2, .double s0)]) dX5_doubleBits_13 rfl (by decide) rfl ?_
  refine j_dload_n C 0 rfl dX5_doubleBits_14 rfl ?_
  refine j_dconst0 C dX5_doubleBits_15 ?_
  refine j_dcmp C dX5_doubleBits_16 ?_
  refine j_if_gt C 22 dX5_doubleBits_17 (by decide) ?_ ?_
  · refine j_iconst C (v := 0) (by decide) dX5_doubleBits_22 ?_
    refine j_istore C (xs1 := [(2, .double s0), (4, .int 0)]) dX5_doubleBits_23 (by decide) rfl ?_
    exact wX5_doubleBits_25 C S FU s0 0
  · refine j_lconst C (v := 0) (by decide) dX5_doubleBits_20 ?_
    exact j_lret C rfl dX5_doubleBits_21
def mX5_doubleBits (a0 : Int32) (a1 : Int32) : Option (Int64) := if a1 = 0 then (mX5_doubleBits_13 FP.dconst0)
  else (nn64 (FP.ddiv (FP.i2d a0) (FP.i2d a1)) <| mX5_doubleBits_13 (FP.ddiv (FP.i2d a0) (FP.i2d a1)))
theorem wX5_doubleBits {κ : KT} {g : GT} (C : CX κ g RX5 cX5_doubleBits 5 (some .long) 0 0) (S : St) (a0 : Int32) (a1 : Int32) : J κ g 5 (fun a : Int64 => (some (Value.long a), S)) S 0 [(0, .int a0), (1, .int a1)] [] (mX5_doubleBits a0 a1) := by
  unfold mX5_doubleBits
  refine j_iload_n C 1 rfl dX5_doubleBits_0 rfl ?_
  refine j_if_ne C 8 dX5_doubleBits_1 (by decide) ?_ ?_
  · refine j_iload_n C 0 rfl dX5_doubleBits_8 rfl ?_
    refine j_i2d C dX5_doubleBits_9 ?_
    refine j_iload_n C 1 rfl dX5_doubleBits_10 rfl ?_
    refine j_i2d C dX5_doubleBits_11 ?_
    refine j_nn64 (fun hnn => ?_)
    refine j_ddiv C hnn dX5_doubleBits_12 ?_
    refine j_sub (xs1 := []) [] rfl ?_
    exact wX5_doubleBits_13 C S (FP.ddiv (FP.i2d a0) (FP.i2d a1))
  · refine j_dconst0 C dX5_doubleBits_4 ?_
    refine j_goto C 13 dX5_doubleBits_5 (by decide) ?_
    refine j_sub (xs1 := []) [] rfl ?_
    exact wX5_doubleBits_13 C S FP.dconst0
theorem ctX5_doubleBits {l : Launch} {g : GT} {S : St} {a0 : Int32} {a1 : Int32} {out : Int64} (ho : mX5_doubleBits a0 a1 = some out) : CT l yX5_doubleBits cX5_doubleBits 5 (some .long) 0 0 [.int a0, .int a1] g S ((fun a : Int64 => (some (Value.long a), S)) out) := CT_of (φ := (fun a : Int64 => (some (Value.long a), S))) [.int a0, .int a1] ho (by decide) (Nat.le_of_ble_eq_true rfl) (xs := [(0, .int a0), (1, .int a1)]) rfl (fun κ C => wX5_doubleBits C S a0 a1)
/-! StairIdeals$Share.thousandths(II)J -/
def mX5_thousandths (a0 : Int32) (a1 : Int32) : Option (Int64) := (mX5_single a0 a1).bind fun r1 => nn32 (FP.fmul r1 1148846080) <| some (FP.f2l (FP.fmul r1 1148846080))
theorem wX5_thousandths {κ : KT} {g : GT} (C : CX κ g RX5 cX5_thousandths 2 (some .long) 1 21) (S : St) (a0 : Int32) (a1 : Int32) : J κ g 2 (fun a : Int64 => (some (Value.long a), S)) S 0 [(0, .int a0), (1, .int a1)] [] (mX5_thousandths a0 a1) := by
  unfold mX5_thousandths
  refine j_iload_n C 0 rfl dX5_thousandths_0 rfl ?_
  refine j_iload_n C 1 rfl dX5_thousandths_1 rfl ?_
  refine j_callSf C [.int a0, .int a1] [] ms_X5_7 (fun _ h => ctX5_single h) ⟨(Nat.le_of_ble_eq_true rfl), (Nat.le_of_ble_eq_true rfl)⟩ (Nat.le_of_ble_eq_true rfl) dX5_thousandths_2 rfl (fun r1 => ?_)
  refine j_ldcf C (v := 1148846080) wd_687 dX5_thousandths_5 ?_
  refine j_nn32 (fun hnn => ?_)
  refine j_fmul C hnn dX5_thousandths_7 ?_
  refine j_f2l C dX5_thousandths_8 ?_
  exact j_lret C rfl dX5_thousandths_9
theorem ctX5_thousandths {l : Launch} {g : GT} {S : St} {a0 : Int32} {a1 : Int32} {out : Int64} (ho : mX5_thousandths a0 a1 = some out) : CT l yX5_thousandths cX5_thousandths 2 (some .long) 1 21 [.int a0, .int a1] g S ((fun a : Int64 => (some (Value.long a), S)) out) := CT_of (φ := (fun a : Int64 => (some (Value.long a), S))) [.int a0, .int a1] ho (by decide) (Nat.le_of_ble_eq_true rfl) (xs := [(0, .int a0), (1, .int a1)]) rfl (fun κ C => wX5_thousandths C S a0 a1)
/-! java/util/Arrays.fill([II)V -/
def mJ7_fill_53178_5 (n0 : Nat) : Nat → St → Int32 → Int32 → Int32 → Option (St)
  | 0, _, _, _, _ => none
  | n + 1, S, x1, x2, x3 => if x3 ≤ x2 then (some S)
  else (inb (alen n0) x2 fun j1 => bnd (x2 + 1) fun v2 => mJ7_fill_53178_5 n0 n (sA S n0 j1 x1) x1 v2 x3)
theorem wJ7_fill_53178_5 {κ : KT} {g : GT} (C : CX κ g RJ7 cJ7_fill_53178 4 none 0 0) (n0 : Nat) (hn0 : okA g n0) : ∀ (n : Nat) (S : St) (x1 : Int32) (x2 : Int32) (x3 : Int32), J κ g 4 (fun a : St => (none, a)) S 5 [(0, .ref (gad g n0)), (1, .int x1), (2, .int x2), (3, .int x3)] [] (mJ7_fill_53178_5 n0 n S x1 x2 x3) := by
  intro n
  induction n with
  | zero => intro S x1 x2 x3; exact j_none
  | succ n ih =>
    intro S x1 x2 x3
    rw [mJ7_fill_53178_5]
    refine j_iload_n C 2 rfl dJ7_fill_53178_5 rfl ?_
    refine j_iload_n C 3 rfl dJ7_fill_53178_6 rfl ?_
    refine j_icmp_ge C 20 dJ7_fill_53178_7 (by decide) ?_ ?_
    · exact j_vret C rfl dJ7_fill_53178_20
    · refine j_aload_n C 0 rfl dJ7_fill_53178_10 rfl ?_
      refine j_iload_n C 2 rfl dJ7_fill_53178_11 rfl ?_
      refine j_iload_n C 1 rfl dJ7_fill_53178_12 rfl ?_
      refine j_iast C hn0.1 hn0.2 dJ7_fill_53178_13 (fun j1 => ?_)
      refine j_iinc C (xs2 := fun v2 => [(0, .ref (gad g n0)), (1, .int x1), (2, .int v2), (3, .int x3)]) 2 rfl dJ7_fill_53178_14 (by decide) (by decide) (fun _ => rfl) (fun v2 => ?_)
      refine j_goto C 5 dJ7_fill_53178_17 (by decide) ?_
      exact ih (sA S n0 j1 x1) x1 v2 x3
def mJ7_fill_53178 (S : St) (n0 : Nat) (a0 : Int32) : Option (St) := bnd (Int32.ofNat (alen n0)) fun v1 => mJ7_fill_53178_5 n0 FU S a0 0 v1
theorem wJ7_fill_53178 {κ : KT} {g : GT} (C : CX κ g RJ7 cJ7_fill_53178 4 none 0 0) (S : St) (n0 : Nat) (hn0 : okA g n0) (a0 : Int32) : J κ g 4 (fun a : St => (none, a)) S 0 [(0, .ref (gad g n0)), (1, .int a0)] [] (mJ7_fill_53178 S n0 a0) := by
  unfold mJ7_fill_53178
  refine j_iconst C (v := 0) (by decide) dJ7_fill_53178_0 ?_
  refine j_istore_n C (xs1 := [(0, .ref (gad g n0)), (1, .int a0), (2, .int 0)]) dJ7_fill_53178_1 rfl (by decide) rfl ?_
  refine j_aload_n C 0 rfl dJ7_fill_53178_2 rfl ?_
  refine j_alen0 C (v := Int32.ofNat (alen n0)) hn0.1 hn0.2 rfl dJ7_fill_53178_3 ?_
  refine j_topi (fun v1 => ?_)
  refine j_istore_n C (xs1 := [(0, .ref (gad g n0)), (1, .int a0), (2, .int 0), (3, .int v1)]) dJ7_fill_53178_4 rfl (by decide) rfl ?_
  exact wJ7_fill_53178_5 C n0 hn0 FU S a0 0 v1
theorem ctJ7_fill_53178 {l : Launch} {g : GT} {S : St} {n0 : Nat} (hn0 : okA g n0) {a0 : Int32} {out : St} (ho : mJ7_fill_53178 S n0 a0 = some out) : CT l yJ7_fill_53178 cJ7_fill_53178 4 none 0 0 [.ref (gad g n0), .int a0] g S ((fun a : St => (none, a)) out) := CT_of (φ := (fun a : St => (none, a))) [.ref (gad g n0), .int a0] ho (by decide) (Nat.le_of_ble_eq_true rfl) (xs := [(0, .ref (gad g n0)), (1, .int a0)]) rfl (fun κ C => wJ7_fill_53178 C S n0 hn0 a0)
/-! StairIdeals$Stairs.becomeNothing()V -/
def mX6_becomeNothing (S : St) (n0 : Nat) : Option (St) := (mJ7_fill_53178 S (n0 + 1) 7).bind fun r1 => some r1
theorem wX6_becomeNothing {κ : KT} {g : GT} (C : CX κ g RX6 cX6_becomeNothing 1 none 1 23) (S : St) (n0 : Nat) (hn0 : okT g n0) : J κ g 1 (fun a : St => (none, a)) S 0 [(0, .ref (gad g n0))] [] (mX6_becomeNothing S n0) := by
  unfold mX6_becomeNothing
  refine j_aload_n C 0 rfl dX6_becomeNothing_0 rfl ?_
  refine j_getR C (x := n0 + 1) fl_X6_11 hn0.1 hn0.2.2.1 rfl dX6_becomeNothing_1 ?_
  refine j_bipush C (v := 7) (by decide) dX6_becomeNothing_4 ?_
  refine j_callSvS C [.ref (gad g (n0 + 1)), .int 7] [] ms_X6_15 (fun _ h => ctJ7_fill_53178 (okA_of (g := g) hn0.2.1 hn0.2.2.2) h) ⟨(Nat.le_of_ble_eq_true rfl), (Nat.le_of_ble_eq_true rfl)⟩ (Nat.le_of_ble_eq_true rfl) dX6_becomeNothing_6 rfl (fun r1 => ?_)
  exact j_vret C rfl dX6_becomeNothing_9
theorem ctX6_becomeNothing {l : Launch} {g : GT} {S : St} {n0 : Nat} (hn0 : okT g n0) {out : St} (ho : mX6_becomeNothing S n0 = some out) : CT l yX6_becomeNothing cX6_becomeNothing 1 none 1 23 [.ref (gad g n0)] g S ((fun a : St => (none, a)) out) := CT_of (φ := (fun a : St => (none, a))) [.ref (gad g n0)] ho (by decide) (Nat.le_of_ble_eq_true rfl) (xs := [(0, .ref (gad g n0))]) rfl (fun κ C => wX6_becomeNothing C S n0 hn0)
/-! StairIdeals$Stairs.becomeAll()V -/
def mX6_becomeAll (S : St) (n0 : Nat) : Option (St) := (mJ7_fill_53178 S (n0 + 1) 0).bind fun r1 => some r1
theorem wX6_becomeAll {κ : KT} {g : GT} (C : CX κ g RX6 cX6_becomeAll 1 none 1 23) (S : St) (n0 : Nat) (hn0 : okT g n0) : J κ g 1 (fun a : St => (none, a)) S 0 [(0, .ref (gad g n0))] [] (mX6_becomeAll S n0) := by
  unfold mX6_becomeAll
  refine j_aload_n C 0 rfl dX6_becomeAll_0 rfl ?_
  refine j_getR C (x := n0 + 1) fl_X6_11 hn0.1 hn0.2.2.1 rfl dX6_becomeAll_1 ?_
  refine j_iconst C (v := 0) (by decide) dX6_becomeAll_4 ?_
  refine j_callSvS C [.ref (gad g (n0 + 1)), .int 0] [] ms_X6_15 (fun _ h => ctJ7_fill_53178 (okA_of (g := g) hn0.2.1 hn0.2.2.2) h) ⟨(Nat.le_of_ble_eq_true rfl), (Nat.le_of_ble_eq_true rfl)⟩ (Nat.le_of_ble_eq_true rfl) dX6_becomeAll_5 rfl (fun r1 => ?_)
  exact j_vret C rfl dX6_becomeAll_8
theorem ctX6_becomeAll {l : Launch} {g : GT} {S : St} {n0 : Nat} (hn0 : okT g n0) {out : St} (ho : mX6_becomeAll S n0 = some out) : CT l yX6_becomeAll cX6_becomeAll 1 none 1 23 [.ref (gad g n0)] g S ((fun a : St => (none, a)) out) := CT_of (φ := (fun a : St => (none, a))) [.ref (gad g n0)] ho (by decide) (Nat.le_of_ble_eq_true rfl) (xs := [(0, .ref (gad g n0))]) rfl (fun κ C => wX6_becomeAll C S n0 hn0)
/-! StairIdeals$Stairs.lower(I)V -/
def mX6_lower (S : St) (n0 : Nat) (a0 : Int32) : Option (St) := (mX6_cellOf a0).bind fun r1 => inb 343 r1 fun j2 => (mX3_exponent a0 3).bind fun r3 => inb 343 r1 fun j4 => some (sA S (n0 + 1) j4 (imin (gA S (n0 + 1) j2) r3))
theorem wX6_lower {κ : KT} {g : GT} (C : CX κ g RX6 cX6_lower 3 none 2 44) (S : St) (n0 : Nat) (hn0 : okT g n0) (a0 : Int32) : J κ g 3 (fun a : St => (none, a)) S 0 [(0, .ref (gad g n0)), (1, .int a0)] [] (mX6_lower S n0 a0) := by
  unfold mX6_lower
  refine j_iload_n C 1 rfl dX6_lower_0 rfl ?_
  refine j_callSi C [.int a0] [] ms_X6_44 (fun _ h => ctX6_cellOf h) ⟨(Nat.le_of_ble_eq_true rfl), (Nat.le_of_ble_eq_true rfl)⟩ (Nat.le_of_ble_eq_true rfl) dX6_lower_1 rfl (fun r1 => ?_)
  refine j_istore_n C (xs1 := [(0, .ref (gad g n0)), (1, .int a0), (2, .int r1)]) dX6_lower_4 rfl (by decide) rfl ?_
  refine j_aload_n C 0 rfl dX6_lower_5 rfl ?_
  refine j_getR C (x := n0 + 1) fl_X6_11 hn0.1 hn0.2.2.1 rfl dX6_lower_6 ?_
  refine j_iload_n C 2 rfl dX6_lower_9 rfl ?_
  refine j_aload_n C 0 rfl dX6_lower_10 rfl ?_
  refine j_getR C (x := n0 + 1) fl_X6_11 hn0.1 hn0.2.2.1 rfl dX6_lower_11 ?_
  refine j_iload_n C 2 rfl dX6_lower_14 rfl ?_
  refine j_iald C hn0.2.1 hn0.2.2.2 dX6_lower_15 (fun j2 => ?_)
  refine j_iload_n C 1 rfl dX6_lower_16 rfl ?_
  refine j_iconst C (v := 3) (by decide) dX6_lower_17 ?_
  refine j_callSi C [.int a0, .int 3] [.int (gA S (n0 + 1) j2), .int r1, .ref (gad g (n0 + 1))] ms_X6_48 (fun _ h => ctX3_exponent h) ⟨(Nat.le_of_ble_eq_true rfl), (Nat.le_of_ble_eq_true rfl)⟩ (Nat.le_of_ble_eq_true rfl) dX6_lower_18 rfl (fun r3 => ?_)
  refine j_mmin C wd_322 (Nat.le_of_ble_eq_true rfl) (Nat.le_of_ble_eq_true rfl) dX6_lower_21 ?_
  refine j_iast C hn0.2.1 hn0.2.2.2 dX6_lower_24 (fun j4 => ?_)
  exact j_vret C rfl dX6_lower_25
theorem ctX6_lower {l : Launch} {g : GT} {S : St} {n0 : Nat} (hn0 : okT g n0) {a0 : Int32} {out : St} (ho : mX6_lower S n0 a0 = some out) : CT l yX6_lower cX6_lower 3 none 2 44 [.ref (gad g n0), .int a0] g S ((fun a : St => (none, a)) out) := CT_of (φ := (fun a : St => (none, a))) [.ref (gad g n0), .int a0] ho (by decide) (Nat.le_of_ble_eq_true rfl) (xs := [(0, .ref (gad g n0)), (1, .int a0)]) rfl (fun κ C => wX6_lower C S n0 hn0 a0)
/-! StairIdeals$Stairs.lowerBy(LStairIdeals$Ideal;)V -/
def mX6_lowerBy_2 (n0 : Nat) (n1 : Nat) : Nat → St → Int32 → Option (St)
  | 0, _, _ => none
  | n + 1, S, x2 => if (gI S n1 1) ≤ x2 then (some S)
  else (inb 40 x2 fun j1 => (mX6_lower S n0 (gA S (n1 + 1) j1)).bind fun r2 => bnd (x2 + 1) fun v3 => mX6_lowerBy_2 n0 n1 n r2 v3)
theorem wX6_lowerBy_2 {κ : KT} {g : GT} (C : CX κ g RX6 cX6_lowerBy 3 none 3 66) (n0 : Nat) (hn0 : okT g n0) (n1 : Nat) (hn1 : okI g n1) : ∀ (n : Nat) (S : St) (x2 : Int32), J κ g 3 (fun a : St => (none, a)) S 2 [(0, .ref (gad g n0)), (1, .ref (gad g n1)), (2, .int x2)] [] (mX6_lowerBy_2 n0 n1 n S x2) := by
  intro n
  induction n with
  | zero => intro S x2; exact j_none
  | succ n ih =>
    intro S x2
    rw [mX6_lowerBy_2]
    refine j_iload_n C 2 rfl dX6_lowerBy_2 rfl ?_
    refine j_aload_n C 1 rfl dX6_lowerBy_3 rfl ?_
    refine j_getI C fl_X6_31 hn1.1 hn1.2.2.1 rfl dX6_lowerBy_4 ?_
    refine j_icmp_ge C 26 dX6_lowerBy_7 (by decide) ?_ ?_
    · exact j_vret C rfl dX6_lowerBy_26
    · refine j_aload_n C 0 rfl dX6_lowerBy_10 rfl ?_
      refine j_aload_n C 1 rfl dX6_lowerBy_11 rfl ?_
      refine j_getR C (x := n1 + 1) fl_X6_37 hn1.1 hn1.2.2.1 rfl dX6_lowerBy_12 ?_
      refine j_iload_n C 2 rfl dX6_lowerBy_15 rfl ?_
      refine j_iald C hn1.2.1 hn1.2.2.2 dX6_lowerBy_16 (fun j1 => ?_)
      refine j_callVvS C [.int (gA S (n1 + 1) j1)] [] mv_X6_40 hn0.1 hn0.2.2.1 rfl (fun _ h => ctX6_lower hn0 h) ⟨(Nat.le_of_ble_eq_true rfl), (Nat.le_of_ble_eq_true rfl)⟩ (Nat.le_of_ble_eq_true rfl) dX6_lowerBy_17 rfl (fun r2 => ?_)
      refine j_iinc C (xs2 := fun v3 => [(0, .ref (gad g n0)), (1, .ref (gad g n1)), (2, .int v3)]) 2 rfl dX6_lowerBy_20 (by decide) (by decide) (fun _ => rfl) (fun v3 => ?_)
      refine j_goto C 2 dX6_lowerBy_23 (by decide) ?_
      exact ih r2 v3
def mX6_lowerBy (S : St) (n0 : Nat) (n1 : Nat) : Option (St) := mX6_lowerBy_2 n0 n1 FU S 0
theorem wX6_lowerBy {κ : KT} {g : GT} (C : CX κ g RX6 cX6_lowerBy 3 none 3 66) (S : St) (n0 : Nat) (hn0 : okT g n0) (n1 : Nat) (hn1 : okI g n1) : J κ g 3 (fun a : St => (none, a)) S 0 [(0, .ref (gad g n0)), (1, .ref (gad g n1))] [] (mX6_lowerBy S n0 n1) := by
  unfold mX6_lowerBy
  refine j_iconst C (v := 0) (by decide) dX6_lowerBy_0 ?_
  refine j_istore_n C (xs1 := [(0, .ref (gad g n0)), (1, .ref (gad g n1)), (2, .int 0)]) dX6_lowerBy_1 rfl (by decide) rfl ?_
  exact wX6_lowerBy_2 C n0 hn0 n1 hn1 FU S 0
theorem ctX6_lowerBy {l : Launch} {g : GT} {S : St} {n0 : Nat} (hn0 : okT g n0) {n1 : Nat} (hn1 : okI g n1) {out : St} (ho : mX6_lowerBy S n0 n1 = some out) : CT l yX6_lowerBy cX6_lowerBy 3 none 3 66 [.ref (gad g n0), .ref (gad g n1)] g S ((fun a : St => (none, a)) out) := CT_of (φ := (fun a : St => (none, a))) [.ref (gad g n0), .ref (gad g n1)] ho (by decide) (Nat.le_of_ble_eq_true rfl) (xs := [(0, .ref (gad g n0)), (1, .ref (gad g n1))]) rfl (fun κ C => wX6_lowerBy C S n0 hn0 n1 hn1)
/-! StairIdeals$Stairs.leastBefore(I)I -/
def mX6_leastBefore_42 (S : St) (n0 : Nat) (x1 : Int32) (x2 : Int32) : Option (Int32) := if (x1 - x1 / 7 * 7) < 1 then (some x2)
  else (inb 343 (x1 - 1) fun j1 => bnd (imin x2 (gA S (n0 + 1) j1)) fun v2 => some v2)
theorem wX6_leastBefore_42 {κ : KT} {g : GT} (C : CX κ g RX6 cX6_leastBefore 3 (some .int) 1 24) (S : St) (n0 : Nat) (hn0 : okT g n0) (x1 : Int32) (x2 : Int32) : J κ g 3 (fun a : Int32 => (some (Value.int a), S)) S 42 [(0, .ref (gad g n0)), (1, .int x1), (2, .int x2)] [] (mX6_leastBefore_42 S n0 x1 x2) := by
  unfold mX6_leastBefore_42
  refine j_iload_n C 1 rfl dX6_leastBefore_42 rfl ?_
  refine j_bipush C (v := 7) (by decide) dX6_leastBefore_43 ?_
  refine j_irem C (by decide) dX6_leastBefore_45 ?_
  refine j_iconst C (v := 1) (by decide) dX6_leastBefore_46 ?_
  refine j_icmp_lt C 63 dX6_leastBefore_47 (by decide) ?_ ?_
  · refine j_iload_n C 2 rfl dX6_leastBefore_63 rfl ?_
    exact j_iret C rfl dX6_leastBefore_64
  · refine j_iload_n C 2 rfl dX6_leastBefore_50 rfl ?_
    refine j_aload_n C 0 rfl dX6_leastBefore_51 rfl ?_
    refine j_getR C (x := n0 + 1) fl_X6_11 hn0.1 hn0.2.2.1 rfl dX6_leastBefore_52 ?_
    refine j_iload_n C 1 rfl dX6_leastBefore_55 rfl ?_
    refine j_iconst C (v := 1) (by decide) dX6_leastBefore_56 ?_
    refine j_isub C dX6_leastBefore_57 ?_
    refine j_iald C hn0.2.1 hn0.2.2.2 dX6_leastBefore_58 (fun j1 => ?_)
    refine j_mmin C wd_322 (Nat.le_of_ble_eq_true rfl) (Nat.le_of_ble_eq_true rfl) dX6_leastBefore_59 ?_
    refine j_topi (fun v2 => ?_)
    refine j_istore_n C (xs1 := [(0, .ref (gad g n0)), (1, .int x1), (2, .int v2)]) dX6_leastBefore_62 rfl (by decide) rfl ?_
    refine j_iload_n C 2 rfl dX6_leastBefore_63 rfl ?_
    exact j_iret C rfl dX6_leastBefore_64
def mX6_leastBefore_19 (S : St) (n0 : Nat) (x1 : Int32) (x2 : Int32) : Option (Int32) := if (x1 - x1 / 49 * 49) < 7 then (mX6_leastBefore_42 S n0 x1 x2)
  else (inb 343 (x1 - 7) fun j1 => bnd (imin x2 (gA S (n0 + 1) j1)) fun v2 => mX6_leastBefore_42 S n0 x1 v2)
theorem wX6_leastBefore_19 {κ : KT} {g : GT} (C : CX κ g RX6 cX6_leastBefore 3 (some .int) 1 24) (S : St) (n0 : Nat) (hn0 : okT g n0) (x1 : Int32) (x2 : Int32) : J κ g 3 (fun a : Int32 => (some (Value.int a), S)) S 19 [(0, .ref (gad g n0)), (1, .int x1), (2, .int x2)] [] (mX6_leastBefore_19 S n0 x1 x2) := by
  unfold mX6_leastBefore_19
  refine j_iload_n C 1 rfl dX6_leastBefore_19 rfl ?_
  refine j_bipush C (v := 49) (by decide) dX6_leastBefore_20 ?_
  refine j_irem C (by decide) dX6_leastBefore_22 ?_
  refine j_bipush C (v := 7) (by decide) dX6_leastBefore_23 ?_
  refine j_icmp_lt C 42 dX6_leastBefore_25 (by decide) ?_ ?_
  · exact wX6_leastBefore_42 C S n0 hn0 x1 x2
  · refine j_iload_n C 2 rfl dX6_leastBefore_28 rfl ?_
    refine j_aload_n C 0 rfl dX6_leastBefore_29 rfl ?_
    refine j_getR C (x := n0 + 1) fl_X6_11 hn0.1 hn0.2.2.1 rfl dX6_leastBefore_30 ?_
    refine j_iload_n C 1 rfl dX6_leastBefore_33 rfl ?_
    refine j_bipush C (v := 7) (by decide) dX6_leastBefore_34 ?_
    refine j_isub C dX6_leastBefore_36 ?_
    refine j_iald C hn0.2.1 hn0.2.2.2 dX6_leastBefore_37 (fun j1 => ?_)
    refine j_mmin C wd_322 (Nat.le_of_ble_eq_true rfl) (Nat.le_of_ble_eq_true rfl) dX6_leastBefore_38 ?_
    refine j_topi (fun v2 => ?_)
    refine j_istore_n C (xs1 := [(0, .ref (gad g n0)), (1, .int x1), (2, .int v2)]) dX6_leastBefore_41 rfl (by decide) rfl ?_
    exact wX6_leastBefore_42 C S n0 hn0 x1 v2
def mX6_leastBefore (S : St) (n0 : Nat) (a0 : Int32) : Option (Int32) := if a0 < 49 then (mX6_leastBefore_19 S n0 a0 7)
  else (inb 343 (a0 - 49) fun j1 => bnd (gA S (n0 + 1) j1) fun v2 => mX6_leastBefore_19 S n0 a0 v2)
theorem wX6_leastBefore {κ : KT} {g : GT} (C : CX κ g RX6 cX6_leastBefore 3 (some .int) 1 24) (S : St) (n0 : Nat) (hn0 : okT g n0) (a0 : Int32) : J κ g 3 (fun a : Int32 => (some (Value.int a), S)) S 0 [(0, .ref (gad g n0)), (1, .int a0)] [] (mX6_leastBefore S n0 a0) := by
  unfold mX6_leastBefore
  refine j_bipush C (v := 7) (by decide) dX6_leastBefore_0 ?_
  refine j_istore_n C (xs1 := [(0, .ref (gad g n0)), (1, .int a0), (2, .int 7)]) dX6_leastBefore_2 rfl (by decide) rfl ?_
  refine j_iload_n C 1 rfl dX6_leastBefore_3 rfl ?_
  refine j_bipush C (v := 49) (by decide) dX6_leastBefore_4 ?_
  refine j_icmp_lt C 19 dX6_leastBefore_6 (by decide) ?_ ?_
  · exact wX6_leastBefore_19 C S n0 hn0 a0 7
  · refine j_aload_n C 0 rfl dX6_leastBefore_9 rfl ?_
    refine j_getR C (x := n0 + 1) fl_X6_11 hn0.1 hn0.2.2.1 rfl dX6_leastBefore_10 ?_
    refine j_iload_n C 1 rfl dX6_leastBefore_13 rfl ?_
    refine j_bipush C (v := 49) (by decide) dX6_leastBefore_14 ?_
    refine j_isub C dX6_leastBefore_16 ?_
    refine j_iald C hn0.2.1 hn0.2.2.2 dX6_leastBefore_17 (fun j1 => ?_)
    refine j_topi (fun v2 => ?_)
    refine j_istore_n C (xs1 := [(0, .ref (gad g n0)), (1, .int a0), (2, .int v2)]) dX6_leastBefore_18 rfl (by decide) rfl ?_
    exact wX6_leastBefore_19 C S n0 hn0 a0 v2
theorem ctX6_leastBefore {l : Launch} {g : GT} {S : St} {n0 : Nat} (hn0 : okT g n0) {a0 : Int32} {out : Int32} (ho : mX6_leastBefore S n0 a0 = some out) : CT l yX6_leastBefore cX6_leastBefore 3 (some .int) 1 24 [.ref (gad g n0), .int a0] g S ((fun a : Int32 => (some (Value.int a), S)) out) := CT_of (φ := (fun a : Int32 => (some (Value.int a), S))) [.ref (gad g n0), .int a0] ho (by decide) (Nat.le_of_ble_eq_true rfl) (xs := [(0, .ref (gad g n0)), (1, .int a0)]) rfl (fun κ C => wX6_leastBefore C S n0 hn0 a0)
/-! StairIdeals$Stairs.spreadUp()V -/
def mX6_spreadUp_2 (n0 : Nat) : Nat → St → Int32 → Option (St)
  | 0, _, _ => none
  | n + 1, S, x1 => if 343 ≤ x1 then (some S)
  else (inb 343 x1 fun j1 => (mX6_leastBefore S n0 x1).bind fun r2 => inb 343 x1 fun j3 => bnd (x1 + 1) fun v4 => mX6_spreadUp_2 n0 n (sA S (n0 + 1) j3 (imin (gA S (n0 + 1) j1) r2)) v4)
theorem wX6_spreadUp_2 {κ : KT} {g : GT} (C : CX κ g RX6 cX6_spreadUp 2 none 2 46) (n0 : Nat) (hn0 : okT g n0) : ∀ (n : Nat) (S : St) (x1 : Int32), J κ g 2 (fun a : St => (none, a)) S 2 [(0, .ref (gad g n0)), (1, .int x1)] [] (mX6_spreadUp_2 n0 n S x1) := by
  intro n
  induction n with
  | zero => intro S x1; exact j_none
  | succ n ih =>
    intro S x1
    rw [mX6_spreadUp_2]
    refine j_iload_n C 1 rfl dX6_spreadUp_2 rfl ?_
    refine j_sipush C (v := 343) (by decide) dX6_spreadUp_3 ?_
    refine j_icmp_ge C 35 dX6_spreadUp_6 (by decide) ?_ ?_
    · exact j_vret C rfl dX6_spreadUp_35
    · refine j_aload_n C 0 rfl dX6_spreadUp_9 rfl ?_
      refine j_getR C (x := n0 + 1) fl_X6_11 hn0.1 hn0.2.2.1 rfl dX6_spreadUp_10 ?_
      refine j_iload_n C 1 rfl dX6_spreadUp_13 rfl ?_
      refine j_aload_n C 0 rfl dX6_spreadUp_14 rfl ?_
      refine j_getR C (x := n0 + 1) fl_X6_11 hn0.1 hn0.2.2.1 rfl dX6_spreadUp_15 ?_
      refine j_iload_n C 1 rfl dX6_spreadUp_18 rfl ?_
      refine j_iald C hn0.2.1 hn0.2.2.2 dX6_spreadUp_19 (fun j1 => ?_)
      refine j_aload_n C 0 rfl dX6_spreadUp_20 rfl ?_
      refine j_iload_n C 1 rfl dX6_spreadUp_21 rfl ?_
      refine j_callVi C [.int x1] [.int (gA S (n0 + 1) j1), .int x1, .ref (gad g (n0 + 1))] mv_X6_62 hn0.1 hn0.2.2.1 rfl (fun _ h => ctX6_leastBefore hn0 h) ⟨(Nat.le_of_ble_eq_true rfl), (Nat.le_of_ble_eq_true rfl)⟩ (Nat.le_of_ble_eq_true rfl) dX6_spreadUp_22 rfl (fun r2 => ?_)
      refine j_mmin C wd_322 (Nat.le_of_ble_eq_true rfl) (Nat.le_of_ble_eq_true rfl) dX6_spreadUp_25 ?_
      refine j_iast C hn0.2.1 hn0.2.2.2 dX6_spreadUp_28 (fun j3 => ?_)
      refine j_iinc C (xs2 := fun v4 => [(0, .ref (gad g n0)), (1, .int v4)]) 1 rfl dX6_spreadUp_29 (by decide) (by decide) (fun _ => rfl) (fun v4 => ?_)
      refine j_goto C 2 dX6_spreadUp_32 (by decide) ?_
      exact ih (sA S (n0 + 1) j3 (imin (gA S (n0 + 1) j1) r2)) v4
def mX6_spreadUp (S : St) (n0 : Nat) : Option (St) := mX6_spreadUp_2 n0 FU S 0
theorem wX6_spreadUp {κ : KT} {g : GT} (C : CX κ g RX6 cX6_spreadUp 2 none 2 46) (S : St) (n0 : Nat) (hn0 : okT g n0) : J κ g 2 (fun a : St => (none, a)) S 0 [(0, .ref (gad g n0))] [] (mX6_spreadUp S n0) := by
  unfold mX6_spreadUp
  refine j_iconst C (v := 0) (by decide) dX6_spreadUp_0 ?_
  refine j_istore_n C (xs1 := [(0, .ref (gad g n0)), (1, .int 0)]) dX6_spreadUp_1 rfl (by decide) rfl ?_
  exact wX6_spreadUp_2 C n0 hn0 FU S 0
theorem ctX6_spreadUp {l : Launch} {g : GT} {S : St} {n0 : Nat} (hn0 : okT g n0) {out : St} (ho : mX6_spreadUp S n0 = some out) : CT l yX6_spreadUp cX6_spreadUp 2 none 2 46 [.ref (gad g n0)] g S ((fun a : St => (none, a)) out) := CT_of (φ := (fun a : St => (none, a))) [.ref (gad g n0)] ho (by decide) (Nat.le_of_ble_eq_true rfl) (xs := [(0, .ref (gad g n0))]) rfl (fun κ C => wX6_spreadUp C S n0 hn0)
/-! StairIdeals$Stairs.become(LStairIdeals$Ideal;)V -/
def mX6_become (S : St) (n0 : Nat) (n1 : Nat) : Option (St) := (mX6_becomeNothing S n0).bind fun r1 => (mX6_lowerBy r1 n0 n1).bind fun r2 => (mX6_spreadUp r2 n0).bind fun r3 => some r3
theorem wX6_become {κ : KT} {g : GT} (C : CX κ g RX6 cX6_become 2 none 4 88) (S : St) (n0 : Nat) (hn0 : okT g n0) (n1 : Nat) (hn1 : okI g n1) : J κ g 2 (fun a : St => (none, a)) S 0 [(0, .ref (gad g n0)), (1, .ref (gad g n1))] [] (mX6_become S n0 n1) := by
  unfold mX6_become
  refine j_aload_n C 0 rfl dX6_become_0 rfl ?_
  refine j_callVvS C [] [] mv_X6_21 hn0.1 hn0.2.2.1 rfl (fun _ h => ctX6_becomeNothing hn0 h) ⟨(Nat.le_of_ble_eq_true rfl), (Nat.le_of_ble_eq_true rfl)⟩ (Nat.le_of_ble_eq_true rfl) dX6_become_1 rfl (fun r1 => ?_)
  refine j_aload_n C 0 rfl dX6_become_4 rfl ?_
  refine j_aload_n C 1 rfl dX6_become_5 rfl ?_
  refine j_callVvS C [.ref (gad g n1)] [] mv_X6_24 hn0.1 hn0.2.2.1 rfl (fun _ h => ctX6_lowerBy hn0 hn1 h) ⟨(Nat.le_of_ble_eq_true rfl), (Nat.le_of_ble_eq_true rfl)⟩ (Nat.le_of_ble_eq_true rfl) dX6_become_6 rfl (fun r2 => ?_)
  refine j_aload_n C 0 rfl dX6_become_9 rfl ?_
  refine j_callVvS C [] [] mv_X6_28 hn0.1 hn0.2.2.1 rfl (fun _ h => ctX6_spreadUp hn0 h) ⟨(Nat.le_of_ble_eq_true rfl), (Nat.le_of_ble_eq_true rfl)⟩ (Nat.le_of_ble_eq_true rfl) dX6_become_10 rfl (fun r3 => ?_)
  exact j_vret C rfl dX6_become_13
theorem ctX6_become {l : Launch} {g : GT} {S : St} {n0 : Nat} (hn0 : okT g n0) {n1 : Nat} (hn1 : okI g n1) {out : St} (ho : mX6_become S n0 n1 = some out) : CT l yX6_become cX6_become 2 none 4 88 [.ref (gad g n0), .ref (gad g n1)] g S ((fun a : St => (none, a)) out) := CT_of (φ := (fun a : St => (none, a))) [.ref (gad g n0), .ref (gad g n1)] ho (by decide) (Nat.le_of_ble_eq_true rfl) (xs := [(0, .ref (gad g n0)), (1, .ref (gad g n1))]) rfl (fun κ C => wX6_become C S n0 hn0 n1 hn1)
/-! StairIdeals$Stairs.raiseBy(LStairIdeals$Stairs;)V -/
def mX6_raiseBy_2 (n0 : Nat) (n1 : Nat) : Nat → St → Int32 → Option (St)
  | 0, _, _ => none
  | n + 1, S, x2 => if 343 ≤ x2 then (some S)
  else (inb 343 x2 fun j1 => inb 343 x2 fun j2 => inb 343 x2 fun j3 => bnd (x2 + 1) fun v4 => mX6_raiseBy_2 n0 n1 n (sA S (n0 + 1) j3 (imax (gA S (n0 + 1) j1) (gA S (n1 + 1) j2))) v4)
theorem wX6_raiseBy_2 {κ : KT} {g : GT} (C : CX κ g RX6 cX6_raiseBy 3 none 1 24) (n0 : Nat) (hn0 : okT g n0) (n1 : Nat) (hn1 : okT g n1) : ∀ (n : Nat) (S : St) (x2 : Int32), J κ g 3 (fun a : St => (none, a)) S 2 [(0, .ref (gad g n0)), (1, .ref (gad g n1)), (2, .int x2)] [] (mX6_raiseBy_2 n0 n1 n S x2) := by
  intro n
  induction n with
  | zero => intro S x2; exact j_none
  | succ n ih =>
    intro S x2
    rw [mX6_raiseBy_2]
    refine j_iload_n C 2 rfl dX6_raiseBy_2 rfl ?_
    refine j_sipush C (v := 343) (by decide) dX6_raiseBy_3 ?_
    refine j_icmp_ge C 36 dX6_raiseBy_6 (by decide) ?_ ?_
    · exact j_vret C rfl dX6_raiseBy_36
    · refine j_aload_n C 0 rfl dX6_raiseBy_9 rfl ?_
      refine j_getR C (x := n0 + 1) fl_X6_11 hn0.1 hn0.2.2.1 rfl dX6_raiseBy_10 ?_
      refine j_iload_n C 2 rfl dX6_raiseBy_13 rfl ?_
      refine j_aload_n C 0 rfl dX6_raiseBy_14 rfl ?_
      refine j_getR C (x := n0 + 1) fl_X6_11 hn0.1 hn0.2.2.1 rfl dX6_raiseBy_15 ?_
      refine j_iload_n C 2 rfl dX6_raiseBy_18 rfl ?_
      refine j_iald C hn0.2.1 hn0.2.2.2 dX6_raiseBy_19 (fun j1 => ?_)
      refine j_aload_n C 1 rfl dX6_raiseBy_20 rfl ?_
      refine j_getR C (x := n1 + 1) fl_X6_11 hn1.1 hn1.2.2.1 rfl dX6_raiseBy_21 ?_
      refine j_iload_n C 2 rfl dX6_raiseBy_24 rfl ?_
      refine j_iald C hn1.2.1 hn1.2.2.2 dX6_raiseBy_25 (fun j2 => ?_)
      refine j_mmax C wd_398 (Nat.le_of_ble_eq_true rfl) (Nat.le_of_ble_eq_true rfl) dX6_raiseBy_26 ?_
      refine j_iast C hn0.2.1 hn0.2.2.2 dX6_raiseBy_29 (fun j3 => ?_)
      refine j_iinc C (xs2 := fun v4 => [(0, .ref (gad g n0)), (1, .ref (gad g n1)), (2, .int v4)]) 2 rfl dX6_raiseBy_30 (by decide) (by decide) (fun _ => rfl) (fun v4 => ?_)
      refine j_goto C 2 dX6_raiseBy_33 (by decide) ?_
      exact ih (sA S (n0 + 1) j3 (imax (gA S (n0 + 1) j1) (gA S (n1 + 1) j2))) v4
def mX6_raiseBy (S : St) (n0 : Nat) (n1 : Nat) : Option (St) := mX6_raiseBy_2 n0 n1 FU S 0
theorem wX6_raiseBy {κ : KT} {g : GT} (C : CX κ g RX6 cX6_raiseBy 3 none 1 24) (S : St) (n0 : Nat) (hn0 : okT g n0) (n1 : Nat) (hn1 : okT g n1) : J κ g 3 (fun a : St => (none, a)) S 0 [(0, .ref (gad g n0)), (1, .ref (gad g n1))] [] (mX6_raiseBy S n0 n1) := by
  unfold mX6_raiseBy
  refine j_iconst C (v := 0) (by decide) dX6_raiseBy_0 ?_
  refine j_istore_n C (xs1 := [(0, .ref (gad g n0)), (1, .ref (gad g n1)), (2, .int 0)]) dX6_raiseBy_1 rfl (by decide) rfl ?_
  exact wX6_raiseBy_2 C n0 hn0 n1 hn1 FU S 0
theorem ctX6_raiseBy {l : Launch} {g : GT} {S : St} {n0 : Nat} (hn0 : okT g n0) {n1 : Nat} (hn1 : okT g n1) {out : St} (ho : mX6_raiseBy S n0 n1 = some out) : CT l yX6_raiseBy cX6_raiseBy 3 none 1 24 [.ref (gad g n0), .ref (gad g n1)] g S ((fun a : St => (none, a)) out) := CT_of (φ := (fun a : St => (none, a))) [.ref (gad g n0), .ref (gad g n1)] ho (by decide) (Nat.le_of_ble_eq_true rfl) (xs := [(0, .ref (gad g n0)), (1, .ref (gad g n1))]) rfl (fun κ C => wX6_raiseBy C S n0 hn0 n1 hn1)
/-! StairIdeals$Stairs.monomialOf(I)I -/
def mX6_monomialOf (a0 : Int32) : Option (Int32) := some ((((a0 / 49) <<< ((12 : Int32) &&& 31)) ||| (((a0 / 7) - (a0 / 7) / 7 * 7) <<< ((8 : Int32) &&& 31))) ||| ((a0 - a0 / 7 * 7) <<< ((4 : Int32) &&& 31)))
theorem wX6_monomialOf {κ : KT} {g : GT} (C : CX κ g RX6 cX6_monomialOf 1 (some .int) 0 0) (S : St) (a0 : Int32) : J κ g 1 (fun a : Int32 => (some (Value.int a), S)) S 0 [(0, .int a0)] [] (mX6_monomialOf a0) := by
  unfold mX6_monomialOf
  refine j_iload_n C 0 rfl dX6_monomialOf_0 rfl ?_
  refine j_bipush C (v := 49) (by decide) dX6_monomialOf_1 ?_
  refine j_idiv C (by decide) dX6_monomialOf_3 ?_
  refine j_bipush C (v := 12) (by decide) dX6_monomialOf_4 ?_
  refine j_ishl C dX6_monomialOf_6 ?_
  refine j_iload_n C 0 rfl dX6_monomialOf_7 rfl ?_
  refine j_bipush C (v := 7) (by decide) dX6_monomialOf_8 ?_
  refine j_idiv C (by decide) dX6_monomialOf_10 ?_
  refine j_bipush C (v := 7) (by decide) dX6_monomialOf_11 ?_
  refine j_irem C (by decide) dX6_monomialOf_13 ?_
  refine j_bipush C (v := 8) (by decide) dX6_monomialOf_14 ?_
  refine j_ishl C dX6_monomialOf_16 ?_
  refine j_ior C dX6_monomialOf_17 ?_
  refine j_iload_n C 0 rfl dX6_monomialOf_18 rfl ?_
  refine j_bipush C (v := 7) (by decide) dX6_monomialOf_19 ?_
  refine j_irem C (by decide) dX6_monomialOf_21 ?_
  refine j_iconst C (v := 4) (by decide) dX6_monomialOf_22 ?_
  refine j_ishl C dX6_monomialOf_23 ?_
  refine j_ior C dX6_monomialOf_24 ?_
  exact j_iret C rfl dX6_monomialOf_25
theorem ctX6_monomialOf {l : Launch} {g : GT} {S : St} {a0 : Int32} {out : Int32} (ho : mX6_monomialOf a0 = some out) : CT l yX6_monomialOf cX6_monomialOf 1 (some .int) 0 0 [.int a0] g S ((fun a : Int32 => (some (Value.int a), S)) out) := CT_of (φ := (fun a : Int32 => (some (Value.int a), S))) [.int a0] ho (by decide) (Nat.le_of_ble_eq_true rfl) (xs := [(0, .int a0)]) rfl (fun κ C => wX6_monomialOf C S a0)
/-! StairIdeals$Stairs.mostBehind(I)I -/
def mX6_mostBehind_42 (S : St) (n0 : Nat) (x1 : Int32) (x2 : Int32) : Option (Int32) := if 6 ≤ (x1 - x1 / 7 * 7) then (some x2)
  else (inb 343 (x1 + 1) fun j1 => bnd (imax x2 (gA S (n0 + 1) j1)) fun v2 => some v2)
theorem wX6_mostBehind_42 {κ : KT} {g : GT} (C : CX κ g RX6 cX6_mostBehind 3 (some .int) 1 24) (S : St) (n0 : Nat) (hn0 : okT g n0) (x1 : Int32) (x2 : Int32) : J κ g 3 (fun a : Int32 => (some (Value.int a), S)) S 42 [(0, .ref (gad g n0)), (1, .int x1), (2, .int x2)] [] (mX6_mostBehind_42 S n0 x1 x2) := by
  unfold mX6_mostBehind_42
  refine j_iload_n C 1 rfl dX6_mostBehind_42 rfl ?_
  refine j_bipush C (v := 7) (by decide) dX6_mostBehind_43 ?_
  refine j_irem C (by decide) dX6_mostBehind_45 ?_
  refine j_bipush C (v := 6) (by decide) dX6_mostBehind_46 ?_
  refine j_icmp_ge C 64 dX6_mostBehind_48 (by decide) ?_ ?_
  · refine j_iload_n C 2 rfl dX6_mostBehind_64 rfl ?_
    exact j_iret C rfl dX6_mostBehind_65
  · refine j_iload_n C 2 rfl dX6_mostBehind_51 rfl ?_
    refine j_aload_n C 0 rfl dX6_mostBehind_52 rfl ?_
    refine j_getR C (x := n0 + 1) fl_X6_11 hn0.1 hn0.2.2.1 rfl dX6_mostBehind_53 ?_
    refine j_iload_n C 1 rfl dX6_mostBehind_56 rfl ?_
    refine j_iconst C (v := 1) (by decide) dX6_mostBehind_57 ?_
    refine j_iadd C dX6_mostBehind_58 ?_
    refine j_iald C hn0.2.1 hn0.2.2.2 dX6_mostBehind_59 (fun j1 => ?_)
    refine j_mmax C wd_398 (Nat.le_of_ble_eq_true rfl) (Nat.le_of_ble_eq_true rfl) dX6_mostBehind_60 ?_
    refine j_topi (fun v2 => ?_)
    refine j_istore_n C (xs1 := [(0, .ref (gad g n0)), (1, .int x1), (2, .int v2)]) dX6_mostBehind_63 rfl (by decide) rfl ?_
    refine j_iload_n C 2 rfl dX6_mostBehind_64 rfl ?_
    exact j_iret C rfl dX6_mostBehind_65
def mX6_mostBehind_19 (S : St) (n0 : Nat) (x1 : Int32) (x2 : Int32) : Option (Int32) := if 42 ≤ (x1 - x1 / 49 * 49) then (mX6_mostBehind_42 S n0 x1 x2)
  else (inb 343 (x1 + 7) fun j1 => bnd (imax x2 (gA S (n0 + 1) j1)) fun v2 => mX6_mostBehind_42 S n0 x1 v2)
theorem wX6_mostBehind_19 {κ : KT} {g : GT} (C : CX κ g RX6 cX6_mostBehind 3 (some .int) 1 24) (S : St) (n0 : Nat) (hn0 : okT g n0) (x1 : Int32) (x2 : Int32) : J κ g 3 (fun a : Int32 => (some (Value.int a), S)) S 19 [(0, .ref (gad g n0)), (1, .int x1), (2, .int x2)] [] (mX6_mostBehind_19 S n0 x1 x2) := by
  unfold mX6_mostBehind_19
  refine j_iload_n C 1 rfl dX6_mostBehind_19 rfl ?_
  refine j_bipush C (v := 49) (by decide) dX6_mostBehind_20 ?_
  refine j_irem C (by decide) dX6_mostBehind_22 ?_
  refine j_bipush C (v := 42) (by decide) dX6_mostBehind_23 ?_
  refine j_icmp_ge C 42 dX6_mostBehind_25 (by decide) ?_ ?_
  · exact wX6_mostBehind_42 C S n0 hn0 x1 x2
  · refine j_iload_n C 2 rfl dX6_mostBehind_28 rfl ?_
    refine j_aload_n C 0 rfl dX6_mostBehind_29 rfl ?_
    refine j_getR C (x := n0 + 1) fl_X6_11 hn0.1 hn0.2.2.1 rfl dX6_mostBehind_30 ?_
    refine j_iload_n C 1 rfl dX6_mostBehind_33 rfl ?_
    refine j_bipush C (v := 7) (by decide) dX6_mostBehind_34 ?_
    refine j_iadd C dX6_mostBehind_36 ?_
    refine j_iald C hn0.2.1 hn0.2.2.2 dX6_mostBehind_37 (fun j1 => ?_)
    refine j_mmax C wd_398 (Nat.le_of_ble_eq_true rfl) (Nat.le_of_ble_eq_true rfl) dX6_mostBehind_38 ?_
    refine j_topi (fun v2 => ?_)
    refine j_istore_n C (xs1 := [(0, .ref (gad g n0)), (1, .int x1), (2, .int v2)]) dX6_mostBehind_41 rfl (by decide) rfl ?_
    exact wX6_mostBehind_42 C S n0 hn0 x1 v2
def mX6_mostBehind (S : St) (n0 : Nat) (a0 : Int32) : Option (Int32) := if 294 ≤ a0 then (mX6_mostBehind_19 S n0 a0 0)
  else (inb 343 (a0 + 49) fun j1 => bnd (gA S (n0 + 1) j1) fun v2 => mX6_mostBehind_19 S n0 a0 v2)
theorem wX6_mostBehind {κ : KT} {g : GT} (C : CX κ g RX6 cX6_mostBehind 3 (some .int) 1 24) (S : St) (n0 : Nat) (hn0 : okT g n0) (a0 : Int32) : J κ g 3 (fun a : Int32 => (some (Value.int a), S)) S 0 [(0, .ref (gad g n0)), (1, .int a0)] [] (mX6_mostBehind S n0 a0) := by
  unfold mX6_mostBehind
  refine j_iconst C (v := 0) (by decide) dX6_mostBehind_0 ?_
  refine j_istore_n C (xs1 := [(0, .ref (gad g n0)), (1, .int a0), (2, .int 0)]) dX6_mostBehind_1 rfl (by decide) rfl ?_
  refine j_iload_n C 1 rfl dX6_mostBehind_2 rfl ?_
  refine j_sipush C (v := 294) (by decide) dX6_mostBehind_3 ?_
  refine j_icmp_ge C 19 dX6_mostBehind_6 (by decide) ?_ ?_
  · exact wX6_mostBehind_19 C S n0 hn0 a0 0
  · refine j_aload_n C 0 rfl dX6_mostBehind_9 rfl ?_
    refine j_getR C (x := n0 + 1) fl_X6_11 hn0.1 hn0.2.2.1 rfl dX6_mostBehind_10 ?_
    refine j_iload_n C 1 rfl dX6_mostBehind_13 rfl ?_
    refine j_bipush C (v := 49) (by decide) dX6_mostBehind_14 ?_
    refine j_iadd C dX6_mostBehind_16 ?_
    refine j_iald C hn0.2.1 hn0.2.2.2 dX6_mostBehind_17 (fun j1 => ?_)
    refine j_topi (fun v2 => ?_)
    refine j_istore_n C (xs1 := [(0, .ref (gad g n0)), (1, .int a0), (2, .int v2)]) dX6_mostBehind_18 rfl (by decide) rfl ?_
    exact wX6_mostBehind_19 C S n0 hn0 a0 v2
theorem ctX6_mostBehind {l : Launch} {g : GT} {S : St} {n0 : Nat} (hn0 : okT g n0) {a0 : Int32} {out : Int32} (ho : mX6_mostBehind S n0 a0 = some out) : CT l yX6_mostBehind cX6_mostBehind 3 (some .int) 1 24 [.ref (gad g n0), .int a0] g S ((fun a : Int32 => (some (Value.int a), S)) out) := CT_of (φ := (fun a : Int32 => (some (Value.int a), S))) [.ref (gad g n0), .int a0] ho (by decide) (Nat.le_of_ble_eq_true rfl) (xs := [(0, .ref (gad g n0)), (1, .int a0)]) rfl (fun κ C => wX6_mostBehind C S n0 hn0 a0)
/-! StairIdeals$Stairs.spreadDown()V -/
def mX6_spreadDown_4 (n0 : Nat) : Nat → St → Int32 → Option (St)
  | 0, _, _ => none
  | n + 1, S, x1 => if x1 < 0 then (some S)
  else (inb 343 x1 fun j1 => (mX6_mostBehind S n0 x1).bind fun r2 => inb 343 x1 fun j3 => bnd (x1 + (-1)) fun v4 => mX6_spreadDown_4 n0 n (sA S (n0 + 1) j3 (imax (gA S (n0 + 1) j1) r2)) v4)
theorem wX6_spreadDown_4 {κ : KT} {g : GT} (C : CX κ g RX6 cX6_spreadDown 2 none 2 46) (n0 : Nat) (hn0 : okT g n0) : ∀ (n : Nat) (S : St) (x1 : Int32), J κ g 2 (fun a : St => (none, a)) S 4 [(0, .ref (gad g n0)), (1, .int x1)] [] (mX6_spreadDown_4 n0 n S x1) := by
  intro n
  induction n with
  | zero => intro S x1; exact j_none
  | succ n ih =>
    intro S x1
    rw [mX6_spreadDown_4]
    refine j_iload_n C 1 rfl dX6_spreadDown_4 rfl ?_
    refine j_if_lt C 34 dX6_spreadDown_5 (by decide) ?_ ?_
    · exact j_vret C rfl dX6_spreadDown_34
    · refine j_aload_n C 0 rfl dX6_spreadDown_8 rfl ?_
      refine j_getR C (x := n0 + 1) fl_X6_11 hn0.1 hn0.2.2.1 rfl dX6_spreadDown_9 ?_
      refine j_iload_n C 1 rfl dX6_spreadDown_12 rfl ?_
      refine j_aload_n C 0 rfl dX6_spreadDown_13 rfl ?_
      refine j_getR C (x := n0 + 1) fl_X6_11 hn0.1 hn0.2.2.1 rfl dX6_spreadDown_14 ?_
      refine j_iload_n C 1 rfl dX6_spreadDown_17 rfl ?_
      refine j_iald C hn0.2.1 hn0.2.2.2 dX6_spreadDown_18 (fun j1 => ?_)
      refine j_aload_n C 0 rfl dX6_spreadDown_19 rfl ?_
      refine j_iload_n C 1 rfl dX6_spreadDown_20 rfl ?_
      refine j_callVi C [.int x1] [.int (gA S (n0 + 1) j1), .int x1, .ref (gad g (n0 + 1))] mv_X6_65 hn0.1 hn0.2.2.1 rfl (fun _ h => ctX6_mostBehind hn0 h) ⟨(Nat.le_of_ble_eq_true rfl), (Nat.le_of_ble_eq_true rfl)⟩ (Nat.le_of_ble_eq_true rfl) dX6_spreadDown_21 rfl (fun r2 => ?_)
      refine j_mmax C wd_398 (Nat.le_of_ble_eq_true rfl) (Nat.le_of_ble_eq_true rfl) dX6_spreadDown_24 ?_
      refine j_iast C hn0.2.1 hn0.2.2.2 dX6_spreadDown_27 (fun j3 => ?_)
      refine j_iinc C (xs2 := fun v4 => [(0, .ref (gad g n0)), (1, .int v4)]) 1 rfl dX6_spreadDown_28 (by decide) (by decide) (fun _ => rfl) (fun v4 => ?_)
      refine j_goto C 4 dX6_spreadDown_31 (by decide) ?_
      exact ih (sA S (n0 + 1) j3 (imax (gA S (n0 + 1) j1) r2)) v4
def mX6_spreadDown (S : St) (n0 : Nat) : Option (St) := mX6_spreadDown_4 n0 FU S 342
theorem wX6_spreadDown {κ : KT} {g : GT} (C : CX κ g RX6 cX6_spreadDown 2 none 2 46) (S : St) (n0 : Nat) (hn0 : okT g n0) : J κ g 2 (fun a : St => (none, a)) S 0 [(0, .ref (gad g n0))] [] (mX6_spreadDown S n0) := by
  unfold mX6_spreadDown
  refine j_sipush C (v := 342) (by decide) dX6_spreadDown_0 ?_
  refine j_istore_n C (xs1 := [(0, .ref (gad g n0)), (1, .int 342)]) dX6_spreadDown_3 rfl (by decide) rfl ?_
  exact wX6_spreadDown_4 C n0 hn0 FU S 342
theorem ctX6_spreadDown {l : Launch} {g : GT} {S : St} {n0 : Nat} (hn0 : okT g n0) {out : St} (ho : mX6_spreadDown S n0 = some out) : CT l yX6_spreadDown cX6_spreadDown 2 none 2 46 [.ref (gad g n0)] g S ((fun a : St => (none, a)) out) := CT_of (φ := (fun a : St => (none, a))) [.ref (gad g n0)] ho (by decide) (Nat.le_of_ble_eq_true rfl) (xs := [(0, .ref (gad g n0))]) rfl (fun κ C => wX6_spreadDown C S n0 hn0)
/-! StairIdeals$Stairs.generatorAt(I)I -/
def mX6_generatorAt (S : St) (n0 : Nat) (a0 : Int32) : Option (Int32) := inb 343 a0 fun j1 => (mX6_leastBefore S n0 a0).bind fun r2 => if r2 ≤ (gA S (n0 + 1) j1) then (some (-1))
  else ((mX6_monomialOf a0).bind fun r3 => inb 343 a0 fun j4 => some (r3 ||| (gA S (n0 + 1) j4)))
theorem wX6_generatorAt {κ : KT} {g : GT} (C : CX κ g RX6 cX6_generatorAt 2 (some .int) 2 46) (S : St) (n0 : Nat) (hn0 : okT g n0) (a0 : Int32) : J κ g 2 (fun a : Int32 => (some (Value.int a), S)) S 0 [(0, .ref (gad g n0)), (1, .int a0)] [] (mX6_generatorAt S n0 a0) := by
  unfold mX6_generatorAt
  refine j_aload_n C 0 rfl dX6_generatorAt_0 rfl ?_
  refine j_getR C (x := n0 + 1) fl_X6_11 hn0.1 hn0.2.2.1 rfl dX6_generatorAt_1 ?_
  refine j_iload_n C 1 rfl dX6_generatorAt_4 rfl ?_
  refine j_iald C hn0.2.1 hn0.2.2.2 dX6_generatorAt_5 (fun j1 => ?_)
  refine j_aload_n C 0 rfl dX6_generatorAt_6 rfl ?_
  refine j_iload_n C 1 rfl dX6_generatorAt_7 rfl ?_
  refine j_callVi C [.int a0] [.int (gA S (n0 + 1) j1)] mv_X6_62 hn0.1 hn0.2.2.1 rfl (fun _ h => ctX6_leastBefore hn0 h) ⟨(Nat.le_of_ble_eq_true rfl), (Nat.le_of_ble_eq_true rfl)⟩ (Nat.le_of_ble_eq_true rfl) dX6_generatorAt_8 rfl (fun r2 => ?_)
  refine j_icmp_ge C 28 dX6_generatorAt_11 (by decide) ?_ ?_
  · refine j_iconst C (v := (-1)) (by decide) dX6_generatorAt_28 ?_
    exact j_iret C rfl dX6_generatorAt_29
  · refine j_iload_n C 1 rfl dX6_generatorAt_14 rfl ?_
    refine j_callSi C [.int a0] [] ms_X6_68 (fun _ h => ctX6_monomialOf h) ⟨(Nat.le_of_ble_eq_true rfl), (Nat.le_of_ble_eq_true rfl)⟩ (Nat.le_of_ble_eq_true rfl) dX6_generatorAt_15 rfl (fun r3 => ?_)
    refine j_aload_n C 0 rfl dX6_generatorAt_18 rfl ?_
    refine j_getR C (x := n0 + 1) fl_X6_11 hn0.1 hn0.2.2.1 rfl dX6_generatorAt_19 ?_
    refine j_iload_n C 1 rfl dX6_generatorAt_22 rfl ?_
    refine j_iald C hn0.2.1 hn0.2.2.2 dX6_generatorAt_23 (fun j4 => ?_)
    refine j_ior C dX6_generatorAt_24 ?_
    refine j_goto C 29 dX6_generatorAt_25 (by decide) ?_
    exact j_iret C rfl dX6_generatorAt_29
theorem ctX6_generatorAt {l : Launch} {g : GT} {S : St} {n0 : Nat} (hn0 : okT g n0) {a0 : Int32} {out : Int32} (ho : mX6_generatorAt S n0 a0 = some out) : CT l yX6_generatorAt cX6_generatorAt 2 (some .int) 2 46 [.ref (gad g n0), .int a0] g S ((fun a : Int32 => (some (Value.int a), S)) out) := CT_of (φ := (fun a : Int32 => (some (Value.int a), S))) [.ref (gad g n0), .int a0] ho (by decide) (Nat.le_of_ble_eq_true rfl) (xs := [(0, .ref (gad g n0)), (1, .int a0)]) rfl (fun κ C => wX6_generatorAt C S n0 hn0 a0)
/-! StairIdeals$Stairs.cellInPartOrder(I)I -/
def mX6_cellInPartOrder (a0 : Int32) : Option (Int32) := some (((49 * (((a0 / 49) + 6) - ((a0 / 49) + 6) / 7 * 7)) + (7 * (((a0 / 7) + 6) - ((a0 / 7) + 6) / 7 * 7))) + (1 * ((a0 + 6) - (a0 + 6) / 7 * 7)))
theorem wX6_cellInPartOrder {κ : KT} {g : GT} (C : CX κ g RX6 cX6_cellInPartOrder 1 (some .int) 0 0) (S : St) (a0 : Int32) : J κ g 1 (fun a : Int32 => (some (Value.int a), S)) S 0 [(0, .int a0)] [] (mX6_cellInPartOrder a0) := by
  unfold mX6_cellInPartOrder
  refine j_bipush C (v := 49) (by decide) dX6_cellInPartOrder_0 ?_
  refine j_iload_n C 0 rfl dX6_cellInPartOrder_2 rfl ?_
  refine j_bipush C (v := 49) (by decide) dX6_cellInPartOrder_3 ?_
  refine j_idiv C (by decide) dX6_cellInPartOrder_5 ?_
  refine j_bipush C (v := 6) (by decide) dX6_cellInPartOrder_6 ?_
  refine j_iadd C dX6_cellInPartOrder_8 ?_
  refine j_bipush C (v := 7) (by decide) dX6_cellInPartOrder_9 ?_
  refine j_irem C (by decide) dX6_cellInPartOrder_11 ?_
  refine j_imul C dX6_cellInPartOrder_12 ?_
  refine j_bipush C (v := 7) (by decide) dX6_cellInPartOrder_13 ?_
  refine j_iload_n C 0 rfl dX6_cellInPartOrder_15 rfl ?_
  refine j_bipush C (v := 7) (by decide) dX6_cellInPartOrder_16 ?_
  refine j_idiv C (by decide) dX6_cellInPartOrder_18 ?_
  refine j_bipush C (v := 6) (by decide) dX6_cellInPartOrder_19 ?_
  refine j_iadd C dX6_cellInPartOrder_21 ?_
  refine j_bipush C (v := 7) (by decide) dX6_cellInPartOrder_22 ?_
  refine j_irem C (by decide) dX6_cellInPartOrder_24 ?_
  refine j_imul C dX6_cellInPartOrder_25 ?_
  refine j_iadd C dX6_cellInPartOrder_26 ?_
  refine j_iconst C (v := 1) (by decide) dX6_cellInPartOrder_27 ?_
  refine j_iload_n C 0 rfl dX6_cellInPartOrder_28 rfl ?_
  refine j_bipush C (v := 6) (by decide) dX6_cellInPartOrder_29 ?_
  refine j_iadd C dX6_cellInPartOrder_31 ?_
  refine j_bipush C (v := 7) (by decide) dX6_cellInPartOrder_32 ?_
  refine j_irem C (by decide) dX6_cellInPartOrder_34 ?_
  refine j_imul C dX6_cellInPartOrder_35 ?_
  refine j_iadd C dX6_cellInPartOrder_36 ?_
  exact j_iret C rfl dX6_cellInPartOrder_37
theorem ctX6_cellInPartOrder {l : Launch} {g : GT} {S : St} {a0 : Int32} {out : Int32} (ho : mX6_cellInPartOrder a0 = some out) : CT l yX6_cellInPartOrder cX6_cellInPartOrder 1 (some .int) 0 0 [.int a0] g S ((fun a : Int32 => (some (Value.int a), S)) out) := CT_of (φ := (fun a : Int32 => (some (Value.int a), S))) [.int a0] ho (by decide) (Nat.le_of_ble_eq_true rfl) (xs := [(0, .int a0)]) rfl (fun κ C => wX6_cellInPartOrder C S a0)
/-! StairIdeals$Stairs.partAt(I)I -/
def mX6_partAt (S : St) (n0 : Nat) (a0 : Int32) : Option (Int32) := (mX6_cellInPartOrder a0).bind fun r1 => inb 343 r1 fun j2 => (mX6_mostBehind S n0 r1).bind fun r3 => if (gA S (n0 + 1) j2) ≤ r3 then (some (-1))
  else ((mX6_monomialOf a0).bind fun r4 => inb 343 r1 fun j5 => some (r4 ||| ((gA S (n0 + 1) j5) - (gA S (n0 + 1) j5) / 7 * 7)))
theorem wX6_partAt {κ : KT} {g : GT} (C : CX κ g RX6 cX6_partAt 3 (some .int) 2 46) (S : St) (n0 : Nat) (hn0 : okT g n0) (a0 : Int32) : J κ g 3 (fun a : Int32 => (some (Value.int a), S)) S 0 [(0, .ref (gad g n0)), (1, .int a0)] [] (mX6_partAt S n0 a0) := by
  unfold mX6_partAt
  refine j_iload_n C 1 rfl dX6_partAt_0 rfl ?_
  refine j_callSi C [.int a0] [] ms_X6_71 (fun _ h => ctX6_cellInPartOrder h) ⟨(Nat.le_of_ble_eq_true rfl), (Nat.le_of_ble_eq_true rfl)⟩ (Nat.le_of_ble_eq_true rfl) dX6_partAt_1 rfl (fun r1 => ?_)
  refine j_istore_n C (xs1 := [(0, .ref (gad g n0)), (1, .int a0), (2, .int r1)]) dX6_partAt_4 rfl (by decide) rfl ?_
  refine j_aload_n C 0 rfl dX6_partAt_5 rfl ?_
  refine j_getR C (x := n0 + 1) fl_X6_11 hn0.1 hn0.2.2.1 rfl dX6_partAt_6 ?_
  refine j_iload_n C 2 rfl dX6_partAt_9 rfl ?_
  refine j_iald C hn0.2.1 hn0.2.2.2 dX6_partAt_10 (fun j2 => ?_)
  refine j_aload_n C 0 rfl dX6_partAt_11 rfl ?_
  refine j_iload_n C 2 rfl dX6_partAt_12 rfl ?_
  refine j_callVi C [.int r1] [.int (gA S (n0 + 1) j2)] mv_X6_65 hn0.1 hn0.2.2.1 rfl (fun _ h => ctX6_mostBehind hn0 h) ⟨(Nat.le_of_ble_eq_true rfl), (Nat.le_of_ble_eq_true rfl)⟩ (Nat.le_of_ble_eq_true rfl) dX6_partAt_13 rfl (fun r3 => ?_)
  refine j_icmp_le C 36 dX6_partAt_16 (by decide) ?_ ?_
  · refine j_iconst C (v := (-1)) (by decide) dX6_partAt_36 ?_
    exact j_iret C rfl dX6_partAt_37
  · refine j_iload_n C 1 rfl dX6_partAt_19 rfl ?_
    refine j_callSi C [.int a0] [] ms_X6_68 (fun _ h => ctX6_monomialOf h) ⟨(Nat.le_of_ble_eq_true rfl), (Nat.le_of_ble_eq_true rfl)⟩ (Nat.le_of_ble_eq_true rfl) dX6_partAt_20 rfl (fun r4 => ?_)
    refine j_aload_n C 0 rfl dX6_partAt_23 rfl ?_
    refine j_getR C (x := n0 + 1) fl_X6_11 hn0.1 hn0.2.2.1 rfl dX6_partAt_24 ?_
    refine j_iload_n C 2 rfl dX6_partAt_27 rfl ?_
    refine j_iald C hn0.2.1 hn0.2.2.2 dX6_partAt_28 (fun j5 => ?_)
    refine j_bipush C (v := 7) (by decide) dX6_partAt_29 ?_
    refine j_irem C (by decide) dX6_partAt_31 ?_
    refine j_ior C dX6_partAt_32 ?_
    refine j_goto C 37 dX6_partAt_33 (by decide) ?_
    exact j_iret C rfl dX6_partAt_37
theorem ctX6_partAt {l : Launch} {g : GT} {S : St} {n0 : Nat} (hn0 : okT g n0) {a0 : Int32} {out : Int32} (ho : mX6_partAt S n0 a0 = some out) : CT l yX6_partAt cX6_partAt 3 (some .int) 2 46 [.ref (gad g n0), .int a0] g S ((fun a : Int32 => (some (Value.int a), S)) out) := CT_of (φ := (fun a : Int32 => (some (Value.int a), S))) [.ref (gad g n0), .int a0] ho (by decide) (Nat.le_of_ble_eq_true rfl) (xs := [(0, .ref (gad g n0)), (1, .int a0)]) rfl (fun κ C => wX6_partAt C S n0 hn0 a0)
/-! StairIdeals$Stairs.primes()I -/
def mX6_primes_31 (S : St) (n0 : Nat) (k4 : Int32 → Int32 → Option (Int32)) (x1 : Int32) (x2 : Int32) : Option (Int32) := bnd (x2 + 1) fun v1 => k4 x1 v1
theorem wX6_primes_31 {κ : KT} {g : GT} (C : CX κ g RX6 cX6_primes 4 (some .int) 3 68) (S : St) (n0 : Nat) (hn0 : okT g n0) (k4 : Int32 → Int32 → Option (Int32)) (hk4 : ∀ (x1 : Int32) (x2 : Int32), J κ g 4 (fun a : Int32 => (some (Value.int a), S)) S 4 [(0, .ref (gad g n0)), (1, .int x1), (2, .int x2)] [] (k4 x1 x2)) (x1 : Int32) (x2 : Int32) : J κ g 4 (fun a : Int32 => (some (Value.int a), S)) S 31 [(0, .ref (gad g n0)), (1, .int x1), (2, .int x2)] [] (mX6_primes_31 S n0 k4 x1 x2) := by
  unfold mX6_primes_31
  refine j_iinc C (xs2 := fun v1 => [(0, .ref (gad g n0)), (1, .int x1), (2, .int v1)]) 2 rfl dX6_primes_31 (by decide) (by decide) (fun _ => rfl) (fun v1 => ?_)
  refine j_goto C 4 dX6_primes_34 (by decide) ?_
  exact hk4 x1 v1
def mX6_primes_4 (S : St) (n0 : Nat) : Nat → Int32 → Int32 → Option (Int32)
  | 0, _, _ => none
  | n + 1, x1, x2 => if 343 ≤ x2 then (some x1)
  else ((mX6_partAt S n0 x2).bind fun r1 => if r1 = (-1) then (mX6_primes_31 S n0 (mX6_primes_4 S n0 n) x1 x2)
  else ((mX3_support r1).bind fun r2 => bnd (x1 ||| ((1 : Int32) <<< (r2 &&& 31))) fun v3 => mX6_primes_31 S n0 (mX6_primes_4 S n0 n) v3 x2))
theorem wX6_primes_4 {κ : KT} {g : GT} (C : CX κ g RX6 cX6_primes 4 (some .int) 3 68) (S : St) (n0 : Nat) (hn0 : okT g n0) : ∀ (n : Nat) (x1 : Int32) (x2 : Int32), J κ g 4 (fun a : Int32 => (some (Value.int a), S)) S 4 [(0, .ref (gad g n0)), (1, .int x1), (2, .int x2)] [] (mX6_primes_4 S n0 n x1 x2) := by
  intro n
  induction n with
  | zero => intro x1 x2; exact j_none
  | succ n ih =>
    intro x1 x2
    rw [mX6_primes_4]
    refine j_iload_n C 2 rfl dX6_primes_4 rfl ?_
    refine j_sipush C (v := 343) (by decide) dX6_primes_5 ?_
    refine j_icmp_ge C 37 dX6_primes_8 (by decide) ?_ ?_
    · refine j_iload_n C 1 rfl dX6_primes_37 rfl ?_
      exact j_iret C rfl dX6_primes_38
    · refine j_aload_n C 0 rfl dX6_primes_11 rfl ?_
      refine j_iload_n C 2 rfl dX6_primes_12 rfl ?_
      refine j_callVi C [.int x2] [] mv_X6_74 hn0.1 hn0.2.2.1 rfl (fun _ h => ctX6_partAt hn0 h) ⟨(Nat.le_of_ble_eq_true rfl), (Nat.le_of_ble_eq_true rfl)⟩ (Nat.le_of_ble_eq_true rfl) dX6_primes_13 rfl (fun r1 => ?_)
      refine j_istore_n C (xs1 := [(0, .ref (gad g n0)), (1, .int x1), (2, .int x2), (3, .int r1)]) dX6_primes_16 rfl (by decide) rfl ?_
      refine j_iload_n C 3 rfl dX6_primes_17 rfl ?_
      refine j_iconst C (v := (-1)) (by decide) dX6_primes_18 ?_
      refine j_icmp_eq C 31 dX6_primes_19 (by decide) ?_ ?_
      · refine j_sub (xs1 := [(0, .ref (gad g n0)), (1, .int x1), (2, .int x2)]) [0, 1, 2] rfl ?_
        exact wX6_primes_31 C S n0 hn0 (mX6_primes_4 S n0 n) ih x1 x2
      · refine j_iload_n C 1 rfl dX6_primes_22 rfl ?_
        refine j_iconst C (v := 1) (by decide) dX6_primes_23 ?_
        refine j_iload_n C 3 rfl dX6_primes_24 rfl ?_
        refine j_callSi C [.int r1] [.int 1, .int x1] ms_X6_77 (fun _ h => ctX3_support h) ⟨(Nat.le_of_ble_eq_true rfl), (Nat.le_of_ble_eq_true rfl)⟩ (Nat.le_of_ble_eq_true rfl) dX6_primes_25 rfl (fun r2 => ?_)
        refine j_ishl C dX6_primes_28 ?_
        refine j_ior C dX6_primes_29 ?_
        refine j_topi (fun v3 => ?_)
        refine j_istore_n C (xs1 := [(0, .ref (gad g n0)), (1, .int v3), (2, .int x2), (3, .int r1)]) dX6_primes_30 rfl (by decide) rfl ?_
        refine j_sub (xs1 := [(0, .ref (gad g n0)), (1, .int v3), (2, .int x2)]) [0, 1, 2] rfl ?_
        exact wX6_primes_31 C S n0 hn0 (mX6_primes_4 S n0 n) ih v3 x2
def mX6_primes (S : St) (n0 : Nat) : Option (Int32) := mX6_primes_4 S n0 FU 0 0
theorem wX6_primes {κ : KT} {g : GT} (C : CX κ g RX6 cX6_primes 4 (some .int) 3 68) (S : St) (n0 : Nat) (hn0 : okT g n0) : J κ g 4 (fun a : Int32 => (some (Value.int a), S)) S 0 [(0, .ref (gad g n0))] [] (mX6_primes S n0) := by
  unfold mX6_primes
  refine j_iconst C (v := 0) (by decide) dX6_primes_0 ?_
  refine j_istore_n C (xs1 := [(0, .ref (gad g n0)), (1, .int 0)]) dX6_primes_1 rfl (by decide) rfl ?_
  refine j_iconst C (v := 0) (by decide) dX6_primes_2 ?_
  refine j_istore_n C (xs1 := [(0, .ref (gad g n0)), (1, .int 0), (2, .int 0)]) dX6_primes_3 rfl (by decide) rfl ?_
  exact wX6_primes_4 C S n0 hn0 FU 0 0
theorem ctX6_primes {l : Launch} {g : GT} {S : St} {n0 : Nat} (hn0 : okT g n0) {out : Int32} (ho : mX6_primes S n0 = some out) : CT l yX6_primes cX6_primes 4 (some .int) 3 68 [.ref (gad g n0)] g S ((fun a : Int32 => (some (Value.int a), S)) out) := CT_of (φ := (fun a : Int32 => (some (Value.int a), S))) [.ref (gad g n0)] ho (by decide) (Nat.le_of_ble_eq_true rfl) (xs := [(0, .ref (gad g n0))]) rfl (fun κ C => wX6_primes C S n0 hn0)
/-! StairIdeals$Stairs.dimension()I -/
def mX6_dimension_37 (S : St) (n0 : Nat) (k5 : Int32 → Int32 → Option (Int32)) (x1 : Int32) (x2 : Int32) : Option (Int32) := bnd (x2 + 1) fun v1 => k5 x1 v1
theorem wX6_dimension_37 {κ : KT} {g : GT} (C : CX κ g RX6 cX6_dimension 4 (some .int) 3 68) (S : St) (n0 : Nat) (hn0 : okT g n0) (k5 : Int32 → Int32 → Option (Int32)) (hk5 : ∀ (x1 : Int32) (x2 : Int32), J κ g 4 (fun a : Int32 => (some (Value.int a), S)) S 5 [(0, .ref (gad g n0)), (1, .int x1), (2, .int x2)] [] (k5 x1 x2)) (x1 : Int32) (x2 : Int32) : J κ g 4 (fun a : Int32 => (some (Value.int a), S)) S 37 [(0, .ref (gad g n0)), (1, .int x1), (2, .int x2)] [] (mX6_dimension_37 S n0 k5 x1 x2) := by
  unfold mX6_dimension_37
  refine j_iinc C (xs2 := fun v1 => [(0, .ref (gad g n0)), (1, .int x1), (2, .int v1)]) 2 rfl dX6_dimension_37 (by decide) (by decide) (fun _ => rfl) (fun v1 => ?_)
  refine j_goto C 5 dX6_dimension_40 (by decide) ?_
  exact hk5 x1 v1
def mX6_dimension_5 (S : St) (n0 : Nat) : Nat → Int32 → Int32 → Option (Int32)
  | 0, _, _ => none
  | n + 1, x1, x2 => if 343 ≤ x2 then (some x1)
  else ((mX6_partAt S n0 x2).bind fun r1 => if r1 = (-1) then (mX6_dimension_37 S n0 (mX6_dimension_5 S n0 n) x1 x2)
  else ((mX3_support r1).bind fun r2 => (mJ6_bitCount_0f7a4 r2).bind fun r3 => bnd (imax x1 (4 - r3)) fun v4 => mX6_dimension_37 S n0 (mX6_dimension_5 S n0 n) v4 x2))
theorem wX6_dimension_5 {κ : KT} {g : GT} (C : CX κ g RX6 cX6_dimension 4 (some .int) 3 68) (S : St) (n0 : Nat) (hn0 : okT g n0) : ∀ (n : Nat) (x1 : Int32) (x2 : Int32), J κ g 4 (fun a : Int32 => (some (Value.int a), S)) S 5 [(0, .ref (gad g n0)), (1, .int x1), (2, .int x2)] [] (mX6_dimension_5 S n0 n x1 x2) := by
  intro n
  induction n with
  | zero => intro x1 x2; exact j_none
  | succ n ih =>
    intro x1 x2
    rw [mX6_dimension_5]
    refine j_iload_n C 2 rfl dX6_dimension_5 rfl ?_
    refine j_sipush C (v := 343) (by decide) dX6_dimension_6 ?_
    refine j_icmp_ge C 43 dX6_dimension_9 (by decide) ?_ ?_
    · refine j_iload_n C 1 rfl dX6_dimension_43 rfl ?_
      exact j_iret C rfl dX6_dimension_44
    · refine j_aload_n C 0 rfl dX6_dimension_12 rfl ?_
      refine j_iload_n C 2 rfl dX6_dimension_13 rfl ?_
      refine j_callVi C [.int x2] [] mv_X6_74 hn0.1 hn0.2.2.1 rfl (fun _ h => ctX6_partAt hn0 h) ⟨(Nat.le_of_ble_eq_true rfl), (Nat.le_of_ble_eq_true rfl)⟩ (Nat.le_of_ble_eq_true rfl) dX6_dimension_14 rfl (fun r1 => ?_)
      refine j_istore_n C (xs1 := [(0, .ref (gad g n0)), (1, .int x1), (2, .int x2), (3, .int r1)]) dX6_dimension_17 rfl (by decide) rfl ?_
      refine j_iload_n C 3 rfl dX6_dimension_18 rfl ?_
      refine j_iconst C (v := (-1)) (by decide) dX6_dimension_19 ?_
      refine j_icmp_eq C 37 dX6_dimension_20 (by decide) ?_ ?_
      · refine j_sub (xs1 := [(0, .ref (gad g n0)), (1, .int x1), (2, .int x2)]) [0, 1, 2] rfl ?_
        exact wX6_dimension_37 C S n0 hn0 (mX6_dimension_5 S n0 n) ih x1 x2
      · refine j_iload_n C 1 rfl dX6_dimension_23 rfl ?_
        refine j_iconst C (v := 4) (by decide) dX6_dimension_24 ?_
        refine j_iload_n C 3 rfl dX6_dimension_25 rfl ?_
        refine j_callSi C [.int r1] [.int 4, .int x1] ms_X6_77 (fun _ h => ctX3_support h) ⟨(Nat.le_of_ble_eq_true rfl), (Nat.le_of_ble_eq_true rfl)⟩ (Nat.le_of_ble_eq_true rfl) dX6_dimension_26 rfl (fun r2 => ?_)
        refine j_callSi C [.int r2] [.int 4, .int x1] ms_X6_80 (fun _ h => ctJ6_bitCount_0f7a4 h) ⟨(Nat.le_of_ble_eq_true rfl), (Nat.le_of_ble_eq_true rfl)⟩ (Nat.le_of_ble_eq_true rfl) dX6_dimension_29 rfl (fun r3 => ?_)
        refine j_isub C dX6_dimension_32 ?_
        refine j_mmax C wd_398 (Nat.le_of_ble_eq_true rfl) (Nat.le_of_ble_eq_true rfl) dX6_dimension_33 ?_
        refine j_topi (fun v4 => ?_)
        refine j_istore_n C (xs1 := [(0, .ref (gad g n0)), (1, .int v4), (2, .int x2), (3, .int r1)]) dX6_dimension_36 rfl (by decide) rfl ?_
        refine j_sub (xs1 := [(0, .ref (gad g n0)), (1, .int v4), (2, .int x2)]) [0, 1, 2] rfl ?_
        exact wX6_dimension_37 C S n0 hn0 (mX6_dimension_5 S n0 n) ih v4 x2
def mX6_dimension (S : St) (n0 : Nat) : Option (Int32) := mX6_dimension_5 S n0 FU (-6) 0
theorem wX6_dimension {κ : KT} {g : GT} (C : CX κ g RX6 cX6_dimension 4 (some .int) 3 68) (S : St) (n0 : Nat) (hn0 : okT g n0) : J κ g 4 (fun a : Int32 => (some (Value.int a), S)) S 0 [(0, .ref (gad g n0))] [] (mX6_dimension S n0) := by
  unfold mX6_dimension
  refine j_bipush C (v := (-6)) (by decide) dX6_dimension_0 ?_
  refine j_istore_n C (xs1 := [(0, .ref (gad g n0)), (1, .int (-6))]) dX6_dimension_2 rfl (by decide) rfl ?_
  refine j_iconst C (v := 0) (by decide) dX6_dimension_3 ?_
  refine j_istore_n C (xs1 := [(0, .ref (gad g n0)), (1, .int (-6)), (2, .int 0)]) dX6_dimension_4 rfl (by decide) rfl ?_
  exact wX6_dimension_5 C S n0 hn0 FU (-6) 0
theorem ctX6_dimension {l : Launch} {g : GT} {S : St} {n0 : Nat} (hn0 : okT g n0) {out : Int32} (ho : mX6_dimension S n0 = some out) : CT l yX6_dimension cX6_dimension 4 (some .int) 3 68 [.ref (gad g n0)] g S ((fun a : Int32 => (some (Value.int a), S)) out) := CT_of (φ := (fun a : Int32 => (some (Value.int a), S))) [.ref (gad g n0)] ho (by decide) (Nat.le_of_ble_eq_true rfl) (xs := [(0, .ref (gad g n0))]) rfl (fun κ C => wX6_dimension C S n0 hn0)
/-! StairIdeals$Stairs.standardInAll()I -/
def mX6_standardInAll_14 (S : St) (n0 : Nat) : Nat → Int32 → Int32 → Option (Int32)
  | 0, _, _ => none
  | n + 1, x1, x2 => if 343 ≤ x2 then (some x1)
  else (inb 343 x2 fun j1 => bnd (x1 + (gA S (n0 + 1) j1)) fun v2 => bnd (x2 + 1) fun v3 => mX6_standardInAll_14 S n0 n v2 v3)
theorem wX6_standardInAll_14 {κ : KT} {g : GT} (C : CX κ g RX6 cX6_standardInAll 3 (some .int) 4 91) (S : St) (n0 : Nat) (hn0 : okT g n0) : ∀ (n : Nat) (x1 : Int32) (x2 : Int32), J κ g 3 (fun a : Int32 => (some (Value.int a), S)) S 14 [(0, .ref (gad g n0)), (1, .int x1), (2, .int x2)] [] (mX6_standardInAll_14 S n0 n x1 x2) := by
  intro n
  induction n with
  | zero => intro x1 x2; exact j_none
  | succ n ih =>
    intro x1 x2
    rw [mX6_standardInAll_14]
    refine j_iload_n C 2 rfl dX6_standardInAll_14 rfl ?_
    refine j_sipush C (v := 343) (by decide) dX6_standardInAll_15 ?_
    refine j_icmp_ge C 36 dX6_standardInAll_18 (by decide) ?_ ?_
    · refine j_iload_n C 1 rfl dX6_standardInAll_36 rfl ?_
      exact j_iret C rfl dX6_standardInAll_37
    · refine j_iload_n C 1 rfl dX6_standardInAll_21 rfl ?_
      refine j_aload_n C 0 rfl dX6_standardInAll_22 rfl ?_
      refine j_getR C (x := n0 + 1) fl_X6_11 hn0.1 hn0.2.2.1 rfl dX6_standardInAll_23 ?_
      refine j_iload_n C 2 rfl dX6_standardInAll_26 rfl ?_
      refine j_iald C hn0.2.1 hn0.2.2.2 dX6_standardInAll_27 (fun j1 => ?_)
      refine j_iadd C dX6_standardInAll_28 ?_
      refine j_topi (fun v2 => ?_)
      refine j_istore_n C (xs1 := [(0, .ref (gad g n0)), (1, .int v2), (2, .int x2)]) dX6_standardInAll_29 rfl (by decide) rfl ?_
      refine j_iinc C (xs2 := fun v3 => [(0, .ref (gad g n0)), (1, .int v2), (2, .int v3)]) 2 rfl dX6_standardInAll_30 (by decide) (by decide) (fun _ => rfl) (fun v3 => ?_)
      refine j_goto C 14 dX6_standardInAll_33 (by decide) ?_
      exact ih v2 v3
def mX6_standardInAll (S : St) (n0 : Nat) : Option (Int32) := (mX6_dimension S n0).bind fun r1 => if r1 ≤ 0 then (mX6_standardInAll_14 S n0 FU 0 0)
  else (some (-6))
theorem wX6_standardInAll {κ : KT} {g : GT} (C : CX κ g RX6 cX6_standardInAll 3 (some .int) 4 91) (S : St) (n0 : Nat) (hn0 : okT g n0) : J κ g 3 (fun a : Int32 => (some (Value.int a), S)) S 0 [(0, .ref (gad g n0))] [] (mX6_standardInAll S n0) := by
  unfold mX6_standardInAll
  refine j_aload_n C 0 rfl dX6_standardInAll_0 rfl ?_
  refine j_callVi C [] [] mv_X6_85 hn0.1 hn0.2.2.1 rfl (fun _ h => ctX6_dimension hn0 h) ⟨(Nat.le_of_ble_eq_true rfl), (Nat.le_of_ble_eq_true rfl)⟩ (Nat.le_of_ble_eq_true rfl) dX6_standardInAll_1 rfl (fun r1 => ?_)
  refine j_if_le C 10 dX6_standardInAll_4 (by decide) ?_ ?_
  · refine j_iconst C (v := 0) (by decide) dX6_standardInAll_10 ?_
    refine j_istore_n C (xs1 := [(0, .ref (gad g n0)), (1, .int 0)]) dX6_standardInAll_11 rfl (by decide) rfl ?_
    refine j_iconst C (v := 0) (by decide) dX6_standardInAll_12 ?_
    refine j_istore_n C (xs1 := [(0, .ref (gad g n0)), (1, .int 0), (2, .int 0)]) dX6_standardInAll_13 rfl (by decide) rfl ?_
    exact wX6_standardInAll_14 C S n0 hn0 FU 0 0
  · refine j_bipush C (v := (-6)) (by decide) dX6_standardInAll_7 ?_
    exact j_iret C rfl dX6_standardInAll_9
theorem ctX6_standardInAll {l : Launch} {g : GT} {S : St} {n0 : Nat} (hn0 : okT g n0) {out : Int32} (ho : mX6_standardInAll S n0 = some out) : CT l yX6_standardInAll cX6_standardInAll 3 (some .int) 4 91 [.ref (gad g n0)] g S ((fun a : Int32 => (some (Value.int a), S)) out) := CT_of (φ := (fun a : Int32 => (some (Value.int a), S))) [.ref (gad g n0)] ho (by decide) (Nat.le_of_ble_eq_true rfl) (xs := [(0, .ref (gad g n0))]) rfl (fun κ C => wX6_standardInAll C S n0 hn0)
/-! StairIdeals$Survey.look(LStairIdeals$Ideal;)V -/
def mX7_look (S : St) (n0 : Nat) : Option (St) := (mX6_become S 59 n0).bind fun r1 => some r1
theorem wX7_look {κ : KT} {g : GT} (C : CX κ g RX7 cX7_look 2 none 5 109) (S : St) (n0 : Nat) (hn0 : okI g n0) : J κ g 2 (fun a : St => (none, a)) S 0 [(0, .ref (gad g 24)), (1, .ref (gad g n0))] [] (mX7_look S n0) := by
  unfold mX7_look
  refine j_aload_n C 0 rfl dX7_look_0 rfl ?_
  refine j_getR C (x := 59) fl_X7_12 sh_24 rfl rfl dX7_look_1 ?_
  refine j_aload_n C 1 rfl dX7_look_4 rfl ?_
  refine j_callVvS C [.ref (gad g n0)] [] mv_X7_36 sh_59 rfl rfl (fun _ h => ctX6_become (okT_59 (g := g)) hn0 h) ⟨(Nat.le_of_ble_eq_true rfl), (Nat.le_of_ble_eq_true rfl)⟩ (Nat.le_of_ble_eq_true rfl) dX7_look_5 rfl (fun r1 => ?_)
  exact j_vret C rfl dX7_look_8
theorem ctX7_look {l : Launch} {g : GT} {S : St} {n0 : Nat} (hn0 : okI g n0) {out : St} (ho : mX7_look S n0 = some out) : CT l yX7_look cX7_look 2 none 5 109 [.ref (gad g 24), .ref (gad g n0)] g S ((fun a : St => (none, a)) out) := CT_of (φ := (fun a : St => (none, a))) [.ref (gad g 24), .ref (gad g n0)] ho (by decide) (Nat.le_of_ble_eq_true rfl) (xs := [(0, .ref (gad g 24)), (1, .ref (gad g n0))]) rfl (fun κ C => wX7_look C S n0 hn0)
/-! StairIdeals$Survey.partCount()I -/
def mX7_partCount_26 (S : St) (k4 : Int32 → Int32 → Option (Int32)) (x1 : Int32) (x2 : Int32) : Option (Int32) := bnd (x2 + 1) fun v1 => k4 x1 v1
theorem wX7_partCount_26 {κ : KT} {g : GT} (C : CX κ g RX7 cX7_partCount 3 (some .int) 3 68) (S : St) (k4 : Int32 → Int32 → Option (Int32)) (hk4 : ∀ (x1 : Int32) (x2 : Int32), J κ g 3 (fun a : Int32 => (some (Value.int a), S)) S 4 [(0, .ref (gad g 24)), (1, .int x1), (2, .int x2)] [] (k4 x1 x2)) (x1 : Int32) (x2 : Int32) : J κ g 3 (fun a : Int32 => (some (Value.int a), S)) S 26 [(0, .ref (gad g 24)), (1, .int x1), (2, .int x2)] [] (mX7_partCount_26 S k4 x1 x2) := by
  unfold mX7_partCount_26
  refine j_iinc C (xs2 := fun v1 => [(0, .ref (gad g 24)), (1, .int x1), (2, .int v1)]) 2 rfl dX7_partCount_26 (by decide) (by decide) (fun _ => rfl) (fun v1 => ?_)
  refine j_goto C 4 dX7_partCount_29 (by decide) ?_
  exact hk4 x1 v1
def mX7_partCount_4 (S : St) : Nat → Int32 → Int32 → Option (Int32)
  | 0, _, _ => none
  | n + 1, x1, x2 => if 343 ≤ x2 then (some x1)
  else ((mX6_partAt S 59 x2).bind fun r1 => if r1 = (-1) then (mX7_partCount_26 S (mX7_partCount_4 S n) x1 x2)
  else (bnd (x1 + 1) fun v2 => mX7_partCount_26 S (mX7_partCount_4 S n) v2 x2))
theorem wX7_partCount_4 {κ : KT} {g : GT} (C : CX κ g RX7 cX7_partCount 3 (some .int) 3 68) (S : St) : ∀ (n : Nat) (x1 : Int32) (x2 : Int32), J κ g 3 (fun a : Int32 => (some (Value.int a), S)) S 4 [(0, .ref (gad g 24)), (1, .int x1), (2, .int x2)] [] (mX7_partCount_4 S n x1 x2) := by
  intro n
  induction n with
  | zero => intro x1 x2; exact j_none
  | succ n ih =>
    intro x1 x2
    rw [mX7_partCount_4]
    refine j_iload_n C 2 rfl dX7_partCount_4 rfl ?_
    refine j_sipush C (v := 343) (by decide) dX7_partCount_5 ?_
    refine j_icmp_ge C 32 dX7_partCount_8 (by decide) ?_ ?_
    · refine j_iload_n C 1 rfl dX7_partCount_32 rfl ?_
      exact j_iret C rfl dX7_partCount_33
    · refine j_aload_n C 0 rfl dX7_partCount_11 rfl ?_
      refine j_getR C (x := 59) fl_X7_12 sh_24 rfl rfl dX7_partCount_12 ?_
      refine j_iload_n C 2 rfl dX7_partCount_15 rfl ?_
      refine j_callVi C [.int x2] [] mv_X7_40 sh_59 rfl rfl (fun _ h => ctX6_partAt (okT_59 (g := g)) h) ⟨(Nat.le_of_ble_eq_true rfl), (Nat.le_of_ble_eq_true rfl)⟩ (Nat.le_of_ble_eq_true rfl) dX7_partCount_16 rfl (fun r1 => ?_)
      refine j_iconst C (v := (-1)) (by decide) dX7_partCount_19 ?_
      refine j_icmp_eq C 26 dX7_partCount_20 (by decide) ?_ ?_
      · exact wX7_partCount_26 C S (mX7_partCount_4 S n) ih x1 x2
      · refine j_iinc C (xs2 := fun v2 => [(0, .ref (gad g 24)), (1, .int v2), (2, .int x2)]) 1 rfl dX7_partCount_23 (by decide) (by decide) (fun _ => rfl) (fun v2 => ?_)
        exact wX7_partCount_26 C S (mX7_partCount_4 S n) ih v2 x2
def mX7_partCount (S : St) : Option (Int32) := mX7_partCount_4 S FU 0 0
theorem wX7_partCount {κ : KT} {g : GT} (C : CX κ g RX7 cX7_partCount 3 (some .int) 3 68) (S : St) : J κ g 3 (fun a : Int32 => (some (Value.int a), S)) S 0 [(0, .ref (gad g 24))] [] (mX7_partCount S) := by
  unfold mX7_partCount
  refine j_iconst C (v := 0) (by decide) dX7_partCount_0 ?_
  refine j_istore_n C (xs1 := [(0, .ref (gad g 24)), (1, .int 0)]) dX7_partCount_1 rfl (by decide) rfl ?_
  refine j_iconst C (v := 0) (by decide) dX7_partCount_2 ?_
  refine j_istore_n C (xs1 := [(0, .ref (gad g 24)), (1, .int 0), (2, .int 0)]) dX7_partCount_3 rfl (by decide) rfl ?_
  exact wX7_partCount_4 C S FU 0 0
theorem ctX7_partCount {l : Launch} {g : GT} {S : St} {out : Int32} (ho : mX7_partCount S = some out) : CT l yX7_partCount cX7_partCount 3 (some .int) 3 68 [.ref (gad g 24)] g S ((fun a : Int32 => (some (Value.int a), S)) out) := CT_of (φ := (fun a : Int32 => (some (Value.int a), S))) [.ref (gad g 24)] ho (by decide) (Nat.le_of_ble_eq_true rfl) (xs := [(0, .ref (gad g 24))]) rfl (fun κ C => wX7_partCount C S)
