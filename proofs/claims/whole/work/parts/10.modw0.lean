/-! StairIdealsModel.in(JJJ)Z -/
def mX11_in (a0 : Int64) (a1 : Int64) (a2 : Int64) : Option (Int32) := if (lg_cmp a0 a1) < 0 then (some 0)
  else (if 0 < (lg_cmp a0 a2) then (some 0)
  else (some 1))
theorem wX11_in {κ : KT} {g : GT} (C : CX κ g RX11 cX11_in 6 (some .boolean) 0 0) (S : St) (a0 : Int64) (a1 : Int64) (a2 : Int64) : J κ g 6 (fun a : Int32 => (some (Value.int a), S)) S 0 [(0, .long a0), (2, .long a1), (4, .long a2)] [] (mX11_in a0 a1 a2) := by
  unfold mX11_in
  refine j_lload_n C 0 rfl dX11_in_0 rfl ?_
  refine j_lload_n C 1 rfl dX11_in_1 rfl ?_
  refine j_lcmp C dX11_in_2 ?_
  refine j_if_lt C 17 dX11_in_3 (by decide) ?_ ?_
  · refine j_iconst C (v := 0) (by decide) dX11_in_17 ?_
    exact j_zret C rfl rfl dX11_in_18
  · refine j_lload_n C 0 rfl dX11_in_6 rfl ?_
    refine j_lload C 2 rfl dX11_in_7 ?_
    refine j_lcmp C dX11_in_9 ?_
    refine j_if_gt C 17 dX11_in_10 (by decide) ?_ ?_
    · refine j_iconst C (v := 0) (by decide) dX11_in_17 ?_
      exact j_zret C rfl rfl dX11_in_18
    · refine j_iconst C (v := 1) (by decide) dX11_in_13 ?_
      refine j_goto C 18 dX11_in_14 (by decide) ?_
      exact j_zret C rfl rfl dX11_in_18
theorem ctX11_in {l : Launch} {g : GT} {S : St} {a0 : Int64} {a1 : Int64} {a2 : Int64} {out : Int32} (ho : mX11_in a0 a1 a2 = some out) : CT l yX11_in cX11_in 6 (some .boolean) 0 0 [.long a0, .long a1, .long a2] g S ((fun a : Int32 => (some (Value.int a), S)) out) := CT_of (φ := (fun a : Int32 => (some (Value.int a), S))) [.long a0, .long a1, .long a2] ho (by decide) (Nat.le_of_ble_eq_true rfl) (xs := [(0, .long a0), (2, .long a1), (4, .long a2)]) rfl (fun κ C => wX11_in C S a0 a1 a2)
/-! StairIdealsModel.isIdeal(I)Z -/
def mX11_isIdeal (a0 : Int32) : Option (Int32) := (mX11_in a0.toInt64 0 3).bind fun r1 => zbg r1 (some r1)
theorem wX11_isIdeal {κ : KT} {g : GT} (C : CX κ g RX11 cX11_isIdeal 1 (some .boolean) 1 25) (S : St) (a0 : Int32) : J κ g 1 (fun a : Int32 => (some (Value.int a), S)) S 0 [(0, .int a0)] [] (mX11_isIdeal a0) := by
  unfold mX11_isIdeal
  refine j_iload_n C 0 rfl dX11_isIdeal_0 rfl ?_
  refine j_i2l C dX11_isIdeal_1 ?_
  refine j_lconst C (v := 0) (by decide) dX11_isIdeal_2 ?_
  refine j_ldc2 C (v := 3) wd_864 dX11_isIdeal_3 ?_
  refine j_callSi C [.long a0.toInt64, .long 0, .long 3] [] ms_X11_64 (fun _ h => ctX11_in h) ⟨(Nat.le_of_ble_eq_true rfl), (Nat.le_of_ble_eq_true rfl)⟩ (Nat.le_of_ble_eq_true rfl) dX11_isIdeal_6 rfl (fun r1 => ?_)
  refine j_zbg (fun hb => ?_)
  exact j_zret C (nar_z hb) rfl dX11_isIdeal_9
theorem ctX11_isIdeal {l : Launch} {g : GT} {S : St} {a0 : Int32} {out : Int32} (ho : mX11_isIdeal a0 = some out) : CT l yX11_isIdeal cX11_isIdeal 1 (some .boolean) 1 25 [.int a0] g S ((fun a : Int32 => (some (Value.int a), S)) out) := CT_of (φ := (fun a : Int32 => (some (Value.int a), S))) [.int a0] ho (by decide) (Nat.le_of_ble_eq_true rfl) (xs := [(0, .int a0)]) rfl (fun κ C => wX11_isIdeal C S a0)
/-! StairIdealsModel.isPlace(II)Z -/
def mX11_isPlace (a0 : Int32) (a1 : Int32) : Option (Int32) := (mX11_in a0.toInt64 0 2).bind fun r1 => if r1 = 0 then (some 0)
  else ((mX11_in a1.toInt64 0 3).bind fun r2 => if r2 = 0 then (some 0)
  else (some 1))
theorem wX11_isPlace {κ : KT} {g : GT} (C : CX κ g RX11 cX11_isPlace 2 (some .boolean) 1 25) (S : St) (a0 : Int32) (a1 : Int32) : J κ g 2 (fun a : Int32 => (some (Value.int a), S)) S 0 [(0, .int a0), (1, .int a1)] [] (mX11_isPlace a0 a1) := by
  unfold mX11_isPlace
  refine j_iload_n C 0 rfl dX11_isPlace_0 rfl ?_
  refine j_i2l C dX11_isPlace_1 ?_
  refine j_lconst C (v := 0) (by decide) dX11_isPlace_2 ?_
  refine j_ldc2 C (v := 2) wd_1136 dX11_isPlace_3 ?_
  refine j_callSi C [.long a0.toInt64, .long 0, .long 2] [] ms_X11_64 (fun _ h => ctX11_in h) ⟨(Nat.le_of_ble_eq_true rfl), (Nat.le_of_ble_eq_true rfl)⟩ (Nat.le_of_ble_eq_true rfl) dX11_isPlace_6 rfl (fun r1 => ?_)
  refine j_if_eq C 28 dX11_isPlace_9 (by decide) ?_ ?_
  · refine j_iconst C (v := 0) (by decide) dX11_isPlace_28 ?_
    exact j_zret C rfl rfl dX11_isPlace_29
  · refine j_iload_n C 1 rfl dX11_isPlace_12 rfl ?_
    refine j_i2l C dX11_isPlace_13 ?_
    refine j_lconst C (v := 0) (by decide) dX11_isPlace_14 ?_
    refine j_ldc2 C (v := 3) wd_864 dX11_isPlace_15 ?_
    refine j_callSi C [.long a1.toInt64, .long 0, .long 3] [] ms_X11_64 (fun _ h => ctX11_in h) ⟨(Nat.le_of_ble_eq_true rfl), (Nat.le_of_ble_eq_true rfl)⟩ (Nat.le_of_ble_eq_true rfl) dX11_isPlace_18 rfl (fun r2 => ?_)
    refine j_if_eq C 28 dX11_isPlace_21 (by decide) ?_ ?_
    · refine j_iconst C (v := 0) (by decide) dX11_isPlace_28 ?_
      exact j_zret C rfl rfl dX11_isPlace_29
    · refine j_iconst C (v := 1) (by decide) dX11_isPlace_24 ?_
      refine j_goto C 29 dX11_isPlace_25 (by decide) ?_
      exact j_zret C rfl rfl dX11_isPlace_29
theorem ctX11_isPlace {l : Launch} {g : GT} {S : St} {a0 : Int32} {a1 : Int32} {out : Int32} (ho : mX11_isPlace a0 a1 = some out) : CT l yX11_isPlace cX11_isPlace 2 (some .boolean) 1 25 [.int a0, .int a1] g S ((fun a : Int32 => (some (Value.int a), S)) out) := CT_of (φ := (fun a : Int32 => (some (Value.int a), S))) [.int a0, .int a1] ho (by decide) (Nat.le_of_ble_eq_true rfl) (xs := [(0, .int a0), (1, .int a1)]) rfl (fun κ C => wX11_isPlace C S a0 a1)
/-! StairIdealsModel.less(II)I -/
def mX11_less (a0 : Int32) (a1 : Int32) : Option (Int32) := if a1 ≤ a0 then (some a1)
  else (some a0)
theorem wX11_less {κ : KT} {g : GT} (C : CX κ g RX11 cX11_less 2 (some .int) 0 0) (S : St) (a0 : Int32) (a1 : Int32) : J κ g 2 (fun a : Int32 => (some (Value.int a), S)) S 0 [(0, .int a0), (1, .int a1)] [] (mX11_less a0 a1) := by
  unfold mX11_less
  refine j_iload_n C 0 rfl dX11_less_0 rfl ?_
  refine j_iload_n C 1 rfl dX11_less_1 rfl ?_
  refine j_icmp_ge C 9 dX11_less_2 (by decide) ?_ ?_
  · refine j_iload_n C 1 rfl dX11_less_9 rfl ?_
    exact j_iret C rfl dX11_less_10
  · refine j_iload_n C 0 rfl dX11_less_5 rfl ?_
    refine j_goto C 10 dX11_less_6 (by decide) ?_
    exact j_iret C rfl dX11_less_10
theorem ctX11_less {l : Launch} {g : GT} {S : St} {a0 : Int32} {a1 : Int32} {out : Int32} (ho : mX11_less a0 a1 = some out) : CT l yX11_less cX11_less 2 (some .int) 0 0 [.int a0, .int a1] g S ((fun a : Int32 => (some (Value.int a), S)) out) := CT_of (φ := (fun a : Int32 => (some (Value.int a), S))) [.int a0, .int a1] ho (by decide) (Nat.le_of_ble_eq_true rfl) (xs := [(0, .int a0), (1, .int a1)]) rfl (fun κ C => wX11_less C S a0 a1)
/-! StairIdealsModel.greater(II)I -/
def mX11_greater (a0 : Int32) (a1 : Int32) : Option (Int32) := if a0 ≤ a1 then (some a1)
  else (some a0)
theorem wX11_greater {κ : KT} {g : GT} (C : CX κ g RX11 cX11_greater 2 (some .int) 0 0) (S : St) (a0 : Int32) (a1 : Int32) : J κ g 2 (fun a : Int32 => (some (Value.int a), S)) S 0 [(0, .int a0), (1, .int a1)] [] (mX11_greater a0 a1) := by
  unfold mX11_greater
  refine j_iload_n C 0 rfl dX11_greater_0 rfl ?_
  refine j_iload_n C 1 rfl dX11_greater_1 rfl ?_
  refine j_icmp_le C 9 dX11_greater_2 (by decide) ?_ ?_
  · refine j_iload_n C 1 rfl dX11_greater_9 rfl ?_
    exact j_iret C rfl dX11_greater_10
  · refine j_iload_n C 0 rfl dX11_greater_5 rfl ?_
    refine j_goto C 10 dX11_greater_6 (by decide) ?_
    exact j_iret C rfl dX11_greater_10
theorem ctX11_greater {l : Launch} {g : GT} {S : St} {a0 : Int32} {a1 : Int32} {out : Int32} (ho : mX11_greater a0 a1 = some out) : CT l yX11_greater cX11_greater 2 (some .int) 0 0 [.int a0, .int a1] g S ((fun a : Int32 => (some (Value.int a), S)) out) := CT_of (φ := (fun a : Int32 => (some (Value.int a), S))) [.int a0, .int a1] ho (by decide) (Nat.le_of_ble_eq_true rfl) (xs := [(0, .int a0), (1, .int a1)]) rfl (fun κ C => wX11_greater C S a0 a1)
/-! StairIdealsModel.ones(I)I -/
def mX11_ones_4 : Nat → Int32 → Int32 → Option (Int32)
  | 0, _, _ => none
  | n + 1, x1, x2 => if x2 = 0 then (some x1)
  else (bnd (x1 + 1) fun v1 => bnd (x2 &&& (x2 - 1)) fun v2 => mX11_ones_4 n v1 v2)
theorem wX11_ones_4 {κ : KT} {g : GT} (C : CX κ g RX11 cX11_ones 3 (some .int) 0 0) (S : St) : ∀ (n : Nat) (x1 : Int32) (x2 : Int32), J κ g 3 (fun a : Int32 => (some (Value.int a), S)) S 4 [(1, .int x1), (2, .int x2)] [] (mX11_ones_4 n x1 x2) := by
  intro n
  induction n with
  | zero => intro x1 x2; exact j_none
  | succ n ih =>
    intro x1 x2
    rw [mX11_ones_4]
    refine j_iload_n C 1 rfl dX11_ones_4 rfl ?_
    refine j_if_eq C 20 dX11_ones_5 (by decide) ?_ ?_
    · refine j_iload_n C 0 rfl dX11_ones_20 rfl ?_
      exact j_iret C rfl dX11_ones_21
    · refine j_iinc C (xs2 := fun v1 => [(1, .int v1), (2, .int x2)]) 0 rfl dX11_ones_8 (by decide) (by decide) (fun _ => rfl) (fun v1 => ?_)
      refine j_iload_n C 1 rfl dX11_ones_11 rfl ?_
      refine j_iload_n C 1 rfl dX11_ones_12 rfl ?_
      refine j_iconst C (v := 1) (by decide) dX11_ones_13 ?_
      refine j_isub C dX11_ones_14 ?_
      refine j_iand C dX11_ones_15 ?_
      refine j_topi (fun v2 => ?_)
      refine j_istore_n C (xs1 := [(1, .int v1), (2, .int v2)]) dX11_ones_16 rfl (by decide) rfl ?_
      refine j_goto C 4 dX11_ones_17 (by decide) ?_
      exact ih v1 v2
def mX11_ones (a0 : Int32) : Option (Int32) := mX11_ones_4 FU 0 a0
theorem wX11_ones {κ : KT} {g : GT} (C : CX κ g RX11 cX11_ones 3 (some .int) 0 0) (S : St) (a0 : Int32) : J κ g 3 (fun a : Int32 => (some (Value.int a), S)) S 0 [(0, .int a0)] [] (mX11_ones a0) := by
  unfold mX11_ones
  refine j_iconst C (v := 0) (by decide) dX11_ones_0 ?_
  refine j_istore_n C (xs1 := [(0, .int a0), (1, .int 0)]) dX11_ones_1 rfl (by decide) rfl ?_
  refine j_iload_n C 0 rfl dX11_ones_2 rfl ?_
  refine j_istore_n C (xs1 := [(0, .int a0), (1, .int 0), (2, .int a0)]) dX11_ones_3 rfl (by decide) rfl ?_
  refine j_sub (xs1 := [(1, .int 0), (2, .int a0)]) [1, 2] rfl ?_
  exact wX11_ones_4 C S FU 0 a0
theorem ctX11_ones {l : Launch} {g : GT} {S : St} {a0 : Int32} {out : Int32} (ho : mX11_ones a0 = some out) : CT l yX11_ones cX11_ones 3 (some .int) 0 0 [.int a0] g S ((fun a : Int32 => (some (Value.int a), S)) out) := CT_of (φ := (fun a : Int32 => (some (Value.int a), S))) [.int a0] ho (by decide) (Nat.le_of_ble_eq_true rfl) (xs := [(0, .int a0)]) rfl (fun κ C => wX11_ones C S a0)
/-! StairIdealsModel.ten(I)I -/
def mX11_ten (a0 : Int32) : Option (Int32) := if a0 = 0 then (some 1000)
  else (if a0 = 1 then (some 100)
  else (if a0 = 2 then (some 10)
  else (some 1)))
theorem wX11_ten {κ : KT} {g : GT} (C : CX κ g RX11 cX11_ten 1 (some .int) 0 0) (S : St) (a0 : Int32) : J κ g 1 (fun a : Int32 => (some (Value.int a), S)) S 0 [(0, .int a0)] [] (mX11_ten a0) := by
  unfold mX11_ten
  refine j_iload_n C 0 rfl dX11_ten_0 rfl ?_
  refine j_if_ne C 10 dX11_ten_1 (by decide) ?_ ?_
  · refine j_iload_n C 0 rfl dX11_ten_10 rfl ?_
    refine j_iconst C (v := 1) (by decide) dX11_ten_11 ?_
    refine j_icmp_ne C 20 dX11_ten_12 (by decide) ?_ ?_
    · refine j_iload_n C 0 rfl dX11_ten_20 rfl ?_
      refine j_iconst C (v := 2) (by decide) dX11_ten_21 ?_
      refine j_icmp_ne C 30 dX11_ten_22 (by decide) ?_ ?_
      · refine j_iconst C (v := 1) (by decide) dX11_ten_30 ?_
        exact j_iret C rfl dX11_ten_31
      · refine j_bipush C (v := 10) (by decide) dX11_ten_25 ?_
        refine j_goto C 31 dX11_ten_27 (by decide) ?_
        exact j_iret C rfl dX11_ten_31
    · refine j_bipush C (v := 100) (by decide) dX11_ten_15 ?_
      refine j_goto C 31 dX11_ten_17 (by decide) ?_
      exact j_iret C rfl dX11_ten_31
  · refine j_sipush C (v := 1000) (by decide) dX11_ten_4 ?_
    refine j_goto C 31 dX11_ten_7 (by decide) ?_
    exact j_iret C rfl dX11_ten_31
theorem ctX11_ten {l : Launch} {g : GT} {S : St} {a0 : Int32} {out : Int32} (ho : mX11_ten a0 = some out) : CT l yX11_ten cX11_ten 1 (some .int) 0 0 [.int a0] g S ((fun a : Int32 => (some (Value.int a), S)) out) := CT_of (φ := (fun a : Int32 => (some (Value.int a), S))) [.int a0] ho (by decide) (Nat.le_of_ble_eq_true rfl) (xs := [(0, .int a0)]) rfl (fun κ C => wX11_ten C S a0)
/-! StairIdealsModel.power(II)I -/
def mX11_power (a0 : Int32) (a1 : Int32) : Option (Int32) := (mX11_ten a1).bind fun r1 => nzg r1 <| some ((a0 / r1) - (a0 / r1) / 10 * 10)
theorem wX11_power {κ : KT} {g : GT} (C : CX κ g RX11 cX11_power 2 (some .int) 1 20) (S : St) (a0 : Int32) (a1 : Int32) : J κ g 2 (fun a : Int32 => (some (Value.int a), S)) S 0 [(0, .int a0), (1, .int a1)] [] (mX11_power a0 a1) := by
  unfold mX11_power
  refine j_iload_n C 0 rfl dX11_power_0 rfl ?_
  refine j_iload_n C 1 rfl dX11_power_1 rfl ?_
  refine j_callSi C [.int a1] [.int a0] ms_X11_70 (fun _ h => ctX11_ten h) ⟨(Nat.le_of_ble_eq_true rfl), (Nat.le_of_ble_eq_true rfl)⟩ (Nat.le_of_ble_eq_true rfl) dX11_power_2 rfl (fun r1 => ?_)
  refine j_nzg (fun hz => ?_)
  refine j_idiv C hz dX11_power_5 ?_
  refine j_bipush C (v := 10) (by decide) dX11_power_6 ?_
  refine j_irem C (by decide) dX11_power_8 ?_
  exact j_iret C rfl dX11_power_9
theorem ctX11_power {l : Launch} {g : GT} {S : St} {a0 : Int32} {a1 : Int32} {out : Int32} (ho : mX11_power a0 a1 = some out) : CT l yX11_power cX11_power 2 (some .int) 1 20 [.int a0, .int a1] g S ((fun a : Int32 => (some (Value.int a), S)) out) := CT_of (φ := (fun a : Int32 => (some (Value.int a), S))) [.int a0, .int a1] ho (by decide) (Nat.le_of_ble_eq_true rfl) (xs := [(0, .int a0), (1, .int a1)]) rfl (fun κ C => wX11_power C S a0 a1)
/-! StairIdealsModel.isCode(I)Z -/
def mX11_isCode (a0 : Int32) : Option (Int32) := (mX11_in a0.toInt64 0 6666).bind fun r1 => if r1 = 0 then (some 0)
  else ((mX11_power a0 1).bind fun r2 => if 6 < r2 then (some 0)
  else ((mX11_power a0 2).bind fun r3 => if 6 < r3 then (some 0)
  else ((mX11_power a0 3).bind fun r4 => if 6 < r4 then (some 0)
  else (some 1))))
theorem wX11_isCode {κ : KT} {g : GT} (C : CX κ g RX11 cX11_isCode 1 (some .boolean) 2 41) (S : St) (a0 : Int32) : J κ g 1 (fun a : Int32 => (some (Value.int a), S)) S 0 [(0, .int a0)] [] (mX11_isCode a0) := by
  unfold mX11_isCode
  refine j_iload_n C 0 rfl dX11_isCode_0 rfl ?_
  refine j_i2l C dX11_isCode_1 ?_
  refine j_lconst C (v := 0) (by decide) dX11_isCode_2 ?_
  refine j_ldc2 C (v := 6666) wd_906 dX11_isCode_3 ?_
  refine j_callSi C [.long a0.toInt64, .long 0, .long 6666] [] ms_X11_64 (fun _ h => ctX11_in h) ⟨(Nat.le_of_ble_eq_true rfl), (Nat.le_of_ble_eq_true rfl)⟩ (Nat.le_of_ble_eq_true rfl) dX11_isCode_6 rfl (fun r1 => ?_)
  refine j_if_eq C 46 dX11_isCode_9 (by decide) ?_ ?_
  · refine j_iconst C (v := 0) (by decide) dX11_isCode_46 ?_
    exact j_zret C rfl rfl dX11_isCode_47
  · refine j_iload_n C 0 rfl dX11_isCode_12 rfl ?_
    refine j_iconst C (v := 1) (by decide) dX11_isCode_13 ?_
    refine j_callSi C [.int a0, .int 1] [] ms_X11_76 (fun _ h => ctX11_power h) ⟨(Nat.le_of_ble_eq_true rfl), (Nat.le_of_ble_eq_true rfl)⟩ (Nat.le_of_ble_eq_true rfl) dX11_isCode_14 rfl (fun r2 => ?_)
    refine j_bipush C (v := 6) (by decide) dX11_isCode_17 ?_
    refine j_icmp_gt C 46 dX11_isCode_19 (by decide) ?_ ?_
    · refine j_iconst C (v := 0) (by decide) dX11_isCode_46 ?_
      exact j_zret C rfl rfl dX11_isCode_47
    · refine j_iload_n C 0 rfl dX11_isCode_22 rfl ?_
      refine j_iconst C (v := 2) (by decide) dX11_isCode_23 ?_
      refine j_callSi C [.int a0, .int 2] [] ms_X11_76 (fun _ h => ctX11_power h) ⟨(Nat.le_of_ble_eq_true rfl), (Nat.le_of_ble_eq_true rfl)⟩ (Nat.le_of_ble_eq_true rfl) dX11_isCode_24 rfl (fun r3 => ?_)
      refine j_bipush C (v := 6) (by decide) dX11_isCode_27 ?_
      refine j_icmp_gt C 46 dX11_isCode_29 (by decide) ?_ ?_
      · refine j_iconst C (v := 0) (by decide) dX11_isCode_46 ?_
        exact j_zret C rfl rfl dX11_isCode_47
      · refine j_iload_n C 0 rfl dX11_isCode_32 rfl ?_
        refine j_iconst C (v := 3) (by decide) dX11_isCode_33 ?_
        refine j_callSi C [.int a0, .int 3] [] ms_X11_76 (fun _ h => ctX11_power h) ⟨(Nat.le_of_ble_eq_true rfl), (Nat.le_of_ble_eq_true rfl)⟩ (Nat.le_of_ble_eq_true rfl) dX11_isCode_34 rfl (fun r4 => ?_)
        refine j_bipush C (v := 6) (by decide) dX11_isCode_37 ?_
        refine j_icmp_gt C 46 dX11_isCode_39 (by decide) ?_ ?_
        · refine j_iconst C (v := 0) (by decide) dX11_isCode_46 ?_
          exact j_zret C rfl rfl dX11_isCode_47
        · refine j_iconst C (v := 1) (by decide) dX11_isCode_42 ?_
          refine j_goto C 47 dX11_isCode_43 (by decide) ?_
          exact j_zret C rfl rfl dX11_isCode_47
theorem ctX11_isCode {l : Launch} {g : GT} {S : St} {a0 : Int32} {out : Int32} (ho : mX11_isCode a0 = some out) : CT l yX11_isCode cX11_isCode 1 (some .boolean) 2 41 [.int a0] g S ((fun a : Int32 => (some (Value.int a), S)) out) := CT_of (φ := (fun a : Int32 => (some (Value.int a), S))) [.int a0] ho (by decide) (Nat.le_of_ble_eq_true rfl) (xs := [(0, .int a0)]) rfl (fun κ C => wX11_isCode C S a0)
/-! StairIdealsModel.codeAt(I)I -/
def mX11_codeAt (a0 : Int32) : Option (Int32) := some (((((a0 / 343) * 1000) + (((a0 / 49) - (a0 / 49) / 7 * 7) * 100)) + (((a0 / 7) - (a0 / 7) / 7 * 7) * 10)) + (a0 - a0 / 7 * 7))
theorem wX11_codeAt {κ : KT} {g : GT} (C : CX κ g RX11 cX11_codeAt 1 (some .int) 0 0) (S : St) (a0 : Int32) : J κ g 1 (fun a : Int32 => (some (Value.int a), S)) S 0 [(0, .int a0)] [] (mX11_codeAt a0) := by
  unfold mX11_codeAt
  refine j_iload_n C 0 rfl dX11_codeAt_0 rfl ?_
  refine j_sipush C (v := 343) (by decide) dX11_codeAt_1 ?_
  refine j_idiv C (by decide) dX11_codeAt_4 ?_
  refine j_sipush C (v := 1000) (by decide) dX11_codeAt_5 ?_
  refine j_imul C dX11_codeAt_8 ?_
  refine j_iload_n C 0 rfl dX11_codeAt_9 rfl ?_
  refine j_bipush C (v := 49) (by decide) dX11_codeAt_10 ?_
  refine j_idiv C (by decide) dX11_codeAt_12 ?_
  refine j_bipush C (v := 7) (by decide) dX11_codeAt_13 ?_
  refine j_irem C (by decide) dX11_codeAt_15 ?_
  refine j_bipush C (v := 100) (by decide) dX11_codeAt_16 ?_
  refine j_imul C dX11_codeAt_18 ?_
  refine j_iadd C dX11_codeAt_19 ?_
  refine j_iload_n C 0 rfl dX11_codeAt_20 rfl ?_
  refine j_bipush C (v := 7) (by decide) dX11_codeAt_21 ?_
  refine j_idiv C (by decide) dX11_codeAt_23 ?_
  refine j_bipush C (v := 7) (by decide) dX11_codeAt_24 ?_
  refine j_irem C (by decide) dX11_codeAt_26 ?_
  refine j_bipush C (v := 10) (by decide) dX11_codeAt_27 ?_
  refine j_imul C dX11_codeAt_29 ?_
  refine j_iadd C dX11_codeAt_30 ?_
  refine j_iload_n C 0 rfl dX11_codeAt_31 rfl ?_
  refine j_bipush C (v := 7) (by decide) dX11_codeAt_32 ?_
  refine j_irem C (by decide) dX11_codeAt_34 ?_
  refine j_iadd C dX11_codeAt_35 ?_
  exact j_iret C rfl dX11_codeAt_36
theorem ctX11_codeAt {l : Launch} {g : GT} {S : St} {a0 : Int32} {out : Int32} (ho : mX11_codeAt a0 = some out) : CT l yX11_codeAt cX11_codeAt 1 (some .int) 0 0 [.int a0] g S ((fun a : Int32 => (some (Value.int a), S)) out) := CT_of (φ := (fun a : Int32 => (some (Value.int a), S))) [.int a0] ho (by decide) (Nat.le_of_ble_eq_true rfl) (xs := [(0, .int a0)]) rfl (fun κ C => wX11_codeAt C S a0)
/-! StairIdealsModel.placeOf(I)I -/
def mX11_placeOf (a0 : Int32) : Option (Int32) := (mX11_power a0 0).bind fun r1 => (mX11_power a0 1).bind fun r2 => (mX11_power a0 2).bind fun r3 => (mX11_power a0 3).bind fun r4 => some ((((r1 * 343) + (r2 * 49)) + (r3 * 7)) + r4)
theorem wX11_placeOf {κ : KT} {g : GT} (C : CX κ g RX11 cX11_placeOf 1 (some .int) 2 41) (S : St) (a0 : Int32) : J κ g 1 (fun a : Int32 => (some (Value.int a), S)) S 0 [(0, .int a0)] [] (mX11_placeOf a0) := by
  unfold mX11_placeOf
  refine j_iload_n C 0 rfl dX11_placeOf_0 rfl ?_
  refine j_iconst C (v := 0) (by decide) dX11_placeOf_1 ?_
  refine j_callSi C [.int a0, .int 0] [] ms_X11_76 (fun _ h => ctX11_power h) ⟨(Nat.le_of_ble_eq_true rfl), (Nat.le_of_ble_eq_true rfl)⟩ (Nat.le_of_ble_eq_true rfl) dX11_placeOf_2 rfl (fun r1 => ?_)
  refine j_sipush C (v := 343) (by decide) dX11_placeOf_5 ?_
  refine j_imul C dX11_placeOf_8 ?_
  refine j_iload_n C 0 rfl dX11_placeOf_9 rfl ?_
  refine j_iconst C (v := 1) (by decide) dX11_placeOf_10 ?_
  refine j_callSi C [.int a0, .int 1] [.int (r1 * 343)] ms_X11_76 (fun _ h => ctX11_power h) ⟨(Nat.le_of_ble_eq_true rfl), (Nat.le_of_ble_eq_true rfl)⟩ (Nat.le_of_ble_eq_true rfl) dX11_placeOf_11 rfl (fun r2 => ?_)
  refine j_bipush C (v := 49) (by decide) dX11_placeOf_14 ?_
  refine j_imul C dX11_placeOf_16 ?_
  refine j_iadd C dX11_placeOf_17 ?_
  refine j_iload_n C 0 rfl dX11_placeOf_18 rfl ?_
  refine j_iconst C (v := 2) (by decide) dX11_placeOf_19 ?_
  refine j_callSi C [.int a0, .int 2] [.int ((r1 * 343) + (r2 * 49))] ms_X11_76 (fun _ h => ctX11_power h) ⟨(Nat.le_of_ble_eq_true rfl), (Nat.le_of_ble_eq_true rfl)⟩ (Nat.le_of_ble_eq_true rfl) dX11_placeOf_20 rfl (fun r3 => ?_)
  refine j_bipush C (v := 7) (by decide) dX11_placeOf_23 ?_
  refine j_imul C dX11_placeOf_25 ?_
  refine j_iadd C dX11_placeOf_26 ?_
  refine j_iload_n C 0 rfl dX11_placeOf_27 rfl ?_
  refine j_iconst C (v := 3) (by decide) dX11_placeOf_28 ?_
  refine j_callSi C [.int a0, .int 3] [.int (((r1 * 343) + (r2 * 49)) + (r3 * 7))] ms_X11_76 (fun _ h => ctX11_power h) ⟨(Nat.le_of_ble_eq_true rfl), (Nat.le_of_ble_eq_true rfl)⟩ (Nat.le_of_ble_eq_true rfl) dX11_placeOf_29 rfl (fun r4 => ?_)
  refine j_iadd C dX11_placeOf_32 ?_
  exact j_iret C rfl dX11_placeOf_33
theorem ctX11_placeOf {l : Launch} {g : GT} {S : St} {a0 : Int32} {out : Int32} (ho : mX11_placeOf a0 = some out) : CT l yX11_placeOf cX11_placeOf 1 (some .int) 2 41 [.int a0] g S ((fun a : Int32 => (some (Value.int a), S)) out) := CT_of (φ := (fun a : Int32 => (some (Value.int a), S))) [.int a0] ho (by decide) (Nat.le_of_ble_eq_true rfl) (xs := [(0, .int a0)]) rfl (fun κ C => wX11_placeOf C S a0)
/-! StairIdealsModel.divides(II)Z -/
def mX11_divides_31 (k4 : Int32 → Int32 → Int32 → Int32 → Option (Int32)) (x0 : Int32) (x1 : Int32) (x3 : Int32) (s0 : Int32) : Option (Int32) := bnd (x3 + 1) fun v1 => k4 x0 x1 s0 v1
theorem wX11_divides_31 {κ : KT} {g : GT} (C : CX κ g RX11 cX11_divides 4 (some .boolean) 2 41) (S : St) (k4 : Int32 → Int32 → Int32 → Int32 → Option (Int32)) (hk4 : ∀ (x0 : Int32) (x1 : Int32) (x2 : Int32) (x3 : Int32), J κ g 4 (fun a : Int32 => (some (Value.int a), S)) S 4 [(0, .int x0), (1, .int x1), (2, .int x2), (3, .int x3)] [] (k4 x0 x1 x2 x3)) (x0 : Int32) (x1 : Int32) (x3 : Int32) (s0 : Int32) : J κ g 4 (fun a : Int32 => (some (Value.int a), S)) S 31 [(0, .int x0), (1, .int x1), (3, .int x3)] [.int s0] (mX11_divides_31 k4 x0 x1 x3 s0) := by
  unfold mX11_divides_31
  refine j_istore_n C (xs1 := [(0, .int x0), (1, .int x1), (2, .int s0), (3, .int x3)]) dX11_divides_31 rfl (by decide) rfl ?_
  refine j_iinc C (xs2 := fun v1 => [(0, .int x0), (1, .int x1), (2, .int s0), (3, .int v1)]) 3 rfl dX11_divides_32 (by decide) (by decide) (fun _ => rfl) (fun v1 => ?_)
  refine j_goto C 4 dX11_divides_35 (by decide) ?_
  exact hk4 x0 x1 s0 v1
def mX11_divides_30 (k4 : Int32 → Int32 → Int32 → Int32 → Option (Int32)) (x0 : Int32) (x1 : Int32) (x3 : Int32) : Option (Int32) := mX11_divides_31 k4 x0 x1 x3 0
theorem wX11_divides_30 {κ : KT} {g : GT} (C : CX κ g RX11 cX11_divides 4 (some .boolean) 2 41) (S : St) (k4 : Int32 → Int32 → Int32 → Int32 → Option (Int32)) (hk4 : ∀ (x0 : Int32) (x1 : Int32) (x2 : Int32) (x3 : Int32), J κ g 4 (fun a : Int32 => (some (Value.int a), S)) S 4 [(0, .int x0), (1, .int x1), (2, .int x2), (3, .int x3)] [] (k4 x0 x1 x2 x3)) (x0 : Int32) (x1 : Int32) (x3 : Int32) : J κ g 4 (fun a : Int32 => (some (Value.int a), S)) S 30 [(0, .int x0), (1, .int x1), (3, .int x3)] [] (mX11_divides_30 k4 x0 x1 x3) := by
  unfold mX11_divides_30
  refine j_iconst C (v := 0) (by decide) dX11_divides_30 ?_
  exact wX11_divides_31 C S k4 hk4 x0 x1 x3 0
def mX11_divides_4 : Nat → Int32 → Int32 → Int32 → Int32 → Option (Int32)
  | 0, _, _, _, _ => none
  | n + 1, x0, x1, x2, x3 => if 4 ≤ x3 then (zbg x2 (some x2))
  else (if x2 = 0 then (mX11_divides_30 (mX11_divides_4 n) x0 x1 x3)
  else ((mX11_power x0 x3).bind fun r1 => (mX11_power x1 x3).bind fun r2 => if r2 < r1 then (mX11_divides_30 (mX11_divides_4 n) x0 x1 x3)
  else (mX11_divides_31 (mX11_divides_4 n) x0 x1 x3 1)))
theorem wX11_divides_4 {κ : KT} {g : GT} (C : CX κ g RX11 cX11_divides 4 (some .boolean) 2 41) (S : St) : ∀ (n : Nat) (x0 : Int32) (x1 : Int32) (x2 : Int32) (x3 : Int32), J κ g 4 (fun a : Int32 => (some (Value.int a), S)) S 4 [(0, .int x0), (1, .int x1), (2, .int x2), (3, .int x3)] [] (mX11_divides_4 n x0 x1 x2 x3) := by
  intro n
  induction n with
  | zero => intro x0 x1 x2 x3; exact j_none
  | succ n ih =>
    intro x0 x1 x2 x3
    rw [mX11_divides_4]
    refine j_iload_n C 3 rfl dX11_divides_4 rfl ?_
    refine j_iconst C (v := 4) (by decide) dX11_divides_5 ?_
    refine j_icmp_ge C 38 dX11_divides_6 (by decide) ?_ ?_
    · refine j_iload_n C 2 rfl dX11_divides_38 rfl ?_
      refine j_zbg (fun hb => ?_)
      exact j_zret C (nar_z hb) rfl dX11_divides_39
    · refine j_iload_n C 2 rfl dX11_divides_9 rfl ?_
      refine j_if_eq C 30 dX11_divides_10 (by decide) ?_ ?_
      · refine j_sub (xs1 := [(0, .int x0), (1, .int x1), (3, .int x3)]) [0, 1, 3] rfl ?_
        exact wX11_divides_30 C S (mX11_divides_4 n) ih x0 x1 x3
      · refine j_iload_n C 0 rfl dX11_divides_13 rfl ?_
        refine j_iload_n C 3 rfl dX11_divides_14 rfl ?_
        refine j_callSi C [.int x0, .int x3] [] ms_X11_76 (fun _ h => ctX11_power h) ⟨(Nat.le_of_ble_eq_true rfl), (Nat.le_of_ble_eq_true rfl)⟩ (Nat.le_of_ble_eq_true rfl) dX11_divides_15 rfl (fun r1 => ?_)
        refine j_iload_n C 1 rfl dX11_divides_18 rfl ?_
        refine j_iload_n C 3 rfl dX11_divides_19 rfl ?_
        refine j_callSi C [.int x1, .int x3] [.int r1] ms_X11_76 (fun _ h => ctX11_power h) ⟨(Nat.le_of_ble_eq_true rfl), (Nat.le_of_ble_eq_true rfl)⟩ (Nat.le_of_ble_eq_true rfl) dX11_divides_20 rfl (fun r2 => ?_)
        refine j_icmp_gt C 30 dX11_divides_23 (by decide) ?_ ?_
        · refine j_sub (xs1 := [(0, .int x0), (1, .int x1), (3, .int x3)]) [0, 1, 3] rfl ?_
          exact wX11_divides_30 C S (mX11_divides_4 n) ih x0 x1 x3
        · refine j_iconst C (v := 1) (by decide) dX11_divides_26 ?_
          refine j_goto C 31 dX11_divides_27 (by decide) ?_
          refine j_sub (xs1 := [(0, .int x0), (1, .int x1), (3, .int x3)]) [0, 1, 3] rfl ?_
          exact wX11_divides_31 C S (mX11_divides_4 n) ih x0 x1 x3 1
def mX11_divides (a0 : Int32) (a1 : Int32) : Option (Int32) := mX11_divides_4 FU a0 a1 1 0
theorem wX11_divides {κ : KT} {g : GT} (C : CX κ g RX11 cX11_divides 4 (some .boolean) 2 41) (S : St) (a0 : Int32) (a1 : Int32) : J κ g 4 (fun a : Int32 => (some (Value.int a), S)) S 0 [(0, .int a0), (1, .int a1)] [] (mX11_divides a0 a1) := by
  unfold mX11_divides
  refine j_iconst C (v := 1) (by decide) dX11_divides_0 ?_
  refine j_istore_n C (xs1 := [(0, .int a0), (1, .int a1), (2, .int 1)]) dX11_divides_1 rfl (by decide) rfl ?_
  refine j_iconst C (v := 0) (by decide) dX11_divides_2 ?_
  refine j_istore_n C (xs1 := [(0, .int a0), (1, .int a1), (2, .int 1), (3, .int 0)]) dX11_divides_3 rfl (by decide) rfl ?_
  exact wX11_divides_4 C S FU a0 a1 1 0
theorem ctX11_divides {l : Launch} {g : GT} {S : St} {a0 : Int32} {a1 : Int32} {out : Int32} (ho : mX11_divides a0 a1 = some out) : CT l yX11_divides cX11_divides 4 (some .boolean) 2 41 [.int a0, .int a1] g S ((fun a : Int32 => (some (Value.int a), S)) out) := CT_of (φ := (fun a : Int32 => (some (Value.int a), S))) [.int a0, .int a1] ho (by decide) (Nat.le_of_ble_eq_true rfl) (xs := [(0, .int a0), (1, .int a1)]) rfl (fun κ C => wX11_divides C S a0 a1)
/-! StairIdealsModel.together(II)I -/
def mX11_together_4 : Nat → Int32 → Int32 → Int32 → Int32 → Option (Int32)
  | 0, _, _, _, _ => none
  | n + 1, x0, x1, x2, x3 => if 4 ≤ x3 then (some x2)
  else ((mX11_ten x3).bind fun r1 => (mX11_power x0 x3).bind fun r2 => (mX11_power x1 x3).bind fun r3 => (mX11_greater r2 r3).bind fun r4 => bnd (x2 + (r1 * r4)) fun v5 => bnd (x3 + 1) fun v6 => mX11_together_4 n x0 x1 v5 v6)
theorem wX11_together_4 {κ : KT} {g : GT} (C : CX κ g RX11 cX11_together 4 (some .int) 2 41) (S : St) : ∀ (n : Nat) (x0 : Int32) (x1 : Int32) (x2 : Int32) (x3 : Int32), J κ g 4 (fun a : Int32 => (some (Value.int a), S)) S 4 [(0, .int x0), (1, .int x1), (2, .int x2), (3, .int x3)] [] (mX11_together_4 n x0 x1 x2 x3) := by
  intro n
  induction n with
  | zero => intro x0 x1 x2 x3; exact j_none
  | succ n ih =>
    intro x0 x1 x2 x3
    rw [mX11_together_4]
    refine j_iload_n C 3 rfl dX11_together_4 rfl ?_
    refine j_iconst C (v := 4) (by decide) dX11_together_5 ?_
    refine j_icmp_ge C 36 dX11_together_6 (by decide) ?_ ?_
    · refine j_iload_n C 2 rfl dX11_together_36 rfl ?_
      exact j_iret C rfl dX11_together_37
    · refine j_iload_n C 2 rfl dX11_together_9 rfl ?_
      refine j_iload_n C 3 rfl dX11_together_10 rfl ?_
      refine j_callSi C [.int x3] [.int x2] ms_X11_70 (fun _ h => ctX11_ten h) ⟨(Nat.le_of_ble_eq_true rfl), (Nat.le_of_ble_eq_true rfl)⟩ (Nat.le_of_ble_eq_true rfl) dX11_together_11 rfl (fun r1 => ?_)
      refine j_iload_n C 0 rfl dX11_together_14 rfl ?_
      refine j_iload_n C 3 rfl dX11_together_15 rfl ?_
      refine j_callSi C [.int x0, .int x3] [.int r1, .int x2] ms_X11_76 (fun _ h => ctX11_power h) ⟨(Nat.le_of_ble_eq_true rfl), (Nat.le_of_ble_eq_true rfl)⟩ (Nat.le_of_ble_eq_true rfl) dX11_together_16 rfl (fun r2 => ?_)
      refine j_iload_n C 1 rfl dX11_together_19 rfl ?_
      refine j_iload_n C 3 rfl dX11_together_20 rfl ?_
      refine j_callSi C [.int x1, .int x3] [.int r2, .int r1, .int x2] ms_X11_76 (fun _ h => ctX11_power h) ⟨(Nat.le_of_ble_eq_true rfl), (Nat.le_of_ble_eq_true rfl)⟩ (Nat.le_of_ble_eq_true rfl) dX11_together_21 rfl (fun r3 => ?_)
      refine j_callSi C [.int r2, .int r3] [.int r1, .int x2] ms_X11_80 (fun _ h => ctX11_greater h) ⟨(Nat.le_of_ble_eq_true rfl), (Nat.le_of_ble_eq_true rfl)⟩ (Nat.le_of_ble_eq_true rfl) dX11_together_24 rfl (fun r4 => ?_)
      refine j_imul C dX11_together_27 ?_
      refine j_iadd C dX11_together_28 ?_
      refine j_topi (fun v5 => ?_)
      refine j_istore_n C (xs1 := [(0, .int x0), (1, .int x1), (2, .int v5), (3, .int x3)]) dX11_together_29 rfl (by decide) rfl ?_
      refine j_iinc C (xs2 := fun v6 => [(0, .int x0), (1, .int x1), (2, .int v5), (3, .int v6)]) 3 rfl dX11_together_30 (by decide) (by decide) (fun _ => rfl) (fun v6 => ?_)
      refine j_goto C 4 dX11_together_33 (by decide) ?_
      exact ih x0 x1 v5 v6
def mX11_together (a0 : Int32) (a1 : Int32) : Option (Int32) := mX11_together_4 FU a0 a1 0 0
theorem wX11_together {κ : KT} {g : GT} (C : CX κ g RX11 cX11_together 4 (some .int) 2 41) (S : St) (a0 : Int32) (a1 : Int32) : J κ g 4 (fun a : Int32 => (some (Value.int a), S)) S 0 [(0, .int a0), (1, .int a1)] [] (mX11_together a0 a1) := by
  unfold mX11_together
  refine j_iconst C (v := 0) (by decide) dX11_together_0 ?_
  refine j_istore_n C (xs1 := [(0, .int a0), (1, .int a1), (2, .int 0)]) dX11_together_1 rfl (by decide) rfl ?_
  refine j_iconst C (v := 0) (by decide) dX11_together_2 ?_
  refine j_istore_n C (xs1 := [(0, .int a0), (1, .int a1), (2, .int 0), (3, .int 0)]) dX11_together_3 rfl (by decide) rfl ?_
  exact wX11_together_4 C S FU a0 a1 0 0
theorem ctX11_together {l : Launch} {g : GT} {S : St} {a0 : Int32} {a1 : Int32} {out : Int32} (ho : mX11_together a0 a1 = some out) : CT l yX11_together cX11_together 4 (some .int) 2 41 [.int a0, .int a1] g S ((fun a : Int32 => (some (Value.int a), S)) out) := CT_of (φ := (fun a : Int32 => (some (Value.int a), S))) [.int a0, .int a1] ho (by decide) (Nat.le_of_ble_eq_true rfl) (xs := [(0, .int a0), (1, .int a1)]) rfl (fun κ C => wX11_together C S a0 a1)
/-! StairIdealsModel.capped(II)I -/
def mX11_capped_4 : Nat → Int32 → Int32 → Int32 → Int32 → Option (Int32)
  | 0, _, _, _, _ => none
  | n + 1, x0, x1, x2, x3 => if 4 ≤ x3 then (some x2)
  else ((mX11_ten x3).bind fun r1 => (mX11_power x0 x3).bind fun r2 => (mX11_power x1 x3).bind fun r3 => (mX11_less 6 (r2 + r3)).bind fun r4 => bnd (x2 + (r1 * r4)) fun v5 => bnd (x3 + 1) fun v6 => mX11_capped_4 n x0 x1 v5 v6)
theorem wX11_capped_4 {κ : KT} {g : GT} (C : CX κ g RX11 cX11_capped 4 (some .int) 2 41) (S : St) : ∀ (n : Nat) (x0 : Int32) (x1 : Int32) (x2 : Int32) (x3 : Int32), J κ g 4 (fun a : Int32 => (some (Value.int a), S)) S 4 [(0, .int x0), (1, .int x1), (2, .int x2), (3, .int x3)] [] (mX11_capped_4 n x0 x1 x2 x3) := by
  intro n
  induction n with
  | zero => intro x0 x1 x2 x3; exact j_none
  | succ n ih =>
    intro x0 x1 x2 x3
    rw [mX11_capped_4]
    refine j_iload_n C 3 rfl dX11_capped_4 rfl ?_
    refine j_iconst C (v := 4) (by decide) dX11_capped_5 ?_
    refine j_icmp_ge C 39 dX11_capped_6 (by decide) ?_ ?_
    · refine j_iload_n C 2 rfl dX11_capped_39 rfl ?_
      exact j_iret C rfl dX11_capped_40
    · refine j_iload_n C 2 rfl dX11_capped_9 rfl ?_
      refine j_iload_n C 3 rfl dX11_capped_10 rfl ?_
      refine j_callSi C [.int x3] [.int x2] ms_X11_70 (fun _ h => ctX11_ten h) ⟨(Nat.le_of_ble_eq_true rfl), (Nat.le_of_ble_eq_true rfl)⟩ (Nat.le_of_ble_eq_true rfl) dX11_capped_11 rfl (fun r1 => ?_)
      refine j_bipush C (v := 6) (by decide) dX11_capped_14 ?_
      refine j_iload_n C 0 rfl dX11_capped_16 rfl ?_
      refine j_iload_n C 3 rfl dX11_capped_17 rfl ?_
      refine j_callSi C [.int x0, .int x3] [.int 6, .int r1, .int x2] ms_X11_76 (fun _ h => ctX11_power h) ⟨(Nat.le_of_ble_eq_true rfl), (Nat.le_of_ble_eq_true rfl)⟩ (Nat.le_of_ble_eq_true rfl) dX11_capped_18 rfl (fun r2 => ?_)
      refine j_iload_n C 1 rfl dX11_capped_21 rfl ?_
      refine j_iload_n C 3 rfl dX11_capped_22 rfl ?_
      refine j_callSi C [.int x1, .int x3] [.int r2, .int 6, .int r1, .int x2] ms_X11_76 (fun _ h => ctX11_power h) ⟨(Nat.le_of_ble_eq_true rfl), (Nat.le_of_ble_eq_true rfl)⟩ (Nat.le_of_ble_eq_true rfl) dX11_capped_23 rfl (fun r3 => ?_)
      refine j_iadd C dX11_capped_26 ?_
      refine j_callSi C [.int 6, .int (r2 + r3)] [.int r1, .int x2] ms_X11_83 (fun _ h => ctX11_less h) ⟨(Nat.le_of_ble_eq_true rfl), (Nat.le_of_ble_eq_true rfl)⟩ (Nat.le_of_ble_eq_true rfl) dX11_capped_27 rfl (fun r4 => ?_)
      refine j_imul C dX11_capped_30 ?_
      refine j_iadd C dX11_capped_31 ?_
      refine j_topi (fun v5 => ?_)
      refine j_istore_n C (xs1 := [(0, .int x0), (1, .int x1), (2, .int v5), (3, .int x3)]) dX11_capped_32 rfl (by decide) rfl ?_
      refine j_iinc C (xs2 := fun v6 => [(0, .int x0), (1, .int x1), (2, .int v5), (3, .int v6)]) 3 rfl dX11_capped_33 (by decide) (by decide) (fun _ => rfl) (fun v6 => ?_)
      refine j_goto C 4 dX11_capped_36 (by decide) ?_
      exact ih x0 x1 v5 v6
def mX11_capped (a0 : Int32) (a1 : Int32) : Option (Int32) := mX11_capped_4 FU a0 a1 0 0
theorem wX11_capped {κ : KT} {g : GT} (C : CX κ g RX11 cX11_capped 4 (some .int) 2 41) (S : St) (a0 : Int32) (a1 : Int32) : J κ g 4 (fun a : Int32 => (some (Value.int a), S)) S 0 [(0, .int a0), (1, .int a1)] [] (mX11_capped a0 a1) := by
  unfold mX11_capped
  refine j_iconst C (v := 0) (by decide) dX11_capped_0 ?_
  refine j_istore_n C (xs1 := [(0, .int a0), (1, .int a1), (2, .int 0)]) dX11_capped_1 rfl (by decide) rfl ?_
  refine j_iconst C (v := 0) (by decide) dX11_capped_2 ?_
  refine j_istore_n C (xs1 := [(0, .int a0), (1, .int a1), (2, .int 0), (3, .int 0)]) dX11_capped_3 rfl (by decide) rfl ?_
  exact wX11_capped_4 C S FU a0 a1 0 0
theorem ctX11_capped {l : Launch} {g : GT} {S : St} {a0 : Int32} {a1 : Int32} {out : Int32} (ho : mX11_capped a0 a1 = some out) : CT l yX11_capped cX11_capped 4 (some .int) 2 41 [.int a0, .int a1] g S ((fun a : Int32 => (some (Value.int a), S)) out) := CT_of (φ := (fun a : Int32 => (some (Value.int a), S))) [.int a0, .int a1] ho (by decide) (Nat.le_of_ble_eq_true rfl) (xs := [(0, .int a0), (1, .int a1)]) rfl (fun κ C => wX11_capped C S a0 a1)
/-! StairIdealsModel.support(I)I -/
def mX11_support_25 (k4 : Int32 → Int32 → Int32 → Option (Int32)) (x0 : Int32) (x2 : Int32) (s0 : Int32) (s1 : Int32) : Option (Int32) := bnd (s1 ||| s0) fun v1 => bnd (x2 + 1) fun v2 => k4 x0 v1 v2
theorem wX11_support_25 {κ : KT} {g : GT} (C : CX κ g RX11 cX11_support 3 (some .int) 2 41) (S : St) (k4 : Int32 → Int32 → Int32 → Option (Int32)) (hk4 : ∀ (x0 : Int32) (x1 : Int32) (x2 : Int32), J κ g 3 (fun a : Int32 => (some (Value.int a), S)) S 4 [(0, .int x0), (1, .int x1), (2, .int x2)] [] (k4 x0 x1 x2)) (x0 : Int32) (x2 : Int32) (s0 : Int32) (s1 : Int32) : J κ g 3 (fun a : Int32 => (some (Value.int a), S)) S 25 [(0, .int x0), (2, .int x2)] [.int s0, .int s1] (mX11_support_25 k4 x0 x2 s0 s1) := by
  unfold mX11_support_25
  refine j_ior C dX11_support_25 ?_
  refine j_topi (fun v1 => ?_)
  refine j_istore_n C (xs1 := [(0, .int x0), (1, .int v1), (2, .int x2)]) dX11_support_26 rfl (by decide) rfl ?_
  refine j_iinc C (xs2 := fun v2 => [(0, .int x0), (1, .int v1), (2, .int v2)]) 2 rfl dX11_support_27 (by decide) (by decide) (fun _ => rfl) (fun v2 => ?_)
  refine j_goto C 4 dX11_support_30 (by decide) ?_
  exact hk4 x0 v1 v2
def mX11_support_4 : Nat → Int32 → Int32 → Int32 → Option (Int32)
  | 0, _, _, _ => none
  | n + 1, x0, x1, x2 => if 4 ≤ x2 then (some x1)
  else ((mX11_power x0 x2).bind fun r1 => if r1 ≤ 0 then (mX11_support_25 (mX11_support_4 n) x0 x2 0 x1)
  else (mX11_support_25 (mX11_support_4 n) x0 x2 ((1 : Int32) <<< (x2 &&& 31)) x1))
theorem wX11_support_4 {κ : KT} {g : GT} (C : CX κ g RX11 cX11_support 3 (some .int) 2 41) (S : St) : ∀ (n : Nat) (x0 : Int32) (x1 : Int32) (x2 : Int32), J κ g 3 (fun a : Int32 => (some (Value.int a), S)) S 4 [(0, .int x0), (1, .int x1), (2, .int x2)] [] (mX11_support_4 n x0 x1 x2) := by
  intro n
  induction n with
  | zero => intro x0 x1 x2; exact j_none
  | succ n ih =>
    intro x0 x1 x2
    rw [mX11_support_4]
    refine j_iload_n C 2 rfl dX11_support_4 rfl ?_
    refine j_iconst C (v := 4) (by decide) dX11_support_5 ?_
    refine j_icmp_ge C 33 dX11_support_6 (by decide) ?_ ?_
    · refine j_iload_n C 1 rfl dX11_support_33 rfl ?_
      exact j_iret C rfl dX11_support_34
    · refine j_iload_n C 1 rfl dX11_support_9 rfl ?_
      refine j_iload_n C 0 rfl dX11_support_10 rfl ?_
      refine j_iload_n C 2 rfl dX11_support_11 rfl ?_
      refine j_callSi C [.int x0, .int x2] [.int x1] ms_X11_76 (fun _ h => ctX11_power h) ⟨(Nat.le_of_ble_eq_true rfl), (Nat.le_of_ble_eq_true rfl)⟩ (Nat.le_of_ble_eq_true rfl) dX11_support_12 rfl (fun r1 => ?_)
      refine j_if_le C 24 dX11_support_15 (by decide) ?_ ?_
      · refine j_iconst C (v := 0) (by decide) dX11_support_24 ?_
        refine j_sub (xs1 := [(0, .int x0), (2, .int x2)]) [0, 2] rfl ?_
        exact wX11_support_25 C S (mX11_support_4 n) ih x0 x2 0 x1
      · refine j_iconst C (v := 1) (by decide) dX11_support_18 ?_
        refine j_iload_n C 2 rfl dX11_support_19 rfl ?_
        refine j_ishl C dX11_support_20 ?_
        refine j_goto C 25 dX11_support_21 (by decide) ?_
        refine j_sub (xs1 := [(0, .int x0), (2, .int x2)]) [0, 2] rfl ?_
        exact wX11_support_25 C S (mX11_support_4 n) ih x0 x2 ((1 : Int32) <<< (x2 &&& 31)) x1
def mX11_support (a0 : Int32) : Option (Int32) := mX11_support_4 FU a0 0 0
theorem wX11_support {κ : KT} {g : GT} (C : CX κ g RX11 cX11_support 3 (some .int) 2 41) (S : St) (a0 : Int32) : J κ g 3 (fun a : Int32 => (some (Value.int a), S)) S 0 [(0, .int a0)] [] (mX11_support a0) := by
  unfold mX11_support
  refine j_iconst C (v := 0) (by decide) dX11_support_0 ?_
  refine j_istore_n C (xs1 := [(0, .int a0), (1, .int 0)]) dX11_support_1 rfl (by decide) rfl ?_
  refine j_iconst C (v := 0) (by decide) dX11_support_2 ?_
  refine j_istore_n C (xs1 := [(0, .int a0), (1, .int 0), (2, .int 0)]) dX11_support_3 rfl (by decide) rfl ?_
  exact wX11_support_4 C S FU a0 0 0
theorem ctX11_support {l : Launch} {g : GT} {S : St} {a0 : Int32} {out : Int32} (ho : mX11_support a0 = some out) : CT l yX11_support cX11_support 3 (some .int) 2 41 [.int a0] g S ((fun a : Int32 => (some (Value.int a), S)) out) := CT_of (φ := (fun a : Int32 => (some (Value.int a), S))) [.int a0] ho (by decide) (Nat.le_of_ble_eq_true rfl) (xs := [(0, .int a0)]) rfl (fun κ C => wX11_support C S a0)
/-! StairIdealsModel.at(II)I -/
def mX11_at (S : St) (a0 : Int32) (a1 : Int32) : Option (Int32) := inb 640 ((40 * a0) + a1) fun j1 => some (gA S 1 j1)
theorem wX11_at {κ : KT} {g : GT} (C : CX κ g RX11 cX11_at 3 (some .int) 0 0) (S : St) (a0 : Int32) (a1 : Int32) : J κ g 3 (fun a : Int32 => (some (Value.int a), S)) S 0 [(0, .ref (gad g 0)), (1, .int a0), (2, .int a1)] [] (mX11_at S a0 a1) := by
  unfold mX11_at
  refine j_aload_n C 0 rfl dX11_at_0 rfl ?_
  refine j_getR C (x := 1) fl_X11_7 sh_0 rfl rfl dX11_at_1 ?_
  refine j_bipush C (v := 40) (by decide) dX11_at_4 ?_
  refine j_iload_n C 1 rfl dX11_at_6 rfl ?_
  refine j_imul C dX11_at_7 ?_
  refine j_iload_n C 2 rfl dX11_at_8 rfl ?_
  refine j_iadd C dX11_at_9 ?_
  refine j_iald C sh_1 rfl dX11_at_10 (fun j1 => ?_)
  exact j_iret C rfl dX11_at_11
theorem ctX11_at {l : Launch} {g : GT} {S : St} {a0 : Int32} {a1 : Int32} {out : Int32} (ho : mX11_at S a0 a1 = some out) : CT l yX11_at cX11_at 3 (some .int) 0 0 [.ref (gad g 0), .int a0, .int a1] g S ((fun a : Int32 => (some (Value.int a), S)) out) := CT_of (φ := (fun a : Int32 => (some (Value.int a), S))) [.ref (gad g 0), .int a0, .int a1] ho (by decide) (Nat.le_of_ble_eq_true rfl) (xs := [(0, .ref (gad g 0)), (1, .int a0), (2, .int a1)]) rfl (fun κ C => wX11_at C S a0 a1)
/-! StairIdealsModel.isIn(II)Z -/
def mX11_isIn_39 (S : St) (k5 : Int32 → Int32 → Int32 → Int32 → Option (Int32)) (x1 : Int32) (x2 : Int32) (x4 : Int32) (s0 : Int32) : Option (Int32) := bnd (x4 + 1) fun v1 => k5 x1 x2 s0 v1
theorem wX11_isIn_39 {κ : KT} {g : GT} (C : CX κ g RX11 cX11_isIn 5 (some .boolean) 3 64) (S : St) (k5 : Int32 → Int32 → Int32 → Int32 → Option (Int32)) (hk5 : ∀ (x1 : Int32) (x2 : Int32) (x3 : Int32) (x4 : Int32), J κ g 5 (fun a : Int32 => (some (Value.int a), S)) S 5 [(0, .ref (gad g 0)), (1, .int x1), (2, .int x2), (3, .int x3), (4, .int x4)] [] (k5 x1 x2 x3 x4)) (x1 : Int32) (x2 : Int32) (x4 : Int32) (s0 : Int32) : J κ g 5 (fun a : Int32 => (some (Value.int a), S)) S 39 [(0, .ref (gad g 0)), (1, .int x1), (2, .int x2), (4, .int x4)] [.int s0] (mX11_isIn_39 S k5 x1 x2 x4 s0) := by
  unfold mX11_isIn_39
  refine j_istore_n C (xs1 := [(0, .ref (gad g 0)), (1, .int x1), (2, .int x2), (3, .int s0), (4, .int x4)]) dX11_isIn_39 rfl (by decide) rfl ?_
  refine j_iinc C (xs2 := fun v1 => [(0, .ref (gad g 0)), (1, .int x1), (2, .int x2), (3, .int s0), (4, .int v1)]) 4 rfl dX11_isIn_40 (by decide) (by decide) (fun _ => rfl) (fun v1 => ?_)
  refine j_goto C 5 dX11_isIn_43 (by decide) ?_
  exact hk5 x1 x2 s0 v1
def mX11_isIn_34 (S : St) (k5 : Int32 → Int32 → Int32 → Int32 → Option (Int32)) (x1 : Int32) (x2 : Int32) (x4 : Int32) : Option (Int32) := mX11_isIn_39 S k5 x1 x2 x4 1
theorem wX11_isIn_34 {κ : KT} {g : GT} (C : CX κ g RX11 cX11_isIn 5 (some .boolean) 3 64) (S : St) (k5 : Int32 → Int32 → Int32 → Int32 → Option (Int32)) (hk5 : ∀ (x1 : Int32) (x2 : Int32) (x3 : Int32) (x4 : Int32), J κ g 5 (fun a : Int32 => (some (Value.int a), S)) S 5 [(0, .ref (gad g 0)), (1, .int x1), (2, .int x2), (3, .int x3), (4, .int x4)] [] (k5 x1 x2 x3 x4)) (x1 : Int32) (x2 : Int32) (x4 : Int32) : J κ g 5 (fun a : Int32 => (some (Value.int a), S)) S 34 [(0, .ref (gad g 0)), (1, .int x1), (2, .int x2), (4, .int x4)] [] (mX11_isIn_34 S k5 x1 x2 x4) := by
  unfold mX11_isIn_34
  refine j_iconst C (v := 1) (by decide) dX11_isIn_34 ?_
  refine j_goto C 39 dX11_isIn_35 (by decide) ?_
  exact wX11_isIn_39 C S k5 hk5 x1 x2 x4 1
def mX11_isIn_5 (S : St) : Nat → Int32 → Int32 → Int32 → Int32 → Option (Int32)
  | 0, _, _, _, _ => none
  | n + 1, x1, x2, x3, x4 => inb 16 x1 fun j1 => if (gA S 2 j1) ≤ x4 then (zbg x3 (some x3))
  else (if x3 = 0 then ((mX11_at S x1 x4).bind fun r2 => (mX11_divides r2 x2).bind fun r3 => if r3 = 0 then (mX11_isIn_39 S (mX11_isIn_5 S n) x1 x2 x4 0)
  else (mX11_isIn_34 S (mX11_isIn_5 S n) x1 x2 x4))
  else (mX11_isIn_34 S (mX11_isIn_5 S n) x1 x2 x4))
theorem wX11_isIn_5 {κ : KT} {g : GT} (C : CX κ g RX11 cX11_isIn 5 (some .boolean) 3 64) (S : St) : ∀ (n : Nat) (x1 : Int32) (x2 : Int32) (x3 : Int32) (x4 : Int32), J κ g 5 (fun a : Int32 => (some (Value.int a), S)) S 5 [(0, .ref (gad g 0)), (1, .int x1), (2, .int x2), (3, .int x3), (4, .int x4)] [] (mX11_isIn_5 S n x1 x2 x3 x4) := by
  intro n
  induction n with
  | zero => intro x1 x2 x3 x4; exact j_none
  | succ n ih =>
    intro x1 x2 x3 x4
    rw [mX11_isIn_5]
    refine j_iload C 4 rfl dX11_isIn_5 ?_
    refine j_aload_n C 0 rfl dX11_isIn_7 rfl ?_
    refine j_getR C (x := 2) fl_X11_13 sh_0 rfl rfl dX11_isIn_8 ?_
    refine j_iload_n C 1 rfl dX11_isIn_11 rfl ?_
    refine j_iald C sh_2 rfl dX11_isIn_12 (fun j1 => ?_)
    refine j_icmp_ge C 46 dX11_isIn_13 (by decide) ?_ ?_
    · refine j_iload_n C 3 rfl dX11_isIn_46 rfl ?_
      refine j_zbg (fun hb => ?_)
      exact j_zret C (nar_z hb) rfl dX11_isIn_47
    · refine j_iload_n C 3 rfl dX11_isIn_16 rfl ?_
      refine j_if_ne C 34 dX11_isIn_17 (by decide) ?_ ?_
      · refine j_sub (xs1 := [(0, .ref (gad g 0)), (1, .int x1), (2, .int x2), (4, .int x4)]) [0, 1, 2, 4] rfl ?_
        exact wX11_isIn_34 C S (mX11_isIn_5 S n) ih x1 x2 x4
      · refine j_aload_n C 0 rfl dX11_isIn_20 rfl ?_
        refine j_iload_n C 1 rfl dX11_isIn_21 rfl ?_
        refine j_iload C 4 rfl dX11_isIn_22 ?_
        refine j_callVi C [.int x1, .int x4] [] mv_X11_86 sh_0 rfl rfl (fun _ h => ctX11_at h) ⟨(Nat.le_of_ble_eq_true rfl), (Nat.le_of_ble_eq_true rfl)⟩ (Nat.le_of_ble_eq_true rfl) dX11_isIn_24 rfl (fun r2 => ?_)
        refine j_iload_n C 2 rfl dX11_isIn_27 rfl ?_
        refine j_callSi C [.int r2, .int x2] [] ms_X11_89 (fun _ h => ctX11_divides h) ⟨(Nat.le_of_ble_eq_true rfl), (Nat.le_of_ble_eq_true rfl)⟩ (Nat.le_of_ble_eq_true rfl) dX11_isIn_28 rfl (fun r3 => ?_)
        refine j_if_eq C 38 dX11_isIn_31 (by decide) ?_ ?_
        · refine j_iconst C (v := 0) (by decide) dX11_isIn_38 ?_
          refine j_sub (xs1 := [(0, .ref (gad g 0)), (1, .int x1), (2, .int x2), (4, .int x4)]) [0, 1, 2, 4] rfl ?_
          exact wX11_isIn_39 C S (mX11_isIn_5 S n) ih x1 x2 x4 0
        · refine j_sub (xs1 := [(0, .ref (gad g 0)), (1, .int x1), (2, .int x2), (4, .int x4)]) [0, 1, 2, 4] rfl ?_
          exact wX11_isIn_34 C S (mX11_isIn_5 S n) ih x1 x2 x4
def mX11_isIn (S : St) (a0 : Int32) (a1 : Int32) : Option (Int32) := mX11_isIn_5 S FU a0 a1 0 0
theorem wX11_isIn {κ : KT} {g : GT} (C : CX κ g RX11 cX11_isIn 5 (some .boolean) 3 64) (S : St) (a0 : Int32) (a1 : Int32) : J κ g 5 (fun a : Int32 => (some (Value.int a), S)) S 0 [(0, .ref (gad g 0)), (1, .int a0), (2, .int a1)] [] (mX11_isIn S a0 a1) := by
  unfold mX11_isIn
  refine j_iconst C (v := 0) (by decide) dX11_isIn_0 ?_
  refine j_istore_n C (xs1 := [(0, .ref (gad g 0)), (1, .int a0), (2, .int a1), (3, .int 0)]) dX11_isIn_1 rfl (by decide) rfl ?_
  refine j_iconst C (v := 0) (by decide) dX11_isIn_2 ?_
  refine j_istore C (xs1 := [(0, .ref (gad g 0)), (1, .int a0), (2, .int a1), (3, .int 0), (4, .int 0)]) dX11_isIn_3 (by decide) rfl ?_
  exact wX11_isIn_5 C S FU a0 a1 0 0
theorem ctX11_isIn {l : Launch} {g : GT} {S : St} {a0 : Int32} {a1 : Int32} {out : Int32} (ho : mX11_isIn S a0 a1 = some out) : CT l yX11_isIn cX11_isIn 5 (some .boolean) 3 64 [.ref (gad g 0), .int a0, .int a1] g S ((fun a : Int32 => (some (Value.int a), S)) out) := CT_of (φ := (fun a : Int32 => (some (Value.int a), S))) [.ref (gad g 0), .int a0, .int a1] ho (by decide) (Nat.le_of_ble_eq_true rfl) (xs := [(0, .ref (gad g 0)), (1, .int a0), (2, .int a1)]) rfl (fun κ C => wX11_isIn C S a0 a1)
/-! StairIdealsModel.isLeast(I)Z -/
def mX11_isLeast_57 (S : St) (k15 : Int32 → Int32 → Int32 → Option (Int32)) (x2 : Int32) (x4 : Int32) (s0 : Int32) : Option (Int32) := bnd (x4 + 1) fun v1 => k15 x2 s0 v1
theorem wX11_isLeast_57 {κ : KT} {g : GT} (C : CX κ g RX11 cX11_isLeast 5 (some .boolean) 3 61) (S : St) (k15 : Int32 → Int32 → Int32 → Option (Int32)) (hk15 : ∀ (x2 : Int32) (x3 : Int32) (x4 : Int32), J κ g 5 (fun a : Int32 => (some (Value.int a), S)) S 15 [(0, .ref (gad g 0)), (2, .int x2), (3, .int x3), (4, .int x4)] [] (k15 x2 x3 x4)) (x2 : Int32) (x4 : Int32) (s0 : Int32) : J κ g 5 (fun a : Int32 => (some (Value.int a), S)) S 57 [(0, .ref (gad g 0)), (2, .int x2), (4, .int x4)] [.int s0] (mX11_isLeast_57 S k15 x2 x4 s0) := by
  unfold mX11_isLeast_57
  refine j_istore_n C (xs1 := [(0, .ref (gad g 0)), (2, .int x2), (3, .int s0), (4, .int x4)]) dX11_isLeast_57 rfl (by decide) rfl ?_
  refine j_iinc C (xs2 := fun v1 => [(0, .ref (gad g 0)), (2, .int x2), (3, .int s0), (4, .int v1)]) 3 rfl dX11_isLeast_58 (by decide) (by decide) (fun _ => rfl) (fun v1 => ?_)
  refine j_goto C 15 dX11_isLeast_61 (by decide) ?_
  exact hk15 x2 s0 v1
def mX11_isLeast_56 (S : St) (k15 : Int32 → Int32 → Int32 → Option (Int32)) (x2 : Int32) (x4 : Int32) : Option (Int32) := mX11_isLeast_57 S k15 x2 x4 0
theorem wX11_isLeast_56 {κ : KT} {g : GT} (C : CX κ g RX11 cX11_isLeast 5 (some .boolean) 3 61) (S : St) (k15 : Int32 → Int32 → Int32 → Option (Int32)) (hk15 : ∀ (x2 : Int32) (x3 : Int32) (x4 : Int32), J κ g 5 (fun a : Int32 => (some (Value.int a), S)) S 15 [(0, .ref (gad g 0)), (2, .int x2), (3, .int x3), (4, .int x4)] [] (k15 x2 x3 x4)) (x2 : Int32) (x4 : Int32) : J κ g 5 (fun a : Int32 => (some (Value.int a), S)) S 56 [(0, .ref (gad g 0)), (2, .int x2), (4, .int x4)] [] (mX11_isLeast_56 S k15 x2 x4) := by
  unfold mX11_isLeast_56
  refine j_iconst C (v := 0) (by decide) dX11_isLeast_56 ?_
  exact wX11_isLeast_57 C S k15 hk15 x2 x4 0
def mX11_isLeast_52 (S : St) (k15 : Int32 → Int32 → Int32 → Option (Int32)) (x2 : Int32) (x4 : Int32) : Option (Int32) := mX11_isLeast_57 S k15 x2 x4 1
theorem wX11_isLeast_52 {κ : KT} {g : GT} (C : CX κ g RX11 cX11_isLeast 5 (some .boolean) 3 61) (S : St) (k15 : Int32 → Int32 → Int32 → Option (Int32)) (hk15 : ∀ (x2 : Int32) (x3 : Int32) (x4 : Int32), J κ g 5 (fun a : Int32 => (some (Value.int a), S)) S 15 [(0, .ref (gad g 0)), (2, .int x2), (3, .int x3), (4, .int x4)] [] (k15 x2 x3 x4)) (x2 : Int32) (x4 : Int32) : J κ g 5 (fun a : Int32 => (some (Value.int a), S)) S 52 [(0, .ref (gad g 0)), (2, .int x2), (4, .int x4)] [] (mX11_isLeast_52 S k15 x2 x4) := by
  unfold mX11_isLeast_52
  refine j_iconst C (v := 1) (by decide) dX11_isLeast_52 ?_
  refine j_goto C 57 dX11_isLeast_53 (by decide) ?_
  exact wX11_isLeast_57 C S k15 hk15 x2 x4 1
def mX11_isLeast_15 (S : St) : Nat → Int32 → Int32 → Int32 → Option (Int32)
  | 0, _, _, _ => none
  | n + 1, x2, x3, x4 => if 4 ≤ x4 then (zbg x3 (some x3))
  else (if x3 = 0 then (mX11_isLeast_56 S (mX11_isLeast_15 S n) x2 x4)
  else ((mX11_power x2 x4).bind fun r1 => if r1 = 0 then (mX11_isLeast_52 S (mX11_isLeast_15 S n) x2 x4)
  else ((mX11_ten x4).bind fun r2 => (mX11_placeOf (x2 - r2)).bind fun r3 => inb 2401 r3 fun j4 => if (gA S 4 j4) = 0 then (mX11_isLeast_52 S (mX11_isLeast_15 S n) x2 x4)
  else (mX11_isLeast_56 S (mX11_isLeast_15 S n) x2 x4))))
theorem wX11_isLeast_15 {κ : KT} {g : GT} (C : CX κ g RX11 cX11_isLeast 5 (some .boolean) 3 61) (S : St) : ∀ (n : Nat) (x2 : Int32) (x3 : Int32) (x4 : Int32), J κ g 5 (fun a : Int32 => (some (Value.int a), S)) S 15 [(0, .ref (gad g 0)), (2, .int x2), (3, .int x3), (4, .int x4)] [] (mX11_isLeast_15 S n x2 x3 x4) := by
  intro n
  induction n with
  | zero => intro x2 x3 x4; exact j_none
  | succ n ih =>
    intro x2 x3 x4
    rw [mX11_isLeast_15]
    refine j_iload C 3 rfl dX11_isLeast_15 ?_
    refine j_iconst C (v := 4) (by decide) dX11_isLeast_17 ?_
    refine j_icmp_ge C 64 dX11_isLeast_18 (by decide) ?_ ?_
    · refine j_iload_n C 2 rfl dX11_isLeast_64 rfl ?_
      refine j_zbg (fun hb => ?_)
      exact j_zret C (nar_z hb) rfl dX11_isLeast_65
    · refine j_iload_n C 2 rfl dX11_isLeast_21 rfl ?_
      refine j_if_eq C 56 dX11_isLeast_22 (by decide) ?_ ?_
      · refine j_sub (xs1 := [(0, .ref (gad g 0)), (2, .int x2), (4, .int x4)]) [0, 1, 3] rfl ?_
        exact wX11_isLeast_56 C S (mX11_isLeast_15 S n) ih x2 x4
      · refine j_iload_n C 1 rfl dX11_isLeast_25 rfl ?_
        refine j_iload C 3 rfl dX11_isLeast_26 ?_
        refine j_callSi C [.int x2, .int x4] [] ms_X11_76 (fun _ h => ctX11_power h) ⟨(Nat.le_of_ble_eq_true rfl), (Nat.le_of_ble_eq_true rfl)⟩ (Nat.le_of_ble_eq_true rfl) dX11_isLeast_28 rfl (fun r1 => ?_)
        refine j_if_eq C 52 dX11_isLeast_31 (by decide) ?_ ?_
        · refine j_sub (xs1 := [(0, .ref (gad g 0)), (2, .int x2), (4, .int x4)]) [0, 1, 3] rfl ?_
          exact wX11_isLeast_52 C S (mX11_isLeast_15 S n) ih x2 x4
        · refine j_aload_n C 0 rfl dX11_isLeast_34 rfl ?_
          refine j_getR C (x := 4) fl_X11_19 sh_0 rfl rfl dX11_isLeast_35 ?_
          refine j_iload_n C 1 rfl dX11_isLeast_38 rfl ?_
          refine j_iload C 3 rfl dX11_isLeast_39 ?_
          refine j_callSi C [.int x4] [.int x2, .ref (gad g 4)] ms_X11_70 (fun _ h => ctX11_ten h) ⟨(Nat.le_of_ble_eq_true rfl), (Nat.le_of_ble_eq_true rfl)⟩ (Nat.le_of_ble_eq_true rfl) dX11_isLeast_41 rfl (fun r2 => ?_)
          refine j_isub C dX11_isLeast_44 ?_
          refine j_callSi C [.int (x2 - r2)] [.ref (gad g 4)] ms_X11_96 (fun _ h => ctX11_placeOf h) ⟨(Nat.le_of_ble_eq_true rfl), (Nat.le_of_ble_eq_true rfl)⟩ (Nat.le_of_ble_eq_true rfl) dX11_isLeast_45 rfl (fun r3 => ?_)
          refine j_zald C sh_4 rfl dX11_isLeast_48 (fun j4 => ?_)
          refine j_if_ne C 56 dX11_isLeast_49 (by decide) ?_ ?_
          · refine j_sub (xs1 := [(0, .ref (gad g 0)), (2, .int x2), (4, .int x4)]) [0, 1, 3] rfl ?_
            exact wX11_isLeast_56 C S (mX11_isLeast_15 S n) ih x2 x4
          · refine j_sub (xs1 := [(0, .ref (gad g 0)), (2, .int x2), (4, .int x4)]) [0, 1, 3] rfl ?_
            exact wX11_isLeast_52 C S (mX11_isLeast_15 S n) ih x2 x4
def mX11_isLeast (S : St) (a0 : Int32) : Option (Int32) := (mX11_codeAt a0).bind fun r1 => inb 2401 a0 fun j2 => bnd (gA S 4 j2) fun v3 => mX11_isLeast_15 S FU r1 v3 0
theorem wX11_isLeast {κ : KT} {g : GT} (C : CX κ g RX11 cX11_isLeast 5 (some .boolean) 3 61) (S : St) (a0 : Int32) : J κ g 5 (fun a : Int32 => (some (Value.int a), S)) S 0 [(0, .ref (gad g 0)), (1, .int a0)] [] (mX11_isLeast S a0) := by
  unfold mX11_isLeast
  refine j_iload_n C 1 rfl dX11_isLeast_0 rfl ?_
  refine j_callSi C [.int a0] [] ms_X11_93 (fun _ h => ctX11_codeAt h) ⟨(Nat.le_of_ble_eq_true rfl), (Nat.le_of_ble_eq_true rfl)⟩ (Nat.le_of_ble_eq_true rfl) dX11_isLeast_1 rfl (fun r1 => ?_)
  refine j_istore_n C (xs1 := [(0, .ref (gad g 0)), (1, .int a0), (2, .int r1)]) dX11_isLeast_4 rfl (by decide) rfl ?_
  refine j_aload_n C 0 rfl dX11_isLeast_5 rfl ?_
  refine j_getR C (x := 4) fl_X11_19 sh_0 rfl rfl dX11_isLeast_6 ?_
  refine j_iload_n C 1 rfl dX11_isLeast_9 rfl ?_
  refine j_zald C sh_4 rfl dX11_isLeast_10 (fun j2 => ?_)
  refine j_topi (fun v3 => ?_)
  refine j_istore_n C (xs1 := [(0, .ref (gad g 0)), (1, .int a0), (2, .int r1), (3, .int v3)]) dX11_isLeast_11 rfl (by decide) rfl ?_
  refine j_iconst C (v := 0) (by decide) dX11_isLeast_12 ?_
  refine j_istore C (xs1 := [(0, .ref (gad g 0)), (1, .int a0), (2, .int r1), (3, .int v3), (4, .int 0)]) dX11_isLeast_13 (by decide) rfl ?_
  refine j_sub (xs1 := [(0, .ref (gad g 0)), (2, .int r1), (3, .int v3), (4, .int 0)]) [0, 2, 3, 4] rfl ?_
  exact wX11_isLeast_15 C S FU r1 v3 0
theorem ctX11_isLeast {l : Launch} {g : GT} {S : St} {a0 : Int32} {out : Int32} (ho : mX11_isLeast S a0 = some out) : CT l yX11_isLeast cX11_isLeast 5 (some .boolean) 3 61 [.ref (gad g 0), .int a0] g S ((fun a : Int32 => (some (Value.int a), S)) out) := CT_of (φ := (fun a : Int32 => (some (Value.int a), S))) [.ref (gad g 0), .int a0] ho (by decide) (Nat.le_of_ble_eq_true rfl) (xs := [(0, .ref (gad g 0)), (1, .int a0)]) rfl (fun κ C => wX11_isLeast C S a0)
/-! StairIdealsModel.keep(I)I -/
def mX11_keep_96 (k51 : St → Int32 → Int32 → Int32 → Option (Int32 × St)) (S : St) (x1 : Int32) (x2 : Int32) (x3 : Int32) : Option (Int32 × St) := bnd (x3 + 1) fun v1 => k51 S x1 x2 v1
theorem wX11_keep_96 {κ : KT} {g : GT} (C : CX κ g RX11 cX11_keep 4 (some .int) 4 85) (k51 : St → Int32 → Int32 → Int32 → Option (Int32 × St)) (hk51 : ∀ (S : St) (x1 : Int32) (x2 : Int32) (x3 : Int32), J κ g 4 (fun a : Int32 × St => (some (Value.int a.1), a.2)) S 51 [(0, .ref (gad g 0)), (1, .int x1), (2, .int x2), (3, .int x3)] [] (k51 S x1 x2 x3)) (S : St) (x1 : Int32) (x2 : Int32) (x3 : Int32) : J κ g 4 (fun a : Int32 × St => (some (Value.int a.1), a.2)) S 96 [(0, .ref (gad g 0)), (1, .int x1), (2, .int x2), (3, .int x3)] [] (mX11_keep_96 k51 S x1 x2 x3) := by
  unfold mX11_keep_96
  refine j_iinc C (xs2 := fun v1 => [(0, .ref (gad g 0)), (1, .int x1), (2, .int x2), (3, .int v1)]) 3 rfl dX11_keep_96 (by decide) (by decide) (fun _ => rfl) (fun v1 => ?_)
  refine j_goto C 51 dX11_keep_99 (by decide) ?_
  exact hk51 S x1 x2 v1
def mX11_keep_51 : Nat → St → Int32 → Int32 → Int32 → Option (Int32 × St)
  | 0, _, _, _, _ => none
  | n + 1, S, x1, x2, x3 => if 2401 ≤ x3 then (some (x2, S))
  else ((mX11_isLeast S x3).bind fun r1 => if r1 = 0 then (mX11_keep_96 (mX11_keep_51 n) S x1 x2 x3)
  else (inb 16 x1 fun j2 => (mX11_codeAt x3).bind fun r3 => inb 640 ((40 * x1) + (gA S 2 j2)) fun j4 => inb 16 x1 fun j5 => inb 16 x1 fun j6 => mX11_keep_96 (mX11_keep_51 n) (sA (sA S 1 j4 r3) 2 j6 ((gA (sA S 1 j4 r3) 2 j5) + 1)) x1 x2 x3))
theorem wX11_keep_51 {κ : KT} {g : GT} (C : CX κ g RX11 cX11_keep 4 (some .int) 4 85) : ∀ (n : Nat) (S : St) (x1 : Int32) (x2 : Int32) (x3 : Int32), J κ g 4 (fun a : Int32 × St => (some (Value.int a.1), a.2)) S 51 [(0, .ref (gad g 0)), (1, .int x1), (2, .int x2), (3, .int x3)] [] (mX11_keep_51 n S x1 x2 x3) := by
  intro n
  induction n with
  | zero => intro S x1 x2 x3; exact j_none
  | succ n ih =>
    intro S x1 x2 x3
    rw [mX11_keep_51]
    refine j_iload_n C 3 rfl dX11_keep_51 rfl ?_
    refine j_sipush C (v := 2401) (by decide) dX11_keep_52 ?_
    refine j_icmp_ge C 102 dX11_keep_55 (by decide) ?_ ?_
    · refine j_iload_n C 2 rfl dX11_keep_102 rfl ?_
      exact j_iret C rfl dX11_keep_103
    · refine j_aload_n C 0 rfl dX11_keep_58 rfl ?_
      refine j_iload_n C 3 rfl dX11_keep_59 rfl ?_
      refine j_callVi C [.int x3] [] mv_X11_99 sh_0 rfl rfl (fun _ h => ctX11_isLeast h) ⟨(Nat.le_of_ble_eq_true rfl), (Nat.le_of_ble_eq_true rfl)⟩ (Nat.le_of_ble_eq_true rfl) dX11_keep_60 rfl (fun r1 => ?_)
      refine j_if_eq C 96 dX11_keep_63 (by decide) ?_ ?_
      · exact wX11_keep_96 C (mX11_keep_51 n) ih S x1 x2 x3
      · refine j_aload_n C 0 rfl dX11_keep_66 rfl ?_
        refine j_getR C (x := 1) fl_X11_7 sh_0 rfl rfl dX11_keep_67 ?_
        refine j_bipush C (v := 40) (by decide) dX11_keep_70 ?_
        refine j_iload_n C 1 rfl dX11_keep_72 rfl ?_
        refine j_imul C dX11_keep_73 ?_
        refine j_aload_n C 0 rfl dX11_keep_74 rfl ?_
        refine j_getR C (x := 2) fl_X11_13 sh_0 rfl rfl dX11_keep_75 ?_
        refine j_iload_n C 1 rfl dX11_keep_78 rfl ?_
        refine j_iald C sh_2 rfl dX11_keep_79 (fun j2 => ?_)
        refine j_iadd C dX11_keep_80 ?_
        refine j_iload_n C 3 rfl dX11_keep_81 rfl ?_
        refine j_callSi C [.int x3] [.int ((40 * x1) + (gA S 2 j2)), .ref (gad g 1)] ms_X11_93 (fun _ h => ctX11_codeAt h) ⟨(Nat.le_of_ble_eq_true rfl), (Nat.le_of_ble_eq_true rfl)⟩ (Nat.le_of_ble_eq_true rfl) dX11_keep_82 rfl (fun r3 => ?_)
        refine j_iast C sh_1 rfl dX11_keep_85 (fun j4 => ?_)
        refine j_aload_n C 0 rfl dX11_keep_86 rfl ?_
        refine j_getR C (x := 2) fl_X11_13 sh_0 rfl rfl dX11_keep_87 ?_
        refine j_iload_n C 1 rfl dX11_keep_90 rfl ?_
        refine j_dup2_11 C rfl rfl dX11_keep_91 ?_
        refine j_iald C sh_2 rfl dX11_keep_92 (fun j5 => ?_)
        refine j_iconst C (v := 1) (by decide) dX11_keep_93 ?_
        refine j_iadd C dX11_keep_94 ?_
        refine j_iast C sh_2 rfl dX11_keep_95 (fun j6 => ?_)
        exact wX11_keep_96 C (mX11_keep_51 n) ih (sA (sA S 1 j4 r3) 2 j6 ((gA (sA S 1 j4 r3) 2 j5) + 1)) x1 x2 x3
def mX11_keep_25 (k4 : St → Int32 → Int32 → Int32 → Option (Int32 × St)) (S : St) (x1 : Int32) (x3 : Int32) (s0 : Int32) (s1 : Int32) : Option (Int32 × St) := bnd (s1 + s0) fun v1 => bnd (x3 + 1) fun v2 => k4 S x1 v1 v2
theorem wX11_keep_25 {κ : KT} {g : GT} (C : CX κ g RX11 cX11_keep 4 (some .int) 4 85) (k4 : St → Int32 → Int32 → Int32 → Option (Int32 × St)) (hk4 : ∀ (S : St) (x1 : Int32) (x2 : Int32) (x3 : Int32), J κ g 4 (fun a : Int32 × St => (some (Value.int a.1), a.2)) S 4 [(0, .ref (gad g 0)), (1, .int x1), (2, .int x2), (3, .int x3)] [] (k4 S x1 x2 x3)) (S : St) (x1 : Int32) (x3 : Int32) (s0 : Int32) (s1 : Int32) : J κ g 4 (fun a : Int32 × St => (some (Value.int a.1), a.2)) S 25 [(0, .ref (gad g 0)), (1, .int x1), (3, .int x3)] [.int s0, .int s1] (mX11_keep_25 k4 S x1 x3 s0 s1) := by
  unfold mX11_keep_25
  refine j_iadd C dX11_keep_25 ?_
  refine j_topi (fun v1 => ?_)
  refine j_istore_n C (xs1 := [(0, .ref (gad g 0)), (1, .int x1), (2, .int v1), (3, .int x3)]) dX11_keep_26 rfl (by decide) rfl ?_
  refine j_iinc C (xs2 := fun v2 => [(0, .ref (gad g 0)), (1, .int x1), (2, .int v1), (3, .int v2)]) 3 rfl dX11_keep_27 (by decide) (by decide) (fun _ => rfl) (fun v2 => ?_)
  refine j_goto C 4 dX11_keep_30 (by decide) ?_
  exact hk4 S x1 v1 v2
def mX11_keep_4 : Nat → St → Int32 → Int32 → Int32 → Option (Int32 × St)
  | 0, _, _, _, _ => none
  | n + 1, S, x1, x2, x3 => if 2401 ≤ x3 then (if x2 ≤ 40 then (inb 16 x1 fun j1 => mX11_keep_51 FU (sA S 2 j1 0) x1 x2 0)
  else (some ((-4), S)))
  else ((mX11_isLeast S x3).bind fun r2 => if r2 = 0 then (mX11_keep_25 (mX11_keep_4 n) S x1 x3 0 x2)
  else (mX11_keep_25 (mX11_keep_4 n) S x1 x3 1 x2))
theorem wX11_keep_4 {κ : KT} {g : GT} (C : CX κ g RX11 cX11_keep 4 (some .int) 4 85) : ∀ (n : Nat) (S : St) (x1 : Int32) (x2 : Int32) (x3 : Int32), J κ g 4 (fun a : Int32 × St => (some (Value.int a.1), a.2)) S 4 [(0, .ref (gad g 0)), (1, .int x1), (2, .int x2), (3, .int x3)] [] (mX11_keep_4 n S x1 x2 x3) := by
  intro n
  induction n with
  | zero => intro S x1 x2 x3; exact j_none
  | succ n ih =>
    intro S x1 x2 x3
    rw [mX11_keep_4]
    refine j_iload_n C 3 rfl dX11_keep_4 rfl ?_
    refine j_sipush C (v := 2401) (by decide) dX11_keep_5 ?_
    refine j_icmp_ge C 33 dX11_keep_8 (by decide) ?_ ?_
    · refine j_iload_n C 2 rfl dX11_keep_33 rfl ?_
      refine j_bipush C (v := 40) (by decide) dX11_keep_34 ?_
      refine j_icmp_le C 42 dX11_keep_36 (by decide) ?_ ?_
      · refine j_aload_n C 0 rfl dX11_keep_42 rfl ?_
        refine j_getR C (x := 2) fl_X11_13 sh_0 rfl rfl dX11_keep_43 ?_
        refine j_iload_n C 1 rfl dX11_keep_46 rfl ?_
        refine j_iconst C (v := 0) (by decide) dX11_keep_47 ?_
        refine j_iast C sh_2 rfl dX11_keep_48 (fun j1 => ?_)
        refine j_iconst C (v := 0) (by decide) dX11_keep_49 ?_
        refine j_istore_n C (xs1 := [(0, .ref (gad g 0)), (1, .int x1), (2, .int x2), (3, .int 0)]) dX11_keep_50 rfl (by decide) rfl ?_
        exact wX11_keep_51 C FU (sA S 2 j1 0) x1 x2 0
      · refine j_bipush C (v := (-4)) (by decide) dX11_keep_39 ?_
        exact j_iret C rfl dX11_keep_41
    · refine j_iload_n C 2 rfl dX11_keep_11 rfl ?_
      refine j_aload_n C 0 rfl dX11_keep_12 rfl ?_
      refine j_iload_n C 3 rfl dX11_keep_13 rfl ?_
      refine j_callVi C [.int x3] [.int x2] mv_X11_99 sh_0 rfl rfl (fun _ h => ctX11_isLeast h) ⟨(Nat.le_of_ble_eq_true rfl), (Nat.le_of_ble_eq_true rfl)⟩ (Nat.le_of_ble_eq_true rfl) dX11_keep_14 rfl (fun r2 => ?_)
      refine j_if_eq C 24 dX11_keep_17 (by decide) ?_ ?_
      · refine j_iconst C (v := 0) (by decide) dX11_keep_24 ?_
        refine j_sub (xs1 := [(0, .ref (gad g 0)), (1, .int x1), (3, .int x3)]) [0, 1, 3] rfl ?_
        exact wX11_keep_25 C (mX11_keep_4 n) ih S x1 x3 0 x2
      · refine j_iconst C (v := 1) (by decide) dX11_keep_20 ?_
        refine j_goto C 25 dX11_keep_21 (by decide) ?_
        refine j_sub (xs1 := [(0, .ref (gad g 0)), (1, .int x1), (3, .int x3)]) [0, 1, 3] rfl ?_
        exact wX11_keep_25 C (mX11_keep_4 n) ih S x1 x3 1 x2
def mX11_keep (S : St) (a0 : Int32) : Option (Int32 × St) := mX11_keep_4 FU S a0 0 0
theorem wX11_keep {κ : KT} {g : GT} (C : CX κ g RX11 cX11_keep 4 (some .int) 4 85) (S : St) (a0 : Int32) : J κ g 4 (fun a : Int32 × St => (some (Value.int a.1), a.2)) S 0 [(0, .ref (gad g 0)), (1, .int a0)] [] (mX11_keep S a0) := by
  unfold mX11_keep
  refine j_iconst C (v := 0) (by decide) dX11_keep_0 ?_
  refine j_istore_n C (xs1 := [(0, .ref (gad g 0)), (1, .int a0), (2, .int 0)]) dX11_keep_1 rfl (by decide) rfl ?_
  refine j_iconst C (v := 0) (by decide) dX11_keep_2 ?_
  refine j_istore_n C (xs1 := [(0, .ref (gad g 0)), (1, .int a0), (2, .int 0), (3, .int 0)]) dX11_keep_3 rfl (by decide) rfl ?_
  exact wX11_keep_4 C FU S a0 0 0
theorem ctX11_keep {l : Launch} {g : GT} {S : St} {a0 : Int32} {out : Int32 × St} (ho : mX11_keep S a0 = some out) : CT l yX11_keep cX11_keep 4 (some .int) 4 85 [.ref (gad g 0), .int a0] g S ((fun a : Int32 × St => (some (Value.int a.1), a.2)) out) := CT_of (φ := (fun a : Int32 × St => (some (Value.int a.1), a.2))) [.ref (gad g 0), .int a0] ho (by decide) (Nat.le_of_ble_eq_true rfl) (xs := [(0, .ref (gad g 0)), (1, .int a0)]) rfl (fun κ C => wX11_keep C S a0)
/-! StairIdealsModel.markAbove(I)V -/
def mX11_markAbove_39 (k2 : St → Int32 → Int32 → Option (St)) (S : St) (x1 : Int32) (x2 : Int32) (s0 : Int32) (s1 : Int32) : Option (St) := zbg s0 <| inb 2401 s1 fun j1 => bnd (x2 + 1) fun v2 => k2 (sA S 4 j1 s0) x1 v2
theorem wX11_markAbove_39 {κ : KT} {g : GT} (C : CX κ g RX11 cX11_markAbove 3 none 3 64) (k2 : St → Int32 → Int32 → Option (St)) (hk2 : ∀ (S : St) (x1 : Int32) (x2 : Int32), J κ g 3 (fun a : St => (none, a)) S 2 [(0, .ref (gad g 0)), (1, .int x1), (2, .int x2)] [] (k2 S x1 x2)) (S : St) (x1 : Int32) (x2 : Int32) (s0 : Int32) (s1 : Int32) : J κ g 3 (fun a : St => (none, a)) S 39 [(0, .ref (gad g 0)), (1, .int x1), (2, .int x2)] [.int s0, .int s1, .ref (gad g 4)] (mX11_markAbove_39 k2 S x1 x2 s0 s1) := by
  unfold mX11_markAbove_39
  refine j_zbg (fun hb => ?_)
  refine j_zast C sh_4 rfl hb dX11_markAbove_39 (fun j1 => ?_)
  refine j_iinc C (xs2 := fun v2 => [(0, .ref (gad g 0)), (1, .int x1), (2, .int v2)]) 2 rfl dX11_markAbove_40 (by decide) (by decide) (fun _ => rfl) (fun v2 => ?_)
  refine j_goto C 2 dX11_markAbove_43 (by decide) ?_
  exact hk2 (sA S 4 j1 s0) x1 v2
def mX11_markAbove_34 (k2 : St → Int32 → Int32 → Option (St)) (S : St) (x1 : Int32) (x2 : Int32) (s0 : Int32) : Option (St) := mX11_markAbove_39 k2 S x1 x2 1 s0
theorem wX11_markAbove_34 {κ : KT} {g : GT} (C : CX κ g RX11 cX11_markAbove 3 none 3 64) (k2 : St → Int32 → Int32 → Option (St)) (hk2 : ∀ (S : St) (x1 : Int32) (x2 : Int32), J κ g 3 (fun a : St => (none, a)) S 2 [(0, .ref (gad g 0)), (1, .int x1), (2, .int x2)] [] (k2 S x1 x2)) (S : St) (x1 : Int32) (x2 : Int32) (s0 : Int32) : J κ g 3 (fun a : St => (none, a)) S 34 [(0, .ref (gad g 0)), (1, .int x1), (2, .int x2)] [.int s0, .ref (gad g 4)] (mX11_markAbove_34 k2 S x1 x2 s0) := by
  unfold mX11_markAbove_34
  refine j_iconst C (v := 1) (by decide) dX11_markAbove_34 ?_
  refine j_goto C 39 dX11_markAbove_35 (by decide) ?_
  exact wX11_markAbove_39 C k2 hk2 S x1 x2 1 s0
def mX11_markAbove_2 : Nat → St → Int32 → Int32 → Option (St)
  | 0, _, _, _ => none
  | n + 1, S, x1, x2 => if 2401 ≤ x2 then (some S)
  else (inb 2401 x2 fun j1 => if (gA S 4 j1) = 0 then ((mX11_codeAt x2).bind fun r2 => (mX11_divides x1 r2).bind fun r3 => if r3 = 0 then (mX11_markAbove_39 (mX11_markAbove_2 n) S x1 x2 0 x2)
  else (mX11_markAbove_34 (mX11_markAbove_2 n) S x1 x2 x2))
  else (mX11_markAbove_34 (mX11_markAbove_2 n) S x1 x2 x2))
theorem wX11_markAbove_2 {κ : KT} {g : GT} (C : CX κ g RX11 cX11_markAbove 3 none 3 64) : ∀ (n : Nat) (S : St) (x1 : Int32) (x2 : Int32), J κ g 3 (fun a : St => (none, a)) S 2 [(0, .ref (gad g 0)), (1, .int x1), (2, .int x2)] [] (mX11_markAbove_2 n S x1 x2) := by
  intro n
  induction n with
  | zero => intro S x1 x2; exact j_none
  | succ n ih =>
    intro S x1 x2
    rw [mX11_markAbove_2]
    refine j_iload_n C 2 rfl dX11_markAbove_2 rfl ?_
    refine j_sipush C (v := 2401) (by decide) dX11_markAbove_3 ?_
    refine j_icmp_ge C 46 dX11_markAbove_6 (by decide) ?_ ?_
    · exact j_vret C rfl dX11_markAbove_46
    · refine j_aload_n C 0 rfl dX11_markAbove_9 rfl ?_
      refine j_getR C (x := 4) fl_X11_19 sh_0 rfl rfl dX11_markAbove_10 ?_
      refine j_iload_n C 2 rfl dX11_markAbove_13 rfl ?_
      refine j_aload_n C 0 rfl dX11_markAbove_14 rfl ?_
      refine j_getR C (x := 4) fl_X11_19 sh_0 rfl rfl dX11_markAbove_15 ?_
      refine j_iload_n C 2 rfl dX11_markAbove_18 rfl ?_
      refine j_zald C sh_4 rfl dX11_markAbove_19 (fun j1 => ?_)
      refine j_if_ne C 34 dX11_markAbove_20 (by decide) ?_ ?_
      · exact wX11_markAbove_34 C (mX11_markAbove_2 n) ih S x1 x2 x2
      · refine j_iload_n C 1 rfl dX11_markAbove_23 rfl ?_
        refine j_iload_n C 2 rfl dX11_markAbove_24 rfl ?_
        refine j_callSi C [.int x2] [.int x1, .int x2, .ref (gad g 4)] ms_X11_93 (fun _ h => ctX11_codeAt h) ⟨(Nat.le_of_ble_eq_true rfl), (Nat.le_of_ble_eq_true rfl)⟩ (Nat.le_of_ble_eq_true rfl) dX11_markAbove_25 rfl (fun r2 => ?_)
        refine j_callSi C [.int x1, .int r2] [.int x2, .ref (gad g 4)] ms_X11_89 (fun _ h => ctX11_divides h) ⟨(Nat.le_of_ble_eq_true rfl), (Nat.le_of_ble_eq_true rfl)⟩ (Nat.le_of_ble_eq_true rfl) dX11_markAbove_28 rfl (fun r3 => ?_)
        refine j_if_eq C 38 dX11_markAbove_31 (by decide) ?_ ?_
        · refine j_iconst C (v := 0) (by decide) dX11_markAbove_38 ?_
          exact wX11_markAbove_39 C (mX11_markAbove_2 n) ih S x1 x2 0 x2
        · exact wX11_markAbove_34 C (mX11_markAbove_2 n) ih S x1 x2 x2
def mX11_markAbove (S : St) (a0 : Int32) : Option (St) := mX11_markAbove_2 FU S a0 0
theorem wX11_markAbove {κ : KT} {g : GT} (C : CX κ g RX11 cX11_markAbove 3 none 3 64) (S : St) (a0 : Int32) : J κ g 3 (fun a : St => (none, a)) S 0 [(0, .ref (gad g 0)), (1, .int a0)] [] (mX11_markAbove S a0) := by
  unfold mX11_markAbove
  refine j_iconst C (v := 0) (by decide) dX11_markAbove_0 ?_
  refine j_istore_n C (xs1 := [(0, .ref (gad g 0)), (1, .int a0), (2, .int 0)]) dX11_markAbove_1 rfl (by decide) rfl ?_
  exact wX11_markAbove_2 C FU S a0 0
theorem ctX11_markAbove {l : Launch} {g : GT} {S : St} {a0 : Int32} {out : St} (ho : mX11_markAbove S a0 = some out) : CT l yX11_markAbove cX11_markAbove 3 none 3 64 [.ref (gad g 0), .int a0] g S ((fun a : St => (none, a)) out) := CT_of (φ := (fun a : St => (none, a))) [.ref (gad g 0), .int a0] ho (by decide) (Nat.le_of_ble_eq_true rfl) (xs := [(0, .ref (gad g 0)), (1, .int a0)]) rfl (fun κ C => wX11_markAbove C S a0)
/-! StairIdealsModel.clear()V -/
def mX11_clear_2 : Nat → St → Int32 → Option (St)
  | 0, _, _ => none
  | n + 1, S, x1 => if 2401 ≤ x1 then (some S)
  else (inb 2401 x1 fun j1 => bnd (x1 + 1) fun v2 => mX11_clear_2 n (sA S 4 j1 0) v2)
theorem wX11_clear_2 {κ : KT} {g : GT} (C : CX κ g RX11 cX11_clear 2 none 0 0) : ∀ (n : Nat) (S : St) (x1 : Int32), J κ g 2 (fun a : St => (none, a)) S 2 [(0, .ref (gad g 0)), (1, .int x1)] [] (mX11_clear_2 n S x1) := by
  intro n
  induction n with
  | zero => intro S x1; exact j_none
  | succ n ih =>
    intro S x1
    rw [mX11_clear_2]
    refine j_iload_n C 1 rfl dX11_clear_2 rfl ?_
    refine j_sipush C (v := 2401) (by decide) dX11_clear_3 ?_
    refine j_icmp_ge C 22 dX11_clear_6 (by decide) ?_ ?_
    · exact j_vret C rfl dX11_clear_22
    · refine j_aload_n C 0 rfl dX11_clear_9 rfl ?_
      refine j_getR C (x := 4) fl_X11_19 sh_0 rfl rfl dX11_clear_10 ?_
      refine j_iload_n C 1 rfl dX11_clear_13 rfl ?_
      refine j_iconst C (v := 0) (by decide) dX11_clear_14 ?_
      refine j_zast C sh_4 rfl (by decide) dX11_clear_15 (fun j1 => ?_)
      refine j_iinc C (xs2 := fun v2 => [(0, .ref (gad g 0)), (1, .int v2)]) 1 rfl dX11_clear_16 (by decide) (by decide) (fun _ => rfl) (fun v2 => ?_)
      refine j_goto C 2 dX11_clear_19 (by decide) ?_
      exact ih (sA S 4 j1 0) v2
def mX11_clear (S : St) : Option (St) := mX11_clear_2 FU S 0
theorem wX11_clear {κ : KT} {g : GT} (C : CX κ g RX11 cX11_clear 2 none 0 0) (S : St) : J κ g 2 (fun a : St => (none, a)) S 0 [(0, .ref (gad g 0))] [] (mX11_clear S) := by
  unfold mX11_clear
  refine j_iconst C (v := 0) (by decide) dX11_clear_0 ?_
  refine j_istore_n C (xs1 := [(0, .ref (gad g 0)), (1, .int 0)]) dX11_clear_1 rfl (by decide) rfl ?_
  exact wX11_clear_2 C FU S 0
theorem ctX11_clear {l : Launch} {g : GT} {S : St} {out : St} (ho : mX11_clear S = some out) : CT l yX11_clear cX11_clear 2 none 0 0 [.ref (gad g 0)] g S ((fun a : St => (none, a)) out) := CT_of (φ := (fun a : St => (none, a))) [.ref (gad g 0)] ho (by decide) (Nat.le_of_ble_eq_true rfl) (xs := [(0, .ref (gad g 0))]) rfl (fun κ C => wX11_clear C S)
/-! StairIdealsModel.say(I)I -/
def mX11_say (S : St) (a0 : Int32) : Option (Int32 × St) := (mX11_in a0.toInt64 33 126).bind fun r1 => if r1 = 0 then (some ((-2), S))
  else (if (gI S 0 5) = 60 then (some ((-4), S))
  else (inb 60 (gI S 0 5) fun j2 => some (gI (sI (sA S 5 j2 a0) 0 5 ((gI (sA S 5 j2 a0) 0 5) + 1)) 0 5, (sI (sA S 5 j2 a0) 0 5 ((gI (sA S 5 j2 a0) 0 5) + 1)))))
theorem wX11_say {κ : KT} {g : GT} (C : CX κ g RX11 cX11_say 2 (some .int) 1 25) (S : St) (a0 : Int32) : J κ g 2 (fun a : Int32 × St => (some (Value.int a.1), a.2)) S 0 [(0, .ref (gad g 0)), (1, .int a0)] [] (mX11_say S a0) := by
  unfold mX11_say
  refine j_iload_n C 1 rfl dX11_say_0 rfl ?_
  refine j_i2l C dX11_say_1 ?_
  refine j_ldc2 C (v := 33) wd_830 dX11_say_2 ?_
  refine j_ldc2 C (v := 126) wd_831 dX11_say_5 ?_
  refine j_callSi C [.long a0.toInt64, .long 33, .long 126] [] ms_X11_64 (fun _ h => ctX11_in h) ⟨(Nat.le_of_ble_eq_true rfl), (Nat.le_of_ble_eq_true rfl)⟩ (Nat.le_of_ble_eq_true rfl) dX11_say_8 rfl (fun r1 => ?_)
  refine j_if_ne C 17 dX11_say_11 (by decide) ?_ ?_
  · refine j_aload_n C 0 rfl dX11_say_17 rfl ?_
    refine j_getI C fl_X11_107 sh_0 rfl rfl dX11_say_18 ?_
    refine j_bipush C (v := 60) (by decide) dX11_say_21 ?_
    refine j_icmp_ne C 29 dX11_say_23 (by decide) ?_ ?_
    · refine j_aload_n C 0 rfl dX11_say_29 rfl ?_
      refine j_getR C (x := 5) fl_X11_23 sh_0 rfl rfl dX11_say_30 ?_
      refine j_aload_n C 0 rfl dX11_say_33 rfl ?_
      refine j_getI C fl_X11_107 sh_0 rfl rfl dX11_say_34 ?_
      refine j_iload_n C 1 rfl dX11_say_37 rfl ?_
      refine j_iast C sh_5 rfl dX11_say_38 (fun j2 => ?_)
      refine j_aload_n C 0 rfl dX11_say_39 rfl ?_
      refine j_dup C rfl dX11_say_40 ?_
      refine j_getI C fl_X11_107 sh_0 rfl rfl dX11_say_41 ?_
      refine j_iconst C (v := 1) (by decide) dX11_say_44 ?_
      refine j_iadd C dX11_say_45 ?_
      refine j_putI C fp_X11_107 sh_0 rfl rfl rfl rfl dX11_say_46 ?_
      refine j_aload_n C 0 rfl dX11_say_49 rfl ?_
      refine j_getI C fl_X11_107 sh_0 rfl rfl dX11_say_50 ?_
      exact j_iret C rfl dX11_say_53
    · refine j_bipush C (v := (-4)) (by decide) dX11_say_26 ?_
      exact j_iret C rfl dX11_say_28
  · refine j_bipush C (v := (-2)) (by decide) dX11_say_14 ?_
    exact j_iret C rfl dX11_say_16
theorem ctX11_say {l : Launch} {g : GT} {S : St} {a0 : Int32} {out : Int32 × St} (ho : mX11_say S a0 = some out) : CT l yX11_say cX11_say 2 (some .int) 1 25 [.ref (gad g 0), .int a0] g S ((fun a : Int32 × St => (some (Value.int a.1), a.2)) out) := CT_of (φ := (fun a : Int32 × St => (some (Value.int a.1), a.2))) [.ref (gad g 0), .int a0] ho (by decide) (Nat.le_of_ble_eq_true rfl) (xs := [(0, .ref (gad g 0)), (1, .int a0)]) rfl (fun κ C => wX11_say C S a0)
/-! StairIdealsModel.wipe()I -/
def mX11_wipe (S : St) : Option (Int32 × St) := bnd (gI S 0 5) fun v1 => some (v1, (sI S 0 5 0))
theorem wX11_wipe {κ : KT} {g : GT} (C : CX κ g RX11 cX11_wipe 2 (some .int) 0 0) (S : St) : J κ g 2 (fun a : Int32 × St => (some (Value.int a.1), a.2)) S 0 [(0, .ref (gad g 0))] [] (mX11_wipe S) := by
  unfold mX11_wipe
  refine j_aload_n C 0 rfl dX11_wipe_0 rfl ?_
  refine j_getI C fl_X11_107 sh_0 rfl rfl dX11_wipe_1 ?_
  refine j_topi (fun v1 => ?_)
  refine j_istore_n C (xs1 := [(0, .ref (gad g 0)), (1, .int v1)]) dX11_wipe_4 rfl (by decide) rfl ?_
  refine j_aload_n C 0 rfl dX11_wipe_5 rfl ?_
  refine j_iconst C (v := 0) (by decide) dX11_wipe_6 ?_
  refine j_putI C fp_X11_107 sh_0 rfl rfl rfl rfl dX11_wipe_7 ?_
  refine j_iload_n C 1 rfl dX11_wipe_10 rfl ?_
  exact j_iret C rfl dX11_wipe_11
theorem ctX11_wipe {l : Launch} {g : GT} {S : St} {out : Int32 × St} (ho : mX11_wipe S = some out) : CT l yX11_wipe cX11_wipe 2 (some .int) 0 0 [.ref (gad g 0)] g S ((fun a : Int32 × St => (some (Value.int a.1), a.2)) out) := CT_of (φ := (fun a : Int32 × St => (some (Value.int a.1), a.2))) [.ref (gad g 0)] ho (by decide) (Nat.le_of_ble_eq_true rfl) (xs := [(0, .ref (gad g 0))]) rfl (fun κ C => wX11_wipe C S)
/-! StairIdealsModel.goOn(II)I -/
def mX11_goOn_218 (S : St) (x3 : Int32) (s0 : Int32) (s1 : Int32) (s2 : Int32) : Option (Int32 × St) := inb 60 s2 fun j1 => if x3 = 0 then (some ((-6), (sA S 6 j1 (s1 + s0))))
  else (some (1, (sA S 6 j1 (s1 + s0))))
theorem wX11_goOn_218 {κ : KT} {g : GT} (C : CX κ g RX11 cX11_goOn 4 (some .int) 2 41) (S : St) (x3 : Int32) (s0 : Int32) (s1 : Int32) (s2 : Int32) : J κ g 4 (fun a : Int32 × St => (some (Value.int a.1), a.2)) S 218 [(3, .int x3)] [.int s0, .int s1, .int s2, .ref (gad g 6)] (mX11_goOn_218 S x3 s0 s1 s2) := by
  unfold mX11_goOn_218
  refine j_iadd C dX11_goOn_218 ?_
  refine j_iast C sh_6 rfl dX11_goOn_219 (fun j1 => ?_)
  refine j_iload_n C 0 rfl dX11_goOn_220 rfl ?_
  refine j_if_eq C 228 dX11_goOn_221 (by decide) ?_ ?_
  · refine j_bipush C (v := (-6)) (by decide) dX11_goOn_228 ?_
    exact j_iret C rfl dX11_goOn_230
  · refine j_iconst C (v := 1) (by decide) dX11_goOn_224 ?_
    refine j_goto C 230 dX11_goOn_225 (by decide) ?_
    exact j_iret C rfl dX11_goOn_230
def mX11_goOn_187 (S : St) (x2 : Int32) (s0 : Int32) : Option (Int32 × St) := inb 60 (gI S 0 7) fun j1 => if s0 = 0 then (mX11_goOn_218 S s0 0 (gA S 6 j1) (gI S 0 7))
  else ((mX11_ten (gI S 0 8)).bind fun r2 => mX11_goOn_218 S s0 (r2 * (x2 - 49)) (gA S 6 j1) (gI S 0 7))
theorem wX11_goOn_187 {κ : KT} {g : GT} (C : CX κ g RX11 cX11_goOn 4 (some .int) 2 41) (S : St) (x2 : Int32) (s0 : Int32) : J κ g 4 (fun a : Int32 × St => (some (Value.int a.1), a.2)) S 187 [(0, .ref (gad g 0)), (2, .int x2)] [.int s0] (mX11_goOn_187 S x2 s0) := by
  unfold mX11_goOn_187
  refine j_istore_n C (xs1 := [(0, .ref (gad g 0)), (2, .int x2), (3, .int s0)]) dX11_goOn_187 rfl (by decide) rfl ?_
  refine j_aload_n C 0 rfl dX11_goOn_188 rfl ?_
  refine j_getR C (x := 6) fl_X11_26 sh_0 rfl rfl dX11_goOn_189 ?_
  refine j_aload_n C 0 rfl dX11_goOn_192 rfl ?_
  refine j_getI C fl_X11_111 sh_0 rfl rfl dX11_goOn_193 ?_
  refine j_dup2_11 C rfl rfl dX11_goOn_196 ?_
  refine j_iald C sh_6 rfl dX11_goOn_197 (fun j1 => ?_)
  refine j_iload_n C 2 rfl dX11_goOn_198 rfl ?_
  refine j_if_eq C 217 dX11_goOn_199 (by decide) ?_ ?_
  · refine j_iconst C (v := 0) (by decide) dX11_goOn_217 ?_
    refine j_sub (xs1 := [(3, .int s0)]) [2] rfl ?_
    exact wX11_goOn_218 C S s0 0 (gA S 6 j1) (gI S 0 7)
  · refine j_aload_n C 0 rfl dX11_goOn_202 rfl ?_
    refine j_getI C fl_X11_118 sh_0 rfl rfl dX11_goOn_203 ?_
    refine j_callSi C [.int (gI S 0 8)] [.int (gA S 6 j1), .int (gI S 0 7), .ref (gad g 6)] ms_X11_70 (fun _ h => ctX11_ten h) ⟨(Nat.le_of_ble_eq_true rfl), (Nat.le_of_ble_eq_true rfl)⟩ (Nat.le_of_ble_eq_true rfl) dX11_goOn_206 rfl (fun r2 => ?_)
    refine j_iload_n C 1 rfl dX11_goOn_209 rfl ?_
    refine j_bipush C (v := 49) (by decide) dX11_goOn_210 ?_
    refine j_isub C dX11_goOn_212 ?_
    refine j_imul C dX11_goOn_213 ?_
    refine j_goto C 218 dX11_goOn_214 (by decide) ?_
    refine j_sub (xs1 := [(3, .int s0)]) [2] rfl ?_
    exact wX11_goOn_218 C S s0 (r2 * (x2 - 49)) (gA S 6 j1) (gI S 0 7)
def mX11_goOn_186 (S : St) (x2 : Int32) : Option (Int32 × St) := mX11_goOn_187 S x2 0
theorem wX11_goOn_186 {κ : KT} {g : GT} (C : CX κ g RX11 cX11_goOn 4 (some .int) 2 41) (S : St) (x2 : Int32) : J κ g 4 (fun a : Int32 × St => (some (Value.int a.1), a.2)) S 186 [(0, .ref (gad g 0)), (2, .int x2)] [] (mX11_goOn_186 S x2) := by
  unfold mX11_goOn_186
  refine j_iconst C (v := 0) (by decide) dX11_goOn_186 ?_
  exact wX11_goOn_187 C S x2 0
def mX11_goOn_135 (S : St) (x1 : Int32) (x2 : Int32) : Option (Int32 × St) := if x1 = 2 then ((mX11_in x2.toInt64 49 54).bind fun r1 => if r1 = 0 then (mX11_goOn_186 S x2)
  else (inb 60 (gI S 0 7) fun j2 => (mX11_power (gA S 6 j2) (gI S 0 8)).bind fun r3 => if 6 < (((r3 - 1) + x2) - 48) then (mX11_goOn_186 S x2)
  else (mX11_goOn_187 S x2 1)))
  else (mX11_goOn_186 S x2)
theorem wX11_goOn_135 {κ : KT} {g : GT} (C : CX κ g RX11 cX11_goOn 4 (some .int) 2 41) (S : St) (x1 : Int32) (x2 : Int32) : J κ g 4 (fun a : Int32 × St => (some (Value.int a.1), a.2)) S 135 [(0, .ref (gad g 0)), (1, .int x1), (2, .int x2)] [] (mX11_goOn_135 S x1 x2) := by
  unfold mX11_goOn_135
  refine j_iload_n C 1 rfl dX11_goOn_135 rfl ?_
  refine j_iconst C (v := 2) (by decide) dX11_goOn_136 ?_
  refine j_icmp_ne C 186 dX11_goOn_137 (by decide) ?_ ?_
  · refine j_sub (xs1 := [(0, .ref (gad g 0)), (2, .int x2)]) [0, 2] rfl ?_
    exact wX11_goOn_186 C S x2
  · refine j_iload_n C 2 rfl dX11_goOn_140 rfl ?_
    refine j_i2l C dX11_goOn_141 ?_
    refine j_ldc2 C (v := 49) wd_855 dX11_goOn_142 ?_
    refine j_ldc2 C (v := 54) wd_856 dX11_goOn_145 ?_
    refine j_callSi C [.long x2.toInt64, .long 49, .long 54] [] ms_X11_64 (fun _ h => ctX11_in h) ⟨(Nat.le_of_ble_eq_true rfl), (Nat.le_of_ble_eq_true rfl)⟩ (Nat.le_of_ble_eq_true rfl) dX11_goOn_148 rfl (fun r1 => ?_)
    refine j_if_eq C 186 dX11_goOn_151 (by decide) ?_ ?_
    · refine j_sub (xs1 := [(0, .ref (gad g 0)), (2, .int x2)]) [0, 2] rfl ?_
      exact wX11_goOn_186 C S x2
    · refine j_aload_n C 0 rfl dX11_goOn_154 rfl ?_
      refine j_getR C (x := 6) fl_X11_26 sh_0 rfl rfl dX11_goOn_155 ?_
      refine j_aload_n C 0 rfl dX11_goOn_158 rfl ?_
      refine j_getI C fl_X11_111 sh_0 rfl rfl dX11_goOn_159 ?_
      refine j_iald C sh_6 rfl dX11_goOn_162 (fun j2 => ?_)
      refine j_aload_n C 0 rfl dX11_goOn_163 rfl ?_
      refine j_getI C fl_X11_118 sh_0 rfl rfl dX11_goOn_164 ?_
      refine j_callSi C [.int (gA S 6 j2), .int (gI S 0 8)] [] ms_X11_76 (fun _ h => ctX11_power h) ⟨(Nat.le_of_ble_eq_true rfl), (Nat.le_of_ble_eq_true rfl)⟩ (Nat.le_of_ble_eq_true rfl) dX11_goOn_167 rfl (fun r3 => ?_)
      refine j_iconst C (v := 1) (by decide) dX11_goOn_170 ?_
      refine j_isub C dX11_goOn_171 ?_
      refine j_iload_n C 2 rfl dX11_goOn_172 rfl ?_
      refine j_iadd C dX11_goOn_173 ?_
      refine j_bipush C (v := 48) (by decide) dX11_goOn_174 ?_
      refine j_isub C dX11_goOn_176 ?_
      refine j_bipush C (v := 6) (by decide) dX11_goOn_177 ?_
      refine j_icmp_gt C 186 dX11_goOn_179 (by decide) ?_ ?_
      · refine j_sub (xs1 := [(0, .ref (gad g 0)), (2, .int x2)]) [0, 2] rfl ?_
        exact wX11_goOn_186 C S x2
      · refine j_iconst C (v := 1) (by decide) dX11_goOn_182 ?_
        refine j_goto C 187 dX11_goOn_183 (by decide) ?_
        refine j_sub (xs1 := [(0, .ref (gad g 0)), (2, .int x2)]) [0, 2] rfl ?_
        exact wX11_goOn_187 C S x2 1
def mX11_goOn_61 (S : St) (x1 : Int32) (x2 : Int32) : Option (Int32 × St) := (mX11_in x2.toInt64 97 100).bind fun r1 => if r1 = 0 then (mX11_goOn_135 S x1 x2)
  else (if x1 = 3 then (mX11_goOn_135 S x1 x2)
  else (inb 60 (gI (sI S 0 8 (x2 - 97)) 0 7) fun j2 => (mX11_ten (gI (sI S 0 8 (x2 - 97)) 0 8)).bind fun r3 => inb 60 (gI (sI S 0 8 (x2 - 97)) 0 7) fun j4 => inb 60 (gI (sA (sI S 0 8 (x2 - 97)) 6 j4 ((gA (sI S 0 8 (x2 - 97)) 6 j2) + r3)) 0 7) fun j5 => (mX11_power (gA (sA (sI S 0 8 (x2 - 97)) 6 j4 ((gA (sI S 0 8 (x2 - 97)) 6 j2) + r3)) 6 j5) (gI (sA (sI S 0 8 (x2 - 97)) 6 j4 ((gA (sI S 0 8 (x2 - 97)) 6 j2) + r3)) 0 8)).bind fun r6 => if r6 ≤ 6 then (some (2, (sA (sI S 0 8 (x2 - 97)) 6 j4 ((gA (sI S 0 8 (x2 - 97)) 6 j2) + r3))))
  else (some ((-6), (sA (sI S 0 8 (x2 - 97)) 6 j4 ((gA (sI S 0 8 (x2 - 97)) 6 j2) + r3))))))
theorem wX11_goOn_61 {κ : KT} {g : GT} (C : CX κ g RX11 cX11_goOn 4 (some .int) 2 41) (S : St) (x1 : Int32) (x2 : Int32) : J κ g 4 (fun a : Int32 × St => (some (Value.int a.1), a.2)) S 61 [(0, .ref (gad g 0)), (1, .int x1), (2, .int x2)] [] (mX11_goOn_61 S x1 x2) := by
  unfold mX11_goOn_61
  refine j_iload_n C 2 rfl dX11_goOn_61 rfl ?_
  refine j_i2l C dX11_goOn_62 ?_
  refine j_ldc2 C (v := 97) wd_847 dX11_goOn_63 ?_
  refine j_ldc2 C (v := 100) wd_848 dX11_goOn_66 ?_
  refine j_callSi C [.long x2.toInt64, .long 97, .long 100] [] ms_X11_64 (fun _ h => ctX11_in h) ⟨(Nat.le_of_ble_eq_true rfl), (Nat.le_of_ble_eq_true rfl)⟩ (Nat.le_of_ble_eq_true rfl) dX11_goOn_69 rfl (fun r1 => ?_)
  refine j_if_eq C 135 dX11_goOn_72 (by decide) ?_ ?_
  · exact wX11_goOn_135 C S x1 x2
  · refine j_iload_n C 1 rfl dX11_goOn_75 rfl ?_
    refine j_iconst C (v := 3) (by decide) dX11_goOn_76 ?_
    refine j_icmp_eq C 135 dX11_goOn_77 (by decide) ?_ ?_
    · exact wX11_goOn_135 C S x1 x2
    · refine j_aload_n C 0 rfl dX11_goOn_80 rfl ?_
      refine j_iload_n C 2 rfl dX11_goOn_81 rfl ?_
      refine j_bipush C (v := 97) (by decide) dX11_goOn_82 ?_
      refine j_isub C dX11_goOn_84 ?_
      refine j_putI C fp_X11_118 sh_0 rfl rfl rfl rfl dX11_goOn_85 ?_
      refine j_aload_n C 0 rfl dX11_goOn_88 rfl ?_
      refine j_getR C (x := 6) fl_X11_26 sh_0 rfl rfl dX11_goOn_89 ?_
      refine j_aload_n C 0 rfl dX11_goOn_92 rfl ?_
      refine j_getI C fl_X11_111 sh_0 rfl rfl dX11_goOn_93 ?_
      refine j_dup2_11 C rfl rfl dX11_goOn_96 ?_
      refine j_iald C sh_6 rfl dX11_goOn_97 (fun j2 => ?_)
      refine j_aload_n C 0 rfl dX11_goOn_98 rfl ?_
      refine j_getI C fl_X11_118 sh_0 rfl rfl dX11_goOn_99 ?_
      refine j_callSi C [.int (gI (sI S 0 8 (x2 - 97)) 0 8)] [.int (gA (sI S 0 8 (x2 - 97)) 6 j2), .int (gI (sI S 0 8 (x2 - 97)) 0 7), .ref (gad g 6)] ms_X11_70 (fun _ h => ctX11_ten h) ⟨(Nat.le_of_ble_eq_true rfl), (Nat.le_of_ble_eq_true rfl)⟩ (Nat.le_of_ble_eq_true rfl) dX11_goOn_102 rfl (fun r3 => ?_)
      refine j_iadd C dX11_goOn_105 ?_
      refine j_iast C sh_6 rfl dX11_goOn_106 (fun j4 => ?_)
      refine j_aload_n C 0 rfl dX11_goOn_107 rfl ?_
      refine j_getR C (x := 6) fl_X11_26 sh_0 rfl rfl dX11_goOn_108 ?_
      refine j_aload_n C 0 rfl dX11_goOn_111 rfl ?_
      refine j_getI C fl_X11_111 sh_0 rfl rfl dX11_goOn_112 ?_
      refine j_iald C sh_6 rfl dX11_goOn_115 (fun j5 => ?_)
      refine j_aload_n C 0 rfl dX11_goOn_116 rfl ?_
      refine j_getI C fl_X11_118 sh_0 rfl rfl dX11_goOn_117 ?_
      refine j_callSi C [.int (gA (sA (sI S 0 8 (x2 - 97)) 6 j4 ((gA (sI S 0 8 (x2 - 97)) 6 j2) + r3)) 6 j5), .int (gI (sA (sI S 0 8 (x2 - 97)) 6 j4 ((gA (sI S 0 8 (x2 - 97)) 6 j2) + r3)) 0 8)] [] ms_X11_76 (fun _ h => ctX11_power h) ⟨(Nat.le_of_ble_eq_true rfl), (Nat.le_of_ble_eq_true rfl)⟩ (Nat.le_of_ble_eq_true rfl) dX11_goOn_120 rfl (fun r6 => ?_)
      refine j_bipush C (v := 6) (by decide) dX11_goOn_123 ?_
      refine j_icmp_le C 133 dX11_goOn_125 (by decide) ?_ ?_
      · refine j_iconst C (v := 2) (by decide) dX11_goOn_133 ?_
        exact j_iret C rfl dX11_goOn_134
      · refine j_bipush C (v := (-6)) (by decide) dX11_goOn_128 ?_
        refine j_goto C 134 dX11_goOn_130 (by decide) ?_
        exact j_iret C rfl dX11_goOn_134
def mX11_goOn_49 (S : St) (x1 : Int32) (x2 : Int32) : Option (Int32 × St) := if x2 = 49 then (if x1 = 0 then (some (3, S))
  else (mX11_goOn_61 S x1 x2))
  else (mX11_goOn_61 S x1 x2)
theorem wX11_goOn_49 {κ : KT} {g : GT} (C : CX κ g RX11 cX11_goOn 4 (some .int) 2 41) (S : St) (x1 : Int32) (x2 : Int32) : J κ g 4 (fun a : Int32 × St => (some (Value.int a.1), a.2)) S 49 [(0, .ref (gad g 0)), (1, .int x1), (2, .int x2)] [] (mX11_goOn_49 S x1 x2) := by
  unfold mX11_goOn_49
  refine j_iload_n C 2 rfl dX11_goOn_49 rfl ?_
  refine j_bipush C (v := 49) (by decide) dX11_goOn_50 ?_
  refine j_icmp_ne C 61 dX11_goOn_52 (by decide) ?_ ?_
  · exact wX11_goOn_61 C S x1 x2
  · refine j_iload_n C 1 rfl dX11_goOn_55 rfl ?_
    refine j_if_ne C 61 dX11_goOn_56 (by decide) ?_ ?_
    · exact wX11_goOn_61 C S x1 x2
    · refine j_iconst C (v := 3) (by decide) dX11_goOn_59 ?_
      exact j_iret C rfl dX11_goOn_60
def mX11_goOn_20 (S : St) (x1 : Int32) (s0 : Int32) (s1 : Int32) : Option (Int32 × St) := if x1 = 0 then (some ((-6), (sI S 0 7 (s1 + s0))))
  else (some (0, (sI S 0 7 (s1 + s0))))
theorem wX11_goOn_20 {κ : KT} {g : GT} (C : CX κ g RX11 cX11_goOn 4 (some .int) 2 41) (S : St) (x1 : Int32) (s0 : Int32) (s1 : Int32) : J κ g 4 (fun a : Int32 × St => (some (Value.int a.1), a.2)) S 20 [(1, .int x1)] [.int s0, .int s1, .ref (gad g 0)] (mX11_goOn_20 S x1 s0 s1) := by
  unfold mX11_goOn_20
  refine j_iadd C dX11_goOn_20 ?_
  refine j_putI C fp_X11_111 sh_0 rfl rfl rfl rfl dX11_goOn_21 ?_
  refine j_iload_n C 0 rfl dX11_goOn_24 rfl ?_
  refine j_if_ne C 33 dX11_goOn_25 (by decide) ?_ ?_
  · refine j_iconst C (v := 0) (by decide) dX11_goOn_33 ?_
    exact j_iret C rfl dX11_goOn_34
  · refine j_bipush C (v := (-6)) (by decide) dX11_goOn_28 ?_
    refine j_goto C 34 dX11_goOn_30 (by decide) ?_
    exact j_iret C rfl dX11_goOn_34
def mX11_goOn (S : St) (a0 : Int32) (a1 : Int32) : Option (Int32 × St) := if a1 = 44 then (if a0 = 0 then (mX11_goOn_20 S a0 0 (gI S 0 7))
  else (mX11_goOn_20 S a0 1 (gI S 0 7)))
  else (if a0 = 0 then (inb 60 (gI S 0 7) fun j1 => mX11_goOn_49 (sA S 6 j1 0) a0 a1)
  else (mX11_goOn_49 S a0 a1))
theorem wX11_goOn {κ : KT} {g : GT} (C : CX κ g RX11 cX11_goOn 4 (some .int) 2 41) (S : St) (a0 : Int32) (a1 : Int32) : J κ g 4 (fun a : Int32 × St => (some (Value.int a.1), a.2)) S 0 [(0, .ref (gad g 0)), (1, .int a0), (2, .int a1)] [] (mX11_goOn S a0 a1) := by
  unfold mX11_goOn
  refine j_iload_n C 2 rfl dX11_goOn_0 rfl ?_
  refine j_bipush C (v := 44) (by decide) dX11_goOn_1 ?_
  refine j_icmp_ne C 35 dX11_goOn_3 (by decide) ?_ ?_
  · refine j_iload_n C 1 rfl dX11_goOn_35 rfl ?_
    refine j_if_ne C 49 dX11_goOn_36 (by decide) ?_ ?_
    · exact wX11_goOn_49 C S a0 a1
    · refine j_aload_n C 0 rfl dX11_goOn_39 rfl ?_
      refine j_getR C (x := 6) fl_X11_26 sh_0 rfl rfl dX11_goOn_40 ?_
      refine j_aload_n C 0 rfl dX11_goOn_43 rfl ?_
      refine j_getI C fl_X11_111 sh_0 rfl rfl dX11_goOn_44 ?_
      refine j_iconst C (v := 0) (by decide) dX11_goOn_47 ?_
      refine j_iast C sh_6 rfl dX11_goOn_48 (fun j1 => ?_)
      exact wX11_goOn_49 C (sA S 6 j1 0) a0 a1
  · refine j_aload_n C 0 rfl dX11_goOn_6 rfl ?_
    refine j_dup C rfl dX11_goOn_7 ?_
    refine j_getI C fl_X11_111 sh_0 rfl rfl dX11_goOn_8 ?_
    refine j_iload_n C 1 rfl dX11_goOn_11 rfl ?_
    refine j_if_ne C 19 dX11_goOn_12 (by decide) ?_ ?_
    · refine j_iconst C (v := 1) (by decide) dX11_goOn_19 ?_
      refine j_sub (xs1 := [(1, .int a0)]) [1] rfl ?_
      exact wX11_goOn_20 C S a0 1 (gI S 0 7)
    · refine j_iconst C (v := 0) (by decide) dX11_goOn_15 ?_
      refine j_goto C 20 dX11_goOn_16 (by decide) ?_
      refine j_sub (xs1 := [(1, .int a0)]) [1] rfl ?_
      exact wX11_goOn_20 C S a0 0 (gI S 0 7)
theorem ctX11_goOn {l : Launch} {g : GT} {S : St} {a0 : Int32} {a1 : Int32} {out : Int32 × St} (ho : mX11_goOn S a0 a1 = some out) : CT l yX11_goOn cX11_goOn 4 (some .int) 2 41 [.ref (gad g 0), .int a0, .int a1] g S ((fun a : Int32 × St => (some (Value.int a.1), a.2)) out) := CT_of (φ := (fun a : Int32 × St => (some (Value.int a.1), a.2))) [.ref (gad g 0), .int a0, .int a1] ho (by decide) (Nat.le_of_ble_eq_true rfl) (xs := [(0, .ref (gad g 0)), (1, .int a0), (2, .int a1)]) rfl (fun κ C => wX11_goOn C S a0 a1)
