/-! StairIdeals$Survey.partCode(I)I -/
def mX7_partCode_40 (S : St) (k4 : Int32 → Int32 → Option (Int32)) (x2 : Int32) (x3 : Int32) : Option (Int32) := bnd (x3 + 1) fun v1 => k4 x2 v1
theorem wX7_partCode_40 {κ : KT} {g : GT} (C : CX κ g RX7 cX7_partCode 5 (some .int) 3 68) (S : St) (k4 : Int32 → Int32 → Option (Int32)) (hk4 : ∀ (x2 : Int32) (x3 : Int32), J κ g 5 (fun a : Int32 => (some (Value.int a), S)) S 4 [(0, .ref (gad g 24)), (2, .int x2), (3, .int x3)] [] (k4 x2 x3)) (x2 : Int32) (x3 : Int32) : J κ g 5 (fun a : Int32 => (some (Value.int a), S)) S 40 [(0, .ref (gad g 24)), (2, .int x2), (3, .int x3)] [] (mX7_partCode_40 S k4 x2 x3) := by
  unfold mX7_partCode_40
  refine j_iinc C (xs2 := fun v1 => [(0, .ref (gad g 24)), (2, .int x2), (3, .int v1)]) 2 rfl dX7_partCode_40 (by decide) (by decide) (fun _ => rfl) (fun v1 => ?_)
  refine j_goto C 4 dX7_partCode_43 (by decide) ?_
  exact hk4 x2 v1
def mX7_partCode_4 (S : St) : Nat → Int32 → Int32 → Option (Int32)
  | 0, _, _ => none
  | n + 1, x2, x3 => if 343 ≤ x3 then (some (-6))
  else ((mX6_partAt S 59 x3).bind fun r1 => if r1 = (-1) then (mX7_partCode_40 S (mX7_partCode_4 S n) x2 x3)
  else (if x2 = 0 then ((mX3_toCode r1).bind fun r3 => some r3)
  else (bnd (x2 + (-1)) fun v2 => mX7_partCode_40 S (mX7_partCode_4 S n) v2 x3)))
theorem wX7_partCode_4 {κ : KT} {g : GT} (C : CX κ g RX7 cX7_partCode 5 (some .int) 3 68) (S : St) : ∀ (n : Nat) (x2 : Int32) (x3 : Int32), J κ g 5 (fun a : Int32 => (some (Value.int a), S)) S 4 [(0, .ref (gad g 24)), (2, .int x2), (3, .int x3)] [] (mX7_partCode_4 S n x2 x3) := by
  intro n
  induction n with
  | zero => intro x2 x3; exact j_none
  | succ n ih =>
    intro x2 x3
    rw [mX7_partCode_4]
    refine j_iload_n C 2 rfl dX7_partCode_4 rfl ?_
    refine j_sipush C (v := 343) (by decide) dX7_partCode_5 ?_
    refine j_icmp_ge C 46 dX7_partCode_8 (by decide) ?_ ?_
    · refine j_bipush C (v := (-6)) (by decide) dX7_partCode_46 ?_
      exact j_iret C rfl dX7_partCode_48
    · refine j_aload_n C 0 rfl dX7_partCode_11 rfl ?_
      refine j_getR C (x := 59) fl_X7_12 sh_24 rfl rfl dX7_partCode_12 ?_
      refine j_iload_n C 2 rfl dX7_partCode_15 rfl ?_
      refine j_callVi C [.int x3] [] mv_X7_40 sh_59 rfl rfl (fun _ h => ctX6_partAt (okT_59 (g := g)) h) ⟨(Nat.le_of_ble_eq_true rfl), (Nat.le_of_ble_eq_true rfl)⟩ (Nat.le_of_ble_eq_true rfl) dX7_partCode_16 rfl (fun r1 => ?_)
      refine j_istore C (xs1 := [(0, .ref (gad g 24)), (2, .int x2), (3, .int x3), (4, .int r1)]) dX7_partCode_19 (by decide) rfl ?_
      refine j_iload C 3 rfl dX7_partCode_21 ?_
      refine j_iconst C (v := (-1)) (by decide) dX7_partCode_23 ?_
      refine j_icmp_eq C 40 dX7_partCode_24 (by decide) ?_ ?_
      · refine j_sub (xs1 := [(0, .ref (gad g 24)), (2, .int x2), (3, .int x3)]) [0, 1, 2] rfl ?_
        exact wX7_partCode_40 C S (mX7_partCode_4 S n) ih x2 x3
      · refine j_iload_n C 1 rfl dX7_partCode_27 rfl ?_
        refine j_if_ne C 37 dX7_partCode_28 (by decide) ?_ ?_
        · refine j_iinc C (xs2 := fun v2 => [(0, .ref (gad g 24)), (2, .int v2), (3, .int x3), (4, .int r1)]) 1 rfl dX7_partCode_37 (by decide) (by decide) (fun _ => rfl) (fun v2 => ?_)
          refine j_sub (xs1 := [(0, .ref (gad g 24)), (2, .int v2), (3, .int x3)]) [0, 1, 2] rfl ?_
          exact wX7_partCode_40 C S (mX7_partCode_4 S n) ih v2 x3
        · refine j_iload C 3 rfl dX7_partCode_31 ?_
          refine j_callSi C [.int r1] [] ms_X7_44 (fun _ h => ctX3_toCode h) ⟨(Nat.le_of_ble_eq_true rfl), (Nat.le_of_ble_eq_true rfl)⟩ (Nat.le_of_ble_eq_true rfl) dX7_partCode_33 rfl (fun r3 => ?_)
          exact j_iret C rfl dX7_partCode_36
def mX7_partCode (S : St) (a0 : Int32) : Option (Int32) := mX7_partCode_4 S FU a0 0
theorem wX7_partCode {κ : KT} {g : GT} (C : CX κ g RX7 cX7_partCode 5 (some .int) 3 68) (S : St) (a0 : Int32) : J κ g 5 (fun a : Int32 => (some (Value.int a), S)) S 0 [(0, .ref (gad g 24)), (1, .int a0)] [] (mX7_partCode S a0) := by
  unfold mX7_partCode
  refine j_iload_n C 1 rfl dX7_partCode_0 rfl ?_
  refine j_istore_n C (xs1 := [(0, .ref (gad g 24)), (1, .int a0), (2, .int a0)]) dX7_partCode_1 rfl (by decide) rfl ?_
  refine j_iconst C (v := 0) (by decide) dX7_partCode_2 ?_
  refine j_istore_n C (xs1 := [(0, .ref (gad g 24)), (1, .int a0), (2, .int a0), (3, .int 0)]) dX7_partCode_3 rfl (by decide) rfl ?_
  refine j_sub (xs1 := [(0, .ref (gad g 24)), (2, .int a0), (3, .int 0)]) [0, 2, 3] rfl ?_
  exact wX7_partCode_4 C S FU a0 0
theorem ctX7_partCode {l : Launch} {g : GT} {S : St} {a0 : Int32} {out : Int32} (ho : mX7_partCode S a0 = some out) : CT l yX7_partCode cX7_partCode 5 (some .int) 3 68 [.ref (gad g 24), .int a0] g S ((fun a : Int32 => (some (Value.int a), S)) out) := CT_of (φ := (fun a : Int32 => (some (Value.int a), S))) [.ref (gad g 24), .int a0] ho (by decide) (Nat.le_of_ble_eq_true rfl) (xs := [(0, .ref (gad g 24)), (1, .int a0)]) rfl (fun κ C => wX7_partCode C S a0)
/-! StairIdeals$Survey.addSteps(III)V -/
def mX7_addSteps_67 (k3 : St → Int32 → Int32 → Int32 → Int32 → Option (St)) (S : St) (x1 : Int32) (x2 : Int32) (x3 : Int32) (x4 : Int32) : Option (St) := bnd (x4 + 1) fun v1 => k3 S x1 x2 x3 v1
theorem wX7_addSteps_67 {κ : KT} {g : GT} (C : CX κ g RX7 cX7_addSteps 7 none 0 0) (k3 : St → Int32 → Int32 → Int32 → Int32 → Option (St)) (hk3 : ∀ (S : St) (x1 : Int32) (x2 : Int32) (x3 : Int32) (x4 : Int32), J κ g 7 (fun a : St => (none, a)) S 3 [(0, .ref (gad g 24)), (1, .int x1), (2, .int x2), (3, .int x3), (4, .int x4)] [] (k3 S x1 x2 x3 x4)) (S : St) (x1 : Int32) (x2 : Int32) (x3 : Int32) (x4 : Int32) : J κ g 7 (fun a : St => (none, a)) S 67 [(0, .ref (gad g 24)), (1, .int x1), (2, .int x2), (3, .int x3), (4, .int x4)] [] (mX7_addSteps_67 k3 S x1 x2 x3 x4) := by
  unfold mX7_addSteps_67
  refine j_iinc C (xs2 := fun v1 => [(0, .ref (gad g 24)), (1, .int x1), (2, .int x2), (3, .int x3), (4, .int v1)]) 4 rfl dX7_addSteps_67 (by decide) (by decide) (fun _ => rfl) (fun v1 => ?_)
  refine j_goto C 3 dX7_addSteps_70 (by decide) ?_
  exact hk3 S x1 x2 x3 v1
def mX7_addSteps_3 : Nat → St → Int32 → Int32 → Int32 → Int32 → Option (St)
  | 0, _, _, _, _, _ => none
  | n + 1, S, x1, x2, x3, x4 => if x2 < x4 then (some S)
  else (bnd (x1 + x4) fun v1 => bnd ((4 * x2) + x4) fun v2 => if v1 < 0 then (mX7_addSteps_67 (mX7_addSteps_3 n) S x1 x2 x3 x4)
  else (if 24 < v1 then (mX7_addSteps_67 (mX7_addSteps_3 n) S x1 x2 x3 x4)
  else (if v2 < 0 then (mX7_addSteps_67 (mX7_addSteps_3 n) S x1 x2 x3 x4)
  else (if 16 ≤ v2 then (mX7_addSteps_67 (mX7_addSteps_3 n) S x1 x2 x3 x4)
  else (inb 25 v1 fun j3 => inb 16 v2 fun j4 => inb 25 v1 fun j5 => mX7_addSteps_67 (mX7_addSteps_3 n) (sA S 25 j5 ((gA S 25 j3) + (x3 * (stp j4)))) x1 x2 x3 x4)))))
theorem wX7_addSteps_3 {κ : KT} {g : GT} (C : CX κ g RX7 cX7_addSteps 7 none 0 0) : ∀ (n : Nat) (S : St) (x1 : Int32) (x2 : Int32) (x3 : Int32) (x4 : Int32), J κ g 7 (fun a : St => (none, a)) S 3 [(0, .ref (gad g 24)), (1, .int x1), (2, .int x2), (3, .int x3), (4, .int x4)] [] (mX7_addSteps_3 n S x1 x2 x3 x4) := by
  intro n
  induction n with
  | zero => intro S x1 x2 x3 x4; exact j_none
  | succ n ih =>
    intro S x1 x2 x3 x4
    rw [mX7_addSteps_3]
    refine j_iload C 4 rfl dX7_addSteps_3 ?_
    refine j_iload_n C 2 rfl dX7_addSteps_5 rfl ?_
    refine j_icmp_gt C 73 dX7_addSteps_6 (by decide) ?_ ?_
    · exact j_vret C rfl dX7_addSteps_73
    · refine j_iload_n C 1 rfl dX7_addSteps_9 rfl ?_
      refine j_iload C 4 rfl dX7_addSteps_10 ?_
      refine j_iadd C dX7_addSteps_12 ?_
      refine j_topi (fun v1 => ?_)
      refine j_istore C (xs1 := [(0, .ref (gad g 24)), (1, .int x1), (2, .int x2), (3, .int x3), (4, .int x4), (5, .int v1)]) dX7_addSteps_13 (by decide) rfl ?_
      refine j_iconst C (v := 4) (by decide) dX7_addSteps_15 ?_
      refine j_iload_n C 2 rfl dX7_addSteps_16 rfl ?_
      refine j_imul C dX7_addSteps_17 ?_
      refine j_iload C 4 rfl dX7_addSteps_18 ?_
      refine j_iadd C dX7_addSteps_20 ?_
      refine j_topi (fun v2 => ?_)
      refine j_istore C (xs1 := [(0, .ref (gad g 24)), (1, .int x1), (2, .int x2), (3, .int x3), (4, .int x4), (5, .int v1), (6, .int v2)]) dX7_addSteps_21 (by decide) rfl ?_
      refine j_iload C 5 rfl dX7_addSteps_23 ?_
      refine j_if_lt C 67 dX7_addSteps_25 (by decide) ?_ ?_
      · refine j_sub (xs1 := [(0, .ref (gad g 24)), (1, .int x1), (2, .int x2), (3, .int x3), (4, .int x4)]) [0, 1, 2, 3, 4] rfl ?_
        exact wX7_addSteps_67 C (mX7_addSteps_3 n) ih S x1 x2 x3 x4
      · refine j_iload C 5 rfl dX7_addSteps_28 ?_
        refine j_bipush C (v := 24) (by decide) dX7_addSteps_30 ?_
        refine j_icmp_gt C 67 dX7_addSteps_32 (by decide) ?_ ?_
        · refine j_sub (xs1 := [(0, .ref (gad g 24)), (1, .int x1), (2, .int x2), (3, .int x3), (4, .int x4)]) [0, 1, 2, 3, 4] rfl ?_
          exact wX7_addSteps_67 C (mX7_addSteps_3 n) ih S x1 x2 x3 x4
        · refine j_iload C 6 rfl dX7_addSteps_35 ?_
          refine j_if_lt C 67 dX7_addSteps_37 (by decide) ?_ ?_
          · refine j_sub (xs1 := [(0, .ref (gad g 24)), (1, .int x1), (2, .int x2), (3, .int x3), (4, .int x4)]) [0, 1, 2, 3, 4] rfl ?_
            exact wX7_addSteps_67 C (mX7_addSteps_3 n) ih S x1 x2 x3 x4
          · refine j_iload C 6 rfl dX7_addSteps_40 ?_
            refine j_gets2 C wd_547 dX7_addSteps_42 ?_
            refine j_tlen2 C (v := 16) (by decide) dX7_addSteps_45 ?_
            refine j_icmp_ge C 67 dX7_addSteps_46 (by decide) ?_ ?_
            · refine j_sub (xs1 := [(0, .ref (gad g 24)), (1, .int x1), (2, .int x2), (3, .int x3), (4, .int x4)]) [0, 1, 2, 3, 4] rfl ?_
              exact wX7_addSteps_67 C (mX7_addSteps_3 n) ih S x1 x2 x3 x4
            · refine j_aload_n C 0 rfl dX7_addSteps_49 rfl ?_
              refine j_getR C (x := 25) fl_X7_18 sh_24 rfl rfl dX7_addSteps_50 ?_
              refine j_iload C 5 rfl dX7_addSteps_53 ?_
              refine j_dup2_11 C rfl rfl dX7_addSteps_55 ?_
              refine j_iald C sh_25 rfl dX7_addSteps_56 (fun j3 => ?_)
              refine j_iload_n C 3 rfl dX7_addSteps_57 rfl ?_
              refine j_gets2 C wd_547 dX7_addSteps_58 ?_
              refine j_iload C 6 rfl dX7_addSteps_61 ?_
              refine j_tald2 C dX7_addSteps_63 (fun j4 => ?_)
              refine j_imul C dX7_addSteps_64 ?_
              refine j_iadd C dX7_addSteps_65 ?_
              refine j_iast C sh_25 rfl dX7_addSteps_66 (fun j5 => ?_)
              refine j_sub (xs1 := [(0, .ref (gad g 24)), (1, .int x1), (2, .int x2), (3, .int x3), (4, .int x4)]) [0, 1, 2, 3, 4] rfl ?_
              exact wX7_addSteps_67 C (mX7_addSteps_3 n) ih (sA S 25 j5 ((gA S 25 j3) + (x3 * (stp j4)))) x1 x2 x3 x4
def mX7_addSteps (S : St) (a0 : Int32) (a1 : Int32) (a2 : Int32) : Option (St) := mX7_addSteps_3 FU S a0 a1 a2 0
theorem wX7_addSteps {κ : KT} {g : GT} (C : CX κ g RX7 cX7_addSteps 7 none 0 0) (S : St) (a0 : Int32) (a1 : Int32) (a2 : Int32) : J κ g 7 (fun a : St => (none, a)) S 0 [(0, .ref (gad g 24)), (1, .int a0), (2, .int a1), (3, .int a2)] [] (mX7_addSteps S a0 a1 a2) := by
  unfold mX7_addSteps
  refine j_iconst C (v := 0) (by decide) dX7_addSteps_0 ?_
  refine j_istore C (xs1 := [(0, .ref (gad g 24)), (1, .int a0), (2, .int a1), (3, .int a2), (4, .int 0)]) dX7_addSteps_1 (by decide) rfl ?_
  exact wX7_addSteps_3 C FU S a0 a1 a2 0
theorem ctX7_addSteps {l : Launch} {g : GT} {S : St} {a0 : Int32} {a1 : Int32} {a2 : Int32} {out : St} (ho : mX7_addSteps S a0 a1 a2 = some out) : CT l yX7_addSteps cX7_addSteps 7 none 0 0 [.ref (gad g 24), .int a0, .int a1, .int a2] g S ((fun a : St => (none, a)) out) := CT_of (φ := (fun a : St => (none, a))) [.ref (gad g 24), .int a0, .int a1, .int a2] ho (by decide) (Nat.le_of_ble_eq_true rfl) (xs := [(0, .ref (gad g 24)), (1, .int a0), (2, .int a1), (3, .int a2)]) rfl (fun κ C => wX7_addSteps C S a0 a1 a2)
/-! StairIdeals$Survey.findFactors()V -/
def mX7_findFactors_112 (k10 : St → Int32 → Option (St)) (S : St) (x1 : Int32) : Option (St) := bnd (x1 + 1) fun v1 => k10 S v1
theorem wX7_findFactors_112 {κ : KT} {g : GT} (C : CX κ g RX7 cX7_findFactors 7 none 1 26) (k10 : St → Int32 → Option (St)) (hk10 : ∀ (S : St) (x1 : Int32), J κ g 7 (fun a : St => (none, a)) S 10 [(0, .ref (gad g 24)), (1, .int x1)] [] (k10 S x1)) (S : St) (x1 : Int32) : J κ g 7 (fun a : St => (none, a)) S 112 [(0, .ref (gad g 24)), (1, .int x1)] [] (mX7_findFactors_112 k10 S x1) := by
  unfold mX7_findFactors_112
  refine j_iinc C (xs2 := fun v1 => [(0, .ref (gad g 24)), (1, .int v1)]) 1 rfl dX7_findFactors_112 (by decide) (by decide) (fun _ => rfl) (fun v1 => ?_)
  refine j_goto C 10 dX7_findFactors_115 (by decide) ?_
  exact hk10 S v1
def mX7_findFactors_63 (k10 : St → Int32 → Option (St)) (k30 : St → Int32 → Int32 → Int32 → Int32 → Int32 → Option (St)) (S : St) (x1 : Int32) (x2 : Int32) (x3 : Int32) (x5 : Int32) (s0 : Int32) (s1 : Int32) : Option (St) := bnd (s1 + s0) fun v1 => bnd (x5 + 1) fun v2 => k30 S x1 x2 x3 v1 v2
theorem wX7_findFactors_63 {κ : KT} {g : GT} (C : CX κ g RX7 cX7_findFactors 7 none 1 26) (k10 : St → Int32 → Option (St)) (hk10 : ∀ (S : St) (x1 : Int32), J κ g 7 (fun a : St => (none, a)) S 10 [(0, .ref (gad g 24)), (1, .int x1)] [] (k10 S x1)) (k30 : St → Int32 → Int32 → Int32 → Int32 → Int32 → Option (St)) (hk30 : ∀ (S : St) (x1 : Int32) (x2 : Int32) (x3 : Int32) (x4 : Int32) (x5 : Int32), J κ g 7 (fun a : St => (none, a)) S 30 [(0, .ref (gad g 24)), (1, .int x1), (2, .int x2), (3, .int x3), (4, .int x4), (5, .int x5)] [] (k30 S x1 x2 x3 x4 x5)) (S : St) (x1 : Int32) (x2 : Int32) (x3 : Int32) (x5 : Int32) (s0 : Int32) (s1 : Int32) : J κ g 7 (fun a : St => (none, a)) S 63 [(0, .ref (gad g 24)), (1, .int x1), (2, .int x2), (3, .int x3), (5, .int x5)] [.int s0, .int s1] (mX7_findFactors_63 k10 k30 S x1 x2 x3 x5 s0 s1) := by
  unfold mX7_findFactors_63
  refine j_iadd C dX7_findFactors_63 ?_
  refine j_topi (fun v1 => ?_)
  refine j_istore C (xs1 := [(0, .ref (gad g 24)), (1, .int x1), (2, .int x2), (3, .int x3), (4, .int v1), (5, .int x5)]) dX7_findFactors_64 (by decide) rfl ?_
  refine j_iinc C (xs2 := fun v2 => [(0, .ref (gad g 24)), (1, .int x1), (2, .int x2), (3, .int x3), (4, .int v1), (5, .int v2)]) 5 rfl dX7_findFactors_66 (by decide) (by decide) (fun _ => rfl) (fun v2 => ?_)
  refine j_goto C 30 dX7_findFactors_69 (by decide) ?_
  exact hk30 S x1 x2 x3 v1 v2
def mX7_findFactors_30 (k10 : St → Int32 → Option (St)) : Nat → St → Int32 → Int32 → Int32 → Int32 → Int32 → Option (St)
  | 0, _, _, _, _, _, _ => none
  | n + 1, S, x1, x2, x3, x4, x5 => if 3 ≤ x5 then ((mX7_addSteps S x3 x4 1).bind fun r1 => inb 343 x1 fun j2 => if 6 < (gA r1 60 j2) then (mX7_findFactors_112 k10 r1 x1)
  else (inb 343 x1 fun j3 => (mX7_addSteps r1 (x3 + (gA r1 60 j3)) x4 (-1)).bind fun r4 => mX7_findFactors_112 k10 r4 x1))
  else ((mX3_exponent x2 x5).bind fun r5 => bnd (x3 + r5) fun v6 => if 6 ≤ r5 then (mX7_findFactors_63 k10 (mX7_findFactors_30 k10 n) S x1 x2 v6 x5 0 x4)
  else (mX7_findFactors_63 k10 (mX7_findFactors_30 k10 n) S x1 x2 v6 x5 1 x4))
theorem wX7_findFactors_30 {κ : KT} {g : GT} (C : CX κ g RX7 cX7_findFactors 7 none 1 26) (k10 : St → Int32 → Option (St)) (hk10 : ∀ (S : St) (x1 : Int32), J κ g 7 (fun a : St => (none, a)) S 10 [(0, .ref (gad g 24)), (1, .int x1)] [] (k10 S x1)) : ∀ (n : Nat) (S : St) (x1 : Int32) (x2 : Int32) (x3 : Int32) (x4 : Int32) (x5 : Int32), J κ g 7 (fun a : St => (none, a)) S 30 [(0, .ref (gad g 24)), (1, .int x1), (2, .int x2), (3, .int x3), (4, .int x4), (5, .int x5)] [] (mX7_findFactors_30 k10 n S x1 x2 x3 x4 x5) := by
  intro n
  induction n with
  | zero => intro S x1 x2 x3 x4 x5; exact j_none
  | succ n ih =>
    intro S x1 x2 x3 x4 x5
    rw [mX7_findFactors_30]
    refine j_iload C 5 rfl dX7_findFactors_30 ?_
    refine j_iconst C (v := 3) (by decide) dX7_findFactors_32 ?_
    refine j_icmp_ge C 72 dX7_findFactors_33 (by decide) ?_ ?_
    · refine j_aload_n C 0 rfl dX7_findFactors_72 rfl ?_
      refine j_iload_n C 3 rfl dX7_findFactors_73 rfl ?_
      refine j_iload C 4 rfl dX7_findFactors_74 ?_
      refine j_iconst C (v := 1) (by decide) dX7_findFactors_76 ?_
      refine j_callVvS C [.int x3, .int x4, .int 1] [] mv_X7_68 sh_24 rfl rfl (fun _ h => ctX7_addSteps h) ⟨(Nat.le_of_ble_eq_true rfl), (Nat.le_of_ble_eq_true rfl)⟩ (Nat.le_of_ble_eq_true rfl) dX7_findFactors_77 rfl (fun r1 => ?_)
      refine j_aload_n C 0 rfl dX7_findFactors_80 rfl ?_
      refine j_getR C (x := 59) fl_X7_12 sh_24 rfl rfl dX7_findFactors_81 ?_
      refine j_getR C (x := 60) fl_X7_72 sh_59 rfl rfl dX7_findFactors_84 ?_
      refine j_iload_n C 1 rfl dX7_findFactors_87 rfl ?_
      refine j_iald C sh_60 rfl dX7_findFactors_88 (fun j2 => ?_)
      refine j_bipush C (v := 6) (by decide) dX7_findFactors_89 ?_
      refine j_icmp_gt C 112 dX7_findFactors_91 (by decide) ?_ ?_
      · refine j_sub (xs1 := [(0, .ref (gad g 24)), (1, .int x1)]) [0, 1] rfl ?_
        exact wX7_findFactors_112 C k10 hk10 r1 x1
      · refine j_aload_n C 0 rfl dX7_findFactors_94 rfl ?_
        refine j_iload_n C 3 rfl dX7_findFactors_95 rfl ?_
        refine j_aload_n C 0 rfl dX7_findFactors_96 rfl ?_
        refine j_getR C (x := 59) fl_X7_12 sh_24 rfl rfl dX7_findFactors_97 ?_
        refine j_getR C (x := 60) fl_X7_72 sh_59 rfl rfl dX7_findFactors_100 ?_
        refine j_iload_n C 1 rfl dX7_findFactors_103 rfl ?_
        refine j_iald C sh_60 rfl dX7_findFactors_104 (fun j3 => ?_)
        refine j_iadd C dX7_findFactors_105 ?_
        refine j_iload C 4 rfl dX7_findFactors_106 ?_
        refine j_iconst C (v := (-1)) (by decide) dX7_findFactors_108 ?_
        refine j_callVvS C [.int (x3 + (gA r1 60 j3)), .int x4, .int (-1)] [] mv_X7_68 sh_24 rfl rfl (fun _ h => ctX7_addSteps h) ⟨(Nat.le_of_ble_eq_true rfl), (Nat.le_of_ble_eq_true rfl)⟩ (Nat.le_of_ble_eq_true rfl) dX7_findFactors_109 rfl (fun r4 => ?_)
        refine j_sub (xs1 := [(0, .ref (gad g 24)), (1, .int x1)]) [0, 1] rfl ?_
        exact wX7_findFactors_112 C k10 hk10 r4 x1
    · refine j_iload_n C 2 rfl dX7_findFactors_36 rfl ?_
      refine j_iload C 5 rfl dX7_findFactors_37 ?_
      refine j_callSi C [.int x2, .int x5] [] ms_X7_64 (fun _ h => ctX3_exponent h) ⟨(Nat.le_of_ble_eq_true rfl), (Nat.le_of_ble_eq_true rfl)⟩ (Nat.le_of_ble_eq_true rfl) dX7_findFactors_39 rfl (fun r5 => ?_)
      refine j_istore C (xs1 := [(0, .ref (gad g 24)), (1, .int x1), (2, .int x2), (3, .int x3), (4, .int x4), (5, .int x5), (6, .int r5)]) dX7_findFactors_42 (by decide) rfl ?_
      refine j_iload_n C 3 rfl dX7_findFactors_44 rfl ?_
      refine j_iload C 6 rfl dX7_findFactors_45 ?_
      refine j_iadd C dX7_findFactors_47 ?_
      refine j_topi (fun v6 => ?_)
      refine j_istore_n C (xs1 := [(0, .ref (gad g 24)), (1, .int x1), (2, .int x2), (3, .int v6), (4, .int x4), (5, .int x5), (6, .int r5)]) dX7_findFactors_48 rfl (by decide) rfl ?_
      refine j_iload C 4 rfl dX7_findFactors_49 ?_
      refine j_iload C 6 rfl dX7_findFactors_51 ?_
      refine j_bipush C (v := 6) (by decide) dX7_findFactors_53 ?_
      refine j_icmp_ge C 62 dX7_findFactors_55 (by decide) ?_ ?_
      · refine j_iconst C (v := 0) (by decide) dX7_findFactors_62 ?_
        refine j_sub (xs1 := [(0, .ref (gad g 24)), (1, .int x1), (2, .int x2), (3, .int v6), (5, .int x5)]) [0, 1, 2, 3, 5] rfl ?_
        exact wX7_findFactors_63 C k10 hk10 (mX7_findFactors_30 k10 n) ih S x1 x2 v6 x5 0 x4
      · refine j_iconst C (v := 1) (by decide) dX7_findFactors_58 ?_
        refine j_goto C 63 dX7_findFactors_59 (by decide) ?_
        refine j_sub (xs1 := [(0, .ref (gad g 24)), (1, .int x1), (2, .int x2), (3, .int v6), (5, .int x5)]) [0, 1, 2, 3, 5] rfl ?_
        exact wX7_findFactors_63 C k10 hk10 (mX7_findFactors_30 k10 n) ih S x1 x2 v6 x5 1 x4
def mX7_findFactors_10 : Nat → St → Int32 → Option (St)
  | 0, _, _ => none
  | n + 1, S, x1 => if 343 ≤ x1 then (some S)
  else ((mX6_monomialOf x1).bind fun r1 => mX7_findFactors_30 (mX7_findFactors_10 n) FU S x1 r1 0 0 0)
theorem wX7_findFactors_10 {κ : KT} {g : GT} (C : CX κ g RX7 cX7_findFactors 7 none 1 26) : ∀ (n : Nat) (S : St) (x1 : Int32), J κ g 7 (fun a : St => (none, a)) S 10 [(0, .ref (gad g 24)), (1, .int x1)] [] (mX7_findFactors_10 n S x1) := by
  intro n
  induction n with
  | zero => intro S x1; exact j_none
  | succ n ih =>
    intro S x1
    rw [mX7_findFactors_10]
    refine j_iload_n C 1 rfl dX7_findFactors_10 rfl ?_
    refine j_sipush C (v := 343) (by decide) dX7_findFactors_11 ?_
    refine j_icmp_ge C 118 dX7_findFactors_14 (by decide) ?_ ?_
    · exact j_vret C rfl dX7_findFactors_118
    · refine j_iload_n C 1 rfl dX7_findFactors_17 rfl ?_
      refine j_callSi C [.int x1] [] ms_X7_61 (fun _ h => ctX6_monomialOf h) ⟨(Nat.le_of_ble_eq_true rfl), (Nat.le_of_ble_eq_true rfl)⟩ (Nat.le_of_ble_eq_true rfl) dX7_findFactors_18 rfl (fun r1 => ?_)
      refine j_istore_n C (xs1 := [(0, .ref (gad g 24)), (1, .int x1), (2, .int r1)]) dX7_findFactors_21 rfl (by decide) rfl ?_
      refine j_iconst C (v := 0) (by decide) dX7_findFactors_22 ?_
      refine j_istore_n C (xs1 := [(0, .ref (gad g 24)), (1, .int x1), (2, .int r1), (3, .int 0)]) dX7_findFactors_23 rfl (by decide) rfl ?_
      refine j_iconst C (v := 0) (by decide) dX7_findFactors_24 ?_
      refine j_istore C (xs1 := [(0, .ref (gad g 24)), (1, .int x1), (2, .int r1), (3, .int 0), (4, .int 0)]) dX7_findFactors_25 (by decide) rfl ?_
      refine j_iconst C (v := 0) (by decide) dX7_findFactors_27 ?_
      refine j_istore C (xs1 := [(0, .ref (gad g 24)), (1, .int x1), (2, .int r1), (3, .int 0), (4, .int 0), (5, .int 0)]) dX7_findFactors_28 (by decide) rfl ?_
      exact wX7_findFactors_30 C (mX7_findFactors_10 n) ih FU S x1 r1 0 0 0
def mX7_findFactors (S : St) : Option (St) := (mJ7_fill_53178 S 25 0).bind fun r1 => mX7_findFactors_10 FU r1 0
theorem wX7_findFactors {κ : KT} {g : GT} (C : CX κ g RX7 cX7_findFactors 7 none 1 26) (S : St) : J κ g 7 (fun a : St => (none, a)) S 0 [(0, .ref (gad g 24))] [] (mX7_findFactors S) := by
  unfold mX7_findFactors
  refine j_aload_n C 0 rfl dX7_findFactors_0 rfl ?_
  refine j_getR C (x := 25) fl_X7_18 sh_24 rfl rfl dX7_findFactors_1 ?_
  refine j_iconst C (v := 0) (by decide) dX7_findFactors_4 ?_
  refine j_callSvS C [.ref (gad g 25), .int 0] [] ms_X7_55 (fun _ h => ctJ7_fill_53178 (okA_of (g := g) sh_25 rfl) h) ⟨(Nat.le_of_ble_eq_true rfl), (Nat.le_of_ble_eq_true rfl)⟩ (Nat.le_of_ble_eq_true rfl) dX7_findFactors_5 rfl (fun r1 => ?_)
  refine j_iconst C (v := 0) (by decide) dX7_findFactors_8 ?_
  refine j_istore_n C (xs1 := [(0, .ref (gad g 24)), (1, .int 0)]) dX7_findFactors_9 rfl (by decide) rfl ?_
  exact wX7_findFactors_10 C FU r1 0
theorem ctX7_findFactors {l : Launch} {g : GT} {S : St} {out : St} (ho : mX7_findFactors S = some out) : CT l yX7_findFactors cX7_findFactors 7 none 1 26 [.ref (gad g 24)] g S ((fun a : St => (none, a)) out) := CT_of (φ := (fun a : St => (none, a))) [.ref (gad g 24)] ho (by decide) (Nat.le_of_ble_eq_true rfl) (xs := [(0, .ref (gad g 24))]) rfl (fun κ C => wX7_findFactors C S)
/-! StairIdeals$Survey.seriesFactor(I)I -/
def mX7_seriesFactor (S : St) (a0 : Int32) : Option (Int32 × St) := (mX7_findFactors S).bind fun r1 => if a0 < 0 then (some (0, r1))
  else (if 24 < a0 then (some (0, r1))
  else (inb 25 a0 fun j2 => some (gA r1 25 j2, r1)))
theorem wX7_seriesFactor {κ : KT} {g : GT} (C : CX κ g RX7 cX7_seriesFactor 2 (some .int) 2 52) (S : St) (a0 : Int32) : J κ g 2 (fun a : Int32 × St => (some (Value.int a.1), a.2)) S 0 [(0, .ref (gad g 24)), (1, .int a0)] [] (mX7_seriesFactor S a0) := by
  unfold mX7_seriesFactor
  refine j_aload_n C 0 rfl dX7_seriesFactor_0 rfl ?_
  refine j_callVvS C [] [] mv_X7_49 sh_24 rfl rfl (fun _ h => ctX7_findFactors h) ⟨(Nat.le_of_ble_eq_true rfl), (Nat.le_of_ble_eq_true rfl)⟩ (Nat.le_of_ble_eq_true rfl) dX7_seriesFactor_1 rfl (fun r1 => ?_)
  refine j_iload_n C 1 rfl dX7_seriesFactor_4 rfl ?_
  refine j_if_lt C 23 dX7_seriesFactor_5 (by decide) ?_ ?_
  · refine j_iconst C (v := 0) (by decide) dX7_seriesFactor_23 ?_
    exact j_iret C rfl dX7_seriesFactor_24
  · refine j_iload_n C 1 rfl dX7_seriesFactor_8 rfl ?_
    refine j_bipush C (v := 24) (by decide) dX7_seriesFactor_9 ?_
    refine j_icmp_gt C 23 dX7_seriesFactor_11 (by decide) ?_ ?_
    · refine j_iconst C (v := 0) (by decide) dX7_seriesFactor_23 ?_
      exact j_iret C rfl dX7_seriesFactor_24
    · refine j_aload_n C 0 rfl dX7_seriesFactor_14 rfl ?_
      refine j_getR C (x := 25) fl_X7_18 sh_24 rfl rfl dX7_seriesFactor_15 ?_
      refine j_iload_n C 1 rfl dX7_seriesFactor_18 rfl ?_
      refine j_iald C sh_25 rfl dX7_seriesFactor_19 (fun j2 => ?_)
      refine j_goto C 24 dX7_seriesFactor_20 (by decide) ?_
      exact j_iret C rfl dX7_seriesFactor_24
theorem ctX7_seriesFactor {l : Launch} {g : GT} {S : St} {a0 : Int32} {out : Int32 × St} (ho : mX7_seriesFactor S a0 = some out) : CT l yX7_seriesFactor cX7_seriesFactor 2 (some .int) 2 52 [.ref (gad g 24), .int a0] g S ((fun a : Int32 × St => (some (Value.int a.1), a.2)) out) := CT_of (φ := (fun a : Int32 × St => (some (Value.int a.1), a.2))) [.ref (gad g 24), .int a0] ho (by decide) (Nat.le_of_ble_eq_true rfl) (xs := [(0, .ref (gad g 24)), (1, .int a0)]) rfl (fun κ C => wX7_seriesFactor C S a0)
/-! StairIdeals$Survey.standardOfDegree(I)I -/
def mX7_standardOfDegree_8 : Nat → St → Int32 → Int32 → Int32 → Option (Int32 × St)
  | 0, _, _, _, _ => none
  | n + 1, S, x1, x2, x3 => if 24 < x3 then (some (x2, S))
  else (if x1 < x3 then (some (x2, S))
  else (inb 25 x3 fun j1 => (mX3_ofDegree (x1 - x3)).bind fun r2 => bnd (x2 + ((gA S 25 j1) * r2)) fun v3 => bnd (x3 + 1) fun v4 => mX7_standardOfDegree_8 n S x1 v3 v4))
theorem wX7_standardOfDegree_8 {κ : KT} {g : GT} (C : CX κ g RX7 cX7_standardOfDegree 4 (some .int) 2 52) : ∀ (n : Nat) (S : St) (x1 : Int32) (x2 : Int32) (x3 : Int32), J κ g 4 (fun a : Int32 × St => (some (Value.int a.1), a.2)) S 8 [(0, .ref (gad g 24)), (1, .int x1), (2, .int x2), (3, .int x3)] [] (mX7_standardOfDegree_8 n S x1 x2 x3) := by
  intro n
  induction n with
  | zero => intro S x1 x2 x3; exact j_none
  | succ n ih =>
    intro S x1 x2 x3
    rw [mX7_standardOfDegree_8]
    refine j_iload_n C 3 rfl dX7_standardOfDegree_8 rfl ?_
    refine j_bipush C (v := 24) (by decide) dX7_standardOfDegree_9 ?_
    refine j_icmp_gt C 41 dX7_standardOfDegree_11 (by decide) ?_ ?_
    · refine j_iload_n C 2 rfl dX7_standardOfDegree_41 rfl ?_
      exact j_iret C rfl dX7_standardOfDegree_42
    · refine j_iload_n C 3 rfl dX7_standardOfDegree_14 rfl ?_
      refine j_iload_n C 1 rfl dX7_standardOfDegree_15 rfl ?_
      refine j_icmp_gt C 41 dX7_standardOfDegree_16 (by decide) ?_ ?_
      · refine j_iload_n C 2 rfl dX7_standardOfDegree_41 rfl ?_
        exact j_iret C rfl dX7_standardOfDegree_42
      · refine j_iload_n C 2 rfl dX7_standardOfDegree_19 rfl ?_
        refine j_aload_n C 0 rfl dX7_standardOfDegree_20 rfl ?_
        refine j_getR C (x := 25) fl_X7_18 sh_24 rfl rfl dX7_standardOfDegree_21 ?_
        refine j_iload_n C 3 rfl dX7_standardOfDegree_24 rfl ?_
        refine j_iald C sh_25 rfl dX7_standardOfDegree_25 (fun j1 => ?_)
        refine j_iload_n C 1 rfl dX7_standardOfDegree_26 rfl ?_
        refine j_iload_n C 3 rfl dX7_standardOfDegree_27 rfl ?_
        refine j_isub C dX7_standardOfDegree_28 ?_
        refine j_callSi C [.int (x1 - x3)] [.int (gA S 25 j1), .int x2] ms_X7_52 (fun _ h => ctX3_ofDegree h) ⟨(Nat.le_of_ble_eq_true rfl), (Nat.le_of_ble_eq_true rfl)⟩ (Nat.le_of_ble_eq_true rfl) dX7_standardOfDegree_29 rfl (fun r2 => ?_)
        refine j_imul C dX7_standardOfDegree_32 ?_
        refine j_iadd C dX7_standardOfDegree_33 ?_
        refine j_topi (fun v3 => ?_)
        refine j_istore_n C (xs1 := [(0, .ref (gad g 24)), (1, .int x1), (2, .int v3), (3, .int x3)]) dX7_standardOfDegree_34 rfl (by decide) rfl ?_
        refine j_iinc C (xs2 := fun v4 => [(0, .ref (gad g 24)), (1, .int x1), (2, .int v3), (3, .int v4)]) 3 rfl dX7_standardOfDegree_35 (by decide) (by decide) (fun _ => rfl) (fun v4 => ?_)
        refine j_goto C 8 dX7_standardOfDegree_38 (by decide) ?_
        exact ih S x1 v3 v4
def mX7_standardOfDegree (S : St) (a0 : Int32) : Option (Int32 × St) := (mX7_findFactors S).bind fun r1 => mX7_standardOfDegree_8 FU r1 a0 0 0
theorem wX7_standardOfDegree {κ : KT} {g : GT} (C : CX κ g RX7 cX7_standardOfDegree 4 (some .int) 2 52) (S : St) (a0 : Int32) : J κ g 4 (fun a : Int32 × St => (some (Value.int a.1), a.2)) S 0 [(0, .ref (gad g 24)), (1, .int a0)] [] (mX7_standardOfDegree S a0) := by
  unfold mX7_standardOfDegree
  refine j_aload_n C 0 rfl dX7_standardOfDegree_0 rfl ?_
  refine j_callVvS C [] [] mv_X7_49 sh_24 rfl rfl (fun _ h => ctX7_findFactors h) ⟨(Nat.le_of_ble_eq_true rfl), (Nat.le_of_ble_eq_true rfl)⟩ (Nat.le_of_ble_eq_true rfl) dX7_standardOfDegree_1 rfl (fun r1 => ?_)
  refine j_iconst C (v := 0) (by decide) dX7_standardOfDegree_4 ?_
  refine j_istore_n C (xs1 := [(0, .ref (gad g 24)), (1, .int a0), (2, .int 0)]) dX7_standardOfDegree_5 rfl (by decide) rfl ?_
  refine j_iconst C (v := 0) (by decide) dX7_standardOfDegree_6 ?_
  refine j_istore_n C (xs1 := [(0, .ref (gad g 24)), (1, .int a0), (2, .int 0), (3, .int 0)]) dX7_standardOfDegree_7 rfl (by decide) rfl ?_
  exact wX7_standardOfDegree_8 C FU r1 a0 0 0
theorem ctX7_standardOfDegree {l : Launch} {g : GT} {S : St} {a0 : Int32} {out : Int32 × St} (ho : mX7_standardOfDegree S a0 = some out) : CT l yX7_standardOfDegree cX7_standardOfDegree 4 (some .int) 2 52 [.ref (gad g 24), .int a0] g S ((fun a : Int32 × St => (some (Value.int a.1), a.2)) out) := CT_of (φ := (fun a : Int32 × St => (some (Value.int a.1), a.2))) [.ref (gad g 24), .int a0] ho (by decide) (Nat.le_of_ble_eq_true rfl) (xs := [(0, .ref (gad g 24)), (1, .int a0)]) rfl (fun κ C => wX7_standardOfDegree C S a0)
/-! StairIdeals$Tree.pivotOf([II)I -/
def mX8_pivotOf_66 (S : St) (n0 : Nat) (k8 : Int32 → Int32 → Int32 → Int32 → Option (Int32)) (x1 : Int32) (x2 : Int32) (x3 : Int32) (x4 : Int32) : Option (Int32) := bnd (x4 + 1) fun v1 => k8 x1 x2 x3 v1
theorem wX8_pivotOf_66 {κ : KT} {g : GT} (C : CX κ g RX8 cX8_pivotOf 7 (some .int) 1 21) (S : St) (n0 : Nat) (hn0 : okA g n0) (k8 : Int32 → Int32 → Int32 → Int32 → Option (Int32)) (hk8 : ∀ (x1 : Int32) (x2 : Int32) (x3 : Int32) (x4 : Int32), J κ g 7 (fun a : Int32 => (some (Value.int a), S)) S 8 [(0, .ref (gad g n0)), (1, .int x1), (2, .int x2), (3, .int x3), (4, .int x4)] [] (k8 x1 x2 x3 x4)) (x1 : Int32) (x2 : Int32) (x3 : Int32) (x4 : Int32) : J κ g 7 (fun a : Int32 => (some (Value.int a), S)) S 66 [(0, .ref (gad g n0)), (1, .int x1), (2, .int x2), (3, .int x3), (4, .int x4)] [] (mX8_pivotOf_66 S n0 k8 x1 x2 x3 x4) := by
  unfold mX8_pivotOf_66
  refine j_iinc C (xs2 := fun v1 => [(0, .ref (gad g n0)), (1, .int x1), (2, .int x2), (3, .int x3), (4, .int v1)]) 4 rfl dX8_pivotOf_66 (by decide) (by decide) (fun _ => rfl) (fun v1 => ?_)
  refine j_goto C 8 dX8_pivotOf_69 (by decide) ?_
  exact hk8 x1 x2 x3 v1
def mX8_pivotOf_54 (S : St) (n0 : Nat) (k8 : Int32 → Int32 → Int32 → Int32 → Option (Int32)) (x1 : Int32) (x2 : Int32) (x3 : Int32) (x4 : Int32) (x5 : Int32) : Option (Int32) := if x5 ≤ x3 then (mX8_pivotOf_66 S n0 k8 x1 x2 x3 x4)
  else (mX8_pivotOf_66 S n0 k8 x1 x4 x5 x4)
theorem wX8_pivotOf_54 {κ : KT} {g : GT} (C : CX κ g RX8 cX8_pivotOf 7 (some .int) 1 21) (S : St) (n0 : Nat) (hn0 : okA g n0) (k8 : Int32 → Int32 → Int32 → Int32 → Option (Int32)) (hk8 : ∀ (x1 : Int32) (x2 : Int32) (x3 : Int32) (x4 : Int32), J κ g 7 (fun a : Int32 => (some (Value.int a), S)) S 8 [(0, .ref (gad g n0)), (1, .int x1), (2, .int x2), (3, .int x3), (4, .int x4)] [] (k8 x1 x2 x3 x4)) (x1 : Int32) (x2 : Int32) (x3 : Int32) (x4 : Int32) (x5 : Int32) : J κ g 7 (fun a : Int32 => (some (Value.int a), S)) S 54 [(0, .ref (gad g n0)), (1, .int x1), (2, .int x2), (3, .int x3), (4, .int x4), (5, .int x5)] [] (mX8_pivotOf_54 S n0 k8 x1 x2 x3 x4 x5) := by
  unfold mX8_pivotOf_54
  refine j_iload C 5 rfl dX8_pivotOf_54 ?_
  refine j_iload_n C 3 rfl dX8_pivotOf_56 rfl ?_
  refine j_icmp_le C 66 dX8_pivotOf_57 (by decide) ?_ ?_
  · refine j_sub (xs1 := [(0, .ref (gad g n0)), (1, .int x1), (2, .int x2), (3, .int x3), (4, .int x4)]) [0, 1, 2, 3, 4] rfl ?_
    exact wX8_pivotOf_66 C S n0 hn0 k8 hk8 x1 x2 x3 x4
  · refine j_iload C 5 rfl dX8_pivotOf_60 ?_
    refine j_istore_n C (xs1 := [(0, .ref (gad g n0)), (1, .int x1), (2, .int x2), (3, .int x5), (4, .int x4), (5, .int x5)]) dX8_pivotOf_62 rfl (by decide) rfl ?_
    refine j_iload C 4 rfl dX8_pivotOf_63 ?_
    refine j_istore_n C (xs1 := [(0, .ref (gad g n0)), (1, .int x1), (2, .int x4), (3, .int x5), (4, .int x4), (5, .int x5)]) dX8_pivotOf_65 rfl (by decide) rfl ?_
    refine j_sub (xs1 := [(0, .ref (gad g n0)), (1, .int x1), (2, .int x4), (3, .int x5), (4, .int x4)]) [0, 1, 2, 3, 4] rfl ?_
    exact wX8_pivotOf_66 C S n0 hn0 k8 hk8 x1 x4 x5 x4
def mX8_pivotOf_48 (S : St) (n0 : Nat) (k8 : Int32 → Int32 → Int32 → Int32 → Option (Int32)) (k20 : Int32 → Int32 → Int32 → Int32 → Int32 → Int32 → Option (Int32)) (x1 : Int32) (x2 : Int32) (x3 : Int32) (x4 : Int32) (x5 : Int32) (x6 : Int32) : Option (Int32) := bnd (x6 + 1) fun v1 => k20 x1 x2 x3 x4 x5 v1
theorem wX8_pivotOf_48 {κ : KT} {g : GT} (C : CX κ g RX8 cX8_pivotOf 7 (some .int) 1 21) (S : St) (n0 : Nat) (hn0 : okA g n0) (k8 : Int32 → Int32 → Int32 → Int32 → Option (Int32)) (hk8 : ∀ (x1 : Int32) (x2 : Int32) (x3 : Int32) (x4 : Int32), J κ g 7 (fun a : Int32 => (some (Value.int a), S)) S 8 [(0, .ref (gad g n0)), (1, .int x1), (2, .int x2), (3, .int x3), (4, .int x4)] [] (k8 x1 x2 x3 x4)) (k20 : Int32 → Int32 → Int32 → Int32 → Int32 → Int32 → Option (Int32)) (hk20 : ∀ (x1 : Int32) (x2 : Int32) (x3 : Int32) (x4 : Int32) (x5 : Int32) (x6 : Int32), J κ g 7 (fun a : Int32 => (some (Value.int a), S)) S 20 [(0, .ref (gad g n0)), (1, .int x1), (2, .int x2), (3, .int x3), (4, .int x4), (5, .int x5), (6, .int x6)] [] (k20 x1 x2 x3 x4 x5 x6)) (x1 : Int32) (x2 : Int32) (x3 : Int32) (x4 : Int32) (x5 : Int32) (x6 : Int32) : J κ g 7 (fun a : Int32 => (some (Value.int a), S)) S 48 [(0, .ref (gad g n0)), (1, .int x1), (2, .int x2), (3, .int x3), (4, .int x4), (5, .int x5), (6, .int x6)] [] (mX8_pivotOf_48 S n0 k8 k20 x1 x2 x3 x4 x5 x6) := by
  unfold mX8_pivotOf_48
  refine j_iinc C (xs2 := fun v1 => [(0, .ref (gad g n0)), (1, .int x1), (2, .int x2), (3, .int x3), (4, .int x4), (5, .int x5), (6, .int v1)]) 6 rfl dX8_pivotOf_48 (by decide) (by decide) (fun _ => rfl) (fun v1 => ?_)
  refine j_goto C 20 dX8_pivotOf_51 (by decide) ?_
  exact hk20 x1 x2 x3 x4 x5 v1
def mX8_pivotOf_20 (S : St) (n0 : Nat) (k8 : Int32 → Int32 → Int32 → Int32 → Option (Int32)) : Nat → Int32 → Int32 → Int32 → Int32 → Int32 → Int32 → Option (Int32)
  | 0, _, _, _, _, _, _ => none
  | n + 1, x1, x2, x3, x4, x5, x6 => if x1 ≤ x6 then (mX8_pivotOf_54 S n0 k8 x1 x2 x3 x4 x5)
  else (if (Int32.ofNat (alen n0)) ≤ x6 then (mX8_pivotOf_54 S n0 k8 x1 x2 x3 x4 x5)
  else (inb (alen n0) x6 fun j1 => (mX3_exponent (gA S n0 j1) x4).bind fun r2 => if r2 ≤ 0 then (mX8_pivotOf_48 S n0 k8 (mX8_pivotOf_20 S n0 k8 n) x1 x2 x3 x4 x5 x6)
  else (bnd (x5 + 1) fun v3 => mX8_pivotOf_48 S n0 k8 (mX8_pivotOf_20 S n0 k8 n) x1 x2 x3 x4 v3 x6)))
theorem wX8_pivotOf_20 {κ : KT} {g : GT} (C : CX κ g RX8 cX8_pivotOf 7 (some .int) 1 21) (S : St) (n0 : Nat) (hn0 : okA g n0) (k8 : Int32 → Int32 → Int32 → Int32 → Option (Int32)) (hk8 : ∀ (x1 : Int32) (x2 : Int32) (x3 : Int32) (x4 : Int32), J κ g 7 (fun a : Int32 => (some (Value.int a), S)) S 8 [(0, .ref (gad g n0)), (1, .int x1), (2, .int x2), (3, .int x3), (4, .int x4)] [] (k8 x1 x2 x3 x4)) : ∀ (n : Nat) (x1 : Int32) (x2 : Int32) (x3 : Int32) (x4 : Int32) (x5 : Int32) (x6 : Int32), J κ g 7 (fun a : Int32 => (some (Value.int a), S)) S 20 [(0, .ref (gad g n0)), (1, .int x1), (2, .int x2), (3, .int x3), (4, .int x4), (5, .int x5), (6, .int x6)] [] (mX8_pivotOf_20 S n0 k8 n x1 x2 x3 x4 x5 x6) := by
  intro n
  induction n with
  | zero => intro x1 x2 x3 x4 x5 x6; exact j_none
  | succ n ih =>
    intro x1 x2 x3 x4 x5 x6
    rw [mX8_pivotOf_20]
    refine j_iload C 6 rfl dX8_pivotOf_20 ?_
    refine j_iload_n C 1 rfl dX8_pivotOf_22 rfl ?_
    refine j_icmp_ge C 54 dX8_pivotOf_23 (by decide) ?_ ?_
    · refine j_sub (xs1 := [(0, .ref (gad g n0)), (1, .int x1), (2, .int x2), (3, .int x3), (4, .int x4), (5, .int x5)]) [0, 1, 2, 3, 4, 5] rfl ?_
      exact wX8_pivotOf_54 C S n0 hn0 k8 hk8 x1 x2 x3 x4 x5
    · refine j_iload C 6 rfl dX8_pivotOf_26 ?_
      refine j_aload_n C 0 rfl dX8_pivotOf_28 rfl ?_
      refine j_alen0 C (v := Int32.ofNat (alen n0)) hn0.1 hn0.2 rfl dX8_pivotOf_29 ?_
      refine j_icmp_ge C 54 dX8_pivotOf_30 (by decide) ?_ ?_
      · refine j_sub (xs1 := [(0, .ref (gad g n0)), (1, .int x1), (2, .int x2), (3, .int x3), (4, .int x4), (5, .int x5)]) [0, 1, 2, 3, 4, 5] rfl ?_
        exact wX8_pivotOf_54 C S n0 hn0 k8 hk8 x1 x2 x3 x4 x5
      · refine j_aload_n C 0 rfl dX8_pivotOf_33 rfl ?_
        refine j_iload C 6 rfl dX8_pivotOf_34 ?_
        refine j_iald C hn0.1 hn0.2 dX8_pivotOf_36 (fun j1 => ?_)
        refine j_iload C 4 rfl dX8_pivotOf_37 ?_
        refine j_callSi C [.int (gA S n0 j1), .int x4] [] ms_X8_59 (fun _ h => ctX3_exponent h) ⟨(Nat.le_of_ble_eq_true rfl), (Nat.le_of_ble_eq_true rfl)⟩ (Nat.le_of_ble_eq_true rfl) dX8_pivotOf_39 rfl (fun r2 => ?_)
        refine j_if_le C 48 dX8_pivotOf_42 (by decide) ?_ ?_
        · exact wX8_pivotOf_48 C S n0 hn0 k8 hk8 (mX8_pivotOf_20 S n0 k8 n) ih x1 x2 x3 x4 x5 x6
        · refine j_iinc C (xs2 := fun v3 => [(0, .ref (gad g n0)), (1, .int x1), (2, .int x2), (3, .int x3), (4, .int x4), (5, .int v3), (6, .int x6)]) 5 rfl dX8_pivotOf_45 (by decide) (by decide) (fun _ => rfl) (fun v3 => ?_)
          exact wX8_pivotOf_48 C S n0 hn0 k8 hk8 (mX8_pivotOf_20 S n0 k8 n) ih x1 x2 x3 x4 v3 x6
def mX8_pivotOf_8 (S : St) (n0 : Nat) : Nat → Int32 → Int32 → Int32 → Int32 → Option (Int32)
  | 0, _, _, _, _ => none
  | n + 1, x1, x2, x3, x4 => if 4 ≤ x4 then (some x2)
  else (mX8_pivotOf_20 S n0 (mX8_pivotOf_8 S n0 n) FU x1 x2 x3 x4 0 0)
theorem wX8_pivotOf_8 {κ : KT} {g : GT} (C : CX κ g RX8 cX8_pivotOf 7 (some .int) 1 21) (S : St) (n0 : Nat) (hn0 : okA g n0) : ∀ (n : Nat) (x1 : Int32) (x2 : Int32) (x3 : Int32) (x4 : Int32), J κ g 7 (fun a : Int32 => (some (Value.int a), S)) S 8 [(0, .ref (gad g n0)), (1, .int x1), (2, .int x2), (3, .int x3), (4, .int x4)] [] (mX8_pivotOf_8 S n0 n x1 x2 x3 x4) := by
  intro n
  induction n with
  | zero => intro x1 x2 x3 x4; exact j_none
  | succ n ih =>
    intro x1 x2 x3 x4
    rw [mX8_pivotOf_8]
    refine j_iload C 4 rfl dX8_pivotOf_8 ?_
    refine j_iconst C (v := 4) (by decide) dX8_pivotOf_10 ?_
    refine j_icmp_ge C 72 dX8_pivotOf_11 (by decide) ?_ ?_
    · refine j_iload_n C 2 rfl dX8_pivotOf_72 rfl ?_
      exact j_iret C rfl dX8_pivotOf_73
    · refine j_iconst C (v := 0) (by decide) dX8_pivotOf_14 ?_
      refine j_istore C (xs1 := [(0, .ref (gad g n0)), (1, .int x1), (2, .int x2), (3, .int x3), (4, .int x4), (5, .int 0)]) dX8_pivotOf_15 (by decide) rfl ?_
      refine j_iconst C (v := 0) (by decide) dX8_pivotOf_17 ?_
      refine j_istore C (xs1 := [(0, .ref (gad g n0)), (1, .int x1), (2, .int x2), (3, .int x3), (4, .int x4), (5, .int 0), (6, .int 0)]) dX8_pivotOf_18 (by decide) rfl ?_
      exact wX8_pivotOf_20 C S n0 hn0 (mX8_pivotOf_8 S n0 n) ih FU x1 x2 x3 x4 0 0
def mX8_pivotOf (S : St) (n0 : Nat) (a0 : Int32) : Option (Int32) := mX8_pivotOf_8 S n0 FU a0 (-6) 1 0
theorem wX8_pivotOf {κ : KT} {g : GT} (C : CX κ g RX8 cX8_pivotOf 7 (some .int) 1 21) (S : St) (n0 : Nat) (hn0 : okA g n0) (a0 : Int32) : J κ g 7 (fun a : Int32 => (some (Value.int a), S)) S 0 [(0, .ref (gad g n0)), (1, .int a0)] [] (mX8_pivotOf S n0 a0) := by
  unfold mX8_pivotOf
  refine j_bipush C (v := (-6)) (by decide) dX8_pivotOf_0 ?_
  refine j_istore_n C (xs1 := [(0, .ref (gad g n0)), (1, .int a0), (2, .int (-6))]) dX8_pivotOf_2 rfl (by decide) rfl ?_
  refine j_iconst C (v := 1) (by decide) dX8_pivotOf_3 ?_
  refine j_istore_n C (xs1 := [(0, .ref (gad g n0)), (1, .int a0), (2, .int (-6)), (3, .int 1)]) dX8_pivotOf_4 rfl (by decide) rfl ?_
  refine j_iconst C (v := 0) (by decide) dX8_pivotOf_5 ?_
  refine j_istore C (xs1 := [(0, .ref (gad g n0)), (1, .int a0), (2, .int (-6)), (3, .int 1), (4, .int 0)]) dX8_pivotOf_6 (by decide) rfl ?_
  exact wX8_pivotOf_8 C S n0 hn0 FU a0 (-6) 1 0
theorem ctX8_pivotOf {l : Launch} {g : GT} {S : St} {n0 : Nat} (hn0 : okA g n0) {a0 : Int32} {out : Int32} (ho : mX8_pivotOf S n0 a0 = some out) : CT l yX8_pivotOf cX8_pivotOf 7 (some .int) 1 21 [.ref (gad g n0), .int a0] g S ((fun a : Int32 => (some (Value.int a), S)) out) := CT_of (φ := (fun a : Int32 => (some (Value.int a), S))) [.ref (gad g n0), .int a0] ho (by decide) (Nat.le_of_ble_eq_true rfl) (xs := [(0, .ref (gad g n0)), (1, .int a0)]) rfl (fun κ C => wX8_pivotOf C S n0 hn0 a0)
/-! StairIdeals$Tree.keepWithout([III[I)I -/
def mX8_keepWithout_48 (n0 : Nat) (n1 : Nat) (k6 : St → Int32 → Int32 → Int32 → Int32 → Option (Int32 × St)) (S : St) (x1 : Int32) (x2 : Int32) (x4 : Int32) (x5 : Int32) : Option (Int32 × St) := bnd (x5 + 1) fun v1 => k6 S x1 x2 x4 v1
theorem wX8_keepWithout_48 {κ : KT} {g : GT} (C : CX κ g RX8 cX8_keepWithout 6 (some .int) 1 21) (n0 : Nat) (hn0 : okA g n0) (n1 : Nat) (hn1 : okA g n1) (k6 : St → Int32 → Int32 → Int32 → Int32 → Option (Int32 × St)) (hk6 : ∀ (S : St) (x1 : Int32) (x2 : Int32) (x4 : Int32) (x5 : Int32), J κ g 6 (fun a : Int32 × St => (some (Value.int a.1), a.2)) S 6 [(0, .ref (gad g n0)), (1, .int x1), (2, .int x2), (3, .ref (gad g n1)), (4, .int x4), (5, .int x5)] [] (k6 S x1 x2 x4 x5)) (S : St) (x1 : Int32) (x2 : Int32) (x4 : Int32) (x5 : Int32) : J κ g 6 (fun a : Int32 × St => (some (Value.int a.1), a.2)) S 48 [(0, .ref (gad g n0)), (1, .int x1), (2, .int x2), (3, .ref (gad g n1)), (4, .int x4), (5, .int x5)] [] (mX8_keepWithout_48 n0 n1 k6 S x1 x2 x4 x5) := by
  unfold mX8_keepWithout_48
  refine j_iinc C (xs2 := fun v1 => [(0, .ref (gad g n0)), (1, .int x1), (2, .int x2), (3, .ref (gad g n1)), (4, .int x4), (5, .int v1)]) 5 rfl dX8_keepWithout_48 (by decide) (by decide) (fun _ => rfl) (fun v1 => ?_)
  refine j_goto C 6 dX8_keepWithout_51 (by decide) ?_
  exact hk6 S x1 x2 x4 v1
def mX8_keepWithout_6 (n0 : Nat) (n1 : Nat) : Nat → St → Int32 → Int32 → Int32 → Int32 → Option (Int32 × St)
  | 0, _, _, _, _, _ => none
  | n + 1, S, x1, x2, x4, x5 => if x1 ≤ x5 then (some (x4, S))
  else (if (Int32.ofNat (alen n0)) ≤ x5 then (some (x4, S))
  else (if (Int32.ofNat (alen n1)) ≤ x4 then (some (x4, S))
  else (inb (alen n0) x5 fun j1 => (mX3_exponent (gA S n0 j1) x2).bind fun r2 => if r2 = 0 then (inb (alen n0) x5 fun j3 => inb (alen n1) x4 fun j4 => bnd (x4 + 1) fun v5 => mX8_keepWithout_48 n0 n1 (mX8_keepWithout_6 n0 n1 n) (sA S n1 j4 (gA S n0 j3)) x1 x2 v5 x5)
  else (mX8_keepWithout_48 n0 n1 (mX8_keepWithout_6 n0 n1 n) S x1 x2 x4 x5))))
theorem wX8_keepWithout_6 {κ : KT} {g : GT} (C : CX κ g RX8 cX8_keepWithout 6 (some .int) 1 21) (n0 : Nat) (hn0 : okA g n0) (n1 : Nat) (hn1 : okA g n1) : ∀ (n : Nat) (S : St) (x1 : Int32) (x2 : Int32) (x4 : Int32) (x5 : Int32), J κ g 6 (fun a : Int32 × St => (some (Value.int a.1), a.2)) S 6 [(0, .ref (gad g n0)), (1, .int x1), (2, .int x2), (3, .ref (gad g n1)), (4, .int x4), (5, .int x5)] [] (mX8_keepWithout_6 n0 n1 n S x1 x2 x4 x5) := by
  intro n
  induction n with
  | zero => intro S x1 x2 x4 x5; exact j_none
  | succ n ih =>
    intro S x1 x2 x4 x5
    rw [mX8_keepWithout_6]
    refine j_iload C 5 rfl dX8_keepWithout_6 ?_
    refine j_iload_n C 1 rfl dX8_keepWithout_8 rfl ?_
    refine j_icmp_ge C 54 dX8_keepWithout_9 (by decide) ?_ ?_
    · refine j_iload C 4 rfl dX8_keepWithout_54 ?_
      exact j_iret C rfl dX8_keepWithout_56
    · refine j_iload C 5 rfl dX8_keepWithout_12 ?_
      refine j_aload_n C 0 rfl dX8_keepWithout_14 rfl ?_
      refine j_alen0 C (v := Int32.ofNat (alen n0)) hn0.1 hn0.2 rfl dX8_keepWithout_15 ?_
      refine j_icmp_ge C 54 dX8_keepWithout_16 (by decide) ?_ ?_
      · refine j_iload C 4 rfl dX8_keepWithout_54 ?_
        exact j_iret C rfl dX8_keepWithout_56
      · refine j_iload C 4 rfl dX8_keepWithout_19 ?_
        refine j_aload_n C 3 rfl dX8_keepWithout_21 rfl ?_
        refine j_alen0 C (v := Int32.ofNat (alen n1)) hn1.1 hn1.2 rfl dX8_keepWithout_22 ?_
        refine j_icmp_ge C 54 dX8_keepWithout_23 (by decide) ?_ ?_
        · refine j_iload C 4 rfl dX8_keepWithout_54 ?_
          exact j_iret C rfl dX8_keepWithout_56
        · refine j_aload_n C 0 rfl dX8_keepWithout_26 rfl ?_
          refine j_iload C 5 rfl dX8_keepWithout_27 ?_
          refine j_iald C hn0.1 hn0.2 dX8_keepWithout_29 (fun j1 => ?_)
          refine j_iload_n C 2 rfl dX8_keepWithout_30 rfl ?_
          refine j_callSi C [.int (gA S n0 j1), .int x2] [] ms_X8_59 (fun _ h => ctX3_exponent h) ⟨(Nat.le_of_ble_eq_true rfl), (Nat.le_of_ble_eq_true rfl)⟩ (Nat.le_of_ble_eq_true rfl) dX8_keepWithout_31 rfl (fun r2 => ?_)
          refine j_if_ne C 48 dX8_keepWithout_34 (by decide) ?_ ?_
          · exact wX8_keepWithout_48 C n0 hn0 n1 hn1 (mX8_keepWithout_6 n0 n1 n) ih S x1 x2 x4 x5
          · refine j_aload_n C 3 rfl dX8_keepWithout_37 rfl ?_
            refine j_iload C 4 rfl dX8_keepWithout_38 ?_
            refine j_aload_n C 0 rfl dX8_keepWithout_40 rfl ?_
            refine j_iload C 5 rfl dX8_keepWithout_41 ?_
            refine j_iald C hn0.1 hn0.2 dX8_keepWithout_43 (fun j3 => ?_)
            refine j_iast C hn1.1 hn1.2 dX8_keepWithout_44 (fun j4 => ?_)
            refine j_iinc C (xs2 := fun v5 => [(0, .ref (gad g n0)), (1, .int x1), (2, .int x2), (3, .ref (gad g n1)), (4, .int v5), (5, .int x5)]) 4 rfl dX8_keepWithout_45 (by decide) (by decide) (fun _ => rfl) (fun v5 => ?_)
            exact wX8_keepWithout_48 C n0 hn0 n1 hn1 (mX8_keepWithout_6 n0 n1 n) ih (sA S n1 j4 (gA S n0 j3)) x1 x2 v5 x5
def mX8_keepWithout (S : St) (n0 : Nat) (n1 : Nat) (a0 : Int32) (a1 : Int32) : Option (Int32 × St) := mX8_keepWithout_6 n0 n1 FU S a0 a1 0 0
theorem wX8_keepWithout {κ : KT} {g : GT} (C : CX κ g RX8 cX8_keepWithout 6 (some .int) 1 21) (S : St) (n0 : Nat) (hn0 : okA g n0) (n1 : Nat) (hn1 : okA g n1) (a0 : Int32) (a1 : Int32) : J κ g 6 (fun a : Int32 × St => (some (Value.int a.1), a.2)) S 0 [(0, .ref (gad g n0)), (1, .int a0), (2, .int a1), (3, .ref (gad g n1))] [] (mX8_keepWithout S n0 n1 a0 a1) := by
  unfold mX8_keepWithout
  refine j_iconst C (v := 0) (by decide) dX8_keepWithout_0 ?_
  refine j_istore C (xs1 := [(0, .ref (gad g n0)), (1, .int a0), (2, .int a1), (3, .ref (gad g n1)), (4, .int 0)]) dX8_keepWithout_1 (by decide) rfl ?_
  refine j_iconst C (v := 0) (by decide) dX8_keepWithout_3 ?_
  refine j_istore C (xs1 := [(0, .ref (gad g n0)), (1, .int a0), (2, .int a1), (3, .ref (gad g n1)), (4, .int 0), (5, .int 0)]) dX8_keepWithout_4 (by decide) rfl ?_
  exact wX8_keepWithout_6 C n0 hn0 n1 hn1 FU S a0 a1 0 0
theorem ctX8_keepWithout {l : Launch} {g : GT} {S : St} {n0 : Nat} (hn0 : okA g n0) {n1 : Nat} (hn1 : okA g n1) {a0 : Int32} {a1 : Int32} {out : Int32 × St} (ho : mX8_keepWithout S n0 n1 a0 a1 = some out) : CT l yX8_keepWithout cX8_keepWithout 6 (some .int) 1 21 [.ref (gad g n0), .int a0, .int a1, .ref (gad g n1)] g S ((fun a : Int32 × St => (some (Value.int a.1), a.2)) out) := CT_of (φ := (fun a : Int32 × St => (some (Value.int a.1), a.2))) [.ref (gad g n0), .int a0, .int a1, .ref (gad g n1)] ho (by decide) (Nat.le_of_ble_eq_true rfl) (xs := [(0, .ref (gad g n0)), (1, .int a0), (2, .int a1), (3, .ref (gad g n1))]) rfl (fun κ C => wX8_keepWithout C S n0 hn0 n1 hn1 a0 a1)
/-! StairIdeals$Tree.someDivides([III)Z -/
def mX8_someDivides_2 (S : St) (n0 : Nat) : Nat → Int32 → Int32 → Int32 → Option (Int32)
  | 0, _, _, _ => none
  | n + 1, x1, x2, x3 => if x1 ≤ x3 then (some 0)
  else (if (Int32.ofNat (alen n0)) ≤ x3 then (some 0)
  else (inb (alen n0) x3 fun j1 => (mX3_divides (gA S n0 j1) x2).bind fun r2 => if r2 = 0 then (bnd (x3 + 1) fun v3 => mX8_someDivides_2 S n0 n x1 x2 v3)
  else (some 1)))
theorem wX8_someDivides_2 {κ : KT} {g : GT} (C : CX κ g RX8 cX8_someDivides 4 (some .boolean) 1 21) (S : St) (n0 : Nat) (hn0 : okA g n0) : ∀ (n : Nat) (x1 : Int32) (x2 : Int32) (x3 : Int32), J κ g 4 (fun a : Int32 => (some (Value.int a), S)) S 2 [(0, .ref (gad g n0)), (1, .int x1), (2, .int x2), (3, .int x3)] [] (mX8_someDivides_2 S n0 n x1 x2 x3) := by
  intro n
  induction n with
  | zero => intro x1 x2 x3; exact j_none
  | succ n ih =>
    intro x1 x2 x3
    rw [mX8_someDivides_2]
    refine j_iload_n C 3 rfl dX8_someDivides_2 rfl ?_
    refine j_iload_n C 1 rfl dX8_someDivides_3 rfl ?_
    refine j_icmp_ge C 31 dX8_someDivides_4 (by decide) ?_ ?_
    · refine j_iconst C (v := 0) (by decide) dX8_someDivides_31 ?_
      exact j_zret C rfl rfl dX8_someDivides_32
    · refine j_iload_n C 3 rfl dX8_someDivides_7 rfl ?_
      refine j_aload_n C 0 rfl dX8_someDivides_8 rfl ?_
      refine j_alen0 C (v := Int32.ofNat (alen n0)) hn0.1 hn0.2 rfl dX8_someDivides_9 ?_
      refine j_icmp_ge C 31 dX8_someDivides_10 (by decide) ?_ ?_
      · refine j_iconst C (v := 0) (by decide) dX8_someDivides_31 ?_
        exact j_zret C rfl rfl dX8_someDivides_32
      · refine j_aload_n C 0 rfl dX8_someDivides_13 rfl ?_
        refine j_iload_n C 3 rfl dX8_someDivides_14 rfl ?_
        refine j_iald C hn0.1 hn0.2 dX8_someDivides_15 (fun j1 => ?_)
        refine j_iload_n C 2 rfl dX8_someDivides_16 rfl ?_
        refine j_callSi C [.int (gA S n0 j1), .int x2] [] ms_X8_71 (fun _ h => ctX3_divides h) ⟨(Nat.le_of_ble_eq_true rfl), (Nat.le_of_ble_eq_true rfl)⟩ (Nat.le_of_ble_eq_true rfl) dX8_someDivides_17 rfl (fun r2 => ?_)
        refine j_if_eq C 25 dX8_someDivides_20 (by decide) ?_ ?_
        · refine j_iinc C (xs2 := fun v3 => [(0, .ref (gad g n0)), (1, .int x1), (2, .int x2), (3, .int v3)]) 3 rfl dX8_someDivides_25 (by decide) (by decide) (fun _ => rfl) (fun v3 => ?_)
          refine j_goto C 2 dX8_someDivides_28 (by decide) ?_
          exact ih x1 x2 v3
        · refine j_iconst C (v := 1) (by decide) dX8_someDivides_23 ?_
          exact j_zret C rfl rfl dX8_someDivides_24
def mX8_someDivides (S : St) (n0 : Nat) (a0 : Int32) (a1 : Int32) : Option (Int32) := mX8_someDivides_2 S n0 FU a0 a1 0
theorem wX8_someDivides {κ : KT} {g : GT} (C : CX κ g RX8 cX8_someDivides 4 (some .boolean) 1 21) (S : St) (n0 : Nat) (hn0 : okA g n0) (a0 : Int32) (a1 : Int32) : J κ g 4 (fun a : Int32 => (some (Value.int a), S)) S 0 [(0, .ref (gad g n0)), (1, .int a0), (2, .int a1)] [] (mX8_someDivides S n0 a0 a1) := by
  unfold mX8_someDivides
  refine j_iconst C (v := 0) (by decide) dX8_someDivides_0 ?_
  refine j_istore_n C (xs1 := [(0, .ref (gad g n0)), (1, .int a0), (2, .int a1), (3, .int 0)]) dX8_someDivides_1 rfl (by decide) rfl ?_
  exact wX8_someDivides_2 C S n0 hn0 FU a0 a1 0
theorem ctX8_someDivides {l : Launch} {g : GT} {S : St} {n0 : Nat} (hn0 : okA g n0) {a0 : Int32} {a1 : Int32} {out : Int32} (ho : mX8_someDivides S n0 a0 a1 = some out) : CT l yX8_someDivides cX8_someDivides 4 (some .boolean) 1 21 [.ref (gad g n0), .int a0, .int a1] g S ((fun a : Int32 => (some (Value.int a), S)) out) := CT_of (φ := (fun a : Int32 => (some (Value.int a), S))) [.ref (gad g n0), .int a0, .int a1] ho (by decide) (Nat.le_of_ble_eq_true rfl) (xs := [(0, .ref (gad g n0)), (1, .int a0), (2, .int a1)]) rfl (fun κ C => wX8_someDivides C S n0 hn0 a0 a1)
/-! StairIdeals$Tree.divide([III[I)I -/
def mX8_divide_122 (n0 : Nat) (n1 : Nat) (k67 : St → Int32 → Int32 → Int32 → Int32 → Int32 → Option (Int32 × St)) (S : St) (x1 : Int32) (x2 : Int32) (x4 : Int32) (x5 : Int32) (x6 : Int32) : Option (Int32 × St) := bnd (x6 + 1) fun v1 => k67 S x1 x2 x4 x5 v1
theorem wX8_divide_122 {κ : KT} {g : GT} (C : CX κ g RX8 cX8_divide 7 (some .int) 2 44) (n0 : Nat) (hn0 : okA g n0) (n1 : Nat) (hn1 : okA g n1) (k67 : St → Int32 → Int32 → Int32 → Int32 → Int32 → Option (Int32 × St)) (hk67 : ∀ (S : St) (x1 : Int32) (x2 : Int32) (x4 : Int32) (x5 : Int32) (x6 : Int32), J κ g 7 (fun a : Int32 × St => (some (Value.int a.1), a.2)) S 67 [(0, .ref (gad g n0)), (1, .int x1), (2, .int x2), (3, .ref (gad g n1)), (4, .int x4), (5, .int x5), (6, .int x6)] [] (k67 S x1 x2 x4 x5 x6)) (S : St) (x1 : Int32) (x2 : Int32) (x4 : Int32) (x5 : Int32) (x6 : Int32) : J κ g 7 (fun a : Int32 × St => (some (Value.int a.1), a.2)) S 122 [(0, .ref (gad g n0)), (1, .int x1), (2, .int x2), (3, .ref (gad g n1)), (4, .int x4), (5, .int x5), (6, .int x6)] [] (mX8_divide_122 n0 n1 k67 S x1 x2 x4 x5 x6) := by
  unfold mX8_divide_122
  refine j_iinc C (xs2 := fun v1 => [(0, .ref (gad g n0)), (1, .int x1), (2, .int x2), (3, .ref (gad g n1)), (4, .int x4), (5, .int x5), (6, .int v1)]) 6 rfl dX8_divide_122 (by decide) (by decide) (fun _ => rfl) (fun v1 => ?_)
  refine j_goto C 67 dX8_divide_125 (by decide) ?_
  exact hk67 S x1 x2 x4 x5 v1
def mX8_divide_67 (n0 : Nat) (n1 : Nat) : Nat → St → Int32 → Int32 → Int32 → Int32 → Int32 → Option (Int32 × St)
  | 0, _, _, _, _, _, _ => none
  | n + 1, S, x1, x2, x4, x5, x6 => if x1 ≤ x6 then (some (x5, S))
  else (if (Int32.ofNat (alen n0)) ≤ x6 then (some (x5, S))
  else (if (Int32.ofNat (alen n1)) ≤ x5 then (some (x5, S))
  else (inb (alen n0) x6 fun j1 => (mX3_exponent (gA S n0 j1) x2).bind fun r2 => if r2 = 0 then (inb (alen n0) x6 fun j3 => (mX8_someDivides S n1 x4 (gA S n0 j3)).bind fun r4 => if r4 = 0 then (inb (alen n0) x6 fun j5 => inb (alen n1) x5 fun j6 => bnd (x5 + 1) fun v7 => mX8_divide_122 n0 n1 (mX8_divide_67 n0 n1 n) (sA S n1 j6 (gA S n0 j5)) x1 x2 x4 v7 x6)
  else (mX8_divide_122 n0 n1 (mX8_divide_67 n0 n1 n) S x1 x2 x4 x5 x6))
  else (mX8_divide_122 n0 n1 (mX8_divide_67 n0 n1 n) S x1 x2 x4 x5 x6))))
theorem wX8_divide_67 {κ : KT} {g : GT} (C : CX κ g RX8 cX8_divide 7 (some .int) 2 44) (n0 : Nat) (hn0 : okA g n0) (n1 : Nat) (hn1 : okA g n1) : ∀ (n : Nat) (S : St) (x1 : Int32) (x2 : Int32) (x4 : Int32) (x5 : Int32) (x6 : Int32), J κ g 7 (fun a : Int32 × St => (some (Value.int a.1), a.2)) S 67 [(0, .ref (gad g n0)), (1, .int x1), (2, .int x2), (3, .ref (gad g n1)), (4, .int x4), (5, .int x5), (6, .int x6)] [] (mX8_divide_67 n0 n1 n S x1 x2 x4 x5 x6) := by
  intro n
  induction n with
  | zero => intro S x1 x2 x4 x5 x6; exact j_none
  | succ n ih =>
    intro S x1 x2 x4 x5 x6
    rw [mX8_divide_67]
    refine j_iload C 6 rfl dX8_divide_67 ?_
    refine j_iload_n C 1 rfl dX8_divide_69 rfl ?_
    refine j_icmp_ge C 128 dX8_divide_70 (by decide) ?_ ?_
    · refine j_iload C 5 rfl dX8_divide_128 ?_
      exact j_iret C rfl dX8_divide_130
    · refine j_iload C 6 rfl dX8_divide_73 ?_
      refine j_aload_n C 0 rfl dX8_divide_75 rfl ?_
      refine j_alen0 C (v := Int32.ofNat (alen n0)) hn0.1 hn0.2 rfl dX8_divide_76 ?_
      refine j_icmp_ge C 128 dX8_divide_77 (by decide) ?_ ?_
      · refine j_iload C 5 rfl dX8_divide_128 ?_
        exact j_iret C rfl dX8_divide_130
      · refine j_iload C 5 rfl dX8_divide_80 ?_
        refine j_aload_n C 3 rfl dX8_divide_82 rfl ?_
        refine j_alen0 C (v := Int32.ofNat (alen n1)) hn1.1 hn1.2 rfl dX8_divide_83 ?_
        refine j_icmp_ge C 128 dX8_divide_84 (by decide) ?_ ?_
        · refine j_iload C 5 rfl dX8_divide_128 ?_
          exact j_iret C rfl dX8_divide_130
        · refine j_aload_n C 0 rfl dX8_divide_87 rfl ?_
          refine j_iload C 6 rfl dX8_divide_88 ?_
          refine j_iald C hn0.1 hn0.2 dX8_divide_90 (fun j1 => ?_)
          refine j_iload_n C 2 rfl dX8_divide_91 rfl ?_
          refine j_callSi C [.int (gA S n0 j1), .int x2] [] ms_X8_59 (fun _ h => ctX3_exponent h) ⟨(Nat.le_of_ble_eq_true rfl), (Nat.le_of_ble_eq_true rfl)⟩ (Nat.le_of_ble_eq_true rfl) dX8_divide_92 rfl (fun r2 => ?_)
          refine j_if_ne C 122 dX8_divide_95 (by decide) ?_ ?_
          · exact wX8_divide_122 C n0 hn0 n1 hn1 (mX8_divide_67 n0 n1 n) ih S x1 x2 x4 x5 x6
          · refine j_aload_n C 3 rfl dX8_divide_98 rfl ?_
            refine j_iload C 4 rfl dX8_divide_99 ?_
            refine j_aload_n C 0 rfl dX8_divide_101 rfl ?_
            refine j_iload C 6 rfl dX8_divide_102 ?_
            refine j_iald C hn0.1 hn0.2 dX8_divide_104 (fun j3 => ?_)
            refine j_callSi C [.ref (gad g n1), .int x4, .int (gA S n0 j3)] [] ms_X8_67 (fun _ h => ctX8_someDivides hn1 h) ⟨(Nat.le_of_ble_eq_true rfl), (Nat.le_of_ble_eq_true rfl)⟩ (Nat.le_of_ble_eq_true rfl) dX8_divide_105 rfl (fun r4 => ?_)
            refine j_if_ne C 122 dX8_divide_108 (by decide) ?_ ?_
            · exact wX8_divide_122 C n0 hn0 n1 hn1 (mX8_divide_67 n0 n1 n) ih S x1 x2 x4 x5 x6
            · refine j_aload_n C 3 rfl dX8_divide_111 rfl ?_
              refine j_iload C 5 rfl dX8_divide_112 ?_
              refine j_aload_n C 0 rfl dX8_divide_114 rfl ?_
              refine j_iload C 6 rfl dX8_divide_115 ?_
              refine j_iald C hn0.1 hn0.2 dX8_divide_117 (fun j5 => ?_)
              refine j_iast C hn1.1 hn1.2 dX8_divide_118 (fun j6 => ?_)
              refine j_iinc C (xs2 := fun v7 => [(0, .ref (gad g n0)), (1, .int x1), (2, .int x2), (3, .ref (gad g n1)), (4, .int x4), (5, .int v7), (6, .int x6)]) 5 rfl dX8_divide_119 (by decide) (by decide) (fun _ => rfl) (fun v7 => ?_)
              exact wX8_divide_122 C n0 hn0 n1 hn1 (mX8_divide_67 n0 n1 n) ih (sA S n1 j6 (gA S n0 j5)) x1 x2 x4 v7 x6
def mX8_divide_60 (n0 : Nat) (n1 : Nat) (S : St) (x1 : Int32) (x2 : Int32) (x4 : Int32) : Option (Int32 × St) := mX8_divide_67 n0 n1 FU S x1 x2 x4 x4 0
theorem wX8_divide_60 {κ : KT} {g : GT} (C : CX κ g RX8 cX8_divide 7 (some .int) 2 44) (n0 : Nat) (hn0 : okA g n0) (n1 : Nat) (hn1 : okA g n1) (S : St) (x1 : Int32) (x2 : Int32) (x4 : Int32) : J κ g 7 (fun a : Int32 × St => (some (Value.int a.1), a.2)) S 60 [(0, .ref (gad g n0)), (1, .int x1), (2, .int x2), (3, .ref (gad g n1)), (4, .int x4)] [] (mX8_divide_60 n0 n1 S x1 x2 x4) := by
  unfold mX8_divide_60
  refine j_iload C 4 rfl dX8_divide_60 ?_
  refine j_istore C (xs1 := [(0, .ref (gad g n0)), (1, .int x1), (2, .int x2), (3, .ref (gad g n1)), (4, .int x4), (5, .int x4)]) dX8_divide_62 (by decide) rfl ?_
  refine j_iconst C (v := 0) (by decide) dX8_divide_64 ?_
  refine j_istore C (xs1 := [(0, .ref (gad g n0)), (1, .int x1), (2, .int x2), (3, .ref (gad g n1)), (4, .int x4), (5, .int x4), (6, .int 0)]) dX8_divide_65 (by decide) rfl ?_
  exact wX8_divide_67 C n0 hn0 n1 hn1 FU S x1 x2 x4 x4 0
def mX8_divide_54 (n0 : Nat) (n1 : Nat) (k6 : St → Int32 → Int32 → Int32 → Int32 → Option (Int32 × St)) (S : St) (x1 : Int32) (x2 : Int32) (x4 : Int32) (x5 : Int32) : Option (Int32 × St) := bnd (x5 + 1) fun v1 => k6 S x1 x2 x4 v1
theorem wX8_divide_54 {κ : KT} {g : GT} (C : CX κ g RX8 cX8_divide 7 (some .int) 2 44) (n0 : Nat) (hn0 : okA g n0) (n1 : Nat) (hn1 : okA g n1) (k6 : St → Int32 → Int32 → Int32 → Int32 → Option (Int32 × St)) (hk6 : ∀ (S : St) (x1 : Int32) (x2 : Int32) (x4 : Int32) (x5 : Int32), J κ g 7 (fun a : Int32 × St => (some (Value.int a.1), a.2)) S 6 [(0, .ref (gad g n0)), (1, .int x1), (2, .int x2), (3, .ref (gad g n1)), (4, .int x4), (5, .int x5)] [] (k6 S x1 x2 x4 x5)) (S : St) (x1 : Int32) (x2 : Int32) (x4 : Int32) (x5 : Int32) : J κ g 7 (fun a : Int32 × St => (some (Value.int a.1), a.2)) S 54 [(0, .ref (gad g n0)), (1, .int x1), (2, .int x2), (3, .ref (gad g n1)), (4, .int x4), (5, .int x5)] [] (mX8_divide_54 n0 n1 k6 S x1 x2 x4 x5) := by
  unfold mX8_divide_54
  refine j_iinc C (xs2 := fun v1 => [(0, .ref (gad g n0)), (1, .int x1), (2, .int x2), (3, .ref (gad g n1)), (4, .int x4), (5, .int v1)]) 5 rfl dX8_divide_54 (by decide) (by decide) (fun _ => rfl) (fun v1 => ?_)
  refine j_goto C 6 dX8_divide_57 (by decide) ?_
  exact hk6 S x1 x2 x4 v1
def mX8_divide_6 (n0 : Nat) (n1 : Nat) : Nat → St → Int32 → Int32 → Int32 → Int32 → Option (Int32 × St)
  | 0, _, _, _, _, _ => none
  | n + 1, S, x1, x2, x4, x5 => if x1 ≤ x5 then (mX8_divide_60 n0 n1 S x1 x2 x4)
  else (if (Int32.ofNat (alen n0)) ≤ x5 then (mX8_divide_60 n0 n1 S x1 x2 x4)
  else (if (Int32.ofNat (alen n1)) ≤ x4 then (mX8_divide_60 n0 n1 S x1 x2 x4)
  else (inb (alen n0) x5 fun j1 => (mX3_exponent (gA S n0 j1) x2).bind fun r2 => if r2 ≤ 0 then (mX8_divide_54 n0 n1 (mX8_divide_6 n0 n1 n) S x1 x2 x4 x5)
  else (inb (alen n0) x5 fun j3 => (mX3_power x2 1).bind fun r4 => inb (alen n1) x4 fun j5 => bnd (x4 + 1) fun v6 => mX8_divide_54 n0 n1 (mX8_divide_6 n0 n1 n) (sA S n1 j5 ((gA S n0 j3) - r4)) x1 x2 v6 x5))))
theorem wX8_divide_6 {κ : KT} {g : GT} (C : CX κ g RX8 cX8_divide 7 (some .int) 2 44) (n0 : Nat) (hn0 : okA g n0) (n1 : Nat) (hn1 : okA g n1) : ∀ (n : Nat) (S : St) (x1 : Int32) (x2 : Int32) (x4 : Int32) (x5 : Int32), J κ g 7 (fun a : Int32 × St => (some (Value.int a.1), a.2)) S 6 [(0, .ref (gad g n0)), (1, .int x1), (2, .int x2), (3, .ref (gad g n1)), (4, .int x4), (5, .int x5)] [] (mX8_divide_6 n0 n1 n S x1 x2 x4 x5) := by
  intro n
  induction n with
  | zero => intro S x1 x2 x4 x5; exact j_none
  | succ n ih =>
    intro S x1 x2 x4 x5
    rw [mX8_divide_6]
    refine j_iload C 5 rfl dX8_divide_6 ?_
    refine j_iload_n C 1 rfl dX8_divide_8 rfl ?_
    refine j_icmp_ge C 60 dX8_divide_9 (by decide) ?_ ?_
    · refine j_sub (xs1 := [(0, .ref (gad g n0)), (1, .int x1), (2, .int x2), (3, .ref (gad g n1)), (4, .int x4)]) [0, 1, 2, 3, 4] rfl ?_
      exact wX8_divide_60 C n0 hn0 n1 hn1 S x1 x2 x4
    · refine j_iload C 5 rfl dX8_divide_12 ?_
      refine j_aload_n C 0 rfl dX8_divide_14 rfl ?_
      refine j_alen0 C (v := Int32.ofNat (alen n0)) hn0.1 hn0.2 rfl dX8_divide_15 ?_
      refine j_icmp_ge C 60 dX8_divide_16 (by decide) ?_ ?_
      · refine j_sub (xs1 := [(0, .ref (gad g n0)), (1, .int x1), (2, .int x2), (3, .ref (gad g n1)), (4, .int x4)]) [0, 1, 2, 3, 4] rfl ?_
        exact wX8_divide_60 C n0 hn0 n1 hn1 S x1 x2 x4
      · refine j_iload C 4 rfl dX8_divide_19 ?_
        refine j_aload_n C 3 rfl dX8_divide_21 rfl ?_
        refine j_alen0 C (v := Int32.ofNat (alen n1)) hn1.1 hn1.2 rfl dX8_divide_22 ?_
        refine j_icmp_ge C 60 dX8_divide_23 (by decide) ?_ ?_
        · refine j_sub (xs1 := [(0, .ref (gad g n0)), (1, .int x1), (2, .int x2), (3, .ref (gad g n1)), (4, .int x4)]) [0, 1, 2, 3, 4] rfl ?_
          exact wX8_divide_60 C n0 hn0 n1 hn1 S x1 x2 x4
        · refine j_aload_n C 0 rfl dX8_divide_26 rfl ?_
          refine j_iload C 5 rfl dX8_divide_27 ?_
          refine j_iald C hn0.1 hn0.2 dX8_divide_29 (fun j1 => ?_)
          refine j_iload_n C 2 rfl dX8_divide_30 rfl ?_
          refine j_callSi C [.int (gA S n0 j1), .int x2] [] ms_X8_59 (fun _ h => ctX3_exponent h) ⟨(Nat.le_of_ble_eq_true rfl), (Nat.le_of_ble_eq_true rfl)⟩ (Nat.le_of_ble_eq_true rfl) dX8_divide_31 rfl (fun r2 => ?_)
          refine j_if_le C 54 dX8_divide_34 (by decide) ?_ ?_
          · exact wX8_divide_54 C n0 hn0 n1 hn1 (mX8_divide_6 n0 n1 n) ih S x1 x2 x4 x5
          · refine j_aload_n C 3 rfl dX8_divide_37 rfl ?_
            refine j_iload C 4 rfl dX8_divide_38 ?_
            refine j_aload_n C 0 rfl dX8_divide_40 rfl ?_
            refine j_iload C 5 rfl dX8_divide_41 ?_
            refine j_iald C hn0.1 hn0.2 dX8_divide_43 (fun j3 => ?_)
            refine j_iload_n C 2 rfl dX8_divide_44 rfl ?_
            refine j_iconst C (v := 1) (by decide) dX8_divide_45 ?_
            refine j_callSi C [.int x2, .int 1] [.int (gA S n0 j3), .int x4, .ref (gad g n1)] ms_X8_64 (fun _ h => ctX3_power h) ⟨(Nat.le_of_ble_eq_true rfl), (Nat.le_of_ble_eq_true rfl)⟩ (Nat.le_of_ble_eq_true rfl) dX8_divide_46 rfl (fun r4 => ?_)
            refine j_isub C dX8_divide_49 ?_
            refine j_iast C hn1.1 hn1.2 dX8_divide_50 (fun j5 => ?_)
            refine j_iinc C (xs2 := fun v6 => [(0, .ref (gad g n0)), (1, .int x1), (2, .int x2), (3, .ref (gad g n1)), (4, .int v6), (5, .int x5)]) 4 rfl dX8_divide_51 (by decide) (by decide) (fun _ => rfl) (fun v6 => ?_)
            exact wX8_divide_54 C n0 hn0 n1 hn1 (mX8_divide_6 n0 n1 n) ih (sA S n1 j5 ((gA S n0 j3) - r4)) x1 x2 v6 x5
def mX8_divide (S : St) (n0 : Nat) (n1 : Nat) (a0 : Int32) (a1 : Int32) : Option (Int32 × St) := mX8_divide_6 n0 n1 FU S a0 a1 0 0
theorem wX8_divide {κ : KT} {g : GT} (C : CX κ g RX8 cX8_divide 7 (some .int) 2 44) (S : St) (n0 : Nat) (hn0 : okA g n0) (n1 : Nat) (hn1 : okA g n1) (a0 : Int32) (a1 : Int32) : J κ g 7 (fun a : Int32 × St => (some (Value.int a.1), a.2)) S 0 [(0, .ref (gad g n0)), (1, .int a0), (2, .int a1), (3, .ref (gad g n1))] [] (mX8_divide S n0 n1 a0 a1) := by
  unfold mX8_divide
  refine j_iconst C (v := 0) (by decide) dX8_divide_0 ?_
  refine j_istore C (xs1 := [(0, .ref (gad g n0)), (1, .int a0), (2, .int a1), (3, .ref (gad g n1)), (4, .int 0)]) dX8_divide_1 (by decide) rfl ?_
  refine j_iconst C (v := 0) (by decide) dX8_divide_3 ?_
  refine j_istore C (xs1 := [(0, .ref (gad g n0)), (1, .int a0), (2, .int a1), (3, .ref (gad g n1)), (4, .int 0), (5, .int 0)]) dX8_divide_4 (by decide) rfl ?_
  exact wX8_divide_6 C n0 hn0 n1 hn1 FU S a0 a1 0 0
theorem ctX8_divide {l : Launch} {g : GT} {S : St} {n0 : Nat} (hn0 : okA g n0) {n1 : Nat} (hn1 : okA g n1) {a0 : Int32} {a1 : Int32} {out : Int32 × St} (ho : mX8_divide S n0 n1 a0 a1 = some out) : CT l yX8_divide cX8_divide 7 (some .int) 2 44 [.ref (gad g n0), .int a0, .int a1, .ref (gad g n1)] g S ((fun a : Int32 × St => (some (Value.int a.1), a.2)) out) := CT_of (φ := (fun a : Int32 × St => (some (Value.int a.1), a.2))) [.ref (gad g n0), .int a0, .int a1, .ref (gad g n1)] ho (by decide) (Nat.le_of_ble_eq_true rfl) (xs := [(0, .ref (gad g n0)), (1, .int a0), (2, .int a1), (3, .ref (gad g n1))]) rfl (fun κ C => wX8_divide C S n0 hn0 n1 hn1 a0 a1)
/-! StairIdeals$Tree.branch(LStairIdeals$Tree;II)V -/
def mX8_branch : Nat → St → Int32 → Int32 → Option (St)
  | 0, _, _, _ => none
  | d + 1, S, a0, a1 => if a0 < 24 then (inb 25 a0 fun j1 => (mX8_pivotOf S (el 29 j1) a1).bind fun r2 => if r2 = (-6) then (some S)
  else (inb 25 a0 fun j3 => inb 25 (a0 + 1) fun j4 => (mX8_keepWithout (sI (sI S 28 0 ((gI S 28 0) + 1)) 28 1 (imax (gI (sI S 28 0 ((gI S 28 0) + 1)) 28 1) (a0 + 1))) (el 29 j3) (el 29 j4) a1 r2).bind fun r5 => (mX8_branch d r5.2 (a0 + 1) r5.1).bind fun r6 => inb 25 a0 fun j7 => inb 25 (a0 + 1) fun j8 => (mX8_divide r6 (el 29 j7) (el 29 j8) a1 r2).bind fun r9 => (mX8_branch d r9.2 (a0 + 1) r9.1).bind fun r10 => some r10))
  else (some S)
theorem ctX8_branch_d {g : GT} : ∀ (d : Nat) (l : Launch) (S : St) (a0 : Int32) (a1 : Int32) (out : St), mX8_branch d S a0 a1 = some out → CT l yX8_branch cX8_branch 4 none ((4 + d)) ((110 + 23 * d)) [.ref (gad g 28), .int a0, .int a1] g S ((fun a : St => (none, a)) out) := by
  intro d
  induction d with
  | zero => intro l S a0 a1 out ho; cases ho
  | succ d ihd =>
    intro l S a0 a1 out ho
    refine CT_of (φ := (fun a : St => (none, a))) [.ref (gad g 28), .int a0, .int a1] ho (by decide) (Nat.le_of_ble_eq_true rfl) (xs := [(0, .ref (gad g 28)), (1, .int a0), (2, .int a1)]) rfl (fun κ C => ?_)
    rw [mX8_branch]
    refine j_iload_n C 1 rfl dX8_branch_0 rfl ?_
    refine j_bipush C (v := 24) (by decide) dX8_branch_1 ?_
    refine j_icmp_lt C 7 dX8_branch_3 (by decide) ?_ ?_
    · refine j_aload_n C 0 rfl dX8_branch_7 rfl ?_
      refine j_getR C (x := 29) fl_X8_13 sh_28 rfl rfl dX8_branch_8 ?_
      refine j_iload_n C 1 rfl dX8_branch_11 rfl ?_
      refine j_aald4 C sh_29 rfl dX8_branch_12 (fun j1 hj1 => ?_)
      refine j_iload_n C 2 rfl dX8_branch_13 rfl ?_
      refine j_callSi C [.ref (gad g (el 29 j1)), .int a1] [] ms_X8_42 (fun _ h => ctX8_pivotOf (okA_29 (g := g) hj1) h) ⟨by omega, by omega⟩ (Nat.le_of_ble_eq_true rfl) dX8_branch_14 rfl (fun r2 => ?_)
      refine j_istore_n C (xs1 := [(0, .ref (gad g 28)), (1, .int a0), (2, .int a1), (3, .int r2)]) dX8_branch_17 rfl (by decide) rfl ?_
      refine j_iload_n C 3 rfl dX8_branch_18 rfl ?_
      refine j_bipush C (v := (-6)) (by decide) dX8_branch_19 ?_
      refine j_icmp_ne C 25 dX8_branch_21 (by decide) ?_ ?_
      · refine j_aload_n C 0 rfl dX8_branch_25 rfl ?_
        refine j_dup C rfl dX8_branch_26 ?_
        refine j_getI C fl_X8_16 sh_28 rfl rfl dX8_branch_27 ?_
        refine j_iconst C (v := 1) (by decide) dX8_branch_30 ?_
        refine j_iadd C dX8_branch_31 ?_
        refine j_putI C fp_X8_16 sh_28 rfl rfl rfl rfl dX8_branch_32 ?_
        refine j_aload_n C 0 rfl dX8_branch_35 rfl ?_
        refine j_aload_n C 0 rfl dX8_branch_36 rfl ?_
        refine j_getI C fl_X8_20 sh_28 rfl rfl dX8_branch_37 ?_
        refine j_iload_n C 1 rfl dX8_branch_40 rfl ?_
        refine j_iconst C (v := 1) (by decide) dX8_branch_41 ?_
        refine j_iadd C dX8_branch_42 ?_
        refine j_mmax C wd_593 (Nat.le_of_ble_eq_true rfl) (Nat.le_of_ble_eq_true rfl) dX8_branch_43 ?_
        refine j_putI C fp_X8_20 sh_28 rfl rfl rfl rfl dX8_branch_46 ?_
        refine j_aload_n C 0 rfl dX8_branch_49 rfl ?_
        refine j_iload_n C 1 rfl dX8_branch_50 rfl ?_
        refine j_iconst C (v := 1) (by decide) dX8_branch_51 ?_
        refine j_iadd C dX8_branch_52 ?_
        refine j_aload_n C 0 rfl dX8_branch_53 rfl ?_
        refine j_getR C (x := 29) fl_X8_13 sh_28 rfl rfl dX8_branch_54 ?_
        refine j_iload_n C 1 rfl dX8_branch_57 rfl ?_
        refine j_aald4 C sh_29 rfl dX8_branch_58 (fun j3 hj3 => ?_)
        refine j_iload_n C 2 rfl dX8_branch_59 rfl ?_
        refine j_iload_n C 3 rfl dX8_branch_60 rfl ?_
        refine j_aload_n C 0 rfl dX8_branch_61 rfl ?_
        refine j_getR C (x := 29) fl_X8_13 sh_28 rfl rfl dX8_branch_62 ?_
        refine j_iload_n C 1 rfl dX8_branch_65 rfl ?_
        refine j_iconst C (v := 1) (by decide) dX8_branch_66 ?_
        refine j_iadd C dX8_branch_67 ?_
        refine j_aald4 C sh_29 rfl dX8_branch_68 (fun j4 hj4 => ?_)
        refine j_callSiS C [.ref (gad g (el 29 j3)), .int a1, .int r2, .ref (gad g (el 29 j4))] [.int (a0 + 1), .ref (gad g 28)] ms_X8_52 (fun _ h => ctX8_keepWithout (okA_29 (g := g) hj3) (okA_29 (g := g) hj4) h) ⟨by omega, by omega⟩ (Nat.le_of_ble_eq_true rfl) dX8_branch_69 rfl (fun r5 => ?_)
        refine j_callSvS C [.ref (gad g 28), .int (a0 + 1), .int r5.1] [] ms_X8_38 (fun _ h => ihd _ _ _ _ _ h) ⟨by omega, by omega⟩ (Nat.le_of_ble_eq_true rfl) dX8_branch_72 rfl (fun r6 => ?_)
        refine j_aload_n C 0 rfl dX8_branch_75 rfl ?_
        refine j_iload_n C 1 rfl dX8_branch_76 rfl ?_
        refine j_iconst C (v := 1) (by decide) dX8_branch_77 ?_
        refine j_iadd C dX8_branch_78 ?_
        refine j_aload_n C 0 rfl dX8_branch_79 rfl ?_
        refine j_getR C (x := 29) fl_X8_13 sh_28 rfl rfl dX8_branch_80 ?_
        refine j_iload_n C 1 rfl dX8_branch_83 rfl ?_
        refine j_aald4 C sh_29 rfl dX8_branch_84 (fun j7 hj7 => ?_)
        refine j_iload_n C 2 rfl dX8_branch_85 rfl ?_
        refine j_iload_n C 3 rfl dX8_branch_86 rfl ?_
        refine j_aload_n C 0 rfl dX8_branch_87 rfl ?_
        refine j_getR C (x := 29) fl_X8_13 sh_28 rfl rfl dX8_branch_88 ?_
        refine j_iload_n C 1 rfl dX8_branch_91 rfl ?_
        refine j_iconst C (v := 1) (by decide) dX8_branch_92 ?_
        refine j_iadd C dX8_branch_93 ?_
        refine j_aald4 C sh_29 rfl dX8_branch_94 (fun j8 hj8 => ?_)
        refine j_callSiS C [.ref (gad g (el 29 j7)), .int a1, .int r2, .ref (gad g (el 29 j8))] [.int (a0 + 1), .ref (gad g 28)] ms_X8_56 (fun _ h => ctX8_divide (okA_29 (g := g) hj7) (okA_29 (g := g) hj8) h) ⟨by omega, by omega⟩ (Nat.le_of_ble_eq_true rfl) dX8_branch_95 rfl (fun r9 => ?_)
        refine j_callSvS C [.ref (gad g 28), .int (a0 + 1), .int r9.1] [] ms_X8_38 (fun _ h => ihd _ _ _ _ _ h) ⟨by omega, by omega⟩ (Nat.le_of_ble_eq_true rfl) dX8_branch_98 rfl (fun r10 => ?_)
        exact j_vret C rfl dX8_branch_101
      · exact j_vret C rfl dX8_branch_24
    · exact j_vret C rfl dX8_branch_6
theorem ctX8_branch {l : Launch} {g : GT} {S : St} {a0 : Int32} {a1 : Int32} {out : St} (ho : mX8_branch 25 S a0 a1 = some out) : CT l yX8_branch cX8_branch 4 none 29 685 [.ref (gad g 28), .int a0, .int a1] g S ((fun a : St => (none, a)) out) := ctX8_branch_d 25 l S a0 a1 out ho
/-! StairIdeals$Tree.grow(LStairIdeals$Ideal;)V -/
def mX8_grow (S : St) (n0 : Nat) : Option (St) := inb 25 0 fun j1 => (mX8_branch 25 (sAf (sI (sI S 28 0 0) 28 1 0) (el 29 j1) (va_cpy (gA (sI (sI S 28 0 0) 28 1 0) (n0 + 1)) (gA (sI (sI S 28 0 0) 28 1 0) (el 29 j1)) 0 0 40)) 0 (gI (sAf (sI (sI S 28 0 0) 28 1 0) (el 29 j1) (va_cpy (gA (sI (sI S 28 0 0) 28 1 0) (n0 + 1)) (gA (sI (sI S 28 0 0) 28 1 0) (el 29 j1)) 0 0 40)) n0 1)).bind fun r2 => some r2
theorem wX8_grow {κ : KT} {g : GT} (C : CX κ g RX8 cX8_grow 2 none 30 708) (S : St) (n0 : Nat) (hn0 : okI g n0) : J κ g 2 (fun a : St => (none, a)) S 0 [(0, .ref (gad g 28)), (1, .ref (gad g n0))] [] (mX8_grow S n0) := by
  unfold mX8_grow
  refine j_aload_n C 0 rfl dX8_grow_0 rfl ?_
  refine j_iconst C (v := 0) (by decide) dX8_grow_1 ?_
  refine j_putI C fp_X8_16 sh_28 rfl rfl rfl rfl dX8_grow_2 ?_
  refine j_aload_n C 0 rfl dX8_grow_5 rfl ?_
  refine j_iconst C (v := 0) (by decide) dX8_grow_6 ?_
  refine j_putI C fp_X8_20 sh_28 rfl rfl rfl rfl dX8_grow_7 ?_
  refine j_aload_n C 1 rfl dX8_grow_10 rfl ?_
  refine j_getR C (x := n0 + 1) fl_X8_23 hn0.1 hn0.2.2.1 rfl dX8_grow_11 ?_
  refine j_iconst C (v := 0) (by decide) dX8_grow_14 ?_
  refine j_aload_n C 0 rfl dX8_grow_15 rfl ?_
  refine j_getR C (x := 29) fl_X8_13 sh_28 rfl rfl dX8_grow_16 ?_
  refine j_iconst C (v := 0) (by decide) dX8_grow_19 ?_
  refine j_aald4 C sh_29 rfl dX8_grow_20 (fun j1 hj1 => ?_)
  refine j_iconst C (v := 0) (by decide) dX8_grow_21 ?_
  refine j_bipush C (v := 40) (by decide) dX8_grow_22 ?_
  refine j_copy40 C hn0.2.1 (sh_row hj1) hn0.2.2.2 (okA_29 (g := g) hj1).2 wd_583 (Nat.le_of_ble_eq_true rfl) (Nat.le_of_ble_eq_true rfl) dX8_grow_24 ?_
  refine j_aload_n C 0 rfl dX8_grow_27 rfl ?_
  refine j_iconst C (v := 0) (by decide) dX8_grow_28 ?_
  refine j_aload_n C 1 rfl dX8_grow_29 rfl ?_
  refine j_getI C fl_X8_35 hn0.1 hn0.2.2.1 rfl dX8_grow_30 ?_
  refine j_callSvS C [.ref (gad g 28), .int 0, .int (gI (sAf (sI (sI S 28 0 0) 28 1 0) (el 29 j1) (va_cpy (gA (sI (sI S 28 0 0) 28 1 0) (n0 + 1)) (gA (sI (sI S 28 0 0) 28 1 0) (el 29 j1)) 0 0 40)) n0 1)] [] ms_X8_38 (fun _ h => ctX8_branch h) ⟨(Nat.le_of_ble_eq_true rfl), (Nat.le_of_ble_eq_true rfl)⟩ (Nat.le_of_ble_eq_true rfl) dX8_grow_33 rfl (fun r2 => ?_)
  exact j_vret C rfl dX8_grow_36
theorem ctX8_grow {l : Launch} {g : GT} {S : St} {n0 : Nat} (hn0 : okI g n0) {out : St} (ho : mX8_grow S n0 = some out) : CT l yX8_grow cX8_grow 2 none 30 708 [.ref (gad g 28), .ref (gad g n0)] g S ((fun a : St => (none, a)) out) := CT_of (φ := (fun a : St => (none, a))) [.ref (gad g 28), .ref (gad g n0)] ho (by decide) (Nat.le_of_ble_eq_true rfl) (xs := [(0, .ref (gad g 28)), (1, .ref (gad g n0))]) rfl (fun κ C => wX8_grow C S n0 hn0)
/-! StairIdeals$Survey.pivots(LStairIdeals$Ideal;)I -/
def mX7_pivots (S : St) (n0 : Nat) : Option (Int32 × St) := (mX8_grow S n0).bind fun r1 => some (gI r1 28 0, r1)
theorem wX7_pivots {κ : KT} {g : GT} (C : CX κ g RX7 cX7_pivots 2 (some .int) 31 729) (S : St) (n0 : Nat) (hn0 : okI g n0) : J κ g 2 (fun a : Int32 × St => (some (Value.int a.1), a.2)) S 0 [(0, .ref (gad g 24)), (1, .ref (gad g n0))] [] (mX7_pivots S n0) := by
  unfold mX7_pivots
  refine j_aload_n C 0 rfl dX7_pivots_0 rfl ?_
  refine j_getR C (x := 28) fl_X7_32 sh_24 rfl rfl dX7_pivots_1 ?_
  refine j_aload_n C 1 rfl dX7_pivots_4 rfl ?_
  refine j_callVvS C [.ref (gad g n0)] [] mv_X7_78 sh_28 rfl rfl (fun _ h => ctX8_grow hn0 h) ⟨(Nat.le_of_ble_eq_true rfl), (Nat.le_of_ble_eq_true rfl)⟩ (Nat.le_of_ble_eq_true rfl) dX7_pivots_5 rfl (fun r1 => ?_)
  refine j_aload_n C 0 rfl dX7_pivots_8 rfl ?_
  refine j_getR C (x := 28) fl_X7_32 sh_24 rfl rfl dX7_pivots_9 ?_
  refine j_getI C fl_X7_81 sh_28 rfl rfl dX7_pivots_12 ?_
  exact j_iret C rfl dX7_pivots_15
theorem ctX7_pivots {l : Launch} {g : GT} {S : St} {n0 : Nat} (hn0 : okI g n0) {out : Int32 × St} (ho : mX7_pivots S n0 = some out) : CT l yX7_pivots cX7_pivots 2 (some .int) 31 729 [.ref (gad g 24), .ref (gad g n0)] g S ((fun a : Int32 × St => (some (Value.int a.1), a.2)) out) := CT_of (φ := (fun a : Int32 × St => (some (Value.int a.1), a.2))) [.ref (gad g 24), .ref (gad g n0)] ho (by decide) (Nat.le_of_ble_eq_true rfl) (xs := [(0, .ref (gad g 24)), (1, .ref (gad g n0))]) rfl (fun κ C => wX7_pivots C S n0 hn0)
/-! StairIdeals$Survey.nestedPivots(LStairIdeals$Ideal;)I -/
def mX7_nestedPivots (S : St) (n0 : Nat) : Option (Int32 × St) := (mX8_grow S n0).bind fun r1 => some (gI r1 28 1, r1)
theorem wX7_nestedPivots {κ : KT} {g : GT} (C : CX κ g RX7 cX7_nestedPivots 2 (some .int) 31 729) (S : St) (n0 : Nat) (hn0 : okI g n0) : J κ g 2 (fun a : Int32 × St => (some (Value.int a.1), a.2)) S 0 [(0, .ref (gad g 24)), (1, .ref (gad g n0))] [] (mX7_nestedPivots S n0) := by
  unfold mX7_nestedPivots
  refine j_aload_n C 0 rfl dX7_nestedPivots_0 rfl ?_
  refine j_getR C (x := 28) fl_X7_32 sh_24 rfl rfl dX7_nestedPivots_1 ?_
  refine j_aload_n C 1 rfl dX7_nestedPivots_4 rfl ?_
  refine j_callVvS C [.ref (gad g n0)] [] mv_X7_78 sh_28 rfl rfl (fun _ h => ctX8_grow hn0 h) ⟨(Nat.le_of_ble_eq_true rfl), (Nat.le_of_ble_eq_true rfl)⟩ (Nat.le_of_ble_eq_true rfl) dX7_nestedPivots_5 rfl (fun r1 => ?_)
  refine j_aload_n C 0 rfl dX7_nestedPivots_8 rfl ?_
  refine j_getR C (x := 28) fl_X7_32 sh_24 rfl rfl dX7_nestedPivots_9 ?_
  refine j_getI C fl_X7_85 sh_28 rfl rfl dX7_nestedPivots_12 ?_
  exact j_iret C rfl dX7_nestedPivots_15
theorem ctX7_nestedPivots {l : Launch} {g : GT} {S : St} {n0 : Nat} (hn0 : okI g n0) {out : Int32 × St} (ho : mX7_nestedPivots S n0 = some out) : CT l yX7_nestedPivots cX7_nestedPivots 2 (some .int) 31 729 [.ref (gad g 24), .ref (gad g n0)] g S ((fun a : Int32 × St => (some (Value.int a.1), a.2)) out) := CT_of (φ := (fun a : Int32 × St => (some (Value.int a.1), a.2))) [.ref (gad g 24), .ref (gad g n0)] ho (by decide) (Nat.le_of_ble_eq_true rfl) (xs := [(0, .ref (gad g 24)), (1, .ref (gad g n0))]) rfl (fun κ C => wX7_nestedPivots C S n0 hn0)
/-! StairIdeals$Survey.latticeSize(LStairIdeals$Ideal;)I -/
def mX7_latticeSize_46 (S : St) (n0 : Nat) (k4 : Int32 → Int32 → Option (Int32)) (k22 : Int32 → Int32 → Int32 → Option (Int32)) (x2 : Int32) (x3 : Int32) (x4 : Int32) : Option (Int32) := bnd (x4 + 1) fun v1 => k22 x2 x3 v1
theorem wX7_latticeSize_46 {κ : KT} {g : GT} (C : CX κ g RX7 cX7_latticeSize 5 (some .int) 3 66) (S : St) (n0 : Nat) (hn0 : okI g n0) (k4 : Int32 → Int32 → Option (Int32)) (hk4 : ∀ (x2 : Int32) (x3 : Int32), J κ g 5 (fun a : Int32 => (some (Value.int a), S)) S 4 [(0, .ref (gad g 24)), (1, .ref (gad g n0)), (2, .int x2), (3, .int x3)] [] (k4 x2 x3)) (k22 : Int32 → Int32 → Int32 → Option (Int32)) (hk22 : ∀ (x2 : Int32) (x3 : Int32) (x4 : Int32), J κ g 5 (fun a : Int32 => (some (Value.int a), S)) S 22 [(0, .ref (gad g 24)), (1, .ref (gad g n0)), (2, .int x2), (3, .int x3), (4, .int x4)] [] (k22 x2 x3 x4)) (x2 : Int32) (x3 : Int32) (x4 : Int32) : J κ g 5 (fun a : Int32 => (some (Value.int a), S)) S 46 [(0, .ref (gad g 24)), (1, .ref (gad g n0)), (2, .int x2), (3, .int x3), (4, .int x4)] [] (mX7_latticeSize_46 S n0 k4 k22 x2 x3 x4) := by
  unfold mX7_latticeSize_46
  refine j_iinc C (xs2 := fun v1 => [(0, .ref (gad g 24)), (1, .ref (gad g n0)), (2, .int x2), (3, .int x3), (4, .int v1)]) 4 rfl dX7_latticeSize_46 (by decide) (by decide) (fun _ => rfl) (fun v1 => ?_)
  refine j_goto C 22 dX7_latticeSize_49 (by decide) ?_
  exact hk22 x2 x3 v1
def mX7_latticeSize_22 (S : St) (n0 : Nat) (k4 : Int32 → Int32 → Option (Int32)) : Nat → Int32 → Int32 → Int32 → Option (Int32)
  | 0, _, _, _ => none
  | n + 1, x2, x3, x4 => if 6 < x4 then (bnd (x3 + 1) fun v1 => k4 x2 v1)
  else ((mX6_monomialOf x3).bind fun r2 => (mX2_isCommonMultiple S n0 (r2 ||| x4)).bind fun r3 => if r3 = 0 then (mX7_latticeSize_46 S n0 k4 (mX7_latticeSize_22 S n0 k4 n) x2 x3 x4)
  else (bnd (x2 + 1) fun v4 => mX7_latticeSize_46 S n0 k4 (mX7_latticeSize_22 S n0 k4 n) v4 x3 x4))
theorem wX7_latticeSize_22 {κ : KT} {g : GT} (C : CX κ g RX7 cX7_latticeSize 5 (some .int) 3 66) (S : St) (n0 : Nat) (hn0 : okI g n0) (k4 : Int32 → Int32 → Option (Int32)) (hk4 : ∀ (x2 : Int32) (x3 : Int32), J κ g 5 (fun a : Int32 => (some (Value.int a), S)) S 4 [(0, .ref (gad g 24)), (1, .ref (gad g n0)), (2, .int x2), (3, .int x3)] [] (k4 x2 x3)) : ∀ (n : Nat) (x2 : Int32) (x3 : Int32) (x4 : Int32), J κ g 5 (fun a : Int32 => (some (Value.int a), S)) S 22 [(0, .ref (gad g 24)), (1, .ref (gad g n0)), (2, .int x2), (3, .int x3), (4, .int x4)] [] (mX7_latticeSize_22 S n0 k4 n x2 x3 x4) := by
  intro n
  induction n with
  | zero => intro x2 x3 x4; exact j_none
  | succ n ih =>
    intro x2 x3 x4
    rw [mX7_latticeSize_22]
    refine j_iload C 4 rfl dX7_latticeSize_22 ?_
    refine j_bipush C (v := 6) (by decide) dX7_latticeSize_24 ?_
    refine j_icmp_gt C 52 dX7_latticeSize_26 (by decide) ?_ ?_
    · refine j_iinc C (xs2 := fun v1 => [(0, .ref (gad g 24)), (1, .ref (gad g n0)), (2, .int x2), (3, .int v1), (4, .int x4)]) 3 rfl dX7_latticeSize_52 (by decide) (by decide) (fun _ => rfl) (fun v1 => ?_)
      refine j_goto C 4 dX7_latticeSize_55 (by decide) ?_
      refine j_sub (xs1 := [(0, .ref (gad g 24)), (1, .ref (gad g n0)), (2, .int x2), (3, .int v1)]) [0, 1, 2, 3] rfl ?_
      exact hk4 x2 v1
    · refine j_aload_n C 1 rfl dX7_latticeSize_29 rfl ?_
      refine j_iload_n C 3 rfl dX7_latticeSize_30 rfl ?_
      refine j_callSi C [.int x3] [.ref (gad g n0)] ms_X7_61 (fun _ h => ctX6_monomialOf h) ⟨(Nat.le_of_ble_eq_true rfl), (Nat.le_of_ble_eq_true rfl)⟩ (Nat.le_of_ble_eq_true rfl) dX7_latticeSize_31 rfl (fun r2 => ?_)
      refine j_iload C 4 rfl dX7_latticeSize_34 ?_
      refine j_ior C dX7_latticeSize_36 ?_
      refine j_callVi C [.int (r2 ||| x4)] [] mv_X7_88 hn0.1 hn0.2.2.1 rfl (fun _ h => ctX2_isCommonMultiple hn0 h) ⟨(Nat.le_of_ble_eq_true rfl), (Nat.le_of_ble_eq_true rfl)⟩ (Nat.le_of_ble_eq_true rfl) dX7_latticeSize_37 rfl (fun r3 => ?_)
      refine j_if_eq C 46 dX7_latticeSize_40 (by decide) ?_ ?_
      · exact wX7_latticeSize_46 C S n0 hn0 k4 hk4 (mX7_latticeSize_22 S n0 k4 n) ih x2 x3 x4
      · refine j_iinc C (xs2 := fun v4 => [(0, .ref (gad g 24)), (1, .ref (gad g n0)), (2, .int v4), (3, .int x3), (4, .int x4)]) 2 rfl dX7_latticeSize_43 (by decide) (by decide) (fun _ => rfl) (fun v4 => ?_)
        exact wX7_latticeSize_46 C S n0 hn0 k4 hk4 (mX7_latticeSize_22 S n0 k4 n) ih v4 x3 x4
def mX7_latticeSize_4 (S : St) (n0 : Nat) : Nat → Int32 → Int32 → Option (Int32)
  | 0, _, _ => none
  | n + 1, x2, x3 => if 343 ≤ x3 then (some x2)
  else (inb 343 x3 fun j1 => bnd (gA S 60 j1) fun v2 => mX7_latticeSize_22 S n0 (mX7_latticeSize_4 S n0 n) FU x2 x3 v2)
theorem wX7_latticeSize_4 {κ : KT} {g : GT} (C : CX κ g RX7 cX7_latticeSize 5 (some .int) 3 66) (S : St) (n0 : Nat) (hn0 : okI g n0) : ∀ (n : Nat) (x2 : Int32) (x3 : Int32), J κ g 5 (fun a : Int32 => (some (Value.int a), S)) S 4 [(0, .ref (gad g 24)), (1, .ref (gad g n0)), (2, .int x2), (3, .int x3)] [] (mX7_latticeSize_4 S n0 n x2 x3) := by
  intro n
  induction n with
  | zero => intro x2 x3; exact j_none
  | succ n ih =>
    intro x2 x3
    rw [mX7_latticeSize_4]
    refine j_iload_n C 3 rfl dX7_latticeSize_4 rfl ?_
    refine j_sipush C (v := 343) (by decide) dX7_latticeSize_5 ?_
    refine j_icmp_ge C 58 dX7_latticeSize_8 (by decide) ?_ ?_
    · refine j_iload_n C 2 rfl dX7_latticeSize_58 rfl ?_
      exact j_iret C rfl dX7_latticeSize_59
    · refine j_aload_n C 0 rfl dX7_latticeSize_11 rfl ?_
      refine j_getR C (x := 59) fl_X7_12 sh_24 rfl rfl dX7_latticeSize_12 ?_
      refine j_getR C (x := 60) fl_X7_72 sh_59 rfl rfl dX7_latticeSize_15 ?_
      refine j_iload_n C 3 rfl dX7_latticeSize_18 rfl ?_
      refine j_iald C sh_60 rfl dX7_latticeSize_19 (fun j1 => ?_)
      refine j_topi (fun v2 => ?_)
      refine j_istore C (xs1 := [(0, .ref (gad g 24)), (1, .ref (gad g n0)), (2, .int x2), (3, .int x3), (4, .int v2)]) dX7_latticeSize_20 (by decide) rfl ?_
      exact wX7_latticeSize_22 C S n0 hn0 (mX7_latticeSize_4 S n0 n) ih FU x2 x3 v2
def mX7_latticeSize (S : St) (n0 : Nat) : Option (Int32) := mX7_latticeSize_4 S n0 FU 0 0
theorem wX7_latticeSize {κ : KT} {g : GT} (C : CX κ g RX7 cX7_latticeSize 5 (some .int) 3 66) (S : St) (n0 : Nat) (hn0 : okI g n0) : J κ g 5 (fun a : Int32 => (some (Value.int a), S)) S 0 [(0, .ref (gad g 24)), (1, .ref (gad g n0))] [] (mX7_latticeSize S n0) := by
  unfold mX7_latticeSize
  refine j_iconst C (v := 0) (by decide) dX7_latticeSize_0 ?_
  refine j_istore_n C (xs1 := [(0, .ref (gad g 24)), (1, .ref (gad g n0)), (2, .int 0)]) dX7_latticeSize_1 rfl (by decide) rfl ?_
  refine j_iconst C (v := 0) (by decide) dX7_latticeSize_2 ?_
  refine j_istore_n C (xs1 := [(0, .ref (gad g 24)), (1, .ref (gad g n0)), (2, .int 0), (3, .int 0)]) dX7_latticeSize_3 rfl (by decide) rfl ?_
  exact wX7_latticeSize_4 C S n0 hn0 FU 0 0
theorem ctX7_latticeSize {l : Launch} {g : GT} {S : St} {n0 : Nat} (hn0 : okI g n0) {out : Int32} (ho : mX7_latticeSize S n0 = some out) : CT l yX7_latticeSize cX7_latticeSize 5 (some .int) 3 66 [.ref (gad g 24), .ref (gad g n0)] g S ((fun a : Int32 => (some (Value.int a), S)) out) := CT_of (φ := (fun a : Int32 => (some (Value.int a), S))) [.ref (gad g 24), .ref (gad g n0)] ho (by decide) (Nat.le_of_ble_eq_true rfl) (xs := [(0, .ref (gad g 24)), (1, .ref (gad g n0))]) rfl (fun κ C => wX7_latticeSize C S n0 hn0)
/-! StairIdeals$Survey.holesAt(LStairIdeals$Ideal;II)I -/
def mX7_holesAt (S : St) (n0 : Nat) (a0 : Int32) (a1 : Int32) : Option (Int32 × St) := (mX2_isCommonMultiple S n0 a1).bind fun r1 => if r1 = 0 then (some (0, S))
  else ((mX0_sheetsAt S 59 a1).bind fun r2 => (mX0_holes S r2 a0).bind fun r3 => some (r3.1, r3.2))
theorem wX7_holesAt {κ : KT} {g : GT} (C : CX κ g RX7 cX7_holesAt 4 (some .int) 4 95) (S : St) (n0 : Nat) (hn0 : okI g n0) (a0 : Int32) (a1 : Int32) : J κ g 4 (fun a : Int32 × St => (some (Value.int a.1), a.2)) S 0 [(0, .ref (gad g 24)), (1, .ref (gad g n0)), (2, .int a0), (3, .int a1)] [] (mX7_holesAt S n0 a0 a1) := by
  unfold mX7_holesAt
  refine j_aload_n C 1 rfl dX7_holesAt_0 rfl ?_
  refine j_iload_n C 3 rfl dX7_holesAt_1 rfl ?_
  refine j_callVi C [.int a1] [] mv_X7_88 hn0.1 hn0.2.2.1 rfl (fun _ h => ctX2_isCommonMultiple hn0 h) ⟨(Nat.le_of_ble_eq_true rfl), (Nat.le_of_ble_eq_true rfl)⟩ (Nat.le_of_ble_eq_true rfl) dX7_holesAt_2 rfl (fun r1 => ?_)
  refine j_if_ne C 10 dX7_holesAt_5 (by decide) ?_ ?_
  · refine j_aload_n C 0 rfl dX7_holesAt_10 rfl ?_
    refine j_getR C (x := 26) fl_X7_25 sh_24 rfl rfl dX7_holesAt_11 ?_
    refine j_iload_n C 3 rfl dX7_holesAt_14 rfl ?_
    refine j_aload_n C 0 rfl dX7_holesAt_15 rfl ?_
    refine j_getR C (x := 59) fl_X7_12 sh_24 rfl rfl dX7_holesAt_16 ?_
    refine j_callSi C [.int a1, .ref (gad g 59)] [.ref (gad g 26)] ms_X7_98 (fun _ h => ctX0_sheetsAt (okT_59 (g := g)) h) ⟨(Nat.le_of_ble_eq_true rfl), (Nat.le_of_ble_eq_true rfl)⟩ (Nat.le_of_ble_eq_true rfl) dX7_holesAt_19 rfl (fun r2 => ?_)
    refine j_iload_n C 2 rfl dX7_holesAt_22 rfl ?_
    refine j_callViS C [.int r2, .int a0] [] mv_X7_102 sh_26 rfl rfl (fun _ h => ctX0_holes h) ⟨(Nat.le_of_ble_eq_true rfl), (Nat.le_of_ble_eq_true rfl)⟩ (Nat.le_of_ble_eq_true rfl) dX7_holesAt_23 rfl (fun r3 => ?_)
    exact j_iret C rfl dX7_holesAt_26
  · refine j_iconst C (v := 0) (by decide) dX7_holesAt_8 ?_
    exact j_iret C rfl dX7_holesAt_9
theorem ctX7_holesAt {l : Launch} {g : GT} {S : St} {n0 : Nat} (hn0 : okI g n0) {a0 : Int32} {a1 : Int32} {out : Int32 × St} (ho : mX7_holesAt S n0 a0 a1 = some out) : CT l yX7_holesAt cX7_holesAt 4 (some .int) 4 95 [.ref (gad g 24), .ref (gad g n0), .int a0, .int a1] g S ((fun a : Int32 × St => (some (Value.int a.1), a.2)) out) := CT_of (φ := (fun a : Int32 × St => (some (Value.int a.1), a.2))) [.ref (gad g 24), .ref (gad g n0), .int a0, .int a1] ho (by decide) (Nat.le_of_ble_eq_true rfl) (xs := [(0, .ref (gad g 24)), (1, .ref (gad g n0)), (2, .int a0), (3, .int a1)]) rfl (fun κ C => wX7_holesAt C S n0 hn0 a0 a1)
/-! StairIdeals$Survey.holesInAll(LStairIdeals$Ideal;I)I -/
def mX7_holesInAll_25 (n0 : Nat) (k5 : St → Int32 → Int32 → Int32 → Option (Int32 × St)) : Nat → St → Int32 → Int32 → Int32 → Int32 → Option (Int32 × St)
  | 0, _, _, _, _, _ => none
  | n + 1, S, x2, x3, x4, x5 => if 6 < x5 then (bnd (x4 + 1) fun v1 => k5 S x2 x3 v1)
  else ((mX6_monomialOf x4).bind fun r2 => (mX7_holesAt S n0 x2 (r2 ||| x5)).bind fun r3 => bnd (x3 + r3.1) fun v4 => bnd (x5 + 1) fun v5 => mX7_holesInAll_25 n0 k5 n r3.2 x2 v4 x4 v5)
theorem wX7_holesInAll_25 {κ : KT} {g : GT} (C : CX κ g RX7 cX7_holesInAll 6 (some .int) 5 118) (n0 : Nat) (hn0 : okI g n0) (k5 : St → Int32 → Int32 → Int32 → Option (Int32 × St)) (hk5 : ∀ (S : St) (x2 : Int32) (x3 : Int32) (x4 : Int32), J κ g 6 (fun a : Int32 × St => (some (Value.int a.1), a.2)) S 5 [(0, .ref (gad g 24)), (1, .ref (gad g n0)), (2, .int x2), (3, .int x3), (4, .int x4)] [] (k5 S x2 x3 x4)) : ∀ (n : Nat) (S : St) (x2 : Int32) (x3 : Int32) (x4 : Int32) (x5 : Int32), J κ g 6 (fun a : Int32 × St => (some (Value.int a.1), a.2)) S 25 [(0, .ref (gad g 24)), (1, .ref (gad g n0)), (2, .int x2), (3, .int x3), (4, .int x4), (5, .int x5)] [] (mX7_holesInAll_25 n0 k5 n S x2 x3 x4 x5) := by
  intro n
  induction n with
  | zero => intro S x2 x3 x4 x5; exact j_none
  | succ n ih =>
    intro S x2 x3 x4 x5
    rw [mX7_holesInAll_25]
    refine j_iload C 5 rfl dX7_holesInAll_25 ?_
    refine j_bipush C (v := 6) (by decide) dX7_holesInAll_27 ?_
    refine j_icmp_gt C 55 dX7_holesInAll_29 (by decide) ?_ ?_
    · refine j_iinc C (xs2 := fun v1 => [(0, .ref (gad g 24)), (1, .ref (gad g n0)), (2, .int x2), (3, .int x3), (4, .int v1), (5, .int x5)]) 4 rfl dX7_holesInAll_55 (by decide) (by decide) (fun _ => rfl) (fun v1 => ?_)
      refine j_goto C 5 dX7_holesInAll_58 (by decide) ?_
      refine j_sub (xs1 := [(0, .ref (gad g 24)), (1, .ref (gad g n0)), (2, .int x2), (3, .int x3), (4, .int v1)]) [0, 1, 2, 3, 4] rfl ?_
      exact hk5 S x2 x3 v1
    · refine j_iload_n C 3 rfl dX7_holesInAll_32 rfl ?_
      refine j_aload_n C 0 rfl dX7_holesInAll_33 rfl ?_
      refine j_aload_n C 1 rfl dX7_holesInAll_34 rfl ?_
      refine j_iload_n C 2 rfl dX7_holesInAll_35 rfl ?_
      refine j_iload C 4 rfl dX7_holesInAll_36 ?_
      refine j_callSi C [.int x4] [.int x2, .ref (gad g n0), .ref (gad g 24), .int x3] ms_X7_61 (fun _ h => ctX6_monomialOf h) ⟨(Nat.le_of_ble_eq_true rfl), (Nat.le_of_ble_eq_true rfl)⟩ (Nat.le_of_ble_eq_true rfl) dX7_holesInAll_38 rfl (fun r2 => ?_)
      refine j_iload C 5 rfl dX7_holesInAll_41 ?_
      refine j_ior C dX7_holesInAll_43 ?_
      refine j_callViS C [.ref (gad g n0), .int x2, .int (r2 ||| x5)] [.int x3] mv_X7_94 sh_24 rfl rfl (fun _ h => ctX7_holesAt hn0 h) ⟨(Nat.le_of_ble_eq_true rfl), (Nat.le_of_ble_eq_true rfl)⟩ (Nat.le_of_ble_eq_true rfl) dX7_holesInAll_44 rfl (fun r3 => ?_)
      refine j_iadd C dX7_holesInAll_47 ?_
      refine j_topi (fun v4 => ?_)
      refine j_istore_n C (xs1 := [(0, .ref (gad g 24)), (1, .ref (gad g n0)), (2, .int x2), (3, .int v4), (4, .int x4), (5, .int x5)]) dX7_holesInAll_48 rfl (by decide) rfl ?_
      refine j_iinc C (xs2 := fun v5 => [(0, .ref (gad g 24)), (1, .ref (gad g n0)), (2, .int x2), (3, .int v4), (4, .int x4), (5, .int v5)]) 5 rfl dX7_holesInAll_49 (by decide) (by decide) (fun _ => rfl) (fun v5 => ?_)
      refine j_goto C 25 dX7_holesInAll_52 (by decide) ?_
      exact ih r3.2 x2 v4 x4 v5
def mX7_holesInAll_5 (n0 : Nat) : Nat → St → Int32 → Int32 → Int32 → Option (Int32 × St)
  | 0, _, _, _, _ => none
  | n + 1, S, x2, x3, x4 => if 343 ≤ x4 then (some (x3, S))
  else (inb 343 x4 fun j1 => bnd (gA S 60 j1) fun v2 => mX7_holesInAll_25 n0 (mX7_holesInAll_5 n0 n) FU S x2 x3 x4 v2)
theorem wX7_holesInAll_5 {κ : KT} {g : GT} (C : CX κ g RX7 cX7_holesInAll 6 (some .int) 5 118) (n0 : Nat) (hn0 : okI g n0) : ∀ (n : Nat) (S : St) (x2 : Int32) (x3 : Int32) (x4 : Int32), J κ g 6 (fun a : Int32 × St => (some (Value.int a.1), a.2)) S 5 [(0, .ref (gad g 24)), (1, .ref (gad g n0)), (2, .int x2), (3, .int x3), (4, .int x4)] [] (mX7_holesInAll_5 n0 n S x2 x3 x4) := by
  intro n
  induction n with
  | zero => intro S x2 x3 x4; exact j_none
  | succ n ih =>
    intro S x2 x3 x4
    rw [mX7_holesInAll_5]
    refine j_iload C 4 rfl dX7_holesInAll_5 ?_
    refine j_sipush C (v := 343) (by decide) dX7_holesInAll_7 ?_
    refine j_icmp_ge C 61 dX7_holesInAll_10 (by decide) ?_ ?_
    · refine j_iload_n C 3 rfl dX7_holesInAll_61 rfl ?_
      exact j_iret C rfl dX7_holesInAll_62
    · refine j_aload_n C 0 rfl dX7_holesInAll_13 rfl ?_
      refine j_getR C (x := 59) fl_X7_12 sh_24 rfl rfl dX7_holesInAll_14 ?_
      refine j_getR C (x := 60) fl_X7_72 sh_59 rfl rfl dX7_holesInAll_17 ?_
      refine j_iload C 4 rfl dX7_holesInAll_20 ?_
      refine j_iald C sh_60 rfl dX7_holesInAll_22 (fun j1 => ?_)
      refine j_topi (fun v2 => ?_)
      refine j_istore C (xs1 := [(0, .ref (gad g 24)), (1, .ref (gad g n0)), (2, .int x2), (3, .int x3), (4, .int x4), (5, .int v2)]) dX7_holesInAll_23 (by decide) rfl ?_
      exact wX7_holesInAll_25 C n0 hn0 (mX7_holesInAll_5 n0 n) ih FU S x2 x3 x4 v2
def mX7_holesInAll (S : St) (n0 : Nat) (a0 : Int32) : Option (Int32 × St) := mX7_holesInAll_5 n0 FU S a0 0 0
theorem wX7_holesInAll {κ : KT} {g : GT} (C : CX κ g RX7 cX7_holesInAll 6 (some .int) 5 118) (S : St) (n0 : Nat) (hn0 : okI g n0) (a0 : Int32) : J κ g 6 (fun a : Int32 × St => (some (Value.int a.1), a.2)) S 0 [(0, .ref (gad g 24)), (1, .ref (gad g n0)), (2, .int a0)] [] (mX7_holesInAll S n0 a0) := by
  unfold mX7_holesInAll
  refine j_iconst C (v := 0) (by decide) dX7_holesInAll_0 ?_
  refine j_istore_n C (xs1 := [(0, .ref (gad g 24)), (1, .ref (gad g n0)), (2, .int a0), (3, .int 0)]) dX7_holesInAll_1 rfl (by decide) rfl ?_
  refine j_iconst C (v := 0) (by decide) dX7_holesInAll_2 ?_
  refine j_istore C (xs1 := [(0, .ref (gad g 24)), (1, .ref (gad g n0)), (2, .int a0), (3, .int 0), (4, .int 0)]) dX7_holesInAll_3 (by decide) rfl ?_
  exact wX7_holesInAll_5 C n0 hn0 FU S a0 0 0
theorem ctX7_holesInAll {l : Launch} {g : GT} {S : St} {n0 : Nat} (hn0 : okI g n0) {a0 : Int32} {out : Int32 × St} (ho : mX7_holesInAll S n0 a0 = some out) : CT l yX7_holesInAll cX7_holesInAll 6 (some .int) 5 118 [.ref (gad g 24), .ref (gad g n0), .int a0] g S ((fun a : Int32 × St => (some (Value.int a.1), a.2)) out) := CT_of (φ := (fun a : Int32 × St => (some (Value.int a.1), a.2))) [.ref (gad g 24), .ref (gad g n0), .int a0] ho (by decide) (Nat.le_of_ble_eq_true rfl) (xs := [(0, .ref (gad g 24)), (1, .ref (gad g n0)), (2, .int a0)]) rfl (fun κ C => wX7_holesInAll C S n0 hn0 a0)
/-! StairIdeals$Workshop.gather(LStairIdeals$Pad;)V -/
def mX9_gather_9 : Nat → St → Int32 → Option (St)
  | 0, _, _ => none
  | n + 1, S, x2 => if (gI S 19 1) ≤ x2 then ((mX6_spreadUp S 55).bind fun r1 => some r1)
  else (inb 60 x2 fun j2 => (mX6_lower S 55 (gA S 20 j2)).bind fun r3 => bnd (x2 + 1) fun v4 => mX9_gather_9 n r3 v4)
theorem wX9_gather_9 {κ : KT} {g : GT} (C : CX κ g RX9 cX9_gather 3 none 3 67) : ∀ (n : Nat) (S : St) (x2 : Int32), J κ g 3 (fun a : St => (none, a)) S 9 [(0, .ref (gad g 23)), (1, .ref (gad g 19)), (2, .int x2)] [] (mX9_gather_9 n S x2) := by
  intro n
  induction n with
  | zero => intro S x2; exact j_none
  | succ n ih =>
    intro S x2
    rw [mX9_gather_9]
    refine j_iload_n C 2 rfl dX9_gather_9 rfl ?_
    refine j_aload_n C 1 rfl dX9_gather_10 rfl ?_
    refine j_getI C fl_X9_24 sh_19 rfl rfl dX9_gather_11 ?_
    refine j_icmp_ge C 36 dX9_gather_14 (by decide) ?_ ?_
    · refine j_aload_n C 0 rfl dX9_gather_36 rfl ?_
      refine j_getR C (x := 55) fl_X9_12 sh_23 rfl rfl dX9_gather_37 ?_
      refine j_callVvS C [] [] mv_X9_38 sh_55 rfl rfl (fun _ h => ctX6_spreadUp (okT_55 (g := g)) h) ⟨(Nat.le_of_ble_eq_true rfl), (Nat.le_of_ble_eq_true rfl)⟩ (Nat.le_of_ble_eq_true rfl) dX9_gather_40 rfl (fun r1 => ?_)
      exact j_vret C rfl dX9_gather_43
    · refine j_aload_n C 0 rfl dX9_gather_17 rfl ?_
      refine j_getR C (x := 55) fl_X9_12 sh_23 rfl rfl dX9_gather_18 ?_
      refine j_aload_n C 1 rfl dX9_gather_21 rfl ?_
      refine j_getR C (x := 20) fl_X9_30 sh_19 rfl rfl dX9_gather_22 ?_
      refine j_iload_n C 2 rfl dX9_gather_25 rfl ?_
      refine j_iald C sh_20 rfl dX9_gather_26 (fun j2 => ?_)
      refine j_callVvS C [.int (gA S 20 j2)] [] mv_X9_34 sh_55 rfl rfl (fun _ h => ctX6_lower (okT_55 (g := g)) h) ⟨(Nat.le_of_ble_eq_true rfl), (Nat.le_of_ble_eq_true rfl)⟩ (Nat.le_of_ble_eq_true rfl) dX9_gather_27 rfl (fun r3 => ?_)
      refine j_iinc C (xs2 := fun v4 => [(0, .ref (gad g 23)), (1, .ref (gad g 19)), (2, .int v4)]) 2 rfl dX9_gather_30 (by decide) (by decide) (fun _ => rfl) (fun v4 => ?_)
      refine j_goto C 9 dX9_gather_33 (by decide) ?_
      exact ih r3 v4
def mX9_gather (S : St) : Option (St) := (mX6_becomeNothing S 55).bind fun r1 => mX9_gather_9 FU r1 0
theorem wX9_gather {κ : KT} {g : GT} (C : CX κ g RX9 cX9_gather 3 none 3 67) (S : St) : J κ g 3 (fun a : St => (none, a)) S 0 [(0, .ref (gad g 23)), (1, .ref (gad g 19))] [] (mX9_gather S) := by
  unfold mX9_gather
  refine j_aload_n C 0 rfl dX9_gather_0 rfl ?_
  refine j_getR C (x := 55) fl_X9_12 sh_23 rfl rfl dX9_gather_1 ?_
  refine j_callVvS C [] [] mv_X9_21 sh_55 rfl rfl (fun _ h => ctX6_becomeNothing (okT_55 (g := g)) h) ⟨(Nat.le_of_ble_eq_true rfl), (Nat.le_of_ble_eq_true rfl)⟩ (Nat.le_of_ble_eq_true rfl) dX9_gather_4 rfl (fun r1 => ?_)
  refine j_iconst C (v := 0) (by decide) dX9_gather_7 ?_
  refine j_istore_n C (xs1 := [(0, .ref (gad g 23)), (1, .ref (gad g 19)), (2, .int 0)]) dX9_gather_8 rfl (by decide) rfl ?_
  exact wX9_gather_9 C FU r1 0
theorem ctX9_gather {l : Launch} {g : GT} {S : St} {out : St} (ho : mX9_gather S = some out) : CT l yX9_gather cX9_gather 3 none 3 67 [.ref (gad g 23), .ref (gad g 19)] g S ((fun a : St => (none, a)) out) := CT_of (φ := (fun a : St => (none, a))) [.ref (gad g 23), .ref (gad g 19)] ho (by decide) (Nat.le_of_ble_eq_true rfl) (xs := [(0, .ref (gad g 23)), (1, .ref (gad g 19))]) rfl (fun κ C => wX9_gather C S)
/-! StairIdeals$Workshop.productFits(LStairIdeals$Ideal;LStairIdeals$Ideal;)Z -/
def mX9_productFits_141 (n0 : Nat) (n1 : Nat) (k83 : St → Int32 → Option (Int32 × St)) (k94 : St → Int32 → Int32 → Option (Int32 × St)) (S : St) (x3 : Int32) (x4 : Int32) : Option (Int32 × St) := bnd (x4 + 1) fun v1 => k94 S x3 v1
theorem wX9_productFits_141 {κ : KT} {g : GT} (C : CX κ g RX9 cX9_productFits 6 (some .boolean) 3 67) (n0 : Nat) (hn0 : okI g n0) (n1 : Nat) (hn1 : okI g n1) (k83 : St → Int32 → Option (Int32 × St)) (hk83 : ∀ (S : St) (x3 : Int32), J κ g 6 (fun a : Int32 × St => (some (Value.int a.1), a.2)) S 83 [(0, .ref (gad g 23)), (1, .ref (gad g n0)), (2, .ref (gad g n1)), (3, .int x3)] [] (k83 S x3)) (k94 : St → Int32 → Int32 → Option (Int32 × St)) (hk94 : ∀ (S : St) (x3 : Int32) (x4 : Int32), J κ g 6 (fun a : Int32 × St => (some (Value.int a.1), a.2)) S 94 [(0, .ref (gad g 23)), (1, .ref (gad g n0)), (2, .ref (gad g n1)), (3, .int x3), (4, .int x4)] [] (k94 S x3 x4)) (S : St) (x3 : Int32) (x4 : Int32) : J κ g 6 (fun a : Int32 × St => (some (Value.int a.1), a.2)) S 141 [(0, .ref (gad g 23)), (1, .ref (gad g n0)), (2, .ref (gad g n1)), (3, .int x3), (4, .int x4)] [] (mX9_productFits_141 n0 n1 k83 k94 S x3 x4) := by
  unfold mX9_productFits_141
  refine j_iinc C (xs2 := fun v1 => [(0, .ref (gad g 23)), (1, .ref (gad g n0)), (2, .ref (gad g n1)), (3, .int x3), (4, .int v1)]) 4 rfl dX9_productFits_141 (by decide) (by decide) (fun _ => rfl) (fun v1 => ?_)
  refine j_goto C 94 dX9_productFits_144 (by decide) ?_
  exact hk94 S x3 v1
def mX9_productFits_94 (n0 : Nat) (n1 : Nat) (k83 : St → Int32 → Option (Int32 × St)) : Nat → St → Int32 → Int32 → Option (Int32 × St)
  | 0, _, _, _ => none
  | n + 1, S, x3, x4 => if (gI S n1 1) ≤ x4 then (bnd (x3 + 1) fun v1 => k83 S v1)
  else (inb 40 x3 fun j2 => inb 40 x4 fun j3 => bnd ((gA S (n0 + 1) j2) + (gA S (n1 + 1) j3)) fun v4 => (mX3_isTooHigh v4).bind fun r5 => if r5 = 0 then (mX9_productFits_141 n0 n1 k83 (mX9_productFits_94 n0 n1 k83 n) S x3 x4)
  else ((mX6_contains S 55 v4).bind fun r6 => if r6 = 0 then (some (0, S))
  else (mX9_productFits_141 n0 n1 k83 (mX9_productFits_94 n0 n1 k83 n) S x3 x4)))
theorem wX9_productFits_94 {κ : KT} {g : GT} (C : CX κ g RX9 cX9_productFits 6 (some .boolean) 3 67) (n0 : Nat) (hn0 : okI g n0) (n1 : Nat) (hn1 : okI g n1) (k83 : St → Int32 → Option (Int32 × St)) (hk83 : ∀ (S : St) (x3 : Int32), J κ g 6 (fun a : Int32 × St => (some (Value.int a.1), a.2)) S 83 [(0, .ref (gad g 23)), (1, .ref (gad g n0)), (2, .ref (gad g n1)), (3, .int x3)] [] (k83 S x3)) : ∀ (n : Nat) (S : St) (x3 : Int32) (x4 : Int32), J κ g 6 (fun a : Int32 × St => (some (Value.int a.1), a.2)) S 94 [(0, .ref (gad g 23)), (1, .ref (gad g n0)), (2, .ref (gad g n1)), (3, .int x3), (4, .int x4)] [] (mX9_productFits_94 n0 n1 k83 n S x3 x4) := by
  intro n
  induction n with
  | zero => intro S x3 x4; exact j_none
  | succ n ih =>
    intro S x3 x4
    rw [mX9_productFits_94]
    refine j_iload C 4 rfl dX9_productFits_94 ?_
    refine j_aload_n C 2 rfl dX9_productFits_96 rfl ?_
    refine j_getI C fl_X9_62 hn1.1 hn1.2.2.1 rfl dX9_productFits_97 ?_
    refine j_icmp_ge C 147 dX9_productFits_100 (by decide) ?_ ?_
    · refine j_iinc C (xs2 := fun v1 => [(0, .ref (gad g 23)), (1, .ref (gad g n0)), (2, .ref (gad g n1)), (3, .int v1), (4, .int x4)]) 3 rfl dX9_productFits_147 (by decide) (by decide) (fun _ => rfl) (fun v1 => ?_)
      refine j_goto C 83 dX9_productFits_150 (by decide) ?_
      refine j_sub (xs1 := [(0, .ref (gad g 23)), (1, .ref (gad g n0)), (2, .ref (gad g n1)), (3, .int v1)]) [0, 1, 2, 3] rfl ?_
      exact hk83 S v1
    · refine j_aload_n C 1 rfl dX9_productFits_103 rfl ?_
      refine j_getR C (x := n0 + 1) fl_X9_67 hn0.1 hn0.2.2.1 rfl dX9_productFits_104 ?_
      refine j_iload_n C 3 rfl dX9_productFits_107 rfl ?_
      refine j_iald C hn0.2.1 hn0.2.2.2 dX9_productFits_108 (fun j2 => ?_)
      refine j_aload_n C 2 rfl dX9_productFits_109 rfl ?_
      refine j_getR C (x := n1 + 1) fl_X9_67 hn1.1 hn1.2.2.1 rfl dX9_productFits_110 ?_
      refine j_iload C 4 rfl dX9_productFits_113 ?_
      refine j_iald C hn1.2.1 hn1.2.2.2 dX9_productFits_115 (fun j3 => ?_)
      refine j_iadd C dX9_productFits_116 ?_
      refine j_topi (fun v4 => ?_)
      refine j_istore C (xs1 := [(0, .ref (gad g 23)), (1, .ref (gad g n0)), (2, .ref (gad g n1)), (3, .int x3), (4, .int x4), (5, .int v4)]) dX9_productFits_117 (by decide) rfl ?_
      refine j_iload C 5 rfl dX9_productFits_119 ?_
      refine j_callSi C [.int v4] [] ms_X9_70 (fun _ h => ctX3_isTooHigh h) ⟨(Nat.le_of_ble_eq_true rfl), (Nat.le_of_ble_eq_true rfl)⟩ (Nat.le_of_ble_eq_true rfl) dX9_productFits_121 rfl (fun r5 => ?_)
      refine j_if_eq C 141 dX9_productFits_124 (by decide) ?_ ?_
      · refine j_sub (xs1 := [(0, .ref (gad g 23)), (1, .ref (gad g n0)), (2, .ref (gad g n1)), (3, .int x3), (4, .int x4)]) [0, 1, 2, 3, 4] rfl ?_
        exact wX9_productFits_141 C n0 hn0 n1 hn1 k83 hk83 (mX9_productFits_94 n0 n1 k83 n) ih S x3 x4
      · refine j_aload_n C 0 rfl dX9_productFits_127 rfl ?_
        refine j_getR C (x := 55) fl_X9_12 sh_23 rfl rfl dX9_productFits_128 ?_
        refine j_iload C 5 rfl dX9_productFits_131 ?_
        refine j_callVi C [.int v4] [] mv_X9_76 sh_55 rfl rfl (fun _ h => ctX6_contains (okT_55 (g := g)) h) ⟨(Nat.le_of_ble_eq_true rfl), (Nat.le_of_ble_eq_true rfl)⟩ (Nat.le_of_ble_eq_true rfl) dX9_productFits_133 rfl (fun r6 => ?_)
        refine j_if_ne C 141 dX9_productFits_136 (by decide) ?_ ?_
        · refine j_sub (xs1 := [(0, .ref (gad g 23)), (1, .ref (gad g n0)), (2, .ref (gad g n1)), (3, .int x3), (4, .int x4)]) [0, 1, 2, 3, 4] rfl ?_
          exact wX9_productFits_141 C n0 hn0 n1 hn1 k83 hk83 (mX9_productFits_94 n0 n1 k83 n) ih S x3 x4
        · refine j_iconst C (v := 0) (by decide) dX9_productFits_139 ?_
          exact j_zret C rfl rfl dX9_productFits_140
def mX9_productFits_83 (n0 : Nat) (n1 : Nat) : Nat → St → Int32 → Option (Int32 × St)
  | 0, _, _ => none
  | n + 1, S, x3 => if (gI S n0 1) ≤ x3 then (some (1, S))
  else (mX9_productFits_94 n0 n1 (mX9_productFits_83 n0 n1 n) FU S x3 0)
theorem wX9_productFits_83 {κ : KT} {g : GT} (C : CX κ g RX9 cX9_productFits 6 (some .boolean) 3 67) (n0 : Nat) (hn0 : okI g n0) (n1 : Nat) (hn1 : okI g n1) : ∀ (n : Nat) (S : St) (x3 : Int32), J κ g 6 (fun a : Int32 × St => (some (Value.int a.1), a.2)) S 83 [(0, .ref (gad g 23)), (1, .ref (gad g n0)), (2, .ref (gad g n1)), (3, .int x3)] [] (mX9_productFits_83 n0 n1 n S x3) := by
  intro n
  induction n with
  | zero => intro S x3; exact j_none
  | succ n ih =>
    intro S x3
    rw [mX9_productFits_83]
    refine j_iload_n C 3 rfl dX9_productFits_83 rfl ?_
    refine j_aload_n C 1 rfl dX9_productFits_84 rfl ?_
    refine j_getI C fl_X9_62 hn0.1 hn0.2.2.1 rfl dX9_productFits_85 ?_
    refine j_icmp_ge C 153 dX9_productFits_88 (by decide) ?_ ?_
    · refine j_iconst C (v := 1) (by decide) dX9_productFits_153 ?_
      exact j_zret C rfl rfl dX9_productFits_154
    · refine j_iconst C (v := 0) (by decide) dX9_productFits_91 ?_
      refine j_istore C (xs1 := [(0, .ref (gad g 23)), (1, .ref (gad g n0)), (2, .ref (gad g n1)), (3, .int x3), (4, .int 0)]) dX9_productFits_92 (by decide) rfl ?_
      exact wX9_productFits_94 C n0 hn0 n1 hn1 (mX9_productFits_83 n0 n1 n) ih FU S x3 0
def mX9_productFits_62 (n0 : Nat) (n1 : Nat) (k9 : St → Int32 → Option (Int32 × St)) (k20 : St → Int32 → Int32 → Option (Int32 × St)) (S : St) (x3 : Int32) (x4 : Int32) : Option (Int32 × St) := bnd (x4 + 1) fun v1 => k20 S x3 v1
theorem wX9_productFits_62 {κ : KT} {g : GT} (C : CX κ g RX9 cX9_productFits 6 (some .boolean) 3 67) (n0 : Nat) (hn0 : okI g n0) (n1 : Nat) (hn1 : okI g n1) (k9 : St → Int32 → Option (Int32 × St)) (hk9 : ∀ (S : St) (x3 : Int32), J κ g 6 (fun a : Int32 × St => (some (Value.int a.1), a.2)) S 9 [(0, .ref (gad g 23)), (1, .ref (gad g n0)), (2, .ref (gad g n1)), (3, .int x3)] [] (k9 S x3)) (k20 : St → Int32 → Int32 → Option (Int32 × St)) (hk20 : ∀ (S : St) (x3 : Int32) (x4 : Int32), J κ g 6 (fun a : Int32 × St => (some (Value.int a.1), a.2)) S 20 [(0, .ref (gad g 23)), (1, .ref (gad g n0)), (2, .ref (gad g n1)), (3, .int x3), (4, .int x4)] [] (k20 S x3 x4)) (S : St) (x3 : Int32) (x4 : Int32) : J κ g 6 (fun a : Int32 × St => (some (Value.int a.1), a.2)) S 62 [(0, .ref (gad g 23)), (1, .ref (gad g n0)), (2, .ref (gad g n1)), (3, .int x3), (4, .int x4)] [] (mX9_productFits_62 n0 n1 k9 k20 S x3 x4) := by
  unfold mX9_productFits_62
  refine j_iinc C (xs2 := fun v1 => [(0, .ref (gad g 23)), (1, .ref (gad g n0)), (2, .ref (gad g n1)), (3, .int x3), (4, .int v1)]) 4 rfl dX9_productFits_62 (by decide) (by decide) (fun _ => rfl) (fun v1 => ?_)
  refine j_goto C 20 dX9_productFits_65 (by decide) ?_
  exact hk20 S x3 v1
def mX9_productFits_20 (n0 : Nat) (n1 : Nat) (k9 : St → Int32 → Option (Int32 × St)) : Nat → St → Int32 → Int32 → Option (Int32 × St)
  | 0, _, _, _ => none
  | n + 1, S, x3, x4 => if (gI S n1 1) ≤ x4 then (bnd (x3 + 1) fun v1 => k9 S v1)
  else (inb 40 x3 fun j2 => inb 40 x4 fun j3 => bnd ((gA S (n0 + 1) j2) + (gA S (n1 + 1) j3)) fun v4 => (mX3_isTooHigh v4).bind fun r5 => if r5 = 0 then ((mX6_lower S 55 v4).bind fun r6 => mX9_productFits_62 n0 n1 k9 (mX9_productFits_20 n0 n1 k9 n) r6 x3 x4)
  else (mX9_productFits_62 n0 n1 k9 (mX9_productFits_20 n0 n1 k9 n) S x3 x4))
theorem wX9_productFits_20 {κ : KT} {g : GT} (C : CX κ g RX9 cX9_productFits 6 (some .boolean) 3 67) (n0 : Nat) (hn0 : okI g n0) (n1 : Nat) (hn1 : okI g n1) (k9 : St → Int32 → Option (Int32 × St)) (hk9 : ∀ (S : St) (x3 : Int32), J κ g 6 (fun a : Int32 × St => (some (Value.int a.1), a.2)) S 9 [(0, .ref (gad g 23)), (1, .ref (gad g n0)), (2, .ref (gad g n1)), (3, .int x3)] [] (k9 S x3)) : ∀ (n : Nat) (S : St) (x3 : Int32) (x4 : Int32), J κ g 6 (fun a : Int32 × St => (some (Value.int a.1), a.2)) S 20 [(0, .ref (gad g 23)), (1, .ref (gad g n0)), (2, .ref (gad g n1)), (3, .int x3), (4, .int x4)] [] (mX9_productFits_20 n0 n1 k9 n S x3 x4) := by
  intro n
  induction n with
  | zero => intro S x3 x4; exact j_none
  | succ n ih =>
    intro S x3 x4
    rw [mX9_productFits_20]
    refine j_iload C 4 rfl dX9_productFits_20 ?_
    refine j_aload_n C 2 rfl dX9_productFits_22 rfl ?_
    refine j_getI C fl_X9_62 hn1.1 hn1.2.2.1 rfl dX9_productFits_23 ?_
    refine j_icmp_ge C 68 dX9_productFits_26 (by decide) ?_ ?_
    · refine j_iinc C (xs2 := fun v1 => [(0, .ref (gad g 23)), (1, .ref (gad g n0)), (2, .ref (gad g n1)), (3, .int v1), (4, .int x4)]) 3 rfl dX9_productFits_68 (by decide) (by decide) (fun _ => rfl) (fun v1 => ?_)
      refine j_goto C 9 dX9_productFits_71 (by decide) ?_
      refine j_sub (xs1 := [(0, .ref (gad g 23)), (1, .ref (gad g n0)), (2, .ref (gad g n1)), (3, .int v1)]) [0, 1, 2, 3] rfl ?_
      exact hk9 S v1
    · refine j_aload_n C 1 rfl dX9_productFits_29 rfl ?_
      refine j_getR C (x := n0 + 1) fl_X9_67 hn0.1 hn0.2.2.1 rfl dX9_productFits_30 ?_
      refine j_iload_n C 3 rfl dX9_productFits_33 rfl ?_
      refine j_iald C hn0.2.1 hn0.2.2.2 dX9_productFits_34 (fun j2 => ?_)
      refine j_aload_n C 2 rfl dX9_productFits_35 rfl ?_
      refine j_getR C (x := n1 + 1) fl_X9_67 hn1.1 hn1.2.2.1 rfl dX9_productFits_36 ?_
      refine j_iload C 4 rfl dX9_productFits_39 ?_
      refine j_iald C hn1.2.1 hn1.2.2.2 dX9_productFits_41 (fun j3 => ?_)
      refine j_iadd C dX9_productFits_42 ?_
      refine j_topi (fun v4 => ?_)
      refine j_istore C (xs1 := [(0, .ref (gad g 23)), (1, .ref (gad g n0)), (2, .ref (gad g n1)), (3, .int x3), (4, .int x4), (5, .int v4)]) dX9_productFits_43 (by decide) rfl ?_
      refine j_iload C 5 rfl dX9_productFits_45 ?_
      refine j_callSi C [.int v4] [] ms_X9_70 (fun _ h => ctX3_isTooHigh h) ⟨(Nat.le_of_ble_eq_true rfl), (Nat.le_of_ble_eq_true rfl)⟩ (Nat.le_of_ble_eq_true rfl) dX9_productFits_47 rfl (fun r5 => ?_)
      refine j_if_ne C 62 dX9_productFits_50 (by decide) ?_ ?_
      · refine j_sub (xs1 := [(0, .ref (gad g 23)), (1, .ref (gad g n0)), (2, .ref (gad g n1)), (3, .int x3), (4, .int x4)]) [0, 1, 2, 3, 4] rfl ?_
        exact wX9_productFits_62 C n0 hn0 n1 hn1 k9 hk9 (mX9_productFits_20 n0 n1 k9 n) ih S x3 x4
      · refine j_aload_n C 0 rfl dX9_productFits_53 rfl ?_
        refine j_getR C (x := 55) fl_X9_12 sh_23 rfl rfl dX9_productFits_54 ?_
        refine j_iload C 5 rfl dX9_productFits_57 ?_
        refine j_callVvS C [.int v4] [] mv_X9_34 sh_55 rfl rfl (fun _ h => ctX6_lower (okT_55 (g := g)) h) ⟨(Nat.le_of_ble_eq_true rfl), (Nat.le_of_ble_eq_true rfl)⟩ (Nat.le_of_ble_eq_true rfl) dX9_productFits_59 rfl (fun r6 => ?_)
        refine j_sub (xs1 := [(0, .ref (gad g 23)), (1, .ref (gad g n0)), (2, .ref (gad g n1)), (3, .int x3), (4, .int x4)]) [0, 1, 2, 3, 4] rfl ?_
        exact wX9_productFits_62 C n0 hn0 n1 hn1 k9 hk9 (mX9_productFits_20 n0 n1 k9 n) ih r6 x3 x4
def mX9_productFits_9 (n0 : Nat) (n1 : Nat) : Nat → St → Int32 → Option (Int32 × St)
  | 0, _, _ => none
  | n + 1, S, x3 => if (gI S n0 1) ≤ x3 then ((mX6_spreadUp S 55).bind fun r1 => mX9_productFits_83 n0 n1 FU r1 0)
  else (mX9_productFits_20 n0 n1 (mX9_productFits_9 n0 n1 n) FU S x3 0)
theorem wX9_productFits_9 {κ : KT} {g : GT} (C : CX κ g RX9 cX9_productFits 6 (some .boolean) 3 67) (n0 : Nat) (hn0 : okI g n0) (n1 : Nat) (hn1 : okI g n1) : ∀ (n : Nat) (S : St) (x3 : Int32), J κ g 6 (fun a : Int32 × St => (some (Value.int a.1), a.2)) S 9 [(0, .ref (gad g 23)), (1, .ref (gad g n0)), (2, .ref (gad g n1)), (3, .int x3)] [] (mX9_productFits_9 n0 n1 n S x3) := by
  intro n
  induction n with
  | zero => intro S x3; exact j_none
  | succ n ih =>
    intro S x3
    rw [mX9_productFits_9]
    refine j_iload_n C 3 rfl dX9_productFits_9 rfl ?_
    refine j_aload_n C 1 rfl dX9_productFits_10 rfl ?_
    refine j_getI C fl_X9_62 hn0.1 hn0.2.2.1 rfl dX9_productFits_11 ?_
    refine j_icmp_ge C 74 dX9_productFits_14 (by decide) ?_ ?_
    · refine j_aload_n C 0 rfl dX9_productFits_74 rfl ?_
      refine j_getR C (x := 55) fl_X9_12 sh_23 rfl rfl dX9_productFits_75 ?_
      refine j_callVvS C [] [] mv_X9_38 sh_55 rfl rfl (fun _ h => ctX6_spreadUp (okT_55 (g := g)) h) ⟨(Nat.le_of_ble_eq_true rfl), (Nat.le_of_ble_eq_true rfl)⟩ (Nat.le_of_ble_eq_true rfl) dX9_productFits_78 rfl (fun r1 => ?_)
      refine j_iconst C (v := 0) (by decide) dX9_productFits_81 ?_
      refine j_istore_n C (xs1 := [(0, .ref (gad g 23)), (1, .ref (gad g n0)), (2, .ref (gad g n1)), (3, .int 0)]) dX9_productFits_82 rfl (by decide) rfl ?_
      exact wX9_productFits_83 C n0 hn0 n1 hn1 FU r1 0
    · refine j_iconst C (v := 0) (by decide) dX9_productFits_17 ?_
      refine j_istore C (xs1 := [(0, .ref (gad g 23)), (1, .ref (gad g n0)), (2, .ref (gad g n1)), (3, .int x3), (4, .int 0)]) dX9_productFits_18 (by decide) rfl ?_
      exact wX9_productFits_20 C n0 hn0 n1 hn1 (mX9_productFits_9 n0 n1 n) ih FU S x3 0
def mX9_productFits (S : St) (n0 : Nat) (n1 : Nat) : Option (Int32 × St) := (mX6_becomeNothing S 55).bind fun r1 => mX9_productFits_9 n0 n1 FU r1 0
theorem wX9_productFits {κ : KT} {g : GT} (C : CX κ g RX9 cX9_productFits 6 (some .boolean) 3 67) (S : St) (n0 : Nat) (hn0 : okI g n0) (n1 : Nat) (hn1 : okI g n1) : J κ g 6 (fun a : Int32 × St => (some (Value.int a.1), a.2)) S 0 [(0, .ref (gad g 23)), (1, .ref (gad g n0)), (2, .ref (gad g n1))] [] (mX9_productFits S n0 n1) := by
  unfold mX9_productFits
  refine j_aload_n C 0 rfl dX9_productFits_0 rfl ?_
  refine j_getR C (x := 55) fl_X9_12 sh_23 rfl rfl dX9_productFits_1 ?_
  refine j_callVvS C [] [] mv_X9_21 sh_55 rfl rfl (fun _ h => ctX6_becomeNothing (okT_55 (g := g)) h) ⟨(Nat.le_of_ble_eq_true rfl), (Nat.le_of_ble_eq_true rfl)⟩ (Nat.le_of_ble_eq_true rfl) dX9_productFits_4 rfl (fun r1 => ?_)
  refine j_iconst C (v := 0) (by decide) dX9_productFits_7 ?_
  refine j_istore_n C (xs1 := [(0, .ref (gad g 23)), (1, .ref (gad g n0)), (2, .ref (gad g n1)), (3, .int 0)]) dX9_productFits_8 rfl (by decide) rfl ?_
  exact wX9_productFits_9 C n0 hn0 n1 hn1 FU r1 0
theorem ctX9_productFits {l : Launch} {g : GT} {S : St} {n0 : Nat} (hn0 : okI g n0) {n1 : Nat} (hn1 : okI g n1) {out : Int32 × St} (ho : mX9_productFits S n0 n1 = some out) : CT l yX9_productFits cX9_productFits 6 (some .boolean) 3 67 [.ref (gad g 23), .ref (gad g n0), .ref (gad g n1)] g S ((fun a : Int32 × St => (some (Value.int a.1), a.2)) out) := CT_of (φ := (fun a : Int32 × St => (some (Value.int a.1), a.2))) [.ref (gad g 23), .ref (gad g n0), .ref (gad g n1)] ho (by decide) (Nat.le_of_ble_eq_true rfl) (xs := [(0, .ref (gad g 23)), (1, .ref (gad g n0)), (2, .ref (gad g n1))]) rfl (fun κ C => wX9_productFits C S n0 hn0 n1 hn1)
/-! StairIdeals$Workshop.divideOther(LStairIdeals$Ideal;)V -/
def mX9_divideOther_79 (n0 : Nat) (k9 : St → Int32 → Option (St)) (k34 : St → Int32 → Int32 → Int32 → Int32 → Option (St)) (S : St) (x2 : Int32) (x3 : Int32) (x4 : Int32) (x5 : Int32) (s0 : Int32) : Option (St) := inb 343 x5 fun j1 => inb 343 x5 fun j2 => bnd (x5 + 1) fun v3 => k34 (sA S 56 j2 (imax (gA S 56 j1) s0)) x2 x3 x4 v3
theorem wX9_divideOther_79 {κ : KT} {g : GT} (C : CX κ g RX9 cX9_divideOther 8 none 2 44) (n0 : Nat) (hn0 : okI g n0) (k9 : St → Int32 → Option (St)) (hk9 : ∀ (S : St) (x2 : Int32), J κ g 8 (fun a : St => (none, a)) S 9 [(0, .ref (gad g 23)), (1, .ref (gad g n0)), (2, .int x2)] [] (k9 S x2)) (k34 : St → Int32 → Int32 → Int32 → Int32 → Option (St)) (hk34 : ∀ (S : St) (x2 : Int32) (x3 : Int32) (x4 : Int32) (x5 : Int32), J κ g 8 (fun a : St => (none, a)) S 34 [(0, .ref (gad g 23)), (1, .ref (gad g n0)), (2, .int x2), (3, .int x3), (4, .int x4), (5, .int x5)] [] (k34 S x2 x3 x4 x5)) (S : St) (x2 : Int32) (x3 : Int32) (x4 : Int32) (x5 : Int32) (s0 : Int32) : J κ g 8 (fun a : St => (none, a)) S 79 [(0, .ref (gad g 23)), (1, .ref (gad g n0)), (2, .int x2), (3, .int x3), (4, .int x4), (5, .int x5)] [.int s0] (mX9_divideOther_79 n0 k9 k34 S x2 x3 x4 x5 s0) := by
  unfold mX9_divideOther_79
  refine j_istore C (xs1 := [(0, .ref (gad g 23)), (1, .ref (gad g n0)), (2, .int x2), (3, .int x3), (4, .int x4), (5, .int x5), (7, .int s0)]) dX9_divideOther_79 (by decide) rfl ?_
  refine j_aload_n C 0 rfl dX9_divideOther_81 rfl ?_
  refine j_getR C (x := 55) fl_X9_12 sh_23 rfl rfl dX9_divideOther_82 ?_
  refine j_getR C (x := 56) fl_X9_86 sh_55 rfl rfl dX9_divideOther_85 ?_
  refine j_iload C 5 rfl dX9_divideOther_88 ?_
  refine j_aload_n C 0 rfl dX9_divideOther_90 rfl ?_
  refine j_getR C (x := 55) fl_X9_12 sh_23 rfl rfl dX9_divideOther_91 ?_
  refine j_getR C (x := 56) fl_X9_86 sh_55 rfl rfl dX9_divideOther_94 ?_
  refine j_iload C 5 rfl dX9_divideOther_97 ?_
  refine j_iald C sh_56 rfl dX9_divideOther_99 (fun j1 => ?_)
  refine j_iload C 6 rfl dX9_divideOther_100 ?_
  refine j_mmax C wd_423 (Nat.le_of_ble_eq_true rfl) (Nat.le_of_ble_eq_true rfl) dX9_divideOther_102 ?_
  refine j_iast C sh_56 rfl dX9_divideOther_105 (fun j2 => ?_)
  refine j_iinc C (xs2 := fun v3 => [(0, .ref (gad g 23)), (1, .ref (gad g n0)), (2, .int x2), (3, .int x3), (4, .int x4), (5, .int v3), (7, .int s0)]) 5 rfl dX9_divideOther_106 (by decide) (by decide) (fun _ => rfl) (fun v3 => ?_)
  refine j_goto C 34 dX9_divideOther_109 (by decide) ?_
  refine j_sub (xs1 := [(0, .ref (gad g 23)), (1, .ref (gad g n0)), (2, .int x2), (3, .int x3), (4, .int x4), (5, .int v3)]) [0, 1, 2, 3, 4, 5] rfl ?_
  exact hk34 (sA S 56 j2 (imax (gA S 56 j1) s0)) x2 x3 x4 v3
def mX9_divideOther_34 (n0 : Nat) (k9 : St → Int32 → Option (St)) : Nat → St → Int32 → Int32 → Int32 → Int32 → Option (St)
  | 0, _, _, _, _, _ => none
  | n + 1, S, x2, x3, x4, x5 => if 343 ≤ x5 then (bnd (x2 + 1) fun v1 => k9 S v1)
  else ((mX6_monomialOf x5).bind fun r2 => (mX6_cellOf (r2 + x3)).bind fun r3 => inb 343 r3 fun j4 => bnd (gA S 58 j4) fun v5 => if v5 ≤ 6 then (mX9_divideOther_79 n0 k9 (mX9_divideOther_34 n0 k9 n) S x2 x3 x4 x5 (v5 - x4))
  else (mX9_divideOther_79 n0 k9 (mX9_divideOther_34 n0 k9 n) S x2 x3 x4 x5 v5))
theorem wX9_divideOther_34 {κ : KT} {g : GT} (C : CX κ g RX9 cX9_divideOther 8 none 2 44) (n0 : Nat) (hn0 : okI g n0) (k9 : St → Int32 → Option (St)) (hk9 : ∀ (S : St) (x2 : Int32), J κ g 8 (fun a : St => (none, a)) S 9 [(0, .ref (gad g 23)), (1, .ref (gad g n0)), (2, .int x2)] [] (k9 S x2)) : ∀ (n : Nat) (S : St) (x2 : Int32) (x3 : Int32) (x4 : Int32) (x5 : Int32), J κ g 8 (fun a : St => (none, a)) S 34 [(0, .ref (gad g 23)), (1, .ref (gad g n0)), (2, .int x2), (3, .int x3), (4, .int x4), (5, .int x5)] [] (mX9_divideOther_34 n0 k9 n S x2 x3 x4 x5) := by
  intro n
  induction n with
  | zero => intro S x2 x3 x4 x5; exact j_none
  | succ n ih =>
    intro S x2 x3 x4 x5
    rw [mX9_divideOther_34]
    refine j_iload C 5 rfl dX9_divideOther_34 ?_
    refine j_sipush C (v := 343) (by decide) dX9_divideOther_36 ?_
    refine j_icmp_ge C 112 dX9_divideOther_39 (by decide) ?_ ?_
    · refine j_iinc C (xs2 := fun v1 => [(0, .ref (gad g 23)), (1, .ref (gad g n0)), (2, .int v1), (3, .int x3), (4, .int x4), (5, .int x5)]) 2 rfl dX9_divideOther_112 (by decide) (by decide) (fun _ => rfl) (fun v1 => ?_)
      refine j_goto C 9 dX9_divideOther_115 (by decide) ?_
      refine j_sub (xs1 := [(0, .ref (gad g 23)), (1, .ref (gad g n0)), (2, .int v1)]) [0, 1, 2] rfl ?_
      exact hk9 S v1
    · refine j_aload_n C 0 rfl dX9_divideOther_42 rfl ?_
      refine j_getR C (x := 57) fl_X9_18 sh_23 rfl rfl dX9_divideOther_43 ?_
      refine j_getR C (x := 58) fl_X9_86 sh_57 rfl rfl dX9_divideOther_46 ?_
      refine j_iload C 5 rfl dX9_divideOther_49 ?_
      refine j_callSi C [.int x5] [.ref (gad g 58)] ms_X9_89 (fun _ h => ctX6_monomialOf h) ⟨(Nat.le_of_ble_eq_true rfl), (Nat.le_of_ble_eq_true rfl)⟩ (Nat.le_of_ble_eq_true rfl) dX9_divideOther_51 rfl (fun r2 => ?_)
      refine j_iload_n C 3 rfl dX9_divideOther_54 rfl ?_
      refine j_iadd C dX9_divideOther_55 ?_
      refine j_callSi C [.int (r2 + x3)] [.ref (gad g 58)] ms_X9_93 (fun _ h => ctX6_cellOf h) ⟨(Nat.le_of_ble_eq_true rfl), (Nat.le_of_ble_eq_true rfl)⟩ (Nat.le_of_ble_eq_true rfl) dX9_divideOther_56 rfl (fun r3 => ?_)
      refine j_iald C sh_58 rfl dX9_divideOther_59 (fun j4 => ?_)
      refine j_topi (fun v5 => ?_)
      refine j_istore C (xs1 := [(0, .ref (gad g 23)), (1, .ref (gad g n0)), (2, .int x2), (3, .int x3), (4, .int x4), (5, .int x5), (6, .int v5)]) dX9_divideOther_60 (by decide) rfl ?_
      refine j_iload C 6 rfl dX9_divideOther_62 ?_
      refine j_bipush C (v := 6) (by decide) dX9_divideOther_64 ?_
      refine j_icmp_le C 74 dX9_divideOther_66 (by decide) ?_ ?_
      · refine j_iload C 6 rfl dX9_divideOther_74 ?_
        refine j_iload C 4 rfl dX9_divideOther_76 ?_
        refine j_isub C dX9_divideOther_78 ?_
        refine j_sub (xs1 := [(0, .ref (gad g 23)), (1, .ref (gad g n0)), (2, .int x2), (3, .int x3), (4, .int x4), (5, .int x5)]) [0, 1, 2, 3, 4, 5] rfl ?_
        exact wX9_divideOther_79 C n0 hn0 k9 hk9 (mX9_divideOther_34 n0 k9 n) ih S x2 x3 x4 x5 (v5 - x4)
      · refine j_iload C 6 rfl dX9_divideOther_69 ?_
        refine j_goto C 79 dX9_divideOther_71 (by decide) ?_
        refine j_sub (xs1 := [(0, .ref (gad g 23)), (1, .ref (gad g n0)), (2, .int x2), (3, .int x3), (4, .int x4), (5, .int x5)]) [0, 1, 2, 3, 4, 5] rfl ?_
        exact wX9_divideOther_79 C n0 hn0 k9 hk9 (mX9_divideOther_34 n0 k9 n) ih S x2 x3 x4 x5 v5
def mX9_divideOther_9 (n0 : Nat) : Nat → St → Int32 → Option (St)
  | 0, _, _ => none
  | n + 1, S, x2 => if (gI S n0 1) ≤ x2 then (some S)
  else (inb 40 x2 fun j1 => bnd (gA S (n0 + 1) j1) fun v2 => (mX3_exponent v2 3).bind fun r3 => mX9_divideOther_34 n0 (mX9_divideOther_9 n0 n) FU S x2 v2 r3 0)
theorem wX9_divideOther_9 {κ : KT} {g : GT} (C : CX κ g RX9 cX9_divideOther 8 none 2 44) (n0 : Nat) (hn0 : okI g n0) : ∀ (n : Nat) (S : St) (x2 : Int32), J κ g 8 (fun a : St => (none, a)) S 9 [(0, .ref (gad g 23)), (1, .ref (gad g n0)), (2, .int x2)] [] (mX9_divideOther_9 n0 n S x2) := by
  intro n
  induction n with
  | zero => intro S x2; exact j_none
  | succ n ih =>
    intro S x2
    rw [mX9_divideOther_9]
    refine j_iload_n C 2 rfl dX9_divideOther_9 rfl ?_
    refine j_aload_n C 1 rfl dX9_divideOther_10 rfl ?_
    refine j_getI C fl_X9_62 hn0.1 hn0.2.2.1 rfl dX9_divideOther_11 ?_
    refine j_icmp_ge C 118 dX9_divideOther_14 (by decide) ?_ ?_
    · exact j_vret C rfl dX9_divideOther_118
    · refine j_aload_n C 1 rfl dX9_divideOther_17 rfl ?_
      refine j_getR C (x := n0 + 1) fl_X9_67 hn0.1 hn0.2.2.1 rfl dX9_divideOther_18 ?_
      refine j_iload_n C 2 rfl dX9_divideOther_21 rfl ?_
      refine j_iald C hn0.2.1 hn0.2.2.2 dX9_divideOther_22 (fun j1 => ?_)
      refine j_topi (fun v2 => ?_)
      refine j_istore_n C (xs1 := [(0, .ref (gad g 23)), (1, .ref (gad g n0)), (2, .int x2), (3, .int v2)]) dX9_divideOther_23 rfl (by decide) rfl ?_
      refine j_iload_n C 3 rfl dX9_divideOther_24 rfl ?_
      refine j_iconst C (v := 3) (by decide) dX9_divideOther_25 ?_
      refine j_callSi C [.int v2, .int 3] [] ms_X9_82 (fun _ h => ctX3_exponent h) ⟨(Nat.le_of_ble_eq_true rfl), (Nat.le_of_ble_eq_true rfl)⟩ (Nat.le_of_ble_eq_true rfl) dX9_divideOther_26 rfl (fun r3 => ?_)
      refine j_istore C (xs1 := [(0, .ref (gad g 23)), (1, .ref (gad g n0)), (2, .int x2), (3, .int v2), (4, .int r3)]) dX9_divideOther_29 (by decide) rfl ?_
      refine j_iconst C (v := 0) (by decide) dX9_divideOther_31 ?_
      refine j_istore C (xs1 := [(0, .ref (gad g 23)), (1, .ref (gad g n0)), (2, .int x2), (3, .int v2), (4, .int r3), (5, .int 0)]) dX9_divideOther_32 (by decide) rfl ?_
      exact wX9_divideOther_34 C n0 hn0 (mX9_divideOther_9 n0 n) ih FU S x2 v2 r3 0
def mX9_divideOther (S : St) (n0 : Nat) : Option (St) := (mX6_becomeAll S 55).bind fun r1 => mX9_divideOther_9 n0 FU r1 0
theorem wX9_divideOther {κ : KT} {g : GT} (C : CX κ g RX9 cX9_divideOther 8 none 2 44) (S : St) (n0 : Nat) (hn0 : okI g n0) : J κ g 8 (fun a : St => (none, a)) S 0 [(0, .ref (gad g 23)), (1, .ref (gad g n0))] [] (mX9_divideOther S n0) := by
  unfold mX9_divideOther
  refine j_aload_n C 0 rfl dX9_divideOther_0 rfl ?_
  refine j_getR C (x := 55) fl_X9_12 sh_23 rfl rfl dX9_divideOther_1 ?_
  refine j_callVvS C [] [] mv_X9_79 sh_55 rfl rfl (fun _ h => ctX6_becomeAll (okT_55 (g := g)) h) ⟨(Nat.le_of_ble_eq_true rfl), (Nat.le_of_ble_eq_true rfl)⟩ (Nat.le_of_ble_eq_true rfl) dX9_divideOther_4 rfl (fun r1 => ?_)
  refine j_iconst C (v := 0) (by decide) dX9_divideOther_7 ?_
  refine j_istore_n C (xs1 := [(0, .ref (gad g 23)), (1, .ref (gad g n0)), (2, .int 0)]) dX9_divideOther_8 rfl (by decide) rfl ?_
  exact wX9_divideOther_9 C n0 hn0 FU r1 0
theorem ctX9_divideOther {l : Launch} {g : GT} {S : St} {n0 : Nat} (hn0 : okI g n0) {out : St} (ho : mX9_divideOther S n0 = some out) : CT l yX9_divideOther cX9_divideOther 8 none 2 44 [.ref (gad g 23), .ref (gad g n0)] g S ((fun a : St => (none, a)) out) := CT_of (φ := (fun a : St => (none, a))) [.ref (gad g 23), .ref (gad g n0)] ho (by decide) (Nat.le_of_ble_eq_true rfl) (xs := [(0, .ref (gad g 23)), (1, .ref (gad g n0))]) rfl (fun κ C => wX9_divideOther C S n0 hn0)
/-! StairIdeals$Workshop.radicalOf(LStairIdeals$Ideal;)V -/
def mX9_radicalOf_9 (n0 : Nat) : Nat → St → Int32 → Option (St)
  | 0, _, _ => none
  | n + 1, S, x2 => if (gI S n0 1) ≤ x2 then ((mX6_spreadUp S 55).bind fun r1 => some r1)
  else (inb 40 x2 fun j2 => (mX3_support (gA S (n0 + 1) j2)).bind fun r3 => (mX3_ofSet r3).bind fun r4 => (mX6_lower S 55 r4).bind fun r5 => bnd (x2 + 1) fun v6 => mX9_radicalOf_9 n0 n r5 v6)
theorem wX9_radicalOf_9 {κ : KT} {g : GT} (C : CX κ g RX9 cX9_radicalOf 3 none 3 67) (n0 : Nat) (hn0 : okI g n0) : ∀ (n : Nat) (S : St) (x2 : Int32), J κ g 3 (fun a : St => (none, a)) S 9 [(0, .ref (gad g 23)), (1, .ref (gad g n0)), (2, .int x2)] [] (mX9_radicalOf_9 n0 n S x2) := by
  intro n
  induction n with
  | zero => intro S x2; exact j_none
  | succ n ih =>
    intro S x2
    rw [mX9_radicalOf_9]
    refine j_iload_n C 2 rfl dX9_radicalOf_9 rfl ?_
    refine j_aload_n C 1 rfl dX9_radicalOf_10 rfl ?_
    refine j_getI C fl_X9_62 hn0.1 hn0.2.2.1 rfl dX9_radicalOf_11 ?_
    refine j_icmp_ge C 42 dX9_radicalOf_14 (by decide) ?_ ?_
    · refine j_aload_n C 0 rfl dX9_radicalOf_42 rfl ?_
      refine j_getR C (x := 55) fl_X9_12 sh_23 rfl rfl dX9_radicalOf_43 ?_
      refine j_callVvS C [] [] mv_X9_38 sh_55 rfl rfl (fun _ h => ctX6_spreadUp (okT_55 (g := g)) h) ⟨(Nat.le_of_ble_eq_true rfl), (Nat.le_of_ble_eq_true rfl)⟩ (Nat.le_of_ble_eq_true rfl) dX9_radicalOf_46 rfl (fun r1 => ?_)
      exact j_vret C rfl dX9_radicalOf_49
    · refine j_aload_n C 0 rfl dX9_radicalOf_17 rfl ?_
      refine j_getR C (x := 55) fl_X9_12 sh_23 rfl rfl dX9_radicalOf_18 ?_
      refine j_aload_n C 1 rfl dX9_radicalOf_21 rfl ?_
      refine j_getR C (x := n0 + 1) fl_X9_67 hn0.1 hn0.2.2.1 rfl dX9_radicalOf_22 ?_
      refine j_iload_n C 2 rfl dX9_radicalOf_25 rfl ?_
      refine j_iald C hn0.2.1 hn0.2.2.2 dX9_radicalOf_26 (fun j2 => ?_)
      refine j_callSi C [.int (gA S (n0 + 1) j2)] [.ref (gad g 55)] ms_X9_101 (fun _ h => ctX3_support h) ⟨(Nat.le_of_ble_eq_true rfl), (Nat.le_of_ble_eq_true rfl)⟩ (Nat.le_of_ble_eq_true rfl) dX9_radicalOf_27 rfl (fun r3 => ?_)
      refine j_callSi C [.int r3] [.ref (gad g 55)] ms_X9_104 (fun _ h => ctX3_ofSet h) ⟨(Nat.le_of_ble_eq_true rfl), (Nat.le_of_ble_eq_true rfl)⟩ (Nat.le_of_ble_eq_true rfl) dX9_radicalOf_30 rfl (fun r4 => ?_)
      refine j_callVvS C [.int r4] [] mv_X9_34 sh_55 rfl rfl (fun _ h => ctX6_lower (okT_55 (g := g)) h) ⟨(Nat.le_of_ble_eq_true rfl), (Nat.le_of_ble_eq_true rfl)⟩ (Nat.le_of_ble_eq_true rfl) dX9_radicalOf_33 rfl (fun r5 => ?_)
      refine j_iinc C (xs2 := fun v6 => [(0, .ref (gad g 23)), (1, .ref (gad g n0)), (2, .int v6)]) 2 rfl dX9_radicalOf_36 (by decide) (by decide) (fun _ => rfl) (fun v6 => ?_)
      refine j_goto C 9 dX9_radicalOf_39 (by decide) ?_
      exact ih r5 v6
def mX9_radicalOf (S : St) (n0 : Nat) : Option (St) := (mX6_becomeNothing S 55).bind fun r1 => mX9_radicalOf_9 n0 FU r1 0
theorem wX9_radicalOf {κ : KT} {g : GT} (C : CX κ g RX9 cX9_radicalOf 3 none 3 67) (S : St) (n0 : Nat) (hn0 : okI g n0) : J κ g 3 (fun a : St => (none, a)) S 0 [(0, .ref (gad g 23)), (1, .ref (gad g n0))] [] (mX9_radicalOf S n0) := by
  unfold mX9_radicalOf
  refine j_aload_n C 0 rfl dX9_radicalOf_0 rfl ?_
  refine j_getR C (x := 55) fl_X9_12 sh_23 rfl rfl dX9_radicalOf_1 ?_
  refine j_callVvS C [] [] mv_X9_21 sh_55 rfl rfl (fun _ h => ctX6_becomeNothing (okT_55 (g := g)) h) ⟨(Nat.le_of_ble_eq_true rfl), (Nat.le_of_ble_eq_true rfl)⟩ (Nat.le_of_ble_eq_true rfl) dX9_radicalOf_4 rfl (fun r1 => ?_)
  refine j_iconst C (v := 0) (by decide) dX9_radicalOf_7 ?_
  refine j_istore_n C (xs1 := [(0, .ref (gad g 23)), (1, .ref (gad g n0)), (2, .int 0)]) dX9_radicalOf_8 rfl (by decide) rfl ?_
  exact wX9_radicalOf_9 C n0 hn0 FU r1 0
theorem ctX9_radicalOf {l : Launch} {g : GT} {S : St} {n0 : Nat} (hn0 : okI g n0) {out : St} (ho : mX9_radicalOf S n0 = some out) : CT l yX9_radicalOf cX9_radicalOf 3 none 3 67 [.ref (gad g 23), .ref (gad g n0)] g S ((fun a : St => (none, a)) out) := CT_of (φ := (fun a : St => (none, a))) [.ref (gad g 23), .ref (gad g n0)] ho (by decide) (Nat.le_of_ble_eq_true rfl) (xs := [(0, .ref (gad g 23)), (1, .ref (gad g n0))]) rfl (fun κ C => wX9_radicalOf C S n0 hn0)
/-! StairIdeals$Workshop.combine(ILStairIdeals$Ideal;LStairIdeals$Ideal;)Z -/
def mX9_combine (S : St) (n0 : Nat) (n1 : Nat) (a0 : Int32) : Option (Int32 × St) := if a0 = 0 then ((mX6_become S 55 n0).bind fun r1 => (mX6_lowerBy r1 55 n1).bind fun r2 => (mX6_spreadUp r2 55).bind fun r3 => some (1, r3))
  else if a0 = 1 then ((mX6_become S 55 n0).bind fun r4 => (mX6_become r4 57 n1).bind fun r5 => (mX6_raiseBy r5 55 57).bind fun r6 => some (1, r6))
  else if a0 = 2 then ((mX9_productFits S n0 n1).bind fun r7 => zbg r7.1 (some (r7.1, r7.2)))
  else if a0 = 3 then ((mX6_become S 57 n0).bind fun r8 => (mX9_divideOther r8 n1).bind fun r9 => some (1, r9))
  else ((mX9_radicalOf S n0).bind fun r10 => some (1, r10))
theorem wX9_combine {κ : KT} {g : GT} (C : CX κ g RX9 cX9_combine 4 (some .boolean) 5 109) (S : St) (n0 : Nat) (hn0 : okI g n0) (n1 : Nat) (hn1 : okI g n1) (a0 : Int32) : J κ g 4 (fun a : Int32 × St => (some (Value.int a.1), a.2)) S 0 [(0, .ref (gad g 23)), (1, .int a0), (2, .ref (gad g n0)), (3, .ref (gad g n1))] [] (mX9_combine S n0 n1 a0) := by
  unfold mX9_combine
  refine j_iload_n C 1 rfl dX9_combine_0 rfl ?_
  refine j_case (fun hx0 => ?_) (fun hx0 => ?_)
  · refine j_tswIn C (off := 31) 32 hx0 dX9_combine_1 (by decide) (by decide) (by decide) (by decide) ?_
    refine j_aload_n C 0 rfl dX9_combine_32 rfl ?_
    refine j_getR C (x := 55) fl_X9_12 sh_23 rfl rfl dX9_combine_33 ?_
    refine j_aload_n C 2 rfl dX9_combine_36 rfl ?_
    refine j_callVvS C [.ref (gad g n0)] [] mv_X9_41 sh_55 rfl rfl (fun _ h => ctX6_become (okT_55 (g := g)) hn0 h) ⟨(Nat.le_of_ble_eq_true rfl), (Nat.le_of_ble_eq_true rfl)⟩ (Nat.le_of_ble_eq_true rfl) dX9_combine_37 rfl (fun r1 => ?_)
    refine j_aload_n C 0 rfl dX9_combine_40 rfl ?_
    refine j_getR C (x := 55) fl_X9_12 sh_23 rfl rfl dX9_combine_41 ?_
    refine j_aload_n C 3 rfl dX9_combine_44 rfl ?_
    refine j_callVvS C [.ref (gad g n1)] [] mv_X9_45 sh_55 rfl rfl (fun _ h => ctX6_lowerBy (okT_55 (g := g)) hn1 h) ⟨(Nat.le_of_ble_eq_true rfl), (Nat.le_of_ble_eq_true rfl)⟩ (Nat.le_of_ble_eq_true rfl) dX9_combine_45 rfl (fun r2 => ?_)
    refine j_aload_n C 0 rfl dX9_combine_48 rfl ?_
    refine j_getR C (x := 55) fl_X9_12 sh_23 rfl rfl dX9_combine_49 ?_
    refine j_callVvS C [] [] mv_X9_38 sh_55 rfl rfl (fun _ h => ctX6_spreadUp (okT_55 (g := g)) h) ⟨(Nat.le_of_ble_eq_true rfl), (Nat.le_of_ble_eq_true rfl)⟩ (Nat.le_of_ble_eq_true rfl) dX9_combine_52 rfl (fun r3 => ?_)
    refine j_iconst C (v := 1) (by decide) dX9_combine_55 ?_
    exact j_zret C rfl rfl dX9_combine_56
  refine j_case (fun hx1 => ?_) (fun hx1 => ?_)
  · refine j_tswIn C (off := 56) 57 hx1 dX9_combine_1 (by decide) (by decide) (by decide) (by decide) ?_
    refine j_aload_n C 0 rfl dX9_combine_57 rfl ?_
    refine j_getR C (x := 55) fl_X9_12 sh_23 rfl rfl dX9_combine_58 ?_
    refine j_aload_n C 2 rfl dX9_combine_61 rfl ?_
    refine j_callVvS C [.ref (gad g n0)] [] mv_X9_41 sh_55 rfl rfl (fun _ h => ctX6_become (okT_55 (g := g)) hn0 h) ⟨(Nat.le_of_ble_eq_true rfl), (Nat.le_of_ble_eq_true rfl)⟩ (Nat.le_of_ble_eq_true rfl) dX9_combine_62 rfl (fun r4 => ?_)
    refine j_aload_n C 0 rfl dX9_combine_65 rfl ?_
    refine j_getR C (x := 57) fl_X9_18 sh_23 rfl rfl dX9_combine_66 ?_
    refine j_aload_n C 3 rfl dX9_combine_69 rfl ?_
    refine j_callVvS C [.ref (gad g n1)] [] mv_X9_41 sh_57 rfl rfl (fun _ h => ctX6_become (okT_57 (g := g)) hn1 h) ⟨(Nat.le_of_ble_eq_true rfl), (Nat.le_of_ble_eq_true rfl)⟩ (Nat.le_of_ble_eq_true rfl) dX9_combine_70 rfl (fun r5 => ?_)
    refine j_aload_n C 0 rfl dX9_combine_73 rfl ?_
    refine j_getR C (x := 55) fl_X9_12 sh_23 rfl rfl dX9_combine_74 ?_
    refine j_aload_n C 0 rfl dX9_combine_77 rfl ?_
    refine j_getR C (x := 57) fl_X9_18 sh_23 rfl rfl dX9_combine_78 ?_
    refine j_callVvS C [.ref (gad g 57)] [] mv_X9_48 sh_55 rfl rfl (fun _ h => ctX6_raiseBy (okT_55 (g := g)) (okT_57 (g := g)) h) ⟨(Nat.le_of_ble_eq_true rfl), (Nat.le_of_ble_eq_true rfl)⟩ (Nat.le_of_ble_eq_true rfl) dX9_combine_81 rfl (fun r6 => ?_)
    refine j_iconst C (v := 1) (by decide) dX9_combine_84 ?_
    exact j_zret C rfl rfl dX9_combine_85
  refine j_case (fun hx2 => ?_) (fun hx2 => ?_)
  · refine j_tswIn C (off := 85) 86 hx2 dX9_combine_1 (by decide) (by decide) (by decide) (by decide) ?_
    refine j_aload_n C 0 rfl dX9_combine_86 rfl ?_
    refine j_aload_n C 2 rfl dX9_combine_87 rfl ?_
    refine j_aload_n C 3 rfl dX9_combine_88 rfl ?_
    refine j_callViS C [.ref (gad g n0), .ref (gad g n1)] [] mv_X9_52 sh_23 rfl rfl (fun _ h => ctX9_productFits hn0 hn1 h) ⟨(Nat.le_of_ble_eq_true rfl), (Nat.le_of_ble_eq_true rfl)⟩ (Nat.le_of_ble_eq_true rfl) dX9_combine_89 rfl (fun r7 => ?_)
    refine j_zbg (fun hb => ?_)
    exact j_zret C (nar_z hb) rfl dX9_combine_92
  refine j_case (fun hx3 => ?_) (fun hx3 => ?_)
  · refine j_tswIn C (off := 92) 93 hx3 dX9_combine_1 (by decide) (by decide) (by decide) (by decide) ?_
    refine j_aload_n C 0 rfl dX9_combine_93 rfl ?_
    refine j_getR C (x := 57) fl_X9_18 sh_23 rfl rfl dX9_combine_94 ?_
    refine j_aload_n C 2 rfl dX9_combine_97 rfl ?_
    refine j_callVvS C [.ref (gad g n0)] [] mv_X9_41 sh_57 rfl rfl (fun _ h => ctX6_become (okT_57 (g := g)) hn0 h) ⟨(Nat.le_of_ble_eq_true rfl), (Nat.le_of_ble_eq_true rfl)⟩ (Nat.le_of_ble_eq_true rfl) dX9_combine_98 rfl (fun r8 => ?_)
    refine j_aload_n C 0 rfl dX9_combine_101 rfl ?_
    refine j_aload_n C 3 rfl dX9_combine_102 rfl ?_
    refine j_callVvS C [.ref (gad g n1)] [] mv_X9_56 sh_23 rfl rfl (fun _ h => ctX9_divideOther hn1 h) ⟨(Nat.le_of_ble_eq_true rfl), (Nat.le_of_ble_eq_true rfl)⟩ (Nat.le_of_ble_eq_true rfl) dX9_combine_103 rfl (fun r9 => ?_)
    refine j_iconst C (v := 1) (by decide) dX9_combine_106 ?_
    exact j_zret C rfl rfl dX9_combine_107
  refine j_tswOut3 C 108 dX9_combine_1 hx0 hx1 hx2 hx3 (by decide) ?_
  refine j_aload_n C 0 rfl dX9_combine_108 rfl ?_
  refine j_aload_n C 2 rfl dX9_combine_109 rfl ?_
  refine j_callVvS C [.ref (gad g n0)] [] mv_X9_59 sh_23 rfl rfl (fun _ h => ctX9_radicalOf hn0 h) ⟨(Nat.le_of_ble_eq_true rfl), (Nat.le_of_ble_eq_true rfl)⟩ (Nat.le_of_ble_eq_true rfl) dX9_combine_110 rfl (fun r10 => ?_)
  refine j_iconst C (v := 1) (by decide) dX9_combine_113 ?_
  exact j_zret C rfl rfl dX9_combine_114
theorem ctX9_combine {l : Launch} {g : GT} {S : St} {n0 : Nat} (hn0 : okI g n0) {n1 : Nat} (hn1 : okI g n1) {a0 : Int32} {out : Int32 × St} (ho : mX9_combine S n0 n1 a0 = some out) : CT l yX9_combine cX9_combine 4 (some .boolean) 5 109 [.ref (gad g 23), .int a0, .ref (gad g n0), .ref (gad g n1)] g S ((fun a : Int32 × St => (some (Value.int a.1), a.2)) out) := CT_of (φ := (fun a : Int32 × St => (some (Value.int a.1), a.2))) [.ref (gad g 23), .int a0, .ref (gad g n0), .ref (gad g n1)] ho (by decide) (Nat.le_of_ble_eq_true rfl) (xs := [(0, .ref (gad g 23)), (1, .int a0), (2, .ref (gad g n0)), (3, .ref (gad g n1))]) rfl (fun κ C => wX9_combine C S n0 hn0 n1 hn1 a0)
/-! StairIdeals$Workshop.meetParts(LStairIdeals$Stairs;I)V -/
def mX9_meetParts_61 (n0 : Nat) (k9 : St → Int32 → Int32 → Option (St)) (S : St) (x2 : Int32) (x3 : Int32) : Option (St) := bnd (x3 + 1) fun v1 => k9 S x2 v1
theorem wX9_meetParts_61 {κ : KT} {g : GT} (C : CX κ g RX9 cX9_meetParts 6 none 3 68) (n0 : Nat) (hn0 : okT g n0) (k9 : St → Int32 → Int32 → Option (St)) (hk9 : ∀ (S : St) (x2 : Int32) (x3 : Int32), J κ g 6 (fun a : St => (none, a)) S 9 [(0, .ref (gad g 23)), (1, .ref (gad g n0)), (2, .int x2), (3, .int x3)] [] (k9 S x2 x3)) (S : St) (x2 : Int32) (x3 : Int32) : J κ g 6 (fun a : St => (none, a)) S 61 [(0, .ref (gad g 23)), (1, .ref (gad g n0)), (2, .int x2), (3, .int x3)] [] (mX9_meetParts_61 n0 k9 S x2 x3) := by
  unfold mX9_meetParts_61
  refine j_iinc C (xs2 := fun v1 => [(0, .ref (gad g 23)), (1, .ref (gad g n0)), (2, .int x2), (3, .int v1)]) 3 rfl dX9_meetParts_61 (by decide) (by decide) (fun _ => rfl) (fun v1 => ?_)
  refine j_goto C 9 dX9_meetParts_64 (by decide) ?_
  exact hk9 S x2 v1
def mX9_meetParts_9 (n0 : Nat) : Nat → St → Int32 → Int32 → Option (St)
  | 0, _, _, _ => none
  | n + 1, S, x2, x3 => if 343 ≤ x3 then ((mX6_spreadDown S 55).bind fun r1 => some r1)
  else ((mX6_partAt S n0 x3).bind fun r2 => if r2 = (-1) then (mX9_meetParts_61 n0 (mX9_meetParts_9 n0 n) S x2 x3)
  else ((mX3_support r2).bind fun r3 => if r3 = x2 then ((mX6_cellInPartOrder x3).bind fun r4 => inb 343 r4 fun j5 => inb 343 r4 fun j6 => mX9_meetParts_61 n0 (mX9_meetParts_9 n0 n) (sA S 56 j6 (gA S (n0 + 1) j5)) x2 x3)
  else (mX9_meetParts_61 n0 (mX9_meetParts_9 n0 n) S x2 x3)))
theorem wX9_meetParts_9 {κ : KT} {g : GT} (C : CX κ g RX9 cX9_meetParts 6 none 3 68) (n0 : Nat) (hn0 : okT g n0) : ∀ (n : Nat) (S : St) (x2 : Int32) (x3 : Int32), J κ g 6 (fun a : St => (none, a)) S 9 [(0, .ref (gad g 23)), (1, .ref (gad g n0)), (2, .int x2), (3, .int x3)] [] (mX9_meetParts_9 n0 n S x2 x3) := by
  intro n
  induction n with
  | zero => intro S x2 x3; exact j_none
  | succ n ih =>
    intro S x2 x3
    rw [mX9_meetParts_9]
    refine j_iload_n C 3 rfl dX9_meetParts_9 rfl ?_
    refine j_sipush C (v := 343) (by decide) dX9_meetParts_10 ?_
    refine j_icmp_ge C 67 dX9_meetParts_13 (by decide) ?_ ?_
    · refine j_aload_n C 0 rfl dX9_meetParts_67 rfl ?_
      refine j_getR C (x := 55) fl_X9_12 sh_23 rfl rfl dX9_meetParts_68 ?_
      refine j_callVvS C [] [] mv_X9_113 sh_55 rfl rfl (fun _ h => ctX6_spreadDown (okT_55 (g := g)) h) ⟨(Nat.le_of_ble_eq_true rfl), (Nat.le_of_ble_eq_true rfl)⟩ (Nat.le_of_ble_eq_true rfl) dX9_meetParts_71 rfl (fun r1 => ?_)
      exact j_vret C rfl dX9_meetParts_74
    · refine j_aload_n C 1 rfl dX9_meetParts_16 rfl ?_
      refine j_iload_n C 3 rfl dX9_meetParts_17 rfl ?_
      refine j_callVi C [.int x3] [] mv_X9_107 hn0.1 hn0.2.2.1 rfl (fun _ h => ctX6_partAt hn0 h) ⟨(Nat.le_of_ble_eq_true rfl), (Nat.le_of_ble_eq_true rfl)⟩ (Nat.le_of_ble_eq_true rfl) dX9_meetParts_18 rfl (fun r2 => ?_)
      refine j_istore C (xs1 := [(0, .ref (gad g 23)), (1, .ref (gad g n0)), (2, .int x2), (3, .int x3), (4, .int r2)]) dX9_meetParts_21 (by decide) rfl ?_
      refine j_iload C 4 rfl dX9_meetParts_23 ?_
      refine j_iconst C (v := (-1)) (by decide) dX9_meetParts_25 ?_
      refine j_icmp_eq C 61 dX9_meetParts_26 (by decide) ?_ ?_
      · refine j_sub (xs1 := [(0, .ref (gad g 23)), (1, .ref (gad g n0)), (2, .int x2), (3, .int x3)]) [0, 1, 2, 3] rfl ?_
        exact wX9_meetParts_61 C n0 hn0 (mX9_meetParts_9 n0 n) ih S x2 x3
      · refine j_iload C 4 rfl dX9_meetParts_29 ?_
        refine j_callSi C [.int r2] [] ms_X9_101 (fun _ h => ctX3_support h) ⟨(Nat.le_of_ble_eq_true rfl), (Nat.le_of_ble_eq_true rfl)⟩ (Nat.le_of_ble_eq_true rfl) dX9_meetParts_31 rfl (fun r3 => ?_)
        refine j_iload_n C 2 rfl dX9_meetParts_34 rfl ?_
        refine j_icmp_ne C 61 dX9_meetParts_35 (by decide) ?_ ?_
        · refine j_sub (xs1 := [(0, .ref (gad g 23)), (1, .ref (gad g n0)), (2, .int x2), (3, .int x3)]) [0, 1, 2, 3] rfl ?_
          exact wX9_meetParts_61 C n0 hn0 (mX9_meetParts_9 n0 n) ih S x2 x3
        · refine j_iload_n C 3 rfl dX9_meetParts_38 rfl ?_
          refine j_callSi C [.int x3] [] ms_X9_110 (fun _ h => ctX6_cellInPartOrder h) ⟨(Nat.le_of_ble_eq_true rfl), (Nat.le_of_ble_eq_true rfl)⟩ (Nat.le_of_ble_eq_true rfl) dX9_meetParts_39 rfl (fun r4 => ?_)
          refine j_istore C (xs1 := [(0, .ref (gad g 23)), (1, .ref (gad g n0)), (2, .int x2), (3, .int x3), (4, .int r2), (5, .int r4)]) dX9_meetParts_42 (by decide) rfl ?_
          refine j_aload_n C 0 rfl dX9_meetParts_44 rfl ?_
          refine j_getR C (x := 55) fl_X9_12 sh_23 rfl rfl dX9_meetParts_45 ?_
          refine j_getR C (x := 56) fl_X9_86 sh_55 rfl rfl dX9_meetParts_48 ?_
          refine j_iload C 5 rfl dX9_meetParts_51 ?_
          refine j_aload_n C 1 rfl dX9_meetParts_53 rfl ?_
          refine j_getR C (x := n0 + 1) fl_X9_86 hn0.1 hn0.2.2.1 rfl dX9_meetParts_54 ?_
          refine j_iload C 5 rfl dX9_meetParts_57 ?_
          refine j_iald C hn0.2.1 hn0.2.2.2 dX9_meetParts_59 (fun j5 => ?_)
          refine j_iast C sh_56 rfl dX9_meetParts_60 (fun j6 => ?_)
          refine j_sub (xs1 := [(0, .ref (gad g 23)), (1, .ref (gad g n0)), (2, .int x2), (3, .int x3)]) [0, 1, 2, 3] rfl ?_
          exact wX9_meetParts_61 C n0 hn0 (mX9_meetParts_9 n0 n) ih (sA S 56 j6 (gA S (n0 + 1) j5)) x2 x3
def mX9_meetParts (S : St) (n0 : Nat) (a0 : Int32) : Option (St) := (mX6_becomeAll S 55).bind fun r1 => mX9_meetParts_9 n0 FU r1 a0 0
theorem wX9_meetParts {κ : KT} {g : GT} (C : CX κ g RX9 cX9_meetParts 6 none 3 68) (S : St) (n0 : Nat) (hn0 : okT g n0) (a0 : Int32) : J κ g 6 (fun a : St => (none, a)) S 0 [(0, .ref (gad g 23)), (1, .ref (gad g n0)), (2, .int a0)] [] (mX9_meetParts S n0 a0) := by
  unfold mX9_meetParts
  refine j_aload_n C 0 rfl dX9_meetParts_0 rfl ?_
  refine j_getR C (x := 55) fl_X9_12 sh_23 rfl rfl dX9_meetParts_1 ?_
  refine j_callVvS C [] [] mv_X9_79 sh_55 rfl rfl (fun _ h => ctX6_becomeAll (okT_55 (g := g)) h) ⟨(Nat.le_of_ble_eq_true rfl), (Nat.le_of_ble_eq_true rfl)⟩ (Nat.le_of_ble_eq_true rfl) dX9_meetParts_4 rfl (fun r1 => ?_)
  refine j_iconst C (v := 0) (by decide) dX9_meetParts_7 ?_
  refine j_istore_n C (xs1 := [(0, .ref (gad g 23)), (1, .ref (gad g n0)), (2, .int a0), (3, .int 0)]) dX9_meetParts_8 rfl (by decide) rfl ?_
  exact wX9_meetParts_9 C n0 hn0 FU r1 a0 0
theorem ctX9_meetParts {l : Launch} {g : GT} {S : St} {n0 : Nat} (hn0 : okT g n0) {a0 : Int32} {out : St} (ho : mX9_meetParts S n0 a0 = some out) : CT l yX9_meetParts cX9_meetParts 6 none 3 68 [.ref (gad g 23), .ref (gad g n0), .int a0] g S ((fun a : St => (none, a)) out) := CT_of (φ := (fun a : St => (none, a))) [.ref (gad g 23), .ref (gad g n0), .int a0] ho (by decide) (Nat.le_of_ble_eq_true rfl) (xs := [(0, .ref (gad g 23)), (1, .ref (gad g n0)), (2, .int a0)]) rfl (fun κ C => wX9_meetParts C S n0 hn0 a0)
/-! StairIdeals$Workshop.figuresOf(I)I -/
def mX9_figuresOf (a0 : Int32) : Option (Int32) := (mX3_support a0).bind fun r1 => (mX3_ofSet r1).bind fun r2 => some (15 * r2)
theorem wX9_figuresOf {κ : KT} {g : GT} (C : CX κ g RX9 cX9_figuresOf 1 (some .int) 2 43) (S : St) (a0 : Int32) : J κ g 1 (fun a : Int32 => (some (Value.int a), S)) S 0 [(0, .int a0)] [] (mX9_figuresOf a0) := by
  unfold mX9_figuresOf
  refine j_bipush C (v := 15) (by decide) dX9_figuresOf_0 ?_
  refine j_iload_n C 0 rfl dX9_figuresOf_2 rfl ?_
  refine j_callSi C [.int a0] [.int 15] ms_X9_101 (fun _ h => ctX3_support h) ⟨(Nat.le_of_ble_eq_true rfl), (Nat.le_of_ble_eq_true rfl)⟩ (Nat.le_of_ble_eq_true rfl) dX9_figuresOf_3 rfl (fun r1 => ?_)
  refine j_callSi C [.int r1] [.int 15] ms_X9_104 (fun _ h => ctX3_ofSet h) ⟨(Nat.le_of_ble_eq_true rfl), (Nat.le_of_ble_eq_true rfl)⟩ (Nat.le_of_ble_eq_true rfl) dX9_figuresOf_6 rfl (fun r2 => ?_)
  refine j_imul C dX9_figuresOf_9 ?_
  exact j_iret C rfl dX9_figuresOf_10
theorem ctX9_figuresOf {l : Launch} {g : GT} {S : St} {a0 : Int32} {out : Int32} (ho : mX9_figuresOf a0 = some out) : CT l yX9_figuresOf cX9_figuresOf 1 (some .int) 2 43 [.int a0] g S ((fun a : Int32 => (some (Value.int a), S)) out) := CT_of (φ := (fun a : Int32 => (some (Value.int a), S))) [.int a0] ho (by decide) (Nat.le_of_ble_eq_true rfl) (xs := [(0, .int a0)]) rfl (fun κ C => wX9_figuresOf C S a0)
/-! StairIdeals$Workshop.turnParts(LStairIdeals$Stairs;I)V -/
def mX9_turnParts_55 (n0 : Nat) (k9 : St → Int32 → Int32 → Option (St)) (S : St) (x2 : Int32) (x3 : Int32) : Option (St) := bnd (x3 + 1) fun v1 => k9 S x2 v1
theorem wX9_turnParts_55 {κ : KT} {g : GT} (C : CX κ g RX9 cX9_turnParts 5 none 3 68) (n0 : Nat) (hn0 : okT g n0) (k9 : St → Int32 → Int32 → Option (St)) (hk9 : ∀ (S : St) (x2 : Int32) (x3 : Int32), J κ g 5 (fun a : St => (none, a)) S 9 [(0, .ref (gad g 23)), (1, .ref (gad g n0)), (2, .int x2), (3, .int x3)] [] (k9 S x2 x3)) (S : St) (x2 : Int32) (x3 : Int32) : J κ g 5 (fun a : St => (none, a)) S 55 [(0, .ref (gad g 23)), (1, .ref (gad g n0)), (2, .int x2), (3, .int x3)] [] (mX9_turnParts_55 n0 k9 S x2 x3) := by
  unfold mX9_turnParts_55
  refine j_iinc C (xs2 := fun v1 => [(0, .ref (gad g 23)), (1, .ref (gad g n0)), (2, .int x2), (3, .int v1)]) 3 rfl dX9_turnParts_55 (by decide) (by decide) (fun _ => rfl) (fun v1 => ?_)
  refine j_goto C 9 dX9_turnParts_58 (by decide) ?_
  exact hk9 S x2 v1
def mX9_turnParts_9 (n0 : Nat) : Nat → St → Int32 → Int32 → Option (St)
  | 0, _, _, _ => none
  | n + 1, S, x2, x3 => if 343 ≤ x3 then ((mX6_spreadUp S 55).bind fun r1 => some r1)
  else ((mX6_partAt S n0 x3).bind fun r2 => if r2 = (-1) then (mX9_turnParts_55 n0 (mX9_turnParts_9 n0 n) S x2 x3)
  else ((mX3_support r2).bind fun r3 => (mX3_ofSet r3).bind fun r4 => (mX9_figuresOf r2).bind fun r5 => (mX6_lower S 55 (((x2 + r4) - r2) &&& r5)).bind fun r6 => mX9_turnParts_55 n0 (mX9_turnParts_9 n0 n) r6 x2 x3))
theorem wX9_turnParts_9 {κ : KT} {g : GT} (C : CX κ g RX9 cX9_turnParts 5 none 3 68) (n0 : Nat) (hn0 : okT g n0) : ∀ (n : Nat) (S : St) (x2 : Int32) (x3 : Int32), J κ g 5 (fun a : St => (none, a)) S 9 [(0, .ref (gad g 23)), (1, .ref (gad g n0)), (2, .int x2), (3, .int x3)] [] (mX9_turnParts_9 n0 n S x2 x3) := by
  intro n
  induction n with
  | zero => intro S x2 x3; exact j_none
  | succ n ih =>
    intro S x2 x3
    rw [mX9_turnParts_9]
    refine j_iload_n C 3 rfl dX9_turnParts_9 rfl ?_
    refine j_sipush C (v := 343) (by decide) dX9_turnParts_10 ?_
    refine j_icmp_ge C 61 dX9_turnParts_13 (by decide) ?_ ?_
    · refine j_aload_n C 0 rfl dX9_turnParts_61 rfl ?_
      refine j_getR C (x := 55) fl_X9_12 sh_23 rfl rfl dX9_turnParts_62 ?_
      refine j_callVvS C [] [] mv_X9_38 sh_55 rfl rfl (fun _ h => ctX6_spreadUp (okT_55 (g := g)) h) ⟨(Nat.le_of_ble_eq_true rfl), (Nat.le_of_ble_eq_true rfl)⟩ (Nat.le_of_ble_eq_true rfl) dX9_turnParts_65 rfl (fun r1 => ?_)
      exact j_vret C rfl dX9_turnParts_68
    · refine j_aload_n C 1 rfl dX9_turnParts_16 rfl ?_
      refine j_iload_n C 3 rfl dX9_turnParts_17 rfl ?_
      refine j_callVi C [.int x3] [] mv_X9_107 hn0.1 hn0.2.2.1 rfl (fun _ h => ctX6_partAt hn0 h) ⟨(Nat.le_of_ble_eq_true rfl), (Nat.le_of_ble_eq_true rfl)⟩ (Nat.le_of_ble_eq_true rfl) dX9_turnParts_18 rfl (fun r2 => ?_)
      refine j_istore C (xs1 := [(0, .ref (gad g 23)), (1, .ref (gad g n0)), (2, .int x2), (3, .int x3), (4, .int r2)]) dX9_turnParts_21 (by decide) rfl ?_
      refine j_iload C 4 rfl dX9_turnParts_23 ?_
      refine j_iconst C (v := (-1)) (by decide) dX9_turnParts_25 ?_
      refine j_icmp_eq C 55 dX9_turnParts_26 (by decide) ?_ ?_
      · refine j_sub (xs1 := [(0, .ref (gad g 23)), (1, .ref (gad g n0)), (2, .int x2), (3, .int x3)]) [0, 1, 2, 3] rfl ?_
        exact wX9_turnParts_55 C n0 hn0 (mX9_turnParts_9 n0 n) ih S x2 x3
      · refine j_aload_n C 0 rfl dX9_turnParts_29 rfl ?_
        refine j_getR C (x := 55) fl_X9_12 sh_23 rfl rfl dX9_turnParts_30 ?_
        refine j_iload_n C 2 rfl dX9_turnParts_33 rfl ?_
        refine j_iload C 4 rfl dX9_turnParts_34 ?_
        refine j_callSi C [.int r2] [.int x2, .ref (gad g 55)] ms_X9_101 (fun _ h => ctX3_support h) ⟨(Nat.le_of_ble_eq_true rfl), (Nat.le_of_ble_eq_true rfl)⟩ (Nat.le_of_ble_eq_true rfl) dX9_turnParts_36 rfl (fun r3 => ?_)
        refine j_callSi C [.int r3] [.int x2, .ref (gad g 55)] ms_X9_104 (fun _ h => ctX3_ofSet h) ⟨(Nat.le_of_ble_eq_true rfl), (Nat.le_of_ble_eq_true rfl)⟩ (Nat.le_of_ble_eq_true rfl) dX9_turnParts_39 rfl (fun r4 => ?_)
        refine j_iadd C dX9_turnParts_42 ?_
        refine j_iload C 4 rfl dX9_turnParts_43 ?_
        refine j_isub C dX9_turnParts_45 ?_
        refine j_iload C 4 rfl dX9_turnParts_46 ?_
        refine j_callSi C [.int r2] [.int ((x2 + r4) - r2), .ref (gad g 55)] ms_X9_116 (fun _ h => ctX9_figuresOf h) ⟨(Nat.le_of_ble_eq_true rfl), (Nat.le_of_ble_eq_true rfl)⟩ (Nat.le_of_ble_eq_true rfl) dX9_turnParts_48 rfl (fun r5 => ?_)
        refine j_iand C dX9_turnParts_51 ?_
        refine j_callVvS C [.int (((x2 + r4) - r2) &&& r5)] [] mv_X9_34 sh_55 rfl rfl (fun _ h => ctX6_lower (okT_55 (g := g)) h) ⟨(Nat.le_of_ble_eq_true rfl), (Nat.le_of_ble_eq_true rfl)⟩ (Nat.le_of_ble_eq_true rfl) dX9_turnParts_52 rfl (fun r6 => ?_)
        refine j_sub (xs1 := [(0, .ref (gad g 23)), (1, .ref (gad g n0)), (2, .int x2), (3, .int x3)]) [0, 1, 2, 3] rfl ?_
        exact wX9_turnParts_55 C n0 hn0 (mX9_turnParts_9 n0 n) ih r6 x2 x3
def mX9_turnParts (S : St) (n0 : Nat) (a0 : Int32) : Option (St) := (mX6_becomeNothing S 55).bind fun r1 => mX9_turnParts_9 n0 FU r1 a0 0
theorem wX9_turnParts {κ : KT} {g : GT} (C : CX κ g RX9 cX9_turnParts 5 none 3 68) (S : St) (n0 : Nat) (hn0 : okT g n0) (a0 : Int32) : J κ g 5 (fun a : St => (none, a)) S 0 [(0, .ref (gad g 23)), (1, .ref (gad g n0)), (2, .int a0)] [] (mX9_turnParts S n0 a0) := by
  unfold mX9_turnParts
  refine j_aload_n C 0 rfl dX9_turnParts_0 rfl ?_
  refine j_getR C (x := 55) fl_X9_12 sh_23 rfl rfl dX9_turnParts_1 ?_
  refine j_callVvS C [] [] mv_X9_21 sh_55 rfl rfl (fun _ h => ctX6_becomeNothing (okT_55 (g := g)) h) ⟨(Nat.le_of_ble_eq_true rfl), (Nat.le_of_ble_eq_true rfl)⟩ (Nat.le_of_ble_eq_true rfl) dX9_turnParts_4 rfl (fun r1 => ?_)
  refine j_iconst C (v := 0) (by decide) dX9_turnParts_7 ?_
  refine j_istore_n C (xs1 := [(0, .ref (gad g 23)), (1, .ref (gad g n0)), (2, .int a0), (3, .int 0)]) dX9_turnParts_8 rfl (by decide) rfl ?_
  exact wX9_turnParts_9 C n0 hn0 FU r1 a0 0
theorem ctX9_turnParts {l : Launch} {g : GT} {S : St} {n0 : Nat} (hn0 : okT g n0) {a0 : Int32} {out : St} (ho : mX9_turnParts S n0 a0 = some out) : CT l yX9_turnParts cX9_turnParts 5 none 3 68 [.ref (gad g 23), .ref (gad g n0), .int a0] g S ((fun a : St => (none, a)) out) := CT_of (φ := (fun a : St => (none, a))) [.ref (gad g 23), .ref (gad g n0), .int a0] ho (by decide) (Nat.le_of_ble_eq_true rfl) (xs := [(0, .ref (gad g 23)), (1, .ref (gad g n0)), (2, .int a0)]) rfl (fun κ C => wX9_turnParts C S n0 hn0 a0)
/-! StairIdeals$Workshop.fill(LStairIdeals$Ideal;)V -/
def mX9_fill_57 (n0 : Nat) (k7 : St → Int32 → Option (St)) (S : St) (x2 : Int32) : Option (St) := bnd (x2 + 1) fun v1 => k7 S v1
theorem wX9_fill_57 {κ : KT} {g : GT} (C : CX κ g RX9 cX9_fill 4 none 3 67) (n0 : Nat) (hn0 : okI g n0) (k7 : St → Int32 → Option (St)) (hk7 : ∀ (S : St) (x2 : Int32), J κ g 4 (fun a : St => (none, a)) S 7 [(0, .ref (gad g 23)), (1, .ref (gad g n0)), (2, .int x2)] [] (k7 S x2)) (S : St) (x2 : Int32) : J κ g 4 (fun a : St => (none, a)) S 57 [(0, .ref (gad g 23)), (1, .ref (gad g n0)), (2, .int x2)] [] (mX9_fill_57 n0 k7 S x2) := by
  unfold mX9_fill_57
  refine j_iinc C (xs2 := fun v1 => [(0, .ref (gad g 23)), (1, .ref (gad g n0)), (2, .int v1)]) 2 rfl dX9_fill_57 (by decide) (by decide) (fun _ => rfl) (fun v1 => ?_)
  refine j_goto C 7 dX9_fill_60 (by decide) ?_
  exact hk7 S v1
def mX9_fill_7 (n0 : Nat) : Nat → St → Int32 → Option (St)
  | 0, _, _ => none
  | n + 1, S, x2 => if 343 ≤ x2 then (some S)
  else (if 40 ≤ (gI S n0 1) then (some S)
  else ((mX6_generatorAt S 55 x2).bind fun r1 => if r1 = (-1) then (mX9_fill_57 n0 (mX9_fill_7 n0 n) S x2)
  else (inb 40 (gI S n0 1) fun j2 => mX9_fill_57 n0 (mX9_fill_7 n0 n) (sI (sA S (n0 + 1) j2 r1) n0 1 ((gI (sA S (n0 + 1) j2 r1) n0 1) + 1)) x2)))
theorem wX9_fill_7 {κ : KT} {g : GT} (C : CX κ g RX9 cX9_fill 4 none 3 67) (n0 : Nat) (hn0 : okI g n0) : ∀ (n : Nat) (S : St) (x2 : Int32), J κ g 4 (fun a : St => (none, a)) S 7 [(0, .ref (gad g 23)), (1, .ref (gad g n0)), (2, .int x2)] [] (mX9_fill_7 n0 n S x2) := by
  intro n
  induction n with
  | zero => intro S x2; exact j_none
  | succ n ih =>
    intro S x2
    rw [mX9_fill_7]
    refine j_iload_n C 2 rfl dX9_fill_7 rfl ?_
    refine j_sipush C (v := 343) (by decide) dX9_fill_8 ?_
    refine j_icmp_ge C 63 dX9_fill_11 (by decide) ?_ ?_
    · exact j_vret C rfl dX9_fill_63
    · refine j_aload_n C 1 rfl dX9_fill_14 rfl ?_
      refine j_getI C fl_X9_62 hn0.1 hn0.2.2.1 rfl dX9_fill_15 ?_
      refine j_bipush C (v := 40) (by decide) dX9_fill_18 ?_
      refine j_icmp_ge C 63 dX9_fill_20 (by decide) ?_ ?_
      · exact j_vret C rfl dX9_fill_63
      · refine j_aload_n C 0 rfl dX9_fill_23 rfl ?_
        refine j_getR C (x := 55) fl_X9_12 sh_23 rfl rfl dX9_fill_24 ?_
        refine j_iload_n C 2 rfl dX9_fill_27 rfl ?_
        refine j_callVi C [.int x2] [] mv_X9_119 sh_55 rfl rfl (fun _ h => ctX6_generatorAt (okT_55 (g := g)) h) ⟨(Nat.le_of_ble_eq_true rfl), (Nat.le_of_ble_eq_true rfl)⟩ (Nat.le_of_ble_eq_true rfl) dX9_fill_28 rfl (fun r1 => ?_)
        refine j_istore_n C (xs1 := [(0, .ref (gad g 23)), (1, .ref (gad g n0)), (2, .int x2), (3, .int r1)]) dX9_fill_31 rfl (by decide) rfl ?_
        refine j_iload_n C 3 rfl dX9_fill_32 rfl ?_
        refine j_iconst C (v := (-1)) (by decide) dX9_fill_33 ?_
        refine j_icmp_eq C 57 dX9_fill_34 (by decide) ?_ ?_
        · refine j_sub (xs1 := [(0, .ref (gad g 23)), (1, .ref (gad g n0)), (2, .int x2)]) [0, 1, 2] rfl ?_
          exact wX9_fill_57 C n0 hn0 (mX9_fill_7 n0 n) ih S x2
        · refine j_aload_n C 1 rfl dX9_fill_37 rfl ?_
          refine j_getR C (x := n0 + 1) fl_X9_67 hn0.1 hn0.2.2.1 rfl dX9_fill_38 ?_
          refine j_aload_n C 1 rfl dX9_fill_41 rfl ?_
          refine j_getI C fl_X9_62 hn0.1 hn0.2.2.1 rfl dX9_fill_42 ?_
          refine j_iload_n C 3 rfl dX9_fill_45 rfl ?_
          refine j_iast C hn0.2.1 hn0.2.2.2 dX9_fill_46 (fun j2 => ?_)
          refine j_aload_n C 1 rfl dX9_fill_47 rfl ?_
          refine j_dup C rfl dX9_fill_48 ?_
          refine j_getI C fl_X9_62 hn0.1 hn0.2.2.1 rfl dX9_fill_49 ?_
          refine j_iconst C (v := 1) (by decide) dX9_fill_52 ?_
          refine j_iadd C dX9_fill_53 ?_
          refine j_putI C fp_X9_62 hn0.1 hn0.2.2.1 rfl rfl rfl dX9_fill_54 ?_
          refine j_sub (xs1 := [(0, .ref (gad g 23)), (1, .ref (gad g n0)), (2, .int x2)]) [0, 1, 2] rfl ?_
          exact wX9_fill_57 C n0 hn0 (mX9_fill_7 n0 n) ih (sI (sA S (n0 + 1) j2 r1) n0 1 ((gI (sA S (n0 + 1) j2 r1) n0 1) + 1)) x2
def mX9_fill (S : St) (n0 : Nat) : Option (St) := mX9_fill_7 n0 FU (sI S n0 1 0) 0
theorem wX9_fill {κ : KT} {g : GT} (C : CX κ g RX9 cX9_fill 4 none 3 67) (S : St) (n0 : Nat) (hn0 : okI g n0) : J κ g 4 (fun a : St => (none, a)) S 0 [(0, .ref (gad g 23)), (1, .ref (gad g n0))] [] (mX9_fill S n0) := by
  unfold mX9_fill
  refine j_aload_n C 1 rfl dX9_fill_0 rfl ?_
  refine j_iconst C (v := 0) (by decide) dX9_fill_1 ?_
  refine j_putI C fp_X9_62 hn0.1 hn0.2.2.1 rfl rfl rfl dX9_fill_2 ?_
  refine j_iconst C (v := 0) (by decide) dX9_fill_5 ?_
  refine j_istore_n C (xs1 := [(0, .ref (gad g 23)), (1, .ref (gad g n0)), (2, .int 0)]) dX9_fill_6 rfl (by decide) rfl ?_
  exact wX9_fill_7 C n0 hn0 FU (sI S n0 1 0) 0
theorem ctX9_fill {l : Launch} {g : GT} {S : St} {n0 : Nat} (hn0 : okI g n0) {out : St} (ho : mX9_fill S n0 = some out) : CT l yX9_fill cX9_fill 4 none 3 67 [.ref (gad g 23), .ref (gad g n0)] g S ((fun a : St => (none, a)) out) := CT_of (φ := (fun a : St => (none, a))) [.ref (gad g 23), .ref (gad g n0)] ho (by decide) (Nat.le_of_ble_eq_true rfl) (xs := [(0, .ref (gad g 23)), (1, .ref (gad g n0))]) rfl (fun κ C => wX9_fill C S n0 hn0)
/-! StairIdeals$Workshop.deliver(LStairIdeals$Ideal;)I -/
def mX9_deliver_26 (n0 : Nat) (k4 : St → Int32 → Int32 → Option (Int32 × St)) (S : St) (x2 : Int32) (x3 : Int32) : Option (Int32 × St) := bnd (x3 + 1) fun v1 => k4 S x2 v1
theorem wX9_deliver_26 {κ : KT} {g : GT} (C : CX κ g RX9 cX9_deliver 4 (some .int) 4 90) (n0 : Nat) (hn0 : okI g n0) (k4 : St → Int32 → Int32 → Option (Int32 × St)) (hk4 : ∀ (S : St) (x2 : Int32) (x3 : Int32), J κ g 4 (fun a : Int32 × St => (some (Value.int a.1), a.2)) S 4 [(0, .ref (gad g 23)), (1, .ref (gad g n0)), (2, .int x2), (3, .int x3)] [] (k4 S x2 x3)) (S : St) (x2 : Int32) (x3 : Int32) : J κ g 4 (fun a : Int32 × St => (some (Value.int a.1), a.2)) S 26 [(0, .ref (gad g 23)), (1, .ref (gad g n0)), (2, .int x2), (3, .int x3)] [] (mX9_deliver_26 n0 k4 S x2 x3) := by
  unfold mX9_deliver_26
  refine j_iinc C (xs2 := fun v1 => [(0, .ref (gad g 23)), (1, .ref (gad g n0)), (2, .int x2), (3, .int v1)]) 3 rfl dX9_deliver_26 (by decide) (by decide) (fun _ => rfl) (fun v1 => ?_)
  refine j_goto C 4 dX9_deliver_29 (by decide) ?_
  exact hk4 S x2 v1
def mX9_deliver_4 (n0 : Nat) : Nat → St → Int32 → Int32 → Option (Int32 × St)
  | 0, _, _, _ => none
  | n + 1, S, x2, x3 => if 343 ≤ x3 then (if x2 ≤ 40 then ((mX9_fill S n0).bind fun r1 => some (x2, r1))
  else (some ((-4), S)))
  else ((mX6_generatorAt S 55 x3).bind fun r2 => if r2 = (-1) then (mX9_deliver_26 n0 (mX9_deliver_4 n0 n) S x2 x3)
  else (bnd (x2 + 1) fun v3 => mX9_deliver_26 n0 (mX9_deliver_4 n0 n) S v3 x3))
theorem wX9_deliver_4 {κ : KT} {g : GT} (C : CX κ g RX9 cX9_deliver 4 (some .int) 4 90) (n0 : Nat) (hn0 : okI g n0) : ∀ (n : Nat) (S : St) (x2 : Int32) (x3 : Int32), J κ g 4 (fun a : Int32 × St => (some (Value.int a.1), a.2)) S 4 [(0, .ref (gad g 23)), (1, .ref (gad g n0)), (2, .int x2), (3, .int x3)] [] (mX9_deliver_4 n0 n S x2 x3) := by
  intro n
  induction n with
  | zero => intro S x2 x3; exact j_none
  | succ n ih =>
    intro S x2 x3
    rw [mX9_deliver_4]
    refine j_iload_n C 3 rfl dX9_deliver_4 rfl ?_
    refine j_sipush C (v := 343) (by decide) dX9_deliver_5 ?_
    refine j_icmp_ge C 32 dX9_deliver_8 (by decide) ?_ ?_
    · refine j_iload_n C 2 rfl dX9_deliver_32 rfl ?_
      refine j_bipush C (v := 40) (by decide) dX9_deliver_33 ?_
      refine j_icmp_le C 41 dX9_deliver_35 (by decide) ?_ ?_
      · refine j_aload_n C 0 rfl dX9_deliver_41 rfl ?_
        refine j_aload_n C 1 rfl dX9_deliver_42 rfl ?_
        refine j_callVvS C [.ref (gad g n0)] [] mv_X9_122 sh_23 rfl rfl (fun _ h => ctX9_fill hn0 h) ⟨(Nat.le_of_ble_eq_true rfl), (Nat.le_of_ble_eq_true rfl)⟩ (Nat.le_of_ble_eq_true rfl) dX9_deliver_43 rfl (fun r1 => ?_)
        refine j_iload_n C 2 rfl dX9_deliver_46 rfl ?_
        exact j_iret C rfl dX9_deliver_47
      · refine j_bipush C (v := (-4)) (by decide) dX9_deliver_38 ?_
        exact j_iret C rfl dX9_deliver_40
    · refine j_aload_n C 0 rfl dX9_deliver_11 rfl ?_
      refine j_getR C (x := 55) fl_X9_12 sh_23 rfl rfl dX9_deliver_12 ?_
      refine j_iload_n C 3 rfl dX9_deliver_15 rfl ?_
      refine j_callVi C [.int x3] [] mv_X9_119 sh_55 rfl rfl (fun _ h => ctX6_generatorAt (okT_55 (g := g)) h) ⟨(Nat.le_of_ble_eq_true rfl), (Nat.le_of_ble_eq_true rfl)⟩ (Nat.le_of_ble_eq_true rfl) dX9_deliver_16 rfl (fun r2 => ?_)
      refine j_iconst C (v := (-1)) (by decide) dX9_deliver_19 ?_
      refine j_icmp_eq C 26 dX9_deliver_20 (by decide) ?_ ?_
      · exact wX9_deliver_26 C n0 hn0 (mX9_deliver_4 n0 n) ih S x2 x3
      · refine j_iinc C (xs2 := fun v3 => [(0, .ref (gad g 23)), (1, .ref (gad g n0)), (2, .int v3), (3, .int x3)]) 2 rfl dX9_deliver_23 (by decide) (by decide) (fun _ => rfl) (fun v3 => ?_)
        exact wX9_deliver_26 C n0 hn0 (mX9_deliver_4 n0 n) ih S v3 x3
def mX9_deliver (S : St) (n0 : Nat) : Option (Int32 × St) := mX9_deliver_4 n0 FU S 0 0
theorem wX9_deliver {κ : KT} {g : GT} (C : CX κ g RX9 cX9_deliver 4 (some .int) 4 90) (S : St) (n0 : Nat) (hn0 : okI g n0) : J κ g 4 (fun a : Int32 × St => (some (Value.int a.1), a.2)) S 0 [(0, .ref (gad g 23)), (1, .ref (gad g n0))] [] (mX9_deliver S n0) := by
  unfold mX9_deliver
  refine j_iconst C (v := 0) (by decide) dX9_deliver_0 ?_
  refine j_istore_n C (xs1 := [(0, .ref (gad g 23)), (1, .ref (gad g n0)), (2, .int 0)]) dX9_deliver_1 rfl (by decide) rfl ?_
  refine j_iconst C (v := 0) (by decide) dX9_deliver_2 ?_
  refine j_istore_n C (xs1 := [(0, .ref (gad g 23)), (1, .ref (gad g n0)), (2, .int 0), (3, .int 0)]) dX9_deliver_3 rfl (by decide) rfl ?_
  exact wX9_deliver_4 C n0 hn0 FU S 0 0
theorem ctX9_deliver {l : Launch} {g : GT} {S : St} {n0 : Nat} (hn0 : okI g n0) {out : Int32 × St} (ho : mX9_deliver S n0 = some out) : CT l yX9_deliver cX9_deliver 4 (some .int) 4 90 [.ref (gad g 23), .ref (gad g n0)] g S ((fun a : Int32 × St => (some (Value.int a.1), a.2)) out) := CT_of (φ := (fun a : Int32 × St => (some (Value.int a.1), a.2))) [.ref (gad g 23), .ref (gad g n0)] ho (by decide) (Nat.le_of_ble_eq_true rfl) (xs := [(0, .ref (gad g 23)), (1, .ref (gad g n0))]) rfl (fun κ C => wX9_deliver C S n0 hn0)
/-! StairIdeals.say(I)I -/
def mX10_say (S : St) (a0 : Int32) : Option (Int32 × St) := if a0 < 33 then (some ((-2), S))
  else (if a0 ≤ 126 then ((mX4_append S a0).bind fun r1 => if r1.1 = 0 then (some ((-4), r1.2))
  else (some (gI r1.2 19 2, r1.2)))
  else (some ((-2), S)))
theorem wX10_say {κ : KT} {g : GT} (C : CX κ g RX10 cX10_say 2 (some .int) 1 21) (S : St) (a0 : Int32) : J κ g 2 (fun a : Int32 × St => (some (Value.int a.1), a.2)) S 0 [(0, .ref (gad g 18)), (1, .int a0)] [] (mX10_say S a0) := by
  unfold mX10_say
  refine j_iload_n C 1 rfl dX10_say_0 rfl ?_
  refine j_bipush C (v := 33) (by decide) dX10_say_1 ?_
  refine j_icmp_lt C 12 dX10_say_3 (by decide) ?_ ?_
  · refine j_bipush C (v := (-2)) (by decide) dX10_say_12 ?_
    exact j_iret C rfl dX10_say_14
  · refine j_iload_n C 1 rfl dX10_say_6 rfl ?_
    refine j_bipush C (v := 126) (by decide) dX10_say_7 ?_
    refine j_icmp_le C 15 dX10_say_9 (by decide) ?_ ?_
    · refine j_aload_n C 0 rfl dX10_say_15 rfl ?_
      refine j_getR C (x := 19) fl_X10_10 sh_18 rfl rfl dX10_say_16 ?_
      refine j_iload_n C 1 rfl dX10_say_19 rfl ?_
      refine j_callViS C [.int a0] [] mv_X10_41 sh_19 rfl rfl (fun _ h => ctX4_append h) ⟨(Nat.le_of_ble_eq_true rfl), (Nat.le_of_ble_eq_true rfl)⟩ (Nat.le_of_ble_eq_true rfl) dX10_say_20 rfl (fun r1 => ?_)
      refine j_if_eq C 36 dX10_say_23 (by decide) ?_ ?_
      · refine j_bipush C (v := (-4)) (by decide) dX10_say_36 ?_
        exact j_iret C rfl dX10_say_38
      · refine j_aload_n C 0 rfl dX10_say_26 rfl ?_
        refine j_getR C (x := 19) fl_X10_10 sh_18 rfl rfl dX10_say_27 ?_
        refine j_getI C fl_X10_45 sh_19 rfl rfl dX10_say_30 ?_
        refine j_goto C 38 dX10_say_33 (by decide) ?_
        exact j_iret C rfl dX10_say_38
    · refine j_bipush C (v := (-2)) (by decide) dX10_say_12 ?_
      exact j_iret C rfl dX10_say_14
theorem ctX10_say {l : Launch} {g : GT} {S : St} {a0 : Int32} {out : Int32 × St} (ho : mX10_say S a0 = some out) : CT l yX10_say cX10_say 2 (some .int) 1 21 [.ref (gad g 18), .int a0] g S ((fun a : Int32 × St => (some (Value.int a.1), a.2)) out) := CT_of (φ := (fun a : Int32 × St => (some (Value.int a.1), a.2))) [.ref (gad g 18), .int a0] ho (by decide) (Nat.le_of_ble_eq_true rfl) (xs := [(0, .ref (gad g 18)), (1, .int a0)]) rfl (fun κ C => wX10_say C S a0)
/-! StairIdeals.wipe()I -/
def mX10_wipe (S : St) : Option (Int32 × St) := bnd (gI S 19 2) fun v1 => some (v1, (sI S 19 2 0))
theorem wX10_wipe {κ : KT} {g : GT} (C : CX κ g RX10 cX10_wipe 2 (some .int) 0 0) (S : St) : J κ g 2 (fun a : Int32 × St => (some (Value.int a.1), a.2)) S 0 [(0, .ref (gad g 18))] [] (mX10_wipe S) := by
  unfold mX10_wipe
  refine j_aload_n C 0 rfl dX10_wipe_0 rfl ?_
  refine j_getR C (x := 19) fl_X10_10 sh_18 rfl rfl dX10_wipe_1 ?_
  refine j_getI C fl_X10_45 sh_19 rfl rfl dX10_wipe_4 ?_
  refine j_topi (fun v1 => ?_)
  refine j_istore_n C (xs1 := [(0, .ref (gad g 18)), (1, .int v1)]) dX10_wipe_7 rfl (by decide) rfl ?_
  refine j_aload_n C 0 rfl dX10_wipe_8 rfl ?_
  refine j_getR C (x := 19) fl_X10_10 sh_18 rfl rfl dX10_wipe_9 ?_
  refine j_iconst C (v := 0) (by decide) dX10_wipe_12 ?_
  refine j_putI C fp_X10_45 sh_19 rfl rfl rfl rfl dX10_wipe_13 ?_
  refine j_iload_n C 1 rfl dX10_wipe_16 rfl ?_
  exact j_iret C rfl dX10_wipe_17
theorem ctX10_wipe {l : Launch} {g : GT} {S : St} {out : Int32 × St} (ho : mX10_wipe S = some out) : CT l yX10_wipe cX10_wipe 2 (some .int) 0 0 [.ref (gad g 18)] g S ((fun a : Int32 × St => (some (Value.int a.1), a.2)) out) := CT_of (φ := (fun a : Int32 × St => (some (Value.int a.1), a.2))) [.ref (gad g 18)] ho (by decide) (Nat.le_of_ble_eq_true rfl) (xs := [(0, .ref (gad g 18))]) rfl (fun κ C => wX10_wipe C S)
