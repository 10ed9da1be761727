/-! StairIdealsModel.without(II)I -/
def mX11_without_4 : Nat → Int32 → Int32 → Int32 → Option (Int32)
  | 0, _, _, _ => none
  | n + 1, x1, x2, x3 => if 4 ≤ x3 then (some x2)
  else ((mX11_ten x3).bind fun r1 => bnd (x2 - (((x1 >>> (x3 &&& 31)) &&& 1) * r1)) fun v2 => bnd (x3 + 1) fun v3 => mX11_without_4 n x1 v2 v3)
theorem wX11_without_4 {κ : KT} {g : GT} (C : CX κ g RX11 cX11_without 4 (some .int) 1 20) (S : St) : ∀ (n : Nat) (x1 : Int32) (x2 : Int32) (x3 : Int32), J κ g 4 (fun a : Int32 => (some (Value.int a), S)) S 4 [(1, .int x1), (2, .int x2), (3, .int x3)] [] (mX11_without_4 n x1 x2 x3) := by
  intro n
  induction n with
  | zero => intro x1 x2 x3; exact j_none
  | succ n ih =>
    intro x1 x2 x3
    rw [mX11_without_4]
    refine j_iload_n C 2 rfl dX11_without_4 rfl ?_
    refine j_iconst C (v := 4) (by decide) dX11_without_5 ?_
    refine j_icmp_ge C 28 dX11_without_6 (by decide) ?_ ?_
    · refine j_iload_n C 1 rfl dX11_without_28 rfl ?_
      exact j_iret C rfl dX11_without_29
    · refine j_iload_n C 1 rfl dX11_without_9 rfl ?_
      refine j_iload_n C 0 rfl dX11_without_10 rfl ?_
      refine j_iload_n C 2 rfl dX11_without_11 rfl ?_
      refine j_ishr C dX11_without_12 ?_
      refine j_iconst C (v := 1) (by decide) dX11_without_13 ?_
      refine j_iand C dX11_without_14 ?_
      refine j_iload_n C 2 rfl dX11_without_15 rfl ?_
      refine j_callSi C [.int x3] [.int ((x1 >>> (x3 &&& 31)) &&& 1), .int x2] ms_X11_70 (fun _ h => ctX11_ten h) ⟨(Nat.le_of_ble_eq_true rfl), (Nat.le_of_ble_eq_true rfl)⟩ (Nat.le_of_ble_eq_true rfl) dX11_without_16 rfl (fun r1 => ?_)
      refine j_imul C dX11_without_19 ?_
      refine j_isub C dX11_without_20 ?_
      refine j_topi (fun v2 => ?_)
      refine j_istore_n C (xs1 := [(1, .int x1), (2, .int v2), (3, .int x3)]) dX11_without_21 rfl (by decide) rfl ?_
      refine j_iinc C (xs2 := fun v3 => [(1, .int x1), (2, .int v2), (3, .int v3)]) 2 rfl dX11_without_22 (by decide) (by decide) (fun _ => rfl) (fun v3 => ?_)
      refine j_goto C 4 dX11_without_25 (by decide) ?_
      exact ih x1 v2 v3
def mX11_without (a0 : Int32) (a1 : Int32) : Option (Int32) := mX11_without_4 FU a1 a0 0
theorem wX11_without {κ : KT} {g : GT} (C : CX κ g RX11 cX11_without 4 (some .int) 1 20) (S : St) (a0 : Int32) (a1 : Int32) : J κ g 4 (fun a : Int32 => (some (Value.int a), S)) S 0 [(0, .int a0), (1, .int a1)] [] (mX11_without a0 a1) := by
  unfold mX11_without
  refine j_iload_n C 0 rfl dX11_without_0 rfl ?_
  refine j_istore_n C (xs1 := [(0, .int a0), (1, .int a1), (2, .int a0)]) dX11_without_1 rfl (by decide) rfl ?_
  refine j_iconst C (v := 0) (by decide) dX11_without_2 ?_
  refine j_istore_n C (xs1 := [(0, .int a0), (1, .int a1), (2, .int a0), (3, .int 0)]) dX11_without_3 rfl (by decide) rfl ?_
  refine j_sub (xs1 := [(1, .int a1), (2, .int a0), (3, .int 0)]) [1, 2, 3] rfl ?_
  exact wX11_without_4 C S FU a1 a0 0
theorem ctX11_without {l : Launch} {g : GT} {S : St} {a0 : Int32} {a1 : Int32} {out : Int32} (ho : mX11_without a0 a1 = some out) : CT l yX11_without cX11_without 4 (some .int) 1 20 [.int a0, .int a1] g S ((fun a : Int32 => (some (Value.int a), S)) out) := CT_of (φ := (fun a : Int32 => (some (Value.int a), S))) [.int a0, .int a1] ho (by decide) (Nat.le_of_ble_eq_true rfl) (xs := [(0, .int a0), (1, .int a1)]) rfl (fun κ C => wX11_without C S a0 a1)
/-! StairIdealsModel.findFaces(II)V -/
def mX11_findFaces_61 (k7 : St → Int32 → Int32 → Int32 → Option (St)) (S : St) (x1 : Int32) (x2 : Int32) (x3 : Int32) (s0 : Int32) (s1 : Int32) : Option (St) := bnd (x3 + 1) fun v1 => k7 (sI S 0 23 (s1 ||| s0)) x1 x2 v1
theorem wX11_findFaces_61 {κ : KT} {g : GT} (C : CX κ g RX11 cX11_findFaces 5 none 4 88) (k7 : St → Int32 → Int32 → Int32 → Option (St)) (hk7 : ∀ (S : St) (x1 : Int32) (x2 : Int32) (x3 : Int32), J κ g 5 (fun a : St => (none, a)) S 7 [(0, .ref (gad g 0)), (1, .int x1), (2, .int x2), (3, .int x3)] [] (k7 S x1 x2 x3)) (S : St) (x1 : Int32) (x2 : Int32) (x3 : Int32) (s0 : Int32) (s1 : Int32) : J κ g 5 (fun a : St => (none, a)) S 61 [(0, .ref (gad g 0)), (1, .int x1), (2, .int x2), (3, .int x3)] [.int s0, .int s1, .ref (gad g 0)] (mX11_findFaces_61 k7 S x1 x2 x3 s0 s1) := by
  unfold mX11_findFaces_61
  refine j_ior C dX11_findFaces_61 ?_
  refine j_putI C fp_X11_299 sh_0 rfl rfl rfl rfl dX11_findFaces_62 ?_
  refine j_iinc C (xs2 := fun v1 => [(0, .ref (gad g 0)), (1, .int x1), (2, .int x2), (3, .int v1)]) 3 rfl dX11_findFaces_65 (by decide) (by decide) (fun _ => rfl) (fun v1 => ?_)
  refine j_goto C 7 dX11_findFaces_68 (by decide) ?_
  exact hk7 (sI S 0 23 (s1 ||| s0)) x1 x2 v1
def mX11_findFaces_60 (k7 : St → Int32 → Int32 → Int32 → Option (St)) (S : St) (x1 : Int32) (x2 : Int32) (x3 : Int32) (s0 : Int32) : Option (St) := mX11_findFaces_61 k7 S x1 x2 x3 0 s0
theorem wX11_findFaces_60 {κ : KT} {g : GT} (C : CX κ g RX11 cX11_findFaces 5 none 4 88) (k7 : St → Int32 → Int32 → Int32 → Option (St)) (hk7 : ∀ (S : St) (x1 : Int32) (x2 : Int32) (x3 : Int32), J κ g 5 (fun a : St => (none, a)) S 7 [(0, .ref (gad g 0)), (1, .int x1), (2, .int x2), (3, .int x3)] [] (k7 S x1 x2 x3)) (S : St) (x1 : Int32) (x2 : Int32) (x3 : Int32) (s0 : Int32) : J κ g 5 (fun a : St => (none, a)) S 60 [(0, .ref (gad g 0)), (1, .int x1), (2, .int x2), (3, .int x3)] [.int s0, .ref (gad g 0)] (mX11_findFaces_60 k7 S x1 x2 x3 s0) := by
  unfold mX11_findFaces_60
  refine j_iconst C (v := 0) (by decide) dX11_findFaces_60 ?_
  exact wX11_findFaces_61 C k7 hk7 S x1 x2 x3 0 s0
def mX11_findFaces_29 (k7 : St → Int32 → Int32 → Int32 → Option (St)) (S : St) (x1 : Int32) (x2 : Int32) (x3 : Int32) (s0 : Int32) : Option (St) := if s0 = 0 then (mX11_findFaces_60 k7 S x1 x2 x3 (gI S 0 23))
  else ((mX11_without x2 x3).bind fun r1 => (mX11_isIn S x1 r1).bind fun r2 => if r2 = 0 then (mX11_findFaces_60 k7 S x1 x2 x3 (gI S 0 23))
  else (mX11_findFaces_61 k7 S x1 x2 x3 ((1 : Int32) <<< (x3 &&& 31)) (gI S 0 23)))
theorem wX11_findFaces_29 {κ : KT} {g : GT} (C : CX κ g RX11 cX11_findFaces 5 none 4 88) (k7 : St → Int32 → Int32 → Int32 → Option (St)) (hk7 : ∀ (S : St) (x1 : Int32) (x2 : Int32) (x3 : Int32), J κ g 5 (fun a : St => (none, a)) S 7 [(0, .ref (gad g 0)), (1, .int x1), (2, .int x2), (3, .int x3)] [] (k7 S x1 x2 x3)) (S : St) (x1 : Int32) (x2 : Int32) (x3 : Int32) (s0 : Int32) : J κ g 5 (fun a : St => (none, a)) S 29 [(0, .ref (gad g 0)), (1, .int x1), (2, .int x2), (3, .int x3)] [.int s0] (mX11_findFaces_29 k7 S x1 x2 x3 s0) := by
  unfold mX11_findFaces_29
  refine j_istore C (xs1 := [(0, .ref (gad g 0)), (1, .int x1), (2, .int x2), (3, .int x3), (4, .int s0)]) dX11_findFaces_29 (by decide) rfl ?_
  refine j_aload_n C 0 rfl dX11_findFaces_31 rfl ?_
  refine j_dup C rfl dX11_findFaces_32 ?_
  refine j_getI C fl_X11_299 sh_0 rfl rfl dX11_findFaces_33 ?_
  refine j_iload C 4 rfl dX11_findFaces_36 ?_
  refine j_if_eq C 60 dX11_findFaces_38 (by decide) ?_ ?_
  · refine j_sub (xs1 := [(0, .ref (gad g 0)), (1, .int x1), (2, .int x2), (3, .int x3)]) [0, 1, 2, 3] rfl ?_
    exact wX11_findFaces_60 C k7 hk7 S x1 x2 x3 (gI S 0 23)
  · refine j_aload_n C 0 rfl dX11_findFaces_41 rfl ?_
    refine j_iload_n C 1 rfl dX11_findFaces_42 rfl ?_
    refine j_iload_n C 2 rfl dX11_findFaces_43 rfl ?_
    refine j_iload_n C 3 rfl dX11_findFaces_44 rfl ?_
    refine j_callSi C [.int x2, .int x3] [.int x1, .ref (gad g 0), .int (gI S 0 23), .ref (gad g 0)] ms_X11_302 (fun _ h => ctX11_without h) ⟨(Nat.le_of_ble_eq_true rfl), (Nat.le_of_ble_eq_true rfl)⟩ (Nat.le_of_ble_eq_true rfl) dX11_findFaces_45 rfl (fun r1 => ?_)
    refine j_callVi C [.int x1, .int r1] [.int (gI S 0 23), .ref (gad g 0)] mv_X11_148 sh_0 rfl rfl (fun _ h => ctX11_isIn h) ⟨(Nat.le_of_ble_eq_true rfl), (Nat.le_of_ble_eq_true rfl)⟩ (Nat.le_of_ble_eq_true rfl) dX11_findFaces_48 rfl (fun r2 => ?_)
    refine j_if_eq C 60 dX11_findFaces_51 (by decide) ?_ ?_
    · refine j_sub (xs1 := [(0, .ref (gad g 0)), (1, .int x1), (2, .int x2), (3, .int x3)]) [0, 1, 2, 3] rfl ?_
      exact wX11_findFaces_60 C k7 hk7 S x1 x2 x3 (gI S 0 23)
    · refine j_iconst C (v := 1) (by decide) dX11_findFaces_54 ?_
      refine j_iload_n C 3 rfl dX11_findFaces_55 rfl ?_
      refine j_ishl C dX11_findFaces_56 ?_
      refine j_goto C 61 dX11_findFaces_57 (by decide) ?_
      refine j_sub (xs1 := [(0, .ref (gad g 0)), (1, .int x1), (2, .int x2), (3, .int x3)]) [0, 1, 2, 3] rfl ?_
      exact wX11_findFaces_61 C k7 hk7 S x1 x2 x3 ((1 : Int32) <<< (x3 &&& 31)) (gI S 0 23)
def mX11_findFaces_7 : Nat → St → Int32 → Int32 → Int32 → Option (St)
  | 0, _, _, _, _ => none
  | n + 1, S, x1, x2, x3 => if 16 ≤ x3 then (some S)
  else ((mX11_support x2).bind fun r1 => if (x3 &&& (r1 ^^^ (-1))) = 0 then (mX11_findFaces_29 (mX11_findFaces_7 n) S x1 x2 x3 1)
  else (mX11_findFaces_29 (mX11_findFaces_7 n) S x1 x2 x3 0))
theorem wX11_findFaces_7 {κ : KT} {g : GT} (C : CX κ g RX11 cX11_findFaces 5 none 4 88) : ∀ (n : Nat) (S : St) (x1 : Int32) (x2 : Int32) (x3 : Int32), J κ g 5 (fun a : St => (none, a)) S 7 [(0, .ref (gad g 0)), (1, .int x1), (2, .int x2), (3, .int x3)] [] (mX11_findFaces_7 n S x1 x2 x3) := by
  intro n
  induction n with
  | zero => intro S x1 x2 x3; exact j_none
  | succ n ih =>
    intro S x1 x2 x3
    rw [mX11_findFaces_7]
    refine j_iload_n C 3 rfl dX11_findFaces_7 rfl ?_
    refine j_bipush C (v := 16) (by decide) dX11_findFaces_8 ?_
    refine j_icmp_ge C 71 dX11_findFaces_10 (by decide) ?_ ?_
    · exact j_vret C rfl dX11_findFaces_71
    · refine j_iload_n C 3 rfl dX11_findFaces_13 rfl ?_
      refine j_iload_n C 2 rfl dX11_findFaces_14 rfl ?_
      refine j_callSi C [.int x2] [.int x3] ms_X11_154 (fun _ h => ctX11_support h) ⟨(Nat.le_of_ble_eq_true rfl), (Nat.le_of_ble_eq_true rfl)⟩ (Nat.le_of_ble_eq_true rfl) dX11_findFaces_15 rfl (fun r1 => ?_)
      refine j_iconst C (v := (-1)) (by decide) dX11_findFaces_18 ?_
      refine j_ixor C dX11_findFaces_19 ?_
      refine j_iand C dX11_findFaces_20 ?_
      refine j_if_ne C 28 dX11_findFaces_21 (by decide) ?_ ?_
      · refine j_iconst C (v := 0) (by decide) dX11_findFaces_28 ?_
        exact wX11_findFaces_29 C (mX11_findFaces_7 n) ih S x1 x2 x3 0
      · refine j_iconst C (v := 1) (by decide) dX11_findFaces_24 ?_
        refine j_goto C 29 dX11_findFaces_25 (by decide) ?_
        exact wX11_findFaces_29 C (mX11_findFaces_7 n) ih S x1 x2 x3 1
def mX11_findFaces (S : St) (a0 : Int32) (a1 : Int32) : Option (St) := mX11_findFaces_7 FU (sI S 0 23 0) a0 a1 0
theorem wX11_findFaces {κ : KT} {g : GT} (C : CX κ g RX11 cX11_findFaces 5 none 4 88) (S : St) (a0 : Int32) (a1 : Int32) : J κ g 5 (fun a : St => (none, a)) S 0 [(0, .ref (gad g 0)), (1, .int a0), (2, .int a1)] [] (mX11_findFaces S a0 a1) := by
  unfold mX11_findFaces
  refine j_aload_n C 0 rfl dX11_findFaces_0 rfl ?_
  refine j_iconst C (v := 0) (by decide) dX11_findFaces_1 ?_
  refine j_putI C fp_X11_299 sh_0 rfl rfl rfl rfl dX11_findFaces_2 ?_
  refine j_iconst C (v := 0) (by decide) dX11_findFaces_5 ?_
  refine j_istore_n C (xs1 := [(0, .ref (gad g 0)), (1, .int a0), (2, .int a1), (3, .int 0)]) dX11_findFaces_6 rfl (by decide) rfl ?_
  exact wX11_findFaces_7 C FU (sI S 0 23 0) a0 a1 0
theorem ctX11_findFaces {l : Launch} {g : GT} {S : St} {a0 : Int32} {a1 : Int32} {out : St} (ho : mX11_findFaces S a0 a1 = some out) : CT l yX11_findFaces cX11_findFaces 5 none 4 88 [.ref (gad g 0), .int a0, .int a1] g S ((fun a : St => (none, a)) out) := CT_of (φ := (fun a : St => (none, a))) [.ref (gad g 0), .int a0, .int a1] ho (by decide) (Nat.le_of_ble_eq_true rfl) (xs := [(0, .ref (gad g 0)), (1, .int a0), (2, .int a1)]) rfl (fun κ C => wX11_findFaces C S a0 a1)
/-! StairIdealsModel.facesOf(I)I -/
def mX11_facesOf_36 (S : St) (k4 : Int32 → Int32 → Int32 → Option (Int32)) (x1 : Int32) (x3 : Int32) (s0 : Int32) (s1 : Int32) : Option (Int32) := bnd (s1 + s0) fun v1 => bnd (x3 + 1) fun v2 => k4 x1 v1 v2
theorem wX11_facesOf_36 {κ : KT} {g : GT} (C : CX κ g RX11 cX11_facesOf 4 (some .int) 1 22) (S : St) (k4 : Int32 → Int32 → Int32 → Option (Int32)) (hk4 : ∀ (x1 : Int32) (x2 : Int32) (x3 : Int32), J κ g 4 (fun a : Int32 => (some (Value.int a), S)) S 4 [(0, .ref (gad g 0)), (1, .int x1), (2, .int x2), (3, .int x3)] [] (k4 x1 x2 x3)) (x1 : Int32) (x3 : Int32) (s0 : Int32) (s1 : Int32) : J κ g 4 (fun a : Int32 => (some (Value.int a), S)) S 36 [(0, .ref (gad g 0)), (1, .int x1), (3, .int x3)] [.int s0, .int s1] (mX11_facesOf_36 S k4 x1 x3 s0 s1) := by
  unfold mX11_facesOf_36
  refine j_iadd C dX11_facesOf_36 ?_
  refine j_topi (fun v1 => ?_)
  refine j_istore_n C (xs1 := [(0, .ref (gad g 0)), (1, .int x1), (2, .int v1), (3, .int x3)]) dX11_facesOf_37 rfl (by decide) rfl ?_
  refine j_iinc C (xs2 := fun v2 => [(0, .ref (gad g 0)), (1, .int x1), (2, .int v1), (3, .int v2)]) 3 rfl dX11_facesOf_38 (by decide) (by decide) (fun _ => rfl) (fun v2 => ?_)
  refine j_goto C 4 dX11_facesOf_41 (by decide) ?_
  exact hk4 x1 v1 v2
def mX11_facesOf_35 (S : St) (k4 : Int32 → Int32 → Int32 → Option (Int32)) (x1 : Int32) (x3 : Int32) (s0 : Int32) : Option (Int32) := mX11_facesOf_36 S k4 x1 x3 0 s0
theorem wX11_facesOf_35 {κ : KT} {g : GT} (C : CX κ g RX11 cX11_facesOf 4 (some .int) 1 22) (S : St) (k4 : Int32 → Int32 → Int32 → Option (Int32)) (hk4 : ∀ (x1 : Int32) (x2 : Int32) (x3 : Int32), J κ g 4 (fun a : Int32 => (some (Value.int a), S)) S 4 [(0, .ref (gad g 0)), (1, .int x1), (2, .int x2), (3, .int x3)] [] (k4 x1 x2 x3)) (x1 : Int32) (x3 : Int32) (s0 : Int32) : J κ g 4 (fun a : Int32 => (some (Value.int a), S)) S 35 [(0, .ref (gad g 0)), (1, .int x1), (3, .int x3)] [.int s0] (mX11_facesOf_35 S k4 x1 x3 s0) := by
  unfold mX11_facesOf_35
  refine j_iconst C (v := 0) (by decide) dX11_facesOf_35 ?_
  exact wX11_facesOf_36 C S k4 hk4 x1 x3 0 s0
def mX11_facesOf_4 (S : St) : Nat → Int32 → Int32 → Int32 → Option (Int32)
  | 0, _, _, _ => none
  | n + 1, x1, x2, x3 => if 16 ≤ x3 then (some x2)
  else (if (((gI S 0 23) >>> (x3 &&& 31)) &&& 1) = 1 then ((mX11_ones x3).bind fun r1 => if r1 = x1 then (mX11_facesOf_36 S (mX11_facesOf_4 S n) x1 x3 1 x2)
  else (mX11_facesOf_35 S (mX11_facesOf_4 S n) x1 x3 x2))
  else (mX11_facesOf_35 S (mX11_facesOf_4 S n) x1 x3 x2))
theorem wX11_facesOf_4 {κ : KT} {g : GT} (C : CX κ g RX11 cX11_facesOf 4 (some .int) 1 22) (S : St) : ∀ (n : Nat) (x1 : Int32) (x2 : Int32) (x3 : Int32), J κ g 4 (fun a : Int32 => (some (Value.int a), S)) S 4 [(0, .ref (gad g 0)), (1, .int x1), (2, .int x2), (3, .int x3)] [] (mX11_facesOf_4 S n x1 x2 x3) := by
  intro n
  induction n with
  | zero => intro x1 x2 x3; exact j_none
  | succ n ih =>
    intro x1 x2 x3
    rw [mX11_facesOf_4]
    refine j_iload_n C 3 rfl dX11_facesOf_4 rfl ?_
    refine j_bipush C (v := 16) (by decide) dX11_facesOf_5 ?_
    refine j_icmp_ge C 44 dX11_facesOf_7 (by decide) ?_ ?_
    · refine j_iload_n C 2 rfl dX11_facesOf_44 rfl ?_
      exact j_iret C rfl dX11_facesOf_45
    · refine j_iload_n C 2 rfl dX11_facesOf_10 rfl ?_
      refine j_aload_n C 0 rfl dX11_facesOf_11 rfl ?_
      refine j_getI C fl_X11_299 sh_0 rfl rfl dX11_facesOf_12 ?_
      refine j_iload_n C 3 rfl dX11_facesOf_15 rfl ?_
      refine j_ishr C dX11_facesOf_16 ?_
      refine j_iconst C (v := 1) (by decide) dX11_facesOf_17 ?_
      refine j_iand C dX11_facesOf_18 ?_
      refine j_iconst C (v := 1) (by decide) dX11_facesOf_19 ?_
      refine j_icmp_ne C 35 dX11_facesOf_20 (by decide) ?_ ?_
      · refine j_sub (xs1 := [(0, .ref (gad g 0)), (1, .int x1), (3, .int x3)]) [0, 1, 3] rfl ?_
        exact wX11_facesOf_35 C S (mX11_facesOf_4 S n) ih x1 x3 x2
      · refine j_iload_n C 3 rfl dX11_facesOf_23 rfl ?_
        refine j_callSi C [.int x3] [.int x2] ms_X11_234 (fun _ h => ctX11_ones h) ⟨(Nat.le_of_ble_eq_true rfl), (Nat.le_of_ble_eq_true rfl)⟩ (Nat.le_of_ble_eq_true rfl) dX11_facesOf_24 rfl (fun r1 => ?_)
        refine j_iload_n C 1 rfl dX11_facesOf_27 rfl ?_
        refine j_icmp_ne C 35 dX11_facesOf_28 (by decide) ?_ ?_
        · refine j_sub (xs1 := [(0, .ref (gad g 0)), (1, .int x1), (3, .int x3)]) [0, 1, 3] rfl ?_
          exact wX11_facesOf_35 C S (mX11_facesOf_4 S n) ih x1 x3 x2
        · refine j_iconst C (v := 1) (by decide) dX11_facesOf_31 ?_
          refine j_goto C 36 dX11_facesOf_32 (by decide) ?_
          refine j_sub (xs1 := [(0, .ref (gad g 0)), (1, .int x1), (3, .int x3)]) [0, 1, 3] rfl ?_
          exact wX11_facesOf_36 C S (mX11_facesOf_4 S n) ih x1 x3 1 x2
def mX11_facesOf (S : St) (a0 : Int32) : Option (Int32) := mX11_facesOf_4 S FU a0 0 0
theorem wX11_facesOf {κ : KT} {g : GT} (C : CX κ g RX11 cX11_facesOf 4 (some .int) 1 22) (S : St) (a0 : Int32) : J κ g 4 (fun a : Int32 => (some (Value.int a), S)) S 0 [(0, .ref (gad g 0)), (1, .int a0)] [] (mX11_facesOf S a0) := by
  unfold mX11_facesOf
  refine j_iconst C (v := 0) (by decide) dX11_facesOf_0 ?_
  refine j_istore_n C (xs1 := [(0, .ref (gad g 0)), (1, .int a0), (2, .int 0)]) dX11_facesOf_1 rfl (by decide) rfl ?_
  refine j_iconst C (v := 0) (by decide) dX11_facesOf_2 ?_
  refine j_istore_n C (xs1 := [(0, .ref (gad g 0)), (1, .int a0), (2, .int 0), (3, .int 0)]) dX11_facesOf_3 rfl (by decide) rfl ?_
  exact wX11_facesOf_4 C S FU a0 0 0
theorem ctX11_facesOf {l : Launch} {g : GT} {S : St} {a0 : Int32} {out : Int32} (ho : mX11_facesOf S a0 = some out) : CT l yX11_facesOf cX11_facesOf 4 (some .int) 1 22 [.ref (gad g 0), .int a0] g S ((fun a : Int32 => (some (Value.int a), S)) out) := CT_of (φ := (fun a : Int32 => (some (Value.int a), S))) [.ref (gad g 0), .int a0] ho (by decide) (Nat.le_of_ble_eq_true rfl) (xs := [(0, .ref (gad g 0)), (1, .int a0)]) rfl (fun κ C => wX11_facesOf C S a0)
/-! StairIdealsModel.border(I)I -/
def mX11_border_32 (k4 : Int32 → Int32 → Int32 → Option (Int32)) (x0 : Int32) (x2 : Int32) (s0 : Int32) (s1 : Int32) : Option (Int32) := bnd (s1 ||| s0) fun v1 => bnd (x2 + 1) fun v2 => k4 x0 v1 v2
theorem wX11_border_32 {κ : KT} {g : GT} (C : CX κ g RX11 cX11_border 3 (some .int) 0 0) (S : St) (k4 : Int32 → Int32 → Int32 → Option (Int32)) (hk4 : ∀ (x0 : Int32) (x1 : Int32) (x2 : Int32), J κ g 3 (fun a : Int32 => (some (Value.int a), S)) S 4 [(0, .int x0), (1, .int x1), (2, .int x2)] [] (k4 x0 x1 x2)) (x0 : Int32) (x2 : Int32) (s0 : Int32) (s1 : Int32) : J κ g 3 (fun a : Int32 => (some (Value.int a), S)) S 32 [(0, .int x0), (2, .int x2)] [.int s0, .int s1] (mX11_border_32 k4 x0 x2 s0 s1) := by
  unfold mX11_border_32
  refine j_ior C dX11_border_32 ?_
  refine j_topi (fun v1 => ?_)
  refine j_istore_n C (xs1 := [(0, .int x0), (1, .int v1), (2, .int x2)]) dX11_border_33 rfl (by decide) rfl ?_
  refine j_iinc C (xs2 := fun v2 => [(0, .int x0), (1, .int v1), (2, .int v2)]) 2 rfl dX11_border_34 (by decide) (by decide) (fun _ => rfl) (fun v2 => ?_)
  refine j_goto C 4 dX11_border_37 (by decide) ?_
  exact hk4 x0 v1 v2
def mX11_border_4 : Nat → Int32 → Int32 → Int32 → Option (Int32)
  | 0, _, _, _ => none
  | n + 1, x0, x1, x2 => if 4 ≤ x2 then (some x1)
  else (if ((x0 >>> (x2 &&& 31)) &&& 1) = 1 then (mX11_border_32 (mX11_border_4 n) x0 x2 ((1 : Int32) <<< ((x0 &&& (((1 : Int32) <<< (x2 &&& 31)) ^^^ (-1))) &&& 31)) x1)
  else (mX11_border_32 (mX11_border_4 n) x0 x2 0 x1))
theorem wX11_border_4 {κ : KT} {g : GT} (C : CX κ g RX11 cX11_border 3 (some .int) 0 0) (S : St) : ∀ (n : Nat) (x0 : Int32) (x1 : Int32) (x2 : Int32), J κ g 3 (fun a : Int32 => (some (Value.int a), S)) S 4 [(0, .int x0), (1, .int x1), (2, .int x2)] [] (mX11_border_4 n x0 x1 x2) := by
  intro n
  induction n with
  | zero => intro x0 x1 x2; exact j_none
  | succ n ih =>
    intro x0 x1 x2
    rw [mX11_border_4]
    refine j_iload_n C 2 rfl dX11_border_4 rfl ?_
    refine j_iconst C (v := 4) (by decide) dX11_border_5 ?_
    refine j_icmp_ge C 40 dX11_border_6 (by decide) ?_ ?_
    · refine j_iload_n C 1 rfl dX11_border_40 rfl ?_
      exact j_iret C rfl dX11_border_41
    · refine j_iload_n C 1 rfl dX11_border_9 rfl ?_
      refine j_iload_n C 0 rfl dX11_border_10 rfl ?_
      refine j_iload_n C 2 rfl dX11_border_11 rfl ?_
      refine j_ishr C dX11_border_12 ?_
      refine j_iconst C (v := 1) (by decide) dX11_border_13 ?_
      refine j_iand C dX11_border_14 ?_
      refine j_iconst C (v := 1) (by decide) dX11_border_15 ?_
      refine j_icmp_ne C 31 dX11_border_16 (by decide) ?_ ?_
      · refine j_iconst C (v := 0) (by decide) dX11_border_31 ?_
        refine j_sub (xs1 := [(0, .int x0), (2, .int x2)]) [0, 2] rfl ?_
        exact wX11_border_32 C S (mX11_border_4 n) ih x0 x2 0 x1
      · refine j_iconst C (v := 1) (by decide) dX11_border_19 ?_
        refine j_iload_n C 0 rfl dX11_border_20 rfl ?_
        refine j_iconst C (v := 1) (by decide) dX11_border_21 ?_
        refine j_iload_n C 2 rfl dX11_border_22 rfl ?_
        refine j_ishl C dX11_border_23 ?_
        refine j_iconst C (v := (-1)) (by decide) dX11_border_24 ?_
        refine j_ixor C dX11_border_25 ?_
        refine j_iand C dX11_border_26 ?_
        refine j_ishl C dX11_border_27 ?_
        refine j_goto C 32 dX11_border_28 (by decide) ?_
        refine j_sub (xs1 := [(0, .int x0), (2, .int x2)]) [0, 2] rfl ?_
        exact wX11_border_32 C S (mX11_border_4 n) ih x0 x2 ((1 : Int32) <<< ((x0 &&& (((1 : Int32) <<< (x2 &&& 31)) ^^^ (-1))) &&& 31)) x1
def mX11_border (a0 : Int32) : Option (Int32) := mX11_border_4 FU a0 0 0
theorem wX11_border {κ : KT} {g : GT} (C : CX κ g RX11 cX11_border 3 (some .int) 0 0) (S : St) (a0 : Int32) : J κ g 3 (fun a : Int32 => (some (Value.int a), S)) S 0 [(0, .int a0)] [] (mX11_border a0) := by
  unfold mX11_border
  refine j_iconst C (v := 0) (by decide) dX11_border_0 ?_
  refine j_istore_n C (xs1 := [(0, .int a0), (1, .int 0)]) dX11_border_1 rfl (by decide) rfl ?_
  refine j_iconst C (v := 0) (by decide) dX11_border_2 ?_
  refine j_istore_n C (xs1 := [(0, .int a0), (1, .int 0), (2, .int 0)]) dX11_border_3 rfl (by decide) rfl ?_
  exact wX11_border_4 C S FU a0 0 0
theorem ctX11_border {l : Launch} {g : GT} {S : St} {a0 : Int32} {out : Int32} (ho : mX11_border a0 = some out) : CT l yX11_border cX11_border 3 (some .int) 0 0 [.int a0] g S ((fun a : Int32 => (some (Value.int a), S)) out) := CT_of (φ := (fun a : Int32 => (some (Value.int a), S))) [.int a0] ho (by decide) (Nat.le_of_ble_eq_true rfl) (xs := [(0, .int a0)]) rfl (fun κ C => wX11_border C S a0)
/-! StairIdealsModel.rank(I)I -/
def mX11_rank_138 (k25 : St → Int32 → Int32 → Int32 → Option (Int32 × St)) (S : St) (x1 : Int32) (x2 : Int32) (x3 : Int32) : Option (Int32 × St) := bnd (x3 + 1) fun v1 => k25 S x1 x2 v1
theorem wX11_rank_138 {κ : KT} {g : GT} (C : CX κ g RX11 cX11_rank 6 (some .int) 1 22) (k25 : St → Int32 → Int32 → Int32 → Option (Int32 × St)) (hk25 : ∀ (S : St) (x1 : Int32) (x2 : Int32) (x3 : Int32), J κ g 6 (fun a : Int32 × St => (some (Value.int a.1), a.2)) S 25 [(0, .ref (gad g 0)), (1, .int x1), (2, .int x2), (3, .int x3)] [] (k25 S x1 x2 x3)) (S : St) (x1 : Int32) (x2 : Int32) (x3 : Int32) : J κ g 6 (fun a : Int32 × St => (some (Value.int a.1), a.2)) S 138 [(0, .ref (gad g 0)), (1, .int x1), (2, .int x2), (3, .int x3)] [] (mX11_rank_138 k25 S x1 x2 x3) := by
  unfold mX11_rank_138
  refine j_iinc C (xs2 := fun v1 => [(0, .ref (gad g 0)), (1, .int x1), (2, .int x2), (3, .int v1)]) 3 rfl dX11_rank_138 (by decide) (by decide) (fun _ => rfl) (fun v1 => ?_)
  refine j_goto C 25 dX11_rank_141 (by decide) ?_
  exact hk25 S x1 x2 v1
def mX11_rank_132 (k25 : St → Int32 → Int32 → Int32 → Option (Int32 × St)) (k69 : St → Int32 → Int32 → Int32 → Int32 → Int32 → Option (Int32 × St)) (S : St) (x1 : Int32) (x2 : Int32) (x3 : Int32) (x4 : Int32) (x5 : Int32) : Option (Int32 × St) := bnd (x5 + (-1)) fun v1 => k69 S x1 x2 x3 x4 v1
theorem wX11_rank_132 {κ : KT} {g : GT} (C : CX κ g RX11 cX11_rank 6 (some .int) 1 22) (k25 : St → Int32 → Int32 → Int32 → Option (Int32 × St)) (hk25 : ∀ (S : St) (x1 : Int32) (x2 : Int32) (x3 : Int32), J κ g 6 (fun a : Int32 × St => (some (Value.int a.1), a.2)) S 25 [(0, .ref (gad g 0)), (1, .int x1), (2, .int x2), (3, .int x3)] [] (k25 S x1 x2 x3)) (k69 : St → Int32 → Int32 → Int32 → Int32 → Int32 → Option (Int32 × St)) (hk69 : ∀ (S : St) (x1 : Int32) (x2 : Int32) (x3 : Int32) (x4 : Int32) (x5 : Int32), J κ g 6 (fun a : Int32 × St => (some (Value.int a.1), a.2)) S 69 [(0, .ref (gad g 0)), (1, .int x1), (2, .int x2), (3, .int x3), (4, .int x4), (5, .int x5)] [] (k69 S x1 x2 x3 x4 x5)) (S : St) (x1 : Int32) (x2 : Int32) (x3 : Int32) (x4 : Int32) (x5 : Int32) : J κ g 6 (fun a : Int32 × St => (some (Value.int a.1), a.2)) S 132 [(0, .ref (gad g 0)), (1, .int x1), (2, .int x2), (3, .int x3), (4, .int x4), (5, .int x5)] [] (mX11_rank_132 k25 k69 S x1 x2 x3 x4 x5) := by
  unfold mX11_rank_132
  refine j_iinc C (xs2 := fun v1 => [(0, .ref (gad g 0)), (1, .int x1), (2, .int x2), (3, .int x3), (4, .int x4), (5, .int v1)]) 5 rfl dX11_rank_132 (by decide) (by decide) (fun _ => rfl) (fun v1 => ?_)
  refine j_goto C 69 dX11_rank_135 (by decide) ?_
  exact hk69 S x1 x2 x3 x4 v1
def mX11_rank_103 (k25 : St → Int32 → Int32 → Int32 → Option (Int32 × St)) (k69 : St → Int32 → Int32 → Int32 → Int32 → Int32 → Option (Int32 × St)) (S : St) (x1 : Int32) (x2 : Int32) (x3 : Int32) (x5 : Int32) (s0 : Int32) (s1 : Int32) : Option (Int32 × St) := bnd (s1 ^^^ s0) fun v1 => if ((v1 >>> (x5 &&& 31)) &&& 1) = 1 then (inb 16 x5 fun j2 => bnd (x2 + 1) fun v3 => mX11_rank_132 k25 k69 (sA S 15 j2 v1) x1 v3 x3 0 x5)
  else (mX11_rank_132 k25 k69 S x1 x2 x3 v1 x5)
theorem wX11_rank_103 {κ : KT} {g : GT} (C : CX κ g RX11 cX11_rank 6 (some .int) 1 22) (k25 : St → Int32 → Int32 → Int32 → Option (Int32 × St)) (hk25 : ∀ (S : St) (x1 : Int32) (x2 : Int32) (x3 : Int32), J κ g 6 (fun a : Int32 × St => (some (Value.int a.1), a.2)) S 25 [(0, .ref (gad g 0)), (1, .int x1), (2, .int x2), (3, .int x3)] [] (k25 S x1 x2 x3)) (k69 : St → Int32 → Int32 → Int32 → Int32 → Int32 → Option (Int32 × St)) (hk69 : ∀ (S : St) (x1 : Int32) (x2 : Int32) (x3 : Int32) (x4 : Int32) (x5 : Int32), J κ g 6 (fun a : Int32 × St => (some (Value.int a.1), a.2)) S 69 [(0, .ref (gad g 0)), (1, .int x1), (2, .int x2), (3, .int x3), (4, .int x4), (5, .int x5)] [] (k69 S x1 x2 x3 x4 x5)) (S : St) (x1 : Int32) (x2 : Int32) (x3 : Int32) (x5 : Int32) (s0 : Int32) (s1 : Int32) : J κ g 6 (fun a : Int32 × St => (some (Value.int a.1), a.2)) S 103 [(0, .ref (gad g 0)), (1, .int x1), (2, .int x2), (3, .int x3), (5, .int x5)] [.int s0, .int s1] (mX11_rank_103 k25 k69 S x1 x2 x3 x5 s0 s1) := by
  unfold mX11_rank_103
  refine j_ixor C dX11_rank_103 ?_
  refine j_topi (fun v1 => ?_)
  refine j_istore C (xs1 := [(0, .ref (gad g 0)), (1, .int x1), (2, .int x2), (3, .int x3), (4, .int v1), (5, .int x5)]) dX11_rank_104 (by decide) rfl ?_
  refine j_iload C 4 rfl dX11_rank_106 ?_
  refine j_iload C 5 rfl dX11_rank_108 ?_
  refine j_ishr C dX11_rank_110 ?_
  refine j_iconst C (v := 1) (by decide) dX11_rank_111 ?_
  refine j_iand C dX11_rank_112 ?_
  refine j_iconst C (v := 1) (by decide) dX11_rank_113 ?_
  refine j_icmp_ne C 132 dX11_rank_114 (by decide) ?_ ?_
  · exact wX11_rank_132 C k25 hk25 k69 hk69 S x1 x2 x3 v1 x5
  · refine j_aload_n C 0 rfl dX11_rank_117 rfl ?_
    refine j_getR C (x := 15) fl_X11_53 sh_0 rfl rfl dX11_rank_118 ?_
    refine j_iload C 5 rfl dX11_rank_121 ?_
    refine j_iload C 4 rfl dX11_rank_123 ?_
    refine j_iast C sh_15 rfl dX11_rank_125 (fun j2 => ?_)
    refine j_iconst C (v := 0) (by decide) dX11_rank_126 ?_
    refine j_istore C (xs1 := [(0, .ref (gad g 0)), (1, .int x1), (2, .int x2), (3, .int x3), (4, .int 0), (5, .int x5)]) dX11_rank_127 (by decide) rfl ?_
    refine j_iinc C (xs2 := fun v3 => [(0, .ref (gad g 0)), (1, .int x1), (2, .int v3), (3, .int x3), (4, .int 0), (5, .int x5)]) 2 rfl dX11_rank_129 (by decide) (by decide) (fun _ => rfl) (fun v3 => ?_)
    exact wX11_rank_132 C k25 hk25 k69 hk69 (sA S 15 j2 v1) x1 v3 x3 0 x5
def mX11_rank_69 (k25 : St → Int32 → Int32 → Int32 → Option (Int32 × St)) : Nat → St → Int32 → Int32 → Int32 → Int32 → Int32 → Option (Int32 × St)
  | 0, _, _, _, _, _, _ => none
  | n + 1, S, x1, x2, x3, x4, x5 => if x5 < 0 then (mX11_rank_138 k25 S x1 x2 x3)
  else (if x4 = 0 then (mX11_rank_138 k25 S x1 x2 x3)
  else (if ((x4 >>> (x5 &&& 31)) &&& 1) = 1 then (inb 16 x5 fun j1 => mX11_rank_103 k25 (mX11_rank_69 k25 n) S x1 x2 x3 x5 (gA S 15 j1) x4)
  else (mX11_rank_103 k25 (mX11_rank_69 k25 n) S x1 x2 x3 x5 0 x4)))
theorem wX11_rank_69 {κ : KT} {g : GT} (C : CX κ g RX11 cX11_rank 6 (some .int) 1 22) (k25 : St → Int32 → Int32 → Int32 → Option (Int32 × St)) (hk25 : ∀ (S : St) (x1 : Int32) (x2 : Int32) (x3 : Int32), J κ g 6 (fun a : Int32 × St => (some (Value.int a.1), a.2)) S 25 [(0, .ref (gad g 0)), (1, .int x1), (2, .int x2), (3, .int x3)] [] (k25 S x1 x2 x3)) : ∀ (n : Nat) (S : St) (x1 : Int32) (x2 : Int32) (x3 : Int32) (x4 : Int32) (x5 : Int32), J κ g 6 (fun a : Int32 × St => (some (Value.int a.1), a.2)) S 69 [(0, .ref (gad g 0)), (1, .int x1), (2, .int x2), (3, .int x3), (4, .int x4), (5, .int x5)] [] (mX11_rank_69 k25 n S x1 x2 x3 x4 x5) := by
  intro n
  induction n with
  | zero => intro S x1 x2 x3 x4 x5; exact j_none
  | succ n ih =>
    intro S x1 x2 x3 x4 x5
    rw [mX11_rank_69]
    refine j_iload C 5 rfl dX11_rank_69 ?_
    refine j_if_lt C 138 dX11_rank_71 (by decide) ?_ ?_
    · refine j_sub (xs1 := [(0, .ref (gad g 0)), (1, .int x1), (2, .int x2), (3, .int x3)]) [0, 1, 2, 3] rfl ?_
      exact wX11_rank_138 C k25 hk25 S x1 x2 x3
    · refine j_iload C 4 rfl dX11_rank_74 ?_
      refine j_if_eq C 138 dX11_rank_76 (by decide) ?_ ?_
      · refine j_sub (xs1 := [(0, .ref (gad g 0)), (1, .int x1), (2, .int x2), (3, .int x3)]) [0, 1, 2, 3] rfl ?_
        exact wX11_rank_138 C k25 hk25 S x1 x2 x3
      · refine j_iload C 4 rfl dX11_rank_79 ?_
        refine j_iload C 4 rfl dX11_rank_81 ?_
        refine j_iload C 5 rfl dX11_rank_83 ?_
        refine j_ishr C dX11_rank_85 ?_
        refine j_iconst C (v := 1) (by decide) dX11_rank_86 ?_
        refine j_iand C dX11_rank_87 ?_
        refine j_iconst C (v := 1) (by decide) dX11_rank_88 ?_
        refine j_icmp_ne C 102 dX11_rank_89 (by decide) ?_ ?_
        · refine j_iconst C (v := 0) (by decide) dX11_rank_102 ?_
          refine j_sub (xs1 := [(0, .ref (gad g 0)), (1, .int x1), (2, .int x2), (3, .int x3), (5, .int x5)]) [0, 1, 2, 3, 5] rfl ?_
          exact wX11_rank_103 C k25 hk25 (mX11_rank_69 k25 n) ih S x1 x2 x3 x5 0 x4
        · refine j_aload_n C 0 rfl dX11_rank_92 rfl ?_
          refine j_getR C (x := 15) fl_X11_53 sh_0 rfl rfl dX11_rank_93 ?_
          refine j_iload C 5 rfl dX11_rank_96 ?_
          refine j_iald C sh_15 rfl dX11_rank_98 (fun j1 => ?_)
          refine j_goto C 103 dX11_rank_99 (by decide) ?_
          refine j_sub (xs1 := [(0, .ref (gad g 0)), (1, .int x1), (2, .int x2), (3, .int x3), (5, .int x5)]) [0, 1, 2, 3, 5] rfl ?_
          exact wX11_rank_103 C k25 hk25 (mX11_rank_69 k25 n) ih S x1 x2 x3 x5 (gA S 15 j1) x4
def mX11_rank_63 (k25 : St → Int32 → Int32 → Int32 → Option (Int32 × St)) (S : St) (x1 : Int32) (x2 : Int32) (x3 : Int32) (s0 : Int32) : Option (Int32 × St) := mX11_rank_69 k25 FU S x1 x2 x3 s0 15
theorem wX11_rank_63 {κ : KT} {g : GT} (C : CX κ g RX11 cX11_rank 6 (some .int) 1 22) (k25 : St → Int32 → Int32 → Int32 → Option (Int32 × St)) (hk25 : ∀ (S : St) (x1 : Int32) (x2 : Int32) (x3 : Int32), J κ g 6 (fun a : Int32 × St => (some (Value.int a.1), a.2)) S 25 [(0, .ref (gad g 0)), (1, .int x1), (2, .int x2), (3, .int x3)] [] (k25 S x1 x2 x3)) (S : St) (x1 : Int32) (x2 : Int32) (x3 : Int32) (s0 : Int32) : J κ g 6 (fun a : Int32 × St => (some (Value.int a.1), a.2)) S 63 [(0, .ref (gad g 0)), (1, .int x1), (2, .int x2), (3, .int x3)] [.int s0] (mX11_rank_63 k25 S x1 x2 x3 s0) := by
  unfold mX11_rank_63
  refine j_istore C (xs1 := [(0, .ref (gad g 0)), (1, .int x1), (2, .int x2), (3, .int x3), (4, .int s0)]) dX11_rank_63 (by decide) rfl ?_
  refine j_bipush C (v := 15) (by decide) dX11_rank_65 ?_
  refine j_istore C (xs1 := [(0, .ref (gad g 0)), (1, .int x1), (2, .int x2), (3, .int x3), (4, .int s0), (5, .int 15)]) dX11_rank_67 (by decide) rfl ?_
  exact wX11_rank_69 C k25 hk25 FU S x1 x2 x3 s0 15
def mX11_rank_62 (k25 : St → Int32 → Int32 → Int32 → Option (Int32 × St)) (S : St) (x1 : Int32) (x2 : Int32) (x3 : Int32) : Option (Int32 × St) := mX11_rank_63 k25 S x1 x2 x3 0
theorem wX11_rank_62 {κ : KT} {g : GT} (C : CX κ g RX11 cX11_rank 6 (some .int) 1 22) (k25 : St → Int32 → Int32 → Int32 → Option (Int32 × St)) (hk25 : ∀ (S : St) (x1 : Int32) (x2 : Int32) (x3 : Int32), J κ g 6 (fun a : Int32 × St => (some (Value.int a.1), a.2)) S 25 [(0, .ref (gad g 0)), (1, .int x1), (2, .int x2), (3, .int x3)] [] (k25 S x1 x2 x3)) (S : St) (x1 : Int32) (x2 : Int32) (x3 : Int32) : J κ g 6 (fun a : Int32 × St => (some (Value.int a.1), a.2)) S 62 [(0, .ref (gad g 0)), (1, .int x1), (2, .int x2), (3, .int x3)] [] (mX11_rank_62 k25 S x1 x2 x3) := by
  unfold mX11_rank_62
  refine j_iconst C (v := 0) (by decide) dX11_rank_62 ?_
  exact wX11_rank_63 C k25 hk25 S x1 x2 x3 0
def mX11_rank_25 : Nat → St → Int32 → Int32 → Int32 → Option (Int32 × St)
  | 0, _, _, _, _ => none
  | n + 1, S, x1, x2, x3 => if 16 ≤ x3 then (some (x2, S))
  else (if (((gI S 0 23) >>> (x3 &&& 31)) &&& 1) = 1 then ((mX11_ones x3).bind fun r1 => if r1 = x1 then (if x1 ≤ 0 then (mX11_rank_62 (mX11_rank_25 n) S x1 x2 x3)
  else ((mX11_border x3).bind fun r2 => mX11_rank_63 (mX11_rank_25 n) S x1 x2 x3 r2))
  else (mX11_rank_62 (mX11_rank_25 n) S x1 x2 x3))
  else (mX11_rank_62 (mX11_rank_25 n) S x1 x2 x3))
theorem wX11_rank_25 {κ : KT} {g : GT} (C : CX κ g RX11 cX11_rank 6 (some .int) 1 22) : ∀ (n : Nat) (S : St) (x1 : Int32) (x2 : Int32) (x3 : Int32), J κ g 6 (fun a : Int32 × St => (some (Value.int a.1), a.2)) S 25 [(0, .ref (gad g 0)), (1, .int x1), (2, .int x2), (3, .int x3)] [] (mX11_rank_25 n S x1 x2 x3) := by
  intro n
  induction n with
  | zero => intro S x1 x2 x3; exact j_none
  | succ n ih =>
    intro S x1 x2 x3
    rw [mX11_rank_25]
    refine j_iload_n C 3 rfl dX11_rank_25 rfl ?_
    refine j_bipush C (v := 16) (by decide) dX11_rank_26 ?_
    refine j_icmp_ge C 144 dX11_rank_28 (by decide) ?_ ?_
    · refine j_iload_n C 2 rfl dX11_rank_144 rfl ?_
      exact j_iret C rfl dX11_rank_145
    · refine j_aload_n C 0 rfl dX11_rank_31 rfl ?_
      refine j_getI C fl_X11_299 sh_0 rfl rfl dX11_rank_32 ?_
      refine j_iload_n C 3 rfl dX11_rank_35 rfl ?_
      refine j_ishr C dX11_rank_36 ?_
      refine j_iconst C (v := 1) (by decide) dX11_rank_37 ?_
      refine j_iand C dX11_rank_38 ?_
      refine j_iconst C (v := 1) (by decide) dX11_rank_39 ?_
      refine j_icmp_ne C 62 dX11_rank_40 (by decide) ?_ ?_
      · exact wX11_rank_62 C (mX11_rank_25 n) ih S x1 x2 x3
      · refine j_iload_n C 3 rfl dX11_rank_43 rfl ?_
        refine j_callSi C [.int x3] [] ms_X11_234 (fun _ h => ctX11_ones h) ⟨(Nat.le_of_ble_eq_true rfl), (Nat.le_of_ble_eq_true rfl)⟩ (Nat.le_of_ble_eq_true rfl) dX11_rank_44 rfl (fun r1 => ?_)
        refine j_iload_n C 1 rfl dX11_rank_47 rfl ?_
        refine j_icmp_ne C 62 dX11_rank_48 (by decide) ?_ ?_
        · exact wX11_rank_62 C (mX11_rank_25 n) ih S x1 x2 x3
        · refine j_iload_n C 1 rfl dX11_rank_51 rfl ?_
          refine j_if_le C 62 dX11_rank_52 (by decide) ?_ ?_
          · exact wX11_rank_62 C (mX11_rank_25 n) ih S x1 x2 x3
          · refine j_iload_n C 3 rfl dX11_rank_55 rfl ?_
            refine j_callSi C [.int x3] [] ms_X11_305 (fun _ h => ctX11_border h) ⟨(Nat.le_of_ble_eq_true rfl), (Nat.le_of_ble_eq_true rfl)⟩ (Nat.le_of_ble_eq_true rfl) dX11_rank_56 rfl (fun r2 => ?_)
            refine j_goto C 63 dX11_rank_59 (by decide) ?_
            exact wX11_rank_63 C (mX11_rank_25 n) ih S x1 x2 x3 r2
def mX11_rank_2 : Nat → St → Int32 → Int32 → Option (Int32 × St)
  | 0, _, _, _ => none
  | n + 1, S, x1, x2 => if 16 ≤ x2 then (mX11_rank_25 FU S x1 0 0)
  else (inb 16 x2 fun j1 => bnd (x2 + 1) fun v2 => mX11_rank_2 n (sA S 15 j1 0) x1 v2)
theorem wX11_rank_2 {κ : KT} {g : GT} (C : CX κ g RX11 cX11_rank 6 (some .int) 1 22) : ∀ (n : Nat) (S : St) (x1 : Int32) (x2 : Int32), J κ g 6 (fun a : Int32 × St => (some (Value.int a.1), a.2)) S 2 [(0, .ref (gad g 0)), (1, .int x1), (2, .int x2)] [] (mX11_rank_2 n S x1 x2) := by
  intro n
  induction n with
  | zero => intro S x1 x2; exact j_none
  | succ n ih =>
    intro S x1 x2
    rw [mX11_rank_2]
    refine j_iload_n C 2 rfl dX11_rank_2 rfl ?_
    refine j_bipush C (v := 16) (by decide) dX11_rank_3 ?_
    refine j_icmp_ge C 21 dX11_rank_5 (by decide) ?_ ?_
    · refine j_iconst C (v := 0) (by decide) dX11_rank_21 ?_
      refine j_istore_n C (xs1 := [(0, .ref (gad g 0)), (1, .int x1), (2, .int 0)]) dX11_rank_22 rfl (by decide) rfl ?_
      refine j_iconst C (v := 0) (by decide) dX11_rank_23 ?_
      refine j_istore_n C (xs1 := [(0, .ref (gad g 0)), (1, .int x1), (2, .int 0), (3, .int 0)]) dX11_rank_24 rfl (by decide) rfl ?_
      exact wX11_rank_25 C FU S x1 0 0
    · refine j_aload_n C 0 rfl dX11_rank_8 rfl ?_
      refine j_getR C (x := 15) fl_X11_53 sh_0 rfl rfl dX11_rank_9 ?_
      refine j_iload_n C 2 rfl dX11_rank_12 rfl ?_
      refine j_iconst C (v := 0) (by decide) dX11_rank_13 ?_
      refine j_iast C sh_15 rfl dX11_rank_14 (fun j1 => ?_)
      refine j_iinc C (xs2 := fun v2 => [(0, .ref (gad g 0)), (1, .int x1), (2, .int v2)]) 2 rfl dX11_rank_15 (by decide) (by decide) (fun _ => rfl) (fun v2 => ?_)
      refine j_goto C 2 dX11_rank_18 (by decide) ?_
      exact ih (sA S 15 j1 0) x1 v2
def mX11_rank (S : St) (a0 : Int32) : Option (Int32 × St) := mX11_rank_2 FU S a0 0
theorem wX11_rank {κ : KT} {g : GT} (C : CX κ g RX11 cX11_rank 6 (some .int) 1 22) (S : St) (a0 : Int32) : J κ g 6 (fun a : Int32 × St => (some (Value.int a.1), a.2)) S 0 [(0, .ref (gad g 0)), (1, .int a0)] [] (mX11_rank S a0) := by
  unfold mX11_rank
  refine j_iconst C (v := 0) (by decide) dX11_rank_0 ?_
  refine j_istore_n C (xs1 := [(0, .ref (gad g 0)), (1, .int a0), (2, .int 0)]) dX11_rank_1 rfl (by decide) rfl ?_
  exact wX11_rank_2 C FU S a0 0
theorem ctX11_rank {l : Launch} {g : GT} {S : St} {a0 : Int32} {out : Int32 × St} (ho : mX11_rank S a0 = some out) : CT l yX11_rank cX11_rank 6 (some .int) 1 22 [.ref (gad g 0), .int a0] g S ((fun a : Int32 × St => (some (Value.int a.1), a.2)) out) := CT_of (φ := (fun a : Int32 × St => (some (Value.int a.1), a.2))) [.ref (gad g 0), .int a0] ho (by decide) (Nat.le_of_ble_eq_true rfl) (xs := [(0, .ref (gad g 0)), (1, .int a0)]) rfl (fun κ C => wX11_rank C S a0)
/-! StairIdealsModel.holesAt(III)I -/
def mX11_holesAt (S : St) (a0 : Int32) (a1 : Int32) (a2 : Int32) : Option (Int32 × St) := (mX11_findFaces S a0 a2).bind fun r1 => (mX11_facesOf r1 a1).bind fun r2 => (mX11_rank r1 a1).bind fun r3 => (mX11_rank r3.2 (a1 + 1)).bind fun r4 => some ((r2 - r3.1) - r4.1, r4.2)
theorem wX11_holesAt {κ : KT} {g : GT} (C : CX κ g RX11 cX11_holesAt 4 (some .int) 5 112) (S : St) (a0 : Int32) (a1 : Int32) (a2 : Int32) : J κ g 4 (fun a : Int32 × St => (some (Value.int a.1), a.2)) S 0 [(0, .ref (gad g 0)), (1, .int a0), (2, .int a1), (3, .int a2)] [] (mX11_holesAt S a0 a1 a2) := by
  unfold mX11_holesAt
  refine j_aload_n C 0 rfl dX11_holesAt_0 rfl ?_
  refine j_iload_n C 1 rfl dX11_holesAt_1 rfl ?_
  refine j_iload_n C 3 rfl dX11_holesAt_2 rfl ?_
  refine j_callVvS C [.int a0, .int a2] [] mv_X11_308 sh_0 rfl rfl (fun _ h => ctX11_findFaces h) ⟨(Nat.le_of_ble_eq_true rfl), (Nat.le_of_ble_eq_true rfl)⟩ (Nat.le_of_ble_eq_true rfl) dX11_holesAt_3 rfl (fun r1 => ?_)
  refine j_aload_n C 0 rfl dX11_holesAt_6 rfl ?_
  refine j_iload_n C 2 rfl dX11_holesAt_7 rfl ?_
  refine j_callVi C [.int a1] [] mv_X11_311 sh_0 rfl rfl (fun _ h => ctX11_facesOf h) ⟨(Nat.le_of_ble_eq_true rfl), (Nat.le_of_ble_eq_true rfl)⟩ (Nat.le_of_ble_eq_true rfl) dX11_holesAt_8 rfl (fun r2 => ?_)
  refine j_aload_n C 0 rfl dX11_holesAt_11 rfl ?_
  refine j_iload_n C 2 rfl dX11_holesAt_12 rfl ?_
  refine j_callViS C [.int a1] [.int r2] mv_X11_314 sh_0 rfl rfl (fun _ h => ctX11_rank h) ⟨(Nat.le_of_ble_eq_true rfl), (Nat.le_of_ble_eq_true rfl)⟩ (Nat.le_of_ble_eq_true rfl) dX11_holesAt_13 rfl (fun r3 => ?_)
  refine j_isub C dX11_holesAt_16 ?_
  refine j_aload_n C 0 rfl dX11_holesAt_17 rfl ?_
  refine j_iload_n C 2 rfl dX11_holesAt_18 rfl ?_
  refine j_iconst C (v := 1) (by decide) dX11_holesAt_19 ?_
  refine j_iadd C dX11_holesAt_20 ?_
  refine j_callViS C [.int (a1 + 1)] [.int (r2 - r3.1)] mv_X11_314 sh_0 rfl rfl (fun _ h => ctX11_rank h) ⟨(Nat.le_of_ble_eq_true rfl), (Nat.le_of_ble_eq_true rfl)⟩ (Nat.le_of_ble_eq_true rfl) dX11_holesAt_21 rfl (fun r4 => ?_)
  refine j_isub C dX11_holesAt_24 ?_
  exact j_iret C rfl dX11_holesAt_25
theorem ctX11_holesAt {l : Launch} {g : GT} {S : St} {a0 : Int32} {a1 : Int32} {a2 : Int32} {out : Int32 × St} (ho : mX11_holesAt S a0 a1 a2 = some out) : CT l yX11_holesAt cX11_holesAt 4 (some .int) 5 112 [.ref (gad g 0), .int a0, .int a1, .int a2] g S ((fun a : Int32 × St => (some (Value.int a.1), a.2)) out) := CT_of (φ := (fun a : Int32 × St => (some (Value.int a.1), a.2))) [.ref (gad g 0), .int a0, .int a1, .int a2] ho (by decide) (Nat.le_of_ble_eq_true rfl) (xs := [(0, .ref (gad g 0)), (1, .int a0), (2, .int a1), (3, .int a2)]) rfl (fun κ C => wX11_holesAt C S a0 a1 a2)
/-! StairIdealsModel.betti(II)I -/
def mX11_betti_68 (k34 : St → Int32 → Int32 → Int32 → Int32 → Option (Int32 × St)) (S : St) (x1 : Int32) (x2 : Int32) (x4 : Int32) (s0 : Int32) (s1 : Int32) : Option (Int32 × St) := bnd (s1 + s0) fun v1 => bnd (x4 + 1) fun v2 => k34 S x1 x2 v1 v2
theorem wX11_betti_68 {κ : KT} {g : GT} (C : CX κ g RX11 cX11_betti 5 (some .int) 6 135) (k34 : St → Int32 → Int32 → Int32 → Int32 → Option (Int32 × St)) (hk34 : ∀ (S : St) (x1 : Int32) (x2 : Int32) (x3 : Int32) (x4 : Int32), J κ g 5 (fun a : Int32 × St => (some (Value.int a.1), a.2)) S 34 [(0, .ref (gad g 0)), (1, .int x1), (2, .int x2), (3, .int x3), (4, .int x4)] [] (k34 S x1 x2 x3 x4)) (S : St) (x1 : Int32) (x2 : Int32) (x4 : Int32) (s0 : Int32) (s1 : Int32) : J κ g 5 (fun a : Int32 × St => (some (Value.int a.1), a.2)) S 68 [(0, .ref (gad g 0)), (1, .int x1), (2, .int x2), (4, .int x4)] [.int s0, .int s1] (mX11_betti_68 k34 S x1 x2 x4 s0 s1) := by
  unfold mX11_betti_68
  refine j_iadd C dX11_betti_68 ?_
  refine j_topi (fun v1 => ?_)
  refine j_istore_n C (xs1 := [(0, .ref (gad g 0)), (1, .int x1), (2, .int x2), (3, .int v1), (4, .int x4)]) dX11_betti_69 rfl (by decide) rfl ?_
  refine j_iinc C (xs2 := fun v2 => [(0, .ref (gad g 0)), (1, .int x1), (2, .int x2), (3, .int v1), (4, .int v2)]) 4 rfl dX11_betti_70 (by decide) (by decide) (fun _ => rfl) (fun v2 => ?_)
  refine j_goto C 34 dX11_betti_73 (by decide) ?_
  exact hk34 S x1 x2 v1 v2
def mX11_betti_34 : Nat → St → Int32 → Int32 → Int32 → Int32 → Option (Int32 × St)
  | 0, _, _, _, _, _ => none
  | n + 1, S, x1, x2, x3, x4 => if 2401 ≤ x4 then (some (x3, S))
  else (inb 2401 x4 fun j1 => if (gA S 14 j1) = 0 then (mX11_betti_68 (mX11_betti_34 n) S x1 x2 x4 0 x3)
  else ((mX11_codeAt x4).bind fun r2 => (mX11_holesAt S x1 x2 r2).bind fun r3 => mX11_betti_68 (mX11_betti_34 n) r3.2 x1 x2 x4 r3.1 x3))
theorem wX11_betti_34 {κ : KT} {g : GT} (C : CX κ g RX11 cX11_betti 5 (some .int) 6 135) : ∀ (n : Nat) (S : St) (x1 : Int32) (x2 : Int32) (x3 : Int32) (x4 : Int32), J κ g 5 (fun a : Int32 × St => (some (Value.int a.1), a.2)) S 34 [(0, .ref (gad g 0)), (1, .int x1), (2, .int x2), (3, .int x3), (4, .int x4)] [] (mX11_betti_34 n S x1 x2 x3 x4) := by
  intro n
  induction n with
  | zero => intro S x1 x2 x3 x4; exact j_none
  | succ n ih =>
    intro S x1 x2 x3 x4
    rw [mX11_betti_34]
    refine j_iload C 4 rfl dX11_betti_34 ?_
    refine j_sipush C (v := 2401) (by decide) dX11_betti_36 ?_
    refine j_icmp_ge C 76 dX11_betti_39 (by decide) ?_ ?_
    · refine j_iload_n C 3 rfl dX11_betti_76 rfl ?_
      exact j_iret C rfl dX11_betti_77
    · refine j_iload_n C 3 rfl dX11_betti_42 rfl ?_
      refine j_aload_n C 0 rfl dX11_betti_43 rfl ?_
      refine j_getR C (x := 14) fl_X11_50 sh_0 rfl rfl dX11_betti_44 ?_
      refine j_iload C 4 rfl dX11_betti_47 ?_
      refine j_zald C sh_14 rfl dX11_betti_49 (fun j1 => ?_)
      refine j_if_eq C 67 dX11_betti_50 (by decide) ?_ ?_
      · refine j_iconst C (v := 0) (by decide) dX11_betti_67 ?_
        refine j_sub (xs1 := [(0, .ref (gad g 0)), (1, .int x1), (2, .int x2), (4, .int x4)]) [0, 1, 2, 4] rfl ?_
        exact wX11_betti_68 C (mX11_betti_34 n) ih S x1 x2 x4 0 x3
      · refine j_aload_n C 0 rfl dX11_betti_53 rfl ?_
        refine j_iload_n C 1 rfl dX11_betti_54 rfl ?_
        refine j_iload_n C 2 rfl dX11_betti_55 rfl ?_
        refine j_iload C 4 rfl dX11_betti_56 ?_
        refine j_callSi C [.int x4] [.int x2, .int x1, .ref (gad g 0), .int x3] ms_X11_93 (fun _ h => ctX11_codeAt h) ⟨(Nat.le_of_ble_eq_true rfl), (Nat.le_of_ble_eq_true rfl)⟩ (Nat.le_of_ble_eq_true rfl) dX11_betti_58 rfl (fun r2 => ?_)
        refine j_callViS C [.int x1, .int x2, .int r2] [.int x3] mv_X11_317 sh_0 rfl rfl (fun _ h => ctX11_holesAt h) ⟨(Nat.le_of_ble_eq_true rfl), (Nat.le_of_ble_eq_true rfl)⟩ (Nat.le_of_ble_eq_true rfl) dX11_betti_61 rfl (fun r3 => ?_)
        refine j_goto C 68 dX11_betti_64 (by decide) ?_
        refine j_sub (xs1 := [(0, .ref (gad g 0)), (1, .int x1), (2, .int x2), (4, .int x4)]) [0, 1, 2, 4] rfl ?_
        exact wX11_betti_68 C (mX11_betti_34 n) ih r3.2 x1 x2 x4 r3.1 x3
def mX11_betti (S : St) (a0 : Int32) (a1 : Int32) : Option (Int32 × St) := (mX11_isIdeal a0).bind fun r1 => if r1 = 0 then (some ((-1), S))
  else ((mX11_in a1.toInt64 0 3).bind fun r2 => if r2 = 0 then (some ((-2), S))
  else ((mX11_findLattice S a0).bind fun r3 => mX11_betti_34 FU r3 a0 a1 0 0))
theorem wX11_betti {κ : KT} {g : GT} (C : CX κ g RX11 cX11_betti 5 (some .int) 6 135) (S : St) (a0 : Int32) (a1 : Int32) : J κ g 5 (fun a : Int32 × St => (some (Value.int a.1), a.2)) S 0 [(0, .ref (gad g 0)), (1, .int a0), (2, .int a1)] [] (mX11_betti S a0 a1) := by
  unfold mX11_betti
  refine j_iload_n C 1 rfl dX11_betti_0 rfl ?_
  refine j_callSi C [.int a0] [] ms_X11_128 (fun _ h => ctX11_isIdeal h) ⟨(Nat.le_of_ble_eq_true rfl), (Nat.le_of_ble_eq_true rfl)⟩ (Nat.le_of_ble_eq_true rfl) dX11_betti_1 rfl (fun r1 => ?_)
  refine j_if_ne C 9 dX11_betti_4 (by decide) ?_ ?_
  · refine j_iload_n C 2 rfl dX11_betti_9 rfl ?_
    refine j_i2l C dX11_betti_10 ?_
    refine j_lconst C (v := 0) (by decide) dX11_betti_11 ?_
    refine j_ldc2 C (v := 3) wd_864 dX11_betti_12 ?_
    refine j_callSi C [.long a1.toInt64, .long 0, .long 3] [] ms_X11_64 (fun _ h => ctX11_in h) ⟨(Nat.le_of_ble_eq_true rfl), (Nat.le_of_ble_eq_true rfl)⟩ (Nat.le_of_ble_eq_true rfl) dX11_betti_15 rfl (fun r2 => ?_)
    refine j_if_ne C 24 dX11_betti_18 (by decide) ?_ ?_
    · refine j_aload_n C 0 rfl dX11_betti_24 rfl ?_
      refine j_iload_n C 1 rfl dX11_betti_25 rfl ?_
      refine j_callVvS C [.int a0] [] mv_X11_284 sh_0 rfl rfl (fun _ h => ctX11_findLattice h) ⟨(Nat.le_of_ble_eq_true rfl), (Nat.le_of_ble_eq_true rfl)⟩ (Nat.le_of_ble_eq_true rfl) dX11_betti_26 rfl (fun r3 => ?_)
      refine j_iconst C (v := 0) (by decide) dX11_betti_29 ?_
      refine j_istore_n C (xs1 := [(0, .ref (gad g 0)), (1, .int a0), (2, .int a1), (3, .int 0)]) dX11_betti_30 rfl (by decide) rfl ?_
      refine j_iconst C (v := 0) (by decide) dX11_betti_31 ?_
      refine j_istore C (xs1 := [(0, .ref (gad g 0)), (1, .int a0), (2, .int a1), (3, .int 0), (4, .int 0)]) dX11_betti_32 (by decide) rfl ?_
      exact wX11_betti_34 C FU r3 a0 a1 0 0
    · refine j_bipush C (v := (-2)) (by decide) dX11_betti_21 ?_
      exact j_iret C rfl dX11_betti_23
  · refine j_iconst C (v := (-1)) (by decide) dX11_betti_7 ?_
    exact j_iret C rfl dX11_betti_8
theorem ctX11_betti {l : Launch} {g : GT} {S : St} {a0 : Int32} {a1 : Int32} {out : Int32 × St} (ho : mX11_betti S a0 a1 = some out) : CT l yX11_betti cX11_betti 5 (some .int) 6 135 [.ref (gad g 0), .int a0, .int a1] g S ((fun a : Int32 × St => (some (Value.int a.1), a.2)) out) := CT_of (φ := (fun a : Int32 × St => (some (Value.int a.1), a.2))) [.ref (gad g 0), .int a0, .int a1] ho (by decide) (Nat.le_of_ble_eq_true rfl) (xs := [(0, .ref (gad g 0)), (1, .int a0), (2, .int a1)]) rfl (fun κ C => wX11_betti C S a0 a1)
/-! StairIdealsModel.bettiAt(III)I -/
def mX11_bettiAt (S : St) (a0 : Int32) (a1 : Int32) (a2 : Int32) : Option (Int32 × St) := (mX11_isIdeal a0).bind fun r1 => if r1 = 0 then (some ((-1), S))
  else ((mX11_in a1.toInt64 0 3).bind fun r2 => if r2 = 0 then (some ((-2), S))
  else ((mX11_isCode a2).bind fun r3 => if r3 = 0 then (some ((-2), S))
  else ((mX11_findLattice S a0).bind fun r4 => (mX11_placeOf a2).bind fun r5 => inb 2401 r5 fun j6 => if (gA r4 14 j6) = 0 then (some (0, r4))
  else ((mX11_holesAt r4 a0 a1 a2).bind fun r7 => some (r7.1, r7.2)))))
theorem wX11_bettiAt {κ : KT} {g : GT} (C : CX κ g RX11 cX11_bettiAt 4 (some .int) 6 135) (S : St) (a0 : Int32) (a1 : Int32) (a2 : Int32) : J κ g 4 (fun a : Int32 × St => (some (Value.int a.1), a.2)) S 0 [(0, .ref (gad g 0)), (1, .int a0), (2, .int a1), (3, .int a2)] [] (mX11_bettiAt S a0 a1 a2) := by
  unfold mX11_bettiAt
  refine j_iload_n C 1 rfl dX11_bettiAt_0 rfl ?_
  refine j_callSi C [.int a0] [] ms_X11_128 (fun _ h => ctX11_isIdeal h) ⟨(Nat.le_of_ble_eq_true rfl), (Nat.le_of_ble_eq_true rfl)⟩ (Nat.le_of_ble_eq_true rfl) dX11_bettiAt_1 rfl (fun r1 => ?_)
  refine j_if_ne C 9 dX11_bettiAt_4 (by decide) ?_ ?_
  · refine j_iload_n C 2 rfl dX11_bettiAt_9 rfl ?_
    refine j_i2l C dX11_bettiAt_10 ?_
    refine j_lconst C (v := 0) (by decide) dX11_bettiAt_11 ?_
    refine j_ldc2 C (v := 3) wd_864 dX11_bettiAt_12 ?_
    refine j_callSi C [.long a1.toInt64, .long 0, .long 3] [] ms_X11_64 (fun _ h => ctX11_in h) ⟨(Nat.le_of_ble_eq_true rfl), (Nat.le_of_ble_eq_true rfl)⟩ (Nat.le_of_ble_eq_true rfl) dX11_bettiAt_15 rfl (fun r2 => ?_)
    refine j_if_eq C 28 dX11_bettiAt_18 (by decide) ?_ ?_
    · refine j_bipush C (v := (-2)) (by decide) dX11_bettiAt_28 ?_
      exact j_iret C rfl dX11_bettiAt_30
    · refine j_iload_n C 3 rfl dX11_bettiAt_21 rfl ?_
      refine j_callSi C [.int a2] [] ms_X11_145 (fun _ h => ctX11_isCode h) ⟨(Nat.le_of_ble_eq_true rfl), (Nat.le_of_ble_eq_true rfl)⟩ (Nat.le_of_ble_eq_true rfl) dX11_bettiAt_22 rfl (fun r3 => ?_)
      refine j_if_ne C 31 dX11_bettiAt_25 (by decide) ?_ ?_
      · refine j_aload_n C 0 rfl dX11_bettiAt_31 rfl ?_
        refine j_iload_n C 1 rfl dX11_bettiAt_32 rfl ?_
        refine j_callVvS C [.int a0] [] mv_X11_284 sh_0 rfl rfl (fun _ h => ctX11_findLattice h) ⟨(Nat.le_of_ble_eq_true rfl), (Nat.le_of_ble_eq_true rfl)⟩ (Nat.le_of_ble_eq_true rfl) dX11_bettiAt_33 rfl (fun r4 => ?_)
        refine j_aload_n C 0 rfl dX11_bettiAt_36 rfl ?_
        refine j_getR C (x := 14) fl_X11_50 sh_0 rfl rfl dX11_bettiAt_37 ?_
        refine j_iload_n C 3 rfl dX11_bettiAt_40 rfl ?_
        refine j_callSi C [.int a2] [.ref (gad g 14)] ms_X11_96 (fun _ h => ctX11_placeOf h) ⟨(Nat.le_of_ble_eq_true rfl), (Nat.le_of_ble_eq_true rfl)⟩ (Nat.le_of_ble_eq_true rfl) dX11_bettiAt_41 rfl (fun r5 => ?_)
        refine j_zald C sh_14 rfl dX11_bettiAt_44 (fun j6 => ?_)
        refine j_if_eq C 58 dX11_bettiAt_45 (by decide) ?_ ?_
        · refine j_iconst C (v := 0) (by decide) dX11_bettiAt_58 ?_
          exact j_iret C rfl dX11_bettiAt_59
        · refine j_aload_n C 0 rfl dX11_bettiAt_48 rfl ?_
          refine j_iload_n C 1 rfl dX11_bettiAt_49 rfl ?_
          refine j_iload_n C 2 rfl dX11_bettiAt_50 rfl ?_
          refine j_iload_n C 3 rfl dX11_bettiAt_51 rfl ?_
          refine j_callViS C [.int a0, .int a1, .int a2] [] mv_X11_317 sh_0 rfl rfl (fun _ h => ctX11_holesAt h) ⟨(Nat.le_of_ble_eq_true rfl), (Nat.le_of_ble_eq_true rfl)⟩ (Nat.le_of_ble_eq_true rfl) dX11_bettiAt_52 rfl (fun r7 => ?_)
          refine j_goto C 59 dX11_bettiAt_55 (by decide) ?_
          exact j_iret C rfl dX11_bettiAt_59
      · refine j_bipush C (v := (-2)) (by decide) dX11_bettiAt_28 ?_
        exact j_iret C rfl dX11_bettiAt_30
  · refine j_iconst C (v := (-1)) (by decide) dX11_bettiAt_7 ?_
    exact j_iret C rfl dX11_bettiAt_8
theorem ctX11_bettiAt {l : Launch} {g : GT} {S : St} {a0 : Int32} {a1 : Int32} {a2 : Int32} {out : Int32 × St} (ho : mX11_bettiAt S a0 a1 a2 = some out) : CT l yX11_bettiAt cX11_bettiAt 4 (some .int) 6 135 [.ref (gad g 0), .int a0, .int a1, .int a2] g S ((fun a : Int32 × St => (some (Value.int a.1), a.2)) out) := CT_of (φ := (fun a : Int32 × St => (some (Value.int a.1), a.2))) [.ref (gad g 0), .int a0, .int a1, .int a2] ho (by decide) (Nat.le_of_ble_eq_true rfl) (xs := [(0, .ref (gad g 0)), (1, .int a0), (2, .int a1), (3, .int a2)]) rfl (fun κ C => wX11_bettiAt C S a0 a1 a2)
/-! StairIdealsModel.nearest(JJI)V -/
def mX11_nearest_183 (S : St) (x5 : Int32) (s0 : Int64) (s1 : Int64) : Option (St) := if (lg_cmp ((gF (sF S (s1 + s0))) >>> (x5.toInt64 &&& 63)) 1) = 0 then (some (sI (sF (sF S (s1 + s0)) ((gF (sF S (s1 + s0))) / 2)) 0 26 ((gI (sF (sF S (s1 + s0)) ((gF (sF S (s1 + s0))) / 2)) 0 26) + 1)))
  else (some (sF S (s1 + s0)))
theorem wX11_nearest_183 {κ : KT} {g : GT} (C : CX κ g RX11 cX11_nearest 11 none 0 0) (S : St) (x5 : Int32) (s0 : Int64) (s1 : Int64) : J κ g 11 (fun a : St => (none, a)) S 183 [(0, .ref (gad g 0)), (5, .int x5)] [.long s0, .long s1, .ref (gad g 0)] (mX11_nearest_183 S x5 s0 s1) := by
  unfold mX11_nearest_183
  refine j_ladd C dX11_nearest_183 ?_
  refine j_putL C fp_X11_323 dX11_nearest_184 ?_
  refine j_aload_n C 0 rfl dX11_nearest_187 rfl ?_
  refine j_getL C fl_X11_323 sh_0 rfl rfl dX11_nearest_188 ?_
  refine j_iload C 1 rfl dX11_nearest_191 ?_
  refine j_lshr C dX11_nearest_193 ?_
  refine j_lconst C (v := 1) (by decide) dX11_nearest_194 ?_
  refine j_lcmp C dX11_nearest_195 ?_
  refine j_if_ne C 221 dX11_nearest_196 (by decide) ?_ ?_
  · exact j_vret C rfl dX11_nearest_221
  · refine j_aload_n C 0 rfl dX11_nearest_199 rfl ?_
    refine j_dup C rfl dX11_nearest_200 ?_
    refine j_getL C fl_X11_323 sh_0 rfl rfl dX11_nearest_201 ?_
    refine j_ldc2 C (v := 2) wd_1136 dX11_nearest_204 ?_
    refine j_ldiv C (by decide) dX11_nearest_207 ?_
    refine j_putL C fp_X11_323 dX11_nearest_208 ?_
    refine j_aload_n C 0 rfl dX11_nearest_211 rfl ?_
    refine j_dup C rfl dX11_nearest_212 ?_
    refine j_getI C fl_X11_320 sh_0 rfl rfl dX11_nearest_213 ?_
    refine j_iconst C (v := 1) (by decide) dX11_nearest_216 ?_
    refine j_iadd C dX11_nearest_217 ?_
    refine j_putI C fp_X11_320 sh_0 rfl rfl rfl rfl dX11_nearest_218 ?_
    exact j_vret C rfl dX11_nearest_221
def mX11_nearest_182 (S : St) (x5 : Int32) (s0 : Int64) : Option (St) := mX11_nearest_183 S x5 0 s0
theorem wX11_nearest_182 {κ : KT} {g : GT} (C : CX κ g RX11 cX11_nearest 11 none 0 0) (S : St) (x5 : Int32) (s0 : Int64) : J κ g 11 (fun a : St => (none, a)) S 182 [(0, .ref (gad g 0)), (5, .int x5)] [.long s0, .ref (gad g 0)] (mX11_nearest_182 S x5 s0) := by
  unfold mX11_nearest_182
  refine j_lconst C (v := 0) (by decide) dX11_nearest_182 ?_
  exact wX11_nearest_183 C S x5 0 s0
def mX11_nearest_178 (S : St) (x5 : Int32) (s0 : Int64) : Option (St) := mX11_nearest_183 S x5 1 s0
theorem wX11_nearest_178 {κ : KT} {g : GT} (C : CX κ g RX11 cX11_nearest 11 none 0 0) (S : St) (x5 : Int32) (s0 : Int64) : J κ g 11 (fun a : St => (none, a)) S 178 [(0, .ref (gad g 0)), (5, .int x5)] [.long s0, .ref (gad g 0)] (mX11_nearest_178 S x5 s0) := by
  unfold mX11_nearest_178
  refine j_lconst C (v := 1) (by decide) dX11_nearest_178 ?_
  refine j_goto C 183 dX11_nearest_179 (by decide) ?_
  exact wX11_nearest_183 C S x5 1 s0
def mX11_nearest_135 (k81 : St → Int32 → Int64 → Int64 → Int32 → Option (St)) (S : St) (x5 : Int32) (x8 : Int64) (x10 : Int32) (s0 : Int64) (s1 : Int64) : Option (St) := bnd (s1 * s0) fun v1 => bnd (x10 + 1) fun v2 => k81 S x5 v1 x8 v2
theorem wX11_nearest_135 {κ : KT} {g : GT} (C : CX κ g RX11 cX11_nearest 11 none 0 0) (k81 : St → Int32 → Int64 → Int64 → Int32 → Option (St)) (hk81 : ∀ (S : St) (x5 : Int32) (x6 : Int64) (x8 : Int64) (x10 : Int32), J κ g 11 (fun a : St => (none, a)) S 81 [(0, .ref (gad g 0)), (5, .int x5), (6, .long x6), (8, .long x8), (10, .int x10)] [] (k81 S x5 x6 x8 x10)) (S : St) (x5 : Int32) (x8 : Int64) (x10 : Int32) (s0 : Int64) (s1 : Int64) : J κ g 11 (fun a : St => (none, a)) S 135 [(0, .ref (gad g 0)), (5, .int x5), (8, .long x8), (10, .int x10)] [.long s0, .long s1] (mX11_nearest_135 k81 S x5 x8 x10 s0 s1) := by
  unfold mX11_nearest_135
  refine j_lmul C dX11_nearest_135 ?_
  refine j_topl (fun v1 => ?_)
  refine j_lstore C (xs1 := [(0, .ref (gad g 0)), (5, .int x5), (6, .long v1), (8, .long x8), (10, .int x10)]) dX11_nearest_136 (by decide) rfl ?_
  refine j_iinc C (xs2 := fun v2 => [(0, .ref (gad g 0)), (5, .int x5), (6, .long v1), (8, .long x8), (10, .int v2)]) 4 rfl dX11_nearest_138 (by decide) (by decide) (fun _ => rfl) (fun v2 => ?_)
  refine j_goto C 81 dX11_nearest_141 (by decide) ?_
  exact hk81 S x5 v1 x8 v2
def mX11_nearest_110 (k81 : St → Int32 → Int64 → Int64 → Int32 → Option (St)) (S : St) (x5 : Int32) (x6 : Int64) (x8 : Int64) (x10 : Int32) (s0 : Int64) (s1 : Int64) : Option (St) := if (lg_cmp x6 x8) < 0 then (mX11_nearest_135 k81 (sF S (s1 + s0)) x5 x8 x10 x6 2)
  else (mX11_nearest_135 k81 (sF S (s1 + s0)) x5 x8 x10 (x6 - x8) 2)
theorem wX11_nearest_110 {κ : KT} {g : GT} (C : CX κ g RX11 cX11_nearest 11 none 0 0) (k81 : St → Int32 → Int64 → Int64 → Int32 → Option (St)) (hk81 : ∀ (S : St) (x5 : Int32) (x6 : Int64) (x8 : Int64) (x10 : Int32), J κ g 11 (fun a : St => (none, a)) S 81 [(0, .ref (gad g 0)), (5, .int x5), (6, .long x6), (8, .long x8), (10, .int x10)] [] (k81 S x5 x6 x8 x10)) (S : St) (x5 : Int32) (x6 : Int64) (x8 : Int64) (x10 : Int32) (s0 : Int64) (s1 : Int64) : J κ g 11 (fun a : St => (none, a)) S 110 [(0, .ref (gad g 0)), (5, .int x5), (6, .long x6), (8, .long x8), (10, .int x10)] [.long s0, .long s1, .ref (gad g 0)] (mX11_nearest_110 k81 S x5 x6 x8 x10 s0 s1) := by
  unfold mX11_nearest_110
  refine j_ladd C dX11_nearest_110 ?_
  refine j_putL C fp_X11_323 dX11_nearest_111 ?_
  refine j_ldc2 C (v := 2) wd_1136 dX11_nearest_114 ?_
  refine j_lload C 2 rfl dX11_nearest_117 ?_
  refine j_lload C 3 rfl dX11_nearest_119 ?_
  refine j_lcmp C dX11_nearest_121 ?_
  refine j_if_lt C 133 dX11_nearest_122 (by decide) ?_ ?_
  · refine j_lload C 2 rfl dX11_nearest_133 ?_
    refine j_sub (xs1 := [(0, .ref (gad g 0)), (5, .int x5), (8, .long x8), (10, .int x10)]) [0, 1, 3, 4] rfl ?_
    exact wX11_nearest_135 C k81 hk81 (sF S (s1 + s0)) x5 x8 x10 x6 2
  · refine j_lload C 2 rfl dX11_nearest_125 ?_
    refine j_lload C 3 rfl dX11_nearest_127 ?_
    refine j_lsub C dX11_nearest_129 ?_
    refine j_goto C 135 dX11_nearest_130 (by decide) ?_
    refine j_sub (xs1 := [(0, .ref (gad g 0)), (5, .int x5), (8, .long x8), (10, .int x10)]) [0, 1, 3, 4] rfl ?_
    exact wX11_nearest_135 C k81 hk81 (sF S (s1 + s0)) x5 x8 x10 (x6 - x8) 2
def mX11_nearest_81 : Nat → St → Int32 → Int64 → Int64 → Int32 → Option (St)
  | 0, _, _, _, _, _ => none
  | n + 1, S, x5, x6, x8, x10 => if x5 ≤ x10 then (if 0 < (lg_cmp x6 x8) then (mX11_nearest_178 S x5 (gF S))
  else (if (lg_cmp x6 x8) = 0 then (if (lg_cmp ((gF S) - (gF S) / 2 * 2) 1) = 0 then (mX11_nearest_178 S x5 (gF S))
  else (mX11_nearest_182 S x5 (gF S)))
  else (mX11_nearest_182 S x5 (gF S))))
  else (if (lg_cmp x6 x8) < 0 then (mX11_nearest_110 (mX11_nearest_81 n) S x5 x6 x8 x10 0 (2 * (gF S)))
  else (mX11_nearest_110 (mX11_nearest_81 n) S x5 x6 x8 x10 1 (2 * (gF S))))
theorem wX11_nearest_81 {κ : KT} {g : GT} (C : CX κ g RX11 cX11_nearest 11 none 0 0) : ∀ (n : Nat) (S : St) (x5 : Int32) (x6 : Int64) (x8 : Int64) (x10 : Int32), J κ g 11 (fun a : St => (none, a)) S 81 [(0, .ref (gad g 0)), (5, .int x5), (6, .long x6), (8, .long x8), (10, .int x10)] [] (mX11_nearest_81 n S x5 x6 x8 x10) := by
  intro n
  induction n with
  | zero => intro S x5 x6 x8 x10; exact j_none
  | succ n ih =>
    intro S x5 x6 x8 x10
    rw [mX11_nearest_81]
    refine j_iload C 4 rfl dX11_nearest_81 ?_
    refine j_iload C 1 rfl dX11_nearest_83 ?_
    refine j_icmp_ge C 144 dX11_nearest_85 (by decide) ?_ ?_
    · refine j_aload_n C 0 rfl dX11_nearest_144 rfl ?_
      refine j_dup C rfl dX11_nearest_145 ?_
      refine j_getL C fl_X11_323 sh_0 rfl rfl dX11_nearest_146 ?_
      refine j_lload C 2 rfl dX11_nearest_149 ?_
      refine j_lload C 3 rfl dX11_nearest_151 ?_
      refine j_lcmp C dX11_nearest_153 ?_
      refine j_if_gt C 178 dX11_nearest_154 (by decide) ?_ ?_
      · refine j_sub (xs1 := [(0, .ref (gad g 0)), (5, .int x5)]) [0, 1] rfl ?_
        exact wX11_nearest_178 C S x5 (gF S)
      · refine j_lload C 2 rfl dX11_nearest_157 ?_
        refine j_lload C 3 rfl dX11_nearest_159 ?_
        refine j_lcmp C dX11_nearest_161 ?_
        refine j_if_ne C 182 dX11_nearest_162 (by decide) ?_ ?_
        · refine j_sub (xs1 := [(0, .ref (gad g 0)), (5, .int x5)]) [0, 1] rfl ?_
          exact wX11_nearest_182 C S x5 (gF S)
        · refine j_aload_n C 0 rfl dX11_nearest_165 rfl ?_
          refine j_getL C fl_X11_323 sh_0 rfl rfl dX11_nearest_166 ?_
          refine j_ldc2 C (v := 2) wd_1136 dX11_nearest_169 ?_
          refine j_lrem C (by decide) dX11_nearest_172 ?_
          refine j_lconst C (v := 1) (by decide) dX11_nearest_173 ?_
          refine j_lcmp C dX11_nearest_174 ?_
          refine j_if_ne C 182 dX11_nearest_175 (by decide) ?_ ?_
          · refine j_sub (xs1 := [(0, .ref (gad g 0)), (5, .int x5)]) [0, 1] rfl ?_
            exact wX11_nearest_182 C S x5 (gF S)
          · refine j_sub (xs1 := [(0, .ref (gad g 0)), (5, .int x5)]) [0, 1] rfl ?_
            exact wX11_nearest_178 C S x5 (gF S)
    · refine j_aload_n C 0 rfl dX11_nearest_88 rfl ?_
      refine j_ldc2 C (v := 2) wd_1136 dX11_nearest_89 ?_
      refine j_aload_n C 0 rfl dX11_nearest_92 rfl ?_
      refine j_getL C fl_X11_323 sh_0 rfl rfl dX11_nearest_93 ?_
      refine j_lmul C dX11_nearest_96 ?_
      refine j_lload C 2 rfl dX11_nearest_97 ?_
      refine j_lload C 3 rfl dX11_nearest_99 ?_
      refine j_lcmp C dX11_nearest_101 ?_
      refine j_if_lt C 109 dX11_nearest_102 (by decide) ?_ ?_
      · refine j_lconst C (v := 0) (by decide) dX11_nearest_109 ?_
        exact wX11_nearest_110 C (mX11_nearest_81 n) ih S x5 x6 x8 x10 0 (2 * (gF S))
      · refine j_lconst C (v := 1) (by decide) dX11_nearest_105 ?_
        refine j_goto C 110 dX11_nearest_106 (by decide) ?_
        exact wX11_nearest_110 C (mX11_nearest_81 n) ih S x5 x6 x8 x10 1 (2 * (gF S))
def mX11_nearest_40 : Nat → St → Int32 → Int64 → Int64 → Option (St)
  | 0, _, _, _, _ => none
  | n + 1, S, x5, x6, x8 => if (lg_cmp x6 (2 * x8)) < 0 then (mX11_nearest_81 FU (sF S 0) x5 x6 x8 0)
  else (bnd (x8 * 2) fun v1 => mX11_nearest_40 n (sI S 0 26 ((gI S 0 26) + 1)) x5 x6 v1)
theorem wX11_nearest_40 {κ : KT} {g : GT} (C : CX κ g RX11 cX11_nearest 11 none 0 0) : ∀ (n : Nat) (S : St) (x5 : Int32) (x6 : Int64) (x8 : Int64), J κ g 11 (fun a : St => (none, a)) S 40 [(0, .ref (gad g 0)), (5, .int x5), (6, .long x6), (8, .long x8)] [] (mX11_nearest_40 n S x5 x6 x8) := by
  intro n
  induction n with
  | zero => intro S x5 x6 x8; exact j_none
  | succ n ih =>
    intro S x5 x6 x8
    rw [mX11_nearest_40]
    refine j_lload C 2 rfl dX11_nearest_40 ?_
    refine j_ldc2 C (v := 2) wd_1136 dX11_nearest_42 ?_
    refine j_lload C 3 rfl dX11_nearest_45 ?_
    refine j_lmul C dX11_nearest_47 ?_
    refine j_lcmp C dX11_nearest_48 ?_
    refine j_if_lt C 73 dX11_nearest_49 (by decide) ?_ ?_
    · refine j_aload_n C 0 rfl dX11_nearest_73 rfl ?_
      refine j_lconst C (v := 0) (by decide) dX11_nearest_74 ?_
      refine j_putL C fp_X11_323 dX11_nearest_75 ?_
      refine j_iconst C (v := 0) (by decide) dX11_nearest_78 ?_
      refine j_istore C (xs1 := [(0, .ref (gad g 0)), (5, .int x5), (6, .long x6), (8, .long x8), (10, .int 0)]) dX11_nearest_79 (by decide) rfl ?_
      exact wX11_nearest_81 C FU (sF S 0) x5 x6 x8 0
    · refine j_lload C 3 rfl dX11_nearest_52 ?_
      refine j_ldc2 C (v := 2) wd_1136 dX11_nearest_54 ?_
      refine j_lmul C dX11_nearest_57 ?_
      refine j_topl (fun v1 => ?_)
      refine j_lstore C (xs1 := [(0, .ref (gad g 0)), (5, .int x5), (6, .long x6), (8, .long v1)]) dX11_nearest_58 (by decide) rfl ?_
      refine j_aload_n C 0 rfl dX11_nearest_60 rfl ?_
      refine j_dup C rfl dX11_nearest_61 ?_
      refine j_getI C fl_X11_320 sh_0 rfl rfl dX11_nearest_62 ?_
      refine j_iconst C (v := 1) (by decide) dX11_nearest_65 ?_
      refine j_iadd C dX11_nearest_66 ?_
      refine j_putI C fp_X11_320 sh_0 rfl rfl rfl rfl dX11_nearest_67 ?_
      refine j_goto C 40 dX11_nearest_70 (by decide) ?_
      exact ih (sI S 0 26 ((gI S 0 26) + 1)) x5 x6 v1
def mX11_nearest_11 : Nat → St → Int32 → Int64 → Int64 → Option (St)
  | 0, _, _, _, _ => none
  | n + 1, S, x5, x6, x8 => if 0 ≤ (lg_cmp x6 x8) then (mX11_nearest_40 FU S x5 x6 x8)
  else (bnd (x6 * 2) fun v1 => mX11_nearest_11 n (sI S 0 26 ((gI S 0 26) - 1)) x5 v1 x8)
theorem wX11_nearest_11 {κ : KT} {g : GT} (C : CX κ g RX11 cX11_nearest 11 none 0 0) : ∀ (n : Nat) (S : St) (x5 : Int32) (x6 : Int64) (x8 : Int64), J κ g 11 (fun a : St => (none, a)) S 11 [(0, .ref (gad g 0)), (5, .int x5), (6, .long x6), (8, .long x8)] [] (mX11_nearest_11 n S x5 x6 x8) := by
  intro n
  induction n with
  | zero => intro S x5 x6 x8; exact j_none
  | succ n ih =>
    intro S x5 x6 x8
    rw [mX11_nearest_11]
    refine j_lload C 2 rfl dX11_nearest_11 ?_
    refine j_lload C 3 rfl dX11_nearest_13 ?_
    refine j_lcmp C dX11_nearest_15 ?_
    refine j_if_ge C 40 dX11_nearest_16 (by decide) ?_ ?_
    · exact wX11_nearest_40 C FU S x5 x6 x8
    · refine j_lload C 2 rfl dX11_nearest_19 ?_
      refine j_ldc2 C (v := 2) wd_1136 dX11_nearest_21 ?_
      refine j_lmul C dX11_nearest_24 ?_
      refine j_topl (fun v1 => ?_)
      refine j_lstore C (xs1 := [(0, .ref (gad g 0)), (5, .int x5), (6, .long v1), (8, .long x8)]) dX11_nearest_25 (by decide) rfl ?_
      refine j_aload_n C 0 rfl dX11_nearest_27 rfl ?_
      refine j_dup C rfl dX11_nearest_28 ?_
      refine j_getI C fl_X11_320 sh_0 rfl rfl dX11_nearest_29 ?_
      refine j_iconst C (v := 1) (by decide) dX11_nearest_32 ?_
      refine j_isub C dX11_nearest_33 ?_
      refine j_putI C fp_X11_320 sh_0 rfl rfl rfl rfl dX11_nearest_34 ?_
      refine j_goto C 11 dX11_nearest_37 (by decide) ?_
      exact ih (sI S 0 26 ((gI S 0 26) - 1)) x5 v1 x8
def mX11_nearest (S : St) (a0 : Int64) (a1 : Int64) (a2 : Int32) : Option (St) := mX11_nearest_11 FU (sI S 0 26 0) a2 a0 a1
theorem wX11_nearest {κ : KT} {g : GT} (C : CX κ g RX11 cX11_nearest 11 none 0 0) (S : St) (a0 : Int64) (a1 : Int64) (a2 : Int32) : J κ g 11 (fun a : St => (none, a)) S 0 [(0, .ref (gad g 0)), (1, .long a0), (3, .long a1), (5, .int a2)] [] (mX11_nearest S a0 a1 a2) := by
  unfold mX11_nearest
  refine j_lload_n C 1 rfl dX11_nearest_0 rfl ?_
  refine j_lstore C (xs1 := [(0, .ref (gad g 0)), (1, .long a0), (3, .long a1), (5, .int a2), (6, .long a0)]) dX11_nearest_1 (by decide) rfl ?_
  refine j_lload_n C 2 rfl dX11_nearest_3 rfl ?_
  refine j_lstore C (xs1 := [(0, .ref (gad g 0)), (1, .long a0), (3, .long a1), (5, .int a2), (6, .long a0), (8, .long a1)]) dX11_nearest_4 (by decide) rfl ?_
  refine j_aload_n C 0 rfl dX11_nearest_6 rfl ?_
  refine j_iconst C (v := 0) (by decide) dX11_nearest_7 ?_
  refine j_putI C fp_X11_320 sh_0 rfl rfl rfl rfl dX11_nearest_8 ?_
  refine j_sub (xs1 := [(0, .ref (gad g 0)), (5, .int a2), (6, .long a0), (8, .long a1)]) [0, 3, 4, 5] rfl ?_
  exact wX11_nearest_11 C FU (sI S 0 26 0) a2 a0 a1
theorem ctX11_nearest {l : Launch} {g : GT} {S : St} {a0 : Int64} {a1 : Int64} {a2 : Int32} {out : St} (ho : mX11_nearest S a0 a1 a2 = some out) : CT l yX11_nearest cX11_nearest 11 none 0 0 [.ref (gad g 0), .long a0, .long a1, .int a2] g S ((fun a : St => (none, a)) out) := CT_of (φ := (fun a : St => (none, a))) [.ref (gad g 0), .long a0, .long a1, .int a2] ho (by decide) (Nat.le_of_ble_eq_true rfl) (xs := [(0, .ref (gad g 0)), (1, .long a0), (3, .long a1), (5, .int a2)]) rfl (fun κ C => wX11_nearest C S a0 a1 a2)
/-! StairIdealsModel.bits(II)J -/
def mX11_bits (S : St) (a0 : Int32) (a1 : Int32) : Option (Int64) := some (((((gI S 0 26) + a1).toInt64) <<< ((a0 - 1).toInt64 &&& 63)) ||| ((gF S) - (1 <<< ((a0 - 1).toInt64 &&& 63))))
theorem wX11_bits {κ : KT} {g : GT} (C : CX κ g RX11 cX11_bits 3 (some .long) 0 0) (S : St) (a0 : Int32) (a1 : Int32) : J κ g 3 (fun a : Int64 => (some (Value.long a), S)) S 0 [(0, .ref (gad g 0)), (1, .int a0), (2, .int a1)] [] (mX11_bits S a0 a1) := by
  unfold mX11_bits
  refine j_aload_n C 0 rfl dX11_bits_0 rfl ?_
  refine j_getI C fl_X11_320 sh_0 rfl rfl dX11_bits_1 ?_
  refine j_iload_n C 2 rfl dX11_bits_4 rfl ?_
  refine j_iadd C dX11_bits_5 ?_
  refine j_i2l C dX11_bits_6 ?_
  refine j_iload_n C 1 rfl dX11_bits_7 rfl ?_
  refine j_iconst C (v := 1) (by decide) dX11_bits_8 ?_
  refine j_isub C dX11_bits_9 ?_
  refine j_lshl C dX11_bits_10 ?_
  refine j_aload_n C 0 rfl dX11_bits_11 rfl ?_
  refine j_getL C fl_X11_323 sh_0 rfl rfl dX11_bits_12 ?_
  refine j_lconst C (v := 1) (by decide) dX11_bits_15 ?_
  refine j_iload_n C 1 rfl dX11_bits_16 rfl ?_
  refine j_iconst C (v := 1) (by decide) dX11_bits_17 ?_
  refine j_isub C dX11_bits_18 ?_
  refine j_lshl C dX11_bits_19 ?_
  refine j_lsub C dX11_bits_20 ?_
  refine j_lor C dX11_bits_21 ?_
  exact j_lret C rfl dX11_bits_22
theorem ctX11_bits {l : Launch} {g : GT} {S : St} {a0 : Int32} {a1 : Int32} {out : Int64} (ho : mX11_bits S a0 a1 = some out) : CT l yX11_bits cX11_bits 3 (some .long) 0 0 [.ref (gad g 0), .int a0, .int a1] g S ((fun a : Int64 => (some (Value.long a), S)) out) := CT_of (φ := (fun a : Int64 => (some (Value.long a), S))) [.ref (gad g 0), .int a0, .int a1] ho (by decide) (Nat.le_of_ble_eq_true rfl) (xs := [(0, .ref (gad g 0)), (1, .int a0), (2, .int a1)]) rfl (fun κ C => wX11_bits C S a0 a1)
/-! StairIdealsModel.cut()J -/
def mX11_cut_23 : Nat → St → Int64 → Int64 → Int32 → Option (Int64 × St)
  | 0, _, _, _, _ => none
  | n + 1, S, x2, x4, x6 => if 0 ≤ x6 then ((mX11_nearest S x2 x4 24).bind fun r1 => if 0 ≤ (gI r1 0 26) then (if 23 ≤ (gI r1 0 26) then (some ((gF r1) <<< (((gI r1 0 26) - 23).toInt64 &&& 63), r1))
  else (some ((gF r1) >>> ((23 - (gI r1 0 26)).toInt64 &&& 63), r1)))
  else (some (0, r1)))
  else (bnd (x4 * 2) fun v2 => bnd (x6 + 1) fun v3 => mX11_cut_23 n S x2 v2 v3)
theorem wX11_cut_23 {κ : KT} {g : GT} (C : CX κ g RX11 cX11_cut 7 (some .long) 1 30) : ∀ (n : Nat) (S : St) (x2 : Int64) (x4 : Int64) (x6 : Int32), J κ g 7 (fun a : Int64 × St => (some (Value.long a.1), a.2)) S 23 [(0, .ref (gad g 0)), (2, .long x2), (4, .long x4), (6, .int x6)] [] (mX11_cut_23 n S x2 x4 x6) := by
  intro n
  induction n with
  | zero => intro S x2 x4 x6; exact j_none
  | succ n ih =>
    intro S x2 x4 x6
    rw [mX11_cut_23]
    refine j_iload C 3 rfl dX11_cut_23 ?_
    refine j_if_ge C 42 dX11_cut_25 (by decide) ?_ ?_
    · refine j_aload_n C 0 rfl dX11_cut_42 rfl ?_
      refine j_lload_n C 1 rfl dX11_cut_43 rfl ?_
      refine j_lload C 2 rfl dX11_cut_44 ?_
      refine j_bipush C (v := 24) (by decide) dX11_cut_46 ?_
      refine j_callVvS C [.long x2, .long x4, .int 24] [] mv_X11_329 sh_0 rfl rfl (fun _ h => ctX11_nearest h) ⟨(Nat.le_of_ble_eq_true rfl), (Nat.le_of_ble_eq_true rfl)⟩ (Nat.le_of_ble_eq_true rfl) dX11_cut_48 rfl (fun r1 => ?_)
      refine j_aload_n C 0 rfl dX11_cut_51 rfl ?_
      refine j_getI C fl_X11_320 sh_0 rfl rfl dX11_cut_52 ?_
      refine j_if_ge C 62 dX11_cut_55 (by decide) ?_ ?_
      · refine j_aload_n C 0 rfl dX11_cut_62 rfl ?_
        refine j_getI C fl_X11_320 sh_0 rfl rfl dX11_cut_63 ?_
        refine j_bipush C (v := 23) (by decide) dX11_cut_66 ?_
        refine j_icmp_ge C 86 dX11_cut_68 (by decide) ?_ ?_
        · refine j_aload_n C 0 rfl dX11_cut_86 rfl ?_
          refine j_getL C fl_X11_323 sh_0 rfl rfl dX11_cut_87 ?_
          refine j_aload_n C 0 rfl dX11_cut_90 rfl ?_
          refine j_getI C fl_X11_320 sh_0 rfl rfl dX11_cut_91 ?_
          refine j_bipush C (v := 23) (by decide) dX11_cut_94 ?_
          refine j_isub C dX11_cut_96 ?_
          refine j_lshl C dX11_cut_97 ?_
          exact j_lret C rfl dX11_cut_98
        · refine j_aload_n C 0 rfl dX11_cut_71 rfl ?_
          refine j_getL C fl_X11_323 sh_0 rfl rfl dX11_cut_72 ?_
          refine j_bipush C (v := 23) (by decide) dX11_cut_75 ?_
          refine j_aload_n C 0 rfl dX11_cut_77 rfl ?_
          refine j_getI C fl_X11_320 sh_0 rfl rfl dX11_cut_78 ?_
          refine j_isub C dX11_cut_81 ?_
          refine j_lshr C dX11_cut_82 ?_
          refine j_goto C 98 dX11_cut_83 (by decide) ?_
          exact j_lret C rfl dX11_cut_98
      · refine j_lconst C (v := 0) (by decide) dX11_cut_58 ?_
        refine j_goto C 98 dX11_cut_59 (by decide) ?_
        exact j_lret C rfl dX11_cut_98
    · refine j_lload C 2 rfl dX11_cut_28 ?_
      refine j_ldc2 C (v := 2) wd_1136 dX11_cut_30 ?_
      refine j_lmul C dX11_cut_33 ?_
      refine j_topl (fun v2 => ?_)
      refine j_lstore C (xs1 := [(0, .ref (gad g 0)), (2, .long x2), (4, .long v2), (6, .int x6)]) dX11_cut_34 (by decide) rfl ?_
      refine j_iinc C (xs2 := fun v3 => [(0, .ref (gad g 0)), (2, .long x2), (4, .long v2), (6, .int v3)]) 3 rfl dX11_cut_36 (by decide) (by decide) (fun _ => rfl) (fun v3 => ?_)
      refine j_goto C 23 dX11_cut_39 (by decide) ?_
      exact ih S x2 v2 v3
def mX11_cut (S : St) : Option (Int64 × St) := bnd ((gI S 0 26) - 23) fun v1 => bnd (1000 * (gF S)) fun v2 => mX11_cut_23 FU S v2 1 v1
theorem wX11_cut {κ : KT} {g : GT} (C : CX κ g RX11 cX11_cut 7 (some .long) 1 30) (S : St) : J κ g 7 (fun a : Int64 × St => (some (Value.long a.1), a.2)) S 0 [(0, .ref (gad g 0))] [] (mX11_cut S) := by
  unfold mX11_cut
  refine j_aload_n C 0 rfl dX11_cut_0 rfl ?_
  refine j_getI C fl_X11_320 sh_0 rfl rfl dX11_cut_1 ?_
  refine j_bipush C (v := 23) (by decide) dX11_cut_4 ?_
  refine j_isub C dX11_cut_6 ?_
  refine j_topi (fun v1 => ?_)
  refine j_istore_n C (xs1 := [(0, .ref (gad g 0)), (1, .int v1)]) dX11_cut_7 rfl (by decide) rfl ?_
  refine j_ldc2 C (v := 1000) wd_1150 dX11_cut_8 ?_
  refine j_aload_n C 0 rfl dX11_cut_11 rfl ?_
  refine j_getL C fl_X11_323 sh_0 rfl rfl dX11_cut_12 ?_
  refine j_lmul C dX11_cut_15 ?_
  refine j_topl (fun v2 => ?_)
  refine j_lstore_n C (xs1 := [(0, .ref (gad g 0)), (1, .int v1), (2, .long v2)]) dX11_cut_16 rfl (by decide) rfl ?_
  refine j_lconst C (v := 1) (by decide) dX11_cut_17 ?_
  refine j_lstore C (xs1 := [(0, .ref (gad g 0)), (1, .int v1), (2, .long v2), (4, .long 1)]) dX11_cut_18 (by decide) rfl ?_
  refine j_iload_n C 1 rfl dX11_cut_20 rfl ?_
  refine j_istore C (xs1 := [(0, .ref (gad g 0)), (1, .int v1), (2, .long v2), (4, .long 1), (6, .int v1)]) dX11_cut_21 (by decide) rfl ?_
  refine j_sub (xs1 := [(0, .ref (gad g 0)), (2, .long v2), (4, .long 1), (6, .int v1)]) [0, 2, 3, 4] rfl ?_
  exact wX11_cut_23 C FU S v2 1 v1
theorem ctX11_cut {l : Launch} {g : GT} {S : St} {out : Int64 × St} (ho : mX11_cut S = some out) : CT l yX11_cut cX11_cut 7 (some .long) 1 30 [.ref (gad g 0)] g S ((fun a : Int64 × St => (some (Value.long a.1), a.2)) out) := CT_of (φ := (fun a : Int64 × St => (some (Value.long a.1), a.2))) [.ref (gad g 0)] ho (by decide) (Nat.le_of_ble_eq_true rfl) (xs := [(0, .ref (gad g 0))]) rfl (fun κ C => wX11_cut C S)
/-! StairIdealsModel.share(III)J -/
def mX11_share_82 (S : St) (x3 : Int32) (s0 : Int32) (s1 : Int64) (s2 : Int64) : Option (Int64 × St) := (mX11_nearest S s2 s1 s0).bind fun r1 => if x3 = 0 then ((mX11_bits r1 24 127).bind fun r4 => some (r4, r1))
  else (if x3 = 1 then ((mX11_bits r1 53 1023).bind fun r3 => some (r3, r1))
  else ((mX11_cut r1).bind fun r2 => some (r2.1, r2.2)))
theorem wX11_share_82 {κ : KT} {g : GT} (C : CX κ g RX11 cX11_share 5 (some .long) 5 110) (S : St) (x3 : Int32) (s0 : Int32) (s1 : Int64) (s2 : Int64) : J κ g 5 (fun a : Int64 × St => (some (Value.long a.1), a.2)) S 82 [(0, .ref (gad g 0)), (3, .int x3)] [.int s0, .long s1, .long s2, .ref (gad g 0)] (mX11_share_82 S x3 s0 s1 s2) := by
  unfold mX11_share_82
  refine j_callVvS C [.long s2, .long s1, .int s0] [] mv_X11_329 sh_0 rfl rfl (fun _ h => ctX11_nearest h) ⟨(Nat.le_of_ble_eq_true rfl), (Nat.le_of_ble_eq_true rfl)⟩ (Nat.le_of_ble_eq_true rfl) dX11_share_82 rfl (fun r1 => ?_)
  refine j_iload_n C 1 rfl dX11_share_85 rfl ?_
  refine j_if_ne C 100 dX11_share_86 (by decide) ?_ ?_
  · refine j_iload_n C 1 rfl dX11_share_100 rfl ?_
    refine j_iconst C (v := 1) (by decide) dX11_share_101 ?_
    refine j_icmp_ne C 117 dX11_share_102 (by decide) ?_ ?_
    · refine j_aload_n C 0 rfl dX11_share_117 rfl ?_
      refine j_callVlS C [] [] mv_X11_341 sh_0 rfl rfl (fun _ h => ctX11_cut h) ⟨(Nat.le_of_ble_eq_true rfl), (Nat.le_of_ble_eq_true rfl)⟩ (Nat.le_of_ble_eq_true rfl) dX11_share_118 rfl (fun r2 => ?_)
      exact j_lret C rfl dX11_share_121
    · refine j_aload_n C 0 rfl dX11_share_105 rfl ?_
      refine j_bipush C (v := 53) (by decide) dX11_share_106 ?_
      refine j_sipush C (v := 1023) (by decide) dX11_share_108 ?_
      refine j_callVl C [.int 53, .int 1023] [] mv_X11_337 sh_0 rfl rfl (fun _ h => ctX11_bits h) ⟨(Nat.le_of_ble_eq_true rfl), (Nat.le_of_ble_eq_true rfl)⟩ (Nat.le_of_ble_eq_true rfl) dX11_share_111 rfl (fun r3 => ?_)
      refine j_goto C 121 dX11_share_114 (by decide) ?_
      exact j_lret C rfl dX11_share_121
  · refine j_aload_n C 0 rfl dX11_share_89 rfl ?_
    refine j_bipush C (v := 24) (by decide) dX11_share_90 ?_
    refine j_bipush C (v := 127) (by decide) dX11_share_92 ?_
    refine j_callVl C [.int 24, .int 127] [] mv_X11_337 sh_0 rfl rfl (fun _ h => ctX11_bits h) ⟨(Nat.le_of_ble_eq_true rfl), (Nat.le_of_ble_eq_true rfl)⟩ (Nat.le_of_ble_eq_true rfl) dX11_share_94 rfl (fun r4 => ?_)
    refine j_goto C 121 dX11_share_97 (by decide) ?_
    exact j_lret C rfl dX11_share_121
def mX11_share (S : St) (a0 : Int32) (a1 : Int32) (a2 : Int32) : Option (Int64 × St) := (mX11_isIdeal a0).bind fun r1 => if r1 = 0 then (some ((-1000000000000000001), S))
  else ((mX11_in a1.toInt64 0 60).bind fun r2 => if r2 = 0 then (some ((-1000000000000000002), S))
  else ((mX11_in a2.toInt64 0 2).bind fun r3 => if r3 = 0 then (some ((-1000000000000000002), S))
  else ((mX11_findStandard S a0).bind fun r4 => (mX11_countOf r4 a1).bind fun r5 => if r5 = 0 then (some (0, r4))
  else ((mX11_choose (a1 + 3) 3).bind fun r6 => if a2 = 1 then (mX11_share_82 r4 a2 53 r6.toInt64 r5.toInt64)
  else (mX11_share_82 r4 a2 24 r6.toInt64 r5.toInt64)))))
theorem wX11_share {κ : KT} {g : GT} (C : CX κ g RX11 cX11_share 5 (some .long) 5 110) (S : St) (a0 : Int32) (a1 : Int32) (a2 : Int32) : J κ g 5 (fun a : Int64 × St => (some (Value.long a.1), a.2)) S 0 [(0, .ref (gad g 0)), (1, .int a0), (2, .int a1), (3, .int a2)] [] (mX11_share S a0 a1 a2) := by
  unfold mX11_share
  refine j_iload_n C 1 rfl dX11_share_0 rfl ?_
  refine j_callSi C [.int a0] [] ms_X11_128 (fun _ h => ctX11_isIdeal h) ⟨(Nat.le_of_ble_eq_true rfl), (Nat.le_of_ble_eq_true rfl)⟩ (Nat.le_of_ble_eq_true rfl) dX11_share_1 rfl (fun r1 => ?_)
  refine j_if_ne C 11 dX11_share_4 (by decide) ?_ ?_
  · refine j_iload_n C 2 rfl dX11_share_11 rfl ?_
    refine j_i2l C dX11_share_12 ?_
    refine j_lconst C (v := 0) (by decide) dX11_share_13 ?_
    refine j_ldc2 C (v := 60) wd_1012 dX11_share_14 ?_
    refine j_callSi C [.long a1.toInt64, .long 0, .long 60] [] ms_X11_64 (fun _ h => ctX11_in h) ⟨(Nat.le_of_ble_eq_true rfl), (Nat.le_of_ble_eq_true rfl)⟩ (Nat.le_of_ble_eq_true rfl) dX11_share_17 rfl (fun r2 => ?_)
    refine j_if_eq C 35 dX11_share_20 (by decide) ?_ ?_
    · refine j_ldc2 C (v := (-1000000000000000002)) wd_1137 dX11_share_35 ?_
      exact j_lret C rfl dX11_share_38
    · refine j_iload_n C 3 rfl dX11_share_23 rfl ?_
      refine j_i2l C dX11_share_24 ?_
      refine j_lconst C (v := 0) (by decide) dX11_share_25 ?_
      refine j_ldc2 C (v := 2) wd_1136 dX11_share_26 ?_
      refine j_callSi C [.long a2.toInt64, .long 0, .long 2] [] ms_X11_64 (fun _ h => ctX11_in h) ⟨(Nat.le_of_ble_eq_true rfl), (Nat.le_of_ble_eq_true rfl)⟩ (Nat.le_of_ble_eq_true rfl) dX11_share_29 rfl (fun r3 => ?_)
      refine j_if_ne C 39 dX11_share_32 (by decide) ?_ ?_
      · refine j_aload_n C 0 rfl dX11_share_39 rfl ?_
        refine j_iload_n C 1 rfl dX11_share_40 rfl ?_
        refine j_callVvS C [.int a0] [] mv_X11_192 sh_0 rfl rfl (fun _ h => ctX11_findStandard h) ⟨(Nat.le_of_ble_eq_true rfl), (Nat.le_of_ble_eq_true rfl)⟩ (Nat.le_of_ble_eq_true rfl) dX11_share_41 rfl (fun r4 => ?_)
        refine j_aload_n C 0 rfl dX11_share_44 rfl ?_
        refine j_iload_n C 2 rfl dX11_share_45 rfl ?_
        refine j_callVi C [.int a1] [] mv_X11_229 sh_0 rfl rfl (fun _ h => ctX11_countOf h) ⟨(Nat.le_of_ble_eq_true rfl), (Nat.le_of_ble_eq_true rfl)⟩ (Nat.le_of_ble_eq_true rfl) dX11_share_46 rfl (fun r5 => ?_)
        refine j_istore C (xs1 := [(0, .ref (gad g 0)), (1, .int a0), (2, .int a1), (3, .int a2), (4, .int r5)]) dX11_share_49 (by decide) rfl ?_
        refine j_iload C 4 rfl dX11_share_51 ?_
        refine j_if_ne C 58 dX11_share_53 (by decide) ?_ ?_
        · refine j_aload_n C 0 rfl dX11_share_58 rfl ?_
          refine j_iload C 4 rfl dX11_share_59 ?_
          refine j_i2l C dX11_share_61 ?_
          refine j_iload_n C 2 rfl dX11_share_62 rfl ?_
          refine j_iconst C (v := 3) (by decide) dX11_share_63 ?_
          refine j_iadd C dX11_share_64 ?_
          refine j_iconst C (v := 3) (by decide) dX11_share_65 ?_
          refine j_callSi C [.int (a1 + 3), .int 3] [.long r5.toInt64, .ref (gad g 0)] ms_X11_221 (fun _ h => ctX11_choose h) ⟨(Nat.le_of_ble_eq_true rfl), (Nat.le_of_ble_eq_true rfl)⟩ (Nat.le_of_ble_eq_true rfl) dX11_share_66 rfl (fun r6 => ?_)
          refine j_i2l C dX11_share_69 ?_
          refine j_iload_n C 3 rfl dX11_share_70 rfl ?_
          refine j_iconst C (v := 1) (by decide) dX11_share_71 ?_
          refine j_icmp_ne C 80 dX11_share_72 (by decide) ?_ ?_
          · refine j_bipush C (v := 24) (by decide) dX11_share_80 ?_
            refine j_sub (xs1 := [(0, .ref (gad g 0)), (3, .int a2)]) [0, 3] rfl ?_
            exact wX11_share_82 C r4 a2 24 r6.toInt64 r5.toInt64
          · refine j_bipush C (v := 53) (by decide) dX11_share_75 ?_
            refine j_goto C 82 dX11_share_77 (by decide) ?_
            refine j_sub (xs1 := [(0, .ref (gad g 0)), (3, .int a2)]) [0, 3] rfl ?_
            exact wX11_share_82 C r4 a2 53 r6.toInt64 r5.toInt64
        · refine j_lconst C (v := 0) (by decide) dX11_share_56 ?_
          exact j_lret C rfl dX11_share_57
      · refine j_ldc2 C (v := (-1000000000000000002)) wd_1137 dX11_share_35 ?_
        exact j_lret C rfl dX11_share_38
  · refine j_ldc2 C (v := (-1000000000000000001)) wd_1135 dX11_share_7 ?_
    exact j_lret C rfl dX11_share_10
theorem ctX11_share {l : Launch} {g : GT} {S : St} {a0 : Int32} {a1 : Int32} {a2 : Int32} {out : Int64 × St} (ho : mX11_share S a0 a1 a2 = some out) : CT l yX11_share cX11_share 5 (some .long) 5 110 [.ref (gad g 0), .int a0, .int a1, .int a2] g S ((fun a : Int64 × St => (some (Value.long a.1), a.2)) out) := CT_of (φ := (fun a : Int64 × St => (some (Value.long a.1), a.2))) [.ref (gad g 0), .int a0, .int a1, .int a2] ho (by decide) (Nat.le_of_ble_eq_true rfl) (xs := [(0, .ref (gad g 0)), (1, .int a0), (2, .int a1), (3, .int a2)]) rfl (fun κ C => wX11_share C S a0 a1 a2)
/-! StairIdealsModel.holderOf(II)I -/
def mX11_holderOf (a0 : Int32) (a1 : Int32) : Option (Int32) := some ((4 + (4 * a0)) + a1)
theorem wX11_holderOf {κ : KT} {g : GT} (C : CX κ g RX11 cX11_holderOf 2 (some .int) 0 0) (S : St) (a0 : Int32) (a1 : Int32) : J κ g 2 (fun a : Int32 => (some (Value.int a), S)) S 0 [(0, .int a0), (1, .int a1)] [] (mX11_holderOf a0 a1) := by
  unfold mX11_holderOf
  refine j_iconst C (v := 4) (by decide) dX11_holderOf_0 ?_
  refine j_iconst C (v := 4) (by decide) dX11_holderOf_1 ?_
  refine j_iload_n C 0 rfl dX11_holderOf_2 rfl ?_
  refine j_imul C dX11_holderOf_3 ?_
  refine j_iadd C dX11_holderOf_4 ?_
  refine j_iload_n C 1 rfl dX11_holderOf_5 rfl ?_
  refine j_iadd C dX11_holderOf_6 ?_
  exact j_iret C rfl dX11_holderOf_7
theorem ctX11_holderOf {l : Launch} {g : GT} {S : St} {a0 : Int32} {a1 : Int32} {out : Int32} (ho : mX11_holderOf a0 a1 = some out) : CT l yX11_holderOf cX11_holderOf 2 (some .int) 0 0 [.int a0, .int a1] g S ((fun a : Int32 => (some (Value.int a), S)) out) := CT_of (φ := (fun a : Int32 => (some (Value.int a), S))) [.int a0, .int a1] ho (by decide) (Nat.le_of_ble_eq_true rfl) (xs := [(0, .int a0), (1, .int a1)]) rfl (fun κ C => wX11_holderOf C S a0 a1)
/-! StairIdealsModel.copy(II)V -/
def mX11_copy_14 : Nat → St → Int32 → Int32 → Int32 → Option (St)
  | 0, _, _, _, _ => none
  | n + 1, S, x1, x2, x3 => inb 16 x1 fun j1 => if (gA S 2 j1) ≤ x3 then (some S)
  else ((mX11_at S x1 x3).bind fun r2 => inb 640 ((40 * x2) + x3) fun j3 => bnd (x3 + 1) fun v4 => mX11_copy_14 n (sA S 1 j3 r2) x1 x2 v4)
theorem wX11_copy_14 {κ : KT} {g : GT} (C : CX κ g RX11 cX11_copy 4 none 1 22) : ∀ (n : Nat) (S : St) (x1 : Int32) (x2 : Int32) (x3 : Int32), J κ g 4 (fun a : St => (none, a)) S 14 [(0, .ref (gad g 0)), (1, .int x1), (2, .int x2), (3, .int x3)] [] (mX11_copy_14 n S x1 x2 x3) := by
  intro n
  induction n with
  | zero => intro S x1 x2 x3; exact j_none
  | succ n ih =>
    intro S x1 x2 x3
    rw [mX11_copy_14]
    refine j_iload_n C 3 rfl dX11_copy_14 rfl ?_
    refine j_aload_n C 0 rfl dX11_copy_15 rfl ?_
    refine j_getR C (x := 2) fl_X11_13 sh_0 rfl rfl dX11_copy_16 ?_
    refine j_iload_n C 1 rfl dX11_copy_19 rfl ?_
    refine j_iald C sh_2 rfl dX11_copy_20 (fun j1 => ?_)
    refine j_icmp_ge C 47 dX11_copy_21 (by decide) ?_ ?_
    · exact j_vret C rfl dX11_copy_47
    · refine j_aload_n C 0 rfl dX11_copy_24 rfl ?_
      refine j_getR C (x := 1) fl_X11_7 sh_0 rfl rfl dX11_copy_25 ?_
      refine j_bipush C (v := 40) (by decide) dX11_copy_28 ?_
      refine j_iload_n C 2 rfl dX11_copy_30 rfl ?_
      refine j_imul C dX11_copy_31 ?_
      refine j_iload_n C 3 rfl dX11_copy_32 rfl ?_
      refine j_iadd C dX11_copy_33 ?_
      refine j_aload_n C 0 rfl dX11_copy_34 rfl ?_
      refine j_iload_n C 1 rfl dX11_copy_35 rfl ?_
      refine j_iload_n C 3 rfl dX11_copy_36 rfl ?_
      refine j_callVi C [.int x1, .int x3] [.int ((40 * x2) + x3), .ref (gad g 1)] mv_X11_86 sh_0 rfl rfl (fun _ h => ctX11_at h) ⟨(Nat.le_of_ble_eq_true rfl), (Nat.le_of_ble_eq_true rfl)⟩ (Nat.le_of_ble_eq_true rfl) dX11_copy_37 rfl (fun r2 => ?_)
      refine j_iast C sh_1 rfl dX11_copy_40 (fun j3 => ?_)
      refine j_iinc C (xs2 := fun v4 => [(0, .ref (gad g 0)), (1, .int x1), (2, .int x2), (3, .int v4)]) 3 rfl dX11_copy_41 (by decide) (by decide) (fun _ => rfl) (fun v4 => ?_)
      refine j_goto C 14 dX11_copy_44 (by decide) ?_
      exact ih (sA S 1 j3 r2) x1 x2 v4
def mX11_copy (S : St) (a0 : Int32) (a1 : Int32) : Option (St) := inb 16 a0 fun j1 => inb 16 a1 fun j2 => mX11_copy_14 FU (sA S 2 j2 (gA S 2 j1)) a0 a1 0
theorem wX11_copy {κ : KT} {g : GT} (C : CX κ g RX11 cX11_copy 4 none 1 22) (S : St) (a0 : Int32) (a1 : Int32) : J κ g 4 (fun a : St => (none, a)) S 0 [(0, .ref (gad g 0)), (1, .int a0), (2, .int a1)] [] (mX11_copy S a0 a1) := by
  unfold mX11_copy
  refine j_aload_n C 0 rfl dX11_copy_0 rfl ?_
  refine j_getR C (x := 2) fl_X11_13 sh_0 rfl rfl dX11_copy_1 ?_
  refine j_iload_n C 2 rfl dX11_copy_4 rfl ?_
  refine j_aload_n C 0 rfl dX11_copy_5 rfl ?_
  refine j_getR C (x := 2) fl_X11_13 sh_0 rfl rfl dX11_copy_6 ?_
  refine j_iload_n C 1 rfl dX11_copy_9 rfl ?_
  refine j_iald C sh_2 rfl dX11_copy_10 (fun j1 => ?_)
  refine j_iast C sh_2 rfl dX11_copy_11 (fun j2 => ?_)
  refine j_iconst C (v := 0) (by decide) dX11_copy_12 ?_
  refine j_istore_n C (xs1 := [(0, .ref (gad g 0)), (1, .int a0), (2, .int a1), (3, .int 0)]) dX11_copy_13 rfl (by decide) rfl ?_
  exact wX11_copy_14 C FU (sA S 2 j2 (gA S 2 j1)) a0 a1 0
theorem ctX11_copy {l : Launch} {g : GT} {S : St} {a0 : Int32} {a1 : Int32} {out : St} (ho : mX11_copy S a0 a1 = some out) : CT l yX11_copy cX11_copy 4 none 1 22 [.ref (gad g 0), .int a0, .int a1] g S ((fun a : St => (none, a)) out) := CT_of (φ := (fun a : St => (none, a))) [.ref (gad g 0), .int a0, .int a1] ho (by decide) (Nat.le_of_ble_eq_true rfl) (xs := [(0, .ref (gad g 0)), (1, .int a0), (2, .int a1)]) rfl (fun κ C => wX11_copy C S a0 a1)
/-! StairIdealsModel.hold(IIIZ)I -/
def mX11_hold_39 (S : St) (x1 : Int32) (x2 : Int32) (x3 : Int32) (x4 : Int32) : Option (Int32 × St) := (mX11_holderOf x1 x2).bind fun r1 => (mX11_copy S x3 r1).bind fun r2 => if x4 = 0 then (inb 12 ((4 * x1) + x2) fun j3 => some (1, (sA r2 3 j3 1)))
  else (inb 12 ((4 * x1) + x2) fun j4 => some (1, (sA r2 3 j4 2)))
theorem wX11_hold_39 {κ : KT} {g : GT} (C : CX κ g RX11 cX11_hold 5 (some .int) 2 46) (S : St) (x1 : Int32) (x2 : Int32) (x3 : Int32) (x4 : Int32) : J κ g 5 (fun a : Int32 × St => (some (Value.int a.1), a.2)) S 39 [(0, .ref (gad g 0)), (1, .int x1), (2, .int x2), (3, .int x3), (4, .int x4)] [] (mX11_hold_39 S x1 x2 x3 x4) := by
  unfold mX11_hold_39
  refine j_aload_n C 0 rfl dX11_hold_39 rfl ?_
  refine j_iload_n C 3 rfl dX11_hold_40 rfl ?_
  refine j_iload_n C 1 rfl dX11_hold_41 rfl ?_
  refine j_iload_n C 2 rfl dX11_hold_42 rfl ?_
  refine j_callSi C [.int x1, .int x2] [.int x3, .ref (gad g 0)] ms_X11_348 (fun _ h => ctX11_holderOf h) ⟨(Nat.le_of_ble_eq_true rfl), (Nat.le_of_ble_eq_true rfl)⟩ (Nat.le_of_ble_eq_true rfl) dX11_hold_43 rfl (fun r1 => ?_)
  refine j_callVvS C [.int x3, .int r1] [] mv_X11_351 sh_0 rfl rfl (fun _ h => ctX11_copy h) ⟨(Nat.le_of_ble_eq_true rfl), (Nat.le_of_ble_eq_true rfl)⟩ (Nat.le_of_ble_eq_true rfl) dX11_hold_46 rfl (fun r2 => ?_)
  refine j_aload_n C 0 rfl dX11_hold_49 rfl ?_
  refine j_getR C (x := 3) fl_X11_16 sh_0 rfl rfl dX11_hold_50 ?_
  refine j_iconst C (v := 4) (by decide) dX11_hold_53 ?_
  refine j_iload_n C 1 rfl dX11_hold_54 rfl ?_
  refine j_imul C dX11_hold_55 ?_
  refine j_iload_n C 2 rfl dX11_hold_56 rfl ?_
  refine j_iadd C dX11_hold_57 ?_
  refine j_iload C 4 rfl dX11_hold_58 ?_
  refine j_if_eq C 67 dX11_hold_60 (by decide) ?_ ?_
  · refine j_iconst C (v := 1) (by decide) dX11_hold_67 ?_
    refine j_iast C sh_3 rfl dX11_hold_68 (fun j3 => ?_)
    refine j_iconst C (v := 1) (by decide) dX11_hold_69 ?_
    exact j_iret C rfl dX11_hold_70
  · refine j_iconst C (v := 2) (by decide) dX11_hold_63 ?_
    refine j_goto C 68 dX11_hold_64 (by decide) ?_
    refine j_iast C sh_3 rfl dX11_hold_68 (fun j4 => ?_)
    refine j_iconst C (v := 1) (by decide) dX11_hold_69 ?_
    exact j_iret C rfl dX11_hold_70
def mX11_hold_26 (S : St) (x1 : Int32) (x2 : Int32) (x3 : Int32) (x4 : Int32) : Option (Int32 × St) := if x1 = 1 then (if x4 = 0 then (some ((-3), S))
  else (mX11_hold_39 S x1 x2 x3 x4))
  else (mX11_hold_39 S x1 x2 x3 x4)
theorem wX11_hold_26 {κ : KT} {g : GT} (C : CX κ g RX11 cX11_hold 5 (some .int) 2 46) (S : St) (x1 : Int32) (x2 : Int32) (x3 : Int32) (x4 : Int32) : J κ g 5 (fun a : Int32 × St => (some (Value.int a.1), a.2)) S 26 [(0, .ref (gad g 0)), (1, .int x1), (2, .int x2), (3, .int x3), (4, .int x4)] [] (mX11_hold_26 S x1 x2 x3 x4) := by
  unfold mX11_hold_26
  refine j_iload_n C 1 rfl dX11_hold_26 rfl ?_
  refine j_iconst C (v := 1) (by decide) dX11_hold_27 ?_
  refine j_icmp_ne C 39 dX11_hold_28 (by decide) ?_ ?_
  · exact wX11_hold_39 C S x1 x2 x3 x4
  · refine j_iload C 4 rfl dX11_hold_31 ?_
    refine j_if_ne C 39 dX11_hold_33 (by decide) ?_ ?_
    · exact wX11_hold_39 C S x1 x2 x3 x4
    · refine j_bipush C (v := (-3)) (by decide) dX11_hold_36 ?_
      exact j_iret C rfl dX11_hold_38
def mX11_hold (S : St) (a0 : Int32) (a1 : Int32) (a2 : Int32) (a3 : Int32) : Option (Int32 × St) := (mX11_isPlace a0 a1).bind fun r1 => if r1 = 0 then (some ((-1), S))
  else ((mX11_isIdeal a2).bind fun r2 => if r2 = 0 then (some ((-1), S))
  else (if a0 = 0 then (if a3 = 0 then (mX11_hold_26 S a0 a1 a2 a3)
  else (some ((-3), S)))
  else (mX11_hold_26 S a0 a1 a2 a3)))
theorem wX11_hold {κ : KT} {g : GT} (C : CX κ g RX11 cX11_hold 5 (some .int) 2 46) (S : St) (a0 : Int32) (a1 : Int32) (a2 : Int32) (a3 : Int32) : J κ g 5 (fun a : Int32 × St => (some (Value.int a.1), a.2)) S 0 [(0, .ref (gad g 0)), (1, .int a0), (2, .int a1), (3, .int a2), (4, .int a3)] [] (mX11_hold S a0 a1 a2 a3) := by
  unfold mX11_hold
  refine j_iload_n C 1 rfl dX11_hold_0 rfl ?_
  refine j_iload_n C 2 rfl dX11_hold_1 rfl ?_
  refine j_callSi C [.int a0, .int a1] [] ms_X11_345 (fun _ h => ctX11_isPlace h) ⟨(Nat.le_of_ble_eq_true rfl), (Nat.le_of_ble_eq_true rfl)⟩ (Nat.le_of_ble_eq_true rfl) dX11_hold_2 rfl (fun r1 => ?_)
  refine j_if_eq C 15 dX11_hold_5 (by decide) ?_ ?_
  · refine j_iconst C (v := (-1)) (by decide) dX11_hold_15 ?_
    exact j_iret C rfl dX11_hold_16
  · refine j_iload_n C 3 rfl dX11_hold_8 rfl ?_
    refine j_callSi C [.int a2] [] ms_X11_128 (fun _ h => ctX11_isIdeal h) ⟨(Nat.le_of_ble_eq_true rfl), (Nat.le_of_ble_eq_true rfl)⟩ (Nat.le_of_ble_eq_true rfl) dX11_hold_9 rfl (fun r2 => ?_)
    refine j_if_ne C 17 dX11_hold_12 (by decide) ?_ ?_
    · refine j_iload_n C 1 rfl dX11_hold_17 rfl ?_
      refine j_if_ne C 26 dX11_hold_18 (by decide) ?_ ?_
      · exact wX11_hold_26 C S a0 a1 a2 a3
      · refine j_iload C 4 rfl dX11_hold_21 ?_
        refine j_if_ne C 36 dX11_hold_23 (by decide) ?_ ?_
        · refine j_bipush C (v := (-3)) (by decide) dX11_hold_36 ?_
          exact j_iret C rfl dX11_hold_38
        · exact wX11_hold_26 C S a0 a1 a2 a3
    · refine j_iconst C (v := (-1)) (by decide) dX11_hold_15 ?_
      exact j_iret C rfl dX11_hold_16
theorem ctX11_hold {l : Launch} {g : GT} {S : St} {a0 : Int32} {a1 : Int32} {a2 : Int32} {a3 : Int32} {out : Int32 × St} (ho : mX11_hold S a0 a1 a2 a3 = some out) : CT l yX11_hold cX11_hold 5 (some .int) 2 46 [.ref (gad g 0), .int a0, .int a1, .int a2, .int a3] g S ((fun a : Int32 × St => (some (Value.int a.1), a.2)) out) := CT_of (φ := (fun a : Int32 × St => (some (Value.int a.1), a.2))) [.ref (gad g 0), .int a0, .int a1, .int a2, .int a3] ho (by decide) (Nat.le_of_ble_eq_true rfl) (xs := [(0, .ref (gad g 0)), (1, .int a0), (2, .int a1), (3, .int a2), (4, .int a3)]) rfl (fun κ C => wX11_hold C S a0 a1 a2 a3)
/-! StairIdealsModel.take(III)I -/
def mX11_take (S : St) (a0 : Int32) (a1 : Int32) (a2 : Int32) : Option (Int32 × St) := (mX11_isPlace a0 a1).bind fun r1 => if r1 = 0 then (some ((-1), S))
  else ((mX11_isIdeal a2).bind fun r2 => if r2 = 0 then (some ((-1), S))
  else (inb 12 ((4 * a0) + a1) fun j3 => bnd (gA S 3 j3) fun v4 => if v4 = 1 then ((mX11_holderOf a0 a1).bind fun r5 => (mX11_copy S r5 a2).bind fun r6 => inb 16 a2 fun j7 => some (gA r6 2 j7, r6))
  else (if v4 = 0 then (some ((-5), S))
  else (some ((-3), S)))))
theorem wX11_take {κ : KT} {g : GT} (C : CX κ g RX11 cX11_take 5 (some .int) 2 46) (S : St) (a0 : Int32) (a1 : Int32) (a2 : Int32) : J κ g 5 (fun a : Int32 × St => (some (Value.int a.1), a.2)) S 0 [(0, .ref (gad g 0)), (1, .int a0), (2, .int a1), (3, .int a2)] [] (mX11_take S a0 a1 a2) := by
  unfold mX11_take
  refine j_iload_n C 1 rfl dX11_take_0 rfl ?_
  refine j_iload_n C 2 rfl dX11_take_1 rfl ?_
  refine j_callSi C [.int a0, .int a1] [] ms_X11_345 (fun _ h => ctX11_isPlace h) ⟨(Nat.le_of_ble_eq_true rfl), (Nat.le_of_ble_eq_true rfl)⟩ (Nat.le_of_ble_eq_true rfl) dX11_take_2 rfl (fun r1 => ?_)
  refine j_if_eq C 15 dX11_take_5 (by decide) ?_ ?_
  · refine j_iconst C (v := (-1)) (by decide) dX11_take_15 ?_
    exact j_iret C rfl dX11_take_16
  · refine j_iload_n C 3 rfl dX11_take_8 rfl ?_
    refine j_callSi C [.int a2] [] ms_X11_128 (fun _ h => ctX11_isIdeal h) ⟨(Nat.le_of_ble_eq_true rfl), (Nat.le_of_ble_eq_true rfl)⟩ (Nat.le_of_ble_eq_true rfl) dX11_take_9 rfl (fun r2 => ?_)
    refine j_if_ne C 17 dX11_take_12 (by decide) ?_ ?_
    · refine j_aload_n C 0 rfl dX11_take_17 rfl ?_
      refine j_getR C (x := 3) fl_X11_16 sh_0 rfl rfl dX11_take_18 ?_
      refine j_iconst C (v := 4) (by decide) dX11_take_21 ?_
      refine j_iload_n C 1 rfl dX11_take_22 rfl ?_
      refine j_imul C dX11_take_23 ?_
      refine j_iload_n C 2 rfl dX11_take_24 rfl ?_
      refine j_iadd C dX11_take_25 ?_
      refine j_iald C sh_3 rfl dX11_take_26 (fun j3 => ?_)
      refine j_topi (fun v4 => ?_)
      refine j_istore C (xs1 := [(0, .ref (gad g 0)), (1, .int a0), (2, .int a1), (3, .int a2), (4, .int v4)]) dX11_take_27 (by decide) rfl ?_
      refine j_iload C 4 rfl dX11_take_29 ?_
      refine j_iconst C (v := 1) (by decide) dX11_take_31 ?_
      refine j_icmp_eq C 48 dX11_take_32 (by decide) ?_ ?_
      · refine j_aload_n C 0 rfl dX11_take_48 rfl ?_
        refine j_iload_n C 1 rfl dX11_take_49 rfl ?_
        refine j_iload_n C 2 rfl dX11_take_50 rfl ?_
        refine j_callSi C [.int a0, .int a1] [.ref (gad g 0)] ms_X11_348 (fun _ h => ctX11_holderOf h) ⟨(Nat.le_of_ble_eq_true rfl), (Nat.le_of_ble_eq_true rfl)⟩ (Nat.le_of_ble_eq_true rfl) dX11_take_51 rfl (fun r5 => ?_)
        refine j_iload_n C 3 rfl dX11_take_54 rfl ?_
        refine j_callVvS C [.int r5, .int a2] [] mv_X11_351 sh_0 rfl rfl (fun _ h => ctX11_copy h) ⟨(Nat.le_of_ble_eq_true rfl), (Nat.le_of_ble_eq_true rfl)⟩ (Nat.le_of_ble_eq_true rfl) dX11_take_55 rfl (fun r6 => ?_)
        refine j_aload_n C 0 rfl dX11_take_58 rfl ?_
        refine j_getR C (x := 2) fl_X11_13 sh_0 rfl rfl dX11_take_59 ?_
        refine j_iload_n C 3 rfl dX11_take_62 rfl ?_
        refine j_iald C sh_2 rfl dX11_take_63 (fun j7 => ?_)
        exact j_iret C rfl dX11_take_64
      · refine j_iload C 4 rfl dX11_take_35 ?_
        refine j_if_ne C 45 dX11_take_37 (by decide) ?_ ?_
        · refine j_bipush C (v := (-3)) (by decide) dX11_take_45 ?_
          exact j_iret C rfl dX11_take_47
        · refine j_bipush C (v := (-5)) (by decide) dX11_take_40 ?_
          refine j_goto C 47 dX11_take_42 (by decide) ?_
          exact j_iret C rfl dX11_take_47
    · refine j_iconst C (v := (-1)) (by decide) dX11_take_15 ?_
      exact j_iret C rfl dX11_take_16
theorem ctX11_take {l : Launch} {g : GT} {S : St} {a0 : Int32} {a1 : Int32} {a2 : Int32} {out : Int32 × St} (ho : mX11_take S a0 a1 a2 = some out) : CT l yX11_take cX11_take 5 (some .int) 2 46 [.ref (gad g 0), .int a0, .int a1, .int a2] g S ((fun a : Int32 × St => (some (Value.int a.1), a.2)) out) := CT_of (φ := (fun a : Int32 × St => (some (Value.int a.1), a.2))) [.ref (gad g 0), .int a0, .int a1, .int a2] ho (by decide) (Nat.le_of_ble_eq_true rfl) (xs := [(0, .ref (gad g 0)), (1, .int a0), (2, .int a1), (3, .int a2)]) rfl (fun κ C => wX11_take C S a0 a1 a2)
/-! StairIdealsModel.measure(II)I -/
def mX11_measure (S : St) (a0 : Int32) (a1 : Int32) : Option (Int32 × St) := (mX11_isPlace a0 a1).bind fun r1 => if r1 = 0 then (some ((-1), S))
  else (inb 12 ((4 * a0) + a1) fun j2 => bnd (gA S 3 j2) fun v3 => if v3 = 0 then (some ((-5), S))
  else (if v3 = 1 then ((mX11_holderOf a0 a1).bind fun r6 => inb 16 r6 fun j7 => some (gA S 2 j7, S))
  else ((mX11_holderOf a0 a1).bind fun r4 => (mX11_sizeTold S r4).bind fun r5 => some (r5.1, r5.2))))
theorem wX11_measure {κ : KT} {g : GT} (C : CX κ g RX11 cX11_measure 4 (some .int) 8 176) (S : St) (a0 : Int32) (a1 : Int32) : J κ g 4 (fun a : Int32 × St => (some (Value.int a.1), a.2)) S 0 [(0, .ref (gad g 0)), (1, .int a0), (2, .int a1)] [] (mX11_measure S a0 a1) := by
  unfold mX11_measure
  refine j_iload_n C 1 rfl dX11_measure_0 rfl ?_
  refine j_iload_n C 2 rfl dX11_measure_1 rfl ?_
  refine j_callSi C [.int a0, .int a1] [] ms_X11_345 (fun _ h => ctX11_isPlace h) ⟨(Nat.le_of_ble_eq_true rfl), (Nat.le_of_ble_eq_true rfl)⟩ (Nat.le_of_ble_eq_true rfl) dX11_measure_2 rfl (fun r1 => ?_)
  refine j_if_ne C 10 dX11_measure_5 (by decide) ?_ ?_
  · refine j_aload_n C 0 rfl dX11_measure_10 rfl ?_
    refine j_getR C (x := 3) fl_X11_16 sh_0 rfl rfl dX11_measure_11 ?_
    refine j_iconst C (v := 4) (by decide) dX11_measure_14 ?_
    refine j_iload_n C 1 rfl dX11_measure_15 rfl ?_
    refine j_imul C dX11_measure_16 ?_
    refine j_iload_n C 2 rfl dX11_measure_17 rfl ?_
    refine j_iadd C dX11_measure_18 ?_
    refine j_iald C sh_3 rfl dX11_measure_19 (fun j2 => ?_)
    refine j_topi (fun v3 => ?_)
    refine j_istore_n C (xs1 := [(0, .ref (gad g 0)), (1, .int a0), (2, .int a1), (3, .int v3)]) dX11_measure_20 rfl (by decide) rfl ?_
    refine j_iload_n C 3 rfl dX11_measure_21 rfl ?_
    refine j_if_ne C 28 dX11_measure_22 (by decide) ?_ ?_
    · refine j_iload_n C 3 rfl dX11_measure_28 rfl ?_
      refine j_iconst C (v := 1) (by decide) dX11_measure_29 ?_
      refine j_icmp_ne C 46 dX11_measure_30 (by decide) ?_ ?_
      · refine j_aload_n C 0 rfl dX11_measure_46 rfl ?_
        refine j_iload_n C 1 rfl dX11_measure_47 rfl ?_
        refine j_iload_n C 2 rfl dX11_measure_48 rfl ?_
        refine j_callSi C [.int a0, .int a1] [.ref (gad g 0)] ms_X11_348 (fun _ h => ctX11_holderOf h) ⟨(Nat.le_of_ble_eq_true rfl), (Nat.le_of_ble_eq_true rfl)⟩ (Nat.le_of_ble_eq_true rfl) dX11_measure_49 rfl (fun r4 => ?_)
        refine j_callViS C [.int r4] [] mv_X11_290 sh_0 rfl rfl (fun _ h => ctX11_sizeTold h) ⟨(Nat.le_of_ble_eq_true rfl), (Nat.le_of_ble_eq_true rfl)⟩ (Nat.le_of_ble_eq_true rfl) dX11_measure_52 rfl (fun r5 => ?_)
        exact j_iret C rfl dX11_measure_55
      · refine j_aload_n C 0 rfl dX11_measure_33 rfl ?_
        refine j_getR C (x := 2) fl_X11_13 sh_0 rfl rfl dX11_measure_34 ?_
        refine j_iload_n C 1 rfl dX11_measure_37 rfl ?_
        refine j_iload_n C 2 rfl dX11_measure_38 rfl ?_
        refine j_callSi C [.int a0, .int a1] [.ref (gad g 2)] ms_X11_348 (fun _ h => ctX11_holderOf h) ⟨(Nat.le_of_ble_eq_true rfl), (Nat.le_of_ble_eq_true rfl)⟩ (Nat.le_of_ble_eq_true rfl) dX11_measure_39 rfl (fun r6 => ?_)
        refine j_iald C sh_2 rfl dX11_measure_42 (fun j7 => ?_)
        refine j_goto C 55 dX11_measure_43 (by decide) ?_
        exact j_iret C rfl dX11_measure_55
    · refine j_bipush C (v := (-5)) (by decide) dX11_measure_25 ?_
      exact j_iret C rfl dX11_measure_27
  · refine j_iconst C (v := (-1)) (by decide) dX11_measure_8 ?_
    exact j_iret C rfl dX11_measure_9
theorem ctX11_measure {l : Launch} {g : GT} {S : St} {a0 : Int32} {a1 : Int32} {out : Int32 × St} (ho : mX11_measure S a0 a1 = some out) : CT l yX11_measure cX11_measure 4 (some .int) 8 176 [.ref (gad g 0), .int a0, .int a1] g S ((fun a : Int32 × St => (some (Value.int a.1), a.2)) out) := CT_of (φ := (fun a : Int32 × St => (some (Value.int a.1), a.2))) [.ref (gad g 0), .int a0, .int a1] ho (by decide) (Nat.le_of_ble_eq_true rfl) (xs := [(0, .ref (gad g 0)), (1, .int a0), (2, .int a1)]) rfl (fun κ C => wX11_measure C S a0 a1)
/-! StairIdealsModel.passRow([II)V -/
def mX11_passRow_31 (n0 : Nat) (k2 : St → Int32 → Int32 → Option (St)) (S : St) (x2 : Int32) (x3 : Int32) (s0 : Int32) (s1 : Int32) : Option (St) := inb (alen n0) s1 fun j1 => inb (alen n0) x3 fun j2 => inb 1360 (gI (sA S n0 j1 s0) 0 29) fun j3 => bnd (x3 + 1) fun v4 => k2 (sI (sA (sA S n0 j1 s0) 16 j3 (gA (sA S n0 j1 s0) n0 j2)) 0 29 ((gI (sA (sA S n0 j1 s0) 16 j3 (gA (sA S n0 j1 s0) n0 j2)) 0 29) + 1)) x2 v4
theorem wX11_passRow_31 {κ : KT} {g : GT} (C : CX κ g RX11 cX11_passRow 4 none 0 0) (n0 : Nat) (hn0 : okA g n0) (k2 : St → Int32 → Int32 → Option (St)) (hk2 : ∀ (S : St) (x2 : Int32) (x3 : Int32), J κ g 4 (fun a : St => (none, a)) S 2 [(0, .ref (gad g 0)), (1, .ref (gad g n0)), (2, .int x2), (3, .int x3)] [] (k2 S x2 x3)) (S : St) (x2 : Int32) (x3 : Int32) (s0 : Int32) (s1 : Int32) : J κ g 4 (fun a : St => (none, a)) S 31 [(0, .ref (gad g 0)), (1, .ref (gad g n0)), (2, .int x2), (3, .int x3)] [.int s0, .int s1, .ref (gad g n0)] (mX11_passRow_31 n0 k2 S x2 x3 s0 s1) := by
  unfold mX11_passRow_31
  refine j_iast C hn0.1 hn0.2 dX11_passRow_31 (fun j1 => ?_)
  refine j_aload_n C 0 rfl dX11_passRow_32 rfl ?_
  refine j_getR C (x := 16) fl_X11_56 sh_0 rfl rfl dX11_passRow_33 ?_
  refine j_aload_n C 0 rfl dX11_passRow_36 rfl ?_
  refine j_getI C fl_X11_358 sh_0 rfl rfl dX11_passRow_37 ?_
  refine j_aload_n C 1 rfl dX11_passRow_40 rfl ?_
  refine j_iload_n C 3 rfl dX11_passRow_41 rfl ?_
  refine j_iald C hn0.1 hn0.2 dX11_passRow_42 (fun j2 => ?_)
  refine j_iast C sh_16 rfl dX11_passRow_43 (fun j3 => ?_)
  refine j_aload_n C 0 rfl dX11_passRow_44 rfl ?_
  refine j_dup C rfl dX11_passRow_45 ?_
  refine j_getI C fl_X11_358 sh_0 rfl rfl dX11_passRow_46 ?_
  refine j_iconst C (v := 1) (by decide) dX11_passRow_49 ?_
  refine j_iadd C dX11_passRow_50 ?_
  refine j_putI C fp_X11_358 sh_0 rfl rfl rfl rfl dX11_passRow_51 ?_
  refine j_iinc C (xs2 := fun v4 => [(0, .ref (gad g 0)), (1, .ref (gad g n0)), (2, .int x2), (3, .int v4)]) 3 rfl dX11_passRow_54 (by decide) (by decide) (fun _ => rfl) (fun v4 => ?_)
  refine j_goto C 2 dX11_passRow_57 (by decide) ?_
  exact hk2 (sI (sA (sA S n0 j1 s0) 16 j3 (gA (sA S n0 j1 s0) n0 j2)) 0 29 ((gI (sA (sA S n0 j1 s0) 16 j3 (gA (sA S n0 j1 s0) n0 j2)) 0 29) + 1)) x2 v4
def mX11_passRow_2 (n0 : Nat) : Nat → St → Int32 → Int32 → Option (St)
  | 0, _, _, _ => none
  | n + 1, S, x2, x3 => if x2 ≤ x3 then (some S)
  else (if (gI S 0 30) = 0 then (inb 1360 (gI S 0 29) fun j1 => mX11_passRow_31 n0 (mX11_passRow_2 n0 n) S x2 x3 (gA S 16 j1) x3)
  else (inb (alen n0) x3 fun j2 => mX11_passRow_31 n0 (mX11_passRow_2 n0 n) S x2 x3 (gA S n0 j2) x3))
theorem wX11_passRow_2 {κ : KT} {g : GT} (C : CX κ g RX11 cX11_passRow 4 none 0 0) (n0 : Nat) (hn0 : okA g n0) : ∀ (n : Nat) (S : St) (x2 : Int32) (x3 : Int32), J κ g 4 (fun a : St => (none, a)) S 2 [(0, .ref (gad g 0)), (1, .ref (gad g n0)), (2, .int x2), (3, .int x3)] [] (mX11_passRow_2 n0 n S x2 x3) := by
  intro n
  induction n with
  | zero => intro S x2 x3; exact j_none
  | succ n ih =>
    intro S x2 x3
    rw [mX11_passRow_2]
    refine j_iload_n C 3 rfl dX11_passRow_2 rfl ?_
    refine j_iload_n C 2 rfl dX11_passRow_3 rfl ?_
    refine j_icmp_ge C 60 dX11_passRow_4 (by decide) ?_ ?_
    · exact j_vret C rfl dX11_passRow_60
    · refine j_aload_n C 1 rfl dX11_passRow_7 rfl ?_
      refine j_iload_n C 3 rfl dX11_passRow_8 rfl ?_
      refine j_aload_n C 0 rfl dX11_passRow_9 rfl ?_
      refine j_getI C fl_X11_354 sh_0 rfl rfl dX11_passRow_10 ?_
      refine j_if_eq C 22 dX11_passRow_13 (by decide) ?_ ?_
      · refine j_aload_n C 0 rfl dX11_passRow_22 rfl ?_
        refine j_getR C (x := 16) fl_X11_56 sh_0 rfl rfl dX11_passRow_23 ?_
        refine j_aload_n C 0 rfl dX11_passRow_26 rfl ?_
        refine j_getI C fl_X11_358 sh_0 rfl rfl dX11_passRow_27 ?_
        refine j_iald C sh_16 rfl dX11_passRow_30 (fun j1 => ?_)
        exact wX11_passRow_31 C n0 hn0 (mX11_passRow_2 n0 n) ih S x2 x3 (gA S 16 j1) x3
      · refine j_aload_n C 1 rfl dX11_passRow_16 rfl ?_
        refine j_iload_n C 3 rfl dX11_passRow_17 rfl ?_
        refine j_iald C hn0.1 hn0.2 dX11_passRow_18 (fun j2 => ?_)
        refine j_goto C 31 dX11_passRow_19 (by decide) ?_
        exact wX11_passRow_31 C n0 hn0 (mX11_passRow_2 n0 n) ih S x2 x3 (gA S n0 j2) x3
def mX11_passRow (S : St) (n0 : Nat) (a0 : Int32) : Option (St) := mX11_passRow_2 n0 FU S a0 0
theorem wX11_passRow {κ : KT} {g : GT} (C : CX κ g RX11 cX11_passRow 4 none 0 0) (S : St) (n0 : Nat) (hn0 : okA g n0) (a0 : Int32) : J κ g 4 (fun a : St => (none, a)) S 0 [(0, .ref (gad g 0)), (1, .ref (gad g n0)), (2, .int a0)] [] (mX11_passRow S n0 a0) := by
  unfold mX11_passRow
  refine j_iconst C (v := 0) (by decide) dX11_passRow_0 ?_
  refine j_istore_n C (xs1 := [(0, .ref (gad g 0)), (1, .ref (gad g n0)), (2, .int a0), (3, .int 0)]) dX11_passRow_1 rfl (by decide) rfl ?_
  exact wX11_passRow_2 C n0 hn0 FU S a0 0
theorem ctX11_passRow {l : Launch} {g : GT} {S : St} {n0 : Nat} (hn0 : okA g n0) {a0 : Int32} {out : St} (ho : mX11_passRow S n0 a0 = some out) : CT l yX11_passRow cX11_passRow 4 none 0 0 [.ref (gad g 0), .ref (gad g n0), .int a0] g S ((fun a : St => (none, a)) out) := CT_of (φ := (fun a : St => (none, a))) [.ref (gad g 0), .ref (gad g n0), .int a0] ho (by decide) (Nat.le_of_ble_eq_true rfl) (xs := [(0, .ref (gad g 0)), (1, .ref (gad g n0)), (2, .int a0)]) rfl (fun κ C => wX11_passRow C S n0 hn0 a0)
/-! StairIdealsModel.passAll()V -/
def mX11_passAll (S : St) : Option (St) := (mX11_passRow S 1 640).bind fun r1 => (mX11_passRow r1 2 16).bind fun r2 => (mX11_passRow r2 3 12).bind fun r3 => some r3
theorem wX11_passAll {κ : KT} {g : GT} (C : CX κ g RX11 cX11_passAll 1 none 1 23) (S : St) : J κ g 1 (fun a : St => (none, a)) S 0 [(0, .ref (gad g 0))] [] (mX11_passAll S) := by
  unfold mX11_passAll
  refine j_aload_n C 0 rfl dX11_passAll_0 rfl ?_
  refine j_aload_n C 0 rfl dX11_passAll_1 rfl ?_
  refine j_getR C (x := 1) fl_X11_7 sh_0 rfl rfl dX11_passAll_2 ?_
  refine j_sipush C (v := 640) (by decide) dX11_passAll_5 ?_
  refine j_callVvS C [.ref (gad g 1), .int 640] [] mv_X11_361 sh_0 rfl rfl (fun _ h => ctX11_passRow (okA_of (g := g) sh_1 rfl) h) ⟨(Nat.le_of_ble_eq_true rfl), (Nat.le_of_ble_eq_true rfl)⟩ (Nat.le_of_ble_eq_true rfl) dX11_passAll_8 rfl (fun r1 => ?_)
  refine j_aload_n C 0 rfl dX11_passAll_11 rfl ?_
  refine j_aload_n C 0 rfl dX11_passAll_12 rfl ?_
  refine j_getR C (x := 2) fl_X11_13 sh_0 rfl rfl dX11_passAll_13 ?_
  refine j_bipush C (v := 16) (by decide) dX11_passAll_16 ?_
  refine j_callVvS C [.ref (gad g 2), .int 16] [] mv_X11_361 sh_0 rfl rfl (fun _ h => ctX11_passRow (okA_of (g := g) sh_2 rfl) h) ⟨(Nat.le_of_ble_eq_true rfl), (Nat.le_of_ble_eq_true rfl)⟩ (Nat.le_of_ble_eq_true rfl) dX11_passAll_18 rfl (fun r2 => ?_)
  refine j_aload_n C 0 rfl dX11_passAll_21 rfl ?_
  refine j_aload_n C 0 rfl dX11_passAll_22 rfl ?_
  refine j_getR C (x := 3) fl_X11_16 sh_0 rfl rfl dX11_passAll_23 ?_
  refine j_bipush C (v := 12) (by decide) dX11_passAll_26 ?_
  refine j_callVvS C [.ref (gad g 3), .int 12] [] mv_X11_361 sh_0 rfl rfl (fun _ h => ctX11_passRow (okA_of (g := g) sh_3 rfl) h) ⟨(Nat.le_of_ble_eq_true rfl), (Nat.le_of_ble_eq_true rfl)⟩ (Nat.le_of_ble_eq_true rfl) dX11_passAll_28 rfl (fun r3 => ?_)
  exact j_vret C rfl dX11_passAll_31
theorem ctX11_passAll {l : Launch} {g : GT} {S : St} {out : St} (ho : mX11_passAll S = some out) : CT l yX11_passAll cX11_passAll 1 none 1 23 [.ref (gad g 0)] g S ((fun a : St => (none, a)) out) := CT_of (φ := (fun a : St => (none, a))) [.ref (gad g 0)] ho (by decide) (Nat.le_of_ble_eq_true rfl) (xs := [(0, .ref (gad g 0))]) rfl (fun κ C => wX11_passAll C S)
/-! StairIdealsModel.image(I)I -/
def mX11_image (S : St) (a0 : Int32) : Option (Int32 × St) := (mX11_in a0.toInt64 0 1).bind fun r1 => if r1 = 0 then (some ((-2), S))
  else ((mX11_passAll (sI (sI S 0 29 (680 * a0)) 0 30 1)).bind fun r2 => inb 2 a0 fun j3 => some (1, (sA r2 17 j3 1)))
theorem wX11_image {κ : KT} {g : GT} (C : CX κ g RX11 cX11_image 2 (some .int) 2 43) (S : St) (a0 : Int32) : J κ g 2 (fun a : Int32 × St => (some (Value.int a.1), a.2)) S 0 [(0, .ref (gad g 0)), (1, .int a0)] [] (mX11_image S a0) := by
  unfold mX11_image
  refine j_iload_n C 1 rfl dX11_image_0 rfl ?_
  refine j_i2l C dX11_image_1 ?_
  refine j_lconst C (v := 0) (by decide) dX11_image_2 ?_
  refine j_lconst C (v := 1) (by decide) dX11_image_3 ?_
  refine j_callSi C [.long a0.toInt64, .long 0, .long 1] [] ms_X11_64 (fun _ h => ctX11_in h) ⟨(Nat.le_of_ble_eq_true rfl), (Nat.le_of_ble_eq_true rfl)⟩ (Nat.le_of_ble_eq_true rfl) dX11_image_4 rfl (fun r1 => ?_)
  refine j_if_ne C 13 dX11_image_7 (by decide) ?_ ?_
  · refine j_aload_n C 0 rfl dX11_image_13 rfl ?_
    refine j_sipush C (v := 680) (by decide) dX11_image_14 ?_
    refine j_iload_n C 1 rfl dX11_image_17 rfl ?_
    refine j_imul C dX11_image_18 ?_
    refine j_putI C fp_X11_358 sh_0 rfl rfl rfl rfl dX11_image_19 ?_
    refine j_aload_n C 0 rfl dX11_image_22 rfl ?_
    refine j_iconst C (v := 1) (by decide) dX11_image_23 ?_
    refine j_putI C fp_X11_354 sh_0 rfl rfl rfl rfl dX11_image_24 ?_
    refine j_aload_n C 0 rfl dX11_image_27 rfl ?_
    refine j_callVvS C [] [] mv_X11_365 sh_0 rfl rfl (fun _ h => ctX11_passAll h) ⟨(Nat.le_of_ble_eq_true rfl), (Nat.le_of_ble_eq_true rfl)⟩ (Nat.le_of_ble_eq_true rfl) dX11_image_28 rfl (fun r2 => ?_)
    refine j_aload_n C 0 rfl dX11_image_31 rfl ?_
    refine j_getR C (x := 17) fl_X11_59 sh_0 rfl rfl dX11_image_32 ?_
    refine j_iload_n C 1 rfl dX11_image_35 rfl ?_
    refine j_iconst C (v := 1) (by decide) dX11_image_36 ?_
    refine j_zast C sh_17 rfl (by decide) dX11_image_37 (fun j3 => ?_)
    refine j_iconst C (v := 1) (by decide) dX11_image_38 ?_
    exact j_iret C rfl dX11_image_39
  · refine j_bipush C (v := (-2)) (by decide) dX11_image_10 ?_
    exact j_iret C rfl dX11_image_12
theorem ctX11_image {l : Launch} {g : GT} {S : St} {a0 : Int32} {out : Int32 × St} (ho : mX11_image S a0 = some out) : CT l yX11_image cX11_image 2 (some .int) 2 43 [.ref (gad g 0), .int a0] g S ((fun a : Int32 × St => (some (Value.int a.1), a.2)) out) := CT_of (φ := (fun a : Int32 × St => (some (Value.int a.1), a.2))) [.ref (gad g 0), .int a0] ho (by decide) (Nat.le_of_ble_eq_true rfl) (xs := [(0, .ref (gad g 0)), (1, .int a0)]) rfl (fun κ C => wX11_image C S a0)
/-! StairIdealsModel.restore(I)I -/
def mX11_restore (S : St) (a0 : Int32) : Option (Int32 × St) := (mX11_in a0.toInt64 0 1).bind fun r1 => if r1 = 0 then (some ((-2), S))
  else (inb 2 a0 fun j2 => if (gA S 17 j2) = 0 then (some ((-3), S))
  else ((mX11_passAll (sI (sI S 0 29 (680 * a0)) 0 30 0)).bind fun r3 => some (1, r3)))
theorem wX11_restore {κ : KT} {g : GT} (C : CX κ g RX11 cX11_restore 2 (some .int) 2 43) (S : St) (a0 : Int32) : J κ g 2 (fun a : Int32 × St => (some (Value.int a.1), a.2)) S 0 [(0, .ref (gad g 0)), (1, .int a0)] [] (mX11_restore S a0) := by
  unfold mX11_restore
  refine j_iload_n C 1 rfl dX11_restore_0 rfl ?_
  refine j_i2l C dX11_restore_1 ?_
  refine j_lconst C (v := 0) (by decide) dX11_restore_2 ?_
  refine j_lconst C (v := 1) (by decide) dX11_restore_3 ?_
  refine j_callSi C [.long a0.toInt64, .long 0, .long 1] [] ms_X11_64 (fun _ h => ctX11_in h) ⟨(Nat.le_of_ble_eq_true rfl), (Nat.le_of_ble_eq_true rfl)⟩ (Nat.le_of_ble_eq_true rfl) dX11_restore_4 rfl (fun r1 => ?_)
  refine j_if_ne C 13 dX11_restore_7 (by decide) ?_ ?_
  · refine j_aload_n C 0 rfl dX11_restore_13 rfl ?_
    refine j_getR C (x := 17) fl_X11_59 sh_0 rfl rfl dX11_restore_14 ?_
    refine j_iload_n C 1 rfl dX11_restore_17 rfl ?_
    refine j_zald C sh_17 rfl dX11_restore_18 (fun j2 => ?_)
    refine j_if_ne C 25 dX11_restore_19 (by decide) ?_ ?_
    · refine j_aload_n C 0 rfl dX11_restore_25 rfl ?_
      refine j_sipush C (v := 680) (by decide) dX11_restore_26 ?_
      refine j_iload_n C 1 rfl dX11_restore_29 rfl ?_
      refine j_imul C dX11_restore_30 ?_
      refine j_putI C fp_X11_358 sh_0 rfl rfl rfl rfl dX11_restore_31 ?_
      refine j_aload_n C 0 rfl dX11_restore_34 rfl ?_
      refine j_iconst C (v := 0) (by decide) dX11_restore_35 ?_
      refine j_putI C fp_X11_354 sh_0 rfl rfl rfl rfl dX11_restore_36 ?_
      refine j_aload_n C 0 rfl dX11_restore_39 rfl ?_
      refine j_callVvS C [] [] mv_X11_365 sh_0 rfl rfl (fun _ h => ctX11_passAll h) ⟨(Nat.le_of_ble_eq_true rfl), (Nat.le_of_ble_eq_true rfl)⟩ (Nat.le_of_ble_eq_true rfl) dX11_restore_40 rfl (fun r3 => ?_)
      refine j_iconst C (v := 1) (by decide) dX11_restore_43 ?_
      exact j_iret C rfl dX11_restore_44
    · refine j_bipush C (v := (-3)) (by decide) dX11_restore_22 ?_
      exact j_iret C rfl dX11_restore_24
  · refine j_bipush C (v := (-2)) (by decide) dX11_restore_10 ?_
    exact j_iret C rfl dX11_restore_12
theorem ctX11_restore {l : Launch} {g : GT} {S : St} {a0 : Int32} {out : Int32 × St} (ho : mX11_restore S a0 = some out) : CT l yX11_restore cX11_restore 2 (some .int) 2 43 [.ref (gad g 0), .int a0] g S ((fun a : Int32 × St => (some (Value.int a.1), a.2)) out) := CT_of (φ := (fun a : Int32 × St => (some (Value.int a.1), a.2))) [.ref (gad g 0), .int a0] ho (by decide) (Nat.le_of_ble_eq_true rfl) (xs := [(0, .ref (gad g 0)), (1, .int a0)]) rfl (fun κ C => wX11_restore C S a0)
/-! StairIdealsModel.told(I)I -/
def mX11_told_65 (S : St) (x1 : Int32) : Option (Int32) := if x1 = 0 then (some (gI S 0 5))
  else (some (-2))
theorem wX11_told_65 {κ : KT} {g : GT} (C : CX κ g RX11 cX11_told 2 (some .int) 1 25) (S : St) (x1 : Int32) : J κ g 2 (fun a : Int32 => (some (Value.int a), S)) S 65 [(0, .ref (gad g 0)), (1, .int x1)] [] (mX11_told_65 S x1) := by
  unfold mX11_told_65
  refine j_iload_n C 1 rfl dX11_told_65 rfl ?_
  refine j_if_ne C 76 dX11_told_66 (by decide) ?_ ?_
  · refine j_bipush C (v := (-2)) (by decide) dX11_told_76 ?_
    exact j_iret C rfl dX11_told_78
  · refine j_aload_n C 0 rfl dX11_told_69 rfl ?_
    refine j_getI C fl_X11_107 sh_0 rfl rfl dX11_told_70 ?_
    refine j_goto C 78 dX11_told_73 (by decide) ?_
    exact j_iret C rfl dX11_told_78
def mX11_told (S : St) (a0 : Int32) : Option (Int32) := (mX11_in a0.toInt64 10 13).bind fun r1 => if r1 = 0 then ((mX11_in a0.toInt64 20 49).bind fun r2 => if r2 = 0 then (mX11_told_65 S a0)
  else (if 4 ≤ (a0 - a0 / 10 * 10) then (mX11_told_65 S a0)
  else (inb 12 ((4 * ((a0 / 10) - 2)) + (a0 - a0 / 10 * 10)) fun j3 => some (gA S 3 j3))))
  else (inb 16 (a0 - 10) fun j4 => some (gA S 2 j4))
theorem wX11_told {κ : KT} {g : GT} (C : CX κ g RX11 cX11_told 2 (some .int) 1 25) (S : St) (a0 : Int32) : J κ g 2 (fun a : Int32 => (some (Value.int a), S)) S 0 [(0, .ref (gad g 0)), (1, .int a0)] [] (mX11_told S a0) := by
  unfold mX11_told
  refine j_iload_n C 1 rfl dX11_told_0 rfl ?_
  refine j_i2l C dX11_told_1 ?_
  refine j_ldc2 C (v := 10) wd_1193 dX11_told_2 ?_
  refine j_ldc2 C (v := 13) wd_1194 dX11_told_5 ?_
  refine j_callSi C [.long a0.toInt64, .long 10, .long 13] [] ms_X11_64 (fun _ h => ctX11_in h) ⟨(Nat.le_of_ble_eq_true rfl), (Nat.le_of_ble_eq_true rfl)⟩ (Nat.le_of_ble_eq_true rfl) dX11_told_8 rfl (fun r1 => ?_)
  refine j_if_eq C 24 dX11_told_11 (by decide) ?_ ?_
  · refine j_iload_n C 1 rfl dX11_told_24 rfl ?_
    refine j_i2l C dX11_told_25 ?_
    refine j_ldc2 C (v := 20) wd_1195 dX11_told_26 ?_
    refine j_ldc2 C (v := 49) wd_855 dX11_told_29 ?_
    refine j_callSi C [.long a0.toInt64, .long 20, .long 49] [] ms_X11_64 (fun _ h => ctX11_in h) ⟨(Nat.le_of_ble_eq_true rfl), (Nat.le_of_ble_eq_true rfl)⟩ (Nat.le_of_ble_eq_true rfl) dX11_told_32 rfl (fun r2 => ?_)
    refine j_if_eq C 65 dX11_told_35 (by decide) ?_ ?_
    · exact wX11_told_65 C S a0
    · refine j_iload_n C 1 rfl dX11_told_38 rfl ?_
      refine j_bipush C (v := 10) (by decide) dX11_told_39 ?_
      refine j_irem C (by decide) dX11_told_41 ?_
      refine j_iconst C (v := 4) (by decide) dX11_told_42 ?_
      refine j_icmp_ge C 65 dX11_told_43 (by decide) ?_ ?_
      · exact wX11_told_65 C S a0
      · refine j_aload_n C 0 rfl dX11_told_46 rfl ?_
        refine j_getR C (x := 3) fl_X11_16 sh_0 rfl rfl dX11_told_47 ?_
        refine j_iconst C (v := 4) (by decide) dX11_told_50 ?_
        refine j_iload_n C 1 rfl dX11_told_51 rfl ?_
        refine j_bipush C (v := 10) (by decide) dX11_told_52 ?_
        refine j_idiv C (by decide) dX11_told_54 ?_
        refine j_iconst C (v := 2) (by decide) dX11_told_55 ?_
        refine j_isub C dX11_told_56 ?_
        refine j_imul C dX11_told_57 ?_
        refine j_iload_n C 1 rfl dX11_told_58 rfl ?_
        refine j_bipush C (v := 10) (by decide) dX11_told_59 ?_
        refine j_irem C (by decide) dX11_told_61 ?_
        refine j_iadd C dX11_told_62 ?_
        refine j_iald C sh_3 rfl dX11_told_63 (fun j3 => ?_)
        exact j_iret C rfl dX11_told_64
  · refine j_aload_n C 0 rfl dX11_told_14 rfl ?_
    refine j_getR C (x := 2) fl_X11_13 sh_0 rfl rfl dX11_told_15 ?_
    refine j_iload_n C 1 rfl dX11_told_18 rfl ?_
    refine j_bipush C (v := 10) (by decide) dX11_told_19 ?_
    refine j_isub C dX11_told_21 ?_
    refine j_iald C sh_2 rfl dX11_told_22 (fun j4 => ?_)
    exact j_iret C rfl dX11_told_23
theorem ctX11_told {l : Launch} {g : GT} {S : St} {a0 : Int32} {out : Int32} (ho : mX11_told S a0 = some out) : CT l yX11_told cX11_told 2 (some .int) 1 25 [.ref (gad g 0), .int a0] g S ((fun a : Int32 => (some (Value.int a), S)) out) := CT_of (φ := (fun a : Int32 => (some (Value.int a), S))) [.ref (gad g 0), .int a0] ho (by decide) (Nat.le_of_ble_eq_true rfl) (xs := [(0, .ref (gad g 0)), (1, .int a0)]) rfl (fun κ C => wX11_told C S a0)
