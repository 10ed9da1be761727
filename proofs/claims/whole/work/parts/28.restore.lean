theorem j_ifnn {κ : KT} {g : GT} {own : String} {cc : ByteArray} {nL : Nat} {ret : Option FieldType} {fr lo : Nat} {α : Type} {φ : α → Option Value × St} {S : St} {pc : Nat} {xs : List (Nat × Value)} {st : List Value} {o1 o2 : Option α} (C : CX κ g own cc nL ret fr lo) {j a : Nat} {off : Int} (tgt : Nat) (hd : decode cc pc = .ok (.ifnonnull off, 3)) (ht : (pc : Int) + off = (tgt : Int)) (h1 : J κ g nL φ S tgt xs st o1) (h2 : J κ g nL φ S (pc + 3) xs st o2) : J κ g nL φ S pc xs (va_rf (if gpr g j then some a else none) :: st) (if gpr g j = true then o1 else o2) := by
  intro out ho H locs ls hP hS hl
  cases hp : gpr g j with
  | true =>
    rw [hp, if_pos rfl] at ho
    rw [if_pos rfl]
    exact lv_ifnonnull C.ex C.cd hd ht (h1 out ho H locs ls hP hS hl)
  | false =>
    rw [hp, if_neg (by decide)] at ho
    rw [if_neg (by decide)]
    exact lv_ifnonnullN C.ex C.cd hd (h2 out ho H locs ls hP hS hl)
theorem j_prq {κ : KT} {g : GT} {nL : Nat} {α : Type} {φ : α → Option Value × St} {S : St} {pc : Nat} {xs : List (Nat × Value)} {st : List Value} {o : Option α} {j a : Nat} (h : gpr g j = true → J κ g nL φ S pc xs (.ref a :: st) o) : J κ g nL φ S pc xs (va_rf (if gpr g j then some a else none) :: st) (if gpr g j = true then o else none) := by
  intro out ho H locs ls hP hS hl
  cases hp : gpr g j with
  | true =>
    rw [hp, if_pos rfl] at ho
    rw [if_pos rfl]
    exact h hp out ho H locs ls hP hS hl
  | false =>
    rw [hp, if_neg (by decide)] at ho
    cases ho
def mX10_restore (pr : Nat → Bool) (S : St) (a0 : Int32) : Option (Int32 × St) := if a0 < 0 then (some (-2, S)) else (if a0 < 2 then (inb 2 a0 fun j1 => if pr j1 = true then (inb 2 a0 fun j2 => if pr j2 = true then ((mX1_copyFrom S 61 (97 + 36 * j2)).bind fun r => some (1, r)) else none) else (some (-3, S))) else (some (-2, S)))
theorem wX10_restore {κ : KT} {g : GT} (C : CX κ g RX10 cX10_restore 2 (some .int) 3 143) (S : St) (a0 : Int32) : J κ g 2 (fun a : Int32 × St => (some (Value.int a.1), a.2)) S 0 [(0, .ref (gad g 18)), (1, .int a0)] [] (mX10_restore (gpr g) S a0) := by
  unfold mX10_restore
  refine j_iload_n C 1 rfl dX10_restore_0 rfl ?_
  refine j_if_lt C 9 dX10_restore_1 (by decide) ?_ ?_
  · refine j_bipush C (v := -2) (by decide) dX10_restore_9 ?_
    exact j_iret C rfl dX10_restore_11
  · refine j_iload_n C 1 rfl dX10_restore_4 rfl ?_
    refine j_iconst C (v := 2) (by decide) dX10_restore_5 ?_
    refine j_icmp_lt C 12 dX10_restore_6 (by decide) ?_ ?_
    · refine j_aload_n C 0 rfl dX10_restore_12 rfl ?_
      refine j_getR C (x := 22) fl_X10_23 sh_18 rfl rfl dX10_restore_13 ?_
      refine j_iload_n C 1 rfl dX10_restore_16 rfl ?_
      refine j_aald3 C sh_22 rfl dX10_restore_17 (fun j1 hj1 => ?_)
      refine j_ifnn C 24 dX10_restore_18 (by decide) ?_ ?_
      · refine j_aload_n C 0 rfl dX10_restore_24 rfl ?_
        refine j_getR C (x := 61) fl_X10_19 sh_18 rfl rfl dX10_restore_25 ?_
        refine j_aload_n C 0 rfl dX10_restore_28 rfl ?_
        refine j_getR C (x := 22) fl_X10_23 sh_18 rfl rfl dX10_restore_29 ?_
        refine j_iload_n C 1 rfl dX10_restore_32 rfl ?_
        refine j_aald3 C sh_22 rfl dX10_restore_33 (fun j2 hj2 => ?_)
        refine j_prq (fun hpr => ?_)
        refine j_callVvS C [.ref (gad g (97 + 36 * j2))] [] mv_X10_204 (okH_61 (g := g)).1 (okH_61 (g := g)).2.2.2.2.1 rfl (fun _ h => ctX1_copyFrom (okH_61 (g := g)) (okH_img hj2 hpr) h) ⟨(Nat.le_of_ble_eq_true rfl), (Nat.le_of_ble_eq_true rfl)⟩ (Nat.le_of_ble_eq_true rfl) dX10_restore_34 rfl (fun r => ?_)
        refine j_iconst C (v := 1) (by decide) dX10_restore_37 ?_
        exact j_iret C rfl dX10_restore_38
      · refine j_bipush C (v := -3) (by decide) dX10_restore_21 ?_
        exact j_iret C rfl dX10_restore_23
    · refine j_bipush C (v := -2) (by decide) dX10_restore_9 ?_
      exact j_iret C rfl dX10_restore_11
theorem ctX10_restore {l : Launch} {g : GT} {S : St} {a0 : Int32} {out : Int32 × St} (ho : mX10_restore (gpr g) S a0 = some out) : CT l yX10_restore cX10_restore 2 (some .int) 3 143 [.ref (gad g 18), .int a0] g S ((fun a : Int32 × St => (some (Value.int a.1), a.2)) out) := CT_of (φ := (fun a : Int32 × St => (some (Value.int a.1), a.2))) [.ref (gad g 18), .int a0] ho (by decide) (Nat.le_of_ble_eq_true rfl) (xs := [(0, .ref (gad g 18)), (1, .int a0)]) rfl (fun κ C => wX10_restore C S a0)
