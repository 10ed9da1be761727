theorem w_mmin : Cond.static Lib.Math.min.name ∈ LW ∧ Cond.initialized "java/lang/Math" ∈ LW ∧ Cond.code Lib.Math.min.name Lib.Math.min.code 2 (some .int) ∈ LW := ⟨LW_mem 323 (by decide +kernel) rfl, LW_mem 71 (by decide +kernel) rfl, LW_mem 324 (by decide +kernel) rfl⟩
theorem w_mmax : Cond.static Lib.Math.max.name ∈ LW ∧ Cond.initialized "java/lang/Math" ∈ LW ∧ Cond.code Lib.Math.max.name Lib.Math.max.code 2 (some .int) ∈ LW := ⟨LW_mem 399 (by decide +kernel) rfl, LW_mem 71 (by decide +kernel) rfl, LW_mem 400 (by decide +kernel) rfl⟩
theorem w_copy : Cond.native arraycopyName ∈ LW ∧ Cond.static arraycopyName ∈ LW ∧ Cond.initialized "java/lang/System" ∈ LW := ⟨LW_mem 585 (by decide +kernel) rfl, LW_mem 584 (by decide +kernel) rfl, LW_mem 73 (by decide +kernel) rfl⟩
/-! THE LAYER, heap rows, returns, calls -/
/-- a field as an instruction names it -/
def FL (own : String) (idx ci k : Nat) : Prop := ∃ (Cn : String) (T : u_T) (N : Nat), classes[ci]? = some (Cn, T, N) ∧ (∀ w ∈ u_ws Cn T N, w ∈ LW) ∧ k < N ∧ Cond.fieldLink own idx (T k).1 (T k).2.1 (T k).2.2.1 ∈ LW
def FPt (own : String) (idx ci k : Nat) (ty : FieldType) : Prop := ∃ (Cn : String) (T : u_T) (N : Nat) (tf : Nat → FieldType), classes[ci]? = some (Cn, T, N) ∧ (∀ w ∈ u_ws Cn T N, w ∈ LW) ∧ k < N ∧ Cond.fieldLink own idx (T k).1 (T k).2.1 (T k).2.2.1 ∈ LW ∧ (∀ k, k < N → parseFieldDescriptor (T k).2.2.1 = some (tf k)) ∧ (∀ a, a < N → ∀ b, b < N → a ≠ b → (T a).2.1 ≠ (T b).2.1) ∧ (T k).2.2.2 = false ∧ parseFieldDescriptor (T k).2.2.1 = some ty
def MSt (own : String) (idx : Nat) (y : MethodName) (cb : ByteArray) (nb : Nat) (rb : Option FieldType) (n : Nat) : Prop := Cond.methodLink own idx y ∈ LW ∧ Cond.static y ∈ LW ∧ Cond.initialized y.cls ∈ LW ∧ Cond.code y cb nb rb ∈ LW ∧ y.cls ≠ "java/lang/invoke/MethodHandle" ∧ y.cls ≠ "java/lang/invoke/VarHandle" ∧ (parseMethodDescriptor y.desc).map (fun d => d.parameters.length) = some n
def MVt (own : String) (idx : Nat) (y : MethodName) (cb : ByteArray) (nb : Nat) (rb : Option FieldType) (n : Nat) : Prop := Cond.methodLink own idx y ∈ LW ∧ Cond.instanceMethod y ∈ LW ∧ Cond.selects y.cls y y ∈ LW ∧ Cond.initialized y.cls ∈ LW ∧ Cond.code y cb nb rb ∈ LW ∧ y.cls ≠ "java/lang/invoke/MethodHandle" ∧ y.cls ≠ "java/lang/invoke/VarHandle" ∧ (parseMethodDescriptor y.desc).map (fun d => d.parameters.length) = some n
theorem fval_ref (g : GT) (S : St) (n k x : Nat) : fval g S n k (x + 10) = .ref (gad g x) := by
  unfold fval
  rw [if_neg (by omega), if_neg (by omega), Nat.add_sub_cancel]
theorem upd_at (f : Nat → Int32) (k : Nat) (v : Int32) : upd f k v k = v := if_pos rfl
theorem upd_ne {f : Nat → Int32} {k j : Nat} {v : Int32} (h : j ≠ k) : upd f k v j = f j := if_neg h
theorem set_int {g : GT} {S : St} {n k : Nat} {v : Int32} {fl : List Nat} (hf : fl[k]? = some 0) : (fl.mapIdx (fun k x => fval g S n k x)).set k (.int v) = fl.mapIdx (fun j x => fval g (sI S n k v) n j x) := by
  apply List.ext_getElem?
  intro j
  rw [List.getElem?_set, List.getElem?_mapIdx, List.getElem?_mapIdx]
  by_cases hj : k = j
  · subst hj
    have hlt : k < fl.length := (List.getElem?_eq_some_iff.mp hf).1
    rw [if_pos rfl, if_pos (by rw [List.length_mapIdx]; exact hlt), hf]
    show some (Value.int v) = some (Value.int ((if n = n then upd (S.1 n) k v else S.1 n) k))
    rw [if_pos rfl, upd_at]
  · rw [if_neg hj]
    cases fl[j]? with
    | none => rfl
    | some x =>
      show some (fval g S n j x) = some (fval g (sI S n k v) n j x)
      have h1 : gI (sI S n k v) n j = gI S n j := by
        show (if n = n then upd (S.1 n) k v else S.1 n) j = S.1 n j
        rw [if_pos rfl, upd_ne (fun z => hj z.symm)]
      unfold fval
      rw [h1]
      rfl
theorem cell_put {g : GT} {S : St} {n ci k : Nat} {v : Int32} {fl : List Nat} (hs : sh n = .inr (ci, fl)) (hf : fl[k]? = some 0) : (.inr (ci, (fl.mapIdx (fun k x => fval g S n k x)).set k (.int v)) : va_E) = cellS g (sI S n k v) n := by
  rw [cell_obj hs, set_int hf]
def fl0 : List Nat := [11, 12, 13, 14, 15, 0, 16, 0, 0, 17, 0, 18, 19, 0, 20, 21, 22, 0, 23, 0, 0, 0, 24, 0, 25, 1, 0, 26, 27, 0, 0]
theorem sh0 : sh 0 = .inr (9, fl0) := by decide +kernel
theorem fl0_no : ∀ j, j < 31 → j ≠ 25 → fl0[j]? ≠ some 1 := by decide +kernel
theorem cell_putL {g : GT} {S : St} {v : Int64} : (.inr (9, (fl0.mapIdx (fun k x => fval g S 0 k x)).set 25 (.long v)) : va_E) = cellS g (sF S v) 0 := by
  rw [cell_obj sh0]
  suffices hL : (fl0.mapIdx (fun k x => fval g S 0 k x)).set 25 (.long v) = fl0.mapIdx (fun k x => fval g (sF S v) 0 k x) by rw [hL]
  apply List.ext_getElem?
  intro j
  rw [List.getElem?_set, List.getElem?_mapIdx, List.getElem?_mapIdx]
  by_cases hj : 25 = j
  · subst hj
    rw [if_pos rfl, if_pos (by rw [List.length_mapIdx]; decide)]
    rfl
  · rw [if_neg hj]
    cases hx : fl0[j]? with
    | none => rfl
    | some x =>
      have hlt : j < fl0.length := (List.getElem?_eq_some_iff.mp hx).1
      have hx1 : x ≠ 1 := fun z => fl0_no j hlt (fun z => hj z.symm) (z ▸ hx)
      show some (fval g S 0 j x) = some (fval g (sF S v) 0 j x)
      unfold fval
      by_cases h0 : x = 0
      · rw [if_pos h0, if_pos h0]; rfl
      · rw [if_neg h0, if_neg h0, if_neg hx1, if_neg hx1]
theorem sh_long : ∀ m, m ≠ 0 → ∀ a, sh m = .inr a → 1 ∉ a.2 := by
  intro m hm a ha
  have h : (List.range 169).all (fun m => m == 0 || (match sh m with | .inl _ => true | .inr a => !(a.2.contains 1))) = true := by decide +kernel
  by_cases hlt : m < 169
  · have h1 := List.all_eq_true.mp h m (List.mem_range.mpr hlt)
    rw [ha] at h1
    simp only [Bool.or_eq_true, beq_iff_eq, Bool.not_eq_true'] at h1
    rcases h1 with h1 | h1
    · exact absurd h1 hm
    · intro hc
      rw [List.contains_iff_mem.mpr hc] at h1
      cases h1
  · have h2 : sh m = .inl (9, 0) := by
      unfold sh
      have hlen : shL.length = 169 := by decide +kernel
      have hn : shL[m]? = none := List.getElem?_eq_none (by omega)
      rw [List.getD_eq_getElem?_getD, hn]
      rfl
    rw [h2] at ha
    cases ha
theorem cellS_sF {g : GT} {S : St} {m : Nat} {v : Int64} (h : m ≠ 0) : cellS g (sF S v) m = cellS g S m := by
  cases hs : sh m with
  | inl a => rw [cell_arr (g := g) (S := sF S v) (kd := a.1) (len := a.2) hs, cell_arr (g := g) (S := S) (kd := a.1) (len := a.2) hs]; rfl
  | inr a =>
    rw [cell_obj (S := sF S v) (ci := a.1) (fl := a.2) hs, cell_obj (S := S) (ci := a.1) (fl := a.2) hs]
    have hn := sh_long m h a hs
    congr 2
    apply List.ext_getElem?
    intro j
    rw [List.getElem?_mapIdx, List.getElem?_mapIdx]
    cases hx : a.2[j]? with
    | none => rfl
    | some x =>
      have hx1 : x ≠ 1 := fun z => hn (z ▸ List.mem_of_getElem? hx)
      show some (fval g (sF S v) m j x) = some (fval g S m j x)
      unfold fval
      by_cases h0 : x = 0
      · rw [if_pos h0, if_pos h0]; rfl
      · rw [if_neg h0, if_neg h0, if_neg hx1, if_neg hx1]

section ROWS
variable {κ : KT} {g : GT} {own : String} {cc : ByteArray} {nL : Nat} {ret : Option FieldType} {fr lo : Nat} {α β : Type} {φ : α → Option Value × St} {S : St} {pc : Nat} {xs xs1 : List (Nat × Value)} {st : List Value} {o o1 o2 : Option α}
theorem j_getI (C : CX κ g own cc nL ret fr lo) {idx ci k n : Nat} {fl : List Nat} (F : FL own idx ci k) (hs : sh n = .inr (ci, fl)) (hlv : lvb g n = true) (hf : fl[k]? = some 0) (hd : decode cc pc = .ok (.getfield idx, 3)) (h : J κ g nL φ S (pc + 3) xs (.int (gI S n k) :: st) (o)) : J κ g nL φ S (pc) xs (.ref (gad g n) :: st) (o) := by
  obtain ⟨Cn, T, N, hc, hin, hk, hw⟩ := F
  intro out ho H locs ls hP hS hl
  obtain ⟨q, hq⟩ := live_place hlv
  exact va_get C.ex C.cd C.ts hin C.ow C.K hP q (by rw [ws_at hq, cell_obj hs]) hc k hk (C.ts _ hw) (fun _ z => z) (v := .int (gI S n k)) (fl_at hf) hd (h out ho H locs ls hP hS hl)
theorem j_getL (C : CX κ g own cc nL ret fr lo) {idx ci k n : Nat} {fl : List Nat} (F : FL own idx ci k) (hs : sh n = .inr (ci, fl)) (hlv : lvb g n = true) (hf : fl[k]? = some 1) (hd : decode cc pc = .ok (.getfield idx, 3)) (h : J κ g nL φ S (pc + 3) xs (.long (gF S) :: st) (o)) : J κ g nL φ S (pc) xs (.ref (gad g n) :: st) (o) := by
  obtain ⟨Cn, T, N, hc, hin, hk, hw⟩ := F
  intro out ho H locs ls hP hS hl
  obtain ⟨q, hq⟩ := live_place hlv
  exact va_get C.ex C.cd C.ts hin C.ow C.K hP q (by rw [ws_at hq, cell_obj hs]) hc k hk (C.ts _ hw) (fun _ z => z) (v := .long (gF S)) (fl_at hf) hd (h out ho H locs ls hP hS hl)
theorem j_getR (C : CX κ g own cc nL ret fr lo) {idx ci k n x : Nat} {fl : List Nat} (F : FL own idx ci k) (hs : sh n = .inr (ci, fl)) (hlv : lvb g n = true) (hf : fl[k]? = some (x + 10)) (hd : decode cc pc = .ok (.getfield idx, 3)) (h : J κ g nL φ S (pc + 3) xs (.ref (gad g x) :: st) (o)) : J κ g nL φ S (pc) xs (.ref (gad g n) :: st) (o) := by
  obtain ⟨Cn, T, N, hc, hin, hk, hw⟩ := F
  intro out ho H locs ls hP hS hl
  obtain ⟨q, hq⟩ := live_place hlv
  exact va_get C.ex C.cd C.ts hin C.ow C.K hP q (by rw [ws_at hq, cell_obj hs]) hc k hk (C.ts _ hw) (fun _ z => z) (v := .ref (gad g x)) ((fl_at hf).trans (congrArg some (fval_ref g S n k x))) hd (h out ho H locs ls hP hS hl)
theorem j_putI (C : CX κ g own cc nL ret fr lo) {idx ci k n : Nat} {fl : List Nat} {v : Int32} {ty : FieldType} (F : FPt own idx ci k ty) (hs : sh n = .inr (ci, fl)) (hlv : lvb g n = true) (hf : fl[k]? = some 0) (hnw : narrow ty (.int v) = .int v) (hfi : fits ty (.int v) = true) (hd : decode cc pc = .ok (.putfield idx, 3)) (h : J κ g nL φ (sI S n k v) (pc + 3) xs (st) (o)) : J κ g nL φ S (pc) xs (.int v :: .ref (gad g n) :: st) (o) := by
  obtain ⟨Cn, T, N, tf, hc, hin, hk, hw, hty, hnm, hfin, hd1⟩ := F
  intro out ho H locs ls hP hS hl
  obtain ⟨q, hq⟩ := live_place hlv
  have hlt : k < (fl.mapIdx (fun k x => fval g S n k x)).length := by rw [List.length_mapIdx]; exact (List.getElem?_eq_some_iff.mp hf).1
  refine va_put C.ex C.cd C.ts hin tf hty hnm C.ow C.K hP (C.D S) hS q (by rw [ws_at hq, cell_obj hs]) hc k hk (C.ts _ hw) (fun _ z => z) hfin hd1 hnw hfi hlt hd (fun H1 locs1 hP1 _ hS1 => h out ho H1 locs1 ls ?_ hS1 hl)
  rw [cell_put hs hf, ws_set (C.D S) hq (fun m hm => cellS_sI hm)] at hP1
  exact hP1
theorem j_putL (C : CX κ g own cc nL ret fr lo) {idx : Nat} {v : Int64} (F : FPt own idx 9 25 .long) (hd : decode cc pc = .ok (.putfield idx, 3)) (h : J κ g nL φ (sF S v) (pc + 3) xs (st) (o)) : J κ g nL φ S (pc) xs (.long v :: .ref (gad g 0) :: st) (o) := by
  obtain ⟨Cn, T, N, tf, hc, hin, hk, hw, hty, hnm, hfin, hd1⟩ := F
  intro out ho H locs ls hP hS hl
  obtain ⟨q, hq⟩ := live_place (g := g) (n := 0) rfl
  have hlt : 25 < (fl0.mapIdx (fun k x => fval g S 0 k x)).length := by rw [List.length_mapIdx]; decide
  refine va_put C.ex C.cd C.ts hin tf hty hnm C.ow C.K hP (C.D S) hS q (by rw [ws_at hq, cell_obj sh0]) hc 25 hk (C.ts _ hw) (fun _ z => z) hfin hd1 rfl rfl hlt hd (fun H1 locs1 hP1 _ hS1 => h out ho H1 locs1 ls ?_ hS1 hl)
  rw [cell_putL, ws_set (S' := sF S v) (C.D S) hq (fun m hm => cellS_sF hm)] at hP1
  exact hP1
theorem j_iald (C : CX κ g own cc nL ret fr lo) {n len : Nat} {i : Int32} {k : Nat → Option α} (hs : sh n = .inl (0, len)) (hlv : lvb g n = true) (hd : decode cc pc = .ok (.iaload, 1)) (h : ∀ j, J κ g nL φ S (pc + 1) xs (.int (gA S n j) :: st) (k j)) : J κ g nL φ S (pc) xs (.int i :: .ref (gad g n) :: st) (inb len i k) := by
  intro out ho H locs ls hP hS hl
  by_cases hi : i < 0 ∨ len ≤ i.toNatClampNeg
  · rw [show inb len i k = none from if_pos hi] at ho; cases ho
  rw [show inb len i k = k i.toNatClampNeg from if_neg hi] at ho
  obtain ⟨q, hq⟩ := live_place hlv
  exact va_iald C.ex C.cd C.K hP q 0 (by rw [ws_at hq, cell_arr hs]; rfl) rfl hi hd (h _ out ho H locs ls hP hS hl)
theorem j_zald (C : CX κ g own cc nL ret fr lo) {n len : Nat} {i : Int32} {k : Nat → Option α} (hs : sh n = .inl (1, len)) (hlv : lvb g n = true) (hd : decode cc pc = .ok (.baload, 1)) (h : ∀ j, J κ g nL φ S (pc + 1) xs (.int (gA S n j) :: st) (k j)) : J κ g nL φ S (pc) xs (.int i :: .ref (gad g n) :: st) (inb len i k) := by
  intro out ho H locs ls hP hS hl
  by_cases hi : i < 0 ∨ len ≤ i.toNatClampNeg
  · rw [show inb len i k = none from if_pos hi] at ho; cases ho
  rw [show inb len i k = k i.toNatClampNeg from if_neg hi] at ho
  obtain ⟨q, hq⟩ := live_place hlv
  exact va_zald C.ex C.cd C.K hP q 1 (by rw [ws_at hq, cell_arr hs]; rfl) rfl hi hd (h _ out ho H locs ls hP hS hl)
theorem j_iast (C : CX κ g own cc nL ret fr lo) {n len : Nat} {i v : Int32} {k : Nat → Option α} (hs : sh n = .inl (0, len)) (hlv : lvb g n = true) (hd : decode cc pc = .ok (.iastore, 1)) (h : ∀ j, J κ g nL φ (sA S n j v) (pc + 1) xs (st) (k j)) : J κ g nL φ S (pc) xs (.int v :: .int i :: .ref (gad g n) :: st) (inb len i k) := by
  intro out ho H locs ls hP hS hl
  by_cases hi : i < 0 ∨ len ≤ i.toNatClampNeg
  · rw [show inb len i k = none from if_pos hi] at ho; cases ho
  rw [show inb len i k = k i.toNatClampNeg from if_neg hi] at ho
  obtain ⟨q, hq⟩ := live_place hlv
  refine va_iast C.ex C.cd C.K hP (C.D S) hS q 0 (by rw [ws_at hq, cell_arr hs]; rfl) rfl hi hd (fun H1 locs1 hP1 _ hS1 => h _ out ho H1 locs1 ls ?_ hS1 hl)
  have e : (.inl (gT g 0, len, .inl (upd (gA S n) i.toNatClampNeg v)) : va_E) = cellS g (sA S n i.toNatClampNeg v) n := by
    rw [cell_arr hs]
    show _ = (.inl (gT g 0, len, .inl (if n = n then upd (gA S n) i.toNatClampNeg v else S.2.1 n)) : va_E)
    rw [if_pos rfl]
  rw [e, ws_set (S' := sA S n i.toNatClampNeg v) (C.D S) hq (fun m hm => cellS_sA hm)] at hP1
  exact hP1
theorem nar_b {v : Int32} (h : v = 0 ∨ v = 1) : vp_nar .boolean v = v := by rcases h with rfl | rfl <;> decide
theorem j_zast (C : CX κ g own cc nL ret fr lo) {n len : Nat} {i v : Int32} {k : Nat → Option α} (hs : sh n = .inl (1, len)) (hlv : lvb g n = true) (hv : v = 0 ∨ v = 1) (hd : decode cc pc = .ok (.bastore, 1)) (h : ∀ j, J κ g nL φ (sA S n j v) (pc + 1) xs (st) (k j)) : J κ g nL φ S (pc) xs (.int v :: .int i :: .ref (gad g n) :: st) (inb len i k) := by
  intro out ho H locs ls hP hS hl
  by_cases hi : i < 0 ∨ len ≤ i.toNatClampNeg
  · rw [show inb len i k = none from if_pos hi] at ho; cases ho
  rw [show inb len i k = k i.toNatClampNeg from if_neg hi] at ho
  obtain ⟨q, hq⟩ := live_place hlv
  refine va_zast C.ex C.cd C.K hP (C.D S) hS q 1 (by rw [ws_at hq, cell_arr hs]; rfl) rfl hi hd (fun H1 locs1 hP1 _ hS1 => h _ out ho H1 locs1 ls ?_ hS1 hl)
  have e : (.inl (gT g 1, len, .inl (upd (gA S n) i.toNatClampNeg (vp_nar .boolean v))) : va_E) = cellS g (sA S n i.toNatClampNeg v) n := by
    rw [cell_arr hs, nar_b hv]
    show _ = (.inl (gT g 1, len, .inl (if n = n then upd (gA S n) i.toNatClampNeg v else S.2.1 n)) : va_E)
    rw [if_pos rfl]
  rw [e, ws_set (S' := sA S n i.toNatClampNeg v) (C.D S) hq (fun m hm => cellS_sA hm)] at hP1
  exact hP1
theorem j_zbg {v : Int32} (h : v = 0 ∨ v = 1 → J κ g nL φ S (pc) xs (st) (o)) : J κ g nL φ S (pc) xs (st) (zbg v o) := fun out ho => by
  by_cases hv : v = 0 ∨ v = 1
  · exact h hv out (by rw [show zbg v o = o from if_pos hv] at ho; exact ho)
  · rw [show zbg v o = none from if_neg hv] at ho; cases ho
theorem j_nzg {v : Int32} (h : ¬ v = 0 → J κ g nL φ S (pc) xs (st) (o)) : J κ g nL φ S (pc) xs (st) (nzg v o) := fun out ho => by
  by_cases hv : v = 0
  · rw [show nzg v o = none from if_pos hv] at ho; cases ho
  · exact h hv out (by rw [show nzg v o = o from if_neg hv] at ho; exact ho)
theorem j_nzl {v : Int64} (h : ¬ v = 0 → J κ g nL φ S (pc) xs (st) (o)) : J κ g nL φ S (pc) xs (st) (nzl v o) := fun out ho => by
  by_cases hv : v = 0
  · rw [show nzl v o = none from if_pos hv] at ho; cases ho
  · exact h hv out (by rw [show nzl v o = o from if_neg hv] at ho; exact ho)
theorem j_aald2 (C : CX κ g own cc nL ret fr lo) {n len : Nat} {i : Int32} {k : Nat → Option α} (hs : sh n = .inl (2, len)) (hlv : lvb g n = true) (hd : decode cc pc = .ok (.aaload, 1)) (h : ∀ j, j < len → J κ g nL φ S (pc + 1) xs (.ref (gad g (el n j)) :: st) (k j)) : J κ g nL φ S (pc) xs (.int i :: .ref (gad g n) :: st) (inb len i k) := by
  intro out ho H locs ls hP hS hl
  by_cases hi : i < 0 ∨ len ≤ i.toNatClampNeg
  · rw [show inb len i k = none from if_pos hi] at ho; cases ho
  rw [show inb len i k = k i.toNatClampNeg from if_neg hi] at ho
  obtain ⟨q, hq⟩ := live_place hlv
  have hlt : i.toNatClampNeg < len := Nat.not_le.mp fun z => hi (Or.inr z)
  refine va_aldq (f := fun j => if j < len then some (gad g (el n j)) else none) C.ex C.cd C.K hP q 2 (by rw [ws_at hq, cell_arr hs]; rfl) rfl hi hd ?_
  show W _ _ _ _ _ _ _ _ _ _ _ _ _ _ _ (F0 _ _ _ (va_rf (if i.toNatClampNeg < len then some (gad g (el n i.toNatClampNeg)) else none) :: st))
  rw [if_pos hlt]
  exact h _ hlt out ho H locs ls hP hS hl
theorem j_aald3 (C : CX κ g own cc nL ret fr lo) {n len : Nat} {i : Int32} {k : Nat → Option α} (hs : sh n = .inl (3, len)) (hlv : lvb g n = true) (hd : decode cc pc = .ok (.aaload, 1)) (h : ∀ j, j < len → J κ g nL φ S (pc + 1) xs (va_rf (if gpr g j then some (gad g (el n j)) else none) :: st) (k j)) : J κ g nL φ S (pc) xs (.int i :: .ref (gad g n) :: st) (inb len i k) := by
  intro out ho H locs ls hP hS hl
  by_cases hi : i < 0 ∨ len ≤ i.toNatClampNeg
  · rw [show inb len i k = none from if_pos hi] at ho; cases ho
  rw [show inb len i k = k i.toNatClampNeg from if_neg hi] at ho
  obtain ⟨q, hq⟩ := live_place hlv
  exact va_aldq (f := fun j => if gpr g j then some (gad g (el n j)) else none) C.ex C.cd C.K hP q 3 (by rw [ws_at hq, cell_arr hs]; rfl) rfl hi hd (h _ (Nat.not_le.mp fun z => hi (Or.inr z)) out ho H locs ls hP hS hl)
theorem j_aald4 (C : CX κ g own cc nL ret fr lo) {n len : Nat} {i : Int32} {k : Nat → Option α} (hs : sh n = .inl (4, len)) (hlv : lvb g n = true) (hd : decode cc pc = .ok (.aaload, 1)) (h : ∀ j, j < len → J κ g nL φ S (pc + 1) xs (.ref (gad g (el n j)) :: st) (k j)) : J κ g nL φ S (pc) xs (.int i :: .ref (gad g n) :: st) (inb len i k) := by
  intro out ho H locs ls hP hS hl
  by_cases hi : i < 0 ∨ len ≤ i.toNatClampNeg
  · rw [show inb len i k = none from if_pos hi] at ho; cases ho
  rw [show inb len i k = k i.toNatClampNeg from if_neg hi] at ho
  obtain ⟨q, hq⟩ := live_place hlv
  have hlt : i.toNatClampNeg < len := Nat.not_le.mp fun z => hi (Or.inr z)
  have ha : (wN g S)[q]? = some (gad g n, .inl (gT g 4, len, .inr (.inr (.inr (.inr (fun j => if j < len then some (gad g (el n j)) else none)))))) := by rw [ws_at hq, cell_arr hs]; rfl
  exact W.aald (v := .ref (gad g (el n i.toNatClampNeg))) (ty := .array .int) C.ex C.cd (hP q _ ha) ((C.K.2 4 _ rfl).1 len (fun j => va_rf (if j < len then some (gad g (el n j)) else none))) rfl (fun z => by cases z) (by show ¬ (i < 0 ∨ (arrV _ _ _).slots.size ≤ _); rw [arrV_size]; exact hi) (by show (arrV _ _ _).slots[_]? = _; rw [arrV_read _ _ hlt]; exact congrArg (fun z => some (va_rf z)) (if_pos hlt)) rfl rfl hd (h _ hlt out ho H locs ls hP hS hl)
theorem j_alen0 (C : CX κ g own cc nL ret fr lo) {n len : Nat} {v : Int32} (hs : sh n = .inl (0, len)) (hlv : lvb g n = true) (hv : Int32.ofNat len = v) (hd : decode cc pc = .ok (.arraylength, 1)) (h : J κ g nL φ S (pc + 1) xs (.int v :: st) (o)) : J κ g nL φ S (pc) xs (.ref (gad g n) :: st) (o) := by
  intro out ho H locs ls hP hS hl
  obtain ⟨q, hq⟩ := live_place hlv
  exact va_alen C.ex C.cd C.K hP q 0 (by rw [ws_at hq, cell_arr hs]; rfl) rfl hv hd (h out ho H locs ls hP hS hl)
theorem j_alen2 (C : CX κ g own cc nL ret fr lo) {n len : Nat} {v : Int32} (hs : sh n = .inl (2, len)) (hlv : lvb g n = true) (hv : Int32.ofNat len = v) (hd : decode cc pc = .ok (.arraylength, 1)) (h : J κ g nL φ S (pc + 1) xs (.int v :: st) (o)) : J κ g nL φ S (pc) xs (.ref (gad g n) :: st) (o) := by
  intro out ho H locs ls hP hS hl
  obtain ⟨q, hq⟩ := live_place hlv
  exact va_alen C.ex C.cd C.K hP q 2 (by rw [ws_at hq, cell_arr hs]; rfl) rfl hv hd (h out ho H locs ls hP hS hl)
theorem j_gets1 (C : CX κ g own cc nL ret fr lo) {idx : Nat} (hw : Cond.fieldLink own idx RX3 "OF_SET" "[I" ∈ LW) (hd : decode cc pc = .ok (.getstatic idx, 3)) (h : J κ g nL φ S (pc + 3) xs (.ref (gs1 g) :: st) (o)) : J κ g nL φ S (pc) xs (st) (o) := by
  intro out ho H locs ls hP hS hl
  exact va_gets C.ex C.cd C.sta.1.1 hS C.ow (C.ts _ hw) (fun _ z => z) hd (h out ho H locs ls hP hS hl)
theorem j_tald1 (C : CX κ g own cc nL ret fr lo) {i : Int32} {k : Nat → Option α} (hd : decode cc pc = .ok (.iaload, 1)) (h : ∀ j, J κ g nL φ S (pc + 1) xs (.int (ofs j) :: st) (k j)) : J κ g nL φ S (pc) xs (.int i :: .ref (gs1 g) :: st) (inb 16 i k) := by
  intro out ho H locs ls hP hS hl
  by_cases hi : i < 0 ∨ 16 ≤ i.toNatClampNeg
  · rw [show inb 16 i k = none from if_pos hi] at ho; cases ho
  rw [show inb 16 i k = k i.toNatClampNeg from if_neg hi] at ho
  exact va_ti C.ex C.cd C.sta.1.2 hS hi rfl hd (h _ out ho H locs ls hP hS hl)
theorem j_gets2 (C : CX κ g own cc nL ret fr lo) {idx : Nat} (hw : Cond.fieldLink own idx RX7 "STEPS" "[I" ∈ LW) (hd : decode cc pc = .ok (.getstatic idx, 3)) (h : J κ g nL φ S (pc + 3) xs (.ref (gs2 g) :: st) (o)) : J κ g nL φ S (pc) xs (st) (o) := by
  intro out ho H locs ls hP hS hl
  exact va_gets C.ex C.cd C.sta.2.1 hS C.ow (C.ts _ hw) (fun _ z => z) hd (h out ho H locs ls hP hS hl)
theorem j_tald2 (C : CX κ g own cc nL ret fr lo) {i : Int32} {k : Nat → Option α} (hd : decode cc pc = .ok (.iaload, 1)) (h : ∀ j, J κ g nL φ S (pc + 1) xs (.int (stp j) :: st) (k j)) : J κ g nL φ S (pc) xs (.int i :: .ref (gs2 g) :: st) (inb 16 i k) := by
  intro out ho H locs ls hP hS hl
  by_cases hi : i < 0 ∨ 16 ≤ i.toNatClampNeg
  · rw [show inb 16 i k = none from if_pos hi] at ho; cases ho
  rw [show inb 16 i k = k i.toNatClampNeg from if_neg hi] at ho
  exact va_ti C.ex C.cd C.sta.2.2 hS hi rfl hd (h _ out ho H locs ls hP hS hl)
theorem j_tlen2 (C : CX κ g own cc nL ret fr lo) {v : Int32} (hv : Int32.ofNat 16 = v) (hd : decode cc pc = .ok (.arraylength, 1)) (h : J κ g nL φ S (pc + 1) xs (.int v :: st) (o)) : J κ g nL φ S (pc) xs (.ref (gs2 g) :: st) (o) := by
  intro out ho H locs ls hP hS hl
  exact va_tlen C.ex C.cd C.sta.2.2 hS hv hd (h out ho H locs ls hP hS hl)
theorem j_ldc (C : CX κ g own cc nL ret fr lo) {idx : Nat} {v : Int32} (hw : Cond.constant own idx v ∈ LW) (hd : decode cc pc = .ok (.ldc idx, 2)) (h : J κ g nL φ S (pc + 2) xs (.int v :: st) (o)) : J κ g nL φ S (pc) xs (st) (o) := fun out ho H locs ls hP hS hl => lv_ldc C.ex C.cd C.ow (C.ts _ hw) hd (h out ho H locs ls hP hS hl)
theorem j_ldcw (C : CX κ g own cc nL ret fr lo) {idx : Nat} {v : Int32} (hw : Cond.constant own idx v ∈ LW) (hd : decode cc pc = .ok (.ldc_w idx, 3)) (h : J κ g nL φ S (pc + 3) xs (.int v :: st) (o)) : J κ g nL φ S (pc) xs (st) (o) := fun out ho H locs ls hP hS hl => lv_ldcw C.ex C.cd C.ow (C.ts _ hw) hd (h out ho H locs ls hP hS hl)
theorem j_ldc2 (C : CX κ g own cc nL ret fr lo) {idx : Nat} {v : Int64} (hw : Cond.constantLong own idx v ∈ LW) (hd : decode cc pc = .ok (.ldc2_w idx, 3)) (h : J κ g nL φ S (pc + 3) xs (.long v :: st) (o)) : J κ g nL φ S (pc) xs (st) (o) := fun out ho H locs ls hP hS hl => lv_ldc2 C.ex C.cd C.ow (C.ts _ hw) hd (h out ho H locs ls hP hS hl)
theorem j_ldcf (C : CX κ g own cc nL ret fr lo) {idx : Nat} {v : UInt32} (hw : Cond.constantFloat own idx v ∈ LW) (hd : decode cc pc = .ok (.ldc idx, 2)) (h : J κ g nL φ S (pc + 2) xs (.float v :: st) (o)) : J κ g nL φ S (pc) xs (st) (o) := fun out ho H locs ls hP hS hl => lv_ldcf C.ex C.cd C.ow (C.ts _ hw) hd (h out ho H locs ls hP hS hl)
theorem j_ldc2d (C : CX κ g own cc nL ret fr lo) {idx : Nat} {v : UInt64} (hw : Cond.constantDouble own idx v ∈ LW) (hd : decode cc pc = .ok (.ldc2_w idx, 3)) (h : J κ g nL φ S (pc + 3) xs (.double v :: st) (o)) : J κ g nL φ S (pc) xs (st) (o) := fun out ho H locs ls hP hS hl => lv_ldc2d C.ex C.cd C.ow (C.ts _ hw) hd (h out ho H locs ls hP hS hl)
theorem j_mmin (C : CX κ g own cc nL ret fr lo) {idx : Nat} {x y : Int32} (hw : Cond.methodLink own idx Lib.Math.min.name ∈ LW) (hfr : 1 ≤ fr) (hlo : (st.map fun v => v.category).sum + 13 ≤ lo) (hd : decode cc pc = .ok (.invokestatic idx, 3)) (h : J κ g nL φ S (pc + 3) xs (.int (imin x y) :: st) (o)) : J κ g nL φ S (pc) xs (.int y :: .int x :: st) (o) := by
  intro out ho H locs ls hP hS hl
  exact va_mmin C.ex C.cd (C.ml.trans hl.1.symm) C.ow (C.ts _ hw) (C.ts _ w_mmin.1) (C.ts _ w_mmin.2.1) (C.ts _ w_mmin.2.2) (by rw [C.R]; exact hfr) (by rw [C.R]; exact hlo) (Nat.zero_le _) (Nat.zero_le _) hd (h out ho H locs ls hP hS hl)
theorem j_mmax (C : CX κ g own cc nL ret fr lo) {idx : Nat} {x y : Int32} (hw : Cond.methodLink own idx Lib.Math.max.name ∈ LW) (hfr : 1 ≤ fr) (hlo : (st.map fun v => v.category).sum + 13 ≤ lo) (hd : decode cc pc = .ok (.invokestatic idx, 3)) (h : J κ g nL φ S (pc + 3) xs (.int (imax x y) :: st) (o)) : J κ g nL φ S (pc) xs (.int y :: .int x :: st) (o) := by
  intro out ho H locs ls hP hS hl
  exact va_mmax C.ex C.cd (C.ml.trans hl.1.symm) C.ow (C.ts _ hw) (C.ts _ w_mmax.1) (C.ts _ w_mmax.2.1) (C.ts _ w_mmax.2.2) (by rw [C.R]; exact hfr) (by rw [C.R]; exact hlo) (Nat.zero_le _) (Nat.zero_le _) hd (h out ho H locs ls hP hS hl)
theorem j_copy40 (C : CX κ g own cc nL ret fr lo) {idx n0 n1 : Nat} (hs0 : sh n0 = .inl (0, 40)) (hs1 : sh n1 = .inl (0, 40)) (hv0 : lvb g n0 = true) (hv1 : lvb g n1 = true) (hw : Cond.methodLink own idx arraycopyName ∈ LW) (hfr : 1 ≤ fr) (hlo : (st.map fun v => v.category).sum + (nativeFrameWords "java/lang/System" "arraycopy" 5 + 11) ≤ lo) (hd : decode cc pc = .ok (.invokestatic idx, 3)) (h : J κ g nL φ (sAf S n1 (va_cpy (gA S n0) (gA S n1) 0 0 40)) (pc + 3) xs (st) (o)) : J κ g nL φ S (pc) xs (.int 40 :: .int 0 :: .ref (gad g n1) :: .int 0 :: .ref (gad g n0) :: st) (o) := by
  intro out ho H locs ls hP hS hl
  obtain ⟨q0, hq0⟩ := live_place hv0
  obtain ⟨q1, hq1⟩ := live_place hv1
  refine va_copyi C.ex C.cd (C.ml.trans hl.1.symm) C.ow (C.ts _ hw) (C.ts _ w_copy.1) (C.ts _ w_copy.2.1) (C.ts _ w_copy.2.2) C.K hP (C.D S) hS q0 q1 0 0 (ty := .int) (n0 := 40) (n1 := 40) (by rw [ws_at hq0, cell_arr hs0]; rfl) (by rw [ws_at hq1, cell_arr hs1]; rfl) rfl rfl rfl (by decide) (by decide) (by decide) (by decide) (by decide) (fun _ _ => rfl) (by rw [C.R]; exact hfr) (by rw [C.R]; exact hlo) hd (fun H1 locs1 hP1 _ hS1 => h out ho H1 locs1 ls ?_ hS1 hl)
  have e : (.inl (gT g 0, 40, .inl (va_cpy (gA S n0) (gA S n1) (0 : Int32).toNatClampNeg (0 : Int32).toNatClampNeg (40 : Int32).toNatClampNeg)) : va_E) = cellS g (sAf S n1 (va_cpy (gA S n0) (gA S n1) 0 0 40)) n1 := by
    rw [cell_arr hs1]
    show _ = (.inl (gT g 0, 40, .inl (if n1 = n1 then va_cpy (gA S n0) (gA S n1) 0 0 40 else S.2.1 n1)) : va_E)
    rw [if_pos rfl]
    rfl
  rw [e, ws_set (C.D S) hq1 (fun m hm => cellS_sA hm)] at hP1
  exact hP1
theorem j_iret (C : CX κ g own cc nL (some .int) fr lo) {v : Int32} {a : α} (hφ : φ a = (some (.int v), S)) (hd : decode cc pc = .ok (.ireturn, 1)) : J κ g nL φ S (pc) xs ([.int v]) (some a) := by
  intro out ho H locs ls hP hS hl
  cases ho
  exact W.iret C.ex C.cd C.rt (fun t ht _ => by rw [hφ]; exact ⟨rfl, ht ▸ hP, hS.F ht⟩) hS.2.2 hd C.lk
theorem j_zret (C : CX κ g own cc nL (some .boolean) fr lo) {v : Int32} {a : α} (hv : narrow .boolean (.int v) = .int v) (hφ : φ a = (some (.int v), S)) (hd : decode cc pc = .ok (.ireturn, 1)) : J κ g nL φ S (pc) xs ([.int v]) (some a) := by
  intro out ho H locs ls hP hS hl
  cases ho
  exact W.zret C.ex C.cd C.rt hv (fun t ht _ => by rw [hφ]; exact ⟨rfl, ht ▸ hP, hS.F ht⟩) hS.2.2 hd C.lk
theorem j_lret (C : CX κ g own cc nL (some .long) fr lo) {v : Int64} {a : α} (hφ : φ a = (some (.long v), S)) (hd : decode cc pc = .ok (.lreturn, 1)) : J κ g nL φ S (pc) xs ([.long v]) (some a) := by
  intro out ho H locs ls hP hS hl
  cases ho
  exact W.lret C.ex C.cd C.rt (fun t ht _ => by rw [hφ]; exact ⟨rfl, ht ▸ hP, hS.F ht⟩) hS.2.2 hd C.lk
theorem j_fret (C : CX κ g own cc nL (some .float) fr lo) {v : UInt32} {a : α} (hφ : φ a = (some (.float v), S)) (hd : decode cc pc = .ok (.freturn, 1)) : J κ g nL φ S (pc) xs ([.float v]) (some a) := by
  intro out ho H locs ls hP hS hl
  cases ho
  exact W.fret C.ex C.cd C.rt (fun t ht _ => by rw [hφ]; exact ⟨rfl, ht ▸ hP, hS.F ht⟩) hS.2.2 hd C.lk
theorem nar_z {v : Int32} (h : v = 0 ∨ v = 1) : narrow .boolean (.int v) = .int v := by rcases h with rfl | rfl <;> rfl
theorem j_vret (C : CX κ g own cc nL none fr lo) {a : α} (hφ : φ a = (none, S)) (hd : decode cc pc = .ok (.return_, 1)) : J κ g nL φ S (pc) xs ([]) (some a) := by
  intro out ho H locs ls hP hS hl
  cases ho
  exact W.vret C.ex C.cd C.rt (fun t ht _ => by rw [hφ]; exact ⟨rfl, ht ▸ hP, hS.F ht⟩) hS.2.2 hd C.lk
theorem pre_blind (av : List Value) (S : St) : FrameBlind (va_Pc av (PreG g S)) := fun a U f mk q => by
  obtain ⟨q1, q2, q3, q4, q5⟩ := q
  exact ⟨q1, q2, va_K.moved (u := U) (U := U.calling f mk a) (Vm.Alike.refl U.vm) q3, q4, stat.moved (u := U) (U := U.calling f mk a) (Vm.Alike.refl U.vm) q5⟩
theorem pre_at (C : CX κ g own cc nL ret fr lo) {H : Heap} {locs : List Loc} {U : State} (hP : va_P (gD g) classes (wN g S) H) (hS : va_S (gAd g) (ks κ).heap H locs) (hU : U.heap = H) (hW : (ks κ).WarmedH U.vm) : PreG g S U :=
  ⟨by rw [hU]; exact hP, va_K.moved hW.alike C.K, C.D, stat.moved hW.alike (by rw [hU]; exact C.sta.kept (fun a ha hn => hS.2.1 a ha hn))⟩
theorem j_run {rS : Option Value × St} {a : Array Value} {st0 rest : List Value} {H : Heap} {locs : List Loc} {ls : Array Slot} {Q : State → Prop} (hS : va_S (gAd g) (ks κ).heap H locs)
    (hr : va_Run (kp κ) (kl κ) (ke κ) (kR κ) (ks κ) (km κ) (ka κ) (kb κ) (kt κ) (kc κ) H locs 0 0 0 0 (F0 (km κ) pc ls st0) rest (QS g rS a) (gAd g))
    (kk : ∀ (H1 : Heap) (locs1 : List Loc), va_P (gD g) classes (wN g rS.2) H1 → va_S (gAd g) (ks κ).heap H1 locs1 → W (kp κ) (kl κ) (ke κ) (kR κ) (ks κ) (km κ) (ka κ) (kb κ) (kt κ) (kc κ) H1 locs1 0 0 Q (F0 (km κ) (pc + 3) ls (rS.1.toList ++ rest))) : W (kp κ) (kl κ) (ke κ) (kR κ) (ks κ) (km κ) (ka κ) (kb κ) (kt κ) (kc κ) H locs 0 0 Q (F0 (km κ) pc ls st0) := by
  intro T hT X
  obtain ⟨v, st₀, t, T', L, h0, X', hL, e1, e2, ⟨hv, hp, hz, hk⟩, sx⟩ := hr T hT X
  have hv' : v = rS.1 := by cases hv; rfl
  subst hv'
  rw [h0] at hz hk
  obtain ⟨t2, a1, b1⟩ := kk T'.heap (locs ++ L) (by rw [e1]; exact hp)
    ⟨Nat.le_trans hS.1 (by rw [e1]; exact hz), fun q h1 h2 => by rw [e1, hk q (Nat.lt_of_lt_of_le h1 hS.1) h2]; exact hS.2.1 q h1 h2, fun q hq => by
      rcases List.mem_append.mp hq with h | h
      · exact hS.2.2 q h
      · exact hL q h⟩ T' rfl X'
  exact ⟨t2, sx t2 a1, b1⟩
theorem j_callS (C : CX κ g own cc nL ret fr lo) {idx nb fb lb : Nat} {y : MethodName} {cb : ByteArray} {rb : Option FieldType} {As st0 rest : List Value} {ob : Option β} {ψ : β → Option Value × St} {k : β → Option α} (M : MSt own idx y cb nb rb As.length) (hR : fb + 1 ≤ fr ∧ 8 + (nb + 11) + lb ≤ lo) (hw : (rest.map fun v => v.category).sum ≤ 8) (hd : decode cc pc = .ok (.invokestatic idx, 3)) (hst : st0 = As.reverse ++ rest)
    (hM : ∀ a, ob = some a → CT (kl κ) y cb nb rb fb lb As g S (ψ a)) (h : ∀ a, J κ g nL φ (ψ a).2 (pc + 3) xs ((ψ a).1.toList ++ rest) (k a)) : J κ g nL φ S pc xs st0 (ob.bind k) := by
  intro out ho H locs ls hP hS hl
  obtain ⟨a, ha, hk⟩ := Option.bind_eq_some_iff.mp ho
  obtain ⟨m1, m2, m3, m4, m5, m6, m7⟩ := M
  refine j_run (rS := ψ a) (a := As.toArray) (rest := rest) hS (va_runS (Ts := LW) (own := own) (nL := nL) (cc := cc) (As := As) (n := As.length) ⟨C.ex, C.cd, C.ml, C.ow, C.ts⟩ (hM a ha) ⟨callB_of As.length C.ts (goodIn_wsOf m4) rfl rfl rfl (C.ts _ m3) (C.ts _ m1) ⟨m5, m6, m7⟩ (by rw [C.R]; exact hR), C.ts _ m2⟩ ⟨pre_blind As S, fun U hU hW => ⟨rfl, pre_at C hP hS hU hW⟩⟩ rfl rfl hl.1 hst (lv_room hw) hd ⟨Nat.zero_le _, Nat.zero_le _⟩) (fun H1 locs1 hP1 hS1 => h a out hk H1 locs1 ls hP1 hS1 hl)
theorem j_callV (C : CX κ g own cc nL ret fr lo) {idx nb fb lb n ci N : Nat} {fl : List Nat} {T : u_T} {y : MethodName} {cb : ByteArray} {rb : Option FieldType} {As st0 rest : List Value} {ob : Option β} {ψ : β → Option Value × St} {k : β → Option α} (M : MVt own idx y cb nb rb As.length) (hs : sh n = .inr (ci, fl)) (hlv : lvb g n = true) (hc : classes[ci]? = some (y.cls, T, N)) (hR : fb + 1 ≤ fr ∧ 8 + (nb + 11) + lb ≤ lo) (hw : (rest.map fun v => v.category).sum ≤ 8) (hd : decode cc pc = .ok (.invokevirtual idx, 3)) (hst : st0 = As.reverse ++ .ref (gad g n) :: rest)
    (hM : ∀ a, ob = some a → CT (kl κ) y cb nb rb fb lb (.ref (gad g n) :: As) g S (ψ a)) (h : ∀ a, J κ g nL φ (ψ a).2 (pc + 3) xs ((ψ a).1.toList ++ rest) (k a)) : J κ g nL φ S pc xs st0 (ob.bind k) := by
  intro out ho H locs ls hP hS hl
  obtain ⟨a, ha, hk⟩ := Option.bind_eq_some_iff.mp ho
  obtain ⟨m1, m2, m2b, m3, m4, m5, m6, m7⟩ := M
  obtain ⟨q, hq⟩ := live_place hlv
  have he : (wN g S)[q]? = some (gad g n, .inr (ci, fl.mapIdx (fun k x => fval g S n k x))) := by rw [ws_at hq, cell_obj hs]
  refine j_run (rS := ψ a) (a := (Value.ref (gad g n) :: As).toArray) (rest := rest) hS (va_runV (Ts := LW) (own := own) (C := y.cls) (nL := nL) (cc := cc) (As := As) (n := As.length) ⟨C.ex, C.cd, C.ml, C.ow, C.ts⟩ (hM a ha) ⟨callB_of As.length C.ts (goodIn_wsOf m4) rfl rfl rfl (C.ts _ m3) (C.ts _ m1) ⟨m5, m6, m7⟩ (by rw [C.R]; exact hR), C.ts _ m2, C.ts _ m2b⟩ ⟨pre_blind _ S, va_recv C.K hP hc he, fun U hU hW => ⟨rfl, pre_at C hP hS hU hW⟩⟩ rfl rfl hl.1 hst (lv_room hw) hd ⟨Nat.zero_le _, Nat.zero_le _⟩) (fun H1 locs1 hP1 hS1 => h a out hk H1 locs1 ls hP1 hS1 hl)
end ROWS
theorem CT_of {l : Launch} {y : MethodName} {cc : ByteArray} {nL : Nat} {ret : Option FieldType} {fr lo : Nat} {g : GT} {S : St} {β : Type} {φ : β → Option Value × St} {o : Option β} {out : β} (av : List Value) {xs : List (Nat × Value)} (ho : o = some out) (hy : plainName y.cls = true) (hlen : (lg_sl av).length ≤ nL) (hxs : lv_args 0 av = xs)
    (body : ∀ κ : KT, CX κ g y.cls cc nL ret fr lo → J κ g nL φ S 0 xs [] o) : CT l y cc nL ret fr lo av g S (φ out) := by
  refine Met.ofW (cc := cc) (maxL := nL) (ret := ret) hy rfl ?_
  intro p e s m args below meth c s₁ B hml hv
  obtain ⟨rfl, hP, hK, hD, hst⟩ := hv
  have hts := atoms_spec (ws := wsOf y cc nL ret) B.pre
  have C : CX (p, l, e, (headSpec (wsOf y cc nL ret) { frames := fr, cells := 0, slots := 0, locals := lo }).room, s, m, av.toArray, below, meth, c) g y.cls cc nL ret fr lo :=
    ⟨B.exec, B.bytes, hml, findClass_of_methodNamed B.named, fun w h => hts w (List.mem_cons_of_mem _ h), B.notSynchronized, B.returns, hK, hD, hst, rfl⟩
  have hl := lv_entry av (n := nL) hlen
  rw [lg_entry_eq]
  exact body _ C out ho s.heap [] _ hP va_S.rf (hxs ▸ hl)
