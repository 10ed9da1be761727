/-! THE LAYER: worlds by node numbers, the judgement J over a state, its rows -/
def LW : List Cond := lw_tbl.filter goodWord
theorem LW_mem {w : Cond} (i : Nat) (h : lw_tbl[i]? = some w) (hg : goodWord w = true) : w ∈ LW := List.mem_filter.mpr ⟨List.mem_of_getElem? h, hg⟩
def wsOf (y : MethodName) (cc : ByteArray) (nL : Nat) (ret : Option FieldType) : List Cond := .code y cc nL ret :: LW
theorem good_LW {w : Cond} (h : w ∈ LW) : (w.onTables && w.keeps) = true ∨ ∃ ty, w = .arrayClass ty := good_of_word (List.mem_filter.mp h).2
theorem goodIn_wsOf {y : MethodName} {cc : ByteArray} {nL : Nat} {ret : Option FieldType} (h : Cond.code y cc nL ret ∈ LW) : GoodIn LW (wsOf y cc nL ret) := fun w hw => by
  have h1 : w ∈ LW := (List.mem_cons.mp hw).elim (fun e => e ▸ h) id
  exact ⟨h1, good_LW h1⟩
theorem inLW {C : String} {T : u_T} {N : Nat} (h : ∀ w ∈ u_ws C T N, w ∈ lw_tbl) (hg : (u_ws C T N).all goodWord = true) : ∀ w ∈ u_ws C T N, w ∈ LW := fun w hw => List.mem_filter.mpr ⟨h w hw, List.all_eq_true.mp hg w hw⟩
abbrev classes : List vw_C := [(RX0, TX0, 1), (RX1, TX1, 3), (RX2, TX2, 2), (RX4, TX4, 7), (RX6, TX6, 1), (RX7, TX7, 4), (RX8, TX8, 3), (RX9, TX9, 2), (RX10, TX10, 5), (RX11, TX11, 31)]

theorem lwX0 : ∀ w ∈ u_ws RX0 TX0 1, w ∈ LW := inLW inX0 (by decide +kernel)
theorem lwX1 : ∀ w ∈ u_ws RX1 TX1 3, w ∈ LW := inLW inX1 (by decide +kernel)
theorem lwX2 : ∀ w ∈ u_ws RX2 TX2 2, w ∈ LW := inLW inX2 (by decide +kernel)
theorem lwX4 : ∀ w ∈ u_ws RX4 TX4 7, w ∈ LW := inLW inX4 (by decide +kernel)
theorem lwX6 : ∀ w ∈ u_ws RX6 TX6 1, w ∈ LW := inLW inX6 (by decide +kernel)
theorem lwX7 : ∀ w ∈ u_ws RX7 TX7 4, w ∈ LW := inLW inX7 (by decide +kernel)
theorem lwX8 : ∀ w ∈ u_ws RX8 TX8 3, w ∈ LW := inLW inX8 (by decide +kernel)
theorem lwX9 : ∀ w ∈ u_ws RX9 TX9 2, w ∈ LW := inLW inX9 (by decide +kernel)
theorem lwX10 : ∀ w ∈ u_ws RX10 TX10 5, w ∈ LW := inLW inX10 (by decide +kernel)
theorem lwX11 : ∀ w ∈ u_ws RX11 TX11 31, w ∈ LW := inLW inX11 (by decide +kernel)
/-- the state: int fields by node and field, arrays by node, the one long field -/
abbrev St : Type := (Nat → Nat → Int32) × (Nat → Nat → Int32) × Int64
def gI (S : St) (n k : Nat) : Int32 := S.1 n k
def gA (S : St) (n : Nat) : Nat → Int32 := S.2.1 n
def gF (S : St) : Int64 := S.2.2
def sI (S : St) (n k : Nat) (v : Int32) : St := (fun m => if m = n then upd (S.1 n) k v else S.1 m, S.2.1, S.2.2)
def sAf (S : St) (n : Nat) (f : Nat → Int32) : St := (S.1, fun m => if m = n then f else S.2.1 m, S.2.2)
def sA (S : St) (n k : Nat) (v : Int32) : St := sAf S n (upd (gA S n) k v)
def sF (S : St) (v : Int64) : St := (S.1, S.2.1, v)
abbrev Sh : Type := (Nat × Nat) ⊕ (Nat × List Nat)

def shL : List Sh := [.inr (9, [11, 12, 13, 14, 15, 0, 16, 0, 0, 17, 0, 18, 19, 0, 20, 21, 22, 0, 23, 0, 0, 0, 24, 0, 25, 1, 0, 26, 27, 0, 0]), .inl (0, 640), .inl (0, 16), .inl (0, 12), .inl (1, 2401), .inl (0, 60), .inl (0, 60), .inl (0, 1600), .inl (1, 2401), .inl (0, 2401), .inl (0, 2400), .inl (0, 60), .inl (0, 60), .inl (0, 40), .inl (1, 2401), .inl (0, 16), .inl (0, 1360), .inl (1, 2), .inr (8, [29, 71, 32, 33, 34]), .inr (3, [30, 0, 0, 31, 0, 0, 0]), .inl (0, 60), .inl (0, 60), .inl (3, 2), .inr (7, [65, 67]), .inr (5, [69, 35, 36, 38]), .inl (0, 25), .inr (0, [37]), .inl (0, 16), .inr (6, [0, 0, 39]), .inl (4, 25), .inl (0, 40), .inl (0, 40), .inl (0, 40), .inl (0, 40), .inl (0, 40), .inl (0, 40), .inl (0, 40), .inl (0, 40), .inl (0, 40), .inl (0, 40), .inl (0, 40), .inl (0, 40), .inl (0, 40), .inl (0, 40), .inl (0, 40), .inl (0, 40), .inl (0, 40), .inl (0, 40), .inl (0, 40), .inl (0, 40), .inl (0, 40), .inl (0, 40), .inl (0, 40), .inl (0, 40), .inl (0, 40), .inr (4, [66]), .inl (0, 343), .inr (4, [68]), .inl (0, 343), .inr (4, [70]), .inl (0, 343), .inr (1, [72, 73, 74]), .inl (2, 4), .inl (2, 12), .inl (0, 12), .inr (2, [76, 0]), .inl (0, 40), .inr (2, [78, 0]), .inl (0, 40), .inr (2, [80, 0]), .inl (0, 40), .inr (2, [82, 0]), .inl (0, 40), .inr (2, [84, 0]), .inl (0, 40), .inr (2, [86, 0]), .inl (0, 40), .inr (2, [88, 0]), .inl (0, 40), .inr (2, [90, 0]), .inl (0, 40), .inr (2, [92, 0]), .inl (0, 40), .inr (2, [94, 0]), .inl (0, 40), .inr (2, [96, 0]), .inl (0, 40), .inr (2, [98, 0]), .inl (0, 40), .inr (2, [100, 0]), .inl (0, 40), .inr (2, [102, 0]), .inl (0, 40), .inr (2, [104, 0]), .inl (0, 40), .inr (2, [106, 0]), .inl (0, 40), .inr (1, [108, 109, 110]), .inl (2, 4), .inl (2, 12), .inl (0, 12), .inr (2, [112, 0]), .inl (0, 40), .inr (2, [114, 0]), .inl (0, 40), .inr (2, [116, 0]), .inl (0, 40), .inr (2, [118, 0]), .inl (0, 40), .inr (2, [120, 0]), .inl (0, 40), .inr (2, [122, 0]), .inl (0, 40), .inr (2, [124, 0]), .inl (0, 40), .inr (2, [126, 0]), .inl (0, 40), .inr (2, [128, 0]), .inl (0, 40), .inr (2, [130, 0]), .inl (0, 40), .inr (2, [132, 0]), .inl (0, 40), .inr (2, [134, 0]), .inl (0, 40), .inr (2, [136, 0]), .inl (0, 40), .inr (2, [138, 0]), .inl (0, 40), .inr (2, [140, 0]), .inl (0, 40), .inr (2, [142, 0]), .inl (0, 40), .inr (1, [144, 145, 146]), .inl (2, 4), .inl (2, 12), .inl (0, 12), .inr (2, [148, 0]), .inl (0, 40), .inr (2, [150, 0]), .inl (0, 40), .inr (2, [152, 0]), .inl (0, 40), .inr (2, [154, 0]), .inl (0, 40), .inr (2, [156, 0]), .inl (0, 40), .inr (2, [158, 0]), .inl (0, 40), .inr (2, [160, 0]), .inl (0, 40), .inr (2, [162, 0]), .inl (0, 40), .inr (2, [164, 0]), .inl (0, 40), .inr (2, [166, 0]), .inl (0, 40), .inr (2, [168, 0]), .inl (0, 40), .inr (2, [170, 0]), .inl (0, 40), .inr (2, [172, 0]), .inl (0, 40), .inr (2, [174, 0]), .inl (0, 40), .inr (2, [176, 0]), .inl (0, 40), .inr (2, [178, 0]), .inl (0, 40)]
def sh (n : Nat) : Sh := shL.getD n (.inl (9, 0))
/-- the node that a place of an array of references holds -/
def el (n j : Nat) : Nat := if n = 22 then 97 + 36 * j else if n = 29 then 30 + j else if (n - 62) % 36 = 0 then n + 3 + 2 * j else n + 10 + 2 * j
/-- the addresses: layout, array classes, address of a node, which images are there, the two static rows -/
abbrev GT : Type := va_G × (Nat → ClassId) × (Nat → Nat) × (Nat → Bool) × Nat × Nat
abbrev gD (g : GT) : va_G := g.1
abbrev gT (g : GT) : Nat → ClassId := g.2.1
def gad (g : GT) : Nat → Nat := g.2.2.1
abbrev gpr (g : GT) : Nat → Bool := g.2.2.2.1
abbrev gs1 (g : GT) : Nat := g.2.2.2.2.1
abbrev gs2 (g : GT) : Nat := g.2.2.2.2.2
def tysOf (g : GT) : List (ClassId × FieldType) := [(gT g 0, .int), (gT g 1, .boolean), (gT g 2, .object RX2), (gT g 3, .object RX1), (gT g 4, .array .int)]
def fval (g : GT) (S : St) (n k x : Nat) : Value := if x = 0 then .int (gI S n k) else if x = 1 then .long (gF S) else .ref (gad g (x - 10))
def cellA (g : GT) (S : St) (n kd len : Nat) : va_E := match kd with
  | 0 => .inl (gT g 0, len, .inl (gA S n))
  | 1 => .inl (gT g 1, len, .inl (gA S n))
  | 2 => .inl (gT g 2, len, .inr (.inr (.inr (.inr (fun j => if j < len then some (gad g (el n j)) else none)))))
  | 3 => .inl (gT g 3, len, .inr (.inr (.inr (.inr (fun j => if gpr g j then some (gad g (el n j)) else none)))))
  | _ => .inl (gT g 4, len, .inr (.inr (.inr (.inr (fun j => if j < len then some (gad g (el n j)) else none)))))
def cellS (g : GT) (S : St) (n : Nat) : va_E := match sh n with
  | .inl a => cellA g S n a.1 a.2
  | .inr a => .inr (a.1, a.2.mapIdx (fun k x => fval g S n k x))
def lvb (g : GT) (n : Nat) : Bool := Nat.blt n 97 || ((gpr g 0 && (Nat.ble 97 n && Nat.blt n 133)) || (gpr g 1 && (Nat.ble 133 n && Nat.blt n 169)))
def liveL (g : GT) : List Nat := (List.range 169).filter (lvb g)
def wN (g : GT) (S : St) : va_W := (liveL g).map (fun n => (gad g n, cellS g S n))
def gAd (g : GT) : Nat → Prop := fun q => ∃ n, lvb g n = true ∧ q = gad g n
theorem lvb_lt {g : GT} {n : Nat} (h : lvb g n = true) : n < 169 := by
  unfold lvb at h
  simp only [Bool.or_eq_true, Bool.and_eq_true, Nat.blt_eq] at h
  omega
theorem live_mem {g : GT} {n : Nat} (h : lvb g n = true) : n ∈ liveL g := List.mem_filter.mpr ⟨List.mem_range.mpr (lvb_lt h), h⟩
theorem live_place {g : GT} {n : Nat} (h : lvb g n = true) : ∃ k : Nat, (liveL g)[k]? = some n := List.getElem?_of_mem (live_mem h)
theorem ws_at {g : GT} {S : St} {n k : Nat} (h : (liveL g)[k]? = some n) : (wN g S)[k]? = some (gad g n, cellS g S n) := by
  unfold wN
  rw [List.getElem?_map, h]
  rfl
theorem ws_set {g : GT} {S S' : St} {A : Nat → Prop} {n k : Nat} (hD : va_D A (wN g S)) (hk : (liveL g)[k]? = some n) (ho : ∀ m, m ≠ n → cellS g S' m = cellS g S m) : (wN g S).set k (gad g n, cellS g S' n) = wN g S' := by
  apply List.ext_getElem?
  intro j
  rw [List.getElem?_set]
  by_cases hj : k = j
  · subst hj
    rw [if_pos rfl]
    have h1 := ws_at (S := S) hk
    have hlt : k < (wN g S).length := (List.getElem?_eq_some_iff.mp h1).1
    rw [if_pos hlt, ws_at hk]
  · rw [if_neg hj]
    cases hm : (liveL g)[j]? with
    | none =>
      unfold wN
      rw [List.getElem?_map, List.getElem?_map, hm]
      rfl
    | some m =>
      rw [ws_at hm, ws_at hm]
      by_cases hmn : m = n
      · subst hmn
        exact absurd (hD.1 k j _ _ (ws_at (S := S) hk) (ws_at (S := S) hm) rfl) hj
      · rw [ho m hmn]
theorem cell_arr {g : GT} {S : St} {n kd len : Nat} (h : sh n = .inl (kd, len)) : cellS g S n = cellA g S n kd len := by
  unfold cellS
  rw [h]
theorem cell_obj {g : GT} {S : St} {n ci : Nat} {fl : List Nat} (h : sh n = .inr (ci, fl)) : cellS g S n = .inr (ci, fl.mapIdx (fun k x => fval g S n k x)) := by
  unfold cellS
  rw [h]
theorem fl_at {g : GT} {S : St} {n k x : Nat} {fl : List Nat} (h : fl[k]? = some x) : (fl.mapIdx (fun k x => fval g S n k x))[k]? = some (fval g S n k x) := by
  rw [List.getElem?_mapIdx, h]
  rfl
theorem cellS_sA {g : GT} {S : St} {n m : Nat} {f : Nat → Int32} (h : m ≠ n) : cellS g (sAf S n f) m = cellS g S m := by
  have h1 : gA (sAf S n f) m = gA S m := by
    show (if m = n then f else S.2.1 m) = S.2.1 m
    rw [if_neg h]
  unfold cellS
  cases sh m with
  | inl a =>
    show cellA g (sAf S n f) m a.1 a.2 = cellA g S m a.1 a.2
    unfold cellA
    rw [h1]
  | inr a => rfl
theorem cellS_sI {g : GT} {S : St} {n m k : Nat} {v : Int32} (h : m ≠ n) : cellS g (sI S n k v) m = cellS g S m := by
  have h1 : ∀ j, gI (sI S n k v) m j = gI S m j := by
    intro j
    show (if m = n then upd (S.1 n) k v else S.1 m) j = S.1 m j
    rw [if_neg h]
  unfold cellS
  cases sh m with
  | inl a => rfl
  | inr a =>
    show (Sum.inr (a.1, a.2.mapIdx (fun k' x => fval g (sI S n k v) m k' x)) : va_E) = Sum.inr (a.1, a.2.mapIdx (fun k' x => fval g S m k' x))
    have h2 : (fun k' x => fval g (sI S n k v) m k' x) = (fun k' x => fval g S m k' x) := by
      funext k' x
      unfold fval
      rw [h1]
      rfl
    rw [h2]

/-- the two static rows -/
def ofs : Nat → Int32 := fun j => ([0, 4096, 256, 4352, 16, 4112, 272, 4368, 1, 4097, 257, 4353, 17, 4113, 273, 4369] : List Int32).getD j 0
def stp : Nat → Int32 := fun j => ([1, 0, 0, 0, 1, -1, 0, 0, 1, -2, 1, 0, 1, -3, 3, -1] : List Int32).getD j 0
def stat (g : GT) (U : State) (H : Heap) : Prop := (va_Z RX3 "OF_SET" "[I" (.ref (gs1 g)) (gAd g) U H ∧ va_T .int (gs1 g) 16 (fun j => .int (ofs j)) (gAd g) U H) ∧ va_Z RX7 "STEPS" "[I" (.ref (gs2 g)) (gAd g) U H ∧ va_T .int (gs2 g) 16 (fun j => .int (stp j)) (gAd g) U H
theorem stat.moved {g : GT} {u U : State} {H : Heap} (hvm : u.vm.Alike U.vm) (h : stat g u H) : stat g U H := ⟨⟨h.1.1.moved hvm, h.1.2.moved hvm⟩, h.2.1.moved hvm, h.2.2.moved hvm⟩
theorem stat.kept {g : GT} {U : State} {H H1 : Heap} (h : stat g U H) (hq : ∀ a : Nat, a < H.size → ¬ gAd g a → H1[a]? = H[a]?) : stat g U H1 := ⟨⟨h.1.1.kept hq, h.1.2.kept hq⟩, h.2.1.kept hq, h.2.2.kept hq⟩
def PreG (g : GT) (S : St) (U : State) : Prop := va_P (gD g) classes (wN g S) U.heap ∧ va_K (gD g) classes (tysOf g) U ∧ (∀ S' : St, va_D (gAd g) (wN g S')) ∧ stat g U U.heap
def QS (g : GT) (rS : Option Value × St) : Array Value → State → Outcome → State → Prop := fun _ st oc t => oc = .returned rS.1 ∧ va_P (gD g) classes (wN g rS.2) t.heap ∧ va_F (gAd g) st t
/-- a contract of a method that makes nothing -/
def CT (l : Launch) (y : MethodName) (cc : ByteArray) (nL : Nat) (ret : Option FieldType) (fr lo : Nat) (av : List Value) (g : GT) (S : St) (rS : Option Value × St) : Prop :=
  Met l y (wsOf y cc nL ret) { frames := fr, cells := 0, slots := 0, locals := lo } (va_Pc av (PreG g S)) (QS g rS) 0 0 (gAd g)
abbrev KT : Type := Program × Launch × Env × Room × State × MethodId × Array Value × List Frame × Method × Code
abbrev kp (κ : KT) := κ.1
abbrev kl (κ : KT) := κ.2.1
abbrev ke (κ : KT) := κ.2.2.1
abbrev kR (κ : KT) := κ.2.2.2.1
abbrev ks (κ : KT) := κ.2.2.2.2.1
abbrev km (κ : KT) := κ.2.2.2.2.2.1
abbrev ka (κ : KT) := κ.2.2.2.2.2.2.1
abbrev kb (κ : KT) := κ.2.2.2.2.2.2.2.1
abbrev kt (κ : KT) := κ.2.2.2.2.2.2.2.2.1
abbrev kc (κ : KT) := κ.2.2.2.2.2.2.2.2.2
/-- what is fixed while a method runs -/
def CX (κ : KT) (g : GT) (own : String) (cc : ByteArray) (nL : Nat) (ret : Option FieldType) (fr lo : Nat) : Prop :=
  (kp κ).tables.exec = Jvm.exec ∧ (kc κ).code = cc ∧ (kc κ).maxLocals = nL ∧ (ks κ).vm.findClass own = some (km κ).cls ∧ (∀ w ∈ LW, w.before (ka κ) (ks κ) = true) ∧ (kt κ).locks = false ∧ (kt κ).sig.returnType = ret ∧
  va_K (gD g) classes (tysOf g) (ks κ) ∧ (∀ S' : St, va_D (gAd g) (wN g S')) ∧ stat g (ks κ) (ks κ).heap ∧ kR κ = { frames := fr, cells := 0, slots := 0, locals := lo }
section CXS
variable {κ : KT} {g : GT} {own : String} {cc : ByteArray} {nL : Nat} {ret : Option FieldType} {fr lo : Nat}
theorem CX.ex (C : CX κ g own cc nL ret fr lo) : (kp κ).tables.exec = Jvm.exec := C.1
theorem CX.cd (C : CX κ g own cc nL ret fr lo) : (kc κ).code = cc := C.2.1
theorem CX.ml (C : CX κ g own cc nL ret fr lo) : (kc κ).maxLocals = nL := C.2.2.1
theorem CX.ow (C : CX κ g own cc nL ret fr lo) : (ks κ).vm.findClass own = some (km κ).cls := C.2.2.2.1
theorem CX.ts (C : CX κ g own cc nL ret fr lo) : ∀ w ∈ LW, w.before (ka κ) (ks κ) = true := C.2.2.2.2.1
theorem CX.lk (C : CX κ g own cc nL ret fr lo) : (kt κ).locks = false := C.2.2.2.2.2.1
theorem CX.rt (C : CX κ g own cc nL ret fr lo) : (kt κ).sig.returnType = ret := C.2.2.2.2.2.2.1
theorem CX.K (C : CX κ g own cc nL ret fr lo) : va_K (gD g) classes (tysOf g) (ks κ) := C.2.2.2.2.2.2.2.1
theorem CX.D (C : CX κ g own cc nL ret fr lo) (S : St) : va_D (gAd g) (wN g S) := C.2.2.2.2.2.2.2.2.1 S
theorem CX.sta (C : CX κ g own cc nL ret fr lo) : stat g (ks κ) (ks κ).heap := C.2.2.2.2.2.2.2.2.2.1
theorem CX.R (C : CX κ g own cc nL ret fr lo) : kR κ = { frames := fr, cells := 0, slots := 0, locals := lo } := C.2.2.2.2.2.2.2.2.2.2
end CXS
/-- from this frame over this state, where the mirror's word is 'some out', the machine comes to the method's end with it -/
def J (κ : KT) (g : GT) (nL : Nat) {α : Type} (φ : α → Option Value × St) (S : St) (pc : Nat) (xs : List (Nat × Value)) (st : List Value) (o : Option α) : Prop :=
  ∀ out : α, o = some out → ∀ (H : Heap) (locs : List Loc) (ls : Array Slot), va_P (gD g) classes (wN g S) H → va_S (gAd g) (ks κ).heap H locs → lv_has ls nL xs →
    W (kp κ) (kl κ) (ke κ) (kR κ) (ks κ) (km κ) (ka κ) (kb κ) (kt κ) (kc κ) H locs 0 0 (MQ (kb κ) (QS g (φ out)) (ka κ) (ks κ) 0 0 (gAd g)) (F0 (km κ) pc ls st)
/-- mirror words -/
def bnd {β α : Type} (v : β) (k : β → Option α) : Option α := k v
def inb {α : Type} (n : Nat) (i : Int32) (k : Nat → Option α) : Option α := if i < 0 ∨ n ≤ i.toNatClampNeg then none else k i.toNatClampNeg
def nzg {α : Type} (y : Int32) (k : Option α) : Option α := if y = 0 then none else k
def nzl {α : Type} (y : Int64) (k : Option α) : Option α := if y = 0 then none else k
def zbg {α : Type} (x : Int32) (k : Option α) : Option α := if x = 0 ∨ x = 1 then k else none
def imin (x y : Int32) : Int32 := if y < x then y else x
def imax (x y : Int32) : Int32 := if x < y then y else x
def put (i : Nat) (v : Value) (xs : List (Nat × Value)) : List (Nat × Value) := xs.filter (fun q => Nat.blt q.1 i && !(Nat.beq (q.1 + 1) i && Nat.beq q.2.category 2)) ++ (i, v) :: xs.filter (fun q => Nat.blt i q.1)
def put2 (i : Nat) (v : Value) (xs : List (Nat × Value)) : List (Nat × Value) := xs.filter (fun q => Nat.blt q.1 i && !(Nat.beq (q.1 + 1) i && Nat.beq q.2.category 2)) ++ (i, v) :: xs.filter (fun q => Nat.blt (i + 1) q.1)
theorem put_has {ls : Array Slot} {nL i : Nat} {v : Value} {xs : List (Nat × Value)} (h : lv_has ls nL ((i, v) :: xs.filter (fun q => !(q.1 == i) && !(q.1 + 1 == i && q.2.category == 2)))) : lv_has ls nL (put i v xs) := by
  refine ⟨h.1, h.2.1, fun q hq => h.2.2 q ?_⟩
  unfold put at hq
  rcases List.mem_append.mp hq with hq | hq
  · obtain ⟨h1, h2⟩ := List.mem_filter.mp hq
    refine List.mem_cons_of_mem _ (List.mem_filter.mpr ⟨h1, ?_⟩)
    simp only [Bool.and_eq_true, Nat.blt_eq, Bool.not_eq_true', Bool.and_eq_false_iff] at h2 ⊢
    refine ⟨by simp; omega, ?_⟩
    rcases h2.2 with z | z
    · exact Or.inl (by simpa using Nat.ne_of_beq_eq_false z)
    · exact Or.inr (by simpa using Nat.ne_of_beq_eq_false z)
  · rcases List.mem_cons.mp hq with rfl | hq
    · exact List.mem_cons_self
    · obtain ⟨h1, h2⟩ := List.mem_filter.mp hq
      refine List.mem_cons_of_mem _ (List.mem_filter.mpr ⟨h1, ?_⟩)
      simp only [Nat.blt_eq] at h2
      simp
      omega
theorem put2_has {ls : Array Slot} {nL i : Nat} {v : Value} {xs : List (Nat × Value)} (h : lv_has ls nL ((i, v) :: xs.filter (fun q => !(q.1 == i) && (!(q.1 == i + 1) && !(q.1 + 1 == i && q.2.category == 2))))) : lv_has ls nL (put2 i v xs) := by
  refine ⟨h.1, h.2.1, fun q hq => h.2.2 q ?_⟩
  unfold put2 at hq
  rcases List.mem_append.mp hq with hq | hq
  · obtain ⟨h1, h2⟩ := List.mem_filter.mp hq
    refine List.mem_cons_of_mem _ (List.mem_filter.mpr ⟨h1, ?_⟩)
    simp only [Bool.and_eq_true, Nat.blt_eq, Bool.not_eq_true', Bool.and_eq_false_iff] at h2 ⊢
    refine ⟨by simp; omega, by simp; omega, ?_⟩
    rcases h2.2 with z | z
    · exact Or.inl (by simpa using Nat.ne_of_beq_eq_false z)
    · exact Or.inr (by simpa using Nat.ne_of_beq_eq_false z)
  · rcases List.mem_cons.mp hq with rfl | hq
    · exact List.mem_cons_self
    · obtain ⟨h1, h2⟩ := List.mem_filter.mp hq
      refine List.mem_cons_of_mem _ (List.mem_filter.mpr ⟨h1, ?_⟩)
      simp only [Nat.blt_eq] at h2
      simp
      omega

section ROWS
variable {κ : KT} {g : GT} {own : String} {cc : ByteArray} {nL : Nat} {ret : Option FieldType} {fr lo : Nat} {α : Type} {φ : α → Option Value × St} {S : St} {pc : Nat} {xs xs1 : List (Nat × Value)} {st : List Value} {o o1 o2 : Option α}
theorem j_iconst (C : CX κ g own cc nL ret fr lo) {n : Int} {v : Int32} (hv : Int32.ofInt n = v) (hd : decode cc pc = .ok (.iconst n, 1)) (h : J κ g nL φ S (pc + 1) xs (.int v :: st) (o)) : J κ g nL φ S (pc) xs (st) (o) := fun out ho H locs ls hP hS hl => lv_iconst C.ex C.cd hd hv (h out ho H locs ls hP hS hl)
theorem j_bipush (C : CX κ g own cc nL ret fr lo) {n : Int} {v : Int32} (hv : (Int8.ofInt n).toInt32 = v) (hd : decode cc pc = .ok (.bipush n, 2)) (h : J κ g nL φ S (pc + 2) xs (.int v :: st) (o)) : J κ g nL φ S (pc) xs (st) (o) := fun out ho H locs ls hP hS hl => lv_bipush C.ex C.cd hd hv (h out ho H locs ls hP hS hl)
theorem j_sipush (C : CX κ g own cc nL ret fr lo) {n : Int} {v : Int32} (hv : (Int16.ofInt n).toInt32 = v) (hd : decode cc pc = .ok (.sipush n, 3)) (h : J κ g nL φ S (pc + 3) xs (.int v :: st) (o)) : J κ g nL φ S (pc) xs (st) (o) := fun out ho H locs ls hP hS hl => lv_sipush C.ex C.cd hd hv (h out ho H locs ls hP hS hl)
theorem j_lconst (C : CX κ g own cc nL ret fr lo) {n : Fin 2} {v : Int64} (hv : Int64.ofNat (n : Nat) = v) (hd : decode cc pc = .ok (.lconst n, 1)) (h : J κ g nL φ S (pc + 1) xs (.long v :: st) (o)) : J κ g nL φ S (pc) xs (st) (o) := fun out ho H locs ls hP hS hl => lv_lconst C.ex C.cd hd hv (h out ho H locs ls hP hS hl)
theorem j_iload_n (C : CX κ g own cc nL ret fr lo) {k : Fin 4} {i : Nat} {x : Int32} (q : Nat) (hx : xs[q]? = some (i, .int x)) (hd : decode cc pc = .ok (.iload_n k, 1)) (hi : (k : Nat) = i) (h : J κ g nL φ S (pc + 1) xs (.int x :: st) (o)) : J κ g nL φ S (pc) xs (st) (o) := fun out ho H locs ls hP hS hl => lv_iload_n C.ex C.cd hd hi (lv_at hl q hx) (h out ho H locs ls hP hS hl)
theorem j_iload (C : CX κ g own cc nL ret fr lo) {i : Nat} {x : Int32} (q : Nat) (hx : xs[q]? = some (i, .int x)) (hd : decode cc pc = .ok (.iload i, 2)) (h : J κ g nL φ S (pc + 2) xs (.int x :: st) (o)) : J κ g nL φ S (pc) xs (st) (o) := fun out ho H locs ls hP hS hl => lv_iload C.ex C.cd hd (lv_at hl q hx) (h out ho H locs ls hP hS hl)
theorem j_istore_n (C : CX κ g own cc nL ret fr lo) {k : Fin 4} {i : Nat} {x : Int32} (hd : decode cc pc = .ok (.istore_n k, 1)) (hi : (k : Nat) = i) (hn : i < nL) (hp : put i (.int x) xs = xs1) (h : J κ g nL φ S (pc + 1) xs1 (st) (o)) : J κ g nL φ S (pc) xs (.int x :: st) (o) := fun out ho H locs ls hP hS hl => lv_istore_n C.ex C.cd hd hi hl hn rfl (fun ls2 hl2 => h out ho H locs ls2 hP hS (hp ▸ put_has hl2))
theorem j_istore (C : CX κ g own cc nL ret fr lo) {i : Nat} {x : Int32} (hd : decode cc pc = .ok (.istore i, 2)) (hn : i < nL) (hp : put i (.int x) xs = xs1) (h : J κ g nL φ S (pc + 2) xs1 (st) (o)) : J κ g nL φ S (pc) xs (.int x :: st) (o) := fun out ho H locs ls hP hS hl => lv_istore C.ex C.cd hd hl hn rfl (fun ls2 hl2 => h out ho H locs ls2 hP hS (hp ▸ put_has hl2))
theorem j_lload_n (C : CX κ g own cc nL ret fr lo) {k : Fin 4} {i : Nat} {x : Int64} (q : Nat) (hx : xs[q]? = some (i, .long x)) (hd : decode cc pc = .ok (.lload_n k, 1)) (hi : (k : Nat) = i) (h : J κ g nL φ S (pc + 1) xs (.long x :: st) (o)) : J κ g nL φ S (pc) xs (st) (o) := fun out ho H locs ls hP hS hl => lv_lload_n C.ex C.cd hd hi (lv_at hl q hx) (h out ho H locs ls hP hS hl)
theorem j_lload (C : CX κ g own cc nL ret fr lo) {i : Nat} {x : Int64} (q : Nat) (hx : xs[q]? = some (i, .long x)) (hd : decode cc pc = .ok (.lload i, 2)) (h : J κ g nL φ S (pc + 2) xs (.long x :: st) (o)) : J κ g nL φ S (pc) xs (st) (o) := fun out ho H locs ls hP hS hl => lv_lload C.ex C.cd hd (lv_at hl q hx) (h out ho H locs ls hP hS hl)
theorem j_lstore_n (C : CX κ g own cc nL ret fr lo) {k : Fin 4} {i : Nat} {x : Int64} (hd : decode cc pc = .ok (.lstore_n k, 1)) (hi : (k : Nat) = i) (hn : i + 1 < nL) (hp : put2 i (.long x) xs = xs1) (h : J κ g nL φ S (pc + 1) xs1 (st) (o)) : J κ g nL φ S (pc) xs (.long x :: st) (o) := fun out ho H locs ls hP hS hl => lv_lstore_n C.ex C.cd hd hi hl hn rfl (fun ls2 hl2 => h out ho H locs ls2 hP hS (hp ▸ put2_has hl2))
theorem j_lstore (C : CX κ g own cc nL ret fr lo) {i : Nat} {x : Int64} (hd : decode cc pc = .ok (.lstore i, 2)) (hn : i + 1 < nL) (hp : put2 i (.long x) xs = xs1) (h : J κ g nL φ S (pc + 2) xs1 (st) (o)) : J κ g nL φ S (pc) xs (.long x :: st) (o) := fun out ho H locs ls hP hS hl => lv_lstore C.ex C.cd hd hl hn rfl (fun ls2 hl2 => h out ho H locs ls2 hP hS (hp ▸ put2_has hl2))
theorem j_aload_n (C : CX κ g own cc nL ret fr lo) {k : Fin 4} {i : Nat} {x : Nat} (q : Nat) (hx : xs[q]? = some (i, .ref x)) (hd : decode cc pc = .ok (.aload_n k, 1)) (hi : (k : Nat) = i) (h : J κ g nL φ S (pc + 1) xs (.ref x :: st) (o)) : J κ g nL φ S (pc) xs (st) (o) := fun out ho H locs ls hP hS hl => lv_aload_n C.ex C.cd hd hi (lv_at hl q hx) (h out ho H locs ls hP hS hl)
theorem j_aload (C : CX κ g own cc nL ret fr lo) {i : Nat} {x : Nat} (q : Nat) (hx : xs[q]? = some (i, .ref x)) (hd : decode cc pc = .ok (.aload i, 2)) (h : J κ g nL φ S (pc + 2) xs (.ref x :: st) (o)) : J κ g nL φ S (pc) xs (st) (o) := fun out ho H locs ls hP hS hl => lv_aload C.ex C.cd hd (lv_at hl q hx) (h out ho H locs ls hP hS hl)
theorem j_astore_n (C : CX κ g own cc nL ret fr lo) {k : Fin 4} {i : Nat} {x : Nat} (hd : decode cc pc = .ok (.astore_n k, 1)) (hi : (k : Nat) = i) (hn : i < nL) (hp : put i (.ref x) xs = xs1) (h : J κ g nL φ S (pc + 1) xs1 (st) (o)) : J κ g nL φ S (pc) xs (.ref x :: st) (o) := fun out ho H locs ls hP hS hl => lv_astore_n C.ex C.cd hd hi hl hn rfl (fun ls2 hl2 => h out ho H locs ls2 hP hS (hp ▸ put_has hl2))
theorem j_astore (C : CX κ g own cc nL ret fr lo) {i : Nat} {x : Nat} (hd : decode cc pc = .ok (.astore i, 2)) (hn : i < nL) (hp : put i (.ref x) xs = xs1) (h : J κ g nL φ S (pc + 2) xs1 (st) (o)) : J κ g nL φ S (pc) xs (.ref x :: st) (o) := fun out ho H locs ls hP hS hl => lv_astore C.ex C.cd hd hl hn rfl (fun ls2 hl2 => h out ho H locs ls2 hP hS (hp ▸ put_has hl2))
theorem j_fload_n (C : CX κ g own cc nL ret fr lo) {k : Fin 4} {i : Nat} {x : UInt32} (q : Nat) (hx : xs[q]? = some (i, .float x)) (hd : decode cc pc = .ok (.fload_n k, 1)) (hi : (k : Nat) = i) (h : J κ g nL φ S (pc + 1) xs (.float x :: st) (o)) : J κ g nL φ S (pc) xs (st) (o) := fun out ho H locs ls hP hS hl => lv_fload_n C.ex C.cd hd hi (lv_at hl q hx) (h out ho H locs ls hP hS hl)
theorem j_fload (C : CX κ g own cc nL ret fr lo) {i : Nat} {x : UInt32} (q : Nat) (hx : xs[q]? = some (i, .float x)) (hd : decode cc pc = .ok (.fload i, 2)) (h : J κ g nL φ S (pc + 2) xs (.float x :: st) (o)) : J κ g nL φ S (pc) xs (st) (o) := fun out ho H locs ls hP hS hl => lv_fload C.ex C.cd hd (lv_at hl q hx) (h out ho H locs ls hP hS hl)
theorem j_fstore_n (C : CX κ g own cc nL ret fr lo) {k : Fin 4} {i : Nat} {x : UInt32} (hd : decode cc pc = .ok (.fstore_n k, 1)) (hi : (k : Nat) = i) (hn : i < nL) (hp : put i (.float x) xs = xs1) (h : J κ g nL φ S (pc + 1) xs1 (st) (o)) : J κ g nL φ S (pc) xs (.float x :: st) (o) := fun out ho H locs ls hP hS hl => lv_fstore_n C.ex C.cd hd hi hl hn rfl (fun ls2 hl2 => h out ho H locs ls2 hP hS (hp ▸ put_has hl2))
theorem j_fstore (C : CX κ g own cc nL ret fr lo) {i : Nat} {x : UInt32} (hd : decode cc pc = .ok (.fstore i, 2)) (hn : i < nL) (hp : put i (.float x) xs = xs1) (h : J κ g nL φ S (pc + 2) xs1 (st) (o)) : J κ g nL φ S (pc) xs (.float x :: st) (o) := fun out ho H locs ls hP hS hl => lv_fstore C.ex C.cd hd hl hn rfl (fun ls2 hl2 => h out ho H locs ls2 hP hS (hp ▸ put_has hl2))
theorem j_dload_n (C : CX κ g own cc nL ret fr lo) {k : Fin 4} {i : Nat} {x : UInt64} (q : Nat) (hx : xs[q]? = some (i, .double x)) (hd : decode cc pc = .ok (.dload_n k, 1)) (hi : (k : Nat) = i) (h : J κ g nL φ S (pc + 1) xs (.double x :: st) (o)) : J κ g nL φ S (pc) xs (st) (o) := fun out ho H locs ls hP hS hl => lv_dload_n C.ex C.cd hd hi (lv_at hl q hx) (h out ho H locs ls hP hS hl)
theorem j_dload (C : CX κ g own cc nL ret fr lo) {i : Nat} {x : UInt64} (q : Nat) (hx : xs[q]? = some (i, .double x)) (hd : decode cc pc = .ok (.dload i, 2)) (h : J κ g nL φ S (pc + 2) xs (.double x :: st) (o)) : J κ g nL φ S (pc) xs (st) (o) := fun out ho H locs ls hP hS hl => lv_dload C.ex C.cd hd (lv_at hl q hx) (h out ho H locs ls hP hS hl)
theorem j_dstore_n (C : CX κ g own cc nL ret fr lo) {k : Fin 4} {i : Nat} {x : UInt64} (hd : decode cc pc = .ok (.dstore_n k, 1)) (hi : (k : Nat) = i) (hn : i + 1 < nL) (hp : put2 i (.double x) xs = xs1) (h : J κ g nL φ S (pc + 1) xs1 (st) (o)) : J κ g nL φ S (pc) xs (.double x :: st) (o) := fun out ho H locs ls hP hS hl => lv_dstore_n C.ex C.cd hd hi hl hn rfl (fun ls2 hl2 => h out ho H locs ls2 hP hS (hp ▸ put2_has hl2))
theorem j_dstore (C : CX κ g own cc nL ret fr lo) {i : Nat} {x : UInt64} (hd : decode cc pc = .ok (.dstore i, 2)) (hn : i + 1 < nL) (hp : put2 i (.double x) xs = xs1) (h : J κ g nL φ S (pc + 2) xs1 (st) (o)) : J κ g nL φ S (pc) xs (.double x :: st) (o) := fun out ho H locs ls hP hS hl => lv_dstore C.ex C.cd hd hl hn rfl (fun ls2 hl2 => h out ho H locs ls2 hP hS (hp ▸ put2_has hl2))
theorem j_topi {x : Int32} {k : Int32 → Option α} (h : ∀ y : Int32, J κ g nL φ S (pc) xs (.int y :: st) (k y)) : J κ g nL φ S (pc) xs (.int x :: st) (bnd x k) := h x
theorem j_topl {x : Int64} {k : Int64 → Option α} (h : ∀ y : Int64, J κ g nL φ S (pc) xs (.long y :: st) (k y)) : J κ g nL φ S (pc) xs (.long x :: st) (bnd x k) := h x
theorem j_topf {x : UInt32} {k : UInt32 → Option α} (h : ∀ y : UInt32, J κ g nL φ S (pc) xs (.float y :: st) (k y)) : J κ g nL φ S (pc) xs (.float x :: st) (bnd x k) := h x
theorem j_topd {x : UInt64} {k : UInt64 → Option α} (h : ∀ y : UInt64, J κ g nL φ S (pc) xs (.double y :: st) (k y)) : J κ g nL φ S (pc) xs (.double x :: st) (bnd x k) := h x
theorem j_iinc (C : CX κ g own cc nL ret fr lo) {i : Nat} {n : Int} {x c0 : Int32} {k : Int32 → Option α} {xs2 : Int32 → List (Nat × Value)} (q : Nat) (hx : xs[q]? = some (i, .int x)) (hd : decode cc pc = .ok (.iinc i n, 3)) (hc : Int32.ofInt n = c0) (hn : i < nL) (hp : ∀ v : Int32, put i (.int v) xs = xs2 v) (h : ∀ v : Int32, J κ g nL φ S (pc + 3) (xs2 v) (st) (k v)) : J κ g nL φ S (pc) xs (st) (bnd (x + c0) k) := fun out ho H locs ls hP hS hl => lv_iinc C.ex C.cd hd hl hx rfl hn rfl (fun ls2 hl2 => h (x + c0) out ho H locs ls2 hP hS (hp (x + c0) ▸ put_has (hc ▸ hl2)))
theorem j_iadd (C : CX κ g own cc nL ret fr lo) {x y : Int32} (hd : decode cc pc = .ok (.iadd, 1)) (h : J κ g nL φ S (pc + 1) xs (.int (x + y) :: st) (o)) : J κ g nL φ S (pc) xs (.int y :: .int x :: st) (o) := fun out ho H locs ls hP hS hl => lv_iadd C.ex C.cd hd (h out ho H locs ls hP hS hl)
theorem j_isub (C : CX κ g own cc nL ret fr lo) {x y : Int32} (hd : decode cc pc = .ok (.isub, 1)) (h : J κ g nL φ S (pc + 1) xs (.int (x - y) :: st) (o)) : J κ g nL φ S (pc) xs (.int y :: .int x :: st) (o) := fun out ho H locs ls hP hS hl => lv_isub C.ex C.cd hd (h out ho H locs ls hP hS hl)
theorem j_imul (C : CX κ g own cc nL ret fr lo) {x y : Int32} (hd : decode cc pc = .ok (.imul, 1)) (h : J κ g nL φ S (pc + 1) xs (.int (x * y) :: st) (o)) : J κ g nL φ S (pc) xs (.int y :: .int x :: st) (o) := fun out ho H locs ls hP hS hl => lv_imul C.ex C.cd hd (h out ho H locs ls hP hS hl)
theorem j_iand (C : CX κ g own cc nL ret fr lo) {x y : Int32} (hd : decode cc pc = .ok (.iand, 1)) (h : J κ g nL φ S (pc + 1) xs (.int (x &&& y) :: st) (o)) : J κ g nL φ S (pc) xs (.int y :: .int x :: st) (o) := fun out ho H locs ls hP hS hl => lv_iand C.ex C.cd hd (h out ho H locs ls hP hS hl)
theorem j_ior (C : CX κ g own cc nL ret fr lo) {x y : Int32} (hd : decode cc pc = .ok (.ior, 1)) (h : J κ g nL φ S (pc + 1) xs (.int (x ||| y) :: st) (o)) : J κ g nL φ S (pc) xs (.int y :: .int x :: st) (o) := fun out ho H locs ls hP hS hl => lv_ior C.ex C.cd hd (h out ho H locs ls hP hS hl)
theorem j_ixor (C : CX κ g own cc nL ret fr lo) {x y : Int32} (hd : decode cc pc = .ok (.ixor, 1)) (h : J κ g nL φ S (pc + 1) xs (.int (x ^^^ y) :: st) (o)) : J κ g nL φ S (pc) xs (.int y :: .int x :: st) (o) := fun out ho H locs ls hP hS hl => lv_ixor C.ex C.cd hd (h out ho H locs ls hP hS hl)
theorem j_ishl (C : CX κ g own cc nL ret fr lo) {x y : Int32} (hd : decode cc pc = .ok (.ishl, 1)) (h : J κ g nL φ S (pc + 1) xs (.int (x <<< (y &&& 31)) :: st) (o)) : J κ g nL φ S (pc) xs (.int y :: .int x :: st) (o) := fun out ho H locs ls hP hS hl => lv_ishl C.ex C.cd hd (h out ho H locs ls hP hS hl)
theorem j_ishr (C : CX κ g own cc nL ret fr lo) {x y : Int32} (hd : decode cc pc = .ok (.ishr, 1)) (h : J κ g nL φ S (pc + 1) xs (.int (x >>> (y &&& 31)) :: st) (o)) : J κ g nL φ S (pc) xs (.int y :: .int x :: st) (o) := fun out ho H locs ls hP hS hl => lv_ishr C.ex C.cd hd (h out ho H locs ls hP hS hl)
theorem j_iushr (C : CX κ g own cc nL ret fr lo) {x y : Int32} (hd : decode cc pc = .ok (.iushr, 1)) (h : J κ g nL φ S (pc + 1) xs (.int ((x.toUInt32 >>> (y.toUInt32 &&& Int32.toUInt32 31)).toInt32) :: st) (o)) : J κ g nL φ S (pc) xs (.int y :: .int x :: st) (o) := fun out ho H locs ls hP hS hl => lv_iushr C.ex C.cd hd rfl (h out ho H locs ls hP hS hl)
theorem j_ineg (C : CX κ g own cc nL ret fr lo) {x : Int32} (hd : decode cc pc = .ok (.ineg, 1)) (h : J κ g nL φ S (pc + 1) xs (.int (-x) :: st) (o)) : J κ g nL φ S (pc) xs (.int x :: st) (o) := fun out ho H locs ls hP hS hl => lv_ineg C.ex C.cd hd (h out ho H locs ls hP hS hl)
theorem j_idiv (C : CX κ g own cc nL ret fr lo) {x y : Int32} (hne : ¬ y = 0) (hd : decode cc pc = .ok (.idiv, 1)) (h : J κ g nL φ S (pc + 1) xs (.int (x / y) :: st) (o)) : J κ g nL φ S (pc) xs (.int y :: .int x :: st) (o) := fun out ho H locs ls hP hS hl => lv_idiv C.ex C.cd hd hne (h out ho H locs ls hP hS hl)
theorem j_irem (C : CX κ g own cc nL ret fr lo) {x y : Int32} (hne : ¬ y = 0) (hd : decode cc pc = .ok (.irem, 1)) (h : J κ g nL φ S (pc + 1) xs (.int (x - x / y * y) :: st) (o)) : J κ g nL φ S (pc) xs (.int y :: .int x :: st) (o) := fun out ho H locs ls hP hS hl => lv_irem C.ex C.cd hd hne (h out ho H locs ls hP hS hl)
theorem j_ladd (C : CX κ g own cc nL ret fr lo) {x y : Int64} (hd : decode cc pc = .ok (.ladd, 1)) (h : J κ g nL φ S (pc + 1) xs (.long (x + y) :: st) (o)) : J κ g nL φ S (pc) xs (.long y :: .long x :: st) (o) := fun out ho H locs ls hP hS hl => lv_ladd C.ex C.cd hd (h out ho H locs ls hP hS hl)
theorem j_lsub (C : CX κ g own cc nL ret fr lo) {x y : Int64} (hd : decode cc pc = .ok (.lsub, 1)) (h : J κ g nL φ S (pc + 1) xs (.long (x - y) :: st) (o)) : J κ g nL φ S (pc) xs (.long y :: .long x :: st) (o) := fun out ho H locs ls hP hS hl => lv_lsub C.ex C.cd hd (h out ho H locs ls hP hS hl)
theorem j_lmul (C : CX κ g own cc nL ret fr lo) {x y : Int64} (hd : decode cc pc = .ok (.lmul, 1)) (h : J κ g nL φ S (pc + 1) xs (.long (x * y) :: st) (o)) : J κ g nL φ S (pc) xs (.long y :: .long x :: st) (o) := fun out ho H locs ls hP hS hl => lv_lmul C.ex C.cd hd (h out ho H locs ls hP hS hl)
theorem j_land (C : CX κ g own cc nL ret fr lo) {x y : Int64} (hd : decode cc pc = .ok (.land, 1)) (h : J κ g nL φ S (pc + 1) xs (.long (x &&& y) :: st) (o)) : J κ g nL φ S (pc) xs (.long y :: .long x :: st) (o) := fun out ho H locs ls hP hS hl => lv_land C.ex C.cd hd (h out ho H locs ls hP hS hl)
theorem j_lor (C : CX κ g own cc nL ret fr lo) {x y : Int64} (hd : decode cc pc = .ok (.lor, 1)) (h : J κ g nL φ S (pc + 1) xs (.long (x ||| y) :: st) (o)) : J κ g nL φ S (pc) xs (.long y :: .long x :: st) (o) := fun out ho H locs ls hP hS hl => lv_lor C.ex C.cd hd (h out ho H locs ls hP hS hl)
theorem j_lxor (C : CX κ g own cc nL ret fr lo) {x y : Int64} (hd : decode cc pc = .ok (.lxor, 1)) (h : J κ g nL φ S (pc + 1) xs (.long (x ^^^ y) :: st) (o)) : J κ g nL φ S (pc) xs (.long y :: .long x :: st) (o) := fun out ho H locs ls hP hS hl => lv_lxor C.ex C.cd hd (h out ho H locs ls hP hS hl)
theorem j_ldiv (C : CX κ g own cc nL ret fr lo) {x y : Int64} (hne : ¬ y = 0) (hd : decode cc pc = .ok (.ldiv, 1)) (h : J κ g nL φ S (pc + 1) xs (.long (x / y) :: st) (o)) : J κ g nL φ S (pc) xs (.long y :: .long x :: st) (o) := fun out ho H locs ls hP hS hl => lv_ldiv C.ex C.cd hd hne (h out ho H locs ls hP hS hl)
theorem j_lrem (C : CX κ g own cc nL ret fr lo) {x y : Int64} (hne : ¬ y = 0) (hd : decode cc pc = .ok (.lrem, 1)) (h : J κ g nL φ S (pc + 1) xs (.long (x - x / y * y) :: st) (o)) : J κ g nL φ S (pc) xs (.long y :: .long x :: st) (o) := fun out ho H locs ls hP hS hl => lv_lrem C.ex C.cd hd hne (h out ho H locs ls hP hS hl)
theorem j_lshl (C : CX κ g own cc nL ret fr lo) {x : Int64} {y : Int32} (hd : decode cc pc = .ok (.lshl, 1)) (h : J κ g nL φ S (pc + 1) xs (.long (x <<< (y.toInt64 &&& 63)) :: st) (o)) : J κ g nL φ S (pc) xs (.int y :: .long x :: st) (o) := fun out ho H locs ls hP hS hl => lv_lshl C.ex C.cd hd rfl (h out ho H locs ls hP hS hl)
theorem j_lshr (C : CX κ g own cc nL ret fr lo) {x : Int64} {y : Int32} (hd : decode cc pc = .ok (.lshr, 1)) (h : J κ g nL φ S (pc + 1) xs (.long (x >>> (y.toInt64 &&& 63)) :: st) (o)) : J κ g nL φ S (pc) xs (.int y :: .long x :: st) (o) := fun out ho H locs ls hP hS hl => lv_lshr C.ex C.cd hd rfl (h out ho H locs ls hP hS hl)
theorem j_i2l (C : CX κ g own cc nL ret fr lo) {x : Int32} (hd : decode cc pc = .ok (.i2l, 1)) (h : J κ g nL φ S (pc + 1) xs (.long x.toInt64 :: st) (o)) : J κ g nL φ S (pc) xs (.int x :: st) (o) := fun out ho H locs ls hP hS hl => lv_i2l C.ex C.cd hd rfl (h out ho H locs ls hP hS hl)
theorem j_l2i (C : CX κ g own cc nL ret fr lo) {x : Int64} (hd : decode cc pc = .ok (.l2i, 1)) (h : J κ g nL φ S (pc + 1) xs (.int x.toInt32 :: st) (o)) : J κ g nL φ S (pc) xs (.long x :: st) (o) := fun out ho H locs ls hP hS hl => lv_l2i C.ex C.cd hd rfl (h out ho H locs ls hP hS hl)
theorem j_lcmp (C : CX κ g own cc nL ret fr lo) {x y : Int64} (hd : decode cc pc = .ok (.lcmp, 1)) (h : J κ g nL φ S (pc + 1) xs (.int (lg_cmp x y) :: st) (o)) : J κ g nL φ S (pc) xs (.long y :: .long x :: st) (o) := fun out ho H locs ls hP hS hl => W.lcmp C.ex C.cd hd (h out ho H locs ls hP hS hl)
theorem j_dup (C : CX κ g own cc nL ret fr lo) {v : Value} (hv : v.category = 1) (hd : decode cc pc = .ok (.dup, 1)) (h : J κ g nL φ S (pc + 1) xs (v :: v :: st) (o)) : J κ g nL φ S (pc) xs (v :: st) (o) := fun out ho H locs ls hP hS hl => lv_dup C.ex C.cd hd hv (h out ho H locs ls hP hS hl)
theorem j_pop (C : CX κ g own cc nL ret fr lo) {v : Value} (hv : v.category = 1) (hd : decode cc pc = .ok (.pop, 1)) (h : J κ g nL φ S (pc + 1) xs (st) (o)) : J κ g nL φ S (pc) xs (v :: st) (o) := fun out ho H locs ls hP hS hl => lv_pop C.ex C.cd hd hv (h out ho H locs ls hP hS hl)
theorem j_dup2_11 (C : CX κ g own cc nL ret fr lo) {v u : Value} (hv : v.category = 1) (hu : u.category = 1) (hd : decode cc pc = .ok (.dup2, 1)) (h : J κ g nL φ S (pc + 1) xs (v :: u :: v :: u :: st) (o)) : J κ g nL φ S (pc) xs (v :: u :: st) (o) := fun out ho H locs ls hP hS hl => lv_dup2_11 C.ex C.cd hd hv hu (h out ho H locs ls hP hS hl)
theorem j_dup_x1 (C : CX κ g own cc nL ret fr lo) {v u : Value} (hv : v.category = 1) (hu : u.category = 1) (hd : decode cc pc = .ok (.dup_x1, 1)) (h : J κ g nL φ S (pc + 1) xs (v :: u :: v :: st) (o)) : J κ g nL φ S (pc) xs (v :: u :: st) (o) := fun out ho H locs ls hP hS hl => lv_dup_x1 C.ex C.cd hd hv hu (h out ho H locs ls hP hS hl)
theorem j_if_eq (C : CX κ g own cc nL ret fr lo) {x : Int32} {off : Int} (tgt : Nat) (hd : decode cc pc = .ok (.ifCond .eq off, 3)) (ht : (pc : Int) + off = (tgt : Int)) (h1 : J κ g nL φ S (tgt) xs (st) (o1)) (h2 : J κ g nL φ S (pc + 3) xs (st) (o2)) : J κ g nL φ S (pc) xs (.int x :: st) (if x = 0 then o1 else o2) := fun out ho H locs ls hP hS hl => lv_if_eq C.ex C.cd hd ht (fun z => h1 out ((if_pos z).symm.trans ho) H locs ls hP hS hl) (fun z => h2 out ((if_neg z).symm.trans ho) H locs ls hP hS hl)
theorem j_icmp_eq (C : CX κ g own cc nL ret fr lo) {x y : Int32} {off : Int} (tgt : Nat) (hd : decode cc pc = .ok (.if_icmp .eq off, 3)) (ht : (pc : Int) + off = (tgt : Int)) (h1 : J κ g nL φ S (tgt) xs (st) (o1)) (h2 : J κ g nL φ S (pc + 3) xs (st) (o2)) : J κ g nL φ S (pc) xs (.int y :: .int x :: st) (if x = y then o1 else o2) := fun out ho H locs ls hP hS hl => lv_icmp_eq C.ex C.cd hd ht (fun z => h1 out ((if_pos z).symm.trans ho) H locs ls hP hS hl) (fun z => h2 out ((if_neg z).symm.trans ho) H locs ls hP hS hl)
theorem j_if_ne (C : CX κ g own cc nL ret fr lo) {x : Int32} {off : Int} (tgt : Nat) (hd : decode cc pc = .ok (.ifCond .ne off, 3)) (ht : (pc : Int) + off = (tgt : Int)) (h1 : J κ g nL φ S (tgt) xs (st) (o1)) (h2 : J κ g nL φ S (pc + 3) xs (st) (o2)) : J κ g nL φ S (pc) xs (.int x :: st) (if x = 0 then o2 else o1) := fun out ho H locs ls hP hS hl => lv_if_ne C.ex C.cd hd ht (fun z => h1 out ((if_neg z).symm.trans ho) H locs ls hP hS hl) (fun z => h2 out ((if_pos (z)).symm.trans ho) H locs ls hP hS hl)
theorem j_icmp_ne (C : CX κ g own cc nL ret fr lo) {x y : Int32} {off : Int} (tgt : Nat) (hd : decode cc pc = .ok (.if_icmp .ne off, 3)) (ht : (pc : Int) + off = (tgt : Int)) (h1 : J κ g nL φ S (tgt) xs (st) (o1)) (h2 : J κ g nL φ S (pc + 3) xs (st) (o2)) : J κ g nL φ S (pc) xs (.int y :: .int x :: st) (if x = y then o2 else o1) := fun out ho H locs ls hP hS hl => lv_icmp_ne C.ex C.cd hd ht (fun z => h1 out ((if_neg z).symm.trans ho) H locs ls hP hS hl) (fun z => h2 out ((if_pos (z)).symm.trans ho) H locs ls hP hS hl)
theorem j_if_lt (C : CX κ g own cc nL ret fr lo) {x : Int32} {off : Int} (tgt : Nat) (hd : decode cc pc = .ok (.ifCond .lt off, 3)) (ht : (pc : Int) + off = (tgt : Int)) (h1 : J κ g nL φ S (tgt) xs (st) (o1)) (h2 : J κ g nL φ S (pc + 3) xs (st) (o2)) : J κ g nL φ S (pc) xs (.int x :: st) (if x < 0 then o1 else o2) := fun out ho H locs ls hP hS hl => lv_if_lt C.ex C.cd hd ht (fun z => h1 out ((if_pos z).symm.trans ho) H locs ls hP hS hl) (fun z => h2 out ((if_neg z).symm.trans ho) H locs ls hP hS hl)
theorem j_icmp_lt (C : CX κ g own cc nL ret fr lo) {x y : Int32} {off : Int} (tgt : Nat) (hd : decode cc pc = .ok (.if_icmp .lt off, 3)) (ht : (pc : Int) + off = (tgt : Int)) (h1 : J κ g nL φ S (tgt) xs (st) (o1)) (h2 : J κ g nL φ S (pc + 3) xs (st) (o2)) : J κ g nL φ S (pc) xs (.int y :: .int x :: st) (if x < y then o1 else o2) := fun out ho H locs ls hP hS hl => lv_icmp_lt C.ex C.cd hd ht (fun z => h1 out ((if_pos z).symm.trans ho) H locs ls hP hS hl) (fun z => h2 out ((if_neg z).symm.trans ho) H locs ls hP hS hl)
theorem j_if_ge (C : CX κ g own cc nL ret fr lo) {x : Int32} {off : Int} (tgt : Nat) (hd : decode cc pc = .ok (.ifCond .ge off, 3)) (ht : (pc : Int) + off = (tgt : Int)) (h1 : J κ g nL φ S (tgt) xs (st) (o1)) (h2 : J κ g nL φ S (pc + 3) xs (st) (o2)) : J κ g nL φ S (pc) xs (.int x :: st) (if 0 ≤ x then o1 else o2) := fun out ho H locs ls hP hS hl => lv_if_ge C.ex C.cd hd ht (fun z => h1 out ((if_pos z).symm.trans ho) H locs ls hP hS hl) (fun z => h2 out ((if_neg z).symm.trans ho) H locs ls hP hS hl)
theorem j_icmp_ge (C : CX κ g own cc nL ret fr lo) {x y : Int32} {off : Int} (tgt : Nat) (hd : decode cc pc = .ok (.if_icmp .ge off, 3)) (ht : (pc : Int) + off = (tgt : Int)) (h1 : J κ g nL φ S (tgt) xs (st) (o1)) (h2 : J κ g nL φ S (pc + 3) xs (st) (o2)) : J κ g nL φ S (pc) xs (.int y :: .int x :: st) (if y ≤ x then o1 else o2) := fun out ho H locs ls hP hS hl => lv_icmp_ge C.ex C.cd hd ht (fun z => h1 out ((if_pos z).symm.trans ho) H locs ls hP hS hl) (fun z => h2 out ((if_neg z).symm.trans ho) H locs ls hP hS hl)
theorem j_if_gt (C : CX κ g own cc nL ret fr lo) {x : Int32} {off : Int} (tgt : Nat) (hd : decode cc pc = .ok (.ifCond .gt off, 3)) (ht : (pc : Int) + off = (tgt : Int)) (h1 : J κ g nL φ S (tgt) xs (st) (o1)) (h2 : J κ g nL φ S (pc + 3) xs (st) (o2)) : J κ g nL φ S (pc) xs (.int x :: st) (if 0 < x then o1 else o2) := fun out ho H locs ls hP hS hl => lv_if_gt C.ex C.cd hd ht (fun z => h1 out ((if_pos z).symm.trans ho) H locs ls hP hS hl) (fun z => h2 out ((if_neg z).symm.trans ho) H locs ls hP hS hl)
theorem j_icmp_gt (C : CX κ g own cc nL ret fr lo) {x y : Int32} {off : Int} (tgt : Nat) (hd : decode cc pc = .ok (.if_icmp .gt off, 3)) (ht : (pc : Int) + off = (tgt : Int)) (h1 : J κ g nL φ S (tgt) xs (st) (o1)) (h2 : J κ g nL φ S (pc + 3) xs (st) (o2)) : J κ g nL φ S (pc) xs (.int y :: .int x :: st) (if y < x then o1 else o2) := fun out ho H locs ls hP hS hl => lv_icmp_gt C.ex C.cd hd ht (fun z => h1 out ((if_pos z).symm.trans ho) H locs ls hP hS hl) (fun z => h2 out ((if_neg z).symm.trans ho) H locs ls hP hS hl)
theorem j_if_le (C : CX κ g own cc nL ret fr lo) {x : Int32} {off : Int} (tgt : Nat) (hd : decode cc pc = .ok (.ifCond .le off, 3)) (ht : (pc : Int) + off = (tgt : Int)) (h1 : J κ g nL φ S (tgt) xs (st) (o1)) (h2 : J κ g nL φ S (pc + 3) xs (st) (o2)) : J κ g nL φ S (pc) xs (.int x :: st) (if x ≤ 0 then o1 else o2) := fun out ho H locs ls hP hS hl => lv_if_le C.ex C.cd hd ht (fun z => h1 out ((if_pos z).symm.trans ho) H locs ls hP hS hl) (fun z => h2 out ((if_neg z).symm.trans ho) H locs ls hP hS hl)
theorem j_icmp_le (C : CX κ g own cc nL ret fr lo) {x y : Int32} {off : Int} (tgt : Nat) (hd : decode cc pc = .ok (.if_icmp .le off, 3)) (ht : (pc : Int) + off = (tgt : Int)) (h1 : J κ g nL φ S (tgt) xs (st) (o1)) (h2 : J κ g nL φ S (pc + 3) xs (st) (o2)) : J κ g nL φ S (pc) xs (.int y :: .int x :: st) (if x ≤ y then o1 else o2) := fun out ho H locs ls hP hS hl => lv_icmp_le C.ex C.cd hd ht (fun z => h1 out ((if_pos z).symm.trans ho) H locs ls hP hS hl) (fun z => h2 out ((if_neg z).symm.trans ho) H locs ls hP hS hl)
theorem j_goto (C : CX κ g own cc nL ret fr lo) {off : Int} (tgt : Nat) (hd : decode cc pc = .ok (.goto off, 3)) (ht : (pc : Int) + off = (tgt : Int)) (h : J κ g nL φ S (tgt) xs (st) (o)) : J κ g nL φ S (pc) xs (st) (o) := fun out ho H locs ls hP hS hl => lv_goto C.ex C.cd hd ht (h out ho H locs ls hP hS hl)
theorem j_none : J κ g nL φ S (pc) xs (st) (none) := fun out ho => by cases ho
theorem j_sub (ks : List Nat) (hl0 : lv_pick xs ks = xs1) (h : J κ g nL φ S (pc) xs1 (st) (o)) : J κ g nL φ S (pc) xs (st) (o) := fun out ho H locs ls hP hS hl => h out ho H locs ls hP hS (lv_sub hl ks hl0)
theorem j_fconst0 (C : CX κ g own cc nL ret fr lo)  (hd : decode cc pc = .ok (.fconst 0, 1)) (h : J κ g nL φ S (pc + 1) xs (.float FP.fconst0 :: st) (o)) : J κ g nL φ S (pc) xs (st) (o) := fun out ho H locs ls hP hS hl => lv_fconst0 C.ex C.cd hd (h out ho H locs ls hP hS hl)
theorem j_fconst2 (C : CX κ g own cc nL ret fr lo)  (hd : decode cc pc = .ok (.fconst 2, 1)) (h : J κ g nL φ S (pc + 1) xs (.float FP.fconst2 :: st) (o)) : J κ g nL φ S (pc) xs (st) (o) := fun out ho H locs ls hP hS hl => lv_fconst2 C.ex C.cd hd (h out ho H locs ls hP hS hl)
theorem j_dconst0 (C : CX κ g own cc nL ret fr lo)  (hd : decode cc pc = .ok (.dconst 0, 1)) (h : J κ g nL φ S (pc + 1) xs (.double FP.dconst0 :: st) (o)) : J κ g nL φ S (pc) xs (st) (o) := fun out ho H locs ls hP hS hl => lv_dconst0 C.ex C.cd hd (h out ho H locs ls hP hS hl)
theorem j_i2f (C : CX κ g own cc nL ret fr lo) {x : Int32} (hd : decode cc pc = .ok (.i2f, 1)) (h : J κ g nL φ S (pc + 1) xs (.float (FP.i2f x) :: st) (o)) : J κ g nL φ S (pc) xs (.int x :: st) (o) := fun out ho H locs ls hP hS hl => lv_i2f C.ex C.cd hd (h out ho H locs ls hP hS hl)
theorem j_i2d (C : CX κ g own cc nL ret fr lo) {x : Int32} (hd : decode cc pc = .ok (.i2d, 1)) (h : J κ g nL φ S (pc + 1) xs (.double (FP.i2d x) :: st) (o)) : J κ g nL φ S (pc) xs (.int x :: st) (o) := fun out ho H locs ls hP hS hl => lv_i2d C.ex C.cd hd (h out ho H locs ls hP hS hl)
theorem j_f2l (C : CX κ g own cc nL ret fr lo) {x : UInt32} (hd : decode cc pc = .ok (.f2l, 1)) (h : J κ g nL φ S (pc + 1) xs (.long (FP.f2l x) :: st) (o)) : J κ g nL φ S (pc) xs (.float x :: st) (o) := fun out ho H locs ls hP hS hl => lv_f2l C.ex C.cd hd (h out ho H locs ls hP hS hl)
theorem j_d2l (C : CX κ g own cc nL ret fr lo) {x : UInt64} (hd : decode cc pc = .ok (.d2l, 1)) (h : J κ g nL φ S (pc + 1) xs (.long (FP.d2l x) :: st) (o)) : J κ g nL φ S (pc) xs (.double x :: st) (o) := fun out ho H locs ls hP hS hl => lv_d2l C.ex C.cd hd (h out ho H locs ls hP hS hl)
theorem j_fcmp (C : CX κ g own cc nL ret fr lo) {x y : UInt32} {op : CmpOp} (hd : decode cc pc = .ok (.fcmp op, 1)) (h : J κ g nL φ S (pc + 1) xs (.int (Op.cmpValue (FP.fcmp x y) op) :: st) (o)) : J κ g nL φ S (pc) xs (.float y :: .float x :: st) (o) := fun out ho H locs ls hP hS hl => lv_fcmp C.ex C.cd hd (h out ho H locs ls hP hS hl)
theorem j_dcmp (C : CX κ g own cc nL ret fr lo) {x y : UInt64} {op : CmpOp} (hd : decode cc pc = .ok (.dcmp op, 1)) (h : J κ g nL φ S (pc + 1) xs (.int (Op.cmpValue (FP.dcmp x y) op) :: st) (o)) : J κ g nL φ S (pc) xs (.double y :: .double x :: st) (o) := fun out ho H locs ls hP hS hl => lv_dcmp C.ex C.cd hd (h out ho H locs ls hP hS hl)
end ROWS
