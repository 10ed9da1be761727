theorem w_oi : Cond.instanceMethod Lib.objectInit ∈ LW ∧ Cond.code Lib.objectInit ⟨#[0xb1]⟩ 1 none ∈ LW := ⟨LW_mem 81 (by decide +kernel) rfl, LW_mem 82 (by decide +kernel) rfl⟩
/-! A GROWING POOL: rows for what makes objects -/
def NB : List Cond := [.methodLinkNest "StairIdeals" 9 yX4_init "StairIdeals", .methodLinkNest "StairIdeals$Holdings" 24 yX2_init "StairIdeals", .methodLinkNest "StairIdeals" 29 yX9_init "StairIdeals", .methodLinkNest "StairIdeals$Workshop" 11 yX6_init "StairIdeals", .methodLinkNest "StairIdeals" 36 yX7_init "StairIdeals", .methodLinkNest "StairIdeals$Survey" 11 yX6_init "StairIdeals", .methodLinkNest "StairIdeals$Survey" 24 yX0_init "StairIdeals", .methodLinkNest "StairIdeals$Survey" 31 yX8_init "StairIdeals"]
def va_AOA (ty : FieldType) (U : State) : Prop := (Cond.arrayOver (.array ty)).before #[] U = true
theorem va_AOA.use {ty : FieldType} {A : Array Value} {U : State} (h : va_AOA ty U) : (Cond.arrayOver (.array ty)).before A U = true := h
theorem va_AOA.moved {ty : FieldType} {u U : State} (hvm : u.vm.Alike U.vm) (h : va_AOA ty u) : va_AOA ty U := by
  obtain ⟨comp, c, k, h1, h2, h3, h4, h5⟩ := arrayOver_specB h
  obtain ⟨k', hk', he⟩ := hvm.2.2 _ _ h3
  have hi : (U.vm.classes.findIdx? fun (x : Class) => match x.kind with | .array component _ => component == comp | _ => false) = some c := by
    have e1 := va_idx_bare U.vm comp
    have e2 := va_idx_bare u.vm comp
    have e3 : U.vm.bare = u.vm.bare := by first | exact hvm.bare_eq | exact hvm.bare_eq.symm
    rw [e3] at e1
    exact e1.symm.trans (e2.trans h2)
  have hkind : k'.kind = .array comp (.array ty) := by rw [he]; exact h4
  have f1 : U.vm.findClass (FieldType.array ty).toString = some comp := by rw [hvm.findClass]; exact h1
  have f2 : U.vm.findClass ("[" ++ (FieldType.array ty).toString) = some c := by rw [hvm.findClass]; exact h5
  unfold va_AOA Cond.before Cond.holds
  simp only [Cond.value]
  rw [f1, Option.bind_some]
  refine (congrArg (fun o : Option Nat => (o.bind (fun c => (U.vm.classes[c]?).map fun (k : Class) => match k.kind with | .array _ t => decide (t = FieldType.array ty) && decide (U.vm.findClass ("[" ++ (FieldType.array ty).toString) = some c) | _ => false) == some true)) hi).trans ?_
  simp [hk', hkind, f2]
def auxN (U : State) : Prop := (∀ w ∈ NB, va_Nw w U) ∧ va_AO RX2 U ∧ va_AO RX1 U ∧ va_AOA .int U
theorem auxN.warm {s U : State} (hW : s.WarmedH U.vm) (h : auxN s) : auxN U := by
  refine ⟨fun w hw => ?_, h.2.1.moved hW.alike, h.2.2.1.moved hW.alike, h.2.2.2.moved hW.alike⟩
  have h1 := h.1 w hw
  unfold NB at hw
  simp only [List.mem_cons, List.not_mem_nil, or_false] at hw
  rcases hw with rfl | rfl | rfl | rfl | rfl | rfl | rfl | rfl <;> exact va_Nw.warmM hW h1
theorem auxN.same {u U : State} (e : u.vm = U.vm) (h : auxN u) : auxN U := by
  refine ⟨fun w hw => ?_, h.2.1.moved (e ▸ Vm.Alike.refl _), h.2.2.1.moved (e ▸ Vm.Alike.refl _), h.2.2.2.moved (e ▸ Vm.Alike.refl _)⟩
  have h1 := h.1 w hw
  unfold NB at hw
  simp only [List.mem_cons, List.not_mem_nil, or_false] at hw
  rcases hw with rfl | rfl | rfl | rfl | rfl | rfl | rfl | rfl <;> exact va_Nw.same rfl e h1

def tysT (T : Nat → ClassId) : List (ClassId × FieldType) := [(T 0, .int), (T 1, .boolean), (T 2, .object RX2), (T 3, .object RX1), (T 4, .array .int)]
/-- the names that fix the array classes -/
def arN (T : Nat → ClassId) (U : State) : Prop := U.vm.findClass ("[" ++ FieldType.int.toString) = some (T 0) ∧ U.vm.findClass ("[" ++ FieldType.boolean.toString) = some (T 1) ∧ U.vm.findClass ("[" ++ (FieldType.object RX2).toString) = some (T 2) ∧ U.vm.findClass ("[" ++ (FieldType.object RX1).toString) = some (T 3) ∧ U.vm.findClass ("[" ++ (FieldType.array .int).toString) = some (T 4)
theorem arN.moved {T : Nat → ClassId} {u U : State} (hvm : u.vm.Alike U.vm) (h : arN T u) : arN T U := by
  unfold arN at h ⊢
  rw [hvm.findClass, hvm.findClass, hvm.findClass, hvm.findClass, hvm.findClass]
  exact h
def NX (κ : KT) (D : va_G) (T : Nat → ClassId) (A : Nat → Prop) (own : String) (cc : ByteArray) (nL fr lo mc ms : Nat) : Prop :=
  (kp κ).tables.exec = Jvm.exec ∧ (kc κ).code = cc ∧ (kc κ).maxLocals = nL ∧ (ks κ).vm.findClass own = some (km κ).cls ∧ (∀ w ∈ LW, w.before (ka κ) (ks κ) = true) ∧ (kt κ).locks = false ∧
  va_K D classes (tysT T) (ks κ) ∧ arN T (ks κ) ∧ auxN (ks κ) ∧ (∀ q, (ks κ).heap.size ≤ q → A q) ∧ kR κ = { frames := fr, cells := mc, slots := ms, locals := lo }
section NXS
variable {κ : KT} {D : va_G} {T : Nat → ClassId} {A : Nat → Prop} {own : String} {cc : ByteArray} {nL fr lo mc ms : Nat}
theorem NX.ex (C : NX κ D T A own cc nL fr lo mc ms) : (kp κ).tables.exec = Jvm.exec := C.1
theorem NX.cd (C : NX κ D T A own cc nL fr lo mc ms) : (kc κ).code = cc := C.2.1
theorem NX.ml (C : NX κ D T A own cc nL fr lo mc ms) : (kc κ).maxLocals = nL := C.2.2.1
theorem NX.ow (C : NX κ D T A own cc nL fr lo mc ms) : (ks κ).vm.findClass own = some (km κ).cls := C.2.2.2.1
theorem NX.ts (C : NX κ D T A own cc nL fr lo mc ms) : ∀ w ∈ LW, w.before (ka κ) (ks κ) = true := C.2.2.2.2.1
theorem NX.lk (C : NX κ D T A own cc nL fr lo mc ms) : (kt κ).locks = false := C.2.2.2.2.2.1
theorem NX.K (C : NX κ D T A own cc nL fr lo mc ms) : va_K D classes (tysT T) (ks κ) := C.2.2.2.2.2.2.1
theorem NX.ar (C : NX κ D T A own cc nL fr lo mc ms) : arN T (ks κ) := C.2.2.2.2.2.2.2.1
theorem NX.ax (C : NX κ D T A own cc nL fr lo mc ms) : auxN (ks κ) := C.2.2.2.2.2.2.2.2.1
theorem NX.hA (C : NX κ D T A own cc nL fr lo mc ms) : ∀ q, (ks κ).heap.size ≤ q → A q := C.2.2.2.2.2.2.2.2.2.1
theorem NX.R (C : NX κ D T A own cc nL fr lo mc ms) : kR κ = { frames := fr, cells := mc, slots := ms, locals := lo } := C.2.2.2.2.2.2.2.2.2.2
end NXS
/-- from this frame over the pool (L, f) the machine comes to Q -/
def NJ (κ : KT) (D : va_G) (A : Nat → Prop) (nL : Nat) (Q : State → Prop) (cells slots : Nat) (L : List Nat) (f : Nat → va_E) (pc : Nat) (xs : List (Nat × Value)) (st : List Value) : Prop :=
  ∀ (H : Heap) (locs : List Loc) (ls : Array Slot), va_P D classes (va_pl L f) H → va_D A (va_pl L f) → va_S A (ks κ).heap H locs → lv_has ls nL xs →
    W (kp κ) (kl κ) (ke κ) (kR κ) (ks κ) (km κ) (ka κ) (kb κ) (kt κ) (kc κ) H locs cells slots Q (F0 (km κ) pc ls st)
def QN (D : va_G) (sz : Nat) (L : List Nat) (Post : List Nat → (Nat → va_E) → Prop) : Array Value → State → Outcome → State → Prop := fun _ st oc t => oc = .returned none ∧ (∃ (ns : List Nat) (f1 : Nat → va_E), Post ns f1 ∧ va_P D classes (va_pl (L ++ ns) f1) t.heap ∧ va_D (fun q => q ∈ L ∨ sz ≤ q) (va_pl (L ++ ns) f1)) ∧ va_F (fun q => q ∈ L ∨ sz ≤ q) st t
def PreN (D : va_G) (T : Nat → ClassId) (sz : Nat) (L : List Nat) (f : Nat → va_E) (U : State) : Prop := U.heap.size = sz ∧ va_P D classes (va_pl L f) U.heap ∧ va_K D classes (tysT T) U ∧ arN T U ∧ va_D (fun _ => True) (va_pl L f) ∧ auxN U
def CN (l : Launch) (y : MethodName) (cc : ByteArray) (nL fr lo mc ms : Nat) (D : va_G) (T : Nat → ClassId) (av : List Value) (sz : Nat) (L : List Nat) (f : Nat → va_E) (Post : List Nat → (Nat → va_E) → Prop) : Prop :=
  Met l y (wsOf y cc nL none) { frames := fr, cells := mc, slots := ms, locals := lo } (va_Pc av (PreN D T sz L f)) (QN D sz L Post) mc ms (fun q => q ∈ L ∨ sz ≤ q)
theorem pl_fresh {A : Nat → Prop} {L : List Nat} {f : Nat → va_E} {q : Nat} {e : va_E} (hD : va_D A (va_pl L f ++ [(q, e)])) : q ∉ L := va_pl_fresh2 (X := []) hD
theorem pl_at {L : List Nat} {f : Nat → va_E} {a : Nat} (h : a ∈ L) : ∃ k : Nat, (va_pl L f)[k]? = some (a, f a) := va_pl_get (X := []) h
theorem pl_set {A : Nat → Prop} {L : List Nat} {f : Nat → va_E} {a k : Nat} {e : va_E} (hD : va_D A (va_pl L f)) (h : a ∈ L) (hk : (va_pl L f)[k]? = some (a, f a)) : (va_pl L f).set k (a, e) = va_pl L (va_up f a e) := va_pl_set (X := []) hD h hk
theorem pl_dis {A : Nat → Prop} {L ns : List Nat} {f : Nat → va_E} (hD : va_D A (va_pl (L ++ ns) f)) : ∀ x ∈ ns, x ∉ L := by
  intro x hx hL
  obtain ⟨i, hi⟩ := List.getElem?_of_mem hx
  obtain ⟨j, hj⟩ := List.getElem?_of_mem hL
  have hjl : j < L.length := (List.getElem?_eq_some_iff.mp hj).1
  have h1 : (va_pl (L ++ ns) f)[L.length + i]? = some (x, f x) := by
    unfold va_pl
    rw [List.getElem?_map, List.getElem?_append_right (by omega), show L.length + i - L.length = i by omega, hi]
    rfl
  have h2 : (va_pl (L ++ ns) f)[j]? = some (x, f x) := by
    unfold va_pl
    rw [List.getElem?_map, List.getElem?_append_left hjl, hj]
    rfl
  have := hD.1 _ _ _ _ h1 h2 rfl
  omega
section NROWS
variable {κ : KT} {D : va_G} {T : Nat → ClassId} {A : Nat → Prop} {own : String} {cc : ByteArray} {nL fr lo mc ms : Nat} {Q : State → Prop} {cells slots : Nat} {L : List Nat} {f : Nat → va_E} {pc : Nat} {xs xs1 : List (Nat × Value)} {st : List Value}

theorem n_iconst (C : NX κ D T A own cc nL fr lo mc ms) {n : Int} {v : Int32} (hv : Int32.ofInt n = v) (hd : decode cc pc = .ok (.iconst n, 1)) (h : NJ κ D A nL Q cells slots L f (pc + 1) xs (.int v :: st)) : NJ κ D A nL Q cells slots L f (pc) xs (st) := fun H locs ls hP hD hS hl => lv_iconst C.ex C.cd hd hv (h H locs ls hP hD hS hl)
theorem n_bipush (C : NX κ D T A own cc nL fr lo mc ms) {n : Int} {v : Int32} (hv : (Int8.ofInt n).toInt32 = v) (hd : decode cc pc = .ok (.bipush n, 2)) (h : NJ κ D A nL Q cells slots L f (pc + 2) xs (.int v :: st)) : NJ κ D A nL Q cells slots L f (pc) xs (st) := fun H locs ls hP hD hS hl => lv_bipush C.ex C.cd hd hv (h H locs ls hP hD hS hl)
theorem n_sipush (C : NX κ D T A own cc nL fr lo mc ms) {n : Int} {v : Int32} (hv : (Int16.ofInt n).toInt32 = v) (hd : decode cc pc = .ok (.sipush n, 3)) (h : NJ κ D A nL Q cells slots L f (pc + 3) xs (.int v :: st)) : NJ κ D A nL Q cells slots L f (pc) xs (st) := fun H locs ls hP hD hS hl => lv_sipush C.ex C.cd hd hv (h H locs ls hP hD hS hl)
theorem n_dup (C : NX κ D T A own cc nL fr lo mc ms) {v : Value} (hv : v.category = 1) (hd : decode cc pc = .ok (.dup, 1)) (h : NJ κ D A nL Q cells slots L f (pc + 1) xs (v :: v :: st)) : NJ κ D A nL Q cells slots L f (pc) xs (v :: st) := fun H locs ls hP hD hS hl => lv_dup C.ex C.cd hd hv (h H locs ls hP hD hS hl)
theorem n_iload_n (C : NX κ D T A own cc nL fr lo mc ms) {k : Fin 4} {i : Nat} {x : Int32} (q : Nat) (hx : xs[q]? = some (i, .int x)) (hd : decode cc pc = .ok (.iload_n k, 1)) (hi : (k : Nat) = i) (h : NJ κ D A nL Q cells slots L f (pc + 1) xs (.int x :: st)) : NJ κ D A nL Q cells slots L f (pc) xs (st) := fun H locs ls hP hD hS hl => lv_iload_n C.ex C.cd hd hi (lv_at hl q hx) (h H locs ls hP hD hS hl)
theorem n_aload_n (C : NX κ D T A own cc nL fr lo mc ms) {k : Fin 4} {i : Nat} {x : Nat} (q : Nat) (hx : xs[q]? = some (i, .ref x)) (hd : decode cc pc = .ok (.aload_n k, 1)) (hi : (k : Nat) = i) (h : NJ κ D A nL Q cells slots L f (pc + 1) xs (.ref x :: st)) : NJ κ D A nL Q cells slots L f (pc) xs (st) := fun H locs ls hP hD hS hl => lv_aload_n C.ex C.cd hd hi (lv_at hl q hx) (h H locs ls hP hD hS hl)
theorem n_istore_n (C : NX κ D T A own cc nL fr lo mc ms) {k : Fin 4} {i : Nat} {x : Int32} (hd : decode cc pc = .ok (.istore_n k, 1)) (hi : (k : Nat) = i) (hn : i < nL) (hp : put i (.int x) xs = xs1) (h : NJ κ D A nL Q cells slots L f (pc + 1) xs1 (st)) : NJ κ D A nL Q cells slots L f (pc) xs (.int x :: st) := fun H locs ls hP hD hS hl => lv_istore_n C.ex C.cd hd hi hl hn rfl (fun ls2 hl2 => h H locs ls2 hP hD hS (hp ▸ put_has hl2))
theorem n_iinc (C : NX κ D T A own cc nL fr lo mc ms) {i : Nat} {n : Int} {x v : Int32} (q : Nat) (hx : xs[q]? = some (i, .int x)) (hd : decode cc pc = .ok (.iinc i n, 3)) (hv : x + Int32.ofInt n = v) (hn : i < nL) (hp : put i (.int v) xs = xs1) (h : NJ κ D A nL Q cells slots L f (pc + 3) xs1 (st)) : NJ κ D A nL Q cells slots L f (pc) xs (st) := fun H locs ls hP hD hS hl => lv_iinc C.ex C.cd hd hl hx hv hn rfl (fun ls2 hl2 => h H locs ls2 hP hD hS (hp ▸ put_has hl2))
theorem n_goto (C : NX κ D T A own cc nL fr lo mc ms) {off : Int} (tgt : Nat) (hd : decode cc pc = .ok (.goto off, 3)) (ht : (pc : Int) + off = (tgt : Int)) (h : NJ κ D A nL Q cells slots L f (tgt) xs (st)) : NJ κ D A nL Q cells slots L f (pc) xs (st) := fun H locs ls hP hD hS hl => lv_goto C.ex C.cd hd ht (h H locs ls hP hD hS hl)
theorem n_icmp_ge (C : NX κ D T A own cc nL fr lo mc ms) {x y : Int32} {off : Int} (tgt : Nat) (hd : decode cc pc = .ok (.if_icmp .ge off, 3)) (ht : (pc : Int) + off = (tgt : Int)) (h1 : y ≤ x → NJ κ D A nL Q cells slots L f (tgt) xs (st)) (h2 : ¬ y ≤ x → NJ κ D A nL Q cells slots L f (pc + 3) xs (st)) : NJ κ D A nL Q cells slots L f (pc) xs (.int y :: .int x :: st) := fun H locs ls hP hD hS hl => lv_icmp_ge C.ex C.cd hd ht (fun z => h1 z H locs ls hP hD hS hl) (fun z => h2 z H locs ls hP hD hS hl)
theorem n_objInit (C : NX κ D T A own cc nL fr lo mc ms) {idx a : Nat} (hw : Cond.methodLink own idx Lib.objectInit ∈ LW) (hfr : 1 ≤ fr) (hlo : 8 + 12 ≤ lo) (hst : (st.map fun v => v.category).sum ≤ 8) (hd : decode cc pc = .ok (.invokespecial idx, 3)) (h : NJ κ D A nL Q cells slots L f (pc + 3) xs (st)) : NJ κ D A nL Q cells slots L f (pc) xs (.ref a :: st) := fun H locs ls hP hD hS hl => W.objInit C.ex C.cd C.ow (C.ts _ hw) (C.ts _ w_oi.1) (C.ts _ w_oi.2) rfl (hl.1.trans C.ml.symm) rfl hd (by rw [C.R]; exact hfr) (by rw [C.R]; have := lv_room (m := km κ) (pc := pc) (ls := ls) (rest := .ref a :: st) hst; show _ ≤ lo; omega) (h H locs ls hP hD hS hl)
theorem n_newai (C : NX κ D T A own cc nL fr lo mc ms) {n : Int32} {N : Nat} (hw : Cond.arrayClass .int ∈ LW) (hn : ¬ n < 0) (hN : n.toNatClampNeg = N) (hb : N * componentBytes .int ≤ 536870912) (hc : cells + 1 ≤ mc) (hs : slots + N ≤ ms) (hd : decode cc pc = .ok (.newarray .int, 2)) (h : ∀ q, q ∉ L → NJ κ D A nL Q (cells + 1) (slots + N) (L ++ [q]) (va_up f q (.inl (T 0, N, .inl fun _ => 0))) (pc + 2) xs (.ref q :: st)) : NJ κ D A nL Q cells slots L f (pc) xs (.int n :: st) := by
  intro H locs ls hP hD hS hl
  refine va_newa (atype := .int) (ty := .int) (a0 := (N, .inl fun _ => 0)) C.ex C.cd (C.ts _ hw) rfl C.K hP hD hS C.hA (fun _ => rfl) hn hN hb (by rw [C.R]; exact hc) (by rw [C.R]; exact hs) hd (fun q cA H1 hK1 hP1 hD1 hS1 => ?_)
  have hcA : cA = T 0 := by
    have h1 := (hK1.2 5 (cA, .int) rfl).2
    exact Option.some.inj (h1.symm.trans C.ar.1)
  subst hcA
  have hq := pl_fresh hD1
  rw [va_pl_push hq] at hP1 hD1
  exact h q hq H1 locs ls hP1 hD1 hS1 hl
theorem n_newaz (C : NX κ D T A own cc nL fr lo mc ms) {n : Int32} {N : Nat} (hw : Cond.arrayClass .boolean ∈ LW) (hn : ¬ n < 0) (hN : n.toNatClampNeg = N) (hb : N * componentBytes .boolean ≤ 536870912) (hc : cells + 1 ≤ mc) (hs : slots + N ≤ ms) (hd : decode cc pc = .ok (.newarray .boolean, 2)) (h : ∀ q, q ∉ L → NJ κ D A nL Q (cells + 1) (slots + N) (L ++ [q]) (va_up f q (.inl (T 1, N, .inl fun _ => 0))) (pc + 2) xs (.ref q :: st)) : NJ κ D A nL Q cells slots L f (pc) xs (.int n :: st) := by
  intro H locs ls hP hD hS hl
  refine va_newa (atype := .boolean) (ty := .boolean) (a0 := (N, .inl fun _ => 0)) C.ex C.cd (C.ts _ hw) rfl C.K hP hD hS C.hA (fun _ => rfl) hn hN hb (by rw [C.R]; exact hc) (by rw [C.R]; exact hs) hd (fun q cA H1 hK1 hP1 hD1 hS1 => ?_)
  have hcA : cA = T 1 := by
    have h1 := (hK1.2 5 (cA, .boolean) rfl).2
    exact Option.some.inj (h1.symm.trans C.ar.2.1)
  subst hcA
  have hq := pl_fresh hD1
  rw [va_pl_push hq] at hP1 hD1
  exact h q hq H1 locs ls hP1 hD1 hS1 hl
theorem n_newq2 (C : NX κ D T A own cc nL fr lo mc ms) {n : Int32} {N idx : Nat} (hw : Cond.classLink own idx RX2 ∈ LW) (hn : ¬ n < 0) (hN : n.toNatClampNeg = N) (hb : N * 4 ≤ 536870912) (hc : cells + 1 ≤ mc) (hs : slots + N ≤ ms) (hd : decode cc pc = .ok (.anewarray idx, 3)) (h : ∀ q, q ∉ L → NJ κ D A nL Q (cells + 1) (slots + N) (L ++ [q]) (va_up f q (.inl (T 2, N, .inr (.inr (.inr (.inr (fun _ => none))))))) (pc + 3) xs (.ref q :: st)) : NJ κ D A nL Q cells slots L f (pc) xs (.int n :: st) := by
  intro H locs ls hP hD hS hl
  refine va_newq C.ex C.cd C.ow (C.ts _ hw) C.ax.2.1 C.K hP hD hS C.hA hn hN hb (by rw [C.R]; exact hc) (by rw [C.R]; exact hs) hd (fun q cA H1 hK1 hP1 hD1 hS1 => ?_)
  have hcA : cA = T 2 := by
    obtain ⟨_, _, _, _, _, h1⟩ := (hK1.2 5 (cA, .object RX2) rfl).2
    exact Option.some.inj (h1.symm.trans C.ar.2.2.1)
  subst hcA
  have hq := pl_fresh hD1
  rw [va_pl_push hq] at hP1 hD1
  exact h q hq H1 locs ls hP1 hD1 hS1 hl
theorem n_newq3 (C : NX κ D T A own cc nL fr lo mc ms) {n : Int32} {N idx : Nat} (hw : Cond.classLink own idx RX1 ∈ LW) (hn : ¬ n < 0) (hN : n.toNatClampNeg = N) (hb : N * 4 ≤ 536870912) (hc : cells + 1 ≤ mc) (hs : slots + N ≤ ms) (hd : decode cc pc = .ok (.anewarray idx, 3)) (h : ∀ q, q ∉ L → NJ κ D A nL Q (cells + 1) (slots + N) (L ++ [q]) (va_up f q (.inl (T 3, N, .inr (.inr (.inr (.inr (fun _ => none))))))) (pc + 3) xs (.ref q :: st)) : NJ κ D A nL Q cells slots L f (pc) xs (.int n :: st) := by
  intro H locs ls hP hD hS hl
  refine va_newq C.ex C.cd C.ow (C.ts _ hw) C.ax.2.2.1 C.K hP hD hS C.hA hn hN hb (by rw [C.R]; exact hc) (by rw [C.R]; exact hs) hd (fun q cA H1 hK1 hP1 hD1 hS1 => ?_)
  have hcA : cA = T 3 := by
    obtain ⟨_, _, _, _, _, h1⟩ := (hK1.2 5 (cA, .object RX1) rfl).2
    exact Option.some.inj (h1.symm.trans C.ar.2.2.2.1)
  subst hcA
  have hq := pl_fresh hD1
  rw [va_pl_push hq] at hP1 hD1
  exact h q hq H1 locs ls hP1 hD1 hS1 hl
theorem n_new (C : NX κ D T A own cc nL fr lo mc ms) {ci N idx : Nat} {Cn : String} {Tf : u_T} {ty : Nat → FieldType} (fs : List Value) (hc : classes[ci]? = some (Cn, Tf, N)) (hin : ∀ w ∈ u_ws Cn Tf N, w ∈ LW) (hty : ∀ k, k < N → parseFieldDescriptor (Tf k).2.2.1 = some (ty k)) (w1 : Cond.classLink own idx Cn ∈ LW) (w2 : Cond.instantiable Cn N ∈ LW) (w3 : Cond.initialized Cn ∈ LW) (hfs : ∀ j, j < N → defaultValue (ty j) = vp_V fs j) (h1 : cells + 1 ≤ mc) (h2 : slots + N ≤ ms) (hd : decode cc pc = .ok (.new idx, 3)) (h : ∀ q, q ∉ L → NJ κ D A nL Q (cells + 1) (slots + N) (L ++ [q]) (va_up f q (.inr (ci, fs))) (pc + 3) xs (.ref q :: st)) : NJ κ D A nL Q cells slots L f (pc) xs (st) := by
  intro H locs ls hP hD hS hl
  refine va_new (fs := fs) C.ex C.cd C.ts hin ty hty C.ow (C.ts _ w1) (C.ts _ w2) (C.ts _ w3) C.K hP hD hS C.hA hc hfs (by rw [C.R]; exact h1) (by rw [C.R]; exact h2) hd (fun q H1 hP1 hD1 hS1 => ?_)
  have hq := pl_fresh hD1
  rw [va_pl_push hq] at hP1 hD1
  exact h q hq H1 locs ls hP1 hD1 hS1 hl
def FFt (own : String) (idx ci k : Nat) (ty : FieldType) : Prop := ∃ (Cn : String) (Tf : u_T) (N : Nat) (tf : Nat → FieldType), classes[ci]? = some (Cn, Tf, N) ∧ (∀ w ∈ u_ws Cn Tf N, w ∈ LW) ∧ k < N ∧ Cond.fieldLink own idx (Tf k).1 (Tf k).2.1 (Tf k).2.2.1 ∈ LW ∧ (∀ k, k < N → parseFieldDescriptor (Tf k).2.2.1 = some (tf k)) ∧ (∀ a, a < N → ∀ b, b < N → a ≠ b → (Tf a).2.1 ≠ (Tf b).2.1) ∧ (Tf k).2.2.2 = true ∧ (Tf k).1 = own ∧ parseFieldDescriptor (Tf k).2.2.1 = some ty
theorem n_putF (C : NX κ D T A own cc nL fr lo mc ms) {idx ci k a v : Nat} {fs : List Value} {ty : FieldType} (hin2 : (kt κ).name = "<init>") (F : FFt own idx ci k ty) (ha : a ∈ L) (hf : f a = .inr (ci, fs)) (hl0 : k < fs.length) (hnw : narrow ty (.ref v) = .ref v) (hfi : fits ty (.ref v) = true) (hd : decode cc pc = .ok (.putfield idx, 3)) (h : NJ κ D A nL Q cells slots L (va_up f a (.inr (ci, fs.set k (.ref v)))) (pc + 3) xs (st)) : NJ κ D A nL Q cells slots L f (pc) xs (.ref v :: .ref a :: st) := by
  obtain ⟨Cn, Tf, N, tf, hc, hin, hk, hw, hty, hnm, hfin, hdecl, hd1⟩ := F
  intro H locs ls hP hD hS hl
  obtain ⟨q, hq⟩ := pl_at (f := f) ha
  refine va_putF C.ex C.cd C.ts hin tf hty hnm C.ow C.K hP hD hS q (hq.trans (by rw [hf])) hc k hk (C.ts _ hw) (fun _ z => z) hfin hin2 hdecl hd1 hnw hfi hl0 hd (fun H1 locs1 hP1 hD1 hS1 => ?_)
  rw [pl_set hD ha hq] at hP1 hD1
  exact h H1 locs1 ls hP1 hD1 hS1 hl
theorem n_get (C : NX κ D T A own cc nL fr lo mc ms) {idx ci k a : Nat} {fs : List Value} {v : Value} (F : FL own idx ci k) (ha : a ∈ L) (hf : f a = .inr (ci, fs)) (hv : fs[k]? = some v) (hd : decode cc pc = .ok (.getfield idx, 3)) (h : NJ κ D A nL Q cells slots L f (pc + 3) xs (v :: st)) : NJ κ D A nL Q cells slots L f (pc) xs (.ref a :: st) := by
  obtain ⟨Cn, Tf, N, hc, hin, hk, hw⟩ := F
  intro H locs ls hP hD hS hl
  obtain ⟨q, hq⟩ := pl_at (f := f) ha
  exact va_get C.ex C.cd C.ts hin C.ow C.K hP q (hq.trans (by rw [hf])) hc k hk (C.ts _ hw) (fun _ z => z) hv hd (h H locs ls hP hD hS hl)
theorem n_alen2 (C : NX κ D T A own cc nL fr lo mc ms) {a N : Nat} {e : Nat → Option Nat} {v : Int32} (ha : a ∈ L) (hf : f a = .inl (T 2, N, .inr (.inr (.inr (.inr e))))) (hv : Int32.ofNat N = v) (hd : decode cc pc = .ok (.arraylength, 1)) (h : NJ κ D A nL Q cells slots L f (pc + 1) xs (.int v :: st)) : NJ κ D A nL Q cells slots L f (pc) xs (.ref a :: st) := by
  intro H locs ls hP hD hS hl
  obtain ⟨q, hq⟩ := pl_at (f := f) ha
  exact va_alen C.ex C.cd C.K hP q 2 (hq.trans (by rw [hf])) rfl hv hd (h H locs ls hP hD hS hl)
theorem n_ast2 (C : NX κ D T A own cc nL fr lo mc ms) {a v N : Nat} {e : Nat → Option Nat} {vs : List Value} {i : Int32} (ha : a ∈ L) (hv : v ∈ L) (hf : f a = .inl (T 2, N, .inr (.inr (.inr (.inr e))))) (hg : f v = .inr (2, vs)) (hi : vp_in i N) (hd : decode cc pc = .ok (.aastore, 1)) (h : NJ κ D A nL Q cells slots L (va_up f a (.inl (T 2, N, .inr (.inr (.inr (.inr (va_up e i.toNatClampNeg (some v)))))))) (pc + 1) xs (st)) : NJ κ D A nL Q cells slots L f (pc) xs (.ref v :: .int i :: .ref a :: st) := by
  intro H locs ls hP hD hS hl
  obtain ⟨q, hq⟩ := pl_at (f := f) ha
  obtain ⟨qv, hqv⟩ := pl_at (f := f) hv
  refine va_astq C.ex C.cd C.K hP hD hS q 2 qv 2 (hq.trans (by rw [hf])) rfl (hqv.trans (by rw [hg])) rfl hi hd (fun H1 locs1 hP1 hD1 hS1 => ?_)
  rw [pl_set hD ha hq] at hP1 hD1
  exact h H1 locs1 ls hP1 hD1 hS1 hl

theorem preN_blind (av : List Value) (sz : Nat) (L : List Nat) (f : Nat → va_E) : FrameBlind (va_Pc av (PreN D T sz L f)) := fun a U fr mk q => by
  obtain ⟨q1, q2, q3, q4, q5, q6, q7⟩ := q
  exact ⟨q1, q2, q3, va_K.moved (u := U) (U := U.calling fr mk a) (Vm.Alike.refl U.vm) q4, arN.moved (u := U) (U := U.calling fr mk a) (Vm.Alike.refl U.vm) q5, q6, auxN.same (u := U) (U := U.calling fr mk a) rfl q7⟩
theorem n_run {Post : List Nat → (Nat → va_E) → Prop} {a : Array Value} {st0 rest : List Value} {H : Heap} {locs : List Loc} {ls : Array Slot} {mb sb : Nat} (C : NX κ D T A own cc nL fr lo mc ms) (hD : va_D A (va_pl L f)) (hS : va_S A (ks κ).heap H locs) (hl : lv_has ls nL xs)
    (hr : va_Run (kp κ) (kl κ) (ke κ) (kR κ) (ks κ) (km κ) (ka κ) (kb κ) (kt κ) (kc κ) H locs cells slots mb sb (F0 (km κ) pc ls st0) rest (QN D H.size L Post a) (fun q => q ∈ L ∨ H.size ≤ q))
    (kk : ∀ ns f1, Post ns f1 → (∀ x ∈ ns, x ∉ L) → NJ κ D A nL Q (cells + mb) (slots + sb) (L ++ ns) f1 (pc + 3) xs rest) : W (kp κ) (kl κ) (ke κ) (kR κ) (ks κ) (km κ) (ka κ) (kb κ) (kt κ) (kc κ) H locs cells slots Q (F0 (km κ) pc ls st0) := by
  have hin : ∀ q, q ∈ L ∨ H.size ≤ q → A q := fun q hq => by
    rcases hq with hq | hq
    · obtain ⟨k, hk⟩ := pl_at (f := f) hq
      exact hD.2 k _ hk
    · exact C.hA q (Nat.le_trans hS.1 hq)
  intro X hX XX
  obtain ⟨v, st₀, t, X', L1, h0, XX', hL, e1, e2, ⟨hv, ⟨ns, f1, hpost, hp, hd⟩, hz, hk⟩, sx⟩ := hr X hX XX
  cases hv
  rw [h0] at hz hk
  obtain ⟨t2, a1, b1⟩ := kk ns f1 hpost (pl_dis hd) X'.heap (locs ++ L1) ls (by rw [e1]; exact hp) (hd.weaken (fun _ _ _ z => hin _ z))
    ⟨Nat.le_trans hS.1 (by rw [e1]; exact hz), fun q h1 h2 => by rw [e1, hk q (Nat.lt_of_lt_of_le h1 hS.1) (fun z => h2 (hin q z))]; exact hS.2.1 q h1 h2, fun q hq => by
      rcases List.mem_append.mp hq with h | h
      · exact hS.2.2 q h
      · exact hin _ (hL q h)⟩ hl X' rfl XX'
  exact ⟨t2, sx t2 a1, b1⟩
theorem n_pre (C : NX κ D T A own cc nL fr lo mc ms) {H : Heap} {U : State} (hP : va_P D classes (va_pl L f) H) (hD : va_D A (va_pl L f)) (hU : U.heap = H) (hW : (ks κ).WarmedH U.vm) : PreN D T H.size L f U :=
  ⟨by rw [hU], by rw [hU]; exact hP, va_K.moved hW.alike C.K, C.ar.moved hW.alike, hD.weaken (fun _ _ _ _ => trivial), C.ax.warm hW⟩
theorem n_callIN (C : NX κ D T A own cc nL fr lo mc ms) {idx nb fb lb mb sb a : Nat} {y : MethodName} {cb : ByteArray} {host : String} {rest : List Value} {Post : List Nat → (Nat → va_E) → Prop} (hn : Cond.methodLinkNest own idx y host ∈ NB) (w1 : Cond.instanceMethod y ∈ LW) (w2 : Cond.initialized y.cls ∈ LW) (w3 : Cond.code y cb nb none ∈ LW) (hy : y.name = "<init>" ∧ y.cls ≠ "java/lang/invoke/MethodHandle" ∧ y.cls ≠ "java/lang/invoke/VarHandle" ∧ (parseMethodDescriptor y.desc).map (fun d => d.parameters.length) = some 0)
    (hM : ∀ sz, CN (kl κ) y cb nb fb lb mb sb D T [.ref a] sz L f Post) (hR : fb + 1 ≤ fr ∧ 8 + (nb + 11) + lb ≤ lo) (hc : cells + mb ≤ mc ∧ slots + sb ≤ ms) (hw : (rest.map fun v => v.category).sum ≤ 8) (hd : decode cc pc = .ok (.invokespecial idx, 3)) (h : ∀ ns f1, Post ns f1 → (∀ x ∈ ns, x ∉ L) → NJ κ D A nL Q (cells + mb) (slots + sb) (L ++ ns) f1 (pc + 3) xs rest) : NJ κ D A nL Q cells slots L f pc xs (.ref a :: rest) := by
  intro H locs ls hP hD hS hl
  refine n_run (a := ([.ref a] : List Value).toArray) (rest := rest) C hD hS hl (va_runIN (Ts := LW) (own := own) (host := host) (nL := nL) (cc := cc) (As := []) (n := 0) ⟨C.ex, C.cd, C.ml, C.ow, C.ts⟩ (hM H.size) ⟨va_cnB 0 C.ts (goodIn_wsOf w3) rfl rfl rfl (C.ax.1 _ hn) (C.ts _ w2) ⟨hy.2.1, hy.2.2.1, hy.2.2.2⟩ (by rw [C.R]; exact hR), hy.1, C.ts _ w1⟩ ⟨preN_blind _ _ _ _, fun U hU hW => ⟨rfl, n_pre C hP hD hU hW⟩⟩ rfl rfl hl.1 rfl (lv_room hw) hd (by rw [C.R]; exact hc)) h
theorem n_callI (C : NX κ D T A own cc nL fr lo mc ms) {idx nb fb lb mb sb a : Nat} {y : MethodName} {cb : ByteArray} {rest : List Value} {Post : List Nat → (Nat → va_E) → Prop} (hn : Cond.methodLink own idx y ∈ LW) (w1 : Cond.instanceMethod y ∈ LW) (w2 : Cond.initialized y.cls ∈ LW) (w3 : Cond.code y cb nb none ∈ LW) (hy : y.name = "<init>" ∧ y.cls ≠ "java/lang/invoke/MethodHandle" ∧ y.cls ≠ "java/lang/invoke/VarHandle" ∧ (parseMethodDescriptor y.desc).map (fun d => d.parameters.length) = some 0)
    (hM : ∀ sz, CN (kl κ) y cb nb fb lb mb sb D T [.ref a] sz L f Post) (hR : fb + 1 ≤ fr ∧ 8 + (nb + 11) + lb ≤ lo) (hc : cells + mb ≤ mc ∧ slots + sb ≤ ms) (hw : (rest.map fun v => v.category).sum ≤ 8) (hd : decode cc pc = .ok (.invokespecial idx, 3)) (h : ∀ ns f1, Post ns f1 → (∀ x ∈ ns, x ∉ L) → NJ κ D A nL Q (cells + mb) (slots + sb) (L ++ ns) f1 (pc + 3) xs rest) : NJ κ D A nL Q cells slots L f pc xs (.ref a :: rest) := by
  intro H locs ls hP hD hS hl
  refine n_run (a := ([.ref a] : List Value).toArray) (rest := rest) C hD hS hl (va_runI (Ts := LW) (own := own) (nL := nL) (cc := cc) (As := []) (n := 0) ⟨C.ex, C.cd, C.ml, C.ow, C.ts⟩ (hM H.size) ⟨callB_of 0 C.ts (goodIn_wsOf w3) rfl rfl rfl (C.ts _ w2) (C.ts _ hn) ⟨hy.2.1, hy.2.2.1, hy.2.2.2⟩ (by rw [C.R]; exact hR), hy.1, C.ts _ w1⟩ ⟨preN_blind _ _ _ _, fun U hU hW => ⟨rfl, n_pre C hP hD hU hW⟩⟩ rfl rfl hl.1 rfl (lv_room hw) hd (by rw [C.R]; exact hc)) h
end NROWS
theorem n_vret {κ : KT} {D : va_G} {T : Nat → ClassId} {own : String} {cc : ByteArray} {nL fr lo mc ms sz pc : Nat} {L ns : List Nat} {f1 : Nat → va_E} {xs : List (Nat × Value)} {Post : List Nat → (Nat → va_E) → Prop} (C : NX κ D T (fun q => q ∈ L ∨ sz ≤ q) own cc nL fr lo mc ms) (hr : (kt κ).sig.returnType = none) (hp : Post ns f1) (hd : decode cc pc = .ok (.return_, 1)) : NJ κ D (fun q => q ∈ L ∨ sz ≤ q) nL (MQ (kb κ) (QN D sz L Post) (ka κ) (ks κ) mc ms (fun q => q ∈ L ∨ sz ≤ q)) mc ms (L ++ ns) f1 pc xs [] :=
  fun H locs ls hP hD hS hl => W.vret C.ex C.cd hr (fun t ht _ => ⟨rfl, ⟨ns, f1, hp, ht ▸ hP, hD⟩, hS.F ht⟩) hS.2.2 hd C.lk
theorem CN_of {l : Launch} {y : MethodName} {cc : ByteArray} {nL fr lo mc ms sz : Nat} {D : va_G} {T : Nat → ClassId} {L : List Nat} {f : Nat → va_E} {Post : List Nat → (Nat → va_E) → Prop} (av : List Value) {xs : List (Nat × Value)} (hy : plainName y.cls = true) (hlen : (lg_sl av).length ≤ nL) (hxs : lv_args 0 av = xs)
    (body : ∀ κ : KT, NX κ D T (fun q => q ∈ L ∨ sz ≤ q) y.cls cc nL fr lo mc ms → (kt κ).sig.returnType = none → (kt κ).name = y.name → NJ κ D (fun q => q ∈ L ∨ sz ≤ q) nL (MQ (kb κ) (QN D sz L Post) (ka κ) (ks κ) mc ms (fun q => q ∈ L ∨ sz ≤ q)) 0 0 L f 0 xs []) : CN l y cc nL fr lo mc ms D T av sz L f Post := by
  refine Met.ofW (cc := cc) (maxL := nL) (ret := none) hy rfl ?_
  intro p e s m args below meth c s₁ B hml hv
  obtain ⟨rfl, hsz, hP, hK, hN, hD, hax⟩ := hv
  have hts := atoms_spec (ws := wsOf y cc nL none) B.pre
  subst hsz
  have C : NX (p, l, e, (headSpec (wsOf y cc nL none) { frames := fr, cells := mc, slots := ms, locals := lo }).room, s, m, av.toArray, below, meth, c) D T (fun q => q ∈ L ∨ s.heap.size ≤ q) y.cls cc nL fr lo mc ms :=
    ⟨B.exec, B.bytes, hml, findClass_of_methodNamed B.named, fun w h => hts w (List.mem_cons_of_mem _ h), B.notSynchronized, hK, hN, hax, fun q h => Or.inr h, rfl⟩
  have hl := lv_entry av (n := nL) hlen
  rw [lg_entry_eq]
  refine body _ C B.returns (name_of_methodNamed B.named B.method).1 s.heap [] _ hP ⟨hD.1, fun k q hk => Or.inl ?_⟩ va_S.rf (hxs ▸ hl)
  obtain ⟨a, ha, e⟩ := List.mem_map.mp (List.mem_of_getElem? hk)
  subst e
  exact ha

