/-! A WORLD THAT MAY GET NODES: rows for the law and for image -/
def statA (t1 t2 : Nat) (A : Nat → Prop) (U : State) (H : Heap) : Prop := (va_Z RX3 "OF_SET" "[I" (.ref t1) A U H ∧ va_T .int t1 16 (fun j => .int (ofs j)) A U H) ∧ va_Z RX7 "STEPS" "[I" (.ref t2) A U H ∧ va_T .int t2 16 (fun j => .int (stp j)) A U H
theorem statA.narrow {t1 t2 : Nat} {A B : Nat → Prop} {U : State} {H : Heap} (h : statA t1 t2 A U H) (hAB : ∀ q, B q → A q) : statA t1 t2 B U H := ⟨⟨h.1.1.narrow hAB, h.1.2.narrow hAB⟩, h.2.1.narrow hAB, h.2.2.narrow hAB⟩
theorem statA.kept {t1 t2 : Nat} {A : Nat → Prop} {U : State} {H H1 : Heap} (h : statA t1 t2 A U H) (hq : ∀ a : Nat, a < H.size → ¬ A a → H1[a]? = H[a]?) : statA t1 t2 A U H1 := ⟨⟨h.1.1.kept hq, h.1.2.kept hq⟩, h.2.1.kept hq, h.2.2.kept hq⟩
theorem statA.moved {t1 t2 : Nat} {A : Nat → Prop} {u U : State} {H : Heap} (hvm : u.vm.Alike U.vm) (h : statA t1 t2 A u H) : statA t1 t2 A U H := ⟨⟨h.1.1.moved hvm, h.1.2.moved hvm⟩, h.2.1.moved hvm, h.2.2.moved hvm⟩
def GX (κ : KT) (D : va_G) (T : Nat → ClassId) (t1 t2 : Nat) (A : Nat → Prop) (own : String) (cc : ByteArray) (nL fr lo mc ms : Nat) : Prop := NX κ D T A own cc nL fr lo mc ms ∧ statA t1 t2 A (ks κ) (ks κ).heap
/-- the addresses of g are good ones -/
def GOK (D : va_G) (T : Nat → ClassId) (t1 t2 : Nat) (A : Nat → Prop) (g : GT) : Prop := gD g = D ∧ gT g = T ∧ gs1 g = t1 ∧ gs2 g = t2 ∧ ∀ S : St, va_D A (wN g S)
def GJ (κ : KT) (A : Nat → Prop) (nL : Nat) (Q : State → Prop) (cells slots : Nat) (g : GT) (S : St) (pc : Nat) (xs : List (Nat × Value)) (st : List Value) : Prop :=
  ∀ (H : Heap) (locs : List Loc) (ls : Array Slot), va_P (gD g) classes (wN g S) H → va_S A (ks κ).heap H locs → lv_has ls nL xs →
    W (kp κ) (kl κ) (ke κ) (kR κ) (ks κ) (km κ) (ka κ) (kb κ) (kt κ) (kc κ) H locs cells slots Q (F0 (km κ) pc ls st)
theorem live_of_mem {g : GT} {n : Nat} (h : n ∈ liveL g) : lvb g n = true := (List.mem_filter.mp h).2
theorem GOK.in {D : va_G} {T : Nat → ClassId} {t1 t2 : Nat} {A : Nat → Prop} {g : GT} (h : GOK D T t1 t2 A g) : ∀ q, gAd g q → A q := fun q hq => by
  obtain ⟨n, hn, rfl⟩ := hq
  obtain ⟨k, hk⟩ := live_place hn
  exact (h.2.2.2.2 S0).2 k _ (ws_at (S := S0) hk)
theorem GOK.own {D : va_G} {T : Nat → ClassId} {t1 t2 : Nat} {A : Nat → Prop} {g : GT} (h : GOK D T t1 t2 A g) (S : St) : va_D (gAd g) (wN g S) := ⟨(h.2.2.2.2 S).1, fun k q hk => by
  unfold wN at hk
  rw [List.getElem?_map] at hk
  obtain ⟨n, hn, rfl⟩ := Option.map_eq_some_iff.mp hk
  exact ⟨n, live_of_mem (List.mem_of_getElem? hn), rfl⟩⟩
section GROWS
variable {κ : KT} {D : va_G} {T : Nat → ClassId} {t1 t2 : Nat} {A : Nat → Prop} {own : String} {cc : ByteArray} {nL fr lo mc ms : Nat} {Q : State → Prop} {cells slots : Nat} {g : GT} {S : St} {pc : Nat} {xs xs1 : List (Nat × Value)} {st : List Value}

theorem g_iconst (C : GX κ D T t1 t2 A own cc nL fr lo mc ms) {n : Int} {v : Int32} (hv : Int32.ofInt n = v) (hd : decode cc pc = .ok (.iconst n, 1)) (h : GJ κ A nL Q cells slots g S (pc + 1) xs (.int v :: st)) : GJ κ A nL Q cells slots g S (pc) xs (st) := fun H locs ls hP hS hl => lv_iconst C.1.ex C.1.cd hd hv (h H locs ls hP hS hl)
theorem g_bipush (C : GX κ D T t1 t2 A own cc nL fr lo mc ms) {n : Int} {v : Int32} (hv : (Int8.ofInt n).toInt32 = v) (hd : decode cc pc = .ok (.bipush n, 2)) (h : GJ κ A nL Q cells slots g S (pc + 2) xs (.int v :: st)) : GJ κ A nL Q cells slots g S (pc) xs (st) := fun H locs ls hP hS hl => lv_bipush C.1.ex C.1.cd hd hv (h H locs ls hP hS hl)
theorem g_iload_n (C : GX κ D T t1 t2 A own cc nL fr lo mc ms) {k : Fin 4} {i : Nat} {x : Int32} (q : Nat) (hx : xs[q]? = some (i, .int x)) (hd : decode cc pc = .ok (.iload_n k, 1)) (hi : (k : Nat) = i) (h : GJ κ A nL Q cells slots g S (pc + 1) xs (.int x :: st)) : GJ κ A nL Q cells slots g S (pc) xs (st) := fun H locs ls hP hS hl => lv_iload_n C.1.ex C.1.cd hd hi (lv_at hl q hx) (h H locs ls hP hS hl)
theorem g_istore_n (C : GX κ D T t1 t2 A own cc nL fr lo mc ms) {k : Fin 4} {i : Nat} {x : Int32} (hd : decode cc pc = .ok (.istore_n k, 1)) (hi : (k : Nat) = i) (hn : i < nL) (hp : put i (.int x) xs = xs1) (h : GJ κ A nL Q cells slots g S (pc + 1) xs1 (st)) : GJ κ A nL Q cells slots g S (pc) xs (.int x :: st) := fun H locs ls hP hS hl => lv_istore_n C.1.ex C.1.cd hd hi hl hn rfl (fun ls2 hl2 => h H locs ls2 hP hS (hp ▸ put_has hl2))
theorem g_aload_n (C : GX κ D T t1 t2 A own cc nL fr lo mc ms) {k : Fin 4} {i : Nat} {x : Nat} (q : Nat) (hx : xs[q]? = some (i, .ref x)) (hd : decode cc pc = .ok (.aload_n k, 1)) (hi : (k : Nat) = i) (h : GJ κ A nL Q cells slots g S (pc + 1) xs (.ref x :: st)) : GJ κ A nL Q cells slots g S (pc) xs (st) := fun H locs ls hP hS hl => lv_aload_n C.1.ex C.1.cd hd hi (lv_at hl q hx) (h H locs ls hP hS hl)
theorem g_astore_n (C : GX κ D T t1 t2 A own cc nL fr lo mc ms) {k : Fin 4} {i : Nat} {x : Nat} (hd : decode cc pc = .ok (.astore_n k, 1)) (hi : (k : Nat) = i) (hn : i < nL) (hp : put i (.ref x) xs = xs1) (h : GJ κ A nL Q cells slots g S (pc + 1) xs1 (st)) : GJ κ A nL Q cells slots g S (pc) xs (.ref x :: st) := fun H locs ls hP hS hl => lv_astore_n C.1.ex C.1.cd hd hi hl hn rfl (fun ls2 hl2 => h H locs ls2 hP hS (hp ▸ put_has hl2))
theorem g_iinc (C : GX κ D T t1 t2 A own cc nL fr lo mc ms) {i : Nat} {n : Int} {x v : Int32} (q : Nat) (hx : xs[q]? = some (i, .int x)) (hd : decode cc pc = .ok (.iinc i n, 3)) (hv : x + Int32.ofInt n = v) (hn : i < nL) (hp : put i (.int v) xs = xs1) (h : GJ κ A nL Q cells slots g S (pc + 3) xs1 (st)) : GJ κ A nL Q cells slots g S (pc) xs (st) := fun H locs ls hP hS hl => lv_iinc C.1.ex C.1.cd hd hl hx hv hn rfl (fun ls2 hl2 => h H locs ls2 hP hS (hp ▸ put_has hl2))
theorem g_iadd (C : GX κ D T t1 t2 A own cc nL fr lo mc ms) {x y : Int32} (hd : decode cc pc = .ok (.iadd, 1)) (h : GJ κ A nL Q cells slots g S (pc + 1) xs (.int (x + y) :: st)) : GJ κ A nL Q cells slots g S (pc) xs (.int y :: .int x :: st) := fun H locs ls hP hS hl => lv_iadd C.1.ex C.1.cd hd (h H locs ls hP hS hl)
theorem g_isub (C : GX κ D T t1 t2 A own cc nL fr lo mc ms) {x y : Int32} (hd : decode cc pc = .ok (.isub, 1)) (h : GJ κ A nL Q cells slots g S (pc + 1) xs (.int (x - y) :: st)) : GJ κ A nL Q cells slots g S (pc) xs (.int y :: .int x :: st) := fun H locs ls hP hS hl => lv_isub C.1.ex C.1.cd hd (h H locs ls hP hS hl)
theorem g_iand (C : GX κ D T t1 t2 A own cc nL fr lo mc ms) {x y : Int32} (hd : decode cc pc = .ok (.iand, 1)) (h : GJ κ A nL Q cells slots g S (pc + 1) xs (.int (x &&& y) :: st)) : GJ κ A nL Q cells slots g S (pc) xs (.int y :: .int x :: st) := fun H locs ls hP hS hl => lv_iand C.1.ex C.1.cd hd (h H locs ls hP hS hl)
theorem g_lcmp (C : GX κ D T t1 t2 A own cc nL fr lo mc ms) {x y : Int64} (hd : decode cc pc = .ok (.lcmp, 1)) (h : GJ κ A nL Q cells slots g S (pc + 1) xs (.int (lg_cmp x y) :: st)) : GJ κ A nL Q cells slots g S (pc) xs (.long y :: .long x :: st) := fun H locs ls hP hS hl => W.lcmp C.1.ex C.1.cd hd (h H locs ls hP hS hl)
theorem g_goto (C : GX κ D T t1 t2 A own cc nL fr lo mc ms) {off : Int} (tgt : Nat) (hd : decode cc pc = .ok (.goto off, 3)) (ht : (pc : Int) + off = (tgt : Int)) (h : GJ κ A nL Q cells slots g S (tgt) xs (st)) : GJ κ A nL Q cells slots g S (pc) xs (st) := fun H locs ls hP hS hl => lv_goto C.1.ex C.1.cd hd ht (h H locs ls hP hS hl)
theorem g_if_eq (C : GX κ D T t1 t2 A own cc nL fr lo mc ms) {x : Int32} {off : Int} (tgt : Nat) (hd : decode cc pc = .ok (.ifCond .eq off, 3)) (ht : (pc : Int) + off = (tgt : Int)) (h1 : x = 0 → GJ κ A nL Q cells slots g S (tgt) xs (st)) (h2 : ¬ (x = 0) → GJ κ A nL Q cells slots g S (pc + 3) xs (st)) : GJ κ A nL Q cells slots g S (pc) xs (.int x :: st) := fun H locs ls hP hS hl => lv_if_eq C.1.ex C.1.cd hd ht (fun z => h1 z H locs ls hP hS hl) (fun z => h2 z H locs ls hP hS hl)
theorem g_icmp_eq (C : GX κ D T t1 t2 A own cc nL fr lo mc ms) {x y : Int32} {off : Int} (tgt : Nat) (hd : decode cc pc = .ok (.if_icmp .eq off, 3)) (ht : (pc : Int) + off = (tgt : Int)) (h1 : x = y → GJ κ A nL Q cells slots g S (tgt) xs (st)) (h2 : ¬ (x = y) → GJ κ A nL Q cells slots g S (pc + 3) xs (st)) : GJ κ A nL Q cells slots g S (pc) xs (.int y :: .int x :: st) := fun H locs ls hP hS hl => lv_icmp_eq C.1.ex C.1.cd hd ht (fun z => h1 z H locs ls hP hS hl) (fun z => h2 z H locs ls hP hS hl)
theorem g_if_lt (C : GX κ D T t1 t2 A own cc nL fr lo mc ms) {x : Int32} {off : Int} (tgt : Nat) (hd : decode cc pc = .ok (.ifCond .lt off, 3)) (ht : (pc : Int) + off = (tgt : Int)) (h1 : x < 0 → GJ κ A nL Q cells slots g S (tgt) xs (st)) (h2 : ¬ (x < 0) → GJ κ A nL Q cells slots g S (pc + 3) xs (st)) : GJ κ A nL Q cells slots g S (pc) xs (.int x :: st) := fun H locs ls hP hS hl => lv_if_lt C.1.ex C.1.cd hd ht (fun z => h1 z H locs ls hP hS hl) (fun z => h2 z H locs ls hP hS hl)
theorem g_icmp_lt (C : GX κ D T t1 t2 A own cc nL fr lo mc ms) {x y : Int32} {off : Int} (tgt : Nat) (hd : decode cc pc = .ok (.if_icmp .lt off, 3)) (ht : (pc : Int) + off = (tgt : Int)) (h1 : x < y → GJ κ A nL Q cells slots g S (tgt) xs (st)) (h2 : ¬ (x < y) → GJ κ A nL Q cells slots g S (pc + 3) xs (st)) : GJ κ A nL Q cells slots g S (pc) xs (.int y :: .int x :: st) := fun H locs ls hP hS hl => lv_icmp_lt C.1.ex C.1.cd hd ht (fun z => h1 z H locs ls hP hS hl) (fun z => h2 z H locs ls hP hS hl)
theorem g_if_ge (C : GX κ D T t1 t2 A own cc nL fr lo mc ms) {x : Int32} {off : Int} (tgt : Nat) (hd : decode cc pc = .ok (.ifCond .ge off, 3)) (ht : (pc : Int) + off = (tgt : Int)) (h1 : 0 ≤ x → GJ κ A nL Q cells slots g S (tgt) xs (st)) (h2 : ¬ (0 ≤ x) → GJ κ A nL Q cells slots g S (pc + 3) xs (st)) : GJ κ A nL Q cells slots g S (pc) xs (.int x :: st) := fun H locs ls hP hS hl => lv_if_ge C.1.ex C.1.cd hd ht (fun z => h1 z H locs ls hP hS hl) (fun z => h2 z H locs ls hP hS hl)
theorem g_icmp_ge (C : GX κ D T t1 t2 A own cc nL fr lo mc ms) {x y : Int32} {off : Int} (tgt : Nat) (hd : decode cc pc = .ok (.if_icmp .ge off, 3)) (ht : (pc : Int) + off = (tgt : Int)) (h1 : y ≤ x → GJ κ A nL Q cells slots g S (tgt) xs (st)) (h2 : ¬ (y ≤ x) → GJ κ A nL Q cells slots g S (pc + 3) xs (st)) : GJ κ A nL Q cells slots g S (pc) xs (.int y :: .int x :: st) := fun H locs ls hP hS hl => lv_icmp_ge C.1.ex C.1.cd hd ht (fun z => h1 z H locs ls hP hS hl) (fun z => h2 z H locs ls hP hS hl)
theorem g_if_gt (C : GX κ D T t1 t2 A own cc nL fr lo mc ms) {x : Int32} {off : Int} (tgt : Nat) (hd : decode cc pc = .ok (.ifCond .gt off, 3)) (ht : (pc : Int) + off = (tgt : Int)) (h1 : 0 < x → GJ κ A nL Q cells slots g S (tgt) xs (st)) (h2 : ¬ (0 < x) → GJ κ A nL Q cells slots g S (pc + 3) xs (st)) : GJ κ A nL Q cells slots g S (pc) xs (.int x :: st) := fun H locs ls hP hS hl => lv_if_gt C.1.ex C.1.cd hd ht (fun z => h1 z H locs ls hP hS hl) (fun z => h2 z H locs ls hP hS hl)
theorem g_icmp_gt (C : GX κ D T t1 t2 A own cc nL fr lo mc ms) {x y : Int32} {off : Int} (tgt : Nat) (hd : decode cc pc = .ok (.if_icmp .gt off, 3)) (ht : (pc : Int) + off = (tgt : Int)) (h1 : y < x → GJ κ A nL Q cells slots g S (tgt) xs (st)) (h2 : ¬ (y < x) → GJ κ A nL Q cells slots g S (pc + 3) xs (st)) : GJ κ A nL Q cells slots g S (pc) xs (.int y :: .int x :: st) := fun H locs ls hP hS hl => lv_icmp_gt C.1.ex C.1.cd hd ht (fun z => h1 z H locs ls hP hS hl) (fun z => h2 z H locs ls hP hS hl)
theorem g_tswIn (C : GX κ D T t1 t2 A own cc nL fr lo mc ms) {x v : Int32} {dflt lo1 hi off : Int} {offs : Array Int} {len : Nat} (tgt : Nat) (hx : x = v) (hd : decode cc pc = .ok (.tableswitch dflt lo1 hi offs, len)) (h1 : ¬ v.toInt < lo1) (h2 : ¬ hi < v.toInt) (ho1 : offs[(v.toInt - lo1).toNat]? = some off) (ht : (pc : Int) + off = (tgt : Int)) (h : GJ κ A nL Q cells slots g S (tgt) xs (st)) : GJ κ A nL Q cells slots g S (pc) xs (.int x :: st) := by
  subst hx
  exact fun H locs ls hP hS hl => lv_tableIn C.1.ex C.1.cd hd h1 h2 ho1 ht (h H locs ls hP hS hl)
theorem g_tswOut (C : GX κ D T t1 t2 A own cc nL fr lo mc ms) {x : Int32} {dflt lo1 hi : Int} {offs : Array Int} {len : Nat} (tgt : Nat) (hd : decode cc pc = .ok (.tableswitch dflt lo1 hi offs, len)) (hx : x.toInt < lo1 ∨ hi < x.toInt) (ht : (pc : Int) + dflt = (tgt : Int)) (h : GJ κ A nL Q cells slots g S (tgt) xs (st)) : GJ κ A nL Q cells slots g S (pc) xs (.int x :: st) := fun H locs ls hP hS hl => lv_tableOut C.1.ex C.1.cd hd hx ht (h H locs ls hP hS hl)
theorem g_sld (C : GX κ D T t1 t2 A own cc nL fr lo mc ms) {b L : Nat} {ys : Nat → Int32} {i : Int32} (hX : va_X b L ys (ks κ) (ks κ).heap) (hbl : b < (ks κ).heap.size) (hbA : ¬ A b) (hi : vp_in i L) (hd : decode cc pc = .ok (.iaload, 1)) (h : GJ κ A nL Q cells slots g S (pc + 1) xs (.int (ys i.toNatClampNeg) :: st)) : GJ κ A nL Q cells slots g S (pc) xs (.int i :: .ref b :: st) := fun H locs ls hP hS hl => va_sld C.1.ex C.1.cd hX hbl hbA hS hi hd (h H locs ls hP hS hl)
theorem g_slen (C : GX κ D T t1 t2 A own cc nL fr lo mc ms) {b L : Nat} {ys : Nat → Int32} (hX : va_X b L ys (ks κ) (ks κ).heap) (hbl : b < (ks κ).heap.size) (hbA : ¬ A b) (hd : decode cc pc = .ok (.arraylength, 1)) (h : GJ κ A nL Q cells slots g S (pc + 1) xs (.int (Int32.ofNat L) :: st)) : GJ κ A nL Q cells slots g S (pc) xs (.ref b :: st) := fun H locs ls hP hS hl => va_slen C.1.ex C.1.cd hX hbl hbA hS hd (h H locs ls hP hS hl)
theorem GX.KG (C : GX κ D T t1 t2 A own cc nL fr lo mc ms) (hg : GOK D T t1 t2 A g) : va_K (gD g) classes (tysOf g) (ks κ) := by
  have h := C.1.K
  obtain ⟨e1, e2, -⟩ := hg
  rw [← e1, ← e2] at h
  exact h
theorem g_getR (C : GX κ D T t1 t2 A own cc nL fr lo mc ms) (hg : GOK D T t1 t2 A g) {idx ci k n x : Nat} {fl : List Nat} (F : FL own idx ci k) (hs : sh n = .inr (ci, fl)) (hlv : lvb g n = true) (hf : fl[k]? = some (x + 10)) (hd : decode cc pc = .ok (.getfield idx, 3)) (h : GJ κ A nL Q cells slots g S (pc + 3) xs (.ref (gad g x) :: st)) : GJ κ A nL Q cells slots g S (pc) xs (.ref (gad g n) :: st) := by
  obtain ⟨Cn, Tf, N, hc, hin, hk, hw⟩ := F
  intro H locs ls hP hS hl
  obtain ⟨q, hq⟩ := live_place hlv
  exact va_get C.1.ex C.1.cd C.1.ts hin C.1.ow (C.KG hg) hP q (by rw [ws_at hq, cell_obj hs]) hc k hk (C.1.ts _ hw) (fun _ z => z) (v := .ref (gad g x)) ((fl_at hf).trans (congrArg some (fval_ref g S n k x))) hd (h H locs ls hP hS hl)
theorem g_aald3 (C : GX κ D T t1 t2 A own cc nL fr lo mc ms) (hg : GOK D T t1 t2 A g) {n len : Nat} {i : Int32} (hs : sh n = .inl (3, len)) (hlv : lvb g n = true) (hi : vp_in i len) (hd : decode cc pc = .ok (.aaload, 1)) (h : GJ κ A nL Q cells slots g S (pc + 1) xs (va_rf (if gpr g i.toNatClampNeg then some (gad g (el n i.toNatClampNeg)) else none) :: st)) : GJ κ A nL Q cells slots g S (pc) xs (.int i :: .ref (gad g n) :: st) := by
  intro H locs ls hP hS hl
  obtain ⟨q, hq⟩ := live_place hlv
  exact va_aldq (f := fun j => if gpr g j then some (gad g (el n j)) else none) C.1.ex C.1.cd (C.KG hg) hP q 3 (by rw [ws_at hq, cell_arr hs]; rfl) rfl hi hd (h H locs ls hP hS hl)
theorem g_ifnonnull (C : GX κ D T t1 t2 A own cc nL fr lo mc ms) {x : Nat} {off : Int} (tgt : Nat) (hd : decode cc pc = .ok (.ifnonnull off, 3)) (ht : (pc : Int) + off = (tgt : Int)) (h : GJ κ A nL Q cells slots g S (tgt) xs (st)) : GJ κ A nL Q cells slots g S (pc) xs (.ref x :: st) := fun H locs ls hP hS hl => lv_ifnonnull C.1.ex C.1.cd hd ht (h H locs ls hP hS hl)
theorem g_ifnonnullN (C : GX κ D T t1 t2 A own cc nL fr lo mc ms) {off : Int} (hd : decode cc pc = .ok (.ifnonnull off, 3)) (h : GJ κ A nL Q cells slots g S (pc + 3) xs (st)) : GJ κ A nL Q cells slots g S (pc) xs (.null :: st) := fun H locs ls hP hS hl => lv_ifnonnullN C.1.ex C.1.cd hd (h H locs ls hP hS hl)
theorem g_widen {k n : Nat} (h1 : cells ≤ k) (h2 : slots ≤ n) (h : GJ κ A nL Q k n g S (pc) xs (st)) : GJ κ A nL Q cells slots g S (pc) xs (st) := fun H locs ls hP hS hl => W.widen h1 h2 (h H locs ls hP hS hl)

theorem g_callV (C : GX κ D T t1 t2 A own cc nL fr lo mc ms) (hg : GOK D T t1 t2 A g) {idx nb fb lb n ci N : Nat} {fl : List Nat} {Tf : u_T} {y : MethodName} {cb : ByteArray} {rb : Option FieldType} (As rest : List Value) {st0 : List Value} {rS : Option Value × St} (M : MVt own idx y cb nb rb As.length) (hs : sh n = .inr (ci, fl)) (hlv : lvb g n = true) (hc : classes[ci]? = some (y.cls, Tf, N)) (hM : CT (kl κ) y cb nb rb fb lb (.ref (gad g n) :: As) g S rS) (hR : fb + 1 ≤ fr ∧ 8 + (nb + 11) + lb ≤ lo) (hcs : cells ≤ mc ∧ slots ≤ ms) (hw : (rest.map fun v => v.category).sum ≤ 8) (hd : decode cc pc = .ok (.invokevirtual idx, 3)) (hst : st0 = As.reverse ++ .ref (gad g n) :: rest)
    (h : GJ κ A nL Q cells slots g rS.2 (pc + 3) xs (rS.1.toList ++ rest)) : GJ κ A nL Q cells slots g S pc xs st0 := by
  intro H locs ls hP hS hl
  obtain ⟨m1, m2, m2b, m3, m4, m5, m6, m7⟩ := M
  obtain ⟨q, hq⟩ := live_place hlv
  have he : (wN g S)[q]? = some (gad g n, .inr (ci, fl.mapIdx (fun k x => fval g S n k x))) := by rw [ws_at hq, cell_obj hs]
  have hr := va_runV (H := H) (locs := locs) (cells := cells) (slots := slots) (g := F0 (km κ) pc ls st0) (below := kb κ) (meth := kt κ) (e := ke κ) (Ts := LW) (own := own) (C := y.cls) (nL := nL) (cc := cc) (As := As) (rest := rest) (n := As.length) (R := kR κ) (index := idx) (bytes := cb) (maxL := nb) (ret := rb) (p := kp κ) (c := kc κ) (m := km κ) (s := ks κ) (args := ka κ) ⟨C.1.ex, C.1.cd, C.1.ml, C.1.ow, C.1.ts⟩ hM ⟨callB_of As.length C.1.ts (goodIn_wsOf m4) rfl rfl rfl (C.1.ts _ m3) (C.1.ts _ m1) ⟨m5, m6, m7⟩ (by rw [C.1.R]; exact hR), C.1.ts _ m2, C.1.ts _ m2b⟩ ⟨pre_blind _ S, va_recv (C.KG hg) hP hc he, fun U hU hW => ⟨rfl, by rw [hU]; exact hP, va_K.moved hW.alike (C.KG hg), fun S' => hg.own S', ?_⟩⟩ rfl rfl hl.1 hst (lv_room hw) hd (by rw [C.1.R]; exact hcs)
  · intro X hX XX
    obtain ⟨v, st₀, t, X', L, h0, XX', hL, e1, e2, ⟨hv, hp, hz, hk⟩, sx⟩ := hr X hX XX
    have hv' : v = rS.1 := by cases hv; rfl
    subst hv'
    rw [h0] at hz hk
    obtain ⟨t3, a1, b1⟩ := h X'.heap (locs ++ L) ls (by rw [e1]; exact hp)
      ⟨Nat.le_trans hS.1 (by rw [e1]; exact hz), fun q h1 h2 => by rw [e1, hk q (Nat.lt_of_lt_of_le h1 hS.1) (fun z => h2 (hg.in q z))]; exact hS.2.1 q h1 h2, fun q hq => by
        rcases List.mem_append.mp hq with h | h
        · exact hS.2.2 q h
        · exact hg.in _ (hL q h)⟩ hl X' rfl XX'
    exact ⟨t3, sx t3 a1, b1⟩
  · have h1 := (C.2.kept (fun a ha hn => hS.2.1 a ha hn)).narrow hg.in
    have h2 := h1.moved hW.alike
    rw [hU]
    obtain ⟨-, -, e3, e4, -⟩ := hg
    rw [← e3, ← e4] at h2
    exact h2
end GROWS
