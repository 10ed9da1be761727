/-! IMAGE: the one method that makes objects while the law runs -/
def blk (j n : Nat) : Bool := Nat.ble (97 + 36 * j) n && Nat.blt n (133 + 36 * j)
/-- the nodes of an image as new -/
def clr (S : St) (j : Nat) : St := (fun n => if blk j n then fun _ => 0 else S.1 n, fun n => if blk j n then fun _ => 0 else S.2.1 n, S.2.2)
/-- the cells of a world, as a pool -/
theorem pool_of {A : Nat → Prop} {g : GT} {S : St} (hD : va_D A (wN g S)) : ∃ f : Nat → va_E, wN g S = va_pl ((liveL g).map (gad g)) f ∧ ∀ n, lvb g n = true → f (gad g n) = cellS g S n := by
  have inj : ∀ n m, lvb g n = true → lvb g m = true → gad g n = gad g m → n = m := fun n m hn hm e => by
    obtain ⟨k, hk⟩ := live_place hn
    obtain ⟨j, hj⟩ := live_place hm
    have := hD.1 k j _ _ (ws_at (S := S) hk) (ws_at (S := S) hj) e
    subst this
    exact Option.some.inj (hk.symm.trans hj)
  refine ⟨fun a => match (liveL g).find? (fun n => gad g n == a) with | some n => cellS g S n | none => .inr (0, []), ?_, ?_⟩
  · have hf : ∀ n, lvb g n = true → (match (liveL g).find? (fun m => gad g m == gad g n) with | some m => cellS g S m | none => (.inr (0, []) : va_E)) = cellS g S n := fun n hn => by
      cases hx : (liveL g).find? (fun m => gad g m == gad g n) with
      | none =>
        have := List.find?_eq_none.mp hx n (live_mem hn)
        simp at this
      | some m =>
        have h1 := List.find?_some hx
        have h2 := List.mem_of_find?_eq_some hx
        rw [inj m n (live_of_mem h2) hn (by simpa using h1)]
    unfold wN va_pl
    rw [List.map_map]
    apply List.map_congr_left
    intro n hn
    exact congrArg (Prod.mk _) (hf n (live_of_mem hn)).symm
  · intro n hn
    show (match (liveL g).find? (fun m => gad g m == gad g n) with | some m => cellS g S m | none => (.inr (0, []) : va_E)) = cellS g S n
    cases hx : (liveL g).find? (fun m => gad g m == gad g n) with
    | none =>
      have := List.find?_eq_none.mp hx n (live_mem hn)
      simp at this
    | some m =>
      have h1 := List.find?_some hx
      have h2 := List.mem_of_find?_eq_some hx
      rw [inj m n (live_of_mem h2) hn (by simpa using h1)]
theorem D_of_inj {A : Nat → Prop} {g : GT} (inj : ∀ n m, lvb g n = true → lvb g m = true → gad g n = gad g m → n = m) (hA : ∀ n, lvb g n = true → A (gad g n)) (S : St) : va_D A (wN g S) := by
  have hnd : (liveL g).Nodup := (List.nodup_range).filter _
  refine ⟨fun i j p q hi hj e => ?_, fun k q hk => ?_⟩
  · unfold wN at hi hj
    rw [List.getElem?_map] at hi hj
    obtain ⟨a, ha, rfl⟩ := Option.map_eq_some_iff.mp hi
    obtain ⟨b, hb, rfl⟩ := Option.map_eq_some_iff.mp hj
    have e1 : a = b := inj a b (live_of_mem (List.mem_of_getElem? ha)) (live_of_mem (List.mem_of_getElem? hb)) e
    subst e1
    exact (List.getElem?_inj (List.getElem?_eq_some_iff.mp ha).1 hnd).mp (ha.trans hb.symm)
  · unfold wN at hk
    rw [List.getElem?_map] at hk
    obtain ⟨a, ha, rfl⟩ := Option.map_eq_some_iff.mp hk
    exact hA a (live_of_mem (List.mem_of_getElem? ha))
section IMG
variable {κ : KT} {D : va_G} {T : Nat → ClassId} {t1 t2 : Nat} {A : Nat → Prop} {own : String} {cc : ByteArray} {nL fr lo mc ms : Nat} {Q : State → Prop} {cells slots : Nat} {g : GT} {S : St} {pc : Nat} {xs : List (Nat × Value)} {st : List Value} {L : List Nat} {f : Nat → va_E}
theorem GJ_pool (hg : GOK D T t1 t2 A g) (h : ∀ f, (∀ n, lvb g n = true → f (gad g n) = cellS g S n) → NJ κ D A nL Q cells slots ((liveL g).map (gad g)) f pc xs st) : GJ κ A nL Q cells slots g S pc xs st := by
  obtain ⟨f, e, hf⟩ := pool_of (hg.2.2.2.2 S)
  intro H locs ls hP hS hl
  have hD := hg.2.2.2.2 S
  rw [e] at hP hD
  rw [hg.1] at hP
  exact h f hf H locs ls hP hD hS hl
theorem GJ_back (hD : gD g = D) (hT : gT g = T) (h1 : gs1 g = t1) (h2 : gs2 g = t2) (hin : ∀ n, lvb g n = true → gad g n ∈ L ∧ f (gad g n) = cellS g S n) (inj : L.Nodup → ∀ n m, lvb g n = true → lvb g m = true → gad g n = gad g m → n = m) (h : GOK D T t1 t2 A g → GJ κ A nL Q cells slots g S pc xs st) : NJ κ D A nL Q cells slots L f pc xs st := by
  intro H locs ls hP hDD hS hl
  have hok : GOK D T t1 t2 A g := ⟨hD, hT, h1, h2, D_of_inj (inj (pl_nodup hDD)) (fun n hn => by
    obtain ⟨k, hk⟩ := pl_at (f := f) (hin n hn).1
    exact hDD.2 k _ hk)⟩
  refine h hok H locs ls ?_ hS hl
  rw [hD]
  refine P_mem hP (fun x hx => ?_)
  obtain ⟨n, hn, rfl⟩ := List.mem_map.mp hx
  obtain ⟨h3, h4⟩ := hin n (live_of_mem hn)
  rw [← h4]
  exact List.mem_map.mpr ⟨_, h3, rfl⟩
theorem n_ast3 (C : NX κ D T A own cc nL fr lo mc ms) {a v N : Nat} {e : Nat → Option Nat} {vs : List Value} {i : Int32} (ha : a ∈ L) (hv : v ∈ L) (hf : f a = .inl (T 3, N, .inr (.inr (.inr (.inr e))))) (hg : f v = .inr (1, vs)) (hi : vp_in i N) (hd : decode cc pc = .ok (.aastore, 1)) (h : NJ κ D A nL Q cells slots L (va_up f a (.inl (T 3, N, .inr (.inr (.inr (.inr (va_up e i.toNatClampNeg (some v)))))))) (pc + 1) xs st) : NJ κ D A nL Q cells slots L f pc xs (.ref v :: .int i :: .ref a :: st) := by
  intro H locs ls hP hD hS hl
  obtain ⟨q, hq⟩ := pl_at (f := f) ha
  obtain ⟨qv, hqv⟩ := pl_at (f := f) hv
  refine va_astq C.ex C.cd C.K hP hD hS q 3 qv 1 (hq.trans (by rw [hf])) rfl (hqv.trans (by rw [hg])) rfl hi hd (fun H1 locs1 hP1 hD1 hS1 => ?_)
  rw [pl_set hD ha hq] at hP1 hD1
  exact h H1 locs1 ls hP1 hD1 hS1 hl
end IMG
/-- the addresses with an image more: its Holdings at q, all below it at ns -/
def gext (g : GT) (j q : Nat) (ns : List Nat) : GT := (g.1, g.2.1, (fun n => if blk j n then (q :: ns).getD (n - (97 + 36 * j)) 0 else gad g n), va_up (gpr g) j true, gs1 g, gs2 g)
def QI (D : va_G) (T : Nat → ClassId) (t1 t2 sz : Nat) (g : GT) (Post : Int32 → GT → St → Prop) : Array Value → State → Outcome → State → Prop := fun _ st oc t => (∃ (r : Int32) (g1 : GT) (S1 : St), oc = .returned (some (.int r)) ∧ Post r g1 S1 ∧ va_P (gD g1) classes (wN g1 S1) t.heap ∧ GOK D T t1 t2 (fun q => gAd g q ∨ sz ≤ q) g1) ∧ va_F (fun q => gAd g q ∨ sz ≤ q) st t
def PreI (D : va_G) (T : Nat → ClassId) (t1 t2 sz : Nat) (g : GT) (S : St) (U : State) : Prop := U.heap.size = sz ∧ va_P (gD g) classes (wN g S) U.heap ∧ GOK D T t1 t2 (fun _ => True) g ∧ va_K D classes (tysT T) U ∧ arN T U ∧ auxN U ∧ statA t1 t2 (gAd g) U U.heap
theorem blk_of {g : GT} {j n : Nat} (hj : j < 2) (hb : blk j n = true) (h : gpr g j = false) : lvb g n = false := by
  unfold blk at hb
  simp only [Bool.and_eq_true, Nat.ble_eq, Nat.blt_eq] at hb
  refine Bool.eq_false_iff.mpr (fun hl => ?_)
  unfold lvb at hl
  simp only [Bool.or_eq_true, Bool.and_eq_true, Nat.ble_eq, Nat.blt_eq] at hl
  rcases (show j = 0 ∨ j = 1 by omega) with rfl | rfl
  · rcases hl with h1 | ⟨h1, h2⟩ | ⟨h1, h2⟩
    · omega
    · rw [h] at h1; cases h1
    · omega
  · rcases hl with h1 | ⟨h1, h2⟩ | ⟨h1, h2⟩
    · omega
    · omega
    · rw [h] at h1; cases h1
theorem lvb_img {g : GT} {j n : Nat} (hj : j < 2) (hb : blk j n = true) (h : gpr g j = true) : lvb g n = true := by
  unfold blk at hb
  simp only [Bool.and_eq_true, Nat.ble_eq, Nat.blt_eq] at hb
  unfold lvb
  simp only [Bool.or_eq_true, Bool.and_eq_true, Nat.ble_eq, Nat.blt_eq]
  rcases (show j = 0 ∨ j = 1 by omega) with rfl | rfl
  · exact Or.inr (Or.inl ⟨h, by omega, by omega⟩)
  · exact Or.inr (Or.inr ⟨h, by omega, by omega⟩)
theorem lvb_ext {g : GT} {j q n : Nat} {ns : List Nat} (hj : j < 2) : lvb (gext g j q ns) n = true ↔ (lvb g n = true ∨ blk j n = true) := by
  unfold lvb blk gext gpr
  rcases (show j = 0 ∨ j = 1 by omega) with rfl | rfl
  · simp only [va_up, if_pos, if_neg, show ¬ (1 : Nat) = 0 by decide, if_false, if_true, Bool.or_eq_true, Bool.and_eq_true, Nat.ble_eq, Nat.blt_eq]
    constructor
    · rintro (h | h | h)
      · exact Or.inl (Or.inl h)
      · exact Or.inr ⟨by omega, by omega⟩
      · exact Or.inl (Or.inr (Or.inr h))
    · rintro ((h | h | h) | h)
      · exact Or.inl h
      · exact Or.inr (Or.inl ⟨trivial, h.2⟩)
      · exact Or.inr (Or.inr h)
      · exact Or.inr (Or.inl ⟨trivial, by omega, by omega⟩)
  · simp only [va_up, if_pos, if_neg, show ¬ (0 : Nat) = 1 by decide, if_false, if_true, Bool.or_eq_true, Bool.and_eq_true, Nat.ble_eq, Nat.blt_eq]
    constructor
    · rintro (h | h | h)
      · exact Or.inl (Or.inl h)
      · exact Or.inl (Or.inr (Or.inl h))
      · exact Or.inr ⟨by omega, by omega⟩
    · rintro ((h | h | h) | h)
      · exact Or.inl h
      · exact Or.inr (Or.inl h)
      · exact Or.inr (Or.inr ⟨trivial, h.2⟩)
      · exact Or.inr (Or.inr ⟨trivial, by omega, by omega⟩)
theorem okI_img {g : GT} {j i c : Nat} (hj : j < 2) (h : gpr g j = true) (hc : c < 12 ∧ i = el (97 + 36 * j + 2) c ∨ c < 4 ∧ i = el (97 + 36 * j + 1) c) : okI g i := by
  have a1 : ∀ j, j < 2 → ∀ c, c < 12 → sh (el (97 + 36 * j + 2) c) = .inr (2, [el (97 + 36 * j + 2) c + 1 + 10, 0]) := by decide +kernel
  have a2 : ∀ j, j < 2 → ∀ c, c < 12 → sh (el (97 + 36 * j + 2) c + 1) = .inl (0, 40) := by decide +kernel
  have a3 : ∀ j, j < 2 → ∀ c, c < 12 → blk j (el (97 + 36 * j + 2) c) = true := by decide +kernel
  have a4 : ∀ j, j < 2 → ∀ c, c < 12 → blk j (el (97 + 36 * j + 2) c + 1) = true := by decide +kernel
  have b1 : ∀ j, j < 2 → ∀ c, c < 4 → sh (el (97 + 36 * j + 1) c) = .inr (2, [el (97 + 36 * j + 1) c + 1 + 10, 0]) := by decide +kernel
  have b2 : ∀ j, j < 2 → ∀ c, c < 4 → sh (el (97 + 36 * j + 1) c + 1) = .inl (0, 40) := by decide +kernel
  have b3 : ∀ j, j < 2 → ∀ c, c < 4 → blk j (el (97 + 36 * j + 1) c) = true := by decide +kernel
  have b4 : ∀ j, j < 2 → ∀ c, c < 4 → blk j (el (97 + 36 * j + 1) c + 1) = true := by decide +kernel
  rcases hc with ⟨hc, rfl⟩ | ⟨hc, rfl⟩
  · exact ⟨a1 j hj c hc, a2 j hj c hc, lvb_img hj (a3 j hj c hc) h, lvb_img hj (a4 j hj c hc) h⟩
  · exact ⟨b1 j hj c hc, b2 j hj c hc, lvb_img hj (b3 j hj c hc) h, lvb_img hj (b4 j hj c hc) h⟩
theorem el22 (j : Nat) : el 22 j = 97 + 36 * j := rfl
theorem okH_img {g : GT} {j : Nat} (hj : j < 2) (h : gpr g j = true) : okH g (97 + 36 * j) := by
  have a1 : ∀ j, j < 2 → sh (97 + 36 * j) = .inr (1, [97 + 36 * j + 1 + 10, 97 + 36 * j + 2 + 10, 97 + 36 * j + 3 + 10]) := by decide +kernel
  have a2 : ∀ j, j < 2 → sh (97 + 36 * j + 1) = .inl (2, 4) := by decide +kernel
  have a3 : ∀ j, j < 2 → sh (97 + 36 * j + 2) = .inl (2, 12) := by decide +kernel
  have a4 : ∀ j, j < 2 → sh (97 + 36 * j + 3) = .inl (0, 12) := by decide +kernel
  have b1 : ∀ j, j < 2 → blk j (97 + 36 * j) = true := by decide +kernel
  have b2 : ∀ j, j < 2 → blk j (97 + 36 * j + 1) = true := by decide +kernel
  have b3 : ∀ j, j < 2 → blk j (97 + 36 * j + 2) = true := by decide +kernel
  have b4 : ∀ j, j < 2 → blk j (97 + 36 * j + 3) = true := by decide +kernel
  exact ⟨a1 j hj, a2 j hj, a3 j hj, a4 j hj, lvb_img hj (b1 j hj) h, lvb_img hj (b2 j hj) h, lvb_img hj (b3 j hj) h, lvb_img hj (b4 j hj) h, fun i hi => okI_img hj h (Or.inr ⟨hi, rfl⟩), fun i hi => okI_img hj h (Or.inl ⟨hi, rfl⟩)⟩
theorem okN_img {j : Nat} (hj : j < 2) : okN (97 + 36 * j) := by
  rcases (show j = 0 ∨ j = 1 by omega) with rfl | rfl
  · exact okN_97
  · exact okN_133
def refsOut (n j : Nat) : Bool := match sh n with
  | .inr a => a.2.all (fun x => Nat.blt x 10 || !(blk j (x - 10)))
  | .inl a => Nat.blt a.1 2 || (List.range a.2).all (fun i => !(blk j (el n i)))
theorem refs_out : ∀ n, n < 169 → ∀ j, j < 2 → n ≠ 22 → blk j n = false → refsOut n j = true := by decide +kernel
theorem gext_out {g : GT} {j q n : Nat} {ns : List Nat} (h : blk j n = false) : gad (gext g j q ns) n = gad g n := by
  show (if blk j n then _ else gad g n) = _
  rw [h]
  rfl
theorem gext_in {g : GT} {j q n : Nat} {ns : List Nat} (h : blk j n = true) : gad (gext g j q ns) n = (q :: ns).getD (n - (97 + 36 * j)) 0 := by
  show (if blk j n then _ else gad g n) = _
  rw [h]
  rfl
/-- a node that isn't of the new image keeps its cell -/
theorem cell_out {g : GT} {S : St} {j q n : Nat} {ns : List Nat} (hn : n < 169) (hj : j < 2) (h22 : n ≠ 22) (hb : blk j n = false) : cellS (gext g j q ns) (clr S j) n = cellS g S n := by
  have hr := refs_out n hn j hj h22 hb
  have hA : gA (clr S j) n = gA S n := by
    show (if blk j n then _ else S.2.1 n) = _
    rw [hb]
    rfl
  have hI : ∀ k, gI (clr S j) n k = gI S n k := fun k => by
    show (if blk j n then _ else S.1 n) k = _
    rw [hb]
    rfl
  unfold refsOut at hr
  cases hs : sh n with
  | inl a =>
    rw [hs] at hr
    rw [cell_arr (S := clr S j) (kd := a.1) (len := a.2) hs, cell_arr (S := S) (kd := a.1) (len := a.2) hs]
    have hfun : 2 ≤ a.1 → (fun i => if i < a.2 then some (gad (gext g j q ns) (el n i)) else none) = (fun i => if i < a.2 then some (gad g (el n i)) else none) := fun h2 => by
      funext i
      by_cases hi : i < a.2
      · simp only [Bool.or_eq_true, Nat.blt_eq] at hr
        rcases hr with hr | hr
        · omega
        · have h3 := List.all_eq_true.mp hr i (List.mem_range.mpr hi)
          rw [if_pos hi, if_pos hi, gext_out (by simpa using h3)]
      · rw [if_neg hi, if_neg hi]
    have h3n : a.1 ≠ 3 := fun e => by
      have h4 : ∀ n, n < 169 → (match sh n with | .inl a => a.1 == 3 | .inr _ => false) = true → n = 22 := by decide +kernel
      exact h22 (h4 n hn (by rw [hs]; simp [e]))
    obtain ⟨kd, len⟩ := a
    match kd, hfun, h3n with
    | 0, _, _ => show (.inl (gT g 0, len, .inl (gA (clr S j) n)) : va_E) = .inl (gT g 0, len, .inl (gA S n)); rw [hA]
    | 1, _, _ => show (.inl (gT g 1, len, .inl (gA (clr S j) n)) : va_E) = .inl (gT g 1, len, .inl (gA S n)); rw [hA]
    | 2, hf, _ => show (.inl (gT g 2, len, .inr (.inr (.inr (.inr (fun i => if i < len then some (gad (gext g j q ns) (el n i)) else none))))) : va_E) = .inl (gT g 2, len, .inr (.inr (.inr (.inr (fun i => if i < len then some (gad g (el n i)) else none))))); rw [hf (by omega)]
    | 3, _, h => exact absurd rfl h
    | kd + 4, hf, _ => show (.inl (gT g 4, len, .inr (.inr (.inr (.inr (fun i => if i < len then some (gad (gext g j q ns) (el n i)) else none))))) : va_E) = .inl (gT g 4, len, .inr (.inr (.inr (.inr (fun i => if i < len then some (gad g (el n i)) else none))))); rw [hf (by omega)]
  | inr a =>
    rw [hs] at hr
    rw [cell_obj (S := clr S j) (ci := a.1) (fl := a.2) hs, cell_obj (S := S) (ci := a.1) (fl := a.2) hs]
    have hL : a.2.mapIdx (fun k x => fval (gext g j q ns) (clr S j) n k x) = a.2.mapIdx (fun k x => fval g S n k x) := by
      apply List.ext_getElem?
      intro i
      rw [List.getElem?_mapIdx, List.getElem?_mapIdx]
      cases hx : a.2[i]? with
      | none => rfl
      | some x =>
        have h3 := List.all_eq_true.mp hr x (List.mem_of_getElem? hx)
        simp only [Bool.or_eq_true, Nat.blt_eq] at h3
        show some (fval (gext g j q ns) (clr S j) n i x) = some (fval g S n i x)
        unfold fval
        by_cases h0 : x = 0
        · rw [if_pos h0, if_pos h0, hI]
        · by_cases h1 : x = 1
          · rw [if_neg h0, if_neg h0, if_pos h1, if_pos h1]
            rfl
          · rw [if_neg h0, if_neg h0, if_neg h1, if_neg h1]
            rcases h3 with h3 | h3
            · exfalso
              have h4 : ∀ n, n < 169 → (match sh n with | .inl _ => true | .inr a => a.2.all (fun x => x == 0 || x == 1 || Nat.ble 10 x)) = true := by decide +kernel
              have h5 := h4 n hn
              rw [hs] at h5
              have h6 := List.all_eq_true.mp h5 x (List.mem_of_getElem? hx)
              simp only [Bool.or_eq_true, beq_iff_eq, Nat.ble_eq] at h6
              omega
            · rw [gext_out (by simpa using h3)]
    rw [hL]
theorem cell_new {g : GT} {S : St} {j n : Nat} (hb : blk j n = true) : cellS g (clr S j) n = cellS g S0 n := by
  have hn0 : n ≠ 0 := fun e => by
    subst e
    unfold blk at hb
    simp only [Bool.and_eq_true, Nat.ble_eq] at hb
    omega
  have hA : gA (clr S j) n = gA S0 n := by
    show (if blk j n then _ else S.2.1 n) = _
    rw [hb]
    rfl
  have hI : ∀ k, gI (clr S j) n k = gI S0 n k := fun k => by
    show (if blk j n then _ else S.1 n) k = _
    rw [hb]
    rfl
  cases hs : sh n with
  | inl a =>
    rw [cell_arr (S := clr S j) (kd := a.1) (len := a.2) hs, cell_arr (S := S0) (kd := a.1) (len := a.2) hs]
    unfold cellA
    rw [hA]
  | inr a =>
    rw [cell_obj (S := clr S j) (ci := a.1) (fl := a.2) hs, cell_obj (S := S0) (ci := a.1) (fl := a.2) hs]
    have hnl := sh_long n hn0 a hs
    have hL : a.2.mapIdx (fun k x => fval g (clr S j) n k x) = a.2.mapIdx (fun k x => fval g S0 n k x) := by
      apply List.ext_getElem?
      intro i
      rw [List.getElem?_mapIdx, List.getElem?_mapIdx]
      cases hx : a.2[i]? with
      | none => rfl
      | some x =>
        have h1 : x ≠ 1 := fun z => hnl (z ▸ List.mem_of_getElem? hx)
        show some (fval g (clr S j) n i x) = some (fval g S0 n i x)
        unfold fval
        by_cases h0 : x = 0
        · rw [if_pos h0, if_pos h0, hI]
        · rw [if_neg h0, if_neg h0, if_neg h1, if_neg h1]
    rw [hL]
