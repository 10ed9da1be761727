theorem wd_120 : Cond.methodLink "StairIdeals$Holdings" 3 ⟨"java/lang/Object", "<init>", "()V"⟩ ∈ LW := LW_mem 120 (by decide +kernel) rfl
theorem wd_121 : Cond.classLink "StairIdeals$Holdings" 9 "StairIdeals$Ideal" ∈ LW := LW_mem 121 (by decide +kernel) rfl
theorem wd_123 : Cond.instantiable "StairIdeals$Ideal" 2 ∈ LW := LW_mem 123 (by decide +kernel) rfl
theorem wd_125 : Cond.instanceMethod yX2_init ∈ LW := LW_mem 125 (by decide +kernel) rfl
theorem wd_126 : Cond.code yX2_init prog_4_method_1_code 1 none ∈ LW := LW_mem 126 (by decide +kernel) rfl
theorem wd_205 : Cond.methodLink "StairIdeals$Tree" 3 ⟨"java/lang/Object", "<init>", "()V"⟩ ∈ LW := LW_mem 205 (by decide +kernel) rfl
theorem wd_206 : Cond.classLink "StairIdeals$Tree" 11 "[[I" ∈ LW := LW_mem 206 (by decide +kernel) rfl
theorem ff_X1_11 : FFt RX1 11 1 0 (.array (.object "StairIdeals$Ideal")) := ⟨_, _, _, tyX1, rfl, lwX1, by decide, wd_143, tyX1_ok, nmX1, rfl, rfl, by decide +kernel⟩
theorem ff_X1_17 : FFt RX1 17 1 1 (.array (.object "StairIdeals$Ideal")) := ⟨_, _, _, tyX1, rfl, lwX1, by decide, wd_145, tyX1_ok, nmX1, rfl, rfl, by decide +kernel⟩
theorem ff_X1_20 : FFt RX1 20 1 2 (.array .int) := ⟨_, _, _, tyX1, rfl, lwX1, by decide, wd_147, tyX1_ok, nmX1, rfl, rfl, by decide +kernel⟩
theorem ff_X8_13 : FFt RX8 13 6 2 (.array (.array .int)) := ⟨_, _, _, tyX8, rfl, lwX8, by decide, wd_212, tyX8_ok, nmX8, rfl, rfl, by decide +kernel⟩
theorem cnX8_init {l : Launch} {D : va_G} {T : Nat → ClassId} {L : List Nat} {f : Nat → va_E} {h0 sz : Nat} (hm : h0 ∈ L) (hf0 : f h0 = .inr (6, [.int 0, .int 0, .null])) : CN l yX8_init cX8_init 1 1 20 26 1025 D T [.ref h0] sz L f (PN T L f h0 28 (ndX8) prT) := by
  refine CN_of [.ref h0] (by decide) (Nat.le_of_ble_eq_true rfl) (xs := [(0, .ref h0)]) rfl (fun κ C hr hnm => ?_)
  refine n_aload_n C 0 rfl dX8_init_0 rfl ?_
  refine n_objInit C wd_205 (Nat.le_of_ble_eq_true rfl) (Nat.le_of_ble_eq_true rfl) (Nat.le_of_ble_eq_true rfl) dX8_init_1 ?_
  refine n_aload_n C 0 rfl dX8_init_4 rfl ?_
  refine n_bipush C (v := 25) (by decide) dX8_init_5 ?_
  refine n_bipush C (v := 40) (by decide) dX8_init_7 ?_
  refine n_mna C wd_206 wd_114 (Nat.le_of_ble_eq_true rfl) (Nat.le_of_ble_eq_true rfl) dX8_init_9 (fun q r hn => ?_)
  obtain ⟨-, hn2, hn3⟩ := List.nodup_append.mp hn
  have hqR : q ∉ (List.range 25).map r := (List.nodup_cons.mp hn2).1
  have hdis : ∀ a, a ∈ L → a ≠ q ∧ a ∉ (List.range 25).map r := fun a ha => ⟨fun z => hn3 a ha q List.mem_cons_self z, fun z => hn3 a ha a (List.mem_cons_of_mem _ z) rfl⟩
  have hF : ∀ a, a ∈ L → va_up (vr_up f ((List.range 25).map r) (.inl (T 0, 40, .inl fun _ => 0))) q (.inl (T 4, 25, .inr (.inr (.inr (.inr (fun i => if i < 25 then some (r i) else none)))))) a = f a := fun a ha => (va_up_ne _ _ (hdis a ha).1).trans (vr_up_ne (hdis a ha).2)
  have hFq := va_up_self (vr_up f ((List.range 25).map r) (.inl (T 0, 40, .inl fun _ => 0))) q (.inl (T 4, 25, .inr (.inr (.inr (.inr (fun i => if i < 25 then some (r i) else none))))))
  have hFr : ∀ i, i < 25 → va_up (vr_up f ((List.range 25).map r) (.inl (T 0, 40, .inl fun _ => 0))) q (.inl (T 4, 25, .inr (.inr (.inr (.inr (fun i => if i < 25 then some (r i) else none)))))) (r i) = .inl (T 0, 40, .inl fun _ => 0) := fun i hi => by
    have hm1 : r i ∈ (List.range 25).map r := List.mem_map.mpr ⟨i, List.mem_range.mpr hi, rfl⟩
    exact (va_up_ne _ _ (fun z : r i = q => hqR (z ▸ hm1))).trans (vr_up_in hm1)
  generalize va_up (vr_up f ((List.range 25).map r) (.inl (T 0, 40, .inl fun _ => 0))) q (.inl (T 4, 25, .inr (.inr (.inr (.inr (fun i => if i < 25 then some (r i) else none)))))) = f1 at hF hFq hFr ⊢
  have hm1 : h0 ∈ L ++ (q :: (List.range 25).map r) := List.mem_append_left _ hm
  refine n_putF C hnm ff_X8_13 hm1 ((hF h0 hm).trans hf0) (Nat.le_of_ble_eq_true rfl) rfl rfl dX8_init_13 ?_
  refine n_vret C hr (ns := q :: (List.range 25).map r) ⟨fun b hb hb0 => (va_up_ne f1 _ hb0).trans (hF b hb), ?_, hm1, fun x hx => List.mem_append_right _ hx, fun g e1 e2 e3 _ => ?_⟩ dX8_init_16
  · simp [ndX8]
  · unfold ndX8 at e3 ⊢
    rw [List.map_cons, List.map_map] at e3
    obtain ⟨eq, er⟩ := List.cons.inj e3
    have hr : ∀ i, i < 25 → r i = gad g (30 + i) := fun i hi => by
      have h1 := congrArg (fun z : List Nat => z[i]?) er
      simp only [List.getElem?_map, List.getElem?_range hi, Option.map_some] at h1
      exact Option.some.inj h1
    have hqh : q ≠ h0 := fun z => (hdis h0 hm).1 z.symm
    refine ⟨?_, fun n hn => ?_⟩
    · rw [va_up_self, cell_obj (by decide +kernel : sh 28 = .inr (6, [0, 0, 39])), eq]
      rfl
    · rcases List.mem_cons.mp hn with rfl | hn
      · rw [← eq, va_up_ne _ _ hqh, hFq, cell_arr (by decide +kernel : sh 29 = .inl (4, 25)), ← e1]
        show _ = (.inl (gT g 4, 25, .inr (.inr (.inr (.inr (fun j => if j < 25 then some (gad g (el 29 j)) else none))))) : va_E)
        have hfun : (fun i => if i < 25 then some (r i) else none) = (fun j => if j < 25 then some (gad g (el 29 j)) else none) := by
          funext j
          by_cases hj : j < 25
          · rw [if_pos hj, if_pos hj, hr j hj]
            rfl
          · rw [if_neg hj, if_neg hj]
        rw [hfun]
      · obtain ⟨j, hj, rfl⟩ := List.mem_map.mp hn
        have hj := List.mem_range.mp hj
        have hne : r j ≠ h0 := fun z => (hdis h0 hm).2 (z ▸ List.mem_map.mpr ⟨j, List.mem_range.mpr hj, rfl⟩)
        rw [← hr j hj, va_up_ne _ _ hne, hFr j hj, cell_arr (show sh (30 + j) = .inl (0, 40) from sh_row hj), ← e1]
        rfl
/-- a Holdings under way: ia ideals and ib held are made, at the addresses mm -/
def HI (T : Nat → ClassId) (L L3 : List Nat) (f0 : Nat → va_E) (h0 n0 qa qb qc : Nat) (ia ib : Nat) (f : Nat → va_E) (mm : List Nat) : Prop :=
  mm.length = 2 * (ia + ib) ∧ f h0 = .inr (1, [.ref qa, .ref qb, .ref qc]) ∧ f qa = .inl (T 2, 4, .inr (.inr (.inr (.inr (fun j => if j < ia then some (mm.getD (2 * j) 0) else none))))) ∧ f qb = .inl (T 2, 12, .inr (.inr (.inr (.inr (fun j => if j < ib then some (mm.getD (2 * (4 + j)) 0) else none))))) ∧ f qc = .inl (T 0, 12, .inl fun _ => 0) ∧
  (∀ j, j < ia + ib → AT T (L3 ++ mm) f (mm.getD (2 * j) 0) (n0 + 4 + 2 * j) [n0 + 4 + 2 * j + 1] prT [mm.getD (2 * j + 1) 0]) ∧ (∀ b, b ∈ L → b ≠ h0 → f b = f0 b) ∧ ∀ x ∈ mm, x ∉ L3
theorem AT_I {T : Nat → ClassId} {L : List Nat} {f : Nat → va_E} {q n z : Nat} (h : AT T L f q n [n + 1] prT [z]) (hs : sh n = .inr (2, [n + 1 + 10, 0])) : f q = .inr (2, [.ref z, .int 0]) := by
  have h1 := (h.2.2.2 ((fun _ => 0, fun _ _ => 0), T, fun m => if m = n then q else z, fun _ => false, 0, 0) rfl (show (if n = n then q else z) = q from if_pos rfl) (show [z] = [if n + 1 = n then q else z] by rw [if_neg (by omega)]) trivial).1
  rw [h1, cell_obj hs]
  show (Sum.inr (2, [fval _ S0 n 0 (n + 1 + 10), fval _ S0 n 1 0]) : va_E) = _
  rw [fval_ref]
  show (.inr (2, [.ref (if n + 1 = n then q else z), .int 0]) : va_E) = _
  rw [if_neg (by omega)]
theorem getD_left {l m : List Nat} {i : Nat} (h : i < l.length) : (l ++ m).getD i 0 = l.getD i 0 := by
  rw [List.getD_eq_getElem?_getD, List.getD_eq_getElem?_getD, List.getElem?_append_left h]
theorem getD_right {l m : List Nat} {i : Nat} : (l ++ m).getD (l.length + i) 0 = m.getD i 0 := by
  rw [List.getD_eq_getElem?_getD, List.getD_eq_getElem?_getD, List.getElem?_append_right (by omega), show l.length + i - l.length = i by omega]
/-- one more ideal, made and stored at the next place -/
theorem HI_step {T : Nat → ClassId} {L L3 : List Nat} {f0 f g1 : Nat → va_E} {h0 n0 qa qb qc ia ib q z : Nat} {mm : List Nat} {e0 : va_E} (hL : ∀ b ∈ L, b ∈ L3) (hm0 : h0 ∈ L3) (ha : qa ∈ L3) (hb : qb ∈ L3) (hc : qc ∈ L3) (hapart : qa ≠ h0 ∧ qb ≠ h0 ∧ qc ≠ h0 ∧ qa ≠ qb ∧ qa ≠ qc ∧ qb ≠ qc ∧ qa ∉ L ∧ qb ∉ L ∧ qc ∉ L)
    (I : HI T L L3 f0 h0 n0 qa qb qc ia ib f mm) (hq : q ∉ L3 ++ mm) (hz : z ∉ (L3 ++ mm) ++ [q]) (hg : ∀ b, b ∈ (L3 ++ mm) ++ [q] → b ≠ q → g1 b = va_up f q e0 b) (hat : AT T (((L3 ++ mm) ++ [q]) ++ [z]) g1 q (n0 + 4 + 2 * (ia + ib)) [n0 + 4 + 2 * (ia + ib) + 1] prT [z]) :
    (ib = 0 → HI T L L3 f0 h0 n0 qa qb qc (ia + 1) ib (va_up g1 qa (.inl (T 2, 4, .inr (.inr (.inr (.inr (va_up (fun j => if j < ia then some (mm.getD (2 * j) 0) else none) ia (some q)))))))) (mm ++ [q, z])) ∧
    (ia = 4 → HI T L L3 f0 h0 n0 qa qb qc ia (ib + 1) (va_up g1 qb (.inl (T 2, 12, .inr (.inr (.inr (.inr (va_up (fun j => if j < ib then some (mm.getD (2 * (4 + j)) 0) else none) ib (some q)))))))) (mm ++ [q, z])) := by
  obtain ⟨i1, i2, i3, i4, i5, i6, i7, i8⟩ := I
  obtain ⟨p1, p2, p3, p4, p5, p6, p7, p8, p9⟩ := hapart
  have hold : ∀ b, b ∈ L3 ++ mm → g1 b = f b := fun b hb => by
    have hbq : b ≠ q := fun e => hq (e ▸ hb)
    rw [hg b (List.mem_append_left _ hb) hbq, va_up_ne _ _ hbq]
  have hold3 : ∀ b, b ∈ L3 → g1 b = f b := fun b hb => hold b (List.mem_append_left _ hb)
  have hlen : (mm ++ [q, z]).length = 2 * (ia + ib + 1) := by
    rw [List.length_append, i1]
    show 2 * (ia + ib) + 2 = _
    omega
  have hgl : ∀ j, j < ia + ib → (mm ++ [q, z]).getD (2 * j) 0 = mm.getD (2 * j) 0 ∧ (mm ++ [q, z]).getD (2 * j + 1) 0 = mm.getD (2 * j + 1) 0 := fun j hj => ⟨getD_left (by omega), getD_left (by omega)⟩
  have hg0 : (mm ++ [q, z]).getD (2 * (ia + ib)) 0 = q := by
    have h1 := getD_right (l := mm) (m := [q, z]) (i := 0)
    rw [i1] at h1
    exact h1
  have hg1 : (mm ++ [q, z]).getD (2 * (ia + ib) + 1) 0 = z := by
    have h1 := getD_right (l := mm) (m := [q, z]) (i := 1)
    rw [i1] at h1
    exact h1
  have eL : ((L3 ++ mm) ++ [q]) ++ [z] = L3 ++ (mm ++ [q, z]) := by simp only [List.append_assoc]; rfl
  have hfresh : ∀ x ∈ mm ++ [q, z], x ∉ L3 := fun x hx h3 => by
    rcases List.mem_append.mp hx with h1 | h1
    · exact i8 x h1 h3
    · rcases List.mem_cons.mp h1 with h1 | h1
      · exact hq (h1 ▸ List.mem_append_left _ h3)
      · exact hz (List.mem_singleton.mp h1 ▸ List.mem_append_left _ (List.mem_append_left _ h3))
  -- all that is made stands, whichever of the two arrays is written
  have key : ∀ (c : Nat) (e : va_E), c ∈ L3 → ∀ j, j < ia + ib + 1 → AT T (L3 ++ (mm ++ [q, z])) (va_up g1 c e) ((mm ++ [q, z]).getD (2 * j) 0) (n0 + 4 + 2 * j) [n0 + 4 + 2 * j + 1] prT [(mm ++ [q, z]).getD (2 * j + 1) 0] := by
    intro c e hc3 j hj
    by_cases hjt : j < ia + ib
    · rw [(hgl j hjt).1, (hgl j hjt).2]
      have h1 := i6 j hjt
      have hmem : ∀ b, b = mm.getD (2 * j) 0 ∨ b ∈ [mm.getD (2 * j + 1) 0] → b ∈ mm := fun b hb => by
        have hin : ∀ k, k < mm.length → mm.getD k 0 ∈ mm := fun k hk => by
          rw [List.getD_eq_getElem?_getD, List.getElem?_eq_getElem hk]
          exact List.getElem_mem hk
        rcases hb with hb | hb
        · rw [hb]; exact hin _ (by omega)
        · rw [List.mem_singleton.mp hb]; exact hin _ (by omega)
      refine h1.keep (fun x hx => ?_) (fun b hb hb2 => ?_)
      · rw [← eL]
        exact List.mem_append_left _ (List.mem_append_left _ hx)
      · rw [va_up_ne _ _ (fun z : b = c => i8 b (hmem b hb2) (z ▸ hc3))]
        exact hold b hb
    · have hjt : j = ia + ib := by omega
      subst hjt
      rw [hg0, hg1]
      refine hat.keep (fun x hx => eL ▸ hx) (fun b hb hb2 => va_up_ne _ _ (fun w => ?_))
      rcases hb2 with hb2 | hb2
      · exact hq (hb2 ▸ List.mem_append_left _ (w ▸ hc3))
      · exact hz (List.mem_singleton.mp hb2 ▸ List.mem_append_left _ (List.mem_append_left _ (w ▸ hc3)))
  refine ⟨fun hib => ?_, fun hia => ?_⟩
  · subst hib
    refine ⟨by rw [hlen], ?_, ?_, ?_, ?_, fun j hj => key qa _ ha j (by omega), fun b hb hb0 => ?_, hfresh⟩
    · rw [va_up_ne _ _ p1.symm, hold3 _ hm0, i2]
    · rw [va_up_self]
      have hfun : va_up (fun j => if j < ia then some (mm.getD (2 * j) 0) else none) ia (some q) = (fun j => if j < ia + 1 then some ((mm ++ [q, z]).getD (2 * j) 0) else none) := by
        funext j
        by_cases h1 : j = ia
        · subst h1
          rw [va_up_self, if_pos (by omega)]
          exact congrArg some hg0.symm
        · rw [va_up_ne _ _ h1]
          by_cases h2 : j < ia
          · rw [if_pos h2, if_pos (by omega), (hgl j (by omega)).1]
          · rw [if_neg h2, if_neg (by omega)]
      rw [hfun]
    · rw [va_up_ne _ _ p4.symm, hold3 _ hb, i4]
      have hfun : (fun j => if j < 0 then some (mm.getD (2 * (4 + j)) 0) else none) = (fun j => if j < 0 then some ((mm ++ [q, z]).getD (2 * (4 + j)) 0) else none) := by
        funext j
        rw [if_neg (by omega), if_neg (by omega)]
      rw [hfun]
    · rw [va_up_ne _ _ p5.symm, hold3 _ hc, i5]
    · rw [va_up_ne _ _ (fun w : b = qa => p7 (w ▸ hb)), hold3 _ (hL b hb), i7 b hb hb0]
  · subst hia
    refine ⟨by rw [hlen]; omega, ?_, ?_, ?_, ?_, fun j hj => key qb _ hb j (by omega), fun b hb1 hb0 => ?_, hfresh⟩
    · rw [va_up_ne _ _ p2.symm, hold3 _ hm0, i2]
    · rw [va_up_ne _ _ p4, hold3 _ ha, i3]
      have hfun : (fun j => if j < 4 then some (mm.getD (2 * j) 0) else none) = (fun j => if j < 4 then some ((mm ++ [q, z]).getD (2 * j) 0) else none) := by
        funext j
        by_cases h2 : j < 4
        · rw [if_pos h2, if_pos h2, (hgl j (by omega)).1]
        · rw [if_neg h2, if_neg h2]
      rw [hfun]
    · rw [va_up_self]
      have hfun : va_up (fun j => if j < ib then some (mm.getD (2 * (4 + j)) 0) else none) ib (some q) = (fun j => if j < ib + 1 then some ((mm ++ [q, z]).getD (2 * (4 + j)) 0) else none) := by
        funext j
        by_cases h1 : j = ib
        · subst h1
          rw [va_up_self, if_pos (by omega)]
          exact congrArg some hg0.symm
        · rw [va_up_ne _ _ h1]
          by_cases h2 : j < ib
          · rw [if_pos h2, if_pos (by omega), (hgl (4 + j) (by omega)).1]
          · rw [if_neg h2, if_neg (by omega)]
      rw [hfun]
    · rw [va_up_ne _ _ p6.symm, hold3 _ hc, i5]
    · rw [va_up_ne _ _ (fun w : b = qb => p8 (w ▸ hb1)), hold3 _ (hL b hb1), i7 b hb1 hb0]
theorem loopA_X1 {κ : KT} {D : va_G} {T : Nat → ClassId} {A : Nat → Prop} {Q : State → Prop} (C : NX κ D T A RX1 cX1_init 2 2 40 35 700) {L L3 : List Nat} {f0 : Nat → va_E} {h0 n0 qa qb qc : Nat} (hN : okN n0) (hL : ∀ b ∈ L, b ∈ L3) (hm0 : h0 ∈ L3) (ha : qa ∈ L3) (hb : qb ∈ L3) (hc : qc ∈ L3) (hapart : qa ≠ h0 ∧ qb ≠ h0 ∧ qc ≠ h0 ∧ qa ≠ qb ∧ qa ≠ qc ∧ qb ≠ qc ∧ qa ∉ L ∧ qb ∉ L ∧ qc ∉ L)
    (hex : ∀ (f : Nat → va_E) (mm : List Nat), HI T L L3 f0 h0 n0 qa qb qc 4 0 f mm → NJ κ D A 2 Q (3 + 2 * 4) (28 + 42 * 4) (L3 ++ mm) f 59 [(0, .ref h0), (1, .int (nI 4))] []) :
    ∀ (m i : Nat), i + m = 4 → ∀ (f : Nat → va_E) (mm : List Nat), HI T L L3 f0 h0 n0 qa qb qc i 0 f mm → NJ κ D A 2 Q (3 + 2 * (i + 0)) (28 + 42 * (i + 0)) (L3 ++ mm) f 31 [(0, .ref h0), (1, .int (nI i))] [] := by
  intro m
  induction m with
  | zero =>
    intro i hi f mm I
    have hi : i = 4 := by omega
    subst hi
    refine n_iload_n C 1 rfl dX1_init_31 rfl ?_
    refine n_aload_n C 0 rfl dX1_init_32 rfl ?_
    refine n_get C fl_X1_11 (List.mem_append_left _ hm0) I.2.1 (k := 0) rfl dX1_init_33 ?_
    refine n_alen2 C (v := nI 4) (List.mem_append_left _ ha) I.2.2.1 rfl dX1_init_36 ?_
    refine n_icmp_ge C 59 dX1_init_37 (by decide) (fun _ => hex f mm I) (fun z => absurd (by decide) z)
  | succ m ih =>
    intro i hi f mm I
    refine n_iload_n C 1 rfl dX1_init_31 rfl ?_
    refine n_aload_n C 0 rfl dX1_init_32 rfl ?_
    refine n_get C fl_X1_11 (List.mem_append_left _ hm0) I.2.1 (k := 0) rfl dX1_init_33 ?_
    refine n_alen2 C (v := nI 4) (List.mem_append_left _ ha) I.2.2.1 rfl dX1_init_36 ?_
    refine n_icmp_ge C 59 dX1_init_37 (by decide) (fun z => absurd z (nI_ge (by omega) (by decide))) (fun _ => ?_)
    refine n_aload_n C 0 rfl dX1_init_40 rfl ?_
    refine n_get C fl_X1_11 (List.mem_append_left _ hm0) I.2.1 (k := 0) rfl dX1_init_41 ?_
    refine n_iload_n C 1 rfl dX1_init_44 rfl ?_
    refine n_new C (ci := 2) (ty := tyX2) [.null, .int 0] rfl lwX2 tyX2_ok wd_121 wd_123 wd_62 (by decide) (by omega) (by omega) dX1_init_45 (fun q hq => ?_)
    refine n_dup C rfl dX1_init_48 ?_
    have hmq : q ∈ (L3 ++ mm) ++ [q] := List.mem_append_right _ (List.mem_singleton.mpr rfl)
    have hsh := hN.2.2.2.2.1 (i + 0) (by omega)
    refine n_callIN C (host := "StairIdeals") (by decide) wd_125 wd_62 wd_126 (by decide +kernel) (fun _ => cnX2_init (n0 := n0 + 4 + 2 * (i + 0)) hsh.1 hsh.2 hmq (va_up_self f q _)) ⟨(Nat.le_of_ble_eq_true rfl), (Nat.le_of_ble_eq_true rfl)⟩ ⟨by omega, by omega⟩ (Nat.le_of_ble_eq_true rfl) dX1_init_49 (fun s g1 hp hd => ?_)
    obtain ⟨z, rfl⟩ : ∃ z, s = [z] := by
      have h1 : s.length = 1 := hp.2.1
      match s, h1 with
      | [z], _ => exact ⟨z, rfl⟩
    have hz : z ∉ (L3 ++ mm) ++ [q] := hd z (List.mem_singleton.mpr rfl)
    have hst := HI_step hL hm0 ha hb hc hapart I hq hz hp.1 hp.2
    have hgq : g1 q = .inr (2, [.ref z, .int 0]) := AT_I hp.2 hsh.1
    have hga : g1 qa = f qa := by
      have hne : qa ≠ q := fun e => hq (e ▸ List.mem_append_left _ ha)
      rw [hp.1 _ (List.mem_append_left _ (List.mem_append_left _ ha)) hne, va_up_ne _ _ hne]
    refine n_ast2 C (List.mem_append_left _ (List.mem_append_left _ (List.mem_append_left _ ha))) (List.mem_append_left _ hmq) (hga.trans I.2.2.1) hgq (vp_in_nI (by omega) (by decide)) dX1_init_52 ?_
    refine n_iinc C (v := nI (i + 1)) (xs1 := [(0, .ref h0), (1, .int (nI (i + 1)))]) 1 rfl dX1_init_53 (nI_1 i) (by decide) rfl ?_
    refine n_goto C 31 dX1_init_56 (by decide) ?_
    have hI := hst.1 rfl
    rw [nI_clamp (by omega)]
    have hnext := ih (i + 1) (by omega) _ _ hI
    have eL : ((L3 ++ mm) ++ [q]) ++ [z] = L3 ++ (mm ++ [q, z]) := by simp only [List.append_assoc]; rfl
    rw [eL]
    have ec : 3 + 2 * (i + 0) + 1 + 1 = 3 + 2 * (i + 1 + 0) := by omega
    have es : 28 + 42 * (i + 0) + 2 + 40 = 28 + 42 * (i + 1 + 0) := by omega
    rw [ec, es]
    exact hnext
theorem loopB_X1 {κ : KT} {D : va_G} {T : Nat → ClassId} {A : Nat → Prop} {Q : State → Prop} (C : NX κ D T A RX1 cX1_init 2 2 40 35 700) {L L3 : List Nat} {f0 : Nat → va_E} {h0 n0 qa qb qc : Nat} (hN : okN n0) (hL : ∀ b ∈ L, b ∈ L3) (hm0 : h0 ∈ L3) (ha : qa ∈ L3) (hb : qb ∈ L3) (hc : qc ∈ L3) (hapart : qa ≠ h0 ∧ qb ≠ h0 ∧ qc ≠ h0 ∧ qa ≠ qb ∧ qa ≠ qc ∧ qb ≠ qc ∧ qa ∉ L ∧ qb ∉ L ∧ qc ∉ L)
    (hex : ∀ (f : Nat → va_E) (mm : List Nat), HI T L L3 f0 h0 n0 qa qb qc 4 12 f mm → NJ κ D A 2 Q (3 + 2 * 16) (28 + 42 * 16) (L3 ++ mm) f 89 [(0, .ref h0), (1, .int (nI 12))] []) :
    ∀ (m i : Nat), i + m = 12 → ∀ (f : Nat → va_E) (mm : List Nat), HI T L L3 f0 h0 n0 qa qb qc 4 i f mm → NJ κ D A 2 Q (3 + 2 * (4 + i)) (28 + 42 * (4 + i)) (L3 ++ mm) f 61 [(0, .ref h0), (1, .int (nI i))] [] := by
  intro m
  induction m with
  | zero =>
    intro i hi f mm I
    have hi : i = 12 := by omega
    subst hi
    refine n_iload_n C 1 rfl dX1_init_61 rfl ?_
    refine n_aload_n C 0 rfl dX1_init_62 rfl ?_
    refine n_get C fl_X1_17 (List.mem_append_left _ hm0) I.2.1 (k := 1) rfl dX1_init_63 ?_
    refine n_alen2 C (v := nI 12) (List.mem_append_left _ hb) I.2.2.2.1 rfl dX1_init_66 ?_
    refine n_icmp_ge C 89 dX1_init_67 (by decide) (fun _ => hex f mm I) (fun z => absurd (by decide) z)
  | succ m ih =>
    intro i hi f mm I
    refine n_iload_n C 1 rfl dX1_init_61 rfl ?_
    refine n_aload_n C 0 rfl dX1_init_62 rfl ?_
    refine n_get C fl_X1_17 (List.mem_append_left _ hm0) I.2.1 (k := 1) rfl dX1_init_63 ?_
    refine n_alen2 C (v := nI 12) (List.mem_append_left _ hb) I.2.2.2.1 rfl dX1_init_66 ?_
    refine n_icmp_ge C 89 dX1_init_67 (by decide) (fun z => absurd z (nI_ge (by omega) (by decide))) (fun _ => ?_)
    refine n_aload_n C 0 rfl dX1_init_70 rfl ?_
    refine n_get C fl_X1_17 (List.mem_append_left _ hm0) I.2.1 (k := 1) rfl dX1_init_71 ?_
    refine n_iload_n C 1 rfl dX1_init_74 rfl ?_
    refine n_new C (ci := 2) (ty := tyX2) [.null, .int 0] rfl lwX2 tyX2_ok wd_121 wd_123 wd_62 (by decide) (by omega) (by omega) dX1_init_75 (fun q hq => ?_)
    refine n_dup C rfl dX1_init_78 ?_
    have hmq : q ∈ (L3 ++ mm) ++ [q] := List.mem_append_right _ (List.mem_singleton.mpr rfl)
    have hsh := hN.2.2.2.2.1 (4 + i) (by omega)
    refine n_callIN C (host := "StairIdeals") (by decide) wd_125 wd_62 wd_126 (by decide +kernel) (fun _ => cnX2_init (n0 := n0 + 4 + 2 * (4 + i)) hsh.1 hsh.2 hmq (va_up_self f q _)) ⟨(Nat.le_of_ble_eq_true rfl), (Nat.le_of_ble_eq_true rfl)⟩ ⟨by omega, by omega⟩ (Nat.le_of_ble_eq_true rfl) dX1_init_79 (fun s g1 hp hd => ?_)
    obtain ⟨z, rfl⟩ : ∃ z, s = [z] := by
      have h1 : s.length = 1 := hp.2.1
      match s, h1 with
      | [z], _ => exact ⟨z, rfl⟩
    have hz : z ∉ (L3 ++ mm) ++ [q] := hd z (List.mem_singleton.mpr rfl)
    have hst := HI_step hL hm0 ha hb hc hapart I hq hz hp.1 hp.2
    have hgq : g1 q = .inr (2, [.ref z, .int 0]) := AT_I hp.2 hsh.1
    have hga : g1 qb = f qb := by
      have hne : qb ≠ q := fun e => hq (e ▸ List.mem_append_left _ hb)
      rw [hp.1 _ (List.mem_append_left _ (List.mem_append_left _ hb)) hne, va_up_ne _ _ hne]
    refine n_ast2 C (List.mem_append_left _ (List.mem_append_left _ (List.mem_append_left _ hb))) (List.mem_append_left _ hmq) (hga.trans I.2.2.2.1) hgq (vp_in_nI (by omega) (by decide)) dX1_init_82 ?_
    refine n_iinc C (v := nI (i + 1)) (xs1 := [(0, .ref h0), (1, .int (nI (i + 1)))]) 1 rfl dX1_init_83 (nI_1 i) (by decide) rfl ?_
    refine n_goto C 61 dX1_init_86 (by decide) ?_
    have hI := hst.2 rfl
    rw [nI_clamp (by omega)]
    have hnext := ih (i + 1) (by omega) _ _ hI
    have eL : ((L3 ++ mm) ++ [q]) ++ [z] = L3 ++ (mm ++ [q, z]) := by simp only [List.append_assoc]; rfl
    rw [eL]
    have ec : 3 + 2 * (4 + i) + 1 + 1 = 3 + 2 * (4 + (i + 1)) := by omega
    have es : 28 + 42 * (4 + i) + 2 + 40 = 28 + 42 * (4 + (i + 1)) := by omega
    rw [ec, es]
    exact hnext
theorem cnX1_init {l : Launch} {D : va_G} {T : Nat → ClassId} {L : List Nat} {f : Nat → va_E} {h0 sz n0 : Nat} (hs0 : okN n0) (hm : h0 ∈ L) (hf0 : f h0 = .inr (1, [.null, .null, .null])) : CN l yX1_init cX1_init 2 2 40 35 700 D T [.ref h0] sz L f (PN T L f h0 n0 (ndH n0) prT) := by
  refine CN_of [.ref h0] (by decide) (Nat.le_of_ble_eq_true rfl) (xs := [(0, .ref h0)]) rfl (fun κ C hr hnm => ?_)
  refine n_aload_n C 0 rfl dX1_init_0 rfl ?_
  refine n_objInit C wd_120 (Nat.le_of_ble_eq_true rfl) (Nat.le_of_ble_eq_true rfl) (Nat.le_of_ble_eq_true rfl) dX1_init_1 ?_
  refine n_aload_n C 0 rfl dX1_init_4 rfl ?_
  refine n_iconst C (v := 4) (by decide) dX1_init_5 ?_
  refine n_newq2 C (N := 4) wd_121 (by decide) (by decide) (Nat.le_of_ble_eq_true rfl) (Nat.le_of_ble_eq_true rfl) (Nat.le_of_ble_eq_true rfl) dX1_init_6 (fun qa hqa => ?_)
  have a0 : h0 ≠ qa := fun z => hqa (z ▸ hm)
  refine n_putF C hnm ff_X1_11 (List.mem_append_left _ hm) ((va_up_ne f _ a0).trans hf0) (Nat.le_of_ble_eq_true rfl) rfl rfl dX1_init_9 ?_
  have hf1 := va_up_self (va_up f qa (.inl (T 2, 4, .inr (.inr (.inr (.inr (fun _ => none))))))) h0 (.inr (1, [.ref qa, .null, .null]))
  have fa : va_up (va_up f qa (.inl (T 2, 4, .inr (.inr (.inr (.inr (fun _ => none))))))) h0 (.inr (1, [.ref qa, .null, .null])) qa = .inl (T 2, 4, .inr (.inr (.inr (.inr (fun _ => none))))) := (va_up_ne _ _ a0.symm).trans (va_up_self _ _ _)
  have hk : ∀ b, b ∈ L → b ≠ h0 → va_up (va_up f qa (.inl (T 2, 4, .inr (.inr (.inr (.inr (fun _ => none))))))) h0 (.inr (1, [.ref qa, .null, .null])) b = f b := fun b hb hb0 => (va_up_ne _ _ hb0).trans (va_up_ne _ _ (fun z : b = qa => hqa (z ▸ hb)))
  show NJ _ _ _ _ _ _ _ _ (va_up (va_up f qa (.inl (T 2, 4, .inr (.inr (.inr (.inr (fun _ => none))))))) h0 (.inr (1, [.ref qa, .null, .null]))) _ _ _
  generalize va_up (va_up f qa (.inl (T 2, 4, .inr (.inr (.inr (.inr (fun _ => none))))))) h0 (.inr (1, [.ref qa, .null, .null])) = f1 at hf1 fa hk ⊢
  refine n_aload_n C 0 rfl dX1_init_12 rfl ?_
  refine n_bipush C (v := 12) (by decide) dX1_init_13 ?_
  refine n_newq2 C (N := 12) wd_121 (by decide) (by decide) (Nat.le_of_ble_eq_true rfl) (Nat.le_of_ble_eq_true rfl) (Nat.le_of_ble_eq_true rfl) dX1_init_15 (fun qb hqb => ?_)
  have b0 : h0 ≠ qb := fun z => hqb (z ▸ List.mem_append_left _ hm)
  have ab : qa ≠ qb := fun z => hqb (z ▸ List.mem_append_right _ (List.mem_singleton.mpr rfl))
  refine n_putF C hnm ff_X1_17 (List.mem_append_left _ (List.mem_append_left _ hm)) ((va_up_ne f1 _ b0).trans hf1) (Nat.le_of_ble_eq_true rfl) rfl rfl dX1_init_18 ?_
  have hf2 := va_up_self (va_up f1 qb (.inl (T 2, 12, .inr (.inr (.inr (.inr (fun _ => none))))))) h0 (.inr (1, [.ref qa, .ref qb, .null]))
  have fa : va_up (va_up f1 qb (.inl (T 2, 12, .inr (.inr (.inr (.inr (fun _ => none))))))) h0 (.inr (1, [.ref qa, .ref qb, .null])) qa = .inl (T 2, 4, .inr (.inr (.inr (.inr (fun _ => none))))) := (va_up_ne _ _ a0.symm).trans ((va_up_ne _ _ ab).trans fa)
  have fb : va_up (va_up f1 qb (.inl (T 2, 12, .inr (.inr (.inr (.inr (fun _ => none))))))) h0 (.inr (1, [.ref qa, .ref qb, .null])) qb = .inl (T 2, 12, .inr (.inr (.inr (.inr (fun _ => none))))) := (va_up_ne _ _ b0.symm).trans (va_up_self _ _ _)
  have hk : ∀ b, b ∈ L → b ≠ h0 → va_up (va_up f1 qb (.inl (T 2, 12, .inr (.inr (.inr (.inr (fun _ => none))))))) h0 (.inr (1, [.ref qa, .ref qb, .null])) b = f b := fun b hb hb0 => (va_up_ne _ _ hb0).trans ((va_up_ne _ _ (fun z : b = qb => hqb (z ▸ List.mem_append_left _ hb))).trans (hk b hb hb0))
  show NJ _ _ _ _ _ _ _ _ (va_up (va_up f1 qb (.inl (T 2, 12, .inr (.inr (.inr (.inr (fun _ => none))))))) h0 (.inr (1, [.ref qa, .ref qb, .null]))) _ _ _
  generalize va_up (va_up f1 qb (.inl (T 2, 12, .inr (.inr (.inr (.inr (fun _ => none))))))) h0 (.inr (1, [.ref qa, .ref qb, .null])) = f2 at hf2 fa fb hk ⊢
  refine n_aload_n C 0 rfl dX1_init_21 rfl ?_
  refine n_bipush C (v := 12) (by decide) dX1_init_22 ?_
  refine n_newai C (N := 12) wd_114 (by decide) (by decide) (Nat.le_of_ble_eq_true rfl) (Nat.le_of_ble_eq_true rfl) (Nat.le_of_ble_eq_true rfl) dX1_init_24 (fun qc hqc => ?_)
  have c0 : h0 ≠ qc := fun z => hqc (z ▸ List.mem_append_left _ (List.mem_append_left _ hm))
  have ac : qa ≠ qc := fun z => hqc (z ▸ List.mem_append_left _ (List.mem_append_right _ (List.mem_singleton.mpr rfl)))
  have bc : qb ≠ qc := fun z => hqc (z ▸ List.mem_append_right _ (List.mem_singleton.mpr rfl))
  refine n_putF C hnm ff_X1_20 (List.mem_append_left _ (List.mem_append_left _ (List.mem_append_left _ hm))) ((va_up_ne f2 _ c0).trans hf2) (Nat.le_of_ble_eq_true rfl) rfl rfl dX1_init_26 ?_
  have hf3 := va_up_self (va_up f2 qc (.inl (T 0, 12, .inl fun _ => 0))) h0 (.inr (1, [.ref qa, .ref qb, .ref qc]))
  have fa : va_up (va_up f2 qc (.inl (T 0, 12, .inl fun _ => 0))) h0 (.inr (1, [.ref qa, .ref qb, .ref qc])) qa = .inl (T 2, 4, .inr (.inr (.inr (.inr (fun _ => none))))) := (va_up_ne _ _ a0.symm).trans ((va_up_ne _ _ ac).trans fa)
  have fb : va_up (va_up f2 qc (.inl (T 0, 12, .inl fun _ => 0))) h0 (.inr (1, [.ref qa, .ref qb, .ref qc])) qb = .inl (T 2, 12, .inr (.inr (.inr (.inr (fun _ => none))))) := (va_up_ne _ _ b0.symm).trans ((va_up_ne _ _ bc).trans fb)
  have fc : va_up (va_up f2 qc (.inl (T 0, 12, .inl fun _ => 0))) h0 (.inr (1, [.ref qa, .ref qb, .ref qc])) qc = .inl (T 0, 12, .inl fun _ => 0) := (va_up_ne _ _ c0.symm).trans (va_up_self _ _ _)
  have hk : ∀ b, b ∈ L → b ≠ h0 → va_up (va_up f2 qc (.inl (T 0, 12, .inl fun _ => 0))) h0 (.inr (1, [.ref qa, .ref qb, .ref qc])) b = f b := fun b hb hb0 => (va_up_ne _ _ hb0).trans ((va_up_ne _ _ (fun z : b = qc => hqc (z ▸ List.mem_append_left _ (List.mem_append_left _ hb)))).trans (hk b hb hb0))
  show NJ _ _ _ _ _ _ _ _ (va_up (va_up f2 qc (.inl (T 0, 12, .inl fun _ => 0))) h0 (.inr (1, [.ref qa, .ref qb, .ref qc]))) _ _ _
  generalize va_up (va_up f2 qc (.inl (T 0, 12, .inl fun _ => 0))) h0 (.inr (1, [.ref qa, .ref qb, .ref qc])) = f3 at hf3 fa fb fc hk ⊢
  refine n_iconst C (v := nI 0) (by decide) dX1_init_29 ?_
  refine n_istore_n C (xs1 := [(0, .ref h0), (1, .int (nI 0))]) dX1_init_30 rfl (by decide) rfl ?_
  have hma : qa ∈ ((L ++ [qa]) ++ [qb]) ++ [qc] := List.mem_append_left _ (List.mem_append_left _ (List.mem_append_right _ (List.mem_singleton.mpr rfl)))
  have hmb : qb ∈ ((L ++ [qa]) ++ [qb]) ++ [qc] := List.mem_append_left _ (List.mem_append_right _ (List.mem_singleton.mpr rfl))
  have hmc : qc ∈ ((L ++ [qa]) ++ [qb]) ++ [qc] := List.mem_append_right _ (List.mem_singleton.mpr rfl)
  have hL3 : ∀ b ∈ L, b ∈ ((L ++ [qa]) ++ [qb]) ++ [qc] := fun b hb => List.mem_append_left _ (List.mem_append_left _ (List.mem_append_left _ hb))
  have hap : qa ≠ h0 ∧ qb ≠ h0 ∧ qc ≠ h0 ∧ qa ≠ qb ∧ qa ≠ qc ∧ qb ≠ qc ∧ qa ∉ L ∧ qb ∉ L ∧ qc ∉ L := ⟨a0.symm, b0.symm, c0.symm, ab, ac, bc, hqa, fun z => hqb (List.mem_append_left _ z), fun z => hqc (List.mem_append_left _ (List.mem_append_left _ z))⟩
  have I0 : HI T L (((L ++ [qa]) ++ [qb]) ++ [qc]) f h0 n0 qa qb qc 0 0 f3 [] := by
    refine ⟨rfl, hf3, ?_, ?_, fc, fun j hj => absurd hj (by omega), hk, fun x hx => absurd hx List.not_mem_nil⟩
    · rw [fa]
      have hfun : (fun _ => none : Nat → Option Nat) = (fun j => if j < 0 then some (([] : List Nat).getD (2 * j) 0) else none) := by
        funext j
        rw [if_neg (by omega)]
      rw [hfun]
    · rw [fb]
      have hfun : (fun _ => none : Nat → Option Nat) = (fun j => if j < 0 then some (([] : List Nat).getD (2 * (4 + j)) 0) else none) := by
        funext j
        rw [if_neg (by omega)]
      rw [hfun]
  have hgo := loopA_X1 (Q := MQ (kb κ) (QN D sz L (PN T L f h0 n0 (ndH n0) prT)) (ka κ) (ks κ) 35 700 (fun q => q ∈ L ∨ sz ≤ q)) C hs0 hL3 (hL3 _ hm) hma hmb hmc hap (fun fA mA IA => ?_) 4 0 rfl f3 [] I0
  · rw [List.append_nil] at hgo
    exact hgo
  · refine n_iconst C (v := nI 0) (by decide) dX1_init_59 ?_
    refine n_istore_n C (xs1 := [(0, .ref h0), (1, .int (nI 0))]) dX1_init_60 rfl (by decide) rfl ?_
    refine loopB_X1 C hs0 hL3 (hL3 _ hm) hma hmb hmc hap (fun fB mB IB => ?_) 12 0 rfl fA mA IA
    have eL : (((L ++ [qa]) ++ [qb]) ++ [qc]) ++ mB = L ++ ([qa] ++ ([qb] ++ ([qc] ++ mB))) := by simp only [List.append_assoc]
    rw [eL]
    obtain ⟨i1, i2, i3, i4, i5, i6, i7, i8⟩ := IB
    refine n_vret C hr (ns := [qa] ++ ([qb] ++ ([qc] ++ mB))) ⟨i7, ?_, List.mem_append_left _ hm, fun x hx => List.mem_append_right _ hx, fun g e1 e2 e3 _ => ?_⟩ dX1_init_89
    · unfold ndH
      rw [List.length_append, List.length_append, List.length_append, i1]
      simp
    · have hel : ∀ k, k < 35 → ([qa] ++ ([qb] ++ ([qc] ++ mB)))[k]? = some (gad g (n0 + 1 + k)) := fun k hk => by
        rw [e3]
        unfold ndH
        rw [List.getElem?_map, List.getElem?_map, List.getElem?_range hk]
        rfl
      have ea : qa = gad g (n0 + 1) := Option.some.inj (hel 0 (by omega))
      have eb : qb = gad g (n0 + 2) := Option.some.inj (hel 1 (by omega))
      have ec : qc = gad g (n0 + 3) := Option.some.inj (hel 2 (by omega))
      have em : ∀ k, k < 32 → mB.getD k 0 = gad g (n0 + 4 + k) := fun k hk => by
        have h1 := hel (k + 3) (by omega)
        have h2 : ([qa] ++ ([qb] ++ ([qc] ++ mB)))[k + 3]? = mB[k]? := rfl
        rw [h2] at h1
        rw [List.getD_eq_getElem?_getD, h1]
        show gad g (n0 + 1 + (k + 3)) = _
        congr 1
        omega
      have hai : ∀ i, i < 16 → fB (gad g (n0 + 4 + 2 * i)) = cellS g S0 (n0 + 4 + 2 * i) ∧ fB (gad g (n0 + 4 + 2 * i + 1)) = cellS g S0 (n0 + 4 + 2 * i + 1) := fun i hi => by
        have h1 := (i6 i (by omega)).2.2.2 g e1 (em (2 * i) (by omega)).symm (by rw [em (2 * i + 1) (by omega)]; rfl) trivial
        rw [em (2 * i) (by omega)] at h1
        exact ⟨h1.1, h1.2 _ (List.mem_singleton.mpr rfl)⟩
      refine ⟨?_, fun n hn => ?_⟩
      · rw [i2, cell_obj hs0.1, ea, eb, ec]
        show _ = (Sum.inr (1, [fval g S0 n0 0 (n0 + 1 + 10), fval g S0 n0 1 (n0 + 2 + 10), fval g S0 n0 2 (n0 + 3 + 10)]) : va_E)
        rw [fval_ref, fval_ref, fval_ref]
      · unfold ndH at hn
        obtain ⟨j, hj, rfl⟩ := List.mem_map.mp hn
        have hj := List.mem_range.mp hj
        by_cases j0 : j = 0
        · subst j0
          rw [show n0 + 1 + 0 = n0 + 1 from rfl, ← ea, i3, cell_arr hs0.2.1, ← e1]
          show _ = (.inl (gT g 2, 4, .inr (.inr (.inr (.inr (fun j => if j < 4 then some (gad g (el (n0 + 1) j)) else none))))) : va_E)
          have hfun : (fun j => if j < 4 then some (mB.getD (2 * j) 0) else none) = (fun j => if j < 4 then some (gad g (el (n0 + 1) j)) else none) := by
            funext j
            by_cases h : j < 4
            · rw [if_pos h, if_pos h, em (2 * j) (by omega), hs0.2.2.2.2.2.1 j h]
            · rw [if_neg h, if_neg h]
          rw [hfun]
        · by_cases j1 : j = 1
          · subst j1
            rw [show n0 + 1 + 1 = n0 + 2 from rfl, ← eb, i4, cell_arr hs0.2.2.1, ← e1]
            show _ = (.inl (gT g 2, 12, .inr (.inr (.inr (.inr (fun j => if j < 12 then some (gad g (el (n0 + 2) j)) else none))))) : va_E)
            have hfun : (fun j => if j < 12 then some (mB.getD (2 * (4 + j)) 0) else none) = (fun j => if j < 12 then some (gad g (el (n0 + 2) j)) else none) := by
              funext j
              by_cases h : j < 12
              · rw [if_pos h, if_pos h, em (2 * (4 + j)) (by omega), hs0.2.2.2.2.2.2 j h]
              · rw [if_neg h, if_neg h]
            rw [hfun]
          · by_cases j2 : j = 2
            · subst j2
              rw [show n0 + 1 + 2 = n0 + 3 from rfl, ← ec, i5, cell_arr hs0.2.2.2.1, ← e1]
              rfl
            · rcases Nat.mod_two_eq_zero_or_one (j - 3) with hm2 | hm2
              · have e : n0 + 1 + j = n0 + 4 + 2 * ((j - 3) / 2) := by omega
                rw [e]
                exact (hai ((j - 3) / 2) (by omega)).1
              · have e : n0 + 1 + j = n0 + 4 + 2 * ((j - 3) / 2) + 1 := by omega
                rw [e]
                exact (hai ((j - 3) / 2) (by omega)).2
