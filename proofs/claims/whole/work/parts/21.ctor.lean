/-! CONSTRUCTORS -/
def S0 : St := (fun _ _ => 0, fun _ _ => 0, 0)
def prT : GT → Prop := fun _ => True
def prN : GT → Prop := fun g => ∀ j, gpr g j = false
/-- what stands at node n0 (address h0), and at the addresses ns for the nodes nd, is as new -/
def AT (T : Nat → ClassId) (L : List Nat) (f : Nat → va_E) (h0 n0 : Nat) (nd : List Nat) (pr : GT → Prop) (ns : List Nat) : Prop :=
  ns.length = nd.length ∧ h0 ∈ L ∧ (∀ x ∈ ns, x ∈ L) ∧ ∀ g : GT, gT g = T → gad g n0 = h0 → ns = nd.map (gad g) → pr g → f h0 = cellS g S0 n0 ∧ ∀ n ∈ nd, f (gad g n) = cellS g S0 n
def PN (T : Nat → ClassId) (L : List Nat) (f : Nat → va_E) (h0 n0 : Nat) (nd : List Nat) (pr : GT → Prop) (ns : List Nat) (f1 : Nat → va_E) : Prop := (∀ b, b ∈ L → b ≠ h0 → f1 b = f b) ∧ AT T (L ++ ns) f1 h0 n0 nd pr ns
section ATS
variable {T : Nat → ClassId} {L L1 : List Nat} {f f1 : Nat → va_E} {h0 n0 q c : Nat} {nd ns : List Nat} {pr : GT → Prop} {e : va_E}
theorem AT.keep (h : AT T L f h0 n0 nd pr ns) (hL : ∀ x ∈ L, x ∈ L1) (hf : ∀ b ∈ L, b = h0 ∨ b ∈ ns → f1 b = f b) : AT T L1 f1 h0 n0 nd pr ns := by
  refine ⟨h.1, hL _ h.2.1, fun x hx => hL _ (h.2.2.1 x hx), fun g e1 e2 e3 e4 => ?_⟩
  obtain ⟨h1, h2⟩ := h.2.2.2 g e1 e2 e3 e4
  refine ⟨(hf h0 h.2.1 (Or.inl rfl)).trans h1, fun n hn => ?_⟩
  have hx : gad g n ∈ ns := by rw [e3]; exact List.mem_map.mpr ⟨n, hn, rfl⟩
  exact (hf _ (h.2.2.1 _ hx) (Or.inr hx)).trans (h2 n hn)
theorem AT.fresh (h : AT T L f h0 n0 nd pr ns) (hq : q ∉ L) : AT T (L ++ [q]) (va_up f q e) h0 n0 nd pr ns := h.keep (fun x hx => List.mem_append_left _ hx) (fun b hb _ => va_up_ne f e (fun z => hq (z ▸ hb)))
theorem AT.put (h : AT T L f h0 n0 nd pr ns) (hne : c ≠ h0 ∧ c ∉ ns) : AT T L (va_up f c e) h0 n0 nd pr ns := h.keep (fun _ z => z) (fun b _ hb => va_up_ne f e (fun z => hb.elim (fun w => hne.1 (z.symm.trans w)) (fun w => hne.2 (z ▸ w))))
theorem AT.call {ns1 : List Nat} (h : AT T L f h0 n0 nd pr ns) (hf : ∀ b, b ∈ L → b ≠ c → f1 b = f b) (hne : c ≠ h0 ∧ c ∉ ns) : AT T (L ++ ns1) f1 h0 n0 nd pr ns := h.keep (fun x hx => List.mem_append_left _ hx) (fun b hb h1 => hf b hb (fun z => h1.elim (fun w => hne.1 (z.symm.trans w)) (fun w => hne.2 (z ▸ w))))
theorem AT.arr0 {len : Nat} (hm : q ∈ L) (hf : f q = .inl (T 0, len, .inl fun _ => 0)) (hs : sh n0 = .inl (0, len)) : AT T L f q n0 [] prT [] := ⟨rfl, hm, fun x hx => absurd hx List.not_mem_nil, fun g e1 _ _ _ => ⟨by rw [hf, cell_arr hs, ← e1]; rfl, fun n hn => absurd hn List.not_mem_nil⟩⟩
theorem AT.arr1 {len : Nat} (hm : q ∈ L) (hf : f q = .inl (T 1, len, .inl fun _ => 0)) (hs : sh n0 = .inl (1, len)) : AT T L f q n0 [] prT [] := ⟨rfl, hm, fun x hx => absurd hx List.not_mem_nil, fun g e1 _ _ _ => ⟨by rw [hf, cell_arr hs, ← e1]; rfl, fun n hn => absurd hn List.not_mem_nil⟩⟩
theorem AT.arr3 {len : Nat} (hm : q ∈ L) (hf : f q = .inl (T 3, len, .inr (.inr (.inr (.inr (fun _ => none)))))) (hs : sh n0 = .inl (3, len)) : AT T L f q n0 [] prN [] := ⟨rfl, hm, fun x hx => absurd hx List.not_mem_nil, fun g e1 _ _ e4 => ⟨by
  rw [hf, cell_arr hs, ← e1]
  have h1 : (fun j => if gpr g j then some (gad g (el n0 j)) else none) = (fun _ => none) := by
    funext j
    rw [e4 j]
    rfl
  show _ = (.inl (gT g 3, len, .inr (.inr (.inr (.inr (fun j => if gpr g j then some (gad g (el n0 j)) else none))))) : va_E)
  rw [h1], fun n hn => absurd hn List.not_mem_nil⟩⟩
end ATS
def ndH (n : Nat) : List Nat := (List.range 35).map (fun j => n + 1 + j)
def ndX4 : List Nat := [20] ++ [21]
def ndX0 : List Nat := [27]
def ndX8 : List Nat := 29 :: (List.range 25).map (fun j => 30 + j)
def ndX9 : List Nat := [55] ++ ([55 + 1] ++ ([57] ++ [57 + 1]))
def ndX7 : List Nat := [59] ++ ([59 + 1] ++ ([25] ++ ([26] ++ (ndX0 ++ ([28] ++ ndX8)))))
def ndX10 : List Nat := [19] ++ (ndX4 ++ ([61] ++ (ndH 61 ++ ([22] ++ ([23] ++ (ndX9 ++ ([24] ++ ndX7)))))))
def ndX11 : List Nat := [1] ++ ([2] ++ ([3] ++ ([4] ++ ([5] ++ ([6] ++ ([7] ++ ([8] ++ ([9] ++ ([10] ++ ([11] ++ ([12] ++ ([13] ++ ([14] ++ ([15] ++ ([16] ++ ([17]))))))))))))))))
/-- the shapes of a Holdings at node n and all below it -/
def okN (n : Nat) : Prop := sh n = .inr (1, [n + 1 + 10, n + 2 + 10, n + 3 + 10]) ∧ sh (n + 1) = .inl (2, 4) ∧ sh (n + 2) = .inl (2, 12) ∧ sh (n + 3) = .inl (0, 12) ∧ (∀ i, i < 16 → sh (n + 4 + 2 * i) = .inr (2, [n + 4 + 2 * i + 1 + 10, 0]) ∧ sh (n + 4 + 2 * i + 1) = .inl (0, 40)) ∧ (∀ j, j < 4 → el (n + 1) j = n + 4 + 2 * j) ∧ ∀ j, j < 12 → el (n + 2) j = n + 4 + 2 * (4 + j)
theorem okN_61 : okN 61 := by unfold okN; decide +kernel
theorem okN_97 : okN 97 := by unfold okN; decide +kernel
theorem okN_133 : okN 133 := by unfold okN; decide +kernel

theorem wd_88 : Cond.methodLink "StairIdeals$Pad" 3 ⟨"java/lang/Object", "<init>", "()V"⟩ ∈ LW := LW_mem 88 (by decide +kernel) rfl
theorem wd_114 : Cond.arrayClass .int ∈ LW := LW_mem 114 (by decide +kernel) rfl
theorem wd_127 : Cond.methodLink "StairIdeals$Ideal" 3 ⟨"java/lang/Object", "<init>", "()V"⟩ ∈ LW := LW_mem 127 (by decide +kernel) rfl
theorem wd_168 : Cond.methodLink "StairIdeals$Stairs" 5 ⟨"java/lang/Object", "<init>", "()V"⟩ ∈ LW := LW_mem 168 (by decide +kernel) rfl
theorem wd_195 : Cond.methodLink "StairIdeals$Complex" 3 ⟨"java/lang/Object", "<init>", "()V"⟩ ∈ LW := LW_mem 195 (by decide +kernel) rfl
theorem wd_730 : Cond.methodLink "StairIdealsModel" 1 ⟨"java/lang/Object", "<init>", "()V"⟩ ∈ LW := LW_mem 730 (by decide +kernel) rfl
theorem wd_825 : Cond.arrayClass .boolean ∈ LW := LW_mem 825 (by decide +kernel) rfl
theorem ff_X0_11 : FFt RX0 11 0 0 (.array .int) := ⟨_, _, _, tyX0, rfl, lwX0, by decide, wd_196, tyX0_ok, nmX0, rfl, rfl, by decide +kernel⟩
theorem ff_X11_13 : FFt RX11 13 9 1 (.array .int) := ⟨_, _, _, tyX11, rfl, lwX11, by decide, wd_732, tyX11_ok, nmX11, rfl, rfl, by decide +kernel⟩
theorem ff_X11_16 : FFt RX11 16 9 2 (.array .int) := ⟨_, _, _, tyX11, rfl, lwX11, by decide, wd_733, tyX11_ok, nmX11, rfl, rfl, by decide +kernel⟩
theorem ff_X11_19 : FFt RX11 19 9 3 (.array .boolean) := ⟨_, _, _, tyX11, rfl, lwX11, by decide, wd_734, tyX11_ok, nmX11, rfl, rfl, by decide +kernel⟩
theorem ff_X11_23 : FFt RX11 23 9 4 (.array .int) := ⟨_, _, _, tyX11, rfl, lwX11, by decide, wd_735, tyX11_ok, nmX11, rfl, rfl, by decide +kernel⟩
theorem ff_X11_26 : FFt RX11 26 9 6 (.array .int) := ⟨_, _, _, tyX11, rfl, lwX11, by decide, wd_737, tyX11_ok, nmX11, rfl, rfl, by decide +kernel⟩
theorem ff_X11_29 : FFt RX11 29 9 9 (.array .int) := ⟨_, _, _, tyX11, rfl, lwX11, by decide, wd_740, tyX11_ok, nmX11, rfl, rfl, by decide +kernel⟩
theorem ff_X11_32 : FFt RX11 32 9 11 (.array .boolean) := ⟨_, _, _, tyX11, rfl, lwX11, by decide, wd_742, tyX11_ok, nmX11, rfl, rfl, by decide +kernel⟩
theorem ff_X11_35 : FFt RX11 35 9 12 (.array .int) := ⟨_, _, _, tyX11, rfl, lwX11, by decide, wd_743, tyX11_ok, nmX11, rfl, rfl, by decide +kernel⟩
theorem ff_X11_38 : FFt RX11 38 9 14 (.array .int) := ⟨_, _, _, tyX11, rfl, lwX11, by decide, wd_745, tyX11_ok, nmX11, rfl, rfl, by decide +kernel⟩
theorem ff_X11_41 : FFt RX11 41 9 15 (.array .int) := ⟨_, _, _, tyX11, rfl, lwX11, by decide, wd_746, tyX11_ok, nmX11, rfl, rfl, by decide +kernel⟩
theorem ff_X11_44 : FFt RX11 44 9 16 (.array .int) := ⟨_, _, _, tyX11, rfl, lwX11, by decide, wd_747, tyX11_ok, nmX11, rfl, rfl, by decide +kernel⟩
theorem ff_X11_47 : FFt RX11 47 9 18 (.array .int) := ⟨_, _, _, tyX11, rfl, lwX11, by decide, wd_749, tyX11_ok, nmX11, rfl, rfl, by decide +kernel⟩
theorem ff_X11_50 : FFt RX11 50 9 22 (.array .boolean) := ⟨_, _, _, tyX11, rfl, lwX11, by decide, wd_753, tyX11_ok, nmX11, rfl, rfl, by decide +kernel⟩
theorem ff_X11_53 : FFt RX11 53 9 24 (.array .int) := ⟨_, _, _, tyX11, rfl, lwX11, by decide, wd_755, tyX11_ok, nmX11, rfl, rfl, by decide +kernel⟩
theorem ff_X11_56 : FFt RX11 56 9 27 (.array .int) := ⟨_, _, _, tyX11, rfl, lwX11, by decide, wd_758, tyX11_ok, nmX11, rfl, rfl, by decide +kernel⟩
theorem ff_X11_59 : FFt RX11 59 9 28 (.array .boolean) := ⟨_, _, _, tyX11, rfl, lwX11, by decide, wd_759, tyX11_ok, nmX11, rfl, rfl, by decide +kernel⟩
theorem ff_X11_7 : FFt RX11 7 9 0 (.array .int) := ⟨_, _, _, tyX11, rfl, lwX11, by decide, wd_731, tyX11_ok, nmX11, rfl, rfl, by decide +kernel⟩
theorem ff_X2_9 : FFt RX2 9 2 0 (.array .int) := ⟨_, _, _, tyX2, rfl, lwX2, by decide, wd_128, tyX2_ok, nmX2, rfl, rfl, by decide +kernel⟩
theorem ff_X4_15 : FFt RX4 15 3 3 (.array .int) := ⟨_, _, _, tyX4, rfl, lwX4, by decide, wd_95, tyX4_ok, nmX4, rfl, rfl, by decide +kernel⟩
theorem ff_X4_9 : FFt RX4 9 3 0 (.array .int) := ⟨_, _, _, tyX4, rfl, lwX4, by decide, wd_89, tyX4_ok, nmX4, rfl, rfl, by decide +kernel⟩
theorem ff_X6_11 : FFt RX6 11 4 0 (.array .int) := ⟨_, _, _, tyX6, rfl, lwX6, by decide, wd_169, tyX6_ok, nmX6, rfl, rfl, by decide +kernel⟩
theorem cnX2_init {l : Launch} {D : va_G} {T : Nat → ClassId} {L : List Nat} {f : Nat → va_E} {h0 sz n0 : Nat} (hs0 : sh n0 = .inr (2, [n0 + 1 + 10, 0])) (hs1 : sh (n0 + 1) = .inl (0, 40)) (hm : h0 ∈ L) (hf0 : f h0 = .inr (2, [.null, .int 0])) : CN l yX2_init cX2_init 1 1 20 1 40 D T [.ref h0] sz L f (PN T L f h0 n0 ([n0 + 1]) prT) := by
  refine CN_of [.ref h0] (by decide) (Nat.le_of_ble_eq_true rfl) (xs := [(0, .ref h0)]) rfl (fun κ C hr hnm => ?_)
  have hk : ∀ b, b ∈ L → b ≠ h0 → f b = f b := fun _ _ _ => rfl
  refine n_aload_n C 0 rfl dX2_init_0 rfl ?_
  refine n_objInit C wd_127 (Nat.le_of_ble_eq_true rfl) (Nat.le_of_ble_eq_true rfl) (Nat.le_of_ble_eq_true rfl) dX2_init_1 ?_
  refine n_aload_n C 0 rfl dX2_init_4 rfl ?_
  refine n_bipush C (v := 40) (by decide) dX2_init_5 ?_
  refine n_newai C (N := 40) wd_114 (by decide) (by decide) (Nat.le_of_ble_eq_true rfl) (Nat.le_of_ble_eq_true rfl) (Nat.le_of_ble_eq_true rfl) dX2_init_7 (fun q1 hq1 => ?_)
  have h0q1 : h0 ≠ q1 := fun z => hq1 (z ▸ hm)
  have hf0 := (va_up_ne f (.inl (T 0, 40, .inl fun _ => 0)) h0q1).trans hf0
  have hk : ∀ b, b ∈ L → b ≠ h0 → va_up f q1 (.inl (T 0, 40, .inl fun _ => 0)) b = f b := fun b hb hb0 => (va_up_ne f (.inl (T 0, 40, .inl fun _ => 0)) (fun z : b = q1 => hq1 (z ▸ (hb)))).trans (hk b hb hb0)
  have hfq := va_up_self f q1 (.inl (T 0, 40, .inl fun _ => 0))
  have hm := List.mem_append_left [q1] hm
  have hmq : q1 ∈ L ++ [q1] := List.mem_append_right _ (List.mem_singleton.mpr rfl)
  generalize va_up f q1 (.inl (T 0, 40, .inl fun _ => 0)) = f_1 at hf0 hk hfq ⊢
  have at0 : AT T (L ++ [q1]) f_1 q1 (n0 + 1) [] prT [] := AT.arr0 (len := 40) hmq hfq hs1
  have ne0 : h0 ≠ q1 ∧ h0 ∉ ([] : List Nat) := ⟨h0q1, List.not_mem_nil⟩
  refine n_putF C hnm ff_X2_9 hm hf0 (Nat.le_of_ble_eq_true rfl) rfl rfl dX2_init_9 ?_
  have hf0 := va_up_self f_1 h0 (.inr (2, [.ref q1, .int 0]))
  have hk : ∀ b, b ∈ L → b ≠ h0 → va_up f_1 h0 (.inr (2, [.ref q1, .int 0])) b = f b := fun b hb hb0 => (va_up_ne f_1 (.inr (2, [.ref q1, .int 0])) hb0).trans (hk b hb hb0)
  have at0 := AT.put (e := (.inr (2, [.ref q1, .int 0]))) at0 ne0
  show NJ _ _ _ _ _ _ _ _ (va_up f_1 h0 (.inr (2, [.ref q1, .int 0]))) _ _ _
  generalize va_up f_1 h0 (.inr (2, [.ref q1, .int 0])) = f_2 at hf0 hk at0 ⊢
  try simp only [List.append_assoc]
  refine n_vret C hr (ns := [q1]) ⟨hk, ?_⟩ dX2_init_12
  have eL : (L ++ [q1]) = L ++ ([q1]) := by first | rfl | simp only [List.append_assoc]
  refine ⟨?_, eL ▸ hm, fun x hx => List.mem_append_right _ hx, fun g e1 e2 e3 e4 => ?_⟩
  · simp []
  have u0 := e3
  have v0 : gad g (n0 + 1) = q1 := (List.cons.inj u0).1.symm
  have t0 := at0.2.2.2 g e1 v0 rfl trivial
  refine ⟨?_, fun n hn => ?_⟩
  · rw [hf0, cell_obj hs0, ← v0]
    exact congrArg Sum.inr (congrArg (Prod.mk _) (by simp only [List.mapIdx, List.mapIdx.go, fval_ref]; rfl))
  · rw [List.mem_singleton.mp hn, v0]; exact t0.1
theorem cnX6_init {l : Launch} {D : va_G} {T : Nat → ClassId} {L : List Nat} {f : Nat → va_E} {h0 sz n0 : Nat} (hs0 : sh n0 = .inr (4, [n0 + 1 + 10])) (hs1 : sh (n0 + 1) = .inl (0, 343)) (hm : h0 ∈ L) (hf0 : f h0 = .inr (4, [.null])) : CN l yX6_init cX6_init 1 1 20 1 343 D T [.ref h0] sz L f (PN T L f h0 n0 ([n0 + 1]) prT) := by
  refine CN_of [.ref h0] (by decide) (Nat.le_of_ble_eq_true rfl) (xs := [(0, .ref h0)]) rfl (fun κ C hr hnm => ?_)
  have hk : ∀ b, b ∈ L → b ≠ h0 → f b = f b := fun _ _ _ => rfl
  refine n_aload_n C 0 rfl dX6_init_0 rfl ?_
  refine n_objInit C wd_168 (Nat.le_of_ble_eq_true rfl) (Nat.le_of_ble_eq_true rfl) (Nat.le_of_ble_eq_true rfl) dX6_init_1 ?_
  refine n_aload_n C 0 rfl dX6_init_4 rfl ?_
  refine n_sipush C (v := 343) (by decide) dX6_init_5 ?_
  refine n_newai C (N := 343) wd_114 (by decide) (by decide) (Nat.le_of_ble_eq_true rfl) (Nat.le_of_ble_eq_true rfl) (Nat.le_of_ble_eq_true rfl) dX6_init_8 (fun q1 hq1 => ?_)
  have h0q1 : h0 ≠ q1 := fun z => hq1 (z ▸ hm)
  have hf0 := (va_up_ne f (.inl (T 0, 343, .inl fun _ => 0)) h0q1).trans hf0
  have hk : ∀ b, b ∈ L → b ≠ h0 → va_up f q1 (.inl (T 0, 343, .inl fun _ => 0)) b = f b := fun b hb hb0 => (va_up_ne f (.inl (T 0, 343, .inl fun _ => 0)) (fun z : b = q1 => hq1 (z ▸ (hb)))).trans (hk b hb hb0)
  have hfq := va_up_self f q1 (.inl (T 0, 343, .inl fun _ => 0))
  have hm := List.mem_append_left [q1] hm
  have hmq : q1 ∈ L ++ [q1] := List.mem_append_right _ (List.mem_singleton.mpr rfl)
  generalize va_up f q1 (.inl (T 0, 343, .inl fun _ => 0)) = f_1 at hf0 hk hfq ⊢
  have at0 : AT T (L ++ [q1]) f_1 q1 (n0 + 1) [] prT [] := AT.arr0 (len := 343) hmq hfq hs1
  have ne0 : h0 ≠ q1 ∧ h0 ∉ ([] : List Nat) := ⟨h0q1, List.not_mem_nil⟩
  refine n_putF C hnm ff_X6_11 hm hf0 (Nat.le_of_ble_eq_true rfl) rfl rfl dX6_init_10 ?_
  have hf0 := va_up_self f_1 h0 (.inr (4, [.ref q1]))
  have hk : ∀ b, b ∈ L → b ≠ h0 → va_up f_1 h0 (.inr (4, [.ref q1])) b = f b := fun b hb hb0 => (va_up_ne f_1 (.inr (4, [.ref q1])) hb0).trans (hk b hb hb0)
  have at0 := AT.put (e := (.inr (4, [.ref q1]))) at0 ne0
  show NJ _ _ _ _ _ _ _ _ (va_up f_1 h0 (.inr (4, [.ref q1]))) _ _ _
  generalize va_up f_1 h0 (.inr (4, [.ref q1])) = f_2 at hf0 hk at0 ⊢
  try simp only [List.append_assoc]
  refine n_vret C hr (ns := [q1]) ⟨hk, ?_⟩ dX6_init_13
  have eL : (L ++ [q1]) = L ++ ([q1]) := by first | rfl | simp only [List.append_assoc]
  refine ⟨?_, eL ▸ hm, fun x hx => List.mem_append_right _ hx, fun g e1 e2 e3 e4 => ?_⟩
  · simp []
  have u0 := e3
  have v0 : gad g (n0 + 1) = q1 := (List.cons.inj u0).1.symm
  have t0 := at0.2.2.2 g e1 v0 rfl trivial
  refine ⟨?_, fun n hn => ?_⟩
  · rw [hf0, cell_obj hs0, ← v0]
    exact congrArg Sum.inr (congrArg (Prod.mk _) (by simp only [List.mapIdx, List.mapIdx.go, fval_ref]; rfl))
  · rw [List.mem_singleton.mp hn, v0]; exact t0.1
theorem cnX4_init {l : Launch} {D : va_G} {T : Nat → ClassId} {L : List Nat} {f : Nat → va_E} {h0 sz : Nat} (hm : h0 ∈ L) (hf0 : f h0 = .inr (3, [.null, .int 0, .int 0, .null, .int 0, .int 0, .int 0])) : CN l yX4_init cX4_init 1 1 20 2 120 D T [.ref h0] sz L f (PN T L f h0 19 (ndX4) prT) := by
  refine CN_of [.ref h0] (by decide) (Nat.le_of_ble_eq_true rfl) (xs := [(0, .ref h0)]) rfl (fun κ C hr hnm => ?_)
  have hk : ∀ b, b ∈ L → b ≠ h0 → f b = f b := fun _ _ _ => rfl
  refine n_aload_n C 0 rfl dX4_init_0 rfl ?_
  refine n_objInit C wd_88 (Nat.le_of_ble_eq_true rfl) (Nat.le_of_ble_eq_true rfl) (Nat.le_of_ble_eq_true rfl) dX4_init_1 ?_
  refine n_aload_n C 0 rfl dX4_init_4 rfl ?_
  refine n_bipush C (v := 60) (by decide) dX4_init_5 ?_
  refine n_newai C (N := 60) wd_114 (by decide) (by decide) (Nat.le_of_ble_eq_true rfl) (Nat.le_of_ble_eq_true rfl) (Nat.le_of_ble_eq_true rfl) dX4_init_7 (fun q1 hq1 => ?_)
  have h0q1 : h0 ≠ q1 := fun z => hq1 (z ▸ hm)
  have hf0 := (va_up_ne f (.inl (T 0, 60, .inl fun _ => 0)) h0q1).trans hf0
  have hk : ∀ b, b ∈ L → b ≠ h0 → va_up f q1 (.inl (T 0, 60, .inl fun _ => 0)) b = f b := fun b hb hb0 => (va_up_ne f (.inl (T 0, 60, .inl fun _ => 0)) (fun z : b = q1 => hq1 (z ▸ (hb)))).trans (hk b hb hb0)
  have hfq := va_up_self f q1 (.inl (T 0, 60, .inl fun _ => 0))
  have hm := List.mem_append_left [q1] hm
  have hmq : q1 ∈ L ++ [q1] := List.mem_append_right _ (List.mem_singleton.mpr rfl)
  generalize va_up f q1 (.inl (T 0, 60, .inl fun _ => 0)) = f_1 at hf0 hk hfq ⊢
  have at0 : AT T (L ++ [q1]) f_1 q1 (20) [] prT [] := AT.arr0 (len := 60) hmq hfq (by decide +kernel)
  have ne0 : h0 ≠ q1 ∧ h0 ∉ ([] : List Nat) := ⟨h0q1, List.not_mem_nil⟩
  refine n_putF C hnm ff_X4_9 hm hf0 (Nat.le_of_ble_eq_true rfl) rfl rfl dX4_init_9 ?_
  have hf0 := va_up_self f_1 h0 (.inr (3, [.ref q1, .int 0, .int 0, .null, .int 0, .int 0, .int 0]))
  have hk : ∀ b, b ∈ L → b ≠ h0 → va_up f_1 h0 (.inr (3, [.ref q1, .int 0, .int 0, .null, .int 0, .int 0, .int 0])) b = f b := fun b hb hb0 => (va_up_ne f_1 (.inr (3, [.ref q1, .int 0, .int 0, .null, .int 0, .int 0, .int 0])) hb0).trans (hk b hb hb0)
  have at0 := AT.put (e := (.inr (3, [.ref q1, .int 0, .int 0, .null, .int 0, .int 0, .int 0]))) at0 ne0
  show NJ _ _ _ _ _ _ _ _ (va_up f_1 h0 (.inr (3, [.ref q1, .int 0, .int 0, .null, .int 0, .int 0, .int 0]))) _ _ _
  generalize va_up f_1 h0 (.inr (3, [.ref q1, .int 0, .int 0, .null, .int 0, .int 0, .int 0])) = f_2 at hf0 hk at0 ⊢
  refine n_aload_n C 0 rfl dX4_init_12 rfl ?_
  refine n_bipush C (v := 60) (by decide) dX4_init_13 ?_
  refine n_newai C (N := 60) wd_114 (by decide) (by decide) (Nat.le_of_ble_eq_true rfl) (Nat.le_of_ble_eq_true rfl) (Nat.le_of_ble_eq_true rfl) dX4_init_15 (fun q2 hq2 => ?_)
  have h0q2 : h0 ≠ q2 := fun z => hq2 (z ▸ hm)
  have hf0 := (va_up_ne f_2 (.inl (T 0, 60, .inl fun _ => 0)) h0q2).trans hf0
  have hk : ∀ b, b ∈ L → b ≠ h0 → va_up f_2 q2 (.inl (T 0, 60, .inl fun _ => 0)) b = f b := fun b hb hb0 => (va_up_ne f_2 (.inl (T 0, 60, .inl fun _ => 0)) (fun z : b = q2 => hq2 (z ▸ (List.mem_append_left _ (hb))))).trans (hk b hb hb0)
  have hfq := va_up_self f_2 q2 (.inl (T 0, 60, .inl fun _ => 0))
  have at0 := AT.fresh (e := (.inl (T 0, 60, .inl fun _ => 0))) at0 hq2
  have hm := List.mem_append_left [q2] hm
  have hmq : q2 ∈ (L ++ [q1]) ++ [q2] := List.mem_append_right _ (List.mem_singleton.mpr rfl)
  generalize va_up f_2 q2 (.inl (T 0, 60, .inl fun _ => 0)) = f_3 at hf0 hk hfq at0 ⊢
  have at1 : AT T ((L ++ [q1]) ++ [q2]) f_3 q2 (21) [] prT [] := AT.arr0 (len := 60) hmq hfq (by decide +kernel)
  have ne1 : h0 ≠ q2 ∧ h0 ∉ ([] : List Nat) := ⟨h0q2, List.not_mem_nil⟩
  refine n_putF C hnm ff_X4_15 hm hf0 (Nat.le_of_ble_eq_true rfl) rfl rfl dX4_init_17 ?_
  have hf0 := va_up_self f_3 h0 (.inr (3, [.ref q1, .int 0, .int 0, .ref q2, .int 0, .int 0, .int 0]))
  have hk : ∀ b, b ∈ L → b ≠ h0 → va_up f_3 h0 (.inr (3, [.ref q1, .int 0, .int 0, .ref q2, .int 0, .int 0, .int 0])) b = f b := fun b hb hb0 => (va_up_ne f_3 (.inr (3, [.ref q1, .int 0, .int 0, .ref q2, .int 0, .int 0, .int 0])) hb0).trans (hk b hb hb0)
  have at0 := AT.put (e := (.inr (3, [.ref q1, .int 0, .int 0, .ref q2, .int 0, .int 0, .int 0]))) at0 ne0
  have at1 := AT.put (e := (.inr (3, [.ref q1, .int 0, .int 0, .ref q2, .int 0, .int 0, .int 0]))) at1 ne1
  show NJ _ _ _ _ _ _ _ _ (va_up f_3 h0 (.inr (3, [.ref q1, .int 0, .int 0, .ref q2, .int 0, .int 0, .int 0]))) _ _ _
  generalize va_up f_3 h0 (.inr (3, [.ref q1, .int 0, .int 0, .ref q2, .int 0, .int 0, .int 0])) = f_4 at hf0 hk at0 at1 ⊢
  try simp only [List.append_assoc]
  refine n_vret C hr (ns := [q1] ++ ([q2])) ⟨hk, ?_⟩ dX4_init_20
  have eL : ((L ++ [q1]) ++ [q2]) = L ++ ([q1] ++ ([q2])) := by first | rfl | simp only [List.append_assoc]
  refine ⟨?_, eL ▸ hm, fun x hx => List.mem_append_right _ hx, fun g e1 e2 e3 e4 => ?_⟩
  · simp [ndX4]
  unfold ndX4 at e3 ⊢
  rw [List.map_append] at e3
  obtain ⟨u0, e3⟩ := List.append_inj e3 (by rfl)
  have u1 := e3
  have v0 : gad g (20) = q1 := (List.cons.inj u0).1.symm
  have t0 := at0.2.2.2 g e1 v0 rfl trivial
  have v1 : gad g (21) = q2 := (List.cons.inj u1).1.symm
  have t1 := at1.2.2.2 g e1 v1 rfl trivial
  refine ⟨?_, fun n hn => ?_⟩
  · rw [hf0, cell_obj (by decide +kernel : sh 19 = .inr (3, [30, 0, 0, 31, 0, 0, 0])), ← v0, ← v1]
    rfl
  · rcases List.mem_append.mp hn with hn | hn
    · rw [List.mem_singleton.mp hn, v0]; exact t0.1
    rw [List.mem_singleton.mp hn, v1]; exact t1.1
theorem cnX0_init {l : Launch} {D : va_G} {T : Nat → ClassId} {L : List Nat} {f : Nat → va_E} {h0 sz : Nat} (hm : h0 ∈ L) (hf0 : f h0 = .inr (0, [.null])) : CN l yX0_init cX0_init 1 1 20 1 16 D T [.ref h0] sz L f (PN T L f h0 26 (ndX0) prT) := by
  refine CN_of [.ref h0] (by decide) (Nat.le_of_ble_eq_true rfl) (xs := [(0, .ref h0)]) rfl (fun κ C hr hnm => ?_)
  have hk : ∀ b, b ∈ L → b ≠ h0 → f b = f b := fun _ _ _ => rfl
  refine n_aload_n C 0 rfl dX0_init_0 rfl ?_
  refine n_objInit C wd_195 (Nat.le_of_ble_eq_true rfl) (Nat.le_of_ble_eq_true rfl) (Nat.le_of_ble_eq_true rfl) dX0_init_1 ?_
  refine n_aload_n C 0 rfl dX0_init_4 rfl ?_
  refine n_bipush C (v := 16) (by decide) dX0_init_5 ?_
  refine n_newai C (N := 16) wd_114 (by decide) (by decide) (Nat.le_of_ble_eq_true rfl) (Nat.le_of_ble_eq_true rfl) (Nat.le_of_ble_eq_true rfl) dX0_init_7 (fun q1 hq1 => ?_)
  have h0q1 : h0 ≠ q1 := fun z => hq1 (z ▸ hm)
  have hf0 := (va_up_ne f (.inl (T 0, 16, .inl fun _ => 0)) h0q1).trans hf0
  have hk : ∀ b, b ∈ L → b ≠ h0 → va_up f q1 (.inl (T 0, 16, .inl fun _ => 0)) b = f b := fun b hb hb0 => (va_up_ne f (.inl (T 0, 16, .inl fun _ => 0)) (fun z : b = q1 => hq1 (z ▸ (hb)))).trans (hk b hb hb0)
  have hfq := va_up_self f q1 (.inl (T 0, 16, .inl fun _ => 0))
  have hm := List.mem_append_left [q1] hm
  have hmq : q1 ∈ L ++ [q1] := List.mem_append_right _ (List.mem_singleton.mpr rfl)
  generalize va_up f q1 (.inl (T 0, 16, .inl fun _ => 0)) = f_1 at hf0 hk hfq ⊢
  have at0 : AT T (L ++ [q1]) f_1 q1 (27) [] prT [] := AT.arr0 (len := 16) hmq hfq (by decide +kernel)
  have ne0 : h0 ≠ q1 ∧ h0 ∉ ([] : List Nat) := ⟨h0q1, List.not_mem_nil⟩
  refine n_putF C hnm ff_X0_11 hm hf0 (Nat.le_of_ble_eq_true rfl) rfl rfl dX0_init_9 ?_
  have hf0 := va_up_self f_1 h0 (.inr (0, [.ref q1]))
  have hk : ∀ b, b ∈ L → b ≠ h0 → va_up f_1 h0 (.inr (0, [.ref q1])) b = f b := fun b hb hb0 => (va_up_ne f_1 (.inr (0, [.ref q1])) hb0).trans (hk b hb hb0)
  have at0 := AT.put (e := (.inr (0, [.ref q1]))) at0 ne0
  show NJ _ _ _ _ _ _ _ _ (va_up f_1 h0 (.inr (0, [.ref q1]))) _ _ _
  generalize va_up f_1 h0 (.inr (0, [.ref q1])) = f_2 at hf0 hk at0 ⊢
  try simp only [List.append_assoc]
  refine n_vret C hr (ns := [q1]) ⟨hk, ?_⟩ dX0_init_12
  have eL : (L ++ [q1]) = L ++ ([q1]) := by first | rfl | simp only [List.append_assoc]
  refine ⟨?_, eL ▸ hm, fun x hx => List.mem_append_right _ hx, fun g e1 e2 e3 e4 => ?_⟩
  · simp [ndX0]
  unfold ndX0 at e3 ⊢
  have u0 := e3
  have v0 : gad g (27) = q1 := (List.cons.inj u0).1.symm
  have t0 := at0.2.2.2 g e1 v0 rfl trivial
  refine ⟨?_, fun n hn => ?_⟩
  · rw [hf0, cell_obj (by decide +kernel : sh 26 = .inr (0, [37])), ← v0]
    rfl
  · rw [List.mem_singleton.mp hn, v0]; exact t0.1
theorem cnX11_init {l : Launch} {D : va_G} {T : Nat → ClassId} {L : List Nat} {f : Nat → va_E} {h0 sz : Nat} (hm : h0 ∈ L) (hf0 : f h0 = .inr (9, [.null, .null, .null, .null, .null, .int 0, .null, .int 0, .int 0, .null, .int 0, .null, .null, .int 0, .null, .null, .null, .int 0, .null, .int 0, .int 0, .int 0, .null, .int 0, .null, .long 0, .int 0, .null, .null, .int 0, .int 0])) : CN l yX11_init cX11_init 1 1 20 17 15930 D T [.ref h0] sz L f (PN T L f h0 0 (ndX11) prT) := by
  refine CN_of [.ref h0] (by decide) (Nat.le_of_ble_eq_true rfl) (xs := [(0, .ref h0)]) rfl (fun κ C hr hnm => ?_)
  have hk : ∀ b, b ∈ L → b ≠ h0 → f b = f b := fun _ _ _ => rfl
  refine n_aload_n C 0 rfl dX11_init_0 rfl ?_
  refine n_objInit C wd_730 (Nat.le_of_ble_eq_true rfl) (Nat.le_of_ble_eq_true rfl) (Nat.le_of_ble_eq_true rfl) dX11_init_1 ?_
  refine n_aload_n C 0 rfl dX11_init_4 rfl ?_
  refine n_sipush C (v := 640) (by decide) dX11_init_5 ?_
  refine n_newai C (N := 640) wd_114 (by decide) (by decide) (Nat.le_of_ble_eq_true rfl) (Nat.le_of_ble_eq_true rfl) (Nat.le_of_ble_eq_true rfl) dX11_init_8 (fun q1 hq1 => ?_)
  have h0q1 : h0 ≠ q1 := fun z => hq1 (z ▸ hm)
  have hf0 := (va_up_ne f (.inl (T 0, 640, .inl fun _ => 0)) h0q1).trans hf0
  have hk : ∀ b, b ∈ L → b ≠ h0 → va_up f q1 (.inl (T 0, 640, .inl fun _ => 0)) b = f b := fun b hb hb0 => (va_up_ne f (.inl (T 0, 640, .inl fun _ => 0)) (fun z : b = q1 => hq1 (z ▸ (hb)))).trans (hk b hb hb0)
  have hfq := va_up_self f q1 (.inl (T 0, 640, .inl fun _ => 0))
  have hm := List.mem_append_left [q1] hm
  have hmq : q1 ∈ L ++ [q1] := List.mem_append_right _ (List.mem_singleton.mpr rfl)
  generalize va_up f q1 (.inl (T 0, 640, .inl fun _ => 0)) = f_1 at hf0 hk hfq ⊢
  have at0 : AT T (L ++ [q1]) f_1 q1 (1) [] prT [] := AT.arr0 (len := 640) hmq hfq (by decide +kernel)
  have ne0 : h0 ≠ q1 ∧ h0 ∉ ([] : List Nat) := ⟨h0q1, List.not_mem_nil⟩
  refine n_putF C hnm ff_X11_7 hm hf0 (Nat.le_of_ble_eq_true rfl) rfl rfl dX11_init_10 ?_
  have hf0 := va_up_self f_1 h0 (.inr (9, [.ref q1, .null, .null, .null, .null, .int 0, .null, .int 0, .int 0, .null, .int 0, .null, .null, .int 0, .null, .null, .null, .int 0, .null, .int 0, .int 0, .int 0, .null, .int 0, .null, .long 0, .int 0, .null, .null, .int 0, .int 0]))
  have hk : ∀ b, b ∈ L → b ≠ h0 → va_up f_1 h0 (.inr (9, [.ref q1, .null, .null, .null, .null, .int 0, .null, .int 0, .int 0, .null, .int 0, .null, .null, .int 0, .null, .null, .null, .int 0, .null, .int 0, .int 0, .int 0, .null, .int 0, .null, .long 0, .int 0, .null, .null, .int 0, .int 0])) b = f b := fun b hb hb0 => (va_up_ne f_1 (.inr (9, [.ref q1, .null, .null, .null, .null, .int 0, .null, .int 0, .int 0, .null, .int 0, .null, .null, .int 0, .null, .null, .null, .int 0, .null, .int 0, .int 0, .int 0, .null, .int 0, .null, .long 0, .int 0, .null, .null, .int 0, .int 0])) hb0).trans (hk b hb hb0)
  have at0 := AT.put (e := (.inr (9, [.ref q1, .null, .null, .null, .null, .int 0, .null, .int 0, .int 0, .null, .int 0, .null, .null, .int 0, .null, .null, .null, .int 0, .null, .int 0, .int 0, .int 0, .null, .int 0, .null, .long 0, .int 0, .null, .null, .int 0, .int 0]))) at0 ne0
  show NJ _ _ _ _ _ _ _ _ (va_up f_1 h0 (.inr (9, [.ref q1, .null, .null, .null, .null, .int 0, .null, .int 0, .int 0, .null, .int 0, .null, .null, .int 0, .null, .null, .null, .int 0, .null, .int 0, .int 0, .int 0, .null, .int 0, .null, .long 0, .int 0, .null, .null, .int 0, .int 0]))) _ _ _
  generalize va_up f_1 h0 (.inr (9, [.ref q1, .null, .null, .null, .null, .int 0, .null, .int 0, .int 0, .null, .int 0, .null, .null, .int 0, .null, .null, .null, .int 0, .null, .int 0, .int 0, .int 0, .null, .int 0, .null, .long 0, .int 0, .null, .null, .int 0, .int 0])) = f_2 at hf0 hk at0 ⊢
  refine n_aload_n C 0 rfl dX11_init_13 rfl ?_
  refine n_bipush C (v := 16) (by decide) dX11_init_14 ?_
  refine n_newai C (N := 16) wd_114 (by decide) (by decide) (Nat.le_of_ble_eq_true rfl) (Nat.le_of_ble_eq_true rfl) (Nat.le_of_ble_eq_true rfl) dX11_init_16 (fun q2 hq2 => ?_)
  have h0q2 : h0 ≠ q2 := fun z => hq2 (z ▸ hm)
  have hf0 := (va_up_ne f_2 (.inl (T 0, 16, .inl fun _ => 0)) h0q2).trans hf0
  have hk : ∀ b, b ∈ L → b ≠ h0 → va_up f_2 q2 (.inl (T 0, 16, .inl fun _ => 0)) b = f b := fun b hb hb0 => (va_up_ne f_2 (.inl (T 0, 16, .inl fun _ => 0)) (fun z : b = q2 => hq2 (z ▸ (List.mem_append_left _ (hb))))).trans (hk b hb hb0)
  have hfq := va_up_self f_2 q2 (.inl (T 0, 16, .inl fun _ => 0))
  have at0 := AT.fresh (e := (.inl (T 0, 16, .inl fun _ => 0))) at0 hq2
  have hm := List.mem_append_left [q2] hm
  have hmq : q2 ∈ (L ++ [q1]) ++ [q2] := List.mem_append_right _ (List.mem_singleton.mpr rfl)
  generalize va_up f_2 q2 (.inl (T 0, 16, .inl fun _ => 0)) = f_3 at hf0 hk hfq at0 ⊢
  have at1 : AT T ((L ++ [q1]) ++ [q2]) f_3 q2 (2) [] prT [] := AT.arr0 (len := 16) hmq hfq (by decide +kernel)
  have ne1 : h0 ≠ q2 ∧ h0 ∉ ([] : List Nat) := ⟨h0q2, List.not_mem_nil⟩
  refine n_putF C hnm ff_X11_13 hm hf0 (Nat.le_of_ble_eq_true rfl) rfl rfl dX11_init_18 ?_
  have hf0 := va_up_self f_3 h0 (.inr (9, [.ref q1, .ref q2, .null, .null, .null, .int 0, .null, .int 0, .int 0, .null, .int 0, .null, .null, .int 0, .null, .null, .null, .int 0, .null, .int 0, .int 0, .int 0, .null, .int 0, .null, .long 0, .int 0, .null, .null, .int 0, .int 0]))
  have hk : ∀ b, b ∈ L → b ≠ h0 → va_up f_3 h0 (.inr (9, [.ref q1, .ref q2, .null, .null, .null, .int 0, .null, .int 0, .int 0, .null, .int 0, .null, .null, .int 0, .null, .null, .null, .int 0, .null, .int 0, .int 0, .int 0, .null, .int 0, .null, .long 0, .int 0, .null, .null, .int 0, .int 0])) b = f b := fun b hb hb0 => (va_up_ne f_3 (.inr (9, [.ref q1, .ref q2, .null, .null, .null, .int 0, .null, .int 0, .int 0, .null, .int 0, .null, .null, .int 0, .null, .null, .null, .int 0, .null, .int 0, .int 0, .int 0, .null, .int 0, .null, .long 0, .int 0, .null, .null, .int 0, .int 0])) hb0).trans (hk b hb hb0)
  have at0 := AT.put (e := (.inr (9, [.ref q1, .ref q2, .null, .null, .null, .int 0, .null, .int 0, .int 0, .null, .int 0, .null, .null, .int 0, .null, .null, .null, .int 0, .null, .int 0, .int 0, .int 0, .null, .int 0, .null, .long 0, .int 0, .null, .null, .int 0, .int 0]))) at0 ne0
  have at1 := AT.put (e := (.inr (9, [.ref q1, .ref q2, .null, .null, .null, .int 0, .null, .int 0, .int 0, .null, .int 0, .null, .null, .int 0, .null, .null, .null, .int 0, .null, .int 0, .int 0, .int 0, .null, .int 0, .null, .long 0, .int 0, .null, .null, .int 0, .int 0]))) at1 ne1
  show NJ _ _ _ _ _ _ _ _ (va_up f_3 h0 (.inr (9, [.ref q1, .ref q2, .null, .null, .null, .int 0, .null, .int 0, .int 0, .null, .int 0, .null, .null, .int 0, .null, .null, .null, .int 0, .null, .int 0, .int 0, .int 0, .null, .int 0, .null, .long 0, .int 0, .null, .null, .int 0, .int 0]))) _ _ _
  generalize va_up f_3 h0 (.inr (9, [.ref q1, .ref q2, .null, .null, .null, .int 0, .null, .int 0, .int 0, .null, .int 0, .null, .null, .int 0, .null, .null, .null, .int 0, .null, .int 0, .int 0, .int 0, .null, .int 0, .null, .long 0, .int 0, .null, .null, .int 0, .int 0])) = f_4 at hf0 hk at0 at1 ⊢
  refine n_aload_n C 0 rfl dX11_init_21 rfl ?_
  refine n_bipush C (v := 12) (by decide) dX11_init_22 ?_
  refine n_newai C (N := 12) wd_114 (by decide) (by decide) (Nat.le_of_ble_eq_true rfl) (Nat.le_of_ble_eq_true rfl) (Nat.le_of_ble_eq_true rfl) dX11_init_24 (fun q3 hq3 => ?_)
  have h0q3 : h0 ≠ q3 := fun z => hq3 (z ▸ hm)
  have hf0 := (va_up_ne f_4 (.inl (T 0, 12, .inl fun _ => 0)) h0q3).trans hf0
  have hk : ∀ b, b ∈ L → b ≠ h0 → va_up f_4 q3 (.inl (T 0, 12, .inl fun _ => 0)) b = f b := fun b hb hb0 => (va_up_ne f_4 (.inl (T 0, 12, .inl fun _ => 0)) (fun z : b = q3 => hq3 (z ▸ (List.mem_append_left _ (List.mem_append_left _ (hb)))))).trans (hk b hb hb0)
  have hfq := va_up_self f_4 q3 (.inl (T 0, 12, .inl fun _ => 0))
  have at0 := AT.fresh (e := (.inl (T 0, 12, .inl fun _ => 0))) at0 hq3
  have at1 := AT.fresh (e := (.inl (T 0, 12, .inl fun _ => 0))) at1 hq3
  have hm := List.mem_append_left [q3] hm
  have hmq : q3 ∈ ((L ++ [q1]) ++ [q2]) ++ [q3] := List.mem_append_right _ (List.mem_singleton.mpr rfl)
  generalize va_up f_4 q3 (.inl (T 0, 12, .inl fun _ => 0)) = f_5 at hf0 hk hfq at0 at1 ⊢
  have at2 : AT T (((L ++ [q1]) ++ [q2]) ++ [q3]) f_5 q3 (3) [] prT [] := AT.arr0 (len := 12) hmq hfq (by decide +kernel)
  have ne2 : h0 ≠ q3 ∧ h0 ∉ ([] : List Nat) := ⟨h0q3, List.not_mem_nil⟩
  refine n_putF C hnm ff_X11_16 hm hf0 (Nat.le_of_ble_eq_true rfl) rfl rfl dX11_init_26 ?_
  have hf0 := va_up_self f_5 h0 (.inr (9, [.ref q1, .ref q2, .ref q3, .null, .null, .int 0, .null, .int 0, .int 0, .null, .int 0, .null, .null, .int 0, .null, .null, .null, .int 0, .null, .int 0, .int 0, .int 0, .null, .int 0, .null, .long 0, .int 0, .null, .null, .int 0, .int 0]))
  have hk : ∀ b, b ∈ L → b ≠ h0 → va_up f_5 h0 (.inr (9, [.ref q1, .ref q2, .ref q3, .null, .null, .int 0, .null, .int 0, .int 0, .null, .int 0, .null, .null, .int 0, .null, .null, .null, .int 0, .null, .int 0, .int 0, .int 0, .null, .int 0, .null, .long 0, .int 0, .null, .null, .int 0, .int 0])) b = f b := fun b hb hb0 => (va_up_ne f_5 (.inr (9, [.ref q1, .ref q2, .ref q3, .null, .null, .int 0, .null, .int 0, .int 0, .null, .int 0, .null, .null, .int 0, .null, .null, .null, .int 0, .null, .int 0, .int 0, .int 0, .null, .int 0, .null, .long 0, .int 0, .null, .null, .int 0, .int 0])) hb0).trans (hk b hb hb0)
  have at0 := AT.put (e := (.inr (9, [.ref q1, .ref q2, .ref q3, .null, .null, .int 0, .null, .int 0, .int 0, .null, .int 0, .null, .null, .int 0, .null, .null, .null, .int 0, .null, .int 0, .int 0, .int 0, .null, .int 0, .null, .long 0, .int 0, .null, .null, .int 0, .int 0]))) at0 ne0
  have at1 := AT.put (e := (.inr (9, [.ref q1, .ref q2, .ref q3, .null, .null, .int 0, .null, .int 0, .int 0, .null, .int 0, .null, .null, .int 0, .null, .null, .null, .int 0, .null, .int 0, .int 0, .int 0, .null, .int 0, .null, .long 0, .int 0, .null, .null, .int 0, .int 0]))) at1 ne1
  have at2 := AT.put (e := (.inr (9, [.ref q1, .ref q2, .ref q3, .null, .null, .int 0, .null, .int 0, .int 0, .null, .int 0, .null, .null, .int 0, .null, .null, .null, .int 0, .null, .int 0, .int 0, .int 0, .null, .int 0, .null, .long 0, .int 0, .null, .null, .int 0, .int 0]))) at2 ne2
  show NJ _ _ _ _ _ _ _ _ (va_up f_5 h0 (.inr (9, [.ref q1, .ref q2, .ref q3, .null, .null, .int 0, .null, .int 0, .int 0, .null, .int 0, .null, .null, .int 0, .null, .null, .null, .int 0, .null, .int 0, .int 0, .int 0, .null, .int 0, .null, .long 0, .int 0, .null, .null, .int 0, .int 0]))) _ _ _
  generalize va_up f_5 h0 (.inr (9, [.ref q1, .ref q2, .ref q3, .null, .null, .int 0, .null, .int 0, .int 0, .null, .int 0, .null, .null, .int 0, .null, .null, .null, .int 0, .null, .int 0, .int 0, .int 0, .null, .int 0, .null, .long 0, .int 0, .null, .null, .int 0, .int 0])) = f_6 at hf0 hk at0 at1 at2 ⊢
  refine n_aload_n C 0 rfl dX11_init_29 rfl ?_
  refine n_sipush C (v := 2401) (by decide) dX11_init_30 ?_
  refine n_newaz C (N := 2401) wd_825 (by decide) (by decide) (Nat.le_of_ble_eq_true rfl) (Nat.le_of_ble_eq_true rfl) (Nat.le_of_ble_eq_true rfl) dX11_init_33 (fun q4 hq4 => ?_)
  have h0q4 : h0 ≠ q4 := fun z => hq4 (z ▸ hm)
  have hf0 := (va_up_ne f_6 (.inl (T 1, 2401, .inl fun _ => 0)) h0q4).trans hf0
  have hk : ∀ b, b ∈ L → b ≠ h0 → va_up f_6 q4 (.inl (T 1, 2401, .inl fun _ => 0)) b = f b := fun b hb hb0 => (va_up_ne f_6 (.inl (T 1, 2401, .inl fun _ => 0)) (fun z : b = q4 => hq4 (z ▸ (List.mem_append_left _ (List.mem_append_left _ (List.mem_append_left _ (hb))))))).trans (hk b hb hb0)
  have hfq := va_up_self f_6 q4 (.inl (T 1, 2401, .inl fun _ => 0))
  have at0 := AT.fresh (e := (.inl (T 1, 2401, .inl fun _ => 0))) at0 hq4
  have at1 := AT.fresh (e := (.inl (T 1, 2401, .inl fun _ => 0))) at1 hq4
  have at2 := AT.fresh (e := (.inl (T 1, 2401, .inl fun _ => 0))) at2 hq4
  have hm := List.mem_append_left [q4] hm
  have hmq : q4 ∈ (((L ++ [q1]) ++ [q2]) ++ [q3]) ++ [q4] := List.mem_append_right _ (List.mem_singleton.mpr rfl)
  generalize va_up f_6 q4 (.inl (T 1, 2401, .inl fun _ => 0)) = f_7 at hf0 hk hfq at0 at1 at2 ⊢
  have at3 : AT T ((((L ++ [q1]) ++ [q2]) ++ [q3]) ++ [q4]) f_7 q4 (4) [] prT [] := AT.arr1 (len := 2401) hmq hfq (by decide +kernel)
  have ne3 : h0 ≠ q4 ∧ h0 ∉ ([] : List Nat) := ⟨h0q4, List.not_mem_nil⟩
  refine n_putF C hnm ff_X11_19 hm hf0 (Nat.le_of_ble_eq_true rfl) rfl rfl dX11_init_35 ?_
  have hf0 := va_up_self f_7 h0 (.inr (9, [.ref q1, .ref q2, .ref q3, .ref q4, .null, .int 0, .null, .int 0, .int 0, .null, .int 0, .null, .null, .int 0, .null, .null, .null, .int 0, .null, .int 0, .int 0, .int 0, .null, .int 0, .null, .long 0, .int 0, .null, .null, .int 0, .int 0]))
  have hk : ∀ b, b ∈ L → b ≠ h0 → va_up f_7 h0 (.inr (9, [.ref q1, .ref q2, .ref q3, .ref q4, .null, .int 0, .null, .int 0, .int 0, .null, .int 0, .null, .null, .int 0, .null, .null, .null, .int 0, .null, .int 0, .int 0, .int 0, .null, .int 0, .null, .long 0, .int 0, .null, .null, .int 0, .int 0])) b = f b := fun b hb hb0 => (va_up_ne f_7 (.inr (9, [.ref q1, .ref q2, .ref q3, .ref q4, .null, .int 0, .null, .int 0, .int 0, .null, .int 0, .null, .null, .int 0, .null, .null, .null, .int 0, .null, .int 0, .int 0, .int 0, .null, .int 0, .null, .long 0, .int 0, .null, .null, .int 0, .int 0])) hb0).trans (hk b hb hb0)
  have at0 := AT.put (e := (.inr (9, [.ref q1, .ref q2, .ref q3, .ref q4, .null, .int 0, .null, .int 0, .int 0, .null, .int 0, .null, .null, .int 0, .null, .null, .null, .int 0, .null, .int 0, .int 0, .int 0, .null, .int 0, .null, .long 0, .int 0, .null, .null, .int 0, .int 0]))) at0 ne0
  have at1 := AT.put (e := (.inr (9, [.ref q1, .ref q2, .ref q3, .ref q4, .null, .int 0, .null, .int 0, .int 0, .null, .int 0, .null, .null, .int 0, .null, .null, .null, .int 0, .null, .int 0, .int 0, .int 0, .null, .int 0, .null, .long 0, .int 0, .null, .null, .int 0, .int 0]))) at1 ne1
  have at2 := AT.put (e := (.inr (9, [.ref q1, .ref q2, .ref q3, .ref q4, .null, .int 0, .null, .int 0, .int 0, .null, .int 0, .null, .null, .int 0, .null, .null, .null, .int 0, .null, .int 0, .int 0, .int 0, .null, .int 0, .null, .long 0, .int 0, .null, .null, .int 0, .int 0]))) at2 ne2
  have at3 := AT.put (e := (.inr (9, [.ref q1, .ref q2, .ref q3, .ref q4, .null, .int 0, .null, .int 0, .int 0, .null, .int 0, .null, .null, .int 0, .null, .null, .null, .int 0, .null, .int 0, .int 0, .int 0, .null, .int 0, .null, .long 0, .int 0, .null, .null, .int 0, .int 0]))) at3 ne3
  show NJ _ _ _ _ _ _ _ _ (va_up f_7 h0 (.inr (9, [.ref q1, .ref q2, .ref q3, .ref q4, .null, .int 0, .null, .int 0, .int 0, .null, .int 0, .null, .null, .int 0, .null, .null, .null, .int 0, .null, .int 0, .int 0, .int 0, .null, .int 0, .null, .long 0, .int 0, .null, .null, .int 0, .int 0]))) _ _ _
  generalize va_up f_7 h0 (.inr (9, [.ref q1, .ref q2, .ref q3, .ref q4, .null, .int 0, .null, .int 0, .int 0, .null, .int 0, .null, .null, .int 0, .null, .null, .null, .int 0, .null, .int 0, .int 0, .int 0, .null, .int 0, .null, .long 0, .int 0, .null, .null, .int 0, .int 0])) = f_8 at hf0 hk at0 at1 at2 at3 ⊢
  refine n_aload_n C 0 rfl dX11_init_38 rfl ?_
  refine n_bipush C (v := 60) (by decide) dX11_init_39 ?_
  refine n_newai C (N := 60) wd_114 (by decide) (by decide) (Nat.le_of_ble_eq_true rfl) (Nat.le_of_ble_eq_true rfl) (Nat.le_of_ble_eq_true rfl) dX11_init_41 (fun q5 hq5 => ?_)
  have h0q5 : h0 ≠ q5 := fun z => hq5 (z ▸ hm)
  have hf0 := (va_up_ne f_8 (.inl (T 0, 60, .inl fun _ => 0)) h0q5).trans hf0
  have hk : ∀ b, b ∈ L → b ≠ h0 → va_up f_8 q5 (.inl (T 0, 60, .inl fun _ => 0)) b = f b := fun b hb hb0 => (va_up_ne f_8 (.inl (T 0, 60, .inl fun _ => 0)) (fun z : b = q5 => hq5 (z ▸ (List.mem_append_left _ (List.mem_append_left _ (List.mem_append_left _ (List.mem_append_left _ (hb)))))))).trans (hk b hb hb0)
  have hfq := va_up_self f_8 q5 (.inl (T 0, 60, .inl fun _ => 0))
  have at0 := AT.fresh (e := (.inl (T 0, 60, .inl fun _ => 0))) at0 hq5
  have at1 := AT.fresh (e := (.inl (T 0, 60, .inl fun _ => 0))) at1 hq5
  have at2 := AT.fresh (e := (.inl (T 0, 60, .inl fun _ => 0))) at2 hq5
  have at3 := AT.fresh (e := (.inl (T 0, 60, .inl fun _ => 0))) at3 hq5
  have hm := List.mem_append_left [q5] hm
  have hmq : q5 ∈ ((((L ++ [q1]) ++ [q2]) ++ [q3]) ++ [q4]) ++ [q5] := List.mem_append_right _ (List.mem_singleton.mpr rfl)
  generalize va_up f_8 q5 (.inl (T 0, 60, .inl fun _ => 0)) = f_9 at hf0 hk hfq at0 at1 at2 at3 ⊢
  have at4 : AT T (((((L ++ [q1]) ++ [q2]) ++ [q3]) ++ [q4]) ++ [q5]) f_9 q5 (5) [] prT [] := AT.arr0 (len := 60) hmq hfq (by decide +kernel)
  have ne4 : h0 ≠ q5 ∧ h0 ∉ ([] : List Nat) := ⟨h0q5, List.not_mem_nil⟩
  refine n_putF C hnm ff_X11_23 hm hf0 (Nat.le_of_ble_eq_true rfl) rfl rfl dX11_init_43 ?_
  have hf0 := va_up_self f_9 h0 (.inr (9, [.ref q1, .ref q2, .ref q3, .ref q4, .ref q5, .int 0, .null, .int 0, .int 0, .null, .int 0, .null, .null, .int 0, .null, .null, .null, .int 0, .null, .int 0, .int 0, .int 0, .null, .int 0, .null, .long 0, .int 0, .null, .null, .int 0, .int 0]))
  have hk : ∀ b, b ∈ L → b ≠ h0 → va_up f_9 h0 (.inr (9, [.ref q1, .ref q2, .ref q3, .ref q4, .ref q5, .int 0, .null, .int 0, .int 0, .null, .int 0, .null, .null, .int 0, .null, .null, .null, .int 0, .null, .int 0, .int 0, .int 0, .null, .int 0, .null, .long 0, .int 0, .null, .null, .int 0, .int 0])) b = f b := fun b hb hb0 => (va_up_ne f_9 (.inr (9, [.ref q1, .ref q2, .ref q3, .ref q4, .ref q5, .int 0, .null, .int 0, .int 0, .null, .int 0, .null, .null, .int 0, .null, .null, .null, .int 0, .null, .int 0, .int 0, .int 0, .null, .int 0, .null, .long 0, .int 0, .null, .null, .int 0, .int 0])) hb0).trans (hk b hb hb0)
  have at0 := AT.put (e := (.inr (9, [.ref q1, .ref q2, .ref q3, .ref q4, .ref q5, .int 0, .null, .int 0, .int 0, .null, .int 0, .null, .null, .int 0, .null, .null, .null, .int 0, .null, .int 0, .int 0, .int 0, .null, .int 0, .null, .long 0, .int 0, .null, .null, .int 0, .int 0]))) at0 ne0
  have at1 := AT.put (e := (.inr (9, [.ref q1, .ref q2, .ref q3, .ref q4, .ref q5, .int 0, .null, .int 0, .int 0, .null, .int 0, .null, .null, .int 0, .null, .null, .null, .int 0, .null, .int 0, .int 0, .int 0, .null, .int 0, .null, .long 0, .int 0, .null, .null, .int 0, .int 0]))) at1 ne1
  have at2 := AT.put (e := (.inr (9, [.ref q1, .ref q2, .ref q3, .ref q4, .ref q5, .int 0, .null, .int 0, .int 0, .null, .int 0, .null, .null, .int 0, .null, .null, .null, .int 0, .null, .int 0, .int 0, .int 0, .null, .int 0, .null, .long 0, .int 0, .null, .null, .int 0, .int 0]))) at2 ne2
  have at3 := AT.put (e := (.inr (9, [.ref q1, .ref q2, .ref q3, .ref q4, .ref q5, .int 0, .null, .int 0, .int 0, .null, .int 0, .null, .null, .int 0, .null, .null, .null, .int 0, .null, .int 0, .int 0, .int 0, .null, .int 0, .null, .long 0, .int 0, .null, .null, .int 0, .int 0]))) at3 ne3
  have at4 := AT.put (e := (.inr (9, [.ref q1, .ref q2, .ref q3, .ref q4, .ref q5, .int 0, .null, .int 0, .int 0, .null, .int 0, .null, .null, .int 0, .null, .null, .null, .int 0, .null, .int 0, .int 0, .int 0, .null, .int 0, .null, .long 0, .int 0, .null, .null, .int 0, .int 0]))) at4 ne4
  show NJ _ _ _ _ _ _ _ _ (va_up f_9 h0 (.inr (9, [.ref q1, .ref q2, .ref q3, .ref q4, .ref q5, .int 0, .null, .int 0, .int 0, .null, .int 0, .null, .null, .int 0, .null, .null, .null, .int 0, .null, .int 0, .int 0, .int 0, .null, .int 0, .null, .long 0, .int 0, .null, .null, .int 0, .int 0]))) _ _ _
  generalize va_up f_9 h0 (.inr (9, [.ref q1, .ref q2, .ref q3, .ref q4, .ref q5, .int 0, .null, .int 0, .int 0, .null, .int 0, .null, .null, .int 0, .null, .null, .null, .int 0, .null, .int 0, .int 0, .int 0, .null, .int 0, .null, .long 0, .int 0, .null, .null, .int 0, .int 0])) = f_10 at hf0 hk at0 at1 at2 at3 at4 ⊢
  refine n_aload_n C 0 rfl dX11_init_46 rfl ?_
  refine n_bipush C (v := 60) (by decide) dX11_init_47 ?_
  refine n_newai C (N := 60) wd_114 (by decide) (by decide) (Nat.le_of_ble_eq_true rfl) (Nat.le_of_ble_eq_true rfl) (Nat.le_of_ble_eq_true rfl) dX11_init_49 (fun q6 hq6 => ?_)
  have h0q6 : h0 ≠ q6 := fun z => hq6 (z ▸ hm)
  have hf0 := (va_up_ne f_10 (.inl (T 0, 60, .inl fun _ => 0)) h0q6).trans hf0
  have hk : ∀ b, b ∈ L → b ≠ h0 → va_up f_10 q6 (.inl (T 0, 60, .inl fun _ => 0)) b = f b := fun b hb hb0 => (va_up_ne f_10 (.inl (T 0, 60, .inl fun _ => 0)) (fun z : b = q6 => hq6 (z ▸ (List.mem_append_left _ (List.mem_append_left _ (List.mem_append_left _ (List.mem_append_left _ (List.mem_append_left _ (hb))))))))).trans (hk b hb hb0)
  have hfq := va_up_self f_10 q6 (.inl (T 0, 60, .inl fun _ => 0))
  have at0 := AT.fresh (e := (.inl (T 0, 60, .inl fun _ => 0))) at0 hq6
  have at1 := AT.fresh (e := (.inl (T 0, 60, .inl fun _ => 0))) at1 hq6
  have at2 := AT.fresh (e := (.inl (T 0, 60, .inl fun _ => 0))) at2 hq6
  have at3 := AT.fresh (e := (.inl (T 0, 60, .inl fun _ => 0))) at3 hq6
  have at4 := AT.fresh (e := (.inl (T 0, 60, .inl fun _ => 0))) at4 hq6
  have hm := List.mem_append_left [q6] hm
  have hmq : q6 ∈ (((((L ++ [q1]) ++ [q2]) ++ [q3]) ++ [q4]) ++ [q5]) ++ [q6] := List.mem_append_right _ (List.mem_singleton.mpr rfl)
  generalize va_up f_10 q6 (.inl (T 0, 60, .inl fun _ => 0)) = f_11 at hf0 hk hfq at0 at1 at2 at3 at4 ⊢
  have at5 : AT T ((((((L ++ [q1]) ++ [q2]) ++ [q3]) ++ [q4]) ++ [q5]) ++ [q6]) f_11 q6 (6) [] prT [] := AT.arr0 (len := 60) hmq hfq (by decide +kernel)
  have ne5 : h0 ≠ q6 ∧ h0 ∉ ([] : List Nat) := ⟨h0q6, List.not_mem_nil⟩
  refine n_putF C hnm ff_X11_26 hm hf0 (Nat.le_of_ble_eq_true rfl) rfl rfl dX11_init_51 ?_
  have hf0 := va_up_self f_11 h0 (.inr (9, [.ref q1, .ref q2, .ref q3, .ref q4, .ref q5, .int 0, .ref q6, .int 0, .int 0, .null, .int 0, .null, .null, .int 0, .null, .null, .null, .int 0, .null, .int 0, .int 0, .int 0, .null, .int 0, .null, .long 0, .int 0, .null, .null, .int 0, .int 0]))
  have hk : ∀ b, b ∈ L → b ≠ h0 → va_up f_11 h0 (.inr (9, [.ref q1, .ref q2, .ref q3, .ref q4, .ref q5, .int 0, .ref q6, .int 0, .int 0, .null, .int 0, .null, .null, .int 0, .null, .null, .null, .int 0, .null, .int 0, .int 0, .int 0, .null, .int 0, .null, .long 0, .int 0, .null, .null, .int 0, .int 0])) b = f b := fun b hb hb0 => (va_up_ne f_11 (.inr (9, [.ref q1, .ref q2, .ref q3, .ref q4, .ref q5, .int 0, .ref q6, .int 0, .int 0, .null, .int 0, .null, .null, .int 0, .null, .null, .null, .int 0, .null, .int 0, .int 0, .int 0, .null, .int 0, .null, .long 0, .int 0, .null, .null, .int 0, .int 0])) hb0).trans (hk b hb hb0)
  have at0 := AT.put (e := (.inr (9, [.ref q1, .ref q2, .ref q3, .ref q4, .ref q5, .int 0, .ref q6, .int 0, .int 0, .null, .int 0, .null, .null, .int 0, .null, .null, .null, .int 0, .null, .int 0, .int 0, .int 0, .null, .int 0, .null, .long 0, .int 0, .null, .null, .int 0, .int 0]))) at0 ne0
  have at1 := AT.put (e := (.inr (9, [.ref q1, .ref q2, .ref q3, .ref q4, .ref q5, .int 0, .ref q6, .int 0, .int 0, .null, .int 0, .null, .null, .int 0, .null, .null, .null, .int 0, .null, .int 0, .int 0, .int 0, .null, .int 0, .null, .long 0, .int 0, .null, .null, .int 0, .int 0]))) at1 ne1
  have at2 := AT.put (e := (.inr (9, [.ref q1, .ref q2, .ref q3, .ref q4, .ref q5, .int 0, .ref q6, .int 0, .int 0, .null, .int 0, .null, .null, .int 0, .null, .null, .null, .int 0, .null, .int 0, .int 0, .int 0, .null, .int 0, .null, .long 0, .int 0, .null, .null, .int 0, .int 0]))) at2 ne2
  have at3 := AT.put (e := (.inr (9, [.ref q1, .ref q2, .ref q3, .ref q4, .ref q5, .int 0, .ref q6, .int 0, .int 0, .null, .int 0, .null, .null, .int 0, .null, .null, .null, .int 0, .null, .int 0, .int 0, .int 0, .null, .int 0, .null, .long 0, .int 0, .null, .null, .int 0, .int 0]))) at3 ne3
  have at4 := AT.put (e := (.inr (9, [.ref q1, .ref q2, .ref q3, .ref q4, .ref q5, .int 0, .ref q6, .int 0, .int 0, .null, .int 0, .null, .null, .int 0, .null, .null, .null, .int 0, .null, .int 0, .int 0, .int 0, .null, .int 0, .null, .long 0, .int 0, .null, .null, .int 0, .int 0]))) at4 ne4
  have at5 := AT.put (e := (.inr (9, [.ref q1, .ref q2, .ref q3, .ref q4, .ref q5, .int 0, .ref q6, .int 0, .int 0, .null, .int 0, .null, .null, .int 0, .null, .null, .null, .int 0, .null, .int 0, .int 0, .int 0, .null, .int 0, .null, .long 0, .int 0, .null, .null, .int 0, .int 0]))) at5 ne5
  show NJ _ _ _ _ _ _ _ _ (va_up f_11 h0 (.inr (9, [.ref q1, .ref q2, .ref q3, .ref q4, .ref q5, .int 0, .ref q6, .int 0, .int 0, .null, .int 0, .null, .null, .int 0, .null, .null, .null, .int 0, .null, .int 0, .int 0, .int 0, .null, .int 0, .null, .long 0, .int 0, .null, .null, .int 0, .int 0]))) _ _ _
  generalize va_up f_11 h0 (.inr (9, [.ref q1, .ref q2, .ref q3, .ref q4, .ref q5, .int 0, .ref q6, .int 0, .int 0, .null, .int 0, .null, .null, .int 0, .null, .null, .null, .int 0, .null, .int 0, .int 0, .int 0, .null, .int 0, .null, .long 0, .int 0, .null, .null, .int 0, .int 0])) = f_12 at hf0 hk at0 at1 at2 at3 at4 at5 ⊢
  refine n_aload_n C 0 rfl dX11_init_54 rfl ?_
  refine n_sipush C (v := 1600) (by decide) dX11_init_55 ?_
  refine n_newai C (N := 1600) wd_114 (by decide) (by decide) (Nat.le_of_ble_eq_true rfl) (Nat.le_of_ble_eq_true rfl) (Nat.le_of_ble_eq_true rfl) dX11_init_58 (fun q7 hq7 => ?_)
  have h0q7 : h0 ≠ q7 := fun z => hq7 (z ▸ hm)
  have hf0 := (va_up_ne f_12 (.inl (T 0, 1600, .inl fun _ => 0)) h0q7).trans hf0
  have hk : ∀ b, b ∈ L → b ≠ h0 → va_up f_12 q7 (.inl (T 0, 1600, .inl fun _ => 0)) b = f b := fun b hb hb0 => (va_up_ne f_12 (.inl (T 0, 1600, .inl fun _ => 0)) (fun z : b = q7 => hq7 (z ▸ (List.mem_append_left _ (List.mem_append_left _ (List.mem_append_left _ (List.mem_append_left _ (List.mem_append_left _ (List.mem_append_left _ (hb)))))))))).trans (hk b hb hb0)
  have hfq := va_up_self f_12 q7 (.inl (T 0, 1600, .inl fun _ => 0))
  have at0 := AT.fresh (e := (.inl (T 0, 1600, .inl fun _ => 0))) at0 hq7
  have at1 := AT.fresh (e := (.inl (T 0, 1600, .inl fun _ => 0))) at1 hq7
  have at2 := AT.fresh (e := (.inl (T 0, 1600, .inl fun _ => 0))) at2 hq7
  have at3 := AT.fresh (e := (.inl (T 0, 1600, .inl fun _ => 0))) at3 hq7
  have at4 := AT.fresh (e := (.inl (T 0, 1600, .inl fun _ => 0))) at4 hq7
  have at5 := AT.fresh (e := (.inl (T 0, 1600, .inl fun _ => 0))) at5 hq7
  have hm := List.mem_append_left [q7] hm
  have hmq : q7 ∈ ((((((L ++ [q1]) ++ [q2]) ++ [q3]) ++ [q4]) ++ [q5]) ++ [q6]) ++ [q7] := List.mem_append_right _ (List.mem_singleton.mpr rfl)
  generalize va_up f_12 q7 (.inl (T 0, 1600, .inl fun _ => 0)) = f_13 at hf0 hk hfq at0 at1 at2 at3 at4 at5 ⊢
  have at6 : AT T (((((((L ++ [q1]) ++ [q2]) ++ [q3]) ++ [q4]) ++ [q5]) ++ [q6]) ++ [q7]) f_13 q7 (7) [] prT [] := AT.arr0 (len := 1600) hmq hfq (by decide +kernel)
  have ne6 : h0 ≠ q7 ∧ h0 ∉ ([] : List Nat) := ⟨h0q7, List.not_mem_nil⟩
  refine n_putF C hnm ff_X11_29 hm hf0 (Nat.le_of_ble_eq_true rfl) rfl rfl dX11_init_60 ?_
  have hf0 := va_up_self f_13 h0 (.inr (9, [.ref q1, .ref q2, .ref q3, .ref q4, .ref q5, .int 0, .ref q6, .int 0, .int 0, .ref q7, .int 0, .null, .null, .int 0, .null, .null, .null, .int 0, .null, .int 0, .int 0, .int 0, .null, .int 0, .null, .long 0, .int 0, .null, .null, .int 0, .int 0]))
  have hk : ∀ b, b ∈ L → b ≠ h0 → va_up f_13 h0 (.inr (9, [.ref q1, .ref q2, .ref q3, .ref q4, .ref q5, .int 0, .ref q6, .int 0, .int 0, .ref q7, .int 0, .null, .null, .int 0, .null, .null, .null, .int 0, .null, .int 0, .int 0, .int 0, .null, .int 0, .null, .long 0, .int 0, .null, .null, .int 0, .int 0])) b = f b := fun b hb hb0 => (va_up_ne f_13 (.inr (9, [.ref q1, .ref q2, .ref q3, .ref q4, .ref q5, .int 0, .ref q6, .int 0, .int 0, .ref q7, .int 0, .null, .null, .int 0, .null, .null, .null, .int 0, .null, .int 0, .int 0, .int 0, .null, .int 0, .null, .long 0, .int 0, .null, .null, .int 0, .int 0])) hb0).trans (hk b hb hb0)
  have at0 := AT.put (e := (.inr (9, [.ref q1, .ref q2, .ref q3, .ref q4, .ref q5, .int 0, .ref q6, .int 0, .int 0, .ref q7, .int 0, .null, .null, .int 0, .null, .null, .null, .int 0, .null, .int 0, .int 0, .int 0, .null, .int 0, .null, .long 0, .int 0, .null, .null, .int 0, .int 0]))) at0 ne0
  have at1 := AT.put (e := (.inr (9, [.ref q1, .ref q2, .ref q3, .ref q4, .ref q5, .int 0, .ref q6, .int 0, .int 0, .ref q7, .int 0, .null, .null, .int 0, .null, .null, .null, .int 0, .null, .int 0, .int 0, .int 0, .null, .int 0, .null, .long 0, .int 0, .null, .null, .int 0, .int 0]))) at1 ne1
  have at2 := AT.put (e := (.inr (9, [.ref q1, .ref q2, .ref q3, .ref q4, .ref q5, .int 0, .ref q6, .int 0, .int 0, .ref q7, .int 0, .null, .null, .int 0, .null, .null, .null, .int 0, .null, .int 0, .int 0, .int 0, .null, .int 0, .null, .long 0, .int 0, .null, .null, .int 0, .int 0]))) at2 ne2
  have at3 := AT.put (e := (.inr (9, [.ref q1, .ref q2, .ref q3, .ref q4, .ref q5, .int 0, .ref q6, .int 0, .int 0, .ref q7, .int 0, .null, .null, .int 0, .null, .null, .null, .int 0, .null, .int 0, .int 0, .int 0, .null, .int 0, .null, .long 0, .int 0, .null, .null, .int 0, .int 0]))) at3 ne3
  have at4 := AT.put (e := (.inr (9, [.ref q1, .ref q2, .ref q3, .ref q4, .ref q5, .int 0, .ref q6, .int 0, .int 0, .ref q7, .int 0, .null, .null, .int 0, .null, .null, .null, .int 0, .null, .int 0, .int 0, .int 0, .null, .int 0, .null, .long 0, .int 0, .null, .null, .int 0, .int 0]))) at4 ne4
  have at5 := AT.put (e := (.inr (9, [.ref q1, .ref q2, .ref q3, .ref q4, .ref q5, .int 0, .ref q6, .int 0, .int 0, .ref q7, .int 0, .null, .null, .int 0, .null, .null, .null, .int 0, .null, .int 0, .int 0, .int 0, .null, .int 0, .null, .long 0, .int 0, .null, .null, .int 0, .int 0]))) at5 ne5
  have at6 := AT.put (e := (.inr (9, [.ref q1, .ref q2, .ref q3, .ref q4, .ref q5, .int 0, .ref q6, .int 0, .int 0, .ref q7, .int 0, .null, .null, .int 0, .null, .null, .null, .int 0, .null, .int 0, .int 0, .int 0, .null, .int 0, .null, .long 0, .int 0, .null, .null, .int 0, .int 0]))) at6 ne6
  show NJ _ _ _ _ _ _ _ _ (va_up f_13 h0 (.inr (9, [.ref q1, .ref q2, .ref q3, .ref q4, .ref q5, .int 0, .ref q6, .int 0, .int 0, .ref q7, .int 0, .null, .null, .int 0, .null, .null, .null, .int 0, .null, .int 0, .int 0, .int 0, .null, .int 0, .null, .long 0, .int 0, .null, .null, .int 0, .int 0]))) _ _ _
  generalize va_up f_13 h0 (.inr (9, [.ref q1, .ref q2, .ref q3, .ref q4, .ref q5, .int 0, .ref q6, .int 0, .int 0, .ref q7, .int 0, .null, .null, .int 0, .null, .null, .null, .int 0, .null, .int 0, .int 0, .int 0, .null, .int 0, .null, .long 0, .int 0, .null, .null, .int 0, .int 0])) = f_14 at hf0 hk at0 at1 at2 at3 at4 at5 at6 ⊢
  refine n_aload_n C 0 rfl dX11_init_63 rfl ?_
  refine n_sipush C (v := 2401) (by decide) dX11_init_64 ?_
  refine n_newaz C (N := 2401) wd_825 (by decide) (by decide) (Nat.le_of_ble_eq_true rfl) (Nat.le_of_ble_eq_true rfl) (Nat.le_of_ble_eq_true rfl) dX11_init_67 (fun q8 hq8 => ?_)
  have h0q8 : h0 ≠ q8 := fun z => hq8 (z ▸ hm)
  have hf0 := (va_up_ne f_14 (.inl (T 1, 2401, .inl fun _ => 0)) h0q8).trans hf0
  have hk : ∀ b, b ∈ L → b ≠ h0 → va_up f_14 q8 (.inl (T 1, 2401, .inl fun _ => 0)) b = f b := fun b hb hb0 => (va_up_ne f_14 (.inl (T 1, 2401, .inl fun _ => 0)) (fun z : b = q8 => hq8 (z ▸ (List.mem_append_left _ (List.mem_append_left _ (List.mem_append_left _ (List.mem_append_left _ (List.mem_append_left _ (List.mem_append_left _ (List.mem_append_left _ (hb))))))))))).trans (hk b hb hb0)
  have hfq := va_up_self f_14 q8 (.inl (T 1, 2401, .inl fun _ => 0))
  have at0 := AT.fresh (e := (.inl (T 1, 2401, .inl fun _ => 0))) at0 hq8
  have at1 := AT.fresh (e := (.inl (T 1, 2401, .inl fun _ => 0))) at1 hq8
  have at2 := AT.fresh (e := (.inl (T 1, 2401, .inl fun _ => 0))) at2 hq8
  have at3 := AT.fresh (e := (.inl (T 1, 2401, .inl fun _ => 0))) at3 hq8
  have at4 := AT.fresh (e := (.inl (T 1, 2401, .inl fun _ => 0))) at4 hq8
  have at5 := AT.fresh (e := (.inl (T 1, 2401, .inl fun _ => 0))) at5 hq8
  have at6 := AT.fresh (e := (.inl (T 1, 2401, .inl fun _ => 0))) at6 hq8
  have hm := List.mem_append_left [q8] hm
  have hmq : q8 ∈ (((((((L ++ [q1]) ++ [q2]) ++ [q3]) ++ [q4]) ++ [q5]) ++ [q6]) ++ [q7]) ++ [q8] := List.mem_append_right _ (List.mem_singleton.mpr rfl)
  generalize va_up f_14 q8 (.inl (T 1, 2401, .inl fun _ => 0)) = f_15 at hf0 hk hfq at0 at1 at2 at3 at4 at5 at6 ⊢
  have at7 : AT T ((((((((L ++ [q1]) ++ [q2]) ++ [q3]) ++ [q4]) ++ [q5]) ++ [q6]) ++ [q7]) ++ [q8]) f_15 q8 (8) [] prT [] := AT.arr1 (len := 2401) hmq hfq (by decide +kernel)
  have ne7 : h0 ≠ q8 ∧ h0 ∉ ([] : List Nat) := ⟨h0q8, List.not_mem_nil⟩
  refine n_putF C hnm ff_X11_32 hm hf0 (Nat.le_of_ble_eq_true rfl) rfl rfl dX11_init_69 ?_
  have hf0 := va_up_self f_15 h0 (.inr (9, [.ref q1, .ref q2, .ref q3, .ref q4, .ref q5, .int 0, .ref q6, .int 0, .int 0, .ref q7, .int 0, .ref q8, .null, .int 0, .null, .null, .null, .int 0, .null, .int 0, .int 0, .int 0, .null, .int 0, .null, .long 0, .int 0, .null, .null, .int 0, .int 0]))
  have hk : ∀ b, b ∈ L → b ≠ h0 → va_up f_15 h0 (.inr (9, [.ref q1, .ref q2, .ref q3, .ref q4, .ref q5, .int 0, .ref q6, .int 0, .int 0, .ref q7, .int 0, .ref q8, .null, .int 0, .null, .null, .null, .int 0, .null, .int 0, .int 0, .int 0, .null, .int 0, .null, .long 0, .int 0, .null, .null, .int 0, .int 0])) b = f b := fun b hb hb0 => (va_up_ne f_15 (.inr (9, [.ref q1, .ref q2, .ref q3, .ref q4, .ref q5, .int 0, .ref q6, .int 0, .int 0, .ref q7, .int 0, .ref q8, .null, .int 0, .null, .null, .null, .int 0, .null, .int 0, .int 0, .int 0, .null, .int 0, .null, .long 0, .int 0, .null, .null, .int 0, .int 0])) hb0).trans (hk b hb hb0)
  have at0 := AT.put (e := (.inr (9, [.ref q1, .ref q2, .ref q3, .ref q4, .ref q5, .int 0, .ref q6, .int 0, .int 0, .ref q7, .int 0, .ref q8, .null, .int 0, .null, .null, .null, .int 0, .null, .int 0, .int 0, .int 0, .null, .int 0, .null, .long 0, .int 0, .null, .null, .int 0, .int 0]))) at0 ne0
  have at1 := AT.put (e := (.inr (9, [.ref q1, .ref q2, .ref q3, .ref q4, .ref q5, .int 0, .ref q6, .int 0, .int 0, .ref q7, .int 0, .ref q8, .null, .int 0, .null, .null, .null, .int 0, .null, .int 0, .int 0, .int 0, .null, .int 0, .null, .long 0, .int 0, .null, .null, .int 0, .int 0]))) at1 ne1
  have at2 := AT.put (e := (.inr (9, [.ref q1, .ref q2, .ref q3, .ref q4, .ref q5, .int 0, .ref q6, .int 0, .int 0, .ref q7, .int 0, .ref q8, .null, .int 0, .null, .null, .null, .int 0, .null, .int 0, .int 0, .int 0, .null, .int 0, .null, .long 0, .int 0, .null, .null, .int 0, .int 0]))) at2 ne2
  have at3 := AT.put (e := (.inr (9, [.ref q1, .ref q2, .ref q3, .ref q4, .ref q5, .int 0, .ref q6, .int 0, .int 0, .ref q7, .int 0, .ref q8, .null, .int 0, .null, .null, .null, .int 0, .null, .int 0, .int 0, .int 0, .null, .int 0, .null, .long 0, .int 0, .null, .null, .int 0, .int 0]))) at3 ne3
  have at4 := AT.put (e := (.inr (9, [.ref q1, .ref q2, .ref q3, .ref q4, .ref q5, .int 0, .ref q6, .int 0, .int 0, .ref q7, .int 0, .ref q8, .null, .int 0, .null, .null, .null, .int 0, .null, .int 0, .int 0, .int 0, .null, .int 0, .null, .long 0, .int 0, .null, .null, .int 0, .int 0]))) at4 ne4
  have at5 := AT.put (e := (.inr (9, [.ref q1, .ref q2, .ref q3, .ref q4, .ref q5, .int 0, .ref q6, .int 0, .int 0, .ref q7, .int 0, .ref q8, .null, .int 0, .null, .null, .null, .int 0, .null, .int 0, .int 0, .int 0, .null, .int 0, .null, .long 0, .int 0, .null, .null, .int 0, .int 0]))) at5 ne5
  have at6 := AT.put (e := (.inr (9, [.ref q1, .ref q2, .ref q3, .ref q4, .ref q5, .int 0, .ref q6, .int 0, .int 0, .ref q7, .int 0, .ref q8, .null, .int 0, .null, .null, .null, .int 0, .null, .int 0, .int 0, .int 0, .null, .int 0, .null, .long 0, .int 0, .null, .null, .int 0, .int 0]))) at6 ne6
  have at7 := AT.put (e := (.inr (9, [.ref q1, .ref q2, .ref q3, .ref q4, .ref q5, .int 0, .ref q6, .int 0, .int 0, .ref q7, .int 0, .ref q8, .null, .int 0, .null, .null, .null, .int 0, .null, .int 0, .int 0, .int 0, .null, .int 0, .null, .long 0, .int 0, .null, .null, .int 0, .int 0]))) at7 ne7
  show NJ _ _ _ _ _ _ _ _ (va_up f_15 h0 (.inr (9, [.ref q1, .ref q2, .ref q3, .ref q4, .ref q5, .int 0, .ref q6, .int 0, .int 0, .ref q7, .int 0, .ref q8, .null, .int 0, .null, .null, .null, .int 0, .null, .int 0, .int 0, .int 0, .null, .int 0, .null, .long 0, .int 0, .null, .null, .int 0, .int 0]))) _ _ _
  generalize va_up f_15 h0 (.inr (9, [.ref q1, .ref q2, .ref q3, .ref q4, .ref q5, .int 0, .ref q6, .int 0, .int 0, .ref q7, .int 0, .ref q8, .null, .int 0, .null, .null, .null, .int 0, .null, .int 0, .int 0, .int 0, .null, .int 0, .null, .long 0, .int 0, .null, .null, .int 0, .int 0])) = f_16 at hf0 hk at0 at1 at2 at3 at4 at5 at6 at7 ⊢
  refine n_aload_n C 0 rfl dX11_init_72 rfl ?_
  refine n_sipush C (v := 2401) (by decide) dX11_init_73 ?_
  refine n_newai C (N := 2401) wd_114 (by decide) (by decide) (Nat.le_of_ble_eq_true rfl) (Nat.le_of_ble_eq_true rfl) (Nat.le_of_ble_eq_true rfl) dX11_init_76 (fun q9 hq9 => ?_)
  have h0q9 : h0 ≠ q9 := fun z => hq9 (z ▸ hm)
  have hf0 := (va_up_ne f_16 (.inl (T 0, 2401, .inl fun _ => 0)) h0q9).trans hf0
  have hk : ∀ b, b ∈ L → b ≠ h0 → va_up f_16 q9 (.inl (T 0, 2401, .inl fun _ => 0)) b = f b := fun b hb hb0 => (va_up_ne f_16 (.inl (T 0, 2401, .inl fun _ => 0)) (fun z : b = q9 => hq9 (z ▸ (List.mem_append_left _ (List.mem_append_left _ (List.mem_append_left _ (List.mem_append_left _ (List.mem_append_left _ (List.mem_append_left _ (List.mem_append_left _ (List.mem_append_left _ (hb)))))))))))).trans (hk b hb hb0)
  have hfq := va_up_self f_16 q9 (.inl (T 0, 2401, .inl fun _ => 0))
  have at0 := AT.fresh (e := (.inl (T 0, 2401, .inl fun _ => 0))) at0 hq9
  have at1 := AT.fresh (e := (.inl (T 0, 2401, .inl fun _ => 0))) at1 hq9
  have at2 := AT.fresh (e := (.inl (T 0, 2401, .inl fun _ => 0))) at2 hq9
  have at3 := AT.fresh (e := (.inl (T 0, 2401, .inl fun _ => 0))) at3 hq9
  have at4 := AT.fresh (e := (.inl (T 0, 2401, .inl fun _ => 0))) at4 hq9
  have at5 := AT.fresh (e := (.inl (T 0, 2401, .inl fun _ => 0))) at5 hq9
  have at6 := AT.fresh (e := (.inl (T 0, 2401, .inl fun _ => 0))) at6 hq9
  have at7 := AT.fresh (e := (.inl (T 0, 2401, .inl fun _ => 0))) at7 hq9
  have hm := List.mem_append_left [q9] hm
  have hmq : q9 ∈ ((((((((L ++ [q1]) ++ [q2]) ++ [q3]) ++ [q4]) ++ [q5]) ++ [q6]) ++ [q7]) ++ [q8]) ++ [q9] := List.mem_append_right _ (List.mem_singleton.mpr rfl)
  generalize va_up f_16 q9 (.inl (T 0, 2401, .inl fun _ => 0)) = f_17 at hf0 hk hfq at0 at1 at2 at3 at4 at5 at6 at7 ⊢
  have at8 : AT T (((((((((L ++ [q1]) ++ [q2]) ++ [q3]) ++ [q4]) ++ [q5]) ++ [q6]) ++ [q7]) ++ [q8]) ++ [q9]) f_17 q9 (9) [] prT [] := AT.arr0 (len := 2401) hmq hfq (by decide +kernel)
  have ne8 : h0 ≠ q9 ∧ h0 ∉ ([] : List Nat) := ⟨h0q9, List.not_mem_nil⟩
  refine n_putF C hnm ff_X11_35 hm hf0 (Nat.le_of_ble_eq_true rfl) rfl rfl dX11_init_78 ?_
  have hf0 := va_up_self f_17 h0 (.inr (9, [.ref q1, .ref q2, .ref q3, .ref q4, .ref q5, .int 0, .ref q6, .int 0, .int 0, .ref q7, .int 0, .ref q8, .ref q9, .int 0, .null, .null, .null, .int 0, .null, .int 0, .int 0, .int 0, .null, .int 0, .null, .long 0, .int 0, .null, .null, .int 0, .int 0]))
  have hk : ∀ b, b ∈ L → b ≠ h0 → va_up f_17 h0 (.inr (9, [.ref q1, .ref q2, .ref q3, .ref q4, .ref q5, .int 0, .ref q6, .int 0, .int 0, .ref q7, .int 0, .ref q8, .ref q9, .int 0, .null, .null, .null, .int 0, .null, .int 0, .int 0, .int 0, .null, .int 0, .null, .long 0, .int 0, .null, .null, .int 0, .int 0])) b = f b := fun b hb hb0 => (va_up_ne f_17 (.inr (9, [.ref q1, .ref q2, .ref q3, .ref q4, .ref q5, .int 0, .ref q6, .int 0, .int 0, .ref q7, .int 0, .ref q8, .ref q9, .int 0, .null, .null, .null, .int 0, .null, .int 0, .int 0, .int 0, .null, .int 0, .null, .long 0, .int 0, .null, .null, .int 0, .int 0])) hb0).trans (hk b hb hb0)
  have at0 := AT.put (e := (.inr (9, [.ref q1, .ref q2, .ref q3, .ref q4, .ref q5, .int 0, .ref q6, .int 0, .int 0, .ref q7, .int 0, .ref q8, .ref q9, .int 0, .null, .null, .null, .int 0, .null, .int 0, .int 0, .int 0, .null, .int 0, .null, .long 0, .int 0, .null, .null, .int 0, .int 0]))) at0 ne0
  have at1 := AT.put (e := (.inr (9, [.ref q1, .ref q2, .ref q3, .ref q4, .ref q5, .int 0, .ref q6, .int 0, .int 0, .ref q7, .int 0, .ref q8, .ref q9, .int 0, .null, .null, .null, .int 0, .null, .int 0, .int 0, .int 0, .null, .int 0, .null, .long 0, .int 0, .null, .null, .int 0, .int 0]))) at1 ne1
  have at2 := AT.put (e := (.inr (9, [.ref q1, .ref q2, .ref q3, .ref q4, .ref q5, .int 0, .ref q6, .int 0, .int 0, .ref q7, .int 0, .ref q8, .ref q9, .int 0, .null, .null, .null, .int 0, .null, .int 0, .int 0, .int 0, .null, .int 0, .null, .long 0, .int 0, .null, .null, .int 0, .int 0]))) at2 ne2
  have at3 := AT.put (e := (.inr (9, [.ref q1, .ref q2, .ref q3, .ref q4, .ref q5, .int 0, .ref q6, .int 0, .int 0, .ref q7, .int 0, .ref q8, .ref q9, .int 0, .null, .null, .null, .int 0, .null, .int 0, .int 0, .int 0, .null, .int 0, .null, .long 0, .int 0, .null, .null, .int 0, .int 0]))) at3 ne3
  have at4 := AT.put (e := (.inr (9, [.ref q1, .ref q2, .ref q3, .ref q4, .ref q5, .int 0, .ref q6, .int 0, .int 0, .ref q7, .int 0, .ref q8, .ref q9, .int 0, .null, .null, .null, .int 0, .null, .int 0, .int 0, .int 0, .null, .int 0, .null, .long 0, .int 0, .null, .null, .int 0, .int 0]))) at4 ne4
  have at5 := AT.put (e := (.inr (9, [.ref q1, .ref q2, .ref q3, .ref q4, .ref q5, .int 0, .ref q6, .int 0, .int 0, .ref q7, .int 0, .ref q8, .ref q9, .int 0, .null, .null, .null, .int 0, .null, .int 0, .int 0, .int 0, .null, .int 0, .null, .long 0, .int 0, .null, .null, .int 0, .int 0]))) at5 ne5
  have at6 := AT.put (e := (.inr (9, [.ref q1, .ref q2, .ref q3, .ref q4, .ref q5, .int 0, .ref q6, .int 0, .int 0, .ref q7, .int 0, .ref q8, .ref q9, .int 0, .null, .null, .null, .int 0, .null, .int 0, .int 0, .int 0, .null, .int 0, .null, .long 0, .int 0, .null, .null, .int 0, .int 0]))) at6 ne6
  have at7 := AT.put (e := (.inr (9, [.ref q1, .ref q2, .ref q3, .ref q4, .ref q5, .int 0, .ref q6, .int 0, .int 0, .ref q7, .int 0, .ref q8, .ref q9, .int 0, .null, .null, .null, .int 0, .null, .int 0, .int 0, .int 0, .null, .int 0, .null, .long 0, .int 0, .null, .null, .int 0, .int 0]))) at7 ne7
  have at8 := AT.put (e := (.inr (9, [.ref q1, .ref q2, .ref q3, .ref q4, .ref q5, .int 0, .ref q6, .int 0, .int 0, .ref q7, .int 0, .ref q8, .ref q9, .int 0, .null, .null, .null, .int 0, .null, .int 0, .int 0, .int 0, .null, .int 0, .null, .long 0, .int 0, .null, .null, .int 0, .int 0]))) at8 ne8
  show NJ _ _ _ _ _ _ _ _ (va_up f_17 h0 (.inr (9, [.ref q1, .ref q2, .ref q3, .ref q4, .ref q5, .int 0, .ref q6, .int 0, .int 0, .ref q7, .int 0, .ref q8, .ref q9, .int 0, .null, .null, .null, .int 0, .null, .int 0, .int 0, .int 0, .null, .int 0, .null, .long 0, .int 0, .null, .null, .int 0, .int 0]))) _ _ _
  generalize va_up f_17 h0 (.inr (9, [.ref q1, .ref q2, .ref q3, .ref q4, .ref q5, .int 0, .ref q6, .int 0, .int 0, .ref q7, .int 0, .ref q8, .ref q9, .int 0, .null, .null, .null, .int 0, .null, .int 0, .int 0, .int 0, .null, .int 0, .null, .long 0, .int 0, .null, .null, .int 0, .int 0])) = f_18 at hf0 hk at0 at1 at2 at3 at4 at5 at6 at7 at8 ⊢
  refine n_aload_n C 0 rfl dX11_init_81 rfl ?_
  refine n_sipush C (v := 2400) (by decide) dX11_init_82 ?_
  refine n_newai C (N := 2400) wd_114 (by decide) (by decide) (Nat.le_of_ble_eq_true rfl) (Nat.le_of_ble_eq_true rfl) (Nat.le_of_ble_eq_true rfl) dX11_init_85 (fun q10 hq10 => ?_)
  have h0q10 : h0 ≠ q10 := fun z => hq10 (z ▸ hm)
  have hf0 := (va_up_ne f_18 (.inl (T 0, 2400, .inl fun _ => 0)) h0q10).trans hf0
  have hk : ∀ b, b ∈ L → b ≠ h0 → va_up f_18 q10 (.inl (T 0, 2400, .inl fun _ => 0)) b = f b := fun b hb hb0 => (va_up_ne f_18 (.inl (T 0, 2400, .inl fun _ => 0)) (fun z : b = q10 => hq10 (z ▸ (List.mem_append_left _ (List.mem_append_left _ (List.mem_append_left _ (List.mem_append_left _ (List.mem_append_left _ (List.mem_append_left _ (List.mem_append_left _ (List.mem_append_left _ (List.mem_append_left _ (hb))))))))))))).trans (hk b hb hb0)
  have hfq := va_up_self f_18 q10 (.inl (T 0, 2400, .inl fun _ => 0))
  have at0 := AT.fresh (e := (.inl (T 0, 2400, .inl fun _ => 0))) at0 hq10
  have at1 := AT.fresh (e := (.inl (T 0, 2400, .inl fun _ => 0))) at1 hq10
  have at2 := AT.fresh (e := (.inl (T 0, 2400, .inl fun _ => 0))) at2 hq10
  have at3 := AT.fresh (e := (.inl (T 0, 2400, .inl fun _ => 0))) at3 hq10
  have at4 := AT.fresh (e := (.inl (T 0, 2400, .inl fun _ => 0))) at4 hq10
  have at5 := AT.fresh (e := (.inl (T 0, 2400, .inl fun _ => 0))) at5 hq10
  have at6 := AT.fresh (e := (.inl (T 0, 2400, .inl fun _ => 0))) at6 hq10
  have at7 := AT.fresh (e := (.inl (T 0, 2400, .inl fun _ => 0))) at7 hq10
  have at8 := AT.fresh (e := (.inl (T 0, 2400, .inl fun _ => 0))) at8 hq10
  have hm := List.mem_append_left [q10] hm
  have hmq : q10 ∈ (((((((((L ++ [q1]) ++ [q2]) ++ [q3]) ++ [q4]) ++ [q5]) ++ [q6]) ++ [q7]) ++ [q8]) ++ [q9]) ++ [q10] := List.mem_append_right _ (List.mem_singleton.mpr rfl)
  generalize va_up f_18 q10 (.inl (T 0, 2400, .inl fun _ => 0)) = f_19 at hf0 hk hfq at0 at1 at2 at3 at4 at5 at6 at7 at8 ⊢
  have at9 : AT T ((((((((((L ++ [q1]) ++ [q2]) ++ [q3]) ++ [q4]) ++ [q5]) ++ [q6]) ++ [q7]) ++ [q8]) ++ [q9]) ++ [q10]) f_19 q10 (10) [] prT [] := AT.arr0 (len := 2400) hmq hfq (by decide +kernel)
  have ne9 : h0 ≠ q10 ∧ h0 ∉ ([] : List Nat) := ⟨h0q10, List.not_mem_nil⟩
  refine n_putF C hnm ff_X11_38 hm hf0 (Nat.le_of_ble_eq_true rfl) rfl rfl dX11_init_87 ?_
  have hf0 := va_up_self f_19 h0 (.inr (9, [.ref q1, .ref q2, .ref q3, .ref q4, .ref q5, .int 0, .ref q6, .int 0, .int 0, .ref q7, .int 0, .ref q8, .ref q9, .int 0, .ref q10, .null, .null, .int 0, .null, .int 0, .int 0, .int 0, .null, .int 0, .null, .long 0, .int 0, .null, .null, .int 0, .int 0]))
  have hk : ∀ b, b ∈ L → b ≠ h0 → va_up f_19 h0 (.inr (9, [.ref q1, .ref q2, .ref q3, .ref q4, .ref q5, .int 0, .ref q6, .int 0, .int 0, .ref q7, .int 0, .ref q8, .ref q9, .int 0, .ref q10, .null, .null, .int 0, .null, .int 0, .int 0, .int 0, .null, .int 0, .null, .long 0, .int 0, .null, .null, .int 0, .int 0])) b = f b := fun b hb hb0 => (va_up_ne f_19 (.inr (9, [.ref q1, .ref q2, .ref q3, .ref q4, .ref q5, .int 0, .ref q6, .int 0, .int 0, .ref q7, .int 0, .ref q8, .ref q9, .int 0, .ref q10, .null, .null, .int 0, .null, .int 0, .int 0, .int 0, .null, .int 0, .null, .long 0, .int 0, .null, .null, .int 0, .int 0])) hb0).trans (hk b hb hb0)
  have at0 := AT.put (e := (.inr (9, [.ref q1, .ref q2, .ref q3, .ref q4, .ref q5, .int 0, .ref q6, .int 0, .int 0, .ref q7, .int 0, .ref q8, .ref q9, .int 0, .ref q10, .null, .null, .int 0, .null, .int 0, .int 0, .int 0, .null, .int 0, .null, .long 0, .int 0, .null, .null, .int 0, .int 0]))) at0 ne0
  have at1 := AT.put (e := (.inr (9, [.ref q1, .ref q2, .ref q3, .ref q4, .ref q5, .int 0, .ref q6, .int 0, .int 0, .ref q7, .int 0, .ref q8, .ref q9, .int 0, .ref q10, .null, .null, .int 0, .null, .int 0, .int 0, .int 0, .null, .int 0, .null, .long 0, .int 0, .null, .null, .int 0, .int 0]))) at1 ne1
  have at2 := AT.put (e := (.inr (9, [.ref q1, .ref q2, .ref q3, .ref q4, .ref q5, .int 0, .ref q6, .int 0, .int 0, .ref q7, .int 0, .ref q8, .ref q9, .int 0, .ref q10, .null, .null, .int 0, .null, .int 0, .int 0, .int 0, .null, .int 0, .null, .long 0, .int 0, .null, .null, .int 0, .int 0]))) at2 ne2
  have at3 := AT.put (e := (.inr (9, [.ref q1, .ref q2, .ref q3, .ref q4, .ref q5, .int 0, .ref q6, .int 0, .int 0, .ref q7, .int 0, .ref q8, .ref q9, .int 0, .ref q10, .null, .null, .int 0, .null, .int 0, .int 0, .int 0, .null, .int 0, .null, .long 0, .int 0, .null, .null, .int 0, .int 0]))) at3 ne3
  have at4 := AT.put (e := (.inr (9, [.ref q1, .ref q2, .ref q3, .ref q4, .ref q5, .int 0, .ref q6, .int 0, .int 0, .ref q7, .int 0, .ref q8, .ref q9, .int 0, .ref q10, .null, .null, .int 0, .null, .int 0, .int 0, .int 0, .null, .int 0, .null, .long 0, .int 0, .null, .null, .int 0, .int 0]))) at4 ne4
  have at5 := AT.put (e := (.inr (9, [.ref q1, .ref q2, .ref q3, .ref q4, .ref q5, .int 0, .ref q6, .int 0, .int 0, .ref q7, .int 0, .ref q8, .ref q9, .int 0, .ref q10, .null, .null, .int 0, .null, .int 0, .int 0, .int 0, .null, .int 0, .null, .long 0, .int 0, .null, .null, .int 0, .int 0]))) at5 ne5
  have at6 := AT.put (e := (.inr (9, [.ref q1, .ref q2, .ref q3, .ref q4, .ref q5, .int 0, .ref q6, .int 0, .int 0, .ref q7, .int 0, .ref q8, .ref q9, .int 0, .ref q10, .null, .null, .int 0, .null, .int 0, .int 0, .int 0, .null, .int 0, .null, .long 0, .int 0, .null, .null, .int 0, .int 0]))) at6 ne6
  have at7 := AT.put (e := (.inr (9, [.ref q1, .ref q2, .ref q3, .ref q4, .ref q5, .int 0, .ref q6, .int 0, .int 0, .ref q7, .int 0, .ref q8, .ref q9, .int 0, .ref q10, .null, .null, .int 0, .null, .int 0, .int 0, .int 0, .null, .int 0, .null, .long 0, .int 0, .null, .null, .int 0, .int 0]))) at7 ne7
  have at8 := AT.put (e := (.inr (9, [.ref q1, .ref q2, .ref q3, .ref q4, .ref q5, .int 0, .ref q6, .int 0, .int 0, .ref q7, .int 0, .ref q8, .ref q9, .int 0, .ref q10, .null, .null, .int 0, .null, .int 0, .int 0, .int 0, .null, .int 0, .null, .long 0, .int 0, .null, .null, .int 0, .int 0]))) at8 ne8
  have at9 := AT.put (e := (.inr (9, [.ref q1, .ref q2, .ref q3, .ref q4, .ref q5, .int 0, .ref q6, .int 0, .int 0, .ref q7, .int 0, .ref q8, .ref q9, .int 0, .ref q10, .null, .null, .int 0, .null, .int 0, .int 0, .int 0, .null, .int 0, .null, .long 0, .int 0, .null, .null, .int 0, .int 0]))) at9 ne9
  show NJ _ _ _ _ _ _ _ _ (va_up f_19 h0 (.inr (9, [.ref q1, .ref q2, .ref q3, .ref q4, .ref q5, .int 0, .ref q6, .int 0, .int 0, .ref q7, .int 0, .ref q8, .ref q9, .int 0, .ref q10, .null, .null, .int 0, .null, .int 0, .int 0, .int 0, .null, .int 0, .null, .long 0, .int 0, .null, .null, .int 0, .int 0]))) _ _ _
  generalize va_up f_19 h0 (.inr (9, [.ref q1, .ref q2, .ref q3, .ref q4, .ref q5, .int 0, .ref q6, .int 0, .int 0, .ref q7, .int 0, .ref q8, .ref q9, .int 0, .ref q10, .null, .null, .int 0, .null, .int 0, .int 0, .int 0, .null, .int 0, .null, .long 0, .int 0, .null, .null, .int 0, .int 0])) = f_20 at hf0 hk at0 at1 at2 at3 at4 at5 at6 at7 at8 at9 ⊢
  refine n_aload_n C 0 rfl dX11_init_90 rfl ?_
  refine n_bipush C (v := 60) (by decide) dX11_init_91 ?_
  refine n_newai C (N := 60) wd_114 (by decide) (by decide) (Nat.le_of_ble_eq_true rfl) (Nat.le_of_ble_eq_true rfl) (Nat.le_of_ble_eq_true rfl) dX11_init_93 (fun q11 hq11 => ?_)
  have h0q11 : h0 ≠ q11 := fun z => hq11 (z ▸ hm)
  have hf0 := (va_up_ne f_20 (.inl (T 0, 60, .inl fun _ => 0)) h0q11).trans hf0
  have hk : ∀ b, b ∈ L → b ≠ h0 → va_up f_20 q11 (.inl (T 0, 60, .inl fun _ => 0)) b = f b := fun b hb hb0 => (va_up_ne f_20 (.inl (T 0, 60, .inl fun _ => 0)) (fun z : b = q11 => hq11 (z ▸ (List.mem_append_left _ (List.mem_append_left _ (List.mem_append_left _ (List.mem_append_left _ (List.mem_append_left _ (List.mem_append_left _ (List.mem_append_left _ (List.mem_append_left _ (List.mem_append_left _ (List.mem_append_left _ (hb)))))))))))))).trans (hk b hb hb0)
  have hfq := va_up_self f_20 q11 (.inl (T 0, 60, .inl fun _ => 0))
  have at0 := AT.fresh (e := (.inl (T 0, 60, .inl fun _ => 0))) at0 hq11
  have at1 := AT.fresh (e := (.inl (T 0, 60, .inl fun _ => 0))) at1 hq11
  have at2 := AT.fresh (e := (.inl (T 0, 60, .inl fun _ => 0))) at2 hq11
  have at3 := AT.fresh (e := (.inl (T 0, 60, .inl fun _ => 0))) at3 hq11
  have at4 := AT.fresh (e := (.inl (T 0, 60, .inl fun _ => 0))) at4 hq11
  have at5 := AT.fresh (e := (.inl (T 0, 60, .inl fun _ => 0))) at5 hq11
  have at6 := AT.fresh (e := (.inl (T 0, 60, .inl fun _ => 0))) at6 hq11
  have at7 := AT.fresh (e := (.inl (T 0, 60, .inl fun _ => 0))) at7 hq11
  have at8 := AT.fresh (e := (.inl (T 0, 60, .inl fun _ => 0))) at8 hq11
  have at9 := AT.fresh (e := (.inl (T 0, 60, .inl fun _ => 0))) at9 hq11
  have hm := List.mem_append_left [q11] hm
  have hmq : q11 ∈ ((((((((((L ++ [q1]) ++ [q2]) ++ [q3]) ++ [q4]) ++ [q5]) ++ [q6]) ++ [q7]) ++ [q8]) ++ [q9]) ++ [q10]) ++ [q11] := List.mem_append_right _ (List.mem_singleton.mpr rfl)
  generalize va_up f_20 q11 (.inl (T 0, 60, .inl fun _ => 0)) = f_21 at hf0 hk hfq at0 at1 at2 at3 at4 at5 at6 at7 at8 at9 ⊢
  have at10 : AT T (((((((((((L ++ [q1]) ++ [q2]) ++ [q3]) ++ [q4]) ++ [q5]) ++ [q6]) ++ [q7]) ++ [q8]) ++ [q9]) ++ [q10]) ++ [q11]) f_21 q11 (11) [] prT [] := AT.arr0 (len := 60) hmq hfq (by decide +kernel)
  have ne10 : h0 ≠ q11 ∧ h0 ∉ ([] : List Nat) := ⟨h0q11, List.not_mem_nil⟩
  refine n_putF C hnm ff_X11_41 hm hf0 (Nat.le_of_ble_eq_true rfl) rfl rfl dX11_init_95 ?_
  have hf0 := va_up_self f_21 h0 (.inr (9, [.ref q1, .ref q2, .ref q3, .ref q4, .ref q5, .int 0, .ref q6, .int 0, .int 0, .ref q7, .int 0, .ref q8, .ref q9, .int 0, .ref q10, .ref q11, .null, .int 0, .null, .int 0, .int 0, .int 0, .null, .int 0, .null, .long 0, .int 0, .null, .null, .int 0, .int 0]))
  have hk : ∀ b, b ∈ L → b ≠ h0 → va_up f_21 h0 (.inr (9, [.ref q1, .ref q2, .ref q3, .ref q4, .ref q5, .int 0, .ref q6, .int 0, .int 0, .ref q7, .int 0, .ref q8, .ref q9, .int 0, .ref q10, .ref q11, .null, .int 0, .null, .int 0, .int 0, .int 0, .null, .int 0, .null, .long 0, .int 0, .null, .null, .int 0, .int 0])) b = f b := fun b hb hb0 => (va_up_ne f_21 (.inr (9, [.ref q1, .ref q2, .ref q3, .ref q4, .ref q5, .int 0, .ref q6, .int 0, .int 0, .ref q7, .int 0, .ref q8, .ref q9, .int 0, .ref q10, .ref q11, .null, .int 0, .null, .int 0, .int 0, .int 0, .null, .int 0, .null, .long 0, .int 0, .null, .null, .int 0, .int 0])) hb0).trans (hk b hb hb0)
  have at0 := AT.put (e := (.inr (9, [.ref q1, .ref q2, .ref q3, .ref q4, .ref q5, .int 0, .ref q6, .int 0, .int 0, .ref q7, .int 0, .ref q8, .ref q9, .int 0, .ref q10, .ref q11, .null, .int 0, .null, .int 0, .int 0, .int 0, .null, .int 0, .null, .long 0, .int 0, .null, .null, .int 0, .int 0]))) at0 ne0
  have at1 := AT.put (e := (.inr (9, [.ref q1, .ref q2, .ref q3, .ref q4, .ref q5, .int 0, .ref q6, .int 0, .int 0, .ref q7, .int 0, .ref q8, .ref q9, .int 0, .ref q10, .ref q11, .null, .int 0, .null, .int 0, .int 0, .int 0, .null, .int 0, .null, .long 0, .int 0, .null, .null, .int 0, .int 0]))) at1 ne1
  have at2 := AT.put (e := (.inr (9, [.ref q1, .ref q2, .ref q3, .ref q4, .ref q5, .int 0, .ref q6, .int 0, .int 0, .ref q7, .int 0, .ref q8, .ref q9, .int 0, .ref q10, .ref q11, .null, .int 0, .null, .int 0, .int 0, .int 0, .null, .int 0, .null, .long 0, .int 0, .null, .null, .int 0, .int 0]))) at2 ne2
  have at3 := AT.put (e := (.inr (9, [.ref q1, .ref q2, .ref q3, .ref q4, .ref q5, .int 0, .ref q6, .int 0, .int 0, .ref q7, .int 0, .ref q8, .ref q9, .int 0, .ref q10, .ref q11, .null, .int 0, .null, .int 0, .int 0, .int 0, .null, .int 0, .null, .long 0, .int 0, .null, .null, .int 0, .int 0]))) at3 ne3
  have at4 := AT.put (e := (.inr (9, [.ref q1, .ref q2, .ref q3, .ref q4, .ref q5, .int 0, .ref q6, .int 0, .int 0, .ref q7, .int 0, .ref q8, .ref q9, .int 0, .ref q10, .ref q11, .null, .int 0, .null, .int 0, .int 0, .int 0, .null, .int 0, .null, .long 0, .int 0, .null, .null, .int 0, .int 0]))) at4 ne4
  have at5 := AT.put (e := (.inr (9, [.ref q1, .ref q2, .ref q3, .ref q4, .ref q5, .int 0, .ref q6, .int 0, .int 0, .ref q7, .int 0, .ref q8, .ref q9, .int 0, .ref q10, .ref q11, .null, .int 0, .null, .int 0, .int 0, .int 0, .null, .int 0, .null, .long 0, .int 0, .null, .null, .int 0, .int 0]))) at5 ne5
  have at6 := AT.put (e := (.inr (9, [.ref q1, .ref q2, .ref q3, .ref q4, .ref q5, .int 0, .ref q6, .int 0, .int 0, .ref q7, .int 0, .ref q8, .ref q9, .int 0, .ref q10, .ref q11, .null, .int 0, .null, .int 0, .int 0, .int 0, .null, .int 0, .null, .long 0, .int 0, .null, .null, .int 0, .int 0]))) at6 ne6
  have at7 := AT.put (e := (.inr (9, [.ref q1, .ref q2, .ref q3, .ref q4, .ref q5, .int 0, .ref q6, .int 0, .int 0, .ref q7, .int 0, .ref q8, .ref q9, .int 0, .ref q10, .ref q11, .null, .int 0, .null, .int 0, .int 0, .int 0, .null, .int 0, .null, .long 0, .int 0, .null, .null, .int 0, .int 0]))) at7 ne7
  have at8 := AT.put (e := (.inr (9, [.ref q1, .ref q2, .ref q3, .ref q4, .ref q5, .int 0, .ref q6, .int 0, .int 0, .ref q7, .int 0, .ref q8, .ref q9, .int 0, .ref q10, .ref q11, .null, .int 0, .null, .int 0, .int 0, .int 0, .null, .int 0, .null, .long 0, .int 0, .null, .null, .int 0, .int 0]))) at8 ne8
  have at9 := AT.put (e := (.inr (9, [.ref q1, .ref q2, .ref q3, .ref q4, .ref q5, .int 0, .ref q6, .int 0, .int 0, .ref q7, .int 0, .ref q8, .ref q9, .int 0, .ref q10, .ref q11, .null, .int 0, .null, .int 0, .int 0, .int 0, .null, .int 0, .null, .long 0, .int 0, .null, .null, .int 0, .int 0]))) at9 ne9
  have at10 := AT.put (e := (.inr (9, [.ref q1, .ref q2, .ref q3, .ref q4, .ref q5, .int 0, .ref q6, .int 0, .int 0, .ref q7, .int 0, .ref q8, .ref q9, .int 0, .ref q10, .ref q11, .null, .int 0, .null, .int 0, .int 0, .int 0, .null, .int 0, .null, .long 0, .int 0, .null, .null, .int 0, .int 0]))) at10 ne10
  show NJ _ _ _ _ _ _ _ _ (va_up f_21 h0 (.inr (9, [.ref q1, .ref q2, .ref q3, .ref q4, .ref q5, .int 0, .ref q6, .int 0, .int 0, .ref q7, .int 0, .ref q8, .ref q9, .int 0, .ref q10, .ref q11, .null, .int 0, .null, .int 0, .int 0, .int 0, .null, .int 0, .null, .long 0, .int 0, .null, .null, .int 0, .int 0]))) _ _ _
  generalize va_up f_21 h0 (.inr (9, [.ref q1, .ref q2, .ref q3, .ref q4, .ref q5, .int 0, .ref q6, .int 0, .int 0, .ref q7, .int 0, .ref q8, .ref q9, .int 0, .ref q10, .ref q11, .null, .int 0, .null, .int 0, .int 0, .int 0, .null, .int 0, .null, .long 0, .int 0, .null, .null, .int 0, .int 0])) = f_22 at hf0 hk at0 at1 at2 at3 at4 at5 at6 at7 at8 at9 at10 ⊢
  refine n_aload_n C 0 rfl dX11_init_98 rfl ?_
  refine n_bipush C (v := 60) (by decide) dX11_init_99 ?_
  refine n_newai C (N := 60) wd_114 (by decide) (by decide) (Nat.le_of_ble_eq_true rfl) (Nat.le_of_ble_eq_true rfl) (Nat.le_of_ble_eq_true rfl) dX11_init_101 (fun q12 hq12 => ?_)
  have h0q12 : h0 ≠ q12 := fun z => hq12 (z ▸ hm)
  have hf0 := (va_up_ne f_22 (.inl (T 0, 60, .inl fun _ => 0)) h0q12).trans hf0
  have hk : ∀ b, b ∈ L → b ≠ h0 → va_up f_22 q12 (.inl (T 0, 60, .inl fun _ => 0)) b = f b := fun b hb hb0 => (va_up_ne f_22 (.inl (T 0, 60, .inl fun _ => 0)) (fun z : b = q12 => hq12 (z ▸ (List.mem_append_left _ (List.mem_append_left _ (List.mem_append_left _ (List.mem_append_left _ (List.mem_append_left _ (List.mem_append_left _ (List.mem_append_left _ (List.mem_append_left _ (List.mem_append_left _ (List.mem_append_left _ (List.mem_append_left _ (hb))))))))))))))).trans (hk b hb hb0)
  have hfq := va_up_self f_22 q12 (.inl (T 0, 60, .inl fun _ => 0))
  have at0 := AT.fresh (e := (.inl (T 0, 60, .inl fun _ => 0))) at0 hq12
  have at1 := AT.fresh (e := (.inl (T 0, 60, .inl fun _ => 0))) at1 hq12
  have at2 := AT.fresh (e := (.inl (T 0, 60, .inl fun _ => 0))) at2 hq12
  have at3 := AT.fresh (e := (.inl (T 0, 60, .inl fun _ => 0))) at3 hq12
  have at4 := AT.fresh (e := (.inl (T 0, 60, .inl fun _ => 0))) at4 hq12
  have at5 := AT.fresh (e := (.inl (T 0, 60, .inl fun _ => 0))) at5 hq12
  have at6 := AT.fresh (e := (.inl (T 0, 60, .inl fun _ => 0))) at6 hq12
  have at7 := AT.fresh (e := (.inl (T 0, 60, .inl fun _ => 0))) at7 hq12
  have at8 := AT.fresh (e := (.inl (T 0, 60, .inl fun _ => 0))) at8 hq12
  have at9 := AT.fresh (e := (.inl (T 0, 60, .inl fun _ => 0))) at9 hq12
  have at10 := AT.fresh (e := (.inl (T 0, 60, .inl fun _ => 0))) at10 hq12
  have hm := List.mem_append_left [q12] hm
  have hmq : q12 ∈ (((((((((((L ++ [q1]) ++ [q2]) ++ [q3]) ++ [q4]) ++ [q5]) ++ [q6]) ++ [q7]) ++ [q8]) ++ [q9]) ++ [q10]) ++ [q11]) ++ [q12] := List.mem_append_right _ (List.mem_singleton.mpr rfl)
  generalize va_up f_22 q12 (.inl (T 0, 60, .inl fun _ => 0)) = f_23 at hf0 hk hfq at0 at1 at2 at3 at4 at5 at6 at7 at8 at9 at10 ⊢
  have at11 : AT T ((((((((((((L ++ [q1]) ++ [q2]) ++ [q3]) ++ [q4]) ++ [q5]) ++ [q6]) ++ [q7]) ++ [q8]) ++ [q9]) ++ [q10]) ++ [q11]) ++ [q12]) f_23 q12 (12) [] prT [] := AT.arr0 (len := 60) hmq hfq (by decide +kernel)
  have ne11 : h0 ≠ q12 ∧ h0 ∉ ([] : List Nat) := ⟨h0q12, List.not_mem_nil⟩
  refine n_putF C hnm ff_X11_44 hm hf0 (Nat.le_of_ble_eq_true rfl) rfl rfl dX11_init_103 ?_
  have hf0 := va_up_self f_23 h0 (.inr (9, [.ref q1, .ref q2, .ref q3, .ref q4, .ref q5, .int 0, .ref q6, .int 0, .int 0, .ref q7, .int 0, .ref q8, .ref q9, .int 0, .ref q10, .ref q11, .ref q12, .int 0, .null, .int 0, .int 0, .int 0, .null, .int 0, .null, .long 0, .int 0, .null, .null, .int 0, .int 0]))
  have hk : ∀ b, b ∈ L → b ≠ h0 → va_up f_23 h0 (.inr (9, [.ref q1, .ref q2, .ref q3, .ref q4, .ref q5, .int 0, .ref q6, .int 0, .int 0, .ref q7, .int 0, .ref q8, .ref q9, .int 0, .ref q10, .ref q11, .ref q12, .int 0, .null, .int 0, .int 0, .int 0, .null, .int 0, .null, .long 0, .int 0, .null, .null, .int 0, .int 0])) b = f b := fun b hb hb0 => (va_up_ne f_23 (.inr (9, [.ref q1, .ref q2, .ref q3, .ref q4, .ref q5, .int 0, .ref q6, .int 0, .int 0, .ref q7, .int 0, .ref q8, .ref q9, .int 0, .ref q10, .ref q11, .ref q12, .int 0, .null, .int 0, .int 0, .int 0, .null, .int 0, .null, .long 0, .int 0, .null, .null, .int 0, .int 0])) hb0).trans (hk b hb hb0)
  have at0 := AT.put (e := (.inr (9, [.ref q1, .ref q2, .ref q3, .ref q4, .ref q5, .int 0, .ref q6, .int 0, .int 0, .ref q7, .int 0, .ref q8, .ref q9, .int 0, .ref q10, .ref q11, .ref q12, .int 0, .null, .int 0, .int 0, .int 0, .null, .int 0, .null, .long 0, .int 0, .null, .null, .int 0, .int 0]))) at0 ne0
  have at1 := AT.put (e := (.inr (9, [.ref q1, .ref q2, .ref q3, .ref q4, .ref q5, .int 0, .ref q6, .int 0, .int 0, .ref q7, .int 0, .ref q8, .ref q9, .int 0, .ref q10, .ref q11, .ref q12, .int 0, .null, .int 0, .int 0, .int 0, .null, .int 0, .null, .long 0, .int 0, .null, .null, .int 0, .int 0]))) at1 ne1
  have at2 := AT.put (e := (.inr (9, [.ref q1, .ref q2, .ref q3, .ref q4, .ref q5, .int 0, .ref q6, .int 0, .int 0, .ref q7, .int 0, .ref q8, .ref q9, .int 0, .ref q10, .ref q11, .ref q12, .int 0, .null, .int 0, .int 0, .int 0, .null, .int 0, .null, .long 0, .int 0, .null, .null, .int 0, .int 0]))) at2 ne2
  have at3 := AT.put (e := (.inr (9, [.ref q1, .ref q2, .ref q3, .ref q4, .ref q5, .int 0, .ref q6, .int 0, .int 0, .ref q7, .int 0, .ref q8, .ref q9, .int 0, .ref q10, .ref q11, .ref q12, .int 0, .null, .int 0, .int 0, .int 0, .null, .int 0, .null, .long 0, .int 0, .null, .null, .int 0, .int 0]))) at3 ne3
  have at4 := AT.put (e := (.inr (9, [.ref q1, .ref q2, .ref q3, .ref q4, .ref q5, .int 0, .ref q6, .int 0, .int 0, .ref q7, .int 0, .ref q8, .ref q9, .int 0, .ref q10, .ref q11, .ref q12, .int 0, .null, .int 0, .int 0, .int 0, .null, .int 0, .null, .long 0, .int 0, .null, .null, .int 0, .int 0]))) at4 ne4
  have at5 := AT.put (e := (.inr (9, [.ref q1, .ref q2, .ref q3, .ref q4, .ref q5, .int 0, .ref q6, .int 0, .int 0, .ref q7, .int 0, .ref q8, .ref q9, .int 0, .ref q10, .ref q11, .ref q12, .int 0, .null, .int 0, .int 0, .int 0, .null, .int 0, .null, .long 0, .int 0, .null, .null, .int 0, .int 0]))) at5 ne5
  have at6 := AT.put (e := (.inr (9, [.ref q1, .ref q2, .ref q3, .ref q4, .ref q5, .int 0, .ref q6, .int 0, .int 0, .ref q7, .int 0, .ref q8, .ref q9, .int 0, .ref q10, .ref q11, .ref q12, .int 0, .null, .int 0, .int 0, .int 0, .null, .int 0, .null, .long 0, .int 0, .null, .null, .int 0, .int 0]))) at6 ne6
  have at7 := AT.put (e := (.inr (9, [.ref q1, .ref q2, .ref q3, .ref q4, .ref q5, .int 0, .ref q6, .int 0, .int 0, .ref q7, .int 0, .ref q8, .ref q9, .int 0, .ref q10, .ref q11, .ref q12, .int 0, .null, .int 0, .int 0, .int 0, .null, .int 0, .null, .long 0, .int 0, .null, .null, .int 0, .int 0]))) at7 ne7
  have at8 := AT.put (e := (.inr (9, [.ref q1, .ref q2, .ref q3, .ref q4, .ref q5, .int 0, .ref q6, .int 0, .int 0, .ref q7, .int 0, .ref q8, .ref q9, .int 0, .ref q10, .ref q11, .ref q12, .int 0, .null, .int 0, .int 0, .int 0, .null, .int 0, .null, .long 0, .int 0, .null, .null, .int 0, .int 0]))) at8 ne8
  have at9 := AT.put (e := (.inr (9, [.ref q1, .ref q2, .ref q3, .ref q4, .ref q5, .int 0, .ref q6, .int 0, .int 0, .ref q7, .int 0, .ref q8, .ref q9, .int 0, .ref q10, .ref q11, .ref q12, .int 0, .null, .int 0, .int 0, .int 0, .null, .int 0, .null, .long 0, .int 0, .null, .null, .int 0, .int 0]))) at9 ne9
  have at10 := AT.put (e := (.inr (9, [.ref q1, .ref q2, .ref q3, .ref q4, .ref q5, .int 0, .ref q6, .int 0, .int 0, .ref q7, .int 0, .ref q8, .ref q9, .int 0, .ref q10, .ref q11, .ref q12, .int 0, .null, .int 0, .int 0, .int 0, .null, .int 0, .null, .long 0, .int 0, .null, .null, .int 0, .int 0]))) at10 ne10
  have at11 := AT.put (e := (.inr (9, [.ref q1, .ref q2, .ref q3, .ref q4, .ref q5, .int 0, .ref q6, .int 0, .int 0, .ref q7, .int 0, .ref q8, .ref q9, .int 0, .ref q10, .ref q11, .ref q12, .int 0, .null, .int 0, .int 0, .int 0, .null, .int 0, .null, .long 0, .int 0, .null, .null, .int 0, .int 0]))) at11 ne11
  show NJ _ _ _ _ _ _ _ _ (va_up f_23 h0 (.inr (9, [.ref q1, .ref q2, .ref q3, .ref q4, .ref q5, .int 0, .ref q6, .int 0, .int 0, .ref q7, .int 0, .ref q8, .ref q9, .int 0, .ref q10, .ref q11, .ref q12, .int 0, .null, .int 0, .int 0, .int 0, .null, .int 0, .null, .long 0, .int 0, .null, .null, .int 0, .int 0]))) _ _ _
  generalize va_up f_23 h0 (.inr (9, [.ref q1, .ref q2, .ref q3, .ref q4, .ref q5, .int 0, .ref q6, .int 0, .int 0, .ref q7, .int 0, .ref q8, .ref q9, .int 0, .ref q10, .ref q11, .ref q12, .int 0, .null, .int 0, .int 0, .int 0, .null, .int 0, .null, .long 0, .int 0, .null, .null, .int 0, .int 0])) = f_24 at hf0 hk at0 at1 at2 at3 at4 at5 at6 at7 at8 at9 at10 at11 ⊢
  refine n_aload_n C 0 rfl dX11_init_106 rfl ?_
  refine n_bipush C (v := 40) (by decide) dX11_init_107 ?_
  refine n_newai C (N := 40) wd_114 (by decide) (by decide) (Nat.le_of_ble_eq_true rfl) (Nat.le_of_ble_eq_true rfl) (Nat.le_of_ble_eq_true rfl) dX11_init_109 (fun q13 hq13 => ?_)
  have h0q13 : h0 ≠ q13 := fun z => hq13 (z ▸ hm)
  have hf0 := (va_up_ne f_24 (.inl (T 0, 40, .inl fun _ => 0)) h0q13).trans hf0
  have hk : ∀ b, b ∈ L → b ≠ h0 → va_up f_24 q13 (.inl (T 0, 40, .inl fun _ => 0)) b = f b := fun b hb hb0 => (va_up_ne f_24 (.inl (T 0, 40, .inl fun _ => 0)) (fun z : b = q13 => hq13 (z ▸ (List.mem_append_left _ (List.mem_append_left _ (List.mem_append_left _ (List.mem_append_left _ (List.mem_append_left _ (List.mem_append_left _ (List.mem_append_left _ (List.mem_append_left _ (List.mem_append_left _ (List.mem_append_left _ (List.mem_append_left _ (List.mem_append_left _ (hb)))))))))))))))).trans (hk b hb hb0)
  have hfq := va_up_self f_24 q13 (.inl (T 0, 40, .inl fun _ => 0))
  have at0 := AT.fresh (e := (.inl (T 0, 40, .inl fun _ => 0))) at0 hq13
  have at1 := AT.fresh (e := (.inl (T 0, 40, .inl fun _ => 0))) at1 hq13
  have at2 := AT.fresh (e := (.inl (T 0, 40, .inl fun _ => 0))) at2 hq13
  have at3 := AT.fresh (e := (.inl (T 0, 40, .inl fun _ => 0))) at3 hq13
  have at4 := AT.fresh (e := (.inl (T 0, 40, .inl fun _ => 0))) at4 hq13
  have at5 := AT.fresh (e := (.inl (T 0, 40, .inl fun _ => 0))) at5 hq13
  have at6 := AT.fresh (e := (.inl (T 0, 40, .inl fun _ => 0))) at6 hq13
  have at7 := AT.fresh (e := (.inl (T 0, 40, .inl fun _ => 0))) at7 hq13
  have at8 := AT.fresh (e := (.inl (T 0, 40, .inl fun _ => 0))) at8 hq13
  have at9 := AT.fresh (e := (.inl (T 0, 40, .inl fun _ => 0))) at9 hq13
  have at10 := AT.fresh (e := (.inl (T 0, 40, .inl fun _ => 0))) at10 hq13
  have at11 := AT.fresh (e := (.inl (T 0, 40, .inl fun _ => 0))) at11 hq13
  have hm := List.mem_append_left [q13] hm
  have hmq : q13 ∈ ((((((((((((L ++ [q1]) ++ [q2]) ++ [q3]) ++ [q4]) ++ [q5]) ++ [q6]) ++ [q7]) ++ [q8]) ++ [q9]) ++ [q10]) ++ [q11]) ++ [q12]) ++ [q13] := List.mem_append_right _ (List.mem_singleton.mpr rfl)
  generalize va_up f_24 q13 (.inl (T 0, 40, .inl fun _ => 0)) = f_25 at hf0 hk hfq at0 at1 at2 at3 at4 at5 at6 at7 at8 at9 at10 at11 ⊢
  have at12 : AT T (((((((((((((L ++ [q1]) ++ [q2]) ++ [q3]) ++ [q4]) ++ [q5]) ++ [q6]) ++ [q7]) ++ [q8]) ++ [q9]) ++ [q10]) ++ [q11]) ++ [q12]) ++ [q13]) f_25 q13 (13) [] prT [] := AT.arr0 (len := 40) hmq hfq (by decide +kernel)
  have ne12 : h0 ≠ q13 ∧ h0 ∉ ([] : List Nat) := ⟨h0q13, List.not_mem_nil⟩
  refine n_putF C hnm ff_X11_47 hm hf0 (Nat.le_of_ble_eq_true rfl) rfl rfl dX11_init_111 ?_
  have hf0 := va_up_self f_25 h0 (.inr (9, [.ref q1, .ref q2, .ref q3, .ref q4, .ref q5, .int 0, .ref q6, .int 0, .int 0, .ref q7, .int 0, .ref q8, .ref q9, .int 0, .ref q10, .ref q11, .ref q12, .int 0, .ref q13, .int 0, .int 0, .int 0, .null, .int 0, .null, .long 0, .int 0, .null, .null, .int 0, .int 0]))
  have hk : ∀ b, b ∈ L → b ≠ h0 → va_up f_25 h0 (.inr (9, [.ref q1, .ref q2, .ref q3, .ref q4, .ref q5, .int 0, .ref q6, .int 0, .int 0, .ref q7, .int 0, .ref q8, .ref q9, .int 0, .ref q10, .ref q11, .ref q12, .int 0, .ref q13, .int 0, .int 0, .int 0, .null, .int 0, .null, .long 0, .int 0, .null, .null, .int 0, .int 0])) b = f b := fun b hb hb0 => (va_up_ne f_25 (.inr (9, [.ref q1, .ref q2, .ref q3, .ref q4, .ref q5, .int 0, .ref q6, .int 0, .int 0, .ref q7, .int 0, .ref q8, .ref q9, .int 0, .ref q10, .ref q11, .ref q12, .int 0, .ref q13, .int 0, .int 0, .int 0, .null, .int 0, .null, .long 0, .int 0, .null, .null, .int 0, .int 0])) hb0).trans (hk b hb hb0)
  have at0 := AT.put (e := (.inr (9, [.ref q1, .ref q2, .ref q3, .ref q4, .ref q5, .int 0, .ref q6, .int 0, .int 0, .ref q7, .int 0, .ref q8, .ref q9, .int 0, .ref q10, .ref q11, .ref q12, .int 0, .ref q13, .int 0, .int 0, .int 0, .null, .int 0, .null, .long 0, .int 0, .null, .null, .int 0, .int 0]))) at0 ne0
  have at1 := AT.put (e := (.inr (9, [.ref q1, .ref q2, .ref q3, .ref q4, .ref q5, .int 0, .ref q6, .int 0, .int 0, .ref q7, .int 0, .ref q8, .ref q9, .int 0, .ref q10, .ref q11, .ref q12, .int 0, .ref q13, .int 0, .int 0, .int 0, .null, .int 0, .null, .long 0, .int 0, .null, .null, .int 0, .int 0]))) at1 ne1
  have at2 := AT.put (e := (.inr (9, [.ref q1, .ref q2, .ref q3, .ref q4, .ref q5, .int 0, .ref q6, .int 0, .int 0, .ref q7, .int 0, .ref q8, .ref q9, .int 0, .ref q10, .ref q11, .ref q12, .int 0, .ref q13, .int 0, .int 0, .int 0, .null, .int 0, .null, .long 0, .int 0, .null, .null, .int 0, .int 0]))) at2 ne2
  have at3 := AT.put (e := (.inr (9, [.ref q1, .ref q2, .ref q3, .ref q4, .ref q5, .int 0, .ref q6, .int 0, .int 0, .ref q7, .int 0, .ref q8, .ref q9, .int 0, .ref q10, .ref q11, .ref q12, .int 0, .ref q13, .int 0, .int 0, .int 0, .null, .int 0, .null, .long 0, .int 0, .null, .null, .int 0, .int 0]))) at3 ne3
  have at4 := AT.put (e := (.inr (9, [.ref q1, .ref q2, .ref q3, .ref q4, .ref q5, .int 0, .ref q6, .int 0, .int 0, .ref q7, .int 0, .ref q8, .ref q9, .int 0, .ref q10, .ref q11, .ref q12, .int 0, .ref q13, .int 0, .int 0, .int 0, .null, .int 0, .null, .long 0, .int 0, .null, .null, .int 0, .int 0]))) at4 ne4
  have at5 := AT.put (e := (.inr (9, [.ref q1, .ref q2, .ref q3, .ref q4, .ref q5, .int 0, .ref q6, .int 0, .int 0, .ref q7, .int 0, .ref q8, .ref q9, .int 0, .ref q10, .ref q11, .ref q12, .int 0, .ref q13, .int 0, .int 0, .int 0, .null, .int 0, .null, .long 0, .int 0, .null, .null, .int 0, .int 0]))) at5 ne5
  have at6 := AT.put (e := (.inr (9, [.ref q1, .ref q2, .ref q3, .ref q4, .ref q5, .int 0, .ref q6, .int 0, .int 0, .ref q7, .int 0, .ref q8, .ref q9, .int 0, .ref q10, .ref q11, .ref q12, .int 0, .ref q13, .int 0, .int 0, .int 0, .null, .int 0, .null, .long 0, .int 0, .null, .null, .int 0, .int 0]))) at6 ne6
  have at7 := AT.put (e := (.inr (9, [.ref q1, .ref q2, .ref q3, .ref q4, .ref q5, .int 0, .ref q6, .int 0, .int 0, .ref q7, .int 0, .ref q8, .ref q9, .int 0, .ref q10, .ref q11, .ref q12, .int 0, .ref q13, .int 0, .int 0, .int 0, .null, .int 0, .null, .long 0, .int 0, .null, .null, .int 0, .int 0]))) at7 ne7
  have at8 := AT.put (e := (.inr (9, [.ref q1, .ref q2, .ref q3, .ref q4, .ref q5, .int 0, .ref q6, .int 0, .int 0, .ref q7, .int 0, .ref q8, .ref q9, .int 0, .ref q10, .ref q11, .ref q12, .int 0, .ref q13, .int 0, .int 0, .int 0, .null, .int 0, .null, .long 0, .int 0, .null, .null, .int 0, .int 0]))) at8 ne8
  have at9 := AT.put (e := (.inr (9, [.ref q1, .ref q2, .ref q3, .ref q4, .ref q5, .int 0, .ref q6, .int 0, .int 0, .ref q7, .int 0, .ref q8, .ref q9, .int 0, .ref q10, .ref q11, .ref q12, .int 0, .ref q13, .int 0, .int 0, .int 0, .null, .int 0, .null, .long 0, .int 0, .null, .null, .int 0, .int 0]))) at9 ne9
  have at10 := AT.put (e := (.inr (9, [.ref q1, .ref q2, .ref q3, .ref q4, .ref q5, .int 0, .ref q6, .int 0, .int 0, .ref q7, .int 0, .ref q8, .ref q9, .int 0, .ref q10, .ref q11, .ref q12, .int 0, .ref q13, .int 0, .int 0, .int 0, .null, .int 0, .null, .long 0, .int 0, .null, .null, .int 0, .int 0]))) at10 ne10
  have at11 := AT.put (e := (.inr (9, [.ref q1, .ref q2, .ref q3, .ref q4, .ref q5, .int 0, .ref q6, .int 0, .int 0, .ref q7, .int 0, .ref q8, .ref q9, .int 0, .ref q10, .ref q11, .ref q12, .int 0, .ref q13, .int 0, .int 0, .int 0, .null, .int 0, .null, .long 0, .int 0, .null, .null, .int 0, .int 0]))) at11 ne11
  have at12 := AT.put (e := (.inr (9, [.ref q1, .ref q2, .ref q3, .ref q4, .ref q5, .int 0, .ref q6, .int 0, .int 0, .ref q7, .int 0, .ref q8, .ref q9, .int 0, .ref q10, .ref q11, .ref q12, .int 0, .ref q13, .int 0, .int 0, .int 0, .null, .int 0, .null, .long 0, .int 0, .null, .null, .int 0, .int 0]))) at12 ne12
  show NJ _ _ _ _ _ _ _ _ (va_up f_25 h0 (.inr (9, [.ref q1, .ref q2, .ref q3, .ref q4, .ref q5, .int 0, .ref q6, .int 0, .int 0, .ref q7, .int 0, .ref q8, .ref q9, .int 0, .ref q10, .ref q11, .ref q12, .int 0, .ref q13, .int 0, .int 0, .int 0, .null, .int 0, .null, .long 0, .int 0, .null, .null, .int 0, .int 0]))) _ _ _
  generalize va_up f_25 h0 (.inr (9, [.ref q1, .ref q2, .ref q3, .ref q4, .ref q5, .int 0, .ref q6, .int 0, .int 0, .ref q7, .int 0, .ref q8, .ref q9, .int 0, .ref q10, .ref q11, .ref q12, .int 0, .ref q13, .int 0, .int 0, .int 0, .null, .int 0, .null, .long 0, .int 0, .null, .null, .int 0, .int 0])) = f_26 at hf0 hk at0 at1 at2 at3 at4 at5 at6 at7 at8 at9 at10 at11 at12 ⊢
  refine n_aload_n C 0 rfl dX11_init_114 rfl ?_
  refine n_sipush C (v := 2401) (by decide) dX11_init_115 ?_
  refine n_newaz C (N := 2401) wd_825 (by decide) (by decide) (Nat.le_of_ble_eq_true rfl) (Nat.le_of_ble_eq_true rfl) (Nat.le_of_ble_eq_true rfl) dX11_init_118 (fun q14 hq14 => ?_)
  have h0q14 : h0 ≠ q14 := fun z => hq14 (z ▸ hm)
  have hf0 := (va_up_ne f_26 (.inl (T 1, 2401, .inl fun _ => 0)) h0q14).trans hf0
  have hk : ∀ b, b ∈ L → b ≠ h0 → va_up f_26 q14 (.inl (T 1, 2401, .inl fun _ => 0)) b = f b := fun b hb hb0 => (va_up_ne f_26 (.inl (T 1, 2401, .inl fun _ => 0)) (fun z : b = q14 => hq14 (z ▸ (List.mem_append_left _ (List.mem_append_left _ (List.mem_append_left _ (List.mem_append_left _ (List.mem_append_left _ (List.mem_append_left _ (List.mem_append_left _ (List.mem_append_left _ (List.mem_append_left _ (List.mem_append_left _ (List.mem_append_left _ (List.mem_append_left _ (List.mem_append_left _ (hb))))))))))))))))).trans (hk b hb hb0)
  have hfq := va_up_self f_26 q14 (.inl (T 1, 2401, .inl fun _ => 0))
  have at0 := AT.fresh (e := (.inl (T 1, 2401, .inl fun _ => 0))) at0 hq14
  have at1 := AT.fresh (e := (.inl (T 1, 2401, .inl fun _ => 0))) at1 hq14
  have at2 := AT.fresh (e := (.inl (T 1, 2401, .inl fun _ => 0))) at2 hq14
  have at3 := AT.fresh (e := (.inl (T 1, 2401, .inl fun _ => 0))) at3 hq14
  have at4 := AT.fresh (e := (.inl (T 1, 2401, .inl fun _ => 0))) at4 hq14
  have at5 := AT.fresh (e := (.inl (T 1, 2401, .inl fun _ => 0))) at5 hq14
  have at6 := AT.fresh (e := (.inl (T 1, 2401, .inl fun _ => 0))) at6 hq14
  have at7 := AT.fresh (e := (.inl (T 1, 2401, .inl fun _ => 0))) at7 hq14
  have at8 := AT.fresh (e := (.inl (T 1, 2401, .inl fun _ => 0))) at8 hq14
  have at9 := AT.fresh (e := (.inl (T 1, 2401, .inl fun _ => 0))) at9 hq14
  have at10 := AT.fresh (e := (.inl (T 1, 2401, .inl fun _ => 0))) at10 hq14
  have at11 := AT.fresh (e := (.inl (T 1, 2401, .inl fun _ => 0))) at11 hq14
  have at12 := AT.fresh (e := (.inl (T 1, 2401, .inl fun _ => 0))) at12 hq14
  have hm := List.mem_append_left [q14] hm
  have hmq : q14 ∈ (((((((((((((L ++ [q1]) ++ [q2]) ++ [q3]) ++ [q4]) ++ [q5]) ++ [q6]) ++ [q7]) ++ [q8]) ++ [q9]) ++ [q10]) ++ [q11]) ++ [q12]) ++ [q13]) ++ [q14] := List.mem_append_right _ (List.mem_singleton.mpr rfl)
  generalize va_up f_26 q14 (.inl (T 1, 2401, .inl fun _ => 0)) = f_27 at hf0 hk hfq at0 at1 at2 at3 at4 at5 at6 at7 at8 at9 at10 at11 at12 ⊢
  have at13 : AT T ((((((((((((((L ++ [q1]) ++ [q2]) ++ [q3]) ++ [q4]) ++ [q5]) ++ [q6]) ++ [q7]) ++ [q8]) ++ [q9]) ++ [q10]) ++ [q11]) ++ [q12]) ++ [q13]) ++ [q14]) f_27 q14 (14) [] prT [] := AT.arr1 (len := 2401) hmq hfq (by decide +kernel)
  have ne13 : h0 ≠ q14 ∧ h0 ∉ ([] : List Nat) := ⟨h0q14, List.not_mem_nil⟩
  refine n_putF C hnm ff_X11_50 hm hf0 (Nat.le_of_ble_eq_true rfl) rfl rfl dX11_init_120 ?_
  have hf0 := va_up_self f_27 h0 (.inr (9, [.ref q1, .ref q2, .ref q3, .ref q4, .ref q5, .int 0, .ref q6, .int 0, .int 0, .ref q7, .int 0, .ref q8, .ref q9, .int 0, .ref q10, .ref q11, .ref q12, .int 0, .ref q13, .int 0, .int 0, .int 0, .ref q14, .int 0, .null, .long 0, .int 0, .null, .null, .int 0, .int 0]))
  have hk : ∀ b, b ∈ L → b ≠ h0 → va_up f_27 h0 (.inr (9, [.ref q1, .ref q2, .ref q3, .ref q4, .ref q5, .int 0, .ref q6, .int 0, .int 0, .ref q7, .int 0, .ref q8, .ref q9, .int 0, .ref q10, .ref q11, .ref q12, .int 0, .ref q13, .int 0, .int 0, .int 0, .ref q14, .int 0, .null, .long 0, .int 0, .null, .null, .int 0, .int 0])) b = f b := fun b hb hb0 => (va_up_ne f_27 (.inr (9, [.ref q1, .ref q2, .ref q3, .ref q4, .ref q5, .int 0, .ref q6, .int 0, .int 0, .ref q7, .int 0, .ref q8, .ref q9, .int 0, .ref q10, .ref q11, .ref q12, .int 0, .ref q13, .int 0, .int 0, .int 0, .ref q14, .int 0, .null, .long 0, .int 0, .null, .null, .int 0, .int 0])) hb0).trans (hk b hb hb0)
  have at0 := AT.put (e := (.inr (9, [.ref q1, .ref q2, .ref q3, .ref q4, .ref q5, .int 0, .ref q6, .int 0, .int 0, .ref q7, .int 0, .ref q8, .ref q9, .int 0, .ref q10, .ref q11, .ref q12, .int 0, .ref q13, .int 0, .int 0, .int 0, .ref q14, .int 0, .null, .long 0, .int 0, .null, .null, .int 0, .int 0]))) at0 ne0
  have at1 := AT.put (e := (.inr (9, [.ref q1, .ref q2, .ref q3, .ref q4, .ref q5, .int 0, .ref q6, .int 0, .int 0, .ref q7, .int 0, .ref q8, .ref q9, .int 0, .ref q10, .ref q11, .ref q12, .int 0, .ref q13, .int 0, .int 0, .int 0, .ref q14, .int 0, .null, .long 0, .int 0, .null, .null, .int 0, .int 0]))) at1 ne1
  have at2 := AT.put (e := (.inr (9, [.ref q1, .ref q2, .ref q3, .ref q4, .ref q5, .int 0, .ref q6, .int 0, .int 0, .ref q7, .int 0, .ref q8, .ref q9, .int 0, .ref q10, .ref q11, .ref q12, .int 0, .ref q13, .int 0, .int 0, .int 0, .ref q14, .int 0, .null, .long 0, .int 0, .null, .null, .int 0, .int 0]))) at2 ne2
  have at3 := AT.put (e := (.inr (9, [.ref q1, .ref q2, .ref q3, .ref q4, .ref q5, .int 0, .ref q6, .int 0, .int 0, .ref q7, .int 0, .ref q8, .ref q9, .int 0, .ref q10, .ref q11, .ref q12, .int 0, .ref q13, .int 0, .int 0, .int 0, .ref q14, .int 0, .null, .long 0, .int 0, .null, .null, .int 0, .int 0]))) at3 ne3
  have at4 := AT.put (e := (.inr (9, [.ref q1, .ref q2, .ref q3, .ref q4, .ref q5, .int 0, .ref q6, .int 0, .int 0, .ref q7, .int 0, .ref q8, .ref q9, .int 0, .ref q10, .ref q11, .ref q12, .int 0, .ref q13, .int 0, .int 0, .int 0, .ref q14, .int 0, .null, .long 0, .int 0, .null, .null, .int 0, .int 0]))) at4 ne4
  have at5 := AT.put (e := (.inr (9, [.ref q1, .ref q2, .ref q3, .ref q4, .ref q5, .int 0, .ref q6, .int 0, .int 0, .ref q7, .int 0, .ref q8, .ref q9, .int 0, .ref q10, .ref q11, .ref q12, .int 0, .ref q13, .int 0, .int 0, .int 0, .ref q14, .int 0, .null, .long 0, .int 0, .null, .null, .int 0, .int 0]))) at5 ne5
  have at6 := AT.put (e := (.inr (9, [.ref q1, .ref q2, .ref q3, .ref q4, .ref q5, .int 0, .ref q6, .int 0, .int 0, .ref q7, .int 0, .ref q8, .ref q9, .int 0, .ref q10, .ref q11, .ref q12, .int 0, .ref q13, .int 0, .int 0, .int 0, .ref q14, .int 0, .null, .long 0, .int 0, .null, .null, .int 0, .int 0]))) at6 ne6
  have at7 := AT.put (e := (.inr (9, [.ref q1, .ref q2, .ref q3, .ref q4, .ref q5, .int 0, .ref q6, .int 0, .int 0, .ref q7, .int 0, .ref q8, .ref q9, .int 0, .ref q10, .ref q11, .ref q12, .int 0, .ref q13, .int 0, .int 0, .int 0, .ref q14, .int 0, .null, .long 0, .int 0, .null, .null, .int 0, .int 0]))) at7 ne7
  have at8 := AT.put (e := (.inr (9, [.ref q1, .ref q2, .ref q3, .ref q4, .ref q5, .int 0, .ref q6, .int 0, .int 0, .ref q7, .int 0, .ref q8, .ref q9, .int 0, .ref q10, .ref q11, .ref q12, .int 0, .ref q13, .int 0, .int 0, .int 0, .ref q14, .int 0, .null, .long 0, .int 0, .null, .null, .int 0, .int 0]))) at8 ne8
  have at9 := AT.put (e := (.inr (9, [.ref q1, .ref q2, .ref q3, .ref q4, .ref q5, .int 0, .ref q6, .int 0, .int 0, .ref q7, .int 0, .ref q8, .ref q9, .int 0, .ref q10, .ref q11, .ref q12, .int 0, .ref q13, .int 0, .int 0, .int 0, .ref q14, .int 0, .null, .long 0, .int 0, .null, .null, .int 0, .int 0]))) at9 ne9
  have at10 := AT.put (e := (.inr (9, [.ref q1, .ref q2, .ref q3, .ref q4, .ref q5, .int 0, .ref q6, .int 0, .int 0, .ref q7, .int 0, .ref q8, .ref q9, .int 0, .ref q10, .ref q11, .ref q12, .int 0, .ref q13, .int 0, .int 0, .int 0, .ref q14, .int 0, .null, .long 0, .int 0, .null, .null, .int 0, .int 0]))) at10 ne10
  have at11 := AT.put (e := (.inr (9, [.ref q1, .ref q2, .ref q3, .ref q4, .ref q5, .int 0, .ref q6, .int 0, .int 0, .ref q7, .int 0, .ref q8, .ref q9, .int 0, .ref q10, .ref q11, .ref q12, .int 0, .ref q13, .int 0, .int 0, .int 0, .ref q14, .int 0, .null, .long 0, .int 0, .null, .null, .int 0, .int 0]))) at11 ne11
  have at12 := AT.put (e := (.inr (9, [.ref q1, .ref q2, .ref q3, .ref q4, .ref q5, .int 0, .ref q6, .int 0, .int 0, .ref q7, .int 0, .ref q8, .ref q9, .int 0, .ref q10, .ref q11, .ref q12, .int 0, .ref q13, .int 0, .int 0, .int 0, .ref q14, .int 0, .null, .long 0, .int 0, .null, .null, .int 0, .int 0]))) at12 ne12
  have at13 := AT.put (e := (.inr (9, [.ref q1, .ref q2, .ref q3, .ref q4, .ref q5, .int 0, .ref q6, .int 0, .int 0, .ref q7, .int 0, .ref q8, .ref q9, .int 0, .ref q10, .ref q11, .ref q12, .int 0, .ref q13, .int 0, .int 0, .int 0, .ref q14, .int 0, .null, .long 0, .int 0, .null, .null, .int 0, .int 0]))) at13 ne13
  show NJ _ _ _ _ _ _ _ _ (va_up f_27 h0 (.inr (9, [.ref q1, .ref q2, .ref q3, .ref q4, .ref q5, .int 0, .ref q6, .int 0, .int 0, .ref q7, .int 0, .ref q8, .ref q9, .int 0, .ref q10, .ref q11, .ref q12, .int 0, .ref q13, .int 0, .int 0, .int 0, .ref q14, .int 0, .null, .long 0, .int 0, .null, .null, .int 0, .int 0]))) _ _ _
  generalize va_up f_27 h0 (.inr (9, [.ref q1, .ref q2, .ref q3, .ref q4, .ref q5, .int 0, .ref q6, .int 0, .int 0, .ref q7, .int 0, .ref q8, .ref q9, .int 0, .ref q10, .ref q11, .ref q12, .int 0, .ref q13, .int 0, .int 0, .int 0, .ref q14, .int 0, .null, .long 0, .int 0, .null, .null, .int 0, .int 0])) = f_28 at hf0 hk at0 at1 at2 at3 at4 at5 at6 at7 at8 at9 at10 at11 at12 at13 ⊢
  refine n_aload_n C 0 rfl dX11_init_123 rfl ?_
  refine n_bipush C (v := 16) (by decide) dX11_init_124 ?_
  refine n_newai C (N := 16) wd_114 (by decide) (by decide) (Nat.le_of_ble_eq_true rfl) (Nat.le_of_ble_eq_true rfl) (Nat.le_of_ble_eq_true rfl) dX11_init_126 (fun q15 hq15 => ?_)
  have h0q15 : h0 ≠ q15 := fun z => hq15 (z ▸ hm)
  have hf0 := (va_up_ne f_28 (.inl (T 0, 16, .inl fun _ => 0)) h0q15).trans hf0
  have hk : ∀ b, b ∈ L → b ≠ h0 → va_up f_28 q15 (.inl (T 0, 16, .inl fun _ => 0)) b = f b := fun b hb hb0 => (va_up_ne f_28 (.inl (T 0, 16, .inl fun _ => 0)) (fun z : b = q15 => hq15 (z ▸ (List.mem_append_left _ (List.mem_append_left _ (List.mem_append_left _ (List.mem_append_left _ (List.mem_append_left _ (List.mem_append_left _ (List.mem_append_left _ (List.mem_append_left _ (List.mem_append_left _ (List.mem_append_left _ (List.mem_append_left _ (List.mem_append_left _ (List.mem_append_left _ (List.mem_append_left _ (hb)))))))))))))))))).trans (hk b hb hb0)
  have hfq := va_up_self f_28 q15 (.inl (T 0, 16, .inl fun _ => 0))
  have at0 := AT.fresh (e := (.inl (T 0, 16, .inl fun _ => 0))) at0 hq15
  have at1 := AT.fresh (e := (.inl (T 0, 16, .inl fun _ => 0))) at1 hq15
  have at2 := AT.fresh (e := (.inl (T 0, 16, .inl fun _ => 0))) at2 hq15
  have at3 := AT.fresh (e := (.inl (T 0, 16, .inl fun _ => 0))) at3 hq15
  have at4 := AT.fresh (e := (.inl (T 0, 16, .inl fun _ => 0))) at4 hq15
  have at5 := AT.fresh (e := (.inl (T 0, 16, .inl fun _ => 0))) at5 hq15
  have at6 := AT.fresh (e := (.inl (T 0, 16, .inl fun _ => 0))) at6 hq15
  have at7 := AT.fresh (e := (.inl (T 0, 16, .inl fun _ => 0))) at7 hq15
  have at8 := AT.fresh (e := (.inl (T 0, 16, .inl fun _ => 0))) at8 hq15
  have at9 := AT.fresh (e := (.inl (T 0, 16, .inl fun _ => 0))) at9 hq15
  have at10 := AT.fresh (e := (.inl (T 0, 16, .inl fun _ => 0))) at10 hq15
  have at11 := AT.fresh (e := (.inl (T 0, 16, .inl fun _ => 0))) at11 hq15
  have at12 := AT.fresh (e := (.inl (T 0, 16, .inl fun _ => 0))) at12 hq15
  have at13 := AT.fresh (e := (.inl (T 0, 16, .inl fun _ => 0))) at13 hq15
  have hm := List.mem_append_left [q15] hm
  have hmq : q15 ∈ ((((((((((((((L ++ [q1]) ++ [q2]) ++ [q3]) ++ [q4]) ++ [q5]) ++ [q6]) ++ [q7]) ++ [q8]) ++ [q9]) ++ [q10]) ++ [q11]) ++ [q12]) ++ [q13]) ++ [q14]) ++ [q15] := List.mem_append_right _ (List.mem_singleton.mpr rfl)
  generalize va_up f_28 q15 (.inl (T 0, 16, .inl fun _ => 0)) = f_29 at hf0 hk hfq at0 at1 at2 at3 at4 at5 at6 at7 at8 at9 at10 at11 at12 at13 ⊢
  have at14 : AT T (((((((((((((((L ++ [q1]) ++ [q2]) ++ [q3]) ++ [q4]) ++ [q5]) ++ [q6]) ++ [q7]) ++ [q8]) ++ [q9]) ++ [q10]) ++ [q11]) ++ [q12]) ++ [q13]) ++ [q14]) ++ [q15]) f_29 q15 (15) [] prT [] := AT.arr0 (len := 16) hmq hfq (by decide +kernel)
  have ne14 : h0 ≠ q15 ∧ h0 ∉ ([] : List Nat) := ⟨h0q15, List.not_mem_nil⟩
  refine n_putF C hnm ff_X11_53 hm hf0 (Nat.le_of_ble_eq_true rfl) rfl rfl dX11_init_128 ?_
  have hf0 := va_up_self f_29 h0 (.inr (9, [.ref q1, .ref q2, .ref q3, .ref q4, .ref q5, .int 0, .ref q6, .int 0, .int 0, .ref q7, .int 0, .ref q8, .ref q9, .int 0, .ref q10, .ref q11, .ref q12, .int 0, .ref q13, .int 0, .int 0, .int 0, .ref q14, .int 0, .ref q15, .long 0, .int 0, .null, .null, .int 0, .int 0]))
  have hk : ∀ b, b ∈ L → b ≠ h0 → va_up f_29 h0 (.inr (9, [.ref q1, .ref q2, .ref q3, .ref q4, .ref q5, .int 0, .ref q6, .int 0, .int 0, .ref q7, .int 0, .ref q8, .ref q9, .int 0, .ref q10, .ref q11, .ref q12, .int 0, .ref q13, .int 0, .int 0, .int 0, .ref q14, .int 0, .ref q15, .long 0, .int 0, .null, .null, .int 0, .int 0])) b = f b := fun b hb hb0 => (va_up_ne f_29 (.inr (9, [.ref q1, .ref q2, .ref q3, .ref q4, .ref q5, .int 0, .ref q6, .int 0, .int 0, .ref q7, .int 0, .ref q8, .ref q9, .int 0, .ref q10, .ref q11, .ref q12, .int 0, .ref q13, .int 0, .int 0, .int 0, .ref q14, .int 0, .ref q15, .long 0, .int 0, .null, .null, .int 0, .int 0])) hb0).trans (hk b hb hb0)
  have at0 := AT.put (e := (.inr (9, [.ref q1, .ref q2, .ref q3, .ref q4, .ref q5, .int 0, .ref q6, .int 0, .int 0, .ref q7, .int 0, .ref q8, .ref q9, .int 0, .ref q10, .ref q11, .ref q12, .int 0, .ref q13, .int 0, .int 0, .int 0, .ref q14, .int 0, .ref q15, .long 0, .int 0, .null, .null, .int 0, .int 0]))) at0 ne0
  have at1 := AT.put (e := (.inr (9, [.ref q1, .ref q2, .ref q3, .ref q4, .ref q5, .int 0, .ref q6, .int 0, .int 0, .ref q7, .int 0, .ref q8, .ref q9, .int 0, .ref q10, .ref q11, .ref q12, .int 0, .ref q13, .int 0, .int 0, .int 0, .ref q14, .int 0, .ref q15, .long 0, .int 0, .null, .null, .int 0, .int 0]))) at1 ne1
  have at2 := AT.put (e := (.inr (9, [.ref q1, .ref q2, .ref q3, .ref q4, .ref q5, .int 0, .ref q6, .int 0, .int 0, .ref q7, .int 0, .ref q8, .ref q9, .int 0, .ref q10, .ref q11, .ref q12, .int 0, .ref q13, .int 0, .int 0, .int 0, .ref q14, .int 0, .ref q15, .long 0, .int 0, .null, .null, .int 0, .int 0]))) at2 ne2
  have at3 := AT.put (e := (.inr (9, [.ref q1, .ref q2, .ref q3, .ref q4, .ref q5, .int 0, .ref q6, .int 0, .int 0, .ref q7, .int 0, .ref q8, .ref q9, .int 0, .ref q10, .ref q11, .ref q12, .int 0, .ref q13, .int 0, .int 0, .int 0, .ref q14, .int 0, .ref q15, .long 0, .int 0, .null, .null, .int 0, .int 0]))) at3 ne3
  have at4 := AT.put (e := (.inr (9, [.ref q1, .ref q2, .ref q3, .ref q4, .ref q5, .int 0, .ref q6, .int 0, .int 0, .ref q7, .int 0, .ref q8, .ref q9, .int 0, .ref q10, .ref q11, .ref q12, .int 0, .ref q13, .int 0, .int 0, .int 0, .ref q14, .int 0, .ref q15, .long 0, .int 0, .null, .null, .int 0, .int 0]))) at4 ne4
  have at5 := AT.put (e := (.inr (9, [.ref q1, .ref q2, .ref q3, .ref q4, .ref q5, .int 0, .ref q6, .int 0, .int 0, .ref q7, .int 0, .ref q8, .ref q9, .int 0, .ref q10, .ref q11, .ref q12, .int 0, .ref q13, .int 0, .int 0, .int 0, .ref q14, .int 0, .ref q15, .long 0, .int 0, .null, .null, .int 0, .int 0]))) at5 ne5
  have at6 := AT.put (e := (.inr (9, [.ref q1, .ref q2, .ref q3, .ref q4, .ref q5, .int 0, .ref q6, .int 0, .int 0, .ref q7, .int 0, .ref q8, .ref q9, .int 0, .ref q10, .ref q11, .ref q12, .int 0, .ref q13, .int 0, .int 0, .int 0, .ref q14, .int 0, .ref q15, .long 0, .int 0, .null, .null, .int 0, .int 0]))) at6 ne6
  have at7 := AT.put (e := (.inr (9, [.ref q1, .ref q2, .ref q3, .ref q4, .ref q5, .int 0, .ref q6, .int 0, .int 0, .ref q7, .int 0, .ref q8, .ref q9, .int 0, .ref q10, .ref q11, .ref q12, .int 0, .ref q13, .int 0, .int 0, .int 0, .ref q14, .int 0, .ref q15, .long 0, .int 0, .null, .null, .int 0, .int 0]))) at7 ne7
  have at8 := AT.put (e := (.inr (9, [.ref q1, .ref q2, .ref q3, .ref q4, .ref q5, .int 0, .ref q6, .int 0, .int 0, .ref q7, .int 0, .ref q8, .ref q9, .int 0, .ref q10, .ref q11, .ref q12, .int 0, .ref q13, .int 0, .int 0, .int 0, .ref q14, .int 0, .ref q15, .long 0, .int 0, .null, .null, .int 0, .int 0]))) at8 ne8
  have at9 := AT.put (e := (.inr (9, [.ref q1, .ref q2, .ref q3, .ref q4, .ref q5, .int 0, .ref q6, .int 0, .int 0, .ref q7, .int 0, .ref q8, .ref q9, .int 0, .ref q10, .ref q11, .ref q12, .int 0, .ref q13, .int 0, .int 0, .int 0, .ref q14, .int 0, .ref q15, .long 0, .int 0, .null, .null, .int 0, .int 0]))) at9 ne9
  have at10 := AT.put (e := (.inr (9, [.ref q1, .ref q2, .ref q3, .ref q4, .ref q5, .int 0, .ref q6, .int 0, .int 0, .ref q7, .int 0, .ref q8, .ref q9, .int 0, .ref q10, .ref q11, .ref q12, .int 0, .ref q13, .int 0, .int 0, .int 0, .ref q14, .int 0, .ref q15, .long 0, .int 0, .null, .null, .int 0, .int 0]))) at10 ne10
  have at11 := AT.put (e := (.inr (9, [.ref q1, .ref q2, .ref q3, .ref q4, .ref q5, .int 0, .ref q6, .int 0, .int 0, .ref q7, .int 0, .ref q8, .ref q9, .int 0, .ref q10, .ref q11, .ref q12, .int 0, .ref q13, .int 0, .int 0, .int 0, .ref q14, .int 0, .ref q15, .long 0, .int 0, .null, .null, .int 0, .int 0]))) at11 ne11
  have at12 := AT.put (e := (.inr (9, [.ref q1, .ref q2, .ref q3, .ref q4, .ref q5, .int 0, .ref q6, .int 0, .int 0, .ref q7, .int 0, .ref q8, .ref q9, .int 0, .ref q10, .ref q11, .ref q12, .int 0, .ref q13, .int 0, .int 0, .int 0, .ref q14, .int 0, .ref q15, .long 0, .int 0, .null, .null, .int 0, .int 0]))) at12 ne12
  have at13 := AT.put (e := (.inr (9, [.ref q1, .ref q2, .ref q3, .ref q4, .ref q5, .int 0, .ref q6, .int 0, .int 0, .ref q7, .int 0, .ref q8, .ref q9, .int 0, .ref q10, .ref q11, .ref q12, .int 0, .ref q13, .int 0, .int 0, .int 0, .ref q14, .int 0, .ref q15, .long 0, .int 0, .null, .null, .int 0, .int 0]))) at13 ne13
  have at14 := AT.put (e := (.inr (9, [.ref q1, .ref q2, .ref q3, .ref q4, .ref q5, .int 0, .ref q6, .int 0, .int 0, .ref q7, .int 0, .ref q8, .ref q9, .int 0, .ref q10, .ref q11, .ref q12, .int 0, .ref q13, .int 0, .int 0, .int 0, .ref q14, .int 0, .ref q15, .long 0, .int 0, .null, .null, .int 0, .int 0]))) at14 ne14
  show NJ _ _ _ _ _ _ _ _ (va_up f_29 h0 (.inr (9, [.ref q1, .ref q2, .ref q3, .ref q4, .ref q5, .int 0, .ref q6, .int 0, .int 0, .ref q7, .int 0, .ref q8, .ref q9, .int 0, .ref q10, .ref q11, .ref q12, .int 0, .ref q13, .int 0, .int 0, .int 0, .ref q14, .int 0, .ref q15, .long 0, .int 0, .null, .null, .int 0, .int 0]))) _ _ _
  generalize va_up f_29 h0 (.inr (9, [.ref q1, .ref q2, .ref q3, .ref q4, .ref q5, .int 0, .ref q6, .int 0, .int 0, .ref q7, .int 0, .ref q8, .ref q9, .int 0, .ref q10, .ref q11, .ref q12, .int 0, .ref q13, .int 0, .int 0, .int 0, .ref q14, .int 0, .ref q15, .long 0, .int 0, .null, .null, .int 0, .int 0])) = f_30 at hf0 hk at0 at1 at2 at3 at4 at5 at6 at7 at8 at9 at10 at11 at12 at13 at14 ⊢
  refine n_aload_n C 0 rfl dX11_init_131 rfl ?_
  refine n_sipush C (v := 1360) (by decide) dX11_init_132 ?_
  refine n_newai C (N := 1360) wd_114 (by decide) (by decide) (Nat.le_of_ble_eq_true rfl) (Nat.le_of_ble_eq_true rfl) (Nat.le_of_ble_eq_true rfl) dX11_init_135 (fun q16 hq16 => ?_)
  have h0q16 : h0 ≠ q16 := fun z => hq16 (z ▸ hm)
  have hf0 := (va_up_ne f_30 (.inl (T 0, 1360, .inl fun _ => 0)) h0q16).trans hf0
  have hk : ∀ b, b ∈ L → b ≠ h0 → va_up f_30 q16 (.inl (T 0, 1360, .inl fun _ => 0)) b = f b := fun b hb hb0 => (va_up_ne f_30 (.inl (T 0, 1360, .inl fun _ => 0)) (fun z : b = q16 => hq16 (z ▸ (List.mem_append_left _ (List.mem_append_left _ (List.mem_append_left _ (List.mem_append_left _ (List.mem_append_left _ (List.mem_append_left _ (List.mem_append_left _ (List.mem_append_left _ (List.mem_append_left _ (List.mem_append_left _ (List.mem_append_left _ (List.mem_append_left _ (List.mem_append_left _ (List.mem_append_left _ (List.mem_append_left _ (hb))))))))))))))))))).trans (hk b hb hb0)
  have hfq := va_up_self f_30 q16 (.inl (T 0, 1360, .inl fun _ => 0))
  have at0 := AT.fresh (e := (.inl (T 0, 1360, .inl fun _ => 0))) at0 hq16
  have at1 := AT.fresh (e := (.inl (T 0, 1360, .inl fun _ => 0))) at1 hq16
  have at2 := AT.fresh (e := (.inl (T 0, 1360, .inl fun _ => 0))) at2 hq16
  have at3 := AT.fresh (e := (.inl (T 0, 1360, .inl fun _ => 0))) at3 hq16
  have at4 := AT.fresh (e := (.inl (T 0, 1360, .inl fun _ => 0))) at4 hq16
  have at5 := AT.fresh (e := (.inl (T 0, 1360, .inl fun _ => 0))) at5 hq16
  have at6 := AT.fresh (e := (.inl (T 0, 1360, .inl fun _ => 0))) at6 hq16
  have at7 := AT.fresh (e := (.inl (T 0, 1360, .inl fun _ => 0))) at7 hq16
  have at8 := AT.fresh (e := (.inl (T 0, 1360, .inl fun _ => 0))) at8 hq16
  have at9 := AT.fresh (e := (.inl (T 0, 1360, .inl fun _ => 0))) at9 hq16
  have at10 := AT.fresh (e := (.inl (T 0, 1360, .inl fun _ => 0))) at10 hq16
  have at11 := AT.fresh (e := (.inl (T 0, 1360, .inl fun _ => 0))) at11 hq16
  have at12 := AT.fresh (e := (.inl (T 0, 1360, .inl fun _ => 0))) at12 hq16
  have at13 := AT.fresh (e := (.inl (T 0, 1360, .inl fun _ => 0))) at13 hq16
  have at14 := AT.fresh (e := (.inl (T 0, 1360, .inl fun _ => 0))) at14 hq16
  have hm := List.mem_append_left [q16] hm
  have hmq : q16 ∈ (((((((((((((((L ++ [q1]) ++ [q2]) ++ [q3]) ++ [q4]) ++ [q5]) ++ [q6]) ++ [q7]) ++ [q8]) ++ [q9]) ++ [q10]) ++ [q11]) ++ [q12]) ++ [q13]) ++ [q14]) ++ [q15]) ++ [q16] := List.mem_append_right _ (List.mem_singleton.mpr rfl)
  generalize va_up f_30 q16 (.inl (T 0, 1360, .inl fun _ => 0)) = f_31 at hf0 hk hfq at0 at1 at2 at3 at4 at5 at6 at7 at8 at9 at10 at11 at12 at13 at14 ⊢
  have at15 : AT T ((((((((((((((((L ++ [q1]) ++ [q2]) ++ [q3]) ++ [q4]) ++ [q5]) ++ [q6]) ++ [q7]) ++ [q8]) ++ [q9]) ++ [q10]) ++ [q11]) ++ [q12]) ++ [q13]) ++ [q14]) ++ [q15]) ++ [q16]) f_31 q16 (16) [] prT [] := AT.arr0 (len := 1360) hmq hfq (by decide +kernel)
  have ne15 : h0 ≠ q16 ∧ h0 ∉ ([] : List Nat) := ⟨h0q16, List.not_mem_nil⟩
  refine n_putF C hnm ff_X11_56 hm hf0 (Nat.le_of_ble_eq_true rfl) rfl rfl dX11_init_137 ?_
  have hf0 := va_up_self f_31 h0 (.inr (9, [.ref q1, .ref q2, .ref q3, .ref q4, .ref q5, .int 0, .ref q6, .int 0, .int 0, .ref q7, .int 0, .ref q8, .ref q9, .int 0, .ref q10, .ref q11, .ref q12, .int 0, .ref q13, .int 0, .int 0, .int 0, .ref q14, .int 0, .ref q15, .long 0, .int 0, .ref q16, .null, .int 0, .int 0]))
  have hk : ∀ b, b ∈ L → b ≠ h0 → va_up f_31 h0 (.inr (9, [.ref q1, .ref q2, .ref q3, .ref q4, .ref q5, .int 0, .ref q6, .int 0, .int 0, .ref q7, .int 0, .ref q8, .ref q9, .int 0, .ref q10, .ref q11, .ref q12, .int 0, .ref q13, .int 0, .int 0, .int 0, .ref q14, .int 0, .ref q15, .long 0, .int 0, .ref q16, .null, .int 0, .int 0])) b = f b := fun b hb hb0 => (va_up_ne f_31 (.inr (9, [.ref q1, .ref q2, .ref q3, .ref q4, .ref q5, .int 0, .ref q6, .int 0, .int 0, .ref q7, .int 0, .ref q8, .ref q9, .int 0, .ref q10, .ref q11, .ref q12, .int 0, .ref q13, .int 0, .int 0, .int 0, .ref q14, .int 0, .ref q15, .long 0, .int 0, .ref q16, .null, .int 0, .int 0])) hb0).trans (hk b hb hb0)
  have at0 := AT.put (e := (.inr (9, [.ref q1, .ref q2, .ref q3, .ref q4, .ref q5, .int 0, .ref q6, .int 0, .int 0, .ref q7, .int 0, .ref q8, .ref q9, .int 0, .ref q10, .ref q11, .ref q12, .int 0, .ref q13, .int 0, .int 0, .int 0, .ref q14, .int 0, .ref q15, .long 0, .int 0, .ref q16, .null, .int 0, .int 0]))) at0 ne0
  have at1 := AT.put (e := (.inr (9, [.ref q1, .ref q2, .ref q3, .ref q4, .ref q5, .int 0, .ref q6, .int 0, .int 0, .ref q7, .int 0, .ref q8, .ref q9, .int 0, .ref q10, .ref q11, .ref q12, .int 0, .ref q13, .int 0, .int 0, .int 0, .ref q14, .int 0, .ref q15, .long 0, .int 0, .ref q16, .null, .int 0, .int 0]))) at1 ne1
  have at2 := AT.put (e := (.inr (9, [.ref q1, .ref q2, .ref q3, .ref q4, .ref q5, .int 0, .ref q6, .int 0, .int 0, .ref q7, .int 0, .ref q8, .ref q9, .int 0, .ref q10, .ref q11, .ref q12, .int 0, .ref q13, .int 0, .int 0, .int 0, .ref q14, .int 0, .ref q15, .long 0, .int 0, .ref q16, .null, .int 0, .int 0]))) at2 ne2
  have at3 := AT.put (e := (.inr (9, [.ref q1, .ref q2, .ref q3, .ref q4, .ref q5, .int 0, .ref q6, .int 0, .int 0, .ref q7, .int 0, .ref q8, .ref q9, .int 0, .ref q10, .ref q11, .ref q12, .int 0, .ref q13, .int 0, .int 0, .int 0, .ref q14, .int 0, .ref q15, .long 0, .int 0, .ref q16, .null, .int 0, .int 0]))) at3 ne3
  have at4 := AT.put (e := (.inr (9, [.ref q1, .ref q2, .ref q3, .ref q4, .ref q5, .int 0, .ref q6, .int 0, .int 0, .ref q7, .int 0, .ref q8, .ref q9, .int 0, .ref q10, .ref q11, .ref q12, .int 0, .ref q13, .int 0, .int 0, .int 0, .ref q14, .int 0, .ref q15, .long 0, .int 0, .ref q16, .null, .int 0, .int 0]))) at4 ne4
  have at5 := AT.put (e := (.inr (9, [.ref q1, .ref q2, .ref q3, .ref q4, .ref q5, .int 0, .ref q6, .int 0, .int 0, .ref q7, .int 0, .ref q8, .ref q9, .int 0, .ref q10, .ref q11, .ref q12, .int 0, .ref q13, .int 0, .int 0, .int 0, .ref q14, .int 0, .ref q15, .long 0, .int 0, .ref q16, .null, .int 0, .int 0]))) at5 ne5
  have at6 := AT.put (e := (.inr (9, [.ref q1, .ref q2, .ref q3, .ref q4, .ref q5, .int 0, .ref q6, .int 0, .int 0, .ref q7, .int 0, .ref q8, .ref q9, .int 0, .ref q10, .ref q11, .ref q12, .int 0, .ref q13, .int 0, .int 0, .int 0, .ref q14, .int 0, .ref q15, .long 0, .int 0, .ref q16, .null, .int 0, .int 0]))) at6 ne6
  have at7 := AT.put (e := (.inr (9, [.ref q1, .ref q2, .ref q3, .ref q4, .ref q5, .int 0, .ref q6, .int 0, .int 0, .ref q7, .int 0, .ref q8, .ref q9, .int 0, .ref q10, .ref q11, .ref q12, .int 0, .ref q13, .int 0, .int 0, .int 0, .ref q14, .int 0, .ref q15, .long 0, .int 0, .ref q16, .null, .int 0, .int 0]))) at7 ne7
  have at8 := AT.put (e := (.inr (9, [.ref q1, .ref q2, .ref q3, .ref q4, .ref q5, .int 0, .ref q6, .int 0, .int 0, .ref q7, .int 0, .ref q8, .ref q9, .int 0, .ref q10, .ref q11, .ref q12, .int 0, .ref q13, .int 0, .int 0, .int 0, .ref q14, .int 0, .ref q15, .long 0, .int 0, .ref q16, .null, .int 0, .int 0]))) at8 ne8
  have at9 := AT.put (e := (.inr (9, [.ref q1, .ref q2, .ref q3, .ref q4, .ref q5, .int 0, .ref q6, .int 0, .int 0, .ref q7, .int 0, .ref q8, .ref q9, .int 0, .ref q10, .ref q11, .ref q12, .int 0, .ref q13, .int 0, .int 0, .int 0, .ref q14, .int 0, .ref q15, .long 0, .int 0, .ref q16, .null, .int 0, .int 0]))) at9 ne9
  have at10 := AT.put (e := (.inr (9, [.ref q1, .ref q2, .ref q3, .ref q4, .ref q5, .int 0, .ref q6, .int 0, .int 0, .ref q7, .int 0, .ref q8, .ref q9, .int 0, .ref q10, .ref q11, .ref q12, .int 0, .ref q13, .int 0, .int 0, .int 0, .ref q14, .int 0, .ref q15, .long 0, .int 0, .ref q16, .null, .int 0, .int 0]))) at10 ne10
  have at11 := AT.put (e := (.inr (9, [.ref q1, .ref q2, .ref q3, .ref q4, .ref q5, .int 0, .ref q6, .int 0, .int 0, .ref q7, .int 0, .ref q8, .ref q9, .int 0, .ref q10, .ref q11, .ref q12, .int 0, .ref q13, .int 0, .int 0, .int 0, .ref q14, .int 0, .ref q15, .long 0, .int 0, .ref q16, .null, .int 0, .int 0]))) at11 ne11
  have at12 := AT.put (e := (.inr (9, [.ref q1, .ref q2, .ref q3, .ref q4, .ref q5, .int 0, .ref q6, .int 0, .int 0, .ref q7, .int 0, .ref q8, .ref q9, .int 0, .ref q10, .ref q11, .ref q12, .int 0, .ref q13, .int 0, .int 0, .int 0, .ref q14, .int 0, .ref q15, .long 0, .int 0, .ref q16, .null, .int 0, .int 0]))) at12 ne12
  have at13 := AT.put (e := (.inr (9, [.ref q1, .ref q2, .ref q3, .ref q4, .ref q5, .int 0, .ref q6, .int 0, .int 0, .ref q7, .int 0, .ref q8, .ref q9, .int 0, .ref q10, .ref q11, .ref q12, .int 0, .ref q13, .int 0, .int 0, .int 0, .ref q14, .int 0, .ref q15, .long 0, .int 0, .ref q16, .null, .int 0, .int 0]))) at13 ne13
  have at14 := AT.put (e := (.inr (9, [.ref q1, .ref q2, .ref q3, .ref q4, .ref q5, .int 0, .ref q6, .int 0, .int 0, .ref q7, .int 0, .ref q8, .ref q9, .int 0, .ref q10, .ref q11, .ref q12, .int 0, .ref q13, .int 0, .int 0, .int 0, .ref q14, .int 0, .ref q15, .long 0, .int 0, .ref q16, .null, .int 0, .int 0]))) at14 ne14
  have at15 := AT.put (e := (.inr (9, [.ref q1, .ref q2, .ref q3, .ref q4, .ref q5, .int 0, .ref q6, .int 0, .int 0, .ref q7, .int 0, .ref q8, .ref q9, .int 0, .ref q10, .ref q11, .ref q12, .int 0, .ref q13, .int 0, .int 0, .int 0, .ref q14, .int 0, .ref q15, .long 0, .int 0, .ref q16, .null, .int 0, .int 0]))) at15 ne15
  show NJ _ _ _ _ _ _ _ _ (va_up f_31 h0 (.inr (9, [.ref q1, .ref q2, .ref q3, .ref q4, .ref q5, .int 0, .ref q6, .int 0, .int 0, .ref q7, .int 0, .ref q8, .ref q9, .int 0, .ref q10, .ref q11, .ref q12, .int 0, .ref q13, .int 0, .int 0, .int 0, .ref q14, .int 0, .ref q15, .long 0, .int 0, .ref q16, .null, .int 0, .int 0]))) _ _ _
  generalize va_up f_31 h0 (.inr (9, [.ref q1, .ref q2, .ref q3, .ref q4, .ref q5, .int 0, .ref q6, .int 0, .int 0, .ref q7, .int 0, .ref q8, .ref q9, .int 0, .ref q10, .ref q11, .ref q12, .int 0, .ref q13, .int 0, .int 0, .int 0, .ref q14, .int 0, .ref q15, .long 0, .int 0, .ref q16, .null, .int 0, .int 0])) = f_32 at hf0 hk at0 at1 at2 at3 at4 at5 at6 at7 at8 at9 at10 at11 at12 at13 at14 at15 ⊢
  refine n_aload_n C 0 rfl dX11_init_140 rfl ?_
  refine n_iconst C (v := 2) (by decide) dX11_init_141 ?_
  refine n_newaz C (N := 2) wd_825 (by decide) (by decide) (Nat.le_of_ble_eq_true rfl) (Nat.le_of_ble_eq_true rfl) (Nat.le_of_ble_eq_true rfl) dX11_init_142 (fun q17 hq17 => ?_)
  have h0q17 : h0 ≠ q17 := fun z => hq17 (z ▸ hm)
  have hf0 := (va_up_ne f_32 (.inl (T 1, 2, .inl fun _ => 0)) h0q17).trans hf0
  have hk : ∀ b, b ∈ L → b ≠ h0 → va_up f_32 q17 (.inl (T 1, 2, .inl fun _ => 0)) b = f b := fun b hb hb0 => (va_up_ne f_32 (.inl (T 1, 2, .inl fun _ => 0)) (fun z : b = q17 => hq17 (z ▸ (List.mem_append_left _ (List.mem_append_left _ (List.mem_append_left _ (List.mem_append_left _ (List.mem_append_left _ (List.mem_append_left _ (List.mem_append_left _ (List.mem_append_left _ (List.mem_append_left _ (List.mem_append_left _ (List.mem_append_left _ (List.mem_append_left _ (List.mem_append_left _ (List.mem_append_left _ (List.mem_append_left _ (List.mem_append_left _ (hb)))))))))))))))))))).trans (hk b hb hb0)
  have hfq := va_up_self f_32 q17 (.inl (T 1, 2, .inl fun _ => 0))
  have at0 := AT.fresh (e := (.inl (T 1, 2, .inl fun _ => 0))) at0 hq17
  have at1 := AT.fresh (e := (.inl (T 1, 2, .inl fun _ => 0))) at1 hq17
  have at2 := AT.fresh (e := (.inl (T 1, 2, .inl fun _ => 0))) at2 hq17
  have at3 := AT.fresh (e := (.inl (T 1, 2, .inl fun _ => 0))) at3 hq17
  have at4 := AT.fresh (e := (.inl (T 1, 2, .inl fun _ => 0))) at4 hq17
  have at5 := AT.fresh (e := (.inl (T 1, 2, .inl fun _ => 0))) at5 hq17
  have at6 := AT.fresh (e := (.inl (T 1, 2, .inl fun _ => 0))) at6 hq17
  have at7 := AT.fresh (e := (.inl (T 1, 2, .inl fun _ => 0))) at7 hq17
  have at8 := AT.fresh (e := (.inl (T 1, 2, .inl fun _ => 0))) at8 hq17
  have at9 := AT.fresh (e := (.inl (T 1, 2, .inl fun _ => 0))) at9 hq17
  have at10 := AT.fresh (e := (.inl (T 1, 2, .inl fun _ => 0))) at10 hq17
  have at11 := AT.fresh (e := (.inl (T 1, 2, .inl fun _ => 0))) at11 hq17
  have at12 := AT.fresh (e := (.inl (T 1, 2, .inl fun _ => 0))) at12 hq17
  have at13 := AT.fresh (e := (.inl (T 1, 2, .inl fun _ => 0))) at13 hq17
  have at14 := AT.fresh (e := (.inl (T 1, 2, .inl fun _ => 0))) at14 hq17
  have at15 := AT.fresh (e := (.inl (T 1, 2, .inl fun _ => 0))) at15 hq17
  have hm := List.mem_append_left [q17] hm
  have hmq : q17 ∈ ((((((((((((((((L ++ [q1]) ++ [q2]) ++ [q3]) ++ [q4]) ++ [q5]) ++ [q6]) ++ [q7]) ++ [q8]) ++ [q9]) ++ [q10]) ++ [q11]) ++ [q12]) ++ [q13]) ++ [q14]) ++ [q15]) ++ [q16]) ++ [q17] := List.mem_append_right _ (List.mem_singleton.mpr rfl)
  generalize va_up f_32 q17 (.inl (T 1, 2, .inl fun _ => 0)) = f_33 at hf0 hk hfq at0 at1 at2 at3 at4 at5 at6 at7 at8 at9 at10 at11 at12 at13 at14 at15 ⊢
  have at16 : AT T (((((((((((((((((L ++ [q1]) ++ [q2]) ++ [q3]) ++ [q4]) ++ [q5]) ++ [q6]) ++ [q7]) ++ [q8]) ++ [q9]) ++ [q10]) ++ [q11]) ++ [q12]) ++ [q13]) ++ [q14]) ++ [q15]) ++ [q16]) ++ [q17]) f_33 q17 (17) [] prT [] := AT.arr1 (len := 2) hmq hfq (by decide +kernel)
  have ne16 : h0 ≠ q17 ∧ h0 ∉ ([] : List Nat) := ⟨h0q17, List.not_mem_nil⟩
  refine n_putF C hnm ff_X11_59 hm hf0 (Nat.le_of_ble_eq_true rfl) rfl rfl dX11_init_144 ?_
  have hf0 := va_up_self f_33 h0 (.inr (9, [.ref q1, .ref q2, .ref q3, .ref q4, .ref q5, .int 0, .ref q6, .int 0, .int 0, .ref q7, .int 0, .ref q8, .ref q9, .int 0, .ref q10, .ref q11, .ref q12, .int 0, .ref q13, .int 0, .int 0, .int 0, .ref q14, .int 0, .ref q15, .long 0, .int 0, .ref q16, .ref q17, .int 0, .int 0]))
  have hk : ∀ b, b ∈ L → b ≠ h0 → va_up f_33 h0 (.inr (9, [.ref q1, .ref q2, .ref q3, .ref q4, .ref q5, .int 0, .ref q6, .int 0, .int 0, .ref q7, .int 0, .ref q8, .ref q9, .int 0, .ref q10, .ref q11, .ref q12, .int 0, .ref q13, .int 0, .int 0, .int 0, .ref q14, .int 0, .ref q15, .long 0, .int 0, .ref q16, .ref q17, .int 0, .int 0])) b = f b := fun b hb hb0 => (va_up_ne f_33 (.inr (9, [.ref q1, .ref q2, .ref q3, .ref q4, .ref q5, .int 0, .ref q6, .int 0, .int 0, .ref q7, .int 0, .ref q8, .ref q9, .int 0, .ref q10, .ref q11, .ref q12, .int 0, .ref q13, .int 0, .int 0, .int 0, .ref q14, .int 0, .ref q15, .long 0, .int 0, .ref q16, .ref q17, .int 0, .int 0])) hb0).trans (hk b hb hb0)
  have at0 := AT.put (e := (.inr (9, [.ref q1, .ref q2, .ref q3, .ref q4, .ref q5, .int 0, .ref q6, .int 0, .int 0, .ref q7, .int 0, .ref q8, .ref q9, .int 0, .ref q10, .ref q11, .ref q12, .int 0, .ref q13, .int 0, .int 0, .int 0, .ref q14, .int 0, .ref q15, .long 0, .int 0, .ref q16, .ref q17, .int 0, .int 0]))) at0 ne0
  have at1 := AT.put (e := (.inr (9, [.ref q1, .ref q2, .ref q3, .ref q4, .ref q5, .int 0, .ref q6, .int 0, .int 0, .ref q7, .int 0, .ref q8, .ref q9, .int 0, .ref q10, .ref q11, .ref q12, .int 0, .ref q13, .int 0, .int 0, .int 0, .ref q14, .int 0, .ref q15, .long 0, .int 0, .ref q16, .ref q17, .int 0, .int 0]))) at1 ne1
  have at2 := AT.put (e := (.inr (9, [.ref q1, .ref q2, .ref q3, .ref q4, .ref q5, .int 0, .ref q6, .int 0, .int 0, .ref q7, .int 0, .ref q8, .ref q9, .int 0, .ref q10, .ref q11, .ref q12, .int 0, .ref q13, .int 0, .int 0, .int 0, .ref q14, .int 0, .ref q15, .long 0, .int 0, .ref q16, .ref q17, .int 0, .int 0]))) at2 ne2
  have at3 := AT.put (e := (.inr (9, [.ref q1, .ref q2, .ref q3, .ref q4, .ref q5, .int 0, .ref q6, .int 0, .int 0, .ref q7, .int 0, .ref q8, .ref q9, .int 0, .ref q10, .ref q11, .ref q12, .int 0, .ref q13, .int 0, .int 0, .int 0, .ref q14, .int 0, .ref q15, .long 0, .int 0, .ref q16, .ref q17, .int 0, .int 0]))) at3 ne3
  have at4 := AT.put (e := (.inr (9, [.ref q1, .ref q2, .ref q3, .ref q4, .ref q5, .int 0, .ref q6, .int 0, .int 0, .ref q7, .int 0, .ref q8, .ref q9, .int 0, .ref q10, .ref q11, .ref q12, .int 0, .ref q13, .int 0, .int 0, .int 0, .ref q14, .int 0, .ref q15, .long 0, .int 0, .ref q16, .ref q17, .int 0, .int 0]))) at4 ne4
  have at5 := AT.put (e := (.inr (9, [.ref q1, .ref q2, .ref q3, .ref q4, .ref q5, .int 0, .ref q6, .int 0, .int 0, .ref q7, .int 0, .ref q8, .ref q9, .int 0, .ref q10, .ref q11, .ref q12, .int 0, .ref q13, .int 0, .int 0, .int 0, .ref q14, .int 0, .ref q15, .long 0, .int 0, .ref q16, .ref q17, .int 0, .int 0]))) at5 ne5
  have at6 := AT.put (e := (.inr (9, [.ref q1, .ref q2, .ref q3, .ref q4, .ref q5, .int 0, .ref q6, .int 0, .int 0, .ref q7, .int 0, .ref q8, .ref q9, .int 0, .ref q10, .ref q11, .ref q12, .int 0, .ref q13, .int 0, .int 0, .int 0, .ref q14, .int 0, .ref q15, .long 0, .int 0, .ref q16, .ref q17, .int 0, .int 0]))) at6 ne6
  have at7 := AT.put (e := (.inr (9, [.ref q1, .ref q2, .ref q3, .ref q4, .ref q5, .int 0, .ref q6, .int 0, .int 0, .ref q7, .int 0, .ref q8, .ref q9, .int 0, .ref q10, .ref q11, .ref q12, .int 0, .ref q13, .int 0, .int 0, .int 0, .ref q14, .int 0, .ref q15, .long 0, .int 0, .ref q16, .ref q17, .int 0, .int 0]))) at7 ne7
  have at8 := AT.put (e := (.inr (9, [.ref q1, .ref q2, .ref q3, .ref q4, .ref q5, .int 0, .ref q6, .int 0, .int 0, .ref q7, .int 0, .ref q8, .ref q9, .int 0, .ref q10, .ref q11, .ref q12, .int 0, .ref q13, .int 0, .int 0, .int 0, .ref q14, .int 0, .ref q15, .long 0, .int 0, .ref q16, .ref q17, .int 0, .int 0]))) at8 ne8
  have at9 := AT.put (e := (.inr (9, [.ref q1, .ref q2, .ref q3, .ref q4, .ref q5, .int 0, .ref q6, .int 0, .int 0, .ref q7, .int 0, .ref q8, .ref q9, .int 0, .ref q10, .ref q11, .ref q12, .int 0, .ref q13, .int 0, .int 0, .int 0, .ref q14, .int 0, .ref q15, .long 0, .int 0, .ref q16, .ref q17, .int 0, .int 0]))) at9 ne9
  have at10 := AT.put (e := (.inr (9, [.ref q1, .ref q2, .ref q3, .ref q4, .ref q5, .int 0, .ref q6, .int 0, .int 0, .ref q7, .int 0, .ref q8, .ref q9, .int 0, .ref q10, .ref q11, .ref q12, .int 0, .ref q13, .int 0, .int 0, .int 0, .ref q14, .int 0, .ref q15, .long 0, .int 0, .ref q16, .ref q17, .int 0, .int 0]))) at10 ne10
  have at11 := AT.put (e := (.inr (9, [.ref q1, .ref q2, .ref q3, .ref q4, .ref q5, .int 0, .ref q6, .int 0, .int 0, .ref q7, .int 0, .ref q8, .ref q9, .int 0, .ref q10, .ref q11, .ref q12, .int 0, .ref q13, .int 0, .int 0, .int 0, .ref q14, .int 0, .ref q15, .long 0, .int 0, .ref q16, .ref q17, .int 0, .int 0]))) at11 ne11
  have at12 := AT.put (e := (.inr (9, [.ref q1, .ref q2, .ref q3, .ref q4, .ref q5, .int 0, .ref q6, .int 0, .int 0, .ref q7, .int 0, .ref q8, .ref q9, .int 0, .ref q10, .ref q11, .ref q12, .int 0, .ref q13, .int 0, .int 0, .int 0, .ref q14, .int 0, .ref q15, .long 0, .int 0, .ref q16, .ref q17, .int 0, .int 0]))) at12 ne12
  have at13 := AT.put (e := (.inr (9, [.ref q1, .ref q2, .ref q3, .ref q4, .ref q5, .int 0, .ref q6, .int 0, .int 0, .ref q7, .int 0, .ref q8, .ref q9, .int 0, .ref q10, .ref q11, .ref q12, .int 0, .ref q13, .int 0, .int 0, .int 0, .ref q14, .int 0, .ref q15, .long 0, .int 0, .ref q16, .ref q17, .int 0, .int 0]))) at13 ne13
  have at14 := AT.put (e := (.inr (9, [.ref q1, .ref q2, .ref q3, .ref q4, .ref q5, .int 0, .ref q6, .int 0, .int 0, .ref q7, .int 0, .ref q8, .ref q9, .int 0, .ref q10, .ref q11, .ref q12, .int 0, .ref q13, .int 0, .int 0, .int 0, .ref q14, .int 0, .ref q15, .long 0, .int 0, .ref q16, .ref q17, .int 0, .int 0]))) at14 ne14
  have at15 := AT.put (e := (.inr (9, [.ref q1, .ref q2, .ref q3, .ref q4, .ref q5, .int 0, .ref q6, .int 0, .int 0, .ref q7, .int 0, .ref q8, .ref q9, .int 0, .ref q10, .ref q11, .ref q12, .int 0, .ref q13, .int 0, .int 0, .int 0, .ref q14, .int 0, .ref q15, .long 0, .int 0, .ref q16, .ref q17, .int 0, .int 0]))) at15 ne15
  have at16 := AT.put (e := (.inr (9, [.ref q1, .ref q2, .ref q3, .ref q4, .ref q5, .int 0, .ref q6, .int 0, .int 0, .ref q7, .int 0, .ref q8, .ref q9, .int 0, .ref q10, .ref q11, .ref q12, .int 0, .ref q13, .int 0, .int 0, .int 0, .ref q14, .int 0, .ref q15, .long 0, .int 0, .ref q16, .ref q17, .int 0, .int 0]))) at16 ne16
  show NJ _ _ _ _ _ _ _ _ (va_up f_33 h0 (.inr (9, [.ref q1, .ref q2, .ref q3, .ref q4, .ref q5, .int 0, .ref q6, .int 0, .int 0, .ref q7, .int 0, .ref q8, .ref q9, .int 0, .ref q10, .ref q11, .ref q12, .int 0, .ref q13, .int 0, .int 0, .int 0, .ref q14, .int 0, .ref q15, .long 0, .int 0, .ref q16, .ref q17, .int 0, .int 0]))) _ _ _
  generalize va_up f_33 h0 (.inr (9, [.ref q1, .ref q2, .ref q3, .ref q4, .ref q5, .int 0, .ref q6, .int 0, .int 0, .ref q7, .int 0, .ref q8, .ref q9, .int 0, .ref q10, .ref q11, .ref q12, .int 0, .ref q13, .int 0, .int 0, .int 0, .ref q14, .int 0, .ref q15, .long 0, .int 0, .ref q16, .ref q17, .int 0, .int 0])) = f_34 at hf0 hk at0 at1 at2 at3 at4 at5 at6 at7 at8 at9 at10 at11 at12 at13 at14 at15 at16 ⊢
  try simp only [List.append_assoc]
  refine n_vret C hr (ns := [q1] ++ ([q2] ++ ([q3] ++ ([q4] ++ ([q5] ++ ([q6] ++ ([q7] ++ ([q8] ++ ([q9] ++ ([q10] ++ ([q11] ++ ([q12] ++ ([q13] ++ ([q14] ++ ([q15] ++ ([q16] ++ ([q17]))))))))))))))))) ⟨hk, ?_⟩ dX11_init_147
  have eL : (((((((((((((((((L ++ [q1]) ++ [q2]) ++ [q3]) ++ [q4]) ++ [q5]) ++ [q6]) ++ [q7]) ++ [q8]) ++ [q9]) ++ [q10]) ++ [q11]) ++ [q12]) ++ [q13]) ++ [q14]) ++ [q15]) ++ [q16]) ++ [q17]) = L ++ ([q1] ++ ([q2] ++ ([q3] ++ ([q4] ++ ([q5] ++ ([q6] ++ ([q7] ++ ([q8] ++ ([q9] ++ ([q10] ++ ([q11] ++ ([q12] ++ ([q13] ++ ([q14] ++ ([q15] ++ ([q16] ++ ([q17]))))))))))))))))) := by first | rfl | simp only [List.append_assoc]
  refine ⟨?_, eL ▸ hm, fun x hx => List.mem_append_right _ hx, fun g e1 e2 e3 e4 => ?_⟩
  · simp [ndX11]
  unfold ndX11 at e3 ⊢
  rw [List.map_append] at e3
  obtain ⟨u0, e3⟩ := List.append_inj e3 (by rfl)
  rw [List.map_append] at e3
  obtain ⟨u1, e3⟩ := List.append_inj e3 (by rfl)
  rw [List.map_append] at e3
  obtain ⟨u2, e3⟩ := List.append_inj e3 (by rfl)
  rw [List.map_append] at e3
  obtain ⟨u3, e3⟩ := List.append_inj e3 (by rfl)
  rw [List.map_append] at e3
  obtain ⟨u4, e3⟩ := List.append_inj e3 (by rfl)
  rw [List.map_append] at e3
  obtain ⟨u5, e3⟩ := List.append_inj e3 (by rfl)
  rw [List.map_append] at e3
  obtain ⟨u6, e3⟩ := List.append_inj e3 (by rfl)
  rw [List.map_append] at e3
  obtain ⟨u7, e3⟩ := List.append_inj e3 (by rfl)
  rw [List.map_append] at e3
  obtain ⟨u8, e3⟩ := List.append_inj e3 (by rfl)
  rw [List.map_append] at e3
  obtain ⟨u9, e3⟩ := List.append_inj e3 (by rfl)
  rw [List.map_append] at e3
  obtain ⟨u10, e3⟩ := List.append_inj e3 (by rfl)
  rw [List.map_append] at e3
  obtain ⟨u11, e3⟩ := List.append_inj e3 (by rfl)
  rw [List.map_append] at e3
  obtain ⟨u12, e3⟩ := List.append_inj e3 (by rfl)
  rw [List.map_append] at e3
  obtain ⟨u13, e3⟩ := List.append_inj e3 (by rfl)
  rw [List.map_append] at e3
  obtain ⟨u14, e3⟩ := List.append_inj e3 (by rfl)
  rw [List.map_append] at e3
  obtain ⟨u15, e3⟩ := List.append_inj e3 (by rfl)
  have u16 := e3
  have v0 : gad g (1) = q1 := (List.cons.inj u0).1.symm
  have t0 := at0.2.2.2 g e1 v0 rfl trivial
  have v1 : gad g (2) = q2 := (List.cons.inj u1).1.symm
  have t1 := at1.2.2.2 g e1 v1 rfl trivial
  have v2 : gad g (3) = q3 := (List.cons.inj u2).1.symm
  have t2 := at2.2.2.2 g e1 v2 rfl trivial
  have v3 : gad g (4) = q4 := (List.cons.inj u3).1.symm
  have t3 := at3.2.2.2 g e1 v3 rfl trivial
  have v4 : gad g (5) = q5 := (List.cons.inj u4).1.symm
  have t4 := at4.2.2.2 g e1 v4 rfl trivial
  have v5 : gad g (6) = q6 := (List.cons.inj u5).1.symm
  have t5 := at5.2.2.2 g e1 v5 rfl trivial
  have v6 : gad g (7) = q7 := (List.cons.inj u6).1.symm
  have t6 := at6.2.2.2 g e1 v6 rfl trivial
  have v7 : gad g (8) = q8 := (List.cons.inj u7).1.symm
  have t7 := at7.2.2.2 g e1 v7 rfl trivial
  have v8 : gad g (9) = q9 := (List.cons.inj u8).1.symm
  have t8 := at8.2.2.2 g e1 v8 rfl trivial
  have v9 : gad g (10) = q10 := (List.cons.inj u9).1.symm
  have t9 := at9.2.2.2 g e1 v9 rfl trivial
  have v10 : gad g (11) = q11 := (List.cons.inj u10).1.symm
  have t10 := at10.2.2.2 g e1 v10 rfl trivial
  have v11 : gad g (12) = q12 := (List.cons.inj u11).1.symm
  have t11 := at11.2.2.2 g e1 v11 rfl trivial
  have v12 : gad g (13) = q13 := (List.cons.inj u12).1.symm
  have t12 := at12.2.2.2 g e1 v12 rfl trivial
  have v13 : gad g (14) = q14 := (List.cons.inj u13).1.symm
  have t13 := at13.2.2.2 g e1 v13 rfl trivial
  have v14 : gad g (15) = q15 := (List.cons.inj u14).1.symm
  have t14 := at14.2.2.2 g e1 v14 rfl trivial
  have v15 : gad g (16) = q16 := (List.cons.inj u15).1.symm
  have t15 := at15.2.2.2 g e1 v15 rfl trivial
  have v16 : gad g (17) = q17 := (List.cons.inj u16).1.symm
  have t16 := at16.2.2.2 g e1 v16 rfl trivial
  refine ⟨?_, fun n hn => ?_⟩
  · rw [hf0, cell_obj (by decide +kernel : sh 0 = .inr (9, [11, 12, 13, 14, 15, 0, 16, 0, 0, 17, 0, 18, 19, 0, 20, 21, 22, 0, 23, 0, 0, 0, 24, 0, 25, 1, 0, 26, 27, 0, 0])), ← v0, ← v1, ← v2, ← v3, ← v4, ← v5, ← v6, ← v7, ← v8, ← v9, ← v10, ← v11, ← v12, ← v13, ← v14, ← v15, ← v16]
    refine congrArg Sum.inr (congrArg (Prod.mk _) (List.ext_getElem? (fun j => ?_)))
    rw [List.getElem?_mapIdx]
    match j with | 0 => rfl | 1 => rfl | 2 => rfl | 3 => rfl | 4 => rfl | 5 => rfl | 6 => rfl | 7 => rfl | 8 => rfl | 9 => rfl | 10 => rfl | 11 => rfl | 12 => rfl | 13 => rfl | 14 => rfl | 15 => rfl | 16 => rfl | 17 => rfl | 18 => rfl | 19 => rfl | 20 => rfl | 21 => rfl | 22 => rfl | 23 => rfl | 24 => rfl | 25 => rfl | 26 => rfl | 27 => rfl | 28 => rfl | 29 => rfl | 30 => rfl | j + 31 => rfl
  · rcases List.mem_append.mp hn with hn | hn
    · rw [List.mem_singleton.mp hn, v0]; exact t0.1
    rcases List.mem_append.mp hn with hn | hn
    · rw [List.mem_singleton.mp hn, v1]; exact t1.1
    rcases List.mem_append.mp hn with hn | hn
    · rw [List.mem_singleton.mp hn, v2]; exact t2.1
    rcases List.mem_append.mp hn with hn | hn
    · rw [List.mem_singleton.mp hn, v3]; exact t3.1
    rcases List.mem_append.mp hn with hn | hn
    · rw [List.mem_singleton.mp hn, v4]; exact t4.1
    rcases List.mem_append.mp hn with hn | hn
    · rw [List.mem_singleton.mp hn, v5]; exact t5.1
    rcases List.mem_append.mp hn with hn | hn
    · rw [List.mem_singleton.mp hn, v6]; exact t6.1
    rcases List.mem_append.mp hn with hn | hn
    · rw [List.mem_singleton.mp hn, v7]; exact t7.1
    rcases List.mem_append.mp hn with hn | hn
    · rw [List.mem_singleton.mp hn, v8]; exact t8.1
    rcases List.mem_append.mp hn with hn | hn
    · rw [List.mem_singleton.mp hn, v9]; exact t9.1
    rcases List.mem_append.mp hn with hn | hn
    · rw [List.mem_singleton.mp hn, v10]; exact t10.1
    rcases List.mem_append.mp hn with hn | hn
    · rw [List.mem_singleton.mp hn, v11]; exact t11.1
    rcases List.mem_append.mp hn with hn | hn
    · rw [List.mem_singleton.mp hn, v12]; exact t12.1
    rcases List.mem_append.mp hn with hn | hn
    · rw [List.mem_singleton.mp hn, v13]; exact t13.1
    rcases List.mem_append.mp hn with hn | hn
    · rw [List.mem_singleton.mp hn, v14]; exact t14.1
    rcases List.mem_append.mp hn with hn | hn
    · rw [List.mem_singleton.mp hn, v15]; exact t15.1
    rw [List.mem_singleton.mp hn, v16]; exact t16.1
