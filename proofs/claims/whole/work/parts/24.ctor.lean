theorem wd_61 : Cond.initialized "StairIdeals$Holdings" ∈ LW := LW_mem 61 (by decide +kernel) rfl
theorem wd_80 : Cond.methodLink "StairIdeals" 1 ⟨"java/lang/Object", "<init>", "()V"⟩ ∈ LW := LW_mem 80 (by decide +kernel) rfl
theorem wd_83 : Cond.classLink "StairIdeals" 7 "StairIdeals$Pad" ∈ LW := LW_mem 83 (by decide +kernel) rfl
theorem wd_84 : Cond.instantiable "StairIdeals$Pad" 7 ∈ LW := LW_mem 84 (by decide +kernel) rfl
theorem wd_86 : Cond.instanceMethod yX4_init ∈ LW := LW_mem 86 (by decide +kernel) rfl
theorem wd_87 : Cond.code yX4_init prog_6_method_1_code 1 none ∈ LW := LW_mem 87 (by decide +kernel) rfl
theorem wd_115 : Cond.classLink "StairIdeals" 16 "StairIdeals$Holdings" ∈ LW := LW_mem 115 (by decide +kernel) rfl
theorem wd_116 : Cond.instantiable "StairIdeals$Holdings" 3 ∈ LW := LW_mem 116 (by decide +kernel) rfl
theorem wd_117 : Cond.methodLink "StairIdeals" 18 yX1_init ∈ LW := LW_mem 117 (by decide +kernel) rfl
theorem wd_118 : Cond.instanceMethod yX1_init ∈ LW := LW_mem 118 (by decide +kernel) rfl
theorem wd_119 : Cond.code yX1_init prog_3_method_1_code 2 none ∈ LW := LW_mem 119 (by decide +kernel) rfl
theorem wd_157 : Cond.classLink "StairIdeals" 27 "StairIdeals$Workshop" ∈ LW := LW_mem 157 (by decide +kernel) rfl
theorem wd_158 : Cond.instantiable "StairIdeals$Workshop" 2 ∈ LW := LW_mem 158 (by decide +kernel) rfl
theorem wd_160 : Cond.instanceMethod yX9_init ∈ LW := LW_mem 160 (by decide +kernel) rfl
theorem wd_161 : Cond.code yX9_init prog_11_method_1_code 1 none ∈ LW := LW_mem 161 (by decide +kernel) rfl
theorem wd_162 : Cond.methodLink "StairIdeals$Workshop" 3 ⟨"java/lang/Object", "<init>", "()V"⟩ ∈ LW := LW_mem 162 (by decide +kernel) rfl
theorem wd_163 : Cond.classLink "StairIdeals$Workshop" 9 "StairIdeals$Stairs" ∈ LW := LW_mem 163 (by decide +kernel) rfl
theorem wd_164 : Cond.instantiable "StairIdeals$Stairs" 1 ∈ LW := LW_mem 164 (by decide +kernel) rfl
theorem wd_166 : Cond.instanceMethod yX6_init ∈ LW := LW_mem 166 (by decide +kernel) rfl
theorem wd_167 : Cond.code yX6_init prog_8_method_1_code 1 none ∈ LW := LW_mem 167 (by decide +kernel) rfl
theorem wd_182 : Cond.classLink "StairIdeals" 34 "StairIdeals$Survey" ∈ LW := LW_mem 182 (by decide +kernel) rfl
theorem wd_183 : Cond.instantiable "StairIdeals$Survey" 4 ∈ LW := LW_mem 183 (by decide +kernel) rfl
theorem wd_185 : Cond.instanceMethod yX7_init ∈ LW := LW_mem 185 (by decide +kernel) rfl
theorem wd_186 : Cond.code yX7_init prog_9_method_1_code 1 none ∈ LW := LW_mem 186 (by decide +kernel) rfl
theorem wd_187 : Cond.methodLink "StairIdeals$Survey" 3 ⟨"java/lang/Object", "<init>", "()V"⟩ ∈ LW := LW_mem 187 (by decide +kernel) rfl
theorem wd_188 : Cond.classLink "StairIdeals$Survey" 9 "StairIdeals$Stairs" ∈ LW := LW_mem 188 (by decide +kernel) rfl
theorem wd_190 : Cond.classLink "StairIdeals$Survey" 22 "StairIdeals$Complex" ∈ LW := LW_mem 190 (by decide +kernel) rfl
theorem wd_191 : Cond.instantiable "StairIdeals$Complex" 1 ∈ LW := LW_mem 191 (by decide +kernel) rfl
theorem wd_193 : Cond.instanceMethod yX0_init ∈ LW := LW_mem 193 (by decide +kernel) rfl
theorem wd_194 : Cond.code yX0_init prog_2_method_1_code 1 none ∈ LW := LW_mem 194 (by decide +kernel) rfl
theorem wd_200 : Cond.classLink "StairIdeals$Survey" 29 "StairIdeals$Tree" ∈ LW := LW_mem 200 (by decide +kernel) rfl
theorem wd_201 : Cond.instantiable "StairIdeals$Tree" 3 ∈ LW := LW_mem 201 (by decide +kernel) rfl
theorem wd_203 : Cond.instanceMethod yX8_init ∈ LW := LW_mem 203 (by decide +kernel) rfl
theorem wd_204 : Cond.code yX8_init prog_10_method_1_code 1 none ∈ LW := LW_mem 204 (by decide +kernel) rfl
theorem wd_236 : Cond.fieldLink "StairIdeals" 23 "StairIdeals" "images" "[LStairIdeals$Holdings;" ∈ LW := LW_mem 236 (by decide +kernel) rfl
theorem ff_X10_10 : FFt RX10 10 8 0 (.object "StairIdeals$Pad") := ⟨_, _, _, tyX10, rfl, lwX10, by decide, wd_234, tyX10_ok, nmX10, rfl, rfl, by decide +kernel⟩
theorem ff_X10_19 : FFt RX10 19 8 1 (.object "StairIdeals$Holdings") := ⟨_, _, _, tyX10, rfl, lwX10, by decide, wd_235, tyX10_ok, nmX10, rfl, rfl, by decide +kernel⟩
theorem ff_X10_23 : FFt RX10 23 8 2 (.array (.object "StairIdeals$Holdings")) := ⟨_, _, _, tyX10, rfl, lwX10, by decide, wd_236, tyX10_ok, nmX10, rfl, rfl, by decide +kernel⟩
theorem ff_X10_30 : FFt RX10 30 8 3 (.object "StairIdeals$Workshop") := ⟨_, _, _, tyX10, rfl, lwX10, by decide, wd_237, tyX10_ok, nmX10, rfl, rfl, by decide +kernel⟩
theorem ff_X10_37 : FFt RX10 37 8 4 (.object "StairIdeals$Survey") := ⟨_, _, _, tyX10, rfl, lwX10, by decide, wd_238, tyX10_ok, nmX10, rfl, rfl, by decide +kernel⟩
theorem ff_X7_12 : FFt RX7 12 5 0 (.object "StairIdeals$Stairs") := ⟨_, _, _, tyX7, rfl, lwX7, by decide, wd_220, tyX7_ok, nmX7, rfl, rfl, by decide +kernel⟩
theorem ff_X7_18 : FFt RX7 18 5 1 (.array .int) := ⟨_, _, _, tyX7, rfl, lwX7, by decide, wd_222, tyX7_ok, nmX7, rfl, rfl, by decide +kernel⟩
theorem ff_X7_25 : FFt RX7 25 5 2 (.object "StairIdeals$Complex") := ⟨_, _, _, tyX7, rfl, lwX7, by decide, wd_223, tyX7_ok, nmX7, rfl, rfl, by decide +kernel⟩
theorem ff_X7_32 : FFt RX7 32 5 3 (.object "StairIdeals$Tree") := ⟨_, _, _, tyX7, rfl, lwX7, by decide, wd_224, tyX7_ok, nmX7, rfl, rfl, by decide +kernel⟩
theorem ff_X9_12 : FFt RX9 12 7 0 (.object "StairIdeals$Stairs") := ⟨_, _, _, tyX9, rfl, lwX9, by decide, wd_175, tyX9_ok, nmX9, rfl, rfl, by decide +kernel⟩
theorem ff_X9_18 : FFt RX9 18 7 1 (.object "StairIdeals$Stairs") := ⟨_, _, _, tyX9, rfl, lwX9, by decide, wd_176, tyX9_ok, nmX9, rfl, rfl, by decide +kernel⟩
theorem cnX9_init {l : Launch} {D : va_G} {T : Nat → ClassId} {L : List Nat} {f : Nat → va_E} {h0 sz : Nat} (hm : h0 ∈ L) (hf0 : f h0 = .inr (7, [.null, .null])) : CN l yX9_init cX9_init 1 2 40 4 688 D T [.ref h0] sz L f (PN T L f h0 23 (ndX9) prT) := by
  refine CN_of [.ref h0] (by decide) (Nat.le_of_ble_eq_true rfl) (xs := [(0, .ref h0)]) rfl (fun κ C hr hnm => ?_)
  have hk : ∀ b, b ∈ L → b ≠ h0 → f b = f b := fun _ _ _ => rfl
  refine n_aload_n C 0 rfl dX9_init_0 rfl ?_
  refine n_objInit C wd_162 (Nat.le_of_ble_eq_true rfl) (Nat.le_of_ble_eq_true rfl) (Nat.le_of_ble_eq_true rfl) dX9_init_1 ?_
  refine n_aload_n C 0 rfl dX9_init_4 rfl ?_
  refine n_new C (ci := 4) (ty := tyX6) [.null] rfl lwX6 tyX6_ok wd_163 wd_164 wd_64 (by decide) (Nat.le_of_ble_eq_true rfl) (Nat.le_of_ble_eq_true rfl) dX9_init_5 (fun q1 hq1 => ?_)
  have h0q1 : h0 ≠ q1 := fun z => hq1 (z ▸ hm)
  have hf0 := (va_up_ne f (.inr (4, [.null])) h0q1).trans hf0
  have hk : ∀ b, b ∈ L → b ≠ h0 → va_up f q1 (.inr (4, [.null])) b = f b := fun b hb hb0 => (va_up_ne f (.inr (4, [.null])) (fun z : b = q1 => hq1 (z ▸ (hb)))).trans (hk b hb hb0)
  have hfq := va_up_self f q1 (.inr (4, [.null]))
  have hm := List.mem_append_left [q1] hm
  have hmq : q1 ∈ L ++ [q1] := List.mem_append_right _ (List.mem_singleton.mpr rfl)
  generalize va_up f q1 (.inr (4, [.null])) = f_1 at hf0 hk hfq ⊢
  refine n_dup C rfl dX9_init_8 ?_
  refine n_callIN C (host := "StairIdeals") (by decide) wd_166 wd_64 wd_167 (by decide +kernel) (fun _ => cnX6_init (n0 := 55)  (by decide +kernel) (by decide +kernel) hmq hfq) ⟨(Nat.le_of_ble_eq_true rfl), (Nat.le_of_ble_eq_true rfl)⟩ ⟨(Nat.le_of_ble_eq_true rfl), (Nat.le_of_ble_eq_true rfl)⟩ (Nat.le_of_ble_eq_true rfl) dX9_init_9 (fun s1 g1 hp1 hd1 => ?_)
  have hf0 := (hp1.1 h0 hm h0q1).trans hf0
  have hk : ∀ b, b ∈ L → b ≠ h0 → g1 b = f b := fun b hb hb0 => (hp1.1 b (List.mem_append_left _ (hb)) (fun z : b = q1 => hq1 (z ▸ (hb)))).trans (hk b hb hb0)
  have at0 := hp1.2
  have ne0 : h0 ≠ q1 ∧ h0 ∉ s1 := ⟨h0q1, fun z => hd1 _ z hm⟩
  have hm := List.mem_append_left s1 hm
  refine n_putF C hnm ff_X9_12 hm hf0 (Nat.le_of_ble_eq_true rfl) rfl rfl dX9_init_12 ?_
  have hf0 := va_up_self g1 h0 (.inr (7, [.ref q1, .null]))
  have hk : ∀ b, b ∈ L → b ≠ h0 → va_up g1 h0 (.inr (7, [.ref q1, .null])) b = f b := fun b hb hb0 => (va_up_ne g1 (.inr (7, [.ref q1, .null])) hb0).trans (hk b hb hb0)
  have at0 := AT.put (e := (.inr (7, [.ref q1, .null]))) at0 ne0
  show NJ _ _ _ _ _ _ _ _ (va_up g1 h0 (.inr (7, [.ref q1, .null]))) _ _ _
  generalize va_up g1 h0 (.inr (7, [.ref q1, .null])) = f_2 at hf0 hk at0 ⊢
  refine n_aload_n C 0 rfl dX9_init_15 rfl ?_
  refine n_new C (ci := 4) (ty := tyX6) [.null] rfl lwX6 tyX6_ok wd_163 wd_164 wd_64 (by decide) (Nat.le_of_ble_eq_true rfl) (Nat.le_of_ble_eq_true rfl) dX9_init_16 (fun q2 hq2 => ?_)
  have nq0 : q2 ≠ q1 ∧ q2 ∉ s1 := ⟨fun z => hq2 (z ▸ at0.2.1), fun z => hq2 (at0.2.2.1 _ z)⟩
  have h0q2 : h0 ≠ q2 := fun z => hq2 (z ▸ hm)
  have hf0 := (va_up_ne f_2 (.inr (4, [.null])) h0q2).trans hf0
  have hk : ∀ b, b ∈ L → b ≠ h0 → va_up f_2 q2 (.inr (4, [.null])) b = f b := fun b hb hb0 => (va_up_ne f_2 (.inr (4, [.null])) (fun z : b = q2 => hq2 (z ▸ (List.mem_append_left _ (List.mem_append_left _ (hb)))))).trans (hk b hb hb0)
  have hfq := va_up_self f_2 q2 (.inr (4, [.null]))
  have at0 := AT.fresh (e := (.inr (4, [.null]))) at0 hq2
  have hm := List.mem_append_left [q2] hm
  have hmq : q2 ∈ ((L ++ [q1]) ++ s1) ++ [q2] := List.mem_append_right _ (List.mem_singleton.mpr rfl)
  generalize va_up f_2 q2 (.inr (4, [.null])) = f_3 at hf0 hk hfq at0 ⊢
  refine n_dup C rfl dX9_init_19 ?_
  refine n_callIN C (host := "StairIdeals") (by decide) wd_166 wd_64 wd_167 (by decide +kernel) (fun _ => cnX6_init (n0 := 57)  (by decide +kernel) (by decide +kernel) hmq hfq) ⟨(Nat.le_of_ble_eq_true rfl), (Nat.le_of_ble_eq_true rfl)⟩ ⟨(Nat.le_of_ble_eq_true rfl), (Nat.le_of_ble_eq_true rfl)⟩ (Nat.le_of_ble_eq_true rfl) dX9_init_20 (fun s2 g2 hp2 hd2 => ?_)
  have hf0 := (hp2.1 h0 hm h0q2).trans hf0
  have hk : ∀ b, b ∈ L → b ≠ h0 → g2 b = f b := fun b hb hb0 => (hp2.1 b (List.mem_append_left _ (List.mem_append_left _ (List.mem_append_left _ (hb)))) (fun z : b = q2 => hq2 (z ▸ (List.mem_append_left _ (List.mem_append_left _ (hb)))))).trans (hk b hb hb0)
  have at0 := AT.call (ns1 := s2) at0 hp2.1 nq0
  have at1 := hp2.2
  have ne1 : h0 ≠ q2 ∧ h0 ∉ s2 := ⟨h0q2, fun z => hd2 _ z hm⟩
  have hm := List.mem_append_left s2 hm
  refine n_putF C hnm ff_X9_18 hm hf0 (Nat.le_of_ble_eq_true rfl) rfl rfl dX9_init_23 ?_
  have hf0 := va_up_self g2 h0 (.inr (7, [.ref q1, .ref q2]))
  have hk : ∀ b, b ∈ L → b ≠ h0 → va_up g2 h0 (.inr (7, [.ref q1, .ref q2])) b = f b := fun b hb hb0 => (va_up_ne g2 (.inr (7, [.ref q1, .ref q2])) hb0).trans (hk b hb hb0)
  have at0 := AT.put (e := (.inr (7, [.ref q1, .ref q2]))) at0 ne0
  have at1 := AT.put (e := (.inr (7, [.ref q1, .ref q2]))) at1 ne1
  show NJ _ _ _ _ _ _ _ _ (va_up g2 h0 (.inr (7, [.ref q1, .ref q2]))) _ _ _
  generalize va_up g2 h0 (.inr (7, [.ref q1, .ref q2])) = f_4 at hf0 hk at0 at1 ⊢
  try simp only [List.append_assoc]
  refine n_vret C hr (ns := [q1] ++ (s1 ++ ([q2] ++ (s2)))) ⟨hk, ?_⟩ dX9_init_26
  have eL : ((((L ++ [q1]) ++ s1) ++ [q2]) ++ s2) = L ++ ([q1] ++ (s1 ++ ([q2] ++ (s2)))) := by first | rfl | simp only [List.append_assoc]
  refine ⟨?_, eL ▸ hm, fun x hx => List.mem_append_right _ hx, fun g e1 e2 e3 e4 => ?_⟩
  · simp [at0.1, at1.1, ndX9] <;> omega
  unfold ndX9 at e3 ⊢
  rw [List.map_append] at e3
  obtain ⟨u0, e3⟩ := List.append_inj e3 (by rfl)
  rw [List.map_append] at e3
  obtain ⟨u1, e3⟩ := List.append_inj e3 (by rw [List.length_map]; exact at0.1)
  rw [List.map_append] at e3
  obtain ⟨u2, e3⟩ := List.append_inj e3 (by rfl)
  have u3 := e3
  have v0 : gad g (55) = q1 := (List.cons.inj u0).1.symm
  have t0 := at0.2.2.2 g e1 v0 u1 trivial
  have v1 : gad g (57) = q2 := (List.cons.inj u2).1.symm
  have t1 := at1.2.2.2 g e1 v1 u3 trivial
  refine ⟨?_, fun n hn => ?_⟩
  · rw [hf0, cell_obj (by decide +kernel : sh 23 = .inr (7, [65, 67])), ← v0, ← v1]
    rfl
  · rcases List.mem_append.mp hn with hn | hn
    · rw [List.mem_singleton.mp hn, v0]; exact t0.1
    rcases List.mem_append.mp hn with hn | hn
    · exact t0.2 n hn
    rcases List.mem_append.mp hn with hn | hn
    · rw [List.mem_singleton.mp hn, v1]; exact t1.1
    exact t1.2 n hn
theorem cnX7_init {l : Launch} {D : va_G} {T : Nat → ClassId} {L : List Nat} {f : Nat → va_E} {h0 sz : Nat} (hm : h0 ∈ L) (hf0 : f h0 = .inr (5, [.null, .null, .null, .null])) : CN l yX7_init cX7_init 1 2 40 32 1414 D T [.ref h0] sz L f (PN T L f h0 24 (ndX7) prT) := by
  refine CN_of [.ref h0] (by decide) (Nat.le_of_ble_eq_true rfl) (xs := [(0, .ref h0)]) rfl (fun κ C hr hnm => ?_)
  have hk : ∀ b, b ∈ L → b ≠ h0 → f b = f b := fun _ _ _ => rfl
  refine n_aload_n C 0 rfl dX7_init_0 rfl ?_
  refine n_objInit C wd_187 (Nat.le_of_ble_eq_true rfl) (Nat.le_of_ble_eq_true rfl) (Nat.le_of_ble_eq_true rfl) dX7_init_1 ?_
  refine n_aload_n C 0 rfl dX7_init_4 rfl ?_
  refine n_new C (ci := 4) (ty := tyX6) [.null] rfl lwX6 tyX6_ok wd_188 wd_164 wd_64 (by decide) (Nat.le_of_ble_eq_true rfl) (Nat.le_of_ble_eq_true rfl) dX7_init_5 (fun q1 hq1 => ?_)
  have h0q1 : h0 ≠ q1 := fun z => hq1 (z ▸ hm)
  have hf0 := (va_up_ne f (.inr (4, [.null])) h0q1).trans hf0
  have hk : ∀ b, b ∈ L → b ≠ h0 → va_up f q1 (.inr (4, [.null])) b = f b := fun b hb hb0 => (va_up_ne f (.inr (4, [.null])) (fun z : b = q1 => hq1 (z ▸ (hb)))).trans (hk b hb hb0)
  have hfq := va_up_self f q1 (.inr (4, [.null]))
  have hm := List.mem_append_left [q1] hm
  have hmq : q1 ∈ L ++ [q1] := List.mem_append_right _ (List.mem_singleton.mpr rfl)
  generalize va_up f q1 (.inr (4, [.null])) = f_1 at hf0 hk hfq ⊢
  refine n_dup C rfl dX7_init_8 ?_
  refine n_callIN C (host := "StairIdeals") (by decide) wd_166 wd_64 wd_167 (by decide +kernel) (fun _ => cnX6_init (n0 := 59)  (by decide +kernel) (by decide +kernel) hmq hfq) ⟨(Nat.le_of_ble_eq_true rfl), (Nat.le_of_ble_eq_true rfl)⟩ ⟨(Nat.le_of_ble_eq_true rfl), (Nat.le_of_ble_eq_true rfl)⟩ (Nat.le_of_ble_eq_true rfl) dX7_init_9 (fun s1 g1 hp1 hd1 => ?_)
  have hf0 := (hp1.1 h0 hm h0q1).trans hf0
  have hk : ∀ b, b ∈ L → b ≠ h0 → g1 b = f b := fun b hb hb0 => (hp1.1 b (List.mem_append_left _ (hb)) (fun z : b = q1 => hq1 (z ▸ (hb)))).trans (hk b hb hb0)
  have at0 := hp1.2
  have ne0 : h0 ≠ q1 ∧ h0 ∉ s1 := ⟨h0q1, fun z => hd1 _ z hm⟩
  have hm := List.mem_append_left s1 hm
  refine n_putF C hnm ff_X7_12 hm hf0 (Nat.le_of_ble_eq_true rfl) rfl rfl dX7_init_12 ?_
  have hf0 := va_up_self g1 h0 (.inr (5, [.ref q1, .null, .null, .null]))
  have hk : ∀ b, b ∈ L → b ≠ h0 → va_up g1 h0 (.inr (5, [.ref q1, .null, .null, .null])) b = f b := fun b hb hb0 => (va_up_ne g1 (.inr (5, [.ref q1, .null, .null, .null])) hb0).trans (hk b hb hb0)
  have at0 := AT.put (e := (.inr (5, [.ref q1, .null, .null, .null]))) at0 ne0
  show NJ _ _ _ _ _ _ _ _ (va_up g1 h0 (.inr (5, [.ref q1, .null, .null, .null]))) _ _ _
  generalize va_up g1 h0 (.inr (5, [.ref q1, .null, .null, .null])) = f_2 at hf0 hk at0 ⊢
  refine n_aload_n C 0 rfl dX7_init_15 rfl ?_
  refine n_bipush C (v := 25) (by decide) dX7_init_16 ?_
  refine n_newai C (N := 25) wd_114 (by decide) (by decide) (Nat.le_of_ble_eq_true rfl) (Nat.le_of_ble_eq_true rfl) (Nat.le_of_ble_eq_true rfl) dX7_init_18 (fun q2 hq2 => ?_)
  have h0q2 : h0 ≠ q2 := fun z => hq2 (z ▸ hm)
  have hf0 := (va_up_ne f_2 (.inl (T 0, 25, .inl fun _ => 0)) h0q2).trans hf0
  have hk : ∀ b, b ∈ L → b ≠ h0 → va_up f_2 q2 (.inl (T 0, 25, .inl fun _ => 0)) b = f b := fun b hb hb0 => (va_up_ne f_2 (.inl (T 0, 25, .inl fun _ => 0)) (fun z : b = q2 => hq2 (z ▸ (List.mem_append_left _ (List.mem_append_left _ (hb)))))).trans (hk b hb hb0)
  have hfq := va_up_self f_2 q2 (.inl (T 0, 25, .inl fun _ => 0))
  have at0 := AT.fresh (e := (.inl (T 0, 25, .inl fun _ => 0))) at0 hq2
  have hm := List.mem_append_left [q2] hm
  have hmq : q2 ∈ ((L ++ [q1]) ++ s1) ++ [q2] := List.mem_append_right _ (List.mem_singleton.mpr rfl)
  generalize va_up f_2 q2 (.inl (T 0, 25, .inl fun _ => 0)) = f_3 at hf0 hk hfq at0 ⊢
  have at1 : AT T (((L ++ [q1]) ++ s1) ++ [q2]) f_3 q2 (25) [] prT [] := AT.arr0 (len := 25) hmq hfq (by decide +kernel)
  have ne1 : h0 ≠ q2 ∧ h0 ∉ ([] : List Nat) := ⟨h0q2, List.not_mem_nil⟩
  refine n_putF C hnm ff_X7_18 hm hf0 (Nat.le_of_ble_eq_true rfl) rfl rfl dX7_init_20 ?_
  have hf0 := va_up_self f_3 h0 (.inr (5, [.ref q1, .ref q2, .null, .null]))
  have hk : ∀ b, b ∈ L → b ≠ h0 → va_up f_3 h0 (.inr (5, [.ref q1, .ref q2, .null, .null])) b = f b := fun b hb hb0 => (va_up_ne f_3 (.inr (5, [.ref q1, .ref q2, .null, .null])) hb0).trans (hk b hb hb0)
  have at0 := AT.put (e := (.inr (5, [.ref q1, .ref q2, .null, .null]))) at0 ne0
  have at1 := AT.put (e := (.inr (5, [.ref q1, .ref q2, .null, .null]))) at1 ne1
  show NJ _ _ _ _ _ _ _ _ (va_up f_3 h0 (.inr (5, [.ref q1, .ref q2, .null, .null]))) _ _ _
  generalize va_up f_3 h0 (.inr (5, [.ref q1, .ref q2, .null, .null])) = f_4 at hf0 hk at0 at1 ⊢
  refine n_aload_n C 0 rfl dX7_init_23 rfl ?_
  refine n_new C (ci := 0) (ty := tyX0) [.null] rfl lwX0 tyX0_ok wd_190 wd_191 wd_66 (by decide) (Nat.le_of_ble_eq_true rfl) (Nat.le_of_ble_eq_true rfl) dX7_init_24 (fun q3 hq3 => ?_)
  have nq0 : q3 ≠ q1 ∧ q3 ∉ s1 := ⟨fun z => hq3 (z ▸ at0.2.1), fun z => hq3 (at0.2.2.1 _ z)⟩
  have nq1 : q3 ≠ q2 ∧ q3 ∉ ([] : List Nat) := ⟨fun z => hq3 (z ▸ at1.2.1), fun z => hq3 (at1.2.2.1 _ z)⟩
  have h0q3 : h0 ≠ q3 := fun z => hq3 (z ▸ hm)
  have hf0 := (va_up_ne f_4 (.inr (0, [.null])) h0q3).trans hf0
  have hk : ∀ b, b ∈ L → b ≠ h0 → va_up f_4 q3 (.inr (0, [.null])) b = f b := fun b hb hb0 => (va_up_ne f_4 (.inr (0, [.null])) (fun z : b = q3 => hq3 (z ▸ (List.mem_append_left _ (List.mem_append_left _ (List.mem_append_left _ (hb))))))).trans (hk b hb hb0)
  have hfq := va_up_self f_4 q3 (.inr (0, [.null]))
  have at0 := AT.fresh (e := (.inr (0, [.null]))) at0 hq3
  have at1 := AT.fresh (e := (.inr (0, [.null]))) at1 hq3
  have hm := List.mem_append_left [q3] hm
  have hmq : q3 ∈ (((L ++ [q1]) ++ s1) ++ [q2]) ++ [q3] := List.mem_append_right _ (List.mem_singleton.mpr rfl)
  generalize va_up f_4 q3 (.inr (0, [.null])) = f_5 at hf0 hk hfq at0 at1 ⊢
  refine n_dup C rfl dX7_init_27 ?_
  refine n_callIN C (host := "StairIdeals") (by decide) wd_193 wd_66 wd_194 (by decide +kernel) (fun _ => cnX0_init  hmq hfq) ⟨(Nat.le_of_ble_eq_true rfl), (Nat.le_of_ble_eq_true rfl)⟩ ⟨(Nat.le_of_ble_eq_true rfl), (Nat.le_of_ble_eq_true rfl)⟩ (Nat.le_of_ble_eq_true rfl) dX7_init_28 (fun s3 g3 hp3 hd3 => ?_)
  have hf0 := (hp3.1 h0 hm h0q3).trans hf0
  have hk : ∀ b, b ∈ L → b ≠ h0 → g3 b = f b := fun b hb hb0 => (hp3.1 b (List.mem_append_left _ (List.mem_append_left _ (List.mem_append_left _ (List.mem_append_left _ (hb))))) (fun z : b = q3 => hq3 (z ▸ (List.mem_append_left _ (List.mem_append_left _ (List.mem_append_left _ (hb))))))).trans (hk b hb hb0)
  have at0 := AT.call (ns1 := s3) at0 hp3.1 nq0
  have at1 := AT.call (ns1 := s3) at1 hp3.1 nq1
  have at2 := hp3.2
  have ne2 : h0 ≠ q3 ∧ h0 ∉ s3 := ⟨h0q3, fun z => hd3 _ z hm⟩
  have hm := List.mem_append_left s3 hm
  refine n_putF C hnm ff_X7_25 hm hf0 (Nat.le_of_ble_eq_true rfl) rfl rfl dX7_init_31 ?_
  have hf0 := va_up_self g3 h0 (.inr (5, [.ref q1, .ref q2, .ref q3, .null]))
  have hk : ∀ b, b ∈ L → b ≠ h0 → va_up g3 h0 (.inr (5, [.ref q1, .ref q2, .ref q3, .null])) b = f b := fun b hb hb0 => (va_up_ne g3 (.inr (5, [.ref q1, .ref q2, .ref q3, .null])) hb0).trans (hk b hb hb0)
  have at0 := AT.put (e := (.inr (5, [.ref q1, .ref q2, .ref q3, .null]))) at0 ne0
  have at1 := AT.put (e := (.inr (5, [.ref q1, .ref q2, .ref q3, .null]))) at1 ne1
  have at2 := AT.put (e := (.inr (5, [.ref q1, .ref q2, .ref q3, .null]))) at2 ne2
  show NJ _ _ _ _ _ _ _ _ (va_up g3 h0 (.inr (5, [.ref q1, .ref q2, .ref q3, .null]))) _ _ _
  generalize va_up g3 h0 (.inr (5, [.ref q1, .ref q2, .ref q3, .null])) = f_6 at hf0 hk at0 at1 at2 ⊢
  refine n_aload_n C 0 rfl dX7_init_34 rfl ?_
  refine n_new C (ci := 6) (ty := tyX8) [.int 0, .int 0, .null] rfl lwX8 tyX8_ok wd_200 wd_201 wd_67 (by decide) (Nat.le_of_ble_eq_true rfl) (Nat.le_of_ble_eq_true rfl) dX7_init_35 (fun q4 hq4 => ?_)
  have nq0 : q4 ≠ q1 ∧ q4 ∉ s1 := ⟨fun z => hq4 (z ▸ at0.2.1), fun z => hq4 (at0.2.2.1 _ z)⟩
  have nq1 : q4 ≠ q2 ∧ q4 ∉ ([] : List Nat) := ⟨fun z => hq4 (z ▸ at1.2.1), fun z => hq4 (at1.2.2.1 _ z)⟩
  have nq2 : q4 ≠ q3 ∧ q4 ∉ s3 := ⟨fun z => hq4 (z ▸ at2.2.1), fun z => hq4 (at2.2.2.1 _ z)⟩
  have h0q4 : h0 ≠ q4 := fun z => hq4 (z ▸ hm)
  have hf0 := (va_up_ne f_6 (.inr (6, [.int 0, .int 0, .null])) h0q4).trans hf0
  have hk : ∀ b, b ∈ L → b ≠ h0 → va_up f_6 q4 (.inr (6, [.int 0, .int 0, .null])) b = f b := fun b hb hb0 => (va_up_ne f_6 (.inr (6, [.int 0, .int 0, .null])) (fun z : b = q4 => hq4 (z ▸ (List.mem_append_left _ (List.mem_append_left _ (List.mem_append_left _ (List.mem_append_left _ (List.mem_append_left _ (hb))))))))).trans (hk b hb hb0)
  have hfq := va_up_self f_6 q4 (.inr (6, [.int 0, .int 0, .null]))
  have at0 := AT.fresh (e := (.inr (6, [.int 0, .int 0, .null]))) at0 hq4
  have at1 := AT.fresh (e := (.inr (6, [.int 0, .int 0, .null]))) at1 hq4
  have at2 := AT.fresh (e := (.inr (6, [.int 0, .int 0, .null]))) at2 hq4
  have hm := List.mem_append_left [q4] hm
  have hmq : q4 ∈ (((((L ++ [q1]) ++ s1) ++ [q2]) ++ [q3]) ++ s3) ++ [q4] := List.mem_append_right _ (List.mem_singleton.mpr rfl)
  generalize va_up f_6 q4 (.inr (6, [.int 0, .int 0, .null])) = f_7 at hf0 hk hfq at0 at1 at2 ⊢
  refine n_dup C rfl dX7_init_38 ?_
  refine n_callIN C (host := "StairIdeals") (by decide) wd_203 wd_67 wd_204 (by decide +kernel) (fun _ => cnX8_init  hmq hfq) ⟨(Nat.le_of_ble_eq_true rfl), (Nat.le_of_ble_eq_true rfl)⟩ ⟨(Nat.le_of_ble_eq_true rfl), (Nat.le_of_ble_eq_true rfl)⟩ (Nat.le_of_ble_eq_true rfl) dX7_init_39 (fun s4 g4 hp4 hd4 => ?_)
  have hf0 := (hp4.1 h0 hm h0q4).trans hf0
  have hk : ∀ b, b ∈ L → b ≠ h0 → g4 b = f b := fun b hb hb0 => (hp4.1 b (List.mem_append_left _ (List.mem_append_left _ (List.mem_append_left _ (List.mem_append_left _ (List.mem_append_left _ (List.mem_append_left _ (hb))))))) (fun z : b = q4 => hq4 (z ▸ (List.mem_append_left _ (List.mem_append_left _ (List.mem_append_left _ (List.mem_append_left _ (List.mem_append_left _ (hb))))))))).trans (hk b hb hb0)
  have at0 := AT.call (ns1 := s4) at0 hp4.1 nq0
  have at1 := AT.call (ns1 := s4) at1 hp4.1 nq1
  have at2 := AT.call (ns1 := s4) at2 hp4.1 nq2
  have at3 := hp4.2
  have ne3 : h0 ≠ q4 ∧ h0 ∉ s4 := ⟨h0q4, fun z => hd4 _ z hm⟩
  have hm := List.mem_append_left s4 hm
  refine n_putF C hnm ff_X7_32 hm hf0 (Nat.le_of_ble_eq_true rfl) rfl rfl dX7_init_42 ?_
  have hf0 := va_up_self g4 h0 (.inr (5, [.ref q1, .ref q2, .ref q3, .ref q4]))
  have hk : ∀ b, b ∈ L → b ≠ h0 → va_up g4 h0 (.inr (5, [.ref q1, .ref q2, .ref q3, .ref q4])) b = f b := fun b hb hb0 => (va_up_ne g4 (.inr (5, [.ref q1, .ref q2, .ref q3, .ref q4])) hb0).trans (hk b hb hb0)
  have at0 := AT.put (e := (.inr (5, [.ref q1, .ref q2, .ref q3, .ref q4]))) at0 ne0
  have at1 := AT.put (e := (.inr (5, [.ref q1, .ref q2, .ref q3, .ref q4]))) at1 ne1
  have at2 := AT.put (e := (.inr (5, [.ref q1, .ref q2, .ref q3, .ref q4]))) at2 ne2
  have at3 := AT.put (e := (.inr (5, [.ref q1, .ref q2, .ref q3, .ref q4]))) at3 ne3
  show NJ _ _ _ _ _ _ _ _ (va_up g4 h0 (.inr (5, [.ref q1, .ref q2, .ref q3, .ref q4]))) _ _ _
  generalize va_up g4 h0 (.inr (5, [.ref q1, .ref q2, .ref q3, .ref q4])) = f_8 at hf0 hk at0 at1 at2 at3 ⊢
  try simp only [List.append_assoc]
  refine n_vret C hr (ns := [q1] ++ (s1 ++ ([q2] ++ ([q3] ++ (s3 ++ ([q4] ++ (s4))))))) ⟨hk, ?_⟩ dX7_init_45
  have eL : (((((((L ++ [q1]) ++ s1) ++ [q2]) ++ [q3]) ++ s3) ++ [q4]) ++ s4) = L ++ ([q1] ++ (s1 ++ ([q2] ++ ([q3] ++ (s3 ++ ([q4] ++ (s4))))))) := by first | rfl | simp only [List.append_assoc]
  refine ⟨?_, eL ▸ hm, fun x hx => List.mem_append_right _ hx, fun g e1 e2 e3 e4 => ?_⟩
  · simp [at0.1, at2.1, at3.1, ndX7] <;> omega
  unfold ndX7 at e3 ⊢
  rw [List.map_append] at e3
  obtain ⟨u0, e3⟩ := List.append_inj e3 (by rfl)
  rw [List.map_append] at e3
  obtain ⟨u1, e3⟩ := List.append_inj e3 (by rw [List.length_map]; exact at0.1)
  rw [List.map_append] at e3
  obtain ⟨u2, e3⟩ := List.append_inj e3 (by rfl)
  rw [List.map_append] at e3
  obtain ⟨u3, e3⟩ := List.append_inj e3 (by rfl)
  rw [List.map_append] at e3
  obtain ⟨u4, e3⟩ := List.append_inj e3 (by rw [List.length_map]; exact at2.1)
  rw [List.map_append] at e3
  obtain ⟨u5, e3⟩ := List.append_inj e3 (by rfl)
  have u6 := e3
  have v0 : gad g (59) = q1 := (List.cons.inj u0).1.symm
  have t0 := at0.2.2.2 g e1 v0 u1 trivial
  have v1 : gad g (25) = q2 := (List.cons.inj u2).1.symm
  have t1 := at1.2.2.2 g e1 v1 rfl trivial
  have v2 : gad g (26) = q3 := (List.cons.inj u3).1.symm
  have t2 := at2.2.2.2 g e1 v2 u4 trivial
  have v3 : gad g (28) = q4 := (List.cons.inj u5).1.symm
  have t3 := at3.2.2.2 g e1 v3 u6 trivial
  refine ⟨?_, fun n hn => ?_⟩
  · rw [hf0, cell_obj (by decide +kernel : sh 24 = .inr (5, [69, 35, 36, 38])), ← v0, ← v1, ← v2, ← v3]
    rfl
  · rcases List.mem_append.mp hn with hn | hn
    · rw [List.mem_singleton.mp hn, v0]; exact t0.1
    rcases List.mem_append.mp hn with hn | hn
    · exact t0.2 n hn
    rcases List.mem_append.mp hn with hn | hn
    · rw [List.mem_singleton.mp hn, v1]; exact t1.1
    rcases List.mem_append.mp hn with hn | hn
    · rw [List.mem_singleton.mp hn, v2]; exact t2.1
    rcases List.mem_append.mp hn with hn | hn
    · exact t2.2 n hn
    rcases List.mem_append.mp hn with hn | hn
    · rw [List.mem_singleton.mp hn, v3]; exact t3.1
    exact t3.2 n hn
theorem cnX10_init {l : Launch} {D : va_G} {T : Nat → ClassId} {L : List Nat} {f : Nat → va_E} {h0 sz : Nat} (hm : h0 ∈ L) (hf0 : f h0 = .inr (8, [.null, .null, .null, .null, .null])) : CN l yX10_init cX10_init 1 3 61 78 2940 D T [.ref h0] sz L f (PN T L f h0 18 (ndX10) prN) := by
  refine CN_of [.ref h0] (by decide) (Nat.le_of_ble_eq_true rfl) (xs := [(0, .ref h0)]) rfl (fun κ C hr hnm => ?_)
  have hk : ∀ b, b ∈ L → b ≠ h0 → f b = f b := fun _ _ _ => rfl
  refine n_aload_n C 0 rfl dX10_init_0 rfl ?_
  refine n_objInit C wd_80 (Nat.le_of_ble_eq_true rfl) (Nat.le_of_ble_eq_true rfl) (Nat.le_of_ble_eq_true rfl) dX10_init_1 ?_
  refine n_aload_n C 0 rfl dX10_init_4 rfl ?_
  refine n_new C (ci := 3) (ty := tyX4) [.null, .int 0, .int 0, .null, .int 0, .int 0, .int 0] rfl lwX4 tyX4_ok wd_83 wd_84 wd_60 (by decide) (Nat.le_of_ble_eq_true rfl) (Nat.le_of_ble_eq_true rfl) dX10_init_5 (fun q1 hq1 => ?_)
  have h0q1 : h0 ≠ q1 := fun z => hq1 (z ▸ hm)
  have hf0 := (va_up_ne f (.inr (3, [.null, .int 0, .int 0, .null, .int 0, .int 0, .int 0])) h0q1).trans hf0
  have hk : ∀ b, b ∈ L → b ≠ h0 → va_up f q1 (.inr (3, [.null, .int 0, .int 0, .null, .int 0, .int 0, .int 0])) b = f b := fun b hb hb0 => (va_up_ne f (.inr (3, [.null, .int 0, .int 0, .null, .int 0, .int 0, .int 0])) (fun z : b = q1 => hq1 (z ▸ (hb)))).trans (hk b hb hb0)
  have hfq := va_up_self f q1 (.inr (3, [.null, .int 0, .int 0, .null, .int 0, .int 0, .int 0]))
  have hm := List.mem_append_left [q1] hm
  have hmq : q1 ∈ L ++ [q1] := List.mem_append_right _ (List.mem_singleton.mpr rfl)
  generalize va_up f q1 (.inr (3, [.null, .int 0, .int 0, .null, .int 0, .int 0, .int 0])) = f_1 at hf0 hk hfq ⊢
  refine n_dup C rfl dX10_init_8 ?_
  refine n_callIN C (host := "StairIdeals") (by decide) wd_86 wd_60 wd_87 (by decide +kernel) (fun _ => cnX4_init  hmq hfq) ⟨(Nat.le_of_ble_eq_true rfl), (Nat.le_of_ble_eq_true rfl)⟩ ⟨(Nat.le_of_ble_eq_true rfl), (Nat.le_of_ble_eq_true rfl)⟩ (Nat.le_of_ble_eq_true rfl) dX10_init_9 (fun s1 g1 hp1 hd1 => ?_)
  have hf0 := (hp1.1 h0 hm h0q1).trans hf0
  have hk : ∀ b, b ∈ L → b ≠ h0 → g1 b = f b := fun b hb hb0 => (hp1.1 b (List.mem_append_left _ (hb)) (fun z : b = q1 => hq1 (z ▸ (hb)))).trans (hk b hb hb0)
  have at0 := hp1.2
  have ne0 : h0 ≠ q1 ∧ h0 ∉ s1 := ⟨h0q1, fun z => hd1 _ z hm⟩
  have hm := List.mem_append_left s1 hm
  refine n_putF C hnm ff_X10_10 hm hf0 (Nat.le_of_ble_eq_true rfl) rfl rfl dX10_init_12 ?_
  have hf0 := va_up_self g1 h0 (.inr (8, [.ref q1, .null, .null, .null, .null]))
  have hk : ∀ b, b ∈ L → b ≠ h0 → va_up g1 h0 (.inr (8, [.ref q1, .null, .null, .null, .null])) b = f b := fun b hb hb0 => (va_up_ne g1 (.inr (8, [.ref q1, .null, .null, .null, .null])) hb0).trans (hk b hb hb0)
  have at0 := AT.put (e := (.inr (8, [.ref q1, .null, .null, .null, .null]))) at0 ne0
  show NJ _ _ _ _ _ _ _ _ (va_up g1 h0 (.inr (8, [.ref q1, .null, .null, .null, .null]))) _ _ _
  generalize va_up g1 h0 (.inr (8, [.ref q1, .null, .null, .null, .null])) = f_2 at hf0 hk at0 ⊢
  refine n_aload_n C 0 rfl dX10_init_15 rfl ?_
  refine n_new C (ci := 1) (ty := tyX1) [.null, .null, .null] rfl lwX1 tyX1_ok wd_115 wd_116 wd_61 (by decide) (Nat.le_of_ble_eq_true rfl) (Nat.le_of_ble_eq_true rfl) dX10_init_16 (fun q2 hq2 => ?_)
  have nq0 : q2 ≠ q1 ∧ q2 ∉ s1 := ⟨fun z => hq2 (z ▸ at0.2.1), fun z => hq2 (at0.2.2.1 _ z)⟩
  have h0q2 : h0 ≠ q2 := fun z => hq2 (z ▸ hm)
  have hf0 := (va_up_ne f_2 (.inr (1, [.null, .null, .null])) h0q2).trans hf0
  have hk : ∀ b, b ∈ L → b ≠ h0 → va_up f_2 q2 (.inr (1, [.null, .null, .null])) b = f b := fun b hb hb0 => (va_up_ne f_2 (.inr (1, [.null, .null, .null])) (fun z : b = q2 => hq2 (z ▸ (List.mem_append_left _ (List.mem_append_left _ (hb)))))).trans (hk b hb hb0)
  have hfq := va_up_self f_2 q2 (.inr (1, [.null, .null, .null]))
  have at0 := AT.fresh (e := (.inr (1, [.null, .null, .null]))) at0 hq2
  have hm := List.mem_append_left [q2] hm
  have hmq : q2 ∈ ((L ++ [q1]) ++ s1) ++ [q2] := List.mem_append_right _ (List.mem_singleton.mpr rfl)
  generalize va_up f_2 q2 (.inr (1, [.null, .null, .null])) = f_3 at hf0 hk hfq at0 ⊢
  refine n_dup C rfl dX10_init_19 ?_
  refine n_callI C wd_117 wd_118 wd_61 wd_119 (by decide +kernel) (fun _ => cnX1_init (n0 := 61)  okN_61 hmq hfq) ⟨(Nat.le_of_ble_eq_true rfl), (Nat.le_of_ble_eq_true rfl)⟩ ⟨(Nat.le_of_ble_eq_true rfl), (Nat.le_of_ble_eq_true rfl)⟩ (Nat.le_of_ble_eq_true rfl) dX10_init_20 (fun s2 g2 hp2 hd2 => ?_)
  have hf0 := (hp2.1 h0 hm h0q2).trans hf0
  have hk : ∀ b, b ∈ L → b ≠ h0 → g2 b = f b := fun b hb hb0 => (hp2.1 b (List.mem_append_left _ (List.mem_append_left _ (List.mem_append_left _ (hb)))) (fun z : b = q2 => hq2 (z ▸ (List.mem_append_left _ (List.mem_append_left _ (hb)))))).trans (hk b hb hb0)
  have at0 := AT.call (ns1 := s2) at0 hp2.1 nq0
  have at1 := hp2.2
  have ne1 : h0 ≠ q2 ∧ h0 ∉ s2 := ⟨h0q2, fun z => hd2 _ z hm⟩
  have hm := List.mem_append_left s2 hm
  refine n_putF C hnm ff_X10_19 hm hf0 (Nat.le_of_ble_eq_true rfl) rfl rfl dX10_init_23 ?_
  have hf0 := va_up_self g2 h0 (.inr (8, [.ref q1, .ref q2, .null, .null, .null]))
  have hk : ∀ b, b ∈ L → b ≠ h0 → va_up g2 h0 (.inr (8, [.ref q1, .ref q2, .null, .null, .null])) b = f b := fun b hb hb0 => (va_up_ne g2 (.inr (8, [.ref q1, .ref q2, .null, .null, .null])) hb0).trans (hk b hb hb0)
  have at0 := AT.put (e := (.inr (8, [.ref q1, .ref q2, .null, .null, .null]))) at0 ne0
  have at1 := AT.put (e := (.inr (8, [.ref q1, .ref q2, .null, .null, .null]))) at1 ne1
  show NJ _ _ _ _ _ _ _ _ (va_up g2 h0 (.inr (8, [.ref q1, .ref q2, .null, .null, .null]))) _ _ _
  generalize va_up g2 h0 (.inr (8, [.ref q1, .ref q2, .null, .null, .null])) = f_4 at hf0 hk at0 at1 ⊢
  refine n_aload_n C 0 rfl dX10_init_26 rfl ?_
  refine n_iconst C (v := 2) (by decide) dX10_init_27 ?_
  refine n_newq3 C (N := 2) wd_115 (by decide) (by decide) (Nat.le_of_ble_eq_true rfl) (Nat.le_of_ble_eq_true rfl) (Nat.le_of_ble_eq_true rfl) dX10_init_28 (fun q3 hq3 => ?_)
  have h0q3 : h0 ≠ q3 := fun z => hq3 (z ▸ hm)
  have hf0 := (va_up_ne f_4 (.inl (T 3, 2, .inr (.inr (.inr (.inr (fun _ => none)))))) h0q3).trans hf0
  have hk : ∀ b, b ∈ L → b ≠ h0 → va_up f_4 q3 (.inl (T 3, 2, .inr (.inr (.inr (.inr (fun _ => none)))))) b = f b := fun b hb hb0 => (va_up_ne f_4 (.inl (T 3, 2, .inr (.inr (.inr (.inr (fun _ => none)))))) (fun z : b = q3 => hq3 (z ▸ (List.mem_append_left _ (List.mem_append_left _ (List.mem_append_left _ (List.mem_append_left _ (hb)))))))).trans (hk b hb hb0)
  have hfq := va_up_self f_4 q3 (.inl (T 3, 2, .inr (.inr (.inr (.inr (fun _ => none))))))
  have at0 := AT.fresh (e := (.inl (T 3, 2, .inr (.inr (.inr (.inr (fun _ => none))))))) at0 hq3
  have at1 := AT.fresh (e := (.inl (T 3, 2, .inr (.inr (.inr (.inr (fun _ => none))))))) at1 hq3
  have hm := List.mem_append_left [q3] hm
  have hmq : q3 ∈ ((((L ++ [q1]) ++ s1) ++ [q2]) ++ s2) ++ [q3] := List.mem_append_right _ (List.mem_singleton.mpr rfl)
  generalize va_up f_4 q3 (.inl (T 3, 2, .inr (.inr (.inr (.inr (fun _ => none)))))) = f_5 at hf0 hk hfq at0 at1 ⊢
  have at2 : AT T (((((L ++ [q1]) ++ s1) ++ [q2]) ++ s2) ++ [q3]) f_5 q3 (22) [] prN [] := AT.arr3 (len := 2) hmq hfq (by decide +kernel)
  have ne2 : h0 ≠ q3 ∧ h0 ∉ ([] : List Nat) := ⟨h0q3, List.not_mem_nil⟩
  refine n_putF C hnm ff_X10_23 hm hf0 (Nat.le_of_ble_eq_true rfl) rfl rfl dX10_init_31 ?_
  have hf0 := va_up_self f_5 h0 (.inr (8, [.ref q1, .ref q2, .ref q3, .null, .null]))
  have hk : ∀ b, b ∈ L → b ≠ h0 → va_up f_5 h0 (.inr (8, [.ref q1, .ref q2, .ref q3, .null, .null])) b = f b := fun b hb hb0 => (va_up_ne f_5 (.inr (8, [.ref q1, .ref q2, .ref q3, .null, .null])) hb0).trans (hk b hb hb0)
  have at0 := AT.put (e := (.inr (8, [.ref q1, .ref q2, .ref q3, .null, .null]))) at0 ne0
  have at1 := AT.put (e := (.inr (8, [.ref q1, .ref q2, .ref q3, .null, .null]))) at1 ne1
  have at2 := AT.put (e := (.inr (8, [.ref q1, .ref q2, .ref q3, .null, .null]))) at2 ne2
  show NJ _ _ _ _ _ _ _ _ (va_up f_5 h0 (.inr (8, [.ref q1, .ref q2, .ref q3, .null, .null]))) _ _ _
  generalize va_up f_5 h0 (.inr (8, [.ref q1, .ref q2, .ref q3, .null, .null])) = f_6 at hf0 hk at0 at1 at2 ⊢
  refine n_aload_n C 0 rfl dX10_init_34 rfl ?_
  refine n_new C (ci := 7) (ty := tyX9) [.null, .null] rfl lwX9 tyX9_ok wd_157 wd_158 wd_63 (by decide) (Nat.le_of_ble_eq_true rfl) (Nat.le_of_ble_eq_true rfl) dX10_init_35 (fun q4 hq4 => ?_)
  have nq0 : q4 ≠ q1 ∧ q4 ∉ s1 := ⟨fun z => hq4 (z ▸ at0.2.1), fun z => hq4 (at0.2.2.1 _ z)⟩
  have nq1 : q4 ≠ q2 ∧ q4 ∉ s2 := ⟨fun z => hq4 (z ▸ at1.2.1), fun z => hq4 (at1.2.2.1 _ z)⟩
  have nq2 : q4 ≠ q3 ∧ q4 ∉ ([] : List Nat) := ⟨fun z => hq4 (z ▸ at2.2.1), fun z => hq4 (at2.2.2.1 _ z)⟩
  have h0q4 : h0 ≠ q4 := fun z => hq4 (z ▸ hm)
  have hf0 := (va_up_ne f_6 (.inr (7, [.null, .null])) h0q4).trans hf0
  have hk : ∀ b, b ∈ L → b ≠ h0 → va_up f_6 q4 (.inr (7, [.null, .null])) b = f b := fun b hb hb0 => (va_up_ne f_6 (.inr (7, [.null, .null])) (fun z : b = q4 => hq4 (z ▸ (List.mem_append_left _ (List.mem_append_left _ (List.mem_append_left _ (List.mem_append_left _ (List.mem_append_left _ (hb))))))))).trans (hk b hb hb0)
  have hfq := va_up_self f_6 q4 (.inr (7, [.null, .null]))
  have at0 := AT.fresh (e := (.inr (7, [.null, .null]))) at0 hq4
  have at1 := AT.fresh (e := (.inr (7, [.null, .null]))) at1 hq4
  have at2 := AT.fresh (e := (.inr (7, [.null, .null]))) at2 hq4
  have hm := List.mem_append_left [q4] hm
  have hmq : q4 ∈ (((((L ++ [q1]) ++ s1) ++ [q2]) ++ s2) ++ [q3]) ++ [q4] := List.mem_append_right _ (List.mem_singleton.mpr rfl)
  generalize va_up f_6 q4 (.inr (7, [.null, .null])) = f_7 at hf0 hk hfq at0 at1 at2 ⊢
  refine n_dup C rfl dX10_init_38 ?_
  refine n_callIN C (host := "StairIdeals") (by decide) wd_160 wd_63 wd_161 (by decide +kernel) (fun _ => cnX9_init  hmq hfq) ⟨(Nat.le_of_ble_eq_true rfl), (Nat.le_of_ble_eq_true rfl)⟩ ⟨(Nat.le_of_ble_eq_true rfl), (Nat.le_of_ble_eq_true rfl)⟩ (Nat.le_of_ble_eq_true rfl) dX10_init_39 (fun s4 g4 hp4 hd4 => ?_)
  have hf0 := (hp4.1 h0 hm h0q4).trans hf0
  have hk : ∀ b, b ∈ L → b ≠ h0 → g4 b = f b := fun b hb hb0 => (hp4.1 b (List.mem_append_left _ (List.mem_append_left _ (List.mem_append_left _ (List.mem_append_left _ (List.mem_append_left _ (List.mem_append_left _ (hb))))))) (fun z : b = q4 => hq4 (z ▸ (List.mem_append_left _ (List.mem_append_left _ (List.mem_append_left _ (List.mem_append_left _ (List.mem_append_left _ (hb))))))))).trans (hk b hb hb0)
  have at0 := AT.call (ns1 := s4) at0 hp4.1 nq0
  have at1 := AT.call (ns1 := s4) at1 hp4.1 nq1
  have at2 := AT.call (ns1 := s4) at2 hp4.1 nq2
  have at3 := hp4.2
  have ne3 : h0 ≠ q4 ∧ h0 ∉ s4 := ⟨h0q4, fun z => hd4 _ z hm⟩
  have hm := List.mem_append_left s4 hm
  refine n_putF C hnm ff_X10_30 hm hf0 (Nat.le_of_ble_eq_true rfl) rfl rfl dX10_init_42 ?_
  have hf0 := va_up_self g4 h0 (.inr (8, [.ref q1, .ref q2, .ref q3, .ref q4, .null]))
  have hk : ∀ b, b ∈ L → b ≠ h0 → va_up g4 h0 (.inr (8, [.ref q1, .ref q2, .ref q3, .ref q4, .null])) b = f b := fun b hb hb0 => (va_up_ne g4 (.inr (8, [.ref q1, .ref q2, .ref q3, .ref q4, .null])) hb0).trans (hk b hb hb0)
  have at0 := AT.put (e := (.inr (8, [.ref q1, .ref q2, .ref q3, .ref q4, .null]))) at0 ne0
  have at1 := AT.put (e := (.inr (8, [.ref q1, .ref q2, .ref q3, .ref q4, .null]))) at1 ne1
  have at2 := AT.put (e := (.inr (8, [.ref q1, .ref q2, .ref q3, .ref q4, .null]))) at2 ne2
  have at3 := AT.put (e := (.inr (8, [.ref q1, .ref q2, .ref q3, .ref q4, .null]))) at3 ne3
  show NJ _ _ _ _ _ _ _ _ (va_up g4 h0 (.inr (8, [.ref q1, .ref q2, .ref q3, .ref q4, .null]))) _ _ _
  generalize va_up g4 h0 (.inr (8, [.ref q1, .ref q2, .ref q3, .ref q4, .null])) = f_8 at hf0 hk at0 at1 at2 at3 ⊢
  refine n_aload_n C 0 rfl dX10_init_45 rfl ?_
  refine n_new C (ci := 5) (ty := tyX7) [.null, .null, .null, .null] rfl lwX7 tyX7_ok wd_182 wd_183 wd_65 (by decide) (Nat.le_of_ble_eq_true rfl) (Nat.le_of_ble_eq_true rfl) dX10_init_46 (fun q5 hq5 => ?_)
  have nq0 : q5 ≠ q1 ∧ q5 ∉ s1 := ⟨fun z => hq5 (z ▸ at0.2.1), fun z => hq5 (at0.2.2.1 _ z)⟩
  have nq1 : q5 ≠ q2 ∧ q5 ∉ s2 := ⟨fun z => hq5 (z ▸ at1.2.1), fun z => hq5 (at1.2.2.1 _ z)⟩
  have nq2 : q5 ≠ q3 ∧ q5 ∉ ([] : List Nat) := ⟨fun z => hq5 (z ▸ at2.2.1), fun z => hq5 (at2.2.2.1 _ z)⟩
  have nq3 : q5 ≠ q4 ∧ q5 ∉ s4 := ⟨fun z => hq5 (z ▸ at3.2.1), fun z => hq5 (at3.2.2.1 _ z)⟩
  have h0q5 : h0 ≠ q5 := fun z => hq5 (z ▸ hm)
  have hf0 := (va_up_ne f_8 (.inr (5, [.null, .null, .null, .null])) h0q5).trans hf0
  have hk : ∀ b, b ∈ L → b ≠ h0 → va_up f_8 q5 (.inr (5, [.null, .null, .null, .null])) b = f b := fun b hb hb0 => (va_up_ne f_8 (.inr (5, [.null, .null, .null, .null])) (fun z : b = q5 => hq5 (z ▸ (List.mem_append_left _ (List.mem_append_left _ (List.mem_append_left _ (List.mem_append_left _ (List.mem_append_left _ (List.mem_append_left _ (List.mem_append_left _ (hb))))))))))).trans (hk b hb hb0)
  have hfq := va_up_self f_8 q5 (.inr (5, [.null, .null, .null, .null]))
  have at0 := AT.fresh (e := (.inr (5, [.null, .null, .null, .null]))) at0 hq5
  have at1 := AT.fresh (e := (.inr (5, [.null, .null, .null, .null]))) at1 hq5
  have at2 := AT.fresh (e := (.inr (5, [.null, .null, .null, .null]))) at2 hq5
  have at3 := AT.fresh (e := (.inr (5, [.null, .null, .null, .null]))) at3 hq5
  have hm := List.mem_append_left [q5] hm
  have hmq : q5 ∈ (((((((L ++ [q1]) ++ s1) ++ [q2]) ++ s2) ++ [q3]) ++ [q4]) ++ s4) ++ [q5] := List.mem_append_right _ (List.mem_singleton.mpr rfl)
  generalize va_up f_8 q5 (.inr (5, [.null, .null, .null, .null])) = f_9 at hf0 hk hfq at0 at1 at2 at3 ⊢
  refine n_dup C rfl dX10_init_49 ?_
  refine n_callIN C (host := "StairIdeals") (by decide) wd_185 wd_65 wd_186 (by decide +kernel) (fun _ => cnX7_init  hmq hfq) ⟨(Nat.le_of_ble_eq_true rfl), (Nat.le_of_ble_eq_true rfl)⟩ ⟨(Nat.le_of_ble_eq_true rfl), (Nat.le_of_ble_eq_true rfl)⟩ (Nat.le_of_ble_eq_true rfl) dX10_init_50 (fun s5 g5 hp5 hd5 => ?_)
  have hf0 := (hp5.1 h0 hm h0q5).trans hf0
  have hk : ∀ b, b ∈ L → b ≠ h0 → g5 b = f b := fun b hb hb0 => (hp5.1 b (List.mem_append_left _ (List.mem_append_left _ (List.mem_append_left _ (List.mem_append_left _ (List.mem_append_left _ (List.mem_append_left _ (List.mem_append_left _ (List.mem_append_left _ (hb))))))))) (fun z : b = q5 => hq5 (z ▸ (List.mem_append_left _ (List.mem_append_left _ (List.mem_append_left _ (List.mem_append_left _ (List.mem_append_left _ (List.mem_append_left _ (List.mem_append_left _ (hb))))))))))).trans (hk b hb hb0)
  have at0 := AT.call (ns1 := s5) at0 hp5.1 nq0
  have at1 := AT.call (ns1 := s5) at1 hp5.1 nq1
  have at2 := AT.call (ns1 := s5) at2 hp5.1 nq2
  have at3 := AT.call (ns1 := s5) at3 hp5.1 nq3
  have at4 := hp5.2
  have ne4 : h0 ≠ q5 ∧ h0 ∉ s5 := ⟨h0q5, fun z => hd5 _ z hm⟩
  have hm := List.mem_append_left s5 hm
  refine n_putF C hnm ff_X10_37 hm hf0 (Nat.le_of_ble_eq_true rfl) rfl rfl dX10_init_53 ?_
  have hf0 := va_up_self g5 h0 (.inr (8, [.ref q1, .ref q2, .ref q3, .ref q4, .ref q5]))
  have hk : ∀ b, b ∈ L → b ≠ h0 → va_up g5 h0 (.inr (8, [.ref q1, .ref q2, .ref q3, .ref q4, .ref q5])) b = f b := fun b hb hb0 => (va_up_ne g5 (.inr (8, [.ref q1, .ref q2, .ref q3, .ref q4, .ref q5])) hb0).trans (hk b hb hb0)
  have at0 := AT.put (e := (.inr (8, [.ref q1, .ref q2, .ref q3, .ref q4, .ref q5]))) at0 ne0
  have at1 := AT.put (e := (.inr (8, [.ref q1, .ref q2, .ref q3, .ref q4, .ref q5]))) at1 ne1
  have at2 := AT.put (e := (.inr (8, [.ref q1, .ref q2, .ref q3, .ref q4, .ref q5]))) at2 ne2
  have at3 := AT.put (e := (.inr (8, [.ref q1, .ref q2, .ref q3, .ref q4, .ref q5]))) at3 ne3
  have at4 := AT.put (e := (.inr (8, [.ref q1, .ref q2, .ref q3, .ref q4, .ref q5]))) at4 ne4
  show NJ _ _ _ _ _ _ _ _ (va_up g5 h0 (.inr (8, [.ref q1, .ref q2, .ref q3, .ref q4, .ref q5]))) _ _ _
  generalize va_up g5 h0 (.inr (8, [.ref q1, .ref q2, .ref q3, .ref q4, .ref q5])) = f_10 at hf0 hk at0 at1 at2 at3 at4 ⊢
  try simp only [List.append_assoc]
  refine n_vret C hr (ns := [q1] ++ (s1 ++ ([q2] ++ (s2 ++ ([q3] ++ ([q4] ++ (s4 ++ ([q5] ++ (s5))))))))) ⟨hk, ?_⟩ dX10_init_56
  have eL : (((((((((L ++ [q1]) ++ s1) ++ [q2]) ++ s2) ++ [q3]) ++ [q4]) ++ s4) ++ [q5]) ++ s5) = L ++ ([q1] ++ (s1 ++ ([q2] ++ (s2 ++ ([q3] ++ ([q4] ++ (s4 ++ ([q5] ++ (s5))))))))) := by first | rfl | simp only [List.append_assoc]
  refine ⟨?_, eL ▸ hm, fun x hx => List.mem_append_right _ hx, fun g e1 e2 e3 e4 => ?_⟩
  · simp [at0.1, at1.1, at3.1, at4.1, ndX10] <;> omega
  unfold ndX10 at e3 ⊢
  rw [List.map_append] at e3
  obtain ⟨u0, e3⟩ := List.append_inj e3 (by rfl)
  rw [List.map_append] at e3
  obtain ⟨u1, e3⟩ := List.append_inj e3 (by rw [List.length_map]; exact at0.1)
  rw [List.map_append] at e3
  obtain ⟨u2, e3⟩ := List.append_inj e3 (by rfl)
  rw [List.map_append] at e3
  obtain ⟨u3, e3⟩ := List.append_inj e3 (by rw [List.length_map]; exact at1.1)
  rw [List.map_append] at e3
  obtain ⟨u4, e3⟩ := List.append_inj e3 (by rfl)
  rw [List.map_append] at e3
  obtain ⟨u5, e3⟩ := List.append_inj e3 (by rfl)
  rw [List.map_append] at e3
  obtain ⟨u6, e3⟩ := List.append_inj e3 (by rw [List.length_map]; exact at3.1)
  rw [List.map_append] at e3
  obtain ⟨u7, e3⟩ := List.append_inj e3 (by rfl)
  have u8 := e3
  have v0 : gad g (19) = q1 := (List.cons.inj u0).1.symm
  have t0 := at0.2.2.2 g e1 v0 u1 trivial
  have v1 : gad g (61) = q2 := (List.cons.inj u2).1.symm
  have t1 := at1.2.2.2 g e1 v1 u3 trivial
  have v2 : gad g (22) = q3 := (List.cons.inj u4).1.symm
  have t2 := at2.2.2.2 g e1 v2 rfl e4
  have v3 : gad g (23) = q4 := (List.cons.inj u5).1.symm
  have t3 := at3.2.2.2 g e1 v3 u6 trivial
  have v4 : gad g (24) = q5 := (List.cons.inj u7).1.symm
  have t4 := at4.2.2.2 g e1 v4 u8 trivial
  refine ⟨?_, fun n hn => ?_⟩
  · rw [hf0, cell_obj (by decide +kernel : sh 18 = .inr (8, [29, 71, 32, 33, 34])), ← v0, ← v1, ← v2, ← v3, ← v4]
    rfl
  · rcases List.mem_append.mp hn with hn | hn
    · rw [List.mem_singleton.mp hn, v0]; exact t0.1
    rcases List.mem_append.mp hn with hn | hn
    · exact t0.2 n hn
    rcases List.mem_append.mp hn with hn | hn
    · rw [List.mem_singleton.mp hn, v1]; exact t1.1
    rcases List.mem_append.mp hn with hn | hn
    · exact t1.2 n hn
    rcases List.mem_append.mp hn with hn | hn
    · rw [List.mem_singleton.mp hn, v2]; exact t2.1
    rcases List.mem_append.mp hn with hn | hn
    · rw [List.mem_singleton.mp hn, v3]; exact t3.1
    rcases List.mem_append.mp hn with hn | hn
    · exact t3.2 n hn
    rcases List.mem_append.mp hn with hn | hn
    · rw [List.mem_singleton.mp hn, v4]; exact t4.1
    exact t4.2 n hn
