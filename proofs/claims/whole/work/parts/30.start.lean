theorem wd_75 : Cond.classLink "StairIdealsLaw" 7 "StairIdeals" ∈ LW := LW_mem 75 (by decide +kernel) rfl
theorem wd_76 : Cond.instantiable "StairIdeals" 5 ∈ LW := LW_mem 76 (by decide +kernel) rfl
theorem wd_77 : Cond.methodLink "StairIdealsLaw" 9 yX10_init ∈ LW := LW_mem 77 (by decide +kernel) rfl
theorem wd_78 : Cond.instanceMethod yX10_init ∈ LW := LW_mem 78 (by decide +kernel) rfl
theorem wd_79 : Cond.code yX10_init prog_1_method_1_code 1 none ∈ LW := LW_mem 79 (by decide +kernel) rfl
theorem wd_725 : Cond.classLink "StairIdealsLaw" 10 "StairIdealsModel" ∈ LW := LW_mem 725 (by decide +kernel) rfl
theorem wd_726 : Cond.instantiable "StairIdealsModel" 31 ∈ LW := LW_mem 726 (by decide +kernel) rfl
theorem wd_727 : Cond.methodLink "StairIdealsLaw" 12 yX11_init ∈ LW := LW_mem 727 (by decide +kernel) rfl
theorem wd_728 : Cond.instanceMethod yX11_init ∈ LW := LW_mem 728 (by decide +kernel) rfl
theorem wd_729 : Cond.code yX11_init prog_13_method_1_code 1 none ∈ LW := LW_mem 729 (by decide +kernel) rfl
theorem n_astore_n {κ : KT} {D : va_G} {T : Nat → ClassId} {A : Nat → Prop} {own : String} {cc : ByteArray} {nL fr lo mc ms : Nat} {Q : State → Prop} {cells slots : Nat} {L : List Nat} {f : Nat → va_E} {pc : Nat} {xs xs1 : List (Nat × Value)} {st : List Value} (C : NX κ D T A own cc nL fr lo mc ms) {k : Fin 4} {i : Nat} {x : Nat} (hd : decode cc pc = .ok (.astore_n k, 1)) (hi : (k : Nat) = i) (hn : i < nL) (hp : put i (.ref x) xs = xs1) (h : NJ κ D A nL Q cells slots L f (pc + 1) xs1 st) : NJ κ D A nL Q cells slots L f pc xs (.ref x :: st) := fun H locs ls hP hD hS hl => lv_astore_n C.ex C.cd hd hi hl hn rfl (fun ls2 hl2 => h H locs ls2 hP hD hS (hp ▸ put_has hl2))
def ordL : List Nat := 18 :: (ndX10 ++ (0 :: ndX11))
theorem ordL_len : ordL.length = 97 := by decide +kernel
theorem ordL_idx : ∀ i, i < 97 → ordL.idxOf (ordL.getD i 200) = i := by decide +kernel
theorem ordL_at : ∀ n, n < 97 → ordL.idxOf n < 97 ∧ ordL.getD (ordL.idxOf n) 200 = n := by decide +kernel
theorem ordL_mem : ∀ n, n < 97 → n ∈ ordL := by decide +kernel
theorem ordL_map {ad : List Nat} (h : ad.length = 97) : ad = ordL.map (fun n => ad.getD (ordL.idxOf n) 0) := by
  apply List.ext_getElem?
  intro i
  rw [List.getElem?_map]
  by_cases hi : i < 97
  · have h1 : ordL[i]? = some (ordL.getD i 200) := by
      rw [List.getD_eq_getElem?_getD, List.getElem?_eq_getElem (by rw [ordL_len]; exact hi)]
      rfl
    rw [h1]
    show _ = some (ad.getD (ordL.idxOf (ordL.getD i 200)) 0)
    rw [ordL_idx i hi, List.getD_eq_getElem?_getD, List.getElem?_eq_getElem (by omega)]
    rfl
  · rw [List.getElem?_eq_none (by omega), List.getElem?_eq_none (by rw [ordL_len]; omega)]
    rfl
set_option maxRecDepth 20000 in
theorem whole_from {Inv : (Nat → Bool) → St → Prop} (hpf : PF Inv) (hI0 : Inv (fun _ => false) S0) {p : Program} {e : Env} {s : State} {m : MethodId} {below : List Frame} {meth : Method} {c : Code} (l : Launch) {b L : Nat} {xs : Nat → Int32} (hL : L ≤ 2560) (C0 : lw_At p s m meth c b L xs) : W p l e room_1 s m #[Value.ref b] below meth c s.heap [] 0 0 (lw_Z below #[Value.ref b] s) (entryFrame m ([Value.ref b] : List Value).toArray 4) := by
  obtain ⟨hx, hb, hr, hml, hown, hts, hX, hbl, hlocks, hgv⟩ := id C0
  have hLW : ∀ w ∈ LW, w.before #[Value.ref b] s = true := fun w h => hts w (List.mem_filter.mp h).1
  obtain ⟨c0, i0, k0⟩ := u_known (C := RX0) (T := TX0) (N := 1) (n := 1) hLW lwX0 (hLW _ wd_191)
  obtain ⟨c1, i1, k1⟩ := u_known (C := RX1) (T := TX1) (N := 3) (n := 3) hLW lwX1 (hLW _ wd_116)
  obtain ⟨c2, i2, k2⟩ := u_known (C := RX2) (T := TX2) (N := 2) (n := 2) hLW lwX2 (hLW _ wd_123)
  obtain ⟨c3, i3, k3⟩ := u_known (C := RX4) (T := TX4) (N := 7) (n := 7) hLW lwX4 (hLW _ wd_84)
  obtain ⟨c4, i4, k4⟩ := u_known (C := RX6) (T := TX6) (N := 1) (n := 1) hLW lwX6 (hLW _ wd_164)
  obtain ⟨c5, i5, k5⟩ := u_known (C := RX7) (T := TX7) (N := 4) (n := 4) hLW lwX7 (hLW _ wd_183)
  obtain ⟨c6, i6, k6⟩ := u_known (C := RX8) (T := TX8) (N := 3) (n := 3) hLW lwX8 (hLW _ wd_201)
  obtain ⟨c7, i7, k7⟩ := u_known (C := RX9) (T := TX9) (N := 2) (n := 2) hLW lwX9 (hLW _ wd_158)
  obtain ⟨c8, i8, k8⟩ := u_known (C := RX10) (T := TX10) (N := 5) (n := 5) hLW lwX10 (hLW _ wd_76)
  obtain ⟨c9, i9, k9⟩ := u_known (C := RX11) (T := TX11) (N := 31) (n := 31) hLW lwX11 (hLW _ wd_726)
  obtain ⟨a0, ka0, ca0, fa0, ga0, ha0⟩ := Cond.arrayClass_spec (hLW _ wd_114)
  obtain ⟨a1, ka1, ca1, fa1, ga1, ha1⟩ := Cond.arrayClass_spec (hLW _ wd_825)
  obtain ⟨ca2, a2, ka2, ea2, -, ga2, ha2, fa2⟩ := Cond.arrayOver_spec (n := RX2) (hts _ (List.mem_of_getElem? (i := 122) (by decide +kernel)))
  obtain ⟨ca3, a3, ka3, ea3, -, ga3, ha3, fa3⟩ := Cond.arrayOver_spec (n := RX1) (hts _ (List.mem_of_getElem? (i := 156) (by decide +kernel)))
  obtain ⟨ca4, a4, ka4, ea4, -, ga4, ha4, fa4⟩ := arrayOver_specB (t := .int) (hts _ (List.mem_of_getElem? (i := 207) (by decide +kernel)))
  obtain ⟨D, hKc⟩ : ∃ D : va_G, ∀ (k : Nat) (q : vw_C), classes[k]? = some q → u_Kn s q.1 q.2.1 q.2.2 (D.1 k) (D.2 k) := by
    refine ⟨(fun k => match k with | 0 => c0 | 1 => c1 | 2 => c2 | 3 => c3 | 4 => c4 | 5 => c5 | 6 => c6 | 7 => c7 | 8 => c8 | _ => c9, fun k => match k with | 0 => i0 | 1 => i1 | 2 => i2 | 3 => i3 | 4 => i4 | 5 => i5 | 6 => i6 | 7 => i7 | 8 => i8 | _ => i9), ?_⟩
    intro k q hq
    match k, hq with
    | 0, hq => cases hq; exact k0
    | 1, hq => cases hq; exact k1
    | 2, hq => cases hq; exact k2
    | 3, hq => cases hq; exact k3
    | 4, hq => cases hq; exact k4
    | 5, hq => cases hq; exact k5
    | 6, hq => cases hq; exact k6
    | 7, hq => cases hq; exact k7
    | 8, hq => cases hq; exact k8
    | 9, hq => cases hq; exact k9
    | k + 10, hq => simp [classes] at hq
  obtain ⟨T, hT0, hT1, hT2, hT3, hT4⟩ : ∃ T : Nat → ClassId, T 0 = a0 ∧ T 1 = a1 ∧ T 2 = a2 ∧ T 3 = a3 ∧ T 4 = a4 := ⟨fun k => match k with | 0 => a0 | 1 => a1 | 2 => a2 | 3 => a3 | _ => a4, rfl, rfl, rfl, rfl, rfl⟩
  subst hT0 hT1 hT2 hT3 hT4
  have hK : va_K D classes (tysT T) s := by
    refine ⟨hKc, fun k q hq => ?_⟩
    match k, hq with
    | 0, hq => cases hq; exact ⟨fun n z => ⟨fun k h => (by cases h), ka0, ga0, ca0, ha0⟩, fa0⟩
    | 1, hq => cases hq; exact ⟨fun n z => ⟨fun k h => (by cases h), ka1, ga1, ca1, ha1⟩, fa1⟩
    | 2, hq => cases hq; exact ⟨fun n z => ⟨fun k h => (by cases h), ka2, ga2, ca2, ha2⟩, ka2, ca2, ga2, ha2, ea2, fa2⟩
    | 3, hq => cases hq; exact ⟨fun n z => ⟨fun k h => (by cases h), ka3, ga3, ca3, ha3⟩, ka3, ca3, ga3, ha3, ea3, fa3⟩
    | 4, hq => cases hq; exact ⟨fun n z => ⟨fun k h => (by cases h), ka4, ga4, ca4, ha4⟩, fa4⟩
    | k + 5, hq => simp [tysT] at hq
  have hN : arN T s := ⟨fa0, fa1, fa2, fa3, fa4⟩
  have hax : auxN s := by
    refine ⟨fun w hw => ?_, va_AO.of (hts (.arrayOver (.object RX2)) (List.mem_of_getElem? (i := 122) (by decide +kernel))), va_AO.of (hts (.arrayOver (.object RX1)) (List.mem_of_getElem? (i := 156) (by decide +kernel))), (hts (.arrayOver (.array .int)) (List.mem_of_getElem? (i := 207) (by decide +kernel)))⟩
    unfold NB at hw
    simp only [List.mem_cons, List.not_mem_nil, or_false] at hw
    rcases hw with rfl | rfl | rfl | rfl | rfl | rfl | rfl | rfl
    · exact va_Nw.of rfl (hts _ (List.mem_of_getElem? (i := 85) (by decide +kernel)))
    · exact va_Nw.of rfl (hts _ (List.mem_of_getElem? (i := 124) (by decide +kernel)))
    · exact va_Nw.of rfl (hts _ (List.mem_of_getElem? (i := 159) (by decide +kernel)))
    · exact va_Nw.of rfl (hts _ (List.mem_of_getElem? (i := 165) (by decide +kernel)))
    · exact va_Nw.of rfl (hts _ (List.mem_of_getElem? (i := 184) (by decide +kernel)))
    · exact va_Nw.of rfl (hts _ (List.mem_of_getElem? (i := 189) (by decide +kernel)))
    · exact va_Nw.of rfl (hts _ (List.mem_of_getElem? (i := 192) (by decide +kernel)))
    · exact va_Nw.of rfl (hts _ (List.mem_of_getElem? (i := 202) (by decide +kernel)))
  have hfl := flat_of_before _ hgv
  have hAs : ∀ a : Nat, a < s.heap.size → ¬ (fun q : Nat => s.heap.size ≤ q) a := fun a h => Nat.not_le.mpr h
  obtain ⟨t1, e1, hT1⟩ := va_Tof (A := fun q : Nat => s.heap.size ≤ q) (N := 16) (f := fun j => .int (ofs j)) (by decide) (hfl (.arrayOf (.static "StairIdeals$Monomial" "OF_SET" "[I") .int) (by decide +kernel)) (va_eqt (hfl (.eq (.length (.static "StairIdeals$Monomial" "OF_SET" "[I")) (.int 16)) (by decide +kernel))) (fun j hj => by
    match j, hj with
    | 0, _ => exact va_eqt (hfl (.eq (.elem (.static "StairIdeals$Monomial" "OF_SET" "[I") (.int 0)) (.int 0)) (by decide +kernel))
    | 1, _ => exact va_eqt (hfl (.eq (.elem (.static "StairIdeals$Monomial" "OF_SET" "[I") (.int 1)) (.int 4096)) (by decide +kernel))
    | 2, _ => exact va_eqt (hfl (.eq (.elem (.static "StairIdeals$Monomial" "OF_SET" "[I") (.int 2)) (.int 256)) (by decide +kernel))
    | 3, _ => exact va_eqt (hfl (.eq (.elem (.static "StairIdeals$Monomial" "OF_SET" "[I") (.int 3)) (.int 4352)) (by decide +kernel))
    | 4, _ => exact va_eqt (hfl (.eq (.elem (.static "StairIdeals$Monomial" "OF_SET" "[I") (.int 4)) (.int 16)) (by decide +kernel))
    | 5, _ => exact va_eqt (hfl (.eq (.elem (.static "StairIdeals$Monomial" "OF_SET" "[I") (.int 5)) (.int 4112)) (by decide +kernel))
    | 6, _ => exact va_eqt (hfl (.eq (.elem (.static "StairIdeals$Monomial" "OF_SET" "[I") (.int 6)) (.int 272)) (by decide +kernel))
    | 7, _ => exact va_eqt (hfl (.eq (.elem (.static "StairIdeals$Monomial" "OF_SET" "[I") (.int 7)) (.int 4368)) (by decide +kernel))
    | 8, _ => exact va_eqt (hfl (.eq (.elem (.static "StairIdeals$Monomial" "OF_SET" "[I") (.int 8)) (.int 1)) (by decide +kernel))
    | 9, _ => exact va_eqt (hfl (.eq (.elem (.static "StairIdeals$Monomial" "OF_SET" "[I") (.int 9)) (.int 4097)) (by decide +kernel))
    | 10, _ => exact va_eqt (hfl (.eq (.elem (.static "StairIdeals$Monomial" "OF_SET" "[I") (.int 10)) (.int 257)) (by decide +kernel))
    | 11, _ => exact va_eqt (hfl (.eq (.elem (.static "StairIdeals$Monomial" "OF_SET" "[I") (.int 11)) (.int 4353)) (by decide +kernel))
    | 12, _ => exact va_eqt (hfl (.eq (.elem (.static "StairIdeals$Monomial" "OF_SET" "[I") (.int 12)) (.int 17)) (by decide +kernel))
    | 13, _ => exact va_eqt (hfl (.eq (.elem (.static "StairIdeals$Monomial" "OF_SET" "[I") (.int 13)) (.int 4113)) (by decide +kernel))
    | 14, _ => exact va_eqt (hfl (.eq (.elem (.static "StairIdeals$Monomial" "OF_SET" "[I") (.int 14)) (.int 273)) (by decide +kernel))
    | 15, _ => exact va_eqt (hfl (.eq (.elem (.static "StairIdeals$Monomial" "OF_SET" "[I") (.int 15)) (.int 4369)) (by decide +kernel))
    | j + 16, hj => omega) hAs
  obtain ⟨t2, e2, hT2⟩ := va_Tof (A := fun q : Nat => s.heap.size ≤ q) (N := 16) (f := fun j => .int (stp j)) (by decide) (hfl (.arrayOf (.static "StairIdeals$Survey" "STEPS" "[I") .int) (by decide +kernel)) (va_eqt (hfl (.eq (.length (.static "StairIdeals$Survey" "STEPS" "[I")) (.int 16)) (by decide +kernel))) (fun j hj => by
    match j, hj with
    | 0, _ => exact va_eqt (hfl (.eq (.elem (.static "StairIdeals$Survey" "STEPS" "[I") (.int 0)) (.int (1))) (by decide +kernel))
    | 1, _ => exact va_eqt (hfl (.eq (.elem (.static "StairIdeals$Survey" "STEPS" "[I") (.int 1)) (.int (0))) (by decide +kernel))
    | 2, _ => exact va_eqt (hfl (.eq (.elem (.static "StairIdeals$Survey" "STEPS" "[I") (.int 2)) (.int (0))) (by decide +kernel))
    | 3, _ => exact va_eqt (hfl (.eq (.elem (.static "StairIdeals$Survey" "STEPS" "[I") (.int 3)) (.int (0))) (by decide +kernel))
    | 4, _ => exact va_eqt (hfl (.eq (.elem (.static "StairIdeals$Survey" "STEPS" "[I") (.int 4)) (.int (1))) (by decide +kernel))
    | 5, _ => exact va_eqt (hfl (.eq (.elem (.static "StairIdeals$Survey" "STEPS" "[I") (.int 5)) (.int (-1))) (by decide +kernel))
    | 6, _ => exact va_eqt (hfl (.eq (.elem (.static "StairIdeals$Survey" "STEPS" "[I") (.int 6)) (.int (0))) (by decide +kernel))
    | 7, _ => exact va_eqt (hfl (.eq (.elem (.static "StairIdeals$Survey" "STEPS" "[I") (.int 7)) (.int (0))) (by decide +kernel))
    | 8, _ => exact va_eqt (hfl (.eq (.elem (.static "StairIdeals$Survey" "STEPS" "[I") (.int 8)) (.int (1))) (by decide +kernel))
    | 9, _ => exact va_eqt (hfl (.eq (.elem (.static "StairIdeals$Survey" "STEPS" "[I") (.int 9)) (.int (-2))) (by decide +kernel))
    | 10, _ => exact va_eqt (hfl (.eq (.elem (.static "StairIdeals$Survey" "STEPS" "[I") (.int 10)) (.int (1))) (by decide +kernel))
    | 11, _ => exact va_eqt (hfl (.eq (.elem (.static "StairIdeals$Survey" "STEPS" "[I") (.int 11)) (.int (0))) (by decide +kernel))
    | 12, _ => exact va_eqt (hfl (.eq (.elem (.static "StairIdeals$Survey" "STEPS" "[I") (.int 12)) (.int (1))) (by decide +kernel))
    | 13, _ => exact va_eqt (hfl (.eq (.elem (.static "StairIdeals$Survey" "STEPS" "[I") (.int 13)) (.int (-3))) (by decide +kernel))
    | 14, _ => exact va_eqt (hfl (.eq (.elem (.static "StairIdeals$Survey" "STEPS" "[I") (.int 14)) (.int (3))) (by decide +kernel))
    | 15, _ => exact va_eqt (hfl (.eq (.elem (.static "StairIdeals$Survey" "STEPS" "[I") (.int 15)) (.int (-1))) (by decide +kernel))
    | j + 16, hj => omega) hAs
  have hst : statA t1 t2 (fun q : Nat => s.heap.size ≤ q) s s.heap := ⟨⟨va_Zref (hts (.laysStatic "StairIdeals$Monomial" "OF_SET" "[I") (List.mem_of_getElem? (i := 435) (by decide +kernel))) (hLW _ wd_69) e1 hAs, hT1⟩, va_Zref (hts (.laysStatic "StairIdeals$Survey" "STEPS" "[I") (List.mem_of_getElem? (i := 548) (by decide +kernel))) (hLW _ wd_65) e2 hAs, hT2⟩
  have C : GX (p, l, e, room_1, s, m, #[Value.ref b], below, meth, c) D T t1 t2 (fun q => s.heap.size ≤ q) RL cL_law 4 2048 84000 600000 7302250 := ⟨⟨hx, hb, hml, hown, hLW, hlocks, hK, hN, hax, fun q h => h, rfl⟩, hst⟩
  have hl := lv_entry ([.ref b]) (n := 4) (Nat.le_of_ble_eq_true rfl)
  rw [lg_entry_eq]
  suffices K : NJ (p, l, e, room_1, s, m, #[Value.ref b], below, meth, c) D (fun q => s.heap.size ≤ q) 4 (lw_Z below #[Value.ref b] s) 0 0 [] (fun _ => .inr (0, [])) 0 [(0, .ref b)] [] from K s.heap [] _ (fun k q h => by simp [va_pl] at h) ⟨fun i j p q h => by simp [va_pl] at h, fun k q h => by simp [va_pl] at h⟩ va_S.rf hl
  refine n_new C.1 (ci := 8) (ty := tyX10) [.null, .null, .null, .null, .null] rfl lwX10 tyX10_ok wd_75 wd_76 wd_59 (by decide) (Nat.le_of_ble_eq_true rfl) (Nat.le_of_ble_eq_true rfl) dL_law_0 (fun q0 hq0 => ?_)
  refine n_dup C.1 rfl dL_law_3 ?_
  have hmq : q0 ∈ ([] : List Nat) ++ [q0] := List.mem_append_right _ (List.mem_singleton.mpr rfl)
  refine n_callI C.1 wd_77 wd_78 wd_59 wd_79 (by decide +kernel) (fun _ => cnX10_init hmq (va_up_self _ q0 _)) ⟨(Nat.le_of_ble_eq_true rfl), (Nat.le_of_ble_eq_true rfl)⟩ ⟨(Nat.le_of_ble_eq_true rfl), (Nat.le_of_ble_eq_true rfl)⟩ (Nat.le_of_ble_eq_true rfl) dL_law_4 (fun ns1 f1 hp1 hd1 => ?_)
  refine n_astore_n C.1 (xs1 := [(0, .ref b), (1, .ref q0)]) dL_law_7 rfl (by decide) rfl ?_
  refine n_new C.1 (ci := 9) (ty := tyX11) [.null, .null, .null, .null, .null, .int 0, .null, .int 0, .int 0, .null, .int 0, .null, .null, .int 0, .null, .null, .null, .int 0, .null, .int 0, .int 0, .int 0, .null, .int 0, .null, .long 0, .int 0, .null, .null, .int 0, .int 0] rfl lwX11 tyX11_ok wd_725 wd_726 wd_68 (by decide) (Nat.le_of_ble_eq_true rfl) (Nat.le_of_ble_eq_true rfl) dL_law_8 (fun q1 hq1 => ?_)
  refine n_dup C.1 rfl dL_law_11 ?_
  have at1 := hp1.2
  have nq1 : q1 ≠ q0 ∧ q1 ∉ ns1 := ⟨fun z => hq1 (z ▸ at1.2.1), fun z => hq1 (at1.2.2.1 _ z)⟩
  have at1 := AT.fresh (e := .inr (9, [.null, .null, .null, .null, .null, .int 0, .null, .int 0, .int 0, .null, .int 0, .null, .null, .int 0, .null, .null, .null, .int 0, .null, .int 0, .int 0, .int 0, .null, .int 0, .null, .long 0, .int 0, .null, .null, .int 0, .int 0])) at1 hq1
  have hmq1 : q1 ∈ (([] ++ [q0]) ++ ns1) ++ [q1] := List.mem_append_right _ (List.mem_singleton.mpr rfl)
  refine n_callI C.1 wd_727 wd_728 wd_68 wd_729 (by decide +kernel) (fun _ => cnX11_init hmq1 (va_up_self _ q1 _)) ⟨(Nat.le_of_ble_eq_true rfl), (Nat.le_of_ble_eq_true rfl)⟩ ⟨(Nat.le_of_ble_eq_true rfl), (Nat.le_of_ble_eq_true rfl)⟩ (Nat.le_of_ble_eq_true rfl) dL_law_12 (fun ns2 f2 hp2 hd2 => ?_)
  have at1 := AT.call (ns1 := ns2) at1 hp2.1 nq1
  have at2 := hp2.2
  refine n_astore_n C.1 (xs1 := [(0, .ref b), (1, .ref q0), (2, .ref q1)]) dL_law_15 rfl (by decide) rfl ?_
  refine n_iconst C.1 (v := nI 0) (by decide) dL_law_16 ?_
  refine n_istore_n C.1 (xs1 := [(0, .ref b), (1, .ref q0), (2, .ref q1), (3, .int (nI 0))]) dL_law_17 rfl (by decide) rfl ?_
  have hlen1 : ns1.length = ndX10.length := at1.1
  have hlen2 : ns2.length = ndX11.length := at2.1
  have hn10 : ndX10.length = 78 := by decide +kernel
  have hn11 : ndX11.length = 17 := by decide +kernel
  have hlen : (q0 :: (ns1 ++ (q1 :: ns2))).length = 97 := by
    rw [List.length_cons, List.length_append, List.length_cons]
    omega
  obtain ⟨gf, hgf⟩ : ∃ gf : Nat → Nat, gf = fun n => (q0 :: (ns1 ++ (q1 :: ns2))).getD (ordL.idxOf n) 0 := ⟨_, rfl⟩
  have hmap : q0 :: (ns1 ++ (q1 :: ns2)) = ordL.map gf := by rw [hgf]; exact ordL_map hlen
  have hmap2 : q0 :: (ns1 ++ (q1 :: ns2)) = gf 18 :: (ndX10.map gf ++ (gf 0 :: ndX11.map gf)) := by
    rw [hmap]
    unfold ordL
    rw [List.map_cons, List.map_append, List.map_cons]
  obtain ⟨u0, u1⟩ := List.cons.inj hmap2
  obtain ⟨u1, u2⟩ := List.append_inj u1 (by rw [List.length_map]; exact hlen1)
  obtain ⟨u2, u3⟩ := List.cons.inj u2
  have r1 := at1.2.2.2 (D, T, gf, fun _ => false, t1, t2) rfl u0.symm u1 (fun _ => rfl)
  have r2 := at2.2.2.2 (D, T, gf, fun _ => false, t1, t2) rfl u2.symm u3 trivial
  have hlow : ∀ n, lvb (D, T, gf, fun _ => false, t1, t2) n = true → n < 97 := fun n hn => by
    unfold lvb at hn
    simp only [Bool.or_eq_true, Bool.and_eq_true, Nat.blt_eq] at hn
    rcases hn with h | ⟨h, -⟩ | ⟨h, -⟩
    · exact h
    · cases h
    · cases h
  have eL : ((([] ++ [q0]) ++ ns1) ++ [q1]) ++ ns2 = q0 :: (ns1 ++ (q1 :: ns2)) := by simp
  refine GJ_back (t1 := t1) (t2 := t2) (g := (D, T, gf, fun _ => false, t1, t2)) (S := S0) rfl rfl rfl rfl (fun n hn => ?_) (fun hnd n k hn hk ee => ?_) (fun hok => ?_)
  · have hn97 := hlow n hn
    have hmem := ordL_mem n hn97
    refine ⟨?_, ?_⟩
    · rw [eL, hmap]
      exact List.mem_map.mpr ⟨n, hmem, rfl⟩
    · show f2 (gf n) = _
      unfold ordL at hmem
      rcases List.mem_cons.mp hmem with h | h
      · subst h
        rw [← u0]
        exact r1.1
      · rcases List.mem_append.mp h with h | h
        · exact r1.2 n h
        · rcases List.mem_cons.mp h with h | h
          · subst h
            rw [← u2]
            exact r2.1
          · exact r2.2 n h
  · rw [eL] at hnd
    obtain ⟨n1, n2⟩ := ordL_at n (hlow n hn)
    obtain ⟨k1, k2⟩ := ordL_at k (hlow k hk)
    have ee2 : gf n = gf k := ee
    rw [hgf] at ee2
    have ee3 : (q0 :: (ns1 ++ (q1 :: ns2))).getD (ordL.idxOf n) 0 = (q0 :: (ns1 ++ (q1 :: ns2))).getD (ordL.idxOf k) 0 := ee2
    rw [List.getD_eq_getElem?_getD, List.getD_eq_getElem?_getD, List.getElem?_eq_getElem (by omega), List.getElem?_eq_getElem (by omega)] at ee3
    have ee4 : (q0 :: (ns1 ++ (q1 :: ns2)))[ordL.idxOf n]? = (q0 :: (ns1 ++ (q1 :: ns2)))[ordL.idxOf k]? := by
      rw [List.getElem?_eq_getElem (by omega), List.getElem?_eq_getElem (by omega)]
      exact congrArg some ee3
    have ee5 := (List.getElem?_inj (by omega) hnd).mp ee4
    rw [← n2, ← k2, ee5]
  · rw [u0, u2]
    refine g_widen (k := 10000 + 36 * 0) (n := 100000 + 703 * 0) (Nat.le_of_ble_eq_true rfl) (Nat.le_of_ble_eq_true rfl) ?_
    refine law_loop hpf C hX hbl hL (fun g S xs H locs ls hP hS hl => ?_) (L + 1) 0 (by omega) (by omega) (D, T, gf, fun _ => false, t1, t2) S0 hI0 hok
    refine va_forget (fun q hq => hS.2.2 q hq) ?_
    exact lw_ret (d0 := s.drawn) (Drawn.sameBut.refl s.drawn lw_cs) hx hb hr hlocks dL_law_960
