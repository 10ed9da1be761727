theorem wd_712 : Cond.methodLink "StairIdeals" 204 yX1_copyFrom ∈ LW := LW_mem 712 (by decide +kernel) rfl
theorem wd_713 : Cond.instanceMethod yX1_copyFrom ∈ LW := LW_mem 713 (by decide +kernel) rfl
theorem wd_714 : Cond.selects "StairIdeals$Holdings" yX1_copyFrom yX1_copyFrom ∈ LW := LW_mem 714 (by decide +kernel) rfl
theorem wd_715 : Cond.code yX1_copyFrom prog_3_method_2_code 3 none ∈ LW := LW_mem 715 (by decide +kernel) rfl
theorem fl_X10_23 : FL RX10 23 8 2 := ⟨_, _, _, rfl, lwX10, by decide, wd_236⟩
theorem sh_22 : sh 22 = .inl (3, 2) := by decide +kernel
theorem mv_X10_204 : MVt RX10 204 yX1_copyFrom cX1_copyFrom 3 none 1 := ⟨wd_712, wd_713, wd_714, wd_61, wd_715, by decide, by decide, by decide +kernel⟩
theorem va_Zgrow {C n d : String} {v : Value} {A : Nat → Prop} {U : State} {H : Heap} (h : va_Z C n d v A U H) : va_Z C n d v (fun q => A q ∨ H.size ≤ q) U H := by
  obtain ⟨cf, kf, fi, f, a, cell, h1, h2, h3, h4, h5, h6, h7, h8⟩ := h
  have hlt := (Array.getElem?_eq_some_iff.mp h5).1
  exact ⟨cf, kf, fi, f, a, cell, h1, h2, h3, h4, h5, h6, h7, fun z => z.elim h8 (fun w => by omega)⟩
theorem va_Tgrow {ty : FieldType} {t N : Nat} {f : Nat → Value} {A : Nat → Prop} {U : State} {H : Heap} (h : va_T ty t N f A U H) : va_T ty t N f (fun q => A q ∨ H.size ≤ q) U H := by
  obtain ⟨cell, h1, h2, h3, h4, h5, h6, h7⟩ := h
  have hlt := (Array.getElem?_eq_some_iff.mp h1).1
  exact ⟨cell, h1, h2, h3, h4, h5, h6, fun z => z.elim h7 (fun w => by omega)⟩
theorem statA.grow {t1 t2 : Nat} {A : Nat → Prop} {U : State} {H : Heap} (h : statA t1 t2 A U H) : statA t1 t2 (fun q => A q ∨ H.size ≤ q) U H := ⟨⟨va_Zgrow h.1.1, va_Tgrow h.1.2⟩, va_Zgrow h.2.1, va_Tgrow h.2.2⟩
section IM
variable {κ : KT} {D : va_G} {T : Nat → ClassId} {t1 t2 sz : Nat} {g0 : GT} {Post : Int32 → GT → St → Prop}
theorem img_ret (C : GX κ D T t1 t2 (fun q => gAd g0 q ∨ sz ≤ q) RX10 cX10_image 2 4 143 36 703) (hrt : (kt κ).sig.returnType = some .int) {g : GT} {S : St} {pc : Nat} {xs : List (Nat × Value)} {v : Int32} (hg : GOK D T t1 t2 (fun q => gAd g0 q ∨ sz ≤ q) g) (hp : Post v g S) (hd : decode cX10_image pc = .ok (.ireturn, 1)) : GJ κ (fun q => gAd g0 q ∨ sz ≤ q) 2 (MQ (kb κ) (QI D T t1 t2 sz g0 Post) (ka κ) (ks κ) 36 703 (fun q => gAd g0 q ∨ sz ≤ q)) 36 703 g S pc xs [.int v] :=
  fun H locs ls hP hS hl => W.iret C.1.ex C.1.cd hrt (fun t ht _ => ⟨⟨v, g, S, rfl, hp, ht ▸ hP, hg⟩, hS.F ht⟩) hS.2.2 hd C.1.lk
theorem img_34 (C : GX κ D T t1 t2 (fun q => gAd g0 q ∨ sz ≤ q) RX10 cX10_image 2 4 143 36 703) (hrt : (kt κ).sig.returnType = some .int) {g : GT} {S S2 : St} {j : Nat} {k : Int32} (hg : GOK D T t1 t2 (fun q => gAd g0 q ∨ sz ≤ q) g) (hj : j < 2) (hk : k = nI j) (hpr : gpr g j = true) (hc : mX1_copyFrom S (97 + 36 * j) 61 = some S2) (hp : Post 1 g S2) : GJ κ (fun q => gAd g0 q ∨ sz ≤ q) 2 (MQ (kb κ) (QI D T t1 t2 sz g0 Post) (ka κ) (ks κ) 36 703 (fun q => gAd g0 q ∨ sz ≤ q)) 36 703 g S 34 [(0, .ref (gad g 18)), (1, .int k)] [] := by
  refine g_aload_n C 0 rfl dX10_image_34 rfl ?_
  refine g_getR C hg (x := 22) fl_X10_23 sh_18 rfl rfl dX10_image_35 ?_
  refine g_iload_n C 1 rfl dX10_image_38 rfl ?_
  refine g_aald3 C hg sh_22 rfl (by rw [hk]; exact vp_in_nI hj (by decide)) dX10_image_39 ?_
  rw [show k.toNatClampNeg = j by rw [hk]; exact nI_clamp (by omega), if_pos hpr]
  show GJ _ _ _ _ _ _ _ _ _ _ [.ref (gad g (97 + 36 * j))]
  refine g_aload_n C 0 rfl dX10_image_40 rfl ?_
  refine g_getR C hg (x := 61) fl_X10_19 sh_18 rfl rfl dX10_image_41 ?_
  have hH := okH_img (g := g) hj hpr
  refine g_callV C hg [.ref (gad g 61)] [] mv_X10_204 hH.1 hH.2.2.2.2.1 rfl (ctX1_copyFrom hH okH_61 hc) ⟨(Nat.le_of_ble_eq_true rfl), (Nat.le_of_ble_eq_true rfl)⟩ ⟨(Nat.le_of_ble_eq_true rfl), (Nat.le_of_ble_eq_true rfl)⟩ (Nat.le_of_ble_eq_true rfl) dX10_image_44 rfl ?_
  show GJ _ _ _ _ _ _ _ S2 _ _ []
  refine g_iconst C (v := 1) (by decide) dX10_image_47 ?_
  exact img_ret C hrt hg hp dX10_image_48
theorem img_new (C : GX κ D T t1 t2 (fun q => gAd g0 q ∨ sz ≤ q) RX10 cX10_image 2 4 143 36 703) (hrt : (kt κ).sig.returnType = some .int) {g : GT} {S S2 : St} {j : Nat} {k : Int32} (hg : GOK D T t1 t2 (fun q => gAd g0 q ∨ sz ≤ q) g) (hj : j < 2) (hk : k = nI j) (hpr : gpr g j = false) (hc : mX1_copyFrom (clr S j) (97 + 36 * j) 61 = some S2) (hp : ∀ q ns, Post 1 (gext g j q ns) S2) : GJ κ (fun q => gAd g0 q ∨ sz ≤ q) 2 (MQ (kb κ) (QI D T t1 t2 sz g0 Post) (ka κ) (ks κ) 36 703 (fun q => gAd g0 q ∨ sz ≤ q)) 0 0 g S 26 [(0, .ref (gad g 18)), (1, .int k)] [.int k, .ref (gad g 22)] := by
  have hkj : k.toNatClampNeg = j := by rw [hk]; exact nI_clamp (by omega)
  have hold := hg.2.2.2.2 S
  refine GJ_pool hg (fun f hf => ?_)
  refine n_new C.1 (ci := 1) (ty := tyX1) [.null, .null, .null] rfl lwX1 tyX1_ok wd_115 wd_116 wd_61 (by decide) (Nat.le_of_ble_eq_true rfl) (Nat.le_of_ble_eq_true rfl) dX10_image_26 (fun q hq => ?_)
  refine n_dup C.1 rfl dX10_image_29 ?_
  have hmq : q ∈ (liveL g).map (gad g) ++ [q] := List.mem_append_right _ (List.mem_singleton.mpr rfl)
  refine n_callI C.1 wd_117 wd_118 wd_61 wd_119 (by decide +kernel) (fun _ => cnX1_init (n0 := 97 + 36 * j) (okN_img hj) hmq (va_up_self f q _)) ⟨(Nat.le_of_ble_eq_true rfl), (Nat.le_of_ble_eq_true rfl)⟩ ⟨(Nat.le_of_ble_eq_true rfl), (Nat.le_of_ble_eq_true rfl)⟩ (Nat.le_of_ble_eq_true rfl) dX10_image_30 (fun ns f1 hp1 hd => ?_)
  have hin : ∀ n, lvb g n = true → gad g n ∈ (liveL g).map (gad g) := fun n hn => List.mem_map.mpr ⟨n, live_mem hn, rfl⟩
  have hneq : ∀ n, lvb g n = true → gad g n ≠ q := fun n hn z => hq (z ▸ hin n hn)
  have hf1 : ∀ n, lvb g n = true → f1 (gad g n) = cellS g S n := fun n hn => by
    rw [hp1.1 _ (List.mem_append_left _ (hin n hn)) (hneq n hn), va_up_ne _ _ (hneq n hn), hf n hn]
  have hlen : ns.length = 35 := by
    have h1 := hp1.2.1
    unfold ndH at h1
    rw [List.length_map, List.length_range] at h1
    exact h1
  have hb0 : blk j (97 + 36 * j) = true := by
    unfold blk
    simp only [Bool.and_eq_true, Nat.ble_eq, Nat.blt_eq]
    omega
  have hq0 : gad (gext g j q ns) (97 + 36 * j) = q := by
    rw [gext_in hb0, Nat.sub_self]
    rfl
  have hbk : ∀ i, i < 35 → blk j (97 + 36 * j + 1 + i) = true := fun i hi => by
    unfold blk
    simp only [Bool.and_eq_true, Nat.ble_eq, Nat.blt_eq]
    omega
  have hns : ns = (ndH (97 + 36 * j)).map (gad (gext g j q ns)) := by
    apply List.ext_getElem?
    intro i
    unfold ndH
    rw [List.getElem?_map, List.getElem?_map]
    by_cases hi : i < 35
    · rw [List.getElem?_range hi]
      show _ = some (gad (gext g j q ns) (97 + 36 * j + 1 + i))
      rw [gext_in (hbk i hi), show 97 + 36 * j + 1 + i - (97 + 36 * j) = i + 1 by omega, List.getD_eq_getElem?_getD]
      show _ = some ((ns[i]?).getD 0)
      rw [List.getElem?_eq_getElem (by omega)]
      rfl
    · rw [List.getElem?_eq_none (by omega), List.getElem?_eq_none (by rw [List.length_range]; omega)]
      rfl
  have hcell := hp1.2.2.2.2 (gext g j q ns) hg.2.1 hq0 hns trivial
  have hl22 : lvb g 22 = true := rfl
  have hq1 : f1 q = .inr (1, _) := hcell.1.trans (cell_obj (okN_img hj).1)
  have h22 : f1 (gad g 22) = .inl (T 3, 2, .inr (.inr (.inr (.inr (fun i => if gpr g i then some (gad g (el 22 i)) else none))))) := by
    rw [hf1 22 hl22, cell_arr sh_22, ← hg.2.1]
    rfl
  refine n_ast3 C.1 (List.mem_append_left _ (List.mem_append_left _ (hin 22 hl22))) (List.mem_append_left _ hmq) h22 hq1 (by rw [hk]; exact vp_in_nI hj (by decide)) dX10_image_33 ?_
  rw [hkj]
  have hnb : ∀ n, lvb g n = true → blk j n = false := fun n hn => by
    refine Bool.eq_false_iff.mpr (fun hb => ?_)
    rw [blk_of hj hb hpr] at hn
    cases hn
  have hmem : ∀ n, blk j n = true → gad (gext g j q ns) n ∈ q :: ns := fun n hb => by
    rw [gext_in hb]
    unfold blk at hb
    simp only [Bool.and_eq_true, Nat.ble_eq, Nat.blt_eq] at hb
    rw [List.getD_eq_getElem?_getD, List.getElem?_eq_getElem (by show _ < ns.length + 1; omega)]
    exact List.getElem_mem _
  have hnew : ∀ a, a ∈ q :: ns → a ∉ (liveL g).map (gad g) := fun a ha hb => by
    rcases List.mem_cons.mp ha with rfl | ha
    · exact hq hb
    · exact hd a ha (List.mem_append_left _ hb)
  refine GJ_back (t1 := t1) (t2 := t2) (g := gext g j q ns) (S := clr S j) hg.1 hg.2.1 hg.2.2.1 hg.2.2.2.1 (fun n hn => ?_) (fun hnd n m hn hm e => ?_) (fun hok => ?_)
  · rcases (lvb_ext hj).mp hn with h1 | h1
    · have hb := hnb n h1
      rw [gext_out hb]
      refine ⟨List.mem_append_left _ (List.mem_append_left _ (hin n h1)), ?_⟩
      by_cases e22 : n = 22
      · subst e22
        rw [va_up_self, cell_arr sh_22]
        show _ = (.inl (gT g 3, 2, .inr (.inr (.inr (.inr (fun i => if va_up (gpr g) j true i then some (gad (gext g j q ns) (el 22 i)) else none))))) : va_E)
        have hfun : va_up (fun i => if gpr g i then some (gad g (el 22 i)) else none) j (some q) = (fun i => if va_up (gpr g) j true i then some (gad (gext g j q ns) (el 22 i)) else none) := by
          funext i
          by_cases hi : i = j
          · subst hi
            rw [va_up_self, va_up_self, if_pos rfl]
            exact congrArg some hq0.symm
          · rw [va_up_ne _ _ hi, va_up_ne _ _ hi]
            have hb2 : blk j (el 22 i) = false := by
              rw [el22]
              refine Bool.eq_false_iff.mpr (fun hb => ?_)
              unfold blk at hb
              simp only [Bool.and_eq_true, Nat.ble_eq, Nat.blt_eq] at hb
              omega
            rw [gext_out hb2]
        rw [hfun, hg.2.1]
      · have hne : gad g n ≠ gad g 22 := fun z => by
          obtain ⟨a, ha⟩ := live_place h1
          obtain ⟨b, hb⟩ := live_place hl22
          have := hold.1 a b _ _ (ws_at (S := S) ha) (ws_at (S := S) hb) z
          subst this
          exact e22 (Option.some.inj (ha.symm.trans hb))
        rw [va_up_ne _ _ hne, hf1 n h1, cell_out (lvb_lt h1) hj e22 hb]
    · have h2 := hmem n h1
      have h3 : gad (gext g j q ns) n ≠ gad g 22 := fun z => hnew _ h2 (z ▸ hin 22 hl22)
      refine ⟨?_, ?_⟩
      · rcases List.mem_cons.mp h2 with h4 | h4
        · rw [h4]; exact List.mem_append_left _ hmq
        · exact List.mem_append_right _ h4
      · rw [va_up_ne _ _ h3, cell_new h1]
        by_cases e0 : n = 97 + 36 * j
        · rw [e0, hq0]
          exact hcell.1
        · have h5 : n ∈ ndH (97 + 36 * j) := by
            unfold ndH
            refine List.mem_map.mpr ⟨n - (97 + 36 * j + 1), ?_, ?_⟩
            · unfold blk at h1
              simp only [Bool.and_eq_true, Nat.ble_eq, Nat.blt_eq] at h1
              exact List.mem_range.mpr (by omega)
            · unfold blk at h1
              simp only [Bool.and_eq_true, Nat.ble_eq, Nat.blt_eq] at h1
              omega
          exact hcell.2 n h5
  · have hqn : (q :: ns).Nodup := by
      rw [List.append_assoc] at hnd
      exact (List.nodup_append.mp hnd).2.1
    rcases (lvb_ext hj).mp hn with h1 | h1 <;> rcases (lvb_ext hj).mp hm with h2 | h2
    · rw [gext_out (hnb n h1), gext_out (hnb m h2)] at e
      obtain ⟨a, ha⟩ := live_place h1
      obtain ⟨b, hb⟩ := live_place h2
      have := hold.1 a b _ _ (ws_at (S := S) ha) (ws_at (S := S) hb) e
      subst this
      exact Option.some.inj (ha.symm.trans hb)
    · rw [gext_out (hnb n h1)] at e
      exact absurd (hin n h1) (e ▸ hnew _ (hmem m h2))
    · rw [gext_out (hnb m h2)] at e
      exact absurd (hin m h2) (e ▸ hnew _ (hmem n h1))
    · rw [gext_in h1, gext_in h2] at e
      unfold blk at h1 h2
      simp only [Bool.and_eq_true, Nat.ble_eq, Nat.blt_eq] at h1 h2
      have hl : (q :: ns).length = 36 := by show ns.length + 1 = 36; omega
      rw [List.getD_eq_getElem?_getD, List.getD_eq_getElem?_getD, List.getElem?_eq_getElem (by omega), List.getElem?_eq_getElem (by omega)] at e
      have e2 : (q :: ns)[n - (97 + 36 * j)]? = (q :: ns)[m - (97 + 36 * j)]? := by
        rw [List.getElem?_eq_getElem (by omega), List.getElem?_eq_getElem (by omega)]
        exact congrArg some e
      have e3 := (List.getElem?_inj (by omega) hqn).mp e2
      omega
  · have e18 : gad g 18 = gad (gext g j q ns) 18 := (gext_out (hnb 18 rfl)).symm
    rw [e18]
    refine g_widen (k := 36) (n := 703) (Nat.le_of_ble_eq_true rfl) (Nat.le_of_ble_eq_true rfl) ?_
    exact img_34 C hrt hok hj hk (va_up_self _ _ _) hc (hp q ns)
end IM
/-- image: refused, or the Holdings are copied into those of the image, which are made first if they aren't there -/
theorem cImage {l : Launch} {D : va_G} {T : Nat → ClassId} {t1 t2 sz : Nat} {g : GT} {S : St} {k : Int32} {Post : Int32 → GT → St → Prop}
    (h1 : k < 0 ∨ ¬ k < 2 → Post (-2) g S) (h2 : ∀ j, j < 2 → k = nI j → gpr g j = true → ∃ S2, mX1_copyFrom S (97 + 36 * j) 61 = some S2 ∧ Post 1 g S2) (h3 : ∀ j, j < 2 → k = nI j → gpr g j = false → ∃ S2, mX1_copyFrom (clr S j) (97 + 36 * j) 61 = some S2 ∧ ∀ q ns, Post 1 (gext g j q ns) S2) :
    Met l yX10_image (wsOf yX10_image cX10_image 2 (some .int)) { frames := 4, cells := 36, slots := 703, locals := 143 } (va_Pc [.ref (gad g 18), .int k] (PreI D T t1 t2 sz g S)) (QI D T t1 t2 sz g Post) 36 703 (fun q => gAd g q ∨ sz ≤ q) := by
  refine Met.ofW (cc := cX10_image) (maxL := 2) (ret := some .int) (by decide) rfl ?_
  intro p e s m args below meth c s₁ B hml hv
  obtain ⟨rfl, hsz, hP, hgok, hK, hN, hax, hst⟩ := hv
  have hts := atoms_spec (ws := wsOf yX10_image cX10_image 2 (some .int)) B.pre
  subst hsz
  have C : GX (p, l, e, (headSpec (wsOf yX10_image cX10_image 2 (some .int)) { frames := 4, cells := 36, slots := 703, locals := 143 }).room, s, m, ([.ref (gad g 18), .int k] : List Value).toArray, below, meth, c) D T t1 t2 (fun q => gAd g q ∨ s.heap.size ≤ q) RX10 cX10_image 2 4 143 36 703 :=
    ⟨⟨B.exec, B.bytes, hml, findClass_of_methodNamed B.named, fun w h => hts w (List.mem_cons_of_mem _ h), B.notSynchronized, hK, hN, hax, fun q h => Or.inr h, rfl⟩, hst.grow⟩
  have hg : GOK D T t1 t2 (fun q => gAd g q ∨ s.heap.size ≤ q) g := ⟨hgok.1, hgok.2.1, hgok.2.2.1, hgok.2.2.2.1, fun S' => (hgok.own S').weaken (fun _ _ _ z => Or.inl z)⟩
  have hrt := B.returns
  have hl := lv_entry [.ref (gad g 18), .int k] (n := 2) (Nat.le_of_ble_eq_true rfl)
  rw [lg_entry_eq]
  suffices K : GJ (p, l, e, (headSpec (wsOf yX10_image cX10_image 2 (some .int)) { frames := 4, cells := 36, slots := 703, locals := 143 }).room, s, m, ([.ref (gad g 18), .int k] : List Value).toArray, below, meth, c) (fun q => gAd g q ∨ s.heap.size ≤ q) 2 (MQ below (QI D T t1 t2 s.heap.size g Post) ([.ref (gad g 18), .int k] : List Value).toArray s 36 703 (fun q => gAd g q ∨ s.heap.size ≤ q)) 0 0 g S 0 [(0, .ref (gad g 18)), (1, .int k)] [] from K s.heap [] _ hP va_S.rf hl
  refine g_iload_n C 1 rfl dX10_image_0 rfl ?_
  have hbad : ∀ pc, decode cX10_image pc = .ok (.bipush (-2), 2) → decode cX10_image (pc + 2) = .ok (.ireturn, 1) → k < 0 ∨ ¬ k < 2 → GJ (p, l, e, (headSpec (wsOf yX10_image cX10_image 2 (some .int)) { frames := 4, cells := 36, slots := 703, locals := 143 }).room, s, m, ([.ref (gad g 18), .int k] : List Value).toArray, below, meth, c) (fun q => gAd g q ∨ s.heap.size ≤ q) 2 (MQ below (QI D T t1 t2 s.heap.size g Post) ([.ref (gad g 18), .int k] : List Value).toArray s 36 703 (fun q => gAd g q ∨ s.heap.size ≤ q)) 0 0 g S pc [(0, .ref (gad g 18)), (1, .int k)] [] := fun pc d1 d2 hk => by
    refine g_bipush C (v := -2) (by decide) d1 ?_
    refine g_widen (k := 36) (n := 703) (Nat.le_of_ble_eq_true rfl) (Nat.le_of_ble_eq_true rfl) ?_
    exact img_ret C hrt hg (h1 hk) d2
  refine g_if_lt C 9 dX10_image_1 (by decide) (fun hlt => hbad 9 dX10_image_9 dX10_image_11 (Or.inl hlt)) (fun hnn => ?_)
  refine g_iload_n C 1 rfl dX10_image_4 rfl ?_
  refine g_iconst C (v := 2) (by decide) dX10_image_5 ?_
  refine g_icmp_lt C 12 dX10_image_6 (by decide) (fun hlt2 => ?_) (fun hge => hbad 9 dX10_image_9 dX10_image_11 (Or.inr hge))
  obtain ⟨j, hj31, hk⟩ := nI_of hnn
  have hj : j < 2 := by
    rw [hk] at hlt2
    exact (nI_ltI hj31 (by decide)).mp (show nI j < nI 2 from hlt2)
  refine g_aload_n C 0 rfl dX10_image_12 rfl ?_
  refine g_getR C hg (x := 22) fl_X10_23 sh_18 rfl rfl dX10_image_13 ?_
  refine g_iload_n C 1 rfl dX10_image_16 rfl ?_
  refine g_aald3 C hg sh_22 rfl (by rw [hk]; exact vp_in_nI hj (by decide)) dX10_image_17 ?_
  rw [show k.toNatClampNeg = j by rw [hk]; exact nI_clamp (by omega)]
  cases hpr : gpr g j with
  | true =>
    obtain ⟨S2, hc, hp⟩ := h2 j hj hk hpr
    rw [if_pos rfl]
    refine g_ifnonnull C 34 dX10_image_18 (by decide) ?_
    refine g_widen (k := 36) (n := 703) (Nat.le_of_ble_eq_true rfl) (Nat.le_of_ble_eq_true rfl) ?_
    exact img_34 C hrt hg hj hk hpr hc hp
  | false =>
    obtain ⟨S2, hc, hp⟩ := h3 j hj hk hpr
    rw [if_neg (by decide)]
    refine g_ifnonnullN C dX10_image_18 ?_
    refine g_aload_n C 0 rfl dX10_image_21 rfl ?_
    refine g_getR C hg (x := 22) fl_X10_23 sh_18 rfl rfl dX10_image_22 ?_
    refine g_iload_n C 1 rfl dX10_image_25 rfl ?_
    exact img_new C hrt hg hj hk hpr hc hp

