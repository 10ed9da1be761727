/-! THE CLAIM OUT OF ONE WALK OF THE LAW'S BODY. Your part is whole_start (and what it stands on); all else here is the same for every law, but numbers. -/
def R_law : String := "StairIdealsLaw"
def lw_P (b : Addr) (xs : List Int32) (args : Array Value) (s : State) : Prop := args = #[.ref b] ∧ s.IntsAt b xs ∧ xs.length ≤ 2560 ∧ (Jvm.Cond.and given_1 narrow_1).before args s = true
/-- what a walk over the start with the record d0 says of its end, said of the start itself -/
theorem lw_closed {s t : State} {o : Outcome} {d0 : Drawn} {L : List Loc} {k n : Nat} (hd0 : s.drawn.sameBut d0 lw_cs) (hv : ∃ v, o = .returned v) (hW : (s.setDrawn d0).WarmedH t.vm) (hs : (s.setDrawn d0).sameButNew ({ t with vm := s.vm } : State) L k n) : State.butDraws s t lw_cs (fun t1 => Framed s o t1 L k n) := by
  have h2 : t.drawn = d0 := congrArg State.drawn hs.1
  refine ⟨⟨hv, hW, State.sameButNew.setDrawn hs s.drawn⟩, ?_, by decide⟩
  rw [h2]
  exact hd0
def lw_Q (_ : Array Value) (s : State) (o : Outcome) (t : State) : Prop := o = .returned (some (.int 1)) ∧ State.butDraws s t lw_cs (fun t1 => Framed s o t1 [] 600000 7302250)
def lw_Z (below : List Frame) (a : Array Value) (s : State) : State → Prop := fun t => ∃ o, t.status = .running ∧ Ended t below o ∧ lw_Q a s o t
/-- the law's own end, with 1 on the stack, nothing written that was there before, its room as the claim has it; d0: the record of draws at this point (at the entry s.drawn: begin with 'refine W.base ?_' and 'have hd0 := Drawn.sameBut.refl s.drawn lw_cs') -/
theorem lw_ret {p : Program} {l : Launch} {e : Env} {s : State} {m : MethodId} {below : List Frame} {meth : Method} {c : Code} {b : Nat} {d0 : Drawn} (hd0 : s.drawn.sameBut d0 lw_cs) (hx : p.tables.exec = Jvm.exec) (hb : c.code = code) (hr : meth.sig.returnType = ret) (hlocks : meth.locks = false) {pc : Nat} {H : Heap} {ls : Array Slot} (hdg : decode code pc = .ok (.ireturn, 1)) : W p l e room_1 (s.setDrawn d0) m #[Value.ref b] below meth c H [] 600000 7302250 (lw_Z below #[Value.ref b] s) (F0 m pc ls [.int 1]) := by
  intro T hT X
  obtain ⟨fs, hret, hrun, hended, hW, hframe⟩ := X.leave (v := some (.int 1)) (hlocks := hlocks) (fun h => by rw [hr] at h; cases h)
  have hmeth' : T.vm.method? m = some meth := X.method'
  refine ⟨T.setFrames fs, ?_, .returned (some (.int 1)), hrun, hended, rfl, lw_closed hd0 ⟨_, rfl⟩ hW hframe⟩
  jvm_step X.here [X.here.top, hx, hb, hdg, hmeth', hr, ret, narrow_b1]
  (try refine ⟨rfl, ?_⟩); (try refine ⟨rfl, ?_⟩)
  first | (intro acts; rw [hret _ acts rfl rfl rfl]) | rw [hret _ _ rfl rfl rfl]
  exact Steps.refl _
/-- what holds at the law's entry: the machine, the code, the tables' words (any of lw_tbl by 'hts w (by decide +kernel)'), the script of L ints xs at the cell b, what the Statement gives of the start (any of its parts by flat_of_before) -/
def lw_At (p : Program) (s : State) (m : MethodId) (meth : Method) (c : Code) (b L : Nat) (xs : Nat → Int32) : Prop :=
  p.tables.exec = Jvm.exec ∧ c.code = code ∧ meth.sig.returnType = ret ∧ c.maxLocals = 4 ∧ s.vm.findClass R_law = some m.cls ∧ (∀ w ∈ lw_tbl, w.before #[Value.ref b] s = true) ∧ va_X b L xs s s.heap ∧ b < s.heap.size ∧ meth.locks = false ∧ (Jvm.Cond.and given_1 narrow_1).before #[Value.ref b] s = true
theorem wd_250 : Cond.methodLink "StairIdealsLaw" 13 yX10_say ∈ LW := LW_mem 250 (by decide +kernel) rfl
theorem wd_251 : Cond.instanceMethod yX10_say ∈ LW := LW_mem 251 (by decide +kernel) rfl
theorem wd_252 : Cond.selects "StairIdeals" yX10_say yX10_say ∈ LW := LW_mem 252 (by decide +kernel) rfl
theorem wd_253 : Cond.code yX10_say prog_1_method_2_code 2 (some .int) ∈ LW := LW_mem 253 (by decide +kernel) rfl
theorem wd_258 : Cond.methodLink "StairIdealsLaw" 18 yX10_wipe ∈ LW := LW_mem 258 (by decide +kernel) rfl
theorem wd_259 : Cond.instanceMethod yX10_wipe ∈ LW := LW_mem 259 (by decide +kernel) rfl
theorem wd_260 : Cond.selects "StairIdeals" yX10_wipe yX10_wipe ∈ LW := LW_mem 260 (by decide +kernel) rfl
theorem wd_261 : Cond.code yX10_wipe prog_1_method_3_code 2 (some .int) ∈ LW := LW_mem 261 (by decide +kernel) rfl
theorem wd_262 : Cond.methodLink "StairIdealsLaw" 23 yX10_fault ∈ LW := LW_mem 262 (by decide +kernel) rfl
theorem wd_263 : Cond.instanceMethod yX10_fault ∈ LW := LW_mem 263 (by decide +kernel) rfl
theorem wd_264 : Cond.selects "StairIdeals" yX10_fault yX10_fault ∈ LW := LW_mem 264 (by decide +kernel) rfl
theorem wd_265 : Cond.code yX10_fault prog_1_method_4_code 1 (some .int) ∈ LW := LW_mem 265 (by decide +kernel) rfl
theorem wd_296 : Cond.methodLink "StairIdealsLaw" 27 yX10_load ∈ LW := LW_mem 296 (by decide +kernel) rfl
theorem wd_297 : Cond.instanceMethod yX10_load ∈ LW := LW_mem 297 (by decide +kernel) rfl
theorem wd_298 : Cond.selects "StairIdeals" yX10_load yX10_load ∈ LW := LW_mem 298 (by decide +kernel) rfl
theorem wd_299 : Cond.code yX10_load prog_1_method_5_code 2 (some .int) ∈ LW := LW_mem 299 (by decide +kernel) rfl
theorem wd_348 : Cond.methodLink "StairIdealsLaw" 31 yX10_generator ∈ LW := LW_mem 348 (by decide +kernel) rfl
theorem wd_349 : Cond.instanceMethod yX10_generator ∈ LW := LW_mem 349 (by decide +kernel) rfl
theorem wd_350 : Cond.selects "StairIdeals" yX10_generator yX10_generator ∈ LW := LW_mem 350 (by decide +kernel) rfl
theorem wd_351 : Cond.code yX10_generator prog_1_method_6_code 4 (some .int) ∈ LW := LW_mem 351 (by decide +kernel) rfl
theorem wd_356 : Cond.methodLink "StairIdealsLaw" 36 yX10_has ∈ LW := LW_mem 356 (by decide +kernel) rfl
theorem wd_357 : Cond.instanceMethod yX10_has ∈ LW := LW_mem 357 (by decide +kernel) rfl
theorem wd_358 : Cond.selects "StairIdeals" yX10_has yX10_has ∈ LW := LW_mem 358 (by decide +kernel) rfl
theorem wd_359 : Cond.code yX10_has prog_1_method_7_code 3 (some .int) ∈ LW := LW_mem 359 (by decide +kernel) rfl
theorem wd_374 : Cond.methodLink "StairIdealsLaw" 40 yX10_make ∈ LW := LW_mem 374 (by decide +kernel) rfl
theorem wd_375 : Cond.instanceMethod yX10_make ∈ LW := LW_mem 375 (by decide +kernel) rfl
theorem wd_376 : Cond.selects "StairIdeals" yX10_make yX10_make ∈ LW := LW_mem 376 (by decide +kernel) rfl
theorem wd_377 : Cond.code yX10_make prog_1_method_8_code 5 (some .int) ∈ LW := LW_mem 377 (by decide +kernel) rfl
theorem wd_436 : Cond.methodLink "StairIdealsLaw" 45 yX10_compare ∈ LW := LW_mem 436 (by decide +kernel) rfl
theorem wd_437 : Cond.instanceMethod yX10_compare ∈ LW := LW_mem 437 (by decide +kernel) rfl
theorem wd_438 : Cond.selects "StairIdeals" yX10_compare yX10_compare ∈ LW := LW_mem 438 (by decide +kernel) rfl
theorem wd_439 : Cond.code yX10_compare prog_1_method_9_code 5 (some .int) ∈ LW := LW_mem 439 (by decide +kernel) rfl
theorem wd_445 : Cond.methodLink "StairIdealsLaw" 49 yX10_part ∈ LW := LW_mem 445 (by decide +kernel) rfl
theorem wd_446 : Cond.instanceMethod yX10_part ∈ LW := LW_mem 446 (by decide +kernel) rfl
theorem wd_447 : Cond.selects "StairIdeals" yX10_part yX10_part ∈ LW := LW_mem 447 (by decide +kernel) rfl
theorem wd_448 : Cond.code yX10_part prog_1_method_10_code 3 (some .int) ∈ LW := LW_mem 448 (by decide +kernel) rfl
theorem wd_474 : Cond.methodLink "StairIdealsLaw" 53 yX10_prime ∈ LW := LW_mem 474 (by decide +kernel) rfl
theorem wd_475 : Cond.instanceMethod yX10_prime ∈ LW := LW_mem 475 (by decide +kernel) rfl
theorem wd_476 : Cond.selects "StairIdeals" yX10_prime yX10_prime ∈ LW := LW_mem 476 (by decide +kernel) rfl
theorem wd_477 : Cond.code yX10_prime prog_1_method_11_code 4 (some .int) ∈ LW := LW_mem 477 (by decide +kernel) rfl
theorem wd_493 : Cond.methodLink "StairIdealsLaw" 57 yX10_primary ∈ LW := LW_mem 493 (by decide +kernel) rfl
theorem wd_494 : Cond.instanceMethod yX10_primary ∈ LW := LW_mem 494 (by decide +kernel) rfl
theorem wd_495 : Cond.selects "StairIdeals" yX10_primary yX10_primary ∈ LW := LW_mem 495 (by decide +kernel) rfl
theorem wd_496 : Cond.code yX10_primary prog_1_method_12_code 4 (some .int) ∈ LW := LW_mem 496 (by decide +kernel) rfl
theorem wd_510 : Cond.methodLink "StairIdealsLaw" 62 yX10_dual ∈ LW := LW_mem 510 (by decide +kernel) rfl
theorem wd_511 : Cond.instanceMethod yX10_dual ∈ LW := LW_mem 511 (by decide +kernel) rfl
theorem wd_512 : Cond.selects "StairIdeals" yX10_dual yX10_dual ∈ LW := LW_mem 512 (by decide +kernel) rfl
theorem wd_513 : Cond.code yX10_dual prog_1_method_13_code 5 (some .int) ∈ LW := LW_mem 513 (by decide +kernel) rfl
theorem wd_525 : Cond.methodLink "StairIdealsLaw" 66 yX10_count ∈ LW := LW_mem 525 (by decide +kernel) rfl
theorem wd_526 : Cond.instanceMethod yX10_count ∈ LW := LW_mem 526 (by decide +kernel) rfl
theorem wd_527 : Cond.selects "StairIdeals" yX10_count yX10_count ∈ LW := LW_mem 527 (by decide +kernel) rfl
theorem wd_528 : Cond.code yX10_count prog_1_method_14_code 4 (some .int) ∈ LW := LW_mem 528 (by decide +kernel) rfl
theorem wd_552 : Cond.methodLink "StairIdealsLaw" 70 yX10_series ∈ LW := LW_mem 552 (by decide +kernel) rfl
theorem wd_553 : Cond.instanceMethod yX10_series ∈ LW := LW_mem 553 (by decide +kernel) rfl
theorem wd_554 : Cond.selects "StairIdeals" yX10_series yX10_series ∈ LW := LW_mem 554 (by decide +kernel) rfl
theorem wd_555 : Cond.code yX10_series prog_1_method_15_code 4 (some .int) ∈ LW := LW_mem 555 (by decide +kernel) rfl
theorem wd_561 : Cond.methodLink "StairIdealsLaw" 74 yX10_facts ∈ LW := LW_mem 561 (by decide +kernel) rfl
theorem wd_562 : Cond.instanceMethod yX10_facts ∈ LW := LW_mem 562 (by decide +kernel) rfl
theorem wd_563 : Cond.selects "StairIdeals" yX10_facts yX10_facts ∈ LW := LW_mem 563 (by decide +kernel) rfl
theorem wd_564 : Cond.code yX10_facts prog_1_method_16_code 4 (some .int) ∈ LW := LW_mem 564 (by decide +kernel) rfl
theorem wd_618 : Cond.methodLink "StairIdealsLaw" 78 yX10_betti ∈ LW := LW_mem 618 (by decide +kernel) rfl
theorem wd_619 : Cond.instanceMethod yX10_betti ∈ LW := LW_mem 619 (by decide +kernel) rfl
theorem wd_620 : Cond.selects "StairIdeals" yX10_betti yX10_betti ∈ LW := LW_mem 620 (by decide +kernel) rfl
theorem wd_621 : Cond.code yX10_betti prog_1_method_17_code 3 (some .int) ∈ LW := LW_mem 621 (by decide +kernel) rfl
theorem wd_656 : Cond.methodLink "StairIdealsLaw" 82 yX10_bettiAt ∈ LW := LW_mem 656 (by decide +kernel) rfl
theorem wd_657 : Cond.instanceMethod yX10_bettiAt ∈ LW := LW_mem 657 (by decide +kernel) rfl
theorem wd_658 : Cond.selects "StairIdeals" yX10_bettiAt yX10_bettiAt ∈ LW := LW_mem 658 (by decide +kernel) rfl
theorem wd_659 : Cond.code yX10_bettiAt prog_1_method_18_code 4 (some .int) ∈ LW := LW_mem 659 (by decide +kernel) rfl
theorem wd_661 : Cond.methodLink "StairIdealsLaw" 86 yX10_share ∈ LW := LW_mem 661 (by decide +kernel) rfl
theorem wd_662 : Cond.instanceMethod yX10_share ∈ LW := LW_mem 662 (by decide +kernel) rfl
theorem wd_663 : Cond.selects "StairIdeals" yX10_share yX10_share ∈ LW := LW_mem 663 (by decide +kernel) rfl
theorem wd_664 : Cond.code yX10_share prog_1_method_19_code 7 (some .long) ∈ LW := LW_mem 664 (by decide +kernel) rfl
theorem wd_688 : Cond.methodLink "StairIdealsLaw" 91 yX10_hold ∈ LW := LW_mem 688 (by decide +kernel) rfl
theorem wd_689 : Cond.instanceMethod yX10_hold ∈ LW := LW_mem 689 (by decide +kernel) rfl
theorem wd_690 : Cond.selects "StairIdeals" yX10_hold yX10_hold ∈ LW := LW_mem 690 (by decide +kernel) rfl
theorem wd_691 : Cond.code yX10_hold prog_1_method_20_code 6 (some .int) ∈ LW := LW_mem 691 (by decide +kernel) rfl
theorem wd_700 : Cond.methodLink "StairIdealsLaw" 96 yX10_take ∈ LW := LW_mem 700 (by decide +kernel) rfl
theorem wd_701 : Cond.instanceMethod yX10_take ∈ LW := LW_mem 701 (by decide +kernel) rfl
theorem wd_702 : Cond.selects "StairIdeals" yX10_take yX10_take ∈ LW := LW_mem 702 (by decide +kernel) rfl
theorem wd_703 : Cond.code yX10_take prog_1_method_21_code 5 (some .int) ∈ LW := LW_mem 703 (by decide +kernel) rfl
theorem wd_704 : Cond.methodLink "StairIdealsLaw" 100 yX10_measure ∈ LW := LW_mem 704 (by decide +kernel) rfl
theorem wd_705 : Cond.instanceMethod yX10_measure ∈ LW := LW_mem 705 (by decide +kernel) rfl
theorem wd_706 : Cond.selects "StairIdeals" yX10_measure yX10_measure ∈ LW := LW_mem 706 (by decide +kernel) rfl
theorem wd_707 : Cond.code yX10_measure prog_1_method_22_code 4 (some .int) ∈ LW := LW_mem 707 (by decide +kernel) rfl
theorem wd_708 : Cond.methodLink "StairIdealsLaw" 104 yX10_image ∈ LW := LW_mem 708 (by decide +kernel) rfl
theorem wd_709 : Cond.instanceMethod yX10_image ∈ LW := LW_mem 709 (by decide +kernel) rfl
theorem wd_710 : Cond.selects "StairIdeals" yX10_image yX10_image ∈ LW := LW_mem 710 (by decide +kernel) rfl
theorem wd_711 : Cond.code yX10_image prog_1_method_23_code 2 (some .int) ∈ LW := LW_mem 711 (by decide +kernel) rfl
theorem wd_717 : Cond.methodLink "StairIdealsLaw" 108 yX10_restore ∈ LW := LW_mem 717 (by decide +kernel) rfl
theorem wd_718 : Cond.instanceMethod yX10_restore ∈ LW := LW_mem 718 (by decide +kernel) rfl
theorem wd_719 : Cond.selects "StairIdeals" yX10_restore yX10_restore ∈ LW := LW_mem 719 (by decide +kernel) rfl
theorem wd_720 : Cond.code yX10_restore prog_1_method_24_code 2 (some .int) ∈ LW := LW_mem 720 (by decide +kernel) rfl
theorem wd_721 : Cond.methodLink "StairIdealsLaw" 112 yX10_told ∈ LW := LW_mem 721 (by decide +kernel) rfl
theorem wd_722 : Cond.instanceMethod yX10_told ∈ LW := LW_mem 722 (by decide +kernel) rfl
theorem wd_723 : Cond.selects "StairIdeals" yX10_told yX10_told ∈ LW := LW_mem 723 (by decide +kernel) rfl
theorem wd_724 : Cond.code yX10_told prog_1_method_25_code 4 (some .int) ∈ LW := LW_mem 724 (by decide +kernel) rfl
theorem wd_826 : Cond.methodLink "StairIdealsLaw" 17 yX11_say ∈ LW := LW_mem 826 (by decide +kernel) rfl
theorem wd_827 : Cond.instanceMethod yX11_say ∈ LW := LW_mem 827 (by decide +kernel) rfl
theorem wd_828 : Cond.selects "StairIdealsModel" yX11_say yX11_say ∈ LW := LW_mem 828 (by decide +kernel) rfl
theorem wd_829 : Cond.code yX11_say prog_13_method_24_code 2 (some .int) ∈ LW := LW_mem 829 (by decide +kernel) rfl
theorem wd_835 : Cond.methodLink "StairIdealsLaw" 22 yX11_wipe ∈ LW := LW_mem 835 (by decide +kernel) rfl
theorem wd_836 : Cond.instanceMethod yX11_wipe ∈ LW := LW_mem 836 (by decide +kernel) rfl
theorem wd_837 : Cond.selects "StairIdealsModel" yX11_wipe yX11_wipe ∈ LW := LW_mem 837 (by decide +kernel) rfl
theorem wd_838 : Cond.code yX11_wipe prog_13_method_25_code 2 (some .int) ∈ LW := LW_mem 838 (by decide +kernel) rfl
theorem wd_839 : Cond.methodLink "StairIdealsLaw" 26 yX11_fault ∈ LW := LW_mem 839 (by decide +kernel) rfl
theorem wd_857 : Cond.methodLink "StairIdealsLaw" 30 yX11_load ∈ LW := LW_mem 857 (by decide +kernel) rfl
theorem wd_858 : Cond.instanceMethod yX11_load ∈ LW := LW_mem 858 (by decide +kernel) rfl
theorem wd_859 : Cond.selects "StairIdealsModel" yX11_load yX11_load ∈ LW := LW_mem 859 (by decide +kernel) rfl
theorem wd_860 : Cond.code yX11_load prog_13_method_28_code 3 (some .int) ∈ LW := LW_mem 860 (by decide +kernel) rfl
theorem wd_891 : Cond.methodLink "StairIdealsLaw" 35 yX11_generator ∈ LW := LW_mem 891 (by decide +kernel) rfl
theorem wd_892 : Cond.instanceMethod yX11_generator ∈ LW := LW_mem 892 (by decide +kernel) rfl
theorem wd_893 : Cond.selects "StairIdealsModel" yX11_generator yX11_generator ∈ LW := LW_mem 893 (by decide +kernel) rfl
theorem wd_894 : Cond.code yX11_generator prog_13_method_29_code 3 (some .int) ∈ LW := LW_mem 894 (by decide +kernel) rfl
theorem wd_899 : Cond.methodLink "StairIdealsLaw" 39 yX11_has ∈ LW := LW_mem 899 (by decide +kernel) rfl
theorem wd_900 : Cond.instanceMethod yX11_has ∈ LW := LW_mem 900 (by decide +kernel) rfl
theorem wd_901 : Cond.selects "StairIdealsModel" yX11_has yX11_has ∈ LW := LW_mem 901 (by decide +kernel) rfl
theorem wd_902 : Cond.code yX11_has prog_13_method_30_code 3 (some .int) ∈ LW := LW_mem 902 (by decide +kernel) rfl
theorem wd_911 : Cond.methodLink "StairIdealsLaw" 44 yX11_make ∈ LW := LW_mem 911 (by decide +kernel) rfl
theorem wd_912 : Cond.instanceMethod yX11_make ∈ LW := LW_mem 912 (by decide +kernel) rfl
theorem wd_913 : Cond.selects "StairIdealsModel" yX11_make yX11_make ∈ LW := LW_mem 913 (by decide +kernel) rfl
theorem wd_914 : Cond.code yX11_make prog_13_method_39_code 6 (some .int) ∈ LW := LW_mem 914 (by decide +kernel) rfl
theorem wd_954 : Cond.methodLink "StairIdealsLaw" 48 yX11_compare ∈ LW := LW_mem 954 (by decide +kernel) rfl
theorem wd_955 : Cond.instanceMethod yX11_compare ∈ LW := LW_mem 955 (by decide +kernel) rfl
theorem wd_956 : Cond.selects "StairIdealsModel" yX11_compare yX11_compare ∈ LW := LW_mem 956 (by decide +kernel) rfl
theorem wd_957 : Cond.code yX11_compare prog_13_method_41_code 3 (some .int) ∈ LW := LW_mem 957 (by decide +kernel) rfl
theorem wd_962 : Cond.methodLink "StairIdealsLaw" 52 yX11_part ∈ LW := LW_mem 962 (by decide +kernel) rfl
theorem wd_963 : Cond.instanceMethod yX11_part ∈ LW := LW_mem 963 (by decide +kernel) rfl
theorem wd_964 : Cond.selects "StairIdealsModel" yX11_part yX11_part ∈ LW := LW_mem 964 (by decide +kernel) rfl
theorem wd_965 : Cond.code yX11_part prog_13_method_47_code 3 (some .int) ∈ LW := LW_mem 965 (by decide +kernel) rfl
theorem wd_985 : Cond.methodLink "StairIdealsLaw" 56 yX11_prime ∈ LW := LW_mem 985 (by decide +kernel) rfl
theorem wd_986 : Cond.instanceMethod yX11_prime ∈ LW := LW_mem 986 (by decide +kernel) rfl
theorem wd_987 : Cond.selects "StairIdealsModel" yX11_prime yX11_prime ∈ LW := LW_mem 987 (by decide +kernel) rfl
theorem wd_988 : Cond.code yX11_prime prog_13_method_49_code 6 (some .int) ∈ LW := LW_mem 988 (by decide +kernel) rfl
theorem wd_993 : Cond.methodLink "StairIdealsLaw" 61 yX11_primary ∈ LW := LW_mem 993 (by decide +kernel) rfl
theorem wd_994 : Cond.instanceMethod yX11_primary ∈ LW := LW_mem 994 (by decide +kernel) rfl
theorem wd_995 : Cond.selects "StairIdealsModel" yX11_primary yX11_primary ∈ LW := LW_mem 995 (by decide +kernel) rfl
theorem wd_996 : Cond.code yX11_primary prog_13_method_51_code 6 (some .int) ∈ LW := LW_mem 996 (by decide +kernel) rfl
theorem wd_1001 : Cond.methodLink "StairIdealsLaw" 65 yX11_dual ∈ LW := LW_mem 1001 (by decide +kernel) rfl
theorem wd_1002 : Cond.instanceMethod yX11_dual ∈ LW := LW_mem 1002 (by decide +kernel) rfl
theorem wd_1003 : Cond.selects "StairIdealsModel" yX11_dual yX11_dual ∈ LW := LW_mem 1003 (by decide +kernel) rfl
theorem wd_1004 : Cond.code yX11_dual prog_13_method_53_code 5 (some .int) ∈ LW := LW_mem 1004 (by decide +kernel) rfl
theorem wd_1008 : Cond.methodLink "StairIdealsLaw" 69 yX11_count ∈ LW := LW_mem 1008 (by decide +kernel) rfl
theorem wd_1009 : Cond.instanceMethod yX11_count ∈ LW := LW_mem 1009 (by decide +kernel) rfl
theorem wd_1010 : Cond.selects "StairIdealsModel" yX11_count yX11_count ∈ LW := LW_mem 1010 (by decide +kernel) rfl
theorem wd_1011 : Cond.code yX11_count prog_13_method_57_code 3 (some .int) ∈ LW := LW_mem 1011 (by decide +kernel) rfl
theorem wd_1023 : Cond.methodLink "StairIdealsLaw" 73 yX11_series ∈ LW := LW_mem 1023 (by decide +kernel) rfl
theorem wd_1024 : Cond.instanceMethod yX11_series ∈ LW := LW_mem 1024 (by decide +kernel) rfl
theorem wd_1025 : Cond.selects "StairIdealsModel" yX11_series yX11_series ∈ LW := LW_mem 1025 (by decide +kernel) rfl
theorem wd_1026 : Cond.code yX11_series prog_13_method_58_code 3 (some .int) ∈ LW := LW_mem 1026 (by decide +kernel) rfl
theorem wd_1029 : Cond.methodLink "StairIdealsLaw" 77 yX11_facts ∈ LW := LW_mem 1029 (by decide +kernel) rfl
theorem wd_1030 : Cond.instanceMethod yX11_facts ∈ LW := LW_mem 1030 (by decide +kernel) rfl
theorem wd_1031 : Cond.selects "StairIdealsModel" yX11_facts yX11_facts ∈ LW := LW_mem 1031 (by decide +kernel) rfl
theorem wd_1032 : Cond.code yX11_facts prog_13_method_74_code 3 (some .int) ∈ LW := LW_mem 1032 (by decide +kernel) rfl
theorem wd_1101 : Cond.methodLink "StairIdealsLaw" 81 yX11_betti ∈ LW := LW_mem 1101 (by decide +kernel) rfl
theorem wd_1102 : Cond.instanceMethod yX11_betti ∈ LW := LW_mem 1102 (by decide +kernel) rfl
theorem wd_1103 : Cond.selects "StairIdealsModel" yX11_betti yX11_betti ∈ LW := LW_mem 1103 (by decide +kernel) rfl
theorem wd_1104 : Cond.code yX11_betti prog_13_method_81_code 5 (some .int) ∈ LW := LW_mem 1104 (by decide +kernel) rfl
theorem wd_1127 : Cond.methodLink "StairIdealsLaw" 85 yX11_bettiAt ∈ LW := LW_mem 1127 (by decide +kernel) rfl
theorem wd_1128 : Cond.instanceMethod yX11_bettiAt ∈ LW := LW_mem 1128 (by decide +kernel) rfl
theorem wd_1129 : Cond.selects "StairIdealsModel" yX11_bettiAt yX11_bettiAt ∈ LW := LW_mem 1129 (by decide +kernel) rfl
theorem wd_1130 : Cond.code yX11_bettiAt prog_13_method_82_code 4 (some .int) ∈ LW := LW_mem 1130 (by decide +kernel) rfl
theorem wd_1131 : Cond.methodLink "StairIdealsLaw" 90 yX11_share ∈ LW := LW_mem 1131 (by decide +kernel) rfl
theorem wd_1132 : Cond.instanceMethod yX11_share ∈ LW := LW_mem 1132 (by decide +kernel) rfl
theorem wd_1133 : Cond.selects "StairIdealsModel" yX11_share yX11_share ∈ LW := LW_mem 1133 (by decide +kernel) rfl
theorem wd_1134 : Cond.code yX11_share prog_13_method_86_code 5 (some .long) ∈ LW := LW_mem 1134 (by decide +kernel) rfl
theorem wd_1151 : Cond.methodLink "StairIdealsLaw" 95 yX11_hold ∈ LW := LW_mem 1151 (by decide +kernel) rfl
theorem wd_1152 : Cond.instanceMethod yX11_hold ∈ LW := LW_mem 1152 (by decide +kernel) rfl
theorem wd_1153 : Cond.selects "StairIdealsModel" yX11_hold yX11_hold ∈ LW := LW_mem 1153 (by decide +kernel) rfl
theorem wd_1154 : Cond.code yX11_hold prog_13_method_89_code 5 (some .int) ∈ LW := LW_mem 1154 (by decide +kernel) rfl
theorem wd_1165 : Cond.methodLink "StairIdealsLaw" 99 yX11_take ∈ LW := LW_mem 1165 (by decide +kernel) rfl
theorem wd_1166 : Cond.instanceMethod yX11_take ∈ LW := LW_mem 1166 (by decide +kernel) rfl
theorem wd_1167 : Cond.selects "StairIdealsModel" yX11_take yX11_take ∈ LW := LW_mem 1167 (by decide +kernel) rfl
theorem wd_1168 : Cond.code yX11_take prog_13_method_90_code 5 (some .int) ∈ LW := LW_mem 1168 (by decide +kernel) rfl
theorem wd_1169 : Cond.methodLink "StairIdealsLaw" 103 yX11_measure ∈ LW := LW_mem 1169 (by decide +kernel) rfl
theorem wd_1170 : Cond.instanceMethod yX11_measure ∈ LW := LW_mem 1170 (by decide +kernel) rfl
theorem wd_1171 : Cond.selects "StairIdealsModel" yX11_measure yX11_measure ∈ LW := LW_mem 1171 (by decide +kernel) rfl
theorem wd_1172 : Cond.code yX11_measure prog_13_method_91_code 4 (some .int) ∈ LW := LW_mem 1172 (by decide +kernel) rfl
theorem wd_1173 : Cond.methodLink "StairIdealsLaw" 107 yX11_image ∈ LW := LW_mem 1173 (by decide +kernel) rfl
theorem wd_1174 : Cond.instanceMethod yX11_image ∈ LW := LW_mem 1174 (by decide +kernel) rfl
theorem wd_1175 : Cond.selects "StairIdealsModel" yX11_image yX11_image ∈ LW := LW_mem 1175 (by decide +kernel) rfl
theorem wd_1176 : Cond.code yX11_image prog_13_method_94_code 2 (some .int) ∈ LW := LW_mem 1176 (by decide +kernel) rfl
theorem wd_1185 : Cond.methodLink "StairIdealsLaw" 111 yX11_restore ∈ LW := LW_mem 1185 (by decide +kernel) rfl
theorem wd_1186 : Cond.instanceMethod yX11_restore ∈ LW := LW_mem 1186 (by decide +kernel) rfl
theorem wd_1187 : Cond.selects "StairIdealsModel" yX11_restore yX11_restore ∈ LW := LW_mem 1187 (by decide +kernel) rfl
theorem wd_1188 : Cond.code yX11_restore prog_13_method_95_code 2 (some .int) ∈ LW := LW_mem 1188 (by decide +kernel) rfl
theorem wd_1189 : Cond.methodLink "StairIdealsLaw" 115 yX11_told ∈ LW := LW_mem 1189 (by decide +kernel) rfl
theorem wd_1190 : Cond.instanceMethod yX11_told ∈ LW := LW_mem 1190 (by decide +kernel) rfl
theorem wd_1191 : Cond.selects "StairIdealsModel" yX11_told yX11_told ∈ LW := LW_mem 1191 (by decide +kernel) rfl
theorem wd_1192 : Cond.code yX11_told prog_13_method_96_code 2 (some .int) ∈ LW := LW_mem 1192 (by decide +kernel) rfl
theorem mv_L_100 : MVt RL 100 yX10_measure cX10_measure 4 (some .int) 2 := ⟨wd_704, wd_705, wd_706, wd_59, wd_707, by decide, by decide, by decide +kernel⟩
theorem mv_L_103 : MVt RL 103 yX11_measure cX11_measure 4 (some .int) 2 := ⟨wd_1169, wd_1170, wd_1171, wd_68, wd_1172, by decide, by decide, by decide +kernel⟩
theorem mv_L_104 : MVt RL 104 yX10_image cX10_image 2 (some .int) 1 := ⟨wd_708, wd_709, wd_710, wd_59, wd_711, by decide, by decide, by decide +kernel⟩
theorem mv_L_107 : MVt RL 107 yX11_image cX11_image 2 (some .int) 1 := ⟨wd_1173, wd_1174, wd_1175, wd_68, wd_1176, by decide, by decide, by decide +kernel⟩
theorem mv_L_108 : MVt RL 108 yX10_restore cX10_restore 2 (some .int) 1 := ⟨wd_717, wd_718, wd_719, wd_59, wd_720, by decide, by decide, by decide +kernel⟩
theorem mv_L_111 : MVt RL 111 yX11_restore cX11_restore 2 (some .int) 1 := ⟨wd_1185, wd_1186, wd_1187, wd_68, wd_1188, by decide, by decide, by decide +kernel⟩
theorem mv_L_112 : MVt RL 112 yX10_told cX10_told 4 (some .int) 1 := ⟨wd_721, wd_722, wd_723, wd_59, wd_724, by decide, by decide, by decide +kernel⟩
theorem mv_L_115 : MVt RL 115 yX11_told cX11_told 2 (some .int) 1 := ⟨wd_1189, wd_1190, wd_1191, wd_68, wd_1192, by decide, by decide, by decide +kernel⟩
theorem mv_L_13 : MVt RL 13 yX10_say cX10_say 2 (some .int) 1 := ⟨wd_250, wd_251, wd_252, wd_59, wd_253, by decide, by decide, by decide +kernel⟩
theorem mv_L_17 : MVt RL 17 yX11_say cX11_say 2 (some .int) 1 := ⟨wd_826, wd_827, wd_828, wd_68, wd_829, by decide, by decide, by decide +kernel⟩
theorem mv_L_18 : MVt RL 18 yX10_wipe cX10_wipe 2 (some .int) 0 := ⟨wd_258, wd_259, wd_260, wd_59, wd_261, by decide, by decide, by decide +kernel⟩
theorem mv_L_22 : MVt RL 22 yX11_wipe cX11_wipe 2 (some .int) 0 := ⟨wd_835, wd_836, wd_837, wd_68, wd_838, by decide, by decide, by decide +kernel⟩
theorem mv_L_23 : MVt RL 23 yX10_fault cX10_fault 1 (some .int) 0 := ⟨wd_262, wd_263, wd_264, wd_59, wd_265, by decide, by decide, by decide +kernel⟩
theorem mv_L_26 : MVt RL 26 yX11_fault cX11_fault 3 (some .int) 0 := ⟨wd_839, wd_840, wd_841, wd_68, wd_842, by decide, by decide, by decide +kernel⟩
theorem mv_L_27 : MVt RL 27 yX10_load cX10_load 2 (some .int) 1 := ⟨wd_296, wd_297, wd_298, wd_59, wd_299, by decide, by decide, by decide +kernel⟩
theorem mv_L_30 : MVt RL 30 yX11_load cX11_load 3 (some .int) 1 := ⟨wd_857, wd_858, wd_859, wd_68, wd_860, by decide, by decide, by decide +kernel⟩
theorem mv_L_31 : MVt RL 31 yX10_generator cX10_generator 4 (some .int) 2 := ⟨wd_348, wd_349, wd_350, wd_59, wd_351, by decide, by decide, by decide +kernel⟩
theorem mv_L_35 : MVt RL 35 yX11_generator cX11_generator 3 (some .int) 2 := ⟨wd_891, wd_892, wd_893, wd_68, wd_894, by decide, by decide, by decide +kernel⟩
theorem mv_L_36 : MVt RL 36 yX10_has cX10_has 3 (some .int) 2 := ⟨wd_356, wd_357, wd_358, wd_59, wd_359, by decide, by decide, by decide +kernel⟩
theorem mv_L_39 : MVt RL 39 yX11_has cX11_has 3 (some .int) 2 := ⟨wd_899, wd_900, wd_901, wd_68, wd_902, by decide, by decide, by decide +kernel⟩
theorem mv_L_40 : MVt RL 40 yX10_make cX10_make 5 (some .int) 4 := ⟨wd_374, wd_375, wd_376, wd_59, wd_377, by decide, by decide, by decide +kernel⟩
theorem mv_L_44 : MVt RL 44 yX11_make cX11_make 6 (some .int) 4 := ⟨wd_911, wd_912, wd_913, wd_68, wd_914, by decide, by decide, by decide +kernel⟩
theorem mv_L_45 : MVt RL 45 yX10_compare cX10_compare 5 (some .int) 2 := ⟨wd_436, wd_437, wd_438, wd_59, wd_439, by decide, by decide, by decide +kernel⟩
theorem mv_L_48 : MVt RL 48 yX11_compare cX11_compare 3 (some .int) 2 := ⟨wd_954, wd_955, wd_956, wd_68, wd_957, by decide, by decide, by decide +kernel⟩
theorem mv_L_49 : MVt RL 49 yX10_part cX10_part 3 (some .int) 2 := ⟨wd_445, wd_446, wd_447, wd_59, wd_448, by decide, by decide, by decide +kernel⟩
theorem mv_L_52 : MVt RL 52 yX11_part cX11_part 3 (some .int) 2 := ⟨wd_962, wd_963, wd_964, wd_68, wd_965, by decide, by decide, by decide +kernel⟩
theorem mv_L_53 : MVt RL 53 yX10_prime cX10_prime 4 (some .int) 2 := ⟨wd_474, wd_475, wd_476, wd_59, wd_477, by decide, by decide, by decide +kernel⟩
theorem mv_L_56 : MVt RL 56 yX11_prime cX11_prime 6 (some .int) 2 := ⟨wd_985, wd_986, wd_987, wd_68, wd_988, by decide, by decide, by decide +kernel⟩
theorem mv_L_57 : MVt RL 57 yX10_primary cX10_primary 4 (some .int) 3 := ⟨wd_493, wd_494, wd_495, wd_59, wd_496, by decide, by decide, by decide +kernel⟩
theorem mv_L_61 : MVt RL 61 yX11_primary cX11_primary 6 (some .int) 3 := ⟨wd_993, wd_994, wd_995, wd_68, wd_996, by decide, by decide, by decide +kernel⟩
theorem mv_L_62 : MVt RL 62 yX10_dual cX10_dual 5 (some .int) 3 := ⟨wd_510, wd_511, wd_512, wd_59, wd_513, by decide, by decide, by decide +kernel⟩
theorem mv_L_65 : MVt RL 65 yX11_dual cX11_dual 5 (some .int) 3 := ⟨wd_1001, wd_1002, wd_1003, wd_68, wd_1004, by decide, by decide, by decide +kernel⟩
theorem mv_L_66 : MVt RL 66 yX10_count cX10_count 4 (some .int) 2 := ⟨wd_525, wd_526, wd_527, wd_59, wd_528, by decide, by decide, by decide +kernel⟩
theorem mv_L_69 : MVt RL 69 yX11_count cX11_count 3 (some .int) 2 := ⟨wd_1008, wd_1009, wd_1010, wd_68, wd_1011, by decide, by decide, by decide +kernel⟩
theorem mv_L_70 : MVt RL 70 yX10_series cX10_series 4 (some .int) 2 := ⟨wd_552, wd_553, wd_554, wd_59, wd_555, by decide, by decide, by decide +kernel⟩
theorem mv_L_73 : MVt RL 73 yX11_series cX11_series 3 (some .int) 2 := ⟨wd_1023, wd_1024, wd_1025, wd_68, wd_1026, by decide, by decide, by decide +kernel⟩
theorem mv_L_74 : MVt RL 74 yX10_facts cX10_facts 4 (some .int) 2 := ⟨wd_561, wd_562, wd_563, wd_59, wd_564, by decide, by decide, by decide +kernel⟩
theorem mv_L_77 : MVt RL 77 yX11_facts cX11_facts 3 (some .int) 2 := ⟨wd_1029, wd_1030, wd_1031, wd_68, wd_1032, by decide, by decide, by decide +kernel⟩
theorem mv_L_78 : MVt RL 78 yX10_betti cX10_betti 3 (some .int) 2 := ⟨wd_618, wd_619, wd_620, wd_59, wd_621, by decide, by decide, by decide +kernel⟩
theorem mv_L_81 : MVt RL 81 yX11_betti cX11_betti 5 (some .int) 2 := ⟨wd_1101, wd_1102, wd_1103, wd_68, wd_1104, by decide, by decide, by decide +kernel⟩
theorem mv_L_82 : MVt RL 82 yX10_bettiAt cX10_bettiAt 4 (some .int) 3 := ⟨wd_656, wd_657, wd_658, wd_59, wd_659, by decide, by decide, by decide +kernel⟩
theorem mv_L_85 : MVt RL 85 yX11_bettiAt cX11_bettiAt 4 (some .int) 3 := ⟨wd_1127, wd_1128, wd_1129, wd_68, wd_1130, by decide, by decide, by decide +kernel⟩
theorem mv_L_86 : MVt RL 86 yX10_share cX10_share 7 (some .long) 3 := ⟨wd_661, wd_662, wd_663, wd_59, wd_664, by decide, by decide, by decide +kernel⟩
theorem mv_L_90 : MVt RL 90 yX11_share cX11_share 5 (some .long) 3 := ⟨wd_1131, wd_1132, wd_1133, wd_68, wd_1134, by decide, by decide, by decide +kernel⟩
theorem mv_L_91 : MVt RL 91 yX10_hold cX10_hold 6 (some .int) 4 := ⟨wd_688, wd_689, wd_690, wd_59, wd_691, by decide, by decide, by decide +kernel⟩
theorem mv_L_95 : MVt RL 95 yX11_hold cX11_hold 5 (some .int) 4 := ⟨wd_1151, wd_1152, wd_1153, wd_68, wd_1154, by decide, by decide, by decide +kernel⟩
theorem mv_L_96 : MVt RL 96 yX10_take cX10_take 5 (some .int) 3 := ⟨wd_700, wd_701, wd_702, wd_59, wd_703, by decide, by decide, by decide +kernel⟩
theorem mv_L_99 : MVt RL 99 yX11_take cX11_take 5 (some .int) 3 := ⟨wd_1165, wd_1166, wd_1167, wd_68, wd_1168, by decide, by decide, by decide +kernel⟩
def PF_say (Inv : (Nat → Bool) → St → Prop) : Prop := ∀ (pr : Nat → Bool) (S : St) (a0 : Int32), Inv pr S → ∃ (r : Int32) (S1 : St) (S2 : St), mX10_say S a0 = some (r, S1) ∧ mX11_say S1 a0 = some (r, S2) ∧ Inv pr S2
def PF_wipe (Inv : (Nat → Bool) → St → Prop) : Prop := ∀ (pr : Nat → Bool) (S : St), Inv pr S → ∃ (r : Int32) (S1 : St) (S2 : St), mX10_wipe S = some (r, S1) ∧ mX11_wipe S1 = some (r, S2) ∧ Inv pr S2
def PF_fault (Inv : (Nat → Bool) → St → Prop) : Prop := ∀ (pr : Nat → Bool) (S : St), Inv pr S → ∃ (r : Int32) (S1 : St) (S2 : St), mX10_fault S = some (r, S1) ∧ mX11_fault S1 = some (r, S2) ∧ Inv pr S2
def PF_load (Inv : (Nat → Bool) → St → Prop) : Prop := ∀ (pr : Nat → Bool) (S : St) (a0 : Int32), Inv pr S → ∃ (r : Int32) (S1 : St) (S2 : St), mX10_load S a0 = some (r, S1) ∧ mX11_load S1 a0 = some (r, S2) ∧ Inv pr S2
def PF_generator (Inv : (Nat → Bool) → St → Prop) : Prop := ∀ (pr : Nat → Bool) (S : St) (a0 : Int32) (a1 : Int32), Inv pr S → ∃ (r : Int32), mX10_generator S a0 a1 = some r ∧ mX11_generator S a0 a1 = some r ∧ Inv pr S
def PF_has (Inv : (Nat → Bool) → St → Prop) : Prop := ∀ (pr : Nat → Bool) (S : St) (a0 : Int32) (a1 : Int32), Inv pr S → ∃ (r : Int32), mX10_has S a0 a1 = some r ∧ mX11_has S a0 a1 = some r ∧ Inv pr S
def PF_make (Inv : (Nat → Bool) → St → Prop) : Prop := ∀ (pr : Nat → Bool) (S : St) (a0 : Int32) (a1 : Int32) (a2 : Int32) (a3 : Int32), Inv pr S → ∃ (r : Int32) (S1 : St) (S2 : St), mX10_make S a0 a1 a2 a3 = some (r, S1) ∧ mX11_make S1 a0 a1 a2 a3 = some (r, S2) ∧ Inv pr S2
def PF_compare (Inv : (Nat → Bool) → St → Prop) : Prop := ∀ (pr : Nat → Bool) (S : St) (a0 : Int32) (a1 : Int32), Inv pr S → ∃ (r : Int32), mX10_compare S a0 a1 = some r ∧ mX11_compare S a0 a1 = some r ∧ Inv pr S
def PF_part (Inv : (Nat → Bool) → St → Prop) : Prop := ∀ (pr : Nat → Bool) (S : St) (a0 : Int32) (a1 : Int32), Inv pr S → ∃ (r : Int32) (S1 : St) (S2 : St), mX10_part S a0 a1 = some (r, S1) ∧ mX11_part S1 a0 a1 = some (r, S2) ∧ Inv pr S2
def PF_prime (Inv : (Nat → Bool) → St → Prop) : Prop := ∀ (pr : Nat → Bool) (S : St) (a0 : Int32) (a1 : Int32), Inv pr S → ∃ (r : Int32) (S1 : St) (S2 : St), mX10_prime S a0 a1 = some (r, S1) ∧ mX11_prime S1 a0 a1 = some (r, S2) ∧ Inv pr S2
def PF_primary (Inv : (Nat → Bool) → St → Prop) : Prop := ∀ (pr : Nat → Bool) (S : St) (a0 : Int32) (a1 : Int32) (a2 : Int32), Inv pr S → ∃ (r : Int32) (S1 : St) (S2 : St), mX10_primary S a0 a1 a2 = some (r, S1) ∧ mX11_primary S1 a0 a1 a2 = some (r, S2) ∧ Inv pr S2
def PF_dual (Inv : (Nat → Bool) → St → Prop) : Prop := ∀ (pr : Nat → Bool) (S : St) (a0 : Int32) (a1 : Int32) (a2 : Int32), Inv pr S → ∃ (r : Int32) (S1 : St) (S2 : St), mX10_dual S a0 a1 a2 = some (r, S1) ∧ mX11_dual S1 a0 a1 a2 = some (r, S2) ∧ Inv pr S2
def PF_count (Inv : (Nat → Bool) → St → Prop) : Prop := ∀ (pr : Nat → Bool) (S : St) (a0 : Int32) (a1 : Int32), Inv pr S → ∃ (r : Int32) (S1 : St) (S2 : St), mX10_count S a0 a1 = some (r, S1) ∧ mX11_count S1 a0 a1 = some (r, S2) ∧ Inv pr S2
def PF_series (Inv : (Nat → Bool) → St → Prop) : Prop := ∀ (pr : Nat → Bool) (S : St) (a0 : Int32) (a1 : Int32), Inv pr S → ∃ (r : Int32) (S1 : St) (S2 : St), mX10_series S a0 a1 = some (r, S1) ∧ mX11_series S1 a0 a1 = some (r, S2) ∧ Inv pr S2
def PF_facts (Inv : (Nat → Bool) → St → Prop) : Prop := ∀ (pr : Nat → Bool) (S : St) (a0 : Int32) (a1 : Int32), Inv pr S → ∃ (r : Int32) (S1 : St) (S2 : St), mX10_facts S a0 a1 = some (r, S1) ∧ mX11_facts S1 a0 a1 = some (r, S2) ∧ Inv pr S2
def PF_betti (Inv : (Nat → Bool) → St → Prop) : Prop := ∀ (pr : Nat → Bool) (S : St) (a0 : Int32) (a1 : Int32), Inv pr S → ∃ (r : Int32) (S1 : St) (S2 : St), mX10_betti S a0 a1 = some (r, S1) ∧ mX11_betti S1 a0 a1 = some (r, S2) ∧ Inv pr S2
def PF_bettiAt (Inv : (Nat → Bool) → St → Prop) : Prop := ∀ (pr : Nat → Bool) (S : St) (a0 : Int32) (a1 : Int32) (a2 : Int32), Inv pr S → ∃ (r : Int32) (S1 : St) (S2 : St), mX10_bettiAt S a0 a1 a2 = some (r, S1) ∧ mX11_bettiAt S1 a0 a1 a2 = some (r, S2) ∧ Inv pr S2
def PF_share (Inv : (Nat → Bool) → St → Prop) : Prop := ∀ (pr : Nat → Bool) (S : St) (a0 : Int32) (a1 : Int32) (a2 : Int32), Inv pr S → ∃ (r : Int64) (S1 : St) (S2 : St), mX10_share S a0 a1 a2 = some (r, S1) ∧ mX11_share S1 a0 a1 a2 = some (r, S2) ∧ Inv pr S2
def PF_hold (Inv : (Nat → Bool) → St → Prop) : Prop := ∀ (pr : Nat → Bool) (S : St) (a0 : Int32) (a1 : Int32) (a2 : Int32) (a3 : Int32), (a3 = 0 ∨ a3 = 1) → Inv pr S → ∃ (r : Int32) (S1 : St) (S2 : St), mX10_hold S a0 a1 a2 a3 = some (r, S1) ∧ mX11_hold S1 a0 a1 a2 a3 = some (r, S2) ∧ Inv pr S2
def PF_take (Inv : (Nat → Bool) → St → Prop) : Prop := ∀ (pr : Nat → Bool) (S : St) (a0 : Int32) (a1 : Int32) (a2 : Int32), Inv pr S → ∃ (r : Int32) (S1 : St) (S2 : St), mX10_take S a0 a1 a2 = some (r, S1) ∧ mX11_take S1 a0 a1 a2 = some (r, S2) ∧ Inv pr S2
def PF_measure (Inv : (Nat → Bool) → St → Prop) : Prop := ∀ (pr : Nat → Bool) (S : St) (a0 : Int32) (a1 : Int32), Inv pr S → ∃ (r : Int32) (S1 : St) (S2 : St), mX10_measure S a0 a1 = some (r, S1) ∧ mX11_measure S1 a0 a1 = some (r, S2) ∧ Inv pr S2
def PF_image (Inv : (Nat → Bool) → St → Prop) : Prop := ∀ (pr : Nat → Bool) (S : St) (a0 : Int32), Inv pr S → (a0 < 0 ∨ ¬ a0 < 2 → ∃ S2, mX11_image S a0 = some (-2, S2) ∧ Inv pr S2) ∧ ∀ j, j < 2 → a0 = nI j → ∃ S1 S2, mX1_copyFrom (if pr j then S else clr S j) (97 + 36 * j) 61 = some S1 ∧ mX11_image S1 a0 = some (1, S2) ∧ Inv (va_up pr j true) S2
def PF_restore (Inv : (Nat → Bool) → St → Prop) : Prop := ∀ (pr : Nat → Bool) (S : St) (a0 : Int32), Inv pr S → ∃ (r : Int32) (S1 : St) (S2 : St), mX10_restore pr S a0 = some (r, S1) ∧ mX11_restore S1 a0 = some (r, S2) ∧ Inv pr S2
def PF_told (Inv : (Nat → Bool) → St → Prop) : Prop := ∀ (pr : Nat → Bool) (S : St) (a0 : Int32), Inv pr S → ∃ (r : Int32), mX10_told S a0 = some r ∧ mX11_told S a0 = some r ∧ Inv pr S
def PF (Inv : (Nat → Bool) → St → Prop) : Prop := PF_say Inv ∧ PF_wipe Inv ∧ PF_fault Inv ∧ PF_load Inv ∧ PF_generator Inv ∧ PF_has Inv ∧ PF_make Inv ∧ PF_compare Inv ∧ PF_part Inv ∧ PF_prime Inv ∧ PF_primary Inv ∧ PF_dual Inv ∧ PF_count Inv ∧ PF_series Inv ∧ PF_facts Inv ∧ PF_betti Inv ∧ PF_bettiAt Inv ∧ PF_share Inv ∧ PF_hold Inv ∧ PF_take Inv ∧ PF_measure Inv ∧ PF_image Inv ∧ PF_restore Inv ∧ PF_told Inv
theorem lg_self (x : Int64) : lg_cmp x x = 0 := by
  unfold lg_cmp
  rw [if_neg (by simp [Int64.lt_iff_toInt_lt]), if_pos rfl]
section LAW
variable {κ : KT} {D : va_G} {T : Nat → ClassId} {t1 t2 : Nat} {A : Nat → Prop} {own : String} {cc : ByteArray} {nL fr lo mc ms : Nat} {Q : State → Prop} {cells slots : Nat} {g : GT} {S : St} {pc : Nat} {xs : List (Nat × Value)} {st : List Value}
theorem g_callImg (C : GX κ D T t1 t2 A own cc nL fr lo mc ms) (hg : GOK D T t1 t2 A g) {idx fb lb : Nat} {k : Int32} {rest : List Value} {Post : Int32 → GT → St → Prop} (M : MVt own idx yX10_image cX10_image 2 (some .int) 1) (hM : ∀ sz, Met (kl κ) yX10_image (wsOf yX10_image cX10_image 2 (some .int)) { frames := fb, cells := 36, slots := 703, locals := lb } (va_Pc [.ref (gad g 18), .int k] (PreI D T t1 t2 sz g S)) (QI D T t1 t2 sz g Post) 36 703 (fun q => gAd g q ∨ sz ≤ q)) (hR : fb + 1 ≤ fr ∧ 8 + (2 + 11) + lb ≤ lo) (hcs : cells + 36 ≤ mc ∧ slots + 703 ≤ ms) (hw : (rest.map fun v => v.category).sum ≤ 8) (hd : decode cc pc = .ok (.invokevirtual idx, 3))
    (h : ∀ r g1 S1, Post r g1 S1 → GOK D T t1 t2 A g1 → GJ κ A nL Q (cells + 36) (slots + 703) g1 S1 (pc + 3) xs (.int r :: rest)) : GJ κ A nL Q cells slots g S pc xs (.int k :: .ref (gad g 18) :: rest) := by
  intro H locs ls hP hS hl
  obtain ⟨m1, m2, m2b, m3, m4, m5, m6, m7⟩ := M
  obtain ⟨q, hq⟩ := live_place (g := g) (n := 18) rfl
  have he : (wN g S)[q]? = some (gad g 18, .inr (8, ([29, 71, 32, 33, 34] : List Nat).mapIdx (fun k x => fval g S 18 k x))) := by rw [ws_at hq, cell_obj sh_18]
  have hr := va_runV (H := H) (locs := locs) (cells := cells) (slots := slots) (g := F0 (km κ) pc ls (.int k :: .ref (gad g 18) :: rest)) (below := kb κ) (meth := kt κ) (e := ke κ) (Ts := LW) (own := own) (C := yX10_image.cls) (nL := nL) (cc := cc) (As := [.int k]) (rest := rest) (n := 1) (R := kR κ) (index := idx) (bytes := cX10_image) (maxL := 2) (ret := some .int) (p := kp κ) (c := kc κ) (m := km κ) (s := ks κ) (args := ka κ) ⟨C.1.ex, C.1.cd, C.1.ml, C.1.ow, C.1.ts⟩ (hM H.size) ⟨callB_of 1 C.1.ts (goodIn_wsOf m4) rfl rfl rfl (C.1.ts _ m3) (C.1.ts _ m1) ⟨m5, m6, m7⟩ (by rw [C.1.R]; exact hR), C.1.ts _ m2, C.1.ts _ m2b⟩ ⟨fun a U f mk q => by
      obtain ⟨q1, q2, q3, q4, q5, q6, q7, q8⟩ := q
      exact ⟨q1, q2, q3, q4, va_K.moved (u := U) (U := U.calling f mk a) (Vm.Alike.refl U.vm) q5, arN.moved (u := U) (U := U.calling f mk a) (Vm.Alike.refl U.vm) q6, auxN.same (u := U) (U := U.calling f mk a) rfl q7, statA.moved (u := U) (U := U.calling f mk a) (Vm.Alike.refl U.vm) q8⟩, va_recv (C.KG hg) hP (ci := 8) rfl he, fun U hU hW => ⟨rfl, by rw [hU], by rw [hU]; exact hP, ⟨hg.1, hg.2.1, hg.2.2.1, hg.2.2.2.1, fun S' => (hg.2.2.2.2 S').weaken (fun _ _ _ _ => trivial)⟩, va_K.moved hW.alike C.1.K, C.1.ar.moved hW.alike, C.1.ax.warm hW, by rw [hU]; exact ((C.2.kept (fun a ha hn => hS.2.1 a ha hn)).narrow hg.in).moved hW.alike⟩⟩ rfl rfl hl.1 rfl (lv_room hw) hd (by rw [C.1.R]; exact hcs)
  have hin : ∀ q, gAd g q ∨ H.size ≤ q → A q := fun q hq => hq.elim (hg.in q) (fun z => C.1.hA q (Nat.le_trans hS.1 z))
  intro X hX XX
  obtain ⟨v, st₀, t, X', L, h0, XX', hL, e1, e2, ⟨⟨r, g1, S1, hv, hp, hpp, hok⟩, hz, hk⟩, sx⟩ := hr X hX XX
  have hv' : v = some (.int r) := by cases hv; rfl
  subst hv'
  rw [h0] at hz hk
  obtain ⟨t3, a1, b1⟩ := h r g1 S1 hp ⟨hok.1, hok.2.1, hok.2.2.1, hok.2.2.2.1, fun S' => (hok.2.2.2.2 S').weaken (fun _ _ _ z => hin _ z)⟩ X'.heap (locs ++ L) ls (by rw [e1]; exact hpp)
    ⟨Nat.le_trans hS.1 (by rw [e1]; exact hz), fun q h1 h2 => by rw [e1, hk q (Nat.lt_of_lt_of_le h1 hS.1) (fun z => h2 (hin q z))]; exact hS.2.1 q h1 h2, fun q hq => by
      rcases List.mem_append.mp hq with h | h
      · exact hS.2.2 q h
      · exact hin _ (hL q h)⟩ hl X' rfl XX'
  exact ⟨t3, sx t3 a1, b1⟩
end LAW
theorem law_say {Inv : (Nat → Bool) → St → Prop} (hpf : PF_say Inv) {κ : KT} {D : va_G} {T : Nat → ClassId} {t1 t2 : Nat} (C : GX κ D T t1 t2 (fun q => (ks κ).heap.size ≤ q) RL cL_law 4 2048 84000 600000 7302250) {b L i cells slots : Nat} {ys : Nat → Int32} {Q : State → Prop} {g : GT} {S : St} (hX : va_X b L ys (ks κ) (ks κ).heap) (hbl : b < (ks κ).heap.size) (hi : i + 5 ≤ L) (hL : L ≤ 2560) (hg : GOK D T t1 t2 (fun q => (ks κ).heap.size ≤ q) g) (hcs : cells + 36 ≤ 600000 ∧ slots + 703 ≤ 7302250) (hI : Inv (gpr g) S) (hnx : ∀ S2, Inv (gpr g) S2 → GJ κ (fun q => (ks κ).heap.size ≤ q) 4 Q cells slots g S2 953 [(0, .ref b), (1, .ref (gad g 18)), (2, .ref (gad g 0)), (3, .int (nI i))] []) : GJ κ (fun q => (ks κ).heap.size ≤ q) 4 Q cells slots g S 144 [(0, .ref b), (1, .ref (gad g 18)), (2, .ref (gad g 0)), (3, .int (nI i))] [] := by
  have hbA : ¬ (fun q : Nat => (ks κ).heap.size ≤ q) b := Nat.not_le.mpr hbl
  have hin1 : vp_in (nI i + 1) L := by rw [show nI i + 1 = nI (i + 1) from nI_add i 1]; exact vp_in_nI (by omega) (by omega)
  obtain ⟨r, S1, S2, h1, h2, hI2⟩ := hpf (gpr g) S (ys ((nI i + 1).toNatClampNeg)) hI
  refine g_aload_n C 1 rfl dL_law_144 rfl ?_
  refine g_aload_n C 0 rfl dL_law_145 rfl ?_
  refine g_iload_n C 3 rfl dL_law_146 rfl ?_
  refine g_iconst C (v := 1) (by decide) dL_law_147 ?_
  refine g_iadd C dL_law_148 ?_
  refine g_sld C hX hbl hbA hin1 dL_law_149 ?_
  refine g_callV C hg [.int (ys ((nI i + 1).toNatClampNeg))] [] mv_L_13 sh_18 rfl rfl (ctX10_say h1) ⟨(Nat.le_of_ble_eq_true rfl), (Nat.le_of_ble_eq_true rfl)⟩ ⟨by omega, by omega⟩ (Nat.le_of_ble_eq_true rfl) dL_law_150 rfl ?_
  show GJ _ _ _ _ _ _ _ S1 _ _ (.int r :: [])
  refine g_aload_n C 2 rfl dL_law_153 rfl ?_
  refine g_aload_n C 0 rfl dL_law_154 rfl ?_
  refine g_iload_n C 3 rfl dL_law_155 rfl ?_
  refine g_iconst C (v := 1) (by decide) dL_law_156 ?_
  refine g_iadd C dL_law_157 ?_
  refine g_sld C hX hbl hbA hin1 dL_law_158 ?_
  refine g_callV C hg [.int (ys ((nI i + 1).toNatClampNeg))] [.int r] mv_L_17 sh_0 rfl rfl (ctX11_say h2) ⟨(Nat.le_of_ble_eq_true rfl), (Nat.le_of_ble_eq_true rfl)⟩ ⟨by omega, by omega⟩ (Nat.le_of_ble_eq_true rfl) dL_law_159 rfl ?_
  show GJ _ _ _ _ _ _ _ S2 _ _ (.int r :: [.int r])
  refine g_icmp_eq C 953 dL_law_162 (by decide) (fun _ => ?_) (fun z => absurd rfl z)
  exact hnx S2 hI2
theorem law_wipe {Inv : (Nat → Bool) → St → Prop} (hpf : PF_wipe Inv) {κ : KT} {D : va_G} {T : Nat → ClassId} {t1 t2 : Nat} (C : GX κ D T t1 t2 (fun q => (ks κ).heap.size ≤ q) RL cL_law 4 2048 84000 600000 7302250) {b L i cells slots : Nat} {ys : Nat → Int32} {Q : State → Prop} {g : GT} {S : St} (hX : va_X b L ys (ks κ) (ks κ).heap) (hbl : b < (ks κ).heap.size) (hi : i + 5 ≤ L) (hL : L ≤ 2560) (hg : GOK D T t1 t2 (fun q => (ks κ).heap.size ≤ q) g) (hcs : cells + 36 ≤ 600000 ∧ slots + 703 ≤ 7302250) (hI : Inv (gpr g) S) (hnx : ∀ S2, Inv (gpr g) S2 → GJ κ (fun q => (ks κ).heap.size ≤ q) 4 Q cells slots g S2 953 [(0, .ref b), (1, .ref (gad g 18)), (2, .ref (gad g 0)), (3, .int (nI i))] []) : GJ κ (fun q => (ks κ).heap.size ≤ q) 4 Q cells slots g S 167 [(0, .ref b), (1, .ref (gad g 18)), (2, .ref (gad g 0)), (3, .int (nI i))] [] := by
  have hbA : ¬ (fun q : Nat => (ks κ).heap.size ≤ q) b := Nat.not_le.mpr hbl
  obtain ⟨r, S1, S2, h1, h2, hI2⟩ := hpf (gpr g) S hI
  refine g_aload_n C 1 rfl dL_law_167 rfl ?_
  refine g_callV C hg [] [] mv_L_18 sh_18 rfl rfl (ctX10_wipe h1) ⟨(Nat.le_of_ble_eq_true rfl), (Nat.le_of_ble_eq_true rfl)⟩ ⟨by omega, by omega⟩ (Nat.le_of_ble_eq_true rfl) dL_law_168 rfl ?_
  show GJ _ _ _ _ _ _ _ S1 _ _ (.int r :: [])
  refine g_aload_n C 2 rfl dL_law_171 rfl ?_
  refine g_callV C hg [] [.int r] mv_L_22 sh_0 rfl rfl (ctX11_wipe h2) ⟨(Nat.le_of_ble_eq_true rfl), (Nat.le_of_ble_eq_true rfl)⟩ ⟨by omega, by omega⟩ (Nat.le_of_ble_eq_true rfl) dL_law_172 rfl ?_
  show GJ _ _ _ _ _ _ _ S2 _ _ (.int r :: [.int r])
  refine g_icmp_eq C 953 dL_law_175 (by decide) (fun _ => ?_) (fun z => absurd rfl z)
  exact hnx S2 hI2
theorem law_fault {Inv : (Nat → Bool) → St → Prop} (hpf : PF_fault Inv) {κ : KT} {D : va_G} {T : Nat → ClassId} {t1 t2 : Nat} (C : GX κ D T t1 t2 (fun q => (ks κ).heap.size ≤ q) RL cL_law 4 2048 84000 600000 7302250) {b L i cells slots : Nat} {ys : Nat → Int32} {Q : State → Prop} {g : GT} {S : St} (hX : va_X b L ys (ks κ) (ks κ).heap) (hbl : b < (ks κ).heap.size) (hi : i + 5 ≤ L) (hL : L ≤ 2560) (hg : GOK D T t1 t2 (fun q => (ks κ).heap.size ≤ q) g) (hcs : cells + 36 ≤ 600000 ∧ slots + 703 ≤ 7302250) (hI : Inv (gpr g) S) (hnx : ∀ S2, Inv (gpr g) S2 → GJ κ (fun q => (ks κ).heap.size ≤ q) 4 Q cells slots g S2 953 [(0, .ref b), (1, .ref (gad g 18)), (2, .ref (gad g 0)), (3, .int (nI i))] []) : GJ κ (fun q => (ks κ).heap.size ≤ q) 4 Q cells slots g S 180 [(0, .ref b), (1, .ref (gad g 18)), (2, .ref (gad g 0)), (3, .int (nI i))] [] := by
  have hbA : ¬ (fun q : Nat => (ks κ).heap.size ≤ q) b := Nat.not_le.mpr hbl
  obtain ⟨r, S1, S2, h1, h2, hI2⟩ := hpf (gpr g) S hI
  refine g_aload_n C 1 rfl dL_law_180 rfl ?_
  refine g_callV C hg [] [] mv_L_23 sh_18 rfl rfl (ctX10_fault h1) ⟨(Nat.le_of_ble_eq_true rfl), (Nat.le_of_ble_eq_true rfl)⟩ ⟨by omega, by omega⟩ (Nat.le_of_ble_eq_true rfl) dL_law_181 rfl ?_
  show GJ _ _ _ _ _ _ _ S1 _ _ (.int r :: [])
  refine g_aload_n C 2 rfl dL_law_184 rfl ?_
  refine g_callV C hg [] [.int r] mv_L_26 sh_0 rfl rfl (ctX11_fault h2) ⟨(Nat.le_of_ble_eq_true rfl), (Nat.le_of_ble_eq_true rfl)⟩ ⟨by omega, by omega⟩ (Nat.le_of_ble_eq_true rfl) dL_law_185 rfl ?_
  show GJ _ _ _ _ _ _ _ S2 _ _ (.int r :: [.int r])
  refine g_icmp_eq C 953 dL_law_188 (by decide) (fun _ => ?_) (fun z => absurd rfl z)
  exact hnx S2 hI2
theorem law_load {Inv : (Nat → Bool) → St → Prop} (hpf : PF_load Inv) {κ : KT} {D : va_G} {T : Nat → ClassId} {t1 t2 : Nat} (C : GX κ D T t1 t2 (fun q => (ks κ).heap.size ≤ q) RL cL_law 4 2048 84000 600000 7302250) {b L i cells slots : Nat} {ys : Nat → Int32} {Q : State → Prop} {g : GT} {S : St} (hX : va_X b L ys (ks κ) (ks κ).heap) (hbl : b < (ks κ).heap.size) (hi : i + 5 ≤ L) (hL : L ≤ 2560) (hg : GOK D T t1 t2 (fun q => (ks κ).heap.size ≤ q) g) (hcs : cells + 36 ≤ 600000 ∧ slots + 703 ≤ 7302250) (hI : Inv (gpr g) S) (hnx : ∀ S2, Inv (gpr g) S2 → GJ κ (fun q => (ks κ).heap.size ≤ q) 4 Q cells slots g S2 953 [(0, .ref b), (1, .ref (gad g 18)), (2, .ref (gad g 0)), (3, .int (nI i))] []) : GJ κ (fun q => (ks κ).heap.size ≤ q) 4 Q cells slots g S 193 [(0, .ref b), (1, .ref (gad g 18)), (2, .ref (gad g 0)), (3, .int (nI i))] [] := by
  have hbA : ¬ (fun q : Nat => (ks κ).heap.size ≤ q) b := Nat.not_le.mpr hbl
  have hin1 : vp_in (nI i + 1) L := by rw [show nI i + 1 = nI (i + 1) from nI_add i 1]; exact vp_in_nI (by omega) (by omega)
  obtain ⟨r, S1, S2, h1, h2, hI2⟩ := hpf (gpr g) S (ys ((nI i + 1).toNatClampNeg)) hI
  refine g_aload_n C 1 rfl dL_law_193 rfl ?_
  refine g_aload_n C 0 rfl dL_law_194 rfl ?_
  refine g_iload_n C 3 rfl dL_law_195 rfl ?_
  refine g_iconst C (v := 1) (by decide) dL_law_196 ?_
  refine g_iadd C dL_law_197 ?_
  refine g_sld C hX hbl hbA hin1 dL_law_198 ?_
  refine g_callV C hg [.int (ys ((nI i + 1).toNatClampNeg))] [] mv_L_27 sh_18 rfl rfl (ctX10_load h1) ⟨(Nat.le_of_ble_eq_true rfl), (Nat.le_of_ble_eq_true rfl)⟩ ⟨by omega, by omega⟩ (Nat.le_of_ble_eq_true rfl) dL_law_199 rfl ?_
  show GJ _ _ _ _ _ _ _ S1 _ _ (.int r :: [])
  refine g_aload_n C 2 rfl dL_law_202 rfl ?_
  refine g_aload_n C 0 rfl dL_law_203 rfl ?_
  refine g_iload_n C 3 rfl dL_law_204 rfl ?_
  refine g_iconst C (v := 1) (by decide) dL_law_205 ?_
  refine g_iadd C dL_law_206 ?_
  refine g_sld C hX hbl hbA hin1 dL_law_207 ?_
  refine g_callV C hg [.int (ys ((nI i + 1).toNatClampNeg))] [.int r] mv_L_30 sh_0 rfl rfl (ctX11_load h2) ⟨(Nat.le_of_ble_eq_true rfl), (Nat.le_of_ble_eq_true rfl)⟩ ⟨by omega, by omega⟩ (Nat.le_of_ble_eq_true rfl) dL_law_208 rfl ?_
  show GJ _ _ _ _ _ _ _ S2 _ _ (.int r :: [.int r])
  refine g_icmp_eq C 953 dL_law_211 (by decide) (fun _ => ?_) (fun z => absurd rfl z)
  exact hnx S2 hI2
theorem law_generator {Inv : (Nat → Bool) → St → Prop} (hpf : PF_generator Inv) {κ : KT} {D : va_G} {T : Nat → ClassId} {t1 t2 : Nat} (C : GX κ D T t1 t2 (fun q => (ks κ).heap.size ≤ q) RL cL_law 4 2048 84000 600000 7302250) {b L i cells slots : Nat} {ys : Nat → Int32} {Q : State → Prop} {g : GT} {S : St} (hX : va_X b L ys (ks κ) (ks κ).heap) (hbl : b < (ks κ).heap.size) (hi : i + 5 ≤ L) (hL : L ≤ 2560) (hg : GOK D T t1 t2 (fun q => (ks κ).heap.size ≤ q) g) (hcs : cells + 36 ≤ 600000 ∧ slots + 703 ≤ 7302250) (hI : Inv (gpr g) S) (hnx : ∀ S2, Inv (gpr g) S2 → GJ κ (fun q => (ks κ).heap.size ≤ q) 4 Q cells slots g S2 953 [(0, .ref b), (1, .ref (gad g 18)), (2, .ref (gad g 0)), (3, .int (nI i))] []) : GJ κ (fun q => (ks κ).heap.size ≤ q) 4 Q cells slots g S 216 [(0, .ref b), (1, .ref (gad g 18)), (2, .ref (gad g 0)), (3, .int (nI i))] [] := by
  have hbA : ¬ (fun q : Nat => (ks κ).heap.size ≤ q) b := Nat.not_le.mpr hbl
  have hin1 : vp_in (nI i + 1) L := by rw [show nI i + 1 = nI (i + 1) from nI_add i 1]; exact vp_in_nI (by omega) (by omega)
  have hin2 : vp_in (nI i + 2) L := by rw [show nI i + 2 = nI (i + 2) from nI_add i 2]; exact vp_in_nI (by omega) (by omega)
  obtain ⟨r, h1, h2, hI2⟩ := hpf (gpr g) S (ys ((nI i + 1).toNatClampNeg)) (ys ((nI i + 2).toNatClampNeg)) hI
  refine g_aload_n C 1 rfl dL_law_216 rfl ?_
  refine g_aload_n C 0 rfl dL_law_217 rfl ?_
  refine g_iload_n C 3 rfl dL_law_218 rfl ?_
  refine g_iconst C (v := 1) (by decide) dL_law_219 ?_
  refine g_iadd C dL_law_220 ?_
  refine g_sld C hX hbl hbA hin1 dL_law_221 ?_
  refine g_aload_n C 0 rfl dL_law_222 rfl ?_
  refine g_iload_n C 3 rfl dL_law_223 rfl ?_
  refine g_iconst C (v := 2) (by decide) dL_law_224 ?_
  refine g_iadd C dL_law_225 ?_
  refine g_sld C hX hbl hbA hin2 dL_law_226 ?_
  refine g_callV C hg [.int (ys ((nI i + 1).toNatClampNeg)), .int (ys ((nI i + 2).toNatClampNeg))] [] mv_L_31 sh_18 rfl rfl (ctX10_generator h1) ⟨(Nat.le_of_ble_eq_true rfl), (Nat.le_of_ble_eq_true rfl)⟩ ⟨by omega, by omega⟩ (Nat.le_of_ble_eq_true rfl) dL_law_227 rfl ?_
  show GJ _ _ _ _ _ _ _ S _ _ (.int r :: [])
  refine g_aload_n C 2 rfl dL_law_230 rfl ?_
  refine g_aload_n C 0 rfl dL_law_231 rfl ?_
  refine g_iload_n C 3 rfl dL_law_232 rfl ?_
  refine g_iconst C (v := 1) (by decide) dL_law_233 ?_
  refine g_iadd C dL_law_234 ?_
  refine g_sld C hX hbl hbA hin1 dL_law_235 ?_
  refine g_aload_n C 0 rfl dL_law_236 rfl ?_
  refine g_iload_n C 3 rfl dL_law_237 rfl ?_
  refine g_iconst C (v := 2) (by decide) dL_law_238 ?_
  refine g_iadd C dL_law_239 ?_
  refine g_sld C hX hbl hbA hin2 dL_law_240 ?_
  refine g_callV C hg [.int (ys ((nI i + 1).toNatClampNeg)), .int (ys ((nI i + 2).toNatClampNeg))] [.int r] mv_L_35 sh_0 rfl rfl (ctX11_generator h2) ⟨(Nat.le_of_ble_eq_true rfl), (Nat.le_of_ble_eq_true rfl)⟩ ⟨by omega, by omega⟩ (Nat.le_of_ble_eq_true rfl) dL_law_241 rfl ?_
  show GJ _ _ _ _ _ _ _ S _ _ (.int r :: [.int r])
  refine g_icmp_eq C 953 dL_law_244 (by decide) (fun _ => ?_) (fun z => absurd rfl z)
  exact hnx S hI2
theorem law_has {Inv : (Nat → Bool) → St → Prop} (hpf : PF_has Inv) {κ : KT} {D : va_G} {T : Nat → ClassId} {t1 t2 : Nat} (C : GX κ D T t1 t2 (fun q => (ks κ).heap.size ≤ q) RL cL_law 4 2048 84000 600000 7302250) {b L i cells slots : Nat} {ys : Nat → Int32} {Q : State → Prop} {g : GT} {S : St} (hX : va_X b L ys (ks κ) (ks κ).heap) (hbl : b < (ks κ).heap.size) (hi : i + 5 ≤ L) (hL : L ≤ 2560) (hg : GOK D T t1 t2 (fun q => (ks κ).heap.size ≤ q) g) (hcs : cells + 36 ≤ 600000 ∧ slots + 703 ≤ 7302250) (hI : Inv (gpr g) S) (hnx : ∀ S2, Inv (gpr g) S2 → GJ κ (fun q => (ks κ).heap.size ≤ q) 4 Q cells slots g S2 953 [(0, .ref b), (1, .ref (gad g 18)), (2, .ref (gad g 0)), (3, .int (nI i))] []) : GJ κ (fun q => (ks κ).heap.size ≤ q) 4 Q cells slots g S 249 [(0, .ref b), (1, .ref (gad g 18)), (2, .ref (gad g 0)), (3, .int (nI i))] [] := by
  have hbA : ¬ (fun q : Nat => (ks κ).heap.size ≤ q) b := Nat.not_le.mpr hbl
  have hin1 : vp_in (nI i + 1) L := by rw [show nI i + 1 = nI (i + 1) from nI_add i 1]; exact vp_in_nI (by omega) (by omega)
  have hin2 : vp_in (nI i + 2) L := by rw [show nI i + 2 = nI (i + 2) from nI_add i 2]; exact vp_in_nI (by omega) (by omega)
  obtain ⟨r, h1, h2, hI2⟩ := hpf (gpr g) S (ys ((nI i + 1).toNatClampNeg)) (ys ((nI i + 2).toNatClampNeg)) hI
  refine g_aload_n C 1 rfl dL_law_249 rfl ?_
  refine g_aload_n C 0 rfl dL_law_250 rfl ?_
  refine g_iload_n C 3 rfl dL_law_251 rfl ?_
  refine g_iconst C (v := 1) (by decide) dL_law_252 ?_
  refine g_iadd C dL_law_253 ?_
  refine g_sld C hX hbl hbA hin1 dL_law_254 ?_
  refine g_aload_n C 0 rfl dL_law_255 rfl ?_
  refine g_iload_n C 3 rfl dL_law_256 rfl ?_
  refine g_iconst C (v := 2) (by decide) dL_law_257 ?_
  refine g_iadd C dL_law_258 ?_
  refine g_sld C hX hbl hbA hin2 dL_law_259 ?_
  refine g_callV C hg [.int (ys ((nI i + 1).toNatClampNeg)), .int (ys ((nI i + 2).toNatClampNeg))] [] mv_L_36 sh_18 rfl rfl (ctX10_has h1) ⟨(Nat.le_of_ble_eq_true rfl), (Nat.le_of_ble_eq_true rfl)⟩ ⟨by omega, by omega⟩ (Nat.le_of_ble_eq_true rfl) dL_law_260 rfl ?_
  show GJ _ _ _ _ _ _ _ S _ _ (.int r :: [])
  refine g_aload_n C 2 rfl dL_law_263 rfl ?_
  refine g_aload_n C 0 rfl dL_law_264 rfl ?_
  refine g_iload_n C 3 rfl dL_law_265 rfl ?_
  refine g_iconst C (v := 1) (by decide) dL_law_266 ?_
  refine g_iadd C dL_law_267 ?_
  refine g_sld C hX hbl hbA hin1 dL_law_268 ?_
  refine g_aload_n C 0 rfl dL_law_269 rfl ?_
  refine g_iload_n C 3 rfl dL_law_270 rfl ?_
  refine g_iconst C (v := 2) (by decide) dL_law_271 ?_
  refine g_iadd C dL_law_272 ?_
  refine g_sld C hX hbl hbA hin2 dL_law_273 ?_
  refine g_callV C hg [.int (ys ((nI i + 1).toNatClampNeg)), .int (ys ((nI i + 2).toNatClampNeg))] [.int r] mv_L_39 sh_0 rfl rfl (ctX11_has h2) ⟨(Nat.le_of_ble_eq_true rfl), (Nat.le_of_ble_eq_true rfl)⟩ ⟨by omega, by omega⟩ (Nat.le_of_ble_eq_true rfl) dL_law_274 rfl ?_
  show GJ _ _ _ _ _ _ _ S _ _ (.int r :: [.int r])
  refine g_icmp_eq C 953 dL_law_277 (by decide) (fun _ => ?_) (fun z => absurd rfl z)
  exact hnx S hI2
theorem law_make {Inv : (Nat → Bool) → St → Prop} (hpf : PF_make Inv) {κ : KT} {D : va_G} {T : Nat → ClassId} {t1 t2 : Nat} (C : GX κ D T t1 t2 (fun q => (ks κ).heap.size ≤ q) RL cL_law 4 2048 84000 600000 7302250) {b L i cells slots : Nat} {ys : Nat → Int32} {Q : State → Prop} {g : GT} {S : St} (hX : va_X b L ys (ks κ) (ks κ).heap) (hbl : b < (ks κ).heap.size) (hi : i + 5 ≤ L) (hL : L ≤ 2560) (hg : GOK D T t1 t2 (fun q => (ks κ).heap.size ≤ q) g) (hcs : cells + 36 ≤ 600000 ∧ slots + 703 ≤ 7302250) (hI : Inv (gpr g) S) (hnx : ∀ S2, Inv (gpr g) S2 → GJ κ (fun q => (ks κ).heap.size ≤ q) 4 Q cells slots g S2 953 [(0, .ref b), (1, .ref (gad g 18)), (2, .ref (gad g 0)), (3, .int (nI i))] []) : GJ κ (fun q => (ks κ).heap.size ≤ q) 4 Q cells slots g S 282 [(0, .ref b), (1, .ref (gad g 18)), (2, .ref (gad g 0)), (3, .int (nI i))] [] := by
  have hbA : ¬ (fun q : Nat => (ks κ).heap.size ≤ q) b := Nat.not_le.mpr hbl
  have hin1 : vp_in (nI i + 1) L := by rw [show nI i + 1 = nI (i + 1) from nI_add i 1]; exact vp_in_nI (by omega) (by omega)
  have hin2 : vp_in (nI i + 2) L := by rw [show nI i + 2 = nI (i + 2) from nI_add i 2]; exact vp_in_nI (by omega) (by omega)
  have hin3 : vp_in (nI i + 3) L := by rw [show nI i + 3 = nI (i + 3) from nI_add i 3]; exact vp_in_nI (by omega) (by omega)
  have hin4 : vp_in (nI i + 4) L := by rw [show nI i + 4 = nI (i + 4) from nI_add i 4]; exact vp_in_nI (by omega) (by omega)
  obtain ⟨r, S1, S2, h1, h2, hI2⟩ := hpf (gpr g) S (ys ((nI i + 1).toNatClampNeg)) (ys ((nI i + 2).toNatClampNeg)) (ys ((nI i + 3).toNatClampNeg)) (ys ((nI i + 4).toNatClampNeg)) hI
  refine g_aload_n C 1 rfl dL_law_282 rfl ?_
  refine g_aload_n C 0 rfl dL_law_283 rfl ?_
  refine g_iload_n C 3 rfl dL_law_284 rfl ?_
  refine g_iconst C (v := 1) (by decide) dL_law_285 ?_
  refine g_iadd C dL_law_286 ?_
  refine g_sld C hX hbl hbA hin1 dL_law_287 ?_
  refine g_aload_n C 0 rfl dL_law_288 rfl ?_
  refine g_iload_n C 3 rfl dL_law_289 rfl ?_
  refine g_iconst C (v := 2) (by decide) dL_law_290 ?_
  refine g_iadd C dL_law_291 ?_
  refine g_sld C hX hbl hbA hin2 dL_law_292 ?_
  refine g_aload_n C 0 rfl dL_law_293 rfl ?_
  refine g_iload_n C 3 rfl dL_law_294 rfl ?_
  refine g_iconst C (v := 3) (by decide) dL_law_295 ?_
  refine g_iadd C dL_law_296 ?_
  refine g_sld C hX hbl hbA hin3 dL_law_297 ?_
  refine g_aload_n C 0 rfl dL_law_298 rfl ?_
  refine g_iload_n C 3 rfl dL_law_299 rfl ?_
  refine g_iconst C (v := 4) (by decide) dL_law_300 ?_
  refine g_iadd C dL_law_301 ?_
  refine g_sld C hX hbl hbA hin4 dL_law_302 ?_
  refine g_callV C hg [.int (ys ((nI i + 1).toNatClampNeg)), .int (ys ((nI i + 2).toNatClampNeg)), .int (ys ((nI i + 3).toNatClampNeg)), .int (ys ((nI i + 4).toNatClampNeg))] [] mv_L_40 sh_18 rfl rfl (ctX10_make h1) ⟨(Nat.le_of_ble_eq_true rfl), (Nat.le_of_ble_eq_true rfl)⟩ ⟨by omega, by omega⟩ (Nat.le_of_ble_eq_true rfl) dL_law_303 rfl ?_
  show GJ _ _ _ _ _ _ _ S1 _ _ (.int r :: [])
  refine g_aload_n C 2 rfl dL_law_306 rfl ?_
  refine g_aload_n C 0 rfl dL_law_307 rfl ?_
  refine g_iload_n C 3 rfl dL_law_308 rfl ?_
  refine g_iconst C (v := 1) (by decide) dL_law_309 ?_
  refine g_iadd C dL_law_310 ?_
  refine g_sld C hX hbl hbA hin1 dL_law_311 ?_
  refine g_aload_n C 0 rfl dL_law_312 rfl ?_
  refine g_iload_n C 3 rfl dL_law_313 rfl ?_
  refine g_iconst C (v := 2) (by decide) dL_law_314 ?_
  refine g_iadd C dL_law_315 ?_
  refine g_sld C hX hbl hbA hin2 dL_law_316 ?_
  refine g_aload_n C 0 rfl dL_law_317 rfl ?_
  refine g_iload_n C 3 rfl dL_law_318 rfl ?_
  refine g_iconst C (v := 3) (by decide) dL_law_319 ?_
  refine g_iadd C dL_law_320 ?_
  refine g_sld C hX hbl hbA hin3 dL_law_321 ?_
  refine g_aload_n C 0 rfl dL_law_322 rfl ?_
  refine g_iload_n C 3 rfl dL_law_323 rfl ?_
  refine g_iconst C (v := 4) (by decide) dL_law_324 ?_
  refine g_iadd C dL_law_325 ?_
  refine g_sld C hX hbl hbA hin4 dL_law_326 ?_
  refine g_callV C hg [.int (ys ((nI i + 1).toNatClampNeg)), .int (ys ((nI i + 2).toNatClampNeg)), .int (ys ((nI i + 3).toNatClampNeg)), .int (ys ((nI i + 4).toNatClampNeg))] [.int r] mv_L_44 sh_0 rfl rfl (ctX11_make h2) ⟨(Nat.le_of_ble_eq_true rfl), (Nat.le_of_ble_eq_true rfl)⟩ ⟨by omega, by omega⟩ (Nat.le_of_ble_eq_true rfl) dL_law_327 rfl ?_
  show GJ _ _ _ _ _ _ _ S2 _ _ (.int r :: [.int r])
  refine g_icmp_eq C 953 dL_law_330 (by decide) (fun _ => ?_) (fun z => absurd rfl z)
  exact hnx S2 hI2
theorem law_compare {Inv : (Nat → Bool) → St → Prop} (hpf : PF_compare Inv) {κ : KT} {D : va_G} {T : Nat → ClassId} {t1 t2 : Nat} (C : GX κ D T t1 t2 (fun q => (ks κ).heap.size ≤ q) RL cL_law 4 2048 84000 600000 7302250) {b L i cells slots : Nat} {ys : Nat → Int32} {Q : State → Prop} {g : GT} {S : St} (hX : va_X b L ys (ks κ) (ks κ).heap) (hbl : b < (ks κ).heap.size) (hi : i + 5 ≤ L) (hL : L ≤ 2560) (hg : GOK D T t1 t2 (fun q => (ks κ).heap.size ≤ q) g) (hcs : cells + 36 ≤ 600000 ∧ slots + 703 ≤ 7302250) (hI : Inv (gpr g) S) (hnx : ∀ S2, Inv (gpr g) S2 → GJ κ (fun q => (ks κ).heap.size ≤ q) 4 Q cells slots g S2 953 [(0, .ref b), (1, .ref (gad g 18)), (2, .ref (gad g 0)), (3, .int (nI i))] []) : GJ κ (fun q => (ks κ).heap.size ≤ q) 4 Q cells slots g S 335 [(0, .ref b), (1, .ref (gad g 18)), (2, .ref (gad g 0)), (3, .int (nI i))] [] := by
  have hbA : ¬ (fun q : Nat => (ks κ).heap.size ≤ q) b := Nat.not_le.mpr hbl
  have hin1 : vp_in (nI i + 1) L := by rw [show nI i + 1 = nI (i + 1) from nI_add i 1]; exact vp_in_nI (by omega) (by omega)
  have hin2 : vp_in (nI i + 2) L := by rw [show nI i + 2 = nI (i + 2) from nI_add i 2]; exact vp_in_nI (by omega) (by omega)
  obtain ⟨r, h1, h2, hI2⟩ := hpf (gpr g) S (ys ((nI i + 1).toNatClampNeg)) (ys ((nI i + 2).toNatClampNeg)) hI
  refine g_aload_n C 1 rfl dL_law_335 rfl ?_
  refine g_aload_n C 0 rfl dL_law_336 rfl ?_
  refine g_iload_n C 3 rfl dL_law_337 rfl ?_
  refine g_iconst C (v := 1) (by decide) dL_law_338 ?_
  refine g_iadd C dL_law_339 ?_
  refine g_sld C hX hbl hbA hin1 dL_law_340 ?_
  refine g_aload_n C 0 rfl dL_law_341 rfl ?_
  refine g_iload_n C 3 rfl dL_law_342 rfl ?_
  refine g_iconst C (v := 2) (by decide) dL_law_343 ?_
  refine g_iadd C dL_law_344 ?_
  refine g_sld C hX hbl hbA hin2 dL_law_345 ?_
  refine g_callV C hg [.int (ys ((nI i + 1).toNatClampNeg)), .int (ys ((nI i + 2).toNatClampNeg))] [] mv_L_45 sh_18 rfl rfl (ctX10_compare h1) ⟨(Nat.le_of_ble_eq_true rfl), (Nat.le_of_ble_eq_true rfl)⟩ ⟨by omega, by omega⟩ (Nat.le_of_ble_eq_true rfl) dL_law_346 rfl ?_
  show GJ _ _ _ _ _ _ _ S _ _ (.int r :: [])
  refine g_aload_n C 2 rfl dL_law_349 rfl ?_
  refine g_aload_n C 0 rfl dL_law_350 rfl ?_
  refine g_iload_n C 3 rfl dL_law_351 rfl ?_
  refine g_iconst C (v := 1) (by decide) dL_law_352 ?_
  refine g_iadd C dL_law_353 ?_
  refine g_sld C hX hbl hbA hin1 dL_law_354 ?_
  refine g_aload_n C 0 rfl dL_law_355 rfl ?_
  refine g_iload_n C 3 rfl dL_law_356 rfl ?_
  refine g_iconst C (v := 2) (by decide) dL_law_357 ?_
  refine g_iadd C dL_law_358 ?_
  refine g_sld C hX hbl hbA hin2 dL_law_359 ?_
  refine g_callV C hg [.int (ys ((nI i + 1).toNatClampNeg)), .int (ys ((nI i + 2).toNatClampNeg))] [.int r] mv_L_48 sh_0 rfl rfl (ctX11_compare h2) ⟨(Nat.le_of_ble_eq_true rfl), (Nat.le_of_ble_eq_true rfl)⟩ ⟨by omega, by omega⟩ (Nat.le_of_ble_eq_true rfl) dL_law_360 rfl ?_
  show GJ _ _ _ _ _ _ _ S _ _ (.int r :: [.int r])
  refine g_icmp_eq C 953 dL_law_363 (by decide) (fun _ => ?_) (fun z => absurd rfl z)
  exact hnx S hI2
theorem law_part {Inv : (Nat → Bool) → St → Prop} (hpf : PF_part Inv) {κ : KT} {D : va_G} {T : Nat → ClassId} {t1 t2 : Nat} (C : GX κ D T t1 t2 (fun q => (ks κ).heap.size ≤ q) RL cL_law 4 2048 84000 600000 7302250) {b L i cells slots : Nat} {ys : Nat → Int32} {Q : State → Prop} {g : GT} {S : St} (hX : va_X b L ys (ks κ) (ks κ).heap) (hbl : b < (ks κ).heap.size) (hi : i + 5 ≤ L) (hL : L ≤ 2560) (hg : GOK D T t1 t2 (fun q => (ks κ).heap.size ≤ q) g) (hcs : cells + 36 ≤ 600000 ∧ slots + 703 ≤ 7302250) (hI : Inv (gpr g) S) (hnx : ∀ S2, Inv (gpr g) S2 → GJ κ (fun q => (ks κ).heap.size ≤ q) 4 Q cells slots g S2 953 [(0, .ref b), (1, .ref (gad g 18)), (2, .ref (gad g 0)), (3, .int (nI i))] []) : GJ κ (fun q => (ks κ).heap.size ≤ q) 4 Q cells slots g S 368 [(0, .ref b), (1, .ref (gad g 18)), (2, .ref (gad g 0)), (3, .int (nI i))] [] := by
  have hbA : ¬ (fun q : Nat => (ks κ).heap.size ≤ q) b := Nat.not_le.mpr hbl
  have hin1 : vp_in (nI i + 1) L := by rw [show nI i + 1 = nI (i + 1) from nI_add i 1]; exact vp_in_nI (by omega) (by omega)
  have hin2 : vp_in (nI i + 2) L := by rw [show nI i + 2 = nI (i + 2) from nI_add i 2]; exact vp_in_nI (by omega) (by omega)
  obtain ⟨r, S1, S2, h1, h2, hI2⟩ := hpf (gpr g) S (ys ((nI i + 1).toNatClampNeg)) (ys ((nI i + 2).toNatClampNeg)) hI
  refine g_aload_n C 1 rfl dL_law_368 rfl ?_
  refine g_aload_n C 0 rfl dL_law_369 rfl ?_
  refine g_iload_n C 3 rfl dL_law_370 rfl ?_
  refine g_iconst C (v := 1) (by decide) dL_law_371 ?_
  refine g_iadd C dL_law_372 ?_
  refine g_sld C hX hbl hbA hin1 dL_law_373 ?_
  refine g_aload_n C 0 rfl dL_law_374 rfl ?_
  refine g_iload_n C 3 rfl dL_law_375 rfl ?_
  refine g_iconst C (v := 2) (by decide) dL_law_376 ?_
  refine g_iadd C dL_law_377 ?_
  refine g_sld C hX hbl hbA hin2 dL_law_378 ?_
  refine g_callV C hg [.int (ys ((nI i + 1).toNatClampNeg)), .int (ys ((nI i + 2).toNatClampNeg))] [] mv_L_49 sh_18 rfl rfl (ctX10_part h1) ⟨(Nat.le_of_ble_eq_true rfl), (Nat.le_of_ble_eq_true rfl)⟩ ⟨by omega, by omega⟩ (Nat.le_of_ble_eq_true rfl) dL_law_379 rfl ?_
  show GJ _ _ _ _ _ _ _ S1 _ _ (.int r :: [])
  refine g_aload_n C 2 rfl dL_law_382 rfl ?_
  refine g_aload_n C 0 rfl dL_law_383 rfl ?_
  refine g_iload_n C 3 rfl dL_law_384 rfl ?_
  refine g_iconst C (v := 1) (by decide) dL_law_385 ?_
  refine g_iadd C dL_law_386 ?_
  refine g_sld C hX hbl hbA hin1 dL_law_387 ?_
  refine g_aload_n C 0 rfl dL_law_388 rfl ?_
  refine g_iload_n C 3 rfl dL_law_389 rfl ?_
  refine g_iconst C (v := 2) (by decide) dL_law_390 ?_
  refine g_iadd C dL_law_391 ?_
  refine g_sld C hX hbl hbA hin2 dL_law_392 ?_
  refine g_callV C hg [.int (ys ((nI i + 1).toNatClampNeg)), .int (ys ((nI i + 2).toNatClampNeg))] [.int r] mv_L_52 sh_0 rfl rfl (ctX11_part h2) ⟨(Nat.le_of_ble_eq_true rfl), (Nat.le_of_ble_eq_true rfl)⟩ ⟨by omega, by omega⟩ (Nat.le_of_ble_eq_true rfl) dL_law_393 rfl ?_
  show GJ _ _ _ _ _ _ _ S2 _ _ (.int r :: [.int r])
  refine g_icmp_eq C 953 dL_law_396 (by decide) (fun _ => ?_) (fun z => absurd rfl z)
  exact hnx S2 hI2
theorem law_prime {Inv : (Nat → Bool) → St → Prop} (hpf : PF_prime Inv) {κ : KT} {D : va_G} {T : Nat → ClassId} {t1 t2 : Nat} (C : GX κ D T t1 t2 (fun q => (ks κ).heap.size ≤ q) RL cL_law 4 2048 84000 600000 7302250) {b L i cells slots : Nat} {ys : Nat → Int32} {Q : State → Prop} {g : GT} {S : St} (hX : va_X b L ys (ks κ) (ks κ).heap) (hbl : b < (ks κ).heap.size) (hi : i + 5 ≤ L) (hL : L ≤ 2560) (hg : GOK D T t1 t2 (fun q => (ks κ).heap.size ≤ q) g) (hcs : cells + 36 ≤ 600000 ∧ slots + 703 ≤ 7302250) (hI : Inv (gpr g) S) (hnx : ∀ S2, Inv (gpr g) S2 → GJ κ (fun q => (ks κ).heap.size ≤ q) 4 Q cells slots g S2 953 [(0, .ref b), (1, .ref (gad g 18)), (2, .ref (gad g 0)), (3, .int (nI i))] []) : GJ κ (fun q => (ks κ).heap.size ≤ q) 4 Q cells slots g S 401 [(0, .ref b), (1, .ref (gad g 18)), (2, .ref (gad g 0)), (3, .int (nI i))] [] := by
  have hbA : ¬ (fun q : Nat => (ks κ).heap.size ≤ q) b := Nat.not_le.mpr hbl
  have hin1 : vp_in (nI i + 1) L := by rw [show nI i + 1 = nI (i + 1) from nI_add i 1]; exact vp_in_nI (by omega) (by omega)
  have hin2 : vp_in (nI i + 2) L := by rw [show nI i + 2 = nI (i + 2) from nI_add i 2]; exact vp_in_nI (by omega) (by omega)
  obtain ⟨r, S1, S2, h1, h2, hI2⟩ := hpf (gpr g) S (ys ((nI i + 1).toNatClampNeg)) (ys ((nI i + 2).toNatClampNeg)) hI
  refine g_aload_n C 1 rfl dL_law_401 rfl ?_
  refine g_aload_n C 0 rfl dL_law_402 rfl ?_
  refine g_iload_n C 3 rfl dL_law_403 rfl ?_
  refine g_iconst C (v := 1) (by decide) dL_law_404 ?_
  refine g_iadd C dL_law_405 ?_
  refine g_sld C hX hbl hbA hin1 dL_law_406 ?_
  refine g_aload_n C 0 rfl dL_law_407 rfl ?_
  refine g_iload_n C 3 rfl dL_law_408 rfl ?_
  refine g_iconst C (v := 2) (by decide) dL_law_409 ?_
  refine g_iadd C dL_law_410 ?_
  refine g_sld C hX hbl hbA hin2 dL_law_411 ?_
  refine g_callV C hg [.int (ys ((nI i + 1).toNatClampNeg)), .int (ys ((nI i + 2).toNatClampNeg))] [] mv_L_53 sh_18 rfl rfl (ctX10_prime h1) ⟨(Nat.le_of_ble_eq_true rfl), (Nat.le_of_ble_eq_true rfl)⟩ ⟨by omega, by omega⟩ (Nat.le_of_ble_eq_true rfl) dL_law_412 rfl ?_
  show GJ _ _ _ _ _ _ _ S1 _ _ (.int r :: [])
  refine g_aload_n C 2 rfl dL_law_415 rfl ?_
  refine g_aload_n C 0 rfl dL_law_416 rfl ?_
  refine g_iload_n C 3 rfl dL_law_417 rfl ?_
  refine g_iconst C (v := 1) (by decide) dL_law_418 ?_
  refine g_iadd C dL_law_419 ?_
  refine g_sld C hX hbl hbA hin1 dL_law_420 ?_
  refine g_aload_n C 0 rfl dL_law_421 rfl ?_
  refine g_iload_n C 3 rfl dL_law_422 rfl ?_
  refine g_iconst C (v := 2) (by decide) dL_law_423 ?_
  refine g_iadd C dL_law_424 ?_
  refine g_sld C hX hbl hbA hin2 dL_law_425 ?_
  refine g_callV C hg [.int (ys ((nI i + 1).toNatClampNeg)), .int (ys ((nI i + 2).toNatClampNeg))] [.int r] mv_L_56 sh_0 rfl rfl (ctX11_prime h2) ⟨(Nat.le_of_ble_eq_true rfl), (Nat.le_of_ble_eq_true rfl)⟩ ⟨by omega, by omega⟩ (Nat.le_of_ble_eq_true rfl) dL_law_426 rfl ?_
  show GJ _ _ _ _ _ _ _ S2 _ _ (.int r :: [.int r])
  refine g_icmp_eq C 953 dL_law_429 (by decide) (fun _ => ?_) (fun z => absurd rfl z)
  exact hnx S2 hI2
theorem law_primary {Inv : (Nat → Bool) → St → Prop} (hpf : PF_primary Inv) {κ : KT} {D : va_G} {T : Nat → ClassId} {t1 t2 : Nat} (C : GX κ D T t1 t2 (fun q => (ks κ).heap.size ≤ q) RL cL_law 4 2048 84000 600000 7302250) {b L i cells slots : Nat} {ys : Nat → Int32} {Q : State → Prop} {g : GT} {S : St} (hX : va_X b L ys (ks κ) (ks κ).heap) (hbl : b < (ks κ).heap.size) (hi : i + 5 ≤ L) (hL : L ≤ 2560) (hg : GOK D T t1 t2 (fun q => (ks κ).heap.size ≤ q) g) (hcs : cells + 36 ≤ 600000 ∧ slots + 703 ≤ 7302250) (hI : Inv (gpr g) S) (hnx : ∀ S2, Inv (gpr g) S2 → GJ κ (fun q => (ks κ).heap.size ≤ q) 4 Q cells slots g S2 953 [(0, .ref b), (1, .ref (gad g 18)), (2, .ref (gad g 0)), (3, .int (nI i))] []) : GJ κ (fun q => (ks κ).heap.size ≤ q) 4 Q cells slots g S 434 [(0, .ref b), (1, .ref (gad g 18)), (2, .ref (gad g 0)), (3, .int (nI i))] [] := by
  have hbA : ¬ (fun q : Nat => (ks κ).heap.size ≤ q) b := Nat.not_le.mpr hbl
  have hin1 : vp_in (nI i + 1) L := by rw [show nI i + 1 = nI (i + 1) from nI_add i 1]; exact vp_in_nI (by omega) (by omega)
  have hin2 : vp_in (nI i + 2) L := by rw [show nI i + 2 = nI (i + 2) from nI_add i 2]; exact vp_in_nI (by omega) (by omega)
  have hin3 : vp_in (nI i + 3) L := by rw [show nI i + 3 = nI (i + 3) from nI_add i 3]; exact vp_in_nI (by omega) (by omega)
  obtain ⟨r, S1, S2, h1, h2, hI2⟩ := hpf (gpr g) S (ys ((nI i + 1).toNatClampNeg)) (ys ((nI i + 2).toNatClampNeg)) (ys ((nI i + 3).toNatClampNeg)) hI
  refine g_aload_n C 1 rfl dL_law_434 rfl ?_
  refine g_aload_n C 0 rfl dL_law_435 rfl ?_
  refine g_iload_n C 3 rfl dL_law_436 rfl ?_
  refine g_iconst C (v := 1) (by decide) dL_law_437 ?_
  refine g_iadd C dL_law_438 ?_
  refine g_sld C hX hbl hbA hin1 dL_law_439 ?_
  refine g_aload_n C 0 rfl dL_law_440 rfl ?_
  refine g_iload_n C 3 rfl dL_law_441 rfl ?_
  refine g_iconst C (v := 2) (by decide) dL_law_442 ?_
  refine g_iadd C dL_law_443 ?_
  refine g_sld C hX hbl hbA hin2 dL_law_444 ?_
  refine g_aload_n C 0 rfl dL_law_445 rfl ?_
  refine g_iload_n C 3 rfl dL_law_446 rfl ?_
  refine g_iconst C (v := 3) (by decide) dL_law_447 ?_
  refine g_iadd C dL_law_448 ?_
  refine g_sld C hX hbl hbA hin3 dL_law_449 ?_
  refine g_callV C hg [.int (ys ((nI i + 1).toNatClampNeg)), .int (ys ((nI i + 2).toNatClampNeg)), .int (ys ((nI i + 3).toNatClampNeg))] [] mv_L_57 sh_18 rfl rfl (ctX10_primary h1) ⟨(Nat.le_of_ble_eq_true rfl), (Nat.le_of_ble_eq_true rfl)⟩ ⟨by omega, by omega⟩ (Nat.le_of_ble_eq_true rfl) dL_law_450 rfl ?_
  show GJ _ _ _ _ _ _ _ S1 _ _ (.int r :: [])
  refine g_aload_n C 2 rfl dL_law_453 rfl ?_
  refine g_aload_n C 0 rfl dL_law_454 rfl ?_
  refine g_iload_n C 3 rfl dL_law_455 rfl ?_
  refine g_iconst C (v := 1) (by decide) dL_law_456 ?_
  refine g_iadd C dL_law_457 ?_
  refine g_sld C hX hbl hbA hin1 dL_law_458 ?_
  refine g_aload_n C 0 rfl dL_law_459 rfl ?_
  refine g_iload_n C 3 rfl dL_law_460 rfl ?_
  refine g_iconst C (v := 2) (by decide) dL_law_461 ?_
  refine g_iadd C dL_law_462 ?_
  refine g_sld C hX hbl hbA hin2 dL_law_463 ?_
  refine g_aload_n C 0 rfl dL_law_464 rfl ?_
  refine g_iload_n C 3 rfl dL_law_465 rfl ?_
  refine g_iconst C (v := 3) (by decide) dL_law_466 ?_
  refine g_iadd C dL_law_467 ?_
  refine g_sld C hX hbl hbA hin3 dL_law_468 ?_
  refine g_callV C hg [.int (ys ((nI i + 1).toNatClampNeg)), .int (ys ((nI i + 2).toNatClampNeg)), .int (ys ((nI i + 3).toNatClampNeg))] [.int r] mv_L_61 sh_0 rfl rfl (ctX11_primary h2) ⟨(Nat.le_of_ble_eq_true rfl), (Nat.le_of_ble_eq_true rfl)⟩ ⟨by omega, by omega⟩ (Nat.le_of_ble_eq_true rfl) dL_law_469 rfl ?_
  show GJ _ _ _ _ _ _ _ S2 _ _ (.int r :: [.int r])
  refine g_icmp_eq C 953 dL_law_472 (by decide) (fun _ => ?_) (fun z => absurd rfl z)
  exact hnx S2 hI2
theorem law_dual {Inv : (Nat → Bool) → St → Prop} (hpf : PF_dual Inv) {κ : KT} {D : va_G} {T : Nat → ClassId} {t1 t2 : Nat} (C : GX κ D T t1 t2 (fun q => (ks κ).heap.size ≤ q) RL cL_law 4 2048 84000 600000 7302250) {b L i cells slots : Nat} {ys : Nat → Int32} {Q : State → Prop} {g : GT} {S : St} (hX : va_X b L ys (ks κ) (ks κ).heap) (hbl : b < (ks κ).heap.size) (hi : i + 5 ≤ L) (hL : L ≤ 2560) (hg : GOK D T t1 t2 (fun q => (ks κ).heap.size ≤ q) g) (hcs : cells + 36 ≤ 600000 ∧ slots + 703 ≤ 7302250) (hI : Inv (gpr g) S) (hnx : ∀ S2, Inv (gpr g) S2 → GJ κ (fun q => (ks κ).heap.size ≤ q) 4 Q cells slots g S2 953 [(0, .ref b), (1, .ref (gad g 18)), (2, .ref (gad g 0)), (3, .int (nI i))] []) : GJ κ (fun q => (ks κ).heap.size ≤ q) 4 Q cells slots g S 477 [(0, .ref b), (1, .ref (gad g 18)), (2, .ref (gad g 0)), (3, .int (nI i))] [] := by
  have hbA : ¬ (fun q : Nat => (ks κ).heap.size ≤ q) b := Nat.not_le.mpr hbl
  have hin1 : vp_in (nI i + 1) L := by rw [show nI i + 1 = nI (i + 1) from nI_add i 1]; exact vp_in_nI (by omega) (by omega)
  have hin2 : vp_in (nI i + 2) L := by rw [show nI i + 2 = nI (i + 2) from nI_add i 2]; exact vp_in_nI (by omega) (by omega)
  have hin3 : vp_in (nI i + 3) L := by rw [show nI i + 3 = nI (i + 3) from nI_add i 3]; exact vp_in_nI (by omega) (by omega)
  obtain ⟨r, S1, S2, h1, h2, hI2⟩ := hpf (gpr g) S (ys ((nI i + 1).toNatClampNeg)) (ys ((nI i + 2).toNatClampNeg)) (ys ((nI i + 3).toNatClampNeg)) hI
  refine g_aload_n C 1 rfl dL_law_477 rfl ?_
  refine g_aload_n C 0 rfl dL_law_478 rfl ?_
  refine g_iload_n C 3 rfl dL_law_479 rfl ?_
  refine g_iconst C (v := 1) (by decide) dL_law_480 ?_
  refine g_iadd C dL_law_481 ?_
  refine g_sld C hX hbl hbA hin1 dL_law_482 ?_
  refine g_aload_n C 0 rfl dL_law_483 rfl ?_
  refine g_iload_n C 3 rfl dL_law_484 rfl ?_
  refine g_iconst C (v := 2) (by decide) dL_law_485 ?_
  refine g_iadd C dL_law_486 ?_
  refine g_sld C hX hbl hbA hin2 dL_law_487 ?_
  refine g_aload_n C 0 rfl dL_law_488 rfl ?_
  refine g_iload_n C 3 rfl dL_law_489 rfl ?_
  refine g_iconst C (v := 3) (by decide) dL_law_490 ?_
  refine g_iadd C dL_law_491 ?_
  refine g_sld C hX hbl hbA hin3 dL_law_492 ?_
  refine g_callV C hg [.int (ys ((nI i + 1).toNatClampNeg)), .int (ys ((nI i + 2).toNatClampNeg)), .int (ys ((nI i + 3).toNatClampNeg))] [] mv_L_62 sh_18 rfl rfl (ctX10_dual h1) ⟨(Nat.le_of_ble_eq_true rfl), (Nat.le_of_ble_eq_true rfl)⟩ ⟨by omega, by omega⟩ (Nat.le_of_ble_eq_true rfl) dL_law_493 rfl ?_
  show GJ _ _ _ _ _ _ _ S1 _ _ (.int r :: [])
  refine g_aload_n C 2 rfl dL_law_496 rfl ?_
  refine g_aload_n C 0 rfl dL_law_497 rfl ?_
  refine g_iload_n C 3 rfl dL_law_498 rfl ?_
  refine g_iconst C (v := 1) (by decide) dL_law_499 ?_
  refine g_iadd C dL_law_500 ?_
  refine g_sld C hX hbl hbA hin1 dL_law_501 ?_
  refine g_aload_n C 0 rfl dL_law_502 rfl ?_
  refine g_iload_n C 3 rfl dL_law_503 rfl ?_
  refine g_iconst C (v := 2) (by decide) dL_law_504 ?_
  refine g_iadd C dL_law_505 ?_
  refine g_sld C hX hbl hbA hin2 dL_law_506 ?_
  refine g_aload_n C 0 rfl dL_law_507 rfl ?_
  refine g_iload_n C 3 rfl dL_law_508 rfl ?_
  refine g_iconst C (v := 3) (by decide) dL_law_509 ?_
  refine g_iadd C dL_law_510 ?_
  refine g_sld C hX hbl hbA hin3 dL_law_511 ?_
  refine g_callV C hg [.int (ys ((nI i + 1).toNatClampNeg)), .int (ys ((nI i + 2).toNatClampNeg)), .int (ys ((nI i + 3).toNatClampNeg))] [.int r] mv_L_65 sh_0 rfl rfl (ctX11_dual h2) ⟨(Nat.le_of_ble_eq_true rfl), (Nat.le_of_ble_eq_true rfl)⟩ ⟨by omega, by omega⟩ (Nat.le_of_ble_eq_true rfl) dL_law_512 rfl ?_
  show GJ _ _ _ _ _ _ _ S2 _ _ (.int r :: [.int r])
  refine g_icmp_eq C 953 dL_law_515 (by decide) (fun _ => ?_) (fun z => absurd rfl z)
  exact hnx S2 hI2
theorem law_count {Inv : (Nat → Bool) → St → Prop} (hpf : PF_count Inv) {κ : KT} {D : va_G} {T : Nat → ClassId} {t1 t2 : Nat} (C : GX κ D T t1 t2 (fun q => (ks κ).heap.size ≤ q) RL cL_law 4 2048 84000 600000 7302250) {b L i cells slots : Nat} {ys : Nat → Int32} {Q : State → Prop} {g : GT} {S : St} (hX : va_X b L ys (ks κ) (ks κ).heap) (hbl : b < (ks κ).heap.size) (hi : i + 5 ≤ L) (hL : L ≤ 2560) (hg : GOK D T t1 t2 (fun q => (ks κ).heap.size ≤ q) g) (hcs : cells + 36 ≤ 600000 ∧ slots + 703 ≤ 7302250) (hI : Inv (gpr g) S) (hnx : ∀ S2, Inv (gpr g) S2 → GJ κ (fun q => (ks κ).heap.size ≤ q) 4 Q cells slots g S2 953 [(0, .ref b), (1, .ref (gad g 18)), (2, .ref (gad g 0)), (3, .int (nI i))] []) : GJ κ (fun q => (ks κ).heap.size ≤ q) 4 Q cells slots g S 520 [(0, .ref b), (1, .ref (gad g 18)), (2, .ref (gad g 0)), (3, .int (nI i))] [] := by
  have hbA : ¬ (fun q : Nat => (ks κ).heap.size ≤ q) b := Nat.not_le.mpr hbl
  have hin1 : vp_in (nI i + 1) L := by rw [show nI i + 1 = nI (i + 1) from nI_add i 1]; exact vp_in_nI (by omega) (by omega)
  have hin2 : vp_in (nI i + 2) L := by rw [show nI i + 2 = nI (i + 2) from nI_add i 2]; exact vp_in_nI (by omega) (by omega)
  obtain ⟨r, S1, S2, h1, h2, hI2⟩ := hpf (gpr g) S (ys ((nI i + 1).toNatClampNeg)) (ys ((nI i + 2).toNatClampNeg)) hI
  refine g_aload_n C 1 rfl dL_law_520 rfl ?_
  refine g_aload_n C 0 rfl dL_law_521 rfl ?_
  refine g_iload_n C 3 rfl dL_law_522 rfl ?_
  refine g_iconst C (v := 1) (by decide) dL_law_523 ?_
  refine g_iadd C dL_law_524 ?_
  refine g_sld C hX hbl hbA hin1 dL_law_525 ?_
  refine g_aload_n C 0 rfl dL_law_526 rfl ?_
  refine g_iload_n C 3 rfl dL_law_527 rfl ?_
  refine g_iconst C (v := 2) (by decide) dL_law_528 ?_
  refine g_iadd C dL_law_529 ?_
  refine g_sld C hX hbl hbA hin2 dL_law_530 ?_
  refine g_callV C hg [.int (ys ((nI i + 1).toNatClampNeg)), .int (ys ((nI i + 2).toNatClampNeg))] [] mv_L_66 sh_18 rfl rfl (ctX10_count h1) ⟨(Nat.le_of_ble_eq_true rfl), (Nat.le_of_ble_eq_true rfl)⟩ ⟨by omega, by omega⟩ (Nat.le_of_ble_eq_true rfl) dL_law_531 rfl ?_
  show GJ _ _ _ _ _ _ _ S1 _ _ (.int r :: [])
  refine g_aload_n C 2 rfl dL_law_534 rfl ?_
  refine g_aload_n C 0 rfl dL_law_535 rfl ?_
  refine g_iload_n C 3 rfl dL_law_536 rfl ?_
  refine g_iconst C (v := 1) (by decide) dL_law_537 ?_
  refine g_iadd C dL_law_538 ?_
  refine g_sld C hX hbl hbA hin1 dL_law_539 ?_
  refine g_aload_n C 0 rfl dL_law_540 rfl ?_
  refine g_iload_n C 3 rfl dL_law_541 rfl ?_
  refine g_iconst C (v := 2) (by decide) dL_law_542 ?_
  refine g_iadd C dL_law_543 ?_
  refine g_sld C hX hbl hbA hin2 dL_law_544 ?_
  refine g_callV C hg [.int (ys ((nI i + 1).toNatClampNeg)), .int (ys ((nI i + 2).toNatClampNeg))] [.int r] mv_L_69 sh_0 rfl rfl (ctX11_count h2) ⟨(Nat.le_of_ble_eq_true rfl), (Nat.le_of_ble_eq_true rfl)⟩ ⟨by omega, by omega⟩ (Nat.le_of_ble_eq_true rfl) dL_law_545 rfl ?_
  show GJ _ _ _ _ _ _ _ S2 _ _ (.int r :: [.int r])
  refine g_icmp_eq C 953 dL_law_548 (by decide) (fun _ => ?_) (fun z => absurd rfl z)
  exact hnx S2 hI2
theorem law_series {Inv : (Nat → Bool) → St → Prop} (hpf : PF_series Inv) {κ : KT} {D : va_G} {T : Nat → ClassId} {t1 t2 : Nat} (C : GX κ D T t1 t2 (fun q => (ks κ).heap.size ≤ q) RL cL_law 4 2048 84000 600000 7302250) {b L i cells slots : Nat} {ys : Nat → Int32} {Q : State → Prop} {g : GT} {S : St} (hX : va_X b L ys (ks κ) (ks κ).heap) (hbl : b < (ks κ).heap.size) (hi : i + 5 ≤ L) (hL : L ≤ 2560) (hg : GOK D T t1 t2 (fun q => (ks κ).heap.size ≤ q) g) (hcs : cells + 36 ≤ 600000 ∧ slots + 703 ≤ 7302250) (hI : Inv (gpr g) S) (hnx : ∀ S2, Inv (gpr g) S2 → GJ κ (fun q => (ks κ).heap.size ≤ q) 4 Q cells slots g S2 953 [(0, .ref b), (1, .ref (gad g 18)), (2, .ref (gad g 0)), (3, .int (nI i))] []) : GJ κ (fun q => (ks κ).heap.size ≤ q) 4 Q cells slots g S 553 [(0, .ref b), (1, .ref (gad g 18)), (2, .ref (gad g 0)), (3, .int (nI i))] [] := by
  have hbA : ¬ (fun q : Nat => (ks κ).heap.size ≤ q) b := Nat.not_le.mpr hbl
  have hin1 : vp_in (nI i + 1) L := by rw [show nI i + 1 = nI (i + 1) from nI_add i 1]; exact vp_in_nI (by omega) (by omega)
  have hin2 : vp_in (nI i + 2) L := by rw [show nI i + 2 = nI (i + 2) from nI_add i 2]; exact vp_in_nI (by omega) (by omega)
  obtain ⟨r, S1, S2, h1, h2, hI2⟩ := hpf (gpr g) S (ys ((nI i + 1).toNatClampNeg)) (ys ((nI i + 2).toNatClampNeg)) hI
  refine g_aload_n C 1 rfl dL_law_553 rfl ?_
  refine g_aload_n C 0 rfl dL_law_554 rfl ?_
  refine g_iload_n C 3 rfl dL_law_555 rfl ?_
  refine g_iconst C (v := 1) (by decide) dL_law_556 ?_
  refine g_iadd C dL_law_557 ?_
  refine g_sld C hX hbl hbA hin1 dL_law_558 ?_
  refine g_aload_n C 0 rfl dL_law_559 rfl ?_
  refine g_iload_n C 3 rfl dL_law_560 rfl ?_
  refine g_iconst C (v := 2) (by decide) dL_law_561 ?_
  refine g_iadd C dL_law_562 ?_
  refine g_sld C hX hbl hbA hin2 dL_law_563 ?_
  refine g_callV C hg [.int (ys ((nI i + 1).toNatClampNeg)), .int (ys ((nI i + 2).toNatClampNeg))] [] mv_L_70 sh_18 rfl rfl (ctX10_series h1) ⟨(Nat.le_of_ble_eq_true rfl), (Nat.le_of_ble_eq_true rfl)⟩ ⟨by omega, by omega⟩ (Nat.le_of_ble_eq_true rfl) dL_law_564 rfl ?_
  show GJ _ _ _ _ _ _ _ S1 _ _ (.int r :: [])
  refine g_aload_n C 2 rfl dL_law_567 rfl ?_
  refine g_aload_n C 0 rfl dL_law_568 rfl ?_
  refine g_iload_n C 3 rfl dL_law_569 rfl ?_
  refine g_iconst C (v := 1) (by decide) dL_law_570 ?_
  refine g_iadd C dL_law_571 ?_
  refine g_sld C hX hbl hbA hin1 dL_law_572 ?_
  refine g_aload_n C 0 rfl dL_law_573 rfl ?_
  refine g_iload_n C 3 rfl dL_law_574 rfl ?_
  refine g_iconst C (v := 2) (by decide) dL_law_575 ?_
  refine g_iadd C dL_law_576 ?_
  refine g_sld C hX hbl hbA hin2 dL_law_577 ?_
  refine g_callV C hg [.int (ys ((nI i + 1).toNatClampNeg)), .int (ys ((nI i + 2).toNatClampNeg))] [.int r] mv_L_73 sh_0 rfl rfl (ctX11_series h2) ⟨(Nat.le_of_ble_eq_true rfl), (Nat.le_of_ble_eq_true rfl)⟩ ⟨by omega, by omega⟩ (Nat.le_of_ble_eq_true rfl) dL_law_578 rfl ?_
  show GJ _ _ _ _ _ _ _ S2 _ _ (.int r :: [.int r])
  refine g_icmp_eq C 953 dL_law_581 (by decide) (fun _ => ?_) (fun z => absurd rfl z)
  exact hnx S2 hI2
theorem law_facts {Inv : (Nat → Bool) → St → Prop} (hpf : PF_facts Inv) {κ : KT} {D : va_G} {T : Nat → ClassId} {t1 t2 : Nat} (C : GX κ D T t1 t2 (fun q => (ks κ).heap.size ≤ q) RL cL_law 4 2048 84000 600000 7302250) {b L i cells slots : Nat} {ys : Nat → Int32} {Q : State → Prop} {g : GT} {S : St} (hX : va_X b L ys (ks κ) (ks κ).heap) (hbl : b < (ks κ).heap.size) (hi : i + 5 ≤ L) (hL : L ≤ 2560) (hg : GOK D T t1 t2 (fun q => (ks κ).heap.size ≤ q) g) (hcs : cells + 36 ≤ 600000 ∧ slots + 703 ≤ 7302250) (hI : Inv (gpr g) S) (hnx : ∀ S2, Inv (gpr g) S2 → GJ κ (fun q => (ks κ).heap.size ≤ q) 4 Q cells slots g S2 953 [(0, .ref b), (1, .ref (gad g 18)), (2, .ref (gad g 0)), (3, .int (nI i))] []) : GJ κ (fun q => (ks κ).heap.size ≤ q) 4 Q cells slots g S 586 [(0, .ref b), (1, .ref (gad g 18)), (2, .ref (gad g 0)), (3, .int (nI i))] [] := by
  have hbA : ¬ (fun q : Nat => (ks κ).heap.size ≤ q) b := Nat.not_le.mpr hbl
  have hin1 : vp_in (nI i + 1) L := by rw [show nI i + 1 = nI (i + 1) from nI_add i 1]; exact vp_in_nI (by omega) (by omega)
  have hin2 : vp_in (nI i + 2) L := by rw [show nI i + 2 = nI (i + 2) from nI_add i 2]; exact vp_in_nI (by omega) (by omega)
  obtain ⟨r, S1, S2, h1, h2, hI2⟩ := hpf (gpr g) S (ys ((nI i + 1).toNatClampNeg)) (ys ((nI i + 2).toNatClampNeg)) hI
  refine g_aload_n C 1 rfl dL_law_586 rfl ?_
  refine g_aload_n C 0 rfl dL_law_587 rfl ?_
  refine g_iload_n C 3 rfl dL_law_588 rfl ?_
  refine g_iconst C (v := 1) (by decide) dL_law_589 ?_
  refine g_iadd C dL_law_590 ?_
  refine g_sld C hX hbl hbA hin1 dL_law_591 ?_
  refine g_aload_n C 0 rfl dL_law_592 rfl ?_
  refine g_iload_n C 3 rfl dL_law_593 rfl ?_
  refine g_iconst C (v := 2) (by decide) dL_law_594 ?_
  refine g_iadd C dL_law_595 ?_
  refine g_sld C hX hbl hbA hin2 dL_law_596 ?_
  refine g_callV C hg [.int (ys ((nI i + 1).toNatClampNeg)), .int (ys ((nI i + 2).toNatClampNeg))] [] mv_L_74 sh_18 rfl rfl (ctX10_facts h1) ⟨(Nat.le_of_ble_eq_true rfl), (Nat.le_of_ble_eq_true rfl)⟩ ⟨by omega, by omega⟩ (Nat.le_of_ble_eq_true rfl) dL_law_597 rfl ?_
  show GJ _ _ _ _ _ _ _ S1 _ _ (.int r :: [])
  refine g_aload_n C 2 rfl dL_law_600 rfl ?_
  refine g_aload_n C 0 rfl dL_law_601 rfl ?_
  refine g_iload_n C 3 rfl dL_law_602 rfl ?_
  refine g_iconst C (v := 1) (by decide) dL_law_603 ?_
  refine g_iadd C dL_law_604 ?_
  refine g_sld C hX hbl hbA hin1 dL_law_605 ?_
  refine g_aload_n C 0 rfl dL_law_606 rfl ?_
  refine g_iload_n C 3 rfl dL_law_607 rfl ?_
  refine g_iconst C (v := 2) (by decide) dL_law_608 ?_
  refine g_iadd C dL_law_609 ?_
  refine g_sld C hX hbl hbA hin2 dL_law_610 ?_
  refine g_callV C hg [.int (ys ((nI i + 1).toNatClampNeg)), .int (ys ((nI i + 2).toNatClampNeg))] [.int r] mv_L_77 sh_0 rfl rfl (ctX11_facts h2) ⟨(Nat.le_of_ble_eq_true rfl), (Nat.le_of_ble_eq_true rfl)⟩ ⟨by omega, by omega⟩ (Nat.le_of_ble_eq_true rfl) dL_law_611 rfl ?_
  show GJ _ _ _ _ _ _ _ S2 _ _ (.int r :: [.int r])
  refine g_icmp_eq C 953 dL_law_614 (by decide) (fun _ => ?_) (fun z => absurd rfl z)
  exact hnx S2 hI2
theorem law_betti {Inv : (Nat → Bool) → St → Prop} (hpf : PF_betti Inv) {κ : KT} {D : va_G} {T : Nat → ClassId} {t1 t2 : Nat} (C : GX κ D T t1 t2 (fun q => (ks κ).heap.size ≤ q) RL cL_law 4 2048 84000 600000 7302250) {b L i cells slots : Nat} {ys : Nat → Int32} {Q : State → Prop} {g : GT} {S : St} (hX : va_X b L ys (ks κ) (ks κ).heap) (hbl : b < (ks κ).heap.size) (hi : i + 5 ≤ L) (hL : L ≤ 2560) (hg : GOK D T t1 t2 (fun q => (ks κ).heap.size ≤ q) g) (hcs : cells + 36 ≤ 600000 ∧ slots + 703 ≤ 7302250) (hI : Inv (gpr g) S) (hnx : ∀ S2, Inv (gpr g) S2 → GJ κ (fun q => (ks κ).heap.size ≤ q) 4 Q cells slots g S2 953 [(0, .ref b), (1, .ref (gad g 18)), (2, .ref (gad g 0)), (3, .int (nI i))] []) : GJ κ (fun q => (ks κ).heap.size ≤ q) 4 Q cells slots g S 619 [(0, .ref b), (1, .ref (gad g 18)), (2, .ref (gad g 0)), (3, .int (nI i))] [] := by
  have hbA : ¬ (fun q : Nat => (ks κ).heap.size ≤ q) b := Nat.not_le.mpr hbl
  have hin1 : vp_in (nI i + 1) L := by rw [show nI i + 1 = nI (i + 1) from nI_add i 1]; exact vp_in_nI (by omega) (by omega)
  have hin2 : vp_in (nI i + 2) L := by rw [show nI i + 2 = nI (i + 2) from nI_add i 2]; exact vp_in_nI (by omega) (by omega)
  obtain ⟨r, S1, S2, h1, h2, hI2⟩ := hpf (gpr g) S (ys ((nI i + 1).toNatClampNeg)) (ys ((nI i + 2).toNatClampNeg)) hI
  refine g_aload_n C 1 rfl dL_law_619 rfl ?_
  refine g_aload_n C 0 rfl dL_law_620 rfl ?_
  refine g_iload_n C 3 rfl dL_law_621 rfl ?_
  refine g_iconst C (v := 1) (by decide) dL_law_622 ?_
  refine g_iadd C dL_law_623 ?_
  refine g_sld C hX hbl hbA hin1 dL_law_624 ?_
  refine g_aload_n C 0 rfl dL_law_625 rfl ?_
  refine g_iload_n C 3 rfl dL_law_626 rfl ?_
  refine g_iconst C (v := 2) (by decide) dL_law_627 ?_
  refine g_iadd C dL_law_628 ?_
  refine g_sld C hX hbl hbA hin2 dL_law_629 ?_
  refine g_callV C hg [.int (ys ((nI i + 1).toNatClampNeg)), .int (ys ((nI i + 2).toNatClampNeg))] [] mv_L_78 sh_18 rfl rfl (ctX10_betti h1) ⟨(Nat.le_of_ble_eq_true rfl), (Nat.le_of_ble_eq_true rfl)⟩ ⟨by omega, by omega⟩ (Nat.le_of_ble_eq_true rfl) dL_law_630 rfl ?_
  show GJ _ _ _ _ _ _ _ S1 _ _ (.int r :: [])
  refine g_aload_n C 2 rfl dL_law_633 rfl ?_
  refine g_aload_n C 0 rfl dL_law_634 rfl ?_
  refine g_iload_n C 3 rfl dL_law_635 rfl ?_
  refine g_iconst C (v := 1) (by decide) dL_law_636 ?_
  refine g_iadd C dL_law_637 ?_
  refine g_sld C hX hbl hbA hin1 dL_law_638 ?_
  refine g_aload_n C 0 rfl dL_law_639 rfl ?_
  refine g_iload_n C 3 rfl dL_law_640 rfl ?_
  refine g_iconst C (v := 2) (by decide) dL_law_641 ?_
  refine g_iadd C dL_law_642 ?_
  refine g_sld C hX hbl hbA hin2 dL_law_643 ?_
  refine g_callV C hg [.int (ys ((nI i + 1).toNatClampNeg)), .int (ys ((nI i + 2).toNatClampNeg))] [.int r] mv_L_81 sh_0 rfl rfl (ctX11_betti h2) ⟨(Nat.le_of_ble_eq_true rfl), (Nat.le_of_ble_eq_true rfl)⟩ ⟨by omega, by omega⟩ (Nat.le_of_ble_eq_true rfl) dL_law_644 rfl ?_
  show GJ _ _ _ _ _ _ _ S2 _ _ (.int r :: [.int r])
  refine g_icmp_eq C 953 dL_law_647 (by decide) (fun _ => ?_) (fun z => absurd rfl z)
  exact hnx S2 hI2
theorem law_bettiAt {Inv : (Nat → Bool) → St → Prop} (hpf : PF_bettiAt Inv) {κ : KT} {D : va_G} {T : Nat → ClassId} {t1 t2 : Nat} (C : GX κ D T t1 t2 (fun q => (ks κ).heap.size ≤ q) RL cL_law 4 2048 84000 600000 7302250) {b L i cells slots : Nat} {ys : Nat → Int32} {Q : State → Prop} {g : GT} {S : St} (hX : va_X b L ys (ks κ) (ks κ).heap) (hbl : b < (ks κ).heap.size) (hi : i + 5 ≤ L) (hL : L ≤ 2560) (hg : GOK D T t1 t2 (fun q => (ks κ).heap.size ≤ q) g) (hcs : cells + 36 ≤ 600000 ∧ slots + 703 ≤ 7302250) (hI : Inv (gpr g) S) (hnx : ∀ S2, Inv (gpr g) S2 → GJ κ (fun q => (ks κ).heap.size ≤ q) 4 Q cells slots g S2 953 [(0, .ref b), (1, .ref (gad g 18)), (2, .ref (gad g 0)), (3, .int (nI i))] []) : GJ κ (fun q => (ks κ).heap.size ≤ q) 4 Q cells slots g S 652 [(0, .ref b), (1, .ref (gad g 18)), (2, .ref (gad g 0)), (3, .int (nI i))] [] := by
  have hbA : ¬ (fun q : Nat => (ks κ).heap.size ≤ q) b := Nat.not_le.mpr hbl
  have hin1 : vp_in (nI i + 1) L := by rw [show nI i + 1 = nI (i + 1) from nI_add i 1]; exact vp_in_nI (by omega) (by omega)
  have hin2 : vp_in (nI i + 2) L := by rw [show nI i + 2 = nI (i + 2) from nI_add i 2]; exact vp_in_nI (by omega) (by omega)
  have hin3 : vp_in (nI i + 3) L := by rw [show nI i + 3 = nI (i + 3) from nI_add i 3]; exact vp_in_nI (by omega) (by omega)
  obtain ⟨r, S1, S2, h1, h2, hI2⟩ := hpf (gpr g) S (ys ((nI i + 1).toNatClampNeg)) (ys ((nI i + 2).toNatClampNeg)) (ys ((nI i + 3).toNatClampNeg)) hI
  refine g_aload_n C 1 rfl dL_law_652 rfl ?_
  refine g_aload_n C 0 rfl dL_law_653 rfl ?_
  refine g_iload_n C 3 rfl dL_law_654 rfl ?_
  refine g_iconst C (v := 1) (by decide) dL_law_655 ?_
  refine g_iadd C dL_law_656 ?_
  refine g_sld C hX hbl hbA hin1 dL_law_657 ?_
  refine g_aload_n C 0 rfl dL_law_658 rfl ?_
  refine g_iload_n C 3 rfl dL_law_659 rfl ?_
  refine g_iconst C (v := 2) (by decide) dL_law_660 ?_
  refine g_iadd C dL_law_661 ?_
  refine g_sld C hX hbl hbA hin2 dL_law_662 ?_
  refine g_aload_n C 0 rfl dL_law_663 rfl ?_
  refine g_iload_n C 3 rfl dL_law_664 rfl ?_
  refine g_iconst C (v := 3) (by decide) dL_law_665 ?_
  refine g_iadd C dL_law_666 ?_
  refine g_sld C hX hbl hbA hin3 dL_law_667 ?_
  refine g_callV C hg [.int (ys ((nI i + 1).toNatClampNeg)), .int (ys ((nI i + 2).toNatClampNeg)), .int (ys ((nI i + 3).toNatClampNeg))] [] mv_L_82 sh_18 rfl rfl (ctX10_bettiAt h1) ⟨(Nat.le_of_ble_eq_true rfl), (Nat.le_of_ble_eq_true rfl)⟩ ⟨by omega, by omega⟩ (Nat.le_of_ble_eq_true rfl) dL_law_668 rfl ?_
  show GJ _ _ _ _ _ _ _ S1 _ _ (.int r :: [])
  refine g_aload_n C 2 rfl dL_law_671 rfl ?_
  refine g_aload_n C 0 rfl dL_law_672 rfl ?_
  refine g_iload_n C 3 rfl dL_law_673 rfl ?_
  refine g_iconst C (v := 1) (by decide) dL_law_674 ?_
  refine g_iadd C dL_law_675 ?_
  refine g_sld C hX hbl hbA hin1 dL_law_676 ?_
  refine g_aload_n C 0 rfl dL_law_677 rfl ?_
  refine g_iload_n C 3 rfl dL_law_678 rfl ?_
  refine g_iconst C (v := 2) (by decide) dL_law_679 ?_
  refine g_iadd C dL_law_680 ?_
  refine g_sld C hX hbl hbA hin2 dL_law_681 ?_
  refine g_aload_n C 0 rfl dL_law_682 rfl ?_
  refine g_iload_n C 3 rfl dL_law_683 rfl ?_
  refine g_iconst C (v := 3) (by decide) dL_law_684 ?_
  refine g_iadd C dL_law_685 ?_
  refine g_sld C hX hbl hbA hin3 dL_law_686 ?_
  refine g_callV C hg [.int (ys ((nI i + 1).toNatClampNeg)), .int (ys ((nI i + 2).toNatClampNeg)), .int (ys ((nI i + 3).toNatClampNeg))] [.int r] mv_L_85 sh_0 rfl rfl (ctX11_bettiAt h2) ⟨(Nat.le_of_ble_eq_true rfl), (Nat.le_of_ble_eq_true rfl)⟩ ⟨by omega, by omega⟩ (Nat.le_of_ble_eq_true rfl) dL_law_687 rfl ?_
  show GJ _ _ _ _ _ _ _ S2 _ _ (.int r :: [.int r])
  refine g_icmp_eq C 953 dL_law_690 (by decide) (fun _ => ?_) (fun z => absurd rfl z)
  exact hnx S2 hI2
theorem law_share {Inv : (Nat → Bool) → St → Prop} (hpf : PF_share Inv) {κ : KT} {D : va_G} {T : Nat → ClassId} {t1 t2 : Nat} (C : GX κ D T t1 t2 (fun q => (ks κ).heap.size ≤ q) RL cL_law 4 2048 84000 600000 7302250) {b L i cells slots : Nat} {ys : Nat → Int32} {Q : State → Prop} {g : GT} {S : St} (hX : va_X b L ys (ks κ) (ks κ).heap) (hbl : b < (ks κ).heap.size) (hi : i + 5 ≤ L) (hL : L ≤ 2560) (hg : GOK D T t1 t2 (fun q => (ks κ).heap.size ≤ q) g) (hcs : cells + 36 ≤ 600000 ∧ slots + 703 ≤ 7302250) (hI : Inv (gpr g) S) (hnx : ∀ S2, Inv (gpr g) S2 → GJ κ (fun q => (ks κ).heap.size ≤ q) 4 Q cells slots g S2 953 [(0, .ref b), (1, .ref (gad g 18)), (2, .ref (gad g 0)), (3, .int (nI i))] []) : GJ κ (fun q => (ks κ).heap.size ≤ q) 4 Q cells slots g S 695 [(0, .ref b), (1, .ref (gad g 18)), (2, .ref (gad g 0)), (3, .int (nI i))] [] := by
  have hbA : ¬ (fun q : Nat => (ks κ).heap.size ≤ q) b := Nat.not_le.mpr hbl
  have hin1 : vp_in (nI i + 1) L := by rw [show nI i + 1 = nI (i + 1) from nI_add i 1]; exact vp_in_nI (by omega) (by omega)
  have hin2 : vp_in (nI i + 2) L := by rw [show nI i + 2 = nI (i + 2) from nI_add i 2]; exact vp_in_nI (by omega) (by omega)
  have hin3 : vp_in (nI i + 3) L := by rw [show nI i + 3 = nI (i + 3) from nI_add i 3]; exact vp_in_nI (by omega) (by omega)
  obtain ⟨r, S1, S2, h1, h2, hI2⟩ := hpf (gpr g) S (ys ((nI i + 1).toNatClampNeg)) (ys ((nI i + 2).toNatClampNeg)) (ys ((nI i + 3).toNatClampNeg)) hI
  refine g_aload_n C 1 rfl dL_law_695 rfl ?_
  refine g_aload_n C 0 rfl dL_law_696 rfl ?_
  refine g_iload_n C 3 rfl dL_law_697 rfl ?_
  refine g_iconst C (v := 1) (by decide) dL_law_698 ?_
  refine g_iadd C dL_law_699 ?_
  refine g_sld C hX hbl hbA hin1 dL_law_700 ?_
  refine g_aload_n C 0 rfl dL_law_701 rfl ?_
  refine g_iload_n C 3 rfl dL_law_702 rfl ?_
  refine g_iconst C (v := 2) (by decide) dL_law_703 ?_
  refine g_iadd C dL_law_704 ?_
  refine g_sld C hX hbl hbA hin2 dL_law_705 ?_
  refine g_aload_n C 0 rfl dL_law_706 rfl ?_
  refine g_iload_n C 3 rfl dL_law_707 rfl ?_
  refine g_iconst C (v := 3) (by decide) dL_law_708 ?_
  refine g_iadd C dL_law_709 ?_
  refine g_sld C hX hbl hbA hin3 dL_law_710 ?_
  refine g_callV C hg [.int (ys ((nI i + 1).toNatClampNeg)), .int (ys ((nI i + 2).toNatClampNeg)), .int (ys ((nI i + 3).toNatClampNeg))] [] mv_L_86 sh_18 rfl rfl (ctX10_share h1) ⟨(Nat.le_of_ble_eq_true rfl), (Nat.le_of_ble_eq_true rfl)⟩ ⟨by omega, by omega⟩ (Nat.le_of_ble_eq_true rfl) dL_law_711 rfl ?_
  show GJ _ _ _ _ _ _ _ S1 _ _ (.long r :: [])
  refine g_aload_n C 2 rfl dL_law_714 rfl ?_
  refine g_aload_n C 0 rfl dL_law_715 rfl ?_
  refine g_iload_n C 3 rfl dL_law_716 rfl ?_
  refine g_iconst C (v := 1) (by decide) dL_law_717 ?_
  refine g_iadd C dL_law_718 ?_
  refine g_sld C hX hbl hbA hin1 dL_law_719 ?_
  refine g_aload_n C 0 rfl dL_law_720 rfl ?_
  refine g_iload_n C 3 rfl dL_law_721 rfl ?_
  refine g_iconst C (v := 2) (by decide) dL_law_722 ?_
  refine g_iadd C dL_law_723 ?_
  refine g_sld C hX hbl hbA hin2 dL_law_724 ?_
  refine g_aload_n C 0 rfl dL_law_725 rfl ?_
  refine g_iload_n C 3 rfl dL_law_726 rfl ?_
  refine g_iconst C (v := 3) (by decide) dL_law_727 ?_
  refine g_iadd C dL_law_728 ?_
  refine g_sld C hX hbl hbA hin3 dL_law_729 ?_
  refine g_callV C hg [.int (ys ((nI i + 1).toNatClampNeg)), .int (ys ((nI i + 2).toNatClampNeg)), .int (ys ((nI i + 3).toNatClampNeg))] [.long r] mv_L_90 sh_0 rfl rfl (ctX11_share h2) ⟨(Nat.le_of_ble_eq_true rfl), (Nat.le_of_ble_eq_true rfl)⟩ ⟨by omega, by omega⟩ (Nat.le_of_ble_eq_true rfl) dL_law_730 rfl ?_
  show GJ _ _ _ _ _ _ _ S2 _ _ (.long r :: [.long r])
  refine g_lcmp C dL_law_733 ?_
  rw [lg_self]
  refine g_if_eq C 953 dL_law_734 (by decide) (fun _ => ?_) (fun z => absurd rfl z)
  exact hnx S2 hI2
theorem law_hold {Inv : (Nat → Bool) → St → Prop} (hpf : PF_hold Inv) {κ : KT} {D : va_G} {T : Nat → ClassId} {t1 t2 : Nat} (C : GX κ D T t1 t2 (fun q => (ks κ).heap.size ≤ q) RL cL_law 4 2048 84000 600000 7302250) {b L i cells slots : Nat} {ys : Nat → Int32} {Q : State → Prop} {g : GT} {S : St} (hX : va_X b L ys (ks κ) (ks κ).heap) (hbl : b < (ks κ).heap.size) (hi : i + 5 ≤ L) (hL : L ≤ 2560) (hg : GOK D T t1 t2 (fun q => (ks κ).heap.size ≤ q) g) (hcs : cells + 36 ≤ 600000 ∧ slots + 703 ≤ 7302250) (hI : Inv (gpr g) S) (hnx : ∀ S2, Inv (gpr g) S2 → GJ κ (fun q => (ks κ).heap.size ≤ q) 4 Q cells slots g S2 953 [(0, .ref b), (1, .ref (gad g 18)), (2, .ref (gad g 0)), (3, .int (nI i))] []) : GJ κ (fun q => (ks κ).heap.size ≤ q) 4 Q cells slots g S 739 [(0, .ref b), (1, .ref (gad g 18)), (2, .ref (gad g 0)), (3, .int (nI i))] [] := by
  have hbA : ¬ (fun q : Nat => (ks κ).heap.size ≤ q) b := Nat.not_le.mpr hbl
  have hin1 : vp_in (nI i + 1) L := by rw [show nI i + 1 = nI (i + 1) from nI_add i 1]; exact vp_in_nI (by omega) (by omega)
  have hin2 : vp_in (nI i + 2) L := by rw [show nI i + 2 = nI (i + 2) from nI_add i 2]; exact vp_in_nI (by omega) (by omega)
  have hin3 : vp_in (nI i + 3) L := by rw [show nI i + 3 = nI (i + 3) from nI_add i 3]; exact vp_in_nI (by omega) (by omega)
  have hin4 : vp_in (nI i + 4) L := by rw [show nI i + 4 = nI (i + 4) from nI_add i 4]; exact vp_in_nI (by omega) (by omega)
  by_cases hb : ys ((nI i + 4).toNatClampNeg) = 0
  · obtain ⟨r, S1, S2, h1, h2, hI2⟩ := hpf (gpr g) S (ys ((nI i + 1).toNatClampNeg)) (ys ((nI i + 2).toNatClampNeg)) (ys ((nI i + 3).toNatClampNeg)) (0) (by decide) hI
    refine g_aload_n C 1 rfl dL_law_739 rfl ?_
    refine g_aload_n C 0 rfl dL_law_740 rfl ?_
    refine g_iload_n C 3 rfl dL_law_741 rfl ?_
    refine g_iconst C (v := 1) (by decide) dL_law_742 ?_
    refine g_iadd C dL_law_743 ?_
    refine g_sld C hX hbl hbA hin1 dL_law_744 ?_
    refine g_aload_n C 0 rfl dL_law_745 rfl ?_
    refine g_iload_n C 3 rfl dL_law_746 rfl ?_
    refine g_iconst C (v := 2) (by decide) dL_law_747 ?_
    refine g_iadd C dL_law_748 ?_
    refine g_sld C hX hbl hbA hin2 dL_law_749 ?_
    refine g_aload_n C 0 rfl dL_law_750 rfl ?_
    refine g_iload_n C 3 rfl dL_law_751 rfl ?_
    refine g_iconst C (v := 3) (by decide) dL_law_752 ?_
    refine g_iadd C dL_law_753 ?_
    refine g_sld C hX hbl hbA hin3 dL_law_754 ?_
    refine g_aload_n C 0 rfl dL_law_755 rfl ?_
    refine g_iload_n C 3 rfl dL_law_756 rfl ?_
    refine g_iconst C (v := 4) (by decide) dL_law_757 ?_
    refine g_iadd C dL_law_758 ?_
    refine g_sld C hX hbl hbA hin4 dL_law_759 ?_
    refine g_if_eq C 767 dL_law_760 (by decide) (fun _ => ?_) (fun z => absurd hb z)
    refine g_iconst C (v := 0) (by decide) dL_law_767 ?_
    refine g_callV C hg [.int (ys ((nI i + 1).toNatClampNeg)), .int (ys ((nI i + 2).toNatClampNeg)), .int (ys ((nI i + 3).toNatClampNeg)), .int (0)] [] mv_L_91 sh_18 rfl rfl (ctX10_hold h1) ⟨(Nat.le_of_ble_eq_true rfl), (Nat.le_of_ble_eq_true rfl)⟩ ⟨by omega, by omega⟩ (Nat.le_of_ble_eq_true rfl) dL_law_768 rfl ?_
    show GJ _ _ _ _ _ _ _ S1 _ _ (.int r :: [])
    refine g_aload_n C 2 rfl dL_law_771 rfl ?_
    refine g_aload_n C 0 rfl dL_law_772 rfl ?_
    refine g_iload_n C 3 rfl dL_law_773 rfl ?_
    refine g_iconst C (v := 1) (by decide) dL_law_774 ?_
    refine g_iadd C dL_law_775 ?_
    refine g_sld C hX hbl hbA hin1 dL_law_776 ?_
    refine g_aload_n C 0 rfl dL_law_777 rfl ?_
    refine g_iload_n C 3 rfl dL_law_778 rfl ?_
    refine g_iconst C (v := 2) (by decide) dL_law_779 ?_
    refine g_iadd C dL_law_780 ?_
    refine g_sld C hX hbl hbA hin2 dL_law_781 ?_
    refine g_aload_n C 0 rfl dL_law_782 rfl ?_
    refine g_iload_n C 3 rfl dL_law_783 rfl ?_
    refine g_iconst C (v := 3) (by decide) dL_law_784 ?_
    refine g_iadd C dL_law_785 ?_
    refine g_sld C hX hbl hbA hin3 dL_law_786 ?_
    refine g_aload_n C 0 rfl dL_law_787 rfl ?_
    refine g_iload_n C 3 rfl dL_law_788 rfl ?_
    refine g_iconst C (v := 4) (by decide) dL_law_789 ?_
    refine g_iadd C dL_law_790 ?_
    refine g_sld C hX hbl hbA hin4 dL_law_791 ?_
    refine g_if_eq C 799 dL_law_792 (by decide) (fun _ => ?_) (fun z => absurd hb z)
    refine g_iconst C (v := 0) (by decide) dL_law_799 ?_
    refine g_callV C hg [.int (ys ((nI i + 1).toNatClampNeg)), .int (ys ((nI i + 2).toNatClampNeg)), .int (ys ((nI i + 3).toNatClampNeg)), .int (0)] [.int r] mv_L_95 sh_0 rfl rfl (ctX11_hold h2) ⟨(Nat.le_of_ble_eq_true rfl), (Nat.le_of_ble_eq_true rfl)⟩ ⟨by omega, by omega⟩ (Nat.le_of_ble_eq_true rfl) dL_law_800 rfl ?_
    show GJ _ _ _ _ _ _ _ S2 _ _ (.int r :: [.int r])
    refine g_icmp_eq C 953 dL_law_803 (by decide) (fun _ => ?_) (fun z => absurd rfl z)
    exact hnx S2 hI2
  · obtain ⟨r, S1, S2, h1, h2, hI2⟩ := hpf (gpr g) S (ys ((nI i + 1).toNatClampNeg)) (ys ((nI i + 2).toNatClampNeg)) (ys ((nI i + 3).toNatClampNeg)) (1) (by decide) hI
    refine g_aload_n C 1 rfl dL_law_739 rfl ?_
    refine g_aload_n C 0 rfl dL_law_740 rfl ?_
    refine g_iload_n C 3 rfl dL_law_741 rfl ?_
    refine g_iconst C (v := 1) (by decide) dL_law_742 ?_
    refine g_iadd C dL_law_743 ?_
    refine g_sld C hX hbl hbA hin1 dL_law_744 ?_
    refine g_aload_n C 0 rfl dL_law_745 rfl ?_
    refine g_iload_n C 3 rfl dL_law_746 rfl ?_
    refine g_iconst C (v := 2) (by decide) dL_law_747 ?_
    refine g_iadd C dL_law_748 ?_
    refine g_sld C hX hbl hbA hin2 dL_law_749 ?_
    refine g_aload_n C 0 rfl dL_law_750 rfl ?_
    refine g_iload_n C 3 rfl dL_law_751 rfl ?_
    refine g_iconst C (v := 3) (by decide) dL_law_752 ?_
    refine g_iadd C dL_law_753 ?_
    refine g_sld C hX hbl hbA hin3 dL_law_754 ?_
    refine g_aload_n C 0 rfl dL_law_755 rfl ?_
    refine g_iload_n C 3 rfl dL_law_756 rfl ?_
    refine g_iconst C (v := 4) (by decide) dL_law_757 ?_
    refine g_iadd C dL_law_758 ?_
    refine g_sld C hX hbl hbA hin4 dL_law_759 ?_
    refine g_if_eq C 767 dL_law_760 (by decide) (fun z => absurd z hb) (fun _ => ?_)
    refine g_iconst C (v := 1) (by decide) dL_law_763 ?_
    refine g_goto C 768 dL_law_764 (by decide) ?_
    refine g_callV C hg [.int (ys ((nI i + 1).toNatClampNeg)), .int (ys ((nI i + 2).toNatClampNeg)), .int (ys ((nI i + 3).toNatClampNeg)), .int (1)] [] mv_L_91 sh_18 rfl rfl (ctX10_hold h1) ⟨(Nat.le_of_ble_eq_true rfl), (Nat.le_of_ble_eq_true rfl)⟩ ⟨by omega, by omega⟩ (Nat.le_of_ble_eq_true rfl) dL_law_768 rfl ?_
    show GJ _ _ _ _ _ _ _ S1 _ _ (.int r :: [])
    refine g_aload_n C 2 rfl dL_law_771 rfl ?_
    refine g_aload_n C 0 rfl dL_law_772 rfl ?_
    refine g_iload_n C 3 rfl dL_law_773 rfl ?_
    refine g_iconst C (v := 1) (by decide) dL_law_774 ?_
    refine g_iadd C dL_law_775 ?_
    refine g_sld C hX hbl hbA hin1 dL_law_776 ?_
    refine g_aload_n C 0 rfl dL_law_777 rfl ?_
    refine g_iload_n C 3 rfl dL_law_778 rfl ?_
    refine g_iconst C (v := 2) (by decide) dL_law_779 ?_
    refine g_iadd C dL_law_780 ?_
    refine g_sld C hX hbl hbA hin2 dL_law_781 ?_
    refine g_aload_n C 0 rfl dL_law_782 rfl ?_
    refine g_iload_n C 3 rfl dL_law_783 rfl ?_
    refine g_iconst C (v := 3) (by decide) dL_law_784 ?_
    refine g_iadd C dL_law_785 ?_
    refine g_sld C hX hbl hbA hin3 dL_law_786 ?_
    refine g_aload_n C 0 rfl dL_law_787 rfl ?_
    refine g_iload_n C 3 rfl dL_law_788 rfl ?_
    refine g_iconst C (v := 4) (by decide) dL_law_789 ?_
    refine g_iadd C dL_law_790 ?_
    refine g_sld C hX hbl hbA hin4 dL_law_791 ?_
    refine g_if_eq C 799 dL_law_792 (by decide) (fun z => absurd z hb) (fun _ => ?_)
    refine g_iconst C (v := 1) (by decide) dL_law_795 ?_
    refine g_goto C 800 dL_law_796 (by decide) ?_
    refine g_callV C hg [.int (ys ((nI i + 1).toNatClampNeg)), .int (ys ((nI i + 2).toNatClampNeg)), .int (ys ((nI i + 3).toNatClampNeg)), .int (1)] [.int r] mv_L_95 sh_0 rfl rfl (ctX11_hold h2) ⟨(Nat.le_of_ble_eq_true rfl), (Nat.le_of_ble_eq_true rfl)⟩ ⟨by omega, by omega⟩ (Nat.le_of_ble_eq_true rfl) dL_law_800 rfl ?_
    show GJ _ _ _ _ _ _ _ S2 _ _ (.int r :: [.int r])
    refine g_icmp_eq C 953 dL_law_803 (by decide) (fun _ => ?_) (fun z => absurd rfl z)
    exact hnx S2 hI2
theorem law_take {Inv : (Nat → Bool) → St → Prop} (hpf : PF_take Inv) {κ : KT} {D : va_G} {T : Nat → ClassId} {t1 t2 : Nat} (C : GX κ D T t1 t2 (fun q => (ks κ).heap.size ≤ q) RL cL_law 4 2048 84000 600000 7302250) {b L i cells slots : Nat} {ys : Nat → Int32} {Q : State → Prop} {g : GT} {S : St} (hX : va_X b L ys (ks κ) (ks κ).heap) (hbl : b < (ks κ).heap.size) (hi : i + 5 ≤ L) (hL : L ≤ 2560) (hg : GOK D T t1 t2 (fun q => (ks κ).heap.size ≤ q) g) (hcs : cells + 36 ≤ 600000 ∧ slots + 703 ≤ 7302250) (hI : Inv (gpr g) S) (hnx : ∀ S2, Inv (gpr g) S2 → GJ κ (fun q => (ks κ).heap.size ≤ q) 4 Q cells slots g S2 953 [(0, .ref b), (1, .ref (gad g 18)), (2, .ref (gad g 0)), (3, .int (nI i))] []) : GJ κ (fun q => (ks κ).heap.size ≤ q) 4 Q cells slots g S 808 [(0, .ref b), (1, .ref (gad g 18)), (2, .ref (gad g 0)), (3, .int (nI i))] [] := by
  have hbA : ¬ (fun q : Nat => (ks κ).heap.size ≤ q) b := Nat.not_le.mpr hbl
  have hin1 : vp_in (nI i + 1) L := by rw [show nI i + 1 = nI (i + 1) from nI_add i 1]; exact vp_in_nI (by omega) (by omega)
  have hin2 : vp_in (nI i + 2) L := by rw [show nI i + 2 = nI (i + 2) from nI_add i 2]; exact vp_in_nI (by omega) (by omega)
  have hin3 : vp_in (nI i + 3) L := by rw [show nI i + 3 = nI (i + 3) from nI_add i 3]; exact vp_in_nI (by omega) (by omega)
  obtain ⟨r, S1, S2, h1, h2, hI2⟩ := hpf (gpr g) S (ys ((nI i + 1).toNatClampNeg)) (ys ((nI i + 2).toNatClampNeg)) (ys ((nI i + 3).toNatClampNeg)) hI
  refine g_aload_n C 1 rfl dL_law_808 rfl ?_
  refine g_aload_n C 0 rfl dL_law_809 rfl ?_
  refine g_iload_n C 3 rfl dL_law_810 rfl ?_
  refine g_iconst C (v := 1) (by decide) dL_law_811 ?_
  refine g_iadd C dL_law_812 ?_
  refine g_sld C hX hbl hbA hin1 dL_law_813 ?_
  refine g_aload_n C 0 rfl dL_law_814 rfl ?_
  refine g_iload_n C 3 rfl dL_law_815 rfl ?_
  refine g_iconst C (v := 2) (by decide) dL_law_816 ?_
  refine g_iadd C dL_law_817 ?_
  refine g_sld C hX hbl hbA hin2 dL_law_818 ?_
  refine g_aload_n C 0 rfl dL_law_819 rfl ?_
  refine g_iload_n C 3 rfl dL_law_820 rfl ?_
  refine g_iconst C (v := 3) (by decide) dL_law_821 ?_
  refine g_iadd C dL_law_822 ?_
  refine g_sld C hX hbl hbA hin3 dL_law_823 ?_
  refine g_callV C hg [.int (ys ((nI i + 1).toNatClampNeg)), .int (ys ((nI i + 2).toNatClampNeg)), .int (ys ((nI i + 3).toNatClampNeg))] [] mv_L_96 sh_18 rfl rfl (ctX10_take h1) ⟨(Nat.le_of_ble_eq_true rfl), (Nat.le_of_ble_eq_true rfl)⟩ ⟨by omega, by omega⟩ (Nat.le_of_ble_eq_true rfl) dL_law_824 rfl ?_
  show GJ _ _ _ _ _ _ _ S1 _ _ (.int r :: [])
  refine g_aload_n C 2 rfl dL_law_827 rfl ?_
  refine g_aload_n C 0 rfl dL_law_828 rfl ?_
  refine g_iload_n C 3 rfl dL_law_829 rfl ?_
  refine g_iconst C (v := 1) (by decide) dL_law_830 ?_
  refine g_iadd C dL_law_831 ?_
  refine g_sld C hX hbl hbA hin1 dL_law_832 ?_
  refine g_aload_n C 0 rfl dL_law_833 rfl ?_
  refine g_iload_n C 3 rfl dL_law_834 rfl ?_
  refine g_iconst C (v := 2) (by decide) dL_law_835 ?_
  refine g_iadd C dL_law_836 ?_
  refine g_sld C hX hbl hbA hin2 dL_law_837 ?_
  refine g_aload_n C 0 rfl dL_law_838 rfl ?_
  refine g_iload_n C 3 rfl dL_law_839 rfl ?_
  refine g_iconst C (v := 3) (by decide) dL_law_840 ?_
  refine g_iadd C dL_law_841 ?_
  refine g_sld C hX hbl hbA hin3 dL_law_842 ?_
  refine g_callV C hg [.int (ys ((nI i + 1).toNatClampNeg)), .int (ys ((nI i + 2).toNatClampNeg)), .int (ys ((nI i + 3).toNatClampNeg))] [.int r] mv_L_99 sh_0 rfl rfl (ctX11_take h2) ⟨(Nat.le_of_ble_eq_true rfl), (Nat.le_of_ble_eq_true rfl)⟩ ⟨by omega, by omega⟩ (Nat.le_of_ble_eq_true rfl) dL_law_843 rfl ?_
  show GJ _ _ _ _ _ _ _ S2 _ _ (.int r :: [.int r])
  refine g_icmp_eq C 953 dL_law_846 (by decide) (fun _ => ?_) (fun z => absurd rfl z)
  exact hnx S2 hI2
theorem law_measure {Inv : (Nat → Bool) → St → Prop} (hpf : PF_measure Inv) {κ : KT} {D : va_G} {T : Nat → ClassId} {t1 t2 : Nat} (C : GX κ D T t1 t2 (fun q => (ks κ).heap.size ≤ q) RL cL_law 4 2048 84000 600000 7302250) {b L i cells slots : Nat} {ys : Nat → Int32} {Q : State → Prop} {g : GT} {S : St} (hX : va_X b L ys (ks κ) (ks κ).heap) (hbl : b < (ks κ).heap.size) (hi : i + 5 ≤ L) (hL : L ≤ 2560) (hg : GOK D T t1 t2 (fun q => (ks κ).heap.size ≤ q) g) (hcs : cells + 36 ≤ 600000 ∧ slots + 703 ≤ 7302250) (hI : Inv (gpr g) S) (hnx : ∀ S2, Inv (gpr g) S2 → GJ κ (fun q => (ks κ).heap.size ≤ q) 4 Q cells slots g S2 953 [(0, .ref b), (1, .ref (gad g 18)), (2, .ref (gad g 0)), (3, .int (nI i))] []) : GJ κ (fun q => (ks κ).heap.size ≤ q) 4 Q cells slots g S 851 [(0, .ref b), (1, .ref (gad g 18)), (2, .ref (gad g 0)), (3, .int (nI i))] [] := by
  have hbA : ¬ (fun q : Nat => (ks κ).heap.size ≤ q) b := Nat.not_le.mpr hbl
  have hin1 : vp_in (nI i + 1) L := by rw [show nI i + 1 = nI (i + 1) from nI_add i 1]; exact vp_in_nI (by omega) (by omega)
  have hin2 : vp_in (nI i + 2) L := by rw [show nI i + 2 = nI (i + 2) from nI_add i 2]; exact vp_in_nI (by omega) (by omega)
  obtain ⟨r, S1, S2, h1, h2, hI2⟩ := hpf (gpr g) S (ys ((nI i + 1).toNatClampNeg)) (ys ((nI i + 2).toNatClampNeg)) hI
  refine g_aload_n C 1 rfl dL_law_851 rfl ?_
  refine g_aload_n C 0 rfl dL_law_852 rfl ?_
  refine g_iload_n C 3 rfl dL_law_853 rfl ?_
  refine g_iconst C (v := 1) (by decide) dL_law_854 ?_
  refine g_iadd C dL_law_855 ?_
  refine g_sld C hX hbl hbA hin1 dL_law_856 ?_
  refine g_aload_n C 0 rfl dL_law_857 rfl ?_
  refine g_iload_n C 3 rfl dL_law_858 rfl ?_
  refine g_iconst C (v := 2) (by decide) dL_law_859 ?_
  refine g_iadd C dL_law_860 ?_
  refine g_sld C hX hbl hbA hin2 dL_law_861 ?_
  refine g_callV C hg [.int (ys ((nI i + 1).toNatClampNeg)), .int (ys ((nI i + 2).toNatClampNeg))] [] mv_L_100 sh_18 rfl rfl (ctX10_measure h1) ⟨(Nat.le_of_ble_eq_true rfl), (Nat.le_of_ble_eq_true rfl)⟩ ⟨by omega, by omega⟩ (Nat.le_of_ble_eq_true rfl) dL_law_862 rfl ?_
  show GJ _ _ _ _ _ _ _ S1 _ _ (.int r :: [])
  refine g_aload_n C 2 rfl dL_law_865 rfl ?_
  refine g_aload_n C 0 rfl dL_law_866 rfl ?_
  refine g_iload_n C 3 rfl dL_law_867 rfl ?_
  refine g_iconst C (v := 1) (by decide) dL_law_868 ?_
  refine g_iadd C dL_law_869 ?_
  refine g_sld C hX hbl hbA hin1 dL_law_870 ?_
  refine g_aload_n C 0 rfl dL_law_871 rfl ?_
  refine g_iload_n C 3 rfl dL_law_872 rfl ?_
  refine g_iconst C (v := 2) (by decide) dL_law_873 ?_
  refine g_iadd C dL_law_874 ?_
  refine g_sld C hX hbl hbA hin2 dL_law_875 ?_
  refine g_callV C hg [.int (ys ((nI i + 1).toNatClampNeg)), .int (ys ((nI i + 2).toNatClampNeg))] [.int r] mv_L_103 sh_0 rfl rfl (ctX11_measure h2) ⟨(Nat.le_of_ble_eq_true rfl), (Nat.le_of_ble_eq_true rfl)⟩ ⟨by omega, by omega⟩ (Nat.le_of_ble_eq_true rfl) dL_law_876 rfl ?_
  show GJ _ _ _ _ _ _ _ S2 _ _ (.int r :: [.int r])
  refine g_icmp_eq C 953 dL_law_879 (by decide) (fun _ => ?_) (fun z => absurd rfl z)
  exact hnx S2 hI2
theorem law_image {Inv : (Nat → Bool) → St → Prop} (hpf : PF_image Inv) {κ : KT} {D : va_G} {T : Nat → ClassId} {t1 t2 : Nat} (C : GX κ D T t1 t2 (fun q => (ks κ).heap.size ≤ q) RL cL_law 4 2048 84000 600000 7302250) {b L i cells slots : Nat} {ys : Nat → Int32} {Q : State → Prop} {g : GT} {S : St} (hX : va_X b L ys (ks κ) (ks κ).heap) (hbl : b < (ks κ).heap.size) (hi : i + 5 ≤ L) (hL : L ≤ 2560) (hg : GOK D T t1 t2 (fun q => (ks κ).heap.size ≤ q) g) (hcs : cells + 36 ≤ 600000 ∧ slots + 703 ≤ 7302250) (hI : Inv (gpr g) S) (hnx : ∀ g2 S2, Inv (gpr g2) S2 → GOK D T t1 t2 (fun q => (ks κ).heap.size ≤ q) g2 → GJ κ (fun q => (ks κ).heap.size ≤ q) 4 Q (cells + 36) (slots + 703) g2 S2 953 [(0, .ref b), (1, .ref (gad g2 18)), (2, .ref (gad g2 0)), (3, .int (nI i))] []) : GJ κ (fun q => (ks κ).heap.size ≤ q) 4 Q cells slots g S 884 [(0, .ref b), (1, .ref (gad g 18)), (2, .ref (gad g 0)), (3, .int (nI i))] [] := by
  have hbA : ¬ (fun q : Nat => (ks κ).heap.size ≤ q) b := Nat.not_le.mpr hbl
  have hin1 : vp_in (nI i + 1) L := by rw [show nI i + 1 = nI (i + 1) from nI_add i 1]; exact vp_in_nI (by omega) (by omega)
  have hI0 := hpf (gpr g) S (ys ((nI i + 1).toNatClampNeg)) hI
  refine g_aload_n C 1 rfl dL_law_884 rfl ?_
  refine g_aload_n C 0 rfl dL_law_885 rfl ?_
  refine g_iload_n C 3 rfl dL_law_886 rfl ?_
  refine g_iconst C (v := 1) (by decide) dL_law_887 ?_
  refine g_iadd C dL_law_888 ?_
  refine g_sld C hX hbl hbA hin1 dL_law_889 ?_
  refine g_callImg C hg (rest := []) (Post := fun r g1 S1 => (∃ S2, mX11_image S1 (ys ((nI i + 1).toNatClampNeg)) = some (r, S2) ∧ Inv (gpr g1) S2) ∧ ∀ n, n < 97 → gad g1 n = gad g n) mv_L_104 (fun _ => cImage (fun hk => ?_) (fun j hj hk hpr => ?_) (fun j hj hk hpr => ?_)) ⟨(Nat.le_of_ble_eq_true rfl), (Nat.le_of_ble_eq_true rfl)⟩ hcs (Nat.le_of_ble_eq_true rfl) dL_law_890 (fun r g1 S1 hp hg1 => ?_)
  · exact ⟨hI0.1 hk, fun _ _ => rfl⟩
  · obtain ⟨S1, S2, e1, e2, e3⟩ := hI0.2 j hj hk
    rw [hpr, if_pos rfl] at e1
    have epr : va_up (gpr g) j true = gpr g := by
      funext x
      by_cases hx : x = j
      · rw [hx, va_up_self, hpr]
      · rw [va_up_ne _ _ hx]
    rw [epr] at e3
    exact ⟨S1, e1, ⟨S2, e2, e3⟩, fun _ _ => rfl⟩
  · obtain ⟨S1, S2, e1, e2, e3⟩ := hI0.2 j hj hk
    rw [hpr, if_neg (by decide)] at e1
    refine ⟨S1, e1, fun q ns => ⟨⟨S2, e2, e3⟩, fun n hn => gext_out ?_⟩⟩
    refine Bool.eq_false_iff.mpr (fun hb => ?_)
    unfold blk at hb
    simp only [Bool.and_eq_true, Nat.ble_eq] at hb
    omega
  obtain ⟨⟨S2, h2, hI2⟩, hgad⟩ := hp
  rw [← hgad 18 (by omega), ← hgad 0 (by omega)]
  refine g_aload_n C 2 rfl dL_law_893 rfl ?_
  refine g_aload_n C 0 rfl dL_law_894 rfl ?_
  refine g_iload_n C 3 rfl dL_law_895 rfl ?_
  refine g_iconst C (v := 1) (by decide) dL_law_896 ?_
  refine g_iadd C dL_law_897 ?_
  refine g_sld C hX hbl hbA hin1 dL_law_898 ?_
  refine g_callV C hg1 [.int (ys ((nI i + 1).toNatClampNeg))] [.int r] mv_L_107 sh_0 rfl rfl (ctX11_image h2) ⟨(Nat.le_of_ble_eq_true rfl), (Nat.le_of_ble_eq_true rfl)⟩ ⟨by omega, by omega⟩ (Nat.le_of_ble_eq_true rfl) dL_law_899 rfl ?_
  show GJ _ _ _ _ _ _ _ S2 _ _ (.int r :: [.int r])
  refine g_icmp_eq C 953 dL_law_902 (by decide) (fun _ => ?_) (fun z => absurd rfl z)
  exact hnx g1 S2 hI2 hg1
theorem law_restore {Inv : (Nat → Bool) → St → Prop} (hpf : PF_restore Inv) {κ : KT} {D : va_G} {T : Nat → ClassId} {t1 t2 : Nat} (C : GX κ D T t1 t2 (fun q => (ks κ).heap.size ≤ q) RL cL_law 4 2048 84000 600000 7302250) {b L i cells slots : Nat} {ys : Nat → Int32} {Q : State → Prop} {g : GT} {S : St} (hX : va_X b L ys (ks κ) (ks κ).heap) (hbl : b < (ks κ).heap.size) (hi : i + 5 ≤ L) (hL : L ≤ 2560) (hg : GOK D T t1 t2 (fun q => (ks κ).heap.size ≤ q) g) (hcs : cells + 36 ≤ 600000 ∧ slots + 703 ≤ 7302250) (hI : Inv (gpr g) S) (hnx : ∀ S2, Inv (gpr g) S2 → GJ κ (fun q => (ks κ).heap.size ≤ q) 4 Q cells slots g S2 953 [(0, .ref b), (1, .ref (gad g 18)), (2, .ref (gad g 0)), (3, .int (nI i))] []) : GJ κ (fun q => (ks κ).heap.size ≤ q) 4 Q cells slots g S 907 [(0, .ref b), (1, .ref (gad g 18)), (2, .ref (gad g 0)), (3, .int (nI i))] [] := by
  have hbA : ¬ (fun q : Nat => (ks κ).heap.size ≤ q) b := Nat.not_le.mpr hbl
  have hin1 : vp_in (nI i + 1) L := by rw [show nI i + 1 = nI (i + 1) from nI_add i 1]; exact vp_in_nI (by omega) (by omega)
  obtain ⟨r, S1, S2, h1, h2, hI2⟩ := hpf (gpr g) S (ys ((nI i + 1).toNatClampNeg)) hI
  refine g_aload_n C 1 rfl dL_law_907 rfl ?_
  refine g_aload_n C 0 rfl dL_law_908 rfl ?_
  refine g_iload_n C 3 rfl dL_law_909 rfl ?_
  refine g_iconst C (v := 1) (by decide) dL_law_910 ?_
  refine g_iadd C dL_law_911 ?_
  refine g_sld C hX hbl hbA hin1 dL_law_912 ?_
  refine g_callV C hg [.int (ys ((nI i + 1).toNatClampNeg))] [] mv_L_108 sh_18 rfl rfl (ctX10_restore h1) ⟨(Nat.le_of_ble_eq_true rfl), (Nat.le_of_ble_eq_true rfl)⟩ ⟨by omega, by omega⟩ (Nat.le_of_ble_eq_true rfl) dL_law_913 rfl ?_
  show GJ _ _ _ _ _ _ _ S1 _ _ (.int r :: [])
  refine g_aload_n C 2 rfl dL_law_916 rfl ?_
  refine g_aload_n C 0 rfl dL_law_917 rfl ?_
  refine g_iload_n C 3 rfl dL_law_918 rfl ?_
  refine g_iconst C (v := 1) (by decide) dL_law_919 ?_
  refine g_iadd C dL_law_920 ?_
  refine g_sld C hX hbl hbA hin1 dL_law_921 ?_
  refine g_callV C hg [.int (ys ((nI i + 1).toNatClampNeg))] [.int r] mv_L_111 sh_0 rfl rfl (ctX11_restore h2) ⟨(Nat.le_of_ble_eq_true rfl), (Nat.le_of_ble_eq_true rfl)⟩ ⟨by omega, by omega⟩ (Nat.le_of_ble_eq_true rfl) dL_law_922 rfl ?_
  show GJ _ _ _ _ _ _ _ S2 _ _ (.int r :: [.int r])
  refine g_icmp_eq C 953 dL_law_925 (by decide) (fun _ => ?_) (fun z => absurd rfl z)
  exact hnx S2 hI2
theorem law_told {Inv : (Nat → Bool) → St → Prop} (hpf : PF_told Inv) {κ : KT} {D : va_G} {T : Nat → ClassId} {t1 t2 : Nat} (C : GX κ D T t1 t2 (fun q => (ks κ).heap.size ≤ q) RL cL_law 4 2048 84000 600000 7302250) {b L i cells slots : Nat} {ys : Nat → Int32} {Q : State → Prop} {g : GT} {S : St} (hX : va_X b L ys (ks κ) (ks κ).heap) (hbl : b < (ks κ).heap.size) (hi : i + 5 ≤ L) (hL : L ≤ 2560) (hg : GOK D T t1 t2 (fun q => (ks κ).heap.size ≤ q) g) (hcs : cells + 36 ≤ 600000 ∧ slots + 703 ≤ 7302250) (hI : Inv (gpr g) S) (hnx : ∀ S2, Inv (gpr g) S2 → GJ κ (fun q => (ks κ).heap.size ≤ q) 4 Q cells slots g S2 953 [(0, .ref b), (1, .ref (gad g 18)), (2, .ref (gad g 0)), (3, .int (nI i))] []) : GJ κ (fun q => (ks κ).heap.size ≤ q) 4 Q cells slots g S 930 [(0, .ref b), (1, .ref (gad g 18)), (2, .ref (gad g 0)), (3, .int (nI i))] [] := by
  have hbA : ¬ (fun q : Nat => (ks κ).heap.size ≤ q) b := Nat.not_le.mpr hbl
  have hin1 : vp_in (nI i + 1) L := by rw [show nI i + 1 = nI (i + 1) from nI_add i 1]; exact vp_in_nI (by omega) (by omega)
  obtain ⟨r, h1, h2, hI2⟩ := hpf (gpr g) S (ys ((nI i + 1).toNatClampNeg)) hI
  refine g_aload_n C 1 rfl dL_law_930 rfl ?_
  refine g_aload_n C 0 rfl dL_law_931 rfl ?_
  refine g_iload_n C 3 rfl dL_law_932 rfl ?_
  refine g_iconst C (v := 1) (by decide) dL_law_933 ?_
  refine g_iadd C dL_law_934 ?_
  refine g_sld C hX hbl hbA hin1 dL_law_935 ?_
  refine g_callV C hg [.int (ys ((nI i + 1).toNatClampNeg))] [] mv_L_112 sh_18 rfl rfl (ctX10_told h1) ⟨(Nat.le_of_ble_eq_true rfl), (Nat.le_of_ble_eq_true rfl)⟩ ⟨by omega, by omega⟩ (Nat.le_of_ble_eq_true rfl) dL_law_936 rfl ?_
  show GJ _ _ _ _ _ _ _ S _ _ (.int r :: [])
  refine g_aload_n C 2 rfl dL_law_939 rfl ?_
  refine g_aload_n C 0 rfl dL_law_940 rfl ?_
  refine g_iload_n C 3 rfl dL_law_941 rfl ?_
  refine g_iconst C (v := 1) (by decide) dL_law_942 ?_
  refine g_iadd C dL_law_943 ?_
  refine g_sld C hX hbl hbA hin1 dL_law_944 ?_
  refine g_callV C hg [.int (ys ((nI i + 1).toNatClampNeg))] [.int r] mv_L_115 sh_0 rfl rfl (ctX11_told h2) ⟨(Nat.le_of_ble_eq_true rfl), (Nat.le_of_ble_eq_true rfl)⟩ ⟨by omega, by omega⟩ (Nat.le_of_ble_eq_true rfl) dL_law_945 rfl ?_
  show GJ _ _ _ _ _ _ _ S _ _ (.int r :: [.int r])
  refine g_icmp_eq C 953 dL_law_948 (by decide) (fun _ => ?_) (fun z => absurd rfl z)
  exact hnx S hI2
set_option maxRecDepth 20000 in
theorem law_loop {Inv : (Nat → Bool) → St → Prop} (hpf : PF Inv) {κ : KT} {D : va_G} {T : Nat → ClassId} {t1 t2 : Nat} (C : GX κ D T t1 t2 (fun q => (ks κ).heap.size ≤ q) RL cL_law 4 2048 84000 600000 7302250) {b L : Nat} {ys : Nat → Int32} {Q : State → Prop} (hX : va_X b L ys (ks κ) (ks κ).heap) (hbl : b < (ks κ).heap.size) (hL : L ≤ 2560) (hend : ∀ (g : GT) (S : St) (xs : List (Nat × Value)), GJ κ (fun q => (ks κ).heap.size ≤ q) 4 Q 600000 7302250 g S 960 xs [.int 1]) :
    ∀ (n i : Nat), L < i + 5 * n → i ≤ L → ∀ (g : GT) (S : St), Inv (gpr g) S → GOK D T t1 t2 (fun q => (ks κ).heap.size ≤ q) g → GJ κ (fun q => (ks κ).heap.size ≤ q) 4 Q (10000 + 36 * i) (100000 + 703 * i) g S 18 [(0, .ref b), (1, .ref (gad g 18)), (2, .ref (gad g 0)), (3, .int (nI i))] [] := by
  have hbA : ¬ (fun q : Nat => (ks κ).heap.size ≤ q) b := Nat.not_le.mpr hbl
  intro n
  induction n with
  | zero => intro i h1 h2; omega
  | succ n ih =>
    intro i h1 h2 g S hI hg
    refine g_iload_n C 3 rfl dL_law_18 rfl ?_
    refine g_aload_n C 0 rfl dL_law_19 rfl ?_
    refine g_slen C hX hbl hbA dL_law_20 ?_
    refine g_iconst C (v := 5) (by decide) dL_law_21 ?_
    refine g_isub C dL_law_22 ?_
    refine g_icmp_gt C 959 dL_law_23 (by decide) (fun _ => ?_) (fun hle => ?_)
    · refine g_iconst C (v := 1) (by decide) dL_law_959 ?_
      refine g_widen (k := 600000) (n := 7302250) (by omega) (by omega) ?_
      exact hend g S _
    · have hi : i + 5 ≤ L := by
        rcases Nat.lt_or_ge L (i + 5) with h | h
        · exfalso
          apply hle
          rw [Int32.lt_iff_toInt_lt]
          have e1 : (Int32.ofNat L - 5).toInt = (L : Int) - 5 := pk_sub_toInt (a := L) (b := 5) (by omega) (by omega)
          rw [e1, nI_toInt (by omega)]
          omega
        · exact h
      refine g_aload_n C 0 rfl dL_law_26 rfl ?_
      refine g_iload_n C 3 rfl dL_law_27 rfl ?_
      refine g_sld C hX hbl hbA (vp_in_nI (by omega) (by omega)) dL_law_28 ?_
      refine g_bipush C (v := 31) (by decide) dL_law_29 ?_
      refine g_iand C dL_law_31 ?_
      generalize ys ((nI i).toNatClampNeg) &&& 31 = x
      have hnx : ∀ (g2 : GT) (S2 : St) (c2 s2 : Nat), c2 ≤ 10000 + 36 * i + 36 → s2 ≤ 100000 + 703 * i + 703 → Inv (gpr g2) S2 → GOK D T t1 t2 (fun q => (ks κ).heap.size ≤ q) g2 → GJ κ (fun q => (ks κ).heap.size ≤ q) 4 Q c2 s2 g2 S2 953 [(0, .ref b), (1, .ref (gad g2 18)), (2, .ref (gad g2 0)), (3, .int (nI i))] [] := fun g2 S2 c2 s2 hc hs hI2 hg2 => by
        refine g_iinc C (v := nI (i + 5)) (xs1 := [(0, .ref b), (1, .ref (gad g2 18)), (2, .ref (gad g2 0)), (3, .int (nI (i + 5)))]) 3 rfl dL_law_953 (nI_add i 5) (by decide) rfl ?_
        refine g_goto C 18 dL_law_956 (by decide) ?_
        refine g_widen (cells := c2) (slots := s2) (k := 10000 + 36 * (i + 5)) (n := 100000 + 703 * (i + 5)) (Nat.le_trans hc (by omega)) (Nat.le_trans hs (by omega)) ?_
        exact ih (i + 5) (by omega) (by omega) g2 S2 hI2 hg2
      by_cases x0 : x = 0
      · refine g_tswIn C (off := 112) 144 x0 dL_law_32 (by decide) (by decide) (by decide) (by decide) ?_
        exact law_say (hpf.1) C hX hbl hi hL hg ⟨by omega, by omega⟩ hI (fun S2 h2 => hnx g S2 _ _ (by omega) (by omega) h2 hg)
      by_cases x1 : x = 1
      · refine g_tswIn C (off := 135) 167 x1 dL_law_32 (by decide) (by decide) (by decide) (by decide) ?_
        exact law_wipe (hpf.2.1) C hX hbl hi hL hg ⟨by omega, by omega⟩ hI (fun S2 h2 => hnx g S2 _ _ (by omega) (by omega) h2 hg)
      by_cases x2 : x = 2
      · refine g_tswIn C (off := 148) 180 x2 dL_law_32 (by decide) (by decide) (by decide) (by decide) ?_
        exact law_fault (hpf.2.2.1) C hX hbl hi hL hg ⟨by omega, by omega⟩ hI (fun S2 h2 => hnx g S2 _ _ (by omega) (by omega) h2 hg)
      by_cases x3 : x = 3
      · refine g_tswIn C (off := 161) 193 x3 dL_law_32 (by decide) (by decide) (by decide) (by decide) ?_
        exact law_load (hpf.2.2.2.1) C hX hbl hi hL hg ⟨by omega, by omega⟩ hI (fun S2 h2 => hnx g S2 _ _ (by omega) (by omega) h2 hg)
      by_cases x4 : x = 4
      · refine g_tswIn C (off := 184) 216 x4 dL_law_32 (by decide) (by decide) (by decide) (by decide) ?_
        exact law_generator (hpf.2.2.2.2.1) C hX hbl hi hL hg ⟨by omega, by omega⟩ hI (fun S2 h2 => hnx g S2 _ _ (by omega) (by omega) h2 hg)
      by_cases x5 : x = 5
      · refine g_tswIn C (off := 217) 249 x5 dL_law_32 (by decide) (by decide) (by decide) (by decide) ?_
        exact law_has (hpf.2.2.2.2.2.1) C hX hbl hi hL hg ⟨by omega, by omega⟩ hI (fun S2 h2 => hnx g S2 _ _ (by omega) (by omega) h2 hg)
      by_cases x6 : x = 6
      · refine g_tswIn C (off := 250) 282 x6 dL_law_32 (by decide) (by decide) (by decide) (by decide) ?_
        exact law_make (hpf.2.2.2.2.2.2.1) C hX hbl hi hL hg ⟨by omega, by omega⟩ hI (fun S2 h2 => hnx g S2 _ _ (by omega) (by omega) h2 hg)
      by_cases x7 : x = 7
      · refine g_tswIn C (off := 303) 335 x7 dL_law_32 (by decide) (by decide) (by decide) (by decide) ?_
        exact law_compare (hpf.2.2.2.2.2.2.2.1) C hX hbl hi hL hg ⟨by omega, by omega⟩ hI (fun S2 h2 => hnx g S2 _ _ (by omega) (by omega) h2 hg)
      by_cases x8 : x = 8
      · refine g_tswIn C (off := 336) 368 x8 dL_law_32 (by decide) (by decide) (by decide) (by decide) ?_
        exact law_part (hpf.2.2.2.2.2.2.2.2.1) C hX hbl hi hL hg ⟨by omega, by omega⟩ hI (fun S2 h2 => hnx g S2 _ _ (by omega) (by omega) h2 hg)
      by_cases x9 : x = 9
      · refine g_tswIn C (off := 369) 401 x9 dL_law_32 (by decide) (by decide) (by decide) (by decide) ?_
        exact law_prime (hpf.2.2.2.2.2.2.2.2.2.1) C hX hbl hi hL hg ⟨by omega, by omega⟩ hI (fun S2 h2 => hnx g S2 _ _ (by omega) (by omega) h2 hg)
      by_cases x10 : x = 10
      · refine g_tswIn C (off := 402) 434 x10 dL_law_32 (by decide) (by decide) (by decide) (by decide) ?_
        exact law_primary (hpf.2.2.2.2.2.2.2.2.2.2.1) C hX hbl hi hL hg ⟨by omega, by omega⟩ hI (fun S2 h2 => hnx g S2 _ _ (by omega) (by omega) h2 hg)
      by_cases x11 : x = 11
      · refine g_tswIn C (off := 445) 477 x11 dL_law_32 (by decide) (by decide) (by decide) (by decide) ?_
        exact law_dual (hpf.2.2.2.2.2.2.2.2.2.2.2.1) C hX hbl hi hL hg ⟨by omega, by omega⟩ hI (fun S2 h2 => hnx g S2 _ _ (by omega) (by omega) h2 hg)
      by_cases x12 : x = 12
      · refine g_tswIn C (off := 488) 520 x12 dL_law_32 (by decide) (by decide) (by decide) (by decide) ?_
        exact law_count (hpf.2.2.2.2.2.2.2.2.2.2.2.2.1) C hX hbl hi hL hg ⟨by omega, by omega⟩ hI (fun S2 h2 => hnx g S2 _ _ (by omega) (by omega) h2 hg)
      by_cases x13 : x = 13
      · refine g_tswIn C (off := 521) 553 x13 dL_law_32 (by decide) (by decide) (by decide) (by decide) ?_
        exact law_series (hpf.2.2.2.2.2.2.2.2.2.2.2.2.2.1) C hX hbl hi hL hg ⟨by omega, by omega⟩ hI (fun S2 h2 => hnx g S2 _ _ (by omega) (by omega) h2 hg)
      by_cases x14 : x = 14
      · refine g_tswIn C (off := 554) 586 x14 dL_law_32 (by decide) (by decide) (by decide) (by decide) ?_
        exact law_facts (hpf.2.2.2.2.2.2.2.2.2.2.2.2.2.2.1) C hX hbl hi hL hg ⟨by omega, by omega⟩ hI (fun S2 h2 => hnx g S2 _ _ (by omega) (by omega) h2 hg)
      by_cases x15 : x = 15
      · refine g_tswIn C (off := 587) 619 x15 dL_law_32 (by decide) (by decide) (by decide) (by decide) ?_
        exact law_betti (hpf.2.2.2.2.2.2.2.2.2.2.2.2.2.2.2.1) C hX hbl hi hL hg ⟨by omega, by omega⟩ hI (fun S2 h2 => hnx g S2 _ _ (by omega) (by omega) h2 hg)
      by_cases x16 : x = 16
      · refine g_tswIn C (off := 620) 652 x16 dL_law_32 (by decide) (by decide) (by decide) (by decide) ?_
        exact law_bettiAt (hpf.2.2.2.2.2.2.2.2.2.2.2.2.2.2.2.2.1) C hX hbl hi hL hg ⟨by omega, by omega⟩ hI (fun S2 h2 => hnx g S2 _ _ (by omega) (by omega) h2 hg)
      by_cases x17 : x = 17
      · refine g_tswIn C (off := 663) 695 x17 dL_law_32 (by decide) (by decide) (by decide) (by decide) ?_
        exact law_share (hpf.2.2.2.2.2.2.2.2.2.2.2.2.2.2.2.2.2.1) C hX hbl hi hL hg ⟨by omega, by omega⟩ hI (fun S2 h2 => hnx g S2 _ _ (by omega) (by omega) h2 hg)
      by_cases x18 : x = 18
      · refine g_tswIn C (off := 707) 739 x18 dL_law_32 (by decide) (by decide) (by decide) (by decide) ?_
        exact law_hold (hpf.2.2.2.2.2.2.2.2.2.2.2.2.2.2.2.2.2.2.1) C hX hbl hi hL hg ⟨by omega, by omega⟩ hI (fun S2 h2 => hnx g S2 _ _ (by omega) (by omega) h2 hg)
      by_cases x19 : x = 19
      · refine g_tswIn C (off := 776) 808 x19 dL_law_32 (by decide) (by decide) (by decide) (by decide) ?_
        exact law_take (hpf.2.2.2.2.2.2.2.2.2.2.2.2.2.2.2.2.2.2.2.1) C hX hbl hi hL hg ⟨by omega, by omega⟩ hI (fun S2 h2 => hnx g S2 _ _ (by omega) (by omega) h2 hg)
      by_cases x20 : x = 20
      · refine g_tswIn C (off := 819) 851 x20 dL_law_32 (by decide) (by decide) (by decide) (by decide) ?_
        exact law_measure (hpf.2.2.2.2.2.2.2.2.2.2.2.2.2.2.2.2.2.2.2.2.1) C hX hbl hi hL hg ⟨by omega, by omega⟩ hI (fun S2 h2 => hnx g S2 _ _ (by omega) (by omega) h2 hg)
      by_cases x21 : x = 21
      · refine g_tswIn C (off := 852) 884 x21 dL_law_32 (by decide) (by decide) (by decide) (by decide) ?_
        exact law_image (hpf.2.2.2.2.2.2.2.2.2.2.2.2.2.2.2.2.2.2.2.2.2.1) C hX hbl hi hL hg ⟨by omega, by omega⟩ hI (fun g2 S2 h2 hg2 => hnx g2 S2 _ _ (by omega) (by omega) h2 hg2)
      by_cases x22 : x = 22
      · refine g_tswIn C (off := 875) 907 x22 dL_law_32 (by decide) (by decide) (by decide) (by decide) ?_
        exact law_restore (hpf.2.2.2.2.2.2.2.2.2.2.2.2.2.2.2.2.2.2.2.2.2.2.1) C hX hbl hi hL hg ⟨by omega, by omega⟩ hI (fun S2 h2 => hnx g S2 _ _ (by omega) (by omega) h2 hg)
      by_cases x23 : x = 23
      · refine g_tswIn C (off := 898) 930 x23 dL_law_32 (by decide) (by decide) (by decide) (by decide) ?_
        exact law_told (hpf.2.2.2.2.2.2.2.2.2.2.2.2.2.2.2.2.2.2.2.2.2.2.2) C hX hbl hi hL hg ⟨by omega, by omega⟩ hI (fun S2 h2 => hnx g S2 _ _ (by omega) (by omega) h2 hg)
      have y0 := tsw_ne (n := 0) rfl x0
      have y1 := tsw_ne (n := 1) rfl x1
      have y2 := tsw_ne (n := 2) rfl x2
      have y3 := tsw_ne (n := 3) rfl x3
      have y4 := tsw_ne (n := 4) rfl x4
      have y5 := tsw_ne (n := 5) rfl x5
      have y6 := tsw_ne (n := 6) rfl x6
      have y7 := tsw_ne (n := 7) rfl x7
      have y8 := tsw_ne (n := 8) rfl x8
      have y9 := tsw_ne (n := 9) rfl x9
      have y10 := tsw_ne (n := 10) rfl x10
      have y11 := tsw_ne (n := 11) rfl x11
      have y12 := tsw_ne (n := 12) rfl x12
      have y13 := tsw_ne (n := 13) rfl x13
      have y14 := tsw_ne (n := 14) rfl x14
      have y15 := tsw_ne (n := 15) rfl x15
      have y16 := tsw_ne (n := 16) rfl x16
      have y17 := tsw_ne (n := 17) rfl x17
      have y18 := tsw_ne (n := 18) rfl x18
      have y19 := tsw_ne (n := 19) rfl x19
      have y20 := tsw_ne (n := 20) rfl x20
      have y21 := tsw_ne (n := 21) rfl x21
      have y22 := tsw_ne (n := 22) rfl x22
      have y23 := tsw_ne (n := 23) rfl x23
      refine g_tswOut C 953 dL_law_32 (by omega) (by decide) ?_
      exact hnx g S _ _ (by omega) (by omega) hI hg
