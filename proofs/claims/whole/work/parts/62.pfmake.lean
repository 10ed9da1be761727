/-! PURE PART: make -/
theorem nodup_len : ∀ (W L : List Nat), W.Nodup → (∀ x ∈ W, x ∈ L) → W.length ≤ L.length := by
  intro W
  induction W with
  | nil => intro L _ _; exact Nat.zero_le _
  | cons a W ih =>
    intro L hn hs
    obtain ⟨n1, n2⟩ := List.nodup_cons.mp hn
    have ha := hs a List.mem_cons_self
    have h1 := ih (L.erase a) n2 (fun x hx => (List.mem_erase_of_ne (fun e => n1 (by rw [← e]; exact hx))).mpr (hs x (List.mem_cons_of_mem _ hx)))
    have h2 := List.length_erase_of_mem ha
    have h3 := List.length_pos_of_mem ha
    rw [List.length_cons]
    omega
theorem up_low {A : List Nat} {p : Nat} : up (lowL A) p = true ↔ ∃ a ∈ A, wH a = false ∧ dv (wcap a) p = true := by
  rw [up_iff]
  unfold lowL
  constructor
  · rintro ⟨q, q1, q2⟩
    obtain ⟨a, a1, rfl⟩ := List.mem_map.mp q1
    obtain ⟨z1, z2⟩ := List.mem_filter.mp a1
    exact ⟨a, z1, by simpa using z2, q2⟩
  · rintro ⟨a, a1, a2, a3⟩
    exact ⟨wcap a, List.mem_map.mpr ⟨a, List.mem_filter.mpr ⟨a1, by rw [a2]; rfl⟩, rfl⟩, a3⟩
theorem any_high {A W : List Nat} (hP : PW A W) : W.any wH = !fitB (up (lowL A)) A := by
  obtain ⟨h1, h2, h3, -, -⟩ := hP
  cases hf : fitB (up (lowL A)) A with
  | true =>
    unfold fitB at hf
    rw [List.all_eq_true] at hf
    show _ = false
    rw [List.any_eq_false]
    intro w hw hh
    have := hf w (h1 w hw)
    rw [hh, Bool.not_true, Bool.false_or] at this
    obtain ⟨a, a1, a2, a3⟩ := up_low.mp this
    rw [← udv_dv a2] at a3
    obtain ⟨w1, g1, g2⟩ := h2 a a1
    have e := h3 w1 g1 w hw (udv_trans g2 a3)
    subst e
    obtain ⟨x0, x1, x2, x3⟩ := udv_iff.mp g2
    obtain ⟨y0, y1, y2, y3⟩ := wH_false.mp a2
    rw [wH_false.mpr ⟨by omega, by omega, by omega, by omega⟩] at hh
    cases hh
  | false =>
    unfold fitB at hf
    rw [List.all_eq_false] at hf
    obtain ⟨a, a1, a2⟩ := hf
    show _ = true
    rw [List.any_eq_true]
    obtain ⟨w, w1, w2⟩ := h2 a a1
    refine ⟨w, w1, ?_⟩
    cases hw : wH w with
    | true => rfl
    | false =>
      refine absurd ?_ a2
      rw [show up (lowL A) (wcap a) = true from up_low.mpr ⟨w, h1 w w1, hw, by rw [← udv_dv hw]; exact w2⟩, Bool.or_true]
theorem up_W {A W : List Nat} (hP : PW A W) (hl : W.any wH = false) (p : Nat) : up (lowL A) p = up (W.map wcap) p := by
  obtain ⟨h1, h2, h3, -, -⟩ := hP
  have hn : ∀ w ∈ W, wH w = false := fun w hw => by
    have := List.any_eq_false.mp hl w hw
    simpa using this
  rw [Bool.eq_iff_iff, up_low, up_iff]
  constructor
  · rintro ⟨a, a1, a2, a3⟩
    obtain ⟨w, w1, w2⟩ := h2 a a1
    refine ⟨wcap w, List.mem_map.mpr ⟨w, w1, rfl⟩, ?_⟩
    rw [udv_dv (hn w w1)] at w2
    exact dv_trans w2 a3
  · rintro ⟨q, q1, q2⟩
    obtain ⟨w, w1, rfl⟩ := List.mem_map.mp q1
    exact ⟨w, h1 w w1, hn w w1, q2⟩
theorem W_len {A W : List Nat} (hP : PW A W) (hok : ∀ w ∈ A, okW w) (hl : W.any wH = false) : W.length ≤ (gens (up (lowL A))).length := by
  have hP0 := hP
  obtain ⟨h1, h2, h3, h4, -⟩ := hP
  have hn : ∀ w ∈ W, wH w = false := fun w hw => by
    have := List.any_eq_false.mp hl w hw
    simpa using this
  rw [← List.length_map (f := hexN) (as := gens (up (lowL A)))]
  refine nodup_len W _ h4 (fun w hw => ?_)
  refine List.mem_map.mpr ⟨wcap w, ?_, (low_hex (hok w (h1 w hw)) (hn w hw)).symm⟩
  refine List.mem_filter.mpr ⟨List.mem_range.mpr (wcap_lt w), ?_⟩
  have hB : up (lowL A) (wcap w) = true := up_low.mpr ⟨w, h1 w hw, hn w hw, dv_refl _⟩
  cases hlst : lst (up (lowL A)) (wcap w) with
  | true => rfl
  | false =>
    obtain ⟨v, v1, v2, v3⟩ := lst_not hB hlst
    obtain ⟨d1, d2⟩ := dv_down v1 (wcap_lt w) v2
    obtain ⟨a, a1, a2, a3⟩ := up_low.mp v3
    obtain ⟨w1, g1, g2⟩ := h2 a a1
    have g3 := g2
    rw [udv_dv (hn w1 g1)] at g3
    have g4 := dv_trans g3 a3
    have e := h3 w1 g1 w hw (by rw [udv_dv (hn w1 g1)]; exact dv_trans g4 d1)
    subst e
    have := (dv_digs (by have := wcap_lt w1; omega) g4).2.2.2.2
    omega
theorem pf_make : PF_make Inv := by
  intro pr S a0 a1 a2 a3 hI
  unfold mX10_make mX11_make
  rcases ideal_cases a1 with ⟨c1, r1⟩ | ⟨k, hk, rfl, c1, r1⟩
  · rw [c1, obs]
    exact ⟨-1, S, S, if_pos rfl, by rw [r1, obs, if_pos rfl], hI⟩
  rw [c1, obs, if_neg (by decide)]
  rcases ideal_cases a2 with ⟨c2, r2⟩ | ⟨j, hj, rfl, c2, r2⟩
  · rw [c2, obs]
    exact ⟨-1, S, S, if_pos rfl, by rw [r1, obs, if_neg (by decide), r2, obs, if_pos rfl], hI⟩
  rw [c2, obs, if_neg (by decide)]
  rcases ideal_cases a3 with ⟨c3, r3⟩ | ⟨t, ht, rfl, c3, r3⟩
  · rw [c3, obs]
    exact ⟨-1, S, S, if_pos rfl, by rw [r1, obs, if_neg (by decide), r2, obs, if_neg (by decide), r3, obs, if_pos rfl], hI⟩
  rw [c3, obs, if_neg (by decide)]
  have R : ∀ S1 : St, ((mX11_isIdeal (nI k)).bind fun r1 => if r1 = 0 then (some ((-1), S1)) else ((mX11_isIdeal (nI j)).bind fun r2 => if r2 = 0 then (some ((-1), S1)) else ((mX11_isIdeal (nI t)).bind fun r3 => if r3 = 0 then (some ((-1), S1)) else ((mX11_in a0.toInt64 0 4).bind fun r4 => if r4 = 0 then (some ((-2), S1)) else (if a0 = 2 then ((mX11_multiply S1 (nI k) (nI j) (nI t)).bind fun r5 => some (r5.1, r5.2)) else (mX11_make_56 FU S1 a0 (nI k) (nI j) (nI t) 0)))))) = ((mX11_in a0.toInt64 0 4).bind fun r4 => if r4 = 0 then (some ((-2), S1)) else (if a0 = 2 then ((mX11_multiply S1 (nI k) (nI j) (nI t)).bind fun r5 => some (r5.1, r5.2)) else (mX11_make_56 FU S1 a0 (nI k) (nI j) (nI t) 0))) := fun S1 => by
    rw [r1, obs, if_neg (by decide), r2, obs, if_neg (by decide), r3, obs, if_neg (by decide)]
  rcases arg a0 with ha | ⟨how, hhow, rfl⟩
  · refine ⟨-2, S, S, if_pos ha, ?_, hI⟩
    rw [R, show (0 : Int64) = lN 0 from rfl, in_neg (l := 0) ha (by decide), obs]
    rfl
  rw [if_neg (nI_pos hhow)]
  have hin : mX11_in (nI how).toInt64 0 4 = some (b2 (decide (0 ≤ how) && decide (how ≤ 4))) := in_nI (l := 0) (h := 4) hhow (by decide) (by decide)
  rw [decide_eq_true (Nat.zero_le how), Bool.true_and] at hin
  by_cases h4 : how ≤ 4
  · rw [decide_eq_true h4] at hin
    obtain ⟨K, ok, mk1, ck⟩ := hI.2.1 k (by omega)
    obtain ⟨J, oj, mj, cj⟩ := hI.2.1 j (by omega)
    rw [if_pos (show nI how ≤ 4 from nI_le (b := 4) h4 (by decide)), inb_nI hk (by decide), inb_nI hj (by decide), el62, el62]
    by_cases h2 : how = 2
    · subst h2
      have hP := PW_all (prods K J)
      have hok := prods_ok ok.2.1 oj.2.1
      have hlen := hP.2.2.2.2
      rw [prods_len] at hlen
      have hlen2 : ((prods K J).foldl addW []).length ≤ 1600 := Nat.le_trans hlen (Nat.le_trans (Nat.mul_le_mul ok.1 oj.1) (by decide))
      obtain ⟨S1, e1, e2, e3⟩ := fits_spec (m := 65 + 2 * k) (m1 := 65 + 2 * j) (by omega) (by omega) ck ok.1 ok.2.1 cj oj.1 oj.2.1
      have f1 : Fr scA scK S S1 := e3.mono (by decide) (by simp)
      have ec : mX9_combine S (65 + 2 * k) (65 + 2 * j) (nI 2) = some (b2 (fitB (up (lowL (prods K J))) (prods K J)), S1) := by
        unfold mX9_combine
        rw [if_neg (by decide), if_neg (by decide), if_pos (by decide), e1, obs, zbg_b2]
      -- the reference, up to the question whether a product is high
      have ref : ∀ S2, (∀ x G, mG S x G → mG S2 x G) → ∃ S3, ((mX11_in (nI 2).toInt64 0 4).bind fun r4 => if r4 = 0 then (some ((-2), S2)) else (if nI 2 = 2 then ((mX11_multiply S2 (nI k) (nI j) (nI t)).bind fun r5 => some (r5.1, r5.2)) else (mX11_make_56 FU S2 (nI 2) (nI k) (nI j) (nI t) 0))) = ((if ((prods K J).foldl addW []).any wH then some (-3, S3) else if ((prods K J).foldl addW []).length ≤ 40 then mX11_multiply_119 FU S3 (nI t) 0 else some (-4, S3)).bind fun r5 => some (r5.1, r5.2)) ∧ wL S3 ((prods K J).foldl addW []) ∧ mk S3 4 (fun _ => false) ∧ Fr scA scK S2 S3 := by
        intro S2 hm
        obtain ⟨U, u1, u2, u3⟩ := mult_all (x3 := nI t) (by omega) (by omega) (hm k K mk1) ok.1 ok.2.1 (hm j J mj) oj.1 oj.2.1
        obtain ⟨U2, w1, w2, w3⟩ := clear_spec U
        have hw : wL U2 ((prods K J).foldl addW []) := ⟨(w3.2 0 10 (by decide)).trans u2.1, fun i hi => by rw [w3.1 7 (by decide)]; exact u2.2 i hi⟩
        refine ⟨U2, ?_, hw, w2, (u3.mono (by decide) (by decide)).trans (w3.mono (by decide) (by simp))⟩
        rw [hin, obs, if_neg (by decide), if_pos (by decide), u1, w1, obs, mult_73 hw hlen2 (fun w hw => (hok w (hP.1 w hw)).1)]
      rw [ec, obs]
      have hah := any_high hP
      cases hfit : fitB (up (lowL (prods K J))) (prods K J) with
      | false =>
        rw [hfit] at hah
        obtain ⟨S3, q1, -, -, q4⟩ := ref S1 (fun x G hG => mG_fr hG e3 (by decide) (by decide))
        refine ⟨-3, S1, S3, if_pos rfl, ?_, Inv_fr (Inv_fr hI f1) q4⟩
        rw [R, q1, hah]
        rfl
      | true =>
        rw [hfit] at hah
        have hah : ((prods K J).foldl addW []).any wH = false := hah
        have hlow : ∀ w ∈ (prods K J).foldl addW [], okW w ∧ wH w = false := fun w hw => ⟨hok w (hP.1 w hw), by
          have := List.any_eq_false.mp hah w hw
          simpa using this⟩
        show ∃ r S1_1 S2, (if (1 : Int32) = 0 then _ else _) = _ ∧ _
        rw [if_neg (by decide), inb_nI ht (by decide), el62]
        by_cases hg : (gens (up (lowL (prods K J)))).length ≤ 40
        · obtain ⟨r, S2, d1, d2, d3⟩ := finish_inv (h := t) hI f1 (by omega) e2 (upc_up _)
          obtain ⟨S3, q1, q2, q3, q4⟩ := ref S2 d2
          have hWl := W_len hP hok hah
          obtain ⟨S4, m1, m2, m3⟩ := mult_119 (x3 := nI t) q2 (by omega) hlow q3
          obtain ⟨S5, k1, k2⟩ := d3 S4 (q4.trans (m3.mono (by decide) (by simp))) (mk_congr m2 (fun p _ => up_W hP hah p))
          refine ⟨r, S2, S5, by rw [d1, obs], ?_, k2⟩
          rw [R, q1, if_neg (by rw [hah]; decide), if_pos (by omega), m1, k1, obs, obs]
        · obtain ⟨S3, q1, q2, q3, q4⟩ := ref S1 (fun x G hG => mG_fr hG e3 (by decide) (by decide))
          have hd := (deliver_spec (n := 65 + 2 * t) (by omega) e2).1 (by omega)
          by_cases hWl : ((prods K J).foldl addW []).length ≤ 40
          · obtain ⟨S4, m1, m2, m3⟩ := mult_119 (x3 := nI t) q2 hWl hlow q3
            have hk4 := (keep_spec (h := t) (by omega) (mk_congr m2 (fun p _ => up_W hP hah p))).1 (by omega)
            refine ⟨-4, S1, S4, by rw [hd, obs], ?_, Inv_fr (Inv_fr hI f1) (q4.trans (m3.mono (by decide) (by simp)))⟩
            rw [R, q1, if_neg (by rw [hah]; decide), if_pos hWl, m1, hk4, obs, obs]
          · refine ⟨-4, S1, S3, by rw [hd, obs], ?_, Inv_fr (Inv_fr hI f1) q4⟩
            rw [R, q1, if_neg (by rw [hah]; decide), if_neg hWl, obs]
    · obtain ⟨S1, e1, e2, e3⟩ := combine_spec (m := 65 + 2 * k) (m1 := 65 + 2 * j) h4 h2 (by omega) (by omega) ck ok.1 ok.2.1 cj oj.1 oj.2.1
      have f1 : Fr scA scK S S1 := e3.mono (by decide) (by simp)
      obtain ⟨r, S2, d1, d2, d3⟩ := finish_inv (h := t) hI f1 (by omega) e2 (upc_md K J h2 h4)
      obtain ⟨S3, m1, m2, m3⟩ := rmake_spec (x := nI t) h4 h2 (by omega) (by omega) (d2 k K mk1) ok.1 ok.2.1 (d2 j J mj) oj.1 oj.2.1
      obtain ⟨S4, k1, k2⟩ := d3 S3 (m3.mono (by decide) (by simp)) m2
      refine ⟨r, S2, S4, ?_, ?_, k2⟩
      · rw [e1, obs]
        show (if (1 : Int32) = 0 then _ else _) = _
        rw [if_neg (by decide), inb_nI ht (by decide), el62, d1, obs]
      · rw [R, hin, obs, if_neg (by decide), if_neg (show ¬ nI how = 2 from fun e => h2 ((nI_eq (b := 2) hhow (by decide)).mp e)), m1, k1, obs]
  · rw [decide_eq_false h4] at hin
    refine ⟨-2, S, S, if_neg (show ¬ nI how ≤ 4 from nI_ge (a := 4) (by omega) hhow), ?_, hI⟩
    rw [R, hin, obs]
    rfl
