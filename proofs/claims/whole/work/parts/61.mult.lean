/-! PURE PART: the list of least products; make -/
def prow (p : Nat) (J : List Nat) : List Nat := J.map (fun q => hexN p + hexN q)
def prods (K J : List Nat) : List Nat := K.flatMap (fun p => prow p J)
theorem prods_take {K J : List Nat} {i : Nat} (h : i < K.length) : prods (K.take (i + 1)) J = prods (K.take i) J ++ prow (K.getD i 0) J := by
  unfold prods
  rw [take_succ' h, List.flatMap_append]
  simp
theorem prow_take {J : List Nat} {p i : Nat} (h : i < J.length) : prow p (J.take (i + 1)) = prow p (J.take i) ++ [hexN p + hexN (J.getD i 0)] := by
  unfold prow
  rw [take_succ' h, List.map_append]
  rfl
theorem prods_ok {K J : List Nat} (hK : ∀ q ∈ K, q < 2401) (hJ : ∀ q ∈ J, q < 2401) : ∀ w ∈ prods K J, okW w := by
  intro w hw
  obtain ⟨p, p1, p2⟩ := List.mem_flatMap.mp hw
  obtain ⟨q, q1, rfl⟩ := List.mem_map.mp p2
  exact okW_pw (hK p p1) (hJ q q1)
def PW (A W : List Nat) : Prop := (∀ w ∈ W, w ∈ A) ∧ (∀ a ∈ A, ∃ w ∈ W, udv w a = true) ∧ (∀ x ∈ W, ∀ y ∈ W, udv x y = true → x = y) ∧ W.Nodup ∧ W.length ≤ A.length
theorem PW_add {A W : List Nat} {a : Nat} (h : PW A W) : PW (A ++ [a]) (addW W a) := by
  obtain ⟨h1, h2, h3, h4, h5⟩ := h
  unfold addW
  cases hany : W.any (fun x => udv x a) with
  | true =>
    rw [if_pos rfl]
    obtain ⟨x, x1, x2⟩ := List.any_eq_true.mp hany
    refine ⟨fun w hw => List.mem_append_left _ (h1 w hw), fun b hb => ?_, h3, h4, by rw [List.length_append]; omega⟩
    rcases List.mem_append.mp hb with z | z
    · exact h2 b z
    · rw [List.mem_singleton.mp z]
      exact ⟨x, x1, x2⟩
  | false =>
    rw [if_neg (by decide)]
    have hn : ∀ x ∈ W, udv x a = false := fun x hx => by
      cases hu : udv x a with
      | false => rfl
      | true =>
        rw [List.any_eq_true.mpr ⟨x, hx, hu⟩] at hany
        cases hany
    have hf : ∀ x, x ∈ W.filter (fun x => !udv a x) → x ∈ W ∧ udv a x = false := fun x hx => by
      obtain ⟨z1, z2⟩ := List.mem_filter.mp hx
      refine ⟨z1, ?_⟩
      simpa using z2
    refine ⟨fun w hw => ?_, fun b hb => ?_, fun x hx y hy hxy => ?_, ?_, ?_⟩
    · rcases List.mem_append.mp hw with z | z
      · exact List.mem_append_left _ (h1 w (hf w z).1)
      · exact List.mem_append_right _ z
    · rcases List.mem_append.mp hb with z | z
      · obtain ⟨w, w1, w2⟩ := h2 b z
        cases hu : udv a w with
        | false => exact ⟨w, List.mem_append_left _ (List.mem_filter.mpr ⟨w1, by rw [hu]; rfl⟩), w2⟩
        | true => exact ⟨a, List.mem_append_right _ (List.mem_singleton.mpr rfl), udv_trans hu w2⟩
      · exact ⟨a, List.mem_append_right _ (List.mem_singleton.mpr rfl), by rw [List.mem_singleton.mp z]; exact udv_refl a⟩
    · rcases List.mem_append.mp hx with z | z
      · rcases List.mem_append.mp hy with t | t
        · exact h3 x (hf x z).1 y (hf y t).1 hxy
        · rw [List.mem_singleton.mp t, hn x (hf x z).1] at hxy
          cases hxy
      · rw [List.mem_singleton.mp z] at hxy ⊢
        rcases List.mem_append.mp hy with t | t
        · rw [(hf y t).2] at hxy
          cases hxy
        · exact (List.mem_singleton.mp t).symm
    · unfold List.Nodup
      rw [List.pairwise_append]
      refine ⟨List.Pairwise.filter _ h4, List.pairwise_singleton _ _, fun x hx y hy e => ?_⟩
      rw [List.mem_singleton.mp hy] at e
      have := (hf x hx).2
      rw [e, udv_refl] at this
      cases this
    · rw [List.length_append, List.length_append]
      have := List.length_filter_le (fun x => !udv a x) W
      show _ + 1 ≤ _ + 1
      omega
theorem PW_fold : ∀ (L A W : List Nat), PW A W → PW (A ++ L) (L.foldl addW W) := by
  intro L
  induction L with
  | nil => intro A W h; rw [List.append_nil]; exact h
  | cons a L ih =>
    intro A W h
    rw [List.foldl_cons, show A ++ a :: L = (A ++ [a]) ++ L by simp]
    exact ih _ _ (PW_add h)
theorem PW_all (A : List Nat) : PW A (A.foldl addW []) := by
  have := PW_fold A [] [] ⟨fun w hw => (by cases hw), fun a ha => (by cases ha), fun x hx => (by cases hx), List.Pairwise.nil, Nat.le_refl 0⟩
  exact this
theorem row_len (p : Nat) (J : List Nat) : (prow p J).length = J.length := List.length_map _
theorem prods_len (K J : List Nat) : (prods K J).length = K.length * J.length := by
  induction K with
  | nil => simp [prods]
  | cons p K ih =>
    show (prow p J ++ prods K J).length = _
    rw [List.length_append, ih, row_len, List.length_cons, Nat.succ_mul, Nat.add_comm]
/-- the reference's double loop -/
theorem mult_row {S : St} {k j p i : Nat} {J A : List Nat} {x3 : Int32} (k8 : St → Int32 → Int32 → Int32 → Int32 → Option (Int32 × St)) (hk : k < 16) (hj : j < 16) (hi : i < 40) (hp : p < 2401) (hat : gA S 1 (40 * k + i) = nI (decN p)) (mj : mG S j J) (lj : J.length ≤ 40) (qj : ∀ q ∈ J, q < 2401) (hA1 : ∀ w ∈ A, okW w) (hAl : A.length + J.length ≤ 1600) (hW : wL S (A.foldl addW [])) : ∃ S1, mX11_multiply_22 k8 FU S (nI k) (nI j) x3 (nI i) 0 = k8 S1 (nI k) (nI j) x3 (nI (i + 1)) ∧ wL S1 ((A ++ prow p J).foldl addW []) ∧ Fr [7] [(0, 10)] S S1 := by
  refine loopG (σ := St) (N := J.length) (fun f n s => mX11_multiply_22 k8 f s (nI k) (nI j) x3 (nI i) (nI n)) (fun n s => wL s ((A ++ prow p (J.take n)).foldl addW []) ∧ Fr [7] [(0, 10)] S s) (fun r => ∃ S1, r = k8 S1 (nI k) (nI j) x3 (nI (i + 1)) ∧ wL S1 ((A ++ prow p J).foldl addW []) ∧ Fr [7] [(0, 10)] S S1) (by omega) ?_ ?_ S ⟨by rw [show A ++ prow p (J.take 0) = A from List.append_nil A]; exact hW, Fr.refl _ _ S⟩
  · intro n f s hn hI
    have mj1 := mG_fr mj hI.2 (by decide) (by decide)
    have hat1 : gA s 1 (40 * k + i) = nI (decN p) := by
      rw [hI.2.1 1 (by decide)]
      exact hat
    have hqn := qj _ (getD_mem hn)
    have hP := PW_all (A ++ prow p (J.take n))
    have hlen := hP.2.2.2.2
    rw [List.length_append, row_len, List.length_take] at hlen
    have hok : ∀ w ∈ (A ++ prow p (J.take n)).foldl addW [], w < 65536 := fun w hw => by
      rcases List.mem_append.mp (hP.1 w hw) with z | z
      · exact (hA1 w z).1
      · obtain ⟨q, q1, rfl⟩ := List.mem_map.mp z
        exact (okW_pw hp (qj q (List.mem_of_mem_take q1))).1
    obtain ⟨s1, e1, e2, e3⟩ := addProduct_spec hI.1 (by omega) (okW_pw hp hqn).1 hok
    refine Or.inl ⟨s1, ⟨?_, hI.2.trans e3⟩, ?_⟩
    · rw [prow_take hn, ← List.append_assoc, List.foldl_append]
      exact e2
    · simp only [mX11_multiply_22]
      rw [inb_nI hj (by decide), mj1.1, if_neg (nI_ge hn (by omega)), at_spec hk hi, hat1, obs, at_spec hj (by omega), mj1.2 n hn, obs, packed_spec hp hqn, obs, e1, obs, bnd_eq, nI_1]
  · intro f s hI
    have mj1 := mG_fr mj hI.2 (by decide) (by decide)
    rw [List.take_length] at hI
    simp only [mX11_multiply_22]
    rw [inb_nI hj (by decide), mj1.1, if_pos (nI_le (Nat.le_refl _) (by omega)), bnd_eq, nI_1]
    exact ⟨s, rfl, hI.1, hI.2⟩
theorem mult_all {S : St} {k j : Nat} {K J : List Nat} {x3 : Int32} (hk : k < 16) (hj : j < 16) (mk1 : mG S k K) (lk : K.length ≤ 40) (qk : ∀ q ∈ K, q < 2401) (mj : mG S j J) (lj : J.length ≤ 40) (qj : ∀ q ∈ J, q < 2401) : ∃ S1, mX11_multiply S (nI k) (nI j) x3 = ((mX11_clear S1).bind fun r2 => mX11_multiply_73 FU r2 x3 0) ∧ wL S1 ((prods K J).foldl addW []) ∧ Fr [7] [(0, 10)] S S1 := by
  unfold mX11_multiply
  refine loopG (σ := St) (N := K.length) (fun f i s => mX11_multiply_8 f s (nI k) (nI j) x3 (nI i)) (fun i s => wL s ((prods (K.take i) J).foldl addW []) ∧ Fr [7] [(0, 10)] S s) (fun r => ∃ S1, r = ((mX11_clear S1).bind fun r2 => mX11_multiply_73 FU r2 x3 0) ∧ wL S1 ((prods K J).foldl addW []) ∧ Fr [7] [(0, 10)] S S1) (by omega) ?_ ?_ (sI S 0 10 0) ⟨⟨by rw [gI_sI_same]; rfl, fun t ht => absurd ht (Nat.not_lt_zero t)⟩, (Fr.refl _ _ S).sI (by decide)⟩
  · intro i f s hi hI
    have mk2 := mG_fr mk1 hI.2 (by decide) (by decide)
    have mj2 := mG_fr mj hI.2 (by decide) (by decide)
    have hlen : (prods (K.take i) J).length + J.length ≤ 1600 := by
      rw [prods_len, List.length_take, ← Nat.succ_mul]
      have h1 : (min i K.length).succ ≤ 40 := by omega
      exact Nat.le_trans (Nat.mul_le_mul h1 lj) (by decide)
    obtain ⟨s1, e1, e2, e3⟩ := mult_row (i := i) (x3 := x3) (mX11_multiply_8 f) hk hj (by omega) (qk _ (getD_mem hi)) (mk2.2 i hi) mj2 lj qj (prods_ok (fun q hq => qk q (List.mem_of_mem_take hq)) qj) hlen hI.1
    refine Or.inl ⟨s1, ⟨by rw [prods_take hi]; exact e2, hI.2.trans e3⟩, ?_⟩
    simp only [mX11_multiply_8]
    rw [inb_nI hk (by decide), mk2.1, if_neg (nI_ge hi (by omega)), e1]
  · intro f s hI
    have mk2 := mG_fr mk1 hI.2 (by decide) (by decide)
    rw [List.take_length] at hI
    simp only [mX11_multiply_8]
    rw [inb_nI hk (by decide), mk2.1, if_pos (nI_le (Nat.le_refl _) (by omega))]
    exact ⟨s, rfl, hI.1, hI.2⟩
theorem mult_73 {S : St} {W : List Nat} {x3 : Int32} (hW : wL S W) (hl : W.length ≤ 1600) (hq : ∀ w ∈ W, w < 65536) : mX11_multiply_73 FU S x3 0 = (if W.any wH then some (-3, S) else if W.length ≤ 40 then mX11_multiply_119 FU S x3 0 else some (-4, S)) := by
  refine loopG (σ := Unit) (N := W.length) (fun f i _ => mX11_multiply_73 f S x3 (nI i)) (fun i _ => (W.take i).any wH = false) (fun r => r = (if W.any wH then some (-3, S) else if W.length ≤ 40 then mX11_multiply_119 FU S x3 0 else some (-4, S))) (by omega) ?_ ?_ () (by simp)
  · intro i f _ hi hI
    have ht := any_take (f := wH) hi
    rw [hI, Bool.false_or] at ht
    simp only [mX11_multiply_73, bnd_eq, nI_1]
    rw [hW.1, if_neg (nI_ge hi (by omega)), inb_nI (show i < 1600 by omega) (by decide), hW.2 i hi, isHigh_spec (hq _ (getD_mem hi)), obs]
    cases hd : wH (W.getD i 0) with
    | false => exact Or.inl ⟨(), by rw [ht, hd], if_pos (by decide)⟩
    | true =>
      refine Or.inr ?_
      rw [if_neg (by decide), if_pos (List.any_eq_true.mpr ⟨_, getD_mem hi, hd⟩)]
  · intro f _ hI
    rw [List.take_length] at hI
    simp only [mX11_multiply_73]
    rw [hW.1, if_pos (nI_le (Nat.le_refl _) (by omega)), if_neg (show ¬ W.any wH = true by rw [hI]; decide)]
    by_cases h : W.length ≤ 40
    · rw [if_pos h, if_pos (show nI W.length ≤ 40 from nI_le (b := 40) h (by decide))]
    · rw [if_neg h, if_neg (show ¬ nI W.length ≤ 40 from nI_ge (a := 40) (by omega) (by omega))]
theorem wcode {w : Nat} (h : okW w) (hl : wH w = false) : ((nI w >>> ((12 : Int32) &&& 31)) * 1000 + ((nI w >>> ((8 : Int32) &&& 31)) &&& 15) * 100) + ((nI w >>> ((4 : Int32) &&& 31)) &&& 15) * 10 + (nI w &&& 15) = nI (decN (wcap w)) := by
  have hw := h.1
  have e1 : nI w &&& 15 = nI (hd 0 w) := by
    rw [pk_andN (by omega) 4 (by decide)]
    unfold hd
    show nI (w % 16) = nI (w / 1 % 16)
    rw [Nat.div_one]
  have e2 : (nI w >>> ((4 : Int32) &&& 31)) &&& 15 = nI (hd 1 w) := hd_spec (v := 1) (by omega) (by decide)
  have e3 : (nI w >>> ((8 : Int32) &&& 31)) &&& 15 = nI (hd 2 w) := hd_spec (v := 2) (by omega) (by decide)
  have e4 : nI w >>> ((12 : Int32) &&& 31) = nI (hd 3 w) := by
    rw [pk_shrN (by omega) _ 12 (by decide)]
    unfold hd
    show nI (w / 4096) = nI (w / 4096 % 16)
    rw [Nat.mod_eq_of_lt (by omega)]
  obtain ⟨l0, l1, l2, l3⟩ := wH_false.mp hl
  rw [e1, e2, e3, e4]
  unfold wcap
  rw [mk4_dec (by omega) (by omega) (by omega), Nat.min_eq_right l0, Nat.min_eq_right l1, Nat.min_eq_right l2, Nat.min_eq_right l3, show (1000 : Int32) = nI 1000 from rfl, show (100 : Int32) = nI 100 from rfl, show (10 : Int32) = nI 10 from rfl, nI_mul, nI_mul, nI_mul, nI_add, nI_add, nI_add]
  exact congrArg nI (by omega)
theorem mult_119 {S : St} {W : List Nat} {x3 : Int32} (hW : wL S W) (hl : W.length ≤ 40) (hq : ∀ w ∈ W, okW w ∧ wH w = false) (h0 : mk S 4 (fun _ => false)) : ∃ S1, mX11_multiply_119 FU S x3 0 = ((mX11_keep S1 x3).bind fun r1 => some (r1.1, r1.2)) ∧ mk S1 4 (up (W.map wcap)) ∧ Fr [4] [] S S1 := by
  refine loopG (σ := St) (N := W.length) (fun f i s => mX11_multiply_119 f s x3 (nI i)) (fun i s => mk s 4 (up ((W.take i).map wcap)) ∧ Fr [4] [] S s) (fun r => ∃ S1, r = ((mX11_keep S1 x3).bind fun r1 => some (r1.1, r1.2)) ∧ mk S1 4 (up (W.map wcap)) ∧ Fr [4] [] S S1) (by omega) ?_ ?_ S ⟨h0, Fr.refl _ _ S⟩
  · intro i f s hi hI
    have e1 : gI s 0 10 = nI W.length := (hI.2.2 0 10 (by decide)).trans hW.1
    have e2 : gA s 7 i = nI (W.getD i 0) := by
      rw [hI.2.1 7 (by decide)]
      exact hW.2 i hi
    obtain ⟨q1, q2⟩ := hq _ (getD_mem hi)
    obtain ⟨s1, b1, b2, b3⟩ := mark_spec (wcap_lt (W.getD i 0)) hI.1
    refine Or.inl ⟨s1, ⟨mk_congr b2 (fun p _ => ?_), hI.2.trans b3⟩, ?_⟩
    · rw [take_succ' hi, List.map_append]
      unfold up
      rw [List.any_append]
      simp
    · simp only [mX11_multiply_119]
      rw [e1, if_neg (nI_ge hi (by omega)), inb_nI (show i < 1600 by omega) (by decide), inb_nI (show i < 1600 by omega) (by decide), inb_nI (show i < 1600 by omega) (by decide), inb_nI (show i < 1600 by omega) (by decide), e2, wcode q1 q2, b1, obs, bnd_eq, nI_1]
  · intro f s hI
    have e1 : gI s 0 10 = nI W.length := (hI.2.2 0 10 (by decide)).trans hW.1
    rw [List.take_length] at hI
    simp only [mX11_multiply_119]
    rw [e1, if_pos (nI_le (Nat.le_refl _) (by omega))]
    exact ⟨s, rfl, hI.1, hI.2⟩
/-! the class's double loops -/
def lowL (A : List Nat) : List Nat := (A.filter (fun w => !wH w)).map wcap
theorem lowL_append (A B : List Nat) : lowL (A ++ B) = lowL A ++ lowL B := by
  unfold lowL
  rw [List.filter_append, List.map_append]
theorem lwL_append (H : Nat → Nat) (A B : List Nat) : lwL H (A ++ B) = lwL (lwL H A) B := by
  unfold lwL
  rw [List.foldl_append]
theorem fit_row {S : St} {m m1 p i : Nat} {J A : List Nat} {H : Nat → Nat} (k9 : St → Int32 → Option (Int32 × St)) (hm : 60 < m) (hm1 : 60 < m1) (hi : i < 40) (hp : p < 2401) (hat : gA S (m + 1) i = nI (hexN p)) (cj : cG S m1 J) (lj : J.length ≤ 40) (qj : ∀ q ∈ J, q < 2401) (hW : hA S 56 (lwL H (lowL A))) : ∃ S1, mX9_productFits_20 m m1 k9 FU S (nI i) 0 = k9 S1 (nI (i + 1)) ∧ hA S1 56 (lwL H (lowL (A ++ prow p J))) ∧ Fr [56] [] S S1 := by
  refine loopG (σ := St) (N := J.length) (fun f n s => mX9_productFits_20 m m1 k9 f s (nI i) (nI n)) (fun n s => hA s 56 (lwL H (lowL (A ++ prow p (J.take n)))) ∧ Fr [56] [] S s) (fun r => ∃ S1, r = k9 S1 (nI (i + 1)) ∧ hA S1 56 (lwL H (lowL (A ++ prow p J))) ∧ Fr [56] [] S S1) (by omega) ?_ ?_ S ⟨by rw [show A ++ prow p (J.take 0) = A from List.append_nil A]; exact hW, Fr.refl _ _ S⟩
  · intro n f s hn hI
    have cj1 := cG_fr cj hI.2 (by simp; omega) (by simp)
    have hat1 : gA s (m + 1) i = nI (hexN p) := by
      rw [hI.2.1 (m + 1) (by simp; omega)]
      exact hat
    have hqn := qj _ (getD_mem hn)
    have hok := okW_pw hp hqn
    refine Or.inl ?_
    simp only [mX9_productFits_20, mX9_productFits_62]
    rw [cj1.1, if_neg (nI_ge hn (by omega)), inb_nI hi (by decide), inb_nI (show n < 40 by omega) (by decide), bnd_eq, hat1, cj1.2 n hn, nI_add, isTooHigh_spec hok, obs]
    rw [prow_take hn, ← List.append_assoc, lowL_append, lwL_append]
    cases hh : wH (hexN p + hexN (J.getD n 0)) with
    | true =>
      refine ⟨s, ⟨?_, hI.2⟩, ?_⟩
      · rw [show lowL [hexN p + hexN (J.getD n 0)] = [] by unfold lowL; rw [List.filter_cons, hh]; rfl]
        exact hI.1
      · rw [if_neg (by decide), bnd_eq, nI_1]
    | false =>
      obtain ⟨s1, e1, e2, e3⟩ := lower_hA (n := 55) (wcap_lt (hexN p + hexN (J.getD n 0))) hI.1
      refine ⟨s1, ⟨?_, hI.2.trans e3⟩, ?_⟩
      · rw [show lowL [hexN p + hexN (J.getD n 0)] = [wcap (hexN p + hexN (J.getD n 0))] by unfold lowL; rw [List.filter_cons, hh]; rfl]
        exact e2
      · rw [if_pos (by decide), show mX6_lower s 55 (nI (hexN p + hexN (J.getD n 0))) = some s1 by rw [low_hex hok hh]; exact e1, obs, bnd_eq, nI_1]
  · intro f s hI
    have cj1 := cG_fr cj hI.2 (by simp; omega) (by simp)
    rw [List.take_length] at hI
    simp only [mX9_productFits_20]
    rw [cj1.1, if_pos (nI_le (Nat.le_refl _) (by omega)), bnd_eq, nI_1]
    exact ⟨s, rfl, hI.1, hI.2⟩
def fitB (B : Nat → Bool) (A : List Nat) : Bool := A.all (fun w => !wH w || B (wcap w))
theorem fit_row2 {S : St} {m m1 p i : Nat} {J : List Nat} {B : Nat → Bool} (k83 : St → Int32 → Option (Int32 × St)) (hi : i < 40) (hp : p < 2401) (hat : gA S (m + 1) i = nI (hexN p)) (cj : cG S m1 J) (lj : J.length ≤ 40) (qj : ∀ q ∈ J, q < 2401) (hB : hS S 56 B) : mX9_productFits_94 m m1 k83 FU S (nI i) 0 = (if fitB B (prow p J) then k83 S (nI (i + 1)) else some (0, S)) := by
  refine loopG (σ := Unit) (N := J.length) (fun f n _ => mX9_productFits_94 m m1 k83 f S (nI i) (nI n)) (fun n _ => fitB B (prow p (J.take n)) = true) (fun r => r = (if fitB B (prow p J) then k83 S (nI (i + 1)) else some (0, S))) (by omega) ?_ ?_ () rfl
  · intro n f _ hn hI
    have hqn := qj _ (getD_mem hn)
    have hok := okW_pw hp hqn
    have hbad : (!wH (hexN p + hexN (J.getD n 0)) || B (wcap (hexN p + hexN (J.getD n 0)))) = false → fitB B (prow p J) = false := fun z => by
      unfold fitB
      rw [List.all_eq_false]
      exact ⟨_, List.mem_map.mpr ⟨_, getD_mem hn, rfl⟩, by rw [z]; decide⟩
    have hgood : (!wH (hexN p + hexN (J.getD n 0)) || B (wcap (hexN p + hexN (J.getD n 0)))) = true → fitB B (prow p (J.take (n + 1))) = true := fun z => by
      rw [prow_take hn]
      unfold fitB at hI ⊢
      rw [List.all_append, hI, Bool.true_and]
      simp only [List.all_cons, List.all_nil, Bool.and_true]
      exact z
    simp only [mX9_productFits_94, mX9_productFits_141]
    rw [cj.1, if_neg (nI_ge hn (by omega)), inb_nI hi (by decide), inb_nI (show n < 40 by omega) (by decide), bnd_eq, hat, cj.2 n hn, nI_add, isTooHigh_spec hok, obs, contains_w hok hB, obs, bnd_eq, nI_1]
    cases hh : wH (hexN p + hexN (J.getD n 0)) with
    | false => exact Or.inl ⟨(), hgood (by rw [hh]; rfl), if_pos (by decide)⟩
    | true =>
      cases hb : B (wcap (hexN p + hexN (J.getD n 0))) with
      | true => exact Or.inl ⟨(), hgood (by rw [hb, Bool.or_true]), (if_neg (by decide)).trans (if_neg (by decide))⟩
      | false =>
        refine Or.inr ?_
        rw [hbad (by rw [hh, hb]; rfl), if_neg (by decide), if_pos (by decide), if_neg (by decide)]
  · intro f _ hI
    rw [List.take_length] at hI
    simp only [mX9_productFits_94]
    rw [cj.1, if_pos (nI_le (Nat.le_refl _) (by omega)), bnd_eq, nI_1, if_pos hI]
theorem fit_all2 {S : St} {m m1 : Nat} {K J : List Nat} {B : Nat → Bool} (ck : cG S m K) (lk : K.length ≤ 40) (qk : ∀ q ∈ K, q < 2401) (cj : cG S m1 J) (lj : J.length ≤ 40) (qj : ∀ q ∈ J, q < 2401) (hB : hS S 56 B) : mX9_productFits_83 m m1 FU S 0 = some (b2 (fitB B (prods K J)), S) := by
  refine loopG (σ := Unit) (N := K.length) (fun f i _ => mX9_productFits_83 m m1 f S (nI i)) (fun i _ => fitB B (prods (K.take i) J) = true) (fun r => r = some (b2 (fitB B (prods K J)), S)) (by omega) ?_ ?_ () rfl
  · intro i f _ hi hI
    simp only [mX9_productFits_83]
    rw [ck.1, if_neg (nI_ge hi (by omega)), fit_row2 (mX9_productFits_83 m m1 f) (by omega) (qk _ (getD_mem hi)) (ck.2 i hi) cj lj qj hB]
    cases hr : fitB B (prow (K.getD i 0) J) with
    | true =>
      refine Or.inl ⟨(), ?_, if_pos rfl⟩
      rw [prods_take hi]
      unfold fitB at hI hr ⊢
      rw [List.all_append, hI, hr]
      rfl
    | false =>
      refine Or.inr ?_
      have : fitB B (prods K J) = false := by
        unfold fitB at hr ⊢
        rw [List.all_eq_false] at hr ⊢
        obtain ⟨w, w1, w2⟩ := hr
        exact ⟨w, List.mem_flatMap.mpr ⟨_, getD_mem hi, w1⟩, w2⟩
      rw [if_neg (by decide), this]
      rfl
  · intro f _ hI
    rw [List.take_length] at hI
    simp only [mX9_productFits_83]
    rw [ck.1, if_pos (nI_le (Nat.le_refl _) (by omega)), hI]
    rfl
theorem fits_spec {S : St} {m m1 : Nat} {K J : List Nat} (hm : 60 < m) (hm1 : 60 < m1) (ck : cG S m K) (lk : K.length ≤ 40) (qk : ∀ q ∈ K, q < 2401) (cj : cG S m1 J) (lj : J.length ≤ 40) (qj : ∀ q ∈ J, q < 2401) : ∃ S1, mX9_productFits S m m1 = some (b2 (fitB (up (lowL (prods K J))) (prods K J)), S1) ∧ hS S1 56 (up (lowL (prods K J))) ∧ Fr [56] [] S S1 := by
  obtain ⟨S0, a1, a2, a3⟩ := nothing_spec (S := S) (n := 55) (Or.inl rfl)
  unfold mX9_productFits
  rw [a1, obs]
  have hL : ∀ q ∈ lowL (prods K J), q < 2401 := fun q hq => by
    obtain ⟨w, -, rfl⟩ := List.mem_map.mp hq
    exact wcap_lt w
  refine loopG (σ := St) (N := K.length) (fun f i s => mX9_productFits_9 m m1 f s (nI i)) (fun i s => hA s 56 (lwL (fun _ => 7) (lowL (prods (K.take i) J))) ∧ Fr [56] [] S s) (fun r => ∃ S1, r = some (b2 (fitB (up (lowL (prods K J))) (prods K J)), S1) ∧ hS S1 56 (up (lowL (prods K J))) ∧ Fr [56] [] S S1) (by omega) ?_ ?_ S0 ⟨a2, a3⟩
  · intro i f s hi hI
    have ck1 := cG_fr ck hI.2 (by simp; omega) (by simp)
    have cj1 := cG_fr cj hI.2 (by simp; omega) (by simp)
    obtain ⟨s1, e1, e2, e3⟩ := fit_row (i := i) (mX9_productFits_9 m m1 f) hm hm1 (by omega) (qk _ (getD_mem hi)) (ck1.2 i hi) cj1 lj qj hI.1
    refine Or.inl ⟨s1, ⟨by rw [prods_take hi]; exact e2, hI.2.trans e3⟩, ?_⟩
    simp only [mX9_productFits_9]
    rw [ck1.1, if_neg (nI_ge hi (by omega)), e1]
  · intro f s hI
    have ck1 := cG_fr ck hI.2 (by simp; omega) (by simp)
    rw [List.take_length] at hI
    obtain ⟨s1, c1, c2, c3⟩ := low_spread (n := 55) hL hI.1
    have c4 := hI.2.trans c3
    simp only [mX9_productFits_9]
    rw [ck1.1, if_pos (nI_le (Nat.le_refl _) (by omega)), c1, obs, fit_all2 (cG_fr ck c4 (by simp; omega) (by simp)) lk qk (cG_fr cj c4 (by simp; omega) (by simp)) lj qj c2]
    exact ⟨s1, rfl, c2, c4⟩
