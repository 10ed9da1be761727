/-! PURE PART: the reference's lists beside the class's -/
def les (v p : Nat) : Nat := if hv v p then p - sevN v else p
def tm (v : Nat) (M : List Nat) (a : Nat) : Bool := (List.range M.length).any (fun b => !decide (b = a) && (dv (les v (M.getD b 0)) (les v (M.getD a 0)) && (!decide (les v (M.getD b 0) = les v (M.getD a 0)) || decide (b < a))))
def qL (v : Nat) (M : List Nat) : List Nat := ((List.range M.length).filter (fun a => !tm v M a)).map (fun a => les v (M.getD a 0))
def Rel (V L M : List Nat) : Prop := M.Perm (V.map sevN ++ L) ∧ (∀ v ∈ V, v < 4 ∧ ∀ p ∈ L, ex v p = 0) ∧ V.Nodup
theorem cv_append (v : Nat) (A B : List Nat) : cv v (A ++ B) = cv v A + cv v B := by
  unfold cv
  rw [List.filter_append, List.length_append]
theorem cv_vars {v : Nat} (hv1 : v < 4) : ∀ V : List Nat, (∀ u ∈ V, u < 4) → V.Nodup → cv v (V.map sevN) = if v ∈ V then 1 else 0 := by
  intro V
  induction V with
  | nil => intro _ _; rfl
  | cons u V ih =>
    intro h hn
    obtain ⟨n1, n2⟩ := List.nodup_cons.mp hn
    have hu := h u (by simp)
    have := ih (fun x hx => h x (by simp [hx])) n2
    show (((sevN u) :: V.map sevN).filter (hv v)).length = _
    rw [List.filter_cons]
    by_cases he : v = u
    · subst he
      rw [if_pos (hv_iff.mpr (by rw [ex_sev hv1 hv1, if_pos rfl]; exact Nat.le_refl 1)), if_pos (by simp), List.length_cons]
      have e : ((V.map sevN).filter (hv v)).length = if v ∈ V then 1 else 0 := this
      rw [e, if_neg n1]
    · rw [if_neg (by rw [hv_false.mpr (by rw [ex_sev hu hv1, if_neg he])]; decide)]
      have e : ((V.map sevN).filter (hv v)).length = if v ∈ V then 1 else 0 := this
      rw [e]
      by_cases hm : v ∈ V
      · rw [if_pos hm, if_pos (by simp [hm])]
      · rw [if_neg hm, if_neg (by simp [he, hm])]
theorem rel_cv {V L M : List Nat} (h : Rel V L M) : ∀ v, v < 4 → (v ∉ V ∧ cv v M = cv v L) ∨ (v ∈ V ∧ cv v M = 1 ∧ cv v L = 0) := by
  obtain ⟨h1, h2, h3⟩ := h
  intro v hv1
  have e : cv v M = cv v (V.map sevN) + cv v L := by
    rw [← cv_append]
    exact (h1.filter (hv v)).length_eq
  rw [cv_vars hv1 V (fun u hu => (h2 u hu).1) h3] at e
  by_cases hm : v ∈ V
  · rw [if_pos hm] at e
    have : cv v L = 0 := by
      unfold cv
      rw [show L.filter (hv v) = [] by
        rw [List.filter_eq_nil_iff]
        intro p hp hh
        have := (h2 v hm).2 p hp
        have := hv_iff.mp hh
        omega]
      rfl
    exact Or.inr ⟨hm, by omega, this⟩
  · rw [if_neg hm] at e
    exact Or.inl ⟨hm, by omega⟩
theorem rel_sum {V L M : List Nat} {v : Nat} (hv1 : v < 4) (h : Rel V L M) (hn : v ∉ V) : Rel (v :: V) (wo v L) (sevN v :: wo v M) := by
  obtain ⟨h1, h2, h3⟩ := h
  refine ⟨?_, fun u hu => ?_, List.nodup_cons.mpr ⟨hn, h3⟩⟩
  · show (sevN v :: wo v M).Perm (sevN v :: (V.map sevN ++ wo v L))
    refine List.Perm.cons _ ?_
    have := h1.filter (fun p => !hv v p)
    rw [List.filter_append] at this
    have e : (V.map sevN).filter (fun p => !hv v p) = V.map sevN := by
      rw [List.filter_eq_self]
      intro x hx
      obtain ⟨u, u1, rfl⟩ := List.mem_map.mp hx
      have hne : v ≠ u := fun z => hn (by rw [z]; exact u1)
      rw [hv_false.mpr (by rw [ex_sev (h2 u u1).1 hv1, if_neg hne])]
      rfl
    rw [e] at this
    exact this
  · rcases List.mem_cons.mp hu with e | e
    · subst e
      refine ⟨hv1, fun p hp => ?_⟩
      have := (List.mem_filter.mp hp).2
      exact hv_false.mp (by simpa using this)
    · exact ⟨(h2 u e).1, fun p hp => (h2 u e).2 p (List.mem_filter.mp hp).1⟩
theorem zero_not {L : List Nat} {v : Nat} (hok : okL L) (h : 1 ≤ cv v L) : 0 ∉ L := fun hz => by
  obtain ⟨h1, h2, h3, h4⟩ := hok
  have : L.filter (hv v) = [] := by
    rw [List.filter_eq_nil_iff]
    intro p hp hh
    have e := h3 0 hz p hp (dv_ex.mpr (fun u hu => by
      have : ex u 0 = 0 := by
        rcases (show u = 0 ∨ u = 1 ∨ u = 2 ∨ u = 3 by omega) with rfl | rfl | rfl | rfl <;> rfl
      omega))
    subst e
    have := hv_iff.mp hh
    have : ex v 0 = 0 := by
      match v with
      | 0 => rfl
      | 1 => rfl
      | 2 => rfl
      | v + 3 => rfl
    omega
  unfold cv at h
  rw [this] at h
  exact absurd h (by decide)
theorem rel_ok {V L M : List Nat} (h : Rel V L M) (hok : okL L) (hz : 0 ∉ L) : (∀ p ∈ M, p < 2401) ∧ M.Nodup ∧ ∀ p ∈ M, ∀ q ∈ M, dv p q = true → p = q := by
  obtain ⟨h1, h2, h3⟩ := h
  obtain ⟨k1, k2, k3, k4⟩ := hok
  have cases2 : ∀ p ∈ M, (∃ u ∈ V, p = sevN u) ∨ p ∈ L := fun p hp => by
    rcases List.mem_append.mp (h1.mem_iff.mp hp) with z | z
    · obtain ⟨u, u1, u2⟩ := List.mem_map.mp z
      exact Or.inl ⟨u, u1, u2.symm⟩
    · exact Or.inr z
  have sevlt : ∀ u, u < 4 → sevN u < 2401 := by decide
  have selfne : ∀ u ∈ V, ∀ p ∈ L, sevN u ≠ p := fun u hu p hp e => by
    have := (h2 u hu).2 p hp
    rw [← e, ex_sev (h2 u hu).1 (h2 u hu).1, if_pos rfl] at this
    cases this
  refine ⟨fun p hp => ?_, ?_, fun p hp q hq hd => ?_⟩
  · rcases cases2 p hp with ⟨u, u1, rfl⟩ | z
    · exact sevlt u (h2 u u1).1
    · exact k1 p z
  · rw [h1.nodup_iff]
    unfold List.Nodup
    rw [List.pairwise_append]
    refine ⟨?_, k2, fun a ha b hb => ?_⟩
    · rw [List.pairwise_map]
      refine h3.imp_of_mem (fun {a b} ha hb hne e => hne ?_)
      have e2 := ex_sev (h2 a ha).1 (h2 a ha).1
      rw [if_pos rfl, e, ex_sev (h2 b hb).1 (h2 a ha).1] at e2
      by_cases hab : a = b
      · exact hab
      · rw [if_neg hab] at e2
        cases e2
    · obtain ⟨u, u1, rfl⟩ := List.mem_map.mp ha
      exact selfne u u1 b hb
  · rcases cases2 p hp with ⟨u, u1, rfl⟩ | z
    · have hu := ex_dv hd u
      rw [ex_sev (h2 u u1).1 (h2 u u1).1, if_pos rfl] at hu
      rcases cases2 q hq with ⟨w, w1, rfl⟩ | y
      · rw [ex_sev (h2 w w1).1 (h2 u u1).1] at hu
        by_cases huw : u = w
        · rw [huw]
        · rw [if_neg huw] at hu
          omega
      · have := (h2 u u1).2 q y
        omega
    · rcases cases2 q hq with ⟨w, w1, rfl⟩ | y
      · -- below a variable there is only the unit
        exfalso
        have hw := (h2 w w1).2 p z
        refine hz ?_
        have : p = 0 := ex_ext (k1 p z) (by decide) (fun u hu => by
          have hle := ex_dv hd u
          rw [ex_sev (h2 w w1).1 hu] at hle
          have e0 : ex u 0 = 0 := by
            rcases (show u = 0 ∨ u = 1 ∨ u = 2 ∨ u = 3 by omega) with rfl | rfl | rfl | rfl <;> rfl
          by_cases huw : u = w
          · subst huw
            omega
          · rw [if_neg huw] at hle
            omega)
        rw [← this]
        exact z
      · exact k3 p z q y hd
theorem nodup_idx {M : List Nat} (h : M.Nodup) {a b : Nat} (ha : a < M.length) (hb : b < M.length) (e : M.getD a 0 = M.getD b 0) : a = b := by
  rw [List.getD_eq_getElem?_getD, List.getElem?_eq_getElem ha, List.getD_eq_getElem?_getD, List.getElem?_eq_getElem hb] at e
  have e : M[a] = M[b] := e
  rcases Nat.lt_trichotomy a b with z | z | z
  · exact absurd e (List.pairwise_iff_getElem.mp h a b ha hb z)
  · exact z
  · exact absurd e.symm (List.pairwise_iff_getElem.mp h b a hb ha z)
theorem mem_idx {M : List Nat} {p : Nat} (h : p ∈ M) : ∃ b, b < M.length ∧ M.getD b 0 = p := by
  obtain ⟨b, b1, b2⟩ := List.getElem_of_mem h
  exact ⟨b, b1, by rw [List.getD_eq_getElem?_getD, List.getElem?_eq_getElem b1]; exact b2⟩
theorem tm_eq {M : List Nat} {v a : Nat} (hv1 : v < 4) (h1 : ∀ p ∈ M, p < 2401) (h2 : M.Nodup) (h3 : ∀ p ∈ M, ∀ q ∈ M, dv p q = true → p = q) (ha : a < M.length) : tm v M a = (!hv v (M.getD a 0) && (dA v M).any (fun x => dv x (M.getD a 0))) := by
  have hpa := getD_mem ha
  have hp := h1 _ hpa
  rw [Bool.eq_iff_iff]
  unfold tm
  rw [List.any_eq_true, Bool.and_eq_true, List.any_eq_true]
  constructor
  · rintro ⟨b, b1, b2⟩
    have b1 := List.mem_range.mp b1
    rw [Bool.and_eq_true, Bool.and_eq_true] at b2
    obtain ⟨c1, c2, -⟩ := b2
    have hne : b ≠ a := by simpa using c1
    have hqb := getD_mem b1
    have hq := h1 _ hqb
    have hneq : M.getD b 0 ≠ M.getD a 0 := fun e => hne (nodup_idx h2 b1 ha e)
    unfold les at c2
    cases hb : hv v (M.getD b 0) with
    | true =>
      rw [hb, if_pos rfl] at c2
      cases hav : hv v (M.getD a 0) with
      | true =>
        rw [hav, if_pos rfl, down_dv hv1 hq hp (hv_iff.mp hb) (hv_iff.mp hav)] at c2
        exact absurd (h3 _ hqb _ hpa c2) hneq
      | false =>
        rw [hav, if_neg (by decide)] at c2
        exact ⟨rfl, M.getD b 0 - sevN v, List.mem_map.mpr ⟨_, List.mem_filter.mpr ⟨hqb, hb⟩, rfl⟩, c2⟩
    | false =>
      rw [hb, if_neg (by decide)] at c2
      cases hav : hv v (M.getD a 0) with
      | true =>
        rw [hav, if_pos rfl] at c2
        exact absurd (h3 _ hqb _ hpa (dv_trans c2 (dv_down hv1 hp (hv_iff.mp hav)).1)) hneq
      | false =>
        rw [hav, if_neg (by decide)] at c2
        exact absurd (h3 _ hqb _ hpa c2) hneq
  · rintro ⟨c1, x, x1, x2⟩
    have hav : hv v (M.getD a 0) = false := by simpa using c1
    obtain ⟨q, q1, rfl⟩ := List.mem_map.mp x1
    obtain ⟨q2, q3⟩ := List.mem_filter.mp q1
    obtain ⟨b, b1, rfl⟩ := mem_idx q2
    have hq := h1 _ q2
    have hne : b ≠ a := fun e => by
      rw [e, hav] at q3
      cases q3
    refine ⟨b, List.mem_range.mpr b1, ?_⟩
    have e1 : les v (M.getD b 0) = M.getD b 0 - sevN v := by unfold les; rw [if_pos q3]
    have e2 : les v (M.getD a 0) = M.getD a 0 := by unfold les; rw [if_neg (by rw [hav]; decide)]
    have hdif : M.getD b 0 - sevN v ≠ M.getD a 0 := fun e => by
      have hd := (dv_down hv1 hq (hv_iff.mp q3)).1
      rw [e] at hd
      have := h3 _ hpa _ q2 hd
      exact hne (nodup_idx h2 b1 ha this.symm)
    rw [e1, e2, x2, decide_eq_false hne, decide_eq_false hdif]
    rfl
theorem idx_filter {M : List Nat} {f : Nat → Bool} {h : Nat → Nat} : ((List.range M.length).filter (fun a => f (M.getD a 0))).map (fun a => h (M.getD a 0)) = (M.filter f).map h := by
  have key : ∀ i, i ≤ M.length → ((List.range i).filter (fun a => f (M.getD a 0))).map (fun a => h (M.getD a 0)) = ((M.take i).filter f).map h := by
    intro i
    induction i with
    | zero => intro _; rfl
    | succ i ih =>
      intro hi
      rw [filter_succ, filter_take hi, List.map_append, List.map_append, ih (by omega)]
      cases f (M.getD i 0) <;> rfl
  have := key M.length (Nat.le_refl _)
  rw [List.take_length] at this
  exact this
theorem qL_eq {M : List Nat} {v : Nat} (hv1 : v < 4) (h1 : ∀ p ∈ M, p < 2401) (h2 : M.Nodup) (h3 : ∀ p ∈ M, ∀ q ∈ M, dv p q = true → p = q) : (qL v M).Perm (dA v M ++ dB v M (dA v M)) := by
  have e : qL v M = (M.filter (fun p => !(!hv v p && (dA v M).any (fun x => dv x p)))).map (les v) := by
    unfold qL
    rw [← idx_filter (M := M) (f := fun p => !(!hv v p && (dA v M).any (fun x => dv x p))) (h := les v)]
    congr 1
    refine List.filter_congr (fun a ha => ?_)
    rw [tm_eq hv1 h1 h2 h3 (List.mem_range.mp ha)]
  rw [e]
  have hp := (List.filter_append_perm (hv v) (M.filter (fun p => !(!hv v p && (dA v M).any (fun x => dv x p))))).symm.map (les v)
  rw [List.map_append] at hp
  refine hp.trans (List.Perm.of_eq ?_)
  congr 1
  · rw [List.filter_filter]
    unfold dA
    rw [show M.filter (fun a => hv v a && !(!hv v a && ((M.filter (hv v)).map (fun p => p - sevN v)).any (fun x => dv x a))) = M.filter (hv v) from List.filter_congr (fun p _ => by cases hv v p <;> rfl)]
    refine List.map_congr_left (fun p hp => ?_)
    unfold les
    rw [if_pos (List.mem_filter.mp hp).2]
  · rw [List.filter_filter]
    unfold dB
    rw [show M.filter (fun a => (!hv v a) && !(!hv v a && (dA v M).any (fun x => dv x a))) = M.filter (fun p => !hv v p && !(dA v M).any (fun a => dv a p)) from List.filter_congr (fun p _ => by cases hv v p <;> rfl)]
    rw [List.map_congr_left (g := id) (fun p hp => ?_), List.map_id]
    have := (List.mem_filter.mp hp).2
    rw [Bool.and_eq_true] at this
    have hf : hv v p = false := by simpa using this.1
    unfold les
    rw [if_neg (by rw [hf]; decide)]
    rfl
theorem rel_quot {V L M : List Nat} {v : Nat} (hv1 : v < 4) (h : Rel V L M) (hok : okL L) (hn : v ∉ V) (h2c : 2 ≤ cv v L) : Rel V (dvd v L) (qL v M) := by
  have hz := zero_not hok (show 1 ≤ cv v L by omega)
  obtain ⟨m1, m2, m3⟩ := rel_ok h hok hz
  have hq := qL_eq hv1 m1 m2 m3
  obtain ⟨h1, h2, h3⟩ := h
  have fE : (V.map sevN).filter (hv v) = [] := by
    rw [List.filter_eq_nil_iff]
    intro x hx
    obtain ⟨u, u1, rfl⟩ := List.mem_map.mp hx
    have hne : v ≠ u := fun z => hn (by rw [z]; exact u1)
    rw [hv_false.mpr (by rw [ex_sev (h2 u u1).1 hv1, if_neg hne])]
    decide
  have pA : (dA v M).Perm (dA v L) := by
    have := (h1.filter (hv v)).map (fun p => p - sevN v)
    rw [List.filter_append, fE, List.nil_append] at this
    exact this
  have anyEq : ∀ f : Nat → Bool, (dA v M).any f = (dA v L).any f := fun f => by
    rw [Bool.eq_iff_iff, List.any_eq_true, List.any_eq_true]
    exact ⟨fun ⟨x, x1, x2⟩ => ⟨x, pA.mem_iff.mp x1, x2⟩, fun ⟨x, x1, x2⟩ => ⟨x, pA.mem_iff.mpr x1, x2⟩⟩
  have keepE : (V.map sevN).filter (fun p => !hv v p && !(dA v L).any (fun a => dv a p)) = V.map sevN := by
    rw [List.filter_eq_self]
    intro x hx
    obtain ⟨u, u1, rfl⟩ := List.mem_map.mp hx
    have hne : v ≠ u := fun z => hn (by rw [z]; exact u1)
    have hu4 := (h2 u u1).1
    rw [hv_false.mpr (by rw [ex_sev hu4 hv1, if_neg hne])]
    cases hany : (dA v L).any (fun a => dv a (sevN u)) with
    | false => rfl
    | true =>
      exfalso
      obtain ⟨x, x1, x2⟩ := List.any_eq_true.mp hany
      obtain ⟨q, q1, rfl⟩ := List.mem_map.mp x1
      obtain ⟨q2, q3⟩ := List.mem_filter.mp q1
      have hq1 := hok.1 q q2
      -- q is the variable v itself, so no other one has v
      have hqv : q = sevN v := ex_ext hq1 (by have : ∀ w, w < 4 → sevN w < 2401 := by decide
                                              exact this v hv1) (fun w hw => by
        have hle := ex_dv x2 w
        rw [ex_down hv1 hq1 (hv_iff.mp q3) hw, ex_sev hu4 hw] at hle
        rw [ex_sev hv1 hw]
        have hqu := (h2 u u1).2 q q2
        have := hv_iff.mp q3
        by_cases hwv : w = v
        · subst hwv
          rw [if_pos rfl]
          rw [if_pos rfl, if_neg hne] at hle
          omega
        · rw [if_neg hwv]
          rw [if_neg hwv] at hle
          by_cases hwu : w = u
          · subst hwu
            exact hqu
          · rw [if_neg hwu] at hle
            omega)
      have one : ∀ p ∈ L.filter (hv v), p = q := fun p hp => by
        obtain ⟨p1, p2⟩ := List.mem_filter.mp hp
        have := hok.2.2.1 q q2 p p1 (by rw [hqv]; exact sev_dv hv1 (hv_iff.mp p2))
        exact this.symm
      have hnd : (L.filter (hv v)).Nodup := List.Pairwise.filter _ hok.2.1
      unfold cv at h2c
      match hfl : L.filter (hv v), h2c with
      | x :: y :: rest, _ =>
        rw [hfl] at one hnd
        have ex1 := one x (by simp)
        have ey1 := one y (by simp)
        have := (List.nodup_cons.mp hnd).1
        exact this (by rw [ex1, ey1]; simp)
  refine ⟨?_, fun u hu => ⟨(h2 u hu).1, fun p hp => ?_⟩, h3⟩
  · have pB : (dB v M (dA v M)).Perm (V.map sevN ++ dB v L (dA v L)) := by
      unfold dB
      rw [show (fun p => !hv v p && !(dA v M).any (fun a => dv a p)) = (fun p => !hv v p && !(dA v L).any (fun a => dv a p)) from funext (fun p => by rw [anyEq])]
      have := h1.filter (fun p => !hv v p && !(dA v L).any (fun a => dv a p))
      rw [List.filter_append, keepE] at this
      exact this
    refine hq.trans ((pA.append pB).trans ?_)
    unfold dvd
    rw [← List.append_assoc, ← List.append_assoc]
    exact List.perm_append_comm.append_right _
  · rcases List.mem_append.mp hp with z | z
    · obtain ⟨q, q1, rfl⟩ := List.mem_map.mp z
      obtain ⟨q2, q3⟩ := List.mem_filter.mp q1
      have hne : u ≠ v := fun e => hn (by rw [← e]; exact hu)
      rw [ex_down hv1 (hok.1 q q2) (hv_iff.mp q3) (h2 u hu).1, if_neg hne]
      exact (h2 u hu).2 q q2
    · exact (h2 u hu).2 p (List.mem_filter.mp z).1
