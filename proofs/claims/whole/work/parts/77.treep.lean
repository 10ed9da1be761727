/-! PURE PART: trees of pivots, on lists -/
def hv (v p : Nat) : Bool := decide (0 < ex v p)
def cv (v : Nat) (L : List Nat) : Nat := (L.filter (hv v)).length
def wo (v : Nat) (L : List Nat) : List Nat := L.filter (fun p => !hv v p)
def dA (v : Nat) (L : List Nat) : List Nat := (L.filter (hv v)).map (fun p => p - sevN v)
def dB (v : Nat) (L A : List Nat) : List Nat := L.filter (fun p => !hv v p && !A.any (fun a => dv a p))
def dvd (v : Nat) (L : List Nat) : List Nat := dA v L ++ dB v L (dA v L)
def pvI (L : List Nat) : Nat → Option Nat × Nat
  | 0 => (none, 1)
  | v + 1 => if cv v L ≤ (pvI L v).2 then pvI L v else (some v, cv v L)
def pivC (L : List Nat) : Option Nat := (pvI L 4).1
def rvI (L : List Nat) : Nat → Nat × Nat
  | 0 => (0, cv 0 L)
  | v + 1 => if cv (v + 1) L ≤ (rvI L v).2 then rvI L v else (v + 1, cv (v + 1) L)
theorem piv_inv {L M : List Nat} (h : ∀ v, v < 4 → cv v M = cv v L ∨ (cv v M = 1 ∧ cv v L = 0)) : ∀ v, v < 4 → (∀ u, u ≤ v → cv u M ≤ (rvI M v).2) ∧ ((pvI L (v + 1) = (none, 1) ∧ (rvI M v).2 ≤ 1) ∨ ∃ u, u ≤ v ∧ pvI L (v + 1) = (some u, cv u L) ∧ rvI M v = (u, cv u L) ∧ 2 ≤ cv u L ∧ cv u M = cv u L) := by
  intro v
  induction v with
  | zero =>
    intro _
    have h0 := h 0 (by decide)
    refine ⟨fun u hu => ?_, ?_⟩
    · have : u = 0 := by omega
      subst this
      exact Nat.le_refl _
    · show (((if cv 0 L ≤ 1 then (none, 1) else (some 0, cv 0 L)) : Option Nat × Nat) = (none, 1) ∧ cv 0 M ≤ 1) ∨ ∃ u, u ≤ 0 ∧ ((if cv 0 L ≤ 1 then (none, 1) else (some 0, cv 0 L)) : Option Nat × Nat) = (some u, cv u L) ∧ (0, cv 0 M) = (u, cv u L) ∧ 2 ≤ cv u L ∧ cv u M = cv u L
      by_cases hc : cv 0 L ≤ 1
      · rw [if_pos hc]
        exact Or.inl ⟨rfl, by omega⟩
      · rw [if_neg hc]
        have e : cv 0 M = cv 0 L := by omega
        exact Or.inr ⟨0, Nat.le_refl 0, rfl, by rw [e], by omega, e⟩
  | succ v ih =>
    intro hv
    obtain ⟨i1, i2⟩ := ih (by omega)
    have hc := h (v + 1) hv
    have eR : rvI M (v + 1) = (if cv (v + 1) M ≤ (rvI M v).2 then rvI M v else (v + 1, cv (v + 1) M)) := rfl
    have eP : pvI L (v + 1 + 1) = (if cv (v + 1) L ≤ (pvI L (v + 1)).2 then pvI L (v + 1) else (some (v + 1), cv (v + 1) L)) := rfl
    refine ⟨fun u hu => ?_, ?_⟩
    · rw [eR]
      by_cases hm : cv (v + 1) M ≤ (rvI M v).2
      · rw [if_pos hm]
        by_cases he : u = v + 1
        · rw [he]
          exact hm
        · exact i1 u (by omega)
      · rw [if_neg hm]
        show cv u M ≤ cv (v + 1) M
        by_cases he : u = v + 1
        · rw [he]
          exact Nat.le_refl _
        · have := i1 u (by omega)
          omega
    · rcases i2 with ⟨p1, p2⟩ | ⟨u, u1, u2, u3, u4, u5⟩
      · rw [p1] at eP
        by_cases hl : cv (v + 1) L ≤ 1
        · rw [if_pos hl] at eP
          refine Or.inl ⟨eP, ?_⟩
          rw [eR]
          split
          · exact p2
          · show cv (v + 1) M ≤ 1
            omega
        · rw [if_neg hl] at eP
          have e : cv (v + 1) M = cv (v + 1) L := by omega
          rw [if_neg (show ¬ cv (v + 1) M ≤ (rvI M v).2 by omega), e] at eR
          exact Or.inr ⟨v + 1, Nat.le_refl _, eP, eR, by omega, e⟩
      · rw [u2] at eP
        rw [u3] at eR
        by_cases hl : cv (v + 1) L ≤ cv u L
        · rw [if_pos hl] at eP
          rw [if_pos (show cv (v + 1) M ≤ cv u L by omega)] at eR
          exact Or.inr ⟨u, by omega, eP, eR, u4, u5⟩
        · rw [if_neg hl] at eP
          have e : cv (v + 1) M = cv (v + 1) L := by omega
          rw [if_neg (show ¬ cv (v + 1) M ≤ cv u L by omega), e] at eR
          exact Or.inr ⟨v + 1, Nat.le_refl _, eP, eR, by omega, e⟩
theorem piv_agree {L M : List Nat} (h : ∀ v, v < 4 → cv v M = cv v L ∨ (cv v M = 1 ∧ cv v L = 0)) : (pivC L = none ∧ ∀ v, v < 4 → cv v M ≤ 1) ∨ ∃ v, v < 4 ∧ pivC L = some v ∧ (rvI M 3).1 = v ∧ 2 ≤ cv v L ∧ cv v M = cv v L := by
  obtain ⟨i1, i2⟩ := piv_inv h 3 (by decide)
  unfold pivC
  rcases i2 with ⟨p1, p2⟩ | ⟨u, u1, u2, u3, u4, u5⟩
  · rw [p1]
    exact Or.inl ⟨rfl, fun v hv => Nat.le_trans (i1 v (by omega)) p2⟩
  · rw [u2, u3]
    exact Or.inr ⟨u, by omega, rfl, rfl, u4, u5⟩
/-! good lists -/
def okL (L : List Nat) : Prop := (∀ p ∈ L, p < 2401) ∧ L.Nodup ∧ (∀ p ∈ L, ∀ q ∈ L, dv p q = true → p = q) ∧ L.length ≤ 40
theorem okL_wo {L : List Nat} {v : Nat} (h : okL L) : okL (wo v L) := by
  obtain ⟨h1, h2, h3, h4⟩ := h
  refine ⟨fun p hp => h1 p (List.mem_filter.mp hp).1, List.Pairwise.filter _ h2, fun p hp q hq => h3 p (List.mem_filter.mp hp).1 q (List.mem_filter.mp hq).1, ?_⟩
  exact Nat.le_trans (List.length_filter_le _ _) h4
theorem hv_iff {v p : Nat} : hv v p = true ↔ 1 ≤ ex v p := by
  unfold hv
  rw [decide_eq_true_eq]
  exact Iff.rfl
theorem hv_false {v p : Nat} : hv v p = false ↔ ex v p = 0 := by
  unfold hv
  rw [decide_eq_false_iff_not]
  omega
theorem ex_down {p v u : Nat} (hv1 : v < 4) (hp : p < 2401) (h : 1 ≤ ex v p) (hu : u < 4) : ex u (p - sevN v) = (if u = v then ex u p - 1 else ex u p) := by
  have hd : dv (sevN v) p = true := by
    refine dv_ex.mpr (fun u hu => ?_)
    rcases (show v = 0 ∨ v = 1 ∨ v = 2 ∨ v = 3 by omega) with rfl | rfl | rfl | rfl <;> rcases (show u = 0 ∨ u = 1 ∨ u = 2 ∨ u = 3 by omega) with rfl | rfl | rfl | rfl <;> first | exact h | exact Nat.zero_le _
  rw [ex_sub hp hd hu]
  rcases (show v = 0 ∨ v = 1 ∨ v = 2 ∨ v = 3 by omega) with rfl | rfl | rfl | rfl <;> rcases (show u = 0 ∨ u = 1 ∨ u = 2 ∨ u = 3 by omega) with rfl | rfl | rfl | rfl <;> rfl
theorem ex_sev {v u : Nat} (hv1 : v < 4) (hu : u < 4) : ex u (sevN v) = (if u = v then 1 else 0) := by
  rcases (show v = 0 ∨ v = 1 ∨ v = 2 ∨ v = 3 by omega) with rfl | rfl | rfl | rfl <;> rcases (show u = 0 ∨ u = 1 ∨ u = 2 ∨ u = 3 by omega) with rfl | rfl | rfl | rfl <;> rfl
theorem down_dv {p q v : Nat} (hv1 : v < 4) (hp : p < 2401) (hq : q < 2401) (h1 : 1 ≤ ex v p) (h2 : 1 ≤ ex v q) : dv (p - sevN v) (q - sevN v) = true ↔ dv p q = true := by
  rw [dv_ex, dv_ex]
  constructor
  · intro h u hu
    have := h u hu
    rw [ex_down hv1 hp h1 hu, ex_down hv1 hq h2 hu] at this
    split at this
    · rename_i he
      subst he
      omega
    · exact this
  · intro h u hu
    have := h u hu
    rw [ex_down hv1 hp h1 hu, ex_down hv1 hq h2 hu]
    split
    · omega
    · exact this
theorem okL_dvd {L : List Nat} {v : Nat} (hv1 : v < 4) (h : okL L) : okL (dvd v L) := by
  obtain ⟨h1, h2, h3, h4⟩ := h
  have mA : ∀ x ∈ dA v L, ∃ p ∈ L, 1 ≤ ex v p ∧ p - sevN v = x := fun x hx => by
    obtain ⟨p, p1, p2⟩ := List.mem_map.mp hx
    obtain ⟨q1, q2⟩ := List.mem_filter.mp p1
    exact ⟨p, q1, hv_iff.mp q2, p2⟩
  have mB : ∀ x ∈ dB v L (dA v L), x ∈ L ∧ ex v x = 0 ∧ ∀ a ∈ dA v L, dv a x = false := fun x hx => by
    obtain ⟨q1, q2⟩ := List.mem_filter.mp hx
    rw [Bool.and_eq_true] at q2
    refine ⟨q1, hv_false.mp (by simpa using q2.1), fun a ha => ?_⟩
    cases hd : dv a x with
    | false => rfl
    | true =>
      have := q2.2
      rw [List.any_eq_true.mpr ⟨a, ha, hd⟩] at this
      cases this
  refine ⟨fun x hx => ?_, ?_, fun x hx y hy hd => ?_, ?_⟩
  · rcases List.mem_append.mp hx with z | z
    · obtain ⟨p, p1, p2, rfl⟩ := mA x z
      have := h1 p p1
      omega
    · exact h1 x (mB x z).1
  · unfold List.Nodup dvd
    rw [List.pairwise_append]
    refine ⟨?_, List.Pairwise.filter _ h2, fun a ha b hb e => ?_⟩
    · unfold dA
      rw [List.pairwise_map]
      refine (List.Pairwise.filter (hv v) h2).imp_of_mem (fun {a b} ha hb hne e => hne ?_)
      obtain ⟨a1, a2⟩ := List.mem_filter.mp ha
      obtain ⟨b1, b2⟩ := List.mem_filter.mp hb
      obtain ⟨s1, s2, s3⟩ := dec_sub hv1 (h1 a a1) (hv_iff.mp a2)
      obtain ⟨t1, t2, t3⟩ := dec_sub hv1 (h1 b b1) (hv_iff.mp b2)
      omega
    · have := (mB b hb).2.2 a ha
      rw [e, dv_refl] at this
      cases this
  · rcases List.mem_append.mp hx with z | z
    · obtain ⟨p, p1, p2, rfl⟩ := mA x z
      rcases List.mem_append.mp hy with w | w
      · obtain ⟨q, q1, q2, rfl⟩ := mA y w
        rw [h3 p p1 q q1 ((down_dv hv1 (h1 p p1) (h1 q q1) p2 q2).mp hd)]
      · rw [(mB y w).2.2 _ z] at hd
        cases hd
    · obtain ⟨b1, b2, b3⟩ := mB x z
      rcases List.mem_append.mp hy with w | w
      · obtain ⟨q, q1, q2, rfl⟩ := mA y w
        have e := h3 x b1 q q1 (dv_trans hd (dv_down hv1 (h1 q q1) q2).1)
        subst e
        omega
      · exact h3 x b1 y (mB y w).1 hd
  · unfold dvd dA dB
    rw [List.length_append, List.length_map]
    have e1 : (L.filter (fun p => !hv v p && !((L.filter (hv v)).map (fun p => p - sevN v)).any (fun a => dv a p))).length ≤ (L.filter (fun p => !hv v p)).length := by
      rw [show (fun p => !hv v p && !((L.filter (hv v)).map (fun p => p - sevN v)).any (fun a => dv a p)) = (fun p => (!((L.filter (hv v)).map (fun p => p - sevN v)).any (fun a => dv a p)) && !hv v p) from funext (fun p => Bool.and_comm _ _), ← List.filter_filter]
      exact List.length_filter_le _ _
    have e2 := (List.filter_append_perm (hv v) L).length_eq
    rw [List.length_append] at e2
    omega
/-! what is left to divide -/
def mx (v : Nat) (L : List Nat) : Nat := L.foldl (fun x p => max x (ex v p)) 0
def pot (L : List Nat) : Nat := mx 0 L + mx 1 L + mx 2 L + mx 3 L
theorem mx_le {v b : Nat} {L : List Nat} : mx v L ≤ b ↔ ∀ p ∈ L, ex v p ≤ b := by
  have key : ∀ (L : List Nat) (x : Nat), L.foldl (fun x p => max x (ex v p)) x ≤ b ↔ x ≤ b ∧ ∀ p ∈ L, ex v p ≤ b := by
    intro L
    induction L with
    | nil => intro x; simp
    | cons a L ih =>
      intro x
      rw [List.foldl_cons, ih]
      constructor
      · rintro ⟨q1, q2⟩
        refine ⟨by omega, fun p hp => ?_⟩
        rcases List.mem_cons.mp hp with e | e
        · rw [e]
          omega
        · exact q2 p e
      · rintro ⟨q1, q2⟩
        have := q2 a (by simp)
        exact ⟨by omega, fun p hp => q2 p (by simp [hp])⟩
  rw [show mx v L = L.foldl (fun x p => max x (ex v p)) 0 from rfl, key]
  exact ⟨fun h => h.2, fun h => ⟨Nat.zero_le _, h⟩⟩
theorem pot_step {L M : List Nat} {v : Nat} (hv1 : v < 4) (h1 : ∀ u, u < 4 → mx u M ≤ mx u L) (h2 : mx v M + 1 ≤ mx v L) : pot M + 1 ≤ pot L := by
  have a0 := h1 0 (by decide)
  have a1 := h1 1 (by decide)
  have a2 := h1 2 (by decide)
  have a3 := h1 3 (by decide)
  unfold pot
  rcases (show v = 0 ∨ v = 1 ∨ v = 2 ∨ v = 3 by omega) with rfl | rfl | rfl | rfl <;> omega
theorem cv_mx {L : List Nat} {v : Nat} (h : 1 ≤ cv v L) : 1 ≤ mx v L := by
  by_cases hz : mx v L = 0
  · have := mx_le.mp (Nat.le_of_eq hz)
    unfold cv at h
    have e : L.filter (hv v) = [] := by
      rw [List.filter_eq_nil_iff]
      intro p hp hh
      have := this p hp
      have := hv_iff.mp hh
      omega
    rw [e] at h
    exact absurd h (by decide)
  · omega
theorem pot_wo {L : List Nat} {v : Nat} (hv1 : v < 4) (h : 1 ≤ cv v L) : pot (wo v L) + 1 ≤ pot L := by
  have hm := cv_mx h
  refine pot_step hv1 (fun u _ => mx_le.mpr (fun p hp => mx_le.mp (Nat.le_refl _) p (List.mem_filter.mp hp).1)) ?_
  have : mx v (wo v L) ≤ 0 := mx_le.mpr (fun p hp => by
    have := (List.mem_filter.mp hp).2
    exact Nat.le_of_eq (hv_false.mp (by simpa using this)))
  omega
theorem pot_dvd {L : List Nat} {v : Nat} (hv1 : v < 4) (hok : okL L) (h : 1 ≤ cv v L) : pot (dvd v L) + 1 ≤ pot L := by
  have hm := cv_mx h
  have cases2 : ∀ x ∈ dvd v L, (∃ p ∈ L, 1 ≤ ex v p ∧ x = p - sevN v) ∨ (x ∈ L ∧ ex v x = 0) := fun x hx => by
    rcases List.mem_append.mp hx with z | z
    · obtain ⟨p, p1, p2⟩ := List.mem_map.mp z
      obtain ⟨q1, q2⟩ := List.mem_filter.mp p1
      exact Or.inl ⟨p, q1, hv_iff.mp q2, p2.symm⟩
    · obtain ⟨q1, q2⟩ := List.mem_filter.mp z
      rw [Bool.and_eq_true] at q2
      exact Or.inr ⟨q1, hv_false.mp (by simpa using q2.1)⟩
  refine pot_step hv1 (fun u hu => mx_le.mpr (fun x hx => ?_)) ?_
  · rcases cases2 x hx with ⟨p, p1, p2, rfl⟩ | ⟨q1, q2⟩
    · have := mx_le.mp (Nat.le_refl (mx u L)) p p1
      rw [ex_down hv1 (hok.1 p p1) p2 hu]
      split <;> omega
    · exact mx_le.mp (Nat.le_refl _) x q1
  · have : mx v (dvd v L) ≤ mx v L - 1 := mx_le.mpr (fun x hx => by
      rcases cases2 x hx with ⟨p, p1, p2, rfl⟩ | ⟨q1, q2⟩
      · have := mx_le.mp (Nat.le_refl (mx v L)) p p1
        rw [ex_down hv1 (hok.1 p p1) p2 hv1, if_pos rfl]
        omega
      · omega)
    omega
theorem pot_zero {L : List Nat} (h : pot L = 0) : ∀ v, v < 4 → cv v L = 0 := by
  intro v hv1
  by_cases hc : 1 ≤ cv v L
  · have := cv_mx hc
    unfold pot at h
    rcases (show v = 0 ∨ v = 1 ∨ v = 2 ∨ v = 3 by omega) with rfl | rfl | rfl | rfl <;> omega
  · omega
/-- the tree: pivots, and how deep the deepest is -/
def cT : Nat → List Nat → Nat
  | 0, _ => 0
  | d + 1, L => match pivC L with
    | none => 0
    | some v => 1 + cT d (wo v L) + cT d (dvd v L)
def cD : Nat → Nat → List Nat → Nat
  | 0, _, _ => 0
  | d + 1, k, L => match pivC L with
    | none => 0
    | some v => max (k + 1) (max (cD d (k + 1) (wo v L)) (cD d (k + 1) (dvd v L)))
def cN : Nat → List Nat → Nat
  | 0, _ => 1
  | d + 1, L => match pivC L with
    | none => 1
    | some v => 1 + (cN d (dvd v L) + cN d (wo v L))
theorem cN_le : ∀ d L, cN d L + 1 ≤ 2 ^ (d + 1) := by
  intro d
  induction d with
  | zero => intro L; exact Nat.le_refl 2
  | succ d ih =>
    intro L
    show (match pivC L with
      | none => 1
      | some v => 1 + (cN d (dvd v L) + cN d (wo v L))) + 1 ≤ 2 ^ (d + 1 + 1)
    rw [Nat.pow_succ]
    have h2 : 1 ≤ 2 ^ (d + 1) := Nat.one_le_two_pow
    cases pivC L with
    | none => show 1 + 1 ≤ _; omega
    | some v =>
      have a := ih (dvd v L)
      have b := ih (wo v L)
      show 1 + (cN d (dvd v L) + cN d (wo v L)) + 1 ≤ _
      omega
theorem piv_self (L : List Nat) : (pivC L = none ∧ ∀ v, v < 4 → cv v L ≤ 1) ∨ ∃ v, v < 4 ∧ pivC L = some v ∧ 2 ≤ cv v L := by
  rcases piv_agree (L := L) (M := L) (fun v _ => Or.inl rfl) with h | ⟨v, v1, v2, -, v3, -⟩
  · exact Or.inl h
  · exact Or.inr ⟨v, v1, v2, v3⟩
