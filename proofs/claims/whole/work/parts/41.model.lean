/-! PURE PART: the reference's lists and marks -/
/-- in the ideal of the list -/
def up (G : List Nat) (p : Nat) : Bool := G.any (fun q => dv q p)
/-- marked, and none below it is -/
def lst (B : Nat → Bool) (p : Nat) : Bool := B p && allF (fun v => decide (ex v p = 0) || !(B (p - sevN v))) 0 4
def gens (B : Nat → Bool) : List Nat := (List.range 2401).filter (lst B)
/-- holder h of the reference has the list G -/
def mG (S : St) (h : Nat) (G : List Nat) : Prop := gA S 2 h = nI G.length ∧ ∀ i, i < G.length → gA S 1 (40 * h + i) = nI (decN (G.getD i 0))
theorem ite_b2 {α : Type} (b : Bool) (x y : α) : (if b2 b = nI 0 then x else y) = (bif b then y else x) := by cases b <;> rfl
def okG (G : List Nat) : Prop := G.length ≤ 40 ∧ (∀ q ∈ G, q < 2401) ∧ gens (up G) = G
theorem getD_mem {G : List Nat} {i : Nat} (h : i < G.length) : G.getD i 0 ∈ G := by
  rw [List.getD_eq_getElem?_getD, List.getElem?_eq_getElem h]
  exact List.getElem_mem h
theorem take_succ' {G : List Nat} {i : Nat} (h : i < G.length) : G.take (i + 1) = G.take i ++ [G.getD i 0] := by
  rw [List.take_succ, List.getD_eq_getElem?_getD, List.getElem?_eq_getElem h]
  rfl
theorem any_take {G : List Nat} {i : Nat} {f : Nat → Bool} (h : i < G.length) : (G.take (i + 1)).any f = ((G.take i).any f || f (G.getD i 0)) := by
  rw [take_succ' h, List.any_append]
  simp
theorem all_take {G : List Nat} {i : Nat} {f : Nat → Bool} (h : i < G.length) : (G.take (i + 1)).all f = ((G.take i).all f && f (G.getD i 0)) := by
  rw [take_succ' h, List.all_append]
  simp
theorem at_spec {S : St} {h i : Nat} (hh : h < 16) (hi : i < 40) : mX11_at S (nI h) (nI i) = some (gA S 1 (40 * h + i)) := by
  unfold mX11_at
  simp (disch := omega) only [lit_nI, nI_mul, nI_add, inb_nI]
theorem isIn_loop {S : St} {h p : Nat} {G : List Nat} (hh : h < 16) (hp : p < 2401) (hm : mG S h G) (hl : G.length ≤ 40) (hq : ∀ q ∈ G, q < 2401) : ∀ (k i n : Nat), i + k = G.length → k < n → mX11_isIn_5 S n (nI h) (nI (decN p)) (b2 ((G.take i).any (fun q => dv q p))) (nI i) = some (b2 (up G p)) := by
  intro k
  induction k with
  | zero =>
    intro i n hi hn
    obtain ⟨n, rfl⟩ : ∃ m, n = m + 1 := ⟨n - 1, by omega⟩
    have hi : i = G.length := by omega
    subst hi
    simp (disch := omega) only [mX11_isIn_5, inb_nI, hm.1, nI_leI', zbg_b2, List.take_length]
    rw [if_pos (Nat.le_refl _)]
    rfl
  | succ k ih =>
    intro i n hi hn
    obtain ⟨n, rfl⟩ : ∃ m, n = m + 1 := ⟨n - 1, by omega⟩
    have hlt : i < G.length := by omega
    have hd := divides_spec (hq _ (getD_mem hlt)) hp
    have hr := ih (i + 1) n (by omega) (by omega)
    rw [any_take hlt] at hr
    simp (disch := omega) only [mX11_isIn_5, inb_nI, hm.1, nI_leI', at_spec hh (by omega : i < 40), hm.2 i hlt, hd, obs, mX11_isIn_34, mX11_isIn_39, bnd_eq, lit_nI, nI_add, b2_n]
    rw [if_neg (by omega)]
    cases hb : (G.take i).any (fun q => dv q p) with
    | true =>
      rw [hb] at hr
      rw [if_neg (by decide)]
      exact hr
    | false =>
      rw [hb, Bool.false_or] at hr
      rw [if_pos rfl]
      cases hc : dv (G.getD i 0) p with
      | true => rw [hc] at hr; rw [if_neg (by decide)]; exact hr
      | false => rw [hc] at hr; rw [if_pos rfl]; exact hr
theorem isIn_spec {S : St} {h p : Nat} {G : List Nat} (hh : h < 16) (hp : p < 2401) (hm : mG S h G) (hl : G.length ≤ 40) (hq : ∀ q ∈ G, q < 2401) : mX11_isIn S (nI h) (nI (decN p)) = some (b2 (up G p)) :=
  isIn_loop hh hp hm hl hq G.length 0 FU (by omega) (FU_gt (by omega))
theorem dec_sub {p v : Nat} (hv : v < 4) (hp : p < 2401) (h : 1 ≤ ex v p) : decN p - tenN v = decN (p - sevN v) ∧ tenN v ≤ decN p ∧ sevN v ≤ p := by
  rcases (show v = 0 ∨ v = 1 ∨ v = 2 ∨ v = 3 by omega) with rfl | rfl | rfl | rfl
  · have h : 1 ≤ p / 343 := h
    show decN p - 1000 = decN (p - 343) ∧ 1000 ≤ decN p ∧ 343 ≤ p
    have e1 : (p - 343) / 343 = p / 343 - 1 := by omega
    have e2 : (p - 343) / 49 % 7 = p / 49 % 7 := by omega
    have e3 : (p - 343) / 7 % 7 = p / 7 % 7 := by omega
    have e4 : (p - 343) % 7 = p % 7 := by omega
    unfold decN
    rw [e1, e2, e3, e4]
    omega
  · have h : 1 ≤ p / 49 % 7 := h
    show decN p - 100 = decN (p - 49) ∧ 100 ≤ decN p ∧ 49 ≤ p
    have e1 : (p - 49) / 343 = p / 343 := by omega
    have e2 : (p - 49) / 49 % 7 = p / 49 % 7 - 1 := by omega
    have e3 : (p - 49) / 7 % 7 = p / 7 % 7 := by omega
    have e4 : (p - 49) % 7 = p % 7 := by omega
    unfold decN
    rw [e1, e2, e3, e4]
    omega
  · have h : 1 ≤ p / 7 % 7 := h
    show decN p - 10 = decN (p - 7) ∧ 10 ≤ decN p ∧ 7 ≤ p
    have e1 : (p - 7) / 343 = p / 343 := by omega
    have e2 : (p - 7) / 49 % 7 = p / 49 % 7 := by omega
    have e3 : (p - 7) / 7 % 7 = p / 7 % 7 - 1 := by omega
    have e4 : (p - 7) % 7 = p % 7 := by omega
    unfold decN
    rw [e1, e2, e3, e4]
    omega
  · have h : 1 ≤ p % 7 := h
    show decN p - 1 = decN (p - 1) ∧ 1 ≤ decN p ∧ 1 ≤ p
    have e1 : (p - 1) / 343 = p / 343 := by omega
    have e2 : (p - 1) / 49 % 7 = p / 49 % 7 := by omega
    have e3 : (p - 1) / 7 % 7 = p / 7 % 7 := by omega
    have e4 : (p - 1) % 7 = p % 7 - 1 := by omega
    unfold decN
    rw [e1, e2, e3, e4]
    omega
/-- an array of marks -/
def mk (S : St) (n : Nat) (B : Nat → Bool) : Prop := ∀ p, p < 2401 → gA S n p = b2 (B p)
theorem decN_lt {p : Nat} (hp : p < 2401) : decN p < 7000 := by unfold decN; omega
theorem isLeast_loop {S : St} {p : Nat} {B : Nat → Bool} (hp : p < 2401) (hB : mk S 4 B) : ∀ (k v n : Nat) (b : Bool), v + k = 4 → k < n → mX11_isLeast_15 S n (nI (decN p)) (b2 b) (nI v) = some (b2 (b && allF (fun v => decide (ex v p = 0) || !(B (p - sevN v))) v k)) := by
  intro k
  induction k with
  | zero =>
    intro v n b hv hn
    obtain ⟨n, rfl⟩ : ∃ m, n = m + 1 := ⟨n - 1, by omega⟩
    simp (disch := omega) only [mX11_isLeast_15, lit_nI, nI_leI', zbg_b2, allF, Bool.and_true]
    rw [if_pos (by omega)]
  | succ k ih =>
    intro v n b hv hn
    obtain ⟨n, rfl⟩ : ∃ m, n = m + 1 := ⟨n - 1, by omega⟩
    have h1 := ex_lt (v := v) hp
    have hf := ih (v + 1) n false (by omega) (by omega)
    have ht := ih (v + 1) n true (by omega) (by omega)
    have hd := decN_lt hp
    simp (disch := omega) only [mX11_isLeast_15, lit_nI, nI_leI', power_dec (by omega : v < 4) hp, ten_spec (by omega : v < 4), obs, nI_eqI, mX11_isLeast_52, mX11_isLeast_56, mX11_isLeast_57, bnd_eq, nI_add, b2_n, allF]
    rw [if_neg (by omega)]
    cases b with
    | false =>
      rw [if_pos rfl]
      rw [show nI 0 = b2 false from rfl, hf]
      simp
    | true =>
      rw [if_neg (by decide)]
      by_cases h0 : ex v p = 0
      · rw [if_pos h0, show nI 1 = b2 true from rfl, ht]
        simp [h0]
      · obtain ⟨e1, e2, e3⟩ := dec_sub (by omega : v < 4) hp (by omega)
        have hlt : p - sevN v < 2401 := by omega
        rw [if_neg h0, nI_sub e2, e1, placeOf_spec hlt, obs, inb_nI hlt (by omega), hB _ hlt, ite_b2]
        cases hb : B (p - sevN v) with
        | true =>
          rw [cond_true, show nI 0 = b2 false from rfl, hf]
          simp [h0, hb]
        | false =>
          rw [cond_false, show nI 1 = b2 true from rfl, ht]
          simp [h0, hb]
theorem isLeast_spec {S : St} {p : Nat} {B : Nat → Bool} (hp : p < 2401) (hB : mk S 4 B) : mX11_isLeast S (nI p) = some (b2 (lst B p)) := by
  unfold mX11_isLeast
  rw [codeAt_spec hp, obs, inb_nI hp (by decide), hB p hp, bnd_eq, show (0 : Int32) = nI 0 from rfl, isLeast_loop hp hB 4 0 FU (B p) (by omega) (FU_gt (by decide))]
  rfl
theorem filter_succ (P : Nat → Bool) (i : Nat) : (List.range (i + 1)).filter P = (List.range i).filter P ++ (if P i then [i] else []) := by
  rw [List.range_succ, List.filter_append]
  congr 1
  cases h : P i <;> simp [h]
theorem filter_len_le (P : Nat → Bool) (i : Nat) : ((List.range i).filter P).length ≤ i := by
  have := List.length_filter_le P (List.range i)
  rw [List.length_range] at this
  exact this
theorem filter_mono (P : Nat → Bool) {i j : Nat} (h : i ≤ j) : ((List.range i).filter P).length ≤ ((List.range j).filter P).length := by
  induction j with
  | zero => have : i = 0 := by omega
            subst this; exact Nat.le_refl _
  | succ j ih =>
    rcases Nat.lt_or_ge i (j + 1) with h1 | h1
    · rw [filter_succ, List.length_append]
      have := ih (by omega)
      omega
    · have : i = j + 1 := by omega
      subst this; exact Nat.le_refl _
/-- what keep may change -/
def keepF (S S1 : St) (h : Nat) : Prop := (∀ m, m ≠ 1 → m ≠ 2 → gA S1 m = gA S m) ∧ (∀ m k, gI S1 m k = gI S m k) ∧ (∀ x, (x < 40 * h ∨ 40 * h + 40 ≤ x) → gA S1 1 x = gA S 1 x) ∧ ∀ x, x ≠ h → gA S1 2 x = gA S 2 x
theorem keepF.refl (S : St) (h : Nat) : keepF S S h := ⟨fun _ _ _ => rfl, fun _ _ => rfl, fun _ _ => rfl, fun _ _ => rfl⟩
theorem keepF.trans {S S1 S2 : St} {h : Nat} (a : keepF S S1 h) (b : keepF S1 S2 h) : keepF S S2 h := ⟨fun m h1 h2 => (b.1 m h1 h2).trans (a.1 m h1 h2), fun m k => (b.2.1 m k).trans (a.2.1 m k), fun x hx => (b.2.2.1 x hx).trans (a.2.2.1 x hx), fun x hx => (b.2.2.2 x hx).trans (a.2.2.2 x hx)⟩
theorem keep_write {h : Nat} {B : Nat → Bool} {x2 : Int32} (hh : h < 16) (hfit : (gens B).length ≤ 40) : ∀ (k i n : Nat) (S : St), i + k = 2401 → k < n → mk S 4 B → mG S h ((List.range i).filter (lst B)) → ∃ S1, mX11_keep_51 n S (nI h) x2 (nI i) = some (x2, S1) ∧ mG S1 h (gens B) ∧ keepF S S1 h := by
  intro k
  induction k with
  | zero =>
    intro i n S hi hn hB hm
    obtain ⟨n, rfl⟩ : ∃ m, n = m + 1 := ⟨n - 1, by omega⟩
    have hi : i = 2401 := by omega
    subst hi
    refine ⟨S, ?_, hm, keepF.refl S h⟩
    simp (disch := omega) only [mX11_keep_51, lit_nI, nI_leI']
    rw [if_pos (by omega)]
  | succ k ih =>
    intro i n S hi hn hB hm
    obtain ⟨n, rfl⟩ : ∃ m, n = m + 1 := ⟨n - 1, by omega⟩
    have hlt : i < 2401 := by omega
    have hL := filter_mono (lst B) (show i + 1 ≤ 2401 by omega)
    rw [filter_succ] at hL
    cases hb : lst B i with
    | false =>
      have hm1 : mG S h ((List.range (i + 1)).filter (lst B)) := by
        rw [filter_succ, hb]
        simpa using hm
      obtain ⟨S1, h1, h2, h3⟩ := ih (i + 1) n S (by omega) (by omega) hB hm1
      refine ⟨S1, ?_, h2, h3⟩
      simp (disch := omega) only [mX11_keep_51, lit_nI, nI_leI', isLeast_spec hlt hB, hb, obs, mX11_keep_96, bnd_eq, nI_add, b2_n]
      rw [if_neg (by omega), if_pos trivial]
      exact h1
    | true =>
      rw [hb] at hL
      have hlen : ((List.range i).filter (lst B)).length < 40 := by
        have h5 : ((List.range i).filter (lst B) ++ (if true = true then [i] else [])).length ≤ (gens B).length := hL
        rw [List.length_append] at h5
        have h6 : (if true = true then [i] else []).length = 1 := rfl
        omega
      generalize hLi : (List.range i).filter (lst B) = Li at *
      have hB1 : mk (sA (sA S 1 (40 * h + Li.length) (nI (decN i))) 2 h (nI (Li.length + 1))) 4 B := fun p hp => by
        rw [gA_sA_ne (by decide), gA_sA_ne (by decide)]
        exact hB p hp
      have hm1 : mG (sA (sA S 1 (40 * h + Li.length) (nI (decN i))) 2 h (nI (Li.length + 1))) h ((List.range (i + 1)).filter (lst B)) := by
        rw [filter_succ, hb, hLi]
        refine ⟨?_, fun t ht => ?_⟩
        · rw [gA_sA_same, upd_at]
          simp
        · rw [gA_sA_ne (by decide), gA_sA_same]
          simp only [if_true, List.length_append, List.length_cons, List.length_nil] at ht
          by_cases he : t = Li.length
          · subst he
            rw [upd_at, show Li ++ (if true = true then [i] else []) = Li ++ [i] from rfl, show Li.length = Li.length + 0 from rfl, getD_right]
            rfl
          · rw [upd_ne (by omega), hm.2 t (by omega), getD_left (by omega)]
      obtain ⟨S1, h1, h2, h3⟩ := ih (i + 1) n _ (by omega) (by omega) hB1 hm1
      refine ⟨S1, ?_, h2, keepF.trans ?_ h3⟩
      · simp (disch := omega) only [mX11_keep_51, lit_nI, nI_leI', isLeast_spec hlt hB, hb, obs, mX11_keep_96, bnd_eq, nI_add, b2_n, inb_nI, codeAt_spec hlt, hm.1, nI_mul]
        rw [if_neg (by omega), if_neg (by simp), gA_sA_ne (by decide), hm.1, nI_add]
        exact h1
      · refine ⟨fun m a b => ?_, fun _ _ => rfl, fun x hx => ?_, fun x hx => ?_⟩
        · rw [gA_sA_ne b, gA_sA_ne a]
        · rw [gA_sA_ne (by decide), gA_sA_same, upd_ne (by omega)]
        · rw [gA_sA_same, upd_ne hx, gA_sA_ne (by decide)]
theorem keep_count {h : Nat} {B : Nat → Bool} {S : St} {R : Option (Int32 × St)} (hB : mk S 4 B) (hR : (if nI (gens B).length ≤ 40 then (inb 16 (nI h) fun j1 => mX11_keep_51 FU (sA S 2 j1 0) (nI h) (nI (gens B).length) 0) else some (-4, S)) = R) : ∀ (k i n : Nat), i + k = 2401 → k < n → mX11_keep_4 n S (nI h) (nI ((List.range i).filter (lst B)).length) (nI i) = R := by
  intro k
  induction k with
  | zero =>
    intro i n hi hn
    obtain ⟨n, rfl⟩ : ∃ m, n = m + 1 := ⟨n - 1, by omega⟩
    have hi : i = 2401 := by omega
    subst hi
    rw [mX11_keep_4, if_pos (show (2401 : Int32) ≤ nI 2401 by decide)]
    exact hR
  | succ k ih =>
    intro i n hi hn
    obtain ⟨n, rfl⟩ : ∃ m, n = m + 1 := ⟨n - 1, by omega⟩
    have hlt : i < 2401 := by omega
    have hr := ih (i + 1) n (by omega) (by omega)
    have hle := filter_len_le (lst B) i
    rw [filter_succ] at hr
    simp (disch := omega) only [mX11_keep_4, lit_nI, nI_leI', isLeast_spec hlt hB, obs, mX11_keep_25, bnd_eq, nI_add, ite_b2]
    rw [if_neg (by omega)]
    cases hb : lst B i with
    | false =>
      rw [hb] at hr
      rw [cond_false, Nat.add_zero]
      simpa using hr
    | true =>
      rw [hb] at hr
      rw [cond_true]
      simpa using hr
theorem keep_spec {h : Nat} {B : Nat → Bool} {S : St} (hh : h < 16) (hB : mk S 4 B) : (40 < (gens B).length → mX11_keep S (nI h) = some (-4, S)) ∧ ((gens B).length ≤ 40 → ∃ S1, mX11_keep S (nI h) = some (nI (gens B).length, S1) ∧ mG S1 h (gens B) ∧ keepF S S1 h) := by
  have h0 := keep_count (h := h) hB rfl 2401 0 FU (by omega) (FU_gt (by decide))
  have hle : (gens B).length ≤ 2401 := filter_len_le (lst B) 2401
  refine ⟨fun hl => ?_, fun hl => ?_⟩
  · rw [if_neg (show ¬ nI (gens B).length ≤ 40 from nI_ge (a := 40) hl (by omega))] at h0
    exact h0
  · rw [if_pos (show nI (gens B).length ≤ 40 from nI_le (b := 40) hl (by decide)), inb_nI hh (by decide)] at h0
    have hB1 : mk (sA S 2 h 0) 4 B := fun p hp => by
      rw [gA_sA_ne (by decide)]
      exact hB p hp
    have hm1 : mG (sA S 2 h 0) h ((List.range 0).filter (lst B)) := ⟨by rw [gA_sA_same, upd_at]; rfl, fun i hi => absurd hi (Nat.not_lt_zero i)⟩
    obtain ⟨S1, h1, h2, h3⟩ := keep_write (x2 := nI (gens B).length) hh hl 2401 0 FU _ (by omega) (FU_gt (by decide)) hB1 hm1
    refine ⟨S1, h0.trans h1, h2, keepF.trans ?_ h3⟩
    refine ⟨fun m a b => gA_sA_ne b, fun _ _ => rfl, fun x hx => by rw [gA_sA_ne (by decide)], fun x hx => by rw [gA_sA_same, upd_ne hx]⟩
