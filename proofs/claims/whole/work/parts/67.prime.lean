/-! PURE PART: primes -/
/-- the primes, as bits -/
def prmN (L : List Nat) : Nat := L.foldl (fun x r => x ||| 2 ^ supN r) 0
theorem shl_sup {x : Nat} (h : x < 16) : (1 : Int32) <<< (nI x &&& 31) = nI (2 ^ x) := by
  revert x
  decide
theorem prmN_take {L : List Nat} {i : Nat} (h : i < L.length) : prmN (L.take (i + 1)) = prmN (L.take i) ||| 2 ^ supN (L.getD i 0) := by
  unfold prmN
  rw [take_succ' h, List.foldl_append]
  rfl
theorem prmN_append (L : List Nat) (r : Nat) : prmN (L ++ [r]) = prmN L ||| 2 ^ supN r := by
  unfold prmN
  rw [List.foldl_append]
  rfl
theorem prmN_lt (L : List Nat) : prmN L < 65536 := by
  unfold prmN
  have key : ∀ (L : List Nat) (x : Nat), x < 2 ^ 16 → L.foldl (fun x r => x ||| 2 ^ supN r) x < 2 ^ 16 := by
    intro L
    induction L with
    | nil => intro x hx; exact hx
    | cons r L ih =>
      intro x hx
      exact ih _ (Nat.or_lt_two_pow hx (Nat.pow_lt_pow_right (by decide) (supN_bits r).1))
  exact key L 0 (by decide)
theorem primes_spec {S : St} {H : Nat → Nat} (h : hA S 60 H) : mX6_primes S 59 = some (nI (prmN (pcl H 343))) := by
  unfold mX6_primes
  refine loopN (N := 343) (fun f i => mX6_primes_4 S 59 f (nI (prmN (pcl H i))) (nI i)) (by omega) ?_ ?_
  · intro i f hi
    simp only [mX6_primes_4, mX6_primes_31, bnd_eq, nI_1]
    rw [if_neg (show ¬ (343 : Int32) ≤ nI i from nI_ge (b := 343) hi (by decide))]
    cases hp : isP H i with
    | true => rw [partAt_T hi h hp, obs, if_neg (hexP hi), pcl_T hp, prmN_append, support_spec (ptN_lt hi), obs, shl_sup (supN_bits _).1, nI_or]
    | false => rw [partAt_F hi h hp, obs, if_pos rfl, pcl_F hp]
  · intro f
    simp only [mX6_primes_4]
    rw [if_pos (show (343 : Int32) ≤ nI 343 by decide)]
theorem primesOf_spec {S : St} {h : Nat} {G : List Nat} (hh : h < 16) (hm : mG S h G) (hl : G.length ≤ 40) (hq : ∀ q ∈ G, q < 2401) (hlen : (pls (fun p => !(up G p))).length ≤ 2401) (hlt : ∀ r ∈ pls (fun p => !(up G p)), r < 2401) : ∃ S1, mX11_primesOf S (nI h) = some (nI (prmN (pls (fun p => !(up G p)))), S1) ∧ pL S1 (pls (fun p => !(up G p))) ∧ mk S1 8 (fun p => !(up G p)) ∧ Fr [8, 9] [(0, 13)] S S1 := by
  obtain ⟨S1, p1, p2, p3, p4⟩ := findParts_spec hh hm hl hq
  refine ⟨S1, ?_, p2, p3, p4⟩
  unfold mX11_primesOf
  rw [p1, obs]
  generalize pls (fun p => !(up G p)) = L at *
  have := loopN (N := L.length) (R := some (nI (prmN L), S1)) (fun f i => mX11_primesOf_9 f S1 (nI (prmN (L.take i))) (nI i)) (by omega) ?_ ?_
  · exact this
  · intro i f hi
    simp only [mX11_primesOf_9, bnd_eq, nI_1]
    rw [p2.1, if_neg (nI_ge hi (by omega)), inb_nI (show i < 2401 by omega) (by decide), p2.2 i hi, rsupport_spec (hlt _ (getD_mem hi)), obs, shl_sup (supN_bits _).1, nI_or, prmN_take hi]
  · intro f
    simp only [mX11_primesOf_9]
    rw [p2.1, if_pos (nI_le (Nat.le_refl _) (by omega)), List.take_length]
theorem pls_lt (T : Nat → Bool) : ∀ r ∈ pls T, r < 2401 := fun r hr => List.mem_range.mp (List.mem_filter.mp hr).1
theorem pls_len (T : Nat → Bool) : (pls T).length ≤ 2401 := filter_len_le _ 2401
