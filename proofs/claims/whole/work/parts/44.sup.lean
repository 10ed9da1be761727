/-! PURE PART: supports -/
/-- the variables that are in it, a bit each -/
def supN (p : Nat) : Nat := (if ex 0 p = 0 then 0 else 1) + (if ex 1 p = 0 then 0 else 2) + (if ex 2 p = 0 then 0 else 4) + (if ex 3 p = 0 then 0 else 8)
/-- the product of some variables -/
def sqN (j : Nat) : Nat := 343 * (j % 2) + 49 * (j / 2 % 2) + 7 * (j / 4 % 2) + j / 8 % 2
theorem sup_fuel {p : Nat} (hp : p < 2401) {n : Nat} (hn : 5 < n) : mX3_support_4 n (nI (hexN p)) (nI 0) (nI 0) = some (nI (supN p)) := by
  obtain ⟨n, rfl⟩ : ∃ m, n = m + 5 := ⟨n - 5, by omega⟩
  have l0 := ex_lt (v := 0) hp
  have l1 := ex_lt (v := 1) hp
  have l2 := ex_lt (v := 2) hp
  have l3 := ex_lt (v := 3) hp
  have h0 := exp_hex (v := 0) (by omega) hp
  have h1 := exp_hex (v := 1) (by omega) hp
  have h2 := exp_hex (v := 2) (by omega) hp
  have h3 := exp_hex (v := 3) (by omega) hp
  unfold supN
  generalize ex 0 p = a at *
  generalize ex 1 p = b at *
  generalize ex 2 p = c at *
  generalize ex 3 p = d at *
  rw [mX3_support_4, if_neg (by decide), h0, obs]
  simp only [mX3_support_23, bnd_eq]
  rw [show nI 0 + 1 = nI 1 from rfl]
  simp only [mX3_support_4, if_neg (show ¬ (4 : Int32) ≤ nI 1 by decide), if_neg (show ¬ (4 : Int32) ≤ nI 2 by decide), if_neg (show ¬ (4 : Int32) ≤ nI 3 by decide), if_pos (show (4 : Int32) ≤ nI 4 by decide), h1, h2, h3, obs, mX3_support_23, bnd_eq, show nI 1 + 1 = nI 2 from rfl, show nI 2 + 1 = nI 3 from rfl, show nI 3 + 1 = nI 4 from rfl]
  simp only [show (nI a ≤ (0 : Int32)) = (a ≤ 0) from nI_leI' (b := 0) (by omega) (by omega), show (nI b ≤ (0 : Int32)) = (b ≤ 0) from nI_leI' (b := 0) (by omega) (by omega), show (nI c ≤ (0 : Int32)) = (c ≤ 0) from nI_leI' (b := 0) (by omega) (by omega), show (nI d ≤ (0 : Int32)) = (d ≤ 0) from nI_leI' (b := 0) (by omega) (by omega)]
  by_cases a0 : a ≤ 0 <;> by_cases b0 : b ≤ 0 <;> by_cases c0 : c ≤ 0 <;> by_cases d0 : d ≤ 0 <;> simp only [a0, b0, c0, d0, if_true, if_false, show (a = 0) = (a ≤ 0) by simp, show (b = 0) = (b ≤ 0) by simp, show (c = 0) = (c ≤ 0) by simp, show (d = 0) = (d ≤ 0) by simp] <;> rfl
theorem support_spec {p : Nat} (hp : p < 2401) : mX3_support (nI (hexN p)) = some (nI (supN p)) := sup_fuel hp (FU_gt (by decide))
theorem rsup_fuel {p : Nat} (hp : p < 2401) {n : Nat} (hn : 5 < n) : mX11_support_4 n (nI (decN p)) (nI 0) (nI 0) = some (nI (supN p)) := by
  obtain ⟨n, rfl⟩ : ∃ m, n = m + 5 := ⟨n - 5, by omega⟩
  have l0 := ex_lt (v := 0) hp
  have l1 := ex_lt (v := 1) hp
  have l2 := ex_lt (v := 2) hp
  have l3 := ex_lt (v := 3) hp
  have h0 := power_dec (v := 0) (by omega) hp
  have h1 := power_dec (v := 1) (by omega) hp
  have h2 := power_dec (v := 2) (by omega) hp
  have h3 := power_dec (v := 3) (by omega) hp
  unfold supN
  generalize ex 0 p = a at *
  generalize ex 1 p = b at *
  generalize ex 2 p = c at *
  generalize ex 3 p = d at *
  rw [mX11_support_4, if_neg (by decide), h0, obs]
  simp only [mX11_support_25, bnd_eq]
  rw [show nI 0 + 1 = nI 1 from rfl]
  simp only [mX11_support_4, if_neg (show ¬ (4 : Int32) ≤ nI 1 by decide), if_neg (show ¬ (4 : Int32) ≤ nI 2 by decide), if_neg (show ¬ (4 : Int32) ≤ nI 3 by decide), if_pos (show (4 : Int32) ≤ nI 4 by decide), h1, h2, h3, obs, mX11_support_25, bnd_eq, show nI 1 + 1 = nI 2 from rfl, show nI 2 + 1 = nI 3 from rfl, show nI 3 + 1 = nI 4 from rfl]
  simp only [show (nI a ≤ (0 : Int32)) = (a ≤ 0) from nI_leI' (b := 0) (by omega) (by omega), show (nI b ≤ (0 : Int32)) = (b ≤ 0) from nI_leI' (b := 0) (by omega) (by omega), show (nI c ≤ (0 : Int32)) = (c ≤ 0) from nI_leI' (b := 0) (by omega) (by omega), show (nI d ≤ (0 : Int32)) = (d ≤ 0) from nI_leI' (b := 0) (by omega) (by omega)]
  by_cases a0 : a ≤ 0 <;> by_cases b0 : b ≤ 0 <;> by_cases c0 : c ≤ 0 <;> by_cases d0 : d ≤ 0 <;> simp only [a0, b0, c0, d0, if_true, if_false, show (a = 0) = (a ≤ 0) by simp, show (b = 0) = (b ≤ 0) by simp, show (c = 0) = (c ≤ 0) by simp, show (d = 0) = (d ≤ 0) by simp] <;> rfl
theorem rsupport_spec {p : Nat} (hp : p < 2401) : mX11_support (nI (decN p)) = some (nI (supN p)) := rsup_fuel hp (FU_gt (by decide))
theorem ofSet_spec : ∀ j, j < 16 → mX3_ofSet (nI j) = some (nI (hexN (sqN j))) := by decide
