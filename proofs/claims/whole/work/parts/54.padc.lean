/-! PURE PART: the class's reader follows the automaton -/
def KP : List (Nat × Nat) := [(19, 1), (19, 4), (19, 5), (19, 6)]
def RQ (S U : St) (st q v : Nat) (M : List Nat) : Prop := Fr [20] KP S U ∧ gI U 19 4 = nI st ∧ gI U 19 6 = nI (hexN q) ∧ (st = 2 → gI U 19 5 = nI v) ∧ gI U 19 1 = nI M.length ∧ ∀ i, i < M.length → gA U 20 i = nI (hexN (M.getD i 0))
def RC (S U : St) (s : PS) : Prop := RQ S U s.st s.q s.v s.M
theorem cend {S U : St} {s : PS} {i : Nat} (hR : RC S U s) (ho : okS s i) (hi : i ≤ 60) : (s.st = 0 → mX4_endMonomial U = some (0, U)) ∧ (s.st ≠ 0 → ∃ U1, mX4_endMonomial U = some (1, U1) ∧ RC S U1 (mkS 0 0 s.v (s.M ++ [s.q]))) := by
  obtain ⟨r1, r2, r3, r4, r5, r6⟩ := hR
  obtain ⟨o1, o2, o3, o4, o5, o6, o7⟩ := ho
  refine ⟨fun h => ?_, fun h => ?_⟩
  · unfold mX4_endMonomial
    rw [r2, h, if_pos (by decide)]
  · have hm := o7 h
    refine ⟨sI (sI (sI (sA U 20 s.M.length (nI (hexN s.q))) 19 1 (nI (s.M.length + 1))) 19 4 0) 19 6 0, ?_, ?_⟩
    · unfold mX4_endMonomial mX4_begin
      rw [r2, if_neg (nI_ne0 (by omega) (by omega)), r5, if_pos (show nI s.M.length < 60 from nI_lt (b := 60) (by omega) (by decide)), inb_nI (show s.M.length < 60 by omega) (by decide), obs, gI_sA, r3, r5, nI_1]
    · show RQ S _ 0 0 s.v (s.M ++ [s.q])
      refine ⟨((((r1.sA (by decide)).sI (by decide)).sI (by decide)).sI (by decide)), ?_, ?_, fun z => absurd z (by decide), ?_, fun j hj => ?_⟩
      · rw [gI_sI_k (by decide), gI_sI_same]
        rfl
      · rw [gI_sI_same]
        rfl
      · rw [gI_sI_k (by decide), gI_sI_k (by decide), gI_sI_same, List.length_append]
        rfl
      · rw [gA_sI, gA_sI, gA_sI, gA_sA_same]
        rw [List.length_append] at hj
        have hj : j < s.M.length + 1 := hj
        by_cases he : j = s.M.length
        · subst he
          rw [upd_at, show s.M.length = s.M.length + 0 from rfl, getD_right]
          rfl
        · rw [upd_ne he, r6 j (by omega), getD_left (by omega)]
theorem caccept {S U : St} {s : PS} {c i : Nat} (hR : RC S U s) (ho : okS s i) (hi : i ≤ 60) (hc : 33 ≤ c ∧ c ≤ 126) : ∃ U1, mX4_accept U (nI c) = some (b2 (pstep s c).isSome, U1) ∧ Fr [20] KP S U1 ∧ ∀ s1, pstep s c = some s1 → RC S U1 s1 := by
  have hR0 := hR
  have ho0 := ho
  obtain ⟨r1, r2, r3, r4, r5, r6⟩ := hR
  obtain ⟨o1, o2, o3, o4, o5, o6, o7⟩ := ho
  obtain ⟨e0, e1⟩ := cend hR0 ho0 hi
  have cc : ∀ k : Nat, k < 2 ^ 31 → ((nI c = nI k) = (c = k)) := fun k hk => nI_eqI (by omega) hk
  have cs : ∀ k : Nat, k ≤ 3 → ((nI s.st = nI k) = (s.st = k)) := fun k hk => nI_eqI (by omega) (by omega)
  unfold mX4_accept pstep
  by_cases h44 : c = 44
  · rw [if_pos (show nI c = 44 from congrArg nI h44), if_pos h44]
    by_cases hs : s.st = 0
    · rw [e0 hs, obs, if_pos hs, zbg_0]
      exact ⟨U, rfl, r1, fun s1 z => by cases z⟩
    · obtain ⟨U1, u1, u2⟩ := e1 hs
      rw [u1, obs, if_neg hs, zbg_1]
      exact ⟨U1, rfl, u2.1, fun s1 z => by cases z; exact u2⟩
  · rw [if_neg (show ¬ nI c = 44 from fun z => h44 ((nI_eq (b := 44) (by omega) (by decide)).mp z)), if_neg h44]
    by_cases hl : 97 ≤ c ∧ c ≤ 100
    · have ev : nI c - 97 = nI (c - 97) := nI_sub (b := 97) hl.1
      rw [if_neg (show ¬ nI c < 97 from nI_nlt (b := 97) hl.1 (by omega)), if_neg (show ¬ (101 : Int32) ≤ nI c from nI_ge (b := 101) (by omega) (by decide)), if_pos hl, ev]
      unfold mX4_acceptLetter
      rw [r2, r3]
      by_cases hs : s.st = 1
      · rw [if_pos (show nI s.st = 1 from congrArg nI hs), obs, if_pos hs, zbg_0]
        exact ⟨U, rfl, r1, fun s1 z => by cases z⟩
      · rw [if_neg (show ¬ nI s.st = 1 from fun z => hs ((nI_eq (b := 1) (by omega) (by decide)).mp z)), if_neg hs, exp_hex (by omega) o2, obs]
        have hx := ex_lt (v := c - 97) o2
        by_cases h6 : ex (c - 97) s.q < 6
        · obtain ⟨g1, g2, g3, g4⟩ := ex_add (v := c - 97) (w := 1) (by omega) o2 (by omega)
          rw [if_pos (show nI (ex (c - 97) s.q) < 6 from nI_lt (b := 6) h6 (by decide)), if_pos h6, show (1 : Int32) = nI 1 from rfl, cpower_spec (by omega) (by decide), obs, obs, gI_sI_k (by decide), r3, nI_add, ← g3, show nI 1 = b2 true from rfl, zbg_b2]
          refine ⟨_, rfl, (((r1.sI (by decide)).sI (by decide)).sI (by decide)), fun s1 z => ?_⟩
          cases z
          show RQ S _ 2 (s.q + sevN (c - 97) * 1) (c - 97) s.M
          refine ⟨(((r1.sI (by decide)).sI (by decide)).sI (by decide)), ?_, ?_, fun _ => ?_, ?_, fun j hj => ?_⟩
          · rw [gI_sI_same]
            rfl
          · rw [gI_sI_k (by decide), gI_sI_same]
          · rw [gI_sI_k (by decide), gI_sI_k (by decide), gI_sI_same]
          · rw [gI_sI_k (by decide), gI_sI_k (by decide), gI_sI_k (by decide)]
            exact r5
          · rw [gA_sI, gA_sI, gA_sI]
            exact r6 j hj
        · rw [if_neg (show ¬ nI (ex (c - 97) s.q) < 6 from nI_nlt (b := 6) (by omega) (by omega)), if_neg h6, obs, zbg_0]
          exact ⟨U, rfl, r1, fun s1 z => by cases z⟩
    · have e32 : (if nI c < 97 then mX4_accept_32 U (nI c) else if 101 ≤ nI c then mX4_accept_32 U (nI c) else (mX4_acceptLetter U (nI c - 97)).bind fun r1 => zbg r1.1 (some (r1.1, r1.2))) = mX4_accept_32 U (nI c) := by
        by_cases z : c < 97
        · rw [if_pos (show nI c < 97 from nI_lt (b := 97) z (by decide))]
        · rw [if_neg (show ¬ nI c < 97 from nI_nlt (b := 97) (by omega) (by omega)), if_pos (show (101 : Int32) ≤ nI c from nI_le (a := 101) (by omega) (by omega))]
      rw [e32, if_neg hl]
      unfold mX4_accept_32
      by_cases hf : 49 ≤ c ∧ c ≤ 54
      · have ew : nI c - 48 = nI (c - 48) := nI_sub (b := 48) (by omega)
        have ew1 : nI (c - 48) - 1 = nI (c - 49) := (nI_sub (b := 1) (by omega)).trans (congrArg nI (by omega))
        rw [if_neg (show ¬ nI c < 49 from nI_nlt (b := 49) hf.1 (by omega)), if_neg (show ¬ (54 : Int32) < nI c from nI_nlt (a := 54) hf.2 (by decide)), if_pos hf, ew]
        unfold mX4_acceptFigure mX4_acceptFigure_19
        rw [r2, r3, bnd_eq, ew1]
        by_cases hs : s.st = 0
        · rw [if_pos (show nI s.st = 0 from congrArg nI hs), if_pos hs]
          by_cases h1 : c = 49
          · rw [if_pos (show nI (c - 48) = 1 from congrArg nI (show c - 48 = 1 by omega)), if_pos h1, obs, zbg_1]
            refine ⟨_, rfl, r1.sI (by decide), fun s1 z => ?_⟩
            cases z
            show RQ S _ 1 0 s.v s.M
            refine ⟨r1.sI (by decide), ?_, ?_, fun z => absurd z (by decide), ?_, fun j hj => ?_⟩
            · rw [gI_sI_same]
              rfl
            · rw [gI_sI_k (by decide), r3, o3 hs]
            · rw [gI_sI_k (by decide)]
              exact r5
            · rw [gA_sI]
              exact r6 j hj
          · rw [if_neg (show ¬ nI (c - 48) = 1 from fun z => h1 (by have := (nI_eq (b := 1) (by omega) (by decide)).mp z; omega)), if_neg h1, if_neg (show ¬ nI s.st = 2 from fun z => by have := (nI_eq (b := 2) (by omega) (by decide)).mp z; omega), obs, zbg_0]
            exact ⟨U, rfl, r1, fun s1 z => by cases z⟩
        · rw [if_neg (show ¬ nI s.st = 0 from nI_ne0 (by omega) (by omega)), if_neg hs]
          by_cases h2 : s.st = 2
          · obtain ⟨v1, v2⟩ := o4 h2
            have hx := ex_lt (v := s.v) o2
            rw [if_pos (show nI s.st = 2 from congrArg nI h2), if_pos h2, r4 h2, exp_hex v1 o2, obs, nI_add]
            by_cases h6 : ex s.v s.q + (c - 49) ≤ 6
            · obtain ⟨g1, g2, g3, g4⟩ := ex_add (w := c - 49) v1 o2 h6
              rw [if_pos (show nI (ex s.v s.q + (c - 49)) ≤ 6 from nI_le (b := 6) h6 (by decide)), if_pos h6, cpower_spec v1 (by omega), obs, obs, nI_add, ← g3, zbg_1]
              refine ⟨_, rfl, (r1.sI (by decide)).sI (by decide), fun s1 z => ?_⟩
              cases z
              show RQ S _ 3 (s.q + sevN s.v * (c - 49)) s.v s.M
              refine ⟨(r1.sI (by decide)).sI (by decide), ?_, ?_, fun z => absurd z (by decide), ?_, fun j hj => ?_⟩
              · rw [gI_sI_same]
                rfl
              · rw [gI_sI_k (by decide), gI_sI_same]
              · rw [gI_sI_k (by decide), gI_sI_k (by decide)]
                exact r5
              · rw [gA_sI, gA_sI]
                exact r6 j hj
            · rw [if_neg (show ¬ nI (ex s.v s.q + (c - 49)) ≤ 6 from nI_ge (a := 6) (by omega) (by omega)), if_neg h6, obs, zbg_0]
              exact ⟨U, rfl, r1, fun s1 z => by cases z⟩
          · rw [if_neg (show ¬ nI s.st = 2 from fun z => h2 ((nI_eq (b := 2) (by omega) (by decide)).mp z)), if_neg h2, obs, zbg_0]
            exact ⟨U, rfl, r1, fun s1 z => by cases z⟩
      · rw [if_neg hf]
        by_cases z : c < 49
        · rw [if_pos (show nI c < 49 from nI_lt (b := 49) z (by decide))]
          exact ⟨U, rfl, r1, fun s1 z => by cases z⟩
        · rw [if_neg (show ¬ nI c < 49 from nI_nlt (b := 49) (by omega) (by omega)), if_pos (show (54 : Int32) < nI c from nI_lt (a := 54) (by omega) (by omega))]
          exact ⟨U, rfl, r1, fun s1 z => by cases z⟩
