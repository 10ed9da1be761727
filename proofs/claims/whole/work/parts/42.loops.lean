/-! PURE PART: loops, the class's monomials -/
theorem loopG {α σ : Type} {N : Nat} (F : Nat → Nat → σ → Option α) (I : Nat → σ → Prop) (Q : Option α → Prop) (hN : N < 1073741824) (hs : ∀ i n s, i < N → I i s → (∃ s1, I (i + 1) s1 ∧ F (n + 1) i s = F n (i + 1) s1) ∨ Q (F (n + 1) i s)) (he : ∀ n s, I N s → Q (F (n + 1) N s)) (s : σ) (h0 : I 0 s) : Q (F FU 0 s) := by
  have key : ∀ k i n s, i + k = N → k < n → I i s → Q (F n i s) := by
    intro k
    induction k with
    | zero =>
      intro i n s hi hn hI
      obtain ⟨n, rfl⟩ : ∃ m, n = m + 1 := ⟨n - 1, by omega⟩
      have : i = N := by omega
      subst this
      exact he n s hI
    | succ k ih =>
      intro i n s hi hn hI
      obtain ⟨n, rfl⟩ : ∃ m, n = m + 1 := ⟨n - 1, by omega⟩
      rcases hs i n s (by omega) hI with ⟨s1, h1, h2⟩ | h
      · rw [h2]
        exact ih (i + 1) n s1 (by omega) (by omega) h1
      · exact h
  exact key N 0 FU s (by omega) (FU_gt hN) h0
theorem loopN {α : Type} {N : Nat} {R : Option α} (F : Nat → Nat → Option α) (hN : N < 1073741824) (hs : ∀ i n, i < N → F (n + 1) i = F n (i + 1)) (he : ∀ n, F (n + 1) N = R) : F FU 0 = R :=
  loopG (σ := Unit) (fun n i _ => F n i) (fun _ _ => True) (fun r => r = R) hN (fun i n _ hi _ => Or.inl ⟨(), trivial, hs i n hi⟩) (fun n _ _ => he n) () trivial
/-- what else than these arrays and fields is as it was -/
def Fr (A : List Nat) (K : List (Nat × Nat)) (S S1 : St) : Prop := (∀ m, m ∉ A → gA S1 m = gA S m) ∧ ∀ m k, (m, k) ∉ K → gI S1 m k = gI S m k
theorem Fr.refl (A : List Nat) (K : List (Nat × Nat)) (S : St) : Fr A K S S := ⟨fun _ _ => rfl, fun _ _ _ => rfl⟩
theorem Fr.trans {A : List Nat} {K : List (Nat × Nat)} {S S1 S2 : St} (a : Fr A K S S1) (b : Fr A K S1 S2) : Fr A K S S2 := ⟨fun m h => (b.1 m h).trans (a.1 m h), fun m k h => (b.2 m k h).trans (a.2 m k h)⟩
theorem Fr.mono {A A1 : List Nat} {K K1 : List (Nat × Nat)} {S S1 : St} (a : Fr A K S S1) (h1 : ∀ m ∈ A, m ∈ A1) (h2 : ∀ m ∈ K, m ∈ K1) : Fr A1 K1 S S1 := ⟨fun m h => a.1 m (fun z => h (h1 m z)), fun m k h => a.2 m k (fun z => h (h2 _ z))⟩
theorem Fr.sA {A : List Nat} {K : List (Nat × Nat)} {S S1 : St} (a : Fr A K S S1) {n j : Nat} {v : Int32} (h : n ∈ A) : Fr A K S (sA S1 n j v) := ⟨fun m hm => by
  rw [gA_sA_ne (fun (e : m = n) => hm (by rw [e]; exact h))]
  exact a.1 m hm, fun m k hk => (gI_sA S1 n j m k v).trans (a.2 m k hk)⟩
theorem Fr.sAf {A : List Nat} {K : List (Nat × Nat)} {S S1 : St} (a : Fr A K S S1) {n : Nat} {f : Nat → Int32} (h : n ∈ A) : Fr A K S (sAf S1 n f) := ⟨fun m hm => by
  rw [gA_sAf_ne (fun (e : m = n) => hm (by rw [e]; exact h))]
  exact a.1 m hm, fun m k hk => (gI_sAf S1 n m k f).trans (a.2 m k hk)⟩
theorem Fr.sI {A : List Nat} {K : List (Nat × Nat)} {S S1 : St} (a : Fr A K S S1) {n k : Nat} {v : Int32} (h : (n, k) ∈ K) : Fr A K S (sI S1 n k v) := ⟨fun m hm => (gA_sI S1 n k m v).trans (a.1 m hm), fun m k1 hk => by
  by_cases hn : m = n
  · subst hn
    rw [gI_sI_k (fun (e : k1 = k) => hk (by rw [e]; exact h))]
    exact a.2 m k1 hk
  · rw [gI_sI_ne hn]
    exact a.2 m k1 hk⟩
theorem Fr.sF {A : List Nat} {K : List (Nat × Nat)} {S S1 : St} (a : Fr A K S S1) {v : Int64} : Fr A K S (sF S1 v) := ⟨fun m hm => (gA_sF S1 v m).trans (a.1 m hm), fun m k hk => (gI_sF S1 v m k).trans (a.2 m k hk)⟩
