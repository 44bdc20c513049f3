-- numbers below a hundred thousand, as ints; loops by their counter
theorem nn_le {a b : Nat} (ha : a ≤ 100000) (hb : b ≤ 100000) : (nI a ≤ nI b) = (a ≤ b) := propext (nI_leI (by omega) (by omega))
theorem nn_lt {a b : Nat} (ha : a ≤ 100000) (hb : b ≤ 100000) : (nI a < nI b) = (a < b) := propext (nI_ltI (by omega) (by omega))
theorem nn_eq {a b : Nat} (ha : a ≤ 100000) (hb : b ≤ 100000) : (nI a = nI b) = (a = b) := propext (nI_eq (by omega) (by omega))
theorem nn_cl {a : Nat} (ha : a ≤ 100000) : (nI a).toNatClampNeg = a := nI_clamp (by omega)
theorem nn_ck {α : Type} {a n : Nat} {k : Option α} (h : a < n) (hn : n ≤ 100000) : og_ck (nI a) n k = k := og_ck_in (vp_in_nI h (by omega))
theorem nn_neg {a : Nat} (ha : a ≤ 100000) : ¬ (nI a < 0) := nI_pos (by omega)
theorem nn_0 {a : Nat} (ha : a ≤ 100000) : (nI a = 0) = (a = 0) := nn_eq (b := 0) ha (by omega)
theorem nn_m1 {a : Nat} (ha : a ≤ 100000) : ¬ (nI a = -1) := by
  intro h
  have h1 := congrArg Int32.toInt h
  rw [nI_toInt (by omega)] at h1
  have : (-1 : Int32).toInt = -1 := by decide
  omega
/-- an int is below 0, or a number -/
theorem nn_or (x : Int32) : x < 0 ∨ ∃ j : Nat, j < 2 ^ 31 ∧ x = nI j := by
  by_cases h : x < 0
  · exact Or.inl h
  · exact Or.inr (nI_of h)
/-- an int is a number below n, or it isn't within -/
theorem nn_ix (x : Int32) {n : Nat} (hn : n ≤ 100000) : (∃ j : Nat, j < n ∧ x = nI j) ∨ (x < 0 ∨ (¬ x < 0 ∧ nI n ≤ x)) := by
  rcases pk_ix x (n := n) (by omega) with h | h | h
  · exact Or.inr (Or.inl h)
  · by_cases h0 : x < 0
    · exact Or.inr (Or.inl h0)
    · exact Or.inr (Or.inr ⟨h0, h⟩)
  · exact Or.inl h
theorem lo_up {σ ρ : Type} (f : Nat → Nat → σ → ρ) (I : Nat → σ → Prop) (P : ρ → Prop) (e : Nat) (hs : ∀ n i st, i < e → I i st → P (f (n + 1) i st) ∨ ∃ st', f (n + 1) i st = f n (i + 1) st' ∧ I (i + 1) st') (he : ∀ n st, I e st → P (f (n + 1) e st)) :
    ∀ n i st, i ≤ e → e - i < n → I i st → P (f n i st) := by
  intro n
  induction n with
  | zero => intro i st _ h _; omega
  | succ n ih =>
    intro i st hi hn hI
    rcases Nat.lt_or_ge i e with q | q
    · rcases hs n i st q hI with h | ⟨st', h1, h2⟩
      · exact h
      · rw [h1]
        exact ih (i + 1) st' q (by omega) h2
    · have h9 : i = e := by omega
      subst h9
      exact he n st hI
theorem lo_me {σ ρ : Type} (f : Nat → σ → ρ) (I : σ → Prop) (P : ρ → Prop) (μ : σ → Nat) (hs : ∀ n st, I st → P (f (n + 1) st) ∨ ∃ st', f (n + 1) st = f n st' ∧ I st' ∧ μ st' < μ st) : ∀ n st, μ st < n → I st → P (f n st) := by
  intro n
  induction n with
  | zero => intro st h _; omega
  | succ n ih =>
    intro st hn hI
    rcases hs n st hI with h | ⟨st', h1, h2, h3⟩
    · exact h
    · rw [h1]
      exact ih st' (by omega) h2
