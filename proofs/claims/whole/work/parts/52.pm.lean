-- walks in a graph of n points: lengths, least lengths, and that a least one is no longer than n
def pm_Wk (A : Nat → Nat → Prop) : Nat → Nat → Nat → Prop
  | 0, a, b => a = b
  | k + 1, a, b => ∃ m, A a m ∧ pm_Wk A k m b
theorem pm_app {A : Nat → Nat → Prop} : ∀ {i j a m b : Nat}, pm_Wk A i a m → pm_Wk A j m b → pm_Wk A (i + j) a b
  | 0, j, a, m, b, h1, h2 => by
    have e : a = m := h1
    subst e
    rw [Nat.zero_add]
    exact h2
  | i + 1, j, a, m, b, ⟨x, h1, h3⟩, h2 => by
    rw [Nat.add_right_comm]
    exact ⟨x, h1, pm_app h3 h2⟩
theorem pm_split {A : Nat → Nat → Prop} : ∀ {i j a b : Nat}, pm_Wk A (i + j) a b → ∃ m, pm_Wk A i a m ∧ pm_Wk A j m b
  | 0, j, a, b, h => ⟨a, rfl, by rw [Nat.zero_add] at h; exact h⟩
  | i + 1, j, a, b, h => by
    rw [Nat.add_right_comm] at h
    obtain ⟨x, h1, h2⟩ := h
    obtain ⟨m, h3, h4⟩ := pm_split h2
    exact ⟨m, ⟨x, h1, h3⟩, h4⟩
theorem pm_one {A : Nat → Nat → Prop} {a b : Nat} : pm_Wk A 1 a b ↔ A a b :=
  ⟨fun ⟨m, h1, h2⟩ => by have e : m = b := h2; subst e; exact h1, fun h => ⟨b, h, rfl⟩⟩
theorem pm_snoc {A : Nat → Nat → Prop} {k a m b : Nat} (h : pm_Wk A k a m) (h2 : A m b) : pm_Wk A (k + 1) a b := pm_app h (pm_one.mpr h2)
theorem pm_unsnoc {A : Nat → Nat → Prop} {k a b : Nat} (h : pm_Wk A (k + 1) a b) : ∃ m, pm_Wk A k a m ∧ A m b := by
  obtain ⟨m, h1, h2⟩ := pm_split h
  exact ⟨m, h1, pm_one.mp h2⟩
/-- k is the least length (1 or more) of a walk from a to b -/
def pm_D (A : Nat → Nat → Prop) (a b k : Nat) : Prop := 1 ≤ k ∧ pm_Wk A k a b ∧ ∀ j, 1 ≤ j → pm_Wk A j a b → k ≤ j
theorem pm_D_ex {A : Nat → Nat → Prop} {a b : Nat} : ∀ (j : Nat), 1 ≤ j → pm_Wk A j a b → ∃ k, k ≤ j ∧ pm_D A a b k := by
  intro j
  induction j using Nat.strongRecOn with
  | ind j ih =>
    intro h1 h2
    by_cases hh : ∃ i, i < j ∧ 1 ≤ i ∧ pm_Wk A i a b
    · obtain ⟨i, g1, g2, g3⟩ := hh
      obtain ⟨k, g4, g5⟩ := ih i g1 g2 g3
      exact ⟨k, by omega, g5⟩
    · refine ⟨j, Nat.le_refl _, h1, h2, fun i g1 g2 => ?_⟩
      rcases Nat.lt_or_ge i j with q | q
      · exact absurd ⟨i, q, g1, g2⟩ hh
      · exact q
theorem pm_D_un {A : Nat → Nat → Prop} {a b k j : Nat} (h : pm_D A a b k) (h2 : pm_D A a b j) : k = j :=
  Nat.le_antisymm (h.2.2 j h2.1 h2.2.1) (h2.2.2 k h.1 h.2.1)
/-- as many as k different ones need n ≥ k places -/
theorem pm_pig : ∀ (n k : Nat) (P : Nat → Nat → Prop), (∀ j, j < k → ∃ v, v < n ∧ P j v) → (∀ i j v, i < k → j < k → P i v → P j v → i = j) → k ≤ n := by
  intro n
  induction n with
  | zero =>
    intro k P h1 _
    rcases Nat.eq_zero_or_pos k with q | q
    · omega
    · obtain ⟨v, h, -⟩ := h1 0 q
      omega
  | succ n ih =>
    intro k P h1 h2
    by_cases hh : ∃ j, j < k ∧ P j n
    · obtain ⟨j0, hj, hp⟩ := hh
      have := ih (k - 1) (fun i v => P (if i < j0 then i else i + 1) v) (fun j hjk => by
        have hlt : (if j < j0 then j else j + 1) < k := by split <;> omega
        obtain ⟨v, hv, hP⟩ := h1 _ hlt
        refine ⟨v, ?_, hP⟩
        rcases Nat.lt_or_ge v n with q | q
        · exact q
        · have e : v = n := by omega
          subst e
          have := h2 _ _ _ hlt hj hP hp
          split at this <;> omega) (fun i j v hi hj2 hpi hpj => by
        have hlt : (if i < j0 then i else i + 1) < k := by split <;> omega
        have hlt2 : (if j < j0 then j else j + 1) < k := by split <;> omega
        have := h2 _ _ _ hlt hlt2 hpi hpj
        split at this <;> split at this <;> omega)
      omega
    · have := ih k P (fun j hj => by
        obtain ⟨v, hv, hP⟩ := h1 j hj
        refine ⟨v, ?_, hP⟩
        rcases Nat.lt_or_ge v n with q | q
        · exact q
        · have e : v = n := by omega
          subst e
          exact absurd ⟨j, hj, hP⟩ hh) h2
      omega
/-- on a least walk each point stands at its own least length -/
theorem pm_D_mid {A : Nat → Nat → Prop} {a b k i : Nat} (h : pm_D A a b k) (h1 : 1 ≤ i) (h2 : i ≤ k) : ∃ m, pm_D A a m i ∧ pm_Wk A (k - i) m b := by
  have e : k = i + (k - i) := by omega
  have hw := h.2.1
  rw [e] at hw
  obtain ⟨m, g1, g2⟩ := pm_split hw
  refine ⟨m, ⟨h1, g1, fun j hj1 hj2 => ?_⟩, g2⟩
  have := h.2.2 (j + (k - i)) (by omega) (pm_app hj2 g2)
  omega
theorem pm_D_le {A : Nat → Nat → Prop} {n a b k : Nat} (hA : ∀ x y, A x y → y < n) (h : pm_D A a b k) : k ≤ n := by
  refine pm_pig n k (fun j v => pm_D A a v (j + 1)) (fun j hj => ?_) (fun i j v _ _ h1 h2 => ?_)
  · obtain ⟨m, g1, -⟩ := pm_D_mid h (i := j + 1) (by omega) (by omega)
    refine ⟨m, ?_, g1⟩
    obtain ⟨x, -, hx⟩ := pm_unsnoc g1.2.1
    exact hA x m hx
  · have := pm_D_un h1 h2
    omega
/-- a walk whose inner points are below k -/
def pm_Wi (A : Nat → Nat → Prop) (k : Nat) : Nat → Nat → Nat → Prop
  | 0, _, _ => False
  | 1, a, b => A a b
  | j + 2, a, b => ∃ m, m < k ∧ A a m ∧ pm_Wi A k (j + 1) m b
theorem pm_Wi_cut {A : Nat → Nat → Prop} {k : Nat} : ∀ {j a b : Nat}, pm_Wi A (k + 1) j a b → pm_Wi A k j a b ∨ ∃ i1 i2, i1 + i2 ≤ j ∧ pm_Wi A k i1 a k ∧ pm_Wi A k i2 k b
  | 0, _, _, h => h.elim
  | 1, _, _, h => Or.inl h
  | j + 2, a, b, ⟨m, h1, h2, h3⟩ => by
    rcases pm_Wi_cut h3 with h | ⟨i1, i2, g1, g2, g3⟩
    · rcases Nat.lt_or_ge m k with q | q
      · exact Or.inl ⟨m, q, h2, h⟩
      · have e : m = k := by omega
        subst e
        exact Or.inr ⟨1, j + 1, by omega, h2, h⟩
    · rcases Nat.lt_or_ge m k with q | q
      · refine Or.inr ⟨i1 + 1, i2, by omega, ?_, g3⟩
        cases i1 with
        | zero => exact g2.elim
        | succ i1 => exact ⟨m, q, h2, g2⟩
      · have e : m = k := by omega
        subst e
        refine Or.inr ⟨1, i2, ?_, h2, g3⟩
        cases i1 with
        | zero => exact g2.elim
        | succ i1 => omega
theorem pm_Wi_of {A : Nat → Nat → Prop} {n : Nat} (hA : ∀ x y, A x y → y < n) : ∀ {j a b : Nat}, pm_Wk A (j + 1) a b → pm_Wi A n (j + 1) a b
  | 0, _, _, h => pm_one.mp h
  | j + 1, _, _, ⟨m, h1, h2⟩ => ⟨m, hA _ _ h1, h1, pm_Wi_of hA h2⟩
theorem pm_Wi_0 {A : Nat → Nat → Prop} : ∀ {j a b : Nat}, pm_Wi A 0 j a b → j = 1 ∧ A a b
  | 0, _, _, h => h.elim
  | 1, _, _, h => ⟨rfl, h⟩
  | _ + 2, _, _, ⟨m, h1, _, _⟩ => absurd h1 (Nat.not_lt_zero m)
/-- least steps between all points: how the rows stand behind the rounds for points below k, and in round k at the points (a, b) that were looked at -/
def pm_S1 (A : Nat → Nat → Prop) (S : Nat → Nat → Nat) : Prop := ∀ a b, S a b ≤ 1000 ∧ (S a b < 1000 → 1 ≤ S a b ∧ pm_Wk A (S a b) a b)
def pm_S2 (A : Nat → Nat → Prop) (k : Nat) (S : Nat → Nat → Nat) : Prop := ∀ a b j, pm_Wi A k j a b → S a b ≤ j
theorem pm_fw_step {A : Nat → Nat → Prop} {k a b : Nat} {S S' : Nat → Nat → Nat} (h1 : pm_S1 A S) (h2 : pm_S2 A k S) (he : S' a b = if S a k + S k b < S a b then S a k + S k b else S a b) (ho : ∀ x y, ¬ (x = a ∧ y = b) → S' x y = S x y) :
    pm_S1 A S' ∧ pm_S2 A k S' ∧ (∀ x y, S' x y ≤ S x y) ∧ ∀ j, pm_Wi A (k + 1) j a b → S' a b ≤ j := by
  have hle : ∀ x y, S' x y ≤ S x y := by
    intro x y
    by_cases hxy : x = a ∧ y = b
    · obtain ⟨rfl, rfl⟩ := hxy
      rw [he]; split <;> omega
    · rw [ho x y hxy]; exact Nat.le_refl _
  refine ⟨fun x y => ?_, fun x y j h => Nat.le_trans (hle x y) (h2 x y j h), hle, fun j h => ?_⟩
  · by_cases hxy : x = a ∧ y = b
    · obtain ⟨rfl, rfl⟩ := hxy
      have g0 := h1 x y
      refine ⟨Nat.le_trans (hle x y) g0.1, fun hlt => ?_⟩
      rw [he] at hlt ⊢
      split at hlt
      · rename_i hc
        rw [if_pos hc]
        have g1 := h1 x k
        have g2 := h1 k y
        have g3 := g1.2 (by omega)
        have g4 := g2.2 (by omega)
        exact ⟨by omega, pm_app g3.2 g4.2⟩
      · rename_i hc
        rw [if_neg hc]
        exact g0.2 hlt
    · rw [ho x y hxy]; exact h1 x y
  · rcases pm_Wi_cut h with g | ⟨i1, i2, g1, g2, g3⟩
    · exact Nat.le_trans (hle a b) (h2 a b j g)
    · have q1 := h2 a k i1 g2
      have q2 := h2 k b i2 g3
      rw [he]; split <;> omega
theorem pm_fw_done {A : Nat → Nat → Prop} {n : Nat} {S : Nat → Nat → Nat} (hn : n ≤ 999) (hA : ∀ x y, A x y → y < n) (h1 : pm_S1 A S) (h2 : pm_S2 A n S) (a b : Nat) : (S a b < 1000 ↔ ∃ j, 1 ≤ j ∧ pm_Wk A j a b) ∧ (S a b < 1000 → pm_D A a b (S a b)) := by
  have key : ∀ j, 1 ≤ j → pm_Wk A j a b → S a b ≤ j := fun j hj hw => by
    cases j with
    | zero => omega
    | succ j => exact h2 a b _ (pm_Wi_of hA hw)
  refine ⟨⟨fun h => ⟨_, ((h1 a b).2 h).1, ((h1 a b).2 h).2⟩, fun ⟨j, g1, g2⟩ => ?_⟩, fun h => ⟨((h1 a b).2 h).1, ((h1 a b).2 h).2, key⟩⟩
  obtain ⟨k, g3, g4⟩ := pm_D_ex j g1 g2
  have := pm_D_le hA g4
  have := key k g4.1 g4.2.1
  omega
-- the least ring through a point F that no point before it shares
/-- k is the least length (0 or more) of a walk from v to b -/
def pm_E (A : Nat → Nat → Prop) (v b k : Nat) : Prop := pm_Wk A k v b ∧ ∀ j, pm_Wk A j v b → k ≤ j
/-- a walk of length k from v to F over points from F on, F itself only at its end -/
def pm_B (A : Nat → Nat → Prop) (F : Nat) : Nat → Nat → Prop
  | 0, v => v = F
  | k + 1, v => ∃ b, F ≤ b ∧ A v b ∧ pm_B A F k b ∧ (F < b ∨ k = 0)
theorem pm_B_wk {A : Nat → Nat → Prop} {F : Nat} : ∀ {k v : Nat}, pm_B A F k v → pm_Wk A k v F
  | 0, _, h => h
  | _ + 1, _, ⟨b, _, h1, h2, _⟩ => ⟨b, h1, pm_B_wk h2⟩
/-- F is the first of those that lie in rings as short as its own -/
def pm_First (A : Nat → Nat → Prop) (F L : Nat) : Prop := pm_D A F F L ∧ ∀ v i j, 1 ≤ i → 1 ≤ j → i + j = L → pm_Wk A i F v → pm_Wk A j v F → F ≤ v
theorem pm_F_mid {A : Nat → Nat → Prop} {F L v i j : Nat} (h : pm_First A F L) (hi : 1 ≤ i) (hj : 1 ≤ j) (hij : i + j = L) (h1 : pm_Wk A i F v) (h2 : pm_Wk A j v F) : F < v := by
  have h3 := h.2 v i j hi hj hij h1 h2
  rcases Nat.lt_or_ge F v with q | q
  · exact q
  · have e : v = F := by omega
    subst e
    have := h.1.2.2 i hi h1
    omega
theorem pm_F_B {A : Nat → Nat → Prop} {F L : Nat} (h : pm_First A F L) : ∀ (k v i : Nat), i + k = L → pm_Wk A i F v → pm_Wk A k v F → pm_B A F k v := by
  intro k
  induction k with
  | zero => intro v i _ _ h2; exact h2
  | succ k ih =>
    intro v i hik h1 h2
    obtain ⟨b, g1, g2⟩ := h2
    have g3 := ih b (i + 1) (by omega) (pm_snoc h1 g1) g2
    cases k with
    | zero =>
      have e : b = F := g2
      subst e
      exact ⟨b, Nat.le_refl _, g1, g3, Or.inr rfl⟩
    | succ k =>
      have := pm_F_mid h (i := i + 1) (j := k + 1) (by omega) (by omega) (by omega) (pm_snoc h1 g1) g2
      exact ⟨b, by omega, g1, g3, Or.inl this⟩
/-- the next point of the least ring, by lengths (class) and by walks that stay behind F (reference) -/
theorem pm_next {A : Nat → Nat → Prop} {F L i q x : Nat} (h : pm_First A F L) (hi : i + 1 + q = L) (hx : pm_Wk A i F x) (v : Nat) :
    (A x v ∧ pm_E A v F q) ↔ (F ≤ v ∧ A x v ∧ pm_B A F q v ∧ ¬ (v = F ∧ 0 < q)) := by
  constructor
  · rintro ⟨h1, h2, h3⟩
    have g := pm_F_B h q v (i + 1) hi (pm_snoc hx h1) h2
    rcases Nat.eq_zero_or_pos q with z | z
    · subst z
      have e : v = F := h2
      exact ⟨by omega, h1, g, by omega⟩
    · have := pm_F_mid h (i := i + 1) (j := q) (by omega) z (by omega) (pm_snoc hx h1) h2
      exact ⟨by omega, h1, g, by omega⟩
  · rintro ⟨-, h1, h2, -⟩
    refine ⟨h1, pm_B_wk h2, fun j hj => ?_⟩
    have := h.1.2.2 (i + 1 + j) (by omega) (pm_app (pm_snoc hx h1) hj)
    omega
theorem pm_next_ex {A : Nat → Nat → Prop} {F L i q x : Nat} (h : pm_First A F L) (hi : i + 1 + q = L) (hx : pm_Wk A i F x) (hy : pm_Wk A (q + 1) x F) : ∃ v, A x v ∧ pm_E A v F q := by
  obtain ⟨v, h1, h2⟩ := hy
  refine ⟨v, h1, h2, fun j hj => ?_⟩
  have := h.1.2.2 (i + 1 + j) (by omega) (pm_app (pm_snoc hx h1) hj)
  omega
def pm_reach (A : Nat → Nat → Prop) (a b : Nat) : Prop := ∃ j, 1 ≤ j ∧ pm_Wk A j a b
def pm_tog (A : Nat → Nat → Prop) (a b : Nat) : Prop := a = b ∨ (pm_reach A a b ∧ pm_reach A b a)
theorem pm_reach_tr {A : Nat → Nat → Prop} {a b c : Nat} (h : pm_reach A a b) (h2 : pm_reach A b c) : pm_reach A a c := by
  obtain ⟨i, g1, g2⟩ := h
  obtain ⟨j, g3, g4⟩ := h2
  exact ⟨i + j, by omega, pm_app g2 g4⟩
theorem pm_tog_sy {A : Nat → Nat → Prop} {a b : Nat} (h : pm_tog A a b) : pm_tog A b a := by
  rcases h with h | h
  · exact Or.inl h.symm
  · exact Or.inr ⟨h.2, h.1⟩
theorem pm_tog_tr {A : Nat → Nat → Prop} {a b c : Nat} (h : pm_tog A a b) (h2 : pm_tog A b c) : pm_tog A a c := by
  rcases h with rfl | h
  · exact h2
  · rcases h2 with rfl | h2
    · exact Or.inr h
    · exact Or.inr ⟨pm_reach_tr h.1 h2.1, pm_reach_tr h2.2 h.2⟩
/-- in a part, a first point of least rings is the first of its own ring -/
theorem pm_First_of {A : Nat → Nat → Prop} {F L : Nat} (h : pm_D A F F L) (hm : ∀ v k, pm_tog A F v → pm_D A v v k → L ≤ k ∧ (k = L → F ≤ v)) : pm_First A F L := by
  refine ⟨h, fun v i j hi hj hij h1 h2 => ?_⟩
  have ht : pm_tog A F v := Or.inr ⟨⟨i, hi, h1⟩, ⟨j, hj, h2⟩⟩
  have hw : pm_Wk A L v v := by rw [← hij, Nat.add_comm]; exact pm_app h2 h1
  obtain ⟨k, g1, g2⟩ := pm_D_ex L h.1 hw
  have g3 := hm v k ht g2
  exact g3.2 (by omega)
