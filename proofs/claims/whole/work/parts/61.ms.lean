-- the reference: ranks, and least steps between all ranks
theorem ms_i0 (x : Int32) : x + 0 = x := by simp
theorem ms_rank1 {n j : Nat} {nm : Nat → Int32} (hn : n ≤ 40) (hj : j < n) {ρ : Type} (kk : Int32 → Option ((Nat → Int32) × (Nat → Int32))) : fM_sort_L14 kk (nI n) nm (nI j) FU 0 0 = kk (nI (ky_r nm n j)) := by
  refine lo_up (σ := Int32) (fun m i v => fM_sort_L14 kk (nI n) nm (nI j) m v (nI i)) (fun i v => v = nI (ky_c nm (nm j) i)) (fun r => r = kk (nI (ky_r nm n j))) n ?_ ?_ FU 0 0 (Nat.zero_le _) (by rw [FU_eq]; omega) rfl
  · intro m i v hi hI
    have hI : v = nI (ky_c nm (nm j) i) := hI
    refine Or.inr ?_
    show ∃ st', fM_sort_L14 _ _ _ _ (m + 1) v (nI i) = fM_sort_L14 _ _ _ _ m st' (nI (i + 1)) ∧ st' = nI (ky_c nm (nm j) i + if nm i < nm j then 1 else 0)
    rw [fM_sort_L14, if_neg (by rw [nn_le (by omega) (by omega)]; omega), nn_ck (show i < 40 by omega) (by omega), nn_ck (show j < 40 by omega) (by omega), nn_cl (by omega), nn_cl (by omega), nI_1]
    by_cases h : nm j ≤ nm i
    · rw [if_pos h, ms_i0]
      refine ⟨v, rfl, ?_⟩
      rw [if_neg (by rw [Int32.lt_iff_toInt_lt]; rw [Int32.le_iff_toInt_le] at h; omega), Nat.add_zero]
      exact hI
    · rw [if_neg h]
      refine ⟨v + 1, rfl, ?_⟩
      rw [if_pos (by rw [Int32.lt_iff_toInt_lt]; rw [Int32.le_iff_toInt_le] at h; omega), hI, nI_1]
  · intro m v hI
    have hI : v = nI (ky_c nm (nm j) n) := hI
    show fM_sort_L14 _ _ _ _ (m + 1) v (nI n) = _
    rw [fM_sort_L14, if_pos (by rw [nn_le (by omega) (by omega)]; omega), hI]
    rfl
theorem ms_sort {n : Nat} {nm od rk : Nat → Int32} (hn : n ≤ 40) (hd : ∀ i j, i < n → j < n → nm i = nm j → i = j) : ∃ od' rk', fM_sort (nI n) nm od rk = some (od', rk') ∧ (∀ j, j < n → rk' j = nI (ky_r nm n j)) ∧ ∀ j, j < n → od' (ky_r nm n j) = nI j := by
  rw [fM_sort]
  refine lo_up (σ := (Nat → Int32) × (Nat → Int32)) (fun m i st => fM_sort_L2 fM_sort_K2_71 (nI n) nm m (nI i) st.1 st.2) (fun i st => (∀ j, j < i → st.2 j = nI (ky_r nm n j)) ∧ ∀ j, j < i → st.1 (ky_r nm n j) = nI j) (fun r => ∃ od' rk', r = some (od', rk') ∧ (∀ j, j < n → rk' j = nI (ky_r nm n j)) ∧ ∀ j, j < n → od' (ky_r nm n j) = nI j) n ?_ ?_ FU 0 (od, rk) (Nat.zero_le _) (by rw [FU_eq]; omega) ⟨fun j hj => by omega, fun j hj => by omega⟩
  · rintro m i ⟨o, r⟩ hi ⟨hI1, hI2⟩
    have hI1 : ∀ j, j < i → r j = nI (ky_r nm n j) := hI1
    have hI2 : ∀ j, j < i → o (ky_r nm n j) = nI j := hI2
    have hlt := ky_r_lt (nm := nm) hi
    refine Or.inr ⟨(upd o (ky_r nm n i) (nI i), upd r i (nI (ky_r nm n i))), ?_, fun j hj => ?_, fun j hj => ?_⟩
    · show fM_sort_L2 _ _ _ (m + 1) (nI i) o r = fM_sort_L2 _ _ _ m (nI (i + 1)) (upd o (ky_r nm n i) (nI i)) (upd r i (nI (ky_r nm n i)))
      rw [fM_sort_L2, if_neg (by rw [nn_le (by omega) (by omega)]; omega), ms_rank1 (ρ := Unit) hn hi, fM_sort_K14_51, nn_ck (show ky_r nm n i < 40 by omega) (by omega), nn_ck (show i < 40 by omega) (by omega), nn_cl (show ky_r nm n i ≤ 100000 by omega), nn_cl (show i ≤ 100000 by omega), nI_1]
    · show upd r i (nI (ky_r nm n i)) j = _
      by_cases e : j = i
      · subst e; exact pk_us
      · rw [pk_un e]; exact hI1 j (by omega)
    · show upd o (ky_r nm n i) (nI i) (ky_r nm n j) = _
      by_cases e : j = i
      · subst e; exact pk_us
      · rw [pk_un (fun q => e (ky_r_inj hd (by omega) hi q))]; exact hI2 j (by omega)
  · rintro m ⟨o, r⟩ ⟨hI1, hI2⟩
    refine ⟨o, r, ?_, hI1, hI2⟩
    show fM_sort_L2 _ _ _ (m + 1) (nI n) o r = _
    rw [fM_sort_L2, if_pos (by rw [nn_le (by omega) (by omega)]; omega)]
    rfl
theorem ms_cell (a b : Nat) : fM_cell (nI a) (nI b) = some (nI (40 * a + b)) := by
  rw [fM_cell, show (40 : Int32) = nI 40 from rfl, pk_mul, nI_add]
theorem ms_c_inj {a b x y : Nat} (hb : b < 40) (hy : y < 40) (h : 40 * a + b = 40 * x + y) : a = x ∧ b = y := by omega
/-- steps by ranks, in the reference's row -/
def ms_S (st : Nat → Int32) (S : Nat → Nat → Nat) : Prop := ∀ a b, a < 40 → b < 40 → st (40 * a + b) = nI (S a b)
theorem ms_fw {A : Nat → Nat → Prop} {n : Nat} (hn : n ≤ 40) (hA : ∀ x y, A x y → x < n ∧ y < n) {ρ : Type} (kk : (Nat → Int32) → Option ((Nat → Int32) × (Nat → Int32) × (Nat → Int32))) {st : Nat → Int32} {S : Nat → Nat → Nat} (h0 : ms_S st S) (h1 : pm_S1 A S) (h2 : pm_S2 A 0 S) :
    ∃ st' S', fM_close_L126 kk (nI n) FU 0 st = kk st' ∧ ms_S st' S' ∧ pm_S1 A S' ∧ pm_S2 A n S' := by
  -- the innermost loop: points (a, b) with b from 0
  have L3 : ∀ (k a : Nat), k < n → a < n → ∀ (k3 : (Nat → Int32) → Option ((Nat → Int32) × (Nat → Int32) × (Nat → Int32))) (st : Nat → Int32) (S : Nat → Nat → Nat), ms_S st S → pm_S1 A S → pm_S2 A k S → (∀ x y j, x < a → pm_Wi A (k + 1) j x y → S x y ≤ j) →
      ∃ st' S', fM_close_L146 k3 (nI n) (nI k) (nI a) FU 0 st = k3 st' ∧ ms_S st' S' ∧ pm_S1 A S' ∧ pm_S2 A k S' ∧ (∀ x y j, x < a + 1 → pm_Wi A (k + 1) j x y → S' x y ≤ j) := by
    intro k a hk ha k3 st S g0 g1 g2 g3
    refine lo_up (σ := (Nat → Int32) × (Nat → Nat → Nat)) (fun m i z => fM_close_L146 k3 (nI n) (nI k) (nI a) m (nI i) z.1) (fun i z => ms_S z.1 z.2 ∧ pm_S1 A z.2 ∧ pm_S2 A k z.2 ∧ (∀ x y j, x < a → pm_Wi A (k + 1) j x y → z.2 x y ≤ j) ∧ ∀ y j, y < i → pm_Wi A (k + 1) j a y → z.2 a y ≤ j)
      (fun r => ∃ st' S', r = k3 st' ∧ ms_S st' S' ∧ pm_S1 A S' ∧ pm_S2 A k S' ∧ (∀ x y j, x < a + 1 → pm_Wi A (k + 1) j x y → S' x y ≤ j)) n ?_ ?_ FU 0 (st, S) (Nat.zero_le _) (by rw [FU_eq]; omega) ⟨g0, g1, g2, g3, fun y j hy => by omega⟩
    · rintro m i ⟨t, U⟩ hi ⟨i0, i1, i2, i3, i4⟩
      have i0 : ms_S t U := i0
      have i1 : pm_S1 A U := i1
      have i2 : pm_S2 A k U := i2
      have i3 : ∀ x y j, x < a → pm_Wi A (k + 1) j x y → U x y ≤ j := i3
      have i4 : ∀ y j, y < i → pm_Wi A (k + 1) j a y → U a y ≤ j := i4
      have b1 := (i1 a k).1
      have b2 := (i1 k i).1
      have b3 := (i1 a i).1
      refine Or.inr ?_
      show ∃ st' : (Nat → Int32) × (Nat → Nat → Nat), fM_close_L146 _ _ _ _ (m + 1) (nI i) t = fM_close_L146 _ _ _ _ m (nI (i + 1)) st'.1 ∧ _
      have hlhs : fM_close_L146 k3 (nI n) (nI k) (nI a) (m + 1) (nI i) t = fM_close_L146 k3 (nI n) (nI k) (nI a) m (nI (i + 1)) (if U a k + U k i < U a i then upd t (40 * a + i) (nI (U a k + U k i)) else t) := by
        rw [fM_close_L146, if_neg (by rw [nn_le (by omega) (by omega)]; omega), ms_cell, Option.bind_some, nn_ck (show 40 * a + k < 1600 by omega) (by omega), ms_cell, Option.bind_some, nn_ck (show 40 * k + i < 1600 by omega) (by omega), ms_cell, Option.bind_some, nn_ck (show 40 * a + i < 1600 by omega) (by omega), nn_cl (by omega), nn_cl (by omega), nn_cl (by omega), i0 a k (by omega) (by omega), i0 k i (by omega) (by omega), i0 a i (by omega) (by omega), nI_add, nI_1]
        by_cases h : U a k + U k i < U a i
        · rw [if_neg (by rw [nn_le (by omega) (by omega)]; omega), if_pos h, Option.bind_some, nn_ck (show 40 * a + i < 1600 by omega) (by omega), nn_cl (by omega)]
        · rw [if_pos (by rw [nn_le (by omega) (by omega)]; omega), if_neg h]
      rw [hlhs]
      obtain ⟨U', hU⟩ : ∃ U' : Nat → Nat → Nat, U' = fun x y => if x = a ∧ y = i then (if U a k + U k i < U a i then U a k + U k i else U a i) else U x y := ⟨_, rfl⟩
      have e1 : U' a i = if U a k + U k i < U a i then U a k + U k i else U a i := by rw [hU]; exact if_pos ⟨rfl, rfl⟩
      have e2 : ∀ x y, ¬ (x = a ∧ y = i) → U' x y = U x y := fun x y hxy => by rw [hU]; exact if_neg hxy
      obtain ⟨s1, s2, s3, s4⟩ := pm_fw_step i1 i2 e1 e2
      refine ⟨(_, U'), rfl, ?_, s1, s2, fun x y j hx hw => Nat.le_trans (s3 x y) (i3 x y j hx hw), fun y j hy hw => ?_⟩
      · intro x y hx hy
        show (if U a k + U k i < U a i then upd t (40 * a + i) (nI (U a k + U k i)) else t) (40 * x + y) = nI (U' x y)
        by_cases hxy : x = a ∧ y = i
        · obtain ⟨rfl, rfl⟩ := hxy
          rw [e1]
          by_cases h : U x k + U k y < U x y
          · rw [if_pos h, if_pos h, pk_us]
          · rw [if_neg h, if_neg h]; exact i0 x y hx hy
        · rw [e2 x y hxy]
          by_cases h : U a k + U k i < U a i
          · rw [if_pos h, pk_un (fun q => hxy (ms_c_inj hy (by omega) q))]; exact i0 x y hx hy
          · rw [if_neg h]; exact i0 x y hx hy
      · show U' a y ≤ j
        by_cases e : y = i
        · subst e; exact s4 j hw
        · exact Nat.le_trans (s3 a y) (i4 y j (by omega) hw)
    · rintro m ⟨t, U⟩ ⟨i0, i1, i2, i3, i4⟩
      have i0 : ms_S t U := i0
      have i1 : pm_S1 A U := i1
      have i2 : pm_S2 A k U := i2
      have i3 : ∀ x y j, x < a → pm_Wi A (k + 1) j x y → U x y ≤ j := i3
      have i4 : ∀ y j, y < n → pm_Wi A (k + 1) j a y → U a y ≤ j := i4
      refine ⟨t, U, ?_, i0, i1, i2, fun x y j hx hw => ?_⟩
      · show fM_close_L146 _ _ _ _ (m + 1) (nI n) t = _
        rw [fM_close_L146, if_pos (by rw [nn_le (by omega) (by omega)]; omega)]
      · rcases Nat.lt_or_ge x a with q | q
        · exact i3 x y j q hw
        · have e : x = a := by omega
          subst e
          have hy : y < n := by
            have key : ∀ (j x : Nat), pm_Wi A (k + 1) j x y → y < n := by
              intro j
              induction j with
              | zero => intro x h; exact h.elim
              | succ j ih =>
                intro x h
                cases j with
                | zero => exact (hA x y h).2
                | succ j =>
                  obtain ⟨z, _, _, h3⟩ := h
                  exact ih z h3
            exact key j x hw
          exact i4 y j hy hw
  -- the middle loop
  have L2 : ∀ (k : Nat), k < n → ∀ (k2 : (Nat → Int32) → Option ((Nat → Int32) × (Nat → Int32) × (Nat → Int32))) (st : Nat → Int32) (S : Nat → Nat → Nat), ms_S st S → pm_S1 A S → pm_S2 A k S →
      ∃ st' S', fM_close_L136 k2 (nI n) (nI k) FU 0 st = k2 st' ∧ ms_S st' S' ∧ pm_S1 A S' ∧ pm_S2 A (k + 1) S' := by
    intro k hk k2 st S g0 g1 g2
    refine lo_up (σ := (Nat → Int32) × (Nat → Nat → Nat)) (fun m i z => fM_close_L136 k2 (nI n) (nI k) m (nI i) z.1) (fun i z => ms_S z.1 z.2 ∧ pm_S1 A z.2 ∧ pm_S2 A k z.2 ∧ (∀ x y j, x < i → pm_Wi A (k + 1) j x y → z.2 x y ≤ j))
      (fun r => ∃ st' S', r = k2 st' ∧ ms_S st' S' ∧ pm_S1 A S' ∧ pm_S2 A (k + 1) S') n ?_ ?_ FU 0 (st, S) (Nat.zero_le _) (by rw [FU_eq]; omega) ⟨g0, g1, g2, fun x y j hx => by omega⟩
    · rintro m i ⟨t, U⟩ hi ⟨i0, i1, i2, i3⟩
      obtain ⟨t', U', f1, f2, f3, f4, f5⟩ := L3 k i hk hi (fM_close_K146_210 (fun a0 a1 => fM_close_L136 k2 (nI n) (nI k) m a0 a1) (nI i)) t U i0 i1 i2 i3
      refine Or.inr ⟨(t', U'), ?_, f2, f3, f4, f5⟩
      show fM_close_L136 _ _ _ (m + 1) (nI i) t = fM_close_L136 _ _ _ m (nI (i + 1)) t'
      rw [fM_close_L136, if_neg (by rw [nn_le (by omega) (by omega)]; omega), f1, fM_close_K146_210, nI_1]
    · rintro m ⟨t, U⟩ ⟨i0, i1, i2, i3⟩
      have i3 : ∀ x y j, x < n → pm_Wi A (k + 1) j x y → U x y ≤ j := i3
      refine ⟨t, U, ?_, i0, i1, fun x y j hw => ?_⟩
      · show fM_close_L136 _ _ _ (m + 1) (nI n) t = _
        rw [fM_close_L136, if_pos (by rw [nn_le (by omega) (by omega)]; omega)]
      · have hx : x < n := by
          cases j with
          | zero => exact hw.elim
          | succ j =>
            cases j with
            | zero => exact (hA x y hw).1
            | succ j =>
              obtain ⟨z, _, h2, _⟩ := hw
              exact (hA x z h2).1
        exact i3 x y j hx hw
  refine lo_up (σ := (Nat → Int32) × (Nat → Nat → Nat)) (fun m i z => fM_close_L126 kk (nI n) m (nI i) z.1) (fun i z => ms_S z.1 z.2 ∧ pm_S1 A z.2 ∧ pm_S2 A i z.2)
      (fun r => ∃ st' S', r = kk st' ∧ ms_S st' S' ∧ pm_S1 A S' ∧ pm_S2 A n S') n ?_ ?_ FU 0 (st, S) (Nat.zero_le _) (by rw [FU_eq]; omega) ⟨h0, h1, h2⟩
  · rintro m i ⟨t, U⟩ hi ⟨i0, i1, i2⟩
    obtain ⟨t', U', f1, f2, f3, f4⟩ := L2 i hi (fM_close_K136_216 (fun a0 a1 => fM_close_L126 kk (nI n) m a0 a1) (nI i)) t U i0 i1 i2
    refine Or.inr ⟨(t', U'), ?_, f2, f3, f4⟩
    show fM_close_L126 _ _ (m + 1) (nI i) t = fM_close_L126 _ _ m (nI (i + 1)) t'
    rw [fM_close_L126, if_neg (by rw [nn_le (by omega) (by omega)]; omega), f1, fM_close_K136_216, nI_1]
  · rintro m ⟨t, U⟩ ⟨i0, i1, i2⟩
    refine ⟨t, U, ?_, i0, i1, i2⟩
    show fM_close_L126 _ _ (m + 1) (nI n) t = _
    rw [fM_close_L126, if_pos (by rw [nn_le (by omega) (by omega)]; omega)]
