-- sets of ranks as the bits of a long
def mk_t (m : Int64) (r : Nat) : Bool := m.toBitVec.getLsbD r
theorem mk_or (a b : Int64) (r : Nat) : mk_t (a ||| b) r = (mk_t a r || mk_t b r) := by
  unfold mk_t; rw [Int64.toBitVec_or, BitVec.getLsbD_or]
theorem mk_and (a b : Int64) (r : Nat) : mk_t (a &&& b) r = (mk_t a r && mk_t b r) := by
  unfold mk_t; rw [Int64.toBitVec_and, BitVec.getLsbD_and]
theorem mk_not (a : Int64) {r : Nat} (hr : r < 64) : mk_t (a ^^^ (-1)) r = !mk_t a r := by
  have ha : (-1 : Int64).toBitVec = BitVec.allOnes 64 := by decide
  unfold mk_t; rw [Int64.toBitVec_xor, ha, BitVec.getLsbD_xor, BitVec.getLsbD_allOnes]
  simp [hr]
theorem mk_0 (r : Nat) : mk_t 0 r = false := by
  unfold mk_t
  have h : (0 : Int64).toBitVec = 0#64 := by decide
  rw [h]; simp
theorem mk_ge (a : Int64) {r : Nat} (hr : 64 ≤ r) : mk_t a r = false := by
  unfold mk_t; exact BitVec.getLsbD_of_ge _ _ hr
theorem mk_ext {a b : Int64} (h : ∀ r, r < 64 → mk_t a r = mk_t b r) : a = b := by
  apply Int64.toBitVec_inj.mp
  apply BitVec.eq_of_getLsbD_eq
  intro i hi
  exact h i hi
theorem mk_ne0 {a : Int64} (h : a ≠ 0) : ∃ r, r < 64 ∧ mk_t a r = true := by
  refine Classical.byContradiction fun hh => h (mk_ext fun r hr => ?_)
  rw [mk_0]
  cases hb : mk_t a r with
  | false => rfl
  | true => exact absurd ⟨r, hr, hb⟩ hh
theorem mk_lN (n : Nat) (hn : n < 2 ^ 64) (r : Nat) : mk_t (lN n) r = n.testBit r := by
  unfold mk_t
  rw [wb_tb, BitVec.getLsbD_ofNat]
  by_cases hr : r < 64
  · simp [hr]
  · have : n.testBit r = false := Nat.testBit_lt_two_pow (Nat.lt_of_lt_of_le hn (Nat.pow_le_pow_right (by decide) (by omega)))
    simp [this]
theorem mk_one {r : Nat} (hr : r < 64) (j : Nat) : mk_t ((1 : Int64) <<< ((nI r).toInt64 &&& 63)) j = decide (j = r) := by
  have h1 : (1 : Int64) = lN 1 := rfl
  rw [h1, wb_shl 1 hr, Nat.one_mul, mk_lN _ (wb_lt2 hr), Nat.testBit_two_pow]
  by_cases h : j = r
  · subst h; simp
  · simp [h, Ne.symm h, show ¬ r = j from fun q => h q.symm]
theorem mk_cmp0 (x : Int64) : (lg_cmp x 0 = 0) = (x = 0) := by
  apply propext
  unfold lg_cmp
  by_cases h : x = 0
  · subst h
    simp [show ¬ ((0 : Int64) > 0) by decide]
  · by_cases h2 : x > 0
    · rw [if_pos h2]; simp [h]
    · rw [if_neg h2, if_neg h]; simp [h]
theorem mk_has {m : Int64} {r : Nat} (hr : r < 64) : ((m.toUInt64 >>> ((nI r).toInt64.toUInt64 &&& Int64.toUInt64 63)).toInt64 &&& 1 = 0) = (mk_t m r = false) := by
  rw [wb_cu r hr]
  exact propext (ts_bit hr (by show (BitVec.ofNat 64 r).toNat = r; rw [BitVec.toNat_ofNat, Nat.mod_eq_of_lt (by omega)]))
-- the lowest bit
theorem mk_low : ∀ n : Nat, n ≠ 0 → ∃ z q, n = 2 ^ (z + 1) * q + 2 ^ z := by
  intro n
  induction n using Nat.strongRecOn with
  | ind n ih =>
    intro hn
    rcases Nat.mod_two_eq_zero_or_one n with h | h
    · obtain ⟨z, q, hz⟩ := ih (n / 2) (by omega) (by omega)
      refine ⟨z + 1, q, ?_⟩
      have : n = 2 * (n / 2) := by omega
      rw [this, hz, Nat.pow_succ 2 (z + 1), Nat.pow_succ 2 z]
      simp only [Nat.mul_add, Nat.mul_assoc, Nat.mul_comm, Nat.mul_left_comm]
    · exact ⟨0, n / 2, by omega⟩
theorem mk_low_bits (z q j : Nat) : (2 ^ (z + 1) * q + 2 ^ z).testBit j = if j < z then false else if j = z then true else q.testBit (j - (z + 1)) := by
  rw [Nat.testBit_two_pow_mul_add q (Nat.pow_lt_pow_right (by decide) (Nat.lt_succ_self z)) j, Nat.testBit_two_pow]
  by_cases h1 : j < z
  · rw [if_pos (by omega), if_pos h1]; simp; omega
  · rw [if_neg h1]
    by_cases h2 : j = z
    · subst h2; rw [if_pos (by omega), if_pos rfl]; simp
    · rw [if_neg (by omega), if_neg h2]
theorem mk_pred_bits (z q j : Nat) : (2 ^ (z + 1) * q + 2 ^ z - 1).testBit j = if j < z then true else if j = z then false else q.testBit (j - (z + 1)) := by
  have hp : 0 < 2 ^ z := Nat.pow_pos (by decide)
  have h3 : 2 ^ z - 1 < 2 ^ (z + 1) := by rw [Nat.pow_succ]; omega
  rw [Nat.add_sub_assoc hp, Nat.testBit_two_pow_mul_add q h3 j, Nat.testBit_two_pow_sub_one]
  by_cases h1 : j < z
  · rw [if_pos (by omega), if_pos h1]; simp [h1]
  · rw [if_neg h1]
    by_cases h2 : j = z
    · subst h2; rw [if_pos (by omega), if_pos rfl]; simp
    · rw [if_neg (by omega), if_neg h2]
/-- z is the lowest bit of m -/
def mk_z (m : Int64) (z : Nat) : Prop := z < 64 ∧ mk_t m z = true ∧ ∀ j, j < z → mk_t m j = false
theorem mk_z_ex {m : Int64} (h : m ≠ 0) : ∃ z, mk_z m z ∧ (m &&& (-m)) - 1 = lN (2 ^ z - 1) ∧ ∀ j, mk_t (m &&& (m - 1)) j = (mk_t m j && decide (j ≠ z)) := by
  obtain ⟨n, hn, rfl⟩ := wb_of m
  have h0 : n ≠ 0 := fun e => h (by rw [e]; rfl)
  obtain ⟨z, q, hz⟩ := mk_low n h0
  have hp : 0 < 2 ^ z := Nat.pow_pos (by decide)
  have hzl : z < 64 := by
    rcases Nat.lt_or_ge z 64 with g | g
    · exact g
    · have := Nat.pow_le_pow_right (show 0 < 2 by decide) g
      omega
  have hb : ∀ j, n.testBit j = if j < z then false else if j = z then true else q.testBit (j - (z + 1)) := fun j => by rw [hz]; exact mk_low_bits z q j
  have hb1 : ∀ j, (n - 1).testBit j = if j < z then true else if j = z then false else q.testBit (j - (z + 1)) := fun j => by rw [hz]; exact mk_pred_bits z q j
  have hs : lN n - 1 = lN (n - 1) := by
    have := lN_sub (a := n) (b := 1) (by omega)
    exact this
  have hneg : -lN n = lN (2 ^ 64 - n) := by
    apply wb_inj
    rw [Int64.toBitVec_neg, wb_tb, wb_tb]
    apply BitVec.eq_of_toNat_eq
    rw [BitVec.toNat_neg, BitVec.toNat_ofNat, BitVec.toNat_ofNat, Nat.mod_eq_of_lt hn]
  refine ⟨z, ⟨hzl, ?_, fun j hj => ?_⟩, ?_, fun j => ?_⟩
  · rw [mk_lN n hn, hb, if_neg (by omega), if_pos rfl]
  · rw [mk_lN n hn, hb, if_pos hj]
  · have hx : n &&& (2 ^ 64 - n) = 2 ^ z := by
      apply Nat.eq_of_testBit_eq
      intro j
      have e1 : 2 ^ 64 - n = 2 ^ 64 - (n - 1 + 1) := by omega
      rw [Nat.testBit_and, e1, Nat.testBit_two_pow_sub_succ (by omega), hb, hb1, Nat.testBit_two_pow]
      by_cases h1 : j < z
      · simp [h1]; omega
      · by_cases h2 : j = z
        · subst h2; simp [hzl]
        · rw [if_neg h1, if_neg h2, if_neg h1, if_neg h2]
          cases q.testBit (j - (z + 1)) <;> simp <;> omega
    rw [hneg, wb_and hn (by omega), hx]
    have := lN_sub (a := 2 ^ z) (b := 1) hp
    exact this
  · rw [mk_and, hs, mk_lN n hn, mk_lN (n - 1) (by omega), hb, hb1]
    by_cases h1 : j < z
    · simp [h1]
    · by_cases h2 : j = z
      · subst h2; simp
      · rw [if_neg h1, if_neg h2, if_neg h1, if_neg h2]
        simp [h2]
