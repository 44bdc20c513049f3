-- keys: how many names come before one
def ky_c (nm : Nat → Int32) (x : Int32) : Nat → Nat
  | 0 => 0
  | n + 1 => ky_c nm x n + if nm n < x then 1 else 0
theorem ky_c_le (nm : Nat → Int32) (x : Int32) : ∀ n, ky_c nm x n ≤ n
  | 0 => Nat.le_refl _
  | n + 1 => by
    have := ky_c_le nm x n
    show ky_c nm x n + (if nm n < x then 1 else 0) ≤ n + 1
    split <;> omega
theorem ky_c_mono (nm : Nat → Int32) {x y : Int32} (h : x ≤ y) : ∀ n, ky_c nm x n ≤ ky_c nm y n
  | 0 => Nat.le_refl _
  | n + 1 => by
    have := ky_c_mono nm h n
    show ky_c nm x n + (if nm n < x then 1 else 0) ≤ ky_c nm y n + (if nm n < y then 1 else 0)
    by_cases h1 : nm n < x
    · have h2 : nm n < y := by
        rw [Int32.lt_iff_toInt_lt] at h1 ⊢
        rw [Int32.le_iff_toInt_le] at h
        omega
      rw [if_pos h1, if_pos h2]; omega
    · rw [if_neg h1]; omega
theorem ky_c_lt (nm : Nat → Int32) {x y : Int32} {j : Nat} (h1 : x ≤ nm j) (h2 : nm j < y) : ∀ n, j < n → ky_c nm x n < ky_c nm y n
  | 0, h => absurd h (Nat.not_lt_zero _)
  | n + 1, h => by
    have hxy : x ≤ y := by
      rw [Int32.le_iff_toInt_le] at h1 ⊢
      rw [Int32.lt_iff_toInt_lt] at h2
      omega
    show ky_c nm x n + (if nm n < x then 1 else 0) < ky_c nm y n + (if nm n < y then 1 else 0)
    rcases Nat.lt_or_ge j n with q | q
    · have ih := ky_c_lt nm h1 h2 n q
      by_cases g1 : nm n < x
      · have g2 : nm n < y := by
          rw [Int32.lt_iff_toInt_lt] at g1 ⊢
          rw [Int32.le_iff_toInt_le] at hxy
          omega
        rw [if_pos g1, if_pos g2]; omega
      · rw [if_neg g1]; omega
    · have e : j = n := by omega
      subst e
      have := ky_c_mono nm hxy j
      have g1 : ¬ nm j < x := by
        rw [Int32.lt_iff_toInt_lt]
        rw [Int32.le_iff_toInt_le] at h1
        omega
      rw [if_neg g1, if_pos h2]; omega
theorem ky_c_congr {nm nm' : Nat → Int32} (x : Int32) : ∀ n, (∀ j, j < n → nm j = nm' j) → ky_c nm x n = ky_c nm' x n
  | 0, _ => rfl
  | n + 1, h => by
    have ih := ky_c_congr x n (fun j hj => h j (by omega))
    show ky_c nm x n + (if nm n < x then 1 else 0) = ky_c nm' x n + (if nm' n < x then 1 else 0)
    rw [ih, h n (by omega)]
theorem ky_lt {x y : Int32} (h : x ≠ y) : x < y ∨ y < x := by
  rw [Int32.lt_iff_toInt_lt, Int32.lt_iff_toInt_lt]
  have : x.toInt ≠ y.toInt := fun q => h (Int32.toInt_inj.mp q)
  omega
theorem ky_irr (x : Int32) : x ≤ x := by rw [Int32.le_iff_toInt_le]; omega
/-- a key's rank among n -/
def ky_r (nm : Nat → Int32) (n j : Nat) : Nat := ky_c nm (nm j) n
theorem ky_r_lt {nm : Nat → Int32} {n j : Nat} (h : j < n) : ky_r nm n j < n := by
  have key : ∀ n, j < n → ky_c nm (nm j) n < n := by
    intro n
    induction n with
    | zero => intro h; omega
    | succ n ih =>
      intro h
      show ky_c nm (nm j) n + (if nm n < nm j then 1 else 0) < n + 1
      rcases Nat.lt_or_ge j n with q | q
      · have := ih q
        split <;> omega
      · have e : j = n := by omega
        subst e
        have := ky_c_le nm (nm j) j
        have g1 : ¬ nm j < nm j := by rw [Int32.lt_iff_toInt_lt]; omega
        rw [if_neg g1]; omega
  exact key n h
theorem ky_r_inj {nm : Nat → Int32} {n i j : Nat} (hd : ∀ i j, i < n → j < n → nm i = nm j → i = j) (hi : i < n) (hj : j < n) (h : ky_r nm n i = ky_r nm n j) : i = j := by
  refine Classical.byContradiction fun hne => ?_
  have hnm : nm i ≠ nm j := fun q => hne (hd i j hi hj q)
  unfold ky_r at h
  rcases ky_lt hnm with q | q
  · have := ky_c_lt nm (ky_irr (nm i)) q n hi
    omega
  · have := ky_c_lt nm (ky_irr (nm j)) q n hj
    omega
theorem ky_r_sur {nm : Nat → Int32} {n r : Nat} (hd : ∀ i j, i < n → j < n → nm i = nm j → i = j) (hr : r < n) : ∃ j, j < n ∧ ky_r nm n j = r := by
  refine Classical.byContradiction fun hh => ?_
  have := pm_pig (n - 1) n (fun j v => ky_r nm n j = if v < r then v else v + 1) (fun j hj => by
    have h1 := ky_r_lt (nm := nm) hj
    have h2 : ky_r nm n j ≠ r := fun q => hh ⟨j, hj, q⟩
    rcases Nat.lt_or_ge (ky_r nm n j) r with q | q
    · exact ⟨ky_r nm n j, by omega, by rw [if_pos q]⟩
    · exact ⟨ky_r nm n j - 1, by omega, by rw [if_neg (by omega)]; omega⟩) (fun i j v hi hj h1 h2 => ky_r_inj hd hi hj (h1.trans h2.symm))
  omega
/-- the keys' rows: names that differ, ranks, and the keys by rank -/
def ky_I (n : Nat) (cnt : Int32) (nm br ro : Nat → Int32) : Prop := n ≤ 40 ∧ cnt = nI n ∧ (∀ i j, i < n → j < n → nm i = nm j → i = j) ∧ (∀ j, j < n → ro j = nI (ky_r nm n j)) ∧ ∀ j, j < n → br (ky_r nm n j) = nI j
theorem ky_named1 {n : Nat} {nm : Nat → Int32} {x : Int32} {j : Nat} (hn : n ≤ 40) (hj : j < n) (hx : nm j = x) : fK_isNamed (nI n) nm x = some 1 := by
  unfold fK_isNamed
  refine lo_up (σ := Unit) (fun m i _ => fK_isNamed_L2 fK_isNamed_K2_28 (nI n) nm x m (nI i)) (fun i _ => i ≤ j) (fun r => r = some 1) n ?_ ?_ FU 0 () (Nat.zero_le _) (by rw [FU_eq]; omega) (Nat.zero_le _)
  · intro m i _ hi hI
    show fK_isNamed_L2 _ _ _ _ (m + 1) (nI i) = some 1 ∨ ∃ _, fK_isNamed_L2 _ _ _ _ (m + 1) (nI i) = fK_isNamed_L2 _ _ _ _ m (nI (i + 1)) ∧ _
    rw [fK_isNamed_L2, if_neg (by rw [nn_le (by omega) (by omega)]; omega), nn_ck (by omega) (by omega), nn_cl (by omega), nI_1]
    by_cases h : nm i = x
    · exact Or.inl (if_pos h)
    · refine Or.inr ⟨(), if_neg h, ?_⟩
      rcases Nat.lt_or_ge i j with q | q
      · exact q
      · have e : i = j := by omega
        subst e
        exact absurd hx h
  · intro m _ hI
    omega
theorem ky_named0 {n : Nat} {nm : Nat → Int32} {x : Int32} (hn : n ≤ 40) (hx : ∀ j, j < n → nm j ≠ x) : fK_isNamed (nI n) nm x = some 0 := by
  unfold fK_isNamed
  refine lo_up (σ := Unit) (fun m i _ => fK_isNamed_L2 fK_isNamed_K2_28 (nI n) nm x m (nI i)) (fun i _ => True) (fun r => r = some 0) n ?_ ?_ FU 0 () (Nat.zero_le _) (by rw [FU_eq]; omega) trivial
  · intro m i _ hi hI
    refine Or.inr ⟨(), ?_, trivial⟩
    show fK_isNamed_L2 _ _ _ _ (m + 1) (nI i) = fK_isNamed_L2 _ _ _ _ m (nI (i + 1))
    rw [fK_isNamed_L2, if_neg (by rw [nn_le (by omega) (by omega)]; omega), nn_ck (by omega) (by omega), nn_cl (by omega), nI_1, if_neg (hx i hi)]
  · intro m _ _
    show fK_isNamed_L2 _ _ _ _ (m + 1) (nI n) = _
    rw [fK_isNamed_L2, if_pos (by rw [nn_le (by omega) (by omega)]; omega)]
    rfl
theorem ky_insert {n : Nat} {nm br ro : Nat → Int32} (hn : n < 40) (hd : ∀ i j, i < n + 1 → j < n + 1 → nm i = nm j → i = j) (hro : ∀ j, j < n → ro j = nI (ky_r nm n j)) :
    ∃ br' ro', fK_insert nm br ro (nI n) = some (br', ro') ∧ (∀ j, j < n + 1 → ro' j = nI (ky_r nm (n + 1) j)) ∧ ∀ j, j < n + 1 → br' (ky_r nm (n + 1) j) = nI j := by
  have hup : ∀ j, j < n → ky_r nm (n + 1) j = ky_r nm n j + if nm n < nm j then 1 else 0 := fun j _ => rfl
  have hself : ky_r nm (n + 1) n = ky_c nm (nm n) n := by
    show ky_c nm (nm n) n + (if nm n < nm n then 1 else 0) = _
    rw [if_neg (by rw [Int32.lt_iff_toInt_lt]; omega)]
    rfl
  -- the second loop
  have h2 : ∀ (ro' : Nat → Int32), (∀ j, j < n + 1 → ro' j = nI (ky_r nm (n + 1) j)) → ∃ br', fK_insert_L55 (fK_insert_K55_78 ro') ro' (nI n) FU 0 br = some (br', ro') ∧ ∀ j, j < n + 1 → br' (ky_r nm (n + 1) j) = nI j := by
    intro ro' hr
    refine lo_up (σ := Nat → Int32) (fun m i b => fK_insert_L55 (fK_insert_K55_78 ro') ro' (nI n) m (nI i) b) (fun i b => ∀ j, j < i → b (ky_r nm (n + 1) j) = nI j) (fun r => ∃ br', r = some (br', ro') ∧ ∀ j, j < n + 1 → br' (ky_r nm (n + 1) j) = nI j) (n + 1) ?_ ?_ FU 0 br (Nat.zero_le _) (by rw [FU_eq]; omega) (fun j hj => by omega)
    · intro m i b hi hI
      have hlt := ky_r_lt (nm := nm) hi
      refine Or.inr ⟨upd b (ky_r nm (n + 1) i) (nI i), ?_, ?_⟩
      · show fK_insert_L55 _ _ _ (m + 1) (nI i) b = fK_insert_L55 _ _ _ m (nI (i + 1)) _
        rw [fK_insert_L55, if_neg (by rw [nn_lt (by omega) (by omega)]; omega), nn_ck (by omega) (by omega), nn_cl (by omega), hr i hi, nn_ck (by omega) (by omega), nn_cl (by omega), nI_1]
      · intro j hj
        by_cases e : j = i
        · subst e; exact pk_us
        · rw [pk_un (fun q => e (ky_r_inj hd (by omega) hi q))]
          exact hI j (by omega)
    · intro m b hI
      refine ⟨b, ?_, hI⟩
      show fK_insert_L55 _ _ _ (m + 1) (nI (n + 1)) b = _
      rw [fK_insert_L55, if_pos (by rw [nn_lt (by omega) (by omega)]; omega)]
      rfl
  unfold fK_insert
  refine lo_up (σ := Int32 × (Nat → Int32)) (fun m i st => fK_insert_L4 (fK_insert_K4_46 br (nI n)) nm (nI n) m st.1 (nI i) st.2) (fun i st => st.1 = nI (ky_c nm (nm n) i) ∧ ∀ j, j < n → st.2 j = nI (ky_r nm n j + if j < i then (if nm n < nm j then 1 else 0) else 0)) (fun r => ∃ br' ro', r = some (br', ro') ∧ (∀ j, j < n + 1 → ro' j = nI (ky_r nm (n + 1) j)) ∧ ∀ j, j < n + 1 → br' (ky_r nm (n + 1) j) = nI j) n ?_ ?_ FU 0 (0, ro) (Nat.zero_le _) (by rw [FU_eq]; omega) ⟨rfl, fun j hj => by rw [if_neg (by omega), Nat.add_zero]; exact hro j hj⟩
  · rintro m i ⟨v, r⟩ hi ⟨hI1, hI2⟩
    have hI1 : v = nI (ky_c nm (nm n) i) := hI1
    have hI2 : ∀ j, j < n → r j = nI (ky_r nm n j + if j < i then (if nm n < nm j then 1 else 0) else 0) := hI2
    refine Or.inr ?_
    show ∃ st' : Int32 × (Nat → Int32), fK_insert_L4 _ _ _ (m + 1) v (nI i) r = fK_insert_L4 _ _ _ m st'.1 (nI (i + 1)) st'.2 ∧ _
    rw [fK_insert_L4, if_neg (by rw [nn_le (by omega) (by omega)]; omega), nn_ck (by omega) (by omega), nn_ck (by omega) (by omega), nn_cl (by omega), nn_cl (by omega), nI_1]
    by_cases h : nm n ≤ nm i
    · have h' : nm n < nm i := by
        rcases ky_lt (fun q : nm n = nm i => absurd (hd n i (by omega) (by omega) q) (by omega)) with q | q
        · exact q
        · rw [Int32.le_iff_toInt_le] at h
          rw [Int32.lt_iff_toInt_lt] at q
          omega
      rw [if_pos h, nn_ck (by omega) (by omega), nn_ck (by omega) (by omega)]
      refine ⟨(v, upd r i (r i + 1)), rfl, ?_, fun j hj => ?_⟩
      · show v = nI (ky_c nm (nm n) i + if nm i < nm n then 1 else 0)
        rw [if_neg (by rw [Int32.lt_iff_toInt_lt] at h' ⊢; omega)]
        exact hI1
      · show upd r i (r i + 1) j = _
        by_cases e : j = i
        · subst e
          rw [pk_us, hI2 j hj, if_neg (by omega), if_pos (by omega), if_pos h', nI_1]
        · rw [pk_un e, hI2 j hj]
          by_cases q : j < i
          · rw [if_pos q, if_pos (show j < i + 1 by omega)]
          · rw [if_neg q, if_neg (by omega)]
    · have h' : nm i < nm n := by
        rw [Int32.le_iff_toInt_le] at h
        rw [Int32.lt_iff_toInt_lt]
        omega
      rw [if_neg h]
      refine ⟨(v + 1, r), rfl, ?_, fun j hj => ?_⟩
      · show v + 1 = nI (ky_c nm (nm n) i + if nm i < nm n then 1 else 0)
        rw [if_pos h', hI1, nI_1]
      · show r j = _
        rw [hI2 j hj]
        by_cases q : j < i
        · rw [if_pos q, if_pos (show j < i + 1 by omega)]
        · rw [if_neg q]
          by_cases e : j = i
          · subst e
            rw [if_pos (by omega), if_neg (by rw [Int32.lt_iff_toInt_lt] at h' ⊢; omega)]
          · rw [if_neg (by omega)]
  · rintro m ⟨v, r⟩ ⟨hI1, hI2⟩
    have hI1 : v = nI (ky_c nm (nm n) n) := hI1
    have hI2 : ∀ j, j < n → r j = nI (ky_r nm n j + if j < n then (if nm n < nm j then 1 else 0) else 0) := hI2
    show ∃ br' ro', fK_insert_L4 _ _ _ (m + 1) v (nI n) r = some (br', ro') ∧ _
    rw [fK_insert_L4, if_pos (by rw [nn_le (by omega) (by omega)]; omega), fK_insert_K4_46, nn_ck (by omega) (by omega), nn_cl (by omega)]
    have hr : ∀ j, j < n + 1 → upd r n v j = nI (ky_r nm (n + 1) j) := by
      intro j hj
      by_cases e : j = n
      · subst e
        rw [pk_us, hself]; exact hI1
      · have hj' : j < n := by omega
        rw [pk_un e, hI2 j hj', if_pos hj', hup j hj']
    obtain ⟨br', g1, g2⟩ := h2 (upd r n v) hr
    exact ⟨br', _, g1, hr, g2⟩
/-- key, in the class -/
theorem ky_add {n : Nat} {cnt : Int32} {nm br ro : Nat → Int32} (h : ky_I n cnt nm br ro) (x : Int32) :
    (n < 40 ∧ (∀ j, j < n → nm j ≠ x) ∧ ∃ br' ro', fC_key cnt nm br ro x = some (nI n, nI (n + 1), upd nm n x, br', ro') ∧ ky_I (n + 1) (nI (n + 1)) (upd nm n x) br' ro') ∨
    ((n = 40 ∨ ∃ j, j < n ∧ nm j = x) ∧ fC_key cnt nm br ro x = some (-1, cnt, nm, br, ro)) := by
  obtain ⟨hn, rfl, hd, h1, h2⟩ := h
  rcases Nat.lt_or_ge n 40 with q | q
  · by_cases hx : ∃ j, j < n ∧ nm j = x
    · obtain ⟨j, hj, hx⟩ := hx
      refine Or.inr ⟨Or.inr ⟨j, hj, hx⟩, ?_⟩
      rw [fC_key, fK_add, if_neg (by show ¬ nI 40 ≤ nI n; rw [nn_le (by omega) (by omega)]; omega), ky_named1 hn hj hx]
      rfl
    · have hx' : ∀ j, j < n → nm j ≠ x := fun j hj e => hx ⟨j, hj, e⟩
      have hnm : ∀ j, j < n → upd nm n x j = nm j := fun j hj => pk_un (by omega)
      have hr : ∀ j, j < n → ky_r (upd nm n x) n j = ky_r nm n j := fun j hj => by
        unfold ky_r
        rw [hnm j hj]
        exact ky_c_congr _ n hnm
      have hd' : ∀ i j, i < n + 1 → j < n + 1 → upd nm n x i = upd nm n x j → i = j := by
        intro i j hi hj he
        by_cases e1 : i = n
        · by_cases e2 : j = n
          · omega
          · subst e1
            rw [pk_us, hnm j (by omega)] at he
            exact absurd he.symm (hx' j (by omega))
        · by_cases e2 : j = n
          · subst e2
            rw [pk_us, hnm i (by omega)] at he
            exact absurd he (hx' i (by omega))
          · rw [hnm i (by omega), hnm j (by omega)] at he
            exact hd i j (by omega) (by omega) he
      obtain ⟨br', ro', g1, g2, g3⟩ := ky_insert (n := n) (nm := upd nm n x) (br := br) (ro := ro) q hd' (fun j hj => by rw [h1 j hj, hr j hj])
      refine Or.inl ⟨q, hx', br', ro', ?_, by omega, rfl, hd', g2, g3⟩
      rw [fC_key, fK_add, if_neg (by show ¬ nI 40 ≤ nI n; rw [nn_le (by omega) (by omega)]; omega), ky_named0 hn hx', Option.bind_some, if_pos rfl, nn_ck q (by omega), nn_cl (by omega), g1, Option.bind_some, nI_1]
      rfl
  · refine Or.inr ⟨Or.inl (by omega), ?_⟩
    rw [fC_key, fK_add, if_pos (by show nI 40 ≤ nI n; rw [nn_le (by omega) (by omega)]; omega)]
    rfl
