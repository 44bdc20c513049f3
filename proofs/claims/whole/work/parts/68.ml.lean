-- the reference: walks that stay behind a point, and its least rings
theorem ml_c (q a : Nat) : (40 * nI q) + nI a = nI (40 * q + a) := by
  rw [show (40 : Int32) = nI 40 from rfl, pk_mul, nI_add]
theorem ml_p {q : Nat} (h : 1 ≤ q) : nI q - 1 = nI (q - 1) := by
  have e : q = (q - 1) + 1 := by omega
  conv => lhs; rw [e]
  exact nI_pred _
def ml_r (A : Nat → Nat → Prop) (n F r : Nat) (ba : Nat → Int32) : Prop := ∀ v, F ≤ v → v < n → (ba (40 * r + v) = 0 ↔ ¬ pm_B A F r v)
theorem ml_lead {A : Nat → Nat → Prop} {n F L : Nat} {as ba : Nat → Int32} (hn : n ≤ 40) (hA : ∀ x y, A x y → x < n ∧ y < n) (hL : L ≤ 40) (has : ∀ a b, a < 40 → b < 40 → (as (40 * a + b) = 0 ↔ ¬ A a b)) (hF : F ≤ 40) :
    ∃ ba', fM_lead (nI n) as ba (nI F) (nI L) = some ba' ∧ ∀ r, r ≤ L → ml_r A n F r ba' := by
  -- one point of a row
  have L3 : ∀ (q a : Nat), 1 ≤ q → q ≤ L → F ≤ a → a < n → ∀ (ba : Nat → Int32), ml_r A n F (q - 1) ba → ∀ (kk : Int32 → Option (Nat → Int32)), ∃ v : Int32, fM_lead_L55 kk (nI n) as ba (nI F) (nI q) (nI a) FU 0 (nI F) = kk v ∧ ((v = 1 ∧ pm_B A F q a) ∨ (v = 0 ∧ ¬ pm_B A F q a)) := by
    intro q a hq1 hq2 haF han ba hba kk
    obtain ⟨q', rfl⟩ : ∃ q', q = q' + 1 := ⟨q - 1, by omega⟩
    have hba : ml_r A n F q' ba := hba
    have e40 : (40 * (nI (q' + 1) - 1)) = 40 * nI q' := by rw [nI_pred]
    refine lo_up (σ := Int32) (fun m i v => fM_lead_L55 kk (nI n) as ba (nI F) (nI (q' + 1)) (nI a) m v (nI i)) (fun i v => F ≤ i ∧ ((v = 1 ∧ pm_B A F (q' + 1) a) ∨ (v = 0 ∧ ¬ ∃ b, b < i ∧ F ≤ b ∧ A a b ∧ pm_B A F q' b ∧ (F < b ∨ q' = 0)))) (fun r => ∃ v : Int32, r = kk v ∧ ((v = 1 ∧ pm_B A F (q' + 1) a) ∨ (v = 0 ∧ ¬ pm_B A F (q' + 1) a))) n ?_ ?_ FU F 0 (by omega) (by rw [FU_eq]; omega) ⟨Nat.le_refl _, Or.inr ⟨rfl, fun ⟨b, h1, h2, _⟩ => by omega⟩⟩
    · rintro m i v hi ⟨hFi, hI⟩
      refine Or.inr ?_
      show ∃ v', fM_lead_L55 _ _ _ _ _ _ _ (m + 1) v (nI i) = fM_lead_L55 _ _ _ _ _ _ _ m v' (nI (i + 1)) ∧ _
      rw [fM_lead_L55, if_neg (by rw [nn_le (by omega) (by omega)]; omega)]
      rcases hI with ⟨rfl, hI⟩ | ⟨rfl, hI⟩
      · rw [if_neg one_ne, nI_1]
        exact ⟨1, rfl, by omega, Or.inl ⟨rfl, hI⟩⟩
      · have hno : ¬ (A a i ∧ pm_B A F q' i ∧ (F < i ∨ q' = 0)) → ¬ ∃ b, b < i + 1 ∧ F ≤ b ∧ A a b ∧ pm_B A F q' b ∧ (F < b ∨ q' = 0) := by
          rintro h ⟨b, h1, h2, h3⟩
          rcases Nat.lt_or_ge b i with g | g
          · exact hI ⟨b, g, h2, h3⟩
          · have e : b = i := by omega
            subst e
            exact h h3
        rw [if_pos rfl, ms_cell, Option.bind_some, nn_ck (show 40 * a + i < 1600 by omega) (by omega), nn_cl (show 40 * a + i ≤ 100000 by omega), nI_1]
        by_cases h1 : as (40 * a + i) = 0
        · rw [if_pos h1]
          exact ⟨0, rfl, by omega, Or.inr ⟨rfl, hno fun q => (has a i (by omega) (by omega)).mp h1 q.1⟩⟩
        · have hAi : A a i := Classical.byContradiction fun q => h1 ((has a i (by omega) (by omega)).mpr q)
          rw [if_neg h1, e40, ml_c, nn_ck (show 40 * q' + i < 1640 by omega) (by omega), nn_cl (show 40 * q' + i ≤ 100000 by omega)]
          by_cases h2 : ba (40 * q' + i) = 0
          · rw [if_pos h2]
            exact ⟨0, rfl, by omega, Or.inr ⟨rfl, hno fun q => (hba i hFi hi).mp h2 q.2.1⟩⟩
          · have hBi : pm_B A F q' i := Classical.byContradiction fun q => h2 ((hba i hFi hi).mpr q)
            rw [if_neg h2]
            by_cases h3 : F < i
            · rw [if_pos (by rw [nn_lt (by omega) (by omega)]; exact h3)]
              exact ⟨1, rfl, by omega, Or.inl ⟨rfl, i, hFi, hAi, hBi, Or.inl h3⟩⟩
            · rw [if_neg (by rw [nn_lt (by omega) (by omega)]; exact h3)]
              by_cases h4 : q' = 0
              · rw [if_pos (show nI (q' + 1) = 1 by rw [nn_eqR (b := 1) (y := 1) rfl (by omega) (by omega)]; omega)]
                exact ⟨1, rfl, by omega, Or.inl ⟨rfl, i, hFi, hAi, hBi, Or.inr h4⟩⟩
              · rw [if_neg (show ¬ nI (q' + 1) = 1 by rw [nn_eqR (b := 1) (y := 1) rfl (by omega) (by omega)]; omega)]
                refine ⟨0, rfl, by omega, Or.inr ⟨rfl, hno fun q => ?_⟩⟩
                rcases q.2.2 with q | q
                · exact h3 q
                · exact h4 q
    · rintro m v ⟨hFi, hI⟩
      refine ⟨v, ?_, ?_⟩
      · show fM_lead_L55 _ _ _ _ _ _ _ (m + 1) v (nI n) = _
        rw [fM_lead_L55, if_pos (by rw [nn_le (by omega) (by omega)]; omega)]
      · rcases hI with hI | ⟨e, hI⟩
        · exact Or.inl hI
        · refine Or.inr ⟨e, ?_⟩
          rintro ⟨b, h1, h2, h3⟩
          exact hI ⟨b, (hA _ _ h2).2, h1, h2, h3⟩
  -- a row
  have L2 : ∀ (q : Nat), 1 ≤ q → q ≤ L → ∀ (ba : Nat → Int32), (∀ r, r < q → ml_r A n F r ba) → ∀ (kk : (Nat → Int32) → Option (Nat → Int32)), ∃ ba', fM_lead_L40 kk (nI n) as (nI F) (nI q) FU (nI F) ba = kk ba' ∧ ∀ r, r < q + 1 → ml_r A n F r ba' := by
    intro q hq1 hq2 ba hba kk
    rcases Nat.lt_or_ge n F with hnF | hnF
    · have e : FU = 99999 + 1 := FU_eq
      refine ⟨ba, ?_, fun r hr v h1 h2 => by omega⟩
      rw [e, fM_lead_L40, if_pos (by rw [nn_le (by omega) (by omega)]; omega)]
    · refine lo_up (σ := Nat → Int32) (fun m i z => fM_lead_L40 kk (nI n) as (nI F) (nI q) m (nI i) z) (fun i z => F ≤ i ∧ (∀ r, r < q → ml_r A n F r z) ∧ ∀ v, F ≤ v → v < i → (z (40 * q + v) = 0 ↔ ¬ pm_B A F q v)) (fun r => ∃ ba', r = kk ba' ∧ ∀ r, r < q + 1 → ml_r A n F r ba') n ?_ ?_ FU F ba hnF (by rw [FU_eq]; omega) ⟨Nat.le_refl _, hba, fun v h1 h2 => by omega⟩
      · rintro m i z hi ⟨hFi, hI1, hI2⟩
        obtain ⟨v, v1, v2⟩ := L3 q i hq1 hq2 hFi hi z (hI1 (q - 1) (by omega)) (fM_lead_K55_125 (fun a0 a1 => fM_lead_L40 kk (nI n) as (nI F) (nI q) m a0 a1) z (nI q) (nI i))
        have hv : vp_nar .boolean v = v := by rcases v2 with ⟨rfl, _⟩ | ⟨rfl, _⟩ <;> rfl
        refine Or.inr ⟨upd z (40 * q + i) v, ?_, by omega, fun r hr w hw1 hw2 => ?_, fun w hw1 hw2 => ?_⟩
        · show fM_lead_L40 _ _ _ _ _ (m + 1) (nI i) z = fM_lead_L40 _ _ _ _ _ m (nI (i + 1)) _
          rw [fM_lead_L40, if_neg (by rw [nn_le (by omega) (by omega)]; omega), v1, fM_lead_K55_125, ml_c, nn_ck (show 40 * q + i < 1640 by omega) (by omega), nn_cl (show 40 * q + i ≤ 100000 by omega), nI_1, hv]
        · rw [pk_un (by omega)]; exact hI1 r hr w hw1 hw2
        · by_cases e : w = i
          · subst e
            rw [pk_us]
            rcases v2 with ⟨rfl, h⟩ | ⟨rfl, h⟩
            · exact ⟨fun q => absurd q one_ne, fun q => absurd h q⟩
            · exact ⟨fun _ => h, fun _ => rfl⟩
          · rw [pk_un (by omega)]; exact hI2 w hw1 (by omega)
      · rintro m z ⟨hFi, hI1, hI2⟩
        refine ⟨z, ?_, fun r hr => ?_⟩
        · show fM_lead_L40 _ _ _ _ _ (m + 1) (nI n) z = _
          rw [fM_lead_L40, if_pos (by rw [nn_le (by omega) (by omega)]; omega)]
        · rcases Nat.lt_or_ge r q with g | g
          · exact hI1 r g
          · have e : r = q := by omega
            subst e
            exact hI2
  -- all rows
  have L1 : ∀ (ba : Nat → Int32), ml_r A n F 0 ba → ∃ ba', fM_lead_K2_30 (nI n) as (nI F) (nI L) ba = some ba' ∧ ∀ r, r ≤ L → ml_r A n F r ba' := by
    intro ba hba
    rw [fM_lead_K2_30]
    refine lo_up (σ := Nat → Int32) (fun m i z => fM_lead_L32 fM_lead_K32_151 (nI n) as (nI F) (nI L) m (nI (i + 1)) z) (fun i z => ∀ r, r < i + 1 → ml_r A n F r z) (fun r => ∃ ba', r = some ba' ∧ ∀ r, r ≤ L → ml_r A n F r ba') L ?_ ?_ FU 0 ba (Nat.zero_le _) (by rw [FU_eq]; omega) (fun r hr => by
        have e : r = 0 := by omega
        subst e
        exact hba)
    · intro m i z hi hI
      obtain ⟨z', z1, z2⟩ := L2 (i + 1) (by omega) (by omega) z hI (fM_lead_K40_145 (fun a0 a1 => fM_lead_L32 fM_lead_K32_151 (nI n) as (nI F) (nI L) m a0 a1) (nI (i + 1)))
      refine Or.inr ⟨z', ?_, z2⟩
      show fM_lead_L32 _ _ _ _ _ (m + 1) (nI (i + 1)) z = fM_lead_L32 _ _ _ _ _ m (nI (i + 1 + 1)) z'
      rw [fM_lead_L32, if_neg (by rw [nn_lt (by omega) (by omega)]; omega), z1, fM_lead_K40_145, nI_1]
    · intro m z hI
      refine ⟨z, ?_, fun r hr => hI r (by omega)⟩
      show fM_lead_L32 _ _ _ _ _ (m + 1) (nI (L + 1)) z = _
      rw [fM_lead_L32, if_pos (by rw [nn_lt (by omega) (by omega)]; omega)]
      rfl
  rw [fM_lead]
  refine lo_up (σ := Nat → Int32) (fun m i z => fM_lead_L2 (fM_lead_K2_30 (nI n) as (nI F) (nI L)) (nI F) m (nI i) z) (fun i z => ∀ v, v < i → (z v = 0 ↔ ¬ v = F)) (fun r => ∃ ba', r = some ba' ∧ ∀ r, r ≤ L → ml_r A n F r ba') 40 ?_ ?_ FU 0 ba (Nat.zero_le _) (by rw [FU_eq]; omega) (fun v hv => by omega)
  · intro m i z hi hI
    refine Or.inr ?_
    show ∃ z', fM_lead_L2 _ _ (m + 1) (nI i) z = fM_lead_L2 _ _ m (nI (i + 1)) z' ∧ _
    rw [fM_lead_L2, if_neg (show ¬ 40 ≤ nI i by rw [nn_leL (b := 40) (y := 40) rfl (by omega) (by omega)]; omega)]
    have key : ∀ x : Int32, (x = 0 ↔ ¬ i = F) → ∀ v, v < i + 1 → (upd z i x v = 0 ↔ ¬ v = F) := by
      intro x hx v hv
      by_cases e : v = i
      · subst e; rw [pk_us]; exact hx
      · rw [pk_un e]; exact hI v (by omega)
    by_cases e : i = F
    · rw [if_pos (by rw [nn_eq (by omega) (by omega)]; exact e), nn_ck (show i < 1640 by omega) (by omega), nn_cl (by omega), nI_1]
      exact ⟨_, rfl, key _ ⟨fun q => absurd q one_ne, fun q => absurd e q⟩⟩
    · rw [if_neg (by rw [nn_eq (by omega) (by omega)]; exact e), nn_ck (show i < 1640 by omega) (by omega), nn_cl (by omega), nI_1]
      exact ⟨_, rfl, key _ ⟨fun _ => e, fun _ => rfl⟩⟩
  · intro m z hI
    obtain ⟨ba', b1, b2⟩ := L1 z (fun v hv1 hv2 => by
      have := hI v (by omega)
      rw [Nat.mul_zero, Nat.zero_add]
      exact this)
    refine ⟨ba', ?_, b2⟩
    show fM_lead_L2 _ _ (m + 1) (nI 40) z = _
    rw [fM_lead_L2, if_pos (show 40 ≤ nI 40 by rw [nn_leL (b := 40) (y := 40) rfl (by omega) (by omega)]; omega)]
    exact b1
