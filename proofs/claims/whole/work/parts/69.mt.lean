-- the reference tells a part's ring
theorem mt_inner {A : Nat → Nat → Prop} {n F L i : Nat} {rs : Nat → Nat} {as ba : Nat → Int32} (hn : n ≤ 40) (hA : ∀ x y, A x y → x < n ∧ y < n) (hL : L ≤ 40) (hF : pm_First A F L) (hR : rg_R A F L rs) (hi : i < L) (has : ∀ a b, a < 40 → b < 40 → (as (40 * a + b) = 0 ↔ ¬ A a b)) (hba : ∀ r, r ≤ L → ml_r A n F r ba) (kk : Int32 → Option (Int32 × (Nat → Int32) × (Nat → Int32) × (Nat → Int32))) :
    ∃ v, fM_tellRing_L140 kk as ba (nI F) (nI (rs i)) (nI (L - i)) FU (nI F) = kk (nI v) ∧ pm_L (fun v => A (rs i) v ∧ pm_E A v F (L - 1 - i)) v := by
  have hw := hR.2.2 i hi
  have hx := rg_lt hA hR hi
  have e1 : L - i = (L - 1 - i) + 1 := by omega
  obtain ⟨q, hq⟩ : ∃ q, q = L - 1 - i := ⟨_, rfl⟩
  rw [e1, ← hq] at hw ⊢
  obtain ⟨x, hx1, hx2⟩ := pm_L_ex (pm_next_ex hF (i := i) (q := q) (by omega) hw.1 hw.2)
  have hxn := (hA _ _ hx1.1).2
  have hFx := ((pm_next hF (i := i) (q := q) (by omega) hw.1 x).mp hx1).1
  have hFn : F < n := by
    have hD := hF.1
    have e : L = (L - 1) + 1 := by have := hD.1; omega
    have hw2 := hD.2.1
    rw [e] at hw2
    obtain ⟨y, h1, _⟩ := hw2
    exact (hA _ _ h1).1
  have e40 : (40 * (nI (q + 1) - 1)) = 40 * nI q := by rw [nI_pred]
  refine lo_up (σ := Unit) (fun m j _ => fM_tellRing_L140 kk as ba (nI F) (nI (rs i)) (nI (q + 1)) (m + 1) (nI j)) (fun j _ => F ≤ j ∧ ∀ u, u < j → ¬ (A (rs i) u ∧ pm_E A u F q)) (fun r => ∃ v, r = kk (nI v) ∧ pm_L (fun v => A (rs i) v ∧ pm_E A v F q) v) x ?_ ?_ 99999 F () hFx (by omega) ⟨Nat.le_refl _, fun u hu h => by
      have := ((pm_next hF (i := i) (q := q) (by omega) hw.1 u).mp h).1
      omega⟩ |> fun h => by
        have e : FU = 99999 + 1 := FU_eq
        rw [e]
        exact h
  · rintro m j _ hj ⟨hFj, hI⟩
    have hno : ¬ (A (rs i) j ∧ pm_E A j F q) := fun h => by
      have := hx2 j h
      omega
    refine Or.inr ⟨(), ?_, by omega, fun u hu => ?_⟩
    · show fM_tellRing_L140 _ _ _ _ _ _ (m + 1 + 1) (nI j) = fM_tellRing_L140 _ _ _ _ _ _ (m + 1) (nI (j + 1))
      rw [fM_tellRing_L140, ms_cell, Option.bind_some, nn_ck (show 40 * rs i + j < 1600 by omega) (by omega), nn_cl (show 40 * rs i + j ≤ 100000 by omega), nI_1]
      by_cases h1 : as (40 * rs i + j) = 0
      · rw [if_pos h1]
      · have hAj : A (rs i) j := Classical.byContradiction fun g => h1 ((has (rs i) j (by omega) (by omega)).mpr g)
        rw [if_neg h1, e40, ml_c, nn_ck (show 40 * q + j < 1640 by omega) (by omega), nn_cl (show 40 * q + j ≤ 100000 by omega)]
        by_cases h2 : ba (40 * q + j) = 0
        · rw [if_pos h2]
        · have hBj : pm_B A F q j := Classical.byContradiction fun g => h2 ((hba q (by omega) j hFj (by omega)).mpr g)
          have hc : j = F ∧ 0 < q := Classical.byContradiction fun g => hno ((pm_next hF (i := i) (q := q) (by omega) hw.1 j).mpr ⟨hFj, hAj, hBj, g⟩)
          rw [if_neg h2, if_pos (by rw [nn_eq (by omega) (by omega)]; exact hc.1), if_neg (show ¬ nI (q + 1) ≤ 1 by rw [nn_leR (b := 1) (y := 1) rfl (by omega) (by omega)]; omega)]
    · rcases Nat.lt_or_ge u j with g | g
      · exact hI u g
      · have e : u = j := by omega
        subst e
        exact hno
  · rintro m _ ⟨hFj, hI⟩
    refine ⟨x, ?_, hx1, hx2⟩
    obtain ⟨_, c1, c2, c3⟩ := (pm_next hF (i := i) (q := q) (by omega) hw.1 x).mp hx1
    show fM_tellRing_L140 _ _ _ _ _ _ (m + 1 + 1) (nI x) = _
    rw [fM_tellRing_L140, ms_cell, Option.bind_some, nn_ck (show 40 * rs i + x < 1600 by omega) (by omega), nn_cl (show 40 * rs i + x ≤ 100000 by omega), if_neg (fun g => (has (rs i) x (by omega) (by omega)).mp g c1), e40, ml_c, nn_ck (show 40 * q + x < 1640 by omega) (by omega), nn_cl (show 40 * q + x ≤ 100000 by omega), if_neg (fun g => (hba q (by omega) x hFx hxn).mp g c2)]
    by_cases e : x = F
    · rw [if_pos (by rw [nn_eq (by omega) (by omega)]; exact e), if_pos (show nI (q + 1) ≤ 1 by rw [nn_leR (b := 1) (y := 1) rfl (by omega) (by omega)]; omega)]
    · rw [if_neg (by rw [nn_eq (by omega) (by omega)]; exact e)]
theorem mt_ring {A : Nat → Nat → Prop} {n F L c : Nat} {rs : Nat → Nat} {as ba rg sz : Nat → Int32} (hn : n ≤ 40) (hA : ∀ x y, A x y → x < n ∧ y < n) (hL : L ≤ 40) (hc : c < 40) (hF : pm_First A F L) (hR : rg_R A F L rs) (has : ∀ a b, a < 40 → b < 40 → (as (40 * a + b) = 0 ↔ ¬ A a b)) (hba : ∀ r, r ≤ L → ml_r A n F r ba) :
    ∃ rg', fM_tellRing_K72_108 as (nI c) sz rg (nI L) (nI F) ba = some (nI (c + 1), upd sz c (nI L), rg', ba) ∧ (∀ t, t < L → rg' (40 * c + t) = nI (rs t)) ∧ ∀ p, p < 40 * c → rg' p = rg p := by
  have hL1 := hF.1.1
  rw [fM_tellRing_K72_108]
  refine lo_up (σ := Int32 × (Nat → Int32)) (fun m i z => fM_tellRing_L114 (fM_tellRing_K114_201 (nI c) sz ba (nI L)) as (nI c) ba (nI L) (nI F) m z.1 (nI (L - i)) z.2) (fun i z => (i < L → z.1 = nI (rs i)) ∧ (∀ t, t < i → z.2 (40 * c + t) = nI (rs t)) ∧ ∀ p, p < 40 * c → z.2 p = rg p) (fun r => ∃ rg', r = some (nI (c + 1), upd sz c (nI L), rg', ba) ∧ (∀ t, t < L → rg' (40 * c + t) = nI (rs t)) ∧ ∀ p, p < 40 * c → rg' p = rg p) L ?_ ?_ FU 0 (nI F, rg) (Nat.zero_le _) (by rw [FU_eq]; omega) ⟨fun _ => by rw [hR.1], fun t ht => by omega, fun p _ => rfl⟩
  · rintro m i ⟨x, z⟩ hi ⟨hI0, hI1, hI2⟩
    have hI0 : x = nI (rs i) := hI0 hi
    have hI1 : ∀ t, t < i → z (40 * c + t) = nI (rs t) := hI1
    have hI2 : ∀ p, p < 40 * c → z p = rg p := hI2
    subst hI0
    obtain ⟨v, v1, v2⟩ := mt_inner hn hA hL hF hR hi has hba (fM_tellRing_K140_191 (fun a0 a1 a2 => fM_tellRing_L114 (fM_tellRing_K114_201 (nI c) sz ba (nI L)) as (nI c) ba (nI L) (nI F) m a0 a1 a2) (upd z (40 * c + i) (nI (rs i))) (nI (L - i)))
    have e1 : nI L - nI (L - i) = nI i := by
      rw [pk_sub (by omega)]
      congr 1
      omega
    have e2 : nI (L - i) + (-1) = nI (L - (i + 1)) := by
      have : L - i = (L - (i + 1)) + 1 := by omega
      rw [this]; exact pk_m1 _
    refine Or.inr ⟨(nI v, upd z (40 * c + i) (nI (rs i))), ?_, fun hi1 => ?_, fun t ht => ?_, fun p hp => ?_⟩
    · show fM_tellRing_L114 _ _ _ _ _ _ (m + 1) (nI (rs i)) (nI (L - i)) z = fM_tellRing_L114 _ _ _ _ _ _ m (nI v) (nI (L - (i + 1))) (upd z (40 * c + i) (nI (rs i)))
      rw [fM_tellRing_L114, if_neg (show ¬ nI (L - i) ≤ 0 by rw [nn_leR (b := 0) (y := 0) rfl (by omega) (by omega)]; omega), e1, ms_cell, Option.bind_some, nn_ck (show 40 * c + i < 1600 by omega) (by omega), nn_cl (show 40 * c + i ≤ 100000 by omega), v1, fM_tellRing_K140_191, e2]
    · show nI v = nI (rs (i + 1))
      rw [pm_L_un v2 (hR.2.1 i hi1)]
    · show upd z (40 * c + i) (nI (rs i)) (40 * c + t) = _
      by_cases e : t = i
      · subst e; exact pk_us
      · rw [pk_un (by omega)]; exact hI1 t (by omega)
    · show upd z (40 * c + i) (nI (rs i)) p = _
      rw [pk_un (by omega)]; exact hI2 p hp
  · rintro m ⟨x, z⟩ ⟨_, hI1, hI2⟩
    refine ⟨z, ?_, hI1, hI2⟩
    show fM_tellRing_L114 _ _ _ _ _ _ (m + 1) x (nI (L - L)) z = _
    rw [Nat.sub_self, fM_tellRing_L114, if_pos (by decide), fM_tellRing_K114_201, nn_ck hc (by omega), nn_cl (by omega), nI_1]
/-- a part: its ring is told, if it has one -/
theorem mt_part {A : Nat → Nat → Prop} {n f c : Nat} {pa sh as ba rg sz : Nat → Int32} (hn : n ≤ 40) (hA : ∀ x y, A x y → x < n ∧ y < n) (hf : f < n) (hpf : pt_f A f) (hc : c < 40) (hpa : ∀ a, a < n → ∃ p, pa a = nI p ∧ pt_p A a p) (hsh : ∀ a, a < n → ∃ s, sh a = nI s ∧ mp_s A a s) (has : ∀ a b, a < 40 → b < 40 → (as (40 * a + b) = 0 ↔ ¬ A a b)) :
    (¬ rt_f A f ∧ fM_tellRing (nI n) pa sh as (nI c) sz rg ba (nI (pt_c A f)) = some (nI c, sz, rg, ba)) ∨
    (rt_f A f ∧ ∃ F L rs rg' ba', rg_B A f F L ∧ rg_R A F L rs ∧ L ≤ n ∧ fM_tellRing (nI n) pa sh as (nI c) sz rg ba (nI (pt_c A f)) = some (nI (c + 1), upd sz c (nI L), rg', ba') ∧ (∀ t, t < L → rg' (40 * c + t) = nI (rs t)) ∧ ∀ p, p < 40 * c → rg' p = rg p) := by
  have hcf := pt_c_le (A := A) f
  have hin : ∀ a, a < n → ∃ p, pa a = nI p ∧ p ≤ 40 ∧ (p = pt_c A f ↔ pm_tog A f a) := by
    intro a ha
    obtain ⟨p, p1, g, g1, g2, g3, g4⟩ := hpa a ha
    have hcg := pt_c_le (A := A) g
    refine ⟨p, p1, by omega, fun e => ?_, fun ht => ?_⟩
    · have := pt_c_inj g2 hpf (by omega)
      subst this
      exact g3
    · rw [g4, pt_un g2 g3 hpf ht]
  -- the least length
  have L6 : ∀ (kk : Int32 → Option (Int32 × (Nat → Int32) × (Nat → Int32) × (Nat → Int32))), ∃ len, fM_tellRing_L6 kk (nI n) pa sh (nI (pt_c A f)) FU 1000 0 = kk (nI len) ∧ ((len = 1000 ∧ ∀ a, pm_tog A f a → ¬ pm_reach A a a) ∨ (len ≤ n ∧ (∃ a, pm_tog A f a ∧ pm_D A a a len) ∧ ∀ a k, pm_tog A f a → pm_D A a a k → len ≤ k)) := by
    intro kk
    have hlt : ∀ a, pm_reach A a a → a < n := by
      rintro a ⟨j, h1, h2⟩
      have e : j = (j - 1) + 1 := by omega
      rw [e] at h2
      obtain ⟨x, h3, _⟩ := h2
      exact (hA _ _ h3).1
    refine lo_up (σ := Nat) (fun m i z => fM_tellRing_L6 kk (nI n) pa sh (nI (pt_c A f)) m (nI z) (nI i)) (fun i z => (z = 1000 ∧ ∀ a, a < i → pm_tog A f a → ¬ pm_reach A a a) ∨ (z ≤ n ∧ (∃ a, pm_tog A f a ∧ pm_D A a a z) ∧ ∀ a k, a < i → pm_tog A f a → pm_D A a a k → z ≤ k)) (fun r => ∃ len, r = kk (nI len) ∧ ((len = 1000 ∧ ∀ a, pm_tog A f a → ¬ pm_reach A a a) ∨ (len ≤ n ∧ (∃ a, pm_tog A f a ∧ pm_D A a a len) ∧ ∀ a k, pm_tog A f a → pm_D A a a k → len ≤ k))) n ?_ ?_ FU 0 1000 (Nat.zero_le _) (by rw [FU_eq]; omega) (Or.inl ⟨rfl, fun a ha => by omega⟩)
    · intro m i z hi hI
      refine Or.inr ?_
      show ∃ z', fM_tellRing_L6 _ _ _ _ _ (m + 1) (nI z) (nI i) = fM_tellRing_L6 _ _ _ _ _ m (nI z') (nI (i + 1)) ∧ _
      obtain ⟨p, p1, p2, p3⟩ := hin i hi
      obtain ⟨s, s1, s2⟩ := hsh i hi
      have hsn := mp_s_le hA s2
      have hz : z ≤ 1000 := by rcases hI with ⟨e, _⟩ | ⟨e, _⟩ <;> omega
      have keep : (¬ (pm_tog A f i ∧ pm_reach A i i) ∨ z ≤ s ∧ 0 < s) → z ≠ 1000 ∨ ¬ (pm_tog A f i ∧ pm_reach A i i) → (z = 1000 ∧ ∀ a, a < i + 1 → pm_tog A f a → ¬ pm_reach A a a) ∨ (z ≤ n ∧ (∃ a, pm_tog A f a ∧ pm_D A a a z) ∧ ∀ a k, a < i + 1 → pm_tog A f a → pm_D A a a k → z ≤ k) := by
        intro h1 h2
        rcases hI with ⟨e, hI⟩ | ⟨e, hI2, hI3⟩
        · refine Or.inl ⟨e, fun a ha ht hr => ?_⟩
          rcases Nat.lt_or_ge a i with g | g
          · exact hI a g ht hr
          · have ea : a = i := by omega
            subst ea
            rcases h2 with h2 | h2
            · exact h2 e
            · exact h2 ⟨ht, hr⟩
        · refine Or.inr ⟨e, hI2, fun a k ha ht hD => ?_⟩
          rcases Nat.lt_or_ge a i with g | g
          · exact hI3 a k g ht hD
          · have ea : a = i := by omega
            subst ea
            rcases h1 with h1 | ⟨h1, h1'⟩
            · exact absurd ⟨ht, k, hD.1, hD.2.1⟩ h1
            · rcases s2 with ⟨e0, _⟩ | s2
              · omega
              · rw [pm_D_un hD s2]; exact h1
      rw [fM_tellRing_L6, if_neg (by rw [nn_le (by omega) (by omega)]; omega), nn_ck (show i < 40 by omega) (by omega), nn_cl (show i ≤ 100000 by omega), p1, nI_1]
      by_cases h1 : p = pt_c A f
      · have ht := p3.mp h1
        rw [if_pos (by rw [nn_eq (by omega) (by omega)]; exact h1), nn_ck (show i < 40 by omega) (by omega), s1]
        by_cases h2 : s = 0
        · rw [if_pos (show nI s ≤ 0 by rw [nn_leR (b := 0) (y := 0) rfl (by omega) (by omega)]; omega)]
          have hnr : ¬ (pm_tog A f i ∧ pm_reach A i i) := fun q => by
            have := (tk_pos s2).mpr q.2
            omega
          exact ⟨z, rfl, keep (Or.inl hnr) (Or.inr hnr)⟩
        · have hDi : pm_D A i i s := by
            rcases s2 with ⟨e0, _⟩ | s2
            · exact absurd e0 h2
            · exact s2
          rw [if_neg (show ¬ nI s ≤ 0 by rw [nn_leR (b := 0) (y := 0) rfl (by omega) (by omega)]; omega), nn_ck (show i < 40 by omega) (by omega)]
          by_cases h3 : z ≤ s
          · rw [if_pos (by rw [nn_le (by omega) (by omega)]; exact h3)]
            exact ⟨z, rfl, keep (Or.inr ⟨h3, by omega⟩) (Or.inl (by omega))⟩
          · rw [if_neg (by rw [nn_le (by omega) (by omega)]; exact h3), nn_ck (show i < 40 by omega) (by omega)]
            refine ⟨s, rfl, Or.inr ⟨hsn, ⟨i, ht, hDi⟩, fun a k ha hta hDa => ?_⟩⟩
            rcases Nat.lt_or_ge a i with g | g
            · rcases hI with ⟨_, hI⟩ | ⟨_, _, hI⟩
              · exact absurd ⟨k, hDa.1, hDa.2.1⟩ (hI a g hta)
              · have := hI a k g hta hDa
                omega
            · have ea : a = i := by omega
              subst ea
              rw [pm_D_un hDa hDi]
              exact Nat.le_refl _
      · rw [if_neg (by rw [nn_eq (by omega) (by omega)]; exact h1)]
        have hnr : ¬ (pm_tog A f i ∧ pm_reach A i i) := fun q => h1 (p3.mpr q.1)
        exact ⟨z, rfl, keep (Or.inl hnr) (Or.inr hnr)⟩
    · intro m z hI
      refine ⟨z, ?_, ?_⟩
      · show fM_tellRing_L6 _ _ _ _ _ (m + 1) (nI z) (nI n) = _
        rw [fM_tellRing_L6, if_pos (by rw [nn_le (by omega) (by omega)]; omega)]
      · rcases hI with ⟨e, hI⟩ | ⟨e, hI2, hI3⟩
        · exact Or.inl ⟨e, fun a ht hr => hI a (hlt a hr) ht hr⟩
        · exact Or.inr ⟨e, hI2, fun a k ht hD => hI3 a k (hlt a ⟨k, hD.1, hD.2.1⟩) ht hD⟩
  obtain ⟨len, l1, l2⟩ := L6 (fM_tellRing_K6_56 (nI n) pa as (nI c) sz rg ba (nI (pt_c A f)))
  rw [fM_tellRing, l1, fM_tellRing_K6_56]
  rcases l2 with ⟨rfl, l2⟩ | ⟨l2, ⟨a0, l3, l4⟩, l5⟩
  · rw [if_pos (show nI 1000 = 1000 from rfl)]
    exact Or.inl ⟨fun q => l2 f (Or.inl rfl) q.2, rfl⟩
  · have hrf : rt_f A f := by
      refine ⟨hpf, ?_⟩
      rcases l3 with rfl | l3
      · exact ⟨len, l4.1, l4.2.1⟩
      · exact pm_reach_tr l3.1 l3.2
    -- the first one with such a ring
    obtain ⟨F, hF1, hF2⟩ := pm_L_ex (P := fun v => pm_tog A f v ∧ pm_D A v v len) ⟨a0, l3, l4⟩
    have hB : rg_B A f F len := ⟨hF1.1, hF1.2, fun v k ht hD => ⟨l5 v k ht hD, fun e => hF2 v ⟨ht, by rw [← e]; exact hD⟩⟩⟩
    have hFi := rg_B_first hB
    obtain ⟨rs, hR⟩ := rg_ex hFi
    have hFn : F < n := by
      have := rg_lt hA hR (t := 0) hFi.1.1
      rw [hR.1] at this
      exact this
    refine Or.inr ⟨hrf, F, len, rs, ?_⟩
    have h1000 : ¬ nI len = 1000 := by rw [nn_eqR (b := 1000) (y := 1000) rfl (by omega) (by omega)]; omega
    rw [if_neg h1000]
    obtain ⟨b0, b1, b2⟩ := ml_lead (F := 0) (ba := ba) hn hA (show len ≤ 40 by omega) has (by omega)
    have b1 : fM_lead (nI n) as ba 0 (nI len) = some b0 := b1
    rw [b1, Option.bind_some]
    have key := lo_up (σ := Nat → Int32) (fun m i z => fM_tellRing_L72 (fM_tellRing_K72_108 as (nI c) sz rg (nI len)) (nI n) pa as (nI (pt_c A f)) (nI len) m (nI i) z) (fun i z => ∀ r, r ≤ len → ml_r A n i r z) (fun r => ∃ ba', r = fM_tellRing_K72_108 as (nI c) sz rg (nI len) (nI F) ba' ∧ ∀ r, r ≤ len → ml_r A n F r ba') F ?_ ?_ FU 0 b0 (Nat.zero_le _) (by rw [FU_eq]; omega) b2
    · obtain ⟨ba', k1, k2⟩ := key
      obtain ⟨rg', g1, g2, g3⟩ := mt_ring (c := c) (rg := rg) (sz := sz) hn hA (show len ≤ 40 by omega) hc hFi hR has k2
      refine ⟨rg', ba', hB, hR, l2, ?_, g2, g3⟩
      have k1 : fM_tellRing_L72 (fM_tellRing_K72_108 as (nI c) sz rg (nI len)) (nI n) pa as (nI (pt_c A f)) (nI len) FU 0 b0 = _ := k1
      rw [k1]
      exact g1
    · intro m i z hi hI
      obtain ⟨p, p1, p2, p3⟩ := hin i (by omega)
      obtain ⟨z', z1, z2⟩ := ml_lead (F := i + 1) (ba := z) hn hA (show len ≤ 40 by omega) has (by omega)
      refine Or.inr ⟨z', ?_, z2⟩
      show fM_tellRing_L72 _ _ _ _ _ _ (m + 1) (nI i) z = fM_tellRing_L72 _ _ _ _ _ _ m (nI (i + 1)) z'
      rw [fM_tellRing_L72, nn_ck (show i < 40 by omega) (by omega), nn_cl (show i ≤ 100000 by omega), p1, nI_1]
      by_cases h1 : p = pt_c A f
      · have ht := p3.mp h1
        have hnB : ¬ pm_B A i len i := fun g => by
          obtain ⟨k, k1, k2⟩ := pm_D_ex len l4.1 (pm_B_wk g)
          have q1 := l5 i k ht k2
          have e : k = len := by omega
          rw [e] at k2
          have := hF2 i ⟨ht, k2⟩
          omega
        rw [if_pos (by rw [nn_eq (by omega) (by omega)]; exact h1), ml_c, nn_ck (show 40 * len + i < 1640 by omega) (by omega), nn_cl (show 40 * len + i ≤ 100000 by omega), if_pos ((hI len (Nat.le_refl _) i (Nat.le_refl _) (by omega)).mpr hnB), z1, Option.bind_some]
      · rw [if_neg (by rw [nn_eq (by omega) (by omega)]; exact h1), z1, Option.bind_some]
    · intro m z hI
      obtain ⟨p, p1, p2, p3⟩ := hin F hFn
      refine ⟨z, ?_, hI⟩
      have hBF : pm_B A F len F := pm_F_B hFi len F 0 (by omega) rfl hFi.1.2.1
      show fM_tellRing_L72 _ _ _ _ _ _ (m + 1) (nI F) z = _
      rw [fM_tellRing_L72, nn_ck (show F < 40 by omega) (by omega), nn_cl (show F ≤ 100000 by omega), p1, if_pos (by rw [nn_eq (by omega) (by omega)]; exact p3.mpr hF1.1), ml_c, nn_ck (show 40 * len + F < 1640 by omega) (by omega), nn_cl (show 40 * len + F ≤ 100000 by omega), if_neg (fun g => (hI len (Nat.le_refl _) F (Nat.le_refl _) hFn).mp g hBF)]
