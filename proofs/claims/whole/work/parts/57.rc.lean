-- the sets of ranks that the class draws: who asks, who is reached, least rings
theorem pc_low (k : Nat) : ∀ (z q : Nat), z < k → pc_n k (2 ^ (z + 1) * q + 2 ^ z) = pc_n k (2 ^ (z + 1) * q) + 1 := by
  induction k with
  | zero => intro z q h; omega
  | succ k ih =>
    intro z q h
    cases z with
    | zero =>
      show (2 ^ (0 + 1) * q + 2 ^ 0) % 2 + pc_n k ((2 ^ (0 + 1) * q + 2 ^ 0) / 2) = (2 ^ (0 + 1) * q) % 2 + pc_n k ((2 ^ (0 + 1) * q) / 2) + 1
      have e1 : (2 ^ (0 + 1) * q + 2 ^ 0) / 2 = q := by omega
      have e2 : (2 ^ (0 + 1) * q) / 2 = q := by omega
      rw [e1, e2]
      omega
    | succ z =>
      have e0 : 2 ^ (z + 1 + 1) * q = 2 * (2 ^ (z + 1) * q) := by rw [Nat.pow_succ 2 (z + 1), Nat.mul_comm (2 ^ (z + 1)) 2, Nat.mul_assoc]
      have e1 : 2 ^ (z + 1) = 2 * 2 ^ z := by rw [Nat.pow_succ, Nat.mul_comm]
      show (2 ^ (z + 1 + 1) * q + 2 ^ (z + 1)) % 2 + pc_n k ((2 ^ (z + 1 + 1) * q + 2 ^ (z + 1)) / 2) = (2 ^ (z + 1 + 1) * q) % 2 + pc_n k ((2 ^ (z + 1 + 1) * q) / 2) + 1
      have e2 : (2 ^ (z + 1 + 1) * q + 2 ^ (z + 1)) / 2 = 2 ^ (z + 1) * q + 2 ^ z := by rw [e0]; omega
      have e3 : (2 ^ (z + 1 + 1) * q) / 2 = 2 ^ (z + 1) * q := by rw [e0]; omega
      rw [e2, e3, ih z q (by omega), e0]
      omega
theorem pc_0 : ∀ (k : Nat) (n : Nat), n < 2 ^ k → pc_n k n = 0 → n = 0 := by
  intro k
  induction k with
  | zero => intro n h _; simp at h; exact h
  | succ k ih =>
    intro n h h2
    have h2 : n % 2 + pc_n k (n / 2) = 0 := h2
    have := ih (n / 2) (by rw [Nat.pow_succ] at h; omega) (by omega)
    omega
theorem pc_le : ∀ (k n : Nat), pc_n k n ≤ k := by
  intro k
  induction k with
  | zero => intro n; exact Nat.le_refl _
  | succ k ih =>
    intro n
    have := ih (n / 2)
    show n % 2 + pc_n k (n / 2) ≤ k + 1
    omega
theorem pc_ones : ∀ z, z < 64 → pc_n 64 (2 ^ z - 1) = z := by decide +kernel
/-- how many bits a long has -/
def rc_n (m : Int64) : Nat := pc_n 64 m.toBitVec.toNat
theorem rc_n_le (m : Int64) : rc_n m ≤ 64 := pc_le 64 _
theorem rc_n_0 {m : Int64} (h : rc_n m = 0) : m = 0 := by
  have := pc_0 64 m.toBitVec.toNat m.toBitVec.isLt h
  apply Int64.toBitVec_inj.mp
  apply BitVec.eq_of_toNat_eq
  rw [this]
  rfl
theorem rc_contains {m : Int64} {r : Nat} (hr : r < 64) : fR_contains m (nI r) = some (if mk_t m r = true then 1 else 0) := by
  rw [fR_contains]
  cases hb : mk_t m r with
  | false => rw [if_pos (by rw [mk_cmp0, mk_has hr]; exact hb)]; rfl
  | true => rw [if_neg (by rw [mk_cmp0, mk_has hr, hb]; decide)]; rfl
theorem rc_low {m : Int64} (hb : ∀ x : Int64, fX_bitCount x = some (nI (rc_n x))) (h : m ≠ 0) : ∃ z, mk_z m z ∧ fR_lowest m = some (nI z) ∧ rc_n (m &&& (m - 1)) + 1 = rc_n m ∧ ∀ j, mk_t (m &&& (m - 1)) j = (mk_t m j && decide (j ≠ z)) := by
  obtain ⟨z, h1, h2, h3⟩ := mk_z_ex h
  refine ⟨z, h1, ?_, ?_, h3⟩
  · rw [fR_lowest, h2, hb, Option.bind_some]
    have hlt : 2 ^ z - 1 < 2 ^ 64 := by
      have := wb_lt2 h1.1
      omega
    unfold rc_n
    rw [wb_tn hlt, pc_ones z h1.1]
  · obtain ⟨n, hn, rfl⟩ := wb_of m
    have h0 : n ≠ 0 := fun e => h (by rw [e]; rfl)
    obtain ⟨z2, q, hz⟩ := mk_low n h0
    have hp : 0 < 2 ^ z2 := Nat.pow_pos (by decide)
    have hzl : z2 < 64 := by
      rcases Nat.lt_or_ge z2 64 with g | g
      · exact g
      · have := Nat.pow_le_pow_right (show 0 < 2 by decide) g
        omega
    have hs : lN n - 1 = lN (n - 1) := by
      have := lN_sub (a := n) (b := 1) (by omega)
      exact this
    have he : n &&& (n - 1) = 2 ^ (z2 + 1) * q := by
      apply Nat.eq_of_testBit_eq
      intro j
      have hq : (2 ^ (z2 + 1) * q).testBit j = if j < z2 + 1 then false else q.testBit (j - (z2 + 1)) := by
        have := Nat.testBit_two_pow_mul_add q (Nat.pow_pos (n := z2 + 1) (show 0 < 2 by decide)) j
        rw [Nat.add_zero] at this
        rw [this]
        split <;> simp
      rw [Nat.testBit_and, hq]
      have b1 := mk_low_bits z2 q j
      have b2 := mk_pred_bits z2 q j
      rw [← hz] at b1 b2
      rw [b1, b2]
      by_cases g1 : j < z2
      · simp [g1, show j < z2 + 1 by omega]
      · by_cases g2 : j = z2
        · subst g2; simp
        · rw [if_neg g1, if_neg g2, if_neg g1, if_neg g2, if_neg (by omega), Bool.and_self]
    unfold rc_n
    rw [hs, wb_and hn (by omega), he, wb_tn (by omega), wb_tn hn]
    conv => rhs; rw [hz]
    exact (pc_low 64 z2 q hzl).symm
theorem rc_askedBy (hb : ∀ x : Int64, fX_bitCount x = some (nI (rc_n x))) {asked : Nat → Int64} {m : Int64} (hm : ∀ x, mk_t m x = true → x < 40) : ∃ r, fR_askedBy asked m = some r ∧ ∀ j, mk_t r j = true ↔ ∃ x, mk_t m x = true ∧ mk_t (asked x) j = true := by
  rw [fR_askedBy, hb, Option.bind_some]
  refine lo_me (σ := Int64 × Int64) (fun n st => fR_askedBy_L11 fR_askedBy_K11_44 asked n st.1 st.2 (nI (rc_n st.2))) (fun st => (∀ x, mk_t st.2 x = true → x < 40) ∧ ∀ j, (mk_t st.1 j = true ∨ ∃ x, mk_t st.2 x = true ∧ mk_t (asked x) j = true) ↔ ∃ x, mk_t m x = true ∧ mk_t (asked x) j = true) (fun r => ∃ r', r = some r' ∧ ∀ j, mk_t r' j = true ↔ ∃ x, mk_t m x = true ∧ mk_t (asked x) j = true) (fun st => rc_n st.2) ?_ FU (0, m) (by have := rc_n_le m; rw [FU_eq]; show rc_n m < 100000; omega) ⟨hm, fun j => by
    show (mk_t 0 j = true ∨ _) ↔ _
    rw [mk_0]
    simp⟩
  rintro n ⟨acc, left⟩ ⟨hI1, hI2⟩
  have hI1 : ∀ x, mk_t left x = true → x < 40 := hI1
  have hI2 : ∀ j, (mk_t acc j = true ∨ ∃ x, mk_t left x = true ∧ mk_t (asked x) j = true) ↔ ∃ x, mk_t m x = true ∧ mk_t (asked x) j = true := hI2
  have hle := rc_n_le left
  by_cases h0 : left = 0
  · subst h0
    refine Or.inl ⟨acc, ?_, fun j => ?_⟩
    · show fR_askedBy_L11 _ _ (n + 1) acc 0 (nI (rc_n 0)) = _
      have e : rc_n 0 = 0 := by decide +kernel
      rw [fR_askedBy_L11, e, if_pos (by decide)]
      rfl
    · rw [← hI2 j]
      constructor
      · exact Or.inl
      · rintro (h | ⟨x, h1, _⟩)
        · exact h
        · rw [mk_0] at h1; cases h1
  · obtain ⟨z, hz, h1, h2, h3⟩ := rc_low hb h0
    have hz40 := hI1 z hz.2.1
    have hpos : 0 < rc_n left := by
      rcases Nat.eq_zero_or_pos (rc_n left) with e | e
      · exact absurd (rc_n_0 e) h0
      · exact e
    refine Or.inr ⟨(acc ||| asked z, left &&& (left - 1)), ?_, ⟨fun x hx => ?_, fun j => ?_⟩, ?_⟩
    · show fR_askedBy_L11 _ _ (n + 1) acc left (nI (rc_n left)) = fR_askedBy_L11 _ _ n (acc ||| asked z) (left &&& (left - 1)) (nI (rc_n (left &&& (left - 1))))
      have e9 : nI (rc_n left) + (-1) = nI (rc_n (left &&& (left - 1))) := by rw [← h2]; exact pk_m1 _
      rw [fR_askedBy_L11, if_neg (show ¬ nI (rc_n left) ≤ 0 by rw [nn_leR (b := 0) (y := 0) rfl (by omega) (by omega)]; omega), h1, Option.bind_some, nn_ck hz40 (by omega), nn_cl (by omega), e9]
    · have hx : mk_t (left &&& (left - 1)) x = true := hx
      rw [h3, Bool.and_eq_true] at hx
      exact hI1 x hx.1
    · show (mk_t (acc ||| asked z) j = true ∨ ∃ x, mk_t (left &&& (left - 1)) x = true ∧ mk_t (asked x) j = true) ↔ _
      rw [← hI2 j, mk_or, Bool.or_eq_true]
      constructor
      · rintro ((h | h) | ⟨x, g1, g2⟩)
        · exact Or.inl h
        · exact Or.inr ⟨z, hz.2.1, h⟩
        · rw [h3, Bool.and_eq_true] at g1
          exact Or.inr ⟨x, g1.1, g2⟩
      · rintro (h | ⟨x, g1, g2⟩)
        · exact Or.inl (Or.inl h)
        · by_cases e : x = z
          · subst e; exact Or.inl (Or.inr g2)
          · exact Or.inr ⟨x, by rw [h3, Bool.and_eq_true]; exact ⟨g1, decide_eq_true e⟩, g2⟩
    · show rc_n (left &&& (left - 1)) < rc_n left
      omega
theorem rc_askersOf {n : Nat} (hn : n ≤ 40) {asked : Nat → Int64} {m : Int64} : ∃ r, fR_askersOf (nI n) asked m = some r ∧ ∀ j, mk_t r j = true ↔ (j < n ∧ ∃ x, mk_t (asked j) x = true ∧ mk_t m x = true) := by
  rw [fR_askersOf]
  refine lo_up (σ := Int64) (fun k i v => fR_askersOf_L5 fR_askersOf_K5_41 (nI n) asked m k v (nI i)) (fun i v => ∀ j, mk_t v j = true ↔ (j < i ∧ ∃ x, mk_t (asked j) x = true ∧ mk_t m x = true)) (fun r => ∃ r', r = some r' ∧ ∀ j, mk_t r' j = true ↔ (j < n ∧ ∃ x, mk_t (asked j) x = true ∧ mk_t m x = true)) n ?_ ?_ FU 0 0 (Nat.zero_le _) (by rw [FU_eq]; omega) (fun j => by rw [mk_0]; simp)
  · intro k i v hi hI
    refine Or.inr ?_
    show ∃ st', fR_askersOf_L5 _ _ _ _ (k + 1) v (nI i) = fR_askersOf_L5 _ _ _ _ k st' (nI (i + 1)) ∧ _
    rw [fR_askersOf_L5, if_neg (by rw [nn_le (by omega) (by omega)]; omega), nn_ck (show i < 40 by omega) (by omega), nn_cl (by omega), nI_1]
    by_cases h : (asked i &&& m) = 0
    · rw [if_pos (show lg_cmp (asked i &&& m) 0 = 0 by rw [mk_cmp0]; exact h)]
      refine ⟨v, rfl, fun j => ?_⟩
      rw [hI j]
      constructor
      · rintro ⟨h1, h2⟩; exact ⟨by omega, h2⟩
      · rintro ⟨h1, x, h2, h3⟩
        refine ⟨?_, x, h2, h3⟩
        rcases Nat.lt_or_ge j i with q | q
        · exact q
        · have e : j = i := by omega
          subst e
          have := mk_and (asked j) m x
          rw [h, mk_0, h2, h3] at this
          cases this
    · rw [if_neg (show ¬ lg_cmp (asked i &&& m) 0 = 0 by rw [mk_cmp0]; exact h)]
      obtain ⟨x, hx, hx2⟩ := mk_ne0 h
      rw [mk_and, Bool.and_eq_true] at hx2
      refine ⟨_, rfl, fun j => ?_⟩
      rw [mk_or, mk_one (by omega), Bool.or_eq_true, hI j]
      constructor
      · rintro (⟨h1, h2⟩ | h1)
        · exact ⟨by omega, h2⟩
        · have e : j = i := of_decide_eq_true h1
          subst e
          exact ⟨by omega, x, hx2⟩
      · rintro ⟨h1, h2⟩
        rcases Nat.lt_or_ge j i with q | q
        · exact Or.inl ⟨q, h2⟩
        · exact Or.inr (decide_eq_true (by omega))
  · intro k v hI
    refine ⟨v, ?_, hI⟩
    show fR_askersOf_L5 _ _ _ _ (k + 1) v (nI n) = _
    rw [fR_askersOf_L5, if_pos (by rw [nn_le (by omega) (by omega)]; omega)]
    rfl
/-- going out from a: what is reached, and its least ring -/
theorem rc_follow (hb : ∀ x : Int64, fX_bitCount x = some (nI (rc_n x))) {n a : Nat} (hn : n ≤ 40) (ha : a < n) {A : Nat → Nat → Prop} (hA : ∀ x y, A x y → y < n) {asked rd : Nat → Int64} {sh : Nat → Int32} (hask : ∀ r, r < n → ∀ j, mk_t (asked r) j = true ↔ A r j) :
    ∃ R k, fR_follow (nI n) asked rd sh (nI a) = some (vp_updL rd a R, upd (upd sh a 0) a (nI k)) ∧ (∀ j, mk_t R j = true ↔ pm_reach A a j) ∧ ((k = 0 ∧ ¬ pm_reach A a a) ∨ pm_D A a a k) := by
  have huu : ∀ (f : Nat → Int32) (x y : Int32), upd (upd f a x) a y = upd f a y := fun f x y => by
    funext j
    unfold upd
    split <;> rfl
  have hlast : ∀ t, (∀ v, ¬ pm_D A a v t) → 1 ≤ t → ∀ v j, t ≤ j → ¬ pm_D A a v j := by
    intro t ht h1 v j hj hD
    obtain ⟨u, hu, -⟩ := pm_D_mid hD h1 hj
    exact ht u hu
  rw [fR_follow, nn_ck (show a < 40 by omega) (by omega), nn_ck (show a < 40 by omega) (by omega), nn_cl (by omega)]
  -- what stands at step t
  refine lo_up (σ := Int64 × Int64 × Nat) (fun m i st => fR_follow_L20 (fR_follow_K20_78 rd (nI a)) (nI n) asked (nI a) m st.1 st.2.1 (nI (i + 1)) (upd (upd sh a 0) a (nI st.2.2)))
    (fun i st => (∀ v, mk_t st.1 v = true ↔ ∃ j, j < i + 1 ∧ pm_D A a v j) ∧ (∀ v, mk_t st.2.1 v = true ↔ pm_D A a v (i + 1)) ∧ ((st.2.2 = 0 ∧ ∀ j, j < i + 1 → ¬ pm_D A a a j) ∨ (st.2.2 < i + 1 ∧ pm_D A a a st.2.2)))
    (fun r => ∃ R k, r = some (vp_updL rd a R, upd (upd sh a 0) a (nI k)) ∧ (∀ j, mk_t R j = true ↔ pm_reach A a j) ∧ ((k = 0 ∧ ¬ pm_reach A a a) ∨ pm_D A a a k)) n ?_ ?_ FU 0 (0, asked a, 0) (Nat.zero_le _) (by rw [FU_eq]; omega) ?_ |> fun h => by
      have e0 : upd (upd sh a 0) a (nI 0) = upd sh a 0 := huu sh 0 0
      have h : ∃ R k, fR_follow_L20 (fR_follow_K20_78 rd (nI a)) (nI n) asked (nI a) FU 0 (asked a) (nI (0 + 1)) (upd (upd sh a 0) a (nI 0)) = some (vp_updL rd a R, upd (upd sh a 0) a (nI k)) ∧ _ := h
      rw [e0] at h
      exact h
  · rintro m i ⟨seen, front, k⟩ hi ⟨hI1, hI2, hI3⟩
    have hI1 : ∀ v, mk_t seen v = true ↔ ∃ j, j < i + 1 ∧ pm_D A a v j := hI1
    have hI2 : ∀ v, mk_t front v = true ↔ pm_D A a v (i + 1) := hI2
    have hI3 : (k = 0 ∧ ∀ j, j < i + 1 → ¬ pm_D A a a j) ∨ (k < i + 1 ∧ pm_D A a a k) := hI3
    show (∃ R k', fR_follow_L20 _ _ _ _ (m + 1) seen front (nI (i + 1)) (upd (upd sh a 0) a (nI k)) = _ ∧ _) ∨ ∃ st' : Int64 × Int64 × Nat, fR_follow_L20 _ _ _ _ (m + 1) seen front (nI (i + 1)) (upd (upd sh a 0) a (nI k)) = fR_follow_L20 _ _ _ _ m st'.1 st'.2.1 (nI (i + 1 + 1)) (upd (upd sh a 0) a (nI st'.2.2)) ∧ _
    rw [fR_follow_L20, if_neg (by rw [nn_lt (by omega) (by omega)]; omega)]
    by_cases h0 : front = 0
    · rw [if_pos (show lg_cmp front 0 = 0 by rw [mk_cmp0]; exact h0)]
      subst h0
      have hno : ∀ v, ¬ pm_D A a v (i + 1) := fun v hv => by
        have := (hI2 v).mpr hv
        rw [mk_0] at this
        cases this
      refine Or.inl ⟨seen, k, ?_, fun j => ?_, ?_⟩
      · rw [fR_follow_K20_78, nn_ck (show a < 40 by omega) (by omega), nn_cl (by omega)]
      · rw [hI1 j]
        constructor
        · rintro ⟨t, _, ht⟩; exact ⟨t, ht.1, ht.2.1⟩
        · rintro ⟨t, ht1, ht2⟩
          obtain ⟨q, hq1, hq2⟩ := pm_D_ex t ht1 ht2
          rcases Nat.lt_or_ge q (i + 1) with g | g
          · exact ⟨q, g, hq2⟩
          · exact absurd hq2 (hlast (i + 1) hno (by omega) j q g)
      · rcases hI3 with ⟨e, h⟩ | ⟨_, h⟩
        · refine Or.inl ⟨e, ?_⟩
          rintro ⟨t, ht1, ht2⟩
          obtain ⟨q, hq1, hq2⟩ := pm_D_ex t ht1 ht2
          rcases Nat.lt_or_ge q (i + 1) with g | g
          · exact h q g hq2
          · exact absurd hq2 (hlast (i + 1) hno (by omega) a q g)
        · exact Or.inr h
    · rw [if_neg (show ¬ lg_cmp front 0 = 0 by rw [mk_cmp0]; exact h0), rc_contains (show a < 64 by omega), Option.bind_some]
      have hfn : ∀ x, mk_t front x = true → x < 40 := fun x hx => by
        obtain ⟨y, _, hy⟩ := pm_unsnoc ((hI2 x).mp hx).2.1
        have := hA y x hy
        omega
      obtain ⟨r, hr1, hr2⟩ := rc_askedBy hb (asked := asked) hfn
      -- the next front
      have hnext : ∀ v, mk_t (r &&& ((seen ||| front) ^^^ (-1))) v = true ↔ pm_D A a v (i + 1 + 1) := by
        intro v
        rcases Nat.lt_or_ge v 64 with hv | hv
        · rw [mk_and, mk_not _ hv, Bool.and_eq_true, hr2, mk_or]
          constructor
          · rintro ⟨⟨x, g1, g2⟩, g3⟩
            have hx := hfn x g1
            have hD := (hI2 x).mp g1
            have hxn : x < n := by
              obtain ⟨y, _, hy⟩ := pm_unsnoc hD.2.1
              exact hA y x hy
            have hAx := (hask x hxn v).mp g2
            refine ⟨by omega, pm_snoc hD.2.1 hAx, fun j hj1 hj2 => ?_⟩
            rcases Nat.lt_or_ge j (i + 1 + 1) with q | q
            · exfalso
              obtain ⟨t, ht1, ht2⟩ := pm_D_ex j hj1 hj2
              have hz : (mk_t seen v || mk_t front v) = true := by
                rw [Bool.or_eq_true]
                rcases Nat.lt_or_ge t (i + 1) with g | g
                · exact Or.inl ((hI1 v).mpr ⟨t, g, ht2⟩)
                · have e : t = i + 1 := by omega
                  rw [e] at ht2
                  exact Or.inr ((hI2 v).mpr ht2)
              rw [hz] at g3
              cases g3
            · exact q
          · intro hD
            obtain ⟨u, hu, hw⟩ := pm_D_mid hD (i := i + 1) (by omega) (by omega)
            have e1 : i + 1 + 1 - (i + 1) = 1 := by omega
            rw [e1] at hw
            have hAu := pm_one.mp hw
            have hun : u < n := by
              obtain ⟨y, _, hy⟩ := pm_unsnoc hu.2.1
              exact hA y u hy
            refine ⟨⟨u, (hI2 u).mpr hu, (hask u hun v).mpr hAu⟩, ?_⟩
            cases hz : (mk_t seen v || mk_t front v) with
            | false => rfl
            | true =>
              rw [Bool.or_eq_true] at hz
              rcases hz with hz | hz
              · obtain ⟨t, ht1, ht2⟩ := (hI1 v).mp hz
                have := pm_D_un ht2 hD
                omega
              · have := pm_D_un ((hI2 v).mp hz) hD
                omega
        · rw [mk_ge _ hv]
          constructor
          · intro h; cases h
          · intro hD
            obtain ⟨y, _, hy⟩ := pm_unsnoc hD.2.1
            have := hA y v hy
            omega
      have hseen : ∀ v, mk_t (seen ||| front) v = true ↔ ∃ j, j < i + 1 + 1 ∧ pm_D A a v j := by
        intro v
        rw [mk_or, Bool.or_eq_true, hI1, hI2]
        constructor
        · rintro (⟨j, h1, h2⟩ | h)
          · exact ⟨j, by omega, h2⟩
          · exact ⟨i + 1, by omega, h⟩
        · rintro ⟨j, h1, h2⟩
          rcases Nat.lt_or_ge j (i + 1) with q | q
          · exact Or.inl ⟨j, q, h2⟩
          · have e : j = i + 1 := by omega
            rw [e] at h2
            exact Or.inr h2
      refine Or.inr ?_
      by_cases hf : mk_t front a = true
      · rw [if_pos hf, if_neg (by decide), nn_ck (show a < 40 by omega) (by omega), nn_cl (by omega), fR_follow_J53, hr1, Option.bind_some, nI_1, huu]
        refine ⟨(seen ||| front, r &&& ((seen ||| front) ^^^ (-1)), i + 1), rfl, hseen, hnext, Or.inr ⟨by show i + 1 < i + 1 + 1; omega, (hI2 a).mp hf⟩⟩
      · rw [if_neg hf, if_pos rfl, fR_follow_J53, hr1, Option.bind_some, nI_1]
        refine ⟨(seen ||| front, r &&& ((seen ||| front) ^^^ (-1)), k), rfl, hseen, hnext, ?_⟩
        rcases hI3 with ⟨e, h⟩ | ⟨h1, h⟩
        · refine Or.inl ⟨e, fun j hj hD => ?_⟩
          rcases Nat.lt_or_ge j (i + 1) with q | q
          · exact h j q hD
          · have e : j = i + 1 := by omega
            rw [e] at hD
            exact hf ((hI2 a).mpr hD)
        · exact Or.inr ⟨by show k < i + 1 + 1; omega, h⟩
  · rintro m ⟨seen, front, k⟩ ⟨hI1, hI2, hI3⟩
    have hI1 : ∀ v, mk_t seen v = true ↔ ∃ j, j < n + 1 ∧ pm_D A a v j := hI1
    have hI3 : (k = 0 ∧ ∀ j, j < n + 1 → ¬ pm_D A a a j) ∨ (k < n + 1 ∧ pm_D A a a k) := hI3
    refine ⟨seen, k, ?_, fun j => ?_, ?_⟩
    · show fR_follow_L20 _ _ _ _ (m + 1) seen front (nI (n + 1)) (upd (upd sh a 0) a (nI k)) = _
      rw [fR_follow_L20, if_pos (by rw [nn_lt (by omega) (by omega)]; omega), fR_follow_K20_78, nn_ck (show a < 40 by omega) (by omega), nn_cl (by omega)]
    · rw [hI1 j]
      constructor
      · rintro ⟨t, _, ht⟩; exact ⟨t, ht.1, ht.2.1⟩
      · rintro ⟨t, ht1, ht2⟩
        obtain ⟨q, hq1, hq2⟩ := pm_D_ex t ht1 ht2
        have := pm_D_le hA hq2
        exact ⟨q, by omega, hq2⟩
    · rcases hI3 with ⟨e, h⟩ | ⟨_, h⟩
      · refine Or.inl ⟨e, ?_⟩
        rintro ⟨t, ht1, ht2⟩
        obtain ⟨q, hq1, hq2⟩ := pm_D_ex t ht1 ht2
        have := pm_D_le hA hq2
        exact h q (by omega) hq2
      · exact Or.inr h
  · refine ⟨fun v => ?_, fun v => ?_, Or.inl ⟨rfl, fun j hj hD => ?_⟩⟩
    · show mk_t 0 v = true ↔ _
      rw [mk_0]
      constructor
      · intro h; cases h
      · rintro ⟨j, h1, h2⟩
        have := h2.1
        omega
    · show mk_t (asked a) v = true ↔ _
      rw [hask a ha v]
      constructor
      · intro h; exact ⟨by omega, pm_one.mpr h, fun j hj _ => hj⟩
      · intro h; exact pm_one.mp h.2.1
    · have := hD.1
      omega
