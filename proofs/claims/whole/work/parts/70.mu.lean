-- the reference's run
theorem pt_c_sur {A : Nat → Nat → Prop} {t : Nat} : ∀ i, t < pt_c A i → ∃ f, f < i ∧ pt_f A f ∧ pt_c A f = t
  | 0, h => by exact absurd h (Nat.not_lt_zero _)
  | i + 1, h => by
    by_cases hh : pt_f A i
    · rw [pt_c_y hh] at h
      rcases Nat.lt_or_ge t (pt_c A i) with q | q
      · obtain ⟨f, h1, h2⟩ := pt_c_sur i q
        exact ⟨f, by omega, h2⟩
      · exact ⟨i, by omega, hh, by omega⟩
    · rw [pt_c_n hh] at h
      obtain ⟨f, h1, h2⟩ := pt_c_sur i h
      exact ⟨f, by omega, h2⟩
theorem mu_gap {A : Nat → Nat → Prop} {i : Nat} : ∀ f, i ≤ f → pt_c A i = pt_c A f → rt_c A i = rt_c A f ∧ ∀ g, i ≤ g → g < f → ¬ rt_f A g
  | 0, h, _ => by
    have e : i = 0 := by omega
    subst e
    exact ⟨rfl, fun g _ h => absurd h (Nat.not_lt_zero _)⟩
  | f + 1, h, he => by
    rcases Nat.lt_or_ge f i with q | q
    · have e : i = f + 1 := by omega
      subst e
      exact ⟨rfl, fun g h1 h2 => by omega⟩
    · have h1 := pt_c_mono (A := A) (x := i) f q
      have hnf : ¬ pt_f A f := fun hh => by
        rw [pt_c_y hh] at he
        omega
      rw [pt_c_n hnf] at he
      have hnr : ¬ rt_f A f := fun hh => hnf hh.1
      obtain ⟨a, b⟩ := mu_gap f q he
      refine ⟨by rw [rt_c_n hnr]; exact a, fun g g1 g2 => ?_⟩
      rcases Nat.lt_or_ge g f with r | r
      · exact b g g1 r
      · have e : g = f := by omega
        rw [e]; exact hnr
/-- the rings of the first ones below i, in the reference -/
def mu_I (A : Nat → Nat → Prop) (n i : Nat) (sz rg : Nat → Int32) : Prop := ∀ g, g < i → rt_f A g → ∃ F L rs, rg_B A g F L ∧ rg_R A F L rs ∧ L ≤ n ∧ sz (rt_c A g) = nI L ∧ ∀ t, t < L → rg (40 * rt_c A g + t) = nI (rs t)
theorem mu_L84 {A : Nat → Nat → Prop} {n : Nat} {pa sh as ba rg sz : Nat → Int32} (hn : n ≤ 40) (hA : ∀ x y, A x y → x < n ∧ y < n) (hpa : ∀ a, a < n → ∃ p, pa a = nI p ∧ pt_p A a p) (hsh : ∀ a, a < n → ∃ s, sh a = nI s ∧ mp_s A a s) (has : ∀ a b, a < 40 → b < 40 → (as (40 * a + b) = 0 ↔ ¬ A a b)) (kk : Int32 → (Nat → Int32) → (Nat → Int32) → (Nat → Int32) → Option (Int32 × Int32 × Int32 × Int32 × Int32 × (Nat → Int32) × (Nat → Int32) × (Nat → Int32) × (Nat → Int32) × (Nat → Int32) × (Nat → Int32) × (Nat → Int32) × (Nat → Int32) × Int32 × Int32 × (Nat → Int32) × (Nat → Int32) × (Nat → Int32))) :
    ∃ sz' rg' ba', fM_run_L84 kk (nI n) pa sh as (nI (pt_c A n)) FU 0 0 sz rg ba = kk (nI (rt_c A n)) sz' rg' ba' ∧ mu_I A n n sz' rg' := by
  have hcn := pt_c_le (A := A) n
  refine lo_up (σ := Nat × (Nat → Int32) × (Nat → Int32) × (Nat → Int32)) (fun m p z => fM_run_L84 kk (nI n) pa sh as (nI (pt_c A n)) m (nI p) (nI (rt_c A z.1)) z.2.1 z.2.2.1 z.2.2.2) (fun p z => z.1 ≤ n ∧ pt_c A z.1 = p ∧ mu_I A n z.1 z.2.1 z.2.2.1) (fun r => ∃ sz' rg' ba', r = kk (nI (rt_c A n)) sz' rg' ba' ∧ mu_I A n n sz' rg') (pt_c A n) ?_ ?_ FU 0 (0, sz, rg, ba) (Nat.zero_le _) (by rw [FU_eq]; omega) ⟨Nat.zero_le _, rfl, fun g hg => absurd hg (Nat.not_lt_zero _)⟩
  · rintro m p ⟨i, s, r, b⟩ hp ⟨hI1, hI2, hI3⟩
    have hI1 : i ≤ n := hI1
    have hI2 : pt_c A i = p := hI2
    have hI3 : mu_I A n i s r := hI3
    refine Or.inr ?_
    show ∃ z' : Nat × (Nat → Int32) × (Nat → Int32) × (Nat → Int32), fM_run_L84 kk (nI n) pa sh as (nI (pt_c A n)) (m + 1) (nI p) (nI (rt_c A i)) s r b = fM_run_L84 kk (nI n) pa sh as (nI (pt_c A n)) m (nI (p + 1)) (nI (rt_c A z'.1)) z'.2.1 z'.2.2.1 z'.2.2.2 ∧ z'.1 ≤ n ∧ pt_c A z'.1 = p + 1 ∧ mu_I A n z'.1 z'.2.1 z'.2.2.1
    obtain ⟨f, f1, f2, f3⟩ := pt_c_sur n hp
    have hif : i ≤ f := by
      rcases Nat.lt_or_ge f i with q | q
      · have := pt_c_mono (A := A) (x := f + 1) i q
        rw [pt_c_y f2] at this
        omega
      · exact q
    obtain ⟨g1, g2⟩ := mu_gap (A := A) f hif (hI2.trans f3.symm)
    have hcf := rt_c_le (A := A) f
    have hlow : mu_I A n f s r := fun g hg hr => by
      rcases Nat.lt_or_ge g i with q | q
      · exact hI3 g q hr
      · exact absurd hr (g2 g q hg)
    rw [fM_run_L84, if_neg (by rw [nn_le (by omega) (by omega)]; omega), g1, ← f3, nI_1]
    rcases mt_part (c := rt_c A f) (ba := b) (rg := r) (sz := s) hn hA f1 f2 (by omega) hpa hsh has with ⟨h1, h2⟩ | ⟨h1, F, L, rs, rg', ba', h2, h3, h4, h5, h6, h7⟩
    · rw [h2, Option.bind_some]
      refine ⟨(f + 1, s, r, b), ?_, f1, pt_c_y f2, fun g hg hr => ?_⟩
      · show _ = fM_run_L84 kk (nI n) pa sh as (nI (pt_c A n)) m (nI (pt_c A f + 1)) (nI (rt_c A (f + 1))) s r b
        rw [rt_c_n h1]
      · rcases Nat.lt_or_ge g f with q | q
        · exact hlow g q hr
        · have e : g = f := by omega
          rw [e] at hr
          exact absurd hr h1
    · rw [h5, Option.bind_some]
      refine ⟨(f + 1, upd s (rt_c A f) (nI L), rg', ba'), ?_, f1, pt_c_y f2, fun g hg hr => ?_⟩
      · show _ = fM_run_L84 kk (nI n) pa sh as (nI (pt_c A n)) m (nI (pt_c A f + 1)) (nI (rt_c A (f + 1))) (upd s (rt_c A f) (nI L)) rg' ba'
        rw [rt_c_y h1]
      · show ∃ F L0 rs, rg_B A g F L0 ∧ rg_R A F L0 rs ∧ L0 ≤ n ∧ upd s (rt_c A f) (nI L) (rt_c A g) = nI L0 ∧ ∀ t, t < L0 → rg' (40 * rt_c A g + t) = nI (rs t)
        rcases Nat.lt_or_ge g f with q | q
        · obtain ⟨G, K, rt, c1, c2, c3, c4, c5⟩ := hlow g q hr
          have hcg := rt_c_mono (A := A) (x := g + 1) f q
          rw [rt_c_y hr] at hcg
          refine ⟨G, K, rt, c1, c2, c3, ?_, fun t ht => ?_⟩
          · rw [pk_un (by omega)]; exact c4
          · rw [h7 _ (by omega)]; exact c5 t ht
        · have e : g = f := by omega
          rw [e]
          exact ⟨F, L, rs, h2, h3, h4, pk_us, h6⟩
  · rintro m ⟨i, s, r, b⟩ ⟨hI1, hI2, hI3⟩
    have hI1 : i ≤ n := hI1
    have hI2 : pt_c A i = pt_c A n := hI2
    have hI3 : mu_I A n i s r := hI3
    obtain ⟨g1, g2⟩ := mu_gap n hI1 hI2
    refine ⟨s, r, b, ?_, fun g hg hr => ?_⟩
    · show fM_run_L84 kk (nI n) pa sh as (nI (pt_c A n)) (m + 1) (nI (pt_c A n)) (nI (rt_c A i)) s r b = _
      rw [fM_run_L84, if_pos (by rw [nn_le (by omega) (by omega)]; omega), g1]
    · rcases Nat.lt_or_ge g i with q | q
      · exact hI3 g q hr
      · exact absurd hr (g2 g q hg)
theorem mu_L40 {gone tg : Nat → Int32} (hg : ∀ e, gone e = 0 ∨ gone e = 1) (kk : (Nat → Int32) → Option (Int32 × Int32 × Int32 × Int32 × Int32 × (Nat → Int32) × (Nat → Int32) × (Nat → Int32) × (Nat → Int32) × (Nat → Int32) × (Nat → Int32) × (Nat → Int32) × (Nat → Int32) × Int32 × Int32 × (Nat → Int32) × (Nat → Int32) × (Nat → Int32))) :
    ∃ tg', fM_run_L40 kk gone FU 0 tg = kk tg' ∧ ∀ e, e < 160 → tg' e = gone e := by
  refine lo_up (σ := Nat → Int32) (fun m i z => fM_run_L40 kk gone m (nI i) z) (fun i z => ∀ e, e < i → z e = gone e) (fun r => ∃ tg', r = kk tg' ∧ ∀ e, e < 160 → tg' e = gone e) 160 ?_ ?_ FU 0 tg (Nat.zero_le _) (by rw [FU_eq]; omega) (fun e he => absurd he (Nat.not_lt_zero _))
  · intro m i z hi hI
    refine Or.inr ⟨upd z i (vp_nar .boolean (gone i)), ?_, fun e he => ?_⟩
    · show fM_run_L40 kk gone (m + 1) (nI i) z = _
      rw [fM_run_L40, if_neg (show ¬ 160 ≤ nI i by rw [nn_leL (b := 160) (y := 160) rfl (by omega) (by omega)]; omega), nn_ck hi (by omega), nn_ck hi (by omega), nn_cl (by omega), nI_1]
    · by_cases e1 : e = i
      · subst e1
        rw [pk_us]
        rcases hg e with h | h <;> rw [h] <;> rfl
      · rw [pk_un e1]; exact hI e (by omega)
  · intro m z hI
    refine ⟨z, ?_, hI⟩
    show fM_run_L40 kk gone (m + 1) (nI 160) z = _
    rw [fM_run_L40, if_pos (show 160 ≤ nI 160 by rw [nn_leL (b := 160) (y := 160) rfl (by omega) (by omega)]; omega)]
theorem aj_congr {nm fr to gone tg bits : Nat → Int32} {k n m : Nat} (h : ∀ e, e < m → tg e = gone e) : aj nm fr to tg bits k n m = aj nm fr to gone bits k n m := by
  funext x y
  apply propext
  have key : ∀ e, e < m → ac tg bits k e = ac gone bits k e := fun e he => by unfold ac; rw [h e he]
  constructor
  · rintro ⟨e, h1, h2, h3⟩
    exact ⟨e, h1, by rw [← key e h1]; exact h2, h3⟩
  · rintro ⟨e, h1, h2, h3⟩
    exact ⟨e, h1, by rw [key e h1]; exact h2, h3⟩
theorem mu_run {n ne k : Nat} {c tk te cfg ps rgs : Int32} {nm fr to bits gone tg od rk pa sh as re st sz rg ba : Nat → Int32} (hn : n ≤ 40) (hne : ne ≤ 160) (hk : k < 8) (hd : ∀ i j, i < n → j < n → nm i = nm j → i = j) (hf : ∀ e, e < ne → ∃ a, a < n ∧ fr e = nI a) (ht : ∀ e, e < ne → ∃ a, a < n ∧ to e = nI a) (hg : ∀ e, gone e = 0 ∨ gone e = 1) :
    ∃ tg' od' rk' pa' sh' as' re' st' sz' rg' ba', fM_run c (nI n) (nI ne) nm fr to bits gone tk te cfg tg od rk pa sh as re st ps rgs sz rg ba (nI k) = some (nI (rt_c (aj nm fr to gone bits k n ne) n), 0, nI n, nI ne, nI k, tg', od', rk', pa', sh', as', re', st', nI (pt_c (aj nm fr to gone bits k n ne) n), nI (rt_c (aj nm fr to gone bits k n ne) n), sz', rg', ba') ∧
      (∀ e, e < 160 → tg' e = gone e) ∧ (∀ j, j < n → rk' j = nI (ky_r nm n j)) ∧ (∀ j, j < n → od' (ky_r nm n j) = nI j) ∧
      (∀ a, a < n → ∃ p, pa' a = nI p ∧ pt_p (aj nm fr to gone bits k n ne) a p) ∧ (∀ a, a < n → ∃ s, sh' a = nI s ∧ mp_s (aj nm fr to gone bits k n ne) a s) ∧
      (∀ a b, a < 40 → b < 40 → (re' (40 * a + b) = 0 ↔ ¬ pm_reach (aj nm fr to gone bits k n ne) a b)) ∧ mu_I (aj nm fr to gone bits k n ne) n n sz' rg' ∧ mc_b re' := by
  rw [fM_run, if_neg (nn_neg (by omega)), if_pos (show nI k < 8 by rw [nn_ltR (b := 8) (y := 8) rfl (by omega) (by omega)]; exact hk)]
  obtain ⟨tg', t1, t2⟩ := mu_L40 (tg := tg) hg (fM_run_K40_65 0 (nI n) nm fr to bits (nI n) (nI ne) (nI k) od rk pa sh as re st ps sz rg ba)
  obtain ⟨od', rk', o1, o2, o3⟩ := ms_sort (od := od) (rk := rk) hn hd
  obtain ⟨as', re', st', m1, m2, m3, m4, m5⟩ := mc_close (bits := bits) (tg := tg') (as := as) (re := re) (st := st) hn hne hk hf ht o2
  have eA := aj_congr (nm := nm) (fr := fr) (to := to) (bits := bits) (k := k) (n := n) (m := ne) (fun e he => t2 e (by omega))
  rw [eA] at m2 m3 m4
  have hA : ∀ x y, aj nm fr to gone bits k n ne x y → x < n ∧ y < n := fun x y h => aj_lt hf ht hn h
  obtain ⟨pa', sh', c1, c2, c3⟩ := mp_cut (pa := pa) (sh := sh) (ps := ps) hn m3 m4
  obtain ⟨sz', rg', ba', l1, l2⟩ := mu_L84 (sz := sz) (rg := rg) (ba := ba) hn hA c2 c3 m2 (fM_run_K84_103 0 (nI n) (nI ne) (nI k) tg' od' rk' pa' sh' as' re' st' (nI (pt_c (aj nm fr to gone bits k n ne) n)))
  refine ⟨tg', od', rk', pa', sh', as', re', st', sz', rg', ba', ?_, t2, o2, o3, c2, c3, m3, l2, m5⟩
  rw [t1, fM_run_K40_65, o1, Option.bind_some, m1, Option.bind_some, c1, Option.bind_some, l1, fM_run_K84_103]
