-- edges that are in a configuration; who asks whom, by rank
def ac (gone bits : Nat → Int32) (k e : Nat) : Bool := decide (gone e = 0) && bt (bits e) k
theorem ac_1 (x : Int32) : x &&& 1 = if bt x 0 = true then 1 else 0 := by
  apply b_ext
  intro i hi
  have h1 : ∀ i, i < 32 → bt 1 i = decide (i = 0) := by decide +kernel
  rw [b_and, h1 i hi]
  by_cases h : i = 0
  · subst h
    cases hb : bt x 0 <;> simp [b_0] <;> decide
  · split
    · rw [h1 i hi]; simp [h]
    · rw [b_0]; simp [h]
theorem ac_sh (b : Int32) {k : Nat} (hk : k < 8) : bt (b >>> (nI k &&& 31)) 0 = bt b k := by
  rw [b_sshr k (by omega) b (by decide), if_pos (by omega), Nat.add_zero]
theorem ac_isIn {ne e k : Nat} {cf gone bits : Nat → Int32} (hne : ne ≤ 160) (he : e < ne) (hk : k < 8) (hcf : cf e = bits e &&& 255) : fE_isIn (nI ne) cf gone (nI e) (nI k) = some (if ac gone bits k e = true then 1 else 0) := by
  have hb : bt (cf e) k = bt (bits e) k := by rw [hcf, b_and, b_255]; simp [hk]
  rw [fE_isIn, hs_E, hs_1 (by omega) he, Option.bind_some, if_neg (by decide), nn_ck (show e < 160 by omega) (by omega), nn_ck (show e < 160 by omega) (by omega), nn_cl (by omega), ac_1, ac_sh _ hk, hb]
  unfold ac
  by_cases h1 : gone e = 0
  · rw [if_pos h1]
    cases bt (bits e) k <;> simp [h1]
  · rw [if_neg h1]; simp [h1]
theorem ac_isThen {e k : Nat} {tg bits : Nat → Int32} (he : e < 160) (hk : k < 8) : fM_isThen bits tg (nI e) (nI k) = some (if ac tg bits k e = true then 1 else 0) := by
  rw [fM_isThen, nn_ck he (by omega), nn_ck he (by omega), nn_cl (by omega), ac_1, ac_sh _ hk]
  unfold ac
  by_cases h1 : tg e = 0
  · rw [if_pos h1]
    cases bt (bits e) k <;> simp [h1]
  · rw [if_neg h1]; simp [h1]
/-- the rank of the key that a number names -/
def ac_r (nm : Nat → Int32) (n : Nat) (x : Int32) : Nat := ky_r nm n x.toNatClampNeg
/-- by rank: x asks y, by an edge below m -/
def aj (nm fr to gone bits : Nat → Int32) (k n m : Nat) (x y : Nat) : Prop := ∃ e, e < m ∧ ac gone bits k e = true ∧ ac_r nm n (fr e) = x ∧ ac_r nm n (to e) = y
theorem aj_lt {nm fr to gone bits : Nat → Int32} {k n m x y : Nat} (hf : ∀ e, e < m → ∃ a, a < n ∧ fr e = nI a) (ht : ∀ e, e < m → ∃ a, a < n ∧ to e = nI a) (hn : n ≤ 40) (h : aj nm fr to gone bits k n m x y) : x < n ∧ y < n := by
  obtain ⟨e, h1, _, rfl, rfl⟩ := h
  obtain ⟨a, ha, e1⟩ := hf e h1
  obtain ⟨b, hb, e2⟩ := ht e h1
  unfold ac_r
  rw [e1, e2, nn_cl (by omega), nn_cl (by omega)]
  exact ⟨ky_r_lt ha, ky_r_lt hb⟩
theorem rc_draw (hb : ∀ x : Int64, fX_bitCount x = some (nI (rc_n x))) {n ne k : Nat} {rcnt : Int32} {nm ro fr to cf gone bits sh : Nat → Int32} {asked rd : Nat → Int64} (hn : n ≤ 40) (hk : k < 8) (hro : ∀ j, j < n → ro j = nI (ky_r nm n j)) (hE : ed_I n ne (nI ne) fr to gone cf bits) :
    ∃ asked' rd' sh', fR_draw (nI n) ro (nI ne) fr to cf gone rcnt asked rd sh (nI k) = some (nI n, asked', rd', sh') ∧ (∀ r, r < n → ∀ j, mk_t (asked' r) j = true ↔ aj nm fr to gone bits k n ne r j) ∧ (∀ r, r < n → ∀ j, mk_t (rd' r) j = true ↔ pm_reach (aj nm fr to gone bits k n ne) r j) ∧
      ∀ r, r < n → ∃ s, sh' r = nI s ∧ ((s = 0 ∧ ¬ pm_reach (aj nm fr to gone bits k n ne) r r) ∨ pm_D (aj nm fr to gone bits k n ne) r r s) := by
  obtain ⟨h1, -, h3, h4, h5, h6, h7⟩ := hE
  have hA : ∀ x y, aj nm fr to gone bits k n ne x y → y < n := fun x y h => (aj_lt h3 h4 hn h).2
  -- the third loop
  have L3 : ∀ asked', (∀ r, r < n → ∀ j, mk_t (asked' r) j = true ↔ aj nm fr to gone bits k n ne r j) → ∃ rd' sh', fR_draw_L99 (fR_draw_K99_120 (nI n) asked') (nI n) asked' FU 0 rd sh = some (nI n, asked', rd', sh') ∧ (∀ r, r < n → ∀ j, mk_t (rd' r) j = true ↔ pm_reach (aj nm fr to gone bits k n ne) r j) ∧
      ∀ r, r < n → ∃ s, sh' r = nI s ∧ ((s = 0 ∧ ¬ pm_reach (aj nm fr to gone bits k n ne) r r) ∨ pm_D (aj nm fr to gone bits k n ne) r r s) := by
    intro asked' hask
    refine lo_up (σ := (Nat → Int64) × (Nat → Int32)) (fun m i st => fR_draw_L99 (fR_draw_K99_120 (nI n) asked') (nI n) asked' m (nI i) st.1 st.2) (fun i st => (∀ r, r < i → ∀ j, mk_t (st.1 r) j = true ↔ pm_reach (aj nm fr to gone bits k n ne) r j) ∧ ∀ r, r < i → ∃ s, st.2 r = nI s ∧ ((s = 0 ∧ ¬ pm_reach (aj nm fr to gone bits k n ne) r r) ∨ pm_D (aj nm fr to gone bits k n ne) r r s))
      (fun r => ∃ rd' sh', r = some (nI n, asked', rd', sh') ∧ (∀ r, r < n → ∀ j, mk_t (rd' r) j = true ↔ pm_reach (aj nm fr to gone bits k n ne) r j) ∧ ∀ r, r < n → ∃ s, sh' r = nI s ∧ ((s = 0 ∧ ¬ pm_reach (aj nm fr to gone bits k n ne) r r) ∨ pm_D (aj nm fr to gone bits k n ne) r r s)) n ?_ ?_ FU 0 (rd, sh) (Nat.zero_le _) (by rw [FU_eq]; omega) ⟨fun r hr => by omega, fun r hr => by omega⟩
    · rintro m i ⟨d, s⟩ hi ⟨hI1, hI2⟩
      have hI1 : ∀ r, r < i → ∀ j, mk_t (d r) j = true ↔ pm_reach (aj nm fr to gone bits k n ne) r j := hI1
      have hI2 : ∀ r, r < i → ∃ q, s r = nI q ∧ ((q = 0 ∧ ¬ pm_reach (aj nm fr to gone bits k n ne) r r) ∨ pm_D (aj nm fr to gone bits k n ne) r r q) := hI2
      obtain ⟨R, z, g1, g2, g3⟩ := rc_follow hb hn hi hA (rd := d) (sh := s) hask
      refine Or.inr ⟨(vp_updL d i R, upd (upd s i 0) i (nI z)), ?_, fun r hr j => ?_, fun r hr => ?_⟩
      · show fR_draw_L99 _ _ _ (m + 1) (nI i) d s = fR_draw_L99 _ _ _ m (nI (i + 1)) _ _
        rw [fR_draw_L99, if_neg (by rw [nn_le (by omega) (by omega)]; omega), g1, Option.bind_some, nI_1]
      · show mk_t (vp_updL d i R r) j = true ↔ _
        by_cases e : r = i
        · subst e; rw [pk_uLs]; exact g2 j
        · rw [pk_uLn e]; exact hI1 r (by omega) j
      · show ∃ q, upd (upd s i 0) i (nI z) r = nI q ∧ _
        by_cases e : r = i
        · subst e; exact ⟨z, pk_us, g3⟩
        · rw [pk_un e, pk_un e]; exact hI2 r (by omega)
    · rintro m ⟨d, s⟩ ⟨hI1, hI2⟩
      refine ⟨d, s, ?_, hI1, hI2⟩
      show fR_draw_L99 _ _ _ (m + 1) (nI n) d s = _
      rw [fR_draw_L99, if_pos (by rw [nn_le (by omega) (by omega)]; omega)]
      rfl
  -- the second loop
  have L2 : ∀ asked0 : Nat → Int64, (∀ r, r < n → asked0 r = 0) → ∃ asked', fR_draw_L37 (fR_draw_K37_96 (nI n) rd sh) ro (nI ne) fr to cf gone (nI k) FU 0 asked0 = fR_draw_K37_96 (nI n) rd sh asked' ∧ ∀ r, r < n → ∀ j, mk_t (asked' r) j = true ↔ aj nm fr to gone bits k n ne r j := by
    intro asked0 h0
    refine lo_up (σ := Nat → Int64) (fun m i st => fR_draw_L37 (fR_draw_K37_96 (nI n) rd sh) ro (nI ne) fr to cf gone (nI k) m (nI i) st) (fun i st => ∀ r, r < n → ∀ j, mk_t (st r) j = true ↔ aj nm fr to gone bits k n i r j) (fun r => ∃ asked', r = fR_draw_K37_96 (nI n) rd sh asked' ∧ ∀ r, r < n → ∀ j, mk_t (asked' r) j = true ↔ aj nm fr to gone bits k n ne r j) ne ?_ ?_ FU 0 asked0 (Nat.zero_le _) (by rw [FU_eq]; omega) (fun r hr j => by
        rw [h0 r hr, mk_0]
        constructor
        · intro h; cases h
        · rintro ⟨e, he, _⟩; omega)
    · intro m i st hi hI
      refine Or.inr ?_
      show ∃ st', fR_draw_L37 _ _ _ _ _ _ _ _ (m + 1) (nI i) st = fR_draw_L37 _ _ _ _ _ _ _ _ m (nI (i + 1)) st' ∧ _
      have hone : ∀ r j, aj nm fr to gone bits k n (i + 1) r j ↔ (aj nm fr to gone bits k n i r j ∨ (ac gone bits k i = true ∧ ac_r nm n (fr i) = r ∧ ac_r nm n (to i) = j)) := by
        intro r j
        constructor
        · rintro ⟨e, g1, g2⟩
          rcases Nat.lt_or_ge e i with q | q
          · exact Or.inl ⟨e, q, g2⟩
          · have e1 : e = i := by omega
            subst e1
            exact Or.inr g2
        · rintro (⟨e, g1, g2⟩ | g)
          · exact ⟨e, by omega, g2⟩
          · exact ⟨i, by omega, g⟩
      rw [fR_draw_L37, if_neg (by rw [nn_le (by omega) (by omega)]; omega), ac_isIn h1 hi hk (h7 i hi), Option.bind_some, nI_1]
      by_cases ha : ac gone bits k i = true
      · obtain ⟨x, hx, ex⟩ := h3 i hi
        obtain ⟨y, hy, ey⟩ := h4 i hi
        have hrx := ky_r_lt (nm := nm) hx
        have hry := ky_r_lt (nm := nm) hy
        have e1 : ac_r nm n (fr i) = ky_r nm n x := by unfold ac_r; rw [ex, nn_cl (by omega)]
        have e2 : ac_r nm n (to i) = ky_r nm n y := by unfold ac_r; rw [ey, nn_cl (by omega)]
        rw [if_pos ha, if_neg (by decide), nn_ck (show i < 160 by omega) (by omega), nn_cl (show i ≤ 100000 by omega), ex, nn_ck (show x < 40 by omega) (by omega), nn_cl (show x ≤ 100000 by omega), hro x hx, nn_ck (show ky_r nm n x < 40 by omega) (by omega), nn_cl (show ky_r nm n x ≤ 100000 by omega), nn_ck (show i < 160 by omega) (by omega), ey, nn_ck (show y < 40 by omega) (by omega), nn_cl (show y ≤ 100000 by omega), hro y hy, nn_ck (show ky_r nm n x < 40 by omega) (by omega)]
        refine ⟨_, rfl, fun r hr j => ?_⟩
        rw [hone r j, e1, e2]
        by_cases e : r = ky_r nm n x
        · subst e
          rw [pk_uLs, mk_or, mk_one (by omega), Bool.or_eq_true, hI _ hr j]
          constructor
          · rintro (g | g)
            · exact Or.inl g
            · exact Or.inr ⟨ha, rfl, (of_decide_eq_true g).symm⟩
          · rintro (g | ⟨_, _, g⟩)
            · exact Or.inl g
            · exact Or.inr (decide_eq_true g.symm)
        · rw [pk_uLn e, hI r hr j]
          constructor
          · exact Or.inl
          · rintro (g | ⟨_, g, _⟩)
            · exact g
            · exact absurd g.symm e
      · rw [if_neg ha, if_pos rfl]
        refine ⟨st, rfl, fun r hr j => ?_⟩
        rw [hone r j, hI r hr j]
        constructor
        · exact Or.inl
        · rintro (g | ⟨g, _⟩)
          · exact g
          · exact absurd g ha
    · intro m st hI
      refine ⟨st, ?_, hI⟩
      show fR_draw_L37 _ _ _ _ _ _ _ _ (m + 1) (nI ne) st = _
      rw [fR_draw_L37, if_pos (by rw [nn_le (by omega) (by omega)]; omega)]
  rw [fR_draw]
  refine lo_up (σ := Nat → Int64) (fun m i st => fR_draw_L11 (fR_draw_K11_34 ro (nI ne) fr to cf gone (nI n) rd sh (nI k)) (nI n) m (nI i) st) (fun i st => ∀ r, r < i → st r = 0) (fun r => ∃ asked' rd' sh', r = some (nI n, asked', rd', sh') ∧ (∀ r, r < n → ∀ j, mk_t (asked' r) j = true ↔ aj nm fr to gone bits k n ne r j) ∧ (∀ r, r < n → ∀ j, mk_t (rd' r) j = true ↔ pm_reach (aj nm fr to gone bits k n ne) r j) ∧
      ∀ r, r < n → ∃ s, sh' r = nI s ∧ ((s = 0 ∧ ¬ pm_reach (aj nm fr to gone bits k n ne) r r) ∨ pm_D (aj nm fr to gone bits k n ne) r r s)) n ?_ ?_ FU 0 asked (Nat.zero_le _) (by rw [FU_eq]; omega) (fun r hr => by omega)
  · intro m i st hi hI
    refine Or.inr ⟨vp_updL st i 0, ?_, fun r hr => ?_⟩
    · show fR_draw_L11 _ _ (m + 1) (nI i) st = fR_draw_L11 _ _ m (nI (i + 1)) _
      rw [fR_draw_L11, if_neg (by rw [nn_le (by omega) (by omega)]; omega), nn_ck (show i < 40 by omega) (by omega), nn_cl (by omega), nI_1]
    · by_cases e : r = i
      · subst e; exact pk_uLs
      · rw [pk_uLn e]; exact hI r (by omega)
  · intro m st hI
    obtain ⟨asked', g1, g2⟩ := L2 st hI
    obtain ⟨rd', sh', g3, g4, g5⟩ := L3 asked' g2
    refine ⟨asked', rd', sh', ?_, g2, g4, g5⟩
    show fR_draw_L11 _ _ (m + 1) (nI n) st = _
    rw [fR_draw_L11, if_pos (by rw [nn_le (by omega) (by omega)]; omega), fR_draw_K11_34, g1, fR_draw_K37_96]
    exact g3
