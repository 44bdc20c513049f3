-- all that a run tells, in the class
def tr_S (sts : Nat → Int32) (c of L : Nat) : Prop := 1 ≤ L ∧ of + L ≤ 40 ∧ sts c = nI of ∧ sts (c + 1) = nI (of + L)
theorem tr_un {sts : Nat → Int32} {c of L og K : Nat} (h : tr_S sts c of L) (h2 : tr_S sts c og K) : og = of ∧ K = L := by
  obtain ⟨_, a1, a2, a3⟩ := h
  obtain ⟨_, b1, b2, b3⟩ := h2
  rw [a2, nn_eq (by omega) (by omega)] at b2
  rw [a3, nn_eq (by omega) (by omega)] at b3
  omega
theorem tr_mono {sts : Nat → Int32} {rc : Nat} (hS : ∀ c, c < rc → ∃ of L, tr_S sts c of L) {c of L : Nat} (h : tr_S sts c of L) : ∀ d, c < d → d ≤ rc → ∃ x, sts d = nI x ∧ of + L ≤ x ∧ x ≤ 40
  | 0, h1, _ => absurd h1 (Nat.not_lt_zero _)
  | d + 1, h1, h2 => by
    rcases Nat.lt_or_ge c d with q | q
    · obtain ⟨x, x1, x2, x3⟩ := tr_mono hS h d q (by omega)
      obtain ⟨og, K, _, g1, g2, g3⟩ := hS d (by omega)
      rw [x1, nn_eq (by omega) (by omega)] at g2
      exact ⟨og + K, g3, by omega, g1⟩
    · have e : c = d := by omega
      rw [← e]
      exact ⟨of + L, h.2.2.2, Nat.le_refl _, h.2.1⟩
def tc_K (fr to pl gone bits : Nat → Int32) (te k : Nat) (rk oi re : Nat → Int32) (c of L : Nat) : Prop :=
  ((oi c = nI k ∧ ∀ j, j < 8 → j ≠ k → ¬ oi_h fr to gone bits te (fun t => rk (of + t)) L j) ∨ (oi c = -1 ∧ ∃ j, j < 8 ∧ j ≠ k ∧ oi_h fr to gone bits te (fun t => rk (of + t)) L j)) ∧
  ∀ t, t < L → re (of + t) = el fr to pl (ac gone bits k) (rk (of + t)) (rk (of + rn L t)) te
theorem tt_loop {n ne k rc : Nat} {fr to pl cf gone bits oi sts rk re : Nat → Int32} (hE : ed_I n ne (nI ne) fr to gone cf bits) (hk : k < 8) (hrc : rc ≤ 40) (hS : ∀ c, c < rc → ∃ of L, tr_S sts c of L ∧ oi_h fr to gone bits ne (fun t => rk (of + t)) L k)
    (kk : (Nat → Int32) → (Nat → Int32) → Option ((Nat → Int64) × Int32 × Int32 × (Nat → Int32) × (Nat → Int32) × (Nat → Int32) × (Nat → Int32) × Int32 × (Nat → Int32) × (Nat → Int32) × (Nat → Int32))) :
    ∃ oi' re', fT_tell_L35 kk (nI ne) fr to pl cf gone (nI k) (nI rc) sts rk FU 0 oi re = kk oi' re' ∧ ∀ c, c < rc → ∀ of L, tr_S sts c of L → tc_K fr to pl gone bits ne k rk oi' re' c of L := by
  have hS' : ∀ c, c < rc → ∃ of L, tr_S sts c of L := fun c hc => by
    obtain ⟨of, L, h, _⟩ := hS c hc
    exact ⟨of, L, h⟩
  refine lo_up (σ := (Nat → Int32) × (Nat → Int32)) (fun m i z => fT_tell_L35 kk (nI ne) fr to pl cf gone (nI k) (nI rc) sts rk m (nI i) z.1 z.2) (fun i z => ∀ c, c < i → ∀ of L, tr_S sts c of L → tc_K fr to pl gone bits ne k rk z.1 z.2 c of L) (fun r => ∃ oi' re', r = kk oi' re' ∧ ∀ c, c < rc → ∀ of L, tr_S sts c of L → tc_K fr to pl gone bits ne k rk oi' re' c of L) rc ?_ ?_ FU 0 (oi, re) (Nat.zero_le _) (by rw [FU_eq]; omega) (fun c hc => absurd hc (Nat.not_lt_zero _))
  · rintro m i ⟨x, y⟩ hi hI
    have hI : ∀ c, c < i → ∀ of L, tr_S sts c of L → tc_K fr to pl gone bits ne k rk x y c of L := hI
    obtain ⟨of, L, hT, hh⟩ := hS i hi
    obtain ⟨t1, t2, t3, t4⟩ := id hT
    obtain ⟨v, re', r1, r2, r3, r4⟩ := te_tell (oi := x) (re := y) (pl := pl) hE hk (show i < 40 by omega) t1 t2 t3 t4 hh
    refine Or.inr ⟨(upd x i v, re'), ?_, fun c hc og K hK => ?_⟩
    · show fT_tell_L35 kk (nI ne) fr to pl cf gone (nI k) (nI rc) sts rk (m + 1) (nI i) x y = _
      rw [fT_tell_L35, if_neg (by rw [nn_le (by omega) (by omega)]; omega), r1, Option.bind_some, nI_1]
    · show tc_K fr to pl gone bits ne k rk (upd x i v) re' c og K
      rcases Nat.lt_or_ge c i with q | q
      · obtain ⟨c1, c2⟩ := hI c q og K hK
        refine ⟨?_, fun t ht => ?_⟩
        · rw [pk_un (by omega)]; exact c1
        · obtain ⟨z, z1, z2, z3⟩ := tr_mono hS' hK i q (by omega)
          rw [t3, nn_eq (by omega) (by omega)] at z1
          rw [r4 _ (by omega)]
          exact c2 t ht
      · have e : c = i := by omega
        subst e
        obtain ⟨e1, e2⟩ := tr_un hT hK
        subst e1
        subst e2
        refine ⟨?_, r3⟩
        rw [pk_us]; exact r2
  · rintro m ⟨x, y⟩ hI
    refine ⟨x, y, ?_, hI⟩
    show fT_tell_L35 kk (nI ne) fr to pl cf gone (nI k) (nI rc) sts rk (m + 1) (nI rc) x y = _
    rw [fT_tell_L35, if_pos (by rw [nn_le (by omega) (by omega)]; omega)]
theorem te_next {A : Nat → Nat → Prop} {F L : Nat} {rs : Nat → Nat} (h : rg_R A F L rs) {t : Nat} (ht : t < L) : A (rs t) (rs (rn L t)) := by
  unfold rn
  rcases Nat.lt_or_ge (t + 1) L with q | q
  · rw [if_pos q]; exact (h.2.1 t q).1.1
  · rw [if_neg (by omega), h.1]
    have h1 := (h.2.2 t ht).2
    have e : L - t = 1 := by omega
    rw [e] at h1
    exact pm_one.mp h1
theorem te_oi {n ne k F L : Nat} {nm br fr to gone bits ks : Nat → Int32} {rs : Nat → Nat} (hn : n ≤ 40) (hb : pt_br n nm br) (hf : ∀ e, e < ne → ∃ a, a < n ∧ fr e = nI a) (ht : ∀ e, e < ne → ∃ a, a < n ∧ to e = nI a) (hR : rg_R (aj nm fr to gone bits k n ne) F L rs) (hks : ∀ t, t < L → ks t = br (rs t)) : oi_h fr to gone bits ne ks L k := by
  intro t htL
  obtain ⟨e, e1, e2, e3, e4⟩ := te_next hR htL
  obtain ⟨a, a1, a2⟩ := hf e e1
  obtain ⟨b, b1, b2⟩ := ht e e1
  refine ⟨e, e1, e2, ?_, ?_⟩
  · rw [hks t htL, ← e3, a2, ac_r, nn_cl (by omega)]
    exact (hb a a1).symm
  · rw [hks _ (rn_lt htL), ← e4, b2, ac_r, nn_cl (by omega)]
    exact (hb b b1).symm
theorem cr_run {n ne k : Nat} {R_count T_configuration T_ringCount T_keyCount : Int32} {nm br ro fr to pl cf gone bits sh po so lo oi sts rk re : Nat → Int32} {asked rd ly : Nat → Int64} (hK : ky_I n (nI n) nm br ro) (hE : ed_I n ne (nI ne) fr to gone cf bits) (hk : k < 8) (hs0 : sts 0 = 0) :
    ∃ asked' rd' sh' ly' po' so' lo' oi' sts' rk' re' en, fC_run (nI n) br ro (nI ne) fr to pl cf gone R_count asked rd sh ly T_configuration T_ringCount po so lo oi T_keyCount sts rk re (nI k) = some (nI (rt_c (aj nm fr to gone bits k n ne) n), nI n, asked', rd', sh', ly', nI k, nI (rt_c (aj nm fr to gone bits k n ne) n), po', so', lo', oi', nI n, sts', rk', re') ∧
      (∀ j, j < n → ∃ p, po' j = nI p ∧ pt_p (aj nm fr to gone bits k n ne) (ky_r nm n j) p) ∧ (∀ j, j < n → ∃ s, so' j = nI s ∧ tk_s (aj nm fr to gone bits k n ne) n (ky_r nm n j) s) ∧ (∀ j, j < n → ∃ s, lo' j = nI s ∧ mp_s (aj nm fr to gone bits k n ne) (ky_r nm n j) s) ∧
      rt_I (aj nm fr to gone bits k n ne) n n en br sts' rk' ∧ (∀ c, c < rt_c (aj nm fr to gone bits k n ne) n → ∀ of L, tr_S sts' c of L → tc_K fr to pl gone bits ne k rk' oi' re' c of L) := by
  obtain ⟨hn, -, hd, hro, hbr⟩ := hK
  have hE0 := hE
  obtain ⟨hne, -, hf, ht, -, -, hcf⟩ := hE
  have hA : ∀ x y, aj nm fr to gone bits k n ne x y → x < n ∧ y < n := fun x y h => aj_lt hf ht hn h
  rw [fC_run, if_neg (nn_neg (by omega)), if_pos (show nI k < 8 by rw [nn_ltR (b := 8) (y := 8) rfl (by omega) (by omega)]; exact hk)]
  obtain ⟨asked', rd', sh', d1, d2, d3, d4⟩ := rc_draw rc_bc (rcnt := R_count) (sh := sh) (asked := asked) (rd := rd) hn hk hro hE0
  rw [d1, Option.bind_some, fT_tell]
  obtain ⟨so', lo', k1, k2, k3⟩ := tk_tell (so := so) (lo := lo) hn hA hd hbr d3 d4
  obtain ⟨po', p1, p2⟩ := pt_number (po := po) hn hd hbr d3
  obtain ⟨ly', sts', rk', en, r1, r2⟩ := rt_tellRings rc_bc (ly := ly) (sts := sts) (rk := rk) (br := br) (rc0 := T_ringCount) hn hA hs0 d2 d3 d4
  have hrc := rt_c_le (A := aj nm fr to gone bits k n ne) n
  have hen := rt_en r2
  obtain ⟨oi', re', t1, t2⟩ := tt_loop (pl := pl) (oi := oi) (sts := sts') (rk := rk') (re := re) hE0 hk (show rt_c (aj nm fr to gone bits k n ne) n ≤ 40 by omega) (fun c hc => by
    obtain ⟨f, f1, f2, f3⟩ := rt_c_sur n hc
    obtain ⟨F, L, rs, of, g1, g2, g3, g4, g5, g6⟩ := r2.2.2.2 f f1 f2
    rw [f3] at g3 g4
    exact ⟨of, L, ⟨g1.2.1.1, by omega, g3, g4⟩, te_oi hn hbr hf ht g2 g6⟩) (fT_tell_K35_57 ly' (nI k) (nI (rt_c (aj nm fr to gone bits k n ne) n)) po' so' lo' (nI n) sts' rk')
  refine ⟨asked', rd', sh', ly', po', so', lo', oi', sts', rk', re', en, ?_, p2, k2, k3, r2, t2⟩
  rw [k1, Option.bind_some, p1, Option.bind_some, r1, Option.bind_some, t1, fT_tell_K35_57, Option.bind_some]
