-- a whole asking
theorem aq_begin {n j : Nat} {mcount oc : Int32} {op nx was : Nat → Int32} (hn : n ≤ 40) (hj : j < n) : ∃ was', fA_begin mcount oc op nx was (nI j) (nI n) = some (0, 1, upd op 0 (nI j), upd nx j 0, upd was' j (vp_nar .boolean 1)) ∧ ∀ y, y < n → was' y = 0 := by
  rw [fA_begin]
  refine lo_up (σ := Nat → Int32) (fun m i z => fA_begin_L2 (fA_begin_K2_20 op nx (nI j)) (nI n) m (nI i) z) (fun i z => ∀ y, y < i → z y = 0) (fun r => ∃ was', r = some (0, 1, upd op 0 (nI j), upd nx j 0, upd was' j (vp_nar .boolean 1)) ∧ ∀ y, y < n → was' y = 0) n ?_ ?_ FU 0 was (Nat.zero_le _) (by rw [FU_eq]; omega) (fun y hy => absurd hy (Nat.not_lt_zero _))
  · intro m i z hi hI
    refine Or.inr ⟨upd z i (vp_nar .boolean 0), ?_, fun y hy => ?_⟩
    · show fA_begin_L2 (fA_begin_K2_20 op nx (nI j)) (nI n) (m + 1) (nI i) z = _
      rw [fA_begin_L2, if_neg (by rw [nn_le (by omega) (by omega)]; omega), nn_ck (show i < 40 by omega) (by omega), nn_cl (by omega), nI_1]
    · by_cases e : y = i
      · rw [e, pk_us]; rfl
      · rw [pk_un e]; exact hI y (by omega)
  · intro m z hI
    refine ⟨z, ?_, hI⟩
    show fA_begin_L2 (fA_begin_K2_20 op nx (nI j)) (nI n) (m + 1) (nI n) z = _
    have e0 : (0 : Int32) = nI 0 := rfl
    rw [fA_begin_L2, if_pos (by rw [nn_le (by omega) (by omega)]; omega), fA_begin_K2_20, fA_push, if_neg (by decide)]
    rw [show og_ck (0 : Int32) 40 = og_ck (α := Int32 × (Nat → Int32) × (Nat → Int32) × (Nat → Int32)) (nI 0) 40 from rfl, nn_ck (show 0 < 40 by omega) (by omega), nn_ck (show j < 40 by omega) (by omega), nn_ck (show j < 40 by omega) (by omega), Option.bind_some, nn_cl (show j ≤ 100000 by omega)]
    rfl
theorem aq_ask {n ne k j : Nat} {co mcount oc ms : Int32} {fr to cf gone bits mk op nx was way asked at_ : Nat → Int32} (hn : n ≤ 40) (hE : ed_I n ne (nI ne) fr to gone cf bits) (hk : k < 8) (hj : j < n) :
    ∃ mc mk' oc' op' nx' was' way' asked' at', fC_ask (nI n) (nI ne) fr to cf gone (nI k) mcount mk oc op nx was (nI j) = some (nI mc, nI mc, mk', oc', op', nx', was') ∧ fM_ask co (nI n) (nI ne) fr to bits gone (nI k) ms way asked at_ (nI j) = some (nI mc, 0, nI mc, way', asked', at') ∧ mc ≤ 40 ∧ ∀ i, i < mc → mk' i = way' i := by
  obtain ⟨was', b1, b2⟩ := aq_begin (mcount := mcount) (oc := oc) (op := op) (nx := nx) (was := was) hn hj
  have hM : ∃ asked' at', fM_ask_L25 (fM_ask_K25_53 0 (nI ne) fr to bits gone (nI k) way (nI j)) (nI n) FU 0 asked at_ = fM_ask_K25_53 0 (nI ne) fr to bits gone (nI k) way (nI j) asked' at' ∧ ∀ y, y < n → asked' y = 0 ∧ at' y = 0 := by
    refine lo_up (σ := (Nat → Int32) × (Nat → Int32)) (fun m i z => fM_ask_L25 (fM_ask_K25_53 0 (nI ne) fr to bits gone (nI k) way (nI j)) (nI n) m (nI i) z.1 z.2) (fun i z => ∀ y, y < i → z.1 y = 0 ∧ z.2 y = 0) (fun r => ∃ asked' at', r = fM_ask_K25_53 0 (nI ne) fr to bits gone (nI k) way (nI j) asked' at' ∧ ∀ y, y < n → asked' y = 0 ∧ at' y = 0) n ?_ ?_ FU 0 (asked, at_) (Nat.zero_le _) (by rw [FU_eq]; omega) (fun y hy => absurd hy (Nat.not_lt_zero _))
    · rintro m i ⟨z, u⟩ hi hI
      have hI : ∀ y, y < i → z y = 0 ∧ u y = 0 := hI
      refine Or.inr ⟨(upd z i 0, upd u i 0), ?_, fun y hy => ?_⟩
      · show fM_ask_L25 (fM_ask_K25_53 0 (nI ne) fr to bits gone (nI k) way (nI j)) (nI n) (m + 1) (nI i) z u = _
        rw [fM_ask_L25, if_neg (by rw [nn_le (by omega) (by omega)]; omega), nn_ck (show i < 40 by omega) (by omega), nn_ck (show i < 40 by omega) (by omega), nn_cl (by omega), nI_1]
      · show upd z i 0 y = 0 ∧ upd u i 0 y = 0
        by_cases e : y = i
        · rw [e, pk_us, pk_us]; exact ⟨rfl, rfl⟩
        · rw [pk_un e, pk_un e]; exact hI y (by omega)
    · rintro m ⟨z, u⟩ hI
      refine ⟨z, u, ?_, hI⟩
      show fM_ask_L25 (fM_ask_K25_53 0 (nI ne) fr to bits gone (nI k) way (nI j)) (nI n) (m + 1) (nI n) z u = _
      rw [fM_ask_L25, if_pos (by rw [nn_le (by omega) (by omega)]; omega)]
  obtain ⟨asked', at', c1, c2⟩ := hM
  have hI : ak_I n ne 1 0 1 (upd op 0 (nI j)) (upd nx j 0) (upd was' j (vp_nar .boolean 1)) (upd way 0 (nI j)) (upd asked' j 1) at' (fun _ => j) (fun _ => j) := by
    refine ⟨rfl, Nat.le_refl _, fun i hi => ⟨hj, ?_⟩, fun i i2 h1 h2 _ => by omega, fun i hi => ?_, fun i i2 h1 h2 _ => by omega, fun x hx => ⟨fun g => ?_, fun g1 g2 => ?_⟩⟩
    · rw [pk_us]; exact one_ne
    · have e : i = 0 := by omega
      rw [e, pk_us, pk_us, pk_us, pk_us, pk_us]
      exact ⟨rfl, rfl, hj, one_ne, rfl, 0, Nat.zero_le _, rfl, (c2 j hj).2⟩
    · have hxj : x ≠ j := fun q => by
        rw [q, pk_us] at g
        exact one_ne g
      rw [pk_un hxj]
      exact c2 x hx
    · have hxj : x ≠ j := fun q => g2 0 (by omega) q.symm
      rw [pk_un hxj] at g1
      exact absurd (b2 x hx) g1
  obtain ⟨mc, mk', oc', op', nx', was2, way', asked2, at2, s1, s2, s3, s4⟩ := ak_sim hn hE hk 80 0 1 1 _ _ _ _ _ _ mk _ _ rfl hI FU FU (by rw [FU_eq]; omega) (by rw [FU_eq]; omega)
  have s1 : fA_goOn_L2 fA_goOn_K2_82 (nI ne) fr to cf gone (nI k) FU 0 0 mk 1 (upd op 0 (nI j)) (upd nx j 0) (upd was' j (vp_nar .boolean 1)) = some (nI mc, mk', oc', op', nx', was2) := s1
  have s2 : fM_ask_L74 (fM_ask_K74_245 0) 0 (nI ne) fr to bits gone (nI k) FU 1 0 (upd way 0 (nI j)) (upd asked' j 1) at' = some (nI mc, 0, nI mc, way', asked2, at2) := s2
  refine ⟨mc, mk', oc', op', nx', was2, way', asked2, at2, ?_, ?_, s3, s4⟩
  · rw [fC_ask, hs_1 (by omega) hj, Option.bind_some, if_neg one_ne, if_neg (nn_m1 (by omega)), b1, Option.bind_some, fA_goOn, s1, Option.bind_some]
  · rw [fM_ask, if_neg (nn_m1 (by omega)), hs_M, hs_1 (by omega) hj, Option.bind_some, if_neg one_ne, c1, fM_ask_K25_53, nn_ck (show j < 40 by omega) (by omega), show og_ck (0 : Int32) 40 = og_ck (α := Int32 × Int32 × Int32 × (Nat → Int32) × (Nat → Int32) × (Nat → Int32)) (nI 0) 40 from rfl, nn_ck (show 0 < 40 by omega) (by omega), nn_cl (show j ≤ 100000 by omega)]
    exact s2
