-- asking: the reference's loop
theorem ak_bit {b : Int32} {k : Nat} (hk : k < 8) : (((b >>> (nI k &&& 31)) &&& 1) = 0) = (bt b k = false) := by
  rw [ac_1, ac_sh _ hk]
  cases bt b k <;> simp
theorem ak_un {ne k d e top x m : Nat} {ms : Int32} {fr to bits gone way asked at_ : Nat → Int32} {kk : Int32 → (Nat → Int32) → (Nat → Int32) → (Nat → Int32) → Option (Int32 × Int32 × Int32 × (Nat → Int32) × (Nat → Int32) × (Nat → Int32))} (hd1 : 1 ≤ d) (hd : d ≤ 40) (htop : top < 40) (hw : way (d - 1) = nI top) (hat : at_ top = nI e) (he : e < ne) (hne : ne ≤ 160) (hk : k < 8) (hto : to e = nI x) (hx : x < 40) :
    fM_ask_L74 kk 0 (nI ne) fr to bits gone (nI k) (m + 1) (nI d) ms way asked at_ =
      if gone e = 0 then (if bt (bits e) k = false then fM_ask_L74 kk 0 (nI ne) fr to bits gone (nI k) m (nI d) ms way asked (upd at_ top (nI (e + 1))) else
        if fr e = nI top then (if asked x = 2 then fM_ask_L74 kk 0 (nI ne) fr to bits gone (nI k) m (nI d) ms way asked (upd at_ top (nI (e + 1))) else
          if asked x = 1 then (fM_ringOf ms way (nI d) (nI x)).bind fun r => some (r.1, 0, r.2.1, r.2.2, asked, upd at_ top (nI (e + 1))) else
            og_ck (nI d) 40 (fM_ask_L74 kk 0 (nI ne) fr to bits gone (nI k) m (nI (d + 1)) ms (upd way d (nI x)) (upd asked x 1) (upd at_ top (nI (e + 1)))))
        else fM_ask_L74 kk 0 (nI ne) fr to bits gone (nI k) m (nI d) ms way asked (upd at_ top (nI (e + 1))))
      else fM_ask_L74 kk 0 (nI ne) fr to bits gone (nI k) m (nI d) ms way asked (upd at_ top (nI (e + 1))) := by
  have h1 : ¬ (nI e = nI ne) := by rw [nn_eq (by omega) (by omega)]; omega
  rw [fM_ask_L74, if_neg (show ¬ nI d ≤ 0 by rw [nn_leR (b := 0) (y := 0) rfl (by omega) (by omega)]; omega), ml_p hd1]
  simp only [nn_cl (show d - 1 ≤ 100000 by omega), hw, nn_cl (show top ≤ 100000 by omega), hat, nn_cl (show e ≤ 100000 by omega), hto, nn_cl (show x ≤ 100000 by omega), nn_cl (show d ≤ 100000 by omega), nI_1, h1, if_false, ak_bit hk]
  rw [nn_ck (show d - 1 < 40 by omega) (by omega), nn_ck (show top < 40 by omega) (by omega), nn_ck (show top < 40 by omega) (by omega), nn_ck (show top < 40 by omega) (by omega)]
  simp only [nn_ck (show e < 160 by omega) (by omega : 160 ≤ 100000), nn_ck (show x < 40 by omega) (by omega : 40 ≤ 100000)]
/-- an edge that the asking follows -/
def ak_c (fr to gone bits asked : Nat → Int32) (k top e : Nat) : Prop := fr e = nI top ∧ ac gone bits k e = true ∧ asked (to e).toNatClampNeg ≠ 2
theorem ak_upd {f : Nat → Int32} {t : Nat} {x : Int32} (h : f t = x) : upd f t x = f := by
  funext j
  by_cases e : j = t
  · rw [e, pk_us, h]
  · rw [pk_un e]
theorem ak_upd2 {f : Nat → Int32} {t : Nat} {x y : Int32} : upd (upd f t x) t y = upd f t y := by
  funext j
  by_cases e : j = t
  · rw [e, pk_us, pk_us]
  · rw [pk_un e, pk_un e, pk_un e]
theorem ak_skip {n ne k d e top m : Nat} {ms : Int32} {fr to bits gone way asked at_ : Nat → Int32} {kk : Int32 → (Nat → Int32) → (Nat → Int32) → (Nat → Int32) → Option (Int32 × Int32 × Int32 × (Nat → Int32) × (Nat → Int32) × (Nat → Int32))} (hn : n ≤ 40) (ht : ∀ e, e < ne → ∃ a, a < n ∧ to e = nI a) (hd1 : 1 ≤ d) (hd : d ≤ 40) (htop : top < 40) (hw : way (d - 1) = nI top) (hat : at_ top = nI e) (he : e < ne) (hne : ne ≤ 160) (hk : k < 8) (hc : ¬ ak_c fr to gone bits asked k top e) :
    fM_ask_L74 kk 0 (nI ne) fr to bits gone (nI k) (m + 1) (nI d) ms way asked at_ = fM_ask_L74 kk 0 (nI ne) fr to bits gone (nI k) m (nI d) ms way asked (upd at_ top (nI (e + 1))) := by
  obtain ⟨x, x1, x2⟩ := ht e he
  rw [ak_un hd1 hd htop hw hat he hne hk x2 (by omega)]
  unfold ak_c ac at hc
  rw [x2, nn_cl (by omega)] at hc
  by_cases h1 : gone e = 0
  · rw [if_pos h1]
    by_cases h2 : bt (bits e) k = false
    · rw [if_pos h2]
    · rw [if_neg h2]
      by_cases h3 : fr e = nI top
      · rw [if_pos h3]
        by_cases h4 : asked x = 2
        · rw [if_pos h4]
        · exfalso
          refine hc ⟨h3, ?_, h4⟩
          rw [ts_nf h2]; simp [h1]
      · rw [if_neg h3]
  · rw [if_neg h1]
theorem ak_scan {n ne k d top : Nat} {ms : Int32} {fr to bits gone way asked : Nat → Int32} {kk : Int32 → (Nat → Int32) → (Nat → Int32) → (Nat → Int32) → Option (Int32 × Int32 × Int32 × (Nat → Int32) × (Nat → Int32) × (Nat → Int32))} (hn : n ≤ 40) (ht : ∀ e, e < ne → ∃ a, a < n ∧ to e = nI a) (hd1 : 1 ≤ d) (hd : d ≤ 40) (htop : top < 40) (hw : way (d - 1) = nI top) (hne : ne ≤ 160) (hk : k < 8) :
    ∀ (g e m : Nat) (at_ : Nat → Int32), at_ top = nI e → e + g ≤ ne → (∀ i, e ≤ i → i < e + g → ¬ ak_c fr to gone bits asked k top i) → fM_ask_L74 kk 0 (nI ne) fr to bits gone (nI k) (m + g) (nI d) ms way asked at_ = fM_ask_L74 kk 0 (nI ne) fr to bits gone (nI k) m (nI d) ms way asked (upd at_ top (nI (e + g)))
  | 0, e, m, at_, hat, _, _ => by rw [Nat.add_zero, Nat.add_zero, ak_upd hat]
  | g + 1, e, m, at_, hat, hg, hc => by
    rw [show m + (g + 1) = (m + g) + 1 from rfl, ak_skip hn ht hd1 hd htop hw hat (by omega) hne hk (hc e (by omega) (by omega)), ak_scan hn ht hd1 hd htop hw hne hk g (e + 1) m (upd at_ top (nI (e + 1))) pk_us (by omega) (fun i h1 h2 => hc i (by omega) (by omega)), ak_upd2, show e + 1 + g = e + (g + 1) by omega]
theorem ak_pop {ne k d top m : Nat} {ms : Int32} {fr to bits gone way asked at_ : Nat → Int32} {kk : Int32 → (Nat → Int32) → (Nat → Int32) → (Nat → Int32) → Option (Int32 × Int32 × Int32 × (Nat → Int32) × (Nat → Int32) × (Nat → Int32))} (hd : d < 40) (htop : top < 40) (hw : way d = nI top) (hat : at_ top = nI ne) (hne : ne ≤ 160) :
    fM_ask_L74 kk 0 (nI ne) fr to bits gone (nI k) (m + 1) (nI (d + 1)) ms way asked at_ = fM_ask_L74 kk 0 (nI ne) fr to bits gone (nI k) m (nI d) ms way (upd asked top 2) (upd at_ top (nI (ne + 1))) := by
  rw [fM_ask_L74, if_neg (show ¬ nI (d + 1) ≤ 0 by rw [nn_leR (b := 0) (y := 0) rfl (by omega) (by omega)]; omega), nI_pred]
  simp only [nn_cl (show d ≤ 100000 by omega), hw, nn_cl (show top ≤ 100000 by omega), hat, if_true, nI_1, pk_m1]
  rw [nn_ck (show d < 40 by omega) (by omega), nn_ck htop (by omega), nn_ck htop (by omega), nn_ck htop (by omega), nn_ck htop (by omega)]
-- the class's next target
theorem ak_openAt {d x : Nat} {op : Nat → Int32} {w : Nat → Nat} (hd : d ≤ 40) (hw : ∀ j, j < d → op j = nI (w j) ∧ w j < 40) (hx : x < 40) : (∃ j, j < d ∧ w j = x ∧ (∀ i, i < j → w i ≠ x) ∧ fA_openAt (nI d) op (nI x) = some (nI j)) ∨ ((∀ j, j < d → w j ≠ x) ∧ fA_openAt (nI d) op (nI x) = some (-1)) := by
  rw [fA_openAt]
  refine lo_up (σ := Unit) (fun m i _ => fA_openAt_L2 fA_openAt_K2_28 (nI d) op (nI x) m (nI i)) (fun i _ => ∀ j, j < i → w j ≠ x) (fun r => (∃ j, j < d ∧ w j = x ∧ (∀ i, i < j → w i ≠ x) ∧ r = some (nI j)) ∨ ((∀ j, j < d → w j ≠ x) ∧ r = some (-1))) d ?_ ?_ FU 0 () (Nat.zero_le _) (by rw [FU_eq]; omega) (fun j hj => absurd hj (Nat.not_lt_zero _))
  · intro m i _ hi hI
    obtain ⟨w1, w2⟩ := hw i hi
    have hun : fA_openAt_L2 fA_openAt_K2_28 (nI d) op (nI x) (m + 1) (nI i) = if w i = x then some (nI i) else fA_openAt_L2 fA_openAt_K2_28 (nI d) op (nI x) m (nI (i + 1)) := by
      rw [fA_openAt_L2, if_neg (by rw [nn_le (by omega) (by omega)]; omega), nn_ck (show i < 40 by omega) (by omega), nn_cl (by omega), w1, nI_1]
      by_cases h : w i = x
      · rw [if_pos (by rw [h]), if_pos h]
      · rw [if_neg (by rw [nn_eq (by omega) (by omega)]; exact h), if_neg h]
    by_cases h : w i = x
    · rw [if_pos h] at hun
      exact Or.inl (Or.inl ⟨i, hi, h, hI, hun⟩)
    · rw [if_neg h] at hun
      refine Or.inr ⟨(), hun, fun j hj => ?_⟩
      rcases Nat.lt_or_ge j i with q | q
      · exact hI j q
      · have e : j = i := by omega
        rw [e]; exact h
  · intro m _ hI
    refine Or.inr ⟨hI, ?_⟩
    show fA_openAt_L2 fA_openAt_K2_28 (nI d) op (nI x) (m + 1) (nI d) = _
    rw [fA_openAt_L2, if_pos (by rw [nn_le (by omega) (by omega)]; omega), fA_openAt_K2_28]
theorem ak_next {n ne k d top e0 : Nat} {fr to cf gone bits op nx was asked : Nat → Int32} {w : Nat → Nat} (hn : n ≤ 40) (hE : ed_I n ne (nI ne) fr to gone cf bits) (hk : k < 8) (hd : d ≤ 40) (hw : ∀ j, j < d → op j = nI (w j) ∧ w j < 40) (htop : top < 40) (hnx : nx top = nI e0) (he0 : e0 ≤ ne)
    (has : ∀ x, x < n → (asked x ≠ 2 ↔ (was x = 0 ∨ ∃ j, j < d ∧ w j = x))) :
    (fA_nextTarget (nI ne) fr to cf gone (nI d) op nx was (nI top) (nI k) = some (-1, nx) ∧ ∀ i, e0 ≤ i → i < ne → ¬ ak_c fr to gone bits asked k top i) ∨
    ∃ e x, e0 ≤ e ∧ e < ne ∧ x < n ∧ to e = nI x ∧ ak_c fr to gone bits asked k top e ∧ (∀ i, e0 ≤ i → i < e → ¬ ak_c fr to gone bits asked k top i) ∧ fA_nextTarget (nI ne) fr to cf gone (nI d) op nx was (nI top) (nI k) = some (nI x, upd nx top (nI (e + 1))) := by
  obtain ⟨hne, -, -, ht, -, -, hcf⟩ := hE
  rw [fA_nextTarget, nn_ck htop (by omega), nn_cl (by omega), hnx]
  refine lo_up (σ := Unit) (fun m i _ => fA_nextTarget_L8 fA_nextTarget_K8_86 (nI ne) fr to cf gone (nI d) op was (nI top) (nI k) m (nI i) nx) (fun i _ => e0 ≤ i ∧ ∀ j, e0 ≤ j → j < i → ¬ ak_c fr to gone bits asked k top j) (fun r => (r = some (-1, nx) ∧ ∀ i, e0 ≤ i → i < ne → ¬ ak_c fr to gone bits asked k top i) ∨ ∃ e x, e0 ≤ e ∧ e < ne ∧ x < n ∧ to e = nI x ∧ ak_c fr to gone bits asked k top e ∧ (∀ i, e0 ≤ i → i < e → ¬ ak_c fr to gone bits asked k top i) ∧ r = some (nI x, upd nx top (nI (e + 1)))) ne ?_ ?_ FU e0 () he0 (by rw [FU_eq]; omega) ⟨Nat.le_refl _, fun j h1 h2 => by omega⟩
  · rintro m i _ hi ⟨hI0, hI⟩
    obtain ⟨x, x1, x2⟩ := ht i hi
    have more : ¬ ak_c fr to gone bits asked k top i → e0 ≤ i + 1 ∧ ∀ j, e0 ≤ j → j < i + 1 → ¬ ak_c fr to gone bits asked k top j := fun hc => ⟨by omega, fun j h1 h2 => by
      rcases Nat.lt_or_ge j i with q | q
      · exact hI j h1 q
      · have e : j = i := by omega
        rw [e]; exact hc⟩
    have hun : fA_nextTarget_L8 fA_nextTarget_K8_86 (nI ne) fr to cf gone (nI d) op was (nI top) (nI k) (m + 1) (nI i) nx = if fr i = nI top then (if ac gone bits k i = true then (if was x = 0 then some (nI x, upd nx top (nI (i + 1))) else (fA_openAt (nI d) op (nI x)).bind fun r60 => if r60 = (-1) then fA_nextTarget_L8 fA_nextTarget_K8_86 (nI ne) fr to cf gone (nI d) op was (nI top) (nI k) m (nI (i + 1)) nx else some (nI x, upd nx top (nI (i + 1)))) else fA_nextTarget_L8 fA_nextTarget_K8_86 (nI ne) fr to cf gone (nI d) op was (nI top) (nI k) m (nI (i + 1)) nx) else fA_nextTarget_L8 fA_nextTarget_K8_86 (nI ne) fr to cf gone (nI d) op was (nI top) (nI k) m (nI (i + 1)) nx := by
      rw [fA_nextTarget_L8, if_neg (by rw [nn_le (by omega) (by omega)]; omega), ac_isIn hne hi hk (hcf i hi), Option.bind_some]
      simp only [nn_cl (show i ≤ 100000 by omega), x2, nn_cl (show x ≤ 100000 by omega), nn_cl (show top ≤ 100000 by omega), nI_1]
      rw [nn_ck (show i < 160 by omega) (by omega), nn_ck (show i < 160 by omega) (by omega), nn_ck (show x < 40 by omega) (by omega), nn_ck htop (by omega)]
      by_cases h1 : fr i = nI top
      · rw [if_pos h1, if_pos h1]
        by_cases h2 : ac gone bits k i = true
        · rw [if_pos h2, if_neg one_ne, if_pos h2]
        · rw [if_neg h2, if_pos rfl, if_neg h2]
      · rw [if_neg h1, if_neg h1]
    have hask := has x x1
    have hcl : (to i).toNatClampNeg = x := by rw [x2, nn_cl (by omega)]
    show (((fA_nextTarget_L8 fA_nextTarget_K8_86 (nI ne) fr to cf gone (nI d) op was (nI top) (nI k) (m + 1) (nI i) nx = some (-1, nx) ∧ _) ∨ ∃ e x, e0 ≤ e ∧ e < ne ∧ x < n ∧ to e = nI x ∧ ak_c fr to gone bits asked k top e ∧ (∀ i, e0 ≤ i → i < e → ¬ ak_c fr to gone bits asked k top i) ∧ fA_nextTarget_L8 fA_nextTarget_K8_86 (nI ne) fr to cf gone (nI d) op was (nI top) (nI k) (m + 1) (nI i) nx = some (nI x, upd nx top (nI (e + 1)))) ∨ ∃ _ : Unit, fA_nextTarget_L8 fA_nextTarget_K8_86 (nI ne) fr to cf gone (nI d) op was (nI top) (nI k) (m + 1) (nI i) nx = fA_nextTarget_L8 fA_nextTarget_K8_86 (nI ne) fr to cf gone (nI d) op was (nI top) (nI k) m (nI (i + 1)) nx ∧ (e0 ≤ i + 1 ∧ ∀ j, e0 ≤ j → j < i + 1 → ¬ ak_c fr to gone bits asked k top j))
    by_cases h1 : fr i = nI top
    · by_cases h2 : ac gone bits k i = true
      · rw [if_pos h1, if_pos h2] at hun
        by_cases h3 : was x = 0
        · rw [if_pos h3] at hun
          exact Or.inl (Or.inr ⟨i, x, hI0, hi, x1, x2, ⟨h1, h2, by rw [hcl]; exact hask.mpr (Or.inl h3)⟩, hI, hun⟩)
        · rw [if_neg h3] at hun
          rcases ak_openAt hd hw (show x < 40 by omega) with ⟨j, j1, j2, j3, j4⟩ | ⟨j1, j2⟩
          · rw [j4, Option.bind_some, if_neg (nn_m1 (by omega))] at hun
            exact Or.inl (Or.inr ⟨i, x, hI0, hi, x1, x2, ⟨h1, h2, by rw [hcl]; exact hask.mpr (Or.inr ⟨j, j1, j2⟩)⟩, hI, hun⟩)
          · rw [j2, Option.bind_some, if_pos rfl] at hun
            refine Or.inr ⟨(), hun, more (fun q => ?_)⟩
            have q2 := q.2.2
            rw [hcl] at q2
            rcases hask.mp q2 with q3 | ⟨j, q3, q4⟩
            · exact h3 q3
            · exact j1 j q3 q4
      · rw [if_pos h1, if_neg h2] at hun
        exact Or.inr ⟨(), hun, more (fun q => h2 q.2.1)⟩
    · rw [if_neg h1] at hun
      exact Or.inr ⟨(), hun, more (fun q => h1 q.1)⟩
  · rintro m _ ⟨hI0, hI⟩
    refine Or.inl ⟨?_, hI⟩
    show fA_nextTarget_L8 fA_nextTarget_K8_86 (nI ne) fr to cf gone (nI d) op was (nI top) (nI k) (m + 1) (nI ne) nx = _
    rw [fA_nextTarget_L8, if_pos (by rw [nn_le (by omega) (by omega)]; omega), fA_nextTarget_K8_86]
-- the ring that is met, in the reference
theorem ak_ringOf {d x pos : Nat} {ms : Int32} {way : Nat → Int32} {w : Nat → Nat} (hd : d ≤ 40) (hw : ∀ j, j < d → way j = nI (w j) ∧ w j < 40) (hx : x < 40) (hp : pos < d) (hpx : w pos = x) (hlow : ∀ i, i < pos → w i ≠ x) :
    ∃ way', fM_ringOf ms way (nI d) (nI x) = some (nI (d - pos), nI (d - pos), way') ∧ ∀ j, j < d - pos → way' j = nI (w (pos + j)) := by
  rw [fM_ringOf]
  have h1 : fM_ringOf_L2 (fM_ringOf_K2_18 way (nI d)) way (nI x) FU 0 = fM_ringOf_K2_18 way (nI d) (nI pos) := by
    refine lo_up (σ := Unit) (fun m i _ => fM_ringOf_L2 (fM_ringOf_K2_18 way (nI d)) way (nI x) m (nI i)) (fun i _ => True) (fun r => r = fM_ringOf_K2_18 way (nI d) (nI pos)) pos ?_ ?_ FU 0 () (Nat.zero_le _) (by rw [FU_eq]; omega) trivial
    · intro m i _ hi _
      obtain ⟨w1, w2⟩ := hw i (by omega)
      refine Or.inr ⟨(), ?_, trivial⟩
      show fM_ringOf_L2 (fM_ringOf_K2_18 way (nI d)) way (nI x) (m + 1) (nI i) = fM_ringOf_L2 (fM_ringOf_K2_18 way (nI d)) way (nI x) m (nI (i + 1))
      rw [fM_ringOf_L2, nn_ck (show i < 40 by omega) (by omega), nn_cl (by omega), w1, if_neg (by rw [nn_eq (by omega) (by omega)]; exact hlow i hi), nI_1]
    · intro m _ _
      obtain ⟨w1, w2⟩ := hw pos hp
      show fM_ringOf_L2 (fM_ringOf_K2_18 way (nI d)) way (nI x) (m + 1) (nI pos) = _
      rw [fM_ringOf_L2, nn_ck (show pos < 40 by omega) (by omega), nn_cl (by omega), w1, if_pos (by rw [hpx])]
  rw [h1, fM_ringOf_K2_18, pk_sub (by omega)]
  refine lo_up (σ := Nat → Int32) (fun m i z => fM_ringOf_L28 (fM_ringOf_K28_59 (nI (d - pos))) (nI (d - pos)) (nI pos) m (nI i) z) (fun i z => (∀ j, j < i → z j = nI (w (pos + j))) ∧ ∀ j, i ≤ j → z j = way j) (fun r => ∃ way', r = some (nI (d - pos), nI (d - pos), way') ∧ ∀ j, j < d - pos → way' j = nI (w (pos + j))) (d - pos) ?_ ?_ FU 0 way (Nat.zero_le _) (by rw [FU_eq]; omega) ⟨fun j hj => absurd hj (Nat.not_lt_zero _), fun j _ => rfl⟩
  · rintro m i z hi ⟨hI1, hI2⟩
    refine Or.inr ⟨upd z i (z (pos + i)), ?_, fun j hj => ?_, fun j hj => ?_⟩
    · show fM_ringOf_L28 (fM_ringOf_K28_59 (nI (d - pos))) (nI (d - pos)) (nI pos) (m + 1) (nI i) z = _
      rw [fM_ringOf_L28, if_neg (by rw [nn_le (by omega) (by omega)]; omega), nI_add, nn_ck (show pos + i < 40 by omega) (by omega), nn_ck (show i < 40 by omega) (by omega), nn_cl (by omega), nn_cl (by omega), nI_1]
    · rcases Nat.lt_or_ge j i with q | q
      · rw [pk_un (by omega)]; exact hI1 j q
      · have e : j = i := by omega
        rw [e, pk_us, hI2 (pos + i) (by omega)]
        exact (hw (pos + i) (by omega)).1
    · rw [pk_un (by omega)]; exact hI2 j (by omega)
  · rintro m z ⟨hI1, hI2⟩
    refine ⟨z, ?_, hI1⟩
    show fM_ringOf_L28 (fM_ringOf_K28_59 (nI (d - pos))) (nI (d - pos)) (nI pos) (m + 1) (nI (d - pos)) z = _
    rw [fM_ringOf_L28, if_pos (by rw [nn_le (by omega) (by omega)]; omega), fM_ringOf_K28_59]
