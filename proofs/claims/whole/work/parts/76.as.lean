-- asking: both sides step by step
def ak_I (n ne d v a : Nat) (op nx was way asked at_ : Nat → Int32) (w en : Nat → Nat) : Prop :=
  v + d + 1 = 2 * a ∧ d ≤ a ∧ (∀ i, i < a → en i < n ∧ was (en i) ≠ 0) ∧ (∀ i j, i < a → j < a → en i = en j → i = j) ∧
  (∀ j, j < d → op j = nI (w j) ∧ way j = nI (w j) ∧ w j < n ∧ was (w j) ≠ 0 ∧ asked (w j) = 1 ∧ ∃ e, e ≤ ne ∧ nx (w j) = nI e ∧ at_ (w j) = nI e) ∧
  (∀ i j, i < d → j < d → w i = w j → i = j) ∧
  ∀ x, x < n → (was x = 0 → asked x = 0 ∧ at_ x = 0) ∧ (was x ≠ 0 → (∀ j, j < d → w j ≠ x) → asked x = 2)
theorem as_10 : ¬ (1 : Int32) = 2 := by decide
theorem as_02 : ¬ (0 : Int32) = 2 := by decide
theorem as_01 : ¬ (0 : Int32) = 1 := by decide
theorem ak_sim {n ne k : Nat} {fr to cf gone bits : Nat → Int32} (hn : n ≤ 40) (hE : ed_I n ne (nI ne) fr to gone cf bits) (hk : k < 8) : ∀ (r v d a : Nat) (op nx was way asked at_ mk : Nat → Int32) (w en : Nat → Nat), v + r = 80 → ak_I n ne d v a op nx was way asked at_ w en → ∀ fC fM, r < fC → 161 * r < fM →
    ∃ mc mk' oc op' nx' was' way' asked' at', fA_goOn_L2 fA_goOn_K2_82 (nI ne) fr to cf gone (nI k) fC (nI v) 0 mk (nI d) op nx was = some (nI mc, mk', oc, op', nx', was') ∧ fM_ask_L74 (fM_ask_K74_245 0) 0 (nI ne) fr to bits gone (nI k) fM (nI d) 0 way asked at_ = some (nI mc, 0, nI mc, way', asked', at') ∧ mc ≤ 40 ∧ ∀ j, j < mc → mk' j = way' j := by
  have hne : ne ≤ 160 := hE.1
  have ht : ∀ e, e < ne → ∃ a, a < n ∧ to e = nI a := hE.2.2.2.1
  intro r
  induction r with
  | zero =>
    intro v d a op nx was way asked at_ mk w en hv hI
    obtain ⟨i1, i2, i3, i4, -⟩ := hI
    have := pm_pig n a (fun i v => en i = v) (fun i hi => ⟨en i, (i3 i hi).1, rfl⟩) (fun i j v hi hj e1 e2 => i4 i j hi hj (e1.trans e2.symm))
    omega
  | succ r ih =>
    intro v d a op nx was way asked at_ mk w en hv hI fC fM hC hM
    obtain ⟨i1, i2, i3, i4, i5, i6, i7⟩ := id hI
    have han : a ≤ n := pm_pig n a (fun i v => en i = v) (fun i hi => ⟨en i, (i3 i hi).1, rfl⟩) (fun i j v hi hj e1 e2 => i4 i j hi hj (e1.trans e2.symm))
    obtain ⟨c, rfl⟩ : ∃ c, fC = c + 1 := ⟨fC - 1, by omega⟩
    rw [fA_goOn_L2, if_neg (show ¬ 80 ≤ nI v by rw [nn_leL (b := 80) (y := 80) rfl (by omega) (by omega)]; omega)]
    cases d with
    | zero =>
      rw [if_pos (show nI 0 ≤ 0 by decide), fA_goOn_K2_82]
      obtain ⟨m, rfl⟩ : ∃ m, fM = m + 1 := ⟨fM - 1, by omega⟩
      rw [fM_ask_L74, if_pos (show nI 0 ≤ 0 by decide), fM_ask_K74_245]
      exact ⟨0, mk, _, _, _, _, _, _, _, rfl, rfl, Nat.zero_le _, fun j hj => absurd hj (Nat.not_lt_zero _)⟩
    | succ d =>
      obtain ⟨o1, o2, o3, o4, o5, e0, o6, o7, o8⟩ := i5 d (by omega)
      have hw : ∀ j, j < d + 1 → op j = nI (w j) ∧ w j < 40 := fun j hj => ⟨(i5 j hj).1, by have := (i5 j hj).2.2.1; omega⟩
      have hwy : ∀ j, j < d + 1 → way j = nI (w j) ∧ w j < 40 := fun j hj => ⟨(i5 j hj).2.1, by have := (i5 j hj).2.2.1; omega⟩
      have has : ∀ x, x < n → (asked x ≠ 2 ↔ (was x = 0 ∨ ∃ j, j < d + 1 ∧ w j = x)) := by
        intro x hx
        obtain ⟨g1, g2⟩ := i7 x hx
        constructor
        · intro h
          refine Classical.byContradiction fun hno => h (g2 (fun q => hno (Or.inl q)) (fun j hj q => hno (Or.inr ⟨j, hj, q⟩)))
        · rintro (h | ⟨j, j1, j2⟩)
          · rw [(g1 h).1]; exact as_02
          · rw [← j2, (i5 j j1).2.2.2.2.1]; exact as_10
      rw [if_neg (show ¬ nI (d + 1) ≤ 0 by rw [nn_leR (b := 0) (y := 0) rfl (by omega) (by omega)]; omega), nI_pred, nn_ck (show d < 40 by omega) (by omega), nn_cl (show d ≤ 100000 by omega), o1]
      rcases ak_next hn hE hk (show d + 1 ≤ 40 by omega) hw (show w d < 40 by omega) o7 o6 has with ⟨t1, t2⟩ | ⟨e, x, t1, t2, t3, t4, t5, t6, t7⟩
      · -- nothing more to ask
        rw [t1, Option.bind_some, if_pos rfl, nI_1]
        obtain ⟨m, rfl⟩ : ∃ m, fM = (m + 1) + (ne - e0) := ⟨fM - 1 - (ne - e0), by omega⟩
        rw [ak_scan hn ht (show 1 ≤ d + 1 by omega) (show d + 1 ≤ 40 by omega) (show w d < 40 by omega) o2 hne hk (ne - e0) e0 (m + 1) at_ o8 (by omega) (fun i g1 g2 => t2 i g1 (by omega)), show e0 + (ne - e0) = ne by omega, ak_pop (show d < 40 by omega) (show w d < 40 by omega) o2 pk_us hne, ak_upd2]
        have hne' : ∀ j, j < d → w j ≠ w d := fun j hj q => by
          have := i6 j d (by omega) (by omega) q
          omega
        refine ih (v + 1) d a op nx was way (upd asked (w d) 2) (upd at_ (w d) (nI (ne + 1))) mk w en (by omega) ⟨by omega, by omega, i3, i4, fun j hj => ?_, fun i j hi hj => i6 i j (by omega) (by omega), fun x hx => ⟨fun g => ?_, fun g1 g2 => ?_⟩⟩ c m (by omega) (by omega)
        · rw [pk_un (hne' j hj), pk_un (hne' j hj)]
          exact i5 j (by omega)
        · have hxt : x ≠ w d := fun q => o4 (by rw [← q]; exact g)
          rw [pk_un hxt, pk_un hxt]
          exact (i7 x hx).1 g
        · by_cases hxt : x = w d
          · rw [hxt, pk_us]
          · rw [pk_un hxt]
            refine (i7 x hx).2 g1 (fun j hj q => ?_)
            rcases Nat.lt_or_ge j d with g | g
            · exact g2 j g q
            · have ee : j = d := by omega
              rw [ee] at q
              exact hxt q.symm
      · -- the next target
        rw [t7, Option.bind_some, if_neg (nn_m1 (show x ≤ 100000 by omega)), nn_ck (show x < 40 by omega) (by omega), nn_cl (show x ≤ 100000 by omega)]
        obtain ⟨m, rfl⟩ : ∃ m, fM = (m + 1) + (e - e0) := ⟨fM - 1 - (e - e0), by omega⟩
        have hac := t5.2.1
        unfold ac at hac
        rw [Bool.and_eq_true, decide_eq_true_eq] at hac
        have hbt : ¬ bt (bits e) k = false := by rw [hac.2]; decide
        have ha2 : ¬ asked x = 2 := by
          have := t5.2.2
          rw [t4, nn_cl (by omega)] at this
          exact this
        rw [ak_scan hn ht (show 1 ≤ d + 1 by omega) (show d + 1 ≤ 40 by omega) (show w d < 40 by omega) o2 hne hk (e - e0) e0 (m + 1) at_ o8 (by omega) (fun i g1 g2 => t6 i g1 (by omega)), show e0 + (e - e0) = e by omega, ak_un (show 1 ≤ d + 1 by omega) (show d + 1 ≤ 40 by omega) (show w d < 40 by omega) o2 pk_us t2 hne hk t4 (show x < 40 by omega), if_pos hac.1, if_neg hbt, if_pos t5.1, if_neg ha2, ak_upd2]
        obtain ⟨g1, g2⟩ := i7 x t3
        by_cases hwx : was x = 0
        · -- it is asked for the first time
          obtain ⟨g3, g4⟩ := g1 hwx
          have hnx : ∀ j, j < d + 1 → w j ≠ x := fun j hj q => (i5 j hj).2.2.2.1 (by rw [q]; exact hwx)
          have hen : ∀ i, i < a → en i ≠ x := fun i hi q => (i3 i hi).2 (by rw [q]; exact hwx)
          have hen1 : ∀ i, i < a + 1 → (if i < a then en i else x) < n := fun i hi => by
            split
            · exact (i3 i (by assumption)).1
            · exact t3
          have hen2 : ∀ i j, i < a + 1 → j < a + 1 → (if i < a then en i else x) = (if j < a then en j else x) → i = j := fun i j hi hj q => by
            rcases Nat.lt_or_ge i a with q1 | q1 <;> rcases Nat.lt_or_ge j a with q2 | q2
            · rw [if_pos q1, if_pos q2] at q; exact i4 i j q1 q2 q
            · rw [if_pos q1, if_neg (by omega)] at q; exact absurd q (hen i q1)
            · rw [if_neg (by omega), if_pos q2] at q; exact absurd q.symm (hen j q2)
            · omega
          have han1 : a + 1 ≤ n := pm_pig n (a + 1) (fun i v => (if i < a then en i else x) = v) (fun i hi => ⟨_, hen1 i hi, rfl⟩) (fun i j v hi hj e1 e2 => hen2 i j hi hj (e1.trans e2.symm))
          rw [if_pos hwx, if_neg (by rw [g3]; exact as_01), fA_push, if_neg (show ¬ 40 ≤ nI (d + 1) by rw [nn_leL (b := 40) (y := 40) rfl (by omega) (by omega)]; omega)]
          rw [nn_ck (show d + 1 < 40 by omega) (by omega), nn_ck (show d + 1 < 40 by omega) (by omega), nn_ck (show x < 40 by omega) (by omega), nn_ck (show x < 40 by omega) (by omega), Option.bind_some, nn_cl (show d + 1 ≤ 100000 by omega), nn_cl (show x ≤ 100000 by omega), nI_1, nI_1]
          refine ih (v + 1) (d + 1 + 1) (a + 1) (upd op (d + 1) (nI x)) (upd (upd nx (w d) (nI (e + 1))) x 0) (upd was x (vp_nar .boolean 1)) (upd way (d + 1) (nI x)) (upd asked x 1) (upd at_ (w d) (nI (e + 1))) mk (fun j => if j < d + 1 then w j else x) (fun i => if i < a then en i else x) (by omega) ⟨by omega, by omega, fun i hi => ⟨hen1 i hi, ?_⟩, hen2, fun j hj => ?_, fun i j hi hj q => ?_, fun y hy => ⟨fun g => ?_, fun q1 q2 => ?_⟩⟩ c m (by omega) (by omega)
          · show upd was x (vp_nar .boolean 1) (if i < a then en i else x) ≠ 0
            rcases Nat.lt_or_ge i a with q1 | q1
            · rw [if_pos q1, pk_un (hen i q1)]; exact (i3 i q1).2
            · rw [if_neg (by omega), pk_us]; exact one_ne
          · show upd op (d + 1) (nI x) j = nI (if j < d + 1 then w j else x) ∧ upd way (d + 1) (nI x) j = nI (if j < d + 1 then w j else x) ∧ (if j < d + 1 then w j else x) < n ∧ upd was x (vp_nar .boolean 1) (if j < d + 1 then w j else x) ≠ 0 ∧ upd asked x 1 (if j < d + 1 then w j else x) = 1 ∧ ∃ e1, e1 ≤ ne ∧ upd (upd nx (w d) (nI (e + 1))) x 0 (if j < d + 1 then w j else x) = nI e1 ∧ upd at_ (w d) (nI (e + 1)) (if j < d + 1 then w j else x) = nI e1
            rcases Nat.lt_or_ge j (d + 1) with q1 | q1
            · obtain ⟨p1, p2, p3, p4, p5, e2, p6, p7, p8⟩ := i5 j q1
              rw [if_pos q1, pk_un (show j ≠ d + 1 by omega), pk_un (show j ≠ d + 1 by omega), pk_un (hnx j q1), pk_un (hnx j q1), pk_un (hnx j q1)]
              refine ⟨p1, p2, p3, p4, p5, ?_⟩
              by_cases hjd : w j = w d
              · rw [hjd, pk_us, pk_us]
                exact ⟨e + 1, by omega, rfl, rfl⟩
              · rw [pk_un hjd, pk_un hjd]
                exact ⟨e2, p6, p7, p8⟩
            · have ej : j = d + 1 := by omega
              rw [if_neg (by omega), ej, pk_us, pk_us, pk_us, pk_us, pk_us]
              refine ⟨rfl, rfl, t3, one_ne, rfl, 0, Nat.zero_le _, rfl, ?_⟩
              rw [pk_un (fun q => hnx d (by omega) q.symm)]
              exact g4
          · have q : (if i < d + 1 then w i else x) = (if j < d + 1 then w j else x) := q
            rcases Nat.lt_or_ge i (d + 1) with q1 | q1 <;> rcases Nat.lt_or_ge j (d + 1) with q2 | q2
            · rw [if_pos q1, if_pos q2] at q; exact i6 i j q1 q2 q
            · rw [if_pos q1, if_neg (by omega)] at q; exact absurd q (hnx i q1)
            · rw [if_neg (by omega), if_pos q2] at q; exact absurd q.symm (hnx j q2)
            · omega
          · have hyx : y ≠ x := fun q => by
              rw [q, pk_us] at g
              exact one_ne g
            have hyd : y ≠ w d := fun q => by
              rw [pk_un hyx, q] at g
              exact o4 g
            rw [pk_un hyx] at g
            rw [pk_un hyx, pk_un hyd]
            exact (i7 y hy).1 g
          · have q2 : ∀ j, j < d + 1 + 1 → (if j < d + 1 then w j else x) ≠ y := q2
            have hyx : y ≠ x := fun q => by
              have := q2 (d + 1) (by omega)
              rw [if_neg (by omega)] at this
              exact this q.symm
            rw [pk_un hyx] at q1 ⊢
            refine (i7 y hy).2 q1 (fun j hj => ?_)
            have := q2 j (by omega)
            rw [if_pos hj] at this
            exact this
        · -- it is being asked: a ring
          obtain ⟨j, j1, j2⟩ : ∃ j, j < d + 1 ∧ w j = x := by
            rcases (has x t3).mp ha2 with q | q
            · exact absurd q hwx
            · exact q
          have ha1 : asked x = 1 := by rw [← j2]; exact (i5 j j1).2.2.2.2.1
          rw [if_neg hwx, if_pos ha1, fA_meet]
          rcases ak_openAt (show d + 1 ≤ 40 by omega) hw (show x < 40 by omega) with ⟨p, p1, p2, p3, p4⟩ | ⟨p1, -⟩
          · obtain ⟨way', y1, y2⟩ := ak_ringOf (ms := 0) (show d + 1 ≤ 40 by omega) hwy (show x < 40 by omega) p1 p2 p3
            rw [p4, Option.bind_some, if_neg (nn_m1 (by omega)), pk_sub (by omega), y1, Option.bind_some]
            have hcp : ∀ (q : Option (Int32 × (Nat → Int32))), og_cp (nI p) 0 (nI (d + 1 - p)) 40 40 q = q := fun q => by
              unfold og_cp
              rw [nn_cl (by omega), nn_cl (by omega), show (0 : Int32).toNatClampNeg = 0 from rfl, if_neg]
              rintro (h | h | h | h | h)
              · exact nn_neg (by omega) h
              · exact absurd h (by decide)
              · exact nn_neg (by omega) h
              · omega
              · omega
            rw [hcp, Option.bind_some]
            refine ⟨d + 1 - p, _, _, _, _, _, _, _, _, rfl, rfl, by omega, fun j hj => ?_⟩
            show va_cpy op mk (nI p).toNatClampNeg (0 : Int32).toNatClampNeg (nI (d + 1 - p)).toNatClampNeg j = way' j
            rw [nn_cl (by omega), nn_cl (by omega), show (0 : Int32).toNatClampNeg = 0 from rfl, pk_cpy_in (Nat.zero_le _) (by omega), Nat.sub_zero, y2 j hj]
            exact (hw (p + j) (by omega)).1
          · exact absurd j2 (p1 j j1)
