-- how many bits are set: the sum by pairs, fours, eights
def pc_v (w : Nat) : List Nat → Nat
  | [] => 0
  | d :: ds => 2 ^ w * pc_v w ds + d
def pc_n : Nat → Nat → Nat
  | 0, _ => 0
  | k + 1, n => n % 2 + pc_n k (n / 2)
def pc_all (b : Nat) (ds : List Nat) : Prop := ∀ d ∈ ds, d < b
theorem pc_and {w : Nat} : ∀ (ds ms : List Nat), ds.length = ms.length → pc_all (2 ^ w) ds → pc_all (2 ^ w) ms → pc_v w ds &&& pc_v w ms = pc_v w (List.zipWith (fun d m => d &&& m) ds ms)
  | [], [], _, _, _ => by simp [pc_v]
  | d :: ds, m :: ms, hl, h1, h2 => by
    have ih := pc_and ds ms (Nat.succ.inj hl) (fun x hx => h1 x (List.mem_cons_of_mem _ hx)) (fun x hx => h2 x (List.mem_cons_of_mem _ hx))
    have hd := h1 d List.mem_cons_self
    have hm := h2 m List.mem_cons_self
    show (2 ^ w * pc_v w ds + d) &&& (2 ^ w * pc_v w ms + m) = 2 ^ w * pc_v w _ + (d &&& m)
    rw [← ih]
    apply Nat.eq_of_testBit_eq
    intro j
    rw [Nat.testBit_and, Nat.testBit_two_pow_mul_add _ hd, Nat.testBit_two_pow_mul_add _ hm, Nat.testBit_two_pow_mul_add _ (Nat.and_lt_two_pow d hm)]
    by_cases hj : j < w
    · simp [hj]
    · simp [hj]
theorem pc_sha {w s : Nat} (hs : s ≤ w) : ∀ (ds ms : List Nat), ds.length = ms.length → pc_all (2 ^ w) ds → pc_all (2 ^ (w - s)) ms → (pc_v w ds / 2 ^ s) &&& pc_v w ms = pc_v w (List.zipWith (fun d m => (d / 2 ^ s) &&& m) ds ms)
  | [], [], _, _, _ => by show 0 / 2 ^ s &&& 0 = 0; simp
  | d :: ds, m :: ms, hl, h1, h2 => by
    have ih := pc_sha hs ds ms (Nat.succ.inj hl) (fun x hx => h1 x (List.mem_cons_of_mem _ hx)) (fun x hx => h2 x (List.mem_cons_of_mem _ hx))
    have hd := h1 d List.mem_cons_self
    have hm := h2 m List.mem_cons_self
    have hm2 : m < 2 ^ w := Nat.lt_of_lt_of_le hm (Nat.pow_le_pow_right (by decide) (by omega))
    show ((2 ^ w * pc_v w ds + d) / 2 ^ s) &&& (2 ^ w * pc_v w ms + m) = 2 ^ w * pc_v w _ + (d / 2 ^ s &&& m)
    rw [← ih]
    apply Nat.eq_of_testBit_eq
    intro j
    rw [Nat.testBit_and, Nat.testBit_two_pow_mul_add _ hm2, Nat.testBit_two_pow_mul_add _ (Nat.and_lt_two_pow _ hm2), Nat.testBit_div_two_pow, Nat.testBit_two_pow_mul_add _ hd]
    by_cases hj : j < w
    · rw [if_pos hj, if_pos hj, Nat.testBit_and, Nat.testBit_div_two_pow]
      by_cases hj2 : j + s < w
      · rw [if_pos hj2]
      · have hz : m.testBit j = false := Nat.testBit_lt_two_pow (Nat.lt_of_lt_of_le hm (Nat.pow_le_pow_right (by decide) (by omega)))
        rw [hz, Bool.and_false, Bool.and_false]
    · rw [if_neg hj, if_neg hj, if_neg (by omega), Nat.testBit_and, Nat.testBit_div_two_pow]
      congr 2
      omega
theorem pc_dig (w : Nat) : ∀ (k n : Nat), n < 2 ^ (w * k) → ∃ ds : List Nat, ds.length = k ∧ pc_all (2 ^ w) ds ∧ n = pc_v w ds
  | 0, n, h => ⟨[], rfl, fun _ h => absurd h List.not_mem_nil, by simp at h; exact h⟩
  | k + 1, n, h => by
    have hp : 0 < 2 ^ w := Nat.pow_pos (by decide)
    obtain ⟨ds, h1, h2, h3⟩ := pc_dig w k (n / 2 ^ w) (by
      rw [Nat.div_lt_iff_lt_mul hp, ← Nat.pow_add]
      rw [Nat.mul_succ] at h
      exact h)
    refine ⟨n % 2 ^ w :: ds, by simp [h1], fun x hx => ?_, ?_⟩
    · rcases List.mem_cons.mp hx with rfl | hx
      · exact Nat.mod_lt _ hp
      · exact h2 x hx
    · show n = 2 ^ w * pc_v w ds + n % 2 ^ w
      rw [← h3]
      exact (Nat.div_add_mod n (2 ^ w)).symm
def pc_sum : List Nat → Nat
  | [] => 0
  | d :: ds => d + pc_sum ds
def pc_g (d : Nat) : Nat := d - d / 2
theorem pc_n2 : ∀ (ds : List Nat), pc_all 4 ds → pc_n (2 * ds.length) (pc_v 2 ds) = pc_sum (ds.map pc_g)
  | [], _ => rfl
  | d :: ds, h => by
    have ih := pc_n2 ds (fun x hx => h x (List.mem_cons_of_mem _ hx))
    have hd := h d List.mem_cons_self
    show pc_n (2 * (ds.length + 1)) (2 ^ 2 * pc_v 2 ds + d) = pc_g d + pc_sum (ds.map pc_g)
    rw [← ih, show 2 * (ds.length + 1) = 2 * ds.length + 1 + 1 by omega]
    show (2 ^ 2 * pc_v 2 ds + d) % 2 + ((2 ^ 2 * pc_v 2 ds + d) / 2 % 2 + pc_n (2 * ds.length) ((2 ^ 2 * pc_v 2 ds + d) / 2 / 2)) = _
    have e : (2 ^ 2 * pc_v 2 ds + d) / 2 / 2 = pc_v 2 ds := by omega
    rw [e]
    unfold pc_g
    omega
/-- pairs of digits, put side by side and summed -/
def pc_pair (b : Nat) : List Nat → List Nat
  | x :: y :: r => (x + b * y) :: pc_pair b r
  | _ => []
theorem pc_pair_v (w : Nat) : ∀ (k : Nat) (ds : List Nat), ds.length = 2 * k → pc_v w ds = pc_v (2 * w) (pc_pair (2 ^ w) ds)
  | 0, [], _ => rfl
  | k + 1, x :: y :: r, h => by
    have ih := pc_pair_v w k r (by simp at h; omega)
    show 2 ^ w * (2 ^ w * pc_v w r + y) + x = 2 ^ (2 * w) * pc_v (2 * w) (pc_pair (2 ^ w) r) + (x + 2 ^ w * y)
    rw [← ih, show 2 * w = w + w by omega, Nat.pow_add, Nat.mul_add, Nat.mul_assoc]
    omega
  | k + 1, [_], h => by simp at h; omega
  | k + 1, [], h => by simp at h
theorem pc_pair_len : ∀ (k b : Nat) (ds : List Nat), ds.length = 2 * k → (pc_pair b ds).length = k
  | 0, _, [], _ => rfl
  | k + 1, b, x :: y :: r, h => by
    have ih := pc_pair_len k b r (by simp at h; omega)
    show (pc_pair b r).length + 1 = k + 1
    rw [ih]
  | k + 1, _, [_], h => by simp at h; omega
  | k + 1, _, [], h => by simp at h
theorem pc_pair_all (c b d : Nat) : ∀ (ds : List Nat), pc_all c ds → (∀ x y, x < c → y < c → x + b * y < d) → pc_all d (pc_pair b ds)
  | [], _, _ => fun _ h => absurd h List.not_mem_nil
  | [_], _, _ => fun _ h => absurd h List.not_mem_nil
  | x :: y :: r, h, hh => by
    intro z hz
    rcases List.mem_cons.mp hz with rfl | hz
    · exact hh x y (h x List.mem_cons_self) (h y (List.mem_cons_of_mem _ List.mem_cons_self))
    · exact pc_pair_all c b d r (fun q hq => h q (List.mem_cons_of_mem _ (List.mem_cons_of_mem _ hq))) hh z hz
theorem pc_pair_sum : ∀ (k : Nat) (ds : List Nat), ds.length = 2 * k → pc_sum (pc_pair 1 ds) = pc_sum ds
  | 0, [], _ => rfl
  | k + 1, x :: y :: r, h => by
    have ih := pc_pair_sum k r (by simp at h; omega)
    show (x + 1 * y) + pc_sum (pc_pair 1 r) = x + (y + pc_sum r)
    rw [ih]; omega
  | k + 1, [_], h => by simp at h; omega
  | k + 1, [], h => by simp at h
theorem pc_map_all {c d : Nat} {g : Nat → Nat} {ds : List Nat} (h : pc_all c ds) (hg : ∀ x, x < c → g x < d) : pc_all d (ds.map g) := by
  intro y hy
  obtain ⟨x, h1, rfl⟩ := List.mem_map.mp hy
  exact hg x (h x h1)
theorem pc_rep_all {d m : Nat} (k : Nat) (h : m < d) : pc_all d (List.replicate k m) := by
  intro x hx
  rw [(List.mem_replicate.mp hx).2]
  exact h
theorem pc_sub {w : Nat} : ∀ (ds es : List Nat) (f : Nat → Nat), es = ds.map f → (∀ d ∈ ds, f d ≤ d) → pc_v w ds - pc_v w es = pc_v w (ds.map fun d => d - f d) ∧ pc_v w es ≤ pc_v w ds
  | [], _, f, he, _ => by subst he; exact ⟨rfl, Nat.le_refl _⟩
  | d :: ds, _, f, he, h => by
    subst he
    have ih := pc_sub (w := w) ds _ f rfl (fun x hx => h x (List.mem_cons_of_mem _ hx))
    have hd := h d List.mem_cons_self
    have hm : 2 ^ w * pc_v w (ds.map f) ≤ 2 ^ w * pc_v w ds := Nat.mul_le_mul_left _ ih.2
    refine ⟨?_, ?_⟩
    · show 2 ^ w * pc_v w ds + d - (2 ^ w * pc_v w (ds.map f) + f d) = 2 ^ w * pc_v w (ds.map fun d => d - f d) + (d - f d)
      rw [← ih.1, Nat.mul_sub]
      omega
    · show 2 ^ w * pc_v w (ds.map f) + f d ≤ 2 ^ w * pc_v w ds + d
      omega
theorem pc_add {w : Nat} : ∀ (ds : List Nat) (f g : Nat → Nat), pc_v w (ds.map f) + pc_v w (ds.map g) = pc_v w (ds.map fun d => f d + g d)
  | [], _, _ => rfl
  | d :: ds, f, g => by
    have ih := pc_add (w := w) ds f g
    show 2 ^ w * pc_v w (ds.map f) + f d + (2 ^ w * pc_v w (ds.map g) + g d) = 2 ^ w * pc_v w (ds.map fun d => f d + g d) + (f d + g d)
    rw [← ih, Nat.mul_add]
    omega
theorem pc_zr {α : Type} (f : Nat → Nat → α) (m : Nat) : ∀ (ds : List Nat), List.zipWith f ds (List.replicate ds.length m) = ds.map fun d => f d m
  | [] => rfl
  | d :: ds => by
    show f d m :: List.zipWith f ds (List.replicate ds.length m) = f d m :: ds.map _
    rw [pc_zr f m ds]
/-- digits of four bits with sums of two that stay below sixteen: the low halves of the eights -/
theorem pc_nib : ∀ (k : Nat) (fs : List Nat), fs.length = 2 * k → pc_all 5 fs → (pc_v 4 fs + pc_v 4 fs / 2 ^ 4) &&& pc_v 8 (List.replicate k 15) = pc_v 8 (pc_pair 1 fs)
  | 0, [], _, _ => by show (0 + 0 / 2 ^ 4) &&& 0 = 0; simp
  | k + 1, x :: y :: r, h, ha => by
    have ih := pc_nib k r (by simp at h; omega) (fun q hq => ha q (List.mem_cons_of_mem _ (List.mem_cons_of_mem _ hq)))
    have hx := ha x List.mem_cons_self
    have hy := ha y (List.mem_cons_of_mem _ List.mem_cons_self)
    have hz : ∃ z, z < 5 ∧ pc_v 4 r % 2 ^ 4 = z := by
      cases r with
      | nil => exact ⟨0, by decide, rfl⟩
      | cons z r =>
        have := ha z (List.mem_cons_of_mem _ (List.mem_cons_of_mem _ List.mem_cons_self))
        refine ⟨z, this, ?_⟩
        show (2 ^ 4 * pc_v 4 r + z) % 2 ^ 4 = z
        omega
    obtain ⟨z, hz1, hz2⟩ := hz
    show ((2 ^ 4 * (2 ^ 4 * pc_v 4 r + y) + x) + (2 ^ 4 * (2 ^ 4 * pc_v 4 r + y) + x) / 2 ^ 4) &&& (2 ^ 8 * pc_v 8 (List.replicate k 15) + 15) = 2 ^ 8 * pc_v 8 (pc_pair 1 r) + (x + 1 * y)
    rw [← ih]
    have e : (2 ^ 4 * (2 ^ 4 * pc_v 4 r + y) + x) + (2 ^ 4 * (2 ^ 4 * pc_v 4 r + y) + x) / 2 ^ 4 = 2 ^ 8 * (pc_v 4 r + pc_v 4 r / 2 ^ 4) + (16 * (y + z) + (x + 1 * y)) := by omega
    rw [e]
    have hb1 : 16 * (y + z) + (x + 1 * y) < 2 ^ 8 := by omega
    apply Nat.eq_of_testBit_eq
    intro j
    have hb3 : x + 1 * y < 2 ^ 8 := by omega
    rw [Nat.testBit_and, Nat.testBit_two_pow_mul_add _ hb1, Nat.testBit_two_pow_mul_add _ (show 15 < 2 ^ 8 by decide), Nat.testBit_two_pow_mul_add _ hb3, Nat.testBit_and]
    by_cases hj : j < 8
    · rw [if_pos hj, if_pos hj, if_pos hj]
      have e2 : (16 * (y + z) + (x + 1 * y)) &&& 15 = x + 1 * y := by
        rw [show 15 = 2 ^ 4 - 1 by decide, Nat.and_two_pow_sub_one_eq_mod]
        omega
      rw [← Nat.testBit_and, e2]
    · rw [if_neg hj, if_neg hj, if_neg hj]
  | k + 1, [_], h, _ => by simp at h; omega
  | k + 1, [], h, _ => by simp at h
theorem pc_uncons {l : List Nat} {k : Nat} (h : l.length = k + 1) : ∃ a r, l = a :: r ∧ r.length = k := by
  cases l with
  | nil => simp at h
  | cons a r => exact ⟨a, r, rfl, by simpa using h⟩
theorem pc_main (n : Nat) (hn : n < 2 ^ 64) : ∃ h0 h1 h2 h3 h4 h5 h6 h7 : Nat, h0 ≤ 8 ∧ h1 ≤ 8 ∧ h2 ≤ 8 ∧ h3 ≤ 8 ∧ h4 ≤ 8 ∧ h5 ≤ 8 ∧ h6 ≤ 8 ∧ h7 ≤ 8 ∧ pc_n 64 n = h0 + h1 + h2 + h3 + h4 + h5 + h6 + h7 ∧
    ∃ x1 x2 : Nat, (n / 2 ^ 1 &&& 6148914691236517205) ≤ n ∧ x1 = n - (n / 2 ^ 1 &&& 6148914691236517205) ∧ x2 = (x1 &&& 3689348814741910323) + (x1 / 2 ^ 2 &&& 3689348814741910323) ∧ x2 < 2 ^ 63 ∧
      (x2 + x2 / 2 ^ 4) &&& 1085102592571150095 = h0 + 256 * (h1 + 256 * (h2 + 256 * (h3 + 256 * (h4 + 256 * (h5 + 256 * (h6 + 256 * h7)))))) := by
  obtain ⟨ds, l1, a1, rfl⟩ := pc_dig 2 32 n hn
  have a1 : pc_all 4 ds := a1
  have m1 : 6148914691236517205 = pc_v 2 (List.replicate 32 1) := by decide +kernel
  have m2 : 3689348814741910323 = pc_v 4 (List.replicate 16 3) := by decide +kernel
  have m3 : 1085102592571150095 = pc_v 8 (List.replicate 8 15) := by decide +kernel
  have s1 : pc_v 2 ds / 2 ^ 1 &&& 6148914691236517205 = pc_v 2 (ds.map fun d => d / 2 ^ 1 &&& 1) := by
    rw [m1, pc_sha (by decide) ds _ (by simp [l1]) a1 (pc_rep_all _ (by decide)), ← l1, pc_zr]
  have g1 : ∀ d, d < 4 → (d / 2 ^ 1 &&& 1) ≤ d ∧ d - (d / 2 ^ 1 &&& 1) = pc_g d := by decide
  have s2 := pc_sub (w := 2) ds _ (fun d => d / 2 ^ 1 &&& 1) rfl (fun d hd => (g1 d (a1 d hd)).1)
  have s3 : (ds.map fun d => d - (d / 2 ^ 1 &&& 1)) = ds.map pc_g := List.map_congr_left (fun d hd => (g1 d (a1 d hd)).2)
  have a2 : pc_all 3 (ds.map pc_g) := pc_map_all a1 (by decide)
  have l2 : (ds.map pc_g).length = 2 * 16 := by simp [l1]
  have v2 := pc_pair_v 2 16 _ l2
  have l3 := pc_pair_len 16 (2 ^ 2) _ l2
  have a3 : pc_all 11 (pc_pair (2 ^ 2) (ds.map pc_g)) := pc_pair_all 3 (2 ^ 2) 11 _ a2 (fun x y hx hy => by omega)
  -- the pairs, and their sums
  have key : ∀ (es : List Nat) (k : Nat), es.length = 2 * k → pc_all 3 es → (pc_pair (2 ^ 2) es).map (fun e => (e &&& 3) + (e / 2 ^ 2 &&& 3)) = pc_pair 1 es := by
    intro es k
    induction k generalizing es with
    | zero => intro h _; cases es with
      | nil => rfl
      | cons => simp at h
    | succ k ih =>
      intro h ha
      match es, h, ha with
      | x :: y :: r, h, ha =>
        have i := ih r (by simp at h; omega) (fun q hq => ha q (List.mem_cons_of_mem _ (List.mem_cons_of_mem _ hq)))
        have hx := ha x List.mem_cons_self
        have hy := ha y (List.mem_cons_of_mem _ List.mem_cons_self)
        show (((x + 2 ^ 2 * y) &&& 3) + ((x + 2 ^ 2 * y) / 2 ^ 2 &&& 3)) :: (pc_pair (2 ^ 2) r).map _ = (x + 1 * y) :: pc_pair 1 r
        rw [i]
        congr 1
        have : ∀ x, x < 3 → ∀ y, y < 3 → ((x + 2 ^ 2 * y) &&& 3) + ((x + 2 ^ 2 * y) / 2 ^ 2 &&& 3) = x + 1 * y := by decide
        exact this x hx y hy
      | [_], h, _ => simp at h; omega
      | [], h, _ => simp at h
  have s4 : (pc_v 2 (ds.map pc_g) &&& 3689348814741910323) + (pc_v 2 (ds.map pc_g) / 2 ^ 2 &&& 3689348814741910323) = pc_v 4 (pc_pair 1 (ds.map pc_g)) := by
    have b3 : pc_all (2 ^ 4) (pc_pair (2 ^ 2) (ds.map pc_g)) := fun d hd => Nat.lt_of_lt_of_le (a3 d hd) (by decide)
    rw [v2, m2]
    show (pc_v 4 _ &&& _) + (pc_v 4 _ / 2 ^ 2 &&& _) = _
    rw [pc_and _ _ (by simp [l3]) b3 (pc_rep_all _ (by decide)), pc_sha (w := 4) (s := 2) (by decide) _ _ (by simp [l3]) b3 (pc_rep_all _ (by decide))]
    conv => lhs; rw [← l3]
    rw [pc_zr, pc_zr, pc_add, key _ 16 l2 a2]
  have l4 := pc_pair_len 16 1 _ l2
  have a4 : pc_all 5 (pc_pair 1 (ds.map pc_g)) := pc_pair_all 3 1 5 _ a2 (fun x y hx hy => by omega)
  have s5 := pc_nib 8 _ l4 a4
  have l5 := pc_pair_len 8 1 _ l4
  have a5 : pc_all 9 (pc_pair 1 (pc_pair 1 (ds.map pc_g))) := pc_pair_all 5 1 9 _ a4 (fun x y hx hy => by omega)
  have t1 := pc_n2 ds a1
  rw [l1] at t1
  rw [← pc_pair_sum 16 _ l2, ← pc_pair_sum 8 _ l4] at t1
  have hlt : pc_v 4 (pc_pair 1 (ds.map pc_g)) < 2 ^ 63 := by
    have hb : ∀ (k : Nat) (es : List Nat), es.length = k → pc_all 5 es → pc_v 4 es * 3 ≤ 16 ^ k := by
      intro k
      induction k with
      | zero => intro es h _; cases es with
        | nil => decide
        | cons => simp at h
      | succ k ih =>
        intro es h ha
        match es, h, ha with
        | x :: r, h, ha =>
          have i := ih r (by simp at h; omega) (fun q hq => ha q (List.mem_cons_of_mem _ hq))
          have hx := ha x List.mem_cons_self
          show (2 ^ 4 * pc_v 4 r + x) * 3 ≤ 16 ^ (k + 1)
          have hp : 0 < 16 ^ k := Nat.pow_pos (by decide)
          rw [Nat.pow_succ]
          have : pc_v 4 r * 3 + 1 ≤ 16 ^ k := by
            rcases Nat.lt_or_ge (pc_v 4 r * 3) (16 ^ k) with g | g
            · exact g
            · exfalso
              have e : pc_v 4 r * 3 = 16 ^ k := by omega
              have h3 : 16 ^ k % 3 = 1 := by
                rw [Nat.pow_mod]
                show (1 ^ k) % 3 = 1
                rw [Nat.one_pow]
              omega
          omega
        | [], h, _ => simp at h
    have := hb 16 _ l4 a4
    have e16 : (16 : Nat) ^ 16 = 2 ^ 64 := by decide
    rw [e16] at this
    omega
  generalize pc_pair 1 (pc_pair 1 (ds.map pc_g)) = hs at l5 a5 s5 t1
  obtain ⟨h0, r0, rfl, m10⟩ := pc_uncons l5
  obtain ⟨h1, r1, rfl, m11⟩ := pc_uncons m10
  obtain ⟨h2, r2, rfl, m12⟩ := pc_uncons m11
  obtain ⟨h3, r3, rfl, m13⟩ := pc_uncons m12
  obtain ⟨h4, r4, rfl, m14⟩ := pc_uncons m13
  obtain ⟨h5, r5, rfl, m15⟩ := pc_uncons m14
  obtain ⟨h6, r6, rfl, m16⟩ := pc_uncons m15
  obtain ⟨h7, r7, rfl, m17⟩ := pc_uncons m16
  obtain rfl := List.eq_nil_of_length_eq_zero m17
  have q : ∀ z, z ∈ [h0, h1, h2, h3, h4, h5, h6, h7] → z ≤ 8 := fun z hz => Nat.le_of_lt_succ (a5 z hz)
  refine ⟨h0, h1, h2, h3, h4, h5, h6, h7, q _ (by simp), q _ (by simp), q _ (by simp), q _ (by simp), q _ (by simp), q _ (by simp), q _ (by simp), q _ (by simp), ?_, pc_v 2 (ds.map pc_g), pc_v 4 (pc_pair 1 (ds.map pc_g)), ?_, ?_, s4.symm, hlt, ?_⟩
  · show pc_n (2 * 32) _ = _
    rw [t1]
    simp only [pc_sum]
    omega
  · rw [s1]; exact s2.2
  · rw [s1, s2.1, s3]
  · rw [m3, s5]
    simp only [pc_v]
    omega
