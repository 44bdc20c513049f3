-- Long.bitCount
theorem bc_low {h0 h1 h2 h3 h4 h5 h6 h7 y3 y4 y5 y6 : Nat} (b0 : h0 ≤ 8) (b1 : h1 ≤ 8) (b2 : h2 ≤ 8) (b3 : h3 ≤ 8) (b4 : h4 ≤ 8) (b5 : h5 ≤ 8) (b6 : h6 ≤ 8) (b7 : h7 ≤ 8) (hy3 : y3 = h0 + 256 * (h1 + 256 * (h2 + 256 * (h3 + 256 * (h4 + 256 * (h5 + 256 * (h6 + 256 * h7))))))) (hy4 : y4 = y3 + y3 / 2 ^ 8) (hy5 : y5 = y4 + y4 / 2 ^ 16) (hy6 : y6 = y5 + y5 / 2 ^ 32) : y6 % 128 = h0 + h1 + h2 + h3 + h4 + h5 + h6 + h7 := by
  have q1 : y3 / 2 ^ 8 = h1 + 256 * (h2 + 256 * (h3 + 256 * (h4 + 256 * (h5 + 256 * (h6 + 256 * h7))))) := by omega
  have e4 : y4 = (h0 + h1) + 256 * (h1 + h2) + 65536 * ((h2 + h3) + 256 * (h3 + h4) + 65536 * ((h4 + h5) + 256 * (h5 + h6) + 65536 * ((h6 + h7) + 256 * h7))) := by rw [hy4, q1, hy3]; omega
  clear hy4 hy3 q1
  have q2 : y4 / 2 ^ 16 = (h2 + h3) + 256 * (h3 + h4) + 65536 * ((h4 + h5) + 256 * (h5 + h6) + 65536 * ((h6 + h7) + 256 * h7)) := by omega
  have e5 : y5 = (h0 + h1 + h2 + h3) + 256 * (h1 + h2 + h3 + h4) + 65536 * (h2 + h3 + h4 + h5) + 16777216 * (h3 + h4 + h5 + h6) + 4294967296 * ((h4 + h5 + h6 + h7) + 256 * (h5 + h6 + h7) + 65536 * (h6 + h7) + 16777216 * h7) := by rw [hy5, q2, e4]; omega
  clear hy5 e4 q2
  have q3 : y5 / 2 ^ 32 = (h4 + h5 + h6 + h7) + 256 * (h5 + h6 + h7) + 65536 * (h6 + h7) + 16777216 * h7 := by omega
  rw [q3] at hy6
  omega
theorem rc_bc (m : Int64) : fX_bitCount m = some (nI (rc_n m)) := by
  obtain ⟨n, hn, rfl⟩ := wb_of m
  obtain ⟨h0, h1, h2, h3, h4, h5, h6, h7, b0, b1, b2, b3, b4, b5, b6, b7, hsum, x1, x2, hle, e1, e2, hlt, e3⟩ := pc_main n hn
  have hx1 : x1 < 2 ^ 64 := by rw [e1]; omega
  have c1 : (6148914691236517205 : Int64) = lN 6148914691236517205 := rfl
  have c2 : (3689348814741910323 : Int64) = lN 3689348814741910323 := rfl
  have c3 : (1085102592571150095 : Int64) = lN 1085102592571150095 := rfl
  have s1 : lN n - (((lN n).toUInt64 >>> ((1 : Int32).toInt64.toUInt64 &&& Int64.toUInt64 63)).toInt64 &&& 6148914691236517205) = lN x1 := by
    have q : ((lN n).toUInt64 >>> ((1 : Int32).toInt64.toUInt64 &&& Int64.toUInt64 63)).toInt64 = lN (n / 2 ^ 1) := wb_shr (k := 1) hn (by decide)
    rw [q, c1, wb_and (Nat.lt_of_le_of_lt (Nat.div_le_self _ _) hn) (by decide), lN_sub hle, ← e1]
  have s2 : (lN x1 &&& 3689348814741910323) + (((lN x1).toUInt64 >>> ((2 : Int32).toInt64.toUInt64 &&& Int64.toUInt64 63)).toInt64 &&& 3689348814741910323) = lN x2 := by
    have q : ((lN x1).toUInt64 >>> ((2 : Int32).toInt64.toUInt64 &&& Int64.toUInt64 63)).toInt64 = lN (x1 / 2 ^ 2) := wb_shr (k := 2) hx1 (by decide)
    rw [q, c2, wb_and hx1 (by decide), wb_and (Nat.lt_of_le_of_lt (Nat.div_le_self _ _) hx1) (by decide), lN_add, ← e2]
  obtain ⟨y3, hy3⟩ : ∃ y, y = h0 + 256 * (h1 + 256 * (h2 + 256 * (h3 + 256 * (h4 + 256 * (h5 + 256 * (h6 + 256 * h7)))))) := ⟨_, rfl⟩
  have hy3l : y3 < 2 ^ 60 := by omega
  have hy3m : y3 + y3 / 2 ^ 8 < 2 ^ 61 := by omega
  have s3 : (lN x2 + ((lN x2).toUInt64 >>> ((4 : Int32).toInt64.toUInt64 &&& Int64.toUInt64 63)).toInt64) &&& 1085102592571150095 = lN y3 := by
    have q : ((lN x2).toUInt64 >>> ((4 : Int32).toInt64.toUInt64 &&& Int64.toUInt64 63)).toInt64 = lN (x2 / 2 ^ 4) := wb_shr (k := 4) (by omega) (by decide)
    rw [q, c3, lN_add, wb_and (by omega) (by decide), e3, hy3]
  have s4 : lN y3 + ((lN y3).toUInt64 >>> ((8 : Int32).toInt64.toUInt64 &&& Int64.toUInt64 63)).toInt64 = lN (y3 + y3 / 2 ^ 8) := by
    have q : ((lN y3).toUInt64 >>> ((8 : Int32).toInt64.toUInt64 &&& Int64.toUInt64 63)).toInt64 = lN (y3 / 2 ^ 8) := wb_shr (k := 8) (Nat.lt_trans hy3l (by decide)) (by decide)
    rw [q, lN_add]
  obtain ⟨y4, hy4⟩ : ∃ y, y = y3 + y3 / 2 ^ 8 := ⟨_, rfl⟩
  have hy4l : y4 < 2 ^ 61 := by rw [hy4]; exact hy3m
  have hy4m : y4 + y4 / 2 ^ 16 < 2 ^ 62 := by clear hy4 hy3 e3 hsum; omega
  have s5 : lN y4 + ((lN y4).toUInt64 >>> ((16 : Int32).toInt64.toUInt64 &&& Int64.toUInt64 63)).toInt64 = lN (y4 + y4 / 2 ^ 16) := by
    have q : ((lN y4).toUInt64 >>> ((16 : Int32).toInt64.toUInt64 &&& Int64.toUInt64 63)).toInt64 = lN (y4 / 2 ^ 16) := wb_shr (k := 16) (Nat.lt_trans hy4l (by decide)) (by decide)
    rw [q, lN_add]
  obtain ⟨y5, hy5⟩ : ∃ y, y = y4 + y4 / 2 ^ 16 := ⟨_, rfl⟩
  have hy5l : y5 < 2 ^ 62 := by rw [hy5]; exact hy4m
  have s6 : lN y5 + ((lN y5).toUInt64 >>> ((32 : Int32).toInt64.toUInt64 &&& Int64.toUInt64 63)).toInt64 = lN (y5 + y5 / 2 ^ 32) := by
    have q : ((lN y5).toUInt64 >>> ((32 : Int32).toInt64.toUInt64 &&& Int64.toUInt64 63)).toInt64 = lN (y5 / 2 ^ 32) := wb_shr (k := 32) (Nat.lt_trans hy5l (by decide)) (by decide)
    rw [q, lN_add]
  obtain ⟨y6, hy6⟩ : ∃ y, y = y5 + y5 / 2 ^ 32 := ⟨_, rfl⟩
  have hres : y6 % 128 = h0 + h1 + h2 + h3 + h4 + h5 + h6 + h7 := bc_low b0 b1 b2 b3 b4 b5 b6 b7 hy3 hy4 hy5 hy6
  have s7 : (lN y6).toInt32 &&& 127 = nI (y6 % 128) := by
    have e9 : (nI y6).toBitVec.toNat % 2 ^ 7 = y6 % 128 := by
      show (BitVec.ofNat 32 y6).toNat % 2 ^ 7 = y6 % 128
      rw [BitVec.toNat_ofNat]
      omega
    rw [lN_i, pk_and (nI y6) (m := 127) 7 (by decide), e9]
  rw [fX_bitCount, og_le, s1, og_le, s2, og_le, s3, og_le, s4, ← hy4, og_le, s5, ← hy5, og_le, s6, ← hy6, s7, hres]
  unfold rc_n
  rw [wb_tn hn, hsum]
