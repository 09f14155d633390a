/-! ===== how long a line is ===== -/
theorem z_s {k : Nat} (x : Nat) (hx : x < 2 ^ 31) (hk : k < 31) : ((nI x).toUInt32 >>> ((nI k).toUInt32 &&& Int32.toUInt32 31)).toInt32 = nI (x / 2 ^ k) := by
  refine pk_ushrN (by omega) (nI k) k ?_
  have : ∀ k, k < 31 → (((nI k).toUInt32 &&& Int32.toUInt32 31).toBitVec % 32).toNat = k := by decide
  exact this k hk
theorem z_s1 {x : Nat} (hx : x < 2 ^ 31) : ((nI x).toUInt32 >>> ((1 : Int32).toUInt32 &&& Int32.toUInt32 31)).toInt32 = nI (x / 2) := z_s (k := 1) x hx (by decide)
theorem z_s2 {x : Nat} (hx : x < 2 ^ 31) : ((nI x).toUInt32 >>> ((2 : Int32).toUInt32 &&& Int32.toUInt32 31)).toInt32 = nI (x / 4) := z_s (k := 2) x hx (by decide)
theorem z_s4 {x : Nat} (hx : x < 2 ^ 31) : ((nI x).toUInt32 >>> ((4 : Int32).toUInt32 &&& Int32.toUInt32 31)).toInt32 = nI (x / 16) := z_s (k := 4) x hx (by decide)
theorem z_s8 {x : Nat} (hx : x < 2 ^ 31) : ((nI x).toUInt32 >>> ((8 : Int32).toUInt32 &&& Int32.toUInt32 31)).toInt32 = nI (x / 256) := z_s (k := 8) x hx (by decide)
theorem z_s16 {x : Nat} (hx : x < 2 ^ 31) : ((nI x).toUInt32 >>> ((16 : Int32).toUInt32 &&& Int32.toUInt32 31)).toInt32 = nI (x / 65536) := z_s (k := 16) x hx (by decide)
theorem nlz_0 {m : Nat} (h1 : 1 ≤ m) (h2 : m < 2) : j_J6_numberOfLeadingZeros_0f7a4 (nI m) = some 31 := by
  unfold j_J6_numberOfLeadingZeros_0f7a4
  simp only [nm]
  rw [if_pos (show (0 : Int32) < nI m from nI_lt (a := 0) (by omega) (by omega)), if_pos (show nI (m) < 65536 from nI_lt (b := 65536) (by omega) (by decide)), if_pos (show nI (m) < 256 from nI_lt (b := 256) (by omega) (by decide)), if_pos (show nI (m) < 16 from nI_lt (b := 16) (by omega) (by decide)), if_pos (show nI (m) < 4 from nI_lt (b := 4) (by omega) (by decide)), z_s1 (show m < 2 ^ 31 by omega), show m / 2 = 0 by omega]
  rfl
theorem nlz_1 {m : Nat} (h1 : 2 ≤ m) (h2 : m < 4) : j_J6_numberOfLeadingZeros_0f7a4 (nI m) = some 30 := by
  unfold j_J6_numberOfLeadingZeros_0f7a4
  simp only [nm]
  rw [if_pos (show (0 : Int32) < nI m from nI_lt (a := 0) (by omega) (by omega)), if_pos (show nI (m) < 65536 from nI_lt (b := 65536) (by omega) (by decide)), if_pos (show nI (m) < 256 from nI_lt (b := 256) (by omega) (by decide)), if_pos (show nI (m) < 16 from nI_lt (b := 16) (by omega) (by decide)), if_pos (show nI (m) < 4 from nI_lt (b := 4) (by omega) (by decide)), z_s1 (show m < 2 ^ 31 by omega), show m / 2 = 1 by omega]
  rfl
theorem nlz_2 {m : Nat} (h1 : 4 ≤ m) (h2 : m < 8) : j_J6_numberOfLeadingZeros_0f7a4 (nI m) = some 29 := by
  unfold j_J6_numberOfLeadingZeros_0f7a4
  simp only [nm]
  rw [if_pos (show (0 : Int32) < nI m from nI_lt (a := 0) (by omega) (by omega)), if_pos (show nI (m) < 65536 from nI_lt (b := 65536) (by omega) (by decide)), if_pos (show nI (m) < 256 from nI_lt (b := 256) (by omega) (by decide)), if_pos (show nI (m) < 16 from nI_lt (b := 16) (by omega) (by decide)), if_neg (show ¬ nI (m) < 4 from nI_nlt (b := 4) (by omega) (by omega)), z_s2 (show m < 2 ^ 31 by omega), z_s1 (show m / 4 < 2 ^ 31 by omega), show m / 4 / 2 = 0 by omega]
  rfl
theorem nlz_3 {m : Nat} (h1 : 8 ≤ m) (h2 : m < 16) : j_J6_numberOfLeadingZeros_0f7a4 (nI m) = some 28 := by
  unfold j_J6_numberOfLeadingZeros_0f7a4
  simp only [nm]
  rw [if_pos (show (0 : Int32) < nI m from nI_lt (a := 0) (by omega) (by omega)), if_pos (show nI (m) < 65536 from nI_lt (b := 65536) (by omega) (by decide)), if_pos (show nI (m) < 256 from nI_lt (b := 256) (by omega) (by decide)), if_pos (show nI (m) < 16 from nI_lt (b := 16) (by omega) (by decide)), if_neg (show ¬ nI (m) < 4 from nI_nlt (b := 4) (by omega) (by omega)), z_s2 (show m < 2 ^ 31 by omega), z_s1 (show m / 4 < 2 ^ 31 by omega), show m / 4 / 2 = 1 by omega]
  rfl
theorem nlz_4 {m : Nat} (h1 : 16 ≤ m) (h2 : m < 32) : j_J6_numberOfLeadingZeros_0f7a4 (nI m) = some 27 := by
  unfold j_J6_numberOfLeadingZeros_0f7a4
  simp only [nm]
  rw [if_pos (show (0 : Int32) < nI m from nI_lt (a := 0) (by omega) (by omega)), if_pos (show nI (m) < 65536 from nI_lt (b := 65536) (by omega) (by decide)), if_pos (show nI (m) < 256 from nI_lt (b := 256) (by omega) (by decide)), if_neg (show ¬ nI (m) < 16 from nI_nlt (b := 16) (by omega) (by omega)), z_s4 (show m < 2 ^ 31 by omega), if_pos (show nI (m / 16) < 4 from nI_lt (b := 4) (by omega) (by decide)), z_s1 (show m / 16 < 2 ^ 31 by omega), show m / 16 / 2 = 0 by omega]
  rfl
theorem nlz_5 {m : Nat} (h1 : 32 ≤ m) (h2 : m < 64) : j_J6_numberOfLeadingZeros_0f7a4 (nI m) = some 26 := by
  unfold j_J6_numberOfLeadingZeros_0f7a4
  simp only [nm]
  rw [if_pos (show (0 : Int32) < nI m from nI_lt (a := 0) (by omega) (by omega)), if_pos (show nI (m) < 65536 from nI_lt (b := 65536) (by omega) (by decide)), if_pos (show nI (m) < 256 from nI_lt (b := 256) (by omega) (by decide)), if_neg (show ¬ nI (m) < 16 from nI_nlt (b := 16) (by omega) (by omega)), z_s4 (show m < 2 ^ 31 by omega), if_pos (show nI (m / 16) < 4 from nI_lt (b := 4) (by omega) (by decide)), z_s1 (show m / 16 < 2 ^ 31 by omega), show m / 16 / 2 = 1 by omega]
  rfl
theorem nlz_6 {m : Nat} (h1 : 64 ≤ m) (h2 : m < 128) : j_J6_numberOfLeadingZeros_0f7a4 (nI m) = some 25 := by
  unfold j_J6_numberOfLeadingZeros_0f7a4
  simp only [nm]
  rw [if_pos (show (0 : Int32) < nI m from nI_lt (a := 0) (by omega) (by omega)), if_pos (show nI (m) < 65536 from nI_lt (b := 65536) (by omega) (by decide)), if_pos (show nI (m) < 256 from nI_lt (b := 256) (by omega) (by decide)), if_neg (show ¬ nI (m) < 16 from nI_nlt (b := 16) (by omega) (by omega)), z_s4 (show m < 2 ^ 31 by omega), if_neg (show ¬ nI (m / 16) < 4 from nI_nlt (b := 4) (by omega) (by omega)), z_s2 (show m / 16 < 2 ^ 31 by omega), z_s1 (show m / 16 / 4 < 2 ^ 31 by omega), show m / 16 / 4 / 2 = 0 by omega]
  rfl
theorem nlz_7 {m : Nat} (h1 : 128 ≤ m) (h2 : m < 256) : j_J6_numberOfLeadingZeros_0f7a4 (nI m) = some 24 := by
  unfold j_J6_numberOfLeadingZeros_0f7a4
  simp only [nm]
  rw [if_pos (show (0 : Int32) < nI m from nI_lt (a := 0) (by omega) (by omega)), if_pos (show nI (m) < 65536 from nI_lt (b := 65536) (by omega) (by decide)), if_pos (show nI (m) < 256 from nI_lt (b := 256) (by omega) (by decide)), if_neg (show ¬ nI (m) < 16 from nI_nlt (b := 16) (by omega) (by omega)), z_s4 (show m < 2 ^ 31 by omega), if_neg (show ¬ nI (m / 16) < 4 from nI_nlt (b := 4) (by omega) (by omega)), z_s2 (show m / 16 < 2 ^ 31 by omega), z_s1 (show m / 16 / 4 < 2 ^ 31 by omega), show m / 16 / 4 / 2 = 1 by omega]
  rfl
theorem nlz_8 {m : Nat} (h1 : 256 ≤ m) (h2 : m < 512) : j_J6_numberOfLeadingZeros_0f7a4 (nI m) = some 23 := by
  unfold j_J6_numberOfLeadingZeros_0f7a4
  simp only [nm]
  rw [if_pos (show (0 : Int32) < nI m from nI_lt (a := 0) (by omega) (by omega)), if_pos (show nI (m) < 65536 from nI_lt (b := 65536) (by omega) (by decide)), if_neg (show ¬ nI (m) < 256 from nI_nlt (b := 256) (by omega) (by omega)), z_s8 (show m < 2 ^ 31 by omega), if_pos (show nI (m / 256) < 16 from nI_lt (b := 16) (by omega) (by decide)), if_pos (show nI (m / 256) < 4 from nI_lt (b := 4) (by omega) (by decide)), z_s1 (show m / 256 < 2 ^ 31 by omega), show m / 256 / 2 = 0 by omega]
  rfl
theorem nlz_9 {m : Nat} (h1 : 512 ≤ m) (h2 : m < 1024) : j_J6_numberOfLeadingZeros_0f7a4 (nI m) = some 22 := by
  unfold j_J6_numberOfLeadingZeros_0f7a4
  simp only [nm]
  rw [if_pos (show (0 : Int32) < nI m from nI_lt (a := 0) (by omega) (by omega)), if_pos (show nI (m) < 65536 from nI_lt (b := 65536) (by omega) (by decide)), if_neg (show ¬ nI (m) < 256 from nI_nlt (b := 256) (by omega) (by omega)), z_s8 (show m < 2 ^ 31 by omega), if_pos (show nI (m / 256) < 16 from nI_lt (b := 16) (by omega) (by decide)), if_pos (show nI (m / 256) < 4 from nI_lt (b := 4) (by omega) (by decide)), z_s1 (show m / 256 < 2 ^ 31 by omega), show m / 256 / 2 = 1 by omega]
  rfl
theorem nlz_10 {m : Nat} (h1 : 1024 ≤ m) (h2 : m < 2048) : j_J6_numberOfLeadingZeros_0f7a4 (nI m) = some 21 := by
  unfold j_J6_numberOfLeadingZeros_0f7a4
  simp only [nm]
  rw [if_pos (show (0 : Int32) < nI m from nI_lt (a := 0) (by omega) (by omega)), if_pos (show nI (m) < 65536 from nI_lt (b := 65536) (by omega) (by decide)), if_neg (show ¬ nI (m) < 256 from nI_nlt (b := 256) (by omega) (by omega)), z_s8 (show m < 2 ^ 31 by omega), if_pos (show nI (m / 256) < 16 from nI_lt (b := 16) (by omega) (by decide)), if_neg (show ¬ nI (m / 256) < 4 from nI_nlt (b := 4) (by omega) (by omega)), z_s2 (show m / 256 < 2 ^ 31 by omega), z_s1 (show m / 256 / 4 < 2 ^ 31 by omega), show m / 256 / 4 / 2 = 0 by omega]
  rfl
theorem nlz_11 {m : Nat} (h1 : 2048 ≤ m) (h2 : m < 4096) : j_J6_numberOfLeadingZeros_0f7a4 (nI m) = some 20 := by
  unfold j_J6_numberOfLeadingZeros_0f7a4
  simp only [nm]
  rw [if_pos (show (0 : Int32) < nI m from nI_lt (a := 0) (by omega) (by omega)), if_pos (show nI (m) < 65536 from nI_lt (b := 65536) (by omega) (by decide)), if_neg (show ¬ nI (m) < 256 from nI_nlt (b := 256) (by omega) (by omega)), z_s8 (show m < 2 ^ 31 by omega), if_pos (show nI (m / 256) < 16 from nI_lt (b := 16) (by omega) (by decide)), if_neg (show ¬ nI (m / 256) < 4 from nI_nlt (b := 4) (by omega) (by omega)), z_s2 (show m / 256 < 2 ^ 31 by omega), z_s1 (show m / 256 / 4 < 2 ^ 31 by omega), show m / 256 / 4 / 2 = 1 by omega]
  rfl
theorem nlz_12 {m : Nat} (h1 : 4096 ≤ m) (h2 : m < 8192) : j_J6_numberOfLeadingZeros_0f7a4 (nI m) = some 19 := by
  unfold j_J6_numberOfLeadingZeros_0f7a4
  simp only [nm]
  rw [if_pos (show (0 : Int32) < nI m from nI_lt (a := 0) (by omega) (by omega)), if_pos (show nI (m) < 65536 from nI_lt (b := 65536) (by omega) (by decide)), if_neg (show ¬ nI (m) < 256 from nI_nlt (b := 256) (by omega) (by omega)), z_s8 (show m < 2 ^ 31 by omega), if_neg (show ¬ nI (m / 256) < 16 from nI_nlt (b := 16) (by omega) (by omega)), z_s4 (show m / 256 < 2 ^ 31 by omega), if_pos (show nI (m / 256 / 16) < 4 from nI_lt (b := 4) (by omega) (by decide)), z_s1 (show m / 256 / 16 < 2 ^ 31 by omega), show m / 256 / 16 / 2 = 0 by omega]
  rfl
theorem nlz_13 {m : Nat} (h1 : 8192 ≤ m) (h2 : m < 16384) : j_J6_numberOfLeadingZeros_0f7a4 (nI m) = some 18 := by
  unfold j_J6_numberOfLeadingZeros_0f7a4
  simp only [nm]
  rw [if_pos (show (0 : Int32) < nI m from nI_lt (a := 0) (by omega) (by omega)), if_pos (show nI (m) < 65536 from nI_lt (b := 65536) (by omega) (by decide)), if_neg (show ¬ nI (m) < 256 from nI_nlt (b := 256) (by omega) (by omega)), z_s8 (show m < 2 ^ 31 by omega), if_neg (show ¬ nI (m / 256) < 16 from nI_nlt (b := 16) (by omega) (by omega)), z_s4 (show m / 256 < 2 ^ 31 by omega), if_pos (show nI (m / 256 / 16) < 4 from nI_lt (b := 4) (by omega) (by decide)), z_s1 (show m / 256 / 16 < 2 ^ 31 by omega), show m / 256 / 16 / 2 = 1 by omega]
  rfl
theorem nlz_14 {m : Nat} (h1 : 16384 ≤ m) (h2 : m < 32768) : j_J6_numberOfLeadingZeros_0f7a4 (nI m) = some 17 := by
  unfold j_J6_numberOfLeadingZeros_0f7a4
  simp only [nm]
  rw [if_pos (show (0 : Int32) < nI m from nI_lt (a := 0) (by omega) (by omega)), if_pos (show nI (m) < 65536 from nI_lt (b := 65536) (by omega) (by decide)), if_neg (show ¬ nI (m) < 256 from nI_nlt (b := 256) (by omega) (by omega)), z_s8 (show m < 2 ^ 31 by omega), if_neg (show ¬ nI (m / 256) < 16 from nI_nlt (b := 16) (by omega) (by omega)), z_s4 (show m / 256 < 2 ^ 31 by omega), if_neg (show ¬ nI (m / 256 / 16) < 4 from nI_nlt (b := 4) (by omega) (by omega)), z_s2 (show m / 256 / 16 < 2 ^ 31 by omega), z_s1 (show m / 256 / 16 / 4 < 2 ^ 31 by omega), show m / 256 / 16 / 4 / 2 = 0 by omega]
  rfl
theorem nlz_15 {m : Nat} (h1 : 32768 ≤ m) (h2 : m < 65536) : j_J6_numberOfLeadingZeros_0f7a4 (nI m) = some 16 := by
  unfold j_J6_numberOfLeadingZeros_0f7a4
  simp only [nm]
  rw [if_pos (show (0 : Int32) < nI m from nI_lt (a := 0) (by omega) (by omega)), if_pos (show nI (m) < 65536 from nI_lt (b := 65536) (by omega) (by decide)), if_neg (show ¬ nI (m) < 256 from nI_nlt (b := 256) (by omega) (by omega)), z_s8 (show m < 2 ^ 31 by omega), if_neg (show ¬ nI (m / 256) < 16 from nI_nlt (b := 16) (by omega) (by omega)), z_s4 (show m / 256 < 2 ^ 31 by omega), if_neg (show ¬ nI (m / 256 / 16) < 4 from nI_nlt (b := 4) (by omega) (by omega)), z_s2 (show m / 256 / 16 < 2 ^ 31 by omega), z_s1 (show m / 256 / 16 / 4 < 2 ^ 31 by omega), show m / 256 / 16 / 4 / 2 = 1 by omega]
  rfl
theorem nlz_16 {m : Nat} (h1 : 65536 ≤ m) (h2 : m < 131072) : j_J6_numberOfLeadingZeros_0f7a4 (nI m) = some 15 := by
  unfold j_J6_numberOfLeadingZeros_0f7a4
  simp only [nm]
  rw [if_pos (show (0 : Int32) < nI m from nI_lt (a := 0) (by omega) (by omega)), if_neg (show ¬ nI (m) < 65536 from nI_nlt (b := 65536) (by omega) (by omega)), z_s16 (show m < 2 ^ 31 by omega), if_pos (show nI (m / 65536) < 256 from nI_lt (b := 256) (by omega) (by decide)), if_pos (show nI (m / 65536) < 16 from nI_lt (b := 16) (by omega) (by decide)), if_pos (show nI (m / 65536) < 4 from nI_lt (b := 4) (by omega) (by decide)), z_s1 (show m / 65536 < 2 ^ 31 by omega), show m / 65536 / 2 = 0 by omega]
  rfl
theorem nlz_17 {m : Nat} (h1 : 131072 ≤ m) (h2 : m < 262144) : j_J6_numberOfLeadingZeros_0f7a4 (nI m) = some 14 := by
  unfold j_J6_numberOfLeadingZeros_0f7a4
  simp only [nm]
  rw [if_pos (show (0 : Int32) < nI m from nI_lt (a := 0) (by omega) (by omega)), if_neg (show ¬ nI (m) < 65536 from nI_nlt (b := 65536) (by omega) (by omega)), z_s16 (show m < 2 ^ 31 by omega), if_pos (show nI (m / 65536) < 256 from nI_lt (b := 256) (by omega) (by decide)), if_pos (show nI (m / 65536) < 16 from nI_lt (b := 16) (by omega) (by decide)), if_pos (show nI (m / 65536) < 4 from nI_lt (b := 4) (by omega) (by decide)), z_s1 (show m / 65536 < 2 ^ 31 by omega), show m / 65536 / 2 = 1 by omega]
  rfl
theorem nlz_18 {m : Nat} (h1 : 262144 ≤ m) (h2 : m < 524288) : j_J6_numberOfLeadingZeros_0f7a4 (nI m) = some 13 := by
  unfold j_J6_numberOfLeadingZeros_0f7a4
  simp only [nm]
  rw [if_pos (show (0 : Int32) < nI m from nI_lt (a := 0) (by omega) (by omega)), if_neg (show ¬ nI (m) < 65536 from nI_nlt (b := 65536) (by omega) (by omega)), z_s16 (show m < 2 ^ 31 by omega), if_pos (show nI (m / 65536) < 256 from nI_lt (b := 256) (by omega) (by decide)), if_pos (show nI (m / 65536) < 16 from nI_lt (b := 16) (by omega) (by decide)), if_neg (show ¬ nI (m / 65536) < 4 from nI_nlt (b := 4) (by omega) (by omega)), z_s2 (show m / 65536 < 2 ^ 31 by omega), z_s1 (show m / 65536 / 4 < 2 ^ 31 by omega), show m / 65536 / 4 / 2 = 0 by omega]
  rfl
theorem nlz_19 {m : Nat} (h1 : 524288 ≤ m) (h2 : m < 1048576) : j_J6_numberOfLeadingZeros_0f7a4 (nI m) = some 12 := by
  unfold j_J6_numberOfLeadingZeros_0f7a4
  simp only [nm]
  rw [if_pos (show (0 : Int32) < nI m from nI_lt (a := 0) (by omega) (by omega)), if_neg (show ¬ nI (m) < 65536 from nI_nlt (b := 65536) (by omega) (by omega)), z_s16 (show m < 2 ^ 31 by omega), if_pos (show nI (m / 65536) < 256 from nI_lt (b := 256) (by omega) (by decide)), if_pos (show nI (m / 65536) < 16 from nI_lt (b := 16) (by omega) (by decide)), if_neg (show ¬ nI (m / 65536) < 4 from nI_nlt (b := 4) (by omega) (by omega)), z_s2 (show m / 65536 < 2 ^ 31 by omega), z_s1 (show m / 65536 / 4 < 2 ^ 31 by omega), show m / 65536 / 4 / 2 = 1 by omega]
  rfl
theorem nlz_20 {m : Nat} (h1 : 1048576 ≤ m) (h2 : m < 2097152) : j_J6_numberOfLeadingZeros_0f7a4 (nI m) = some 11 := by
  unfold j_J6_numberOfLeadingZeros_0f7a4
  simp only [nm]
  rw [if_pos (show (0 : Int32) < nI m from nI_lt (a := 0) (by omega) (by omega)), if_neg (show ¬ nI (m) < 65536 from nI_nlt (b := 65536) (by omega) (by omega)), z_s16 (show m < 2 ^ 31 by omega), if_pos (show nI (m / 65536) < 256 from nI_lt (b := 256) (by omega) (by decide)), if_neg (show ¬ nI (m / 65536) < 16 from nI_nlt (b := 16) (by omega) (by omega)), z_s4 (show m / 65536 < 2 ^ 31 by omega), if_pos (show nI (m / 65536 / 16) < 4 from nI_lt (b := 4) (by omega) (by decide)), z_s1 (show m / 65536 / 16 < 2 ^ 31 by omega), show m / 65536 / 16 / 2 = 0 by omega]
  rfl
theorem nlz_21 {m : Nat} (h1 : 2097152 ≤ m) (h2 : m < 4194304) : j_J6_numberOfLeadingZeros_0f7a4 (nI m) = some 10 := by
  unfold j_J6_numberOfLeadingZeros_0f7a4
  simp only [nm]
  rw [if_pos (show (0 : Int32) < nI m from nI_lt (a := 0) (by omega) (by omega)), if_neg (show ¬ nI (m) < 65536 from nI_nlt (b := 65536) (by omega) (by omega)), z_s16 (show m < 2 ^ 31 by omega), if_pos (show nI (m / 65536) < 256 from nI_lt (b := 256) (by omega) (by decide)), if_neg (show ¬ nI (m / 65536) < 16 from nI_nlt (b := 16) (by omega) (by omega)), z_s4 (show m / 65536 < 2 ^ 31 by omega), if_pos (show nI (m / 65536 / 16) < 4 from nI_lt (b := 4) (by omega) (by decide)), z_s1 (show m / 65536 / 16 < 2 ^ 31 by omega), show m / 65536 / 16 / 2 = 1 by omega]
  rfl
theorem nlz_22 {m : Nat} (h1 : 4194304 ≤ m) (h2 : m < 8388608) : j_J6_numberOfLeadingZeros_0f7a4 (nI m) = some 9 := by
  unfold j_J6_numberOfLeadingZeros_0f7a4
  simp only [nm]
  rw [if_pos (show (0 : Int32) < nI m from nI_lt (a := 0) (by omega) (by omega)), if_neg (show ¬ nI (m) < 65536 from nI_nlt (b := 65536) (by omega) (by omega)), z_s16 (show m < 2 ^ 31 by omega), if_pos (show nI (m / 65536) < 256 from nI_lt (b := 256) (by omega) (by decide)), if_neg (show ¬ nI (m / 65536) < 16 from nI_nlt (b := 16) (by omega) (by omega)), z_s4 (show m / 65536 < 2 ^ 31 by omega), if_neg (show ¬ nI (m / 65536 / 16) < 4 from nI_nlt (b := 4) (by omega) (by omega)), z_s2 (show m / 65536 / 16 < 2 ^ 31 by omega), z_s1 (show m / 65536 / 16 / 4 < 2 ^ 31 by omega), show m / 65536 / 16 / 4 / 2 = 0 by omega]
  rfl
theorem nlz_23 {m : Nat} (h1 : 8388608 ≤ m) (h2 : m < 16777216) : j_J6_numberOfLeadingZeros_0f7a4 (nI m) = some 8 := by
  unfold j_J6_numberOfLeadingZeros_0f7a4
  simp only [nm]
  rw [if_pos (show (0 : Int32) < nI m from nI_lt (a := 0) (by omega) (by omega)), if_neg (show ¬ nI (m) < 65536 from nI_nlt (b := 65536) (by omega) (by omega)), z_s16 (show m < 2 ^ 31 by omega), if_pos (show nI (m / 65536) < 256 from nI_lt (b := 256) (by omega) (by decide)), if_neg (show ¬ nI (m / 65536) < 16 from nI_nlt (b := 16) (by omega) (by omega)), z_s4 (show m / 65536 < 2 ^ 31 by omega), if_neg (show ¬ nI (m / 65536 / 16) < 4 from nI_nlt (b := 4) (by omega) (by omega)), z_s2 (show m / 65536 / 16 < 2 ^ 31 by omega), z_s1 (show m / 65536 / 16 / 4 < 2 ^ 31 by omega), show m / 65536 / 16 / 4 / 2 = 1 by omega]
  rfl
theorem nlz_24 {m : Nat} (h1 : 16777216 ≤ m) (h2 : m < 33554432) : j_J6_numberOfLeadingZeros_0f7a4 (nI m) = some 7 := by
  unfold j_J6_numberOfLeadingZeros_0f7a4
  simp only [nm]
  rw [if_pos (show (0 : Int32) < nI m from nI_lt (a := 0) (by omega) (by omega)), if_neg (show ¬ nI (m) < 65536 from nI_nlt (b := 65536) (by omega) (by omega)), z_s16 (show m < 2 ^ 31 by omega), if_neg (show ¬ nI (m / 65536) < 256 from nI_nlt (b := 256) (by omega) (by omega)), z_s8 (show m / 65536 < 2 ^ 31 by omega), if_pos (show nI (m / 65536 / 256) < 16 from nI_lt (b := 16) (by omega) (by decide)), if_pos (show nI (m / 65536 / 256) < 4 from nI_lt (b := 4) (by omega) (by decide)), z_s1 (show m / 65536 / 256 < 2 ^ 31 by omega), show m / 65536 / 256 / 2 = 0 by omega]
  rfl
theorem nlz_25 {m : Nat} (h1 : 33554432 ≤ m) (h2 : m < 67108864) : j_J6_numberOfLeadingZeros_0f7a4 (nI m) = some 6 := by
  unfold j_J6_numberOfLeadingZeros_0f7a4
  simp only [nm]
  rw [if_pos (show (0 : Int32) < nI m from nI_lt (a := 0) (by omega) (by omega)), if_neg (show ¬ nI (m) < 65536 from nI_nlt (b := 65536) (by omega) (by omega)), z_s16 (show m < 2 ^ 31 by omega), if_neg (show ¬ nI (m / 65536) < 256 from nI_nlt (b := 256) (by omega) (by omega)), z_s8 (show m / 65536 < 2 ^ 31 by omega), if_pos (show nI (m / 65536 / 256) < 16 from nI_lt (b := 16) (by omega) (by decide)), if_pos (show nI (m / 65536 / 256) < 4 from nI_lt (b := 4) (by omega) (by decide)), z_s1 (show m / 65536 / 256 < 2 ^ 31 by omega), show m / 65536 / 256 / 2 = 1 by omega]
  rfl
theorem nlz_26 {m : Nat} (h1 : 67108864 ≤ m) (h2 : m < 134217728) : j_J6_numberOfLeadingZeros_0f7a4 (nI m) = some 5 := by
  unfold j_J6_numberOfLeadingZeros_0f7a4
  simp only [nm]
  rw [if_pos (show (0 : Int32) < nI m from nI_lt (a := 0) (by omega) (by omega)), if_neg (show ¬ nI (m) < 65536 from nI_nlt (b := 65536) (by omega) (by omega)), z_s16 (show m < 2 ^ 31 by omega), if_neg (show ¬ nI (m / 65536) < 256 from nI_nlt (b := 256) (by omega) (by omega)), z_s8 (show m / 65536 < 2 ^ 31 by omega), if_pos (show nI (m / 65536 / 256) < 16 from nI_lt (b := 16) (by omega) (by decide)), if_neg (show ¬ nI (m / 65536 / 256) < 4 from nI_nlt (b := 4) (by omega) (by omega)), z_s2 (show m / 65536 / 256 < 2 ^ 31 by omega), z_s1 (show m / 65536 / 256 / 4 < 2 ^ 31 by omega), show m / 65536 / 256 / 4 / 2 = 0 by omega]
  rfl
theorem nlz_27 {m : Nat} (h1 : 134217728 ≤ m) (h2 : m < 268435456) : j_J6_numberOfLeadingZeros_0f7a4 (nI m) = some 4 := by
  unfold j_J6_numberOfLeadingZeros_0f7a4
  simp only [nm]
  rw [if_pos (show (0 : Int32) < nI m from nI_lt (a := 0) (by omega) (by omega)), if_neg (show ¬ nI (m) < 65536 from nI_nlt (b := 65536) (by omega) (by omega)), z_s16 (show m < 2 ^ 31 by omega), if_neg (show ¬ nI (m / 65536) < 256 from nI_nlt (b := 256) (by omega) (by omega)), z_s8 (show m / 65536 < 2 ^ 31 by omega), if_pos (show nI (m / 65536 / 256) < 16 from nI_lt (b := 16) (by omega) (by decide)), if_neg (show ¬ nI (m / 65536 / 256) < 4 from nI_nlt (b := 4) (by omega) (by omega)), z_s2 (show m / 65536 / 256 < 2 ^ 31 by omega), z_s1 (show m / 65536 / 256 / 4 < 2 ^ 31 by omega), show m / 65536 / 256 / 4 / 2 = 1 by omega]
  rfl
theorem nlz_28 {m : Nat} (h1 : 268435456 ≤ m) (h2 : m < 536870912) : j_J6_numberOfLeadingZeros_0f7a4 (nI m) = some 3 := by
  unfold j_J6_numberOfLeadingZeros_0f7a4
  simp only [nm]
  rw [if_pos (show (0 : Int32) < nI m from nI_lt (a := 0) (by omega) (by omega)), if_neg (show ¬ nI (m) < 65536 from nI_nlt (b := 65536) (by omega) (by omega)), z_s16 (show m < 2 ^ 31 by omega), if_neg (show ¬ nI (m / 65536) < 256 from nI_nlt (b := 256) (by omega) (by omega)), z_s8 (show m / 65536 < 2 ^ 31 by omega), if_neg (show ¬ nI (m / 65536 / 256) < 16 from nI_nlt (b := 16) (by omega) (by omega)), z_s4 (show m / 65536 / 256 < 2 ^ 31 by omega), if_pos (show nI (m / 65536 / 256 / 16) < 4 from nI_lt (b := 4) (by omega) (by decide)), z_s1 (show m / 65536 / 256 / 16 < 2 ^ 31 by omega), show m / 65536 / 256 / 16 / 2 = 0 by omega]
  rfl
theorem nlz_29 {m : Nat} (h1 : 536870912 ≤ m) (h2 : m < 1073741824) : j_J6_numberOfLeadingZeros_0f7a4 (nI m) = some 2 := by
  unfold j_J6_numberOfLeadingZeros_0f7a4
  simp only [nm]
  rw [if_pos (show (0 : Int32) < nI m from nI_lt (a := 0) (by omega) (by omega)), if_neg (show ¬ nI (m) < 65536 from nI_nlt (b := 65536) (by omega) (by omega)), z_s16 (show m < 2 ^ 31 by omega), if_neg (show ¬ nI (m / 65536) < 256 from nI_nlt (b := 256) (by omega) (by omega)), z_s8 (show m / 65536 < 2 ^ 31 by omega), if_neg (show ¬ nI (m / 65536 / 256) < 16 from nI_nlt (b := 16) (by omega) (by omega)), z_s4 (show m / 65536 / 256 < 2 ^ 31 by omega), if_pos (show nI (m / 65536 / 256 / 16) < 4 from nI_lt (b := 4) (by omega) (by decide)), z_s1 (show m / 65536 / 256 / 16 < 2 ^ 31 by omega), show m / 65536 / 256 / 16 / 2 = 1 by omega]
  rfl
theorem nlz_30 {m : Nat} (h1 : 1073741824 ≤ m) (h2 : m < 2147483648) : j_J6_numberOfLeadingZeros_0f7a4 (nI m) = some 1 := by
  unfold j_J6_numberOfLeadingZeros_0f7a4
  simp only [nm]
  rw [if_pos (show (0 : Int32) < nI m from nI_lt (a := 0) (by omega) (by omega)), if_neg (show ¬ nI (m) < 65536 from nI_nlt (b := 65536) (by omega) (by omega)), z_s16 (show m < 2 ^ 31 by omega), if_neg (show ¬ nI (m / 65536) < 256 from nI_nlt (b := 256) (by omega) (by omega)), z_s8 (show m / 65536 < 2 ^ 31 by omega), if_neg (show ¬ nI (m / 65536 / 256) < 16 from nI_nlt (b := 16) (by omega) (by omega)), z_s4 (show m / 65536 / 256 < 2 ^ 31 by omega), if_neg (show ¬ nI (m / 65536 / 256 / 16) < 4 from nI_nlt (b := 4) (by omega) (by omega)), z_s2 (show m / 65536 / 256 / 16 < 2 ^ 31 by omega), z_s1 (show m / 65536 / 256 / 16 / 4 < 2 ^ 31 by omega), show m / 65536 / 256 / 16 / 4 / 2 = 0 by omega]
  rfl
theorem nlz_31 {m : Nat} (h1 : 2147483648 ≤ m) (h2 : m < 4294967296) : j_J6_numberOfLeadingZeros_0f7a4 (nI m) = some 0 := by
  have h3 : (nI m).toInt = (m : Int) - 4294967296 := by
    show (BitVec.ofNat 32 m).toInt = _
    rw [BitVec.toInt_eq_toNat_cond, BitVec.toNat_ofNat, Nat.mod_eq_of_lt (by omega), if_neg (by omega)]
    rfl
  unfold j_J6_numberOfLeadingZeros_0f7a4
  rw [if_neg (fun z => by
    rw [Int32.lt_iff_toInt_lt, h3] at z
    have : (0 : Int32).toInt = 0 := rfl
    omega), if_neg (fun z => by
    rw [z] at h3
    have : (0 : Int32).toInt = 0 := rfl
    omega)]
theorem nlzL_lo {m : Nat} {r : Int32} (h : m < 4294967296) (hr : j_J6_numberOfLeadingZeros_0f7a4 (nI m) = some r) : j_J13_numberOfLeadingZeros_95d88 (lN m) = some (32 + r) := by
  unfold j_J13_numberOfLeadingZeros_95d88
  simp only [nm]
  rw [show (32 : Int32) = nI 32 from rfl, wb_shr (by omega) (by decide), lN_i, lN_i, Nat.div_eq_of_lt (by omega), if_pos (show nI 0 = 0 from rfl), hr]
  rfl
theorem nlzL_hi {m : Nat} {r : Int32} (h : 4294967296 ≤ m) (h2 : m < 4294967296 * 2147483648) (hr : j_J6_numberOfLeadingZeros_0f7a4 (nI (m / 4294967296)) = some r) : j_J13_numberOfLeadingZeros_95d88 (lN m) = some r := by
  unfold j_J13_numberOfLeadingZeros_95d88
  simp only [nm]
  rw [show (32 : Int32) = nI 32 from rfl, wb_shr (by omega) (by decide), lN_i, show (2 : Nat) ^ 32 = 4294967296 from rfl, if_neg (show ¬ nI (m / 4294967296) = 0 from nI_ne0 (by omega) (by omega)), hr]
  rfl
theorem len_of {m : Nat} {r r' : Int32} (h : j_J13_numberOfLeadingZeros_95d88 (lN m) = some r) (e : (64 - r + 4 - 1) / 4 = r') : j_X3_lengthOf (lN m) = some r' := by
  unfold j_X3_lengthOf
  rw [h]
  show some ((64 - r + 4 - 1) / 4) = _
  rw [e]
theorem len_1 {m : Nat} (h1 : 1 ≤ m) (h2 : m < 16) : j_X3_lengthOf (lN m) = some 1 := by
  by_cases c0 : m < 2
  · exact len_of (nlzL_lo (by omega) (nlz_0 (by omega) (by omega))) (by decide)
  by_cases c1 : m < 4
  · exact len_of (nlzL_lo (by omega) (nlz_1 (by omega) (by omega))) (by decide)
  by_cases c2 : m < 8
  · exact len_of (nlzL_lo (by omega) (nlz_2 (by omega) (by omega))) (by decide)
  exact len_of (nlzL_lo (by omega) (nlz_3 (by omega) (by omega))) (by decide)
theorem len_2 {m : Nat} (h1 : 16 ≤ m) (h2 : m < 256) : j_X3_lengthOf (lN m) = some 2 := by
  by_cases c0 : m < 32
  · exact len_of (nlzL_lo (by omega) (nlz_4 (by omega) (by omega))) (by decide)
  by_cases c1 : m < 64
  · exact len_of (nlzL_lo (by omega) (nlz_5 (by omega) (by omega))) (by decide)
  by_cases c2 : m < 128
  · exact len_of (nlzL_lo (by omega) (nlz_6 (by omega) (by omega))) (by decide)
  exact len_of (nlzL_lo (by omega) (nlz_7 (by omega) (by omega))) (by decide)
theorem len_3 {m : Nat} (h1 : 256 ≤ m) (h2 : m < 4096) : j_X3_lengthOf (lN m) = some 3 := by
  by_cases c0 : m < 512
  · exact len_of (nlzL_lo (by omega) (nlz_8 (by omega) (by omega))) (by decide)
  by_cases c1 : m < 1024
  · exact len_of (nlzL_lo (by omega) (nlz_9 (by omega) (by omega))) (by decide)
  by_cases c2 : m < 2048
  · exact len_of (nlzL_lo (by omega) (nlz_10 (by omega) (by omega))) (by decide)
  exact len_of (nlzL_lo (by omega) (nlz_11 (by omega) (by omega))) (by decide)
theorem len_4 {m : Nat} (h1 : 4096 ≤ m) (h2 : m < 65536) : j_X3_lengthOf (lN m) = some 4 := by
  by_cases c0 : m < 8192
  · exact len_of (nlzL_lo (by omega) (nlz_12 (by omega) (by omega))) (by decide)
  by_cases c1 : m < 16384
  · exact len_of (nlzL_lo (by omega) (nlz_13 (by omega) (by omega))) (by decide)
  by_cases c2 : m < 32768
  · exact len_of (nlzL_lo (by omega) (nlz_14 (by omega) (by omega))) (by decide)
  exact len_of (nlzL_lo (by omega) (nlz_15 (by omega) (by omega))) (by decide)
theorem len_5 {m : Nat} (h1 : 65536 ≤ m) (h2 : m < 1048576) : j_X3_lengthOf (lN m) = some 5 := by
  by_cases c0 : m < 131072
  · exact len_of (nlzL_lo (by omega) (nlz_16 (by omega) (by omega))) (by decide)
  by_cases c1 : m < 262144
  · exact len_of (nlzL_lo (by omega) (nlz_17 (by omega) (by omega))) (by decide)
  by_cases c2 : m < 524288
  · exact len_of (nlzL_lo (by omega) (nlz_18 (by omega) (by omega))) (by decide)
  exact len_of (nlzL_lo (by omega) (nlz_19 (by omega) (by omega))) (by decide)
theorem len_6 {m : Nat} (h1 : 1048576 ≤ m) (h2 : m < 16777216) : j_X3_lengthOf (lN m) = some 6 := by
  by_cases c0 : m < 2097152
  · exact len_of (nlzL_lo (by omega) (nlz_20 (by omega) (by omega))) (by decide)
  by_cases c1 : m < 4194304
  · exact len_of (nlzL_lo (by omega) (nlz_21 (by omega) (by omega))) (by decide)
  by_cases c2 : m < 8388608
  · exact len_of (nlzL_lo (by omega) (nlz_22 (by omega) (by omega))) (by decide)
  exact len_of (nlzL_lo (by omega) (nlz_23 (by omega) (by omega))) (by decide)
theorem len_7 {m : Nat} (h1 : 16777216 ≤ m) (h2 : m < 268435456) : j_X3_lengthOf (lN m) = some 7 := by
  by_cases c0 : m < 33554432
  · exact len_of (nlzL_lo (by omega) (nlz_24 (by omega) (by omega))) (by decide)
  by_cases c1 : m < 67108864
  · exact len_of (nlzL_lo (by omega) (nlz_25 (by omega) (by omega))) (by decide)
  by_cases c2 : m < 134217728
  · exact len_of (nlzL_lo (by omega) (nlz_26 (by omega) (by omega))) (by decide)
  exact len_of (nlzL_lo (by omega) (nlz_27 (by omega) (by omega))) (by decide)
theorem len_8 {m : Nat} (h1 : 268435456 ≤ m) (h2 : m < 4294967296) : j_X3_lengthOf (lN m) = some 8 := by
  by_cases c0 : m < 536870912
  · exact len_of (nlzL_lo (by omega) (nlz_28 (by omega) (by omega))) (by decide)
  by_cases c1 : m < 1073741824
  · exact len_of (nlzL_lo (by omega) (nlz_29 (by omega) (by omega))) (by decide)
  by_cases c2 : m < 2147483648
  · exact len_of (nlzL_lo (by omega) (nlz_30 (by omega) (by omega))) (by decide)
  exact len_of (nlzL_lo (by omega) (nlz_31 (by omega) (by omega))) (by decide)
theorem len_9 {m : Nat} (h1 : 4294967296 ≤ m) (h2 : m < 68719476736) : j_X3_lengthOf (lN m) = some 9 := by
  by_cases c0 : m < 8589934592
  · exact len_of (nlzL_hi (by omega) (by omega) (nlz_0 (by omega) (by omega))) (by decide)
  by_cases c1 : m < 17179869184
  · exact len_of (nlzL_hi (by omega) (by omega) (nlz_1 (by omega) (by omega))) (by decide)
  by_cases c2 : m < 34359738368
  · exact len_of (nlzL_hi (by omega) (by omega) (nlz_2 (by omega) (by omega))) (by decide)
  exact len_of (nlzL_hi (by omega) (by omega) (nlz_3 (by omega) (by omega))) (by decide)
theorem len_10 {m : Nat} (h1 : 68719476736 ≤ m) (h2 : m < 1099511627776) : j_X3_lengthOf (lN m) = some 10 := by
  by_cases c0 : m < 137438953472
  · exact len_of (nlzL_hi (by omega) (by omega) (nlz_4 (by omega) (by omega))) (by decide)
  by_cases c1 : m < 274877906944
  · exact len_of (nlzL_hi (by omega) (by omega) (nlz_5 (by omega) (by omega))) (by decide)
  by_cases c2 : m < 549755813888
  · exact len_of (nlzL_hi (by omega) (by omega) (nlz_6 (by omega) (by omega))) (by decide)
  exact len_of (nlzL_hi (by omega) (by omega) (nlz_7 (by omega) (by omega))) (by decide)
theorem len_0 : j_X3_lengthOf (lN 0) = some 0 := len_of (nlzL_lo (r := 32) (by decide) (by rfl)) (by decide)
theorem len_k {k m : Nat} (hk : k < 10) (h1 : 16 ^ k ≤ m) (h2 : m < 16 ^ (k + 1)) : j_X3_lengthOf (lN m) = some (nI (k + 1)) := by
  rcases (show k = 0 ∨ k = 1 ∨ k = 2 ∨ k = 3 ∨ k = 4 ∨ k = 5 ∨ k = 6 ∨ k = 7 ∨ k = 8 ∨ k = 9 by omega) with rfl | rfl | rfl | rfl | rfl | rfl | rfl | rfl | rfl | rfl
  · exact len_1 (by omega) (by omega)
  · exact len_2 (by omega) (by omega)
  · exact len_3 (by omega) (by omega)
  · exact len_4 (by omega) (by omega)
  · exact len_5 (by omega) (by omega)
  · exact len_6 (by omega) (by omega)
  · exact len_7 (by omega) (by omega)
  · exact len_8 (by omega) (by omega)
  · exact len_9 (by omega) (by omega)
  · exact len_10 (by omega) (by omega)
