/-! bits of a long; how many they are; ALIKE -/
def bh_tb (x : Int64) (v : Nat) : Bool := x.toBitVec.getLsbD v
theorem bh_tb0 (v : Nat) : bh_tb 0 v = false := by
  show (0#64).getLsbD v = false
  simp
theorem bh_tbO (x y : Int64) (v : Nat) : bh_tb (x ||| y) v = (bh_tb x v || bh_tb y v) := by
  show (x.toBitVec ||| y.toBitVec).getLsbD v = _
  rw [BitVec.getLsbD_or]; rfl
theorem bh_tbA (x y : Int64) (v : Nat) : bh_tb (x &&& y) v = (bh_tb x v && bh_tb y v) := by
  show (x.toBitVec &&& y.toBitVec).getLsbD v = _
  rw [BitVec.getLsbD_and]; rfl
theorem bh_shl1 : ∀ k, k < 46 → (1 : Int64) <<< ((nI k).toInt64 &&& 63) = lN (2 ^ k) := by decide +kernel
theorem bh_tbN {n v : Nat} (hv : v < 64) : bh_tb (lN n) v = n.testBit v := by
  show (BitVec.ofNat 64 n).getLsbD v = _
  rw [BitVec.getLsbD_ofNat]
  simp [hv]
theorem bh_tb1 {k v : Nat} (hk : k < 46) (hv : v < 64) : bh_tb ((1 : Int64) <<< ((nI k).toInt64 &&& 63)) v = decide (k = v) := by
  rw [bh_shl1 k hk, bh_tbN hv, Nat.testBit_two_pow]
theorem bh_lNof (x : Int64) : x = lN x.toBitVec.toNat := by
  apply Int64.toBitVec_inj.mp
  show x.toBitVec = BitVec.ofNat 64 x.toBitVec.toNat
  simp
theorem bh_andN {a b : Nat} (ha : a < 2 ^ 64) (hb : b < 2 ^ 64) : lN a &&& lN b = lN (a &&& b) := by
  apply Int64.toBitVec_inj.mp
  apply BitVec.eq_of_toNat_eq
  show (BitVec.ofNat 64 a &&& BitVec.ofNat 64 b).toNat = (BitVec.ofNat 64 (a &&& b)).toNat
  rw [BitVec.toNat_and, BitVec.toNat_ofNat, BitVec.toNat_ofNat, BitVec.toNat_ofNat, Nat.mod_eq_of_lt ha, Nat.mod_eq_of_lt hb, Nat.mod_eq_of_lt (Nat.and_lt_two_pow _ hb)]
theorem bh_us {n k : Nat} {u : UInt64} (hn : n < 2 ^ 64) (hu : u.toNat % 64 = k) : ((lN n).toUInt64 >>> u).toInt64 = lN (n / 2 ^ k) := by
  apply Int64.toBitVec_inj.mp
  apply BitVec.eq_of_toNat_eq
  show ((lN n).toUInt64 >>> u).toNat = (BitVec.ofNat 64 (n / 2 ^ k)).toNat
  rw [UInt64.toNat_shiftRight, hu, Nat.shiftRight_eq_div_pow]
  show (BitVec.ofNat 64 n).toNat / 2 ^ k = _
  rw [BitVec.toNat_ofNat, BitVec.toNat_ofNat, Nat.mod_eq_of_lt hn, Nat.mod_eq_of_lt (Nat.lt_of_le_of_lt (Nat.div_le_self _ _) hn)]
/-- bytes -/
theorem bh_and8 {a b c d : Nat} (hb : b < 256) (hd : d < 256) : (256 * a + b) &&& (256 * c + d) = 256 * (a &&& c) + (b &&& d) := by
  apply Nat.eq_of_testBit_eq
  intro i
  have h1 := Nat.testBit_two_pow_mul_add a (b := b) (i := 8) hb i
  have h2 := Nat.testBit_two_pow_mul_add c (b := d) (i := 8) hd i
  have h3 := Nat.testBit_two_pow_mul_add (a &&& c) (b := b &&& d) (i := 8) (Nat.and_lt_two_pow b hd) i
  rw [show (256 : Nat) = 2 ^ 8 from rfl, Nat.testBit_and, h1, h2, h3]
  by_cases h : i < 8
  · rw [if_pos h, if_pos h, if_pos h, Nat.testBit_and]
  · rw [if_neg h, if_neg h, if_neg h, Nat.testBit_and]
def bh_s1 (M n : Nat) : Nat := n - (n / 2 &&& M)
def bh_s2 (M n : Nat) : Nat := (n &&& M) + (n / 4 &&& M)
def bh_s3 (M n : Nat) : Nat := (n + n / 16) &&& M
theorem bh_b1 : ∀ b, b < 256 → ∀ e, e < 2 → ((b / 2 + 128 * e) &&& 85) = (b / 2 &&& 85) ∧ (b / 2 &&& 85) ≤ b := by decide +kernel
theorem bh_b2 : ∀ b, b < 256 → ∀ e, e < 4 → ((b / 4 + 64 * e) &&& 51) = (b / 4 &&& 51) := by decide +kernel
theorem bh_b3 : ∀ b, b < 69 → ∀ e, e < 5 → ((b + b / 16 + 16 * e) &&& 15) = ((b + b / 16) &&& 15) := by decide +kernel
theorem bh_s1_8 {M y b : Nat} (hb : b < 256) : bh_s1 (256 * M + 85) (256 * y + b) = 256 * bh_s1 M y + bh_s1 85 b := by
  unfold bh_s1
  have e : (256 * y + b) / 2 = 256 * (y / 2) + (b / 2 + 128 * (y % 2)) := by omega
  obtain ⟨e1, e2⟩ := bh_b1 b hb (y % 2) (by omega)
  rw [e, bh_and8 (by omega) (by omega), e1]
  have : (y / 2 &&& M) ≤ y / 2 := Nat.and_le_left
  omega
theorem bh_s2_8 {M y b : Nat} (hb : b < 256) : bh_s2 (256 * M + 51) (256 * y + b) = 256 * bh_s2 M y + bh_s2 51 b := by
  unfold bh_s2
  have e : (256 * y + b) / 4 = 256 * (y / 4) + (b / 4 + 64 * (y % 4)) := by omega
  rw [e, bh_and8 hb (by omega), bh_and8 (by omega) (by omega), bh_b2 b hb (y % 4) (by omega)]
  omega
theorem bh_s3_8 {M y b : Nat} (hb : b < 69) (hy : y % 16 ≤ 4) : bh_s3 (256 * M + 15) (256 * y + b) = 256 * bh_s3 M y + bh_s3 15 b := by
  unfold bh_s3
  have e : 256 * y + b + (256 * y + b) / 16 = 256 * (y + y / 16) + (b + b / 16 + 16 * (y % 16)) := by omega
  rw [e, bh_and8 (by omega) (by omega), bh_b3 b hb (y % 16) (by omega)]
theorem bh_byte : ∀ b, b < 256 → bh_s1 85 b < 256 ∧ bh_s2 51 (bh_s1 85 b) < 69 ∧ bh_s2 51 (bh_s1 85 b) % 16 ≤ 4 ∧ bh_s3 15 (bh_s2 51 (bh_s1 85 b)) = bh_sm (fun v => b / 2 ^ v % 2) 8 ∧ bh_s3 15 (bh_s2 51 (bh_s1 85 b)) ≤ 8 := by decide +kernel
theorem bh_sm_add {g : Nat → Nat} (a : Nat) : ∀ c, bh_sm g (a + c) = bh_sm g a + bh_sm (fun c => g (a + c)) c
  | 0 => rfl
  | c + 1 => by
    show bh_sm g (a + c) + g (a + c) = _ + (_ + g (a + c))
    rw [bh_sm_add a c, Nat.add_assoc]
theorem bh_bits8 {y b : Nat} (hb : b < 256) (k : Nat) : bh_sm (fun v => (256 * y + b) / 2 ^ v % 2) (8 + k) = bh_sm (fun v => b / 2 ^ v % 2) 8 + bh_sm (fun v => y / 2 ^ v % 2) k := by
  rw [bh_sm_add]
  have e1 : bh_sm (fun v => (256 * y + b) / 2 ^ v % 2) 8 = bh_sm (fun v => b / 2 ^ v % 2) 8 := bh_sm_congr fun v hv => by
    rcases (by omega : v = 0 ∨ v = 1 ∨ v = 2 ∨ v = 3 ∨ v = 4 ∨ v = 5 ∨ v = 6 ∨ v = 7) with rfl | rfl | rfl | rfl | rfl | rfl | rfl | rfl <;> simp <;> omega
  have e2 : bh_sm (fun c => (256 * y + b) / 2 ^ (8 + c) % 2) k = bh_sm (fun v => y / 2 ^ v % 2) k := bh_sm_congr fun v hv => by
    rw [Nat.pow_add, ← Nat.div_div_eq_div_mul, show (256 * y + b) / 2 ^ 8 = y from by omega]
  rw [e1, e2]
theorem bh_s1_0 (M : Nat) : bh_s1 M 0 = 0 := by unfold bh_s1; simp
theorem bh_s2_0 (M : Nat) : bh_s2 M 0 = 0 := by unfold bh_s2; simp
theorem bh_s3_0 (M : Nat) : bh_s3 M 0 = 0 := by unfold bh_s3; simp
theorem bh_swar {n : Nat} (hn : n < 281474976710656) : ∃ e0 e1 e2 e3 e4 e5, bh_s3 1085102592571150095 (bh_s2 3689348814741910323 (bh_s1 6148914691236517205 n)) = 256 * (256 * (256 * (256 * (256 * e5 + e4) + e3) + e2) + e1) + e0 ∧ bh_sm (fun v => n / 2 ^ v % 2) 48 = e0 + (e1 + (e2 + (e3 + (e4 + e5)))) ∧ e0 ≤ 8 ∧ e1 ≤ 8 ∧ e2 ≤ 8 ∧ e3 ≤ 8 ∧ e4 ≤ 8 ∧ e5 ≤ 8 := by
  obtain ⟨b0, b1, b2, b3, b4, b5, rfl, h0, h1, h2, h3, h4, h5⟩ : ∃ b0 b1 b2 b3 b4 b5, n = 256 * (256 * (256 * (256 * (256 * b5 + b4) + b3) + b2) + b1) + b0 ∧ b0 < 256 ∧ b1 < 256 ∧ b2 < 256 ∧ b3 < 256 ∧ b4 < 256 ∧ b5 < 256 := ⟨n % 256, n / 256 % 256, n / 65536 % 256, n / 16777216 % 256, n / 4294967296 % 256, n / 1099511627776, by omega, by omega, by omega, by omega, by omega, by omega, by omega⟩
  have B0 := bh_byte b0 h0
  have B1 := bh_byte b1 h1
  have B2 := bh_byte b2 h2
  have B3 := bh_byte b3 h3
  have B4 := bh_byte b4 h4
  have B5 := bh_byte b5 h5
  have f5 : b5 = 256 * 0 + b5 := by omega
  have g1 : ∀ M b, b < 256 → bh_s1 (256 * M + 85) b = bh_s1 85 b := fun M b hb => by
    have := bh_s1_8 (M := M) (y := 0) hb
    rw [Nat.mul_zero, Nat.zero_add, bh_s1_0, Nat.mul_zero, Nat.zero_add] at this; exact this
  have g2 : ∀ M b, b < 256 → bh_s2 (256 * M + 51) b = bh_s2 51 b := fun M b hb => by
    have := bh_s2_8 (M := M) (y := 0) hb
    rw [Nat.mul_zero, Nat.zero_add, bh_s2_0, Nat.mul_zero, Nat.zero_add] at this; exact this
  have g3 : ∀ M b, b < 69 → bh_s3 (256 * M + 15) b = bh_s3 15 b := fun M b hb => by
    have := bh_s3_8 (M := M) (y := 0) hb (by omega)
    rw [Nat.mul_zero, Nat.zero_add, bh_s3_0, Nat.mul_zero, Nat.zero_add] at this; exact this
  refine ⟨bh_s3 15 (bh_s2 51 (bh_s1 85 b0)), bh_s3 15 (bh_s2 51 (bh_s1 85 b1)), bh_s3 15 (bh_s2 51 (bh_s1 85 b2)), bh_s3 15 (bh_s2 51 (bh_s1 85 b3)), bh_s3 15 (bh_s2 51 (bh_s1 85 b4)), bh_s3 15 (bh_s2 51 (bh_s1 85 b5)), ?_, ?_, B0.2.2.2.2, B1.2.2.2.2, B2.2.2.2.2, B3.2.2.2.2, B4.2.2.2.2, B5.2.2.2.2⟩
  · rw [show 6148914691236517205 = 256 * (256 * (256 * (256 * (256 * (256 * 21845 + 85) + 85) + 85) + 85) + 85) + 85 from by omega, bh_s1_8 h0, bh_s1_8 h1, bh_s1_8 h2, bh_s1_8 h3, bh_s1_8 h4, g1 _ _ h5,
      show 3689348814741910323 = 256 * (256 * (256 * (256 * (256 * (256 * 13107 + 51) + 51) + 51) + 51) + 51) + 51 from by omega, bh_s2_8 B0.1, bh_s2_8 B1.1, bh_s2_8 B2.1, bh_s2_8 B3.1, bh_s2_8 B4.1, g2 _ _ B5.1,
      show 1085102592571150095 = 256 * (256 * (256 * (256 * (256 * (256 * 3855 + 15) + 15) + 15) + 15) + 15) + 15 from by omega, bh_s3_8 B0.2.1 (by omega), bh_s3_8 B1.2.1 (by omega), bh_s3_8 B2.2.1 (by omega), bh_s3_8 B3.2.1 (by omega), bh_s3_8 B4.2.1 (by omega), g3 _ _ B5.2.1]
  · rw [B0.2.2.2.1, B1.2.2.2.1, B2.2.2.2.1, B3.2.2.2.1, B4.2.2.2.1, B5.2.2.2.1, show (48 : Nat) = 8 + 40 from rfl, bh_bits8 h0, show (40 : Nat) = 8 + 32 from rfl, bh_bits8 h1, show (32 : Nat) = 8 + 24 from rfl, bh_bits8 h2, show (24 : Nat) = 8 + 16 from rfl, bh_bits8 h3, show (16 : Nat) = 8 + 8 from rfl, bh_bits8 h4]
theorem bh_bitCount {n : Nat} (hn : n < 281474976710656) (G : GM) : f_J13_bitCount_95d88 (lN n) G = some (nI (bh_sm (fun v => n / 2 ^ v % 2) 48), G) := by
  obtain ⟨e0, e1, e2, e3, e4, e5, hs, hb, l0, l1, l2, l3, l4, l5⟩ := bh_swar hn
  have u1 : ((((1 : Int32)).toInt64 &&& 63).toUInt64).toNat % 64 = 1 := by decide +kernel
  have u2 : ((((2 : Int32)).toInt64 &&& 63).toUInt64).toNat % 64 = 2 := by decide +kernel
  have u4 : ((((4 : Int32)).toInt64 &&& 63).toUInt64).toNat % 64 = 4 := by decide +kernel
  have u8 : ((((8 : Int32)).toInt64 &&& 63).toUInt64).toNat % 64 = 8 := by decide +kernel
  have u16 : ((((16 : Int32)).toInt64 &&& 63).toUInt64).toNat % 64 = 16 := by decide +kernel
  have u32 : ((((32 : Int32)).toInt64 &&& 63).toUInt64).toNat % 64 = 32 := by decide +kernel
  have c1 : (6148914691236517205 : Int64) = lN 6148914691236517205 := rfl
  have c2 : (3689348814741910323 : Int64) = lN 3689348814741910323 := rfl
  have c3 : (1085102592571150095 : Int64) = lN 1085102592571150095 := rfl
  have a1 : (n / 2 &&& 6148914691236517205) ≤ n / 2 := Nat.and_le_left
  have a2 : (bh_s1 6148914691236517205 n &&& 3689348814741910323) ≤ bh_s1 6148914691236517205 n := Nat.and_le_left
  have a3 : (bh_s1 6148914691236517205 n / 4 &&& 3689348814741910323) ≤ bh_s1 6148914691236517205 n / 4 := Nat.and_le_left
  have b1 : bh_s1 6148914691236517205 n ≤ n := Nat.sub_le _ _
  have b2 : bh_s2 3689348814741910323 (bh_s1 6148914691236517205 n) ≤ 2 * n := by unfold bh_s2; omega
  unfold f_J13_bitCount_95d88
  rw [bh_us (by omega) u1, c1, bh_andN (by omega) (by omega), lN_sub (Nat.le_trans Nat.and_le_left (Nat.div_le_self _ _)), lt_r, show n - (n / 2 ^ 1 &&& 6148914691236517205) = bh_s1 6148914691236517205 n from rfl, c2, bh_andN (by omega) (by omega), bh_us (by omega) u2, bh_andN (by omega) (by omega), lN_add, lt_r, show (bh_s1 6148914691236517205 n &&& 3689348814741910323) + (bh_s1 6148914691236517205 n / 2 ^ 2 &&& 3689348814741910323) = bh_s2 3689348814741910323 (bh_s1 6148914691236517205 n) from rfl, bh_us (by omega) u4, lN_add, c3, bh_andN (by omega) (by omega), lt_r, show ((bh_s2 3689348814741910323 (bh_s1 6148914691236517205 n) + bh_s2 3689348814741910323 (bh_s1 6148914691236517205 n) / 2 ^ 4) &&& 1085102592571150095) = bh_s3 1085102592571150095 (bh_s2 3689348814741910323 (bh_s1 6148914691236517205 n)) from rfl, hs, bh_us (by omega) u8, lN_add, lt_r, bh_us (by omega) u16, lN_add, lt_r, bh_us (by omega) u32, lN_add, lt_r, lN_i]
  clear hs a1 a2 a3 b1 b2
  rw [hb]
  refine congrArg (fun v => some (v, G)) ?_
  generalize hY : 256 * (256 * (256 * (256 * (256 * e5 + e4) + e3) + e2) + e1) + e0 = Y
  generalize hZ : Y + Y / 2 ^ 8 = Z
  generalize hX : Z + Z / 2 ^ 16 = X
  have q8 : Y / 2 ^ 8 = 256 * (256 * (256 * (256 * e5 + e4) + e3) + e2) + e1 := by omega
  have hZ2 : Z = 256 * (256 * (256 * (256 * (256 * e5 + (e4 + e5)) + (e3 + e4)) + (e2 + e3)) + (e1 + e2)) + (e0 + e1) := by omega
  have q16 : Z / 2 ^ 16 = 256 * (256 * (256 * e5 + (e4 + e5)) + (e3 + e4)) + (e2 + e3) := by omega
  have q32 : X / 2 ^ 32 = 256 * e5 + (e4 + e5) := by omega
  have hS : X + X / 2 ^ 32 = (e0 + (e1 + (e2 + (e3 + (e4 + e5))))) + 256 * (256 * (256 * (256 * (256 * e5 + (e4 + e5)) + (e3 + e4 + e5)) + (e2 + e3 + e4 + e5)) + (e1 + e2 + e3 + e4 + e5)) := by omega
  rw [hS]
  have h2 : ∀ m S : Nat, S < 128 → nI (S + 256 * m) &&& (127 : Int32) = nI S := fun m S hS => by
    apply Int32.toBitVec_inj.mp
    apply BitVec.eq_of_toNat_eq
    show (BitVec.ofNat 32 (S + 256 * m) &&& 127#32).toNat = (BitVec.ofNat 32 S).toNat
    rw [BitVec.toNat_and, BitVec.toNat_ofNat, BitVec.toNat_ofNat, BitVec.toNat_ofNat, show 127 % 2 ^ 32 = 2 ^ 7 - 1 from rfl, Nat.and_two_pow_sub_one_eq_mod]
    omega
  exact h2 _ _ (by omega)
/-! sums -/
theorem bh_sm_zero : ∀ n, bh_sm (fun _ => 0) n = 0
  | 0 => rfl
  | n + 1 => by
    show bh_sm (fun _ => 0) n + 0 = 0
    rw [bh_sm_zero n]
theorem bh_sm_plus {f g : Nat → Nat} : ∀ n, bh_sm (fun k => f k + g k) n = bh_sm f n + bh_sm g n
  | 0 => rfl
  | n + 1 => by
    show bh_sm (fun k => f k + g k) n + (f n + g n) = (bh_sm f n + f n) + (bh_sm g n + g n)
    rw [bh_sm_plus n]; omega
theorem bh_sm_swap {f : Nat → Nat → Nat} {n : Nat} : ∀ m, bh_sm (fun i => bh_sm (fun j => f i j) n) m = bh_sm (fun j => bh_sm (fun i => f i j) m) n
  | 0 => (bh_sm_zero n).symm
  | m + 1 => by
    show bh_sm (fun i => bh_sm (fun j => f i j) n) m + bh_sm (fun j => f m j) n = bh_sm (fun j => bh_sm (fun i => f i j) m + f m j) n
    rw [bh_sm_swap m, bh_sm_plus]
theorem bh_sm_one {f : Nat → Nat} {n k : Nat} (hk : k < n) (h1 : f k = 1) (h0 : ∀ j, j < n → j ≠ k → f j = 0) : bh_sm f n = 1 := by
  induction n with
  | zero => omega
  | succ n ih =>
    show bh_sm f n + f n = 1
    by_cases hkn : k = n
    · subst hkn
      rw [h1, bh_sm_0.mpr (fun j hj => h0 j (by omega) (by omega))]
    · rw [h0 n (by omega) (by omega), ih (by omega) (fun j hj hne => h0 j (by omega) hne)]
/-- pairs of places with the same number, counted by the numbers -/
theorem bh_pairs {f g : Nat → Nat} {a : Nat → Bool} {n L : Nat} (hf : ∀ i, i < n → f i < L) (hfi : ∀ i j, i < n → j < n → 0 < f i → f i = f j → i = j) (hgi : ∀ i j, i < n → j < n → 0 < g i → g i = g j → i = j) (ha : ∀ v, v < L → (a v = true ↔ 0 < v ∧ (∃ i, i < n ∧ f i = v) ∧ ∃ j, j < n ∧ g j = v)) : bh_sm (fun i => bh_sm (fun j => if 0 < f i ∧ f i = g j then 1 else 0) n) n = bh_sm (fun v => if a v = true then 1 else 0) L := by
  have h1 : ∀ i, i < n → bh_sm (fun j => if 0 < f i ∧ f i = g j then 1 else 0) n = bh_sm (fun v => if f i = v ∧ a v = true then 1 else 0) L := fun i hi => by
    by_cases hav : a (f i) = true
    · obtain ⟨p, -, j, hj, hg⟩ := (ha _ (hf i hi)).mp hav
      have e1 : bh_sm (fun j => if 0 < f i ∧ f i = g j then 1 else 0) n = 1 := bh_sm_one (k := j) hj (if_pos ⟨p, hg.symm⟩) (fun j' hj' hne => if_neg (fun q => hne (hgi j' j hj' hj (by rw [← q.2]; exact q.1) (by rw [← q.2, hg]))))
      have e2 : bh_sm (fun v => if f i = v ∧ a v = true then 1 else 0) L = 1 := bh_sm_one (k := f i) (hf i hi) (if_pos ⟨rfl, hav⟩) (fun v _ hne => if_neg (fun q => hne q.1.symm))
      rw [e1, e2]
    · have e1 : bh_sm (fun j => if 0 < f i ∧ f i = g j then 1 else 0) n = 0 := bh_sm_0.mpr (fun j hj => if_neg (fun q => hav ((ha _ (hf i hi)).mpr ⟨q.1, ⟨i, hi, rfl⟩, j, hj, q.2.symm⟩)))
      have e2 : bh_sm (fun v => if f i = v ∧ a v = true then 1 else 0) L = 0 := bh_sm_0.mpr (fun v _ => if_neg (fun q => hav (by rw [q.1]; exact q.2)))
      rw [e1, e2]
  rw [bh_sm_congr h1, bh_sm_swap]
  refine bh_sm_congr fun v hv => ?_
  by_cases hav : a v = true
  · obtain ⟨p, ⟨i, hi, he⟩, -⟩ := (ha v hv).mp hav
    have e1 : bh_sm (fun i => if f i = v ∧ a v = true then 1 else 0) n = 1 := bh_sm_one (k := i) hi (if_pos ⟨he, hav⟩) (fun j hj hne => if_neg (fun q => hne (hfi j i hj hi (by rw [q.1]; exact p) (by rw [q.1, he]))))
    rw [if_pos hav, e1]
  · have e1 : bh_sm (fun i => if f i = v ∧ a v = true then 1 else 0) n = 0 := bh_sm_0.mpr (fun j hj => if_neg (fun q => hav q.2))
    rw [if_neg hav, e1]
section AL
variable {ln C R E K m pu bb : Nat} {z sv cl pr : Nat → Nat}
/-- the numbers of a card, as bits -/
theorem c_numsOf {G : GM} {h t s c : Nat} (hV : bh_VH C R E K z) (hF : bh_FO G h C R E K z) (hS : bh_SC G t C R E K z s) (ht : LN t = 45) (hc : c < C) : ∃ x, f_X4_numbersOf h t (nI c) G = some (x, G) ∧ ∀ v, v < 64 → (bh_tb x v = true ↔ 0 < v ∧ ∃ r k, r < R ∧ k < K ∧ bh_ST C R E K z s c r k = v) := by
  have h45 := bh_N45 hV
  obtain ⟨hbC, hbR, hbE, hbK, -⟩ := id hV
  have hCRK := bh_CRK hbC.2 hbR.2 hbK.2
  unfold f_X4_numbersOf
  refine wl2_up (P := fun o => ∃ x, o = some (x, G) ∧ ∀ v, v < 64 → (bh_tb x v = true ↔ 0 < v ∧ ∃ r k, r < R ∧ k < K ∧ bh_ST C R E K z s c r k = v)) (I := fun r y G' => G' = G ∧ ∀ v, v < 64 → (bh_tb y v = true ↔ 0 < v ∧ ∃ r' k, r' < r ∧ k < K ∧ bh_ST C R E K z s c r' k = v)) (N := R) (by omega) ?_ (n := FU) (i := 0) (Nat.zero_le _) ⟨rfl, fun v _ => ⟨fun q => (by rw [bh_tb0] at q; cases q), fun ⟨_, r, _, hr, _⟩ => absurd hr (Nat.not_lt_zero _)⟩⟩ (by unfold FU; omega)
  rintro kc r y G' hr' ⟨rfl, q1⟩ hkc
  unfold lp_X4_numbersOf_5
  rw [hF.1.2.1]
  by_cases hr : r < R
  · rw [if_neg (nI_ge hr (by omega))]
    refine wl2_up (P := fun o => ∃ x, o = some (x, G') ∧ ∀ v, v < 64 → (bh_tb x v = true ↔ 0 < v ∧ ∃ r k, r < R ∧ k < K ∧ bh_ST C R E K z s c r k = v)) (I := fun k y G2 => G2 = G' ∧ ∀ v, v < 64 → (bh_tb y v = true ↔ 0 < v ∧ ∃ r' k', (r' < r ∧ k' < K ∨ r' = r ∧ k' < k) ∧ bh_ST C R E K z s c r' k' = v)) (N := K) (by omega) ?_ (n := FU) (i := 0) (Nat.zero_le _) ⟨rfl, fun v hv => (q1 v hv).trans ⟨fun ⟨p, r', k', a, b, e⟩ => ⟨p, r', k', Or.inl ⟨a, b⟩, e⟩, fun ⟨p, r', k', a, e⟩ => a.elim (fun a => ⟨p, r', k', a.1, a.2, e⟩) (fun a => absurd a.2 (Nat.not_lt_zero _))⟩⟩ (by unfold FU; omega)
    rintro kc2 k y2 G2 hk' ⟨rfl, q2⟩ hk2
    unfold lp_X4_numbersOf_17
    rw [hF.1.2.2.2]
    by_cases hk : k < K
    · have hlt := bh_at_lt hc hr hk
      have hST := bh_ST_N hV s hc hr hk
      rw [if_neg (nI_ge hk (by omega)), bh_placeOf hF.1.2.1 hF.1.2.2.2 hbC.2 hbR.2 hbK.2 hc hr hk, ob_s, ht, inb_n (by omega) (by omega), gd_t, nI_clamp (by omega), hS.1 c r k hc hr hk, lt_r]
      have spl : ∀ v, (∃ r' k', (r' < r ∧ k' < K ∨ r' = r ∧ k' < k + 1) ∧ bh_ST C R E K z s c r' k' = v) ↔ (∃ r' k', (r' < r ∧ k' < K ∨ r' = r ∧ k' < k) ∧ bh_ST C R E K z s c r' k' = v) ∨ bh_ST C R E K z s c r k = v := fun v => by
        constructor
        · rintro ⟨r', k', a, e⟩
          rcases a with a | ⟨a, b⟩
          · exact Or.inl ⟨r', k', Or.inl a, e⟩
          · by_cases hkk : k' = k
            · subst a hkk; exact Or.inr e
            · exact Or.inl ⟨r', k', Or.inr ⟨a, by omega⟩, e⟩
        · rintro (⟨r', k', a, e⟩ | e)
          · exact ⟨r', k', a.elim Or.inl (fun a => Or.inr ⟨a.1, by omega⟩), e⟩
          · exact ⟨r, k, Or.inr ⟨rfl, Nat.lt_succ_self _⟩, e⟩
      by_cases h0 : bh_ST C R E K z s c r k = 0
      · rw [h0, if_pos (show nI 0 = (0 : Int32) from rfl)]
        unfold k_X4_numbersOf_53
        rw [lt_r, nI_1]
        refine hk2 hk _ _ ⟨rfl, fun v hv => ?_⟩
        rw [bh_tbO, bh_tb0, Bool.or_false, q2 v hv, spl]
        exact ⟨fun ⟨p, e⟩ => ⟨p, Or.inl e⟩, fun ⟨p, e⟩ => ⟨p, e.elim id (fun e => absurd (h0.symm.trans e) (Nat.ne_of_lt p))⟩⟩
      · rw [if_neg (nI_ne0 (by omega) (by omega))]
        unfold k_X4_numbersOf_53
        rw [lt_r, nI_1]
        refine hk2 hk _ _ ⟨rfl, fun v hv => ?_⟩
        rw [bh_tbO, Bool.or_eq_true, bh_tb1 (by omega) hv, q2 v hv, spl, decide_eq_true_iff]
        exact ⟨fun h => h.elim (fun ⟨p, e⟩ => ⟨p, Or.inl e⟩) (fun e => ⟨by rw [← e]; exact Nat.pos_of_ne_zero h0, Or.inr e⟩), fun ⟨p, e⟩ => e.elim (fun e => Or.inl ⟨p, e⟩) Or.inr⟩
    · have hk2' : k = K := by omega
      subst hk2'
      rw [if_pos (nI_le (by omega) (by omega)), nI_1]
      refine hkc hr _ _ ⟨rfl, fun v hv => (q2 v hv).trans ⟨fun ⟨p, r', k', a, e⟩ => ⟨p, r', k', by omega, by omega, e⟩, fun ⟨p, r', k', a, b, e⟩ => ⟨p, r', k', by omega, e⟩⟩⟩
  · have hr2 : r = R := by omega
    subst hr2
    rw [if_pos (nI_le (by omega) (by omega))]
    exact ⟨y, rfl, q1⟩
end AL
theorem q_alike (x1 x2 x3 x4 : Int32) : bh_Qy (f_X9_alike x1 x2 x3 x4) (f_X10_alike x1 x2 x3 x4) := by
  intro G hR
  have hh := bh_nwc hR
  have fT := bh_thr G
  rcases hR.2.2.2.2.1 with h0 | ⟨ln, C, R, E, K, m, pu, bb, z, sv, cl, pr, hN, hC, hM⟩
  · have h02 := bh_sc0 hh h0 fT
    exact bh_qy hR (v := (-2 : Int32)) (by unfold f_X9_alike; rw [c_isSerialN rfl h0 _, ob_s, bh_i0]) (by unfold f_X10_alike; rw [lt_r, m_isSerialN h02 _, ob_s, bh_i0]) (bh_Fr _ _) (bh_thr G)
  have hM2 := bh_scM hN hM fT
  have hV := hN.2.1
  have h45 := bh_N45 hV
  have hbC := hV.1
  have hbR := hV.2.1
  have hbE := hV.2.2.1
  have hbK := hV.2.2.2.1
  have hbm := hN.2.2.1
  have hp := hN.2.2.2.2.2.2.2
  rcases bh_cls (x := x1) (p := fun j => j < 10000) with ⟨s, hs, rfl⟩ | ns
  rotate_left
  · exact bh_qy hR (v := (-2 : Int32)) (by unfold f_X9_alike; rw [c_isSerial0 rfl hN hC ns, ob_s, bh_i0]) (by unfold f_X10_alike; rw [lt_r, m_isSerial0 hN hM2 ns, ob_s, bh_i0]) (bh_Fr _ _) (bh_thr G)
  rcases bh_cls (x := x2) (p := fun j => j < C) with ⟨c, hc, rfl⟩ | nc
  rotate_left
  · exact bh_qy hR (v := (-2 : Int32)) (by unfold f_X9_alike; rw [c_isSerial1 rfl hN hC hs, ob_s, bh_i1, c_isCard0 rfl hN hC nc, ob_s, bh_i0]) (by unfold f_X10_alike; rw [lt_r, m_isSerial1 hN hM2 hs, ob_s, bh_i1, m_isCard0 hN hM2 nc, ob_s, bh_i0]) (bh_Fr _ _) (bh_thr G)
  rcases bh_cls (x := x3) (p := fun j => j < 10000) with ⟨t, ht, rfl⟩ | nt
  rotate_left
  · exact bh_qy hR (v := (-2 : Int32)) (by unfold f_X9_alike; rw [c_isSerial1 rfl hN hC hs, ob_s, bh_i1, c_isCard1 rfl hN hC hc, ob_s, bh_i1, c_isSerial0 rfl hN hC nt, ob_s, bh_i0]) (by unfold f_X10_alike; rw [lt_r, m_isSerial1 hN hM2 hs, ob_s, bh_i1, m_isCard1 hN hM2 hc, ob_s, bh_i1, m_isSerial0 hN hM2 nt, ob_s, bh_i0]) (bh_Fr _ _) (bh_thr G)
  rcases bh_cls (x := x4) (p := fun j => j < C) with ⟨d, hd, rfl⟩ | nd
  rotate_left
  · exact bh_qy hR (v := (-2 : Int32)) (by unfold f_X9_alike; rw [c_isSerial1 rfl hN hC hs, ob_s, bh_i1, c_isCard1 rfl hN hC hc, ob_s, bh_i1, c_isSerial1 rfl hN hC ht, ob_s, bh_i1, c_isCard0 rfl hN hC nd, ob_s, bh_i0]) (by unfold f_X10_alike; rw [lt_r, m_isSerial1 hN hM2 hs, ob_s, bh_i1, m_isCard1 hN hM2 hc, ob_s, bh_i1, m_isSerial1 hN hM2 ht, ob_s, bh_i1, m_isCard0 hN hM2 nd, ob_s, bh_i0]) (bh_Fr _ _) (bh_thr G)
  obtain ⟨G1, e9, p9, F9⟩ := c_deal hh hN hC hs (t := 74) (by decide +kernel) (by omega)
  have FF1 : bh_F bh_SCR G G1 := bh_Fm F9 (fun a q h => h.elim scr_a (fun h => scr_b (by omega)))
  have hC1 := bh_scC hh hN hC FF1
  obtain ⟨G3, e3, p3, F3⟩ := c_deal hh hN hC1 ht (t := 75) (by decide +kernel) (by omega)
  have FF3 : bh_F bh_SCR G G3 := bh_Ft FF1 (bh_Fm F3 (fun a q h => h.elim scr_a (fun h => scr_b (by omega))))
  have hC3 := bh_scC hh hN hC FF3
  have n1 : nw G1 = nw G := F9.2.2.1
  have n3 : nw G3 = nw G := FF3.2.2.1
  have p9' := bh_SC_F p9 F3 (fun q => by omega)
  obtain ⟨xa, ea, qa⟩ := c_numsOf hV hC3.2.1 p9' (by decide +kernel) hc
  obtain ⟨xb, eb, qb⟩ := c_numsOf hV hC3.2.1 p3 (by decide +kernel) hd
  have hM2 := bh_scM hN hM (bh_Ft FF3 (bh_thr _))
  obtain ⟨G4, e4, p4, -, F4⟩ := m_makes hN hM2 hs
  have hM4 := bh_scM hN hM2 (bh_WS (by omega) F4)
  obtain ⟨G5, e5, p5, F5⟩ := m_makes1 hN hM4 ht
  have p4' := bh_SM_F p4 F5 (fun q _ h => by unfold bh_WMk; omega)
  have FF5 : bh_F bh_SCR G3 G5 := bh_Ft (bh_thr _) (bh_Ft (bh_WS (by omega) F4) (bh_WS (by omega) F5))
  obtain ⟨f, ef⟩ : ∃ f : Nat → Nat, f = fun a => if a / 5 < R ∧ a % 5 < K then bh_ST C R E K z s c (a / 5) (a % 5) else 0 := ⟨_, rfl⟩
  obtain ⟨g, eg⟩ : ∃ g : Nat → Nat, g = fun a => if a / 5 < R ∧ a % 5 < K then bh_ST C R E K z t d (a / 5) (a % 5) else 0 := ⟨_, rfl⟩
  have fl : ∀ a, f a ≤ 45 := fun a => by
    rw [ef]
    by_cases hin : a / 5 < R ∧ a % 5 < K
    · show (if _ then _ else _) ≤ 45
      rw [if_pos hin]; exact Nat.le_trans (bh_ST_N hV s hc hin.1 hin.2) h45
    · show (if _ then _ else _) ≤ 45
      rw [if_neg hin]; omega
  have gl : ∀ a, g a ≤ 45 := fun a => by
    rw [eg]
    by_cases hin : a / 5 < R ∧ a % 5 < K
    · show (if _ then _ else _) ≤ 45
      rw [if_pos hin]; exact Nat.le_trans (bh_ST_N hV t hd hin.1 hin.2) h45
    · show (if _ then _ else _) ≤ 45
      rw [if_neg hin]; omega
  have inj : ∀ (s c : Nat) (f : Nat → Nat), c < C → (f = fun a => if a / 5 < R ∧ a % 5 < K then bh_ST C R E K z s c (a / 5) (a % 5) else 0) → ∀ i j, i < 15 → j < 15 → 0 < f i → f i = f j → i = j := fun s c f hc ef i j hi hj h1 h2 => by
    rw [ef] at h1 h2
    have h1 : 0 < (if i / 5 < R ∧ i % 5 < K then bh_ST C R E K z s c (i / 5) (i % 5) else 0) := h1
    have h2 : (if i / 5 < R ∧ i % 5 < K then bh_ST C R E K z s c (i / 5) (i % 5) else 0) = (if j / 5 < R ∧ j % 5 < K then bh_ST C R E K z s c (j / 5) (j % 5) else 0) := h2
    by_cases a1 : i / 5 < R ∧ i % 5 < K
    · by_cases a2 : j / 5 < R ∧ j % 5 < K
      · rw [if_pos a1] at h1 h2
        rw [if_pos a2] at h2
        have := bh_ST_inj hV s hc a1.1 a1.2 hc a2.1 a2.2 h1 h2
        omega
      · rw [if_neg a2] at h2
        omega
    · rw [if_neg a1] at h1
      omega
  have onto : ∀ (s c : Nat) (f : Nat → Nat), (f = fun a => if a / 5 < R ∧ a % 5 < K then bh_ST C R E K z s c (a / 5) (a % 5) else 0) → ∀ v, 0 < v → ((∃ r k, r < R ∧ k < K ∧ bh_ST C R E K z s c r k = v) ↔ ∃ i, i < 15 ∧ f i = v) := fun s c f ef v hv => by
    rw [ef]
    constructor
    · rintro ⟨r, k, hr, hk, e⟩
      refine ⟨5 * r + k, by omega, ?_⟩
      show (if (5 * r + k) / 5 < R ∧ (5 * r + k) % 5 < K then bh_ST C R E K z s c ((5 * r + k) / 5) ((5 * r + k) % 5) else 0) = v
      rw [show (5 * r + k) / 5 = r from by omega, show (5 * r + k) % 5 = k from by omega, if_pos ⟨hr, hk⟩]; exact e
    · rintro ⟨i, hi, e⟩
      have e : (if i / 5 < R ∧ i % 5 < K then bh_ST C R E K z s c (i / 5) (i % 5) else 0) = v := e
      by_cases hin : i / 5 < R ∧ i % 5 < K
      · rw [if_pos hin] at e
        exact ⟨i / 5, i % 5, hin.1, hin.2, e⟩
      · rw [if_neg hin] at e
        omega
  obtain ⟨N, eN⟩ : ∃ N, N = (xa &&& xb).toBitVec.toNat := ⟨_, rfl⟩
  have hx : xa &&& xb = lN N := by rw [eN]; exact bh_lNof _
  have hbit : ∀ v, v < 64 → (N.testBit v = true ↔ 0 < v ∧ (∃ i, i < 15 ∧ f i = v) ∧ ∃ j, j < 15 ∧ g j = v) := fun v hv => by
    rw [eN]
    show bh_tb (xa &&& xb) v = true ↔ _
    rw [bh_tbA, Bool.and_eq_true, qa v hv, qb v hv]
    constructor
    · rintro ⟨⟨p, a⟩, -, b⟩
      exact ⟨p, (onto s c f ef v p).mp a, (onto t d g eg v p).mp b⟩
    · rintro ⟨p, a, b⟩
      exact ⟨⟨p, (onto s c f ef v p).mpr a⟩, p, (onto t d g eg v p).mpr b⟩
  have hNlt : N < 281474976710656 := by
    have : N < 2 ^ 48 := by
      refine Nat.lt_pow_two_of_testBit N fun i hi => ?_
      by_cases h64 : i < 64
      · cases hb : N.testBit i with
        | false => rfl
        | true =>
          obtain ⟨-, ⟨j, -, hj⟩, -⟩ := (hbit i h64).mp hb
          have := fl j
          omega
      · rw [eN]
        exact BitVec.getLsbD_of_ge _ _ (by omega)
    exact this
  have hcnt : bh_sm (fun i => bh_sm (fun j => if 0 < f i ∧ f i = g j then 1 else 0) 15) 15 = bh_sm (fun v => N / 2 ^ v % 2) 48 := by
    rw [bh_pairs (a := fun v => N.testBit v) (L := 48) (fun i _ => by have := fl i; omega) (inj s c f hc ef) (inj t d g hd eg) (fun v hv => hbit v (by omega))]
    refine bh_sm_congr fun v _ => ?_
    show (if N.testBit v = true then 1 else 0) = _
    rw [Nat.testBit_eq_decide_div_mod_eq]
    by_cases h1 : N / 2 ^ v % 2 = 1
    · rw [if_pos (decide_eq_true h1), h1]
    · rw [if_neg (fun q => h1 (of_decide_eq_true q))]
      have := Nat.mod_lt (N / 2 ^ v) (show 0 < 2 by omega)
      omega
  refine bh_qy hR (v := nI (bh_sm (fun v => N / 2 ^ v % 2) 48)) (G1 := G3) (G2 := G5) ?_ ?_ FF3 FF5
  · unfold f_X9_alike
    rw [c_isSerial1 rfl hN hC hs, ob_s, bh_i1, c_isCard1 rfl hN hC hc, ob_s, bh_i1, c_isSerial1 rfl hN hC ht, ob_s, bh_i1, c_isCard1 rfl hN hC hd, ob_s, bh_i1, e9, ov_s, n1, e3, ov_s, n3, ea, ob_s, n3, eb, ob_s, hx, bh_bitCount hNlt, ob_s]
  · unfold f_X10_alike
    rw [lt_r, m_isSerial1 hN hM2 hs, ob_s, bh_i1, m_isCard1 hN hM2 hc, ob_s, bh_i1, m_isSerial1 hN hM2 ht, ob_s, bh_i1, m_isCard1 hN hM2 hd, ob_s, bh_i1, e4, ov_s, e5, ov_s, ← hcnt]
    have v1 : ∀ a, a < 15 → gI G5 206 (15 * c + a) = nI (f a) := fun a ha => by
      have := SM0 p4' (c := c) (r := a / 5) (k := a % 5) (by omega) (by omega) (by omega)
      rw [show 15 * c + 5 * (a / 5) + a % 5 = 15 * c + a from by omega] at this
      rw [this, ef]
      show _ = nI (if _ then _ else _)
      by_cases hin : a / 5 < R ∧ a % 5 < K
      · rw [if_pos ⟨hc, hin⟩, if_pos hin]
      · rw [if_neg (fun q => hin q.2), if_neg hin]
    have v2 : ∀ a, a < 15 → gI G5 206 (45 + 15 * d + a) = nI (g a) := fun a ha => by
      have := p5 d (a / 5) (a % 5) (by omega) (by omega) (by omega)
      rw [show 45 * 1 + 15 * d + 5 * (a / 5) + a % 5 = 45 + 15 * d + a from by omega] at this
      rw [this, eg]
      show _ = nI (if _ then _ else _)
      by_cases hin : a / 5 < R ∧ a % 5 < K
      · rw [if_pos ⟨hd, hin⟩, if_pos hin]
      · rw [if_neg (fun q => hin q.2), if_neg hin]
    refine wl2_up (P := fun o => o = some (nI (bh_sm (fun i => bh_sm (fun j => if 0 < f i ∧ f i = g j then 1 else 0) 15) 15), G5)) (I := fun i y G' => G' = G5 ∧ y = nI (bh_sm (fun i => bh_sm (fun j => if 0 < f i ∧ f i = g j then 1 else 0) 15) i)) (N := 15) (by omega) ?_ (n := FU) (i := 0) (Nat.zero_le _) ⟨rfl, rfl⟩ (by unfold FU; omega)
    rintro kc i _ G' hi' ⟨rfl, rfl⟩ hk
    unfold lp_X10_alike_61
    rw [show (15 : Int32) = nI 15 from rfl]
    by_cases hi : i < 15
    · rw [if_neg (nI_ge hi (by omega))]
      refine wl2_up (P := fun o => o = some (nI (bh_sm (fun i => bh_sm (fun j => if 0 < f i ∧ f i = g j then 1 else 0) 15) 15), G')) (I := fun j y G2 => G2 = G' ∧ y = nI (bh_sm (fun i => bh_sm (fun j => if 0 < f i ∧ f i = g j then 1 else 0) 15) i + bh_sm (fun j => if 0 < f i ∧ f i = g j then 1 else 0) j)) (N := 15) (by omega) ?_ (n := FU) (i := 0) (Nat.zero_le _) ⟨rfl, rfl⟩ (by unfold FU; omega)
      rintro kc2 j _ G2 hj' ⟨rfl, rfl⟩ hk2
      have es : bh_sm (fun j => if 0 < f i ∧ f i = g j then 1 else 0) (j + 1) = bh_sm (fun j => if 0 < f i ∧ f i = g j then 1 else 0) j + if 0 < f i ∧ f i = g j then 1 else 0 := rfl
      unfold lp_X10_alike_71
      rw [show (15 : Int32) = nI 15 from rfl]
      by_cases hj : j < 15
      · have fli := fl i
        have glj := gl j
        rw [if_neg (nI_ge hj (by omega)), pk_mul, nI_add, inb_n (by omega) (by omega), gd_t, nI_clamp (by omega), v1 i hi]
        have zero : ¬ (0 < f i ∧ f i = g j) → k_X10_alike_130 (nI s) (nI c) (nI t) (nI d) (nI i) (nI j) (nI (bh_sm (fun i => bh_sm (fun j => if 0 < f i ∧ f i = g j then 1 else 0) 15) i + bh_sm (fun j => if 0 < f i ∧ f i = g j then 1 else 0) j)) kc kc2 G2 = some (nI (bh_sm (fun i => bh_sm (fun j => if 0 < f i ∧ f i = g j then 1 else 0) 15) 15), G2) := fun hno => by
          rw [if_neg hno] at es
          unfold k_X10_alike_130 k_X10_alike_131
          rw [Int32.add_zero, lt_r, nI_1]
          exact hk2 hj _ _ ⟨rfl, by rw [es]; rfl⟩
        by_cases h0 : f i = 0
        · rw [if_pos (by rw [h0]; decide)]
          exact zero (fun q => by omega)
        · rw [if_neg (nI_nle (by omega) (by omega)), gd_t, show (45 : Int32) = nI 45 from rfl, pk_mul, nI_add, nI_add, inb_n (by omega) (by omega), gd_t, nI_clamp (by omega), v2 j hj]
          by_cases he : f i = g j
          · rw [if_pos ⟨by omega, he⟩] at es
            rw [if_pos (by rw [he])]
            unfold k_X10_alike_131
            rw [nI_1, lt_r, nI_1]
            exact hk2 hj _ _ ⟨rfl, by rw [es]; rfl⟩
          · rw [if_neg (by rw [nI_eq (by omega) (by omega)]; exact he)]
            exact zero (fun q => he q.2)
      · have hj2 : j = 15 := by omega
        subst hj2
        rw [if_pos (nI_le (by omega) (by omega)), nI_1]
        exact hk hi _ _ ⟨rfl, rfl⟩
    · have hi2 : i = 15 := by omega
      subst hi2
      rw [if_pos (nI_le (by omega) (by omega))]
