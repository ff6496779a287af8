/-! whole numbers and the machine's words -/
theorem w32_bmod (x : Int) : w32 x = Int.bmod x 4294967296 := by unfold w32 Int.bmod; dsimp only; split <;> omega
theorem w64_bmod (x : Int) : w64 x = Int.bmod x 18446744073709551616 := by unfold w64 Int.bmod; dsimp only; split <;> omega
theorem o32_w (x : Int) : Int32.ofInt (w32 x) = Int32.ofInt x := by
  apply Int32.toInt_inj.mp
  rw [Int32.toInt_ofInt, Int32.toInt_ofInt, w32_bmod]
  exact Int.bmod_bmod
theorem o64_w (x : Int) : Int64.ofInt (w64 x) = Int64.ofInt x := by
  apply Int64.toInt_inj.mp
  rw [Int64.toInt_ofInt, Int64.toInt_ofInt, w64_bmod]
  exact Int.bmod_bmod
def r32 (x : Int) : Prop := -2147483648 ≤ x ∧ x ≤ 2147483647
def r64 (x : Int) : Prop := -9223372036854775808 ≤ x ∧ x ≤ 9223372036854775807
theorem r32_w (x : Int) : r32 (w32 x) := by unfold r32 w32; omega
theorem r64_w (x : Int) : r64 (w64 x) := by unfold r64 w64; omega
theorem o32_i {x : Int} (h : r32 x) : (Int32.ofInt x).toInt = x := by
  rw [Int32.toInt_ofInt]
  unfold r32 at h
  unfold Int.bmod
  simp only [Int32.size]
  split <;> omega
theorem o64_i {x : Int} (h : r64 x) : (Int64.ofInt x).toInt = x := by
  rw [Int64.toInt_ofInt]
  unfold r64 at h
  unfold Int.bmod
  simp only [Int64.size]
  split <;> omega
theorem o32_lt {a b : Int} (ha : r32 a) (hb : r32 b) : Int32.ofInt a < Int32.ofInt b ↔ a < b := by
  rw [Int32.lt_iff_toInt_lt, o32_i ha, o32_i hb]
theorem o32_le {a b : Int} (ha : r32 a) (hb : r32 b) : Int32.ofInt a ≤ Int32.ofInt b ↔ a ≤ b := by
  rw [Int32.le_iff_toInt_le, o32_i ha, o32_i hb]
theorem o32_eq {a b : Int} (ha : r32 a) (hb : r32 b) : Int32.ofInt a = Int32.ofInt b ↔ a = b := by
  rw [← Int32.toInt_inj, o32_i ha, o32_i hb]
theorem o64_lt {a b : Int} (ha : r64 a) (hb : r64 b) : Int64.ofInt a < Int64.ofInt b ↔ a < b := by
  rw [Int64.lt_iff_toInt_lt, o64_i ha, o64_i hb]
theorem o64_eq {a b : Int} (ha : r64 a) (hb : r64 b) : Int64.ofInt a = Int64.ofInt b ↔ a = b := by
  rw [← Int64.toInt_inj, o64_i ha, o64_i hb]
theorem o32_0 : Int32.ofInt 0 = 0 := rfl
theorem r32_0 : r32 0 := by unfold r32; omega
theorem o32_cl {i : Int} {n : Nat} (h0 : 0 ≤ i) (hn : i < n) (hi : r32 i) : (Int32.ofInt i).toNatClampNeg = i.toNat := by
  rw [Int32.toNatClampNeg, o32_i hi]
theorem o32_in {i : Int} {n : Nat} (h0 : 0 ≤ i) (hn : i < n) (hi : r32 i) : vp_in (Int32.ofInt i) n := by
  rw [vp_in_iff, o32_i hi]
  exact ⟨h0, hn⟩
theorem bv32 (x : Int) : (Int32.ofInt x).toBitVec.toNat = u32 x := by
  show (BitVec.ofInt 32 x).toNat = _
  rw [BitVec.toNat_ofInt]; rfl
theorem bv64 (x : Int) : (Int64.ofInt x).toBitVec.toNat = u64 x := by
  show (BitVec.ofInt 64 x).toNat = _
  rw [BitVec.toNat_ofInt]; rfl
theorem u32_lt (x : Int) : u32 x < 4294967296 := by unfold u32; omega
theorem u64_lt (x : Int) : u64 x < 18446744073709551616 := by unfold u64; omega
theorem u32_w (x : Int) : u32 (w32 x) = u32 x := by unfold u32 w32; omega
theorem u64_w (x : Int) : u64 (w64 x) = u64 x := by unfold u64 w64; omega
theorem u32_n {n : Nat} (h : n < 4294967296) : u32 (n : Int) = n := by unfold u32; omega
theorem u64_n {n : Nat} (h : n < 18446744073709551616) : u64 (n : Int) = n := by unfold u64; omega
theorem i32_bv {a b : Int32} (h : a.toBitVec.toNat = b.toBitVec.toNat) : a = b := Int32.toBitVec_inj.mp (BitVec.eq_of_toNat_eq h)
theorem i64_bv {a b : Int64} (h : a.toBitVec.toNat = b.toBitVec.toNat) : a = b := Int64.toBitVec_inj.mp (BitVec.eq_of_toNat_eq h)
theorem o32_and (a b : Int) : Int32.ofInt (jand a b) = Int32.ofInt a &&& Int32.ofInt b := by
  apply i32_bv
  rw [Int32.toBitVec_and, BitVec.toNat_and, bv32, bv32, bv32, jand, u32_w, u32_n (Nat.lt_of_le_of_lt Nat.and_le_left (u32_lt a))]
theorem o32_or (a b : Int) : Int32.ofInt (jor a b) = Int32.ofInt a ||| Int32.ofInt b := by
  apply i32_bv
  rw [Int32.toBitVec_or, BitVec.toNat_or, bv32, bv32, bv32, jor, u32_w, u32_n (Nat.or_lt_two_pow (n := 32) (u32_lt a) (u32_lt b))]
theorem o32_xor (a b : Int) : Int32.ofInt (jxor a b) = Int32.ofInt a ^^^ Int32.ofInt b := by
  apply i32_bv
  rw [Int32.toBitVec_xor, BitVec.toNat_xor, bv32, bv32, bv32, jxor, u32_w, u32_n (Nat.xor_lt_two_pow (n := 32) (u32_lt a) (u32_lt b))]
theorem o64_or (a b : Int) : Int64.ofInt (jlor a b) = Int64.ofInt a ||| Int64.ofInt b := by
  apply i64_bv
  rw [Int64.toBitVec_or, BitVec.toNat_or, bv64, bv64, bv64, jlor, u64_w, u64_n (Nat.or_lt_two_pow (n := 64) (u64_lt a) (u64_lt b))]
theorem o64_xor (a b : Int) : Int64.ofInt (jlxor a b) = Int64.ofInt a ^^^ Int64.ofInt b := by
  apply i64_bv
  rw [Int64.toBitVec_xor, BitVec.toNat_xor, bv64, bv64, bv64, jlxor, u64_w, u64_n (Nat.xor_lt_two_pow (n := 64) (u64_lt a) (u64_lt b))]
theorem o32_add (a b : Int) : Int32.ofInt (w32 (a + b)) = Int32.ofInt a + Int32.ofInt b := by rw [o32_w, Int32.ofInt_add]
theorem o32_sub (a b : Int) : Int32.ofInt (w32 (a - b)) = Int32.ofInt a - Int32.ofInt b := by rw [o32_w, Int32.ofInt_sub]
theorem o32_mul (a b : Int) : Int32.ofInt (w32 (a * b)) = Int32.ofInt a * Int32.ofInt b := by rw [o32_w, Int32.ofInt_mul]
theorem o32_neg (a : Int) : Int32.ofInt (w32 (-a)) = -Int32.ofInt a := by rw [o32_w, Int32.ofInt_neg]
theorem o64_add (a b : Int) : Int64.ofInt (w64 (a + b)) = Int64.ofInt a + Int64.ofInt b := by rw [o64_w, Int64.ofInt_add]
theorem o64_sub (a b : Int) : Int64.ofInt (w64 (a - b)) = Int64.ofInt a - Int64.ofInt b := by rw [o64_w, Int64.ofInt_sub]
theorem o64_mul (a b : Int) : Int64.ofInt (w64 (a * b)) = Int64.ofInt a * Int64.ofInt b := by rw [o64_w, Int64.ofInt_mul]
theorem o32_div {a b : Int} (ha : r32 a) (hb : r32 b) : Int32.ofInt (w32 (a.tdiv b)) = Int32.ofInt a / Int32.ofInt b := by
  rw [o32_w]
  apply Int32.toInt_inj.mp
  rw [Int32.toInt_div, Int32.toInt_ofInt, o32_i ha, o32_i hb]
theorem o32_rem {a b : Int} (ha : r32 a) (hb : r32 b) : Int32.ofInt (a.tmod b) = Int32.ofInt a - Int32.ofInt a / Int32.ofInt b * Int32.ofInt b := by
  rw [← o32_div ha hb, ← o32_mul, ← o32_sub, o32_w, Int32.ofInt_sub, o32_w, Int32.ofInt_mul, o32_w, ← Int32.ofInt_mul, ← Int32.ofInt_sub]
  congr 1
  rw [Int.tmod_def, Int.mul_comm]
theorem r32_tmod {a b : Int} (ha : r32 a) : r32 (a.tmod b) := by
  unfold r32 at *
  have h1 : (a.tmod b).natAbs ≤ a.natAbs := by rw [Int.natAbs_tmod]; exact Nat.mod_le _ _
  by_cases h : 0 ≤ a
  · have := Int.tmod_nonneg b h
    omega
  · have h2 : (a.tmod b) = -((-a).tmod b) := by rw [Int.neg_tmod]; omega
    have := Int.tmod_nonneg b (show 0 ≤ -a by omega)
    omega
theorem s32_and (s : Int) : (Int32.ofInt s &&& 31).toBitVec.toNat = s32 s := by
  rw [Int32.toBitVec_and, BitVec.toNat_and, bv32]
  show u32 s &&& 31 = _
  rw [show (31 : Nat) = 2 ^ 5 - 1 from rfl, Nat.and_two_pow_sub_one_eq_mod]
  unfold u32 s32
  omega
theorem s32_lt (s : Int) : s32 s < 32 := by unfold s32; omega
theorem s64_lt (s : Int) : s64 s < 64 := by unfold s64; omega
theorem sm_k : ∀ k : Fin 32, ((nI k.val).toBitVec.smod 32).toNat = k.val := by decide +kernel
theorem sm6_k : ∀ k : Fin 64, ((lN k.val).toBitVec.smod 64).toNat = k.val := by decide +kernel
theorem nI_s32 (s : Int) : (Int32.ofInt s &&& 31) = nI (s32 s) := i32_bv (by rw [s32_and, pk_tn (Nat.lt_of_lt_of_le (s32_lt s) (by omega))])
theorem s32_sm (s : Int) : ((Int32.ofInt s &&& 31).toBitVec.smod 32).toNat = s32 s := by
  rw [nI_s32]; exact sm_k ⟨s32 s, s32_lt s⟩
theorem emod_mul_nat (a : Int) (q M : Nat) : (a * (q : Int) % (M : Int)).toNat = (a % (M : Int)).toNat * q % M := by
  by_cases hM : M = 0
  · subst hM
    simp only [Int.natCast_zero, Int.emod_zero, Nat.mod_zero]
    rcases Int.le_total 0 a with h | h
    · obtain ⟨z, rfl⟩ := Int.eq_ofNat_of_zero_le h
      rw [← Int.natCast_mul]; rfl
    · rw [Int.toNat_of_nonpos h, Int.toNat_of_nonpos (Int.mul_nonpos_of_nonpos_of_nonneg h (Int.natCast_nonneg q)), Nat.zero_mul]
  · have h2 : 0 ≤ a % (M : Int) := Int.emod_nonneg _ (by omega)
    have h1 : a * (q : Int) % (M : Int) = (a % (M : Int)) * (q : Int) % (M : Int) := by
      rw [Int.mul_emod a q M, Int.mul_emod (a % (M : Int)) q M, Int.emod_emod]
    rw [h1]
    obtain ⟨z, hz⟩ := Int.eq_ofNat_of_zero_le h2
    rw [hz, Int.toNat_natCast, ← Int.natCast_mul, ← Int.natCast_emod, Int.toNat_natCast]
theorem o32_shl (a s : Int) : Int32.ofInt (jshl a s) = Int32.ofInt a <<< (Int32.ofInt s &&& 31) := by
  apply i32_bv
  rw [pk_shl _ _ _ (s32_sm s), bv32, bv32, jshl, u32_w]
  exact emod_mul_nat a (2 ^ s32 s) 4294967296
theorem r32_shr {a : Int} (ha : r32 a) (s : Int) : r32 (jshr a s) := by
  unfold jshr r32 at *
  have hp : (1 : Int) ≤ ((2 ^ s32 s : Nat) : Int) := by
    have := Nat.one_le_two_pow (n := s32 s)
    omega
  generalize ((2 ^ s32 s : Nat) : Int) = q at hp
  constructor
  · have h1 : q * (-2147483648) ≤ a := by
      have : q * 2147483648 ≥ 1 * 2147483648 := Int.mul_le_mul_of_nonneg_right hp (by omega)
      rw [Int.mul_neg]; omega
    exact (Int.le_ediv_iff_mul_le (by omega)).mpr (by rw [Int.mul_comm]; exact h1)
  · rcases Int.le_total 0 a with h0 | h0
    · exact Int.le_trans (Int.ediv_le_self q h0) ha.2
    · have := Int.ediv_le_ediv (show 0 < q by omega) h0
      rw [Int.zero_ediv] at this
      omega
theorem o32_shr {a : Int} (ha : r32 a) (s : Int) : Int32.ofInt (jshr a s) = Int32.ofInt a >>> (Int32.ofInt s &&& 31) := by
  apply Int32.toInt_inj.mp
  rw [pk_shr _ _ _ (s32_sm s), o32_i ha, o32_i (r32_shr ha s), jshr, Int.shiftRight_eq_div_pow]
theorem us_k : ∀ k : Fin 32, (((nI k.val).toUInt32 &&& Int32.toUInt32 31).toBitVec % 32).toNat = k.val := by decide +kernel
theorem um_k (s : Int) : (((Int32.ofInt s).toUInt32 &&& Int32.toUInt32 31).toBitVec % 32).toNat = s32 s := by
  have h := us_k ⟨s32 s, s32_lt s⟩
  have e : (Int32.ofInt s).toUInt32 &&& Int32.toUInt32 31 = (nI (s32 s)).toUInt32 &&& Int32.toUInt32 31 := by
    have h2 : (Int32.ofInt s &&& 31).toUInt32 = (nI (s32 s) &&& 31).toUInt32 := by
      rw [nI_s32]
      congr 1
      exact i32_bv (by
        rw [Int32.toBitVec_and, BitVec.toNat_and, pk_tn (Nat.lt_of_lt_of_le (s32_lt s) (by omega))]
        show _ = s32 s &&& 31
        rw [show (31 : Nat) = 2 ^ 5 - 1 from rfl, Nat.and_two_pow_sub_one_eq_mod]
        have := s32_lt s
        omega)
    exact h2
  rw [e]; exact h
theorem o32_ush (a s : Int) : ((Int32.ofInt a).toUInt32 >>> ((Int32.ofInt s).toUInt32 &&& Int32.toUInt32 31)).toInt32 = Int32.ofInt (jush a s) := by
  apply i32_bv
  rw [pk_ushr _ _ _ (um_k s), bv32, bv32, jush, u32_w, u32_n]
  exact Nat.lt_of_le_of_lt (Nat.div_le_self _ _) (u32_lt a)
theorem i2l_o {a : Int} (ha : r32 a) : (Int32.ofInt a).toInt64 = Int64.ofInt a := by
  apply Int64.toInt_inj.mp
  rw [Int32.toInt_toInt64, o32_i ha, o64_i]
  unfold r32 r64 at *; omega
theorem l2i_o {a : Int} (ha : r64 a) : (Int64.ofInt a).toInt32 = Int32.ofInt (w32 a) := by
  rw [o32_w]
  apply Int32.toInt_inj.mp
  rw [Int64.toInt_toInt32, o64_i ha, Int32.toInt_ofInt]
theorem i2c_o (a : Int) : ((Int32.ofInt a).toUInt32 % 65536).toInt32 = Int32.ofInt (a % 65536) := by
  rw [pk_char, bv32]
  have : a % 65536 = ((u32 a % 65536 : Nat) : Int) := by unfold u32; omega
  rw [this]; rfl
theorem s64_i {s : Int} (hs : r32 s) : ((Int32.ofInt s).toInt64 &&& 63) = lN (s64 s) := by
  rw [i2l_o hs]
  apply i64_bv
  rw [Int64.toBitVec_and, BitVec.toNat_and, bv64]
  show u64 s &&& 63 = _
  rw [show (63 : Nat) = 2 ^ 6 - 1 from rfl, Nat.and_two_pow_sub_one_eq_mod]
  have h : u64 s % 2 ^ 6 = s64 s := by unfold u64 s64; omega
  rw [h]
  show _ = (BitVec.ofNat 64 (s64 s)).toNat
  rw [BitVec.toNat_ofNat]
  have := s64_lt s
  omega
theorem o64_shl (a : Int) {s : Int} (hs : r32 s) : Int64.ofInt a <<< ((Int32.ofInt s).toInt64 &&& 63) = Int64.ofInt (jlshl a s) := by
  rw [s64_i hs]
  apply i64_bv
  rw [bv64, jlshl, u64_w]
  show (Int64.ofInt a <<< lN (s64 s)).toBitVec.toNat = _
  have e : (Int64.ofInt a <<< lN (s64 s)).toBitVec = (Int64.ofInt a).toBitVec <<< ((lN (s64 s)).toBitVec.smod 64) := rfl
  rw [e]
  have h2 : ((lN (s64 s)).toBitVec.smod 64).toNat = s64 s := sm6_k ⟨s64 s, s64_lt s⟩
  rw [BitVec.shiftLeft_eq', h2, BitVec.toNat_shiftLeft, bv64, Nat.shiftLeft_eq]
  exact (emod_mul_nat a (2 ^ s64 s) 18446744073709551616).symm
theorem us6_k : ∀ k : Fin 64, ((lN k.val).toUInt64 &&& Int64.toUInt64 63).toNat % 64 = k.val := by decide +kernel
theorem o64_ush (a : Int) {s : Int} (hs : r32 s) : ((Int64.ofInt a).toUInt64 >>> ((Int32.ofInt s).toInt64.toUInt64 &&& Int64.toUInt64 63)).toInt64 = Int64.ofInt (jlush a s) := by
  have h3 : ((Int32.ofInt s).toInt64.toUInt64 &&& Int64.toUInt64 63).toNat % 64 = s64 s := by
    have h4 : ((Int32.ofInt s).toInt64 &&& 63).toUInt64 = (lN (s64 s)).toUInt64 := by rw [s64_i hs]
    have h5 : (Int32.ofInt s).toInt64.toUInt64 &&& Int64.toUInt64 63 = (lN (s64 s)).toUInt64 := h4
    rw [h5]
    show (BitVec.ofNat 64 (s64 s)).toNat % 64 = _
    rw [BitVec.toNat_ofNat]
    have := s64_lt s
    omega
  apply i64_bv
  rw [bv64, jlush, u64_w, u64_n (Nat.lt_of_le_of_lt (Nat.div_le_self _ _) (u64_lt a))]
  show ((Int64.ofInt a).toUInt64 >>> ((Int32.ofInt s).toInt64.toUInt64 &&& Int64.toUInt64 63)).toNat = _
  rw [UInt64.toNat_shiftRight, h3, Nat.shiftRight_eq_div_pow]
  rw [← bv64 a]; rfl
theorem o64_cmp {a b : Int} (ha : r64 a) (hb : r64 b) : lg_cmp (Int64.ofInt a) (Int64.ofInt b) = Int32.ofInt (jlcmp a b) := by
  unfold lg_cmp jlcmp
  simp only [o64_lt ha hb, o64_lt hb ha, o64_eq ha hb]
  by_cases h1 : a < b
  · rw [if_pos h1]
    simp [h1, show ¬ b < a by omega, show ¬ a = b by omega]
  · rw [if_neg h1]
    by_cases h2 : a = b
    · subst h2; simp
    · simp [h1, h2, show b < a by omega]
