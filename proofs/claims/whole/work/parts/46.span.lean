/-! ROWS PACKED INTO LONGS, their sums in Gray's order -/
def bc1 (x : Int) : Int := w32 (x - (jand (jush x 1) 1431655765))
def bc2 (x : Int) : Int := w32 ((jand x 858993459) + (jand (jush x 2) 858993459))
def bc3 (x : Int) : Int := jand (w32 (x + (jush x 4))) 252645135
def bc4 (x : Int) : Int := w32 (x + (jush x 8))
def bc5 (x : Int) : Int := jand (w32 (x + (jush x 16))) 63
def bcx (x : Int) : Int := bc5 (bc4 (bc3 (bc2 (bc1 x))))
def pcn : Nat → Nat → Nat
  | 0, _ => 0
  | k + 1, n => n % 2 + pcn k (n / 2)
theorem bc_all : ∀ n : Nat, n < 16 → bcx (n : Int) = (pcn 4 n : Int) := by decide +kernel
theorem bc_pow : ∀ t : Nat, t < 13 → bcx ((2 ^ t - 1 : Nat) : Int) = (t : Int) := by decide +kernel
/-- the lowest set bit's place -/
def tz : Nat → Nat → Nat
  | 0, _ => 0
  | k + 1, n => if n % 2 = 1 then 0 else 1 + tz k (n / 2)
abbrev tzk (k : Nat) : Nat := tz 12 k
set_option maxRecDepth 100000 in
theorem tz_all : ∀ n : Nat, n < 4096 → 1 ≤ n → w32 (jand (n : Int) (w32 (-(n : Int))) - 1) = ((2 ^ tzk n - 1 : Nat) : Int) ∧ 2 ^ tzk n ≤ n := by decide +kernel
def pk (m : Nat) (F : pl) : Nat → Nat
  | 0 => 0
  | k + 1 => pk m F k + F k * 2 ^ (m * k)
section PK
variable {m : Nat} {F G : pl}
theorem pkq_lt (hF : ∀ b, F b < 2 ^ m) : ∀ k, pk m F k < 2 ^ (m * k)
  | 0 => by show 0 < _; exact Nat.two_pow_pos _
  | k + 1 => by
    unfold pk
    have h1 := pkq_lt hF k
    have h2 := hF k
    have h3 : (F k + 1) * 2 ^ (m * k) ≤ 2 ^ m * 2 ^ (m * k) := Nat.mul_le_mul_right _ h2
    rw [Nat.mul_succ, Nat.pow_add, Nat.mul_comm (2 ^ (m * k))]
    rw [Nat.succ_mul] at h3
    omega
theorem pkq_or (hF : ∀ b, F b < 2 ^ m) (k : Nat) : pk m F (k + 1) = pk m F k ||| F k * 2 ^ (m * k) := by
  have := Nat.two_pow_add_eq_or_of_lt (pkq_lt hF k) (F k)
  show pk m F k + F k * 2 ^ (m * k) = _
  rw [Nat.or_comm, Nat.mul_comm (F k), ← this, Nat.add_comm]
theorem mul_pow_x (a b s : Nat) : (a ^^^ b) * 2 ^ s = a * 2 ^ s ^^^ b * 2 ^ s := by
  rw [← Nat.shiftLeft_eq, ← Nat.shiftLeft_eq, ← Nat.shiftLeft_eq, Nat.shiftLeft_xor_distrib]
theorem or_xor_d {a b s : Nat} (ha : a < 2 ^ s) : a ||| b * 2 ^ s = a ^^^ b * 2 ^ s := by
  apply Nat.eq_of_testBit_eq
  intro i
  rw [Nat.testBit_or, Nat.testBit_xor, Nat.mul_comm, Nat.testBit_two_pow_mul]
  by_cases hi : s ≤ i
  · rw [Nat.testBit_lt_two_pow (Nat.lt_of_lt_of_le ha (Nat.pow_le_pow_right (by decide) hi)), Bool.false_or, Bool.false_xor]
  · rw [decide_eq_false hi, Bool.false_and, Bool.or_false, Bool.xor_false]
theorem pkq_xr (hF : ∀ b, F b < 2 ^ m) (k : Nat) : pk m F (k + 1) = pk m F k ^^^ F k * 2 ^ (m * k) := by
  rw [pkq_or hF, or_xor_d (pkq_lt hF k)]
theorem pkq_x (hF : ∀ b, F b < 2 ^ m) (hG : ∀ b, G b < 2 ^ m) : ∀ k, pk m (pA F G) k = pk m F k ^^^ pk m G k
  | 0 => (Nat.xor_self 0).symm
  | k + 1 => by
    rw [pkq_xr (F := pA F G) (fun b => x_lt (hF b) (hG b)), pkq_xr hF, pkq_xr hG, pkq_x hF hG k, xr_4]
    congr 1
    exact mul_pow_x _ _ _
theorem pkq_un (hF : ∀ b, F b < 2 ^ m) : ∀ k j, j < k → pk m F k / 2 ^ (m * j) % 2 ^ m = F j
  | 0, _, h => absurd h (Nat.not_lt_zero _)
  | k + 1, j, h => by
    unfold pk
    by_cases e : j = k
    · subst e
      rw [Nat.add_mul_div_right _ _ (Nat.two_pow_pos _), Nat.div_eq_of_lt (pkq_lt hF j), Nat.zero_add, Nat.mod_eq_of_lt (hF j)]
    · have hj : j < k := by omega
      have e1 : F k * 2 ^ (m * k) = F k * 2 ^ (m * (k - j - 1)) * 2 ^ m * 2 ^ (m * j) := by
        rw [Nat.mul_assoc, Nat.mul_assoc, ← Nat.pow_add, ← Nat.pow_add]
        congr 2
        obtain ⟨z, rfl⟩ : ∃ z, k = j + 1 + z := ⟨k - j - 1, by omega⟩
        rw [show j + 1 + z - j - 1 = z by omega, Nat.mul_add, Nat.mul_add, Nat.mul_one]; omega
      rw [e1, Nat.add_mul_div_right _ _ (Nat.two_pow_pos _), Nat.add_mul_mod_self_right]
      exact pkq_un hF k j hj
theorem pkq_z : ∀ k, (∀ j, j < k → F j = 0) → pk m F k = 0
  | 0, _ => rfl
  | k + 1, h => by unfold pk; rw [pkq_z k (fun j hj => h j (by omega)), h k (by omega)]; simp
theorem pkq_congr : ∀ k, (∀ j, j < k → F j = G j) → pk m F k = pk m G k
  | 0, _ => rfl
  | k + 1, h => by unfold pk; rw [pkq_congr k (fun j hj => h j (by omega)), h k (by omega)]
end PK
/-- a packed row as a long -/
abbrev pL (m : Nat) (F : pl) (k : Nat) : Int := w64 (pk m F k : Int)
theorem u64_pL {m : Nat} {F : pl} {k : Nat} (hF : ∀ b, F b < 2 ^ m) (hk : m * k ≤ 64) : u64 (pL m F k) = pk m F k := by
  unfold pL
  rw [u64_w, u64_n]
  exact Nat.lt_of_lt_of_le (pkq_lt hF k) (Nat.pow_le_pow_right (show 0 < 2 by decide) hk)
theorem pL_x {m : Nat} {F G : pl} {k : Nat} (hF : ∀ b, F b < 2 ^ m) (hG : ∀ b, G b < 2 ^ m) (hk : m * k ≤ 64) : jlxor (pL m F k) (pL m G k) = pL m (pA F G) k := by
  unfold jlxor
  rw [u64_pL hF hk, u64_pL hG hk]
  unfold pL
  rw [pkq_x hF hG]
theorem u32_w64 {z : Nat} (hz : z < 2 ^ 64) : u32 (w32 (w64 (z : Int))) = z % 4294967296 := by
  rw [u32_w]
  have h : w64 (z : Int) = (z : Int) ∨ w64 (z : Int) = (z : Int) + 4294967296 * (-4294967296) := by
    unfold w64
    have hz2 : z < 18446744073709551616 := hz
    omega
  unfold u32
  rcases h with h | h
  · rw [h]; omega
  · rw [h, Int.add_mul_emod_self_left]; omega
theorem s64_n {k : Nat} (h : k < 64) : s64 (k : Int) = k := by unfold s64; omega
/-- Span's rows: m bits a number, n rows of k numbers -/
def SP (ω : jw) (D : jD) (m n k : Nat) (R : Nat → pl) : Prop := D 302 4 = (m : Int) ∧ D 302 3 = (n : Int) ∧ n ≤ 12 ∧ m * k ≤ 64 ∧ 1 ≤ m ∧ m ≤ 8 ∧ k ≤ 16 ∧ ∀ j, j < n → (∀ b, R j b < 2 ^ m) ∧ ω.2.2.2 303 j = pL m (R j) k
section SPAN
variable {ω : jw} {D : jD} {d : Nat}
theorem bitCount_spec {n : Nat} (hn : n < 16) {h : jh} : Vl d 138 0 [some (.inl (n : Int))] [] h = some ((0, some (.inl (pcn 4 n : Int))), h) := by
  rw [← bc_all n hn]
  exact vI_bitCount_0 ..
theorem packed_loop {c L : Nat} (hc : KL0[c]? = some (1, L)) {m k : Nat} (hm : D 302 4 = (m : Int)) (hmk : m * k ≤ 64) (hm8 : m ≤ 8) (hk : k ≤ L) (hk99 : k ≤ 99) {F : pl} (hF : ∀ b, F b < 2 ^ m) (hR : ∀ b, b < k → D c b = (F b : Int)) : ∀ r j : Nat, j + r = k → Vl d 135 5 [some (.inr (.inr (some 302))), some (.inr (.inr (some c))), some (.inl (k : Int)), some (.inr (.inl (pL m F j))), none, some (.inl (j : Int))] [] (hp ω D) = some ((0, some (.inr (.inl (pL m F k)))), hp ω D)
  | 0, j, hj => by
    rw [vS_packed_5, if_neg (by omega), vS_packed_40, show j = k by omega]
  | r + 1, j, hj => by
    have hFj := hF j
    have h256 : 2 ^ m ≤ 256 := Nat.pow_le_pow_right (n := 2) (by decide) hm8
    have hmj : m * j + m ≤ 64 := by
      have : m * (j + 1) ≤ m * k := Nat.mul_le_mul_left _ (by omega)
      rw [Nat.mul_succ] at this; omega
    have e1 : jlshl (F j : Int) ((m * j : Nat) : Int) = w64 ((F j * 2 ^ (m * j) : Nat) : Int) := by
      unfold jlshl
      by_cases hm0 : m = 0
      · subst hm0
        rw [Nat.zero_mul, s64_n (by decide), ← Int.natCast_mul]
      · rw [s64_n (by omega), ← Int.natCast_mul]
    have b1 : F j * 2 ^ (m * j) < 2 ^ 64 := by
      have a1 : F j * 2 ^ (m * j) < 2 ^ m * 2 ^ (m * j) := Nat.mul_lt_mul_of_pos_right hFj (Nat.two_pow_pos _)
      rw [← Nat.pow_add] at a1
      exact Nat.lt_of_lt_of_le a1 (Nat.pow_le_pow_right (by decide) (by omega))
    have e2 : jlor (pL m F j) (w64 ((F j * 2 ^ (m * j) : Nat) : Int)) = pL m F (j + 1) := by
      unfold jlor
      rw [u64_pL hF (by omega), u64_w, u64_n b1, ← pkq_or hF]
    rw [vS_packed_5, if_pos (by omega), vS_packed_11, aLN hc, if_pos (by omega), vS_packed_18, aIA hc, if_pos (by omega), Int.toNat_natCast, hR j (by omega), aGF kS, hD, hm, w32_ml (by omega), e1, e2, w32_s (by omega)]
    exact packed_loop hc hm hmk hm8 hk hk99 hF hR r (j + 1) (by omega)
theorem packed_spec {c L : Nat} (hc : KL0[c]? = some (1, L)) {m k : Nat} (hm : D 302 4 = (m : Int)) (hmk : m * k ≤ 64) (hm8 : m ≤ 8) (hk : k ≤ L) (hk99 : k ≤ 99) {F : pl} (hF : ∀ b, F b < 2 ^ m) (hR : ∀ b, b < k → D c b = (F b : Int)) : Vl d 135 0 [some (.inr (.inr (some 302))), some (.inr (.inr (some c))), some (.inl (k : Int)), none, none, none] [] (hp ω D) = some ((0, some (.inr (.inl (pL m F k)))), hp ω D) := by
  have := packed_loop (ω := ω) (d := d) hc hm hmk hm8 hk hk99 hF hR k 0 (by omega)
  have e0 : pL m F 0 = 0 := by
    unfold pL
    rw [show pk m F 0 = 0 from rfl]; rfl
  rw [e0, show ((0 : Nat) : Int) = 0 from rfl] at this
  rw [vS_packed_0, this]
theorem unpacked_spec {m k j : Nat} (hm : D 302 4 = (m : Int)) (hm1 : 1 ≤ m) (hm8 : m ≤ 8) (hmk : m * k ≤ 64) (hj : j < k) {F : pl} (hF : ∀ b, F b < 2 ^ m) : Vl d 141 0 [some (.inr (.inr (some 302))), some (.inr (.inl (pL m F k))), none, some (.inl (j : Int))] [] (hp ω D) = some ((0, some (.inl (F j : Int))), hp ω D) := by
  have h256 : 2 ^ m ≤ 256 := Nat.pow_le_pow_right (n := 2) (by decide) hm8
  have hmj : m * j + m ≤ 64 := by
    have : m * (j + 1) ≤ m * k := Nat.mul_le_mul_left _ (by omega)
    rw [Nat.mul_succ] at this; omega
  have esh : jshl 1 (m : Int) = ((2 ^ m : Nat) : Int) := by
    have := jshl_n (a := 1) (k := m) (by omega) (by omega)
    rw [Nat.one_mul] at this; exact this
  have e1 : jlush (pL m F k) ((m * j : Nat) : Int) = w64 ((pk m F k / 2 ^ (m * j) : Nat) : Int) := by
    unfold jlush
    rw [u64_pL hF hmk, s64_n (by omega)]
  have e2 : u32 (w32 (w64 ((pk m F k / 2 ^ (m * j) : Nat) : Int))) = pk m F k / 2 ^ (m * j) % 4294967296 := by
    exact u32_w64 (Nat.lt_of_le_of_lt (Nat.div_le_self _ _) (Nat.lt_of_lt_of_le (pkq_lt hF k) (Nat.pow_le_pow_right (show 0 < 2 by decide) hmk)))
  have e3 : pk m F k / 2 ^ (m * j) % 4294967296 % 2 ^ m = F j := by
    rw [show (4294967296 : Nat) = 2 ^ m * 2 ^ (32 - m) by rw [← Nat.pow_add, show m + (32 - m) = 32 by omega], Nat.mod_mul_right_mod]
    exact pkq_un hF k j hj
  have e5 : w32 (((2 ^ m : Nat) : Int) - 1) = ((2 ^ m - 1 : Nat) : Int) := by
    have hp0 : 0 < 2 ^ m := Nat.two_pow_pos m
    generalize 2 ^ m = z at hp0 h256 ⊢
    unfold w32; omega
  have e4 : jand (w32 (w64 ((pk m F k / 2 ^ (m * j) : Nat) : Int))) ((2 ^ m - 1 : Nat) : Int) = (F j : Int) := by
    unfold jand
    rw [e2, u32_n (by omega), Nat.and_two_pow_sub_one_eq_mod, e3]
    exact w32_n (by have := hF j; omega)
  rw [vS_unpacked_0, aGF kS, aGF kS, hD, hm, w32_ml (by omega), e1, esh, e5, e4]
theorem sums_spec {m n k : Nat} {R : Nat → pl} (h : SP ω D m n k R) : Vl d 136 0 [some (.inr (.inr (some 302)))] [] (hp ω D) = some ((0, some (.inl ((2 ^ n : Nat) : Int))), hp ω D) := by
  have h12 : 2 ^ n ≤ 2 ^ 12 := Nat.pow_le_pow_right (by decide) h.2.2.1
  rw [vS_sums_0, aGF kS, hD, h.2.1]
  have := jshl_n (a := 1) (k := n) (by have := h.2.2.1; omega) (by omega)
  rw [Nat.one_mul] at this
  rw [show ((1 : Nat) : Int) = 1 from rfl] at this
  rw [this]
theorem step_spec2 {m n k : Nat} {R : Nat → pl} (h : SP ω D m n k R) {i : Nat} (hi : 1 ≤ i) (hi2 : i < 2 ^ n) : tzk i < n ∧ Vl (d + 1) 137 0 [some (.inr (.inr (some 302))), some (.inl (i : Int)), none] [] (hp ω D) = some ((0, some (.inr (.inl (pL m (R (tzk i)) k)))), hp ω D) := by
  have h12 : 2 ^ n ≤ 2 ^ 12 := Nat.pow_le_pow_right (by decide) h.2.2.1
  obtain ⟨t1, t2⟩ := tz_all i (by omega) hi
  have tn : tzk i < n := by
    by_cases q : tzk i < n
    · exact q
    · have := Nat.pow_le_pow_right (show 0 < 2 by decide) (Nat.le_of_not_lt q)
      omega
  have hn12 := h.2.2.1
  refine ⟨tn, ?_⟩
  have bc : Vl d 138 0 [some (.inl (w32 (jand (i : Int) (w32 (-(i : Int))) - 1)))] [] (hp ω D) = some ((0, some (.inl (tzk i : Int))), hp ω D) := by
    rw [t1, ← bc_pow (tzk i) (by omega)]
    exact vI_bitCount_0 ..
  rw [vS_step_0, bc, aVC, tlS, vS_step_9, if_pos (by omega), vS_step_16, aGF kS, rS_0, aLA kS_0, if_pos (by omega), Int.toNat_natCast, (h.2.2.2.2.2.2.2 _ tn).2, vS_step_26]
end SPAN
