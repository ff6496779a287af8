/-! THE NUMBERS: products of bit rows modulo a bit row -/
def gst (m p x : Nat) : Nat := 2 * x ^^^ (if x.testBit (m - 1) then p else 0)
def gmn (m p : Nat) : Nat → Nat → Nat → Nat
  | 0, _, _ => 0
  | n + 1, a, b => (if b % 2 = 1 then a else 0) ^^^ gmn m p n (gst m p a) (b / 2)
def gm (m p a b : Nat) : Nat := gmn m p 8 a b
theorem xr_c (a b : Nat) : a ^^^ b = b ^^^ a := Nat.xor_comm a b
theorem xr_a (a b c : Nat) : a ^^^ b ^^^ c = a ^^^ (b ^^^ c) := Nat.xor_assoc a b c
theorem xr_l (a b c : Nat) : a ^^^ (b ^^^ c) = b ^^^ (a ^^^ c) := by rw [← xr_a, xr_c a b, xr_a]
theorem xr_k (a b : Nat) : a ^^^ (a ^^^ b) = b := by rw [← xr_a, Nat.xor_self, Nat.zero_xor]
theorem xr_4 (a b c d : Nat) : (a ^^^ b) ^^^ (c ^^^ d) = (a ^^^ c) ^^^ (b ^^^ d) := by rw [xr_a, xr_a, xr_l b c d]
theorem xr_z {a b : Nat} (h : a ^^^ b = 0) : a = b := by
  have h1 := xr_k a b
  rw [h, Nat.xor_zero] at h1; exact h1
theorem xr_i {a b c : Nat} (h : a ^^^ b = a ^^^ c) : b = c := by rw [← xr_k a b, h, xr_k]
theorem xr_m2 (a b : Nat) : (a ^^^ b) % 2 = (a + b) % 2 := by
  have h := Nat.testBit_xor a b 0
  rw [Nat.testBit_zero, Nat.testBit_zero, Nat.testBit_zero] at h
  rcases Nat.mod_two_eq_zero_or_one a with h1 | h1 <;> rcases Nat.mod_two_eq_zero_or_one b with h2 | h2 <;> rcases Nat.mod_two_eq_zero_or_one (a ^^^ b) with h3 | h3 <;> rw [h1, h2, h3] at h <;> first | (exact absurd h (by decide)) | omega
theorem xr_d (a b : Nat) : 2 * (a ^^^ b) = 2 * a ^^^ 2 * b := by
  apply Nat.eq_of_testBit_eq
  intro i
  cases i with
  | zero =>
    rw [Nat.testBit_zero, Nat.testBit_zero]
    have h1 := xr_m2 (2 * a) (2 * b)
    congr 2
    omega
  | succ i => simp only [Nat.testBit_succ, Nat.xor_div_two, Nat.mul_div_cancel_left _ (Nat.zero_lt_two)]
theorem gst_x (m p a b : Nat) : gst m p (a ^^^ b) = gst m p a ^^^ gst m p b := by
  unfold gst
  rw [xr_d, Nat.testBit_xor]
  cases a.testBit (m - 1) <;> cases b.testBit (m - 1) <;> simp only [Bool.xor_false, Bool.xor_true, Bool.not_false, Bool.not_true, Bool.false_eq_true, if_true, if_false, Nat.xor_zero]
  · rw [xr_a]
  · rw [xr_a, xr_a, xr_c p]
  · rw [xr_4, Nat.xor_self, Nat.xor_zero]
theorem gst_0 (m p : Nat) : gst m p 0 = 0 := by unfold gst; simp
theorem gmn_0l (m p : Nat) : ∀ n b, gmn m p n 0 b = 0
  | 0, _ => rfl
  | n + 1, b => by unfold gmn; rw [gst_0, gmn_0l m p n]; split <;> rfl
theorem gmn_0r (m p : Nat) : ∀ n a, gmn m p n a 0 = 0
  | 0, _ => rfl
  | n + 1, a => by unfold gmn; rw [show 0 / 2 = 0 from rfl, gmn_0r m p n, if_neg (by decide)]; rfl
theorem gmn_xl (m p : Nat) : ∀ n a a' b, gmn m p n (a ^^^ a') b = gmn m p n a b ^^^ gmn m p n a' b
  | 0, _, _, _ => (Nat.xor_self 0).symm
  | n + 1, a, a', b => by
    unfold gmn
    rw [gst_x, gmn_xl m p n, xr_4]
    congr 1
    split <;> rfl
theorem gmn_xr (m p : Nat) : ∀ n a b b', gmn m p n a (b ^^^ b') = gmn m p n a b ^^^ gmn m p n a b'
  | 0, _, _, _ => (Nat.xor_self 0).symm
  | n + 1, a, b, b' => by
    unfold gmn
    rw [Nat.xor_div_two, gmn_xr m p n, xr_4, xr_m2]
    congr 1
    rcases Nat.mod_two_eq_zero_or_one b with h | h <;> rcases Nat.mod_two_eq_zero_or_one b' with h' | h'
    · rw [if_neg (by omega), if_neg (by omega), if_neg (by omega)]; rfl
    · rw [if_pos (by omega), if_neg (by omega), if_pos (by omega), Nat.zero_xor]
    · rw [if_pos (by omega), if_pos (by omega), if_neg (by omega), Nat.xor_zero]
    · rw [if_neg (by omega), if_pos (by omega), if_pos (by omega), Nat.xor_self]
theorem gmn_st (m p : Nat) : ∀ n a b, gmn m p n (gst m p a) b = gst m p (gmn m p n a b)
  | 0, _, _ => (gst_0 m p).symm
  | n + 1, a, b => by
    unfold gmn
    rw [gst_x, gmn_st m p n]
    congr 1
    split
    · rfl
    · exact (gst_0 m p).symm
theorem gm_0l (m p b : Nat) : gm m p 0 b = 0 := gmn_0l m p 8 b
theorem gm_0r (m p a : Nat) : gm m p a 0 = 0 := gmn_0r m p 8 a
theorem gm_xl (m p a a' b : Nat) : gm m p (a ^^^ a') b = gm m p a b ^^^ gm m p a' b := gmn_xl m p 8 a a' b
theorem gm_xr (m p a b b' : Nat) : gm m p a (b ^^^ b') = gm m p a b ^^^ gm m p a b' := gmn_xr m p 8 a b b'
theorem gm_st (m p a b : Nat) : gm m p (gst m p a) b = gst m p (gm m p a b) := gmn_st m p 8 a b
theorem gm_1r (m p a : Nat) : gm m p a 1 = a := by
  unfold gm gmn
  rw [show 1 / 2 = 0 from rfl, gmn_0r, if_pos rfl, Nat.xor_zero]
def gsi (m p : Nat) : Nat → Nat → Nat
  | 0, a => a
  | k + 1, a => gsi m p k (gst m p a)
theorem gmn_2 (m p : Nat) : ∀ i n a, i < n → gmn m p n a (2 ^ i) = gsi m p i a
  | _, 0, _, h => absurd h (Nat.not_lt_zero _)
  | 0, n + 1, a, _ => by
    unfold gmn gsi
    rw [show (2 ^ 0) / 2 = 0 from rfl, gmn_0r, if_pos rfl, Nat.xor_zero]
  | i + 1, n + 1, a, h => by
    unfold gmn gsi
    have h1 : 2 ^ (i + 1) / 2 = 2 ^ i := by rw [Nat.pow_succ]; omega
    have h2 : 2 ^ (i + 1) % 2 = 0 := by rw [Nat.pow_succ]; omega
    rw [h1, gmn_2 m p i n _ (Nat.lt_of_succ_lt_succ h), if_neg (by omega), Nat.zero_xor]
theorem gsi_m (m p : Nat) : ∀ i a b, gm m p (gsi m p i a) b = gsi m p i (gm m p a b)
  | 0, _, _ => rfl
  | i + 1, a, b => by unfold gsi; rw [gsi_m m p i, gm_st]
/-- a modulus of m + 1 bits -/
def gok (m p : Nat) : Prop := 1 ≤ m ∧ m ≤ 8 ∧ 2 ^ m ≤ p ∧ p < 2 ^ (m + 1)
set_option maxRecDepth 100000 in
theorem x_top : ∀ k, k < 9 → ∀ a, a < 512 → 2 ^ k ≤ a → a < 2 ^ (k + 1) → a ^^^ 2 ^ k < 2 ^ k := by decide +kernel
theorem xlin_k {n : Nat} (hn : n ≤ 9) (f g : Nat → Nat) (hf : ∀ a b, a < 2 ^ n → b < 2 ^ n → f (a ^^^ b) = f a ^^^ f b) (hg : ∀ a b, a < 2 ^ n → b < 2 ^ n → g (a ^^^ b) = g a ^^^ g b) (h : ∀ i, i < n → f (2 ^ i) = g (2 ^ i)) : ∀ k, k ≤ n → ∀ a, a < 2 ^ k → f a = g a
  | 0, _, a, ha => by
    have h2 : 0 < 2 ^ n := Nat.two_pow_pos n
    have ha0 : a = 0 := by simpa using ha
    subst ha0
    have e1 := hf 0 0 h2 h2
    have e2 := hg 0 0 h2 h2
    rw [Nat.xor_self, Nat.xor_self] at e1 e2
    rw [e1, e2]
  | k + 1, hk, a, ha => by
    by_cases hq : a < 2 ^ k
    · exact xlin_k hn f g hf hg h k (by omega) a hq
    · have hlt : 2 ^ k < 2 ^ n := Nat.pow_lt_pow_right (by decide) (by omega)
      have h9 : (2 : Nat) ^ n ≤ 2 ^ 9 := Nat.pow_le_pow_right (by decide) hn
      have h8 : (2 : Nat) ^ (k + 1) ≤ 2 ^ n := Nat.pow_le_pow_right (by decide) hk
      have hr := x_top k (by omega) a (Nat.lt_of_lt_of_le ha (Nat.le_trans h8 h9)) (Nat.le_of_not_lt hq) ha
      have e : a = (a ^^^ 2 ^ k) ^^^ 2 ^ k := by rw [xr_a, Nat.xor_self, Nat.xor_zero]
      have hrn : a ^^^ 2 ^ k < 2 ^ n := Nat.lt_trans hr hlt
      rw [e, hf _ _ hrn hlt, hg _ _ hrn hlt, xlin_k hn f g hf hg h k (by omega) _ hr, h k (by omega)]
theorem xlin {n : Nat} (hn : n ≤ 9) (f g : Nat → Nat) (hf : ∀ a b, a < 2 ^ n → b < 2 ^ n → f (a ^^^ b) = f a ^^^ f b) (hg : ∀ a b, a < 2 ^ n → b < 2 ^ n → g (a ^^^ b) = g a ^^^ g b) (h : ∀ i, i < n → f (2 ^ i) = g (2 ^ i)) {a : Nat} (ha : a < 2 ^ n) : f a = g a := xlin_k hn f g hf hg h n (Nat.le_refl _) a ha
theorem x_lt {a b n : Nat} (ha : a < 2 ^ n) (hb : b < 2 ^ n) : a ^^^ b < 2 ^ n := Nat.xor_lt_two_pow ha hb
section GOK
variable {m p : Nat}
theorem gst_lt (h : gok m p) {a : Nat} (ha : a < 2 ^ m) : gst m p a < 2 ^ m := by
  obtain ⟨h1, h2, h3, h4⟩ := h
  obtain ⟨m, rfl⟩ : ∃ k, m = k + 1 := ⟨m - 1, by omega⟩
  unfold gst
  rw [Nat.add_sub_cancel]
  by_cases hq : a < 2 ^ m
  · rw [Nat.testBit_lt_two_pow hq, if_neg (by decide), Nat.xor_zero, Nat.pow_succ]; omega
  · have ht : a.testBit m = true := Nat.testBit_of_two_pow_le_and_two_pow_add_one_gt (Nat.le_of_not_lt hq) ha
    rw [ht, if_pos rfl]
    have e1 : 2 * a ^^^ p < 2 ^ (m + 1 + 1) := x_lt (by rw [Nat.pow_succ]; omega) h4
    have t1 : (2 * a).testBit (m + 1) = true := by rw [Nat.testBit_succ, Nat.mul_div_cancel_left _ Nat.zero_lt_two, ht]
    have t2 : p.testBit (m + 1) = true := Nat.testBit_of_two_pow_le_and_two_pow_add_one_gt h3 h4
    apply Nat.lt_pow_two_of_testBit
    intro i hi
    by_cases hi2 : i = m + 1
    · subst hi2; rw [Nat.testBit_xor, t1, t2]; rfl
    · exact Nat.testBit_lt_two_pow (Nat.lt_of_lt_of_le e1 (Nat.pow_le_pow_right (by decide) (by omega)))
theorem gmn_lt (h : gok m p) : ∀ n a b, a < 2 ^ m → gmn m p n a b < 2 ^ m
  | 0, _, _, _ => Nat.two_pow_pos m
  | n + 1, a, b, ha => by
    unfold gmn
    refine x_lt ?_ (gmn_lt h n _ _ (gst_lt h ha))
    split
    · exact ha
    · exact Nat.two_pow_pos m
theorem gm_lt (h : gok m p) {a : Nat} (ha : a < 2 ^ m) (b : Nat) : gm m p a b < 2 ^ m := gmn_lt h 8 a b ha
theorem gsi_1 (h : gok m p) : ∀ i j, j + i < m → gsi m p i (2 ^ j) = 2 ^ (j + i)
  | 0, _, _ => rfl
  | i + 1, j, hj => by
    unfold gsi
    have e : gst m p (2 ^ j) = 2 ^ (j + 1) := by
      unfold gst
      rw [Nat.testBit_two_pow_of_ne (by omega), if_neg (by decide), Nat.xor_zero, Nat.pow_succ, Nat.mul_comm]
    rw [e, gsi_1 h i (j + 1) (by omega)]
    congr 1; omega
theorem gm_1l (h : gok m p) {b : Nat} (hb : b < 2 ^ m) : gm m p 1 b = b := by
  have h1 := h.1; have h2 := h.2.1
  refine xlin (by omega) (fun b => gm m p 1 b) (fun b => b) (fun a b _ _ => gm_xr m p 1 a b) (fun _ _ _ _ => rfl) ?_ hb
  intro i hi
  show gm m p 1 (2 ^ i) = 2 ^ i
  unfold gm
  rw [gmn_2 m p i 8 1 (by omega)]
  have := gsi_1 h i 0 (by omega)
  rw [Nat.zero_add] at this
  exact this
theorem gm_2l (h : gok m p) {b : Nat} (hb : b < 2 ^ m) {i : Nat} (hi : i < m) : gm m p (2 ^ i) b = gsi m p i b := by
  have e := gsi_1 h i 0 (by omega)
  rw [Nat.zero_add] at e
  rw [← e, gsi_m, show (2 : Nat) ^ 0 = 1 from rfl, gm_1l h hb]
theorem gm_c (h : gok m p) {a b : Nat} (ha : a < 2 ^ m) (hb : b < 2 ^ m) : gm m p a b = gm m p b a := by
  have h2 := h.2.1
  refine xlin (by omega) (fun a => gm m p a b) (fun a => gm m p b a) (fun a a' _ _ => gm_xl m p a a' b) (fun a a' _ _ => gm_xr m p b a a') ?_ ha
  intro i hi
  show gm m p (2 ^ i) b = gm m p b (2 ^ i)
  rw [gm_2l h hb hi]
  unfold gm
  rw [gmn_2 m p i 8 b (by omega)]
theorem gm_a (h : gok m p) {a b c : Nat} (ha : a < 2 ^ m) (hb : b < 2 ^ m) : gm m p (gm m p a b) c = gm m p a (gm m p b c) := by
  have h2 := h.2.1
  refine xlin (by omega) (fun a => gm m p (gm m p a b) c) (fun a => gm m p a (gm m p b c)) (fun a a' _ _ => ?_) (fun a a' _ _ => gm_xl m p a a' _) ?_ ha
  · show gm m p (gm m p (a ^^^ a') b) c = _
    rw [gm_xl, gm_xl]
  · intro i hi
    show gm m p (gm m p (2 ^ i) b) c = gm m p (2 ^ i) (gm m p b c)
    rw [gm_2l h hb hi, gm_2l h (gm_lt h hb c) hi, gsi_m]
theorem gm_lc (h : gok m p) {a b c : Nat} (ha : a < 2 ^ m) (hb : b < 2 ^ m) : gm m p a (gm m p b c) = gm m p b (gm m p a c) := by
  rw [← gm_a h ha hb, gm_c h ha hb, gm_a h hb ha]
end GOK
/-- powers, and a check that they are all numbers but 0 -/
def gpw (m p g : Nat) : Nat → Nat
  | 0 => 1
  | k + 1 => gm m p (gpw m p g k) g
def gck (m p g : Nat) : Nat → Nat → Nat → Bool
  | 0, r, s => r == 1 && s == 2 ^ (2 ^ m) - 2
  | n + 1, r, s => (s == 0 || r != 1) && gck m p g n (gm m p r g) (s ||| 2 ^ r)
/-- whether the powers of a number don't come back too early -/
def gps (m p g : Nat) : Nat → Nat → Bool → Bool
  | 0, _, _ => true
  | n + 1, r, f => (f || r != 1) && gps m p g n (gm m p r g) false
/-- the rest of a bit row by another -/
def bhi (d : Nat) : Nat → Nat
  | 0 => 0
  | k + 1 => if d >>> k ≠ 0 then k else bhi d k
def brs (d h : Nat) : Nat → Nat → Nat
  | 0, r => r
  | k + 1, r => brs d h k (if (r >>> (k + h)) % 2 = 1 then r ^^^ (d <<< k) else r)
/-- rest of p (9 bits) by d -/
def brest (p d : Nat) : Nat := brs d (bhi d 9) (9 - bhi d 9) p
def girr (m p : Nat) : Bool := (List.range (2 ^ m - 2)).all fun k => brest p (k + 2) != 0
def gfi (m p : Nat) : Nat → Nat → Bool
  | 0, _ => false
  | n + 1, a => if gps m p a (2 ^ m - 1) 1 true then gck m p a (2 ^ m - 1) 1 0 else gfi m p n (a + 1)
set_option maxRecDepth 100000 in
theorem g_all : ((List.range 8).all fun k => (List.range (2 ^ (k + 1))).all fun q => !(girr (k + 1) (2 ^ (k + 1) + q)) || gfi (k + 1) (2 ^ (k + 1) + q) (2 ^ (k + 1) - 1) 1) = true := by decide +kernel
