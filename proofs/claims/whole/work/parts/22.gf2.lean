/-! THE NUMBERS, on: powers of one number, inverses, turns -/
theorem gck_spec {m p g : Nat} : ∀ n k s, gck m p g n (gpw m p g k) s = true → gpw m p g (k + n) = 1 ∧ (∀ a, (2 ^ (2 ^ m) - 2).testBit a = true → s.testBit a = true ∨ ∃ i, k ≤ i ∧ i < k + n ∧ gpw m p g i = a) ∧ (∀ i, k ≤ i → i < k + n → (i = k → s ≠ 0) → gpw m p g i ≠ 1)
  | 0, k, s, h => by
    unfold gck at h
    simp only [Bool.and_eq_true, beq_iff_eq] at h
    refine ⟨h.1, fun a ha => Or.inl (by rw [h.2]; exact ha), fun i h1 h2 => absurd h2 (by omega)⟩
  | n + 1, k, s, h => by
    unfold gck at h
    simp only [Bool.and_eq_true, Bool.or_eq_true, beq_iff_eq, bne_iff_ne] at h
    obtain ⟨h1, h2⟩ := h
    obtain ⟨i1, i2, i3⟩ := gck_spec (m := m) (p := p) (g := g) n (k + 1) _ h2
    refine ⟨by rw [show k + (n + 1) = k + 1 + n by omega]; exact i1, fun a ha => ?_, fun i h3 h4 h5 => ?_⟩
    · rcases i2 a ha with h6 | ⟨i, h7, h8, h9⟩
      · rw [Nat.testBit_or, Bool.or_eq_true] at h6
        rcases h6 with h6 | h6
        · exact Or.inl h6
        · refine Or.inr ⟨k, Nat.le_refl _, by omega, ?_⟩
          rw [Nat.testBit_two_pow, decide_eq_true_eq] at h6
          exact h6
      · exact Or.inr ⟨i, by omega, by omega, h9⟩
    · by_cases hk : i = k
      · subst hk
        rcases h1 with h1 | h1
        · exact absurd h1 (h5 rfl)
        · exact h1
      · refine i3 i (by omega) (by omega) (fun _ hz => ?_)
        have := Nat.two_pow_pos (gpw m p g k)
        have h6 : (s ||| 2 ^ gpw m p g k).testBit (gpw m p g k) = true := by rw [Nat.testBit_or, Nat.testBit_two_pow_self, Bool.or_true]
        rw [hz, Nat.zero_testBit] at h6
        cases h6
set_option maxRecDepth 100000 in
theorem g_mask : ∀ m, m < 9 → ∀ a, a < 2 ^ m → 1 ≤ a → (2 ^ (2 ^ m) - 2).testBit a = true := by decide +kernel
theorem gfi_spec {m p : Nat} : ∀ n a, gfi m p n a = true → ∃ g, a ≤ g ∧ g < a + n ∧ gps m p g (2 ^ m - 1) 1 true = true ∧ gck m p g (2 ^ m - 1) 1 0 = true ∧ ∀ b, a ≤ b → b < g → gps m p b (2 ^ m - 1) 1 true = false
  | 0, _, h => by cases h
  | n + 1, a, h => by
    unfold gfi at h
    by_cases hq : gps m p a (2 ^ m - 1) 1 true = true
    · rw [if_pos hq] at h
      exact ⟨a, Nat.le_refl _, by omega, hq, h, fun b h1 h2 => absurd h2 (by omega)⟩
    · rw [if_neg hq] at h
      obtain ⟨g, h1, h2, h3, h4, h5⟩ := gfi_spec n (a + 1) h
      refine ⟨g, by omega, by omega, h3, h4, fun b h6 h7 => ?_⟩
      by_cases hb : b = a
      · subst hb; exact Bool.eq_false_iff.mpr hq
      · exact h5 b (by omega) h7
theorem g_gen {m p : Nat} (h : gok m p) (hi : girr m p = true) : ∃ g, 1 ≤ g ∧ g < 2 ^ m ∧ gps m p g (2 ^ m - 1) 1 true = true ∧ gck m p g (2 ^ m - 1) 1 0 = true ∧ ∀ b, 1 ≤ b → b < g → gps m p b (2 ^ m - 1) 1 true = false := by
  obtain ⟨h1, h2, h3, h4⟩ := h
  have ha := List.all_eq_true.mp g_all (m - 1) (List.mem_range.mpr (by omega))
  have hp : 2 ^ (m + 1) = 2 * 2 ^ m := by rw [Nat.pow_succ, Nat.mul_comm]
  rw [show m - 1 + 1 = m by omega] at ha
  have hb := List.all_eq_true.mp ha (p - 2 ^ m) (List.mem_range.mpr (by omega))
  rw [show 2 ^ m + (p - 2 ^ m) = p by omega, hi] at hb
  have hc : gfi m p (2 ^ m - 1) 1 = true := by simpa using hb
  obtain ⟨g, q1, q2, q3, q4, q5⟩ := gfi_spec _ _ hc
  exact ⟨g, q1, by omega, q3, q4, q5⟩
/-- a field: modulus of m + 1 bits that nothing divides -/
def gfd (m p : Nat) : Prop := gok m p ∧ girr m p = true
section GFD
variable {m p g : Nat}
theorem gpw_lt (h : gok m p) : ∀ k, gpw m p g k < 2 ^ m
  | 0 => by
    show 1 < 2 ^ m
    exact Nat.one_lt_two_pow (by have := h.1; omega)
  | k + 1 => gm_lt h (gpw_lt h k) g
theorem gpw_add (h : gok m p) (hg : g < 2 ^ m) (i : Nat) : ∀ j, gpw m p g (i + j) = gm m p (gpw m p g i) (gpw m p g j)
  | 0 => (gm_1r m p _).symm
  | j + 1 => by
    show gm m p (gpw m p g (i + j)) g = gm m p (gpw m p g i) (gm m p (gpw m p g j) g)
    rw [gpw_add h hg i j, gm_a h (gpw_lt h i) (gpw_lt h j)]
theorem gpw_one (h : gok m p) (hg : g < 2 ^ m) {n : Nat} (hn : gpw m p g n = 1) : ∀ k, gpw m p g (k * n) = 1
  | 0 => by rw [Nat.zero_mul]; rfl
  | k + 1 => by rw [Nat.succ_mul, gpw_add h hg, gpw_one h hg hn k, hn, gm_1r]
/-- what a number with all powers gives -/
theorem g_log (h : gok m p) {g : Nat} (hc : gck m p g (2 ^ m - 1) 1 0 = true) : gpw m p g (2 ^ m - 1) = 1 ∧ (∀ a, 1 ≤ a → a < 2 ^ m → ∃ i, i < 2 ^ m - 1 ∧ gpw m p g i = a) ∧ (∀ i, 0 < i → i < 2 ^ m - 1 → gpw m p g i ≠ 1) := by
  obtain ⟨h1, h2, h3⟩ := gck_spec (m := m) (p := p) (g := g) (2 ^ m - 1) 0 0 hc
  rw [Nat.zero_add] at h1 h2 h3
  refine ⟨h1, fun a ha hl => ?_, fun i h4 h5 => h3 i (by omega) h5 (fun q => absurd q (by omega))⟩
  rcases h2 a (g_mask m (by have := h.2.1; omega) a hl ha) with h4 | ⟨i, -, h5, h6⟩
  · rw [Nat.zero_testBit] at h4; cases h4
  · exact ⟨i, h5, h6⟩
theorem g_inj (h : gok m p) (hg : g < 2 ^ m) (hc : gck m p g (2 ^ m - 1) 1 0 = true) {i j : Nat} (hi : i < 2 ^ m - 1) (hj : j < 2 ^ m - 1) (e : gpw m p g i = gpw m p g j) : i = j := by
  obtain ⟨h1, -, h3⟩ := g_log h hc
  have key : ∀ {i j : Nat}, i < j → j < 2 ^ m - 1 → gpw m p g i = gpw m p g j → False := by
    intro i j hij hj e
    apply h3 (j - i) (by omega) (by omega)
    have e1 : gpw m p g (2 ^ m - 1 - i + i) = gpw m p g (2 ^ m - 1 - i + j) := by rw [gpw_add h hg, gpw_add h hg, e]
    rw [show 2 ^ m - 1 - i + i = 2 ^ m - 1 by omega, show 2 ^ m - 1 - i + j = 2 ^ m - 1 + (j - i) by omega, gpw_add h hg, h1, gm_1l h (gpw_lt h _)] at e1
    exact e1.symm
  rcases Nat.lt_trichotomy i j with q | q | q
  · exact (key q hj e).elim
  · exact q
  · exact (key q hi e.symm).elim
/-- the inverse, as the powers of its squares -/
def giv (m p : Nat) : Nat → Nat → Nat → Nat
  | 0, _, v => v
  | k + 1, x, v => giv m p k (gm m p x x) (gm m p v (gm m p x x))
def gi (m p a : Nat) : Nat := giv m p (m - 1) a 1
theorem giv_pw (h : gok m p) (hg : g < 2 ^ m) : ∀ n k v, giv m p n (gpw m p g k) (gpw m p g v) = gpw m p g (v + k * (2 ^ (n + 1) - 2))
  | 0, k, v => by
    show gpw m p g v = _
    rw [show 2 ^ (0 + 1) - 2 = 0 from rfl, Nat.mul_zero, Nat.add_zero]
  | n + 1, k, v => by
    unfold giv
    rw [← gpw_add h hg, ← gpw_add h hg, giv_pw h hg n]
    congr 1
    have e1 : 2 ^ (n + 1 + 1) = 2 * 2 ^ (n + 1) := by rw [Nat.pow_succ, Nat.mul_comm]
    have e2 : 2 ≤ 2 ^ (n + 1) := by
      have := Nat.pow_le_pow_right (show 0 < 2 by decide) (show 1 ≤ n + 1 by omega)
      exact this
    generalize 2 ^ (n + 1 + 1) = y at *
    generalize 2 ^ (n + 1) = x at *
    subst e1
    obtain ⟨z, rfl⟩ : ∃ z, x = z + 2 := ⟨x - 2, by omega⟩
    rw [show 2 * (z + 2) - 2 = 2 * z + 2 by omega, Nat.add_sub_cancel, Nat.mul_add, Nat.add_mul, Nat.mul_left_comm k 2 z, Nat.two_mul (k * z)]
    omega
theorem giv_lt (h : gok m p) : ∀ n x v, x < 2 ^ m → v < 2 ^ m → giv m p n x v < 2 ^ m
  | 0, _, _, _, hv => hv
  | n + 1, x, v, hx, hv => giv_lt h n _ _ (gm_lt h hx x) (gm_lt h hv _)
theorem gi_lt (h : gok m p) {a : Nat} (ha : a < 2 ^ m) : gi m p a < 2 ^ m := giv_lt h _ _ _ ha (Nat.one_lt_two_pow (by have := h.1; omega))
theorem gi_m (h : gfd m p) {a : Nat} (ha : a < 2 ^ m) (h0 : a ≠ 0) : gm m p a (gi m p a) = 1 := by
  obtain ⟨g, h1, h2, h3, h4, h5⟩ := g_gen h.1 h.2
  obtain ⟨q1, q2, q3⟩ := g_log h.1 h4
  obtain ⟨i, hi, rfl⟩ := q2 a (by omega) ha
  unfold gi
  have e := giv_pw h.1 h2 (m - 1) i 0
  rw [show m - 1 + 1 = m by have := h.1.1; omega, Nat.zero_add] at e
  show gm m p (gpw m p g i) (giv m p (m - 1) (gpw m p g i) (gpw m p g 0)) = 1
  rw [e, ← gpw_add h.1 h2]
  have e2 : 2 ≤ 2 ^ m := by
    have := Nat.pow_le_pow_right (show 0 < 2 by decide) h.1.1
    exact this
  rw [show i + i * (2 ^ m - 2) = i * (2 ^ m - 1) by
    obtain ⟨z, hz⟩ : ∃ z, 2 ^ m = z + 2 := ⟨2 ^ m - 2, by omega⟩
    rw [hz, show z + 2 - 1 = z + 1 by omega, Nat.add_sub_cancel, Nat.mul_add, Nat.mul_one]; omega]
  exact gpw_one h.1 h2 q1 i
theorem gm_nz (h : gfd m p) {a b : Nat} (ha : a < 2 ^ m) (hb : b < 2 ^ m) (e : gm m p a b = 0) : a = 0 ∨ b = 0 := by
  by_cases h0 : a = 0
  · exact Or.inl h0
  · right
    have h1 : gm m p (gm m p (gi m p a) a) b = 0 := by rw [gm_a h.1 (gi_lt h.1 ha) ha, e, gm_0r]
    rw [gm_c h.1 (gi_lt h.1 ha) ha, gi_m h ha h0, gm_1l h.1 hb] at h1
    exact h1
theorem gm_can (h : gfd m p) {a b c : Nat} (ha : a < 2 ^ m) (hb : b < 2 ^ m) (hc : c < 2 ^ m) (h0 : a ≠ 0) (e : gm m p a b = gm m p a c) : b = c := by
  have h1 : gm m p a (b ^^^ c) = 0 := by rw [gm_xr, e, Nat.xor_self]
  rcases gm_nz h ha (x_lt hb hc) h1 with q | q
  · exact absurd q h0
  · exact xr_z q
theorem gi_u (h : gfd m p) {a b : Nat} (ha : a < 2 ^ m) (hb : b < 2 ^ m) (e : gm m p a b = 1) : b = gi m p a := by
  have h0 : a ≠ 0 := fun q => by rw [q, gm_0l] at e; cases e
  exact gm_can h ha hb (gi_lt h.1 ha) h0 (by rw [e, gi_m h ha h0])
theorem gi_nz (h : gfd m p) {a : Nat} (ha : a < 2 ^ m) (h0 : a ≠ 0) : gi m p a ≠ 0 := fun q => by
  have := gi_m h ha h0
  rw [q, gm_0r] at this; cases this
/-- squares, and squares of squares -/
def gsn (m p : Nat) : Nat → Nat → Nat
  | 0, a => a
  | k + 1, a => gsn m p k (gm m p a a)
theorem gsn_lt (h : gok m p) : ∀ k a, a < 2 ^ m → gsn m p k a < 2 ^ m
  | 0, _, ha => ha
  | k + 1, a, ha => gsn_lt h k _ (gm_lt h ha a)
theorem gsn_x (h : gok m p) : ∀ k a b, a < 2 ^ m → b < 2 ^ m → gsn m p k (a ^^^ b) = gsn m p k a ^^^ gsn m p k b
  | 0, _, _, _, _ => rfl
  | k + 1, a, b, ha, hb => by
    unfold gsn
    rw [← gsn_x h k _ _ (gm_lt h ha a) (gm_lt h hb b)]
    congr 1
    rw [gm_xr, gm_xl, gm_xl, gm_c h hb ha, xr_a, xr_k]
theorem gsn_m (h : gok m p) : ∀ k a b, a < 2 ^ m → b < 2 ^ m → gsn m p k (gm m p a b) = gm m p (gsn m p k a) (gsn m p k b)
  | 0, _, _, _, _ => rfl
  | k + 1, a, b, ha, hb => by
    unfold gsn
    rw [← gsn_m h k _ _ (gm_lt h ha a) (gm_lt h hb b)]
    congr 1
    rw [gm_a h ha hb, gm_lc h hb ha, ← gm_a h ha ha]
theorem gsn_add (m p : Nat) : ∀ j k a, gsn m p (j + k) a = gsn m p k (gsn m p j a)
  | 0, k, a => by rw [Nat.zero_add]; rfl
  | j + 1, k, a => by
    rw [show j + 1 + k = (j + k) + 1 by omega]
    show gsn m p (j + k) (gm m p a a) = gsn m p k (gsn m p j (gm m p a a))
    exact gsn_add m p j k _
theorem gsn_0 (m p : Nat) : ∀ k, gsn m p k 0 = 0
  | 0 => rfl
  | k + 1 => by unfold gsn; rw [gm_0l]; exact gsn_0 m p k
theorem gsn_1 (m p : Nat) : ∀ k, gsn m p k 1 = 1
  | 0 => rfl
  | k + 1 => by unfold gsn; rw [gm_1r]; exact gsn_1 m p k
theorem gsn_pw (h : gok m p) (hg : g < 2 ^ m) : ∀ k i, gsn m p k (gpw m p g i) = gpw m p g (i * 2 ^ k)
  | 0, i => by rw [Nat.pow_zero, Nat.mul_one]; rfl
  | k + 1, i => by
    unfold gsn
    rw [← gpw_add h hg, gsn_pw h hg k, Nat.pow_succ, ← Nat.two_mul, Nat.mul_comm 2 i, Nat.mul_assoc, Nat.mul_comm 2]
theorem gsn_mm (h : gfd m p) {a : Nat} (ha : a < 2 ^ m) : gsn m p m a = a := by
  by_cases h0 : a = 0
  · rw [h0, gsn_0]
  obtain ⟨g, h1, h2, h3, h4, h5⟩ := g_gen h.1 h.2
  obtain ⟨q1, q2, q3⟩ := g_log h.1 h4
  obtain ⟨i, hi, rfl⟩ := q2 a (by omega) ha
  rw [gsn_pw h.1 h2]
  have e2 : 1 ≤ 2 ^ m := Nat.two_pow_pos m
  rw [show i * 2 ^ m = i * (2 ^ m - 1) + i by
    obtain ⟨z, hz⟩ : ∃ z, 2 ^ m = z + 1 := ⟨2 ^ m - 1, by omega⟩
    rw [hz, Nat.add_sub_cancel, Nat.mul_add, Nat.mul_one], gpw_add h.1 h2, gpw_one h.1 h2 q1, gm_1l h.1 ha]
theorem gsn_mk (h : gfd m p) {a : Nat} (ha : a < 2 ^ m) : ∀ k, gsn m p (m * k) a = a
  | 0 => by rw [Nat.mul_zero]; rfl
  | k + 1 => by rw [Nat.mul_succ, gsn_add, gsn_mk h ha k, gsn_mm h ha]
/-- only the rest by m counts -/
theorem gsn_mod (h : gfd m p) {a : Nat} (ha : a < 2 ^ m) {j k : Nat} (e : j % m = k % m) : gsn m p j a = gsn m p k a := by
  have r : ∀ j, gsn m p j a = gsn m p (j % m) a := fun j => by
    have e1 := Nat.div_add_mod j m
    rw [← e1, gsn_add, gsn_mk h ha, e1]
  rw [r j, r k, e]
theorem gsn_nz (h : gfd m p) : ∀ k a, a < 2 ^ m → a ≠ 0 → gsn m p k a ≠ 0
  | 0, _, _, h0 => h0
  | k + 1, a, ha, h0 => gsn_nz h k _ (gm_lt h.1 ha a) fun q => by
    rcases gm_nz h ha ha q with q | q <;> exact h0 q
theorem gsn_i (h : gfd m p) (k : Nat) {a : Nat} (ha : a < 2 ^ m) (h0 : a ≠ 0) : gsn m p k (gi m p a) = gi m p (gsn m p k a) := by
  refine gi_u h (gsn_lt h.1 k a ha) (gsn_lt h.1 k _ (gi_lt h.1 ha)) ?_
  rw [← gsn_m h.1 k _ _ ha (gi_lt h.1 ha), gi_m h ha h0, gsn_1]
end GFD
