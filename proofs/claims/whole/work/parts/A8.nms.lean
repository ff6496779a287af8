/-! NORM: minors are the sum over the orders -/
def trm (Φ : gF) (Y : pl) (r code : Nat) : Nat → pl
  | 0 => mono 1 0
  | j + 1 => pC Φ (nc Φ Y r j (code / 4 ^ j % 4)) (trm Φ Y r code j)
def msk (code : Nat) : Nat → Nat
  | 0 => 0
  | s + 1 => msk code s ||| 2 ^ (code / 4 ^ s % 4)
def xsm (P : Nat → pl) : Nat → pl
  | 0 => p0
  | n + 1 => pA (xsm P n) (P n)
section NMS
variable {Φ : gF}
theorem xsm_cg {P Q : Nat → pl} : ∀ n, (∀ i, i < n → P i = Q i) → xsm P n = xsm Q n
  | 0, _ => rfl
  | n + 1, h => by unfold xsm; rw [xsm_cg n (fun i hi => h i (by omega)), h n (by omega)]
theorem xsm_add {P : Nat → pl} (a : Nat) : ∀ b, xsm P (a + b) = pA (xsm P a) (xsm (fun i => P (a + i)) b)
  | 0 => (pA_0 _).symm
  | b + 1 => by
    show pA (xsm P (a + b)) (P (a + b)) = pA (xsm P a) (pA (xsm (fun i => P (a + i)) b) (P (a + b)))
    rw [xsm_add a b, pA_a]
theorem xsm_z {P : Nat → pl} : ∀ n, (∀ i, i < n → P i = p0) → xsm P n = p0
  | 0, _ => rfl
  | n + 1, h => by unfold xsm; rw [xsm_z n (fun i hi => h i (by omega)), h n (by omega)]; exact pA_s p0
theorem pCn_A (C M M' : pl) : ∀ n b, pCn Φ C (pA M M') n b = pCn Φ C M n b ^^^ pCn Φ C M' n b
  | 0, _ => (Nat.xor_self 0).symm
  | n + 1, b => by
    show pCn Φ C (pA M M') n b ^^^ (if n ≤ b then fm Φ (C n) (M (b - n) ^^^ M' (b - n)) else 0) = (pCn Φ C M n b ^^^ (if n ≤ b then fm Φ (C n) (M (b - n)) else 0)) ^^^ (pCn Φ C M' n b ^^^ (if n ≤ b then fm Φ (C n) (M' (b - n)) else 0))
    rw [pCn_A C M M' n b]
    by_cases h : n ≤ b
    · rw [if_pos h, if_pos h, if_pos h, fm_xr, xr_4]
    · rw [if_neg h, if_neg h, if_neg h, Nat.xor_zero, Nat.xor_zero, Nat.xor_zero]
theorem pC_A (C M M' : pl) : pC Φ C (pA M M') = pA (pC Φ C M) (pC Φ C M') := by
  funext b
  show (if b < 17 then pCn Φ C (pA M M') 17 b else 0) = (if b < 17 then pCn Φ C M 17 b else 0) ^^^ (if b < 17 then pCn Φ C M' 17 b else 0)
  by_cases h : b < 17
  · rw [if_pos h, if_pos h, if_pos h, pCn_A]
  · rw [if_neg h, if_neg h, if_neg h]; rfl
theorem pC_0 (C : pl) : pC Φ C p0 = p0 := by
  have h := pC_A (Φ := Φ) C p0 p0
  rw [pA_s, pA_s] at h
  exact h
theorem xsm_pC (C : pl) {P : Nat → pl} : ∀ n, xsm (fun i => pC Φ C (P i)) n = pC Φ C (xsm P n)
  | 0 => (pC_0 C).symm
  | n + 1 => by
    show pA (xsm (fun i => pC Φ C (P i)) n) (pC Φ C (P n)) = pC Φ C (pA (xsm P n) (P n))
    rw [xsm_pC C n, pC_A]
theorem dig_lo {c s code j : Nat} (hj : j < s) : (4 ^ s * c + code) / 4 ^ j % 4 = code / 4 ^ j % 4 := by
  obtain ⟨k, rfl⟩ : ∃ k, s = j + 1 + k := ⟨s - (j + 1), by omega⟩
  have e : 4 ^ (j + 1 + k) * c + code = 4 ^ j * (4 * (4 ^ k * c)) + code := by
    rw [Nat.pow_add, Nat.pow_add, Nat.pow_one]
    simp only [Nat.mul_assoc]
  rw [e, Nat.mul_add_div (Nat.pow_pos (by decide)), Nat.mul_add_mod]
theorem dig_hi {c s code : Nat} (hc : c < 4) (h : code < 4 ^ s) : (4 ^ s * c + code) / 4 ^ s % 4 = c := by
  rw [Nat.mul_add_div (Nat.pow_pos (by decide)), Nat.div_eq_of_lt h, Nat.add_zero, Nat.mod_eq_of_lt hc]
theorem msk_lo {c s code : Nat} : ∀ j, j ≤ s → msk (4 ^ s * c + code) j = msk code j
  | 0, _ => rfl
  | j + 1, h => by unfold msk; rw [msk_lo j (by omega), dig_lo (by omega)]
theorem trm_lo {Y : pl} {r c s code : Nat} : ∀ j, j ≤ s → trm Φ Y r (4 ^ s * c + code) j = trm Φ Y r code j
  | 0, _ => rfl
  | j + 1, h => by unfold trm; rw [trm_lo j (by omega), dig_lo (by omega)]
theorem msk_fact : ∀ a, a < 16 → ∀ c, c < 4 → (a ||| 2 ^ c) < 16 ∧ pcn 4 (a ||| 2 ^ c) ≤ pcn 4 a + 1 := by decide +kernel
theorem msk_f : ∀ (code s : Nat), msk code s < 16 ∧ pcn 4 (msk code s) ≤ s
  | code, 0 => by
    show 0 < 16 ∧ pcn 4 0 ≤ 0
    decide
  | code, s + 1 => by
    obtain ⟨h1, h2⟩ := msk_f code s
    obtain ⟨h3, h4⟩ := msk_fact (msk code s) h1 (code / 4 ^ s % 4) (Nat.mod_lt _ (by decide))
    exact ⟨h3, by show pcn 4 (msk code s ||| _) ≤ _; omega⟩
theorem set_fact : ∀ a, a < 16 → ∀ c, c < 4 → ∀ set, set < 16 → pcn 4 a < pcn 4 set → ((a ||| 2 ^ c) = set ↔ (set / 2 ^ c % 2 = 1 ∧ a = set ^^^ 2 ^ c)) := by decide +kernel
theorem pcn_z : ∀ set, set < 16 → pcn 4 set = 0 → set = 0 := by decide +kernel
theorem nmf_hi {G : Nat → pl} {set r : Nat} (h : set < 2 ^ r) : ∀ k, nmf G set (r + k) = nmf G set r
  | 0 => rfl
  | k + 1 => by
    show (if set / 2 ^ (r + k) % 2 = 1 then _ else nmf G set (r + k)) = _
    have : 2 ^ r ≤ 2 ^ (r + k) := Nat.pow_le_pow_right (by decide) (by omega)
    rw [Nat.div_eq_of_lt (by omega), if_neg (by decide), nmf_hi h k]
/-- the sum over the orders of a set of columns is its minor -/
theorem nms {Y : pl} {r : Nat} (hr : r ≤ 4) : ∀ s set, s ≤ 4 → set < 2 ^ r → pcn 4 set = s → xsm (fun code => if msk code s = set then trm Φ Y r code s else p0) (4 ^ s) = nmr Φ Y r s set
  | 0, set, _, hs, hp => by
    have h16 : 2 ^ r ≤ 2 ^ 4 := Nat.pow_le_pow_right (by decide) hr
    have h0 := pcn_z set (by omega) hp
    show pA p0 (if 0 = set then mono 1 0 else p0) = mono 1 0
    rw [h0, if_pos rfl, p0_A]
  | s + 1, set, h4, hs, hp => by
    have h16 : 2 ^ r ≤ 2 ^ 4 := Nat.pow_le_pow_right (by decide) hr
    have blk : ∀ c, c < 4 → xsm (fun code => if msk (4 ^ s * c + code) (s + 1) = set then trm Φ Y r (4 ^ s * c + code) (s + 1) else p0) (4 ^ s) = if set / 2 ^ c % 2 = 1 then pC Φ (nc Φ Y r s c) (nmr Φ Y r s (set ^^^ 2 ^ c)) else p0 := fun c hc => by
      have e : ∀ code, code < 4 ^ s → (if msk (4 ^ s * c + code) (s + 1) = set then trm Φ Y r (4 ^ s * c + code) (s + 1) else p0) = if set / 2 ^ c % 2 = 1 then pC Φ (nc Φ Y r s c) (if msk code s = set ^^^ 2 ^ c then trm Φ Y r code s else p0) else p0 := fun code hcode => by
        obtain ⟨f1, f2⟩ := msk_f code s
        have sf := set_fact (msk code s) f1 c hc set (by omega) (by omega)
        have em : msk (4 ^ s * c + code) (s + 1) = msk code s ||| 2 ^ c := by
          show msk (4 ^ s * c + code) s ||| 2 ^ ((4 ^ s * c + code) / 4 ^ s % 4) = _
          rw [msk_lo s (Nat.le_refl s), dig_hi hc hcode]
        have et : trm Φ Y r (4 ^ s * c + code) (s + 1) = pC Φ (nc Φ Y r s c) (trm Φ Y r code s) := by
          show pC Φ (nc Φ Y r s ((4 ^ s * c + code) / 4 ^ s % 4)) (trm Φ Y r (4 ^ s * c + code) s) = _
          rw [trm_lo s (Nat.le_refl s), dig_hi hc hcode]
        rw [em, et]
        by_cases h1 : set / 2 ^ c % 2 = 1
        · rw [if_pos h1]
          by_cases h2 : msk code s = set ^^^ 2 ^ c
          · rw [if_pos (sf.mpr ⟨h1, h2⟩), if_pos h2]
          · rw [if_neg (fun z => h2 (sf.mp z).2), if_neg h2, pC_0]
        · rw [if_neg h1, if_neg (fun z => h1 (sf.mp z).1)]
      rw [xsm_cg (4 ^ s) e]
      by_cases h1 : set / 2 ^ c % 2 = 1
      · obtain ⟨b1, b2⟩ := bit_fact set (by omega) c hc h1
        rw [if_pos h1]
        have ih := nms (Y := Y) hr s (set ^^^ 2 ^ c) (by omega) (by omega) (by omega)
        rw [← ih, ← xsm_pC]
        exact xsm_cg _ (fun i _ => if_pos h1)
      · rw [if_neg h1]
        exact xsm_z _ (fun i _ => if_neg h1)
    have b0 := blk 0 (by decide)
    have b1 := blk 1 (by decide)
    have b2 := blk 2 (by decide)
    have b3 := blk 3 (by decide)
    rw [Nat.mul_zero] at b0
    rw [Nat.mul_one] at b1
    have e4 : 4 ^ (s + 1) = 4 ^ s + 4 ^ s + 4 ^ s + 4 ^ s := by rw [Nat.pow_succ]; omega
    have es2 : ∀ i, 4 ^ s * 2 + i = 4 ^ s + 4 ^ s + i := fun i => by omega
    have es3 : ∀ i, 4 ^ s * 3 + i = 4 ^ s + 4 ^ s + 4 ^ s + i := fun i => by omega
    simp only [es2] at b2
    simp only [es3] at b3
    simp only [Nat.zero_add] at b0
    rw [e4, xsm_add, xsm_add, xsm_add, b0, b1, b2, b3]
    show _ = nmf (fun k => pC Φ (nc Φ Y r s k) (nmr Φ Y r s (set ^^^ 2 ^ k))) set r
    have hh := nmf_hi (G := fun k => pC Φ (nc Φ Y r s k) (nmr Φ Y r s (set ^^^ 2 ^ k))) hs (4 - r)
    rw [show r + (4 - r) = 4 by omega] at hh
    rw [← hh]
    have st : ∀ k, nmf (fun k => pC Φ (nc Φ Y r s k) (nmr Φ Y r s (set ^^^ 2 ^ k))) set (k + 1) = pA (nmf (fun k => pC Φ (nc Φ Y r s k) (nmr Φ Y r s (set ^^^ 2 ^ k))) set k) (if set / 2 ^ k % 2 = 1 then pC Φ (nc Φ Y r s k) (nmr Φ Y r s (set ^^^ 2 ^ k)) else p0) := fun k => by
      show (if set / 2 ^ k % 2 = 1 then _ else _) = _
      by_cases h1 : set / 2 ^ k % 2 = 1
      · rw [if_pos h1, if_pos h1]
      · rw [if_neg h1, if_neg h1, pA_0]
    rw [st 3, st 2, st 1, st 0]
    show _ = pA (pA (pA (pA p0 _) _) _) _
    rw [p0_A]
end NMS
