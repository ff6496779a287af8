/-! THE REFERENCE'S NUMBERS -/
def MF (Φ : gF) (D : jD) : Prop := FOK Φ ∧ D 488 10 = (Φ.1 : Int) ∧ D 488 11 = (Φ.2.1 : Int) ∧ D 488 12 = (Φ.2.2.1 : Int) ∧ D 488 13 = (Φ.2.2.2 : Int)
section MNUM
variable {ρ : jr2} {D : jD} {d : Nat} {Φ : gF}
theorem top_bit {m x : Nat} (h1 : 1 ≤ m) (hx : x < 2 ^ m) : (2 * x) / 2 ^ m = 0 ↔ x.testBit (m - 1) = false := by
  obtain ⟨k, rfl⟩ : ∃ k, m = k + 1 := ⟨m - 1, by omega⟩
  have e : 2 ^ (k + 1) = 2 * 2 ^ k := by rw [Nat.pow_succ, Nat.mul_comm]
  rw [Nat.add_sub_cancel, e, Nat.mul_div_mul_left _ _ (by decide), Nat.testBit_eq_decide_div_mod_eq]
  have h2 : x / 2 ^ k < 2 := Nat.div_lt_of_lt_mul (by rw [Nat.mul_comm, ← e]; exact hx)
  generalize x / 2 ^ k = y at h2 ⊢
  constructor
  · intro q; rw [q]; rfl
  · intro q
    have := of_decide_eq_false q
    omega
theorem mmul_loop (hF : MF Φ D) {a b : Int} : ∀ n y v x : Nat, y < 2 ^ n → n ≤ 8 → v < 2 ^ Φ.1 → x < 2 ^ Φ.1 → Vl d 193 8 [some (.inr (.inr (some 488))), some (.inl a), some (.inl b), some (.inl (v : Int)), some (.inl (x : Int)), some (.inl (y : Int))] [] (hp (1, ρ) D) = some ((0, some (.inl ((v ^^^ gmn Φ.1 Φ.2.1 n x y : Nat) : Int))), hp (1, ρ) D)
  | 0, y, v, x, hy, hn, hv, hx => by
    rw [Nat.pow_zero] at hy
    rw [vM_mul_8, if_neg (by omega), vM_mul_60]
    rw [show gmn Φ.1 Φ.2.1 0 x y = 0 from rfl, Nat.xor_zero]
  | n + 1, y, v, x, hy, hn, hv, hx => by
    have h256 := F_256 hF.1
    have m1 := F_m1 hF.1
    have m8 := F_m8 hF.1
    have hp9 : Φ.2.1 < 2 ^ 9 := Nat.lt_of_lt_of_le hF.1.1.1.2.2.2 (Nat.pow_le_pow_right (by decide) (by omega))
    have hy8 : 2 ^ (n + 1) ≤ 2 ^ 8 := Nat.pow_le_pow_right (by decide) hn
    by_cases h0 : y = 0
    · rw [vM_mul_8, if_neg (by omega), vM_mul_60, h0, gmn_0r, Nat.xor_zero]
    have hyd : y / 2 < 2 ^ n := by rw [Nat.pow_succ] at hy; omega
    have go : ∀ v' : Nat, v' < 2 ^ Φ.1 → Vl d 193 26 [some (.inr (.inr (some 488))), some (.inl a), some (.inl b), some (.inl (v' : Int)), some (.inl (x : Int)), some (.inl (y : Int))] [] (hp (1, ρ) D) = some ((0, some (.inl ((v' ^^^ gmn Φ.1 Φ.2.1 n (gst Φ.1 Φ.2.1 x) (y / 2) : Nat) : Int))), hp (1, ρ) D) := fun v' hv' => by
      have ih := mmul_loop hF (a := a) (b := b) n (y / 2) v' (gst Φ.1 Φ.2.1 x) hyd (by omega) hv' (gst_lt hF.1.1.1 hx)
      have e2 : jshl (x : Int) 1 = ((2 * x : Nat) : Int) := by
        rw [show (1 : Int) = ((1 : Nat) : Int) from rfl, jshl_n (by omega) (by omega)]; omega
      have e3 : jshr ((2 * x : Nat) : Int) (D 488 10) = ((2 * x / 2 ^ Φ.1 : Nat) : Int) := by rw [hF.2.1, jshr_n (by omega)]
      have e4 : jshr (y : Int) 1 = ((y / 2 : Nat) : Int) := by
        rw [show (1 : Int) = ((1 : Nat) : Int) from rfl, jshr_n (by omega)]
      rw [vM_mul_26, mGF m488, hD, e2, e3]
      have tb := top_bit m1 hx
      unfold gst at ih
      by_cases ht : x.testBit (Φ.1 - 1) = true
      · have : ¬ ((2 * x / 2 ^ Φ.1 : Nat) : Int) = 0 := fun q => by
          have := tb.mp (by omega)
          rw [this] at ht; cases ht
        rw [if_neg this, vM_mul_42, mGF m488, hD, hF.2.2.1, jxor_n (by omega) (by omega), vM_mul_51, e4]
        rw [if_pos ht] at ih
        rw [ih]
        unfold gst
        rw [if_pos ht]
      · have hf : x.testBit (Φ.1 - 1) = false := by simpa using ht
        rw [if_pos (by have := tb.mpr hf; omega), vM_mul_51, e4]
        rw [if_neg ht, Nat.xor_zero] at ih
        rw [ih]
        unfold gst
        rw [if_neg ht, Nat.xor_zero]
    rw [vM_mul_8, if_pos (by omega), vM_mul_13, jand_1 (by omega)]
    unfold gmn
    by_cases hb : y % 2 = 1
    · rw [if_pos (by omega), vM_mul_21, jxor_n (by omega) (by omega), go _ (x_lt hv hx), if_pos hb, Nat.xor_assoc]
    · rw [if_neg (by omega), go _ hv, if_neg hb, Nat.zero_xor]
theorem mmul (hF : MF Φ D) {a b : Nat} (ha : a < 2 ^ Φ.1) (hb : b < 2 ^ Φ.1) : Vl d 193 0 [some (.inr (.inr (some 488))), some (.inl (a : Int)), some (.inl (b : Int)), none, none, none] [] (hp (1, ρ) D) = some ((0, some (.inl (fm Φ a b : Int))), hp (1, ρ) D) := by
  have h256 := F_256 hF.1
  have q := mmul_loop (d := d) (ρ := ρ) hF (a := (a : Int)) (b := (b : Int)) 8 b 0 a (by omega) (by decide) (F_pos Φ) ha
  rw [vM_mul_0, show (0 : Int) = ((0 : Nat) : Int) from rfl, q, Nat.zero_xor]; rfl
theorem minv_loop (hF : MF Φ D) {a : Int} : ∀ n k v x : Nat, k + n = Φ.1 → v < 2 ^ Φ.1 → x < 2 ^ Φ.1 → Vl (d + 1) 231 7 [some (.inr (.inr (some 488))), some (.inl a), some (.inl (v : Int)), some (.inl (x : Int)), some (.inl (k : Int))] [] (hp (1, ρ) D) = some ((0, some (.inl (giv Φ.1 Φ.2.1 n x v : Int))), hp (1, ρ) D)
  | 0, k, v, x, hk, hv, hx => by rw [vM_inverse_7, mGF m488, hD, hF.2.1, if_neg (by omega), vM_inverse_36]; rfl
  | n + 1, k, v, x, hk, hv, hx => by
    have m8 := F_m8 hF.1
    have hxx := fm_lt (b := x) hF.1 hx
    rw [vM_inverse_7, mGF m488, hD, hF.2.1, if_pos (by omega), vM_inverse_16, mGF m488, mmul hF hx hx, aVC, tlS, vM_inverse_22, mGF m488, mmul hF hv hxx, aVC, tlS, vM_inverse_29, w32_s (by omega), minv_loop hF n (k + 1) (fm Φ v (fm Φ x x)) (fm Φ x x) (by omega) (fm_lt hF.1 hv) hxx]
    rfl
theorem minv (hF : MF Φ D) {a : Nat} (ha : a < 2 ^ Φ.1) : Vl (d + 1) 231 0 [some (.inr (.inr (some 488))), some (.inl (a : Int)), none, none, none] [] (hp (1, ρ) D) = some ((0, some (.inl (gi Φ.1 Φ.2.1 a : Int))), hp (1, ρ) D) := by
  have m1 := F_m1 hF.1
  rw [vM_inverse_0, show (1 : Int) = ((1 : Nat) : Int) from rfl, minv_loop hF (Φ.1 - 1) 1 1 a (by omega) (F_2 hF.1) ha]
  rfl
theorem minv_nz (hF : MF Φ D) {a : Nat} (ha : a < 2 ^ Φ.1) (h0 : a ≠ 0) : Vl (d + 1) 231 0 [some (.inr (.inr (some 488))), some (.inl (a : Int)), none, none, none] [] (hp (1, ρ) D) = some ((0, some (.inl (fi Φ a : Int))), hp (1, ρ) D) := by
  rw [minv hF ha]; unfold fi; rw [if_neg h0]
theorem mturn_loop (hF : MF Φ D) {a k : Int} {e : Nat} (he : e < 100) : ∀ n i v : Nat, i + n = e → v < 2 ^ Φ.1 → Vl (d + 1) 196 29 [some (.inr (.inr (some 488))), some (.inl a), some (.inl k), some (.inl (e : Int)), some (.inl (v : Int)), some (.inl (i : Int))] [] (hp (1, ρ) D) = some ((0, some (.inl (gsn Φ.1 Φ.2.1 n v : Int))), hp (1, ρ) D)
  | 0, i, v, hi, hv => by rw [vM_turn_29, if_neg (by omega), vM_turn_51]; rfl
  | n + 1, i, v, hi, hv => by
    rw [vM_turn_29, if_pos (by omega), vM_turn_35, mGF m488, mmul hF hv hv, aVC, tlS, vM_turn_43, w32_s (by omega), mturn_loop hF he n (i + 1) (fm Φ v v) (by omega) (fm_lt hF.1 hv)]
    rfl
theorem mturn (hF : MF Φ D) {a n : Nat} (ha : a < 2 ^ Φ.1) (hn : n < 100) : Vl (d + 1) 196 0 [some (.inr (.inr (some 488))), some (.inl (a : Int)), some (.inl (n : Int)), none, none, none] [] (hp (1, ρ) D) = some ((0, some (.inl (fT Φ n a : Int))), hp (1, ρ) D) := by
  have m1 := F_m1 hF.1
  have m8 := F_m8 hF.1
  have hs := hF.1.2.1
  have hsn : Φ.2.2.1 * n ≤ 8 * 100 := Nat.mul_le_mul (by omega) (by omega)
  have hlt := Nat.mod_lt (Φ.2.2.1 * n) (show 0 < Φ.1 by omega)
  have e1 : (w32 ((Φ.2.2.1 : Int) * (n : Int))).tmod (Φ.1 : Int) = ((Φ.2.2.1 * n % Φ.1 : Nat) : Int) := by
    rw [show (Φ.2.2.1 : Int) * (n : Int) = ((Φ.2.2.1 * n : Nat) : Int) from (Int.natCast_mul _ _).symm, w32_n (by omega), Int.tmod_eq_emod_of_nonneg (by omega)]; omega
  rw [vM_turn_0, mGF m488, mGF m488, hD, hD, hF.2.1, hF.2.2.2.1, if_neg (by omega), e1, if_neg (by omega), vM_turn_23, show (0 : Int) = ((0 : Nat) : Int) from rfl, mturn_loop hF (by omega) _ 0 a (Nat.zero_add _) ha, show gsn Φ.1 Φ.2.1 (Φ.2.2.1 * n % Φ.1) a = fT Φ n a from gsn_mod hF.1.1 ha (Nat.mod_mod _ _)]
theorem mback (hF : MF Φ D) {a n : Nat} (ha : a < 2 ^ Φ.1) (hn : n < 100) : Vl (d + 1) 196 0 [some (.inr (.inr (some 488))), some (.inl (a : Int)), some (.inl (-(n : Int))), none, none, none] [] (hp (1, ρ) D) = some ((0, some (.inl (fB Φ n a : Int))), hp (1, ρ) D) := by
  have m1 := F_m1 hF.1
  have m8 := F_m8 hF.1
  have hs := hF.1.2.1
  have hsn : Φ.2.2.1 * n ≤ 8 * 100 := Nat.mul_le_mul (by omega) (by omega)
  have hlt := Nat.mod_lt (Φ.2.2.1 * n) (show 0 < Φ.1 by omega)
  have e1 : (w32 ((Φ.2.2.1 : Int) * (-(n : Int)))).tmod (Φ.1 : Int) = -((Φ.2.2.1 * n % Φ.1 : Nat) : Int) := by
    rw [Int.mul_neg, show (Φ.2.2.1 : Int) * (n : Int) = ((Φ.2.2.1 * n : Nat) : Int) from (Int.natCast_mul _ _).symm, show w32 (-((Φ.2.2.1 * n : Nat) : Int)) = -((Φ.2.2.1 * n : Nat) : Int) from by unfold w32; omega, Int.neg_tmod, Int.tmod_eq_emod_of_nonneg (by omega)]; omega
  have em : ∀ e : Nat, e % Φ.1 = ((Φ.1 - 1) * Φ.2.2.1 * n) % Φ.1 → e < 100 → Vl (d + 1) 196 23 [some (.inr (.inr (some 488))), some (.inl (a : Int)), some (.inl (-(n : Int))), some (.inl (e : Int)), none, none] [] (hp (1, ρ) D) = some ((0, some (.inl (fB Φ n a : Int))), hp (1, ρ) D) := fun e he h100 => by
    rw [vM_turn_23, show (0 : Int) = ((0 : Nat) : Int) from rfl, mturn_loop hF h100 _ 0 a (Nat.zero_add _) ha, show gsn Φ.1 Φ.2.1 e a = fB Φ n a from gsn_mod hF.1.1 ha he]
  have key : ((Φ.1 - 1) * Φ.2.2.1 * n + Φ.2.2.1 * n % Φ.1) % Φ.1 = 0 := by
    have hx : (Φ.1 - 1) * Φ.2.2.1 * n + Φ.2.2.1 * n = Φ.1 * (Φ.2.2.1 * n) := by
      rw [Nat.mul_assoc, ← Nat.succ_mul, Nat.succ_eq_add_one, show Φ.1 - 1 + 1 = Φ.1 by omega]
    rw [Nat.add_mod, Nat.mod_mod, ← Nat.add_mod, hx, Nat.mul_mod_right]
  generalize hr : Φ.2.2.1 * n % Φ.1 = r at *
  generalize hq : (Φ.1 - 1) * Φ.2.2.1 * n = q at *
  rw [vM_turn_0, mGF m488, mGF m488, hD, hD, hF.2.1, hF.2.2.2.1, if_neg (by omega), e1]
  by_cases h0 : r = 0
  · subst h0
    rw [if_neg (by omega)]
    have := em 0 (by rw [Nat.zero_mod]; rw [Nat.add_zero] at key; exact key.symm) (by decide)
    exact this
  · rw [if_pos (by omega), vM_turn_16, mGF m488, hD, hF.2.1, show w32 (-(r : Int) + (Φ.1 : Int)) = ((Φ.1 - r : Nat) : Int) from by unfold w32; omega]
    refine em (Φ.1 - r) ?_ (by omega)
    have h2 : q % Φ.1 = Φ.1 - r := by
      have h3 := Nat.mod_lt q (show 0 < Φ.1 by omega)
      rw [Nat.add_mod, Nat.mod_eq_of_lt hlt] at key
      by_cases h4 : q % Φ.1 + r < Φ.1
      · rw [Nat.mod_eq_of_lt h4] at key; omega
      · rw [Nat.mod_eq_sub_mod (by omega), Nat.mod_eq_of_lt (by omega)] at key; omega
    rw [h2, Nat.mod_eq_of_lt (by omega)]
theorem mslope (hF : MF Φ D) {a : Nat} (ha : a < 2 ^ Φ.1) : Vl (d + 2) 198 0 [some (.inr (.inr (some 488))), some (.inl (a : Int))] [] (hp (1, ρ) D) = some ((0, some (.inl (fs Φ a : Int))), hp (1, ρ) D) := by
  have h256 := F_256 hF.1
  have hl := fT_lt hF.1 ha 1
  have e1 : fT Φ 1 a = ft Φ a := by unfold fT ft; rw [Nat.mul_one]
  have q1 := mturn (d := d) (ρ := ρ) hF ha (n := 1) (by decide)
  rw [vM_slopeOf_0, mGF m488, mGF m488, show (1 : Int) = ((1 : Nat) : Int) from rfl, q1, aVC, tlS, hD, hF.2.2.2.2, vM_slopeOf_11, mGF m488, jxor_n (by omega) (by omega), mmul hF hF.1.2.2 (x_lt hl ha), aVC, tlS, vM_slopeOf_16, e1]
  rfl
end MNUM
