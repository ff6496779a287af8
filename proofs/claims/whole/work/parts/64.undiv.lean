/-! The class's Reader: a modulus that nothing divides -/
def hbl (dv : Nat) : Nat → Nat → Nat → Nat
  | 0, _, hi => hi
  | n + 1, b, hi => hbl dv n (b + 1) (if dv / 2 ^ b = 0 then hi else b)
def unL (p : Nat) : Nat → Nat → Bool
  | 0, _ => true
  | n + 1, dv => if brest p dv = 0 then false else unL p n (dv + 1)
section UND
variable {d : Nat} {h : jh}
theorem hbl_fact : ∀ dv, dv < 256 → hbl dv 9 0 0 = bhi dv 9 ∧ hbl dv 9 0 0 ≤ 8 := by decide +kernel
theorem bitRest_1 {p dv : Nat} (hd : dv < 256) : ∀ n b hi : Nat, b + n = 9 → Vl d 41 4 [some (.inl (p : Int)), some (.inl (dv : Int)), some (.inl (hi : Int)), some (.inl (b : Int)), none] [] h = Vl d 41 24 [some (.inl (p : Int)), some (.inl (dv : Int)), some (.inl (hbl dv n b hi : Int)), some (.inl 9), none] [] h
  | 0, b, hi, hb => by
    obtain rfl : b = 9 := by omega
    rw [vR_bitRest_4, if_pos (by omega)]; rfl
  | n + 1, b, hi, hb => by
    rw [vR_bitRest_4, if_neg (by omega), vR_bitRest_10, jush_n (by omega) (by omega)]
    have ih := fun hi' => bitRest_1 (p := p) hd n (b + 1) hi' (by omega)
    unfold hbl
    by_cases h0 : dv / 2 ^ b = 0
    · rw [if_pos (show ((dv / 2 ^ b : Nat) : Int) = 0 by omega), if_pos h0, vR_bitRest_18, w32_s (by omega), ih]
    · rw [if_neg (show ¬ ((dv / 2 ^ b : Nat) : Int) = 0 by omega), if_neg h0, vR_bitRest_16, vR_bitRest_18, w32_s (by omega), ih]
theorem bitRest_2 {p dv hi : Nat} (hd : dv < 256) (hh : hi ≤ 8) : ∀ k r : Nat, k + hi ≤ 9 → r < 2 ^ 20 → Vl d 41 30 [some (.inl (p : Int)), some (.inl (dv : Int)), some (.inl (hi : Int)), some (.inl (r : Int)), some (.inl (((k + hi : Nat) : Int) - 1))] [] h = some ((0, some (.inl (brs dv hi k r : Int))), h)
  | 0, r, hk, hr => by rw [vR_bitRest_30, if_pos (by omega), vR_bitRest_61]; rfl
  | k + 1, r, hk, hr => by
    have hk2 : 2 ^ k ≤ 2 ^ 9 := Nat.pow_le_pow_right (by decide) (by omega)
    have hm : dv * 2 ^ k ≤ 256 * 512 := Nat.mul_le_mul (by omega) hk2
    have hdv := Nat.div_le_self r (2 ^ (k + hi))
    have hs : r >>> (k + hi) = r / 2 ^ (k + hi) := Nat.shiftRight_eq_div_pow _ _
    have hl : dv <<< k = dv * 2 ^ k := Nat.shiftLeft_eq _ _
    have eb : ((k + 1 + hi : Nat) : Int) - 1 = ((k + hi : Nat) : Int) := by omega
    have ew : w32 (((k + hi : Nat) : Int) + (-1)) = ((k + hi : Nat) : Int) - 1 := by unfold w32; omega
    have es : w32 (((k + hi : Nat) : Int) - (hi : Int)) = (k : Int) := by unfold w32; omega
    rw [eb, vR_bitRest_30, if_neg (by omega), vR_bitRest_36, jush_n (by omega) (by omega), jand_1 (by omega)]
    unfold brs
    rw [hs, hl]
    by_cases h1 : r / 2 ^ (k + hi) % 2 = 1
    · rw [if_pos (show ((r / 2 ^ (k + hi) % 2 : Nat) : Int) = 1 by omega), if_pos h1, vR_bitRest_46, es, jshl_n (by omega) (by omega), jxor_n (by omega) (by omega), vR_bitRest_55, ew]
      exact bitRest_2 hd hh k _ (by omega) (x_lt hr (by omega))
    · rw [if_neg (show ¬ ((r / 2 ^ (k + hi) % 2 : Nat) : Int) = 1 by omega), if_neg h1, vR_bitRest_55, ew]
      exact bitRest_2 hd hh k r (by omega) hr
theorem bitRest_spec {p dv : Nat} (hp : p < 512) (hd : dv < 256) : Vl d 41 0 [some (.inl (p : Int)), some (.inl (dv : Int)), none, none, none] [] h = some ((0, some (.inl (brest p dv : Int))), h) := by
  obtain ⟨f1, f2⟩ := hbl_fact dv hd
  have q1 := bitRest_1 (d := d) (h := h) (p := p) hd 9 0 0 (by decide)
  have q2 := bitRest_2 (d := d) (h := h) (p := p) hd f2 (9 - hbl dv 9 0 0) p (by omega) (by omega)
  rw [show ((9 - hbl dv 9 0 0 + hbl dv 9 0 0 : Nat) : Int) - 1 = 8 by omega] at q2
  rw [vR_bitRest_0]
  refine q1.trans ?_
  rw [vR_bitRest_24, q2, f1]
  rfl
theorem isUndivided_loop {p m : Nat} (hp : p < 512) (hm : m ≤ 8) : ∀ n dv : Nat, dv + n = 2 ^ m → Vl (d + 1) 40 2 [some (.inl (p : Int)), some (.inl (m : Int)), some (.inl (dv : Int))] [] h = some ((0, some (.inl (if unL p n dv = true then 1 else 0))), h)
  | 0, dv, hd => by
    have h8 : 2 ^ m ≤ 2 ^ 8 := Nat.pow_le_pow_right (by decide) hm
    rw [vR_isUndivided_2, show (1 : Int) = ((1 : Nat) : Int) from rfl, jshl_n (by omega) (by omega), Nat.one_mul, if_neg (by omega), vR_isUndivided_25]
    exact aZ1 _
  | n + 1, dv, hd => by
    have h8 : 2 ^ m ≤ 2 ^ 8 := Nat.pow_le_pow_right (by decide) hm
    rw [vR_isUndivided_2, show jshl 1 (m : Int) = ((2 ^ m : Nat) : Int) from by rw [show (1 : Int) = ((1 : Nat) : Int) from rfl, jshl_n (by omega) (by omega), Nat.one_mul], if_pos (by omega), vR_isUndivided_9, bitRest_spec hp (by omega), aVC, tlS, vR_isUndivided_14]
    unfold unL
    by_cases h0 : brest p dv = 0
    · rw [if_pos (show (brest p dv : Int) = 0 by omega), if_pos h0, vR_isUndivided_17, aZ0]; rfl
    · rw [if_neg (show ¬ (brest p dv : Int) = 0 by omega), if_neg h0, vR_isUndivided_19, w32_s (by omega)]
      exact isUndivided_loop hp hm n (dv + 1) (by omega)
theorem unL_all (p : Nat) : ∀ n a, unL p n a = (List.range n).all fun k => brest p (k + a) != 0
  | 0, _ => rfl
  | n + 1, a => by
    rw [List.range_succ_eq_map, List.all_cons, List.all_map]
    unfold unL
    rw [unL_all p n (a + 1), Nat.zero_add]
    by_cases h0 : brest p a = 0
    · rw [if_pos h0, h0]; rfl
    · rw [if_neg h0, show (brest p a != 0) = true from by simp [h0], Bool.true_and]
      congr 1
      funext k
      show (brest p (k + (a + 1)) != 0) = (brest p (k + 1 + a) != 0)
      rw [show k + (a + 1) = k + 1 + a by omega]
theorem isUndiv_spec {p m : Nat} (hp : p < 512) (h1 : 1 ≤ m) (hm : m ≤ 8) : Vl (d + 1) 40 0 [some (.inl (p : Int)), some (.inl (m : Int)), none] [] h = some ((0, some (.inl (if girr m p = true then 1 else 0))), h) := by
  have h2 : 2 ^ 1 ≤ 2 ^ m := Nat.pow_le_pow_right (by decide) h1
  have q := isUndivided_loop (d := d) (h := h) hp hm (2 ^ m - 2) 2 (by omega)
  rw [unL_all] at q
  rw [vR_isUndivided_0]
  exact q
end UND
