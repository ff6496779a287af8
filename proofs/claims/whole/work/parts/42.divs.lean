/-! DIVISORS in the class -/
/-- the monic row of degree n by number -/
def mnc (Φ : gF) (low n : Nat) : pl := fun j => if j < n then low / 2 ^ (Φ.1 * j) % 2 ^ Φ.1 else if j = n then 1 else 0
theorem mnc_OK {Φ : gF} (h : FOK Φ) (low : Nat) {n : Nat} (hn : n < 17) : pOK Φ (mnc Φ low n) ∧ sz (mnc Φ low n) = n + 1 := by
  have h2 := F_2 h
  have d : dle (mnc Φ low n) (n + 1) := fun b hb => by unfold mnc; rw [if_neg (by omega), if_neg (by omega)]
  refine ⟨⟨fun b => ?_, dle_mono d (by omega)⟩, sz_of hn (by unfold mnc; rw [if_neg (by omega), if_pos rfl]; decide) d⟩
  unfold mnc
  split
  · exact Nat.mod_lt _ (F_pos Φ)
  · split <;> omega
def isDv (Φ : gF) (F G : pl) : Bool := decide (sz (lvr Φ F (mono 1 0) G) = 0)
def dvsl (Φ : gF) (F : pl) (n : Nat) (k : Int) (E : Nat) : Nat → Nat → Nat → Int
  | 0, _, c => if k = -1 then (c : Int) else -1
  | r + 1, low, c => if isDv Φ F (mnc Φ low n) = true then (if (c : Int) = k then ((E + low : Nat) : Int) else dvsl Φ F n k E r (low + 1) (c + 1)) else dvsl Φ F n k E r (low + 1) c
def dvE (Φ : gF) (F : pl) (n : Nat) : Nat := if sz F ≤ n then 0 else 2 ^ (Φ.1 * n)
def oDivisors (A : aA) (i n k : Int) : Int := if (aN A i ∧ sz (an A i) ≠ 0) ∧ 0 ≤ n ∧ n ≤ 12 ∧ n * ((aF A).1 : Int) ≤ 12 then (if k < -1 then -1 else dvsl (aF A) (an A i) n.toNat k (dvE (aF A) (an A i) n.toNat) (dvE (aF A) (an A i) n.toNat) 0 0) else -2
section DIVS
variable {ω : jw} {D : jD} {d : Nat} {A : aA} {Φ : gF}
theorem putMonic_loop {k o : Nat} (hk : isF k) (ho : isP o) (hne : ∀ j, j < 5 → o + 1 ≠ k + j) {low n : Nat} (hl : low < 2147483648) (hmn : Φ.1 * n ≤ 12) (hn : n ≤ 12) : ∀ (r j : Nat) (D : jD), j + r = n → FT Φ D k → PR D (o + 1) (fun c => if c < j then low / 2 ^ (Φ.1 * c) % 2 ^ Φ.1 else 0) → ∃ D', Vl (d + 1) 116 7 [some (.inr (.inr (some k))), some (.inr (.inr (some o))), some (.inl (low : Int)), some (.inl (n : Int)), some (.inl (j : Int))] [] (hp ω D) = some ((0, none), hp ω D') ∧ PR D' (o + 1) (mnc Φ low n) ∧ ∀ q, q ≠ o + 1 → D' q = D q
  | 0, j, D, hj, hF, hR => by
    have q1 := putF (ω := ω) (d := d) (j := n) (v := 1) ho hR (by omega)
    rw [show ((1 : Nat) : Int) = 1 from rfl] at q1
    refine ⟨pD D (o + 1) (rI (fun c => if c = n then 1 else if c < j then low / 2 ^ (Φ.1 * c) % 2 ^ Φ.1 else 0)), ?_, ?_, ?_⟩
    rotate_left
    · intro c hc
      have := pD_PR (D := D) (c := o + 1) (F := fun c => if c = n then 1 else if c < j then low / 2 ^ (Φ.1 * c) % 2 ^ Φ.1 else 0) c hc
      rw [this]
      dsimp only
      unfold mnc
      by_cases e : c = n
      · rw [if_pos e, if_neg (by omega), if_pos e]
      · rw [if_neg e]
        by_cases e2 : c < n
        · rw [if_pos (by omega), if_pos e2]
        · rw [if_neg (by omega), if_neg e2, if_neg e]
    · intro q hq; exact pD_ne hq
    · rw [vX_putMonic_7, if_neg (by omega), vX_putMonic_41, aGF (kP ho), q1, aVC, tlN, vX_putMonic_47]
  | r + 1, j, D, hj, hF, hR => by
    have h256 := F_256 hF.1
    have h2 := F_2 hF.1
    have h8 := F_m8 hF.1
    have hmj : Φ.1 * j ≤ 12 := Nat.le_trans (Nat.mul_le_mul_left _ (by omega)) hmn
    have hlj : low / 2 ^ (Φ.1 * j) < 2147483648 := Nat.lt_of_le_of_lt (Nat.div_le_self _ _) hl
    have q1 := putF (ω := ω) (d := d) (j := j) (v := low / 2 ^ (Φ.1 * j) % 2 ^ Φ.1) ho hR (by omega)
    obtain ⟨D', q2, R2, f2⟩ := putMonic_loop hk ho hne hl hmn hn r (j + 1) (pD D (o + 1) (rI (fun c => if c = j then low / 2 ^ (Φ.1 * j) % 2 ^ Φ.1 else if c < j then low / 2 ^ (Φ.1 * c) % 2 ^ Φ.1 else 0))) (by omega) (FT_congr (fun c h1 h2 => pD_ne (by
      have := hne (c - k) (by omega)
      omega)) hF) (fun c hc => by
      rw [pD_lt hc]
      dsimp only [rI]
      by_cases e : c = j
      · rw [if_pos e, if_pos (by omega), e]
      · rw [if_neg e]
        by_cases e2 : c < j
        · rw [if_pos e2, if_pos (by omega)]
        · rw [if_neg e2, if_neg (by omega)])
    refine ⟨D', ?_, R2, fun q hq => by rw [f2 q hq, pD_ne hq]⟩
    rw [vX_putMonic_7, if_pos (by omega), vX_putMonic_13, aGF (kF hk), aGF (kF hk), hD, hF.2.1, hD, hF.2.2.2.2.2.1, w32_ml (by omega), jush_n hl (by omega), show w32 (((2 ^ Φ.1 : Nat) : Int) - 1) = ((2 ^ Φ.1 - 1 : Nat) : Int) by unfold w32; omega, jand_k _ (by omega) hlj, aGF (kP ho), q1, aVC, tlN, vX_putMonic_35, w32_s (by omega), q2]
theorem putMonic_spec {k o : Nat} (hk : isF k) (ho : isP o) (hne : ∀ j, j < 5 → o + 1 ≠ k + j) {low n : Nat} (hl : low < 2147483648) (hmn : Φ.1 * n ≤ 12) (hn : n ≤ 12) (hF : FT Φ D k) : ∃ D', Vl (d + 1) 116 0 [some (.inr (.inr (some k))), some (.inr (.inr (some o))), some (.inl (low : Int)), some (.inl (n : Int)), none] [] (hp ω D) = some ((0, none), hp ω D') ∧ PR D' (o + 1) (mnc Φ low n) ∧ ∀ q, q ≠ o + 1 → D' q = D q := by
  have q1 := clearF (ω := ω) (D := D) (d := d) ho
  obtain ⟨D', q2, R2, f2⟩ := putMonic_loop (ω := ω) (d := d) hk ho hne hl hmn hn n 0 (pD D (o + 1) (rI p0)) (by omega) (FT_congr (fun c h1 h2 => pD_ne (by
      have := hne (c - k) (by omega)
      omega)) hF) (fun c hc => by
      rw [pD_lt hc]
      dsimp only [rI, p0]
      rw [if_neg (by omega)])
  rw [show ((0 : Nat) : Int) = 0 from rfl] at q2
  refine ⟨D', ?_, R2, fun q hq => by rw [f2 q hq, pD_ne hq]⟩
  rw [vX_putMonic_0, aGF (kP ho), q1, aVC, tlN, vX_putMonic_4, q2]
/-- a candidate is laid down and tried -/
theorem tryMonic {f o low n : Nat} (hF : FT Φ D 76) (hf : isP f) (ho : isP o) (ho2 : o = 280 ∨ o = 282) (hfo : f ≠ o) (f1 : f ≠ 89) (f2 : f ≠ 91) (f3 : f ≠ 95) (hl : low < 2147483648) (hmn : Φ.1 * n ≤ 12) (hn : n ≤ 12) {F : pl} (RF : PR D (f + 1) F) (oF : pOK Φ F) : ∃ D1 D2, Vl (d + 2) 116 0 [some (.inr (.inr (some 76))), some (.inr (.inr (some o))), some (.inl (low : Int)), some (.inl (n : Int)), none] [] (hp ω D) = some ((0, none), hp ω D1) ∧ Vl (d + 2) 117 0 [some (.inr (.inr (some 75))), some (.inr (.inr (some o))), some (.inr (.inr (some f)))] [] (hp ω D1) = some ((0, some (.inl (if isDv Φ F (mnc Φ low n) = true then 1 else 0))), hp ω D2) ∧ PR D2 (o + 1) (mnc Φ low n) ∧ (∀ q, q ≠ o + 1 → D1 q = D q) ∧ ∀ q, q ≠ o + 1 → q ≠ 90 → q ≠ 92 → q ≠ 96 → D2 q = D q := by
  obtain ⟨D1, q1, R1, g1⟩ := putMonic_spec (ω := ω) (d := d + 1) tF_76 ho (fun j hj => by omega) hl hmn hn hF
  obtain ⟨o1, s1⟩ := mnc_OK hF.1 low (show n < 17 by omega)
  obtain ⟨D2, q2, g2⟩ := dividesFromRight_spec (ω := ω) (d := d) tK_75 (FT_congr (fun c h1 h2 => g1 c (by omega)) hF) hf ho (by omega) (by omega) (by omega) (by omega) (by omega) (by omega) (PR_ne (g1 _ (by omega)) RF) R1 oF o1 (by omega)
  refine ⟨D1, D2, q1, ?_, PR_ne (g2 _ (by omega) (by omega) (by omega)) R1, g1, fun q h1 h2 h3 h4 => by rw [g2 q (by omega) (by omega) (by omega), g1 q h1]⟩
  rw [q2]
  unfold isDv
  by_cases hz : sz (lvr Φ F (mono 1 0) (mnc Φ low n)) = 0
  · rw [if_pos hz, decide_eq_true hz, if_pos rfl]
  · rw [if_neg hz, decide_eq_false hz, if_neg (by decide)]
theorem divisor_loop {f n E : Nat} (hf : isP f) (hf1 : f < 66) (hmn : Φ.1 * n ≤ 12) (hn : n ≤ 12) (k : Int) {F : pl} (oF : pOK Φ F) (hE : E ≤ 4096) : ∀ (r low c : Nat) (D : jD), low + r = E → c ≤ low → FT Φ D 76 → PR D (f + 1) F → ∃ D', Vl (d + 3) 115 39 [some (.inr (.inr (some 279))), some (.inr (.inr (some 75))), some (.inr (.inr (some f))), some (.inl (n : Int)), some (.inl k), some (.inl (c : Int)), some (.inl (E : Int)), some (.inl (low : Int))] [] (hp ω D) = some ((0, some (.inl (dvsl Φ F n k E r low c))), hp ω D') ∧ ∀ q, q ≠ 281 → q ≠ 90 → q ≠ 92 → q ≠ 96 → D' q = D q
  | 0, low, c, D, hl, hc, hF, RF => by
    refine ⟨D, ?_, fun _ _ _ _ _ => rfl⟩
    rw [vX_divisor_39, if_neg (by omega), vX_divisor_94]
    unfold dvsl
    by_cases hk : k = -1
    · rw [if_pos hk, vX_divisor_100, vX_divisor_106, if_pos hk]
    · rw [if_neg hk, vX_divisor_105, vX_divisor_106, if_neg hk]
  | r + 1, low, c, D, hl, hc, hF, RF => by
    obtain ⟨D1, D2, q1, q2, R2, g1, g2⟩ := tryMonic (ω := ω) (d := d) (Φ := Φ) (o := 280) hF hf i280 (Or.inl rfl) (by omega) (by omega) (by omega) (by omega) (show low < 2147483648 by omega) hmn hn RF oF
    have st : Vl (d + 3) 115 39 [some (.inr (.inr (some 279))), some (.inr (.inr (some 75))), some (.inr (.inr (some f))), some (.inl (n : Int)), some (.inl k), some (.inl (c : Int)), some (.inl (E : Int)), some (.inl (low : Int))] [] (hp ω D) = Vl (d + 3) 115 69 [some (.inr (.inr (some 279))), some (.inr (.inr (some 75))), some (.inr (.inr (some f))), some (.inl (n : Int)), some (.inl k), some (.inl (c : Int)), some (.inl (E : Int)), some (.inl (low : Int))] [.inl (if isDv Φ F (mnc Φ low n) = true then 1 else 0)] (hp ω D2) := by
      rw [vX_divisor_39, if_pos (by omega)]
      simp only [vX_divisor_46, aGF (kK tK_75), aGF kX, q75_0, rX_0, q1, aVC, tlS, tlN, aLt, hwD, vX_divisor_60, q2]
    have F2 : FT Φ D2 76 := FT_congr (fun q _ _ => g2 q (by omega) (by omega) (by omega) (by omega)) hF
    have R2f : PR D2 (f + 1) F := PR_ne (g2 _ (by omega) (by omega) (by omega) (by omega)) RF
    rw [st, vX_divisor_69]
    unfold dvsl
    by_cases h1 : isDv Φ F (mnc Φ low n) = true
    · rw [if_pos h1, if_neg (by decide), vX_divisor_72, if_pos h1]
      by_cases h2 : (c : Int) = k
      · rw [if_pos h2, vX_divisor_79, if_pos h2, w32_ad (by omega)]
        exact ⟨D2, rfl, fun q a b c d => g2 q a b c d⟩
      · rw [if_neg h2, vX_divisor_85, vX_divisor_88, w32_s (by omega), w32_s (by omega), if_neg h2]
        obtain ⟨D', q3, g3⟩ := divisor_loop hf hf1 hmn hn k oF hE r (low + 1) (c + 1) D2 (by omega) (by omega) F2 R2f
        exact ⟨D', q3, fun q a b c d => by rw [g3 q a b c d, g2 q a b c d]⟩
    · rw [if_neg h1, if_pos rfl, vX_divisor_88, w32_s (by omega), if_neg h1]
      obtain ⟨D', q3, g3⟩ := divisor_loop hf hf1 hmn hn k oF hE r (low + 1) c D2 (by omega) (by omega) F2 R2f
      exact ⟨D', q3, fun q a b c d => by rw [g3 q a b c d, g2 q a b c d]⟩
theorem dvE_le {F : pl} {n : Nat} (hmn : Φ.1 * n ≤ 12) : dvE Φ F n ≤ 4096 := by
  unfold dvE
  split
  · omega
  · exact Nat.pow_le_pow_right (n := 2) (by decide) hmn
theorem divisors_op (h : CS D A) (i n k : Int) (hk9 : -2147483648 ≤ k) : ∃ D', Vl (d + 4) 113 0 [some (.inr (.inr (some 0))), some (.inl i), some (.inl n), some (.inl k), none] [] (hp ω D) = some ((0, some (.inl (oDivisors A i n k))), hp ω D') ∧ CS D' A ∧ ∀ q, 488 ≤ q → D' q = D q := by
  have hF : FT (aF A) D 76 := h.2.2.2.1
  have h8 := F_m8 hF.1
  have h1m := F_m1 hF.1
  unfold oDivisors
  simp only [vC_divisors_0, aGF kC, rC_0, rC_1, rC_2, rC_3, rC_4, rC_5, rC_6, rC_7, rC_8, rC_9, rC_10, rC_11, rC_12, aGF kA, rA_0, aGF (kT tT_3), aGF (kK tK_75), aGF (kF tF_76), q75_0, q75_1, q75_2, q75_3, q75_4, q75_6, q75_7, q75_8, q75_9, q75_10, q75_11, q75_12, q75_13, q75_14, q75_15, q75_16, aGF (kP i67), aGF (kP i69), aGF (kP i71), aGF (kP i73), aGF (kP i363), aGF (kP i81), aGF (kP i83), aGF (kP i85), aGF (kP i87), aGF (kP i89), aGF (kP i91), aGF (kP i93), aGF (kP i95), aGF (kP i97), aGF (kP i99), aGF (kP i101), aGF (kP i103), aGF (kP i105), aGF (kP i107), aGF (kP i109), named3 h, aVC, tlS, tlN, aLt, hwD]
  rw [vC_divisors_8]
  by_cases h1 : aN A i
  rotate_left
  · rw [if_neg h1, if_neg (fun q => h1 q.1.1)]
    refine ⟨D, ?_, h, fun _ _ => rfl⟩
    show Vl (d + 4) 113 41 _ [] _ = _
    rw [vC_divisors_41]
  rw [if_pos h1]
  show ∃ D', Vl (d + 4) 113 15 _ [] _ = _ ∧ _
  obtain ⟨p1, p2, p3, hi⟩ := CS_nm h h1
  have z1 := isZeroF (ω := ω) (d := d + 2) p1 p2
  rw [vC_divisors_15, aGF (kP p1), z1, aVC, tlS, vC_divisors_20]
  by_cases h2 : sz (an A i) = 0
  · rw [if_pos h2, if_neg (by decide), vC_divisors_41, if_neg (fun q => q.1.2 h2)]
    exact ⟨D, rfl, h, fun _ _ => rfl⟩
  rw [if_neg h2, if_pos rfl, vC_divisors_23]
  by_cases h3 : n < 0
  · rw [if_pos h3, vC_divisors_41, if_neg (fun q => absurd q.2.1 (by omega))]
    exact ⟨D, rfl, h, fun _ _ => rfl⟩
  rw [if_neg h3]
  simp only [vC_divisors_27, aGF kC, rC_0, rC_1, rC_2, rC_3, rC_4, rC_5, rC_6, rC_7, rC_8, rC_9, rC_10, rC_11, rC_12, aGF kA, rA_0, aGF (kT tT_3), aGF (kK tK_75), aGF (kF tF_76), q75_0, q75_1, q75_2, q75_3, q75_4, q75_6, q75_7, q75_8, q75_9, q75_10, q75_11, q75_12, q75_13, q75_14, q75_15, q75_16, aGF (kP i67), aGF (kP i69), aGF (kP i71), aGF (kP i73), aGF (kP i363), aGF (kP i81), aGF (kP i83), aGF (kP i85), aGF (kP i87), aGF (kP i89), aGF (kP i91), aGF (kP i93), aGF (kP i95), aGF (kP i97), aGF (kP i99), aGF (kP i101), aGF (kP i103), aGF (kP i105), aGF (kP i107), aGF (kP i109), isFew_spec tF_76 hF (show -100 ≤ n by omega), aVC, tlS, tlN, aLt, hwD]
  rw [vC_divisors_38]
  by_cases h4 : n ≤ 12 ∧ n * ((aF A).1 : Int) ≤ 12
  rotate_left
  · rw [if_neg h4, if_pos rfl, vC_divisors_41, if_neg (fun q => h4 q.2.2)]
    exact ⟨D, rfl, h, fun _ _ => rfl⟩
  rw [if_pos h4, if_neg (by decide), if_pos ⟨⟨h1, h2⟩, by omega, h4⟩]
  obtain ⟨x, rfl⟩ := Int.eq_ofNat_of_zero_le (show 0 ≤ n by omega)
  rw [Int.toNat_natCast]
  have hx12 : x ≤ 12 := by omega
  have hmn : (aF A).1 * x ≤ 12 := by
    have := h4.2
    rw [← Int.natCast_mul, Nat.mul_comm] at this; omega
  have h17 := sz_le (an A i)
  have hlt : 2 ^ ((aF A).1 * x) ≤ 4096 := Nat.pow_le_pow_right (n := 2) (by decide) hmn
  simp only [vC_divisors_44, aGF kC, rC_0, rC_1, rC_2, rC_3, rC_4, rC_5, rC_6, rC_7, rC_8, rC_9, rC_10, rC_11, rC_12, aGF kA, rA_0, aGF (kT tT_3), aGF (kK tK_75), aGF (kF tF_76), q75_0, q75_1, q75_2, q75_3, q75_4, q75_6, q75_7, q75_8, q75_9, q75_10, q75_11, q75_12, q75_13, q75_14, q75_15, q75_16, aGF (kP i67), aGF (kP i69), aGF (kP i71), aGF (kP i73), aGF (kP i363), aGF (kP i81), aGF (kP i83), aGF (kP i85), aGF (kP i87), aGF (kP i89), aGF (kP i91), aGF (kP i93), aGF (kP i95), aGF (kP i97), aGF (kP i99), aGF (kP i101), aGF (kP i103), aGF (kP i105), aGF (kP i107), aGF (kP i109), aGF kX]
  by_cases h5 : k < -1
  · rw [vX_divisor_0, if_pos h5, vX_divisor_6, if_pos h5]
    refine ⟨D, ?_, h, fun _ _ => rfl⟩
    simp only [aVC, tlS, tlN, aLt, hwD, vC_divisors_59]
  rw [if_neg h5]
  obtain ⟨D', q3, g3⟩ := divisor_loop (ω := ω) (d := d) p1 (by omega) hmn hx12 k p3 (dvE_le (F := an A i) hmn) (dvE (aF A) (an A i) x) 0 0 D (by omega) (by omega) hF p2
  rw [show ((0 : Nat) : Int) = 0 from rfl] at q3
  have sx : Vl (d + 3) 115 0 [some (.inr (.inr (some 279))), some (.inr (.inr (some 75))), some (.inr (.inr (some (5 + 2 * i.toNat)))), some (.inl (x : Int)), some (.inl k), none, none, none] [] (hp ω D) = some ((0, some (.inl (dvsl (aF A) (an A i) x k (dvE (aF A) (an A i) x) (dvE (aF A) (an A i) x) 0 0))), hp ω D') := by
    rw [← q3, vX_divisor_0, if_neg h5, vX_divisor_8, aGF (kP p1), topF p1 p2, aVC, tlS, vX_divisor_16]
    unfold dvE
    by_cases h6 : sz (an A i) ≤ x
    · rw [if_pos (by omega), vX_divisor_19, vX_divisor_34, if_pos h6]; rfl
    · rw [if_neg (by omega), vX_divisor_23, aGF (kK tK_75), q75_0, aGF (kF tF_76), hD, hF.2.1, w32_ml (by omega), vX_divisor_34, if_neg h6]
      have := jshl_n (a := 1) (k := (aF A).1 * x) (by omega) (by omega)
      rw [Nat.one_mul] at this
      rw [show ((1 : Nat) : Int) = 1 from rfl] at this
      rw [this]
  rw [sx]
  refine ⟨D', ?_, CS_same h (fun c hc => g3 c (by unfold kept at hc; omega) (by unfold kept at hc; omega) (by unfold kept at hc; omega) (by unfold kept at hc; omega)), fun q hq => g3 q (by omega) (by omega) (by omega) (by omega)⟩
  simp only [aVC, tlS, tlN, aLt, hwD, vC_divisors_59]
end DIVS
