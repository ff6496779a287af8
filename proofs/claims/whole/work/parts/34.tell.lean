/-! THE CLASS'S TABLES ARE MADE -/
/-- the field, its turns and slopes not yet -/
def FP (Φ : gF) (D : jD) (k : Nat) : Prop := FOK Φ ∧ D k 0 = (Φ.1 : Int) ∧ D k 1 = (Φ.2.1 : Int) ∧ D k 2 = (Φ.2.2.1 : Int) ∧ D k 3 = (Φ.2.2.2 : Int) ∧ D k 4 = ((2 ^ Φ.1 : Nat) : Int) ∧ D k 5 = (rd Φ : Int) ∧ ∃ g, g < 2 ^ Φ.1 ∧ gck Φ.1 Φ.2.1 g (2 ^ Φ.1 - 1) 1 0 = true ∧ (∀ i, i < 2 * (2 ^ Φ.1 - 1) → D (k + 1) i = (gpw Φ.1 Φ.2.1 g i : Int)) ∧ ∀ i, i < 2 ^ Φ.1 - 1 → D (k + 2) (gpw Φ.1 Φ.2.1 g i) = (i : Int)
theorem gmn_hi (m p : Nat) : ∀ n j a b, b < 2 ^ n → gmn m p (n + j) a b = gmn m p n a b
  | 0, j, a, b, h => by
    have : b = 0 := by simpa using h
    subst this
    rw [Nat.zero_add, gmn_0r]; rfl
  | n + 1, j, a, b, h => by
    rw [show n + 1 + j = (n + j) + 1 by omega]
    unfold gmn
    rw [gmn_hi m p n j _ _ (by rw [Nat.pow_succ] at h; omega)]
theorem gst_eq {m p x : Nat} (hm : 1 ≤ m) : gst m p x = if (2 * x) / 2 ^ m % 2 = 1 then 2 * x ^^^ p else 2 * x := by
  obtain ⟨k, rfl⟩ : ∃ k, m = k + 1 := ⟨m - 1, by omega⟩
  unfold gst
  rw [Nat.add_sub_cancel, Nat.testBit_eq_decide_div_mod_eq]
  have e : 2 * x / 2 ^ (k + 1) = x / 2 ^ k := by
    rw [Nat.pow_succ, Nat.mul_comm (2 ^ k) 2, Nat.mul_div_mul_left _ _ (by decide)]
  rw [e]
  by_cases h : x / 2 ^ k % 2 = 1
  · rw [if_pos h, decide_eq_true h, if_pos rfl]
  · rw [if_neg h, decide_eq_false h, if_neg (by decide), Nat.xor_zero]
section TELL
variable {ω : jw} {D : jD} {k d : Nat}
theorem leastRound_loop (hk : isF k) {m s : Nat} (hm : 1 ≤ m) (hm8 : m ≤ 8) (hs : s < m) (h0 : D k 0 = (m : Int)) (h2 : D k 2 = (s : Int)) : ∀ n r : Nat, m ≤ r + n → r < 100 → Vl d 16 2 [some (.inr (.inr (some k))), some (.inl (r : Int))] [] (hp ω D) = some ((0, some (.inl (rdl m s n r : Int))), hp ω D)
  | 0, r, hr, _ => by
    rw [vF_leastRound_2, aGF (kF hk), hD, h0, if_neg (by omega), vF_leastRound_39, aGF (kF hk), hD, h0]; rfl
  | n + 1, r, hr, hr9 => by
    rw [vF_leastRound_2, aGF (kF hk), hD, h0]
    unfold rdl
    by_cases h : r < m
    · have hrs : r * s < 8 * 8 := Nat.lt_of_le_of_lt (Nat.mul_le_mul_left r (Nat.le_of_lt hs)) (by
        have := Nat.mul_lt_mul_of_lt_of_le (show r < 8 by omega) hm8 (by omega)
        exact this)
      rw [if_pos (by omega), if_pos h, vF_leastRound_10, aGF (kF hk), hD, h0, if_pos (by omega), vF_leastRound_17, aGF (kF hk), aGF (kF hk), hD, hD, h0, h2, if_neg (by omega), w32_ml (by omega), ← Int.ofNat_tmod]
      by_cases hz : r * s % m = 0
      · rw [if_pos (by omega), vF_leastRound_31, if_pos hz]
      · rw [if_neg (by omega), vF_leastRound_33, if_neg hz, w32_s (by omega)]
        exact leastRound_loop hk hm hm8 hs h0 h2 n (r + 1) (by omega) (by omega)
    · rw [if_neg (by omega), if_neg h, vF_leastRound_39, aGF (kF hk), hD, h0]
theorem longProduct_loop (hk : isF k) {m p : Nat} (h : gok m p) (h0 : D k 0 = (m : Int)) (h1 : D k 1 = (p : Int)) (x1 : Int) {b : Nat} (hb : b < 2 ^ m) : ∀ n j s x : Nat, j + n = m → s < 2 ^ m → x < 2 ^ m → Vl d 18 8 [some (.inr (.inr (some k))), some (.inl x1), some (.inl (b : Int)), some (.inl (s : Int)), some (.inl (x : Int)), some (.inl (j : Int))] [] (hp ω D) = some ((0, some (.inl ((s ^^^ gmn m p n x (b / 2 ^ j) : Nat) : Int))), hp ω D)
  | 0, j, s, x, hj, hs, hx => by
    rw [vF_longProduct_8, aGF (kF hk), hD, h0, if_neg (by omega), vF_longProduct_66]
    rw [show gmn m p 0 x (b / 2 ^ j) = 0 from rfl, Nat.xor_zero]
  | n + 1, j, s, x, hj, hs, hx => by
    have hm8 := h.2.1
    have h256 : 2 ^ m ≤ 256 := Nat.pow_le_pow_right (n := 2) (by decide) hm8
    have hp9 : p < 512 := Nat.lt_of_lt_of_le h.2.2.2 (Nat.pow_le_pow_right (n := 2) (by decide) (show m + 1 ≤ 9 by omega))
    have hbj : b / 2 ^ j < 256 := Nat.lt_of_le_of_lt (Nat.div_le_self _ _) (by omega)
    have hlt := gst_lt h hx
    have ee : b / 2 ^ (j + 1) = b / 2 ^ j / 2 := by rw [Nat.pow_succ, Nat.div_div_eq_div_mul]
    rw [vF_longProduct_8, aGF (kF hk), hD, h0, if_pos (by omega), vF_longProduct_17, jush_n (by omega) (by omega), jand_1 (by omega)]
    unfold gmn
    have body : ∀ s' : Nat, s' < 2 ^ m → Vl d 18 32 [some (.inr (.inr (some k))), some (.inl x1), some (.inl (b : Int)), some (.inl (s' : Int)), some (.inl (x : Int)), some (.inl (j : Int))] [] (hp ω D) = some ((0, some (.inl ((s' ^^^ gmn m p n (gst m p x) (b / 2 ^ j / 2) : Nat) : Int))), hp ω D) := by
      intro s' hs'
      have e1 : jshl (x : Int) 1 = ((2 * x : Nat) : Int) := by
        have := jshl_n (a := x) (k := 1) (by decide) (by omega)
        rw [show ((1 : Nat) : Int) = 1 from rfl] at this
        rw [this, show x * 2 ^ 1 = 2 * x by omega]
      rw [vF_longProduct_32, aGF (kF hk), hD, h0, e1, jush_n (by omega) (by omega), jand_1 (Nat.lt_of_le_of_lt (Nat.div_le_self _ _) (by omega))]
      rw [gst_eq h.1] at hlt ⊢
      by_cases hq : 2 * x / 2 ^ m % 2 = 1
      · rw [if_pos hq] at hlt ⊢
        rw [if_pos (by omega), vF_longProduct_51, aGF (kF hk), hD, h1, jxor_n (by omega) (by omega), vF_longProduct_60, w32_s (by omega), longProduct_loop hk h h0 h1 x1 hb n (j + 1) s' _ (by omega) hs' hlt, ee]
      · rw [if_neg hq] at hlt ⊢
        rw [if_neg (by omega), vF_longProduct_60, w32_s (by omega), longProduct_loop hk h h0 h1 x1 hb n (j + 1) s' _ (by omega) hs' hlt, ee]
    by_cases hq : b / 2 ^ j % 2 = 1
    · rw [if_pos (by omega), vF_longProduct_27, jxor_n (by omega) (by omega), body _ (x_lt hs hx), if_pos hq, xr_a]
    · rw [if_neg (by omega), body s hs, if_neg hq, Nat.zero_xor]
theorem longProduct_spec (hk : isF k) {m p : Nat} (h : gok m p) (h0 : D k 0 = (m : Int)) (h1 : D k 1 = (p : Int)) {a b : Nat} (ha : a < 2 ^ m) (hb : b < 2 ^ m) : Vl d 18 0 [some (.inr (.inr (some k))), some (.inl (a : Int)), some (.inl (b : Int)), none, none, none] [] (hp ω D) = some ((0, some (.inl (gm m p a b : Int))), hp ω D) := by
  have := longProduct_loop (ω := ω) (D := D) (d := d) hk h h0 h1 (a : Int) hb m 0 0 a (by omega) (Nat.two_pow_pos m) ha
  rw [show ((0 : Nat) : Int) = 0 from rfl, Nat.pow_zero, Nat.div_one, Nat.zero_xor] at this
  rw [vF_longProduct_0, this]
  unfold gm
  rw [show 8 = m + (8 - m) by have := h.2.1; omega, gmn_hi m p m (8 - m) a b hb]
/-- the numbers of a field, no tables -/
def FN (D : jD) (k m p : Nat) : Prop := D k 0 = (m : Int) ∧ D k 1 = (p : Int) ∧ D k 4 = ((2 ^ m : Nat) : Int)
theorem fillPowers_loop (hk : isF k) {m p g : Nat} (h : gok m p) (hg : g < 2 ^ m) : ∀ (n j : Nat) (D : jD), j + n = 2 ^ m - 1 → FN D k m p → (∀ i, i < j → D (k + 1) i = (gpw m p g i : Int) ∧ D (k + 1) (i + (2 ^ m - 1)) = (gpw m p g i : Int)) → (∀ i, i < j → (∀ q, i < q → q < j → gpw m p g q ≠ gpw m p g i) → D (k + 2) (gpw m p g i) = (i : Int)) →
    ∃ D', Vl (d + 1) 17 4 [some (.inr (.inr (some k))), some (.inl (g : Int)), some (.inl (gpw m p g j : Int)), some (.inl (j : Int))] [] (hp ω D) = some ((0, some (.inl (if gps m p g n (gpw m p g j) (decide (j = 0)) = true then 1 else 0))), hp ω D') ∧ (∀ c, c ≠ k + 1 → c ≠ k + 2 → D' c = D c) ∧ (gps m p g n (gpw m p g j) (decide (j = 0)) = true → (∀ i, i < 2 ^ m - 1 → D' (k + 1) i = (gpw m p g i : Int) ∧ D' (k + 1) (i + (2 ^ m - 1)) = (gpw m p g i : Int)) ∧ ∀ i, i < 2 ^ m - 1 → (∀ q, i < q → q < 2 ^ m - 1 → gpw m p g q ≠ gpw m p g i) → D' (k + 2) (gpw m p g i) = (i : Int))
  | 0, j, D, hj, hN, hP, hL => by
    refine ⟨D, ?_, fun _ _ _ => rfl, fun _ => ⟨fun i hi => hP i (by omega), fun i hi hq => hL i (by omega) (fun q h1 h2 => hq q h1 (by omega))⟩⟩
    rw [vF_fillPowers_4, aGF (kF hk), hD, hN.2.2, if_neg (by unfold w32; omega), vF_fillPowers_78]
    rfl
  | n + 1, j, D, hj, hN, hP, hL => by
    have h256 : 2 ^ m ≤ 256 := Nat.pow_le_pow_right (n := 2) (by decide) h.2.1
    have hr := gpw_lt (g := g) h j
    have entry : Vl (d + 1) 17 4 [some (.inr (.inr (some k))), some (.inl (g : Int)), some (.inl (gpw m p g j : Int)), some (.inl (j : Int))] [] (hp ω D) = Vl (d + 1) 17 14 [some (.inr (.inr (some k))), some (.inl (g : Int)), some (.inl (gpw m p g j : Int)), some (.inl (j : Int))] [] (hp ω D) := by
      rw [vF_fillPowers_4, aGF (kF hk), hD, hN.2.2, if_pos (by unfold w32; omega)]
    rw [entry]
    unfold gps
    by_cases hstop : j ≠ 0 ∧ gpw m p g j = 1
    · refine ⟨D, ?_, fun _ _ _ => rfl, fun q => ?_⟩
      · rw [vF_fillPowers_14, if_pos (by omega), vF_fillPowers_18, if_pos (by omega), vF_fillPowers_23, decide_eq_false hstop.1, hstop.2]
        rfl
      · rw [decide_eq_false hstop.1, hstop.2] at q
        cases q
    · have hgo : Vl (d + 1) 17 14 [some (.inr (.inr (some k))), some (.inl (g : Int)), some (.inl (gpw m p g j : Int)), some (.inl (j : Int))] [] (hp ω D) = Vl (d + 1) 17 25 [some (.inr (.inr (some k))), some (.inl (g : Int)), some (.inl (gpw m p g j : Int)), some (.inl (j : Int))] [] (hp ω D) := by
        rw [vF_fillPowers_14]
        by_cases hj0 : j = 0
        · rw [if_neg (by omega)]
        · rw [if_pos (by omega), vF_fillPowers_18, if_neg (by omega)]
      have hb : (decide (j = 0) || gpw m p g j != 1) = true := by
        by_cases hj0 : j = 0
        · rw [decide_eq_true hj0]; rfl
        · have : gpw m p g j ≠ 1 := fun q => hstop ⟨hj0, q⟩
          rw [bne_iff_ne.mpr this, Bool.or_true]
      rw [hgo, hb, Bool.true_and]
      obtain ⟨D1, hD1⟩ : ∃ D1, D1 = sD (sD (sD D (k + 1) j (gpw m p g j : Int)) (k + 1) (j + (2 ^ m - 1)) (gpw m p g j : Int)) (k + 2) (gpw m p g j) (j : Int) := ⟨_, rfl⟩
      have f1 : ∀ c, c ≠ k + 1 → c ≠ k + 2 → D1 c = D c := fun c h1 h2 => by rw [hD1, sD_ne h2, sD_ne h1, sD_ne h1]
      have N1 : FN D1 k m p := by unfold FN; rw [f1 k (by omega) (by omega)]; exact hN
      have q1 := longProduct_spec (ω := ω) (d := d) hk h N1.1 N1.2.1 hr hg
      have hstep : Vl (d + 1) 17 25 [some (.inr (.inr (some k))), some (.inl (g : Int)), some (.inl (gpw m p g j : Int)), some (.inl (j : Int))] [] (hp ω D) = Vl (d + 1) 17 4 [some (.inr (.inr (some k))), some (.inl (g : Int)), some (.inl (gpw m p g (j + 1) : Int)), some (.inl ((j + 1 : Nat) : Int))] [] (hp ω D1) := by
        rw [vF_fillPowers_25, aGF (kF hk), rF_6 hk, jand_511 (by omega), Nat.mod_eq_of_lt (by omega), aIS (kF_1 hk), if_pos (by omega), Int.toNat_natCast, aGF (kF hk), aGF (kF hk), rF_6 hk, hD, sD_ne (show k ≠ k + 1 by omega), hN.2.2, show w32 (w32 ((j : Int) + ((2 ^ m : Nat) : Int)) - 1) = ((j + (2 ^ m - 1) : Nat) : Int) by unfold w32; omega, jand_511 (by omega), Nat.mod_eq_of_lt (by omega), aIS (kF_1 hk), if_pos (by omega), Int.toNat_natCast, aGF (kF hk), rF_7 hk, jand_i (by omega), aIS (kF_2 hk), if_pos (by omega), Int.toNat_natCast, aGF (kF hk), ← hD1, q1, aVC, tlS, vF_fillPowers_71, w32_s (by omega)]
        rfl
      have P1 : ∀ i, i < j + 1 → D1 (k + 1) i = (gpw m p g i : Int) ∧ D1 (k + 1) (i + (2 ^ m - 1)) = (gpw m p g i : Int) := by
        intro i hi
        rw [hD1, sD_ne (show k + 1 ≠ k + 2 by omega)]
        by_cases hij : i = j
        · subst hij
          exact ⟨by rw [sD_nb (show i ≠ i + (2 ^ m - 1) by omega), sD_eq], sD_eq⟩
        · have := hP i (by omega)
          exact ⟨by rw [sD_nb (by omega), sD_nb (by omega)]; exact this.1, by rw [sD_nb (by omega), sD_nb (by omega)]; exact this.2⟩
      have L1 : ∀ i, i < j + 1 → (∀ q, i < q → q < j + 1 → gpw m p g q ≠ gpw m p g i) → D1 (k + 2) (gpw m p g i) = (i : Int) := by
        intro i hi hq
        by_cases hij : i = j
        · subst hij; rw [hD1, sD_eq]
        · rw [hD1, sD_nb (fun e => hq j (by omega) (by omega) e.symm), sD_ne (by omega), sD_ne (by omega)]
          exact hL i (by omega) (fun q h1 h2 => hq q h1 (by omega))
      obtain ⟨D', a1, a2, a3⟩ := fillPowers_loop hk h hg n (j + 1) D1 (by omega) N1 P1 L1
      rw [decide_eq_false (show ¬ (j + 1 = 0) by omega)] at a1 a3
      refine ⟨D', ?_, fun c h1 h2 => by rw [a2 c h1 h2, f1 c h1 h2], a3⟩
      rw [hstep]; exact a1
theorem fillPowers_spec (hk : isF k) {m p g : Nat} (h : gok m p) (hg : g < 2 ^ m) (hN : FN D k m p) :
    ∃ D', Vl (d + 1) 17 0 [some (.inr (.inr (some k))), some (.inl (g : Int)), none, none] [] (hp ω D) = some ((0, some (.inl (if gps m p g (2 ^ m - 1) 1 true = true then 1 else 0))), hp ω D') ∧ (∀ c, c ≠ k + 1 → c ≠ k + 2 → D' c = D c) ∧ (gps m p g (2 ^ m - 1) 1 true = true → (∀ i, i < 2 ^ m - 1 → D' (k + 1) i = (gpw m p g i : Int) ∧ D' (k + 1) (i + (2 ^ m - 1)) = (gpw m p g i : Int)) ∧ ∀ i, i < 2 ^ m - 1 → (∀ q, i < q → q < 2 ^ m - 1 → gpw m p g q ≠ gpw m p g i) → D' (k + 2) (gpw m p g i) = (i : Int)) := by
  obtain ⟨D', a1, a2, a3⟩ := fillPowers_loop (ω := ω) (d := d) hk h hg (2 ^ m - 1) 0 D (by omega) hN (fun i hi => absurd hi (by omega)) (fun i hi => absurd hi (by omega))
  rw [vF_fillPowers_0]
  exact ⟨D', a1, a2, a3⟩
/-- the search for a number with all powers -/
theorem tell_search (hk : isF k) {m p g : Nat} (h : gok m p) (hg : g < 2 ^ m) (hok : gps m p g (2 ^ m - 1) 1 true = true) (hno : ∀ b, 1 ≤ b → b < g → gps m p b (2 ^ m - 1) 1 true = false) (x1 x2 x3 x4 : Int) : ∀ (n a : Nat) (D : jD), a + n = g → 1 ≤ a → FN D k m p →
    ∃ D', Vl (d + 2) 15 57 [some (.inr (.inr (some k))), some (.inl x1), some (.inl x2), some (.inl x3), some (.inl x4), some (.inl 0), some (.inl (a : Int)), none, none] [] (hp ω D) = Vl (d + 2) 15 88 [some (.inr (.inr (some k))), some (.inl x1), some (.inl x2), some (.inl x3), some (.inl x4), some (.inl 1), some (.inl 0), none, none] [] (hp ω D') ∧ (∀ c, c ≠ k + 1 → c ≠ k + 2 → D' c = D c) ∧ (∀ i, i < 2 ^ m - 1 → D' (k + 1) i = (gpw m p g i : Int) ∧ D' (k + 1) (i + (2 ^ m - 1)) = (gpw m p g i : Int)) ∧ ∀ i, i < 2 ^ m - 1 → (∀ q, i < q → q < 2 ^ m - 1 → gpw m p g q ≠ gpw m p g i) → D' (k + 2) (gpw m p g i) = (i : Int)
  | n, a, D, ha, ha1, hN => by
    have h256 : 2 ^ m ≤ 256 := Nat.pow_le_pow_right (n := 2) (by decide) h.2.1
    have hag : a < 2 ^ m := by omega
    obtain ⟨D1, q1, f1, r1⟩ := fillPowers_spec (ω := ω) (d := d) hk h hag hN
    have N1 : FN D1 k m p := by unfold FN; rw [f1 k (by omega) (by omega)]; exact hN
    have st : Vl (d + 2) 15 57 [some (.inr (.inr (some k))), some (.inl x1), some (.inl x2), some (.inl x3), some (.inl x4), some (.inl 0), some (.inl (a : Int)), none, none] [] (hp ω D) = Vl (d + 2) 15 57 [some (.inr (.inr (some k))), some (.inl x1), some (.inl x2), some (.inl x3), some (.inl x4), some (.inl (if gps m p a (2 ^ m - 1) 1 true = true then 1 else 0)), some (.inl ((a + 1 : Nat) : Int)), none, none] [] (hp ω D1) := by
      rw [vF_tell_57, aGF (kF hk), hD, hN.2.2, if_pos (by omega), vF_tell_66, if_pos rfl, vF_tell_71, aGF (kF hk), q1, aVC, tlS, vF_tell_77, w32_s (by omega)]
    match n, ha with
    | 0, ha =>
      have hag2 : a = g := by omega
      subst hag2
      rw [hok, if_pos rfl] at st
      obtain ⟨r2, r3⟩ := r1 hok
      refine ⟨D1, ?_, f1, r2, r3⟩
      rw [st, vF_tell_57, aGF (kF hk), hD, N1.2.2]
      by_cases hlast : a + 1 < 2 ^ m
      · rw [if_pos (by omega), vF_tell_66, if_neg (by decide), vF_tell_85]
      · rw [if_neg (by omega), vF_tell_85]
    | n + 1, ha =>
      rw [hno a ha1 (by omega), if_neg (by decide)] at st
      obtain ⟨D', a1, a2, a3⟩ := tell_search hk h hg hok hno x1 x2 x3 x4 n (a + 1) D1 (by omega) (by omega) N1
      exact ⟨D', by rw [st, a1], fun c h1 h2 => by rw [a2 c h1 h2, f1 c h1 h2], a3⟩
end TELL
section TELL2
variable {ω : jw} {D : jD} {k d : Nat} {Φ : gF}
theorem log_ofP (hF : FP Φ D k) {a : Nat} (ha : a < 2 ^ Φ.1) (h0 : a ≠ 0) : ∃ g i, g < 2 ^ Φ.1 ∧ i < 2 ^ Φ.1 - 1 ∧ gpw Φ.1 Φ.2.1 g i = a ∧ (∀ i, i < 2 * (2 ^ Φ.1 - 1) → D (k + 1) i = (gpw Φ.1 Φ.2.1 g i : Int)) ∧ D (k + 2) a = (i : Int) ∧ ∀ b, b < 2 ^ Φ.1 → b ≠ 0 → ∃ j, j < 2 ^ Φ.1 - 1 ∧ gpw Φ.1 Φ.2.1 g j = b ∧ D (k + 2) b = (j : Int) := by
  obtain ⟨g, g1, g2, g3, g4⟩ := hF.2.2.2.2.2.2.2
  obtain ⟨q1, q2, q3⟩ := g_log hF.1.1.1 g2
  have hb : ∀ b, b < 2 ^ Φ.1 → b ≠ 0 → ∃ j, j < 2 ^ Φ.1 - 1 ∧ gpw Φ.1 Φ.2.1 g j = b ∧ D (k + 2) b = (j : Int) := fun b hb h0 => by
    obtain ⟨j, j1, j2⟩ := q2 b (by omega) hb
    exact ⟨j, j1, j2, by rw [← j2]; exact g4 j j1⟩
  obtain ⟨i, i1, i2, i3⟩ := hb a ha h0
  exact ⟨g, i, g1, i1, i2, g3, i3, hb⟩
theorem product_specP (hk : isF k) (hF : FP Φ D k) {a b : Nat} (ha : a < 2 ^ Φ.1) (hb : b < 2 ^ Φ.1) : Vl d 19 0 [some (.inr (.inr (some k))), some (.inl (a : Int)), some (.inl (b : Int))] [] (hp ω D) = some ((0, some (.inl (fm Φ a b : Int))), hp ω D) := by
  have h256 := F_256 hF.1
  rw [vF_product_0]
  by_cases h1 : a = 0
  · subst h1
    rw [if_pos (by rfl), vF_product_8, fm_0l]; rfl
  rw [if_neg (by omega), vF_product_4]
  by_cases h2 : b = 0
  · subst h2
    rw [if_pos (by rfl), vF_product_8, fm_0r]; rfl
  rw [if_neg (by omega), vF_product_10]
  obtain ⟨g, i, g1, i1, i2, g3, i3, hl⟩ := log_ofP hF ha h1
  obtain ⟨j, j1, j2, j3⟩ := hl b hb h2
  rw [aGF (kF hk), aGF (kF hk), rF_7 hk, jand_i (by omega), aIA (kF_2 hk), if_pos (by omega), aGF (kF hk), rF_7 hk, jand_i (by omega), aIA (kF_2 hk), if_pos (by omega), Int.toNat_natCast, Int.toNat_natCast, i3, j3, w32_ad (by omega), jand_511 (by omega), Nat.mod_eq_of_lt (by omega), rF_6 hk, aIA (kF_1 hk), if_pos (by omega), Int.toNat_natCast, g3 _ (by omega), gpw_add hF.1.1.1 g1, i2, j2]
  rfl
theorem FP_fr {D' : jD} (hF : FP Φ D k) (h0 : D' k = D k) (h1 : D' (k + 1) = D (k + 1)) (h2 : D' (k + 2) = D (k + 2)) : FP Φ D' k := by
  unfold FP at hF ⊢
  rw [h0, h1, h2]; exact hF
theorem gsn_s (m p : Nat) (n a : Nat) : gsn m p (n + 1) a = gm m p (gsn m p n a) (gsn m p n a) := by
  rw [gsn_add]; rfl
theorem tell_turn (hk : isF k) (hF : FP Φ D k) (x1 x2 x3 x4 x5 x6 : Int) {a : Nat} (ha : a < 2 ^ Φ.1) : ∀ n j : Nat, j + n = Φ.2.2.1 → Vl (d + 1) 15 104 [some (.inr (.inr (some k))), some (.inl x1), some (.inl x2), some (.inl x3), some (.inl x4), some (.inl x5), some (.inl x6), some (.inl (gsn Φ.1 Φ.2.1 j a : Int)), some (.inl (j : Int))] [] (hp ω D) = Vl (d + 1) 15 129 [some (.inr (.inr (some k))), some (.inl x1), some (.inl x2), some (.inl x3), some (.inl x4), some (.inl x5), some (.inl x6), some (.inl (ft Φ a : Int)), some (.inl (Φ.2.2.1 : Int))] [] (hp ω D)
  | 0, j, hj => by
    rw [vF_tell_104, aGF (kF hk), hD, hF.2.2.2.1, if_neg (by omega)]
    unfold ft
    rw [show j = Φ.2.2.1 by omega]
  | n + 1, j, hj => by
    have hs := hF.1.2.1
    have h8 := F_m8 hF.1
    have hj2 := gsn_lt hF.1.1.1 j a ha
    rw [vF_tell_104, aGF (kF hk), hD, hF.2.2.2.1, if_pos (by omega), vF_tell_113, aGF (kF hk), product_specP hk hF hj2 hj2, aVC, tlS, vF_tell_121, w32_s (by omega)]
    have e : fm Φ (gsn Φ.1 Φ.2.1 j a) (gsn Φ.1 Φ.2.1 j a) = gsn Φ.1 Φ.2.1 (j + 1) a := (gsn_s _ _ j a).symm
    rw [e]
    exact tell_turn hk hF x1 x2 x3 x4 x5 x6 ha n (j + 1) (by omega)
theorem tell_fill (hk : isF k) (x1 x2 x3 x4 x5 : Int) : ∀ (n a : Nat) (u7 u8 : Option jv) (D : jD), a + n = 2 ^ Φ.1 → FP Φ D k → (∀ q, q < a → D (k + 3) q = (ft Φ q : Int) ∧ D (k + 4) q = (fs Φ q : Int)) →
    ∃ D', Vl (d + 1) 15 88 [some (.inr (.inr (some k))), some (.inl x1), some (.inl x2), some (.inl x3), some (.inl x4), some (.inl x5), some (.inl (a : Int)), u7, u8] [] (hp ω D) = some ((0, none), hp ω D') ∧ FT Φ D' k ∧ ∀ c, c ≠ k + 3 → c ≠ k + 4 → D' c = D c
  | 0, a, u7, u8, D, ha, hF, hT => by
    refine ⟨D, ?_, ⟨hF.1, hF.2.1, hF.2.2.1, hF.2.2.2.1, hF.2.2.2.2.1, hF.2.2.2.2.2.1, hF.2.2.2.2.2.2.1, hF.2.2.2.2.2.2.2, fun q hq => (hT q (by omega)).1, fun q hq => (hT q (by omega)).2⟩, fun _ _ _ => rfl⟩
    rw [vF_tell_88, aGF (kF hk), hD, hF.2.2.2.2.2.1, if_neg (by omega), vF_tell_172]
  | n + 1, a, u7, u8, D, ha, hF, hT => by
    have h256 := F_256 hF.1
    have ha2 : a < 2 ^ Φ.1 := by omega
    have t1 := tell_turn (ω := ω) (d := d) hk hF x1 x2 x3 x4 x5 (a : Int) ha2 Φ.2.2.1 0 (by omega)
    have hta := ft_lt hF.1 ha2
    have hsa := fs_lt hF.1 a
    rw [show gsn Φ.1 Φ.2.1 0 a = a from rfl, show ((0 : Nat) : Int) = 0 from rfl] at t1
    have F1 : FP Φ (sD D (k + 3) a (ft Φ a : Int)) k := FP_fr hF (sD_ne (by omega)) (sD_ne (by omega)) (sD_ne (by omega))
    have p1 := product_specP (ω := ω) (d := d) hk F1 hF.1.2.2 (x_lt hta ha2)
    have e3 : (sD D (k + 3) a (ft Φ a : Int)) k 3 = (Φ.2.2.2 : Int) := F1.2.2.2.2.1
    obtain ⟨D', a1, a2, a3⟩ := tell_fill hk x1 x2 x3 x4 x5 n (a + 1) (some (.inl (ft Φ a : Int))) (some (.inl (Φ.2.2.1 : Int))) (sD (sD D (k + 3) a (ft Φ a : Int)) (k + 4) a (fs Φ a : Int)) (by omega) (FP_fr F1 (sD_ne (by omega)) (sD_ne (by omega)) (sD_ne (by omega))) (fun q hq => by
      by_cases hqa : q = a
      · subst hqa
        exact ⟨by rw [sD_ne (by omega), sD_eq], sD_eq⟩
      · have := hT q (by omega)
        exact ⟨by rw [sD_ne (by omega), sD_nb hqa]; exact this.1, by rw [sD_nb hqa, sD_ne (by omega)]; exact this.2⟩)
    refine ⟨D', ?_, a2, fun c h1 h2 => by rw [a3 c h1 h2, sD_ne h2, sD_ne h1]⟩
    rw [vF_tell_88, aGF (kF hk), hD, hF.2.2.2.2.2.1, if_pos (by omega), vF_tell_97, t1, vF_tell_129, aGF (kF hk), rF_8 hk, jand_i (by omega), aIS (kF_3 hk), if_pos (by omega), Int.toNat_natCast, aGF (kF hk), aGF (kF hk), aGF (kF hk), hD, e3, jxor_n (by omega) (by omega), p1, aVC, tlS, vF_tell_165, rF_9 hk, aIS (kF_4 hk), if_pos (by omega), Int.toNat_natCast, w32_s (by omega)]
    exact a1
theorem tell_spec (hk : isF k) (h : FOK Φ) : ∃ D', Vl (d + 2) 15 0 [some (.inr (.inr (some k))), some (.inl (Φ.1 : Int)), some (.inl (Φ.2.1 : Int)), some (.inl (Φ.2.2.1 : Int)), some (.inl (Φ.2.2.2 : Int)), none, none, none, none] [] (hp ω D) = some ((0, none), hp ω D') ∧ FT Φ D' k ∧ ∀ c, (c < k ∨ k + 5 ≤ c) → D' c = D c := by
  have h8 := F_m8 h
  have h1 := F_m1 h
  have h256 := F_256 h
  obtain ⟨g, g1, g2, g3, g4, g5⟩ := g_gen h.1.1 h.1.2
  have esh : jshl 1 (Φ.1 : Int) = ((2 ^ Φ.1 : Nat) : Int) := by
    have := jshl_n (a := 1) (k := Φ.1) (by omega) (by omega)
    rw [Nat.one_mul] at this; exact this
  obtain ⟨D1, hD1⟩ : ∃ D1, D1 = sD (sD (sD (sD (sD D k 0 (Φ.1 : Int)) k 1 (Φ.2.1 : Int)) k 2 (Φ.2.2.1 : Int)) k 3 (Φ.2.2.2 : Int)) k 4 ((2 ^ Φ.1 : Nat) : Int) := ⟨_, rfl⟩
  have c0 : D1 k 0 = (Φ.1 : Int) := by rw [hD1, sD_nb (by decide), sD_nb (by decide), sD_nb (by decide), sD_nb (by decide), sD_eq]
  have c1 : D1 k 1 = (Φ.2.1 : Int) := by rw [hD1, sD_nb (by decide), sD_nb (by decide), sD_nb (by decide), sD_eq]
  have c2 : D1 k 2 = (Φ.2.2.1 : Int) := by rw [hD1, sD_nb (by decide), sD_nb (by decide), sD_eq]
  have c3 : D1 k 3 = (Φ.2.2.2 : Int) := by rw [hD1, sD_nb (by decide), sD_eq]
  have c4 : D1 k 4 = ((2 ^ Φ.1 : Nat) : Int) := by rw [hD1, sD_eq]
  have f1 : ∀ c, c ≠ k → D1 c = D c := fun c hc => by rw [hD1, sD_ne hc, sD_ne hc, sD_ne hc, sD_ne hc, sD_ne hc]
  have q1 := leastRound_loop (ω := ω) (d := d + 1) hk h1 h8 h.2.1 c0 c2 8 1 (by omega) (by decide)
  rw [show ((1 : Nat) : Int) = 1 from rfl] at q1
  have c40 : (sD (sD (sD (sD D k 0 (Φ.1 : Int)) k 1 (Φ.2.1 : Int)) k 2 (Φ.2.2.1 : Int)) k 3 (Φ.2.2.2 : Int)) k 0 = (Φ.1 : Int) := by rw [sD_nb (by decide), sD_nb (by decide), sD_nb (by decide), sD_eq]
  obtain ⟨D3, q3, f3, P3, L3⟩ := tell_search (ω := ω) (d := d) hk h.1.1 g2 g3 g5 (Φ.1 : Int) (Φ.2.1 : Int) (Φ.2.2.1 : Int) (Φ.2.2.2 : Int) (g - 1) 1 (sD D1 k 5 (rd Φ : Int)) (by omega) (by omega) ⟨by rw [sD_nb (by decide)]; exact c0, by rw [sD_nb (by decide)]; exact c1, by rw [sD_nb (by decide)]; exact c4⟩
  rw [show ((1 : Nat) : Int) = 1 from rfl] at q3
  have e3 : D3 k = sD D1 k 5 (rd Φ : Int) k := f3 k (by omega) (by omega)
  have FP3 : FP Φ D3 k := by
    refine ⟨h, by rw [e3, sD_nb (by decide)]; exact c0, by rw [e3, sD_nb (by decide)]; exact c1, by rw [e3, sD_nb (by decide)]; exact c2, by rw [e3, sD_nb (by decide)]; exact c3, by rw [e3, sD_nb (by decide)]; exact c4, by rw [e3, sD_eq], g, g2, g4, fun i hi => ?_, fun i hi => ?_⟩
    · by_cases hi2 : i < 2 ^ Φ.1 - 1
      · exact (P3 i hi2).1
      · have := (P3 (i - (2 ^ Φ.1 - 1)) (by omega)).2
        rw [show i - (2 ^ Φ.1 - 1) + (2 ^ Φ.1 - 1) = i by omega] at this
        rw [this, show i = i - (2 ^ Φ.1 - 1) + (2 ^ Φ.1 - 1) by omega, gpw_add h.1.1 g2, (g_log h.1.1 g4).1, gm_1r, Nat.add_sub_cancel]
    · exact L3 i hi (fun q h5 h6 e => by
        have := g_inj h.1.1 g2 g4 h6 hi e; omega)
  obtain ⟨D4, q4, T4, f4⟩ := tell_fill (ω := ω) (d := d + 1) hk (Φ.1 : Int) (Φ.2.1 : Int) (Φ.2.2.1 : Int) (Φ.2.2.2 : Int) 1 (2 ^ Φ.1) 0 none none D3 (by omega) FP3 (fun q hq => absurd hq (by omega))
  rw [show ((0 : Nat) : Int) = 0 from rfl] at q4
  refine ⟨D4, ?_, T4, fun c hc => by rw [f4 c (by omega) (by omega), f3 c (by omega) (by omega), sD_ne (by omega), f1 c (by omega)]⟩
  rw [vF_tell_0, if_neg (by omega), vF_tell_5, if_neg (by omega)]
  have r16 : Vl (d + 1) 16 0 [some (.inr (.inr (some k))), none] [] (hp ω D1) = some ((0, some (.inl (rd Φ : Int))), hp ω D1) := by
    rw [vF_leastRound_0, q1]; rfl
  simp only [vF_tell_12, aGF (kF hk), aLt, hwD]
  rw [hD, c40, esh, ← hD1, r16, aVC, tlS, vF_tell_48, aGF (kF hk)]
  simp only [aLt, hwD]
  rw [q3, q4]
end TELL2
