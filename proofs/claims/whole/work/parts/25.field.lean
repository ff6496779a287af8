/-! THE FIELD: its numbers, and what the class's tables hold -/
abbrev gF : Type := Nat × Nat × Nat × Nat
def fm (Φ : gF) (a b : Nat) : Nat := gm Φ.1 Φ.2.1 a b
def ft (Φ : gF) (a : Nat) : Nat := gsn Φ.1 Φ.2.1 Φ.2.2.1 a
def fs (Φ : gF) (a : Nat) : Nat := fm Φ Φ.2.2.2 (ft Φ a ^^^ a)
def fi (Φ : gF) (a : Nat) : Nat := if a = 0 then 0 else gi Φ.1 Φ.2.1 a
/-- turned so often, and turned back -/
def fT (Φ : gF) (n a : Nat) : Nat := gsn Φ.1 Φ.2.1 (Φ.2.2.1 * n) a
def fB (Φ : gF) (n a : Nat) : Nat := gsn Φ.1 Φ.2.1 ((Φ.1 - 1) * Φ.2.2.1 * n) a
def FOK (Φ : gF) : Prop := gfd Φ.1 Φ.2.1 ∧ Φ.2.2.1 < Φ.1 ∧ Φ.2.2.2 < 2 ^ Φ.1
def rdl (m s : Nat) : Nat → Nat → Nat
  | 0, _ => m
  | n + 1, r => if r < m then (if r * s % m = 0 then r else rdl m s n (r + 1)) else m
def rdn (m s : Nat) : Nat := rdl m s 8 1
abbrev rd (Φ : gF) : Nat := rdn Φ.1 Φ.2.2.1
theorem rdn_fact : ∀ m, m < 9 → 1 ≤ m → ∀ s, s < m → 1 ≤ rdn m s ∧ rdn m s ≤ m ∧ rdn m s * s % m = 0 := by decide +kernel
set_option maxRecDepth 100000 in
theorem rdn_turn : ∀ m, m < 9 → 1 ≤ m → ∀ s, s < m → ∀ n, n < 100 → (s * (n % rdn m s)) % m = (s * n) % m := by decide +kernel
theorem rdn_back : ∀ m, m < 9 → 1 ≤ m → ∀ s, s < m → ∀ n, n < 18 → (s * (rdn m s - n % rdn m s)) % m = ((m - 1) * s * n) % m := by decide +kernel
section FOKS
variable {Φ : gF}
theorem F_m1 (h : FOK Φ) : 1 ≤ Φ.1 := h.1.1.1
theorem F_m8 (h : FOK Φ) : Φ.1 ≤ 8 := h.1.1.2.1
theorem F_256 (h : FOK Φ) : 2 ^ Φ.1 ≤ 256 := Nat.pow_le_pow_right (n := 2) (by decide) (F_m8 h)
theorem F_2 (h : FOK Φ) : 2 ≤ 2 ^ Φ.1 := by
  have := Nat.pow_le_pow_right (show 0 < 2 by decide) (F_m1 h)
  exact this
theorem F_pos (Φ : gF) : 0 < 2 ^ Φ.1 := Nat.two_pow_pos _
theorem fm_lt (h : FOK Φ) {a b : Nat} (ha : a < 2 ^ Φ.1) : fm Φ a b < 2 ^ Φ.1 := gm_lt h.1.1 ha b
theorem ft_lt (h : FOK Φ) {a : Nat} (ha : a < 2 ^ Φ.1) : ft Φ a < 2 ^ Φ.1 := gsn_lt h.1.1 _ _ ha
theorem fs_lt (h : FOK Φ) (a : Nat) : fs Φ a < 2 ^ Φ.1 := fm_lt h h.2.2
theorem fi_lt (h : FOK Φ) {a : Nat} (ha : a < 2 ^ Φ.1) : fi Φ a < 2 ^ Φ.1 := by
  unfold fi; split
  · exact F_pos Φ
  · exact gi_lt h.1.1 ha
theorem fT_lt (h : FOK Φ) {a : Nat} (ha : a < 2 ^ Φ.1) (n : Nat) : fT Φ n a < 2 ^ Φ.1 := gsn_lt h.1.1 _ _ ha
theorem fB_lt (h : FOK Φ) {a : Nat} (ha : a < 2 ^ Φ.1) (n : Nat) : fB Φ n a < 2 ^ Φ.1 := gsn_lt h.1.1 _ _ ha
theorem ft_0 (Φ : gF) : ft Φ 0 = 0 := gsn_0 _ _ _
theorem fs_0 (Φ : gF) : fs Φ 0 = 0 := by unfold fs fm; rw [ft_0, Nat.xor_self, gm_0r]
theorem fm_0l (Φ : gF) (a : Nat) : fm Φ 0 a = 0 := gm_0l _ _ _
theorem fm_0r (Φ : gF) (a : Nat) : fm Φ a 0 = 0 := gm_0r _ _ _
end FOKS
/-- the class's field in a heap -/
def FT (Φ : gF) (D : jD) (k : Nat) : Prop := FOK Φ ∧ D k 0 = (Φ.1 : Int) ∧ D k 1 = (Φ.2.1 : Int) ∧ D k 2 = (Φ.2.2.1 : Int) ∧ D k 3 = (Φ.2.2.2 : Int) ∧ D k 4 = ((2 ^ Φ.1 : Nat) : Int) ∧ D k 5 = (rd Φ : Int) ∧ (∃ g, g < 2 ^ Φ.1 ∧ gck Φ.1 Φ.2.1 g (2 ^ Φ.1 - 1) 1 0 = true ∧ (∀ i, i < 2 * (2 ^ Φ.1 - 1) → D (k + 1) i = (gpw Φ.1 Φ.2.1 g i : Int)) ∧ ∀ i, i < 2 ^ Φ.1 - 1 → D (k + 2) (gpw Φ.1 Φ.2.1 g i) = (i : Int)) ∧ (∀ a, a < 2 ^ Φ.1 → D (k + 3) a = (ft Φ a : Int)) ∧ ∀ a, a < 2 ^ Φ.1 → D (k + 4) a = (fs Φ a : Int)
theorem FT_congr {Φ : gF} {D D' : jD} {k : Nat} (h : ∀ c, k ≤ c → c < k + 5 → D' c = D c) (hF : FT Φ D k) : FT Φ D' k := by
  unfold FT at hF ⊢
  rw [h k (by omega) (by omega), h (k + 1) (by omega) (by omega), h (k + 2) (by omega) (by omega), h (k + 3) (by omega) (by omega), h (k + 4) (by omega) (by omega)]
  exact hF
section FIELD
variable {ω : jw} {D : jD} {k d : Nat} {Φ : gF}
theorem has_spec (hk : isF k) (hF : FT Φ D k) {x : Int} : Vl d 87 0 [some (.inr (.inr (some k))), some (.inl x)] [] (hp ω D) = some ((0, some (.inl (if 0 ≤ x ∧ x < ((2 ^ Φ.1 : Nat) : Int) then 1 else 0))), hp ω D) := by
  rw [vF_has_0]
  by_cases h1 : x < 0
  · rw [if_pos h1, vF_has_16, vF_has_17, if_neg (by omega)]; rfl
  · rw [if_neg h1, vF_has_4, aGF (kF hk), hD, hF.2.2.2.2.2.1]
    by_cases h2 : x < ((2 ^ Φ.1 : Nat) : Int)
    · rw [if_pos h2, vF_has_12, vF_has_17, if_pos (by omega)]; rfl
    · rw [if_neg h2, vF_has_16, vF_has_17, if_neg (by omega)]; rfl
def hAll (r : Nat → Int) (q : Int) : Nat → Nat → Bool
  | _, 0 => true
  | i, n + 1 => (decide (0 ≤ r i) && decide (r i < q)) && hAll r q (i + 1) n
theorem hasAll_loop (hk : isF k) (hF : FT Φ D k) {c L t : Nat} (hc : KL0[c]? = some (1, L)) (hL : L ≤ 4096) (ht : t ≤ L) (x2 : Int) : ∀ n i : Nat, i + n = t → Vl (d + 1) 98 15 [some (.inr (.inr (some k))), some (.inr (.inr (some c))), some (.inl x2), some (.inl (t : Int)), some (.inl (i : Int))] [] (hp ω D) = some ((0, some (.inl (if hAll (D c) ((2 ^ Φ.1 : Nat) : Int) i n = true then 1 else 0))), hp ω D)
  | 0, i, hi => by
    rw [vF_hasAll_15, if_neg (by omega), vF_hasAll_40]; rfl
  | n + 1, i, hi => by
    rw [vF_hasAll_15, if_pos (by omega), vF_hasAll_21, aIA hc, if_pos (by omega), aGF (kF hk), has_spec hk hF, aVC, Int.toNat_natCast]
    show Vl (d + 1) 98 29 _ [.inl _] _ = _
    rw [vF_hasAll_29]
    unfold hAll
    by_cases h : 0 ≤ D c i ∧ D c i < ((2 ^ Φ.1 : Nat) : Int)
    · rw [if_pos h, if_neg (by decide), vF_hasAll_34, w32_s (by omega), hasAll_loop hk hF hc hL ht x2 n (i + 1) (by omega), decide_eq_true h.1, decide_eq_true h.2]; rfl
    · rw [if_neg h, if_pos rfl, vF_hasAll_32, if_neg]
      · rfl
      · intro q
        simp only [Bool.and_eq_true, decide_eq_true_eq] at q
        exact h q.1
theorem hasAll_spec (hk : isF k) (hF : FT Φ D k) {c L t : Nat} (hc : KL0[c]? = some (1, L)) (hL : L ≤ 4096) (ht : t ≤ L) {i : Nat} (hi : i ≤ t) : Vl (d + 1) 98 0 [some (.inr (.inr (some k))), some (.inr (.inr (some c))), some (.inl (i : Int)), some (.inl (t : Int)), none] [] (hp ω D) = some ((0, some (.inl (if hAll (D c) ((2 ^ Φ.1 : Nat) : Int) i (t - i) = true then 1 else 0))), hp ω D) := by
  rw [vF_hasAll_0, if_neg (by omega), vF_hasAll_4, aLN hc, if_neg (by omega), vF_hasAll_12]
  exact hasAll_loop hk hF hc hL ht _ (t - i) i (by omega)
theorem isFew_spec (hk : isF k) (hF : FT Φ D k) {x : Int} (hx : -100 ≤ x) : Vl d 114 0 [some (.inr (.inr (some k))), some (.inl x)] [] (hp ω D) = some ((0, some (.inl (if x ≤ 12 ∧ x * (Φ.1 : Int) ≤ 12 then 1 else 0))), hp ω D) := by
  have h8 := F_m8 hF.1
  rw [vF_isFew_0]
  by_cases h1 : 12 < x
  · rw [if_pos h1, vF_isFew_21, vF_isFew_22, if_neg (by omega)]; rfl
  · rw [if_neg h1, vF_isFew_6, aGF (kF hk), hD, hF.2.1]
    have e : w32 (x * (Φ.1 : Int)) = x * (Φ.1 : Int) := by
      have a1 : x * (Φ.1 : Int) ≤ 12 * (Φ.1 : Int) := Int.mul_le_mul_of_nonneg_right (by omega) (by omega)
      have a2 : -100 * (Φ.1 : Int) ≤ x * (Φ.1 : Int) := Int.mul_le_mul_of_nonneg_right (by omega) (by omega)
      exact w32_i (by omega) (by omega)
    rw [e]
    by_cases h2 : 12 < x * (Φ.1 : Int)
    · rw [if_pos h2, vF_isFew_21, vF_isFew_22, if_neg (by omega)]; rfl
    · rw [if_neg h2, vF_isFew_17, vF_isFew_22, if_pos (by omega)]; rfl
theorem log_of (hF : FT Φ D k) {a : Nat} (ha : a < 2 ^ Φ.1) (h0 : a ≠ 0) : ∃ g i, g < 2 ^ Φ.1 ∧ i < 2 ^ Φ.1 - 1 ∧ gpw Φ.1 Φ.2.1 g i = a ∧ gpw Φ.1 Φ.2.1 g (2 ^ Φ.1 - 1) = 1 ∧ (∀ i, i < 2 * (2 ^ Φ.1 - 1) → D (k + 1) i = (gpw Φ.1 Φ.2.1 g i : Int)) ∧ D (k + 2) a = (i : Int) ∧ ∀ b, b < 2 ^ Φ.1 → b ≠ 0 → ∃ j, j < 2 ^ Φ.1 - 1 ∧ gpw Φ.1 Φ.2.1 g j = b ∧ D (k + 2) b = (j : Int) := by
  obtain ⟨g, g1, g2, g3, g4⟩ := hF.2.2.2.2.2.2.2.1
  obtain ⟨q1, q2, q3⟩ := g_log hF.1.1.1 g2
  have hb : ∀ b, b < 2 ^ Φ.1 → b ≠ 0 → ∃ j, j < 2 ^ Φ.1 - 1 ∧ gpw Φ.1 Φ.2.1 g j = b ∧ D (k + 2) b = (j : Int) := fun b hb h0 => by
    obtain ⟨j, j1, j2⟩ := q2 b (by omega) hb
    exact ⟨j, j1, j2, by rw [← j2]; exact g4 j j1⟩
  obtain ⟨i, i1, i2, i3⟩ := hb a ha h0
  exact ⟨g, i, g1, i1, i2, q1, g3, i3, hb⟩
theorem product_spec (hk : isF k) (hF : FT Φ D k) {a b : Nat} (ha : a < 2 ^ Φ.1) (hb : b < 2 ^ Φ.1) : Vl d 19 0 [some (.inr (.inr (some k))), some (.inl (a : Int)), some (.inl (b : Int))] [] (hp ω D) = some ((0, some (.inl (fm Φ a b : Int))), hp ω D) := by
  have h256 := F_256 hF.1
  rw [vF_product_0]
  by_cases h1 : a = 0
  · subst h1
    rw [if_pos (by rfl), vF_product_8, fm_0l]; rfl
  rw [if_neg (by omega), vF_product_4]
  by_cases h2 : b = 0
  · subst h2
    rw [if_pos (by rfl), vF_product_8, fm_0r]; rfl
  rw [if_neg (by omega), vF_product_10]
  obtain ⟨g, i, g1, i1, i2, -, g3, i3, hl⟩ := log_of hF ha h1
  obtain ⟨j, j1, j2, j3⟩ := hl b hb h2
  rw [aGF (kF hk), aGF (kF hk), rF_7 hk, jand_i (by omega), aIA (kF_2 hk), if_pos (by omega), aGF (kF hk), rF_7 hk, jand_i (by omega), aIA (kF_2 hk), if_pos (by omega), Int.toNat_natCast, Int.toNat_natCast, i3, j3, w32_ad (by omega), jand_511 (by omega), Nat.mod_eq_of_lt (by omega), rF_6 hk, aIA (kF_1 hk), if_pos (by omega), Int.toNat_natCast, g3 _ (by omega), gpw_add hF.1.1.1 g1, i2, j2]
  rfl
theorem inverse_spec (hk : isF k) (hF : FT Φ D k) {a : Nat} (ha : a < 2 ^ Φ.1) : Vl d 61 0 [some (.inr (.inr (some k))), some (.inl (a : Int))] [] (hp ω D) = some ((0, some (.inl (fi Φ a : Int))), hp ω D) := by
  have h256 := F_256 hF.1
  rw [vF_inverse_0]
  unfold fi
  by_cases h1 : a = 0
  · subst h1
    rw [if_pos (by rfl), vF_inverse_4, vF_inverse_34, if_pos rfl]; rfl
  rw [if_neg (by omega), vF_inverse_8, if_neg h1]
  obtain ⟨g, i, g1, i1, i2, gN, g3, i3, -⟩ := log_of hF ha h1
  rw [aGF (kF hk), aGF (kF hk), aGF (kF hk), rF_7 hk, jand_i (by omega), aIA (kF_2 hk), if_pos (by omega), Int.toNat_natCast, i3, hD, hF.2.2.2.2.2.1, show w32 (w32 (((2 ^ Φ.1 : Nat) : Int) - 1) - (i : Int)) = ((2 ^ Φ.1 - 1 - i : Nat) : Int) by unfold w32; omega, jand_511 (by omega), Nat.mod_eq_of_lt (by omega), rF_6 hk, aIA (kF_1 hk), if_pos (by omega), Int.toNat_natCast, g3 _ (by omega), vF_inverse_34]
  rw [gi_u hF.1.1 (b := gpw Φ.1 Φ.2.1 g (2 ^ Φ.1 - 1 - i)) ha (gpw_lt hF.1.1.1 _)]
  rw [← i2, ← gpw_add hF.1.1.1 g1, show i + (2 ^ Φ.1 - 1 - i) = 2 ^ Φ.1 - 1 by omega, gN]
theorem fT_s (Φ : gF) (n a : Nat) : fT Φ (n + 1) a = fT Φ n (ft Φ a) := by
  unfold fT ft
  rw [Nat.mul_succ, Nat.add_comm, gsn_add]
theorem turn_loop (hk : isF k) (hF : FT Φ D k) (x1 x2 : Int) : ∀ n a : Nat, n < 1000 → a < 2 ^ Φ.1 → Vl d 63 21 [some (.inr (.inr (some k))), some (.inl x1), some (.inl x2), some (.inl (a : Int)), some (.inl (n : Int))] [] (hp ω D) = some ((0, some (.inl (fT Φ n a : Int))), hp ω D)
  | 0, a, _, ha => by
    rw [vF_turn_21, if_neg (by omega), vF_turn_43]; rfl
  | n + 1, a, hn, ha => by
    have h256 := F_256 hF.1
    rw [vF_turn_21, if_pos (by omega), vF_turn_26, aGF (kF hk), rF_8 hk, jand_i (by omega), aIA (kF_3 hk), if_pos (by omega), Int.toNat_natCast, hF.2.2.2.2.2.2.2.2.1 a ha, w32_p (by omega), turn_loop hk hF x1 x2 n _ (by omega) (ft_lt hF.1 ha), fT_s]
theorem rd_b (h : FOK Φ) : 1 ≤ rd Φ ∧ rd Φ ≤ Φ.1 := by
  have := rdn_fact Φ.1 (by have := F_m8 h; omega) (F_m1 h) Φ.2.2.1 h.2.1
  exact ⟨this.1, this.2.1⟩
theorem turn_spec (hk : isF k) (hF : FT Φ D k) {a n : Nat} (ha : a < 2 ^ Φ.1) (hn : n < 100) : Vl d 63 0 [some (.inr (.inr (some k))), some (.inl (a : Int)), some (.inl (n : Int)), none, none] [] (hp ω D) = some ((0, some (.inl (fT Φ n a : Int))), hp ω D) := by
  have h8 := F_m8 hF.1
  have hr := rd_b hF.1
  rw [vF_turn_0, aGF (kF hk), hD, hF.2.2.2.2.2.2.1, if_pos (by omega), vF_turn_9, aGF (kF hk), hD, hF.2.2.2.2.2.2.1, if_neg (by omega), vF_turn_19, ← Int.ofNat_tmod, turn_loop hk hF _ _ _ a (Nat.lt_of_lt_of_le (Nat.mod_lt _ (by omega)) (by omega)) ha]
  congr 6
  exact gsn_mod hF.1.1 ha (rdn_turn Φ.1 (by omega) (F_m1 hF.1) Φ.2.2.1 hF.1.2.1 n hn)
theorem turnBack_loop (hk : isF k) (hF : FT Φ D k) (x1 x2 : Int) : ∀ n a : Nat, n < 1000 → a < 2 ^ Φ.1 → Vl d 64 26 [some (.inr (.inr (some k))), some (.inl x1), some (.inl x2), some (.inl (a : Int)), some (.inl (n : Int))] [] (hp ω D) = some ((0, some (.inl (fT Φ n a : Int))), hp ω D)
  | 0, a, _, ha => by
    rw [vF_turnBack_26, if_neg (by omega), vF_turnBack_48]; rfl
  | n + 1, a, hn, ha => by
    have h256 := F_256 hF.1
    rw [vF_turnBack_26, if_pos (by omega), vF_turnBack_31, aGF (kF hk), rF_8 hk, jand_i (by omega), aIA (kF_3 hk), if_pos (by omega), Int.toNat_natCast, hF.2.2.2.2.2.2.2.2.1 a ha, w32_p (by omega), turnBack_loop hk hF x1 x2 n _ (by omega) (ft_lt hF.1 ha), fT_s]
theorem turnBack_spec (hk : isF k) (hF : FT Φ D k) {a n : Nat} (ha : a < 2 ^ Φ.1) (hn : n < 18) : Vl d 64 0 [some (.inr (.inr (some k))), some (.inl (a : Int)), some (.inl (n : Int)), none, none] [] (hp ω D) = some ((0, some (.inl (fB Φ n a : Int))), hp ω D) := by
  have h8 := F_m8 hF.1
  have hr := rd_b hF.1
  have hm : n % rd Φ < rd Φ := Nat.mod_lt _ (by omega)
  rw [vF_turnBack_0, aGF (kF hk), hD, hF.2.2.2.2.2.2.1, if_pos (by omega), vF_turnBack_9, aGF (kF hk), aGF (kF hk), hD, hF.2.2.2.2.2.2.1, if_neg (by omega), vF_turnBack_24, ← Int.ofNat_tmod, show w32 ((rd Φ : Int) - ((n % rd Φ : Nat) : Int)) = ((rd Φ - n % rd Φ : Nat) : Int) by unfold w32; omega, turnBack_loop hk hF _ _ _ a (by omega) ha]
  congr 6
  exact gsn_mod hF.1.1 ha (rdn_back Φ.1 (by omega) (F_m1 hF.1) Φ.2.2.1 hF.1.2.1 n hn)
theorem slopeOf_spec (hk : isF k) (hF : FT Φ D k) {a : Nat} (ha : a < 2 ^ Φ.1) : Vl d 90 0 [some (.inr (.inr (some k))), some (.inl (a : Int))] [] (hp ω D) = some ((0, some (.inl (fs Φ a : Int))), hp ω D) := by
  have h256 := F_256 hF.1
  rw [vF_slopeOf_0, aGF (kF hk), rF_9 hk, jand_i (by omega), aIA (kF_4 hk), if_pos (by omega), Int.toNat_natCast, hF.2.2.2.2.2.2.2.2.2 a ha]
/-- what x does to b at the place a -/
def fst_ (Φ : gF) (a b : Nat) : Nat := fm Φ (ft Φ b) a ^^^ fs Φ b
def fkn (Φ : gF) (a c : Nat) : Nat := fm Φ (fst_ Φ a c) (fi Φ c)
theorem fst_lt (h : FOK Φ) {a b : Nat} (hb : b < 2 ^ Φ.1) : fst_ Φ a b < 2 ^ Φ.1 := x_lt (fm_lt h (ft_lt h hb)) (fs_lt h b)
theorem step_spec (hk : isF k) (hF : FT Φ D k) {a b : Nat} (ha : a < 2 ^ Φ.1) (hb : b < 2 ^ Φ.1) : Vl (d + 1) 104 0 [some (.inr (.inr (some k))), some (.inl (a : Int)), some (.inl (b : Int))] [] (hp ω D) = some ((0, some (.inl (fst_ Φ a b : Int))), hp ω D) := by
  have h256 := F_256 hF.1
  have h1 := fm_lt hF.1 (b := a) (ft_lt hF.1 hb)
  have h2 := fs_lt hF.1 b
  rw [vF_step_0, aGF (kF hk), rF_8 hk, jand_i (by omega), aIA (kF_3 hk), if_pos (by omega), Int.toNat_natCast, hF.2.2.2.2.2.2.2.2.1 b hb, aGF (kF hk), product_spec hk hF (ft_lt hF.1 hb) ha, aVC]
  show Vl (d + 1) 104 15 _ [.inl _] _ = _
  rw [vF_step_15, aGF (kF hk), rF_9 hk, jand_i (by omega), aIA (kF_4 hk), if_pos (by omega), Int.toNat_natCast, hF.2.2.2.2.2.2.2.2.2 b hb, jxor_n (by omega) (by omega)]
  rfl
theorem kinOf_spec (hk : isF k) (hF : FT Φ D k) {a c : Nat} (ha : a < 2 ^ Φ.1) (hc : c < 2 ^ Φ.1) : Vl (d + 2) 108 0 [some (.inr (.inr (some k))), some (.inl (a : Int)), some (.inl (c : Int))] [] (hp ω D) = some ((0, some (.inl (fkn Φ a c : Int))), hp ω D) := by
  rw [vF_kinOf_0, aGF (kF hk), step_spec hk hF ha hc, aVC]
  show Vl (d + 1 + 1) 108 7 _ [.inl _, .inr (.inr (some k))] _ = _
  rw [vF_kinOf_7, aGF (kF hk), inverse_spec hk hF hc, aVC]
  show Vl (d + 1 + 1) 108 12 _ [.inl _, .inl _, .inr (.inr (some k))] _ = _
  rw [vF_kinOf_12, aGF (kF hk), product_spec hk hF (fst_lt hF.1 hc) (fi_lt hF.1 hc), aVC]
  show Vl (d + 1 + 1) 108 15 _ [.inl _] _ = _
  rw [vF_kinOf_15]
  rfl
end FIELD
