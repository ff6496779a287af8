/-! FIELD, NAMES, POINTS, ACTS: the class's State; the tape -/
abbrev aT : Type := gF × Nat × (Nat → pl) × Nat × (Nat → Nat) × Nat × (Nat → pl) × (Nat → Nat)
abbrev tF (T : aT) : gF := T.1
abbrev tN (T : aT) : Nat := T.2.1
abbrev tn (T : aT) : Nat → pl := T.2.2.1
abbrev tP (T : aT) : Nat := T.2.2.2.1
abbrev tp (T : aT) : Nat → Nat := T.2.2.2.2.1
abbrev tU (T : aT) : Nat := T.2.2.2.2.2.1
abbrev tu (T : aT) : Nat → pl := T.2.2.2.2.2.2.1
abbrev tv (T : aT) : Nat → Nat := T.2.2.2.2.2.2.2
def TOK (T : aT) : Prop := FOK (tF T) ∧ tN T ≤ 12 ∧ tP T ≤ 8 ∧ tU T ≤ 16 ∧ (∀ i, i < tN T → pOK (tF T) (tn T i)) ∧ (∀ i, i < tP T → tp T i < 2 ^ (tF T).1) ∧ ∀ i, i < tU T → pOK (tF T) (tu T i) ∧ tv T i < tN T
/-- the class's State at b -/
def TS (D : jD) (b : Nat) (T : aT) : Prop := (D b 0 = ((tF T).1 : Int) ∧ D b 1 = ((tF T).2.1 : Int) ∧ D b 2 = ((tF T).2.2.1 : Int) ∧ D b 3 = ((tF T).2.2.2 : Int)) ∧ D b 4 = (tN T : Int) ∧ D b 5 = (tP T : Int) ∧ D b 6 = (tU T : Int) ∧ (∀ i, i < tN T → PR D (b + 3 + 2 * i) (tn T i)) ∧ (∀ i, i < tP T → D (b + 26) i = (tp T i : Int)) ∧ ∀ i, i < tU T → PR D (b + 29 + 2 * i) (tu T i) ∧ D (b + 60) i = (tv T i : Int)
theorem TS_fr {D D' : jD} {b : Nat} {T : aT} (hO : TOK T) (h : TS D b T) (hf : ∀ c, b ≤ c → c < b + 61 → D' c = D c) : TS D' b T := by
  obtain ⟨h1, h2, h3, h4, h5, h6, h7⟩ := h
  have e := hf b (by omega) (by omega)
  refine ⟨by rw [e]; exact h1, by rw [e]; exact h2, by rw [e]; exact h3, by rw [e]; exact h4, fun i hi => PR_ne (hf _ (by omega) (by have := hO.2.1; omega)) (h5 i hi), fun i hi => by rw [hf _ (by omega) (by omega)]; exact h6 i hi, fun i hi => ⟨PR_ne (hf _ (by omega) (by have := hO.2.2.2.1; omega)) (h7 i hi).1, by rw [hf _ (by omega) (by omega)]; exact (h7 i hi).2⟩⟩
theorem T_far {b s : Nat} (hb : isT b) (hs : isT s) (h : b ≠ s) : s + 61 ≤ b ∨ b + 61 ≤ s := (show ∀ b ∈ [3, 112, 366, 427], ∀ s ∈ [3, 112, 366, 427], b ≠ s → s + 61 ≤ b ∨ b + 61 ≤ s by decide) b hb s hs h
def aT0 : aT := ((1, 3, 0, 0), 0, fun _ => p0, 0, fun _ => 0, 0, fun _ => p0, fun _ => 0)
theorem aT0_OK : TOK aT0 := by
  refine ⟨⟨⟨⟨by decide, by decide, by decide, by decide⟩, by decide⟩, by decide, by decide⟩, by decide, by decide, by decide, fun i hi => absurd hi (Nat.not_lt_zero _), fun i hi => absurd hi (Nat.not_lt_zero _), fun i hi => absurd hi (Nat.not_lt_zero _)⟩
section STATE
variable {ω : jw} {D : jD} {b d : Nat} {T : aT}
theorem beginT_spec (hb : isT b) : ∃ D', Vl d 5 0 [some (.inr (.inr (some b)))] [] (hp ω D) = some ((0, none), hp ω D') ∧ TS D' b aT0 ∧ ∀ c, c ≠ b → D' c = D c := by
  refine ⟨sD (sD (sD (sD (sD (sD (sD D b 0 1) b 1 3) b 2 0) b 3 0) b 4 0) b 5 0) b 6 0, ?_, ?_, fun c hc => by rw [sD_ne hc, sD_ne hc, sD_ne hc, sD_ne hc, sD_ne hc, sD_ne hc, sD_ne hc]⟩
  · simp only [vT_begin_0, aGF (kT hb), aVC, tlS, tlN, aLt, hwD]
  · refine ⟨⟨?_, ?_, ?_, ?_⟩, ?_, ?_, ?_, fun i hi => absurd hi (Nat.not_lt_zero _), fun i hi => absurd hi (Nat.not_lt_zero _), fun i hi => absurd hi (Nat.not_lt_zero _)⟩
    · rw [sD_nb (by decide), sD_nb (by decide), sD_nb (by decide), sD_nb (by decide), sD_nb (by decide), sD_nb (by decide), sD_eq]; rfl
    · rw [sD_nb (by decide), sD_nb (by decide), sD_nb (by decide), sD_nb (by decide), sD_nb (by decide), sD_eq]; rfl
    · rw [sD_nb (by decide), sD_nb (by decide), sD_nb (by decide), sD_nb (by decide), sD_eq]; rfl
    · rw [sD_nb (by decide), sD_nb (by decide), sD_nb (by decide), sD_eq]; rfl
    · rw [sD_nb (by decide), sD_nb (by decide), sD_eq]; rfl
    · rw [sD_nb (by decide), sD_eq]; rfl
    · rw [sD_eq]; rfl
theorem tellTo_spec (hb : isT b) {k : Nat} (hk : isF k) (hO : FOK (tF T)) (h0 : D b 0 = ((tF T).1 : Int)) (h1 : D b 1 = ((tF T).2.1 : Int)) (h2 : D b 2 = ((tF T).2.2.1 : Int)) (h3 : D b 3 = ((tF T).2.2.2 : Int)) : ∃ D', Vl (d + 3) 14 0 [some (.inr (.inr (some b))), some (.inr (.inr (some k)))] [] (hp ω D) = some ((0, none), hp ω D') ∧ FT (tF T) D' k ∧ ∀ c, (c < k ∨ k + 5 ≤ c) → D' c = D c := by
  obtain ⟨D', q, r, f⟩ := tell_spec (ω := ω) (D := D) (d := d) hk hO
  refine ⟨D', ?_, r, f⟩
  simp only [vT_tellTo_0, aGF (kT hb), aGF (kF hk)]
  rw [hD, hD, hD, hD, h0, h1, h2, h3, q, aVC]
  show Vl (d + 3) 14 20 _ [] _ = _
  rw [vT_tellTo_20]
theorem named_spec (hb : isT b) (hO : tN T ≤ 12) (h : D b 4 = (tN T : Int)) {x : Int} : Vl d 80 0 [some (.inr (.inr (some b))), some (.inl x)] [] (hp ω D) = some ((0, some (.inr (.inr (if 0 ≤ x ∧ x < (tN T : Int) then some (b + 2 + 2 * x.toNat) else none)))), hp ω D) := by
  rw [vT_named_0]
  by_cases h1 : x < 0
  · rw [if_pos h1, vT_named_27, vT_named_28, if_neg (by omega)]
  rw [if_neg h1, vT_named_4, aGF (kT hb), hD, h]
  by_cases h2 : x < (tN T : Int)
  · rw [if_pos h2, vT_named_12, if_pos (by omega), vT_named_18, aGF (kT hb), rT_7 hb, aAA (kT_1 hb), if_pos (by omega), rT_1001 hb (by omega), vT_named_28, if_pos (by omega)]
  · rw [if_neg h2, vT_named_27, vT_named_28, if_neg (by omega)]
theorem point_spec (hb : isT b) {p : Nat} (hp8 : p < 8) : Vl d 160 0 [some (.inr (.inr (some b))), some (.inl (p : Int))] [] (hp ω D) = some ((0, some (.inl (D (b + 26) p))), hp ω D) := by
  rw [vT_point_0, if_neg (by omega), vT_point_4, if_pos (by omega), vT_point_10, aGF (kT hb), rT_8 hb, aIA (kT_26 hb), if_pos (by omega), vT_point_20, Int.toNat_natCast]
/-- numbers of a State changed -/
theorem TS_num {D' : jD} (hO : TOK T) (h : TS D b T) {T' : aT} (hj : ∀ j, j < 4 → D' b j = D b j) (h4 : D' b 4 = (tN T' : Int)) (h5 : D' b 5 = (tP T' : Int)) (h6 : D' b 6 = (tU T' : Int)) (eF : tF T' = tF T) (hn : ∀ i, i < tN T' → PR D' (b + 3 + 2 * i) (tn T' i)) (hp8 : ∀ i, i < tP T' → D' (b + 26) i = (tp T' i : Int)) (hu : ∀ i, i < tU T' → PR D' (b + 29 + 2 * i) (tu T' i) ∧ D' (b + 60) i = (tv T' i : Int)) : TS D' b T' := by
  obtain ⟨⟨a0, a1, a2, a3⟩, -⟩ := h
  exact ⟨⟨by rw [hj 0 (by decide), eF]; exact a0, by rw [hj 1 (by decide), eF]; exact a1, by rw [hj 2 (by decide), eF]; exact a2, by rw [hj 3 (by decide), eF]; exact a3⟩, h4, h5, h6, hn, hp8, hu⟩
def tPut (T : aT) (i : Nat) (F : pl) : aT := (tF T, max (tN T) (i + 1), (fun q => if q = i then F else tn T q), tP T, tp T, tU T, tu T, tv T)
theorem tPut_OK (hO : TOK T) {i : Nat} (hi : i ≤ tN T) (hi2 : i < 12) {F : pl} (oF : pOK (tF T) F) : TOK (tPut T i F) := by
  refine ⟨hO.1, by show max (tN T) (i + 1) ≤ 12; have := hO.2.1; omega, hO.2.2.1, hO.2.2.2.1, fun q hq => ?_, hO.2.2.2.2.2.1, fun q hq => ⟨(hO.2.2.2.2.2.2 q hq).1, Nat.lt_of_lt_of_le (hO.2.2.2.2.2.2 q hq).2 (Nat.le_max_left _ _)⟩⟩
  show pOK (tF T) (if q = i then F else tn T q)
  split
  · exact oF
  · exact hO.2.2.2.2.1 q (by
      have : q < max (tN T) (i + 1) := hq
      omega)
theorem putName_spec (hb : isT b) (hO : TOK T) (h : TS D b T) {i f : Nat} (hi : i ≤ tN T) (hi2 : i < 12) (hf : isP f) {F : pl} (RF : PR D (f + 1) F) : ∃ D', Vl (d + 1) 83 0 [some (.inr (.inr (some b))), some (.inl (i : Int)), some (.inr (.inr (some f)))] [] (hp ω D) = some ((0, none), hp ω D') ∧ TS D' b (tPut T i F) ∧ ∀ c, c ≠ b → c ≠ b + 3 + 2 * i → D' c = D c := by
  have h12 := hO.2.1
  have q1 := copyF (ω := ω) (d := d) (pT_1 hb hi2) hf RF
  have e4 : pD D (b + 2 + 2 * i + 1) (rI F) b 4 = (tN T : Int) := by rw [pD_ne (by omega)]; exact h.2.1
  have em : (if (tN T : Int) < w32 ((i : Int) + 1) then w32 ((i : Int) + 1) else (tN T : Int)) = ((max (tN T) (i + 1) : Nat) : Int) := by
    rw [w32_s (by omega)]
    split <;> omega
  refine ⟨sD (pD D (b + 2 + 2 * i + 1) (rI F)) b 4 ((max (tN T) (i + 1) : Nat) : Int), ?_, TS_num hO h (fun j hj => by rw [sD_nb (by omega), pD_ne (by omega)]) sD_eq (by rw [sD_nb (by decide), pD_ne (by omega)]; exact h.2.2.1) (by rw [sD_nb (by decide), pD_ne (by omega)]; exact h.2.2.2.1) rfl (fun q hq => ?_) (fun q hq => by rw [sD_ne (by omega), pD_ne (by omega)]; exact h.2.2.2.2.2.1 q hq) (fun q hq => ⟨PR_ne (by rw [sD_ne (by omega), pD_ne (by omega)]) (h.2.2.2.2.2.2 q hq).1, by rw [sD_ne (by omega), pD_ne (by omega)]; exact (h.2.2.2.2.2.2 q hq).2⟩), fun c h1 h2 => by rw [sD_ne h1, pD_ne (by omega)]⟩
  · rw [vT_putName_0, if_neg (by omega), vT_putName_4, if_pos (by omega), vT_putName_10, aGF (kT hb), rT_7 hb, aAA (kT_1 hb), if_pos (by omega), Int.toNat_natCast, rT_1001 hb hi2, aGF (kP (pT_1 hb hi2)), q1, aVC]
    show Vl (d + 1) 83 20 _ [] _ = _
    rw [vT_putName_20, aGF (kT hb), aGF (kT hb), aLt, hD, e4, em, hwD, vT_putName_34]
  · have hq2 : q < max (tN T) (i + 1) := hq
    show PR _ (b + 3 + 2 * q) (if q = i then F else tn T q)
    by_cases hqi : q = i
    · subst hqi
      rw [if_pos rfl]
      intro c hc
      rw [sD_ne (by omega), show b + 3 + 2 * q = b + 2 + 2 * q + 1 by omega, pD_lt hc]; rfl
    · rw [if_neg hqi]
      exact PR_ne (by rw [sD_ne (by omega), pD_ne (by omega)]) (h.2.2.2.2.1 q (by omega))
theorem copyT_names (hb : isT b) {s : Nat} (hs : isT s) (hne : b ≠ s) : ∀ (n i : Nat) (Dk : jD), i + n = 12 → (∀ q, q < i → ∀ c, c < 17 → Dk (b + 3 + 2 * q) c = D (s + 3 + 2 * q) c) → (∀ c, (c < b + 3 ∨ b + 26 ≤ c) → Dk c = D c) →
    ∃ D', Vl (d + 1) 84 58 [some (.inr (.inr (some b))), some (.inr (.inr (some s))), some (.inl (i : Int))] [] (hp ω Dk) = Vl (d + 1) 84 87 [some (.inr (.inr (some b))), some (.inr (.inr (some s))), some (.inl 0)] [] (hp ω D') ∧ (∀ q, q < 12 → ∀ c, c < 17 → D' (b + 3 + 2 * q) c = D (s + 3 + 2 * q) c) ∧ ∀ c, (c < b + 3 ∨ b + 26 ≤ c) → D' c = D c
  | 0, i, Dk, hi, hq, hf => ⟨Dk, by rw [vT_copy_58, if_neg (by omega), vT_copy_85], fun q h => hq q (by omega), hf⟩
  | n + 1, i, Dk, hi, hq, hf => by
    have far := T_far hb hs hne
    have hi2 : i < 12 := by omega
    have q1 := copy_spec (ω := ω) (D := Dk) (d := d) (pT_1 hb hi2) (pT_1 hs hi2)
    obtain ⟨D', a1, a2, a3⟩ := copyT_names hb hs hne n (i + 1) (pD Dk (b + 2 + 2 * i + 1) (Dk (s + 2 + 2 * i + 1))) (by omega) (fun q h c hc => by
      by_cases hqi : q = i
      · subst hqi
        rw [show b + 3 + 2 * q = b + 2 + 2 * q + 1 by omega, pD_lt hc, hf _ (by omega), show s + 2 + 2 * q + 1 = s + 3 + 2 * q by omega]
      · rw [pD_ne (by omega)]; exact hq q (by omega) c hc) (fun c hc => by rw [pD_ne (by omega)]; exact hf c hc)
    refine ⟨D', ?_, a2, a3⟩
    rw [vT_copy_58, if_pos (by omega), vT_copy_64, aGF (kT hb), rT_7 hb, aAA (kT_1 hb), if_pos (by omega), Int.toNat_natCast, rT_1001 hb hi2, aGF (kT hs), rT_7 hs, aAA (kT_1 hs), if_pos (by omega), Int.toNat_natCast, rT_1001 hs hi2, aGF (kP (pT_1 hb hi2)), q1, aVC]
    show Vl (d + 1) 84 79 _ [] _ = _
    rw [vT_copy_79, w32_s (by omega), a1]
theorem copyT_undo (hb : isT b) {s : Nat} (hs : isT s) (hne : b ≠ s) : ∀ (n i : Nat) (Dk : jD), i + n = 16 → (∀ q, q < i → (∀ c, c < 17 → Dk (b + 29 + 2 * q) c = D (s + 29 + 2 * q) c) ∧ Dk (b + 60) q = D (s + 60) q) → (∀ c, (c < b + 29 ∨ b + 61 ≤ c) → Dk c = D c) →
    ∃ D', Vl (d + 1) 84 113 [some (.inr (.inr (some b))), some (.inr (.inr (some s))), some (.inl (i : Int))] [] (hp ω Dk) = some ((0, none), hp ω D') ∧ (∀ q, q < 16 → (∀ c, c < 17 → D' (b + 29 + 2 * q) c = D (s + 29 + 2 * q) c) ∧ D' (b + 60) q = D (s + 60) q) ∧ ∀ c, (c < b + 29 ∨ b + 61 ≤ c) → D' c = D c
  | 0, i, Dk, hi, hq, hf => ⟨Dk, by rw [vT_copy_113, if_neg (by omega), vT_copy_152], fun q h => hq q (by omega), hf⟩
  | n + 1, i, Dk, hi, hq, hf => by
    have far := T_far hb hs hne
    have hi2 : i < 16 := by omega
    have q1 := copy_spec (ω := ω) (D := Dk) (d := d) (pT_27 hb hi2) (pT_27 hs hi2)
    obtain ⟨D', a1, a2, a3⟩ := copyT_undo hb hs hne n (i + 1) (sD (pD Dk (b + 28 + 2 * i + 1) (Dk (s + 28 + 2 * i + 1))) (b + 60) i (pD Dk (b + 28 + 2 * i + 1) (Dk (s + 28 + 2 * i + 1)) (s + 60) i)) (by omega) (fun q h => by
      by_cases hqi : q = i
      · subst hqi
        refine ⟨fun c hc => ?_, ?_⟩
        · rw [sD_ne (by omega), show b + 29 + 2 * q = b + 28 + 2 * q + 1 by omega, pD_lt hc, hf _ (by omega), show s + 28 + 2 * q + 1 = s + 29 + 2 * q by omega]
        · rw [sD_eq, pD_ne (by omega), hf _ (by omega)]
      · refine ⟨fun c hc => ?_, ?_⟩
        · rw [sD_ne (by omega), pD_ne (by omega)]; exact (hq q (by omega)).1 c hc
        · rw [sD_nb (by omega), pD_ne (by omega)]; exact (hq q (by omega)).2) (fun c hc => by rw [sD_ne (by omega), pD_ne (by omega)]; exact hf c hc)
    refine ⟨D', ?_, a2, a3⟩
    rw [vT_copy_113, if_pos (by omega), vT_copy_119, aGF (kT hb), rT_9 hb, aAA (kT_27 hb), if_pos (by omega), Int.toNat_natCast, rT_1027 hb hi2, aGF (kT hs), rT_9 hs, aAA (kT_27 hs), if_pos (by omega), Int.toNat_natCast, rT_1027 hs hi2, aGF (kP (pT_27 hb hi2)), q1, aVC]
    show Vl (d + 1) 84 134 _ [] _ = _
    rw [vT_copy_134, aGF (kT hb), aGF (kT hs), rT_10 hs, aIA (kT_60 hs), if_pos (by omega), rT_10 hb, aIS (kT_60 hb), if_pos (by omega), Int.toNat_natCast, w32_s (by omega), a1]
theorem copyT_spec (hb : isT b) {s : Nat} (hs : isT s) (hne : b ≠ s) (hO : TOK T) (h : TS D s T) : ∃ D', Vl (d + 1) 84 0 [some (.inr (.inr (some b))), some (.inr (.inr (some s))), none] [] (hp ω D) = some ((0, none), hp ω D') ∧ TS D' b T ∧ ∀ c, (c < b ∨ b + 61 ≤ c) → D' c = D c := by
  have far := T_far hb hs hne
  obtain ⟨D1, hD1⟩ : ∃ D1, D1 = sD (sD (sD (sD (sD (sD (sD D b 0 (D s 0)) b 1 (D s 1)) b 2 (D s 2)) b 3 (D s 3)) b 4 (D s 4)) b 5 (D s 5)) b 6 (D s 6) := ⟨_, rfl⟩
  have f1 : ∀ c, c ≠ b → D1 c = D c := fun c hc => by rw [hD1, sD_ne hc, sD_ne hc, sD_ne hc, sD_ne hc, sD_ne hc, sD_ne hc, sD_ne hc]
  have v0 : D1 b 0 = D s 0 := by rw [hD1, sD_nb (by decide), sD_nb (by decide), sD_nb (by decide), sD_nb (by decide), sD_nb (by decide), sD_nb (by decide), sD_eq]
  have v1 : D1 b 1 = D s 1 := by rw [hD1, sD_nb (by decide), sD_nb (by decide), sD_nb (by decide), sD_nb (by decide), sD_nb (by decide), sD_eq]
  have v2 : D1 b 2 = D s 2 := by rw [hD1, sD_nb (by decide), sD_nb (by decide), sD_nb (by decide), sD_nb (by decide), sD_eq]
  have v3 : D1 b 3 = D s 3 := by rw [hD1, sD_nb (by decide), sD_nb (by decide), sD_nb (by decide), sD_eq]
  have v4 : D1 b 4 = D s 4 := by rw [hD1, sD_nb (by decide), sD_nb (by decide), sD_eq]
  have v5 : D1 b 5 = D s 5 := by rw [hD1, sD_nb (by decide), sD_eq]
  have v6 : D1 b 6 = D s 6 := by rw [hD1, sD_eq]
  have st : Vl (d + 1) 84 0 [some (.inr (.inr (some b))), some (.inr (.inr (some s))), none] [] (hp ω D) = Vl (d + 1) 84 58 [some (.inr (.inr (some b))), some (.inr (.inr (some s))), some (.inl ((0 : Nat) : Int))] [] (hp ω D1) := by
    simp only [vT_copy_0, aGF (kT hb), aGF (kT hs), aVC, tlS, tlN, aLt, hwD, hD]
    have hsb : s ≠ b := by omega
    simp only [sD_ne hsb]
    rw [← hD1]
    rfl
  obtain ⟨D2, q2, r2, f2⟩ := copyT_names (ω := ω) (D := D1) (d := d) hb hs hne 12 0 D1 (by omega) (fun q hq => absurd hq (by omega)) (fun _ _ => rfl)
  have ch := chain (fun j => Vl (d + 1) 84 87 [some (.inr (.inr (some b))), some (.inr (.inr (some s))), some (.inl (j : Int))] [] (hp ω (pDn D2 (b + 26) j (D2 (s + 26))))) 8 (fun j hj => by
    rw [vT_copy_87, if_pos (by omega), vT_copy_93, aGF (kT hb), aGF (kT hs), rT_8 hs, aIA (kT_26 hs), if_pos (by omega), rT_8 hb, aIS (kT_26 hb), if_pos (by omega), Int.toNat_natCast, w32_s (by omega), pDn_s (pDn_ge (Nat.le_refl j))])
  rw [pDn_0, show ((0 : Nat) : Int) = 0 from rfl] at ch
  obtain ⟨D4, q4, r4, f4⟩ := copyT_undo (ω := ω) (D := pDn D2 (b + 26) 8 (D2 (s + 26))) (d := d) hb hs hne 16 0 _ (by omega) (fun q hq => absurd hq (by omega)) (fun _ _ => rfl)
  rw [show ((0 : Nat) : Int) = 0 from rfl] at q4
  have hs2 : ∀ c, s ≤ c → c < s + 61 → pDn D2 (b + 26) 8 (D2 (s + 26)) c = D c := fun c h1 h2 => by rw [pDn_ne (by omega), f2 _ (by omega), f1 _ (by omega)]
  have hb4 : ∀ j, D4 b j = D1 b j := fun j => by rw [f4 _ (by omega), pDn_ne (by omega), f2 _ (by omega)]
  obtain ⟨⟨h0, h1, h2, h3⟩, h4, h5, h6, h7, h8, h9⟩ := h
  refine ⟨D4, ?_, ⟨⟨by rw [hb4, v0, h0], by rw [hb4, v1, h1], by rw [hb4, v2, h2], by rw [hb4, v3, h3]⟩, by rw [hb4, v4, h4], by rw [hb4, v5, h5], by rw [hb4, v6, h6], fun i hi => fun c hc => ?_, fun i hi => ?_, fun i hi => ⟨fun c hc => ?_, ?_⟩⟩, fun c hc => by rw [f4 _ (by omega), pDn_ne (by omega), f2 _ (by omega), f1 _ (by omega)]⟩
  · rw [st, q2, ch, vT_copy_87, if_neg (by decide), vT_copy_111, q4]
  · have := hO.2.1
    rw [f4 _ (by omega), pDn_ne (by omega), r2 i (by omega) c hc, f1 _ (by omega)]
    exact h7 i hi c hc
  · have := hO.2.2.1
    rw [f4 _ (by omega), pDn_lt (by omega), f2 _ (by omega), f1 _ (by omega)]
    exact h8 i hi
  · have := hO.2.2.2.1
    rw [(r4 i (by omega)).1 c hc, hs2 _ (by omega) (by omega)]
    exact (h9 i hi).1 c hc
  · have := hO.2.2.2.1
    rw [(r4 i (by omega)).2, hs2 _ (by omega) (by omega)]
    exact (h9 i hi).2
end STATE
