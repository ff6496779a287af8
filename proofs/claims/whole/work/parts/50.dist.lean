/-! DISTANCE of the points' code in the class -/
def lrl (R : Nat → pl) (k : Nat) : Nat → Nat → Nat → Nat
  | 0, _, l => l
  | r + 1, i, l => if 0 < l then lrl R k r (i + 1) (if rkn (gsm R i) 0 k < l then rkn (gsm R i) 0 k else l) else l
def pti (Φ : gF) (n : Nat) (F : pl) : Nat → pl
  | 0 => F
  | x + 1 => fun j => if j < n then fst_ Φ 1 (pti Φ n F x j) else pti Φ n F x j
def ptF (T : aT) : pl := fun j => if j < tP T then tp T j else 0
def spR (T : aT) : Nat → (Nat → pl)
  | 0 => fun _ => p0
  | x + 1 => aRw (tF T) (spR T x) ((tF T).1 * x) (tF T).1 (pti (tF T) (tP T) (ptF T) x)
abbrev isD (A : aA) (k : Int) : Prop := 1 ≤ k ∧ k ≤ (tP (AT A) : Int) ∧ k ≤ 12 ∧ k * ((aF A).1 : Int) ≤ 12
def oDistance (A : aA) (k : Int) : Int := if isD A k then (lrl (spR (AT A) k.toNat) (tP (AT A)) (2 ^ ((aF A).1 * k.toNat) - 1) 1 (tP (AT A)) : Int) else -2
section DISTANCE
variable {d : Nat} {A : aA}
theorem rkL_le (t : Nat → Nat) : ∀ (n i : Nat) (pv : Nat → Nat), rkL t n i pv ≤ n
  | 0, _, _ => Nat.le_refl _
  | n + 1, i, pv => by
    have h1 := rkL_le t n (i + 1) (rkA 8 (t i) pv).2
    have e : rkL t (n + 1) i pv = (if (rkA 8 (t i) pv).1 = true then 1 else 0) + rkL t n (i + 1) (rkA 8 (t i) pv).2 := rfl
    rw [e]; split <;> omega
theorem rankOfPacked_loop {ω : jw} {m k : Nat} (hm1 : 1 ≤ m) (hm8 : m ≤ 8) (hmk : m * k ≤ 64) (hk : k ≤ 16) {X : pl} (hX : ∀ b, X b < 2 ^ m) : ∀ (r p n : Nat) (pv : Nat → Nat) (D : jD), p + r = k → n ≤ p → D 302 4 = (m : Int) → PV D pv → ∃ D', Vl (d + 1) 165 10 [some (.inr (.inr (some 302))), some (.inr (.inl (pL m X k))), none, some (.inl (k : Int)), some (.inl (n : Int)), some (.inl (p : Int))] [] (hp ω D) = some ((0, some (.inl ((n + rkL X r p pv : Nat) : Int))), hp ω D') ∧ ∀ q, q ≠ 304 → D' q = D q
  | 0, p, n, pv, D, hp', hn, hm, hpv => by
    refine ⟨D, ?_, fun _ _ => rfl⟩
    rw [vS_rankOfPacked_10, if_neg (by omega), vS_rankOfPacked_46]
    rfl
  | r + 1, p, n, pv, D, hp', hn, hm, hpv => by
    have h256 : 2 ^ m ≤ 256 := Nat.pow_le_pow_right (n := 2) (by decide) hm8
    have q1 := unpacked_spec (ω := ω) (D := D) (d := d) (j := p) hm hm1 hm8 hmk (by omega) hX
    obtain ⟨D1, q2, r2, f2⟩ := addsRank_spec (ω := ω) (D := D) (d := d) (l := X p) (Nat.lt_of_lt_of_le (hX p) h256) hpv
    have e : rkL X (r + 1) p pv = (if (rkA 8 (X p) pv).1 = true then 1 else 0) + rkL X r (p + 1) (rkA 8 (X p) pv).2 := rfl
    rw [vS_rankOfPacked_10, if_pos (by omega), vS_rankOfPacked_16, aGF kS, q1, aVC, tlS, vS_rankOfPacked_26, aGF kS, q2, aVC, tlS, vS_rankOfPacked_29, e]
    by_cases h1 : (rkA 8 (X p) pv).1 = true
    · obtain ⟨D', q3, f3⟩ := rankOfPacked_loop hm1 hm8 hmk hk hX r (p + 1) (n + 1) (rkA 8 (X p) pv).2 D1 (by omega) (by omega) (by rw [f2 302 (by decide)]; exact hm) r2
      refine ⟨D', ?_, fun q hq => by rw [f3 q hq, f2 q hq]⟩
      rw [if_pos h1, if_neg (by decide), vS_rankOfPacked_32, vS_rankOfPacked_37, w32_s (by omega), w32_s (by omega), q3, if_pos h1, Nat.add_assoc]
    · obtain ⟨D', q3, f3⟩ := rankOfPacked_loop hm1 hm8 hmk hk hX r (p + 1) n (rkA 8 (X p) pv).2 D1 (by omega) (by omega) (by rw [f2 302 (by decide)]; exact hm) r2
      refine ⟨D', ?_, fun q hq => by rw [f3 q hq, f2 q hq]⟩
      rw [if_neg h1, if_pos rfl, vS_rankOfPacked_36, vS_rankOfPacked_37, show w32 ((n : Int) + 0) = (n : Int) by unfold w32; omega, w32_s (by omega), q3, if_neg h1, Nat.zero_add]
theorem rankOfPacked_spec {ω : jw} {D : jD} {m k : Nat} (hm : D 302 4 = (m : Int)) (hm1 : 1 ≤ m) (hm8 : m ≤ 8) (hmk : m * k ≤ 64) (hk : k ≤ 16) {X : pl} (hX : ∀ b, X b < 2 ^ m) : ∃ D', Vl (d + 1) 165 0 [some (.inr (.inr (some 302))), some (.inr (.inl (pL m X k))), none, some (.inl (k : Int)), none, none] [] (hp ω D) = some ((0, some (.inl (rkn X 0 k : Int))), hp ω D') ∧ ∀ q, q ≠ 304 → D' q = D q := by
  obtain ⟨D1, q1, r1, f1⟩ := clearPivots_spec (ω := ω) (D := D) (d := d)
  obtain ⟨D2, q2, f2⟩ := rankOfPacked_loop (d := d) (ω := ω) hm1 hm8 hmk hk hX k 0 0 (fun _ => 0) D1 (by omega) (by omega) (by rw [f1 302 (by decide)]; exact hm) r1
  rw [Nat.zero_add, show ((0 : Nat) : Int) = 0 from rfl] at q2
  refine ⟨D2, ?_, fun q hq => by rw [f2 q hq, f1 q hq]⟩
  rw [vS_rankOfPacked_0, aGF kS, q1, aVC, tlN, vS_rankOfPacked_4, q2]
  rfl
theorem leastRank_loop {ω : jw} {m n k : Nat} {R : Nat → pl} : ∀ (r i l : Nat) (D : jD), SP ω D m n k R → i + 1 + r = 2 ^ n → l ≤ k → ∃ D', Vl (d + 2) 164 7 [some (.inr (.inr (some 302))), some (.inl (k : Int)), some (.inl (l : Int)), some (.inr (.inl (pL m (gsm R i) k))), none, some (.inl ((i + 1 : Nat) : Int))] [] (hp ω D) = some ((0, some (.inl (lrl R k r (i + 1) l : Int))), hp ω D') ∧ ∀ q, q ≠ 304 → D' q = D q
  | 0, i, l, D, h, hi, hl => by
    refine ⟨D, ?_, fun _ _ => rfl⟩
    rw [vS_leastRank_7, aGF kS, sums_spec h, aVC, tlS, vS_leastRank_13, if_neg (by omega), vS_leastRank_46]
    rfl
  | r + 1, i, l, D, h, hi, hl => by
    have h12 : 2 ^ n ≤ 2 ^ 12 := Nat.pow_le_pow_right (by decide) h.2.2.1
    have e : lrl R k (r + 1) (i + 1) l = (if 0 < l then lrl R k r (i + 1 + 1) (if rkn (gsm R (i + 1)) 0 k < l then rkn (gsm R (i + 1)) 0 k else l) else l) := rfl
    rw [vS_leastRank_7, aGF kS, sums_spec h, aVC, tlS, vS_leastRank_13, if_pos (by omega), vS_leastRank_16, e]
    by_cases h0 : 0 < l
    rotate_left
    · refine ⟨D, ?_, fun _ _ => rfl⟩
      rw [if_neg (show ¬ (0 < (l : Int)) by omega), vS_leastRank_46, if_neg h0]
    obtain ⟨t1, t2⟩ := step_spec2 (ω := ω) (d := d) h (i := i + 1) (by omega) (by omega)
    have g1 := gsm_in h i (by omega)
    have g2 := gsm_in h (i + 1) (by omega)
    have hx := pL_x (k := k) g1 (h.2.2.2.2.2.2.2 _ t1).1 h.2.2.2.1
    have hx' : jlxor (pL m (gsm R i) k) (pL m (R (tzk (i + 1))) k) = pL m (gsm R (i + 1)) k := hx
    obtain ⟨D1, q1, f1⟩ := rankOfPacked_spec (ω := ω) (D := D) (d := d) h.1 h.2.2.2.2.1 h.2.2.2.2.2.1 h.2.2.2.1 h.2.2.2.2.2.2.1 g2
    obtain ⟨D', q2, f2⟩ := leastRank_loop r (i + 1) (if rkn (gsm R (i + 1)) 0 k < l then rkn (gsm R (i + 1)) 0 k else l) D1 (SP_fr h (f1 302 (by decide))) (by omega) (by split <;> omega)
    refine ⟨D', ?_, fun q hq => by rw [f2 q hq, f1 q hq]⟩
    have hmin : (if (rkn (gsm R (i + 1)) 0 k : Int) < (l : Int) then (rkn (gsm R (i + 1)) 0 k : Int) else (l : Int)) = ((if rkn (gsm R (i + 1)) 0 k < l then rkn (gsm R (i + 1)) 0 k else l : Nat) : Int) := by split <;> split <;> omega
    rw [if_pos (show 0 < (l : Int) by omega), vS_leastRank_20, aGF kS, t2, aVC, tlS, vS_leastRank_27, aGF kS, hx', q1, aVC, tlS, vS_leastRank_36, hmin, w32_s (by omega), q2, if_pos h0]
theorem leastRank_spec {ω : jw} {D : jD} {m n k : Nat} {R : Nat → pl} (h : SP ω D m n k R) : ∃ D', Vl (d + 2) 164 0 [some (.inr (.inr (some 302))), some (.inl (k : Int)), none, none, none, none] [] (hp ω D) = some ((0, some (.inl (lrl R k (2 ^ n - 1) 1 k : Int))), hp ω D') ∧ ∀ q, q ≠ 304 → D' q = D q := by
  have h1 : 0 < 2 ^ n := Nat.two_pow_pos n
  obtain ⟨D', q1, f1⟩ := leastRank_loop (ω := ω) (d := d) (2 ^ n - 1) 0 k D h (by omega) (Nat.le_refl _)
  have e0 : pL m (gsm R 0) k = 0 := by
    unfold pL
    rw [show pk m (gsm R 0) k = 0 from pkq_z k (fun _ _ => rfl)]; rfl
  rw [e0, show ((0 + 1 : Nat) : Int) = 1 from rfl] at q1
  exact ⟨D', by rw [vS_leastRank_0, q1], f1⟩
theorem isDimension_spec {ω : jw} {D : jD} (h : CS D A) (k : Int) : Vl (d + 2) 162 0 [some (.inr (.inr (some 0))), some (.inl k)] [] (hp ω D) = some ((0, some (.inl (if isD A k then 1 else 0))), hp ω D) := by
  have hF : FT (aF A) D 76 := h.2.2.2.1
  have hP5 : D 3 5 = (tP (AT A) : Int) := h.2.2.1.2.2.1
  have e1 : ¬ isD A k → (if isD A k then (1 : Int) else 0) = 0 := fun q => if_neg q
  have e2 : isD A k → (if isD A k then (1 : Int) else 0) = 1 := fun q => if_pos q
  have fin : ∀ x : Int, x = 0 ∨ x = 1 → Vl (d + 2) 162 35 [some (.inr (.inr (some 0))), some (.inl k)] [.inl x] (hp ω D) = some ((0, some (.inl x)), hp ω D) := fun x hx => by
    rw [vC_isDimension_35]; unfold vZ; rw [if_pos hx]
  rw [vC_isDimension_0]
  by_cases h1 : k < 1
  · rw [if_pos h1, vC_isDimension_34, fin 0 (Or.inl rfl), e1 (fun q => absurd q.1 (by omega))]
  rw [if_neg h1]
  simp only [vC_isDimension_5, aGF kC, rC_0, rC_1, rC_2, rC_3, rC_4, rC_5, rC_6, rC_7, rC_8, rC_9, rC_10, rC_11, rC_12, aGF kA, rA_0, aGF (kT tT_3), aGF (kK tK_75), aGF (kF tF_76), q75_0, q75_1, q75_2, q75_3, q75_4, q75_6, q75_7, q75_8, q75_9, q75_10, q75_11, q75_12, q75_13, q75_14, q75_15, q75_16, aGF (kP i67), aGF (kP i69), aGF (kP i71), aGF (kP i73), aGF (kP i363), aGF (kP i81), aGF (kP i83), aGF (kP i85), aGF (kP i87), aGF (kP i89), aGF (kP i91), aGF (kP i93), aGF (kP i95), aGF (kP i97), aGF (kP i99), aGF (kP i101), aGF (kP i103), aGF (kP i105), aGF (kP i107), aGF (kP i109)]
  rw [hD, hP5]
  by_cases h2 : (tP (AT A) : Int) < k
  · rw [if_pos h2, vC_isDimension_34, fin 0 (Or.inl rfl), e1 (fun q => absurd q.2.1 (by omega))]
  rw [if_neg h2]
  simp only [vC_isDimension_16, aGF kC, rC_0, rC_1, rC_2, rC_3, rC_4, rC_5, rC_6, rC_7, rC_8, rC_9, rC_10, rC_11, rC_12, aGF kA, rA_0, aGF (kT tT_3), aGF (kK tK_75), aGF (kF tF_76), q75_0, q75_1, q75_2, q75_3, q75_4, q75_6, q75_7, q75_8, q75_9, q75_10, q75_11, q75_12, q75_13, q75_14, q75_15, q75_16, aGF (kP i67), aGF (kP i69), aGF (kP i71), aGF (kP i73), aGF (kP i363), aGF (kP i81), aGF (kP i83), aGF (kP i85), aGF (kP i87), aGF (kP i89), aGF (kP i91), aGF (kP i93), aGF (kP i95), aGF (kP i97), aGF (kP i99), aGF (kP i101), aGF (kP i103), aGF (kP i105), aGF (kP i107), aGF (kP i109), isFew_spec tF_76 hF (show -100 ≤ k by omega), aVC, tlS, tlN, aLt, hwD]
  rw [vC_isDimension_27]
  by_cases h3 : k ≤ 12 ∧ k * ((aF A).1 : Int) ≤ 12
  · rw [if_pos h3, if_neg (by decide), vC_isDimension_30, fin 1 (Or.inr rfl), e2 ⟨by omega, by omega, h3⟩]
  · rw [if_neg h3, if_pos rfl, vC_isDimension_34, fin 0 (Or.inl rfl), e1 (fun q => h3 q.2.2)]
theorem spPts_loop {ω : jw} {T : aT} (hT8 : tP T ≤ 8) (x1 : Int) : ∀ (r p : Nat) (D : jD), p + r = tP T → D 3 5 = (tP T : Int) → (∀ i, i < tP T → D 29 i = (tp T i : Int)) → PR D (363 + 1) (fun c => if c < p then tp T c else 0) → ∃ D', Vl (d + 3) 163 23 [some (.inr (.inr (some 0))), some (.inl x1), some (.inl (p : Int)), none] [] (hp ω D) = Vl (d + 3) 163 56 [some (.inr (.inr (some 0))), some (.inl x1), some (.inl (tP T : Int)), none] [] (hp ω D') ∧ PR D' (363 + 1) (ptF T) ∧ ∀ q, q ≠ 364 → D' q = D q
  | 0, p, D, hp', h5, h29, hR => by
    rw [show p = tP T by omega] at hR ⊢
    refine ⟨D, ?_, hR, fun _ _ => rfl⟩
    simp only [vC_spanPoints_23, aGF kC, rC_0, rC_1, rC_2, rC_3, rC_4, rC_5, rC_6, rC_7, rC_8, rC_9, rC_10, rC_11, rC_12, aGF kA, rA_0, aGF (kT tT_3), aGF (kK tK_75), aGF (kF tF_76), q75_0, q75_1, q75_2, q75_3, q75_4, q75_6, q75_7, q75_8, q75_9, q75_10, q75_11, q75_12, q75_13, q75_14, q75_15, q75_16, aGF (kP i67), aGF (kP i69), aGF (kP i71), aGF (kP i73), aGF (kP i363), aGF (kP i81), aGF (kP i83), aGF (kP i85), aGF (kP i87), aGF (kP i89), aGF (kP i91), aGF (kP i93), aGF (kP i95), aGF (kP i97), aGF (kP i99), aGF (kP i101), aGF (kP i103), aGF (kP i105), aGF (kP i107), aGF (kP i109)]
    rw [hD, h5, if_neg (by omega)]
  | r + 1, p, D, hp', h5, h29, hR => by
    have q1 := point_spec (ω := ω) (D := D) (d := d + 2) tT_3 (p := p) (by omega)
    rw [show 3 + 26 = 29 from rfl, h29 p (by omega)] at q1
    have q2 := putF (ω := ω) (D := D) (d := d + 2) (j := p) (v := tp T p) i363 hR (by omega)
    have eG : (fun c => if c = p then tp T p else (fun c => if c < p then tp T c else 0) c) = (fun c => if c < p + 1 then tp T c else 0) := by
      funext c
      by_cases e : c = p
      · rw [if_pos e, e, if_pos (by omega)]
      · rw [if_neg e]
        by_cases e2 : c < p
        · simp only [if_pos e2]; rw [if_pos (by omega)]
        · simp only [if_neg e2]; rw [if_neg (by omega)]
    rw [eG] at q2
    obtain ⟨D', q3, R3, f3⟩ := spPts_loop hT8 x1 r (p + 1) (pD D (363 + 1) (rI (fun c => if c < p + 1 then tp T c else 0))) (by omega) (by rw [pD_ne (by decide)]; exact h5) (fun i hi => by rw [pD_ne (by decide)]; exact h29 i hi) pD_PR
    refine ⟨D', ?_, R3, fun q hq => by rw [f3 q hq, pD_ne (by omega)]⟩
    simp only [vC_spanPoints_23, aGF kC, rC_0, rC_1, rC_2, rC_3, rC_4, rC_5, rC_6, rC_7, rC_8, rC_9, rC_10, rC_11, rC_12, aGF kA, rA_0, aGF (kT tT_3), aGF (kK tK_75), aGF (kF tF_76), q75_0, q75_1, q75_2, q75_3, q75_4, q75_6, q75_7, q75_8, q75_9, q75_10, q75_11, q75_12, q75_13, q75_14, q75_15, q75_16, aGF (kP i67), aGF (kP i69), aGF (kP i71), aGF (kP i73), aGF (kP i363), aGF (kP i81), aGF (kP i83), aGF (kP i85), aGF (kP i87), aGF (kP i89), aGF (kP i91), aGF (kP i93), aGF (kP i95), aGF (kP i97), aGF (kP i99), aGF (kP i101), aGF (kP i103), aGF (kP i105), aGF (kP i107), aGF (kP i109)]
    rw [hD, h5, if_pos (by omega)]
    simp only [vC_spanPoints_34, aGF kC, rC_0, rC_1, rC_2, rC_3, rC_4, rC_5, rC_6, rC_7, rC_8, rC_9, rC_10, rC_11, rC_12, aGF kA, rA_0, aGF (kT tT_3), aGF (kK tK_75), aGF (kF tF_76), q75_0, q75_1, q75_2, q75_3, q75_4, q75_6, q75_7, q75_8, q75_9, q75_10, q75_11, q75_12, q75_13, q75_14, q75_15, q75_16, aGF (kP i67), aGF (kP i69), aGF (kP i71), aGF (kP i73), aGF (kP i363), aGF (kP i81), aGF (kP i83), aGF (kP i85), aGF (kP i87), aGF (kP i89), aGF (kP i91), aGF (kP i93), aGF (kP i95), aGF (kP i97), aGF (kP i99), aGF (kP i101), aGF (kP i103), aGF (kP i105), aGF (kP i107), aGF (kP i109), q1, aVC, tlS, tlN, aLt, hwD]
    simp only [vC_spanPoints_47, aGF kC, rC_0, rC_1, rC_2, rC_3, rC_4, rC_5, rC_6, rC_7, rC_8, rC_9, rC_10, rC_11, rC_12, aGF kA, rA_0, aGF (kT tT_3), aGF (kK tK_75), aGF (kF tF_76), q75_0, q75_1, q75_2, q75_3, q75_4, q75_6, q75_7, q75_8, q75_9, q75_10, q75_11, q75_12, q75_13, q75_14, q75_15, q75_16, aGF (kP i67), aGF (kP i69), aGF (kP i71), aGF (kP i73), aGF (kP i363), aGF (kP i81), aGF (kP i83), aGF (kP i85), aGF (kP i87), aGF (kP i89), aGF (kP i91), aGF (kP i93), aGF (kP i95), aGF (kP i97), aGF (kP i99), aGF (kP i101), aGF (kP i103), aGF (kP i105), aGF (kP i107), aGF (kP i109), q2, aVC, tlS, tlN, aLt, hwD]
    rw [vC_spanPoints_50, w32_s (by omega), q3]
theorem spStep_loop {ω : jw} {Φ : gF} {n : Nat} (hn8 : n ≤ 8) {F : pl} (iF : inF Φ F) (x1 x2 : Int) : ∀ (r p : Nat) (D : jD), p + r = n → D 3 5 = (n : Int) → FT Φ D 76 → PR D (363 + 1) (fun c => if c < p then fst_ Φ 1 (F c) else F c) → ∃ D', Vl (d + 3) 163 93 [some (.inr (.inr (some 0))), some (.inl x1), some (.inl x2), some (.inl (p : Int))] [] (hp ω D) = Vl (d + 3) 163 137 [some (.inr (.inr (some 0))), some (.inl x1), some (.inl x2), some (.inl (n : Int))] [] (hp ω D') ∧ PR D' (363 + 1) (fun c => if c < n then fst_ Φ 1 (F c) else F c) ∧ ∀ q, q ≠ 364 → D' q = D q
  | 0, p, D, hp', h5, hF, hR => by
    rw [show p = n by omega] at hR ⊢
    refine ⟨D, ?_, hR, fun _ _ => rfl⟩
    simp only [vC_spanPoints_93, aGF kC, rC_0, rC_1, rC_2, rC_3, rC_4, rC_5, rC_6, rC_7, rC_8, rC_9, rC_10, rC_11, rC_12, aGF kA, rA_0, aGF (kT tT_3), aGF (kK tK_75), aGF (kF tF_76), q75_0, q75_1, q75_2, q75_3, q75_4, q75_6, q75_7, q75_8, q75_9, q75_10, q75_11, q75_12, q75_13, q75_14, q75_15, q75_16, aGF (kP i67), aGF (kP i69), aGF (kP i71), aGF (kP i73), aGF (kP i363), aGF (kP i81), aGF (kP i83), aGF (kP i85), aGF (kP i87), aGF (kP i89), aGF (kP i91), aGF (kP i93), aGF (kP i95), aGF (kP i97), aGF (kP i99), aGF (kP i101), aGF (kP i103), aGF (kP i105), aGF (kP i107), aGF (kP i109)]
    rw [hD, h5, if_neg (by omega)]
  | r + 1, p, D, hp', h5, hF, hR => by
    have h1 : 1 < 2 ^ Φ.1 := by have := F_2 hF.1; omega
    have q1 := get_spec (ω := ω) (D := D) (d := d + 2) i363 (j := p) (by omega)
    have e1 : D 364 p = (F p : Int) := by
      have := hR p (by omega)
      dsimp only at this
      rw [if_neg (Nat.lt_irrefl _)] at this
      exact this
    rw [if_pos (show p < 17 by omega), show 363 + 1 = 364 from rfl, e1] at q1
    have q2 := step_spec (ω := ω) (D := D) (d := d + 1) tF_76 hF h1 (iF p)
    rw [show ((1 : Nat) : Int) = 1 from rfl] at q2
    have q3 := putF (ω := ω) (D := D) (d := d + 2) (j := p) (v := fst_ Φ 1 (F p)) i363 hR (by omega)
    have eG : (fun c => if c = p then fst_ Φ 1 (F p) else (fun c => if c < p then fst_ Φ 1 (F c) else F c) c) = (fun c => if c < p + 1 then fst_ Φ 1 (F c) else F c) := by
      funext c
      by_cases e : c = p
      · rw [if_pos e, e, if_pos (by omega)]
      · rw [if_neg e]
        by_cases e2 : c < p
        · simp only [if_pos e2]; rw [if_pos (by omega)]
        · simp only [if_neg e2]; rw [if_neg (by omega)]
    rw [eG] at q3
    obtain ⟨D', q4, R4, f4⟩ := spStep_loop hn8 iF x1 x2 r (p + 1) (pD D (363 + 1) (rI (fun c => if c < p + 1 then fst_ Φ 1 (F c) else F c))) (by omega) (by rw [pD_ne (by decide)]; exact h5) (FT_congr (fun q _ _ => pD_ne (by omega)) hF) pD_PR
    refine ⟨D', ?_, R4, fun q hq => by rw [f4 q hq, pD_ne (by omega)]⟩
    simp only [vC_spanPoints_93, aGF kC, rC_0, rC_1, rC_2, rC_3, rC_4, rC_5, rC_6, rC_7, rC_8, rC_9, rC_10, rC_11, rC_12, aGF kA, rA_0, aGF (kT tT_3), aGF (kK tK_75), aGF (kF tF_76), q75_0, q75_1, q75_2, q75_3, q75_4, q75_6, q75_7, q75_8, q75_9, q75_10, q75_11, q75_12, q75_13, q75_14, q75_15, q75_16, aGF (kP i67), aGF (kP i69), aGF (kP i71), aGF (kP i73), aGF (kP i363), aGF (kP i81), aGF (kP i83), aGF (kP i85), aGF (kP i87), aGF (kP i89), aGF (kP i91), aGF (kP i93), aGF (kP i95), aGF (kP i97), aGF (kP i99), aGF (kP i101), aGF (kP i103), aGF (kP i105), aGF (kP i107), aGF (kP i109)]
    rw [hD, h5, if_pos (by omega)]
    simp only [vC_spanPoints_104, aGF kC, rC_0, rC_1, rC_2, rC_3, rC_4, rC_5, rC_6, rC_7, rC_8, rC_9, rC_10, rC_11, rC_12, aGF kA, rA_0, aGF (kT tT_3), aGF (kK tK_75), aGF (kF tF_76), q75_0, q75_1, q75_2, q75_3, q75_4, q75_6, q75_7, q75_8, q75_9, q75_10, q75_11, q75_12, q75_13, q75_14, q75_15, q75_16, aGF (kP i67), aGF (kP i69), aGF (kP i71), aGF (kP i73), aGF (kP i363), aGF (kP i81), aGF (kP i83), aGF (kP i85), aGF (kP i87), aGF (kP i89), aGF (kP i91), aGF (kP i93), aGF (kP i95), aGF (kP i97), aGF (kP i99), aGF (kP i101), aGF (kP i103), aGF (kP i105), aGF (kP i107), aGF (kP i109), q1, aVC, tlS, tlN, aLt, hwD]
    simp only [vC_spanPoints_125, aGF kC, rC_0, rC_1, rC_2, rC_3, rC_4, rC_5, rC_6, rC_7, rC_8, rC_9, rC_10, rC_11, rC_12, aGF kA, rA_0, aGF (kT tT_3), aGF (kK tK_75), aGF (kF tF_76), q75_0, q75_1, q75_2, q75_3, q75_4, q75_6, q75_7, q75_8, q75_9, q75_10, q75_11, q75_12, q75_13, q75_14, q75_15, q75_16, aGF (kP i67), aGF (kP i69), aGF (kP i71), aGF (kP i73), aGF (kP i363), aGF (kP i81), aGF (kP i83), aGF (kP i85), aGF (kP i87), aGF (kP i89), aGF (kP i91), aGF (kP i93), aGF (kP i95), aGF (kP i97), aGF (kP i99), aGF (kP i101), aGF (kP i103), aGF (kP i105), aGF (kP i107), aGF (kP i109), q2, aVC, tlS, tlN, aLt, hwD]
    simp only [vC_spanPoints_128, aGF kC, rC_0, rC_1, rC_2, rC_3, rC_4, rC_5, rC_6, rC_7, rC_8, rC_9, rC_10, rC_11, rC_12, aGF kA, rA_0, aGF (kT tT_3), aGF (kK tK_75), aGF (kF tF_76), q75_0, q75_1, q75_2, q75_3, q75_4, q75_6, q75_7, q75_8, q75_9, q75_10, q75_11, q75_12, q75_13, q75_14, q75_15, q75_16, aGF (kP i67), aGF (kP i69), aGF (kP i71), aGF (kP i73), aGF (kP i363), aGF (kP i81), aGF (kP i83), aGF (kP i85), aGF (kP i87), aGF (kP i89), aGF (kP i91), aGF (kP i93), aGF (kP i95), aGF (kP i97), aGF (kP i99), aGF (kP i101), aGF (kP i103), aGF (kP i105), aGF (kP i107), aGF (kP i109), q3, aVC, tlS, tlN, aLt, hwD]
    rw [vC_spanPoints_131, w32_s (by omega), q4]
theorem pti_in {Φ : gF} (h : FOK Φ) {n : Nat} {F : pl} (iF : inF Φ F) : ∀ x, inF Φ (pti Φ n F x)
  | 0 => iF
  | x + 1 => fun b => by
    show (if b < n then fst_ Φ 1 (pti Φ n F x b) else pti Φ n F x b) < _
    split
    · exact fst_lt h (pti_in h iF x b)
    · exact pti_in h iF x b
theorem spRows_loop {T : aT} (hT8 : tP T ≤ 8) (hT1 : 1 ≤ tP T) (iT : inF (tF T) (ptF T)) {k : Nat} (hk : (tF T).1 * k ≤ 12) : ∀ (r x : Nat) (ω : jw) (D : jD) (u3 : Option jv), x + r = k → D 3 5 = (tP T : Int) → FT (tF T) D 76 → PR D (363 + 1) (pti (tF T) (tP T) (ptF T) x) → SP ω D (tF T).1 ((tF T).1 * x) (tP T) (spR T x) → ∃ ω' D', Vl (d + 3) 163 58 [some (.inr (.inr (some 0))), some (.inl (k : Int)), some (.inl (x : Int)), u3] [] (hp ω D) = some ((0, none), hp ω' D') ∧ SP ω' D' (tF T).1 ((tF T).1 * k) (tP T) (spR T k) ∧ wEq ω ω' ∧ ∀ q, q ≠ 302 → q ≠ 305 → q ≠ 364 → D' q = D q
  | 0, x, ω, D, u3, hx, h5, hF, hR, hS => by
    rw [show x = k by omega] at hS ⊢
    exact ⟨ω, D, by rw [vC_spanPoints_58, if_neg (by omega), vC_spanPoints_143], hS, wEq_r ω, fun _ _ _ _ => rfl⟩
  | r + 1, x, ω, D, u3, hx, h5, hF, hR, hS => by
    have m1 := F_m1 hF.1
    have hk12 : k ≤ 12 := Nat.le_trans (by have := Nat.mul_le_mul_right k m1; omega) hk
    have hmx : (tF T).1 * x + (tF T).1 ≤ 12 := by
      have : (tF T).1 * (x + 1) ≤ (tF T).1 * k := Nat.mul_le_mul_left _ (by omega)
      rw [Nat.mul_succ] at this; omega
    have oI := pti_in (n := tP T) hF.1 iT x
    have k364 : KL0[364]? = some (1, 17) := kPa i363
    obtain ⟨ω1, D1, q1, S1, w1, f1⟩ := addTimesS_spec (d := d) (c := 364) (k := tP T) k364 (by decide) (by decide) (Or.inr (by decide)) hmx hT1 oI hF (fun b hb => hR b (by omega)) hS
    obtain ⟨D2, q2, R2, f2⟩ := spStep_loop (d := d) (ω := ω1) (F := pti (tF T) (tP T) (ptF T) x) hT8 oI (k : Int) (x : Int) (tP T) 0 D1 (by omega) (by rw [f1 3 (by decide) (by decide)]; exact h5) (FT_congr (fun q _ _ => f1 q (by omega) (by omega)) hF) (fun b hb => by
      rw [f1 _ (by decide) (by decide), hR b hb]
      dsimp only
      rw [if_neg (Nat.not_lt_zero _)])
    rw [show ((0 : Nat) : Int) = 0 from rfl] at q2
    have fr : ∀ q, q ≠ 302 → q ≠ 305 → q ≠ 364 → D2 q = D q := fun q a b c => by rw [f2 q c, f1 q a b]
    obtain ⟨ω', D', q4, S4, w4, f4⟩ := spRows_loop hT8 hT1 iT hk r (x + 1) ω1 D2 (some (.inl (tP T : Int))) (by omega) (by rw [fr 3 (by decide) (by decide) (by decide)]; exact h5) (FT_congr (fun q _ _ => fr q (by omega) (by omega) (by omega)) hF) R2 (SP_fr S1 (f2 302 (by decide)))
    refine ⟨ω', D', ?_, S4, wEq_t w1 w4, fun q a b c => by rw [f4 q a b c, fr q a b c]⟩
    rw [vC_spanPoints_58, if_pos (by omega)]
    simp only [vC_spanPoints_63, aGF kC, rC_0, rC_1, rC_2, rC_3, rC_4, rC_5, rC_6, rC_7, rC_8, rC_9, rC_10, rC_11, rC_12, aGF kA, rA_0, aGF (kT tT_3), aGF (kK tK_75), aGF (kF tF_76), q75_0, q75_1, q75_2, q75_3, q75_4, q75_6, q75_7, q75_8, q75_9, q75_10, q75_11, q75_12, q75_13, q75_14, q75_15, q75_16, aGF (kP i67), aGF (kP i69), aGF (kP i71), aGF (kP i73), aGF (kP i363), aGF (kP i81), aGF (kP i83), aGF (kP i85), aGF (kP i87), aGF (kP i89), aGF (kP i91), aGF (kP i93), aGF (kP i95), aGF (kP i97), aGF (kP i99), aGF (kP i101), aGF (kP i103), aGF (kP i105), aGF (kP i107), aGF (kP i109)]
    rw [hD, h5]
    simp only [rP i363, aGF kS, q1, aVC, tlS, tlN, aLt, hwD]
    rw [vC_spanPoints_91, q2, vC_spanPoints_137, w32_s (by omega), q4]
theorem spanPoints_spec {ω : jw} {D : jD} (h : CS D A) {k : Nat} (hk : isD A (k : Int)) : ∃ ω' D', Vl (d + 3) 163 0 [some (.inr (.inr (some 0))), some (.inl (k : Int)), none, none] [] (hp ω D) = some ((0, none), hp ω' D') ∧ SP ω' D' (aF A).1 ((aF A).1 * k) (tP (AT A)) (spR (AT A) k) ∧ wEq ω ω' ∧ ∀ q, q ≠ 302 → q ≠ 305 → q ≠ 364 → D' q = D q := by
  have hF : FT (aF A) D 76 := h.2.2.2.1
  have h8 : tP (AT A) ≤ 8 := h.2.1.2.2.1
  have hP5 : D 3 5 = (tP (AT A) : Int) := h.2.2.1.2.2.1
  have hpt : ∀ i, i < tP (AT A) → D 29 i = (tp (AT A) i : Int) := h.2.2.1.2.2.2.2.2.1
  have iT : inF (aF A) (ptF (AT A)) := fun b => by
    unfold ptF; split
    · exact h.2.1.2.2.2.2.2.1 b ‹_›
    · exact Nat.two_pow_pos _
  obtain ⟨k1, k2, k3, k4⟩ := hk
  have hmk : (aF A).1 * k ≤ 12 := by
    rw [← Int.natCast_mul, Nat.mul_comm] at k4; omega
  obtain ⟨D1, q1, S1, f1⟩ := beginS_spec (ω := ω) (D := D) (d := d + 2) hF (k := tP (AT A)) (by omega) (Nat.le_trans (Nat.mul_le_mul (F_m8 hF.1) h8) (by decide)) (spR (AT A) 0)
  have q2 := clearF (ω := ω) (D := D1) (d := d + 2) i363
  have f2 : ∀ q, q ≠ 302 → q ≠ 364 → pD D1 (363 + 1) (rI p0) q = D q := fun q a b => by rw [pD_ne (by omega), f1 q a]
  obtain ⟨D3, q3, R3, f3⟩ := spPts_loop (d := d) (ω := ω) h8 (k : Int) (tP (AT A)) 0 (pD D1 (363 + 1) (rI p0)) (by omega) (by rw [f2 3 (by decide) (by decide)]; exact hP5) (fun i hi => by rw [f2 29 (by decide) (by decide)]; exact hpt i hi) (fun b hb => by
    have := pD_PR (D := D1) (c := 363 + 1) (F := p0) b hb
    rw [this]
    dsimp only
    rw [if_neg (Nat.not_lt_zero _)]; rfl)
  rw [show ((0 : Nat) : Int) = 0 from rfl] at q3
  have fr : ∀ q, q ≠ 302 → q ≠ 364 → D3 q = D q := fun q a b => by rw [f3 q b, f2 q a b]
  obtain ⟨ω', D', q4, S4, w4, f4⟩ := spRows_loop (d := d) (T := AT A) h8 (by omega) iT hmk k 0 ω D3 none (by omega) (by rw [fr 3 (by decide) (by decide)]; exact hP5) (FT_congr (fun q _ _ => fr q (by omega) (by omega)) hF) R3 (by rw [Nat.mul_zero]; exact SP_fr S1 (by rw [f3 302 (by decide), pD_ne (by decide)]))
  rw [show ((0 : Nat) : Int) = 0 from rfl] at q4
  refine ⟨ω', D', ?_, S4, w4, fun q a b c => by rw [f4 q a b c, fr q a c]⟩
  simp only [vC_spanPoints_0, aGF kC, rC_0, rC_1, rC_2, rC_3, rC_4, rC_5, rC_6, rC_7, rC_8, rC_9, rC_10, rC_11, rC_12, aGF kA, rA_0, aGF (kT tT_3), aGF (kK tK_75), aGF (kF tF_76), q75_0, q75_1, q75_2, q75_3, q75_4, q75_6, q75_7, q75_8, q75_9, q75_10, q75_11, q75_12, q75_13, q75_14, q75_15, q75_16, aGF (kP i67), aGF (kP i69), aGF (kP i71), aGF (kP i73), aGF (kP i363), aGF (kP i81), aGF (kP i83), aGF (kP i85), aGF (kP i87), aGF (kP i89), aGF (kP i91), aGF (kP i93), aGF (kP i95), aGF (kP i97), aGF (kP i99), aGF (kP i101), aGF (kP i103), aGF (kP i105), aGF (kP i107), aGF (kP i109), aGF kS, q1, aVC, tlS, tlN, aLt, hwD]
  simp only [vC_spanPoints_14, aGF kC, rC_0, rC_1, rC_2, rC_3, rC_4, rC_5, rC_6, rC_7, rC_8, rC_9, rC_10, rC_11, rC_12, aGF kA, rA_0, aGF (kT tT_3), aGF (kK tK_75), aGF (kF tF_76), q75_0, q75_1, q75_2, q75_3, q75_4, q75_6, q75_7, q75_8, q75_9, q75_10, q75_11, q75_12, q75_13, q75_14, q75_15, q75_16, aGF (kP i67), aGF (kP i69), aGF (kP i71), aGF (kP i73), aGF (kP i363), aGF (kP i81), aGF (kP i83), aGF (kP i85), aGF (kP i87), aGF (kP i89), aGF (kP i91), aGF (kP i93), aGF (kP i95), aGF (kP i97), aGF (kP i99), aGF (kP i101), aGF (kP i103), aGF (kP i105), aGF (kP i107), aGF (kP i109), q2, aVC, tlS, tlN, aLt, hwD]
  rw [vC_spanPoints_21, q3, vC_spanPoints_56, q4]
theorem distance_op {ω : jw} {D : jD} (h : CS D A) (k : Int) : ∃ ω' D', Vl (d + 4) 161 0 [some (.inr (.inr (some 0))), some (.inl k)] [] (hp ω D) = some ((0, some (.inl (oDistance A k))), hp ω' D') ∧ CS D' A ∧ wEq ω ω' ∧ ∀ q, 488 ≤ q → D' q = D q := by
  have e1 : ¬ isD A k → oDistance A k = -2 := fun q => if_neg q
  have q0 := isDimension_spec (ω := ω) (D := D) (d := d + 1) h k
  have hP5 : D 3 5 = (tP (AT A) : Int) := h.2.2.1.2.2.1
  simp only [vC_distance_0, aGF kC, rC_0, rC_1, rC_2, rC_3, rC_4, rC_5, rC_6, rC_7, rC_8, rC_9, rC_10, rC_11, rC_12, aGF kA, rA_0, aGF (kT tT_3), aGF (kK tK_75), aGF (kF tF_76), q75_0, q75_1, q75_2, q75_3, q75_4, q75_6, q75_7, q75_8, q75_9, q75_10, q75_11, q75_12, q75_13, q75_14, q75_15, q75_16, aGF (kP i67), aGF (kP i69), aGF (kP i71), aGF (kP i73), aGF (kP i363), aGF (kP i81), aGF (kP i83), aGF (kP i85), aGF (kP i87), aGF (kP i89), aGF (kP i91), aGF (kP i93), aGF (kP i95), aGF (kP i97), aGF (kP i99), aGF (kP i101), aGF (kP i103), aGF (kP i105), aGF (kP i107), aGF (kP i109), q0, aVC, tlS, tlN, aLt, hwD]
  rw [vC_distance_5]
  by_cases h1 : isD A k
  rotate_left
  · rw [if_neg h1, if_pos rfl, vC_distance_8, e1 h1]
    exact ⟨ω, D, rfl, h, wEq_r ω, fun _ _ => rfl⟩
  obtain ⟨x, rfl⟩ := Int.eq_ofNat_of_zero_le (show 0 ≤ k by have := h1.1; omega)
  have e2 : oDistance A (x : Int) = (lrl (spR (AT A) x) (tP (AT A)) (2 ^ ((aF A).1 * x) - 1) 1 (tP (AT A)) : Int) := if_pos h1
  obtain ⟨ω1, D1, q1, S1, w1, f1⟩ := spanPoints_spec (ω := ω) (D := D) (d := d) h h1
  obtain ⟨D2, q2, f2⟩ := leastRank_spec (ω := ω1) (d := d + 1) S1
  have fr : ∀ q, q ≠ 302 → q ≠ 304 → q ≠ 305 → q ≠ 364 → D2 q = D q := fun q a b c e => by rw [f2 q b, f1 q a c e]
  refine ⟨ω1, D2, ?_, CS_same h (fun c hc => fr c (by unfold kept at hc; omega) (by unfold kept at hc; omega) (by unfold kept at hc; omega) (by unfold kept at hc; omega)), w1, fun q hq => fr q (by omega) (by omega) (by omega) (by omega)⟩
  rw [if_pos h1, if_neg (by decide), e2]
  simp only [vC_distance_11, aGF kC, rC_0, rC_1, rC_2, rC_3, rC_4, rC_5, rC_6, rC_7, rC_8, rC_9, rC_10, rC_11, rC_12, aGF kA, rA_0, aGF (kT tT_3), aGF (kK tK_75), aGF (kF tF_76), q75_0, q75_1, q75_2, q75_3, q75_4, q75_6, q75_7, q75_8, q75_9, q75_10, q75_11, q75_12, q75_13, q75_14, q75_15, q75_16, aGF (kP i67), aGF (kP i69), aGF (kP i71), aGF (kP i73), aGF (kP i363), aGF (kP i81), aGF (kP i83), aGF (kP i85), aGF (kP i87), aGF (kP i89), aGF (kP i91), aGF (kP i93), aGF (kP i95), aGF (kP i97), aGF (kP i99), aGF (kP i101), aGF (kP i103), aGF (kP i105), aGF (kP i107), aGF (kP i109), q1, aVC, tlS, tlN, aLt, hwD]
  simp only [vC_distance_16, aGF kC, rC_0, rC_1, rC_2, rC_3, rC_4, rC_5, rC_6, rC_7, rC_8, rC_9, rC_10, rC_11, rC_12, aGF kA, rA_0, aGF (kT tT_3), aGF (kK tK_75), aGF (kF tF_76), q75_0, q75_1, q75_2, q75_3, q75_4, q75_6, q75_7, q75_8, q75_9, q75_10, q75_11, q75_12, q75_13, q75_14, q75_15, q75_16, aGF (kP i67), aGF (kP i69), aGF (kP i71), aGF (kP i73), aGF (kP i363), aGF (kP i81), aGF (kP i83), aGF (kP i85), aGF (kP i87), aGF (kP i89), aGF (kP i91), aGF (kP i93), aGF (kP i95), aGF (kP i97), aGF (kP i99), aGF (kP i101), aGF (kP i103), aGF (kP i105), aGF (kP i107), aGF (kP i109)]
  rw [hD, f1 3 (by decide) (by decide) (by decide), hP5]
  simp only [aGF kS, q2, aVC, tlS, tlN, aLt, hwD]
  rw [vC_distance_30]
end DISTANCE
