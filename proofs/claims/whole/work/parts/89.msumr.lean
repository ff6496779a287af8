/-! THE REFERENCE'S METHODS: sum rank -/
section MSUMR
variable {ρ : jr2} {D D' : jD} {d : Nat} {Φ : gF} {A : aA} {T : aT}
theorem srS_pos {t : Nat → Nat} {n b w : Nat} (h : srS t (n + 1) b 0 = some w) : 1 ≤ w := by
  unfold srS at h
  by_cases h0 : t b = 0
  · rw [if_pos h0] at h; cases h
  · rw [if_neg h0] at h
    have := srS_ge t _ _ _ _ h
    omega
theorem msumRank_loop {l B : Nat} {t : Nat → Nat} (hT : ∀ q, q < l → D 489 q = (t q : Int) ∧ t q < 256) (hl : l ≤ 540) (hB : B < l) (hB8 : B ≤ 8) (x1 : Int) : ∀ (n b s : Nat), b + n = B + 1 → s + 256 * n ≤ 2304 →
    Vl (d + 2) 284 46 [some (.inr (.inr (some 488))), some (.inl x1), some (.inl (B : Int)), some (.inl (s : Int)), some (.inl (b : Int)), none, none] [] (hp (1, ρ) D) = match srS t n b s with
      | none => some ((0, some (.inl (-1))), hp (1, ρ) D)
      | some w => Vl (d + 2) 284 80 [some (.inr (.inr (some 488))), some (.inl x1), some (.inl (B : Int)), some (.inl (w : Int)), some (.inl ((B + 1 : Nat) : Int)), none, none] [] (hp (1, ρ) D)
  | 0, b, s, hb, hs => by
    rw [vM_sumRank_46, if_pos (by omega)]
    obtain rfl : b = B + 1 := by omega
    rfl
  | n + 1, b, s, hb, hs => by
    have hb2 := hT b (by omega)
    rw [vM_sumRank_46, if_neg (by omega), vM_sumRank_52, mGF m488, mr1, mIA m489, if_pos (by omega), Int.toNat_natCast, hb2.1]
    unfold srS
    by_cases h0 : t b = 0
    · rw [if_pos (show (t b : Int) = 0 by omega), if_pos h0, vM_sumRank_62]
    · rw [if_neg (show ¬ (t b : Int) = 0 by omega), if_neg h0, vM_sumRank_64, mGF m488, mr1, mIA m489, if_pos (by omega), Int.toNat_natCast, hb2.1, w32_ad (by omega), w32_s (by omega)]
      exact msumRank_loop hT hl hB hB8 x1 n (b + 1) (s + t b) (by omega) (by omega)
theorem msumNum (hF : MF Φ D) {l : Nat} {t : Nat → Nat} (hT : ∀ q, q < l → D 489 q = (t q : Int) ∧ t q < 256) (hl : l ≤ 540) (x2 x3 : Int) : ∀ n k : Nat, k + n = l → Vl (d + 2) 284 102 [some (.inr (.inr (some 488))), some (.inl (l : Int)), some (.inl x2), some (.inl x3), some (.inl (k : Int)), none, none] [] (hp (1, ρ) D) = if hAll (rI t) ((2 ^ Φ.1 : Nat) : Int) k n = true then Vl (d + 2) 284 130 [some (.inr (.inr (some 488))), some (.inl (l : Int)), some (.inl x2), some (.inl x3), some (.inl (l : Int)), none, none] [] (hp (1, ρ) D) else some ((0, some (.inl (-1))), hp (1, ρ) D)
  | 0, k, hk => by
    obtain rfl : k = l := by omega
    rw [vM_sumRank_102, if_neg (by omega)]; rfl
  | n + 1, k, hk => by
    have e := (hT k (by omega)).1
    rw [vM_sumRank_102, if_pos (by omega), vM_sumRank_108]
    simp only [mGF m488, mr1]
    rw [mIA m489, if_pos (by omega), Int.toNat_natCast, e, misNum hF, aVC, tlS, vM_sumRank_119]
    unfold hAll
    by_cases z : 0 ≤ (t k : Int) ∧ (t k : Int) < ((2 ^ Φ.1 : Nat) : Int)
    · have e2 : (decide (0 ≤ rI t k) && decide (rI t k < ((2 ^ Φ.1 : Nat) : Int))) = true := by
        rw [Bool.and_eq_true, decide_eq_true_eq, decide_eq_true_eq]; exact z
      rw [if_pos z, if_neg j10, vM_sumRank_124, w32_s (by omega), msumNum hF hT hl x2 x3 n (k + 1) (by omega), e2, Bool.true_and]
    · have e2 : (decide (0 ≤ rI t k) && decide (rI t k < ((2 ^ Φ.1 : Nat) : Int))) = false := by
        rw [Bool.eq_false_iff]
        intro y
        rw [Bool.and_eq_true, decide_eq_true_eq, decide_eq_true_eq] at y
        exact z y
      rw [if_neg z, if_pos j00, vM_sumRank_122, e2, Bool.false_and]; rfl
theorem mblocks_loop {l B : Nat} {t : Nat → Nat} (hl : l ≤ 540) (hB8 : B ≤ 8) (x1 x3 : Int) : ∀ (n b w s : Nat) (D : jD) (W : Nat), (∀ q, q < l → D 489 q = (t q : Int) ∧ t q < 256) → b + n = B + 1 → srS t n b w = some W → l = 1 + B + W → s ≤ w →
    ∃ D', Vl (d + 2) 284 141 [some (.inr (.inr (some 488))), some (.inl x1), some (.inl (B : Int)), some (.inl x3), some (.inl (s : Int)), some (.inl ((1 + B + w : Nat) : Int)), some (.inl (b : Int))] [] (hp (1, ρ) D) = some ((0, some (.inl ((s + srR t n b (1 + B + w) : Nat) : Int))), hp (1, ρ) D') ∧ ∀ q, q ≠ 533 → D' q = D q
  | 0, b, w, s, D, W, hT, hb, hW, hlW, hs => by
    refine ⟨D, ?_, fun _ _ => rfl⟩
    rw [vM_sumRank_141, if_pos (by omega), vM_sumRank_187]
    rfl
  | n + 1, b, w, s, D, W, hT, hb, hW, hlW, hs => by
    have hgeW := srS_ge t _ _ _ _ hW
    unfold srS at hW
    by_cases h0 : t b = 0
    · rw [if_pos h0] at hW; cases hW
    rw [if_neg h0] at hW
    have hge := srS_ge t _ _ _ _ hW
    have hb2 := (hT b (by omega)).1
    obtain ⟨D1, q2, f1⟩ := mrankOf (ρ := ρ) (D := D) (d := d + 1) m489 (by decide) (t := t) (i0 := 1 + B + w) (N := t b) (by omega) (by decide) (fun q _ hq => hT q (by omega))
    have hr := rkn_le t (1 + B + w) (t b)
    have e1 : D1 489 b = (t b : Int) := by rw [f1 489 (by decide)]; exact hb2
    obtain ⟨D2, q3, f2⟩ := mblocks_loop hl hB8 x1 x3 n (b + 1) (w + t b) (s + rkn t (1 + B + w) (t b)) D1 W (fun q hq => by rw [f1 489 (by decide)]; exact hT q hq) (by omega) hW hlW (by omega)
    refine ⟨D2, ?_, fun q hq => by rw [f2 q hq, f1 q hq]⟩
    rw [show (1 + B + (w + t b) : Nat) = 1 + B + w + t b from by omega] at q3
    rw [vM_sumRank_141, if_neg (by omega), vM_sumRank_147]
    simp only [mGF m488, mr1]
    rw [mIA m489, if_pos (by omega), Int.toNat_natCast, hb2, q2, aVC, tlS, vM_sumRank_166, mGF m488, mr1, mIA m489, if_pos (by omega), Int.toNat_natCast, e1, w32_ad (by omega), w32_ad (by omega), w32_s (by omega), q3]
    rw [show srR t (n + 1) b (1 + B + w) = rkn t (1 + B + w) (t b) + srR t n (b + 1) (1 + B + w + t b) from rfl, Nat.add_assoc s]
theorem msumRank_op (h : MS D A) : MO ρ D (oSumRank A).2 (oSumRank A).1 (Vl (d + 2) 284 0 [some (.inr (.inr (some 488))), none, none, none, none, none, none] [] (hp (1, ρ) D)) := by
  have hB := mB_MS h
  have hF := mB_MF h
  have hl := h.1.2.1
  have fa : ∀ j, j ≠ 2 → sD (mB D A) 488 2 0 488 j = mB D A 488 j := fun j hj => sD_nb hj
  obtain ⟨E, hE⟩ : ∃ E, E = sD (mB D A) 488 2 0 := ⟨_, rfl⟩
  rw [← hE] at fa
  have hF0 : MF (aF A) E := ⟨hF.1, by rw [fa _ (by decide)]; exact hF.2.1, by rw [fa _ (by decide)]; exact hF.2.2.1, by rw [fa _ (by decide)]; exact hF.2.2.2.1, by rw [fa _ (by decide)]; exact hF.2.2.2.2⟩
  have h0 : MS E (aTape A 0 (At A)) := MS_tape hB ⟨by rw [hE]; exact sD_eq, by decide, fun i hi => absurd hi (Nat.not_lt_zero _)⟩ (fun q hq _ => by rw [hE]; exact sD_ne (by unfold mK at hq; omega)) (fa 37 (by decide)) (fa 69 (by decide))
  have eE : ∀ q, q ≠ 488 → E q = D q := fun q hq => by rw [hE, sD_ne hq, mB_ne hq]
  have z0 : E 488 0 = 0 := by rw [fa 0 (by decide)]; exact mB_0
  have g0 : ∀ q, q < 488 → E q = D q := fun q hq => eE q (by omega)
  have hT : ∀ q, q < Al A → E 489 q = (At A q : Int) ∧ At A q < 256 := fun q hq => by rw [eE 489 (by decide)]; exact h.1.2.2 q hq
  unfold oSumRank
  rw [vM_sumRank_0, mGF m488, mbegin h, aVC, tlN, vM_sumRank_4, mGF m488, vM_take0_0, mGF m488, mGF m488, aLt, hwD, hD, hB.1.1, aVC, tlS, vM_sumRank_8, ← hE]
  have bad : ¬ (1 ≤ Al A ∧ 1 ≤ At A 0 ∧ At A 0 ≤ 8 ∧ At A 0 < Al A) → MO ρ D (aTape A 0 (At A)) (if 1 ≤ Al A ∧ 1 ≤ At A 0 ∧ At A 0 ≤ 8 ∧ At A 0 < Al A then srV A else -1) (Vl (d + 2) 284 39 [some (.inr (.inr (some 488))), some (.inl (Al A : Int)), some (.inl (if Al A = 0 then 0 else (At A 0 : Int))), none, none, none, none] [] (hp (1, ρ) E)) := fun hb => by
    rw [if_neg hb, vM_sumRank_39]
    exact ⟨E, rfl, h0, z0, g0⟩
  by_cases h1 : 1 ≤ Al A
  rotate_left
  · rw [if_pos (show Al A = 0 by omega)] at bad
    rw [if_pos (show (Al A : Int) = 0 by omega), vM_sumRank_13, vM_sumRank_23, misIn, aVC, tlS, vM_sumRank_31, if_neg (show ¬ ((1 : Int) ≤ 0 ∧ (0 : Int) ≤ 8) by decide), if_pos j00]
    exact bad (fun q => h1 q.1)
  rw [if_neg (show ¬ Al A = 0 by omega)] at bad
  rw [if_neg (show ¬ (Al A : Int) = 0 by omega), vM_sumRank_17, mGF m488, mr1, mIA m489, if_pos (show (0 : Int) ≤ 0 ∧ (0 : Int) < ((540 : Nat) : Int) by decide), show (0 : Int).toNat = 0 from rfl, (hT 0 (by omega)).1, vM_sumRank_23, misIn, aVC, tlS, vM_sumRank_31]
  by_cases h2 : 1 ≤ At A 0 ∧ At A 0 ≤ 8
  rotate_left
  · rw [if_neg (show ¬ ((1 : Int) ≤ (At A 0 : Int) ∧ (At A 0 : Int) ≤ 8) by omega), if_pos j00]
    exact bad (fun q => h2 ⟨q.2.1, q.2.2.1⟩)
  rw [if_pos (show (1 : Int) ≤ (At A 0 : Int) ∧ (At A 0 : Int) ≤ 8 by omega), if_neg j10, vM_sumRank_34]
  by_cases h4 : At A 0 < Al A
  rotate_left
  · rw [if_neg (show ¬ (At A 0 : Int) < (Al A : Int) by omega)]
    exact bad (fun q => h4 q.2.2.2)
  have q1 := msumRank_loop (d := d) (ρ := ρ) hT hl h4 h2.2 (Al A : Int) (At A 0) 1 0 (by omega) (by omega)
  rw [show ((0 : Nat) : Int) = 0 from rfl, show ((1 : Nat) : Int) = 1 from rfl] at q1
  rw [if_pos (show (At A 0 : Int) < (Al A : Int) by omega), vM_sumRank_41, q1, if_pos (show 1 ≤ Al A ∧ 1 ≤ At A 0 ∧ At A 0 ≤ 8 ∧ At A 0 < Al A from ⟨h1, h2.1, h2.2, h4⟩)]
  unfold srV
  cases hw : srS (At A) (At A 0) 1 0 with
  | none => exact ⟨E, rfl, h0, z0, g0⟩
  | some w =>
    dsimp only
    have hw1 : 1 ≤ w := by
      obtain ⟨k, hk⟩ : ∃ k, At A 0 = k + 1 := ⟨At A 0 - 1, by omega⟩
      have hw' : srS (At A) (k + 1) 1 0 = some w := by rw [← hk]; exact hw
      exact srS_pos hw'
    have bad2 : ¬ (((1 ≤ w ∧ w ≤ 16) ∧ Al A = 1 + At A 0 + w) ∧ allN A (1 + At A 0) (Al A - (1 + At A 0)) = true) → MO ρ D (aTape A 0 (At A)) (if ((1 ≤ w ∧ w ≤ 16) ∧ Al A = 1 + At A 0 + w) ∧ allN A (1 + At A 0) (Al A - (1 + At A 0)) = true then (srR (At A) (At A 0) 1 (1 + At A 0) : Int) else -1) (some ((0, some (.inl (-1))), hp (1, ρ) E)) := fun hb => by
      rw [if_neg hb]
      exact ⟨E, rfl, h0, z0, g0⟩
    rw [vM_sumRank_80]
    by_cases h5 : w ≤ 16
    rotate_left
    · rw [if_pos (show 16 < (w : Int) by omega), vM_sumRank_95]
      exact bad2 (fun q => h5 q.1.1.2)
    rw [if_neg (show ¬ 16 < (w : Int) by omega), vM_sumRank_86, show (1 : Int) + (At A 0 : Int) = ((1 + At A 0 : Nat) : Int) from by omega, w32_n (by omega), w32_ad (by omega)]
    by_cases h6 : Al A = 1 + At A 0 + w
    rotate_left
    · rw [if_neg (show ¬ (Al A : Int) = ((1 + At A 0 + w : Nat) : Int) by omega), vM_sumRank_95]
      exact bad2 (fun q => h6 q.1.2)
    rw [if_pos (show (Al A : Int) = ((1 + At A 0 + w : Nat) : Int) by omega), vM_sumRank_97, show (1 : Int) + (At A 0 : Int) = ((1 + At A 0 : Nat) : Int) from by omega, w32_n (by omega), msumNum hF0 hT hl (At A 0 : Int) (w : Int) (Al A - (1 + At A 0)) (1 + At A 0) (by omega)]
    by_cases h7 : allN A (1 + At A 0) (Al A - (1 + At A 0)) = true
    rotate_left
    · rw [if_neg (show ¬ hAll (rI (At A)) ((2 ^ (aF A).1 : Nat) : Int) (1 + At A 0) (Al A - (1 + At A 0)) = true from h7)]
      exact bad2 (fun q => h7 q.2)
    rw [if_pos (show hAll (rI (At A)) ((2 ^ (aF A).1 : Nat) : Int) (1 + At A 0) (Al A - (1 + At A 0)) = true from h7), if_pos (show ((1 ≤ w ∧ w ≤ 16) ∧ Al A = 1 + At A 0 + w) ∧ allN A (1 + At A 0) (Al A - (1 + At A 0)) = true from ⟨⟨⟨hw1, h5⟩, h6⟩, h7⟩), vM_sumRank_130, show (1 : Int) + (At A 0 : Int) = ((1 + At A 0 : Nat) : Int) from by omega, w32_n (by omega)]
    obtain ⟨D1, q2, f1⟩ := mblocks_loop (d := d) (ρ := ρ) (l := Al A) (B := At A 0) (t := At A) hl h2.2 (Al A : Int) (w : Int) (At A 0) 1 0 0 E w hT (by omega) hw h6 (Nat.le_refl _)
    rw [show ((0 : Nat) : Int) = 0 from rfl, show ((1 : Nat) : Int) = 1 from rfl, Nat.zero_add, show 1 + At A 0 + 0 = 1 + At A 0 from rfl] at q2
    exact ⟨D1, q2, MS_sc h0 (fun c hc => f1 c (by unfold mK at hc; omega)), by rw [f1 488 (by decide)]; exact z0, fun q hq => by rw [f1 q (by omega), g0 q hq]⟩
end MSUMR
