/-! SUM RANK in the class -/
def srS (t : Nat → Nat) : Nat → Nat → Nat → Option Nat
  | 0, _, s => some s
  | n + 1, b, s => if t b = 0 then none else srS t n (b + 1) (s + t b)
def srR (t : Nat → Nat) : Nat → Nat → Nat → Nat
  | 0, _, _ => 0
  | n + 1, b, p => rkn t p (t b) + srR t n (b + 1) (p + t b)
def srV (A : aA) : Int := match srS (At A) (At A 0) 1 0 with
  | none => -1
  | some w => if ((1 ≤ w ∧ w ≤ 16) ∧ Al A = 1 + At A 0 + w) ∧ allN A (1 + At A 0) (Al A - (1 + At A 0)) = true then (srR (At A) (At A 0) 1 (1 + At A 0) : Int) else -1
def oSumRank (A : aA) : Int × aA := (if 1 ≤ Al A ∧ 1 ≤ At A 0 ∧ At A 0 ≤ 8 ∧ At A 0 < Al A then srV A else -1, aTape A 0 (At A))
section SUMR
variable {d : Nat} {ω : jw} {D : jD} {A : aA}
theorem srS_ge (t : Nat → Nat) : ∀ (n b s w : Nat), srS t n b s = some w → s ≤ w
  | 0, _, s, w, h => by cases h; exact Nat.le_refl _
  | n + 1, b, s, w, h => by
    unfold srS at h
    split at h
    · cases h
    · have := srS_ge t n (b + 1) (s + t b) w h; omega
theorem rkn_le (t : Nat → Nat) (i n : Nat) : rkn t i n ≤ n := rkL_le t n i _
theorem sumRank_loop {l B : Nat} {t : Nat → Nat} (hT : ∀ q, q < l → D 2 q = (t q : Int) ∧ t q < 256) (hl : l ≤ 540) (hB : B < l) (hB8 : B ≤ 8) (x1 : Int) : ∀ (n b s : Nat), b + n = B + 1 → s + 256 * n ≤ 2304 →
    Vl (d + 1) 152 55 [some (.inr (.inr (some 0))), some (.inl x1), some (.inl (B : Int)), some (.inl (s : Int)), some (.inl (b : Int))] [] (hp ω D) = match srS t n b s with
      | none => some ((0, some (.inl (-1))), hp ω D)
      | some w => Vl (d + 1) 152 94 [some (.inr (.inr (some 0))), some (.inl x1), some (.inl (B : Int)), some (.inl (w : Int)), some (.inl ((B + 1 : Nat) : Int))] [] (hp ω D)
  | 0, b, s, hb, hs => by
    rw [vC_sumRank_55, if_pos (by omega)]
    obtain rfl : b = B + 1 := by omega
    rfl
  | n + 1, b, s, hb, hs => by
    have hb2 := hT b (by omega)
    have q1 := byteAt_any (d := d) (ω := ω) (D := D) (p := b) (by omega)
    rw [hb2.1] at q1
    rw [vC_sumRank_55, if_neg (by omega)]
    simp only [vC_sumRank_61, aGF kC, rC_0, rC_1, rC_2, rC_3, rC_4, rC_5, rC_6, rC_7, rC_8, rC_9, rC_10, rC_11, rC_12, aGF kA, rA_0, aGF (kT tT_3), aGF (kK tK_75), aGF (kF tF_76), q75_0, q75_1, q75_2, q75_3, q75_4, q75_6, q75_7, q75_8, q75_9, q75_10, q75_11, q75_12, q75_13, q75_14, q75_15, q75_16, aGF (kP i67), aGF (kP i69), aGF (kP i71), aGF (kP i73), aGF (kP i363), aGF (kP i81), aGF (kP i83), aGF (kP i85), aGF (kP i87), aGF (kP i89), aGF (kP i91), aGF (kP i93), aGF (kP i95), aGF (kP i97), aGF (kP i99), aGF (kP i101), aGF (kP i103), aGF (kP i105), aGF (kP i107), aGF (kP i109), q1, aVC, tlS, tlN, aLt, hwD]
    rw [vC_sumRank_70]
    unfold srS
    by_cases h0 : t b = 0
    · rw [if_pos (by omega), if_pos h0, vC_sumRank_74]
    · rw [if_neg (by omega), if_neg h0]
      simp only [vC_sumRank_76, aGF kC, rC_0, rC_1, rC_2, rC_3, rC_4, rC_5, rC_6, rC_7, rC_8, rC_9, rC_10, rC_11, rC_12, aGF kA, rA_0, aGF (kT tT_3), aGF (kK tK_75), aGF (kF tF_76), q75_0, q75_1, q75_2, q75_3, q75_4, q75_6, q75_7, q75_8, q75_9, q75_10, q75_11, q75_12, q75_13, q75_14, q75_15, q75_16, aGF (kP i67), aGF (kP i69), aGF (kP i71), aGF (kP i73), aGF (kP i363), aGF (kP i81), aGF (kP i83), aGF (kP i85), aGF (kP i87), aGF (kP i89), aGF (kP i91), aGF (kP i93), aGF (kP i95), aGF (kP i97), aGF (kP i99), aGF (kP i101), aGF (kP i103), aGF (kP i105), aGF (kP i107), aGF (kP i109), q1, aVC, tlS, tlN, aLt, hwD]
      rw [vC_sumRank_86, w32_ad (by omega), w32_s (by omega)]
      exact sumRank_loop hT hl hB hB8 x1 n (b + 1) (s + t b) (by omega) (by omega)
theorem blocks_loop {l B : Nat} {t : Nat → Nat} (hl : l ≤ 540) (hB8 : B ≤ 8) : ∀ (n b w s : Nat) (D : jD) (u5 : Option jv) (W : Nat), (∀ q, q < l → D 2 q = (t q : Int) ∧ t q < 256) → b + n = B + 1 → srS t n b w = some W → l = 1 + B + W → s ≤ w →
    ∃ D', Vl (d + 2) 153 9 [some (.inr (.inr (some 0))), some (.inl (B : Int)), some (.inl (s : Int)), some (.inl ((1 + B + w : Nat) : Int)), some (.inl (b : Int)), u5] [] (hp ω D) = some ((0, some (.inl ((s + srR t n b (1 + B + w) : Nat) : Int))), hp ω D') ∧ ∀ q, q ≠ 304 → D' q = D q
  | 0, b, w, s, D, u5, W, hT, hb, hW, hlW, hs => by
    refine ⟨D, ?_, fun _ _ => rfl⟩
    rw [vC_rankOfBlocks_9, if_pos (by omega), vC_rankOfBlocks_57]
    rfl
  | n + 1, b, w, s, D, u5, W, hT, hb, hW, hlW, hs => by
    have hgeW := srS_ge t _ _ _ _ hW
    unfold srS at hW
    by_cases h0 : t b = 0
    · rw [if_pos h0] at hW; cases hW
    rw [if_neg h0] at hW
    have hge := srS_ge t _ _ _ _ hW
    have hb2 := hT b (by omega)
    have q1 := byteAt_any (d := d + 1) (ω := ω) (D := D) (p := b) (by omega)
    rw [hb2.1] at q1
    obtain ⟨D1, q2, f1⟩ := rankOf_spec (ω := ω) (D := D) (d := d) kA_0 (by decide) (t := t) (i := 1 + B + w) (n := t b) (by omega) (by decide) (fun q _ hq => hT q (by omega))
    have hr := rkn_le t (1 + B + w) (t b)
    obtain ⟨D2, q3, f2⟩ := blocks_loop hl hB8 n (b + 1) (w + t b) (s + rkn t (1 + B + w) (t b)) D1 (some (.inl ((1 + B + w + t b : Nat) : Int))) W (fun q hq => by rw [f1 2 (by decide)]; exact hT q hq) (by omega) hW hlW (by omega)
    refine ⟨D2, ?_, fun q hq => by rw [f2 q hq, f1 q hq]⟩
    rw [vC_rankOfBlocks_9, if_neg (by omega)]
    simp only [vC_rankOfBlocks_15, aGF kC, rC_0, rC_1, rC_2, rC_3, rC_4, rC_5, rC_6, rC_7, rC_8, rC_9, rC_10, rC_11, rC_12, aGF kA, rA_0, aGF (kT tT_3), aGF (kK tK_75), aGF (kF tF_76), q75_0, q75_1, q75_2, q75_3, q75_4, q75_6, q75_7, q75_8, q75_9, q75_10, q75_11, q75_12, q75_13, q75_14, q75_15, q75_16, aGF (kP i67), aGF (kP i69), aGF (kP i71), aGF (kP i73), aGF (kP i363), aGF (kP i81), aGF (kP i83), aGF (kP i85), aGF (kP i87), aGF (kP i89), aGF (kP i91), aGF (kP i93), aGF (kP i95), aGF (kP i97), aGF (kP i99), aGF (kP i101), aGF (kP i103), aGF (kP i105), aGF (kP i107), aGF (kP i109), q1, aVC, tlS, tlN, aLt, hwD]
    simp only [vC_rankOfBlocks_25, aGF kC, rC_0, rC_1, rC_2, rC_3, rC_4, rC_5, rC_6, rC_7, rC_8, rC_9, rC_10, rC_11, rC_12, aGF kA, rA_0, aGF (kT tT_3), aGF (kK tK_75), aGF (kF tF_76), q75_0, q75_1, q75_2, q75_3, q75_4, q75_6, q75_7, q75_8, q75_9, q75_10, q75_11, q75_12, q75_13, q75_14, q75_15, q75_16, aGF (kP i67), aGF (kP i69), aGF (kP i71), aGF (kP i73), aGF (kP i363), aGF (kP i81), aGF (kP i83), aGF (kP i85), aGF (kP i87), aGF (kP i89), aGF (kP i91), aGF (kP i93), aGF (kP i95), aGF (kP i97), aGF (kP i99), aGF (kP i101), aGF (kP i103), aGF (kP i105), aGF (kP i107), aGF (kP i109), aGF kS]
    rw [w32_ad (by omega), q2, aVC, tlS, vC_rankOfBlocks_46, w32_ad (by omega), w32_s (by omega), show (1 + B + w + t b : Nat) = 1 + B + (w + t b) from by omega]
    rw [show (1 + B + w + t b : Nat) = 1 + B + (w + t b) from by omega] at q3
    rw [q3]
    rw [show srR t (n + 1) b (1 + B + w) = rkn t (1 + B + w) (t b) + srR t n (b + 1) (1 + B + w + t b) from rfl, Nat.add_assoc s, show 1 + B + w + t b = 1 + B + (w + t b) from by omega]
theorem sumRank_op (h : CS D A) : ∃ D', Vl (d + 3) 152 0 [some (.inr (.inr (some 0))), none, none, none, none] [] (hp ω D) = some ((0, some (.inl (oSumRank A).1)), hp ω D') ∧ CS D' (oSumRank A).2 ∧ ∀ q, 488 ≤ q → D' q = D q := by
  have hl := h.1.2.1
  have h0 := CS_len0 h
  have f0 : ∀ q, 488 ≤ q → sD D 1 1 0 q = D q := fun q hq => sD_ne (by omega)
  have q0 := byteAt_any (d := d + 2) (ω := ω) (D := D) (p := 0) (by omega)
  rw [show ((0 : Nat) : Int) = 0 from rfl] at q0
  have st : Vl (d + 3) 152 0 [some (.inr (.inr (some 0))), none, none, none, none] [] (hp ω D) = if (Al A : Int) < 1 then Vl (d + 3) 152 48 [some (.inr (.inr (some 0))), some (.inl (Al A : Int)), some (.inl (D 2 0)), none, none] [] (hp ω (sD D 1 1 0)) else Vl (d + 3) 152 30 [some (.inr (.inr (some 0))), some (.inl (Al A : Int)), some (.inl (D 2 0)), none, none] [] (hp ω (sD D 1 1 0)) := by
    simp only [vC_sumRank_0, aGF kC, rC_0, rC_1, rC_2, rC_3, rC_4, rC_5, rC_6, rC_7, rC_8, rC_9, rC_10, rC_11, rC_12, aGF kA, rA_0, aGF (kT tT_3), aGF (kK tK_75), aGF (kF tF_76), q75_0, q75_1, q75_2, q75_3, q75_4, q75_6, q75_7, q75_8, q75_9, q75_10, q75_11, q75_12, q75_13, q75_14, q75_15, q75_16, aGF (kP i67), aGF (kP i69), aGF (kP i71), aGF (kP i73), aGF (kP i363), aGF (kP i81), aGF (kP i83), aGF (kP i85), aGF (kP i87), aGF (kP i89), aGF (kP i91), aGF (kP i93), aGF (kP i95), aGF (kP i97), aGF (kP i99), aGF (kP i101), aGF (kP i103), aGF (kP i105), aGF (kP i107), aGF (kP i109)]
    rw [hD, h.1.1]
    simp only [aGF kC, rC_0, rC_1, rC_2, rC_3, rC_4, rC_5, rC_6, rC_7, rC_8, rC_9, rC_10, rC_11, rC_12, aGF kA, rA_0, aGF (kT tT_3), aGF (kK tK_75), aGF (kF tF_76), q75_0, q75_1, q75_2, q75_3, q75_4, q75_6, q75_7, q75_8, q75_9, q75_10, q75_11, q75_12, q75_13, q75_14, q75_15, q75_16, aGF (kP i67), aGF (kP i69), aGF (kP i71), aGF (kP i73), aGF (kP i363), aGF (kP i81), aGF (kP i83), aGF (kP i85), aGF (kP i87), aGF (kP i89), aGF (kP i91), aGF (kP i93), aGF (kP i95), aGF (kP i97), aGF (kP i99), aGF (kP i101), aGF (kP i103), aGF (kP i105), aGF (kP i107), aGF (kP i109), q0, aVC, tlS, tlN, aLt, hwD]
    simp only [vC_sumRank_16, aGF kC, rC_0, rC_1, rC_2, rC_3, rC_4, rC_5, rC_6, rC_7, rC_8, rC_9, rC_10, rC_11, rC_12, aGF kA, rA_0, aGF (kT tT_3), aGF (kK tK_75), aGF (kF tF_76), q75_0, q75_1, q75_2, q75_3, q75_4, q75_6, q75_7, q75_8, q75_9, q75_10, q75_11, q75_12, q75_13, q75_14, q75_15, q75_16, aGF (kP i67), aGF (kP i69), aGF (kP i71), aGF (kP i73), aGF (kP i363), aGF (kP i81), aGF (kP i83), aGF (kP i85), aGF (kP i87), aGF (kP i89), aGF (kP i91), aGF (kP i93), aGF (kP i95), aGF (kP i97), aGF (kP i99), aGF (kP i101), aGF (kP i103), aGF (kP i105), aGF (kP i107), aGF (kP i109), aVC, tlS, tlN, aLt, hwD]
  unfold oSumRank
  rw [st]
  by_cases h1 : 1 ≤ Al A
  rotate_left
  · rw [if_pos (by omega), vC_sumRank_48, if_neg (fun q => h1 q.1)]
    exact ⟨_, rfl, h0, f0⟩
  have hT : ∀ q, q < Al A → sD D 1 1 0 2 q = (At A q : Int) ∧ At A q < 256 := fun q hq => by rw [sD_ne (by decide)]; exact h.1.2.2 q hq
  have e0 : D 2 0 = (At A 0 : Int) := (h.1.2.2 0 (by omega)).1
  rw [if_neg (by omega), e0, vC_sumRank_30]
  by_cases h2 : 1 ≤ At A 0
  rotate_left
  · rw [if_pos (by omega), vC_sumRank_48, if_neg (fun q => h2 q.2.1)]
    exact ⟨_, rfl, h0, f0⟩
  rw [if_neg (by omega), vC_sumRank_35]
  by_cases h3 : At A 0 ≤ 8
  rotate_left
  · rw [if_pos (by omega), vC_sumRank_48, if_neg (fun q => h3 q.2.2.1)]
    exact ⟨_, rfl, h0, f0⟩
  rw [if_neg (by omega), vC_sumRank_41, show (1 : Int) + (At A 0 : Int) = ((1 + At A 0 : Nat) : Int) from by omega, w32_n (by omega)]
  by_cases h4 : At A 0 < Al A
  rotate_left
  · rw [if_pos (by omega), vC_sumRank_48, if_neg (fun q => h4 q.2.2.2)]
    exact ⟨_, rfl, h0, f0⟩
  have q1 := sumRank_loop (d := d + 2) (ω := ω) hT hl h4 h3 (Al A : Int) (At A 0) 1 0 (by omega) (by omega)
  rw [show ((0 : Nat) : Int) = 0 from rfl, show ((1 : Nat) : Int) = 1 from rfl] at q1
  rw [if_neg (by omega), vC_sumRank_50, q1, if_pos ⟨h1, h2, h3, h4⟩]
  unfold srV
  cases hw : srS (At A) (At A 0) 1 0 with
  | none => exact ⟨_, rfl, h0, f0⟩
  | some w =>
    dsimp only
    simp only [vC_sumRank_94, isWord_spec, aVC, tlS, tlN, aLt, hwD]
    rw [vC_sumRank_98]
    by_cases h5 : 1 ≤ w ∧ w ≤ 16
    rotate_left
    · rw [if_neg (show ¬ (1 ≤ (w : Int) ∧ (w : Int) ≤ 16) by omega), if_pos rfl, vC_sumRank_110, if_neg (fun q => h5 q.1.1)]
      exact ⟨_, rfl, h0, f0⟩
    rw [if_pos (show 1 ≤ (w : Int) ∧ (w : Int) ≤ 16 by omega), if_neg (by decide), vC_sumRank_101, show (1 : Int) + (At A 0 : Int) = ((1 + At A 0 : Nat) : Int) from by omega, w32_n (by omega), w32_ad (by omega)]
    by_cases h6 : Al A = 1 + At A 0 + w
    rotate_left
    · rw [if_neg (by omega), vC_sumRank_110, if_neg (fun q => h6 q.1.2)]
      exact ⟨_, rfl, h0, f0⟩
    rw [if_pos (by omega)]
    have hF : FT (aF A) (sD D 1 1 0) 76 := h0.2.2.2.1
    have ta : Vl (d + 2) 98 0 [some (.inr (.inr (some 76))), some (.inr (.inr (some 2))), some (.inl ((1 + At A 0 : Nat) : Int)), some (.inl (Al A : Int)), none] [] (hp ω (sD D 1 1 0)) = some ((0, some (.inl (if allN A (1 + At A 0) (Al A - (1 + At A 0)) = true then 1 else 0))), hp ω (sD D 1 1 0)) := by
      rw [hasAll_spec tF_76 hF kA_0 (by decide) (show Al A ≤ 540 by omega) (show 1 + At A 0 ≤ Al A by omega)]
      unfold allN
      rw [hAll_congr (r' := rI (At A)) _ (Al A - (1 + At A 0)) (1 + At A 0) (fun b h1 h2 => (hT b (by omega)).1)]
    simp only [vC_sumRank_112, aGF kC, rC_0, rC_1, rC_2, rC_3, rC_4, rC_5, rC_6, rC_7, rC_8, rC_9, rC_10, rC_11, rC_12, aGF kA, rA_0, aGF (kT tT_3), aGF (kK tK_75), aGF (kF tF_76), q75_0, q75_1, q75_2, q75_3, q75_4, q75_6, q75_7, q75_8, q75_9, q75_10, q75_11, q75_12, q75_13, q75_14, q75_15, q75_16, aGF (kP i67), aGF (kP i69), aGF (kP i71), aGF (kP i73), aGF (kP i363), aGF (kP i81), aGF (kP i83), aGF (kP i85), aGF (kP i87), aGF (kP i89), aGF (kP i91), aGF (kP i93), aGF (kP i95), aGF (kP i97), aGF (kP i99), aGF (kP i101), aGF (kP i103), aGF (kP i105), aGF (kP i107), aGF (kP i109)]
    rw [show (1 : Int) + (At A 0 : Int) = ((1 + At A 0 : Nat) : Int) from by omega, w32_n (by omega)]
    simp only [ta, aVC, tlS, tlN, aLt, hwD]
    rw [vC_sumRank_133]
    by_cases h7 : allN A (1 + At A 0) (Al A - (1 + At A 0)) = true
    rotate_left
    · rw [if_neg h7, if_pos rfl, vC_sumRank_144, vC_sumRank_145, if_neg (fun q => h7 q.2)]
      exact ⟨_, rfl, h0, f0⟩
    rw [if_pos h7, if_neg (by decide), if_pos ⟨⟨h5, h6⟩, h7⟩]
    obtain ⟨D1, q2, f1⟩ := blocks_loop (d := d) (ω := ω) (l := Al A) (B := At A 0) (t := At A) hl h3 (At A 0) 1 0 0 (sD D 1 1 0) none w hT (by omega) hw h6 (Nat.le_refl _)
    rw [show ((0 : Nat) : Int) = 0 from rfl, show ((1 : Nat) : Int) = 1 from rfl, Nat.zero_add, show 1 + At A 0 + 0 = 1 + At A 0 from rfl] at q2
    refine ⟨D1, ?_, CS_same h0 (fun c hc => f1 c (by unfold kept at hc; omega)), fun q hq => by rw [f1 q (by omega), f0 q hq]⟩
    simp only [vC_sumRank_136, aGF kC, rC_0, rC_1, rC_2, rC_3, rC_4, rC_5, rC_6, rC_7, rC_8, rC_9, rC_10, rC_11, rC_12, aGF kA, rA_0, aGF (kT tT_3), aGF (kK tK_75), aGF (kF tF_76), q75_0, q75_1, q75_2, q75_3, q75_4, q75_6, q75_7, q75_8, q75_9, q75_10, q75_11, q75_12, q75_13, q75_14, q75_15, q75_16, aGF (kP i67), aGF (kP i69), aGF (kP i71), aGF (kP i73), aGF (kP i363), aGF (kP i81), aGF (kP i83), aGF (kP i85), aGF (kP i87), aGF (kP i89), aGF (kP i91), aGF (kP i93), aGF (kP i95), aGF (kP i97), aGF (kP i99), aGF (kP i101), aGF (kP i103), aGF (kP i105), aGF (kP i107), aGF (kP i109)]
    rw [vC_rankOfBlocks_0, show (1 : Int) + (At A 0 : Int) = ((1 + At A 0 : Nat) : Int) from by omega, w32_n (by omega), q2, aVC, tlS, vC_sumRank_141, vC_sumRank_145]
end SUMR
