/-! THE REFERENCE'S METHODS: mend -/
section MMND
variable {ρ : jr2} {D D' : jD} {d : Nat} {Φ : gF} {A : aA} {T : aT}
def mdP (Φ : gF) (n k : Nat) (p : Nat → Nat) (W : pl) (c : Nat) : Bool := decide (¬ (((n - k) / 2 : Nat) : Int) < (rkn (pA W (frV Φ n p c)) 0 n : Int))
theorem mmd_loop (hO : FOK Φ) {n k : Nat} (hn : n ≤ 8) (hk : k ≤ n) (hmk : Φ.1 * k ≤ 12) {p : Nat → Nat} {W : pl} : ∀ (r c : Nat) (f : Int) (D : jD), c + r = 2 ^ (Φ.1 * k) → (f = -1 ∨ 0 ≤ f) → MF Φ D → PTS D Φ n p → (∀ j, j < n → D 535 j = (W j : Int) ∧ W j < 2 ^ Φ.1) → ∃ D', (gol (mdP Φ n k p W) (fun c => (c : Int)) r c f = -1 → Vl (d + 5) 290 54 [some (.inr (.inr (some 488))), some (.inl (k : Int)), some (.inl (n : Int)), some (.inl f), some (.inl (c : Int))] [] (hp (1, ρ) D) = some ((0, some (.inl (-2))), hp (1, ρ) D')) ∧ (gol (mdP Φ n k p W) (fun c => (c : Int)) r c f ≠ -1 → Vl (d + 5) 290 54 [some (.inr (.inr (some 488))), some (.inl (k : Int)), some (.inl (n : Int)), some (.inl f), some (.inl (c : Int))] [] (hp (1, ρ) D) = Vl (d + 5) 290 124 [some (.inr (.inr (some 488))), some (.inl (k : Int)), some (.inl (n : Int)), some (.inl (gol (mdP Φ n k p W) (fun c => (c : Int)) r c f)), some (.inl ((2 ^ (Φ.1 * k) : Nat) : Int))] [] (hp (1, ρ) D')) ∧ ∀ q, q ≠ 512 → q ≠ 533 → q ≠ 534 → D' q = D q
  | 0, c, f, D, hc, hf, hF, hP, hW => by
    have st : Vl (d + 5) 290 54 [some (.inr (.inr (some 488))), some (.inl (k : Int)), some (.inl (n : Int)), some (.inl f), some (.inl (c : Int))] [] (hp (1, ρ) D) = if f = -1 then some ((0, some (.inl (-2))), hp (1, ρ) D) else Vl (d + 5) 290 124 [some (.inr (.inr (some 488))), some (.inl (k : Int)), some (.inl (n : Int)), some (.inl f), some (.inl (c : Int))] [] (hp (1, ρ) D) := by
      rw [vM_mend_54, mGF m488, mmany hF, aVC, tlS, vM_mend_61, myN_n hO hmk, if_neg (by omega), vM_mend_116]
      by_cases h : f = -1
      · rw [if_pos h, if_pos h, vM_mend_121]
      · rw [if_neg h, if_neg h]
    rw [st, show gol (mdP Φ n k p W) (fun c => (c : Int)) 0 c f = f from rfl]
    exact ⟨D, fun h => if_pos h, fun h => by rw [if_neg h, show c = 2 ^ (Φ.1 * k) by omega], fun _ _ _ _ => rfl⟩
  | r + 1, c, f, D, hc, hf, hF, hP, hW => by
    have p1 : 2 ^ (Φ.1 * k) ≤ 2 ^ 12 := Nat.pow_le_pow_right (by decide) hmk
    obtain ⟨oL, dL⟩ := lyN_OK hO (c := c) (show k ≤ 17 by omega)
    have q1 := mlay (d := d + 3) (ρ := ρ) (D := D) hF m512 (by decide) (low := c) (n := k) (by omega) hmk
    have f1 : ∀ q, q ≠ 512 → pD D 512 (rI (lyN Φ c k)) q = D q := fun q hq => pD_ne hq
    obtain ⟨D2, q2, f2⟩ := mfar (d := d) (ρ := ρ) (D := pD D 512 (rI (lyN Φ c k))) (MF_cg hF (f1 488 (by decide))) pD_PR oL hn (p := p) (W := W) (t := pA W (frV Φ n p c)) (by rw [f1 490 (by decide)]; exact hP.1) (fun j hj => by rw [f1 490 (by decide)]; exact hP.2 j hj) (fun j hj => by rw [f1 535 (by decide)]; exact hW j hj) (fun j hj => by
      show W j ^^^ frV Φ n p c j = _
      rw [frV_t hO hmk (by omega) hj])
    have g2 : ∀ q, q ≠ 512 → q ≠ 533 → q ≠ 534 → D2 q = D q := fun q a b e => by rw [f2 q b e, f1 q a]
    have hF2 : MF Φ D2 := MF_cg hF (g2 488 (by decide) (by decide) (by decide))
    have hP2 : PTS D2 Φ n p := by unfold PTS; rw [g2 490 (by decide) (by decide) (by decide)]; exact hP
    have hW2 : ∀ j, j < n → D2 535 j = (W j : Int) ∧ W j < 2 ^ Φ.1 := by rw [g2 535 (by decide) (by decide) (by decide)]; exact hW
    have el : w32 ((w32 ((n : Int) - (k : Int))).tdiv 2) = (((n - k) / 2 : Nat) : Int) := by
      rw [show w32 ((n : Int) - (k : Int)) = ((n - k : Nat) : Int) from by unfold w32; omega, show (((n - k : Nat) : Int).tdiv 2) = (((n - k) / 2 : Nat) : Int) from rfl, w32_n (by omega)]
    have st : Vl (d + 5) 290 54 [some (.inr (.inr (some 488))), some (.inl (k : Int)), some (.inl (n : Int)), some (.inl f), some (.inl (c : Int))] [] (hp (1, ρ) D) = if mdP Φ n k p W c = false then Vl (d + 5) 290 54 [some (.inr (.inr (some 488))), some (.inl (k : Int)), some (.inl (n : Int)), some (.inl f), some (.inl ((c + 1 : Nat) : Int))] [] (hp (1, ρ) D2) else if f = -1 then Vl (d + 5) 290 54 [some (.inr (.inr (some 488))), some (.inl (k : Int)), some (.inl (n : Int)), some (.inl (c : Int)), some (.inl ((c + 1 : Nat) : Int))] [] (hp (1, ρ) D2) else some ((0, some (.inl (-2))), hp (1, ρ) D2) := by
      rw [vM_mend_54, mGF m488, mmany hF, aVC, tlS, vM_mend_61, myN_n hO hmk, if_pos (by omega), vM_mend_64]
      simp only [mGF m488, mr29]
      rw [q1, aVC, tlN, vM_mend_76]
      simp only [mGF m488, mr29, mr66]
      rw [q2, aVC, tlS, vM_mend_88, if_neg (by decide), el]
      unfold mdP
      by_cases h : (((n - k) / 2 : Nat) : Int) < (rkn (pA W (frV Φ n p c)) 0 n : Int)
      · rw [if_pos h, vM_mend_96, vM_mend_110, w32_s (by omega), if_pos (decide_eq_false (fun z => z h))]
      · rw [if_neg h, if_neg (show ¬ (decide (¬ (((n - k) / 2 : Nat) : Int) < (rkn (pA W (frV Φ n p c)) 0 n : Int)) = false) from by rw [decide_eq_true h]; decide), vM_mend_99]
        by_cases h2 : f = -1
        · rw [if_pos h2, if_pos h2, vM_mend_107, vM_mend_110, w32_s (by omega)]
        · rw [if_neg h2, if_neg h2, vM_mend_104]
    rw [st]
    unfold gol
    by_cases h : mdP Φ n k p W c = false
    · obtain ⟨D3, a3, b3, f3⟩ := mmd_loop hO hn hk hmk r (c + 1) f D2 (by omega) hf hF2 hP2 hW2
      rw [if_pos h, if_pos h]
      exact ⟨D3, a3, b3, fun q a b e => by rw [f3 q a b e, g2 q a b e]⟩
    rw [if_neg h, if_neg h]
    by_cases h2 : f = -1
    · obtain ⟨D3, a3, b3, f3⟩ := mmd_loop hO hn hk hmk r (c + 1) (c : Int) D2 (by omega) (Or.inr (by omega)) hF2 hP2 hW2
      rw [if_pos h2, if_pos h2]
      exact ⟨D3, a3, b3, fun q a b e => by rw [f3 q a b e, g2 q a b e]⟩
    · rw [if_neg h2, if_neg h2]
      exact ⟨D2, fun _ => rfl, fun z => absurd rfl z, g2⟩
theorem mend_op2 (h : MS D A) (k : Int) : MO ρ D (oMend A k).2 (oMend A k).1 (Vl (d + 5) 290 0 [some (.inr (.inr (some 488))), some (.inl k), none, none, none] [] (hp (1, ρ) D)) := by
  have hB := mB_MS h
  have hF := mB_MF h
  have hO := hF.1
  have n8 : tP (AT A) ≤ 8 := h.2.1.2.2.1
  have c05 : (0 : Int) ≤ 5 ∧ (5 : Int) < ((508 : Nat) : Int) := by decide
  obtain ⟨D1, q1, m1, t1, z1, F1, f1⟩ := mtakeN (d := d + 3) (ρ := ρ) hB hF m535 (most := 8) (by decide) (by decide) (by unfold mK; decide) (by decide)
  have hP := PTS_MS m1
  have hP' : PTS D1 (aF A) (tP (AT A)) (tp (AT A)) := hP
  have zz : D1 488 0 = 0 := by rw [z1]; exact mB_0
  have g1 : ∀ q, q < 488 → D1 q = D q := fun q hq => by rw [f1 q (by omega) (by omega), mB_ne (by omega)]
  have bad : ¬ (isD A k ∧ Al A = tP (AT A) ∧ allN A 0 (Al A) = true) → ∀ x : Int, MO ρ D (oMend A k).2 (oMend A k).1 (Vl (d + 5) 290 46 [some (.inr (.inr (some 488))), some (.inl k), some (.inl x), none, none] [] (hp (1, ρ) D1)) := fun hb x => by
    unfold oMend
    rw [if_neg hb, vM_mend_46]
    exact ⟨D1, rfl, m1, zz, g1⟩
  rw [show ((8 : Nat) : Int) = 8 from rfl] at q1
  rw [vM_mend_0, mGF m488, mbegin h, aVC, tlN, vM_mend_4]
  simp only [mGF m488, mr66]
  rw [q1, aVC, tlS, vM_mend_14, mGF m488, mr3, mIA m490, if_pos c05, show (5 : Int).toNat = 5 from rfl, hP'.1]
  by_cases h1 : Al A ≤ 8 ∧ allN A 0 (Al A) = true
  rotate_left
  · rw [if_neg h1, if_neg (show ¬ (-1 : Int) = (tP (AT A) : Int) by omega)]
    exact bad (fun z => h1 ⟨by omega, z.2.2⟩) _
  rw [if_pos h1]
  by_cases h2 : Al A = tP (AT A)
  rotate_left
  · rw [if_neg (show ¬ (Al A : Int) = (tP (AT A) : Int) by omega)]
    exact bad (fun z => h2 z.2.1) _
  rw [if_pos (show (Al A : Int) = (tP (AT A) : Int) by omega), vM_mend_25]
  by_cases h3 : k < 1
  · rw [if_pos h3]
    exact bad (fun z => absurd z.1.1 (by omega)) _
  rw [if_neg h3, vM_mend_30]
  by_cases h4 : (Al A : Int) < k
  · rw [if_pos h4]
    exact bad (fun z => absurd z.1.2.1 (by omega)) _
  obtain ⟨k, rfl⟩ := Int.eq_ofNat_of_zero_le (show 0 ≤ k by omega)
  rw [if_neg h4, vM_mend_35, mGF m488, mmany F1, aVC, tlS, vM_mend_40]
  by_cases h5 : (k : Int) ≤ 12 ∧ (k : Int) * ((aF A).1 : Int) ≤ 12
  rotate_left
  · have : myN (aF A) (k : Int) = 4097 := by
      unfold myN
      rw [if_neg (by omega), if_neg h5]
    rw [this, if_pos (show (4096 : Int) < 4097 by decide)]
    exact bad (fun z => h5 z.1.2.2) _
  have hmk := (my_c hO).mp h5
  have p1 : 2 ^ ((aF A).1 * k) ≤ 2 ^ 12 := Nat.pow_le_pow_right (by decide) hmk
  have hd : isD A (k : Int) ∧ Al A = tP (AT A) ∧ allN A 0 (Al A) = true := ⟨⟨by omega, by omega, h5⟩, h2, h1.2⟩
  have ht := hAll_t hB hO h1.2
  have hW : ∀ j, j < tP (AT A) → D1 535 j = (wdF A j : Int) ∧ wdF A j < 2 ^ (aF A).1 := fun j hj => by
    unfold wdF
    rw [if_pos hj]
    exact ⟨t1 h1 j (by omega), (ht j (by omega)).1⟩
  obtain ⟨D2, a2, b2, f2⟩ := mmd_loop (d := d) (ρ := ρ) hO n8 (show k ≤ tP (AT A) by omega) hmk (p := tp (AT A)) (W := wdF A) (2 ^ ((aF A).1 * k)) 0 (-1) D1 (Nat.zero_add _) (Or.inl rfl) F1 hP' hW
  rw [show ((0 : Nat) : Int) = 0 from rfl] at a2 b2
  have ex : mnC A k = gol (mdP (aF A) (tP (AT A)) k (tp (AT A)) (wdF A)) (fun c => (c : Int)) (2 ^ ((aF A).1 * k)) 0 (-1) := by
    unfold mnC
    rw [onl_gol, ← gol_gray hmk]
    refine gol_cg _ 0 (-1) (fun i _ hi => ?_)
    show decide _ = mdP (aF A) (tP (AT A)) k (tp (AT A)) (wdF A) (grc i)
    rw [spR_f hO rfl hmk i (by omega)]
    rfl
  rw [myN_n hO hmk, if_neg (show ¬ 4096 < ((2 ^ ((aF A).1 * k) : Nat) : Int) by omega), vM_mend_49, show (Al A : Int) = (tP (AT A) : Int) by omega]
  unfold oMend
  rw [if_pos hd, Int.toNat_natCast, ex]
  have hr := gol_rng (P := mdP (aF A) (tP (AT A)) k (tp (AT A)) (wdF A)) (2 ^ ((aF A).1 * k)) 0 (-1)
  generalize gol (mdP (aF A) (tP (AT A)) k (tp (AT A)) (wdF A)) (fun c => (c : Int)) (2 ^ ((aF A).1 * k)) 0 (-1) = x at a2 b2 hr ⊢
  have g2 : ∀ q, q < 488 → D2 q = D q := fun q hq => by rw [f2 q (by omega) (by omega) (by omega), g1 q hq]
  have m2 : MS D2 (aTape A 0 (At A)) := MS_sc m1 (fun c hc => f2 c (by unfold mK at hc; omega) (by unfold mK at hc; omega) (by unfold mK at hc; omega))
  have z2 : D2 488 0 = 0 := by rw [f2 488 (by decide) (by decide) (by decide)]; exact zz
  by_cases hx : x = -1
  · rw [if_pos hx, a2 hx]
    exact ⟨D2, rfl, m2, z2, g2⟩
  obtain ⟨c, hc, rfl⟩ : ∃ c : Nat, c < 2 ^ ((aF A).1 * k) ∧ x = (c : Int) := by
    rcases hr with q | q | ⟨c, h1, h2⟩
    · exact absurd q hx
    · exact absurd q hx
    · exact ⟨c, by omega, h2⟩
  obtain ⟨oL, dL⟩ := lyN_OK hO (c := c) (show k ≤ 17 by omega)
  have hF2 : MF (aF A) D2 := MF_cg F1 (f2 488 (by decide) (by decide) (by decide))
  have q3 := mlay (d := d + 3) (ρ := ρ) (D := D2) hF2 m512 (by decide) (low := c) (n := k) (by omega) hmk
  have q4 := mtell (d := d + 3) (ρ := ρ) (D := pD D2 512 (rI (lyN (aF A) c k))) (k := 0) (by decide) m512 (by decide) pD_PR
  rw [show ((0 : Nat) : Int) = 0 from rfl] at q4
  rw [if_neg hx, b2 hx, vM_mend_124]
  simp only [mGF m488, mr29]
  rw [q3, aVC, tlN, vM_mend_135]
  simp only [mGF m488, mr29]
  rw [q4, aVC, tlS, vM_mend_144, Int.toNat_natCast, lyc_lyN hO hc hmk]
  have m3 : MS (pD D2 512 (rI (lyN (aF A) c k))) (aTape A 0 (At A)) := MS_sc m2 (fun c hc => pD_ne (by unfold mK at hc; omega))
  exact ⟨_, rfl, MS_res m3 (k := 0) (by decide) (pOK_8 hO oL), by rw [pOn_far (by decide), pD_ne (by decide)]; exact z2, fun q hq => by rw [pOn_far (by omega), pD_ne (by omega), g2 q hq]⟩
end MMND
