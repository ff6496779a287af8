/-! THE REFERENCE'S METHODS: factorings, factor -/
section MFAC3
variable {ρ : jr2} {D D' D2 : jD} {d : Nat} {Φ : gF} {A : aA} {T : aT} {w K : Int} {t : Nat}
theorem fc_my (hO : FOK Φ) {z : Nat} (hz : z ≠ 0) (h7 : z ≤ 7) : ¬ (4096 : Int) < myN Φ ((z : Int) - 2) ↔ ((z : Int) - 2 ≤ 12 ∧ ((z : Int) - 2) * (Φ.1 : Int) ≤ 12) := by
  unfold myN
  by_cases h0 : (z : Int) - 2 < 0
  · obtain rfl : z = 1 := by omega
    rw [if_pos h0, show ((1 : Nat) : Int) - 2 = -1 from rfl]
    omega
  · obtain ⟨k, rfl⟩ : ∃ k, z = k + 2 := ⟨z - 2, by omega⟩
    rw [if_neg h0, show ((k + 2 : Nat) : Int) - 2 = (k : Int) by omega, Int.toNat_natCast]
    by_cases h1 : (k : Int) ≤ 12 ∧ (k : Int) * (Φ.1 : Int) ≤ 12
    · have p := Nat.pow_le_pow_right (n := 2) (by decide) ((my_c hO).mp h1)
      rw [if_pos h1]
      exact ⟨fun _ => h1, fun _ => by omega⟩
    · rw [if_neg h1]
      exact ⟨fun z => absurd z (by decide), fun z => absurd z h1⟩
theorem mlayF (h : MS D A) (i : Int) : ∃ D', Vl (d + 7) 272 0 [some (.inr (.inr (some 488))), some (.inl i), none] [] (hp (1, ρ) D) = some ((0, some (.inl (by classical exact if fcOK A i then 1 else 0))), hp (1, ρ) D') ∧ (fcOK A i → PRo D' 522 0 (fcM (aF A) (an A i))) ∧ (∀ q, (q < 497 ∨ 499 < q) → q ≠ 511 → q ≠ 522 → D' q = mB D A q) := by
  have hB := mB_MS h
  have hF := mB_MF h
  have hO := hF.1
  rw [vM_layFactored_0, mGF m488, mbegin h, aVC, tlN, vM_layFactored_4, mGF m488, misName hB, aVC, tlS, vM_layFactored_9]
  by_cases h1 : aN A i
  rotate_left
  · have hn : ¬ fcOK A i := fun z => h1 z.1
    rw [if_neg h1, if_pos j00, vM_layFactored_12, aZ0, if_neg hn]
    exact ⟨_, rfl, fun z => absurd z hn, fun _ _ _ _ => rfl⟩
  obtain ⟨p1, p2, p3⟩ := MS_nm hB h1
  have q1 := mtake (d := d + 5) (ρ := ρ) hB h1 (c := 511) m511 (by decide)
  obtain ⟨E, hE⟩ : ∃ E, E = pD (mB D A) 511 (rI (an A i)) := ⟨_, rfl⟩
  rw [← hE] at q1
  have RF : PR E 511 (an A i) := by rw [hE]; exact pD_PR
  have fE : ∀ q, q ≠ 511 → E q = mB D A q := fun q hq => by rw [hE, pD_ne hq]
  have hF1 : MF (aF A) E := MF_cg hF (fE 488 (by decide))
  have q2 := mdeg (d := d + 6) (ρ := ρ) m511 (by decide) RF
  rw [if_pos h1, if_neg j10, vM_layFactored_14]
  simp only [mGF m488, mr28]
  rw [q1, aVC, tlN, vM_layFactored_23]
  simp only [mGF m488, mr28]
  rw [q2, aVC, tlS, vM_layFactored_30]
  have no : ¬ fcOK A i → ∃ D', Vl (d + 7) 272 54 [some (.inr (.inr (some 488))), some (.inl i), some (.inl ((sz (an A i) : Int) - 1))] [] (hp (1, ρ) E) = some ((0, some (.inl (by classical exact if fcOK A i then 1 else 0))), hp (1, ρ) D') ∧ (fcOK A i → PRo D' 522 0 (fcM (aF A) (an A i))) ∧ (∀ q, (q < 497 ∨ 499 < q) → q ≠ 511 → q ≠ 522 → D' q = mB D A q) := fun hn => by
    rw [vM_layFactored_54, aZ0, if_neg hn]
    exact ⟨E, rfl, fun z => absurd z hn, fun q _ a _ => fE q a⟩
  by_cases h3 : sz (an A i) = 0
  · rw [if_pos (by omega)]
    exact no (fun z => z.2.1 h3)
  rw [if_neg (by omega), vM_layFactored_35]
  by_cases h4 : 7 < sz (an A i)
  · rw [if_pos (by omega)]
    exact no (fun z => absurd z.2.2.1 (by omega))
  have h5 := fc_my hO h3 (show sz (an A i) ≤ 7 by omega)
  rw [if_neg (by omega), vM_layFactored_41, mGF m488, show w32 ((sz (an A i) : Int) - 1 - 1) = (sz (an A i) : Int) - 2 from by unfold w32; omega, mmany hF1, aVC, tlS, vM_layFactored_48]
  by_cases h6 : (sz (an A i) : Int) - 2 ≤ 12 ∧ ((sz (an A i) : Int) - 2) * ((aF A).1 : Int) ≤ 12
  rotate_left
  · rw [if_pos (Classical.byContradiction fun z => h6 (h5.mp z))]
    exact no (fun z => h6 z.2.2.2)
  have hf : fcOK A i := ⟨h1, h3, by omega, h6⟩
  obtain ⟨D2, q3, r3, f3⟩ := mmonic (d := d) (ρ := ρ) hF1 (side := 0) (by decide) m511 (by decide) (by decide) (by decide) (by decide) RF p2
  have q4 := mcopy (d := d + 6) (ρ := ρ) (D := D2) (a := 0) (b := 0) m511 m522 (by decide) (by decide) (by decide) (Or.inl (by decide)) (PRo_0 r3)
  rw [show ((0 : Nat) : Int) = 0 from rfl] at q3 q4
  rw [if_neg (h5.mpr h6), vM_layFactored_56]
  simp only [mGF m488, mr28]
  rw [q3, aVC, tlN, vM_layFactored_65]
  simp only [mGF m488, mr28, mr51]
  rw [q4, aVC, tlN, vM_layFactored_78, aZ1, if_pos hf]
  refine ⟨_, rfl, fun _ k hk => pOn_in hk, fun q a b c => ?_⟩
  rw [pOn_far c, f3 q (by omega) (by omega) (by omega) (by omega), fE q b]
theorem mfacS (h : MS D A) {i : Int} (hf : fcOK A i) (hw : wK w K) (ch : Nat → Int) {D1 : jD} (hP : PRo D1 522 0 (fcM (aF A) (an A i))) (h1 : ∀ q, (q < 497 ∨ 499 < q) → q ≠ 511 → q ≠ 522 → D1 q = mB D A q) : ∃ D', Vl (d + 15) 273 0 [some (.inr (.inr (some 488))), some (.inl 0), none, none, none, none] [] (hp (1, ρ) (sD D1 488 54 K)) = some ((0, some (.inl (fcS A w ch i).1)), hp (1, ρ) D') ∧ MXS D' w K 0 (fcS A w ch i) ∧ (fcS A w ch i).1 ≤ 1073741824 ∧ MS D' A ∧ D' 488 0 = 0 ∧ ∀ q, q < 488 → D' q = D q := by
  have hB := mB_MS h
  have hF := mB_MF h
  have hO := hF.1
  obtain ⟨n1, n2, n3, n4⟩ := hf
  obtain ⟨-, p2, -⟩ := MS_nm hB n1
  have oM : pOK (aF A) (fcM (aF A) (an A i)) ∧ sz (fcM (aF A) (an A i)) = sz (an A i) := by
    refine ⟨?_, fcM_sz hO p2⟩
    obtain ⟨n, hn⟩ : ∃ n, sz (an A i) = n + 1 := ⟨sz (an A i) - 1, by omega⟩
    unfold fcM
    rw [fcM_eq p2, mnum0 hn]
    exact ⟨pM_in hO (fi_lt hO (p2.1 n)) _, pM_dle p2.2⟩
  have m1 := F_m1 hO
  have m8 := F_m8 hO
  have hm : (aF A).1 * (sz (an A i) - 2) ≤ 12 := by
    by_cases e : sz (an A i) = 1
    · rw [e, show 1 - 2 = 0 from rfl, Nat.mul_zero]; decide
    · obtain ⟨k, hk⟩ : ∃ k, sz (an A i) = k + 2 := ⟨sz (an A i) - 2, by omega⟩
      rw [hk, Nat.add_sub_cancel]
      refine (my_c hO).mp ?_
      rw [hk, show ((k + 2 : Nat) : Int) - 2 = (k : Int) by omega] at n4
      exact n4
  have hb : ((aF A).1 + 1) * (sz (an A i) - 1) ≤ 30 := by
    by_cases e : sz (an A i) = 1
    · rw [e, Nat.sub_self, Nat.mul_zero]; decide
    · obtain ⟨k, hk⟩ : ∃ k, sz (an A i) = k + 2 := ⟨sz (an A i) - 2, by omega⟩
      rw [hk, Nat.add_sub_cancel] at hm
      rw [hk, show k + 2 - 1 = k + 1 by omega, Nat.mul_succ, Nat.succ_mul]
      omega
  have hp2 : 2 ^ (((aF A).1 + 1) * (sz (an A i) - 1)) ≤ 2 ^ 30 := Nat.pow_le_pow_right (by decide) hb
  obtain ⟨E, hE⟩ : ∃ E, E = sD D1 488 54 K := ⟨_, rfl⟩
  have e8 : ∀ j, j ≠ 54 → E 488 j = mB D A 488 j := fun j hj => by rw [hE, sD_nb hj, h1 488 (by decide) (by decide) (by decide)]
  have fE : ∀ q, (q < 497 ∨ 499 < q) → q ≠ 511 → q ≠ 522 → q ≠ 488 → E q = mB D A q := fun q a b c e => by rw [hE, sD_ne e, h1 q a b c]
  have hFE : MF (aF A) E := ⟨hO, by rw [e8 10 (by decide)]; exact hF.2.1, by rw [e8 11 (by decide)]; exact hF.2.2.1, by rw [e8 12 (by decide)]; exact hF.2.2.2.1, by rw [e8 13 (by decide)]; exact hF.2.2.2.2⟩
  have hx0 : ¬ xdn w ((0, 0, ch) : xS) = true := fun z => by
    have := (wK_s hw (S := (0, 0, ch)) (by
      show (0 : Int) ≤ _
      decide)).mpr z
    have z2 : K - 0 < 0 := this
    unfold wK at hw
    omega
  obtain ⟨D2, q2, x2, l2, b2, r2⟩ := msearch_ok (ρ := ρ) (Φ := aF A) hw 7 d 0 (fcM (aF A) (an A i)) (0, 0, ch) E hFE (fun k hk => by
    rw [hE, sD_ne (by decide), Nat.mul_zero]; exact hP k hk) oM.1 (by rw [oM.2]; omega) (by rw [oM.2]; omega) (by rw [oM.2]; exact hm) (by rw [oM.2]; exact n3) ⟨by
      show E 488 54 = K - 0
      rw [hE, sD_eq]; omega, fun q hq => absurd hq (Nat.not_lt_zero _), fun z => absurd z hx0⟩ hx0 (Int.le_refl 0) (by
      rw [oM.2]
      show (0 : Int) + _ ≤ _
      omega)
  rw [oM.2] at b2
  have b2' : (fcS A w ch i).1 ≤ 0 + ((2 ^ (((aF A).1 + 1) * (sz (an A i) - 1)) : Nat) : Int) := b2
  have q2' : Vl (d + 15) 273 0 [some (.inr (.inr (some 488))), some (.inl ((0 : Nat) : Int)), none, none, none, none] [] (hp (1, ρ) E) = some ((0, some (.inl ((fcS A w ch i).1 - 0))), hp (1, ρ) D2) := q2
  rw [Int.sub_zero, show ((0 : Nat) : Int) = 0 from rfl] at q2'
  rw [← hE]
  have fr : ∀ j, j ≠ 54 → j ≠ 55 → D2 488 j = mB D A 488 j := fun j a b => by rw [r2.2.1 j a b, e8 j a]
  refine ⟨D2, q2', x2, by omega, MS_cg hB (fun c hc => ?_) (fr 2 (by decide) (by decide)) (fr 37 (by decide) (by decide)) (fr 69 (by decide) (by decide)), by rw [fr 0 (by decide) (by decide)]; exact mB_0, fun q hq => ?_⟩
  · unfold mK at hc
    rw [r2.1 c (by unfold mfx; omega), fE c (by omega) (by omega) (by omega) (by omega)]
  · rw [r2.1 q (by unfold mfx; omega), fE q (by omega) (by omega) (by omega) (by omega), mB_ne (by omega)]
theorem mfactorings_op (h : MS D A) (ch : Nat → Int) (i : Int) : MO ρ D A (oFactorings A ch i) (Vl (d + 16) 271 0 [some (.inr (.inr (some 488))), some (.inl i)] [] (hp (1, ρ) D)) := by
  have hB := mB_MS h
  obtain ⟨D1, q1, r1, f1⟩ := mlayF (d := d + 8) (ρ := ρ) h i
  unfold oFactorings
  rw [vM_factorings_0, mGF m488, q1, aVC, tlS, vM_factorings_5]
  by_cases hf : fcOK A i
  rotate_left
  · rw [if_neg hf, if_neg hf, if_pos j00, vM_factorings_8]
    exact ⟨D1, rfl, MS_sc hB (fun c hc => f1 c (by unfold mK at hc; omega) (by unfold mK at hc; omega) (by unfold mK at hc; omega)), by rw [f1 488 (by decide) (by decide) (by decide)]; exact mB_0, fun q hq => by rw [f1 q (by omega) (by omega) (by omega), mB_ne (by omega)]⟩
  obtain ⟨D2, q2, -, -, m2, z2, g2⟩ := mfacS (d := d) (ρ := ρ) (w := -1) (K := 1073741824) h hf (Or.inl ⟨rfl, rfl⟩) ch (r1 hf) f1
  rw [if_pos hf, if_pos hf, if_neg j10, vM_factorings_11, mGF m488, aLt, hwD, mGF m488, q2, aVC, tlS, vM_factorings_23]
  exact ⟨D2, rfl, m2, z2, g2⟩
theorem mfactor_op (h : MS D A) (ch : Nat → Int) (i k p : Int) (hk : k < 2147483648) (hp9 : p < 2147483648) : MO ρ D A (oFactor A ch i k p) (Vl (d + 16) 275 0 [some (.inr (.inr (some 488))), some (.inl i), some (.inl k), some (.inl p)] [] (hp (1, ρ) D)) := by
  have hB := mB_MS h
  obtain ⟨D1, q1, r1, f1⟩ := mlayF (d := d + 8) (ρ := ρ) h i
  have done : ∀ x : Int, MO ρ D A x (some ((0, some (.inl x)), hp (1, ρ) D1)) := fun x => ⟨D1, rfl, MS_sc hB (fun c hc => f1 c (by unfold mK at hc; omega) (by unfold mK at hc; omega) (by unfold mK at hc; omega)), by rw [f1 488 (by decide) (by decide) (by decide)]; exact mB_0, fun q hq => by rw [f1 q (by omega) (by omega) (by omega), mB_ne (by omega)]⟩
  unfold oFactor
  rw [vM_factor_0, mGF m488, q1, aVC, tlS, vM_factor_5]
  by_cases hf : fcOK A i
  rotate_left
  · rw [if_neg hf, if_neg hf, if_pos j00, vM_factor_8]
    exact done _
  rw [if_pos hf, if_pos hf, if_neg j10, vM_factor_11]
  by_cases hk0 : k < 0
  · rw [if_pos hk0, if_pos hk0, vM_factor_19]
    exact done _
  rw [if_neg hk0, if_neg hk0, vM_factor_15]
  by_cases hp0 : p < 0
  · rw [if_pos hp0, vM_factor_19, if_neg (fun z => absurd z.1.1.2 (by omega))]
    exact done _
  have hw : wK k k := Or.inr ⟨by omega, hk, rfl⟩
  obtain ⟨D2, q2, x2, b2, m2, z2, g2⟩ := mfacS (d := d) (ρ := ρ) (w := k) (K := k) h hf hw ch (r1 hf) f1
  have hst := wK_s hw b2
  have e54 : D2 488 54 = k - (fcS A k ch i).1 := x2.1
  have x3 := x2.2.2
  rw [if_neg hp0, vM_factor_21, mGF m488, aLt, hwD, mGF m488, q2, aVC, tlS, vM_factor_31, mGF m488, hD, e54]
  generalize hS : fcS A k ch i = S at e54 x3 b2 hst ⊢
  by_cases hs : xdn k S = true
  rotate_left
  · rw [if_neg (fun z => hs (hst.mp z)), vM_factor_63, vM_factor_64, if_neg (fun z => hs z.1.1.1)]
    exact ⟨D2, rfl, m2, z2, g2⟩
  obtain ⟨y1, y2, y3⟩ := x3 hs
  rw [if_pos (hst.mpr hs), vM_factor_39, mGF m488, hD, y1]
  have e1 : w32 (w32 ((S.2.1 : Int) - 1) - p) = (S.2.1 : Int) - 1 - p := by
    rw [w32_i (x := (S.2.1 : Int) - 1) (by omega) (by omega), w32_i (by omega) (by omega)]
  rw [e1]
  by_cases hlt : p < (S.2.1 : Int)
  · have y4 := y3 ((S.2.1 : Int) - 1 - p).toNat (by omega)
    rw [if_pos hlt, vM_factor_47, mGF m488, mr53, mGF m488, hD, y1, e1, mIA m524, if_pos (show 0 ≤ (S.2.1 : Int) - 1 - p ∧ (S.2.1 : Int) - 1 - p < ((8 : Nat) : Int) by omega), y4, vM_factor_64, if_pos (show ((xdn k S = true ∧ 0 ≤ p) ∧ 0 ≤ (S.2.1 : Int) - 1 - p) ∧ (S.2.1 : Int) - 1 - p ≤ 6 from ⟨⟨⟨hs, by omega⟩, by omega⟩, by omega⟩)]
    exact ⟨D2, rfl, m2, z2, g2⟩
  · rw [if_neg hlt, vM_factor_63, vM_factor_64, if_neg (fun z => by omega)]
    exact ⟨D2, rfl, m2, z2, g2⟩
end MFAC3
