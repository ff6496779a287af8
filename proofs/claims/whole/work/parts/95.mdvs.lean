/-! THE REFERENCE'S METHODS: divisors -/
section MDVS
variable {ρ : jr2} {D D' : jD} {d : Nat} {Φ : gF} {A : aA} {T : aT}
theorem myN_n (hO : FOK Φ) {n : Nat} (h : Φ.1 * n ≤ 12) : myN Φ (n : Int) = ((2 ^ (Φ.1 * n) : Nat) : Int) := by
  unfold myN
  rw [if_neg (by omega), if_pos ((my_c hO).mpr h), Int.toNat_natCast]
theorem nml_mnc {low n : Nat} : ∀ j a, j ≤ n → nml Φ (mnc Φ low n) j a = a * 2 ^ (Φ.1 * j) + low % 2 ^ (Φ.1 * j)
  | 0, a, _ => by
    show a = _
    rw [Nat.mul_zero, Nat.pow_zero, Nat.mul_one, Nat.mod_one]; rfl
  | j + 1, a, hj => by
    show nml Φ (mnc Φ low n) j (a * 2 ^ Φ.1 + mnc Φ low n j) = _
    rw [nml_mnc j _ (by omega), show mnc Φ low n j = low / 2 ^ (Φ.1 * j) % 2 ^ Φ.1 from if_pos (by omega), Nat.mul_succ, Nat.pow_add, Nat.mod_mul, Nat.add_mul, Nat.mul_assoc a, Nat.mul_comm (2 ^ Φ.1), Nat.mul_comm (low / 2 ^ (Φ.1 * j) % 2 ^ Φ.1), Nat.add_assoc, Nat.add_comm (2 ^ (Φ.1 * j) * _)]
theorem nmb_mnc (hO : FOK Φ) {low n : Nat} (hn : n < 17) (hl : low < 2 ^ (Φ.1 * n)) : nmb Φ (mnc Φ low n) = 2 ^ (Φ.1 * n) + low := by
  unfold nmb
  rw [(mnc_OK hO low hn).2]
  show nml Φ (mnc Φ low n) n (0 * 2 ^ Φ.1 + mnc Φ low n n) = _
  rw [nml_mnc n _ (Nat.le_refl n), show mnc Φ low n n = 1 from by unfold mnc; rw [if_neg (by omega), if_pos rfl], Nat.zero_mul, Nat.zero_add, Nat.one_mul, Nat.mod_eq_of_lt hl]
theorem mdvs_loop (hO : FOK Φ) {n : Nat} (hmn : Φ.1 * n ≤ 12) (hn : n ≤ 12) (x1 k : Int) {F : pl} (oF : pOK Φ F) (hnF : n < sz F) : ∀ (r low c : Nat) (D : jD), low + r = 2 ^ (Φ.1 * n) → c ≤ low → MF Φ D → PR D 511 F → ∃ D', Vl (d + 8) 266 65 [some (.inr (.inr (some 488))), some (.inl x1), some (.inl (n : Int)), some (.inl k), some (.inl (c : Int)), some (.inl (low : Int))] [] (hp (1, ρ) D) = some ((0, some (.inl (dvsl Φ F n k (2 ^ (Φ.1 * n)) r low c))), hp (1, ρ) D') ∧ ∀ q, (q < 497 ∨ 512 < q ∨ q = 511) → D' q = D q
  | 0, low, c, D, hl, hc, hF, RF => by
    rw [vM_divisors_65, mGF m488, mmany hF, aVC, tlS, vM_divisors_72, myN_n hO hmn, if_neg (by omega), vM_divisors_140]
    refine ⟨D, ?_, fun _ _ => rfl⟩
    unfold dvsl
    by_cases hk : k = -1
    · rw [if_pos hk, if_pos hk, vM_divisors_145, vM_divisors_151]
    · rw [if_neg hk, if_neg hk, vM_divisors_150, vM_divisors_151]
  | r + 1, low, c, D, hl, hc, hF, RF => by
    have p1 : 2 ^ (Φ.1 * n) ≤ 2 ^ 12 := Nat.pow_le_pow_right (by decide) hmn
    obtain ⟨oG, sG⟩ := mnc_OK hO low (show n < 17 by omega)
    have q1 := mlayM (d := d + 6) (ρ := ρ) (D := D) hF m512 (by decide) (low := low) (n := n) (by omega) hmn
    have hF1 : MF Φ (pD D 512 (rI (mnc Φ low n))) := MF_cg hF (pD_ne (by decide))
    obtain ⟨D1, q2, r2, f2⟩ := mdivR (d := d) (ρ := ρ) hF1 (cf := 511) (cg := 512) ⟨m511, by decide, by decide⟩ ⟨m512, by decide, by decide⟩ (by decide) (by decide) (by decide) (PR_ne (pD_ne (by decide)) RF) pD_PR oF oG (by omega)
    have g2 : ∀ q, (q < 497 ∨ 512 < q ∨ q = 511) → D1 q = D q := fun q hq => by rw [f2 q (by omega) (by omega) (by omega), pD_ne (by omega)]
    have R1 : PR D1 511 F := PR_ne (g2 511 (by decide)) RF
    have R2 : PR D1 512 (mnc Φ low n) := PR_ne (f2 512 (by decide) (by decide) (by decide)) pD_PR
    have hF2 : MF Φ D1 := MF_cg hF (g2 488 (by decide))
    have q3 := mdeg (d := d + 7) (ρ := ρ) m511 (by decide) RF
    have go : ∀ c', c' ≤ low + 1 → ∃ D', Vl (d + 8) 266 134 [some (.inr (.inr (some 488))), some (.inl x1), some (.inl (n : Int)), some (.inl k), some (.inl ((c' : Nat) : Int)), some (.inl (low : Int))] [] (hp (1, ρ) D1) = some ((0, some (.inl (dvsl Φ F n k (2 ^ (Φ.1 * n)) r (low + 1) c'))), hp (1, ρ) D') ∧ ∀ q, (q < 497 ∨ 512 < q ∨ q = 511) → D' q = D q := fun c' hc' => by
      obtain ⟨D2, q4, f4⟩ := mdvs_loop hO hmn hn x1 k oF hnF r (low + 1) c' D1 (by omega) hc' hF2 R1
      exact ⟨D2, by rw [vM_divisors_134, w32_s (by omega), q4], fun q hq => by rw [f4 q hq, g2 q hq]⟩
    rw [vM_divisors_65, mGF m488, mmany hF, aVC, tlS, vM_divisors_72, myN_n hO hmn, if_pos (by omega), vM_divisors_75]
    simp only [mGF m488, mr28]
    rw [q3, aVC, tlS, vM_divisors_83, if_neg (by omega), vM_divisors_86]
    simp only [mGF m488, mr29]
    rw [q1, aVC, tlN, vM_divisors_98]
    simp only [mGF m488, mr28, mr29]
    rw [q2, aVC, tlS, vM_divisors_110]
    unfold dvsl
    by_cases h1 : isDv Φ F (mnc Φ low n) = true
    · rw [if_pos h1, if_neg j10, vM_divisors_116, if_pos h1]
      by_cases h2 : (c : Int) = k
      · have q5 := mnumber (d := d + 6) (ρ := ρ) hF2 m512 R2 oG.1 (by rw [sG, Nat.mul_succ]; have := F_m8 hO; omega)
        rw [if_pos h2, if_pos h2, vM_divisors_122]
        simp only [mGF m488, mr29]
        rw [q5, aVC, tlS, vM_divisors_130, nmb_mnc hO (by omega) (by omega)]
        exact ⟨D1, rfl, g2⟩
      · rw [if_neg h2, if_neg h2, vM_divisors_131, w32_s (by omega)]
        exact go (c + 1) (by omega)
    · rw [if_neg h1, if_pos j00, vM_divisors_113, if_neg h1]
      exact go c (by omega)
theorem mdivisors_op (h : MS D A) (i n k : Int) : MO ρ D A (oDivisors A i n k) (Vl (d + 8) 266 0 [some (.inr (.inr (some 488))), some (.inl i), some (.inl n), some (.inl k), none, none] [] (hp (1, ρ) D)) := by
  have hB := mB_MS h
  have hF := mB_MF h
  unfold oDivisors
  rw [vM_divisors_0, mGF m488, mbegin h, aVC, tlN, vM_divisors_4, mGF m488, misName hB, aVC, tlS, vM_divisors_9]
  by_cases h1 : aN A i
  rotate_left
  · rw [if_neg h1, if_pos j00, vM_divisors_16, if_neg (fun z => h1 z.1.1)]
    exact MO_mB h rfl
  rw [if_pos h1, if_neg j10, vM_divisors_12]
  by_cases h2 : n < 0
  · rw [if_pos h2, vM_divisors_16, if_neg (fun z => by omega)]
    exact MO_mB h rfl
  obtain ⟨p1, p2, p3⟩ := MS_nm h h1
  have q1 := mtake (d := d + 6) (ρ := ρ) hB h1 (c := 511) m511 (by decide)
  obtain ⟨E, hE⟩ : ∃ E, E = pD (mB D A) 511 (rI (an A i)) := ⟨_, rfl⟩
  rw [← hE] at q1
  have RF : PR E 511 (an A i) := by rw [hE]; exact pD_PR
  have fE : ∀ q, q ≠ 511 → E q = mB D A q := fun q hq => by rw [hE, pD_ne hq]
  have hF1 : MF (aF A) E := MF_cg hF (fE 488 (by decide))
  have q2 := mdeg (d := d + 7) (ρ := ρ) m511 (by decide) RF
  have done : ∀ (D1 : jD) (x : Int), (∀ q, (q < 497 ∨ 512 < q ∨ q = 511) → D1 q = E q) → MO ρ D A x (some ((0, some (.inl x)), hp (1, ρ) D1)) := fun D1 x g => by
    refine ⟨D1, rfl, MS_sc hB (fun c hc => ?_), ?_, fun q hq => ?_⟩
    · rw [g c (by unfold mK at hc; omega), fE c (by unfold mK at hc; omega)]
    · rw [g 488 (by decide), fE 488 (by decide)]; exact mB_0
    · rw [g q (by omega), fE q (by omega), mB_ne (by omega)]
  rw [if_neg h2, vM_divisors_19]
  simp only [mGF m488, mr28]
  rw [q1, aVC, tlN, vM_divisors_28]
  simp only [mGF m488, mr28]
  rw [q2, aVC, tlS, vM_divisors_35]
  by_cases h3 : sz (an A i) = 0
  · rw [if_neg (show ¬ ((aN A i ∧ sz (an A i) ≠ 0) ∧ 0 ≤ n ∧ n ≤ 12 ∧ n * ((aF A).1 : Int) ≤ 12) from fun z => z.1.2 h3), if_pos (show (sz (an A i) : Int) - 1 < 0 by omega), vM_divisors_49]
    exact done E _ (fun _ _ => rfl)
  rw [if_neg (show ¬ (sz (an A i) : Int) - 1 < 0 by omega), vM_divisors_38, mGF m488, mmany hF1, aVC, tlS, vM_divisors_43]
  unfold myN
  rw [if_neg h2]
  by_cases h4 : n ≤ 12 ∧ n * ((aF A).1 : Int) ≤ 12
  rotate_left
  · rw [if_neg (show ¬ ((aN A i ∧ sz (an A i) ≠ 0) ∧ 0 ≤ n ∧ n ≤ 12 ∧ n * ((aF A).1 : Int) ≤ 12) from fun z => h4 z.2.2), if_neg h4, if_pos (show (4096 : Int) < 4097 by decide), vM_divisors_49]
    exact done E _ (fun _ _ => rfl)
  obtain ⟨n, rfl⟩ := Int.eq_ofNat_of_zero_le (show 0 ≤ n by omega)
  have hmn := (my_c hF.1).mp h4
  have p1 : 2 ^ ((aF A).1 * n) ≤ 2 ^ 12 := Nat.pow_le_pow_right (by decide) hmn
  rw [if_pos h4, Int.toNat_natCast, if_pos (show (aN A i ∧ sz (an A i) ≠ 0) ∧ 0 ≤ (n : Int) ∧ (n : Int) ≤ 12 ∧ (n : Int) * ((aF A).1 : Int) ≤ 12 from ⟨⟨h1, h3⟩, by omega, h4.1, h4.2⟩), if_neg (show ¬ 4096 < ((2 ^ ((aF A).1 * n) : Nat) : Int) by omega), vM_divisors_52]
  by_cases h5 : k < -1
  · rw [if_pos h5, if_pos h5, vM_divisors_57]
    exact done E _ (fun _ _ => rfl)
  rw [if_neg h5, if_neg h5, vM_divisors_59]
  unfold dvE
  by_cases h6 : sz (an A i) ≤ n
  · rw [if_pos h6, vM_divisors_65, mGF m488, mmany hF1, aVC, tlS, vM_divisors_72, myN_n hF.1 hmn, if_pos (show (0 : Int) < ((2 ^ ((aF A).1 * n) : Nat) : Int) by have := Nat.two_pow_pos ((aF A).1 * n); omega), vM_divisors_75]
    simp only [mGF m488, mr28]
    rw [q2, aVC, tlS, vM_divisors_83, if_pos (show (sz (an A i) : Int) - 1 < (n : Int) by omega), vM_divisors_140]
    unfold dvsl
    by_cases hk : k = -1
    · rw [if_pos hk, if_pos hk, vM_divisors_145, vM_divisors_151]
      exact done E _ (fun _ _ => rfl)
    · rw [if_neg hk, if_neg hk, vM_divisors_150, vM_divisors_151]
      exact done E _ (fun _ _ => rfl)
  · have hn12 : n ≤ 12 := by omega
    obtain ⟨D1, q5, f5⟩ := mdvs_loop (d := d) (ρ := ρ) hF.1 hmn hn12 i k p2 (by omega) (2 ^ ((aF A).1 * n)) 0 0 E (Nat.zero_add _) (Nat.le_refl 0) hF1 RF
    rw [show ((0 : Nat) : Int) = 0 from rfl] at q5
    rw [if_neg h6, q5]
    exact done D1 _ f5
end MDVS
