/-! THE REFERENCE'S METHODS: distance, mend, the acts -/
section MDST
variable {ρ : jr2} {D D' : jD} {d : Nat} {Φ : gF} {A : aA} {T : aT}
theorem gol_cg {P Q : Nat → Bool} {key : Nat → Int} : ∀ r i f, (∀ k, i ≤ k → k < i + r → P k = Q k) → gol P key r i f = gol Q key r i f
  | 0, _, _, _ => rfl
  | r + 1, i, f, h => by
    unfold gol
    rw [h i (Nat.le_refl i) (by omega), gol_cg r (i + 1) f (fun k h1 h2 => h k (by omega) (by omega)), gol_cg r (i + 1) (key i) (fun k h1 h2 => h k (by omega) (by omega))]
theorem gol_rng {P : Nat → Bool} : ∀ r i f, gol P (fun c => (c : Int)) r i f = f ∨ gol P (fun c => (c : Int)) r i f = -1 ∨ ∃ c : Nat, c < i + r ∧ gol P (fun c => (c : Int)) r i f = (c : Int)
  | 0, _, _ => Or.inl rfl
  | r + 1, i, f => by
    unfold gol
    by_cases h : P i = false
    · rw [if_pos h]
      rcases gol_rng (P := P) r (i + 1) f with q | q | ⟨c, h1, h2⟩
      · exact Or.inl q
      · exact Or.inr (Or.inl q)
      · exact Or.inr (Or.inr ⟨c, by omega, h2⟩)
    · rw [if_neg h]
      by_cases h2 : f = -1
      · rw [if_pos h2]
        rcases gol_rng (P := P) r (i + 1) (i : Int) with q | q | ⟨c, h1, h3⟩
        · exact Or.inr (Or.inr ⟨i, by omega, q⟩)
        · exact Or.inr (Or.inl q)
        · exact Or.inr (Or.inr ⟨c, by omega, h3⟩)
      · rw [if_neg h2]; exact Or.inr (Or.inl rfl)
def PTS (D : jD) (Φ : gF) (n : Nat) (p : Nat → Nat) : Prop := D 490 5 = (n : Int) ∧ ∀ j, j < n → D 490 (8 + j) = (p j : Int) ∧ p j < 2 ^ Φ.1
theorem PTS_MS (h : MS D A) : PTS D (aF A) (tP (AT A)) (tp (AT A)) := by
  refine ⟨h.2.2.1.2.2.1, fun j hj => ⟨?_, h.2.1.2.2.2.2.2.1 j hj⟩⟩
  have := h.2.2.1.2.2.2.2.1 j hj
  rw [show 0 + 8 + j = 8 + j by omega] at this
  exact this
theorem frV_t (hO : FOK Φ) {n k c : Nat} {p : Nat → Nat} (hmk : Φ.1 * k ≤ 12) (hc : c < 2 ^ (Φ.1 * k)) {j : Nat} (hj : j < n) : frV Φ n p c j = app Φ (lyN Φ c k) 1 (p j) := by
  unfold frV
  rw [if_pos hj, lyc_lyN hO hc hmk]
theorem mds_loop (hO : FOK Φ) {n k : Nat} (hn : n ≤ 8) (hk : k ≤ 12) (hmk : Φ.1 * k ≤ 12) {p : Nat → Nat} : ∀ (r c l : Nat) (D : jD) (u4 : Option jv), c + r = 2 ^ (Φ.1 * k) → MF Φ D → PTS D Φ n p → (∀ j, j < 8 → D 535 j = 0) → ∃ D', Vl (d + 5) 288 59 [some (.inr (.inr (some 488))), some (.inl (k : Int)), some (.inl (l : Int)), some (.inl (c : Int)), u4] [] (hp (1, ρ) D) = some ((0, some (.inl (mnl (fun c => rkn (frV Φ n p c) 0 n) r c l : Int))), hp (1, ρ) D') ∧ ∀ q, q ≠ 512 → q ≠ 533 → q ≠ 534 → D' q = D q
  | 0, c, l, D, u4, hc, hF, hP, hW => by
    refine ⟨D, ?_, fun _ _ _ _ => rfl⟩
    rw [vM_distance_59, mGF m488, mmany hF, aVC, tlS, vM_distance_65, myN_n hO hmk, if_neg (by omega), vM_distance_108]; rfl
  | r + 1, c, l, D, u4, hc, hF, hP, hW => by
    have p1 : 2 ^ (Φ.1 * k) ≤ 2 ^ 12 := Nat.pow_le_pow_right (by decide) hmk
    obtain ⟨oL, dL⟩ := lyN_OK hO (c := c) (show k ≤ 17 by omega)
    have q1 := mlay (d := d + 3) (ρ := ρ) (D := D) hF m512 (by decide) (low := c) (n := k) (by omega) hmk
    have f1 : ∀ q, q ≠ 512 → pD D 512 (rI (lyN Φ c k)) q = D q := fun q hq => pD_ne hq
    have pp := F_pos Φ
    obtain ⟨D2, q2, f2⟩ := mfar (d := d) (ρ := ρ) (D := pD D 512 (rI (lyN Φ c k))) (MF_cg hF (f1 488 (by decide))) pD_PR oL hn (p := p) (W := fun _ => 0) (t := frV Φ n p c) (by rw [f1 490 (by decide)]; exact hP.1) (fun j hj => by rw [f1 490 (by decide)]; exact hP.2 j hj) (fun j hj => ⟨by rw [f1 535 (by decide)]; exact hW j (by omega), pp⟩) (fun j hj => by
      rw [frV_t hO hmk (by omega) hj]; exact (Nat.zero_xor _).symm)
    have g2 : ∀ q, q ≠ 512 → q ≠ 533 → q ≠ 534 → D2 q = D q := fun q a b e => by rw [f2 q b e, f1 q a]
    obtain ⟨D3, q3, f3⟩ := mds_loop hO hn hk hmk r (c + 1) (min l (rkn (frV Φ n p c) 0 n)) D2 (some (.inl (rkn (frV Φ n p c) 0 n : Int))) (by omega) (MF_cg hF (g2 488 (by decide) (by decide) (by decide))) (by unfold PTS; rw [g2 490 (by decide) (by decide) (by decide)]; exact hP) (by rw [g2 535 (by decide) (by decide) (by decide)]; exact hW)
    refine ⟨D3, ?_, fun q a b e => by rw [f3 q a b e, g2 q a b e]⟩
    rw [vM_distance_59, mGF m488, mmany hF, aVC, tlS, vM_distance_65, myN_n hO hmk, if_pos (by omega), vM_distance_68]
    simp only [mGF m488, mr29]
    rw [q1, aVC, tlN, vM_distance_79]
    simp only [mGF m488, mr29, mr66]
    rw [q2, aVC, tlS, vM_distance_91]
    show _ = some ((0, some (Sum.inl ((mnl (fun c => rkn (frV Φ n p c) 0 n) r (c + 1) (min l (rkn (frV Φ n p c) 0 n)) : Nat) : Int))), hp (1, ρ) D3)
    by_cases h1 : rkn (frV Φ n p c) 0 n < l
    · rw [Nat.min_eq_right (by omega)] at q3 ⊢
      rw [if_pos (by omega), vM_distance_99, vM_distance_102, w32_s (by omega), q3]
    · rw [Nat.min_eq_left (by omega)] at q3 ⊢
      rw [if_neg (by omega), vM_distance_102, w32_s (by omega), q3]
theorem mdistance_op (h : MS D A) (k : Int) : MO ρ D A (oDistance A k) (Vl (d + 5) 288 0 [some (.inr (.inr (some 488))), some (.inl k), none, none, none] [] (hp (1, ρ) D)) := by
  have hB := mB_MS h
  have hF := mB_MF h
  have hO := hF.1
  have hP := PTS_MS hB
  have n8 : tP (AT A) ≤ 8 := h.2.1.2.2.1
  have c05 : (0 : Int) ≤ 5 ∧ (5 : Int) < ((508 : Nat) : Int) := by decide
  unfold oDistance
  rw [vM_distance_0, mGF m488, mbegin h, aVC, tlN, vM_distance_4]
  have bad : ¬ isD A k → MO ρ D A (if isD A k then (lrl (spR (AT A) k.toNat) (tP (AT A)) (2 ^ ((aF A).1 * k.toNat) - 1) 1 (tP (AT A)) : Int) else -2) (Vl (d + 5) 288 30 [some (.inr (.inr (some 488))), some (.inl k), none, none, none] [] (hp (1, ρ) (mB D A))) := fun hb => by
    rw [if_neg hb, vM_distance_30]
    exact MO_mB h rfl
  by_cases h1 : k < 1
  · rw [if_pos h1]
    exact bad (fun z => absurd z.1 (by omega))
  rw [if_neg h1, vM_distance_9, mGF m488, mr3, mIA m490, if_pos c05, show (5 : Int).toNat = 5 from rfl, hP.1]
  by_cases h2 : (tP (AT A) : Int) < k
  · rw [if_pos h2]
    exact bad (fun z => absurd z.2.1 (by omega))
  obtain ⟨k, rfl⟩ := Int.eq_ofNat_of_zero_le (show 0 ≤ k by omega)
  rw [if_neg h2, vM_distance_19, mGF m488, mmany hF, aVC, tlS, vM_distance_24]
  by_cases h3 : (k : Int) ≤ 12 ∧ (k : Int) * ((aF A).1 : Int) ≤ 12
  rotate_left
  · have : myN (aF A) (k : Int) = 4097 := by
      unfold myN
      rw [if_neg (by omega), if_neg h3]
    rw [this, if_pos (show (4096 : Int) < 4097 by decide)]
    exact bad (fun z => h3 z.2.2)
  have hmk := (my_c hO).mp h3
  have p1 : 2 ^ ((aF A).1 * k) ≤ 2 ^ 12 := Nat.pow_le_pow_right (by decide) hmk
  have hd : isD A (k : Int) := ⟨by omega, by omega, h3⟩
  have c0 := chain (fun j => Vl (d + 5) 288 35 [some (.inr (.inr (some 488))), some (.inl (k : Int)), some (.inl (j : Int)), none, none] [] (hp (1, ρ) (pDn (mB D A) 535 j (fun _ => 0)))) 8 (fun j hj => by
    rw [vM_distance_35, if_pos (by omega), vM_distance_41, mGF m488, mr66, mIS m535, if_pos (by omega), Int.toNat_natCast, w32_s (by omega), pDn_s rfl])
  rw [pDn_0, show ((0 : Nat) : Int) = 0 from rfl] at c0
  have f0 : ∀ q, q ≠ 535 → pDn (mB D A) 535 8 (fun _ => 0) q = mB D A q := fun q hq => pDn_ne hq
  obtain ⟨D2, q2, f2⟩ := mds_loop (d := d) (ρ := ρ) hO n8 (by omega) hmk (p := tp (AT A)) (2 ^ ((aF A).1 * k) - 1) 1 8 (pDn (mB D A) 535 8 (fun _ => 0)) none (by have := Nat.two_pow_pos ((aF A).1 * k); omega) (MF_cg hF (f0 488 (by decide))) (by unfold PTS; rw [f0 490 (by decide)]; exact hP) (fun j hj => pDn_lt hj)
  rw [show ((1 : Nat) : Int) = 1 from rfl, show ((8 : Nat) : Int) = 8 from rfl] at q2
  rw [if_pos hd, myN_n hO hmk, if_neg (show ¬ 4096 < ((2 ^ ((aF A).1 * k) : Nat) : Int) by omega), vM_distance_33, c0, vM_distance_35, if_neg (show ¬ ((8 : Nat) : Int) < 8 by decide), vM_distance_54, q2, Int.toNat_natCast, lrl_mnl, mnl_gray hmk (f := fun c => rkn (frV (aF A) (tP (AT A)) (tp (AT A)) c) 0 (tP (AT A))) (fun i hi => by
    show rkn (gsm (spR (AT A) k) i) 0 (tP (AT A)) = _
    rw [spR_f hO rfl hmk i hi])]
  have e8 : mnl (fun c => rkn (frV (aF A) (tP (AT A)) (tp (AT A)) c) 0 (tP (AT A))) (2 ^ ((aF A).1 * k) - 1) 1 (tP (AT A)) = mnl (fun c => rkn (frV (aF A) (tP (AT A)) (tp (AT A)) c) 0 (tP (AT A))) (2 ^ ((aF A).1 * k) - 1) 1 8 := by
    have m1 := F_m1 hO
    have hk1 : 1 * 1 ≤ (aF A).1 * k := Nat.mul_le_mul m1 (by omega)
    have hp2 : 2 ^ 1 ≤ 2 ^ ((aF A).1 * k) := Nat.pow_le_pow_right (by decide) (by omega)
    have key : ∀ v, v ≤ mnl (fun c => rkn (frV (aF A) (tP (AT A)) (tp (AT A)) c) 0 (tP (AT A))) (2 ^ ((aF A).1 * k) - 1) 1 (tP (AT A)) ↔ v ≤ mnl (fun c => rkn (frV (aF A) (tP (AT A)) (tp (AT A)) c) 0 (tP (AT A))) (2 ^ ((aF A).1 * k) - 1) 1 8 := fun v => by
      rw [mnl_le, mnl_le]
      constructor
      · rintro ⟨a, b⟩
        exact ⟨by omega, b⟩
      · rintro ⟨a, b⟩
        have b1 := b 1 (Nat.le_refl 1) (by omega)
        have b2 := rkn_le (frV (aF A) (tP (AT A)) (tp (AT A)) 1) 0 (tP (AT A))
        exact ⟨Nat.le_trans b1 b2, b⟩
    exact Nat.le_antisymm ((key _).mp (Nat.le_refl _)) ((key _).mpr (Nat.le_refl _))
  rw [e8]
  exact MO_sc h rfl (fun q hq => by rw [f2 q (by unfold mK at hq; omega) (by unfold mK at hq; omega) (by unfold mK at hq; omega), f0 q (by unfold mK at hq; omega)])
end MDST
