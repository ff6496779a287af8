/-! WEIGHTS of cyclic words in the class -/
def wRw (Φ : gF) (G : pl) : Nat → (Nat → pl)
  | 0 => fun _ => p0
  | j + 1 => aRw Φ (wRw Φ G j) (Φ.1 * j) Φ.1 (pSi Φ j G)
def oWeight (A : aA) (i n : Int) : Int := if (aN A i ∧ sz (an A i) ≠ 0) ∧ 2 ≤ n ∧ n ≤ 8 then (if 1 ≤ n - ((sz (an A i) : Int) - 1) ∧ n - ((sz (an A i) : Int) - 1) ≤ 12 ∧ (n - ((sz (an A i) : Int) - 1)) * ((aF A).1 : Int) ≤ 12 then (lwl (wRw (aF A) (an A i) (n - ((sz (an A i) : Int) - 1)).toNat) n.toNat (2 ^ ((aF A).1 * (n - ((sz (an A i) : Int) - 1)).toNat) - 1) 1 n.toNat : Int) else -2) else -2
theorem pSi_sz {Φ : gF} (h : FOK Φ) {G : pl} (oG : pOK Φ G) {n : Nat} (hn : sz G = n + 1) {j : Nat} (hj : n + j < 17) : sz (pSi Φ j G) = n + j + 1 ∧ pOK Φ (pSi Φ j G) := by
  have d1 : dle G (n + 1) := by rw [← hn]; exact sz_dle oG.2
  have d2 := pSi_dle (Φ := Φ) d1 j
  refine ⟨sz_of hj ?_ (dle_mono d2 (by omega)), pSi_in h oG.1 j, dle_mono d2 (by omega)⟩
  rw [pSi_top d1 j]
  exact fT_nz h j (oG.1 n) (sz_top hn)
section WEIGHT
variable {d : Nat} {A : aA} {Φ : gF}
theorem weight_rows {G : pl} (oG : pOK Φ G) {g n dim : Nat} (hg : sz G = g + 1) (hn : n ≤ 8) (hn1 : 1 ≤ n) (hdim : g + dim ≤ n) (hmd : Φ.1 * dim ≤ 12) (x1 : Int) (o3 : Option Nat) : ∀ (r j : Nat) (ω : jw) (D : jD), j + r = dim → FT Φ D 76 → PR D 364 (pSi Φ j G) → SP ω D Φ.1 (Φ.1 * j) n (wRw Φ G j) → ∃ ω' D', Vl (d + 3) 154 91 [some (.inr (.inr (some 0))), some (.inl x1), some (.inl (n : Int)), some (.inr (.inr o3)), some (.inl (dim : Int)), some (.inl (j : Int))] [] (hp ω D) = Vl (d + 3) 154 150 [some (.inr (.inr (some 0))), some (.inl x1), some (.inl (n : Int)), some (.inr (.inr o3)), some (.inl (dim : Int)), some (.inl (dim : Int))] [] (hp ω' D') ∧ SP ω' D' Φ.1 (Φ.1 * dim) n (wRw Φ G dim) ∧ wEq ω ω' ∧ ∀ q, q ≠ 302 → q ≠ 305 → q ≠ 364 → D' q = D q
  | 0, j, ω, D, hj, hF, hR, hS => by
    rw [show j = dim by omega] at hS ⊢
    exact ⟨ω, D, by rw [vC_weight_91, if_neg (by omega)], hS, wEq_r ω, fun _ _ _ _ => rfl⟩
  | r + 1, j, ω, D, hj, hF, hR, hS => by
    obtain ⟨s1, o1⟩ := pSi_sz hF.1 oG hg (j := j) (by omega)
    have hmj : Φ.1 * j + Φ.1 ≤ 12 := by
      have : Φ.1 * (j + 1) ≤ Φ.1 * dim := Nat.mul_le_mul_left _ (by omega)
      rw [Nat.mul_succ] at this; omega
    have k364 : KL0[364]? = some (1, 17) := kPa i363
    obtain ⟨ω1, D1, q1, S1, w1, f1⟩ := addTimesS_spec (d := d) (c := 364) (k := n) k364 (by decide) (by decide) (Or.inr (by decide)) hmj hn1 o1.1 hF (fun b hb => hR b (by omega)) hS
    have R1 : PR D1 (363 + 1) (pSi Φ j G) := PR_ne (f1 _ (by decide) (by decide)) hR
    have F1 : FT Φ D1 76 := FT_congr (fun q _ _ => f1 q (by omega) (by omega)) hF
    have q2 := topF (ω := ω1) (d := d + 2) i363 R1
    have q3 := passLetter_spec (ω := ω1) (d := d + 2) tF_76 F1 k364 (fun j hj => by omega) R1 o1.1 (T := g + j) (by omega) (fun b h1 h2 => sz_ge o1.2 (by omega))
    obtain ⟨ω', D', q4, S4, w4, f4⟩ := weight_rows oG hg hn hn1 hdim hmd x1 o3 r (j + 1) ω1 (pD D1 364 (rI (pS Φ (pSi Φ j G)))) (by omega) (FT_congr (fun q _ _ => pD_ne (by omega)) F1) pD_PR (SP_fr S1 (pD_ne (by decide)))
    refine ⟨ω', D', ?_, S4, wEq_t w1 w4, fun q h1 h2 h3 => by rw [f4 q h1 h2 h3, pD_ne h3, f1 q h1 h2]⟩
    rw [vC_weight_91, if_pos (by omega)]
    simp only [vC_weight_98, aGF kC, rC_0, rC_1, rC_2, rC_3, rC_4, rC_5, rC_6, rC_7, rC_8, rC_9, rC_10, rC_11, rC_12, aGF kA, rA_0, aGF (kT tT_3), aGF (kK tK_75), aGF (kF tF_76), q75_0, q75_1, q75_2, q75_3, q75_4, q75_6, q75_7, q75_8, q75_9, q75_10, q75_11, q75_12, q75_13, q75_14, q75_15, q75_16, aGF (kP i67), aGF (kP i69), aGF (kP i71), aGF (kP i73), aGF (kP i363), aGF (kP i81), aGF (kP i83), aGF (kP i85), aGF (kP i87), aGF (kP i89), aGF (kP i91), aGF (kP i93), aGF (kP i95), aGF (kP i97), aGF (kP i99), aGF (kP i101), aGF (kP i103), aGF (kP i105), aGF (kP i107), aGF (kP i109), rP i363, aGF kS, q1, aVC, tlS, tlN, aLt, hwD, vC_weight_120, q2, vC_weight_141, show (sz (pSi Φ j G) : Int) - 1 = ((g + j : Nat) : Int) by omega, q3, vC_weight_144]
    rw [w32_s (by omega), q4]
theorem weight_op {ω : jw} {D : jD} (h : CS D A) (i n : Int) (hn9 : n < 2147483648) : ∃ ω' D', Vl (d + 3) 154 0 [some (.inr (.inr (some 0))), some (.inl i), some (.inl n), none, none, none] [] (hp ω D) = some ((0, some (.inl (oWeight A i n))), hp ω' D') ∧ CS D' A ∧ wEq ω ω' ∧ ∀ q, 488 ≤ q → D' q = D q := by
  have hF : FT (aF A) D 76 := h.2.2.2.1
  have h8 := F_m8 hF.1
  unfold oWeight
  simp only [vC_weight_0, aGF kC, rC_0, rC_1, rC_2, rC_3, rC_4, rC_5, rC_6, rC_7, rC_8, rC_9, rC_10, rC_11, rC_12, aGF kA, rA_0, aGF (kT tT_3), aGF (kK tK_75), aGF (kF tF_76), q75_0, q75_1, q75_2, q75_3, q75_4, q75_6, q75_7, q75_8, q75_9, q75_10, q75_11, q75_12, q75_13, q75_14, q75_15, q75_16, aGF (kP i67), aGF (kP i69), aGF (kP i71), aGF (kP i73), aGF (kP i363), aGF (kP i81), aGF (kP i83), aGF (kP i85), aGF (kP i87), aGF (kP i89), aGF (kP i91), aGF (kP i93), aGF (kP i95), aGF (kP i97), aGF (kP i99), aGF (kP i101), aGF (kP i103), aGF (kP i105), aGF (kP i107), aGF (kP i109), named3 h, aVC, tlS, tlN, aLt, hwD]
  rw [vC_weight_8]
  by_cases h1 : aN A i
  rotate_left
  · rw [if_neg h1, if_neg (fun q => h1 q.1.1)]
    refine ⟨ω, D, ?_, h, wEq_r ω, fun _ _ => rfl⟩
    show Vl (d + 3) 154 31 _ [] _ = _
    rw [vC_weight_31]
  rw [if_pos h1]
  show ∃ ω' D', Vl (d + 3) 154 13 _ [] _ = _ ∧ _
  obtain ⟨p1, p2, p3, hi⟩ := CS_nm h h1
  have h17 := sz_le (an A i)
  rw [vC_weight_13, aGF (kP p1), isZeroF p1 p2, aVC, tlS, vC_weight_17]
  by_cases h2 : sz (an A i) = 0
  · rw [if_pos h2, if_neg (by decide), vC_weight_31, if_neg (fun q => q.1.2 h2)]
    exact ⟨ω, D, rfl, h, wEq_r ω, fun _ _ => rfl⟩
  rw [if_neg h2, if_pos rfl, vC_weight_20]
  by_cases h3 : n < 2
  · rw [if_pos h3, vC_weight_31, if_neg (fun q => absurd q.2.1 (by omega))]
    exact ⟨ω, D, rfl, h, wEq_r ω, fun _ _ => rfl⟩
  rw [if_neg h3, vC_weight_25]
  by_cases h4 : 8 < n
  · rw [if_pos h4, vC_weight_31, if_neg (fun q => absurd q.2.2 (by omega))]
    exact ⟨ω, D, rfl, h, wEq_r ω, fun _ _ => rfl⟩
  rw [if_neg h4, if_pos ⟨⟨h1, h2⟩, by omega, by omega⟩, vC_weight_34, aGF (kP p1), topF p1 p2, aVC, tlS, vC_weight_39, show w32 (n - ((sz (an A i) : Int) - 1)) = n - ((sz (an A i) : Int) - 1) by unfold w32; omega]
  by_cases h5 : n - ((sz (an A i) : Int) - 1) < 1
  · rw [if_pos h5, vC_weight_63, if_neg (fun q => absurd q.1 (by omega))]
    exact ⟨ω, D, rfl, h, wEq_r ω, fun _ _ => rfl⟩
  rw [if_neg h5]
  simp only [vC_weight_48, aGF kC, rC_0, rC_1, rC_2, rC_3, rC_4, rC_5, rC_6, rC_7, rC_8, rC_9, rC_10, rC_11, rC_12, aGF kA, rA_0, aGF (kT tT_3), aGF (kK tK_75), aGF (kF tF_76), q75_0, q75_1, q75_2, q75_3, q75_4, q75_6, q75_7, q75_8, q75_9, q75_10, q75_11, q75_12, q75_13, q75_14, q75_15, q75_16, aGF (kP i67), aGF (kP i69), aGF (kP i71), aGF (kP i73), aGF (kP i363), aGF (kP i81), aGF (kP i83), aGF (kP i85), aGF (kP i87), aGF (kP i89), aGF (kP i91), aGF (kP i93), aGF (kP i95), aGF (kP i97), aGF (kP i99), aGF (kP i101), aGF (kP i103), aGF (kP i105), aGF (kP i107), aGF (kP i109), isFew_spec tF_76 hF (show -100 ≤ n - ((sz (an A i) : Int) - 1) by omega), aVC, tlS, tlN, aLt, hwD]
  rw [vC_weight_60]
  by_cases h6 : n - ((sz (an A i) : Int) - 1) ≤ 12 ∧ (n - ((sz (an A i) : Int) - 1)) * ((aF A).1 : Int) ≤ 12
  rotate_left
  · rw [if_neg h6, if_pos rfl, vC_weight_63, if_neg (fun q => h6 q.2)]
    exact ⟨ω, D, rfl, h, wEq_r ω, fun _ _ => rfl⟩
  rw [if_pos h6, if_neg (by decide), if_pos ⟨by omega, h6⟩]
  obtain ⟨x, rfl⟩ := Int.eq_ofNat_of_zero_le (show 0 ≤ n by omega)
  obtain ⟨g, hg⟩ : ∃ g, sz (an A i) = g + 1 := ⟨sz (an A i) - 1, by omega⟩
  have hd : (x : Int) - ((sz (an A i) : Int) - 1) = ((x - g : Nat) : Int) := by omega
  rw [hd, Int.toNat_natCast, Int.toNat_natCast]
  have hmd : (aF A).1 * (x - g) ≤ 12 := by
    have := h6.2
    rw [hd, ← Int.natCast_mul, Nat.mul_comm] at this; omega
  have hmx : (aF A).1 * x ≤ 64 := Nat.le_trans (Nat.mul_le_mul h8 (show x ≤ 8 by omega)) (by decide)
  obtain ⟨D1, q1, S1, f1⟩ := beginS_spec (ω := ω) (D := D) (d := d + 2) hF (k := x) (by omega) hmx (wRw (aF A) (an A i) 0)
  have q2 := copyF (ω := ω) (D := D1) (d := d + 2) i363 p1 (PR_ne (f1 _ (by omega)) p2)
  have S2 : SP ω (pD D1 (363 + 1) (rI (an A i))) (aF A).1 ((aF A).1 * 0) x (wRw (aF A) (an A i) 0) := by
    rw [Nat.mul_zero]; exact SP_fr S1 (pD_ne (by decide))
  obtain ⟨ω', D', q3, S3, w3, f3⟩ := weight_rows (d := d) p3 hg (show x ≤ 8 by omega) (by omega) (show g + (x - g) ≤ x by omega) hmd i (some (5 + 2 * i.toNat)) (x - g) 0 ω (pD D1 (363 + 1) (rI (an A i))) (by omega) (FT_congr (fun q _ _ => by rw [pD_ne (by omega), f1 q (by omega)]) hF) pD_PR S2
  rw [show ((0 : Nat) : Int) = 0 from rfl] at q3
  have q4 := leastWeight_spec (d := d) S3
  have fr : ∀ q, q ≠ 302 → q ≠ 305 → q ≠ 364 → D' q = D q := fun q a b c => by rw [f3 q a b c, pD_ne (by omega), f1 q a]
  refine ⟨ω', D', ?_, CS_same h (fun c hc => fr c (by unfold kept at hc; omega) (by unfold kept at hc; omega) (by unfold kept at hc; omega)), w3, fun q hq => fr q (by omega) (by omega) (by omega)⟩
  simp only [vC_weight_66, aGF kC, rC_0, rC_1, rC_2, rC_3, rC_4, rC_5, rC_6, rC_7, rC_8, rC_9, rC_10, rC_11, rC_12, aGF kA, rA_0, aGF (kT tT_3), aGF (kK tK_75), aGF (kF tF_76), q75_0, q75_1, q75_2, q75_3, q75_4, q75_6, q75_7, q75_8, q75_9, q75_10, q75_11, q75_12, q75_13, q75_14, q75_15, q75_16, aGF (kP i67), aGF (kP i69), aGF (kP i71), aGF (kP i73), aGF (kP i363), aGF (kP i81), aGF (kP i83), aGF (kP i85), aGF (kP i87), aGF (kP i89), aGF (kP i91), aGF (kP i93), aGF (kP i95), aGF (kP i97), aGF (kP i99), aGF (kP i101), aGF (kP i103), aGF (kP i105), aGF (kP i107), aGF (kP i109), aGF kS, q1, aVC, tlS, tlN, aLt, hwD, vC_weight_80, q2, vC_weight_88, q3, vC_weight_150, q4, vC_weight_158]
end WEIGHT
