/-! THE CLASS'S METHODS over polynomials and places, on -/
theorem pSc_8 {Φ : gF} (h : FOK Φ) {s : Nat} {M N : pl} (oM : pOK Φ M) (oN : pOK Φ N) : pO8 (pSc Φ s (mnum Φ s M) N) := pOK_8 h (pSc_OK h (mnum_lt h oM.1) oN)
section OPS3
variable {ω : jw} {D : jD} {d : Nat} {A : aA}
theorem common_op (h : CS D A) (i j s : Int) : ∃ D', Vl (d + 4) 94 0 [some (.inr (.inr (some 0))), some (.inl i), some (.inl j), some (.inl s), none, none] [] (hp ω D) = some ((0, some (.inl (oCommon A i j s).1)), hp ω D') ∧ CS D' (oCommon A i j s).2 ∧ ∀ q, 488 ≤ q → D' q = D q := by
  have hF := h.2.2.2.1
  unfold oCommon
  have st : Vl (d + 4) 94 0 [some (.inr (.inr (some 0))), some (.inl i), some (.inl j), some (.inl s), none, none] [] (hp ω D) = Vl (d + 4) 94 18 [some (.inr (.inr (some 0))), some (.inl i), some (.inl j), some (.inl s), some (.inr (.inr (if aN A i then some (5 + 2 * i.toNat) else none))), none] [.inr (.inr (if aN A j then some (5 + 2 * j.toNat) else none))] (hp ω D) := by
    simp only [vC_common_0, aGF kC, rC_0, rC_1, rC_2, rC_3, rC_4, rC_5, rC_6, rC_7, rC_8, rC_9, rC_10, rC_11, rC_12, aGF kA, rA_0, aGF (kT tT_3), aGF (kK tK_75), aGF (kF tF_76), q75_0, q75_1, q75_2, q75_3, q75_4, q75_6, q75_7, q75_8, q75_9, q75_10, q75_11, q75_12, q75_13, q75_14, q75_15, q75_16, aGF (kP i67), aGF (kP i69), aGF (kP i71), aGF (kP i73), aGF (kP i363), aGF (kP i81), aGF (kP i83), aGF (kP i85), aGF (kP i87), aGF (kP i89), aGF (kP i91), aGF (kP i93), aGF (kP i95), aGF (kP i97), aGF (kP i99), aGF (kP i101), aGF (kP i103), aGF (kP i105), aGF (kP i107), aGF (kP i109), named3 h, aVC, tlS, tlN, aLt, hwD, vC_common_8]
  rw [st, vC_common_18]
  by_cases h1 : aN A i
  rotate_left
  · rw [if_neg h1, if_neg (show ¬ ((aN A i ∧ aN A j) ∧ (s = 0 ∨ s = 1)) from fun q => h1 q.1.1)]
    refine ⟨D, ?_, h, fun _ _ => rfl⟩
    show Vl (d + 4) 94 37 _ [] _ = _
    rw [vC_common_37]
  rw [if_pos h1]
  show ∃ D', Vl (d + 4) 94 25 _ [] _ = _ ∧ _
  rw [vC_common_25]
  by_cases h2 : aN A j
  rotate_left
  · rw [if_neg h2, if_neg (show ¬ ((aN A i ∧ aN A j) ∧ (s = 0 ∨ s = 1)) from fun q => h2 q.1.2)]
    refine ⟨D, ?_, h, fun _ _ => rfl⟩
    show Vl (d + 4) 94 37 _ [] _ = _
    rw [vC_common_37]
  rw [if_pos h2]
  show ∃ D', Vl (d + 4) 94 30 _ [] _ = _ ∧ _
  rw [vC_common_30, isSide_spec, aVC, tlS, vC_common_34]
  by_cases h3 : s = 0 ∨ s = 1
  rotate_left
  · rw [if_neg h3, if_pos rfl, if_neg (fun q => h3 q.2)]
    exact ⟨D, by rw [vC_common_37], h, fun _ _ => rfl⟩
  rw [if_pos h3, if_neg (by decide), if_pos ⟨⟨h1, h2⟩, h3⟩]
  obtain ⟨p1, p2, p3, hi⟩ := CS_nm h h1
  obtain ⟨r1, r2, r3, hj⟩ := CS_nm h h2
  obtain ⟨x, rfl⟩ := Int.eq_ofNat_of_zero_le (show 0 ≤ s by omega)
  rw [Int.toNat_natCast]
  obtain ⟨D1, q1, R7, R9, R11, -, -, f1, -⟩ := compare_spec (ω := ω) (d := d) tK_75 hF p1 r1 (Or.inl (by omega)) (Or.inl (by omega)) p2 r2 p3 r3 (show x < 2 by omega) rfl
  have oE := ceul_OK hF.1 (s := x) p3 r3
  have q2 := copyF (ω := ω) (d := d + 3) i67 i81 R7
  have k1 : ∀ c, kept c → D1 c = D c := fun c hc => by unfold kept at hc; exact f1 c (by omega) (by omega)
  have o7 : pO8 (cPart (aF A) x (ceul (aF A) x (an A i) (an A j))) := pSc_8 hF.1 oE.1 oE.1
  by_cases h0 : x = 0
  · subst h0
    rw [if_pos (by rfl)]
    obtain ⟨D2, hD2⟩ : ∃ D2, D2 = pD D1 (67 + 1) (rI (pSc (aF A) 0 (mnum (aF A) 0 (ceul (aF A) 0 (an A i) (an A j)).1) (ceul (aF A) 0 (an A i) (an A j)).1)) := ⟨_, rfl⟩
    have q3 := copyF (ω := ω) (D := D2) (d := d + 3) i71 i83 (PR_ne (by rw [hD2, pD_ne (by omega)]) R9)
    obtain ⟨D3, hD3⟩ : ∃ D3, D3 = pD D2 (71 + 1) (rI (pSc (aF A) 0 (mnum (aF A) 0 (ceul (aF A) 0 (an A i) (an A j)).1) (ceul (aF A) 0 (an A i) (an A j)).2.2.1)) := ⟨_, rfl⟩
    have q4 := copyF (ω := ω) (D := D3) (d := d + 3) i73 i85 (PR_ne (by rw [hD3, pD_ne (by omega), hD2, pD_ne (by omega)]) R11)
    obtain ⟨D4, hD4⟩ : ∃ D4, D4 = pD D3 (73 + 1) (rI (pSc (aF A) 0 (mnum (aF A) 0 (ceul (aF A) 0 (an A i) (an A j)).1) (ceul (aF A) 0 (an A i) (an A j)).2.2.2.2.1)) := ⟨_, rfl⟩
    rw [← hD2] at q2
    rw [← hD3] at q3
    rw [← hD4] at q4
    have f4 : ∀ c, c ≠ 68 → c ≠ 72 → c ≠ 74 → D4 c = D1 c := fun c h5 h6 h7 => by rw [hD4, pD_ne (by omega), hD3, pD_ne (by omega), hD2, pD_ne (by omega)]
    have R0 : PR D4 (67 + 1) (cPart (aF A) 0 (ceul (aF A) 0 (an A i) (an A j))) := PR_ne (by rw [hD4, pD_ne (by omega), hD3, pD_ne (by omega)]) (by rw [hD2]; exact pD_PR)
    have R2 : PR D4 (71 + 1) (pSc (aF A) 0 (mnum (aF A) 0 (ceul (aF A) 0 (an A i) (an A j)).1) (ceul (aF A) 0 (an A i) (an A j)).2.2.1) := PR_ne (by rw [hD4, pD_ne (by omega)]) (by rw [hD3]; exact pD_PR)
    have R3 : PR D4 (73 + 1) (pSc (aF A) 0 (mnum (aF A) 0 (ceul (aF A) 0 (an A i) (an A j)).1) (ceul (aF A) 0 (an A i) (an A j)).2.2.2.2.1) := by rw [hD4]; exact pD_PR
    have q5 := topF (ω := ω) (d := d + 3) i67 R0
    refine ⟨D4, ?_, CS_keep h (fun c hc => by rw [f4 c (by unfold kept at hc; omega) (by unfold kept at hc; omega) (by unfold kept at hc; omega), k1 c hc]) (rset_ok (by decide) (pSc_8 hF.1 oE.1 oE.2.2.2.2.1) R3 (fun q hq hne => ?_)), fun q hq => by rw [f4 q (by omega) (by omega) (by omega), f1 q (by omega) (by omega)]⟩
    · simp only [vC_common_40, aGF kC, rC_0, rC_1, rC_2, rC_3, rC_4, rC_5, rC_6, rC_7, rC_8, rC_9, rC_10, rC_11, rC_12, aGF kA, rA_0, aGF (kT tT_3), aGF (kK tK_75), aGF (kF tF_76), q75_0, q75_1, q75_2, q75_3, q75_4, q75_6, q75_7, q75_8, q75_9, q75_10, q75_11, q75_12, q75_13, q75_14, q75_15, q75_16, aGF (kP i67), aGF (kP i69), aGF (kP i71), aGF (kP i73), aGF (kP i363), aGF (kP i81), aGF (kP i83), aGF (kP i85), aGF (kP i87), aGF (kP i89), aGF (kP i91), aGF (kP i93), aGF (kP i95), aGF (kP i97), aGF (kP i99), aGF (kP i101), aGF (kP i103), aGF (kP i105), aGF (kP i107), aGF (kP i109), show ((0 : Nat) : Int) = 0 from rfl] at q1 ⊢
      simp only [q1, aVC, tlS, tlN, aLt, hwD, vC_common_52, aGF kC, rC_0, rC_1, rC_2, rC_3, rC_4, rC_5, rC_6, rC_7, rC_8, rC_9, rC_10, rC_11, rC_12, aGF kA, rA_0, aGF (kT tT_3), aGF (kK tK_75), aGF (kF tF_76), q75_0, q75_1, q75_2, q75_3, q75_4, q75_6, q75_7, q75_8, q75_9, q75_10, q75_11, q75_12, q75_13, q75_14, q75_15, q75_16, aGF (kP i67), aGF (kP i69), aGF (kP i71), aGF (kP i73), aGF (kP i363), aGF (kP i81), aGF (kP i83), aGF (kP i85), aGF (kP i87), aGF (kP i89), aGF (kP i91), aGF (kP i93), aGF (kP i95), aGF (kP i97), aGF (kP i99), aGF (kP i101), aGF (kP i103), aGF (kP i105), aGF (kP i107), aGF (kP i109), aR0, q2]
      rw [vC_common_68, if_pos rfl]
      simp only [vC_common_72, aGF kC, rC_0, rC_1, rC_2, rC_3, rC_4, rC_5, rC_6, rC_7, rC_8, rC_9, rC_10, rC_11, rC_12, aGF kA, rA_0, aGF (kT tT_3), aGF (kK tK_75), aGF (kF tF_76), q75_0, q75_1, q75_2, q75_3, q75_4, q75_6, q75_7, q75_8, q75_9, q75_10, q75_11, q75_12, q75_13, q75_14, q75_15, q75_16, aGF (kP i67), aGF (kP i69), aGF (kP i71), aGF (kP i73), aGF (kP i363), aGF (kP i81), aGF (kP i83), aGF (kP i85), aGF (kP i87), aGF (kP i89), aGF (kP i91), aGF (kP i93), aGF (kP i95), aGF (kP i97), aGF (kP i99), aGF (kP i101), aGF (kP i103), aGF (kP i105), aGF (kP i107), aGF (kP i109), aR2, q3, aVC, tlS, tlN, aLt, hwD, vC_common_88, aR3, q4, vC_common_104, aR0, q5, vC_common_113]
    · unfold rset
      by_cases e2 : q = 2
      · rw [if_pos e2, e2]; exact ⟨pSc_8 hF.1 oE.1 oE.2.2.1, R2⟩
      · rw [if_neg e2]
        by_cases e0 : q = 0
        · rw [if_pos e0, e0]; exact ⟨o7, R0⟩
        · rw [if_neg e0]
          exact ⟨(h.2.2.2.2.2.1 q hq).1, PR_ne (by rw [f4 _ (by omega) (by omega) (by omega), f1 _ (by omega) (by omega)]) (h.2.2.2.2.2.1 q hq).2⟩
  · rw [if_neg (by omega)]
    have q5 := topF (ω := ω) (D := pD D1 (67 + 1) (rI (pSc (aF A) x (mnum (aF A) x (ceul (aF A) x (an A i) (an A j)).1) (ceul (aF A) x (an A i) (an A j)).1))) (d := d + 3) i67 pD_PR
    refine ⟨pD D1 (67 + 1) (rI (pSc (aF A) x (mnum (aF A) x (ceul (aF A) x (an A i) (an A j)).1) (ceul (aF A) x (an A i) (an A j)).1)), ?_, CS_keep h (fun c hc => by rw [pD_ne (by unfold kept at hc; omega), k1 c hc]) (rset_ok (by decide) o7 pD_PR (fun q hq hne => ⟨(h.2.2.2.2.2.1 q hq).1, PR_ne (by rw [pD_ne (by omega), f1 _ (by omega) (by omega)]) (h.2.2.2.2.2.1 q hq).2⟩)), fun q hq => by rw [pD_ne (by omega), f1 q (by omega) (by omega)]⟩
    simp only [vC_common_40, aGF kC, rC_0, rC_1, rC_2, rC_3, rC_4, rC_5, rC_6, rC_7, rC_8, rC_9, rC_10, rC_11, rC_12, aGF kA, rA_0, aGF (kT tT_3), aGF (kK tK_75), aGF (kF tF_76), q75_0, q75_1, q75_2, q75_3, q75_4, q75_6, q75_7, q75_8, q75_9, q75_10, q75_11, q75_12, q75_13, q75_14, q75_15, q75_16, aGF (kP i67), aGF (kP i69), aGF (kP i71), aGF (kP i73), aGF (kP i363), aGF (kP i81), aGF (kP i83), aGF (kP i85), aGF (kP i87), aGF (kP i89), aGF (kP i91), aGF (kP i93), aGF (kP i95), aGF (kP i97), aGF (kP i99), aGF (kP i101), aGF (kP i103), aGF (kP i105), aGF (kP i107), aGF (kP i109), q1, aVC, tlS, tlN, aLt, hwD, vC_common_52, aR0, q2]
    rw [vC_common_68, if_neg (by omega)]
    simp only [vC_common_104, aGF kC, rC_0, rC_1, rC_2, rC_3, rC_4, rC_5, rC_6, rC_7, rC_8, rC_9, rC_10, rC_11, rC_12, aGF kA, rA_0, aGF (kT tT_3), aGF (kK tK_75), aGF (kF tF_76), q75_0, q75_1, q75_2, q75_3, q75_4, q75_6, q75_7, q75_8, q75_9, q75_10, q75_11, q75_12, q75_13, q75_14, q75_15, q75_16, aGF (kP i67), aGF (kP i69), aGF (kP i71), aGF (kP i73), aGF (kP i363), aGF (kP i81), aGF (kP i83), aGF (kP i85), aGF (kP i87), aGF (kP i89), aGF (kP i91), aGF (kP i93), aGF (kP i95), aGF (kP i97), aGF (kP i99), aGF (kP i101), aGF (kP i103), aGF (kP i105), aGF (kP i107), aGF (kP i109), aR0, q5, aVC, tlS, tlN, aLt, hwD, vC_common_113]
    rfl
theorem multiple_op (h : CS D A) (i j s : Int) : ∃ D', Vl (d + 4) 95 0 [some (.inr (.inr (some 0))), some (.inl i), some (.inl j), some (.inl s), none, none] [] (hp ω D) = some ((0, some (.inl (oMultiple A i j s).1)), hp ω D') ∧ CS D' (oMultiple A i j s).2 ∧ ∀ q, 488 ≤ q → D' q = D q := by
  have hF := h.2.2.2.1
  unfold oMultiple
  have st : Vl (d + 4) 95 0 [some (.inr (.inr (some 0))), some (.inl i), some (.inl j), some (.inl s), none, none] [] (hp ω D) = Vl (d + 4) 95 18 [some (.inr (.inr (some 0))), some (.inl i), some (.inl j), some (.inl s), some (.inr (.inr (if aN A i then some (5 + 2 * i.toNat) else none))), none] [.inr (.inr (if aN A j then some (5 + 2 * j.toNat) else none))] (hp ω D) := by
    simp only [vC_multiple_0, aGF kC, rC_0, rC_1, rC_2, rC_3, rC_4, rC_5, rC_6, rC_7, rC_8, rC_9, rC_10, rC_11, rC_12, aGF kA, rA_0, aGF (kT tT_3), aGF (kK tK_75), aGF (kF tF_76), q75_0, q75_1, q75_2, q75_3, q75_4, q75_6, q75_7, q75_8, q75_9, q75_10, q75_11, q75_12, q75_13, q75_14, q75_15, q75_16, aGF (kP i67), aGF (kP i69), aGF (kP i71), aGF (kP i73), aGF (kP i363), aGF (kP i81), aGF (kP i83), aGF (kP i85), aGF (kP i87), aGF (kP i89), aGF (kP i91), aGF (kP i93), aGF (kP i95), aGF (kP i97), aGF (kP i99), aGF (kP i101), aGF (kP i103), aGF (kP i105), aGF (kP i107), aGF (kP i109), named3 h, aVC, tlS, tlN, aLt, hwD, vC_multiple_8]
  rw [st, vC_multiple_18]
  by_cases h1 : aN A i
  rotate_left
  · rw [if_neg h1, if_neg (show ¬ ((aN A i ∧ aN A j) ∧ (s = 0 ∨ s = 1)) from fun q => h1 q.1.1)]
    refine ⟨D, ?_, h, fun _ _ => rfl⟩
    show Vl (d + 4) 95 37 _ [] _ = _
    rw [vC_multiple_37]
  rw [if_pos h1]
  show ∃ D', Vl (d + 4) 95 25 _ [] _ = _ ∧ _
  rw [vC_multiple_25]
  by_cases h2 : aN A j
  rotate_left
  · rw [if_neg h2, if_neg (show ¬ ((aN A i ∧ aN A j) ∧ (s = 0 ∨ s = 1)) from fun q => h2 q.1.2)]
    refine ⟨D, ?_, h, fun _ _ => rfl⟩
    show Vl (d + 4) 95 37 _ [] _ = _
    rw [vC_multiple_37]
  rw [if_pos h2]
  show ∃ D', Vl (d + 4) 95 30 _ [] _ = _ ∧ _
  rw [vC_multiple_30, isSide_spec, aVC, tlS, vC_multiple_34]
  by_cases h3 : s = 0 ∨ s = 1
  rotate_left
  · rw [if_neg h3, if_pos rfl, if_neg (fun q => h3 q.2)]
    exact ⟨D, by rw [vC_multiple_37], h, fun _ _ => rfl⟩
  rw [if_pos h3, if_neg (by decide), if_pos ⟨⟨h1, h2⟩, h3⟩]
  obtain ⟨p1, p2, p3, hi⟩ := CS_nm h h1
  obtain ⟨r1, r2, r3, hj⟩ := CS_nm h h2
  obtain ⟨x, rfl⟩ := Int.eq_ofNat_of_zero_le (show 0 ≤ s by omega)
  rw [Int.toNat_natCast]
  obtain ⟨D1, q1, -, -, -, R13, b1, f1, -⟩ := compare_spec (ω := ω) (d := d) tK_75 hF p1 r1 (Or.inl (by omega)) (Or.inl (by omega)) p2 r2 p3 r3 (show x < 2 by omega) rfl
  have oE := ceul_OK hF.1 (s := x) p3 r3
  have oM := (cmul_OK hF.1 (side := x) (G := an A j) p3 oE).1
  have k1 : ∀ c, kept c → D1 c = D c := fun c hc => by unfold kept at hc; exact f1 c (by omega) (by omega)
  have s52 : Vl (d + 4) 95 40 [some (.inr (.inr (some 0))), some (.inl i), some (.inl j), some (.inl (x : Int)), some (.inr (.inr (some (5 + 2 * i.toNat)))), some (.inr (.inr (some (5 + 2 * j.toNat))))] [] (hp ω D) = Vl (d + 4) 95 52 [some (.inr (.inr (some 0))), some (.inl i), some (.inl j), some (.inl (x : Int)), some (.inr (.inr (some (5 + 2 * i.toNat)))), some (.inr (.inr (some (5 + 2 * j.toNat))))] [] (hp ω D1) := by
    simp only [vC_multiple_40, aGF kC, rC_0, rC_1, rC_2, rC_3, rC_4, rC_5, rC_6, rC_7, rC_8, rC_9, rC_10, rC_11, rC_12, aGF kA, rA_0, aGF (kT tT_3), aGF (kK tK_75), aGF (kF tF_76), q75_0, q75_1, q75_2, q75_3, q75_4, q75_6, q75_7, q75_8, q75_9, q75_10, q75_11, q75_12, q75_13, q75_14, q75_15, q75_16, aGF (kP i67), aGF (kP i69), aGF (kP i71), aGF (kP i73), aGF (kP i363), aGF (kP i81), aGF (kP i83), aGF (kP i85), aGF (kP i87), aGF (kP i89), aGF (kP i91), aGF (kP i93), aGF (kP i95), aGF (kP i97), aGF (kP i99), aGF (kP i101), aGF (kP i103), aGF (kP i105), aGF (kP i107), aGF (kP i109), q1, aVC, tlS, tlN, aLt, hwD]
  rw [s52]
  simp only [vC_multiple_52, aGF kC, rC_0, rC_1, rC_2, rC_3, rC_4, rC_5, rC_6, rC_7, rC_8, rC_9, rC_10, rC_11, rC_12, aGF kA, rA_0, aGF (kT tT_3), aGF (kK tK_75), aGF (kF tF_76), q75_0, q75_1, q75_2, q75_3, q75_4, q75_6, q75_7, q75_8, q75_9, q75_10, q75_11, q75_12, q75_13, q75_14, q75_15, q75_16, aGF (kP i67), aGF (kP i69), aGF (kP i71), aGF (kP i73), aGF (kP i363), aGF (kP i81), aGF (kP i83), aGF (kP i85), aGF (kP i87), aGF (kP i89), aGF (kP i91), aGF (kP i93), aGF (kP i95), aGF (kP i97), aGF (kP i99), aGF (kP i101), aGF (kP i103), aGF (kP i105), aGF (kP i107), aGF (kP i109)]
  have e5 : gD (hp ω D1) 75 5 = (if cfit (an A i) (an A j) (ceul (aF A) x (an A i) (an A j)).1 = true then 1 else 0) := b1
  by_cases hc : cfit (an A i) (an A j) (ceul (aF A) x (an A i) (an A j)).1 = true
  · rw [if_pos hc] at e5
    rw [if_neg (show ¬ (gD (hp ω D1) 75 5 = 0) by rw [e5]; decide), if_pos hc]
    have q2 := copyF (ω := ω) (d := d + 3) i67 i87 R13
    have q5 := topF (ω := ω) (D := pD D1 (67 + 1) (rI (cMul (aF A) x (an A i) (an A j)))) (d := d + 3) i67 pD_PR
    refine ⟨pD D1 (67 + 1) (rI (cMul (aF A) x (an A i) (an A j))), ?_, CS_keep h (fun c hc => by rw [pD_ne (by unfold kept at hc; omega), k1 c hc]) (rset_ok (by decide) (pSc_8 hF.1 oM oM) pD_PR (fun q hq hne => ⟨(h.2.2.2.2.2.1 q hq).1, PR_ne (by rw [pD_ne (by omega), f1 _ (by omega) (by omega)]) (h.2.2.2.2.2.1 q hq).2⟩)), fun q hq => by rw [pD_ne (by omega), f1 q (by omega) (by omega)]⟩
    simp only [vC_multiple_65, aGF kC, rC_0, rC_1, rC_2, rC_3, rC_4, rC_5, rC_6, rC_7, rC_8, rC_9, rC_10, rC_11, rC_12, aGF kA, rA_0, aGF (kT tT_3), aGF (kK tK_75), aGF (kF tF_76), q75_0, q75_1, q75_2, q75_3, q75_4, q75_6, q75_7, q75_8, q75_9, q75_10, q75_11, q75_12, q75_13, q75_14, q75_15, q75_16, aGF (kP i67), aGF (kP i69), aGF (kP i71), aGF (kP i73), aGF (kP i363), aGF (kP i81), aGF (kP i83), aGF (kP i85), aGF (kP i87), aGF (kP i89), aGF (kP i91), aGF (kP i93), aGF (kP i95), aGF (kP i97), aGF (kP i99), aGF (kP i101), aGF (kP i103), aGF (kP i105), aGF (kP i107), aGF (kP i109), aR0]
    rw [q2]
    simp only [aVC, tlS, tlN, aLt, hwD, vC_multiple_81, aGF kC, rC_0, rC_1, rC_2, rC_3, rC_4, rC_5, rC_6, rC_7, rC_8, rC_9, rC_10, rC_11, rC_12, aGF kA, rA_0, aGF (kT tT_3), aGF (kK tK_75), aGF (kF tF_76), q75_0, q75_1, q75_2, q75_3, q75_4, q75_6, q75_7, q75_8, q75_9, q75_10, q75_11, q75_12, q75_13, q75_14, q75_15, q75_16, aGF (kP i67), aGF (kP i69), aGF (kP i71), aGF (kP i73), aGF (kP i363), aGF (kP i81), aGF (kP i83), aGF (kP i85), aGF (kP i87), aGF (kP i89), aGF (kP i91), aGF (kP i93), aGF (kP i95), aGF (kP i97), aGF (kP i99), aGF (kP i101), aGF (kP i103), aGF (kP i105), aGF (kP i107), aGF (kP i109), aR0]
    rw [show pSc (tF (AT A)) x (mnum (tF (AT A)) x (cmul (tF (AT A)) x (an A i) (an A j) (ceul (aF A) x (an A i) (an A j)))) (cmul (tF (AT A)) x (an A i) (an A j) (ceul (aF A) x (an A i) (an A j))) = cMul (aF A) x (an A i) (an A j) from rfl, q5]
    simp only [aVC, tlS, tlN, aLt, hwD, vC_multiple_90]
  · rw [if_neg hc] at e5
    rw [if_pos e5, vC_multiple_62, if_neg hc]
    exact ⟨D1, rfl, CS_same h (fun c hc => by
      rcases hc with hc | hc
      · exact k1 c hc
      · exact f1 c (by omega) (by omega)), fun q hq => f1 q (by omega) (by omega)⟩
end OPS3
