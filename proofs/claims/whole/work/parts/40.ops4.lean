/-! THE CLASS'S METHODS: acts, images, counts, places -/
section OPS4
variable {ω : jw} {D : jD} {d : Nat} {A : aA}
theorem keep_op (h : CS D A) (i k : Int) : ∃ D', Vl (d + 3) 97 0 [some (.inr (.inr (some 0))), some (.inl i), some (.inl k), none] [] (hp ω D) = some ((0, some (.inl (oKeep A i k).1)), hp ω D') ∧ CS D' (oKeep A i k).2 ∧ ∀ q, 488 ≤ q → D' q = D q := by
  have hF : FT (aF A) D 76 := h.2.2.2.1
  unfold oKeep
  have st : Vl (d + 3) 97 0 [some (.inr (.inr (some 0))), some (.inl i), some (.inl k), none] [] (hp ω D) = Vl (d + 3) 97 8 [some (.inr (.inr (some 0))), some (.inl i), some (.inl k), none] [.inr (.inr (if aN A i then some (5 + 2 * i.toNat) else none))] (hp ω D) := by
    simp only [vC_keep_0, aGF kC, rC_0, rC_1, rC_2, rC_3, rC_4, rC_5, rC_6, rC_7, rC_8, rC_9, rC_10, rC_11, rC_12, aGF kA, rA_0, aGF (kT tT_3), aGF (kK tK_75), aGF (kF tF_76), q75_0, q75_1, q75_2, q75_3, q75_4, q75_6, q75_7, q75_8, q75_9, q75_10, q75_11, q75_12, q75_13, q75_14, q75_15, q75_16, aGF (kP i67), aGF (kP i69), aGF (kP i71), aGF (kP i73), aGF (kP i363), aGF (kP i81), aGF (kP i83), aGF (kP i85), aGF (kP i87), aGF (kP i89), aGF (kP i91), aGF (kP i93), aGF (kP i95), aGF (kP i97), aGF (kP i99), aGF (kP i101), aGF (kP i103), aGF (kP i105), aGF (kP i107), aGF (kP i109), named3 h, aVC, tlS, tlN, aLt, hwD]
  rw [st, vC_keep_8]
  by_cases h1 : aN A i
  rotate_left
  · rw [if_neg h1, if_neg (show ¬ (aN A i ∧ (0 ≤ k ∧ k < 4) ∧ hAll (rI (Ar A k.toNat)) ((2 ^ (aF A).1 : Nat) : Int) 0 17 = true) from fun q => h1 q.1)]
    refine ⟨D, ?_, h, fun _ _ => rfl⟩
    show Vl (d + 3) 97 22 _ [] _ = _
    rw [vC_keep_22]; rfl
  rw [if_pos h1]
  show ∃ D', Vl (d + 3) 97 13 _ [] _ = _ ∧ _
  rw [vC_keep_13]
  by_cases h2 : k < 0
  · rw [if_pos h2, vC_keep_22, if_neg (fun q => absurd q.2.1.1 (by omega))]
    exact ⟨D, rfl, h, fun _ _ => rfl⟩
  rw [if_neg h2, vC_keep_17]
  by_cases h3 : k < 4
  rotate_left
  · rw [if_neg h3, vC_keep_22, if_neg (fun q => h3 q.2.1.2)]
    exact ⟨D, rfl, h, fun _ _ => rfl⟩
  rw [if_pos h3]
  obtain ⟨p1, p2, p3, hi⟩ := CS_nm h h1
  obtain ⟨x, rfl⟩ := Int.eq_ofNat_of_zero_le (show 0 ≤ k by omega)
  rw [Int.toNat_natCast]
  have hx : x < 4 := by omega
  have hr := h.2.2.2.2.2.1 x hx
  have r2 : PR D (67 + 2 * x + 1) (Ar A x) := by rw [show 67 + 2 * x + 1 = 68 + 2 * x by omega]; exact hr.2
  have pr := prRes hx
  have q1 := hasAll_spec (ω := ω) (d := d + 1) (t := 17) tF_76 hF (kPa pr) (by decide) (Nat.le_refl 17) (i := 0) (by decide)
  rw [show ((17 : Nat) : Int) = 17 from rfl, show ((0 : Nat) : Int) = 0 from rfl, hAll_congr (r' := rI (Ar A x)) _ 17 0 (fun b _ hb => r2 b (by omega))] at q1
  have s46 : Vl (d + 3) 97 24 [some (.inr (.inr (some 0))), some (.inl i), some (.inl (x : Int)), some (.inr (.inr (some (5 + 2 * i.toNat))))] [] (hp ω D) = Vl (d + 3) 97 46 [some (.inr (.inr (some 0))), some (.inl i), some (.inl (x : Int)), some (.inr (.inr (some (5 + 2 * i.toNat))))] [.inl (if hAll (rI (Ar A x)) ((2 ^ (aF A).1 : Nat) : Int) 0 17 = true then 1 else 0)] (hp ω D) := by
    simp only [vC_keep_24, aGF kC, rC_0, rC_1, rC_2, rC_3, rC_4, rC_5, rC_6, rC_7, rC_8, rC_9, rC_10, rC_11, rC_12, aGF kA, rA_0, aGF (kT tT_3), aGF (kK tK_75), aGF (kF tF_76), q75_0, q75_1, q75_2, q75_3, q75_4, q75_6, q75_7, q75_8, q75_9, q75_10, q75_11, q75_12, q75_13, q75_14, q75_15, q75_16, aGF (kP i67), aGF (kP i69), aGF (kP i71), aGF (kP i73), aGF (kP i363), aGF (kP i81), aGF (kP i83), aGF (kP i85), aGF (kP i87), aGF (kP i89), aGF (kP i91), aGF (kP i93), aGF (kP i95), aGF (kP i97), aGF (kP i99), aGF (kP i101), aGF (kP i103), aGF (kP i105), aGF (kP i107), aGF (kP i109), aRx hx, aGF (kP pr), rP pr, q1, aVC, tlS, tlN, aLt, hwD]
  rw [s46, vC_keep_46]
  by_cases h4 : hAll (rI (Ar A x)) ((2 ^ (aF A).1 : Nat) : Int) 0 17 = true
  rotate_left
  · rw [if_neg h4, if_pos rfl, vC_keep_49, if_neg (fun q => h4 q.2.2)]
    exact ⟨D, rfl, h, fun _ _ => rfl⟩
  rw [if_pos h4, if_neg (by decide), if_pos ⟨h1, ⟨by omega, h3⟩, h4⟩]
  obtain ⟨y, rfl⟩ := Int.eq_ofNat_of_zero_le h1.1
  rw [Int.toNat_natCast] at *
  have hy : y < tN (AT A) := by have := h1.2; omega
  have oR : pOK (aF A) (Ar A x) := ⟨fun b => by
    by_cases hb : b < 17
    · have := (hAll_iff 17 0).mp h4 b (by omega) (by omega)
      unfold rI at this; omega
    · rw [hr.1.2 b (by omega)]; exact F_pos _, hr.1.2⟩
  obtain ⟨D1, q2, T1, f1⟩ := remember_spec (ω := ω) (d := d + 1) tT_3 h.2.1 h.2.2.1 hy
  have O1 := tRem_OK h.2.1 hy
  have eF1 : tF (tRem (AT A) y) = aF A := by unfold tRem; split <;> rfl
  have eN1 : tN (tRem (AT A) y) = tN (AT A) := by unfold tRem; split <;> rfl
  have r3 : PR D1 (67 + 2 * x + 1) (Ar A x) := PR_ne (f1 _ (by omega)) r2
  have q3 := copyF (ω := ω) (d := d + 2) p1 pr r3
  have h12 := h.2.1.2.1
  have TS2 : TS (pD D1 (5 + 2 * y + 1) (rI (Ar A x))) 3 (tPut (tRem (AT A) y) y (Ar A x)) := TS_num O1 T1 (fun j hj => by rw [pD_ne (by omega)]) (by
      rw [pD_ne (by omega), T1.2.1]
      show _ = ((max (tN (tRem (AT A) y)) (y + 1) : Nat) : Int)
      rw [eN1]; omega) (by rw [pD_ne (by omega)]; exact T1.2.2.1) (by rw [pD_ne (by omega)]; exact T1.2.2.2.1) rfl (fun q hq => by
      have hq2 : q < max (tN (tRem (AT A) y)) (y + 1) := hq
      show PR _ (3 + 3 + 2 * q) (if q = y then Ar A x else tn (tRem (AT A) y) q)
      by_cases e : q = y
      · subst e
        rw [if_pos rfl, show 3 + 3 + 2 * q = 5 + 2 * q + 1 by omega]; exact pD_PR
      · rw [if_neg e]
        exact PR_ne (by rw [pD_ne (by omega)]) (T1.2.2.2.2.1 q (by omega))) (fun q hq => by rw [pD_ne (by omega)]; exact T1.2.2.2.2.2.1 q hq) (fun q hq => ⟨PR_ne (by rw [pD_ne (by omega)]) (T1.2.2.2.2.2.2 q hq).1, by rw [pD_ne (by omega)]; exact (T1.2.2.2.2.2.2 q hq).2⟩)
  refine ⟨pD D1 (5 + 2 * y + 1) (rI (Ar A x)), ?_, CS_now h TS2 (tPut_OK O1 (by omega) (by omega) (by rw [eF1]; exact oR)) eF1 (fun c hc => by rw [pD_ne (by omega), f1 c (by omega)]), fun q hq => by rw [pD_ne (by omega), f1 q (by omega)]⟩
  simp only [vC_keep_51, aGF kC, rC_0, rC_1, rC_2, rC_3, rC_4, rC_5, rC_6, rC_7, rC_8, rC_9, rC_10, rC_11, rC_12, aGF kA, rA_0, aGF (kT tT_3), aGF (kK tK_75), aGF (kF tF_76), q75_0, q75_1, q75_2, q75_3, q75_4, q75_6, q75_7, q75_8, q75_9, q75_10, q75_11, q75_12, q75_13, q75_14, q75_15, q75_16, aGF (kP i67), aGF (kP i69), aGF (kP i71), aGF (kP i73), aGF (kP i363), aGF (kP i81), aGF (kP i83), aGF (kP i85), aGF (kP i87), aGF (kP i89), aGF (kP i91), aGF (kP i93), aGF (kP i95), aGF (kP i97), aGF (kP i99), aGF (kP i101), aGF (kP i103), aGF (kP i105), aGF (kP i107), aGF (kP i109), q2, aVC, tlS, tlN, aLt, hwD, vC_keep_59, aRx hx, aGF (kP p1), rP p1, q3, vC_keep_69, aZ1]
theorem word_op (h : CS D A) (i p : Int) : Vl (d + 3) 159 0 [some (.inr (.inr (some 0))), some (.inl i), some (.inl p), none] [] (hp ω D) = some ((0, some (.inl (oWord A i p))), hp ω D) := by
  have hF : FT (aF A) D 76 := h.2.2.2.1
  have h2m := F_2 hF.1
  unfold oWord
  simp only [vC_word_0, aGF kC, rC_0, rC_1, rC_2, rC_3, rC_4, rC_5, rC_6, rC_7, rC_8, rC_9, rC_10, rC_11, rC_12, aGF kA, rA_0, aGF (kT tT_3), aGF (kK tK_75), aGF (kF tF_76), q75_0, q75_1, q75_2, q75_3, q75_4, q75_6, q75_7, q75_8, q75_9, q75_10, q75_11, q75_12, q75_13, q75_14, q75_15, q75_16, aGF (kP i67), aGF (kP i69), aGF (kP i71), aGF (kP i73), aGF (kP i363), aGF (kP i81), aGF (kP i83), aGF (kP i85), aGF (kP i87), aGF (kP i89), aGF (kP i91), aGF (kP i93), aGF (kP i95), aGF (kP i97), aGF (kP i99), aGF (kP i101), aGF (kP i103), aGF (kP i105), aGF (kP i107), aGF (kP i109), named3 h, aVC, tlS, tlN, aLt, hwD]
  rw [vC_word_8]
  by_cases h1 : aN A i
  rotate_left
  · rw [if_neg h1, if_neg (show ¬ (aN A i ∧ 0 ≤ p ∧ p < (tP (AT A) : Int)) from fun q => h1 q.1)]
    show Vl (d + 3) 159 28 _ [] _ = _
    rw [vC_word_28]
  rw [if_pos h1]
  show Vl (d + 3) 159 13 _ [] _ = _
  obtain ⟨p1, p2, p3, hi⟩ := CS_nm h h1
  rw [vC_word_13]
  by_cases h2 : p < 0
  · rw [if_pos h2, vC_word_28, if_neg (fun q => absurd q.2.1 (by omega))]
  rw [if_neg h2]
  simp only [vC_word_17, aGF kC, rC_0, rC_1, rC_2, rC_3, rC_4, rC_5, rC_6, rC_7, rC_8, rC_9, rC_10, rC_11, rC_12, aGF kA, rA_0, aGF (kT tT_3), aGF (kK tK_75), aGF (kF tF_76), q75_0, q75_1, q75_2, q75_3, q75_4, q75_6, q75_7, q75_8, q75_9, q75_10, q75_11, q75_12, q75_13, q75_14, q75_15, q75_16, aGF (kP i67), aGF (kP i69), aGF (kP i71), aGF (kP i73), aGF (kP i363), aGF (kP i81), aGF (kP i83), aGF (kP i85), aGF (kP i87), aGF (kP i89), aGF (kP i91), aGF (kP i93), aGF (kP i95), aGF (kP i97), aGF (kP i99), aGF (kP i101), aGF (kP i103), aGF (kP i105), aGF (kP i107), aGF (kP i109)]
  rw [hD, h.2.2.1.2.2.1]
  by_cases h3 : p < (tP (AT A) : Int)
  rotate_left
  · rw [if_neg h3, vC_word_28, if_neg (fun q => h3 q.2.2)]
  rw [if_pos h3, if_pos ⟨h1, by omega, h3⟩]
  obtain ⟨x, rfl⟩ := Int.eq_ofNat_of_zero_le (show 0 ≤ p by omega)
  have h8 := h.2.1.2.2.1
  have hx : x < tP (AT A) := by omega
  have q1 := point_spec (ω := ω) (D := D) (d := d + 2) tT_3 (show x < 8 by omega)
  rw [h.2.2.1.2.2.2.2.2.1 x hx] at q1
  have q2 := appliedTo_spec (ω := ω) (d := d) (a := 1) tK_75 hF p1 p2 p3 (by omega) (h.2.1.2.2.2.2.2.1 x hx)
  rw [show ((1 : Nat) : Int) = 1 from rfl] at q2
  simp only [vC_word_30, aGF kC, rC_0, rC_1, rC_2, rC_3, rC_4, rC_5, rC_6, rC_7, rC_8, rC_9, rC_10, rC_11, rC_12, aGF kA, rA_0, aGF (kT tT_3), aGF (kK tK_75), aGF (kF tF_76), q75_0, q75_1, q75_2, q75_3, q75_4, q75_6, q75_7, q75_8, q75_9, q75_10, q75_11, q75_12, q75_13, q75_14, q75_15, q75_16, aGF (kP i67), aGF (kP i69), aGF (kP i71), aGF (kP i73), aGF (kP i363), aGF (kP i81), aGF (kP i83), aGF (kP i85), aGF (kP i87), aGF (kP i89), aGF (kP i91), aGF (kP i93), aGF (kP i95), aGF (kP i97), aGF (kP i99), aGF (kP i101), aGF (kP i103), aGF (kP i105), aGF (kP i107), aGF (kP i109), q1, aVC, tlS, tlN, aLt, hwD, vC_word_44, q2, vC_word_47, Int.toNat_natCast]
theorem image_op (h : CS D A) (k : Int) : ∃ D', Vl (d + 2) 178 0 [some (.inr (.inr (some 0))), some (.inl k)] [] (hp ω D) = some ((0, some (.inl (oImage A k).1)), hp ω D') ∧ CS D' (oImage A k).2 ∧ ∀ q, 488 ≤ q → D' q = D q := by
  unfold oImage
  rw [vC_image_0]
  by_cases h1 : k < 0
  · rw [if_pos h1, vC_image_9, if_neg (by omega)]
    exact ⟨D, rfl, h, fun _ _ => rfl⟩
  rw [if_neg h1, vC_image_4]
  by_cases h2 : k < 2
  rotate_left
  · rw [if_neg h2, vC_image_9, if_neg (by omega)]
    exact ⟨D, rfl, h, fun _ _ => rfl⟩
  rw [if_pos h2, if_pos (by omega)]
  obtain ⟨x, rfl⟩ := Int.eq_ofNat_of_zero_le (show 0 ≤ k by omega)
  have hx : x < 2 := by omega
  rw [Int.toNat_natCast]
  obtain ⟨D1, q1, T1, f1⟩ := copyT_spec (ω := ω) (d := d) (tT_366 hx) tT_3 (by omega) h.2.1 h.2.2.1
  obtain ⟨h1', h2', h3', h4', h5', h6', h7', h8', h9', h10'⟩ := h
  have f2 : ∀ c, (c < 366 + 61 * x ∨ 366 + 61 * x + 61 ≤ c) → c ≠ 65 → sD D1 65 x 1 c = D c := fun c hc hc2 => by rw [sD_ne hc2, f1 c hc]
  refine ⟨sD D1 65 x 1, ?_, ⟨⟨by rw [f2 1 (by omega) (by decide)]; exact h1'.1, h1'.2.1, fun i hi => by rw [f2 2 (by omega) (by decide)]; exact h1'.2.2 i hi⟩, h2', TS_fr h2' h3' (fun c _ _ => f2 c (by omega) (by omega)), FT_congr (fun c _ _ => f2 c (by omega) (by omega)) h4', fun k hk => ?_, fun q hq => ⟨(h6' q hq).1, PR_ne (f2 _ (by omega) (by omega)) (h6' q hq).2⟩, by rw [f2 0 (by omega) (by decide)]; exact h7', h8', by rw [f2 343 (by omega) (by decide)]; exact h9', fun i h11 h12 => by rw [f2 344 (by omega) (by decide)]; exact h10' i h11 h12⟩, fun q hq => f2 q (by omega) (by omega)⟩
  · simp only [vC_image_11, aGF kC, rC_0, rC_1, rC_2, rC_3, rC_4, rC_5, rC_6, rC_7, rC_8, rC_9, rC_10, rC_11, rC_12, aGF kA, rA_0, aGF (kT tT_3), aGF (kK tK_75), aGF (kF tF_76), q75_0, q75_1, q75_2, q75_3, q75_4, q75_6, q75_7, q75_8, q75_9, q75_10, q75_11, q75_12, q75_13, q75_14, q75_15, q75_16, aGF (kP i67), aGF (kP i69), aGF (kP i71), aGF (kP i73), aGF (kP i363), aGF (kP i81), aGF (kP i83), aGF (kP i85), aGF (kP i87), aGF (kP i89), aGF (kP i91), aGF (kP i93), aGF (kP i95), aGF (kP i97), aGF (kP i99), aGF (kP i101), aGF (kP i103), aGF (kP i105), aGF (kP i107), aGF (kP i109)]
    rw [aAA kC_2, if_pos (by omega), Int.toNat_natCast, rImg hx]
    simp only [aGF (kT (tT_366 hx)), aGF kC, rC_0, rC_1, rC_2, rC_3, rC_4, rC_5, rC_6, rC_7, rC_8, rC_9, rC_10, rC_11, rC_12, aGF kA, rA_0, aGF (kT tT_3), aGF (kK tK_75), aGF (kF tF_76), q75_0, q75_1, q75_2, q75_3, q75_4, q75_6, q75_7, q75_8, q75_9, q75_10, q75_11, q75_12, q75_13, q75_14, q75_15, q75_16, aGF (kP i67), aGF (kP i69), aGF (kP i71), aGF (kP i73), aGF (kP i363), aGF (kP i81), aGF (kP i83), aGF (kP i85), aGF (kP i87), aGF (kP i89), aGF (kP i91), aGF (kP i93), aGF (kP i95), aGF (kP i97), aGF (kP i99), aGF (kP i101), aGF (kP i103), aGF (kP i105), aGF (kP i107), aGF (kP i109), q1, aVC, tlS, tlN, aLt, hwD, vC_image_24]
    rw [aBS kC_3, if_pos (by omega), if_pos (by decide), Int.toNat_natCast]
    rfl
  · by_cases hkx : k = x
    · subst hkx
      refine ⟨?_, fun _ => ?_⟩
      · rw [sD_eq]
        show (1 : Int) = if (if k = k then true else Ai A k) = true then 1 else 0
        rw [if_pos (rfl : k = k), if_pos rfl]
      · show TOK (if k = k then AT A else AI A k) ∧ TS (sD D1 65 k 1) (366 + 61 * k) (if k = k then AT A else AI A k)
        rw [if_pos rfl]
        exact ⟨h2', TS_fr h2' T1 (fun c _ _ => sD_ne (by omega))⟩
    · have h5k := h5' k hk
      refine ⟨?_, fun q => ?_⟩
      · rw [sD_nb hkx, f1 65 (by omega)]
        show _ = if (if k = x then true else Ai A k) = true then 1 else 0
        rw [if_neg hkx]; exact h5k.1
      · have q2 : (if k = x then true else Ai A k) = true := q
        rw [if_neg hkx] at q2
        show TOK (if k = x then AT A else AI A k) ∧ TS (sD D1 65 x 1) (366 + 61 * k) (if k = x then AT A else AI A k)
        rw [if_neg hkx]
        exact ⟨(h5k.2 q2).1, TS_fr (h5k.2 q2).1 (h5k.2 q2).2 (fun c h11 h12 => f2 c (by omega) (by omega))⟩
theorem restore_op (h : CS D A) (k : Int) : ∃ D', Vl (d + 4) 179 0 [some (.inr (.inr (some 0))), some (.inl k)] [] (hp ω D) = some ((0, some (.inl (oRestore A k).1)), hp ω D') ∧ CS D' (oRestore A k).2 ∧ ∀ q, 488 ≤ q → D' q = D q := by
  unfold oRestore
  rw [vC_restore_0]
  by_cases h1 : k < 0
  · rw [if_pos h1, vC_restore_18, if_neg (fun q => absurd q.1.1 (by omega))]
    exact ⟨D, rfl, h, fun _ _ => rfl⟩
  rw [if_neg h1, vC_restore_4]
  by_cases h2 : k < 2
  rotate_left
  · rw [if_neg h2, vC_restore_18, if_neg (fun q => h2 q.1.2)]
    exact ⟨D, rfl, h, fun _ _ => rfl⟩
  rw [if_pos h2]
  obtain ⟨x, rfl⟩ := Int.eq_ofNat_of_zero_le (show 0 ≤ k by omega)
  have hx : x < 2 := by omega
  rw [Int.toNat_natCast]
  have h5x := h.2.2.2.2.1 x hx
  simp only [vC_restore_9, aGF kC, rC_0, rC_1, rC_2, rC_3, rC_4, rC_5, rC_6, rC_7, rC_8, rC_9, rC_10, rC_11, rC_12, aGF kA, rA_0, aGF (kT tT_3), aGF (kK tK_75), aGF (kF tF_76), q75_0, q75_1, q75_2, q75_3, q75_4, q75_6, q75_7, q75_8, q75_9, q75_10, q75_11, q75_12, q75_13, q75_14, q75_15, q75_16, aGF (kP i67), aGF (kP i69), aGF (kP i71), aGF (kP i73), aGF (kP i363), aGF (kP i81), aGF (kP i83), aGF (kP i85), aGF (kP i87), aGF (kP i89), aGF (kP i91), aGF (kP i93), aGF (kP i95), aGF (kP i97), aGF (kP i99), aGF (kP i101), aGF (kP i103), aGF (kP i105), aGF (kP i107), aGF (kP i109)]
  rw [aBA kC_3, if_pos (by omega), Int.toNat_natCast, h5x.1]
  by_cases h3 : Ai A x = true
  rotate_left
  · rw [if_neg h3, if_pos rfl, vC_restore_18, if_neg (fun q => h3 q.2)]
    exact ⟨D, rfl, h, fun _ _ => rfl⟩
  rw [if_pos h3, if_neg (by decide), if_pos ⟨⟨by omega, h2⟩, h3⟩]
  obtain ⟨oI, tI⟩ := h5x.2 h3
  obtain ⟨D1, q1, T1, f1⟩ := copyT_spec (ω := ω) (d := d + 2) tT_3 (tT_366 hx) (by omega) oI tI
  obtain ⟨D2, q2, F2, f2⟩ := tellTo_spec (ω := ω) (d := d) tT_3 tF_76 oI.1 T1.1.1 T1.1.2.1 T1.1.2.2.1 T1.1.2.2.2
  obtain ⟨h1', h2', h3', h4', h5', h6', h7', h8', h9', h10'⟩ := h
  have f3 : ∀ c, (c < 3 ∨ 64 ≤ c) → (c < 76 ∨ 81 ≤ c) → D2 c = D c := fun c hc hc2 => by rw [f2 c (by omega), f1 c (by omega)]
  refine ⟨D2, ?_, ⟨⟨by rw [f3 1 (by omega) (by omega)]; exact h1'.1, h1'.2.1, fun i hi => by rw [f3 2 (by omega) (by omega)]; exact h1'.2.2 i hi⟩, oI, TS_fr oI T1 (fun c _ _ => f2 c (by omega)), F2, fun k hk => ⟨by rw [f3 65 (by omega) (by omega)]; exact (h5' k hk).1, fun q => ⟨((h5' k hk).2 q).1, TS_fr ((h5' k hk).2 q).1 ((h5' k hk).2 q).2 (fun c _ _ => f3 c (by omega) (by omega))⟩⟩, fun q hq => ⟨(h6' q hq).1, PR_ne (f3 _ (by omega) (by omega)) (h6' q hq).2⟩, by rw [f3 0 (by omega) (by omega)]; exact h7', h8', by rw [f3 343 (by omega) (by omega)]; exact h9', fun i h11 h12 => by rw [f3 344 (by omega) (by omega)]; exact h10' i h11 h12⟩, fun q hq => f3 q (by omega) (by omega)⟩
  simp only [vC_restore_20, aGF kC, rC_0, rC_1, rC_2, rC_3, rC_4, rC_5, rC_6, rC_7, rC_8, rC_9, rC_10, rC_11, rC_12, aGF kA, rA_0, aGF (kT tT_3), aGF (kK tK_75), aGF (kF tF_76), q75_0, q75_1, q75_2, q75_3, q75_4, q75_6, q75_7, q75_8, q75_9, q75_10, q75_11, q75_12, q75_13, q75_14, q75_15, q75_16, aGF (kP i67), aGF (kP i69), aGF (kP i71), aGF (kP i73), aGF (kP i363), aGF (kP i81), aGF (kP i83), aGF (kP i85), aGF (kP i87), aGF (kP i89), aGF (kP i91), aGF (kP i93), aGF (kP i95), aGF (kP i97), aGF (kP i99), aGF (kP i101), aGF (kP i103), aGF (kP i105), aGF (kP i107), aGF (kP i109)]
  rw [aAA kC_2, if_pos (by omega), Int.toNat_natCast, rImg hx]
  simp only [q1, aVC, tlS, tlN, aLt, hwD, vC_restore_33, aGF kC, rC_0, rC_1, rC_2, rC_3, rC_4, rC_5, rC_6, rC_7, rC_8, rC_9, rC_10, rC_11, rC_12, aGF kA, rA_0, aGF (kT tT_3), aGF (kK tK_75), aGF (kF tF_76), q75_0, q75_1, q75_2, q75_3, q75_4, q75_6, q75_7, q75_8, q75_9, q75_10, q75_11, q75_12, q75_13, q75_14, q75_15, q75_16, aGF (kP i67), aGF (kP i69), aGF (kP i71), aGF (kP i73), aGF (kP i363), aGF (kP i81), aGF (kP i83), aGF (kP i85), aGF (kP i87), aGF (kP i89), aGF (kP i91), aGF (kP i93), aGF (kP i95), aGF (kP i97), aGF (kP i99), aGF (kP i101), aGF (kP i103), aGF (kP i105), aGF (kP i107), aGF (kP i109), q2, vC_restore_47, aZ1]
theorem count_op (h : CS D A) (w : Int) : Vl d 180 0 [some (.inr (.inr (some 0))), some (.inl w)] [] (hp ω D) = some ((0, some (.inl (oCount A w))), hp ω D) := by
  have hF : FT (aF A) D 76 := h.2.2.2.1
  have hT := h.2.2.1
  unfold oCount
  rw [vC_count_0]
  by_cases h0 : w = 0
  · subst h0
    rw [if_pos rfl]
    show Vl d 180 52 _ [] _ = _
    simp only [vC_count_52, aGF kC, rC_0, rC_1, rC_2, rC_3, rC_4, rC_5, rC_6, rC_7, rC_8, rC_9, rC_10, rC_11, rC_12, aGF kA, rA_0, aGF (kT tT_3), aGF (kK tK_75), aGF (kF tF_76), q75_0, q75_1, q75_2, q75_3, q75_4, q75_6, q75_7, q75_8, q75_9, q75_10, q75_11, q75_12, q75_13, q75_14, q75_15, q75_16, aGF (kP i67), aGF (kP i69), aGF (kP i71), aGF (kP i73), aGF (kP i363), aGF (kP i81), aGF (kP i83), aGF (kP i85), aGF (kP i87), aGF (kP i89), aGF (kP i91), aGF (kP i93), aGF (kP i95), aGF (kP i97), aGF (kP i99), aGF (kP i101), aGF (kP i103), aGF (kP i105), aGF (kP i107), aGF (kP i109)]
    rw [hD, hF.2.1]
  rw [if_neg h0]
  by_cases h1 : w = 1
  · subst h1
    rw [if_pos rfl]
    show Vl d 180 63 _ [] _ = _
    simp only [vC_count_63, aGF kC, rC_0, rC_1, rC_2, rC_3, rC_4, rC_5, rC_6, rC_7, rC_8, rC_9, rC_10, rC_11, rC_12, aGF kA, rA_0, aGF (kT tT_3), aGF (kK tK_75), aGF (kF tF_76), q75_0, q75_1, q75_2, q75_3, q75_4, q75_6, q75_7, q75_8, q75_9, q75_10, q75_11, q75_12, q75_13, q75_14, q75_15, q75_16, aGF (kP i67), aGF (kP i69), aGF (kP i71), aGF (kP i73), aGF (kP i363), aGF (kP i81), aGF (kP i83), aGF (kP i85), aGF (kP i87), aGF (kP i89), aGF (kP i91), aGF (kP i93), aGF (kP i95), aGF (kP i97), aGF (kP i99), aGF (kP i101), aGF (kP i103), aGF (kP i105), aGF (kP i107), aGF (kP i109)]
    rw [hD, hF.2.2.1]
  rw [if_neg h1]
  by_cases h2 : w = 2
  · subst h2
    rw [if_pos rfl]
    show Vl d 180 74 _ [] _ = _
    simp only [vC_count_74, aGF kC, rC_0, rC_1, rC_2, rC_3, rC_4, rC_5, rC_6, rC_7, rC_8, rC_9, rC_10, rC_11, rC_12, aGF kA, rA_0, aGF (kT tT_3), aGF (kK tK_75), aGF (kF tF_76), q75_0, q75_1, q75_2, q75_3, q75_4, q75_6, q75_7, q75_8, q75_9, q75_10, q75_11, q75_12, q75_13, q75_14, q75_15, q75_16, aGF (kP i67), aGF (kP i69), aGF (kP i71), aGF (kP i73), aGF (kP i363), aGF (kP i81), aGF (kP i83), aGF (kP i85), aGF (kP i87), aGF (kP i89), aGF (kP i91), aGF (kP i93), aGF (kP i95), aGF (kP i97), aGF (kP i99), aGF (kP i101), aGF (kP i103), aGF (kP i105), aGF (kP i107), aGF (kP i109)]
    rw [hD, hF.2.2.2.1]
  rw [if_neg h2]
  by_cases h3 : w = 3
  · subst h3
    rw [if_pos rfl]
    show Vl d 180 85 _ [] _ = _
    simp only [vC_count_85, aGF kC, rC_0, rC_1, rC_2, rC_3, rC_4, rC_5, rC_6, rC_7, rC_8, rC_9, rC_10, rC_11, rC_12, aGF kA, rA_0, aGF (kT tT_3), aGF (kK tK_75), aGF (kF tF_76), q75_0, q75_1, q75_2, q75_3, q75_4, q75_6, q75_7, q75_8, q75_9, q75_10, q75_11, q75_12, q75_13, q75_14, q75_15, q75_16, aGF (kP i67), aGF (kP i69), aGF (kP i71), aGF (kP i73), aGF (kP i363), aGF (kP i81), aGF (kP i83), aGF (kP i85), aGF (kP i87), aGF (kP i89), aGF (kP i91), aGF (kP i93), aGF (kP i95), aGF (kP i97), aGF (kP i99), aGF (kP i101), aGF (kP i103), aGF (kP i105), aGF (kP i107), aGF (kP i109)]
    rw [hD, hF.2.2.2.2.1]
  rw [if_neg h3]
  by_cases h4 : w = 4
  · subst h4
    rw [if_pos rfl]
    show Vl d 180 96 _ [] _ = _
    simp only [vC_count_96, aGF kC, rC_0, rC_1, rC_2, rC_3, rC_4, rC_5, rC_6, rC_7, rC_8, rC_9, rC_10, rC_11, rC_12, aGF kA, rA_0, aGF (kT tT_3), aGF (kK tK_75), aGF (kF tF_76), q75_0, q75_1, q75_2, q75_3, q75_4, q75_6, q75_7, q75_8, q75_9, q75_10, q75_11, q75_12, q75_13, q75_14, q75_15, q75_16, aGF (kP i67), aGF (kP i69), aGF (kP i71), aGF (kP i73), aGF (kP i363), aGF (kP i81), aGF (kP i83), aGF (kP i85), aGF (kP i87), aGF (kP i89), aGF (kP i91), aGF (kP i93), aGF (kP i95), aGF (kP i97), aGF (kP i99), aGF (kP i101), aGF (kP i103), aGF (kP i105), aGF (kP i107), aGF (kP i109)]
    rw [hD, hF.2.2.2.2.2.2.1]
  rw [if_neg h4]
  by_cases h5 : w = 5
  · subst h5
    rw [if_pos rfl]
    show Vl d 180 107 _ [] _ = _
    simp only [vC_count_107, aGF kC, rC_0, rC_1, rC_2, rC_3, rC_4, rC_5, rC_6, rC_7, rC_8, rC_9, rC_10, rC_11, rC_12, aGF kA, rA_0, aGF (kT tT_3), aGF (kK tK_75), aGF (kF tF_76), q75_0, q75_1, q75_2, q75_3, q75_4, q75_6, q75_7, q75_8, q75_9, q75_10, q75_11, q75_12, q75_13, q75_14, q75_15, q75_16, aGF (kP i67), aGF (kP i69), aGF (kP i71), aGF (kP i73), aGF (kP i363), aGF (kP i81), aGF (kP i83), aGF (kP i85), aGF (kP i87), aGF (kP i89), aGF (kP i91), aGF (kP i93), aGF (kP i95), aGF (kP i97), aGF (kP i99), aGF (kP i101), aGF (kP i103), aGF (kP i105), aGF (kP i107), aGF (kP i109)]
    rw [hD, hT.2.1]
  rw [if_neg h5]
  by_cases h6 : w = 6
  · subst h6
    rw [if_pos rfl]
    show Vl d 180 115 _ [] _ = _
    simp only [vC_count_115, aGF kC, rC_0, rC_1, rC_2, rC_3, rC_4, rC_5, rC_6, rC_7, rC_8, rC_9, rC_10, rC_11, rC_12, aGF kA, rA_0, aGF (kT tT_3), aGF (kK tK_75), aGF (kF tF_76), q75_0, q75_1, q75_2, q75_3, q75_4, q75_6, q75_7, q75_8, q75_9, q75_10, q75_11, q75_12, q75_13, q75_14, q75_15, q75_16, aGF (kP i67), aGF (kP i69), aGF (kP i71), aGF (kP i73), aGF (kP i363), aGF (kP i81), aGF (kP i83), aGF (kP i85), aGF (kP i87), aGF (kP i89), aGF (kP i91), aGF (kP i93), aGF (kP i95), aGF (kP i97), aGF (kP i99), aGF (kP i101), aGF (kP i103), aGF (kP i105), aGF (kP i107), aGF (kP i109)]
    rw [hD, hT.2.2.1]
  rw [if_neg h6]
  by_cases h7 : w = 7
  · subst h7
    rw [if_pos rfl]
    show Vl d 180 123 _ [] _ = _
    simp only [vC_count_123, aGF kC, rC_0, rC_1, rC_2, rC_3, rC_4, rC_5, rC_6, rC_7, rC_8, rC_9, rC_10, rC_11, rC_12, aGF kA, rA_0, aGF (kT tT_3), aGF (kK tK_75), aGF (kF tF_76), q75_0, q75_1, q75_2, q75_3, q75_4, q75_6, q75_7, q75_8, q75_9, q75_10, q75_11, q75_12, q75_13, q75_14, q75_15, q75_16, aGF (kP i67), aGF (kP i69), aGF (kP i71), aGF (kP i73), aGF (kP i363), aGF (kP i81), aGF (kP i83), aGF (kP i85), aGF (kP i87), aGF (kP i89), aGF (kP i91), aGF (kP i93), aGF (kP i95), aGF (kP i97), aGF (kP i99), aGF (kP i101), aGF (kP i103), aGF (kP i105), aGF (kP i107), aGF (kP i109)]
    rw [hD, hT.2.2.2.1]
  rw [if_neg h7]
  by_cases h8 : w = 8
  · subst h8
    rw [if_pos rfl]
    show Vl d 180 131 _ [] _ = _
    simp only [vC_count_131, aGF kC, rC_0, rC_1, rC_2, rC_3, rC_4, rC_5, rC_6, rC_7, rC_8, rC_9, rC_10, rC_11, rC_12, aGF kA, rA_0, aGF (kT tT_3), aGF (kK tK_75), aGF (kF tF_76), q75_0, q75_1, q75_2, q75_3, q75_4, q75_6, q75_7, q75_8, q75_9, q75_10, q75_11, q75_12, q75_13, q75_14, q75_15, q75_16, aGF (kP i67), aGF (kP i69), aGF (kP i71), aGF (kP i73), aGF (kP i363), aGF (kP i81), aGF (kP i83), aGF (kP i85), aGF (kP i87), aGF (kP i89), aGF (kP i91), aGF (kP i93), aGF (kP i95), aGF (kP i97), aGF (kP i99), aGF (kP i101), aGF (kP i103), aGF (kP i105), aGF (kP i107), aGF (kP i109)]
    rw [hD, h.1.1]
  rw [if_neg h8]
  have e : jsw [52, 63, 74, 85, 96, 107, 115, 123, 131] 139 0 8 w = 139 := by
    unfold jsw
    by_cases h9 : w < 0
    · rw [if_pos h9]
    · rw [if_neg h9, if_pos (by omega)]
  rw [e, vC_count_139]
theorem tap_op (h : CS D A) (i : Int) : Vl (d + 1) 176 0 [some (.inr (.inr (some 0))), some (.inl i)] [] (hp ω D) = some ((0, some (.inl (oTap A i))), hp ω D) := by
  have h8 := h.2.2.2.2.2.2.2.1
  have h9 := h.2.2.2.2.2.2.2.2.1
  have h10 := h.2.2.2.2.2.2.2.2.2
  unfold oTap
  have q1 : Vl d 177 0 [some (.inr (.inr (some 343))), some (.inl i)] [] (hp ω D) = some ((0, some (.inl (if 1 ≤ i ∧ i ≤ (Ag A : Int) then (AG A i.toNat : Int) else -1))), hp ω D) := by
    rw [vG_tapAt_0]
    by_cases h1 : i < 1
    · rw [if_pos h1, vG_tapAt_28, vG_tapAt_29, if_neg (by omega)]
    rw [if_neg h1, vG_tapAt_5, aGF kG, hD, h9]
    by_cases h2 : (Ag A : Int) < i
    · rw [if_pos h2, vG_tapAt_28, vG_tapAt_29, if_neg (by omega)]
    · rw [if_neg h2, vG_tapAt_13, if_neg (by omega), vG_tapAt_19, aGF kG, rG_0, aIA kG_0, if_pos (by omega), vG_tapAt_29, if_pos (by omega), h10 i.toNat (by omega) (by omega)]
  simp only [vC_tap_0, aGF kC, rC_0, rC_1, rC_2, rC_3, rC_4, rC_5, rC_6, rC_7, rC_8, rC_9, rC_10, rC_11, rC_12, aGF kA, rA_0, aGF (kT tT_3), aGF (kK tK_75), aGF (kF tF_76), q75_0, q75_1, q75_2, q75_3, q75_4, q75_6, q75_7, q75_8, q75_9, q75_10, q75_11, q75_12, q75_13, q75_14, q75_15, q75_16, aGF (kP i67), aGF (kP i69), aGF (kP i71), aGF (kP i73), aGF (kP i363), aGF (kP i81), aGF (kP i83), aGF (kP i85), aGF (kP i87), aGF (kP i89), aGF (kP i91), aGF (kP i93), aGF (kP i95), aGF (kP i97), aGF (kP i99), aGF (kP i101), aGF (kP i103), aGF (kP i105), aGF (kP i107), aGF (kP i109), aGF kG, q1, aVC, tlS, tlN, aLt, hwD, vC_tap_8]
theorem roots_loop (h : CS D A) {i : Int} (h1 : aN A i) (x1 : Int) (k : Int) : ∀ n a f : Nat, a + n = 2 ^ (aF A).1 → f ≤ a → Vl (d + 3) 106 26 [some (.inr (.inr (some 0))), some (.inl x1), some (.inl k), some (.inr (.inr (some (5 + 2 * i.toNat)))), some (.inl (f : Int)), some (.inl (a : Int))] [] (hp ω D) = some ((0, some (.inl (rtl (aF A) (an A i) k n a f))), hp ω D)
  | 0, a, f, ha, hf => by
    have hF : FT (aF A) D 76 := h.2.2.2.1
    simp only [vC_roots_26, aGF kC, rC_0, rC_1, rC_2, rC_3, rC_4, rC_5, rC_6, rC_7, rC_8, rC_9, rC_10, rC_11, rC_12, aGF kA, rA_0, aGF (kT tT_3), aGF (kK tK_75), aGF (kF tF_76), q75_0, q75_1, q75_2, q75_3, q75_4, q75_6, q75_7, q75_8, q75_9, q75_10, q75_11, q75_12, q75_13, q75_14, q75_15, q75_16, aGF (kP i67), aGF (kP i69), aGF (kP i71), aGF (kP i73), aGF (kP i363), aGF (kP i81), aGF (kP i83), aGF (kP i85), aGF (kP i87), aGF (kP i89), aGF (kP i91), aGF (kP i93), aGF (kP i95), aGF (kP i97), aGF (kP i99), aGF (kP i101), aGF (kP i103), aGF (kP i105), aGF (kP i107), aGF (kP i109)]
    rw [hD, hF.2.2.2.2.2.1, if_neg (by omega), vC_roots_73]
    unfold rtl
    by_cases hk : k = -1
    · rw [if_pos hk, vC_roots_78, vC_roots_84, if_pos hk]
    · rw [if_neg hk, vC_roots_83, vC_roots_84, if_neg hk]
  | n + 1, a, f, ha, hf => by
    have hF : FT (aF A) D 76 := h.2.2.2.1
    have h256 := F_256 hF.1
    have h2m := F_2 hF.1
    obtain ⟨p1, p2, p3, hi⟩ := CS_nm h h1
    have q2 := appliedTo_spec (ω := ω) (d := d) (a := a) (r := 1) tK_75 hF p1 p2 p3 (by omega) (by omega)
    rw [show ((1 : Nat) : Int) = 1 from rfl] at q2
    simp only [vC_roots_26, aGF kC, rC_0, rC_1, rC_2, rC_3, rC_4, rC_5, rC_6, rC_7, rC_8, rC_9, rC_10, rC_11, rC_12, aGF kA, rA_0, aGF (kT tT_3), aGF (kK tK_75), aGF (kF tF_76), q75_0, q75_1, q75_2, q75_3, q75_4, q75_6, q75_7, q75_8, q75_9, q75_10, q75_11, q75_12, q75_13, q75_14, q75_15, q75_16, aGF (kP i67), aGF (kP i69), aGF (kP i71), aGF (kP i73), aGF (kP i363), aGF (kP i81), aGF (kP i83), aGF (kP i85), aGF (kP i87), aGF (kP i89), aGF (kP i91), aGF (kP i93), aGF (kP i95), aGF (kP i97), aGF (kP i99), aGF (kP i101), aGF (kP i103), aGF (kP i105), aGF (kP i107), aGF (kP i109)]
    rw [hD, hF.2.2.2.2.2.1, if_pos (by omega)]
    simp only [vC_roots_41, aGF kC, rC_0, rC_1, rC_2, rC_3, rC_4, rC_5, rC_6, rC_7, rC_8, rC_9, rC_10, rC_11, rC_12, aGF kA, rA_0, aGF (kT tT_3), aGF (kK tK_75), aGF (kF tF_76), q75_0, q75_1, q75_2, q75_3, q75_4, q75_6, q75_7, q75_8, q75_9, q75_10, q75_11, q75_12, q75_13, q75_14, q75_15, q75_16, aGF (kP i67), aGF (kP i69), aGF (kP i71), aGF (kP i73), aGF (kP i363), aGF (kP i81), aGF (kP i83), aGF (kP i85), aGF (kP i87), aGF (kP i89), aGF (kP i91), aGF (kP i93), aGF (kP i95), aGF (kP i97), aGF (kP i99), aGF (kP i101), aGF (kP i103), aGF (kP i105), aGF (kP i107), aGF (kP i109), q2, aVC, tlS, tlN, aLt, hwD]
    rw [vC_roots_52]
    unfold rtl
    by_cases h0 : app (aF A) (an A i) a 1 = 0
    · rw [if_pos (by omega), vC_roots_55, if_pos h0]
      by_cases hk : (f : Int) = k
      · rw [if_pos hk, vC_roots_61, if_pos hk]
      · rw [if_neg hk, vC_roots_64, vC_roots_67, w32_s (by omega), w32_s (by omega), if_neg hk]
        exact roots_loop h h1 x1 k n (a + 1) (f + 1) (by omega) (by omega)
    · rw [if_neg (by omega), vC_roots_67, w32_s (by omega), if_neg h0]
      exact roots_loop h h1 x1 k n (a + 1) f (by omega) (by omega)
theorem roots_op (h : CS D A) (i k : Int) : Vl (d + 3) 106 0 [some (.inr (.inr (some 0))), some (.inl i), some (.inl k), none, none, none] [] (hp ω D) = some ((0, some (.inl (oRoots A i k))), hp ω D) := by
  unfold oRoots
  simp only [vC_roots_0, aGF kC, rC_0, rC_1, rC_2, rC_3, rC_4, rC_5, rC_6, rC_7, rC_8, rC_9, rC_10, rC_11, rC_12, aGF kA, rA_0, aGF (kT tT_3), aGF (kK tK_75), aGF (kF tF_76), q75_0, q75_1, q75_2, q75_3, q75_4, q75_6, q75_7, q75_8, q75_9, q75_10, q75_11, q75_12, q75_13, q75_14, q75_15, q75_16, aGF (kP i67), aGF (kP i69), aGF (kP i71), aGF (kP i73), aGF (kP i363), aGF (kP i81), aGF (kP i83), aGF (kP i85), aGF (kP i87), aGF (kP i89), aGF (kP i91), aGF (kP i93), aGF (kP i95), aGF (kP i97), aGF (kP i99), aGF (kP i101), aGF (kP i103), aGF (kP i105), aGF (kP i107), aGF (kP i109), named3 h, aVC, tlS, tlN, aLt, hwD]
  rw [vC_roots_8]
  by_cases h1 : aN A i
  rotate_left
  · rw [if_neg h1, if_neg (show ¬ (aN A i ∧ -1 ≤ k) from fun q => h1 q.1)]
    show Vl (d + 3) 106 18 _ [] _ = _
    rw [vC_roots_18]
  rw [if_pos h1]
  show Vl (d + 3) 106 13 _ [] _ = _
  rw [vC_roots_13]
  by_cases h2 : k < -1
  · rw [if_pos h2, vC_roots_18, if_neg (fun q => absurd q.2 (by omega))]
  · rw [if_neg h2, if_pos ⟨h1, by omega⟩, vC_roots_20]
    exact roots_loop h h1 i k (2 ^ (aF A).1) 0 0 (by omega) (by omega)
theorem kin_loop (h : CS D A) {a b : Nat} (ha : a < 2 ^ (aF A).1) (hb : b < 2 ^ (aF A).1) : ∀ n c : Nat, c + n = 2 ^ (aF A).1 → Vl (d + 3) 107 32 [some (.inr (.inr (some 0))), some (.inl (a : Int)), some (.inl (b : Int)), some (.inl (c : Int))] [] (hp ω D) = some ((0, some (.inl (knl (aF A) a b n c))), hp ω D)
  | 0, c, hc => by
    have hF : FT (aF A) D 76 := h.2.2.2.1
    simp only [vC_kin_32, aGF kC, rC_0, rC_1, rC_2, rC_3, rC_4, rC_5, rC_6, rC_7, rC_8, rC_9, rC_10, rC_11, rC_12, aGF kA, rA_0, aGF (kT tT_3), aGF (kK tK_75), aGF (kF tF_76), q75_0, q75_1, q75_2, q75_3, q75_4, q75_6, q75_7, q75_8, q75_9, q75_10, q75_11, q75_12, q75_13, q75_14, q75_15, q75_16, aGF (kP i67), aGF (kP i69), aGF (kP i71), aGF (kP i73), aGF (kP i363), aGF (kP i81), aGF (kP i83), aGF (kP i85), aGF (kP i87), aGF (kP i89), aGF (kP i91), aGF (kP i93), aGF (kP i95), aGF (kP i97), aGF (kP i99), aGF (kP i101), aGF (kP i103), aGF (kP i105), aGF (kP i107), aGF (kP i109)]
    rw [hD, hF.2.2.2.2.2.1, if_neg (by omega), vC_kin_70]
    rfl
  | n + 1, c, hc => by
    have hF : FT (aF A) D 76 := h.2.2.2.1
    have h256 := F_256 hF.1
    have q1 := kinOf_spec (ω := ω) (d := d) tF_76 hF ha (show c < 2 ^ (aF A).1 by omega)
    simp only [vC_kin_32, aGF kC, rC_0, rC_1, rC_2, rC_3, rC_4, rC_5, rC_6, rC_7, rC_8, rC_9, rC_10, rC_11, rC_12, aGF kA, rA_0, aGF (kT tT_3), aGF (kK tK_75), aGF (kF tF_76), q75_0, q75_1, q75_2, q75_3, q75_4, q75_6, q75_7, q75_8, q75_9, q75_10, q75_11, q75_12, q75_13, q75_14, q75_15, q75_16, aGF (kP i67), aGF (kP i69), aGF (kP i71), aGF (kP i73), aGF (kP i363), aGF (kP i81), aGF (kP i83), aGF (kP i85), aGF (kP i87), aGF (kP i89), aGF (kP i91), aGF (kP i93), aGF (kP i95), aGF (kP i97), aGF (kP i99), aGF (kP i101), aGF (kP i103), aGF (kP i105), aGF (kP i107), aGF (kP i109)]
    rw [hD, hF.2.2.2.2.2.1, if_pos (by omega)]
    simp only [vC_kin_46, aGF kC, rC_0, rC_1, rC_2, rC_3, rC_4, rC_5, rC_6, rC_7, rC_8, rC_9, rC_10, rC_11, rC_12, aGF kA, rA_0, aGF (kT tT_3), aGF (kK tK_75), aGF (kF tF_76), q75_0, q75_1, q75_2, q75_3, q75_4, q75_6, q75_7, q75_8, q75_9, q75_10, q75_11, q75_12, q75_13, q75_14, q75_15, q75_16, aGF (kP i67), aGF (kP i69), aGF (kP i71), aGF (kP i73), aGF (kP i363), aGF (kP i81), aGF (kP i83), aGF (kP i85), aGF (kP i87), aGF (kP i89), aGF (kP i91), aGF (kP i93), aGF (kP i95), aGF (kP i97), aGF (kP i99), aGF (kP i101), aGF (kP i103), aGF (kP i105), aGF (kP i107), aGF (kP i109), q1, aVC, tlS, tlN, aLt, hwD]
    rw [vC_kin_58]
    unfold knl
    by_cases h0 : fkn (aF A) a c = b
    · rw [if_pos (by rw [← h0]), vC_kin_62, if_pos h0]
    · rw [if_neg (by
        intro e
        have e2 : ((fkn (aF A) a c : Nat) : Int) = (b : Int) := e
        omega), vC_kin_64, w32_s (by omega), if_neg h0]
      exact kin_loop h ha hb n (c + 1) (by omega)
theorem kin_op (h : CS D A) (a b : Int) : Vl (d + 3) 107 0 [some (.inr (.inr (some 0))), some (.inl a), some (.inl b), none] [] (hp ω D) = some ((0, some (.inl (oKin A a b))), hp ω D) := by
  have hF : FT (aF A) D 76 := h.2.2.2.1
  unfold oKin
  simp only [vC_kin_0, aGF kC, rC_0, rC_1, rC_2, rC_3, rC_4, rC_5, rC_6, rC_7, rC_8, rC_9, rC_10, rC_11, rC_12, aGF kA, rA_0, aGF (kT tT_3), aGF (kK tK_75), aGF (kF tF_76), q75_0, q75_1, q75_2, q75_3, q75_4, q75_6, q75_7, q75_8, q75_9, q75_10, q75_11, q75_12, q75_13, q75_14, q75_15, q75_16, aGF (kP i67), aGF (kP i69), aGF (kP i71), aGF (kP i73), aGF (kP i363), aGF (kP i81), aGF (kP i83), aGF (kP i85), aGF (kP i87), aGF (kP i89), aGF (kP i91), aGF (kP i93), aGF (kP i95), aGF (kP i97), aGF (kP i99), aGF (kP i101), aGF (kP i103), aGF (kP i105), aGF (kP i107), aGF (kP i109), has_spec tF_76 hF, aVC, tlS, tlN, aLt, hwD]
  rw [vC_kin_11]
  by_cases h1 : 0 ≤ a ∧ a < ((2 ^ (tF (AT A)).1 : Nat) : Int)
  · rw [if_pos h1, if_neg (by decide)]
    simp only [vC_kin_14, aGF kC, rC_0, rC_1, rC_2, rC_3, rC_4, rC_5, rC_6, rC_7, rC_8, rC_9, rC_10, rC_11, rC_12, aGF kA, rA_0, aGF (kT tT_3), aGF (kK tK_75), aGF (kF tF_76), q75_0, q75_1, q75_2, q75_3, q75_4, q75_6, q75_7, q75_8, q75_9, q75_10, q75_11, q75_12, q75_13, q75_14, q75_15, q75_16, aGF (kP i67), aGF (kP i69), aGF (kP i71), aGF (kP i73), aGF (kP i363), aGF (kP i81), aGF (kP i83), aGF (kP i85), aGF (kP i87), aGF (kP i89), aGF (kP i91), aGF (kP i93), aGF (kP i95), aGF (kP i97), aGF (kP i99), aGF (kP i101), aGF (kP i103), aGF (kP i105), aGF (kP i107), aGF (kP i109), has_spec tF_76 hF, aVC, tlS, tlN, aLt, hwD]
    rw [vC_kin_25]
    by_cases h2 : 0 ≤ b ∧ b < ((2 ^ (tF (AT A)).1 : Nat) : Int)
    · rw [if_pos h2, if_neg (by decide), if_pos ⟨h1, h2⟩, vC_kin_30]
      obtain ⟨x, rfl⟩ := Int.eq_ofNat_of_zero_le h1.1
      obtain ⟨y, rfl⟩ := Int.eq_ofNat_of_zero_le h2.1
      rw [Int.toNat_natCast, Int.toNat_natCast]
      have h2m := F_2 hF.1
      have h1' : ((x : Nat) : Int) < ((2 ^ (aF A).1 : Nat) : Int) := h1.2
      have h2' : ((y : Nat) : Int) < ((2 ^ (aF A).1 : Nat) : Int) := h2.2
      exact kin_loop h (by omega) (by omega) (2 ^ (aF A).1 - 1) 1 (by omega)
    · rw [if_neg h2, if_pos rfl, vC_kin_28, if_neg (fun q => h2 q.2)]
  · rw [if_neg h1, if_pos rfl, vC_kin_28, if_neg (fun q => h1 q.1)]
/-- the seen places -/
def SN (D : jD) (s : Nat → Bool) : Prop := ∀ x, x < 256 → D 365 x = (if s x = true then 1 else 0)
theorem seeKin_loop {a : Nat} : ∀ (n c : Nat) (s : Nat → Bool) (D : jD), FT (aF A) D 76 → a < 2 ^ (aF A).1 → c + n = 2 ^ (aF A).1 → SN D s → ∃ D', Vl (d + 3) 110 2 [some (.inr (.inr (some 0))), some (.inl (a : Int)), some (.inl (c : Int))] [] (hp ω D) = some ((0, none), hp ω D') ∧ SN D' (skl (aF A) a n c s) ∧ ∀ q, q ≠ 365 → D' q = D q
  | 0, c, s, D, hF, ha, hc, hs => by
    refine ⟨D, ?_, hs, fun _ _ => rfl⟩
    simp only [vC_seeKin_2, aGF kC, rC_0, rC_1, rC_2, rC_3, rC_4, rC_5, rC_6, rC_7, rC_8, rC_9, rC_10, rC_11, rC_12, aGF kA, rA_0, aGF (kT tT_3), aGF (kK tK_75), aGF (kF tF_76), q75_0, q75_1, q75_2, q75_3, q75_4, q75_6, q75_7, q75_8, q75_9, q75_10, q75_11, q75_12, q75_13, q75_14, q75_15, q75_16, aGF (kP i67), aGF (kP i69), aGF (kP i71), aGF (kP i73), aGF (kP i363), aGF (kP i81), aGF (kP i83), aGF (kP i85), aGF (kP i87), aGF (kP i89), aGF (kP i91), aGF (kP i93), aGF (kP i95), aGF (kP i97), aGF (kP i99), aGF (kP i101), aGF (kP i103), aGF (kP i105), aGF (kP i107), aGF (kP i109)]
    rw [hD, hF.2.2.2.2.2.1, if_neg (by omega), vC_seeKin_44]
  | n + 1, c, s, D, hF, ha, hc, hs => by
    have h256 := F_256 hF.1
    have q1 := kinOf_spec (ω := ω) (d := d) tF_76 hF ha (show c < 2 ^ (aF A).1 by omega)
    have hk := fkn_lt hF.1 (a := a) (show c < 2 ^ (aF A).1 by omega)
    obtain ⟨D', q2, r2, f2⟩ := seeKin_loop n (c + 1) (fun x => if x = fkn (aF A) a c then true else s x) (sD D 365 (fkn (aF A) a c) 1) (FT_congr (fun q _ _ => sD_ne (by omega)) hF) ha (by omega) (fun x hx => by
      by_cases e : x = fkn (aF A) a c
      · subst e
        have e2 : (fun x => if x = fkn (aF A) a c then true else s x) (fkn (aF A) a c) = true := if_pos rfl
        rw [sD_eq, if_pos e2]
      · rw [sD_nb e]
        simp only [if_neg e]
        exact hs x hx)
    refine ⟨D', ?_, r2, fun q hq => by rw [f2 q hq, sD_ne hq]⟩
    simp only [vC_seeKin_2, aGF kC, rC_0, rC_1, rC_2, rC_3, rC_4, rC_5, rC_6, rC_7, rC_8, rC_9, rC_10, rC_11, rC_12, aGF kA, rA_0, aGF (kT tT_3), aGF (kK tK_75), aGF (kF tF_76), q75_0, q75_1, q75_2, q75_3, q75_4, q75_6, q75_7, q75_8, q75_9, q75_10, q75_11, q75_12, q75_13, q75_14, q75_15, q75_16, aGF (kP i67), aGF (kP i69), aGF (kP i71), aGF (kP i73), aGF (kP i363), aGF (kP i81), aGF (kP i83), aGF (kP i85), aGF (kP i87), aGF (kP i89), aGF (kP i91), aGF (kP i93), aGF (kP i95), aGF (kP i97), aGF (kP i99), aGF (kP i101), aGF (kP i103), aGF (kP i105), aGF (kP i107), aGF (kP i109)]
    rw [hD, hF.2.2.2.2.2.1, if_pos (by omega)]
    simp only [vC_seeKin_16, aGF kC, rC_0, rC_1, rC_2, rC_3, rC_4, rC_5, rC_6, rC_7, rC_8, rC_9, rC_10, rC_11, rC_12, aGF kA, rA_0, aGF (kT tT_3), aGF (kK tK_75), aGF (kF tF_76), q75_0, q75_1, q75_2, q75_3, q75_4, q75_6, q75_7, q75_8, q75_9, q75_10, q75_11, q75_12, q75_13, q75_14, q75_15, q75_16, aGF (kP i67), aGF (kP i69), aGF (kP i71), aGF (kP i73), aGF (kP i363), aGF (kP i81), aGF (kP i83), aGF (kP i85), aGF (kP i87), aGF (kP i89), aGF (kP i91), aGF (kP i93), aGF (kP i95), aGF (kP i97), aGF (kP i99), aGF (kP i101), aGF (kP i103), aGF (kP i105), aGF (kP i107), aGF (kP i109), q1, aVC, tlS, tlN, aLt, hwD]
    rw [vC_seeKin_32, jand_i (by omega), aBS kC_12, if_pos (by omega), if_pos (by decide), Int.toNat_natCast, w32_s (by omega), q2]
theorem classes_loop : ∀ (n a : Nat) (s : Nat → Bool) (k : Nat) (D : jD), FT (aF A) D 76 → a + n = 2 ^ (aF A).1 → k ≤ a → SN D s → ∃ D', Vl (d + 4) 109 26 [some (.inr (.inr (some 0))), some (.inl (k : Int)), some (.inl (a : Int))] [] (hp ω D) = some ((0, some (.inl (csl (aF A) n a s k : Int))), hp ω D') ∧ ∀ q, q ≠ 365 → D' q = D q
  | 0, a, s, k, D, hF, ha, hk, hs => by
    refine ⟨D, ?_, fun _ _ => rfl⟩
    simp only [vC_classes_26, aGF kC, rC_0, rC_1, rC_2, rC_3, rC_4, rC_5, rC_6, rC_7, rC_8, rC_9, rC_10, rC_11, rC_12, aGF kA, rA_0, aGF (kT tT_3), aGF (kK tK_75), aGF (kF tF_76), q75_0, q75_1, q75_2, q75_3, q75_4, q75_6, q75_7, q75_8, q75_9, q75_10, q75_11, q75_12, q75_13, q75_14, q75_15, q75_16, aGF (kP i67), aGF (kP i69), aGF (kP i71), aGF (kP i73), aGF (kP i363), aGF (kP i81), aGF (kP i83), aGF (kP i85), aGF (kP i87), aGF (kP i89), aGF (kP i91), aGF (kP i93), aGF (kP i95), aGF (kP i97), aGF (kP i99), aGF (kP i101), aGF (kP i103), aGF (kP i105), aGF (kP i107), aGF (kP i109)]
    rw [hD, hF.2.2.2.2.2.1, if_neg (by omega), vC_classes_70]
    rfl
  | n + 1, a, s, k, D, hF, ha, hk, hs => by
    have h256 := F_256 hF.1
    have h2m := F_2 hF.1
    simp only [vC_classes_26, aGF kC, rC_0, rC_1, rC_2, rC_3, rC_4, rC_5, rC_6, rC_7, rC_8, rC_9, rC_10, rC_11, rC_12, aGF kA, rA_0, aGF (kT tT_3), aGF (kK tK_75), aGF (kF tF_76), q75_0, q75_1, q75_2, q75_3, q75_4, q75_6, q75_7, q75_8, q75_9, q75_10, q75_11, q75_12, q75_13, q75_14, q75_15, q75_16, aGF (kP i67), aGF (kP i69), aGF (kP i71), aGF (kP i73), aGF (kP i363), aGF (kP i81), aGF (kP i83), aGF (kP i85), aGF (kP i87), aGF (kP i89), aGF (kP i91), aGF (kP i93), aGF (kP i95), aGF (kP i97), aGF (kP i99), aGF (kP i101), aGF (kP i103), aGF (kP i105), aGF (kP i107), aGF (kP i109)]
    rw [hD, hF.2.2.2.2.2.1, if_pos (by omega), vC_classes_40, if_pos (by omega)]
    simp only [vC_classes_47, aGF kC, rC_0, rC_1, rC_2, rC_3, rC_4, rC_5, rC_6, rC_7, rC_8, rC_9, rC_10, rC_11, rC_12, aGF kA, rA_0, aGF (kT tT_3), aGF (kK tK_75), aGF (kF tF_76), q75_0, q75_1, q75_2, q75_3, q75_4, q75_6, q75_7, q75_8, q75_9, q75_10, q75_11, q75_12, q75_13, q75_14, q75_15, q75_16, aGF (kP i67), aGF (kP i69), aGF (kP i71), aGF (kP i73), aGF (kP i363), aGF (kP i81), aGF (kP i83), aGF (kP i85), aGF (kP i87), aGF (kP i89), aGF (kP i91), aGF (kP i93), aGF (kP i95), aGF (kP i97), aGF (kP i99), aGF (kP i101), aGF (kP i103), aGF (kP i105), aGF (kP i107), aGF (kP i109)]
    rw [aBA kC_12, if_pos (by omega), Int.toNat_natCast, hs a (by omega)]
    unfold csl
    by_cases h0 : s a = true
    · rw [if_pos h0, if_neg (by decide), if_pos h0]
      obtain ⟨D', q2, f2⟩ := classes_loop n (a + 1) s k D hF (by omega) (by omega) hs
      exact ⟨D', by rw [vC_classes_64, w32_s (by omega), q2], f2⟩
    · rw [if_neg h0, if_pos rfl, if_neg h0]
      obtain ⟨D1, q1, s1, f1⟩ := seeKin_loop (ω := ω) (d := d) (A := A) (a := a) (2 ^ (aF A).1 - 1) 1 s D hF (by omega) (by omega) hs
      rw [show ((1 : Nat) : Int) = 1 from rfl] at q1
      obtain ⟨D', q2, f2⟩ := classes_loop n (a + 1) _ (k + 1) D1 (FT_congr (fun q _ _ => f1 q (by omega)) hF) (by omega) (by omega) s1
      refine ⟨D', ?_, fun q hq => by rw [f2 q hq, f1 q hq]⟩
      simp only [vC_classes_56, aGF kC, rC_0, rC_1, rC_2, rC_3, rC_4, rC_5, rC_6, rC_7, rC_8, rC_9, rC_10, rC_11, rC_12, aGF kA, rA_0, aGF (kT tT_3), aGF (kK tK_75), aGF (kF tF_76), q75_0, q75_1, q75_2, q75_3, q75_4, q75_6, q75_7, q75_8, q75_9, q75_10, q75_11, q75_12, q75_13, q75_14, q75_15, q75_16, aGF (kP i67), aGF (kP i69), aGF (kP i71), aGF (kP i73), aGF (kP i363), aGF (kP i81), aGF (kP i83), aGF (kP i85), aGF (kP i87), aGF (kP i89), aGF (kP i91), aGF (kP i93), aGF (kP i95), aGF (kP i97), aGF (kP i99), aGF (kP i101), aGF (kP i103), aGF (kP i105), aGF (kP i107), aGF (kP i109)]
      rw [vC_seeKin_0, q1]
      simp only [aVC, tlS, tlN, aLt, hwD]
      rw [vC_classes_64, w32_s (by omega), w32_s (by omega)]
      exact q2
theorem classes_op (h : CS D A) : ∃ D', Vl (d + 4) 109 0 [some (.inr (.inr (some 0))), none, none] [] (hp ω D) = some ((0, some (.inl (oClasses A))), hp ω D') ∧ CS D' A ∧ ∀ q, 488 ≤ q → D' q = D q := by
  have hF : FT (aF A) D 76 := h.2.2.2.1
  have ch := chain (fun j => Vl (d + 4) 109 2 [some (.inr (.inr (some 0))), some (.inl (j : Int)), none] [] (hp ω (pDn D 365 j (fun _ => 0)))) 256 (fun j hj => by
    rw [vC_classes_2, if_pos (by omega)]
    simp only [vC_classes_9, aGF kC, rC_0, rC_1, rC_2, rC_3, rC_4, rC_5, rC_6, rC_7, rC_8, rC_9, rC_10, rC_11, rC_12, aGF kA, rA_0, aGF (kT tT_3), aGF (kK tK_75), aGF (kF tF_76), q75_0, q75_1, q75_2, q75_3, q75_4, q75_6, q75_7, q75_8, q75_9, q75_10, q75_11, q75_12, q75_13, q75_14, q75_15, q75_16, aGF (kP i67), aGF (kP i69), aGF (kP i71), aGF (kP i73), aGF (kP i363), aGF (kP i81), aGF (kP i83), aGF (kP i85), aGF (kP i87), aGF (kP i89), aGF (kP i91), aGF (kP i93), aGF (kP i95), aGF (kP i97), aGF (kP i99), aGF (kP i101), aGF (kP i103), aGF (kP i105), aGF (kP i107), aGF (kP i109)]
    rw [aBS kC_12, if_pos (by omega), if_pos (by decide), Int.toNat_natCast, w32_s (by omega), pDn_s rfl])
  rw [pDn_0, show ((0 : Nat) : Int) = 0 from rfl] at ch
  obtain ⟨D', q2, f2⟩ := classes_loop (ω := ω) (d := d) (A := A) (2 ^ (aF A).1) 0 (fun _ => false) 0 (pDn D 365 256 (fun _ => 0)) (FT_congr (fun q _ _ => pDn_ne (by omega)) hF) (by omega) (by omega) (fun x hx => by rw [pDn_lt hx]; rfl)
  rw [show ((0 : Nat) : Int) = 0 from rfl] at q2
  have f3 : ∀ q, q ≠ 365 → D' q = D q := fun q hq => by rw [f2 q hq, pDn_ne hq]
  refine ⟨D', ?_, CS_same h (fun c hc => f3 c (by unfold kept at hc; omega)), fun q hq => f3 q (by omega)⟩
  rw [vC_classes_0, ch, vC_classes_2, if_neg (by decide), vC_classes_22, q2]
  rfl
end OPS4
