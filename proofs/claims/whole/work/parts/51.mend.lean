/-! MEND: the one word near the tape in the class -/
def onl (R : Nat → pl) (W : pl) (k : Nat) (lim : Int) : Nat → Nat → Int → Int
  | 0, _, f => f
  | r + 1, i, f => if lim < (rkn (pA W (gsm R i)) 0 k : Int) then onl R W k lim r (i + 1) f else if f = -1 then onl R W k lim r (i + 1) (grc i : Int) else -1
def wdF (A : aA) : pl := fun b => if b < tP (AT A) then At A b else 0
def mnC (A : aA) (k : Nat) : Int := onl (spR (AT A) k) (wdF A) (tP (AT A)) (((tP (AT A) - k) / 2 : Nat) : Int) (2 ^ ((aF A).1 * k)) 0 (-1)
def oMend (A : aA) (k : Int) : Int × aA := if isD A k ∧ Al A = tP (AT A) ∧ allN A 0 (Al A) = true then (if mnC A k.toNat = -1 then (-2, aTape A 0 (At A)) else ((sz (lyc (aF A).1 (mnC A k.toNat).toNat) : Int) - 1, aRes (aTape A 0 (At A)) (rset (Ar A) 0 (lyc (aF A).1 (mnC A k.toNat).toNat)))) else (-3, aTape A 0 (At A))
section MEND
variable {d : Nat} {A : aA}
theorem onl_rng (R : Nat → pl) (W : pl) (k : Nat) (lim : Int) : ∀ (r i : Nat) (f : Int), i + r ≤ 4096 → (f = -1 ∨ ∃ c : Nat, c < 4096 ∧ f = (c : Int)) → (onl R W k lim r i f = -1 ∨ ∃ c : Nat, c < 4096 ∧ onl R W k lim r i f = (c : Int))
  | 0, _, _, _, h => h
  | r + 1, i, f, hi, h => by
    have e : onl R W k lim (r + 1) i f = (if lim < (rkn (pA W (gsm R i)) 0 k : Int) then onl R W k lim r (i + 1) f else if f = -1 then onl R W k lim r (i + 1) (grc i : Int) else -1) := rfl
    rw [e]
    by_cases h1 : lim < (rkn (pA W (gsm R i)) 0 k : Int)
    · rw [if_pos h1]; exact onl_rng R W k lim r (i + 1) f (by omega) h
    · rw [if_neg h1]
      by_cases h2 : f = -1
      · rw [if_pos h2]
        exact onl_rng R W k lim r (i + 1) (grc i : Int) (by omega) (Or.inr ⟨grc i, grc_lt (n := 12) (by omega), rfl⟩)
      · rw [if_neg h2]; exact Or.inl rfl
theorem pAx_in {m : Nat} {F G : pl} (hF : ∀ b, F b < 2 ^ m) (hG : ∀ b, G b < 2 ^ m) : ∀ b, pA F G b < 2 ^ m := fun b => x_lt (hF b) (hG b)
theorem onlyNear_loop {m n k : Nat} {R : Nat → pl} {W : pl} (hW : ∀ b, W b < 2 ^ m) (lim : Int) (l1 : Int) {ω : jw} : ∀ (r i : Nat) (f : Int) (D : jD), SP ω D m n k R → i + r = 2 ^ n → ∃ D', Vl (d + 2) 167 9 [some (.inr (.inr (some 302))), some (.inr (.inl l1)), none, some (.inl (k : Int)), some (.inl lim), some (.inl f), some (.inr (.inl (pL m (pA W (gsm R (i - 1))) k))), none, some (.inl (i : Int))] [] (hp ω D) = some ((0, some (.inl (onl R W k lim r i f))), hp ω D') ∧ ∀ q, q ≠ 304 → D' q = D q
  | 0, i, f, D, h, hi => by
    refine ⟨D, ?_, fun _ _ => rfl⟩
    rw [vS_onlyNear_9, aGF kS, sums_spec h, aVC, tlS, vS_onlyNear_15, if_neg (by omega), vS_onlyNear_72]
    rfl
  | r + 1, i, f, D, h, hi => by
    have h12 : 2 ^ n ≤ 2 ^ 12 := Nat.pow_le_pow_right (by decide) h.2.2.1
    have g2 := gsm_in h i (by omega)
    have gW := pAx_in hW g2
    obtain ⟨D1, q1, f1⟩ := rankOfPacked_spec (ω := ω) (D := D) (d := d) h.1 h.2.2.2.2.1 h.2.2.2.2.2.1 h.2.2.2.1 h.2.2.2.2.2.2.1 gW
    have st : Vl (d + 2) 167 9 [some (.inr (.inr (some 302))), some (.inr (.inl l1)), none, some (.inl (k : Int)), some (.inl lim), some (.inl f), some (.inr (.inl (pL m (pA W (gsm R (i - 1))) k))), none, some (.inl (i : Int))] [] (hp ω D) = Vl (d + 2) 167 45 [some (.inr (.inr (some 302))), some (.inr (.inl l1)), none, some (.inl (k : Int)), some (.inl lim), some (.inl f), some (.inr (.inl (pL m (pA W (gsm R i)) k))), none, some (.inl (i : Int))] [.inl (rkn (pA W (gsm R i)) 0 k : Int)] (hp ω D1) := by
      rw [vS_onlyNear_9, aGF kS, sums_spec h, aVC, tlS, vS_onlyNear_15, if_pos (by omega), vS_onlyNear_18]
      by_cases h0 : i = 0
      · have ex : jlxor (pL m (pA W (gsm R (i - 1))) k) 0 = pL m (pA W (gsm R i)) k := by
          rw [h0]
          show jlxor (pL m (pA W (gsm R 0)) k) 0 = pL m (pA W (gsm R 0)) k
          have z : jlxor (pL m (pA W (gsm R 0)) k) (pL m p0 k) = pL m (pA (pA W (gsm R 0)) p0) k := pL_x (k := k) (pAx_in hW (fun b => Nat.two_pow_pos m : ∀ b, gsm R 0 b < 2 ^ m)) (fun b => Nat.two_pow_pos m : ∀ b, p0 b < 2 ^ m) h.2.2.2.1
          have e0 : pL m p0 k = 0 := by
            unfold pL
            rw [show pk m p0 k = 0 from pkq_z k (fun _ _ => rfl)]; rfl
          have e1 : pA (pA W (gsm R 0)) p0 = pA W (gsm R 0) := by
            funext b
            show (W b ^^^ 0) ^^^ 0 = W b ^^^ 0
            rw [Nat.xor_zero]
          rw [e0, e1] at z
          exact z
        rw [if_neg (by omega), vS_onlyNear_34, vS_onlyNear_35, aGF kS, ex, q1, aVC, tlS]
      · obtain ⟨x, rfl⟩ : ∃ x, i = x + 1 := ⟨i - 1, by omega⟩
        obtain ⟨t1, t2⟩ := step_spec2 (ω := ω) (d := d) h (i := x + 1) (by omega) (by omega)
        have g1 := gsm_in h x (by omega)
        have ex := pL_x (k := k) (pAx_in hW g1) (h.2.2.2.2.2.2.2 _ t1).1 h.2.2.2.1
        have e1 : pA (pA W (gsm R x)) (R (tzk (x + 1))) = pA W (gsm R (x + 1)) := by
          funext b
          show (W b ^^^ gsm R x b) ^^^ R (tzk (x + 1)) b = W b ^^^ (gsm R x b ^^^ R (tzk (x + 1)) b)
          rw [Nat.xor_assoc]
        rw [e1] at ex
        rw [if_pos (by omega), vS_onlyNear_25, aGF kS, t2, aVC, tlS, vS_onlyNear_31, vS_onlyNear_35, aGF kS, Nat.add_sub_cancel, ex, q1, aVC, tlS]
    have e : onl R W k lim (r + 1) i f = (if lim < (rkn (pA W (gsm R i)) 0 k : Int) then onl R W k lim r (i + 1) f else if f = -1 then onl R W k lim r (i + 1) (grc i : Int) else -1) := rfl
    have S1 := SP_fr h (f1 302 (by decide))
    rw [st, vS_onlyNear_45, e]
    by_cases h1 : lim < (rkn (pA W (gsm R i)) 0 k : Int)
    · obtain ⟨D', q2, f2⟩ := onlyNear_loop hW lim l1 r (i + 1) f D1 S1 (by omega)
      rw [Nat.add_sub_cancel] at q2
      refine ⟨D', ?_, fun q hq => by rw [f2 q hq, f1 q hq]⟩
      rw [if_pos h1, vS_onlyNear_66, w32_s (by omega), q2, if_pos h1]
    · rw [if_neg h1, vS_onlyNear_50, if_neg h1]
      by_cases h2 : f = -1
      · obtain ⟨D', q2, f2⟩ := onlyNear_loop hW lim l1 r (i + 1) (grc i : Int) D1 S1 (by omega)
        rw [Nat.add_sub_cancel] at q2
        refine ⟨D', ?_, fun q hq => by rw [f2 q hq, f1 q hq]⟩
        have q3 := code_spec (ω := ω) (D := D1) (d := d + 1) (k := i) (by omega)
        rw [if_pos h2, vS_onlyNear_58, aGF kS, q3, aVC, tlS, vS_onlyNear_64, vS_onlyNear_66, w32_s (by omega), q2, if_pos h2]
      · refine ⟨D1, ?_, f1⟩
        rw [if_neg h2, vS_onlyNear_56, if_neg h2]
theorem half_s : ∀ z : Nat, z < 9 → w32 ((w32 (z : Int)).tdiv 2) = ((z / 2 : Nat) : Int) := by decide +kernel
theorem mend_op {ω : jw} {D : jD} (h : CS D A) (k : Int) : ∃ ω' D', Vl (d + 4) 166 0 [some (.inr (.inr (some 0))), some (.inl k), none, none, none, none] [] (hp ω D) = some ((0, some (.inl (oMend A k).1)), hp ω' D') ∧ CS D' (oMend A k).2 ∧ wEq ω ω' ∧ ∀ q, 488 ≤ q → D' q = D q := by
  have h0 := CS_len0 h
  have hF : FT (aF A) (sD D 1 1 0) 76 := h0.2.2.2.1
  have hP5 : sD D 1 1 0 3 5 = (tP (AT A) : Int) := h0.2.2.1.2.2.1
  have hl := h.1.2.1
  have f0 : ∀ q, 488 ≤ q → sD D 1 1 0 q = D q := fun q hq => sD_ne (by omega)
  have e1 : ¬ (isD A k ∧ Al A = tP (AT A) ∧ allN A 0 (Al A) = true) → oMend A k = (-3, aTape A 0 (At A)) := fun q => if_neg q
  have q0 := isDimension_spec (ω := ω) (D := sD D 1 1 0) (d := d + 1) h0 k
  have e0 : isD (aTape A 0 (At A)) k = isD A k := rfl
  simp only [vC_mend_0, aGF kC, rC_0, rC_1, rC_2, rC_3, rC_4, rC_5, rC_6, rC_7, rC_8, rC_9, rC_10, rC_11, rC_12, aGF kA, rA_0, aGF (kT tT_3), aGF (kK tK_75), aGF (kF tF_76), q75_0, q75_1, q75_2, q75_3, q75_4, q75_6, q75_7, q75_8, q75_9, q75_10, q75_11, q75_12, q75_13, q75_14, q75_15, q75_16, aGF (kP i67), aGF (kP i69), aGF (kP i71), aGF (kP i73), aGF (kP i363), aGF (kP i81), aGF (kP i83), aGF (kP i85), aGF (kP i87), aGF (kP i89), aGF (kP i91), aGF (kP i93), aGF (kP i95), aGF (kP i97), aGF (kP i99), aGF (kP i101), aGF (kP i103), aGF (kP i105), aGF (kP i107), aGF (kP i109)]
  rw [hD, h.1.1]
  simp only [aGF kC, rC_0, rC_1, rC_2, rC_3, rC_4, rC_5, rC_6, rC_7, rC_8, rC_9, rC_10, rC_11, rC_12, aGF kA, rA_0, aGF (kT tT_3), aGF (kK tK_75), aGF (kF tF_76), q75_0, q75_1, q75_2, q75_3, q75_4, q75_6, q75_7, q75_8, q75_9, q75_10, q75_11, q75_12, q75_13, q75_14, q75_15, q75_16, aGF (kP i67), aGF (kP i69), aGF (kP i71), aGF (kP i73), aGF (kP i363), aGF (kP i81), aGF (kP i83), aGF (kP i85), aGF (kP i87), aGF (kP i89), aGF (kP i91), aGF (kP i93), aGF (kP i95), aGF (kP i97), aGF (kP i99), aGF (kP i101), aGF (kP i103), aGF (kP i105), aGF (kP i107), aGF (kP i109), aVC, tlS, tlN, aLt, hwD, q0]
  rw [vC_mend_21]
  by_cases h1 : isD A k
  rotate_left
  · rw [if_neg (show ¬ isD (aTape A 0 (At A)) k from h1), if_pos rfl, vC_mend_39, vC_mend_40, if_pos rfl, vC_mend_67, e1 (fun q => h1 q.1)]
    exact ⟨ω, _, rfl, h0, wEq_r ω, f0⟩
  rw [if_pos (show isD (aTape A 0 (At A)) k from h1), if_neg (by decide)]
  simp only [vC_mend_24, aGF kC, rC_0, rC_1, rC_2, rC_3, rC_4, rC_5, rC_6, rC_7, rC_8, rC_9, rC_10, rC_11, rC_12, aGF kA, rA_0, aGF (kT tT_3), aGF (kK tK_75), aGF (kF tF_76), q75_0, q75_1, q75_2, q75_3, q75_4, q75_6, q75_7, q75_8, q75_9, q75_10, q75_11, q75_12, q75_13, q75_14, q75_15, q75_16, aGF (kP i67), aGF (kP i69), aGF (kP i71), aGF (kP i73), aGF (kP i363), aGF (kP i81), aGF (kP i83), aGF (kP i85), aGF (kP i87), aGF (kP i89), aGF (kP i91), aGF (kP i93), aGF (kP i95), aGF (kP i97), aGF (kP i99), aGF (kP i101), aGF (kP i103), aGF (kP i105), aGF (kP i107), aGF (kP i109)]
  rw [hD, hP5]
  by_cases h2 : Al A = tP (AT A)
  rotate_left
  · rw [if_neg (show ¬ ((Al A : Int) = (tP (AT A) : Int)) by omega), vC_mend_39, vC_mend_40, if_pos rfl, vC_mend_67, e1 (fun q => h2 q.2.1)]
    exact ⟨ω, _, rfl, h0, wEq_r ω, f0⟩
  have h8 : tP (AT A) ≤ 8 := h.2.1.2.2.1
  have ta : Vl (d + 3) 98 0 [some (.inr (.inr (some 76))), some (.inr (.inr (some 2))), some (.inl 0), some (.inl (Al A : Int)), none] [] (hp ω (sD D 1 1 0)) = some ((0, some (.inl (if allN A 0 (Al A) = true then 1 else 0))), hp ω (sD D 1 1 0)) := by
    have := hasAll_spec (ω := ω) (D := sD D 1 1 0) (d := d + 2) tF_76 hF kA_0 (by decide) (show Al A ≤ 540 by omega) (Nat.zero_le (Al A))
    rw [show ((0 : Nat) : Int) = 0 from rfl, Nat.sub_zero] at this
    rw [this]
    unfold allN
    rw [hAll_congr (r' := rI (At A)) _ (Al A) 0 (fun b h1 h2 => by rw [sD_ne (by decide)]; exact (h.1.2.2 b (by omega)).1)]
  rw [if_pos (show (Al A : Int) = (tP (AT A) : Int) by omega), vC_mend_35, vC_mend_40, if_neg (by decide)]
  simp only [vC_mend_45, aGF kC, rC_0, rC_1, rC_2, rC_3, rC_4, rC_5, rC_6, rC_7, rC_8, rC_9, rC_10, rC_11, rC_12, aGF kA, rA_0, aGF (kT tT_3), aGF (kK tK_75), aGF (kF tF_76), q75_0, q75_1, q75_2, q75_3, q75_4, q75_6, q75_7, q75_8, q75_9, q75_10, q75_11, q75_12, q75_13, q75_14, q75_15, q75_16, aGF (kP i67), aGF (kP i69), aGF (kP i71), aGF (kP i73), aGF (kP i363), aGF (kP i81), aGF (kP i83), aGF (kP i85), aGF (kP i87), aGF (kP i89), aGF (kP i91), aGF (kP i93), aGF (kP i95), aGF (kP i97), aGF (kP i99), aGF (kP i101), aGF (kP i103), aGF (kP i105), aGF (kP i107), aGF (kP i109), ta, aVC, tlS, tlN, aLt, hwD]
  rw [vC_mend_64]
  by_cases h3 : allN A 0 (Al A) = true
  rotate_left
  · rw [if_neg h3, if_pos rfl, vC_mend_67, e1 (fun q => h3 q.2.2)]
    exact ⟨ω, _, rfl, h0, wEq_r ω, f0⟩
  rw [if_pos h3, if_neg (by decide)]
  obtain ⟨x, rfl⟩ := Int.eq_ofNat_of_zero_le (show 0 ≤ k by have := h1.1; omega)
  have hx8 : x ≤ tP (AT A) := by have := h1.2.1; omega
  have hmk : (aF A).1 * x ≤ 12 := by
    have k4 := h1.2.2.2
    rw [← Int.natCast_mul, Nat.mul_comm] at k4; omega
  have h12 : 2 ^ ((aF A).1 * x) ≤ 2 ^ 12 := Nat.pow_le_pow_right (by decide) hmk
  have hW : ∀ b, wdF A b < 2 ^ (aF A).1 := fun b => by
    unfold wdF; split
    · have := (hAll_iff (Al A) 0).mp h3 b (by omega) (by omega)
      unfold rI at this
      omega
    · exact Nat.two_pow_pos _
  obtain ⟨ω1, D1, q1, S0, w1, f1⟩ := spanPoints_spec (ω := ω) (D := sD D 1 1 0) (d := d) h0 h1
  have S1 : SP ω1 D1 (aF A).1 ((aF A).1 * x) (tP (AT A)) (spR (AT A) x) := S0
  have f1' : ∀ q, q ≠ 1 → q ≠ 302 → q ≠ 305 → q ≠ 364 → D1 q = D q := fun q z a b c => by rw [f1 q a b c, sD_ne z]
  have q2 := packed_spec (ω := ω1) (D := D1) (d := d + 3) (k := tP (AT A)) kA_0 S1.1 S1.2.2.2.1 S1.2.2.2.2.2.1 (by omega) (by omega) hW (fun b hb => by
    rw [f1' 2 (by decide) (by decide) (by decide) (by decide), (h.1.2.2 b (by omega)).1]
    unfold wdF; rw [if_pos hb])
  obtain ⟨D2, q3, f2⟩ := onlyNear_loop (d := d + 1) hW (((tP (AT A) - x) / 2 : Nat) : Int) (pL (aF A).1 (wdF A) (tP (AT A))) (2 ^ ((aF A).1 * x)) 0 (-1) D1 S1 (Nat.zero_add _)
  have eW : pA (wdF A) (gsm (spR (AT A) x) (0 - 1)) = wdF A := by
    funext b
    show wdF A b ^^^ 0 = wdF A b
    exact Nat.xor_zero _
  rw [eW, show ((0 : Nat) : Int) = 0 from rfl] at q3
  have q3' : Vl (d + 3) 167 0 [some (.inr (.inr (some 302))), some (.inr (.inl (pL (aF A).1 (wdF A) (tP (AT A))))), none, some (.inl (tP (AT A) : Int)), some (.inl (((tP (AT A) - x) / 2 : Nat) : Int)), none, none, none, none] [] (hp ω1 D1) = some ((0, some (.inl (mnC A x))), hp ω1 D2) := by
    rw [vS_onlyNear_0, q3]; rfl
  have fr : ∀ q, q ≠ 302 → q ≠ 304 → q ≠ 305 → q ≠ 364 → D2 q = sD D 1 1 0 q := fun q a b c e => by rw [f2 q b, f1 q a c e]
  have hh : w32 ((w32 ((tP (AT A) : Int) - (x : Int))).tdiv 2) = (((tP (AT A) - x) / 2 : Nat) : Int) := by
    rw [show (tP (AT A) : Int) - (x : Int) = ((tP (AT A) - x : Nat) : Int) by omega]
    exact half_s _ (by omega)
  have st : Vl (d + 4) 166 70 [some (.inr (.inr (some 0))), some (.inl (x : Int)), some (.inl (Al A : Int)), some (.inl 1), none, none] [] (hp ω (sD D 1 1 0)) = if mnC A x = -1 then Vl (d + 4) 166 115 [some (.inr (.inr (some 0))), some (.inl (x : Int)), some (.inl (Al A : Int)), some (.inl 1), some (.inl (((tP (AT A) - x) / 2 : Nat) : Int)), some (.inl (mnC A x))] [] (hp ω1 D2) else Vl (d + 4) 166 118 [some (.inr (.inr (some 0))), some (.inl (x : Int)), some (.inl (Al A : Int)), some (.inl 1), some (.inl (((tP (AT A) - x) / 2 : Nat) : Int)), some (.inl (mnC A x))] [] (hp ω1 D2) := by
    simp only [vC_mend_70, aGF kC, rC_0, rC_1, rC_2, rC_3, rC_4, rC_5, rC_6, rC_7, rC_8, rC_9, rC_10, rC_11, rC_12, aGF kA, rA_0, aGF (kT tT_3), aGF (kK tK_75), aGF (kF tF_76), q75_0, q75_1, q75_2, q75_3, q75_4, q75_6, q75_7, q75_8, q75_9, q75_10, q75_11, q75_12, q75_13, q75_14, q75_15, q75_16, aGF (kP i67), aGF (kP i69), aGF (kP i71), aGF (kP i73), aGF (kP i363), aGF (kP i81), aGF (kP i83), aGF (kP i85), aGF (kP i87), aGF (kP i89), aGF (kP i91), aGF (kP i93), aGF (kP i95), aGF (kP i97), aGF (kP i99), aGF (kP i101), aGF (kP i103), aGF (kP i105), aGF (kP i107), aGF (kP i109), q1, aVC, tlS, tlN, aLt, hwD]
    rw [vC_mend_75, if_neg (by decide)]
    simp only [aGF kC, rC_0, rC_1, rC_2, rC_3, rC_4, rC_5, rC_6, rC_7, rC_8, rC_9, rC_10, rC_11, rC_12, aGF kA, rA_0, aGF (kT tT_3), aGF (kK tK_75), aGF (kF tF_76), q75_0, q75_1, q75_2, q75_3, q75_4, q75_6, q75_7, q75_8, q75_9, q75_10, q75_11, q75_12, q75_13, q75_14, q75_15, q75_16, aGF (kP i67), aGF (kP i69), aGF (kP i71), aGF (kP i73), aGF (kP i363), aGF (kP i81), aGF (kP i83), aGF (kP i85), aGF (kP i87), aGF (kP i89), aGF (kP i91), aGF (kP i93), aGF (kP i95), aGF (kP i97), aGF (kP i99), aGF (kP i101), aGF (kP i103), aGF (kP i105), aGF (kP i107), aGF (kP i109)]
    rw [h2, hh]
    simp only [aGF kS, q2, aVC, tlS, tlN, aLt, hwD]
    rw [vC_mend_101, aGF kS, q3', aVC, tlS, vC_mend_107]
  have e2 : oMend A (x : Int) = (if mnC A x = -1 then (-2, aTape A 0 (At A)) else ((sz (lyc (aF A).1 (mnC A x).toNat) : Int) - 1, aRes (aTape A 0 (At A)) (rset (Ar A) 0 (lyc (aF A).1 (mnC A x).toNat)))) := if_pos ⟨h1, h2, h3⟩
  rw [st, e2]
  have hrng : mnC A x = -1 ∨ ∃ c : Nat, c < 4096 ∧ mnC A x = (c : Int) := onl_rng _ _ _ _ _ 0 (-1) (by omega) (Or.inl rfl)
  rcases hrng with hn | ⟨c, hc, hn⟩
  · rw [if_pos hn, if_pos hn, vC_mend_115]
    exact ⟨ω1, D2, rfl, CS_same h0 (fun c hc => fr c (by unfold kept at hc; omega) (by unfold kept at hc; omega) (by unfold kept at hc; omega) (by unfold kept at hc; omega)), w1, fun q hq => by rw [fr q (by omega) (by omega) (by omega) (by omega), f0 q hq]⟩
  · rw [if_neg (by omega), if_neg (by omega), hn, Int.toNat_natCast]
    have m1 := F_m1 hF.1
    have m8 := F_m8 hF.1
    have oL := lyc_OK (m := (aF A).1) (code := c) m1
    have q4 := putPolynomial_spec (ω := ω1) (D := D2) (d := d + 2) (o := 67) (by rw [f2 302 (by decide)]; exact S1.1) m1 m8 hc i67 (by decide)
    have q5 := topF (ω := ω1) (D := pD D2 (67 + 1) (rI (lyc (aF A).1 c))) (d := d + 3) i67 pD_PR
    refine ⟨ω1, pD D2 (67 + 1) (rI (lyc (aF A).1 c)), ?_, CS_keep h0 (fun c hc => by rw [pD_ne (by unfold kept at hc; omega), fr c (by unfold kept at hc; omega) (by unfold kept at hc; omega) (by unfold kept at hc; omega) (by unfold kept at hc; omega)]) (rset_ok (by decide) (pOK_8 hF.1 ⟨oL.1, dle_mono oL.2 (by omega)⟩) pD_PR (fun q hq hne => ⟨(h0.2.2.2.2.2.1 q hq).1, PR_ne (by rw [pD_ne (by omega), fr _ (by omega) (by omega) (by omega) (by omega)]) (h0.2.2.2.2.2.1 q hq).2⟩)), w1, fun q hq => by rw [pD_ne (by omega), fr q (by omega) (by omega) (by omega) (by omega), f0 q hq]⟩
    simp only [vC_mend_118, aGF kC, rC_0, rC_1, rC_2, rC_3, rC_4, rC_5, rC_6, rC_7, rC_8, rC_9, rC_10, rC_11, rC_12, aGF kA, rA_0, aGF (kT tT_3), aGF (kK tK_75), aGF (kF tF_76), q75_0, q75_1, q75_2, q75_3, q75_4, q75_6, q75_7, q75_8, q75_9, q75_10, q75_11, q75_12, q75_13, q75_14, q75_15, q75_16, aGF (kP i67), aGF (kP i69), aGF (kP i71), aGF (kP i73), aGF (kP i363), aGF (kP i81), aGF (kP i83), aGF (kP i85), aGF (kP i87), aGF (kP i89), aGF (kP i91), aGF (kP i93), aGF (kP i95), aGF (kP i97), aGF (kP i99), aGF (kP i101), aGF (kP i103), aGF (kP i105), aGF (kP i107), aGF (kP i109), aR0, aGF kS, q4, aVC, tlS, tlN, aLt, hwD]
    simp only [vC_mend_133, aGF kC, rC_0, rC_1, rC_2, rC_3, rC_4, rC_5, rC_6, rC_7, rC_8, rC_9, rC_10, rC_11, rC_12, aGF kA, rA_0, aGF (kT tT_3), aGF (kK tK_75), aGF (kF tF_76), q75_0, q75_1, q75_2, q75_3, q75_4, q75_6, q75_7, q75_8, q75_9, q75_10, q75_11, q75_12, q75_13, q75_14, q75_15, q75_16, aGF (kP i67), aGF (kP i69), aGF (kP i71), aGF (kP i73), aGF (kP i363), aGF (kP i81), aGF (kP i83), aGF (kP i85), aGF (kP i87), aGF (kP i89), aGF (kP i91), aGF (kP i93), aGF (kP i95), aGF (kP i97), aGF (kP i99), aGF (kP i101), aGF (kP i103), aGF (kP i105), aGF (kP i107), aGF (kP i109), aR0, q5, aVC, tlS, tlN, aLt, hwD]
    rw [vC_mend_142]
end MEND
