/-! FACTORINGS in the class, the public methods -/
def fcM (Φ : gF) (F : pl) : pl := pSc Φ 0 (mnum Φ 0 F) F
theorem fcM_eq {Φ : gF} {F : pl} (hF : pOK Φ F) (v : Nat) : pSc Φ 0 v F = pM Φ v F := by
  have h1 : pSc Φ 0 v F = pB Φ 0 (mono v 0) F := pJ_B (dle_mono (mono_dle v 0) (by decide)) hF.2
  rw [h1]
  unfold pB
  rw [if_neg (by decide), pP_ge (mono_dle v 0) 17 (by decide), pP_mono]
  rfl
theorem pM_sz {Φ : gF} (h : FOK Φ) {F : pl} (oF : pOK Φ F) {v : Nat} (hv : v < 2 ^ Φ.1) (h0 : v ≠ 0) : sz (pM Φ v F) = sz F := by
  by_cases hz : sz F = 0
  · rw [sz_z oF.2 hz, pM_p0]
  · obtain ⟨n, hn⟩ : ∃ n, sz F = n + 1 := ⟨sz F - 1, by omega⟩
    have h17 := sz_le F
    rw [hn]
    exact sz_of (by omega) (fm_nz h hv (oF.1 n) h0 (sz_top hn)) (pM_dle (by rw [← hn]; exact sz_dle oF.2))
theorem mnum0 {Φ : gF} {F : pl} {n : Nat} (hn : sz F = n + 1) : mnum Φ 0 F = fi Φ (F n) := by
  unfold mnum
  rw [if_neg (by decide), hn, if_neg (by omega), Nat.add_sub_cancel]
theorem fi_nz {Φ : gF} (h : FOK Φ) {a : Nat} (ha : a < 2 ^ Φ.1) (h0 : a ≠ 0) : fi Φ a ≠ 0 := by
  unfold fi; rw [if_neg h0]; exact gi_nz h.1 ha h0
theorem fcM_sz {Φ : gF} (h : FOK Φ) {F : pl} (oF : pOK Φ F) : sz (fcM Φ F) = sz F := by
  unfold fcM
  rw [fcM_eq oF]
  by_cases hz : sz F = 0
  · rw [sz_z oF.2 hz, pM_p0]
  · obtain ⟨n, hn⟩ : ∃ n, sz F = n + 1 := ⟨sz F - 1, by omega⟩
    rw [mnum0 hn]
    exact pM_sz h oF (fi_lt h (oF.1 n)) (fi_nz h (oF.1 n) (sz_top hn))
def fcOK (A : aA) (i : Int) : Prop := aN A i ∧ sz (an A i) ≠ 0 ∧ sz (an A i) ≤ 7 ∧ (sz (an A i) : Int) - 2 ≤ 12 ∧ ((sz (an A i) : Int) - 2) * ((aF A).1 : Int) ≤ 12
def fcS (A : aA) (w : Int) (ch : Nat → Int) (i : Int) : xS := srch (aF A) w 7 0 (fcM (aF A) (an A i)) (0, 0, ch)
noncomputable def oFactorings (A : aA) (ch : Nat → Int) (i : Int) : Int := by classical exact if fcOK A i then (fcS A (-1) ch i).1 else -2
noncomputable def oFactor (A : aA) (ch : Nat → Int) (i k p : Int) : Int := by classical exact if fcOK A i then (if k < 0 then -1 else if ((xdn k (fcS A k ch i) = true ∧ 0 ≤ p) ∧ 0 ≤ w32 (w32 (((fcS A k ch i).2.1 : Int) - 1) - p)) ∧ w32 (w32 (((fcS A k ch i).2.1 : Int) - 1) - p) ≤ 6 then (fcS A k ch i).2.2 (w32 (w32 (((fcS A k ch i).2.1 : Int) - 1) - p)).toNat else -1) else -2
section FAC
variable {ω : jw} {D : jD} {d : Nat} {A : aA}
theorem isFactored_spec (h : CS D A) {i : Int} : Vl (d + 2) 120 0 [some (.inr (.inr (some 0))), some (.inr (.inr (if aN A i then some (5 + 2 * i.toNat) else none)))] [] (hp ω D) = some ((0, some (.inl (by classical exact if fcOK A i then 1 else 0))), hp ω D) := by
  have hF : FT (aF A) D 76 := h.2.2.2.1
  rw [vC_isFactored_0]
  unfold fcOK
  by_cases h1 : aN A i
  rotate_left
  · rw [if_neg h1, if_neg (fun q => h1 q.1)]
    show Vl (d + 2) 120 11 _ [] _ = _
    rw [vC_isFactored_11]; rfl
  rw [if_pos h1]
  show Vl (d + 2) 120 4 _ [] _ = _
  obtain ⟨p1, p2, p3, hi⟩ := CS_nm h h1
  have h17 := sz_le (an A i)
  rw [vC_isFactored_4, aGF (kP p1), isZeroF p1 p2, aVC, tlS, vC_isFactored_8]
  by_cases h2 : sz (an A i) = 0
  · rw [if_pos h2, if_neg (by decide), vC_isFactored_11, if_neg (fun q => q.2.1 h2)]; rfl
  rw [if_neg h2, if_pos rfl, vC_isFactored_13, aGF (kP p1), topF p1 p2, aVC, tlS, vC_isFactored_17]
  by_cases h3 : 6 < (sz (an A i) : Int) - 1
  · rw [if_pos h3, vC_isFactored_45, vC_isFactored_46, if_neg (fun q => absurd q.2.2.1 (by omega))]; rfl
  rw [if_neg h3]
  have q1 := isFew_spec (ω := ω) (d := d + 1) tF_76 hF (x := (sz (an A i) : Int) - 2) (by omega)
  simp only [vC_isFactored_22, aGF kC, rC_0, rC_1, rC_2, rC_3, rC_4, rC_5, rC_6, rC_7, rC_8, rC_9, rC_10, rC_11, rC_12, aGF kA, rA_0, aGF (kT tT_3), aGF (kK tK_75), aGF (kF tF_76), q75_0, q75_1, q75_2, q75_3, q75_4, q75_6, q75_7, q75_8, q75_9, q75_10, q75_11, q75_12, q75_13, q75_14, q75_15, q75_16, aGF (kP i67), aGF (kP i69), aGF (kP i71), aGF (kP i73), aGF (kP i363), aGF (kP i81), aGF (kP i83), aGF (kP i85), aGF (kP i87), aGF (kP i89), aGF (kP i91), aGF (kP i93), aGF (kP i95), aGF (kP i97), aGF (kP i99), aGF (kP i101), aGF (kP i103), aGF (kP i105), aGF (kP i107), aGF (kP i109), aGF (kP p1), topF p1 p2, aVC, tlS, tlN, aLt, hwD, vC_isFactored_33, show w32 ((sz (an A i) : Int) - 1 - 1) = (sz (an A i) : Int) - 2 by unfold w32; omega, q1]
  rw [vC_isFactored_38]
  by_cases h4 : (sz (an A i) : Int) - 2 ≤ 12 ∧ ((sz (an A i) : Int) - 2) * ((aF A).1 : Int) ≤ 12
  · rw [if_pos h4, if_neg (by decide), vC_isFactored_41, vC_isFactored_46, if_pos ⟨h1, h2, by omega, h4⟩]; rfl
  · rw [if_neg h4, if_pos rfl, vC_isFactored_45, vC_isFactored_46, if_neg (fun q => h4 q.2.2.2)]; rfl
/-- a search from the start -/
theorem search_all (h : CS D A) {i : Int} (hf : fcOK A i) (w : Int) : ∃ D1 D2, Vl (d + 19) 122 0 [some (.inr (.inr (some 279))), some (.inr (.inr (some 75))), some (.inr (.inr (some (5 + 2 * i.toNat)))), some (.inl w)] [] (hp ω D) = some ((0, none), hp ω D1) ∧ Vl (d + 19) 124 0 [some (.inr (.inr (some 279))), some (.inr (.inr (some 75))), some (.inl 0), none, none, none, none, none, none] [] (hp ω D1) = some ((0, none), hp ω D2) ∧ XS D2 w (fcS A w (D 301) i) ∧ CS D2 A ∧ ∀ q, 488 ≤ q → D2 q = D q := by
  have hF : FT (aF A) D 76 := h.2.2.2.1
  obtain ⟨f1, f2, f3, f4, f5⟩ := hf
  obtain ⟨p1, p2, p3, hi⟩ := CS_nm h f1
  obtain ⟨D0, hD0⟩ : ∃ D0, D0 = sD (sD (sD D 279 5 w) 279 6 0) 279 7 0 := ⟨_, rfl⟩
  have e0 : ∀ c, c ≠ 279 → D0 c = D c := fun c hc => by rw [hD0, sD_ne hc, sD_ne hc, sD_ne hc]
  have p0' := prPar (show 0 < 7 by decide)
  have i287 : isP 287 := p0'
  have q1 := copyF (ω := ω) (D := D0) (d := d + 18) i287 p1 (PR_ne (e0 _ (by omega)) p2)
  have F1 : FT (aF A) (pD D0 (287 + 1) (rI (an A i))) 76 := FT_congr (fun c _ _ => by rw [pD_ne (by omega), e0 c (by omega)]) hF
  obtain ⟨D1, q2, R1, g1⟩ := makeMonic_spec (ω := ω) (d := d + 15) tK_75 F1 i287 (by decide) (by decide) (by decide) pD_PR p3
  have e1 : ∀ c, c ≠ 279 → c ≠ 288 → c ≠ 92 → c ≠ 94 → c ≠ 96 → D1 c = D c := fun c h1 h2 h3 h4 h5 => by rw [g1 c (by omega) (by omega) (by omega) (by omega), pD_ne (by omega), e0 c h1]
  have e279 : D1 279 = D0 279 := by rw [g1 279 (by decide) (by decide) (by decide) (by decide), pD_ne (by decide)]
  have X1 : XS D1 w (0, 0, D 301) := by
    refine ⟨by rw [e279, hD0, sD_nb (by decide), sD_nb (by decide), sD_eq], by rw [e279, hD0, sD_nb (by decide), sD_eq], by rw [e279, hD0, sD_eq]; rfl, fun q _ => by rw [e1 301 (by decide) (by decide) (by decide) (by decide) (by decide)]⟩
  have oM : pOK (aF A) (fcM (aF A) (an A i)) := pSc_OK hF.1 (mnum_lt hF.1 p3.1) p3
  have sM := fcM_sz hF.1 p3
  have h8 := F_m8 hF.1
  have hm : (aF A).1 * (sz (fcM (aF A) (an A i)) - 2) ≤ 12 := by
    rw [sM]
    by_cases h2 : 2 ≤ sz (an A i)
    · rw [show ((sz (an A i) : Int) - 2) = ((sz (an A i) - 2 : Nat) : Int) by omega, ← Int.natCast_mul, Nat.mul_comm] at f5
      omega
    · rw [show sz (an A i) - 2 = 0 by omega, Nat.mul_zero]; decide
  have so := search_ok (Φ := aF A) (w := w) 7 (d + 3)
  rw [show d + 3 + 2 * 7 + 2 = d + 19 by omega] at so
  obtain ⟨D2, q3, X2, g2⟩ := so ω 0 (fcM (aF A) (an A i)) (0, 0, D 301) D1 (FT_congr (fun c _ _ => e1 c (by omega) (by omega) (by omega) (by omega) (by omega)) hF) X1 R1 oM (by omega) (by omega) hm (by omega)
  rw [show ((0 : Nat) : Int) = 0 from rfl] at q3
  have e2 : ∀ c, (c < 81 ∨ 302 ≤ c) → D2 c = D c := fun c hc => by rw [g2 c (by unfold xfr; omega), e1 c (by omega) (by omega) (by omega) (by omega) (by omega)]
  refine ⟨D1, D2, ?_, q3, X2, CS_same h (fun c hc => e2 c (by unfold kept at hc; omega)), fun q hq => e2 q (by omega)⟩
  have a0 : ∀ (Dx : jD) (k : Option Nat → Option jr), vAA (hp ω Dx) (some 286) 0 k = k (some 287) := fun Dx k => by
    rw [aAA kX_3, if_pos (by decide)]; exact congrArg k q286_0
  simp only [vX_begin_0, aGF kX, aVC, tlS, tlN, aLt, hwD, rX_3, a0, aGF (kP i287)]
  rw [← hD0, q1, aVC, tlN]
  simp only [vX_begin_25, aGF kX, rX_3, a0, aGF (kK tK_75), q2, aVC, tlS, tlN, aLt, hwD, vX_begin_35]
theorem factorings_op (h : CS D A) (i : Int) : ∃ D', Vl (d + 21) 119 0 [some (.inr (.inr (some 0))), some (.inl i), none] [] (hp ω D) = some ((0, some (.inl (oFactorings A (D 301) i))), hp ω D') ∧ CS D' A ∧ ∀ q, 488 ≤ q → D' q = D q := by
  unfold oFactorings
  have q0 := isFactored_spec (ω := ω) (d := d + 18) h (i := i)
  simp only [vC_factorings_0, aGF kC, rC_0, rC_1, rC_2, rC_3, rC_4, rC_5, rC_6, rC_7, rC_8, rC_9, rC_10, rC_11, rC_12, aGF kA, rA_0, aGF (kT tT_3), aGF (kK tK_75), aGF (kF tF_76), q75_0, q75_1, q75_2, q75_3, q75_4, q75_6, q75_7, q75_8, q75_9, q75_10, q75_11, q75_12, q75_13, q75_14, q75_15, q75_16, aGF (kP i67), aGF (kP i69), aGF (kP i71), aGF (kP i73), aGF (kP i363), aGF (kP i81), aGF (kP i83), aGF (kP i85), aGF (kP i87), aGF (kP i89), aGF (kP i91), aGF (kP i93), aGF (kP i95), aGF (kP i97), aGF (kP i99), aGF (kP i101), aGF (kP i103), aGF (kP i105), aGF (kP i107), aGF (kP i109), named3 h, aVC, tlS, tlN, aLt, hwD, vC_factorings_8]
  rw [q0, aVC, tlS, vC_factorings_14]
  by_cases hf : fcOK A i
  rotate_left
  · rw [if_neg hf, if_pos rfl, vC_factorings_32, vC_factorings_34, if_neg hf]
    exact ⟨D, rfl, h, fun _ _ => rfl⟩
  rw [if_pos hf, if_neg (by decide), if_pos hf, if_pos hf.1]
  obtain ⟨D1, D2, q1, q2, X2, c2, f2⟩ := search_all (ω := ω) (d := d) h hf (-1)
  refine ⟨D2, ?_, c2, f2⟩
  simp only [vC_factorings_17, aGF kC, rC_0, rC_1, rC_2, rC_3, rC_4, rC_5, rC_6, rC_7, rC_8, rC_9, rC_10, rC_11, rC_12, aGF kA, rA_0, aGF (kT tT_3), aGF (kK tK_75), aGF (kF tF_76), q75_0, q75_1, q75_2, q75_3, q75_4, q75_6, q75_7, q75_8, q75_9, q75_10, q75_11, q75_12, q75_13, q75_14, q75_15, q75_16, aGF (kP i67), aGF (kP i69), aGF (kP i71), aGF (kP i73), aGF (kP i363), aGF (kP i81), aGF (kP i83), aGF (kP i85), aGF (kP i87), aGF (kP i89), aGF (kP i91), aGF (kP i93), aGF (kP i95), aGF (kP i97), aGF (kP i99), aGF (kP i101), aGF (kP i103), aGF (kP i105), aGF (kP i107), aGF (kP i109), aGF kX, vX_countFactorings_0, q1, aVC, tlS, tlN, aLt, hwD, vX_countFactorings_7, q2, vX_countFactorings_13, vC_factorings_29, vC_factorings_34]
  rw [hD, X2.2.1]
theorem factor_op (h : CS D A) (i k p : Int) : ∃ D', Vl (d + 21) 129 0 [some (.inr (.inr (some 0))), some (.inl i), some (.inl k), some (.inl p), none] [] (hp ω D) = some ((0, some (.inl (oFactor A (D 301) i k p))), hp ω D') ∧ CS D' A ∧ ∀ q, 488 ≤ q → D' q = D q := by
  unfold oFactor
  have q0 := isFactored_spec (ω := ω) (d := d + 18) h (i := i)
  simp only [vC_factor_0, aGF kC, rC_0, rC_1, rC_2, rC_3, rC_4, rC_5, rC_6, rC_7, rC_8, rC_9, rC_10, rC_11, rC_12, aGF kA, rA_0, aGF (kT tT_3), aGF (kK tK_75), aGF (kF tF_76), q75_0, q75_1, q75_2, q75_3, q75_4, q75_6, q75_7, q75_8, q75_9, q75_10, q75_11, q75_12, q75_13, q75_14, q75_15, q75_16, aGF (kP i67), aGF (kP i69), aGF (kP i71), aGF (kP i73), aGF (kP i363), aGF (kP i81), aGF (kP i83), aGF (kP i85), aGF (kP i87), aGF (kP i89), aGF (kP i91), aGF (kP i93), aGF (kP i95), aGF (kP i97), aGF (kP i99), aGF (kP i101), aGF (kP i103), aGF (kP i105), aGF (kP i107), aGF (kP i109), named3 h, aVC, tlS, tlN, aLt, hwD, vC_factor_8]
  rw [q0, aVC, tlS, vC_factor_16]
  by_cases hf : fcOK A i
  rotate_left
  · rw [if_neg hf, if_pos rfl, vC_factor_37, vC_factor_39, if_neg hf]
    exact ⟨D, rfl, h, fun _ _ => rfl⟩
  rw [if_pos hf, if_neg (by decide), if_pos hf, if_pos hf.1]
  simp only [vC_factor_19, aGF kC, rC_0, rC_1, rC_2, rC_3, rC_4, rC_5, rC_6, rC_7, rC_8, rC_9, rC_10, rC_11, rC_12, aGF kA, rA_0, aGF (kT tT_3), aGF (kK tK_75), aGF (kF tF_76), q75_0, q75_1, q75_2, q75_3, q75_4, q75_6, q75_7, q75_8, q75_9, q75_10, q75_11, q75_12, q75_13, q75_14, q75_15, q75_16, aGF (kP i67), aGF (kP i69), aGF (kP i71), aGF (kP i73), aGF (kP i363), aGF (kP i81), aGF (kP i83), aGF (kP i85), aGF (kP i87), aGF (kP i89), aGF (kP i91), aGF (kP i93), aGF (kP i95), aGF (kP i97), aGF (kP i99), aGF (kP i101), aGF (kP i103), aGF (kP i105), aGF (kP i107), aGF (kP i109), aGF kX]
  by_cases hk : k < 0
  · rw [vX_factorOf_0, if_pos hk, vX_factorOf_4, if_pos hk]
    refine ⟨D, ?_, h, fun _ _ => rfl⟩
    simp only [aVC, tlS, tlN, aLt, hwD, vC_factor_34, vC_factor_39]
  rw [if_neg hk, vX_factorOf_0, if_neg hk]
  obtain ⟨D1, D2, q1, q2, X2, c2, f2⟩ := search_all (ω := ω) (d := d) h hf k
  have q3 := isDone_spec (ω := ω) (d := d + 19) X2
  simp only [vX_factorOf_6, aGF kX, q1, aVC, tlS, tlN, aLt, hwD, vX_factorOf_13, q2, vX_factorOf_19, q3]
  rw [hD, X2.2.2.1, vX_factorOf_34]
  have no : ∀ (x5 : Int), (Vl (d + 20) 130 54 [some (.inr (.inr (some 279))), some (.inr (.inr (some 75))), some (.inr (.inr (some (5 + 2 * i.toNat)))), some (.inl k), some (.inl p), some (.inl x5)] [] (hp ω D2)) = some ((0, some (.inl (-1))), hp ω D2) := fun x5 => vX_factorOf_54 ..
  by_cases h1 : xdn k (fcS A k (D 301) i) = true
  rotate_left
  · rw [if_neg h1, if_pos rfl, no, if_neg (fun q => h1 q.1.1.1)]
    refine ⟨D2, ?_, c2, f2⟩
    simp only [aVC, tlS, tlN, aLt, hwD, vC_factor_34, vC_factor_39]
  rw [if_pos h1, if_neg (by decide), vX_factorOf_37]
  by_cases h2 : p < 0
  · rw [if_pos h2, no, if_neg (fun q => absurd q.1.1.2 (by omega))]
    refine ⟨D2, ?_, c2, f2⟩
    simp only [aVC, tlS, tlN, aLt, hwD, vC_factor_34, vC_factor_39]
  rw [if_neg h2, vX_factorOf_42]
  by_cases h3 : w32 (w32 (((fcS A k (D 301) i).2.1 : Int) - 1) - p) < 0
  · rw [if_pos h3, no, if_neg (fun q => absurd q.1.2 (by omega))]
    refine ⟨D2, ?_, c2, f2⟩
    simp only [aVC, tlS, tlN, aLt, hwD, vC_factor_34, vC_factor_39]
  rw [if_neg h3, vX_factorOf_47]
  by_cases h4 : 6 < w32 (w32 (((fcS A k (D 301) i).2.1 : Int) - 1) - p)
  · rw [if_pos h4, no, if_neg (fun q => absurd q.2 (by omega))]
    refine ⟨D2, ?_, c2, f2⟩
    simp only [aVC, tlS, tlN, aLt, hwD, vC_factor_34, vC_factor_39]
  rw [if_neg h4, if_pos ⟨⟨⟨h1, by omega⟩, by omega⟩, by omega⟩, vX_factorOf_56, aGF kX, rX_4, aIA kX_4, if_pos (by omega), X2.2.2.2 _ (by omega)]
  refine ⟨D2, ?_, c2, f2⟩
  simp only [aVC, tlS, tlN, aLt, hwD, vC_factor_34, vC_factor_39]
end FAC
