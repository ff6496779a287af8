/-! COMMON PART AND MULTIPLE in the class, the end; powers -/
theorem cmul_OK {Φ : gF} (h : FOK Φ) {side : Nat} {F G : pl} (oF : pOK Φ F) {S : eS} (hS : eOK Φ (sz F) (sz G) S) : pOK Φ (cmul Φ side F G S) ∧ (¬ (sz F = 0 ∨ sz G = 0) → sz F + sz G ≤ sz S.1 + 17 → sz S.2.2.2.1 = 0 ∨ sz F = 0 ∨ sz S.2.2.2.1 + sz F ≤ 18) := by
  obtain ⟨oP, oN, oa, oa', oc, oc', i1, i2⟩ := hS
  have hi := i1.1
  have key : ¬ (sz F = 0 ∨ sz G = 0) → sz F + sz G ≤ sz S.1 + 17 → sz S.2.2.2.1 = 0 ∨ sz F = 0 ∨ sz S.2.2.2.1 + sz F ≤ 18 := fun h1 h2 => by omega
  refine ⟨?_, key⟩
  unfold cmul
  split
  · exact p0_OK Φ
  · rename_i h1
    split
    · rename_i h2
      refine ⟨pJ_in h oa'.1 oF.1, pJ_dle oa'.2 oF.2 17 ?_⟩
      have := sz_le F
      have := sz_le S.2.2.2.1
      rcases key h1 h2 with q | q | q <;> omega
    · exact p0_OK Φ
section CMQ
variable {ω : jw} {D : jD} {b d : Nat} {Φ : gF}
theorem monicNumber_spec (hb : isK b) (hF : FT Φ D (b + 1)) {o : Nat} (ho : isP o) {M : pl} (RM : PR D (o + 1) M) (oM : pOK Φ M) {side : Nat} (hs : side < 2) : Vl (d + 1) 77 0 [some (.inr (.inr (some b))), some (.inl (side : Int)), some (.inr (.inr (some o))), none, none] [] (hp ω D) = some ((0, some (.inl (mnum Φ side M : Int))), hp ω D) := by
  have h17 := sz_le M
  have g1 : Vl d 60 0 [some (.inr (.inr (some o))), some (.inl ((sz M : Int) - 1))] [] (hp ω D) = some ((0, some (.inl ((if sz M = 0 then 0 else M (sz M - 1) : Nat) : Int))), hp ω D) := by
    by_cases hz : sz M = 0
    · rw [get_neg ho (by omega), if_pos hz]; rfl
    · rw [if_neg hz, show (sz M : Int) - 1 = ((sz M - 1 : Nat) : Int) by omega, getF ho RM oM.2 (by omega)]
  have hv : (if sz M = 0 then 0 else M (sz M - 1)) < 2 ^ Φ.1 := by
    split
    · exact F_pos Φ
    · exact oM.1 _
  simp only [vK_monicNumber_0, aGF (kK hb), rK_0 hb, aGF (kF (fK hb)), rK_1 hb, rK_2 hb, rK_3 hb, rK_4 hb, rK_6 hb, rK_7 hb, rK_8 hb, rK_9 hb, rK_10 hb, rK_11 hb, rK_12 hb, rK_13 hb, rK_14 hb, rK_15 hb, rK_16 hb, aGF (kP (pK_6 hb)), aGF (kP (pK_8 hb)), aGF (kP (pK_10 hb)), aGF (kP (pK_12 hb)), aGF (kP (pK_14 hb)), aGF (kP (pK_16 hb)), aGF (kP (pK_18 hb)), aGF (kP (pK_20 hb)), aGF (kP (pK_22 hb)), aGF (kP (pK_24 hb)), aGF (kP (pK_26 hb)), aGF (kP (pK_28 hb)), aGF (kP (pK_30 hb)), aGF (kP (pK_32 hb)), aGF (kP (pK_34 hb)), rP (pK_6 hb), rP (pK_8 hb), rP (pK_10 hb), rP (pK_12 hb), rP (pK_14 hb), rP (pK_16 hb), rP (pK_18 hb), rP (pK_20 hb), rP (pK_22 hb), rP (pK_24 hb), rP (pK_26 hb), rP (pK_28 hb), rP (pK_30 hb), rP (pK_32 hb), rP (pK_34 hb), aGF (kP ho), rP ho, topF ho RM, aVC, tlS, tlN, aLt, hwD, vK_monicNumber_4, g1, vK_monicNumber_14, inverse_spec (fK hb) hF hv]
  rw [vK_monicNumber_17]
  unfold mnum
  by_cases h1 : side = 1
  · subst h1
    rw [if_neg (by decide), if_pos rfl]
    have e : (if (sz M : Int) - 1 < 0 then (0 : Int) else (sz M : Int) - 1) = ((sz M - 1 : Nat) : Int) := by split <;> omega
    simp only [vK_monicNumber_28, aGF (kK hb), rK_0 hb, aGF (kF (fK hb)), rK_1 hb, rK_2 hb, rK_3 hb, rK_4 hb, rK_6 hb, rK_7 hb, rK_8 hb, rK_9 hb, rK_10 hb, rK_11 hb, rK_12 hb, rK_13 hb, rK_14 hb, rK_15 hb, rK_16 hb, aGF (kP (pK_6 hb)), aGF (kP (pK_8 hb)), aGF (kP (pK_10 hb)), aGF (kP (pK_12 hb)), aGF (kP (pK_14 hb)), aGF (kP (pK_16 hb)), aGF (kP (pK_18 hb)), aGF (kP (pK_20 hb)), aGF (kP (pK_22 hb)), aGF (kP (pK_24 hb)), aGF (kP (pK_26 hb)), aGF (kP (pK_28 hb)), aGF (kP (pK_30 hb)), aGF (kP (pK_32 hb)), aGF (kP (pK_34 hb)), rP (pK_6 hb), rP (pK_8 hb), rP (pK_10 hb), rP (pK_12 hb), rP (pK_14 hb), rP (pK_16 hb), rP (pK_18 hb), rP (pK_20 hb), rP (pK_22 hb), rP (pK_24 hb), rP (pK_26 hb), rP (pK_28 hb), rP (pK_30 hb), rP (pK_32 hb), rP (pK_34 hb), e, turnBack_spec (fK hb) hF (fi_lt hF.1 hv) (show sz M - 1 < 18 by omega), aVC, tlS, tlN, aLt, hwD, vK_monicNumber_42]
  · rw [if_pos (by omega), if_neg h1, vK_monicNumber_23, vK_monicNumber_42]
theorem scale_spec (hb : isK b) (hF : FT Φ D (b + 1)) {o : Nat} (ho : isP o) (h1 : o ≠ b + 16) (h2 : o ≠ b + 18) (h3 : o ≠ b + 20) {M : pl} (RM : PR D (o + 1) M) (oM : pOK Φ M) {side v : Nat} (hs : side < 2) (hv : v < 2 ^ Φ.1) : ∃ D', Vl (d + 2) 78 0 [some (.inr (.inr (some b))), some (.inl (side : Int)), some (.inl (v : Int)), some (.inr (.inr (some o)))] [] (hp ω D) = some ((0, none), hp ω D') ∧ PR D' (o + 1) (pSc Φ side v M) ∧ ∀ c, c ≠ b + 17 → c ≠ b + 19 → c ≠ b + 21 → c ≠ o + 1 → D' c = D c := by
  have q1 := constantF (ω := ω) (D := D) (d := d) (v := v) (pK_20 hb)
  have F1 : FT Φ (pD D (b + 20 + 1) (rI (mono v 0))) (b + 1) := FT_fr hF (fun c h1 h2 => pD_ne (by omega))
  have M1 : PR (pD D (b + 20 + 1) (rI (mono v 0))) (o + 1) M := PR_ne (pD_ne (by omega)) RM
  have s1 := sz_mono v 0
  have s2 := sz_le M
  have oV := mono_OK (Φ := Φ) hv (show 0 < 17 by decide)
  obtain ⟨D2, q2, R2, f2⟩ := join_spec (ω := ω) (d := d) hb F1 (pK_20 hb) ho ho (by omega) (by omega) h1 h2 pD_PR M1 oV.1 oM.1 oV.2 oM.2 (by omega) hs
  refine ⟨D2, ?_, R2, fun c h4 h5 h6 h7 => ?_⟩
  · simp only [vK_scale_0, aGF (kK hb), rK_0 hb, aGF (kF (fK hb)), rK_1 hb, rK_2 hb, rK_3 hb, rK_4 hb, rK_6 hb, rK_7 hb, rK_8 hb, rK_9 hb, rK_10 hb, rK_11 hb, rK_12 hb, rK_13 hb, rK_14 hb, rK_15 hb, rK_16 hb, aGF (kP (pK_6 hb)), aGF (kP (pK_8 hb)), aGF (kP (pK_10 hb)), aGF (kP (pK_12 hb)), aGF (kP (pK_14 hb)), aGF (kP (pK_16 hb)), aGF (kP (pK_18 hb)), aGF (kP (pK_20 hb)), aGF (kP (pK_22 hb)), aGF (kP (pK_24 hb)), aGF (kP (pK_26 hb)), aGF (kP (pK_28 hb)), aGF (kP (pK_30 hb)), aGF (kP (pK_32 hb)), aGF (kP (pK_34 hb)), rP (pK_6 hb), rP (pK_8 hb), rP (pK_10 hb), rP (pK_12 hb), rP (pK_14 hb), rP (pK_16 hb), rP (pK_18 hb), rP (pK_20 hb), rP (pK_22 hb), rP (pK_24 hb), rP (pK_26 hb), rP (pK_28 hb), rP (pK_30 hb), rP (pK_32 hb), rP (pK_34 hb), q1, aVC, tlS, tlN, aLt, hwD, vK_scale_8, q2, vK_scale_19]
  · rw [f2 c h4 h5 h7, pD_ne (by omega)]
theorem makeMonic_spec (hb : isK b) (hF : FT Φ D (b + 1)) {o : Nat} (ho : isP o) (h1 : o ≠ b + 16) (h2 : o ≠ b + 18) (h3 : o ≠ b + 20) {M : pl} (RM : PR D (o + 1) M) (oM : pOK Φ M) : ∃ D', Vl (d + 3) 123 0 [some (.inr (.inr (some b))), some (.inr (.inr (some o)))] [] (hp ω D) = some ((0, none), hp ω D') ∧ PR D' (o + 1) (pSc Φ 0 (mnum Φ 0 M) M) ∧ ∀ c, c ≠ b + 17 → c ≠ b + 19 → c ≠ b + 21 → c ≠ o + 1 → D' c = D c := by
  have q1 := monicNumber_spec (ω := ω) (d := d + 1) hb hF ho RM oM (side := 0) (by decide)
  obtain ⟨D2, q2, R2, f2⟩ := scale_spec (ω := ω) (d := d) hb hF ho h1 h2 h3 RM oM (side := 0) (by decide) (mnum_lt hF.1 oM.1)
  refine ⟨D2, ?_, R2, f2⟩
  rw [show ((0 : Nat) : Int) = 0 from rfl] at q1 q2
  simp only [vK_makeMonic_0, aGF (kK hb), rK_0 hb, aGF (kF (fK hb)), rK_1 hb, rK_2 hb, rK_3 hb, rK_4 hb, rK_6 hb, rK_7 hb, rK_8 hb, rK_9 hb, rK_10 hb, rK_11 hb, rK_12 hb, rK_13 hb, rK_14 hb, rK_15 hb, rK_16 hb, aGF (kP (pK_6 hb)), aGF (kP (pK_8 hb)), aGF (kP (pK_10 hb)), aGF (kP (pK_12 hb)), aGF (kP (pK_14 hb)), aGF (kP (pK_16 hb)), aGF (kP (pK_18 hb)), aGF (kP (pK_20 hb)), aGF (kP (pK_22 hb)), aGF (kP (pK_24 hb)), aGF (kP (pK_26 hb)), aGF (kP (pK_28 hb)), aGF (kP (pK_30 hb)), aGF (kP (pK_32 hb)), aGF (kP (pK_34 hb)), rP (pK_6 hb), rP (pK_8 hb), rP (pK_10 hb), rP (pK_12 hb), rP (pK_14 hb), rP (pK_16 hb), rP (pK_18 hb), rP (pK_20 hb), rP (pK_22 hb), rP (pK_24 hb), rP (pK_26 hb), rP (pK_28 hb), rP (pK_30 hb), rP (pK_32 hb), rP (pK_34 hb), q1, aVC, tlS, tlN, aLt, hwD, vK_makeMonic_8, q2, vK_makeMonic_12]
theorem makeMultiple_spec (hb : isK b) (hF : FT Φ D (b + 1)) {f g : Nat} (hf : isP f) (hg : isP g) (hfb : f < b ∨ b + 36 ≤ f) (hgb : g < b ∨ b + 36 ≤ g) {F G : pl} (RF : PR D (f + 1) F) (RG : PR D (g + 1) G) (oF : pOK Φ F) (oG : pOK Φ G) {side : Nat} (hs : side < 2) {S : eS} (hS : eOK Φ (sz F) (sz G) S) (hE : ES D b S) :
    ∃ D', Vl (d + 2) 76 0 [some (.inr (.inr (some b))), some (.inl (side : Int)), some (.inr (.inr (some f))), some (.inr (.inr (some g)))] [] (hp ω D) = some ((0, none), hp ω D') ∧ PR D' (b + 13) (cmul Φ side F G S) ∧ D' b 5 = (if cfit F G S.1 = true then 1 else 0) ∧ (∀ c, c ≠ b → c ≠ b + 13 → c ≠ b + 17 → c ≠ b + 19 → D' c = D c) ∧ ∀ j, j ≠ 5 → D' b j = D b j := by
  have nf := pneK hf hb
  have ng := pneK hg hb
  have sF := sz_le F
  have sG := sz_le G
  have sP := sz_le S.1
  have q1 := clearF (ω := ω) (D := D) (d := d + 1) (pK_12 hb)
  obtain ⟨D1, hD1⟩ : ∃ D1, D1 = sD (pD D (b + 12 + 1) (rI p0)) b 5 1 := ⟨_, rfl⟩
  have f1 : ∀ c, c ≠ b → c ≠ b + 13 → D1 c = D c := fun c h1 h2 => by rw [hD1, sD_ne h1, pD_ne h2]
  have j1 : ∀ j, j ≠ 5 → D1 b j = D b j := fun j hj => by rw [hD1, sD_nb hj, pD_ne (by omega)]
  have b1 : D1 b 5 = 1 := by rw [hD1]; exact sD_eq
  have RF1 : PR D1 (f + 1) F := PR_ne (f1 _ (by omega) (by omega)) RF
  have RG1 : PR D1 (g + 1) G := PR_ne (f1 _ (by omega) (by omega)) RG
  have P1 : PR D1 (b + 6 + 1) S.1 := PR_ne (f1 _ (by omega) (by omega)) hE.1
  have M1 : PR D1 (b + 13) p0 := by
    rw [hD1]; intro c hc
    rw [sD_ne (by omega), pD_lt hc]; rfl
  have zF := isZeroF (ω := ω) (d := d) hf RF1
  have zG := isZeroF (ω := ω) (d := d) hg RG1
  have F1 : FT Φ D1 (b + 1) := FT_fr hF (fun c h1 h2 => f1 c (by omega) (by omega))
  have start : Vl (d + 2) 76 0 [some (.inr (.inr (some b))), some (.inl (side : Int)), some (.inr (.inr (some f))), some (.inr (.inr (some g)))] [] (hp ω D) = Vl (d + 2) 76 16 [some (.inr (.inr (some b))), some (.inl (side : Int)), some (.inr (.inr (some f))), some (.inr (.inr (some g)))] [.inl (if sz F = 0 then 1 else 0)] (hp ω D1) := by
    simp only [vK_makeMultiple_0, aGF (kK hb), rK_0 hb, aGF (kF (fK hb)), rK_1 hb, rK_2 hb, rK_3 hb, rK_4 hb, rK_6 hb, rK_7 hb, rK_8 hb, rK_9 hb, rK_10 hb, rK_11 hb, rK_12 hb, rK_13 hb, rK_14 hb, rK_15 hb, rK_16 hb, aGF (kP (pK_6 hb)), aGF (kP (pK_8 hb)), aGF (kP (pK_10 hb)), aGF (kP (pK_12 hb)), aGF (kP (pK_14 hb)), aGF (kP (pK_16 hb)), aGF (kP (pK_18 hb)), aGF (kP (pK_20 hb)), aGF (kP (pK_22 hb)), aGF (kP (pK_24 hb)), aGF (kP (pK_26 hb)), aGF (kP (pK_28 hb)), aGF (kP (pK_30 hb)), aGF (kP (pK_32 hb)), aGF (kP (pK_34 hb)), rP (pK_6 hb), rP (pK_8 hb), rP (pK_10 hb), rP (pK_12 hb), rP (pK_14 hb), rP (pK_16 hb), rP (pK_18 hb), rP (pK_20 hb), rP (pK_22 hb), rP (pK_24 hb), rP (pK_26 hb), rP (pK_28 hb), rP (pK_30 hb), rP (pK_32 hb), rP (pK_34 hb), q1, aVC, tlS, tlN, aLt, hwD, vK_makeMultiple_7, aZ1, aGF (kP hf), rP hf]
    rw [← hD1, zF]
    simp only [aVC, tlS, tlN, aLt, hwD]
  rw [start, vK_makeMultiple_16]
  unfold cmul cfit
  by_cases h1 : sz F = 0
  · rw [if_pos h1, if_neg (by decide), vK_makeMultiple_26]
    refine ⟨D1, rfl, ?_, ?_, fun c h1 h2 _ _ => f1 c h1 h2, j1⟩
    · rw [if_pos (Or.inl h1)]; exact M1
    · rw [b1, h1]; rfl
  rw [if_neg h1, if_pos rfl]
  simp only [vK_makeMultiple_19, aGF (kP hg), rP hg, zG, aVC, tlS, tlN, aLt, hwD]
  rw [vK_makeMultiple_23]
  by_cases h2 : sz G = 0
  · rw [if_pos h2, if_neg (by decide), vK_makeMultiple_26]
    refine ⟨D1, rfl, ?_, ?_, fun c h1 h2 _ _ => f1 c h1 h2, j1⟩
    · rw [if_pos (Or.inr h2)]; exact M1
    · rw [b1, h2, decide_eq_true (rfl : (0 : Nat) = 0), Bool.or_true, Bool.true_or]; rfl
  rw [if_neg h2, if_pos rfl]
  simp only [vK_makeMultiple_27, aGF (kP hf), rP hf, topF hf RF1, aVC, tlS, tlN, aLt, hwD, vK_makeMultiple_32, aGF (kP hg), rP hg, topF hg RG1, vK_makeMultiple_36, aGF (kK hb), rK_0 hb, aGF (kF (fK hb)), rK_1 hb, rK_2 hb, rK_3 hb, rK_4 hb, rK_6 hb, rK_7 hb, rK_8 hb, rK_9 hb, rK_10 hb, rK_11 hb, rK_12 hb, rK_13 hb, rK_14 hb, rK_15 hb, rK_16 hb, aGF (kP (pK_6 hb)), aGF (kP (pK_8 hb)), aGF (kP (pK_10 hb)), aGF (kP (pK_12 hb)), aGF (kP (pK_14 hb)), aGF (kP (pK_16 hb)), aGF (kP (pK_18 hb)), aGF (kP (pK_20 hb)), aGF (kP (pK_22 hb)), aGF (kP (pK_24 hb)), aGF (kP (pK_26 hb)), aGF (kP (pK_28 hb)), aGF (kP (pK_30 hb)), aGF (kP (pK_32 hb)), aGF (kP (pK_34 hb)), rP (pK_6 hb), rP (pK_8 hb), rP (pK_10 hb), rP (pK_12 hb), rP (pK_14 hb), rP (pK_16 hb), rP (pK_18 hb), rP (pK_20 hb), rP (pK_22 hb), rP (pK_24 hb), rP (pK_26 hb), rP (pK_28 hb), rP (pK_30 hb), rP (pK_32 hb), rP (pK_34 hb), topF (pK_6 hb) P1]
  rw [vK_makeMultiple_44]
  by_cases h3 : sz F + sz G ≤ sz S.1 + 17
  · rw [if_neg (by unfold w32; omega), vK_makeMultiple_50, vK_makeMultiple_55]
    simp only [aGF (kK hb), rK_0 hb, aGF (kF (fK hb)), rK_1 hb, rK_2 hb, rK_3 hb, rK_4 hb, rK_6 hb, rK_7 hb, rK_8 hb, rK_9 hb, rK_10 hb, rK_11 hb, rK_12 hb, rK_13 hb, rK_14 hb, rK_15 hb, rK_16 hb, aGF (kP (pK_6 hb)), aGF (kP (pK_8 hb)), aGF (kP (pK_10 hb)), aGF (kP (pK_12 hb)), aGF (kP (pK_14 hb)), aGF (kP (pK_16 hb)), aGF (kP (pK_18 hb)), aGF (kP (pK_20 hb)), aGF (kP (pK_22 hb)), aGF (kP (pK_24 hb)), aGF (kP (pK_26 hb)), aGF (kP (pK_28 hb)), aGF (kP (pK_30 hb)), aGF (kP (pK_32 hb)), aGF (kP (pK_34 hb)), rP (pK_6 hb), rP (pK_8 hb), rP (pK_10 hb), rP (pK_12 hb), rP (pK_14 hb), rP (pK_16 hb), rP (pK_18 hb), rP (pK_20 hb), rP (pK_22 hb), rP (pK_24 hb), rP (pK_26 hb), rP (pK_28 hb), rP (pK_30 hb), rP (pK_32 hb), rP (pK_34 hb), aZ1, aVC, tlS, tlN, aLt, hwD]
    have h0 : ¬ (gD (hp ω (sD D1 b 5 1)) b 5 = 0) := by rw [hD, sD_eq]; decide
    rw [if_neg h0]
    obtain ⟨D2, hD2⟩ : ∃ D2, D2 = sD D1 b 5 1 := ⟨_, rfl⟩
    have f2 : ∀ c, c ≠ b → D2 c = D1 c := fun c h => by rw [hD2, sD_ne h]
    rw [← hD2]
    have hfit := (cmul_OK hF.1 (side := side) oF hS).2 (by omega) h3
    obtain ⟨D3, q3, R3, f3⟩ := join_spec (ω := ω) (d := d) hb (FT_fr F1 (fun c h1 h2 => f2 c (by omega))) (pK_28 hb) hf (pK_12 hb) (by omega) (by omega) (by omega) (by omega) (PR_ne (by rw [f2 _ (by omega), f1 _ (by omega) (by omega)]) hE.2.2.2.1) (PR_ne (f2 _ (by omega)) RF1) hS.2.2.2.1.1 oF.1 hS.2.2.2.1.2 oF.2 hfit hs
    refine ⟨D3, ?_, ?_, ?_, fun c h4 h5 h6 h7 => by rw [f3 c h6 h7 h5, f2 c h4, f1 c h4 h5], fun j hj => ?_⟩
    · simp only [vK_makeMultiple_65, aGF (kK hb), rK_0 hb, aGF (kF (fK hb)), rK_1 hb, rK_2 hb, rK_3 hb, rK_4 hb, rK_6 hb, rK_7 hb, rK_8 hb, rK_9 hb, rK_10 hb, rK_11 hb, rK_12 hb, rK_13 hb, rK_14 hb, rK_15 hb, rK_16 hb, aGF (kP (pK_6 hb)), aGF (kP (pK_8 hb)), aGF (kP (pK_10 hb)), aGF (kP (pK_12 hb)), aGF (kP (pK_14 hb)), aGF (kP (pK_16 hb)), aGF (kP (pK_18 hb)), aGF (kP (pK_20 hb)), aGF (kP (pK_22 hb)), aGF (kP (pK_24 hb)), aGF (kP (pK_26 hb)), aGF (kP (pK_28 hb)), aGF (kP (pK_30 hb)), aGF (kP (pK_32 hb)), aGF (kP (pK_34 hb)), rP (pK_6 hb), rP (pK_8 hb), rP (pK_10 hb), rP (pK_12 hb), rP (pK_14 hb), rP (pK_16 hb), rP (pK_18 hb), rP (pK_20 hb), rP (pK_22 hb), rP (pK_24 hb), rP (pK_26 hb), rP (pK_28 hb), rP (pK_30 hb), rP (pK_32 hb), rP (pK_34 hb), q3, aVC, tlS, tlN, aLt, hwD, vK_makeMultiple_79, vK_makeMultiple_80]
    · rw [if_neg (by omega), if_pos h3]; exact R3
    · rw [f3 b (by omega) (by omega) (by omega), hD2, sD_eq, decide_eq_true h3, Bool.or_true]; rfl
    · rw [f3 b (by omega) (by omega) (by omega), hD2, sD_nb hj, j1 j hj]
  · rw [if_pos (by unfold w32; omega), vK_makeMultiple_54, vK_makeMultiple_55]
    simp only [aGF (kK hb), rK_0 hb, aGF (kF (fK hb)), rK_1 hb, rK_2 hb, rK_3 hb, rK_4 hb, rK_6 hb, rK_7 hb, rK_8 hb, rK_9 hb, rK_10 hb, rK_11 hb, rK_12 hb, rK_13 hb, rK_14 hb, rK_15 hb, rK_16 hb, aGF (kP (pK_6 hb)), aGF (kP (pK_8 hb)), aGF (kP (pK_10 hb)), aGF (kP (pK_12 hb)), aGF (kP (pK_14 hb)), aGF (kP (pK_16 hb)), aGF (kP (pK_18 hb)), aGF (kP (pK_20 hb)), aGF (kP (pK_22 hb)), aGF (kP (pK_24 hb)), aGF (kP (pK_26 hb)), aGF (kP (pK_28 hb)), aGF (kP (pK_30 hb)), aGF (kP (pK_32 hb)), aGF (kP (pK_34 hb)), rP (pK_6 hb), rP (pK_8 hb), rP (pK_10 hb), rP (pK_12 hb), rP (pK_14 hb), rP (pK_16 hb), rP (pK_18 hb), rP (pK_20 hb), rP (pK_22 hb), rP (pK_24 hb), rP (pK_26 hb), rP (pK_28 hb), rP (pK_30 hb), rP (pK_32 hb), rP (pK_34 hb), aZ0, aVC, tlS, tlN, aLt, hwD]
    have h0 : gD (hp ω (sD D1 b 5 0)) b 5 = 0 := by rw [hD, sD_eq]
    rw [if_pos h0, vK_makeMultiple_80]
    refine ⟨_, rfl, ?_, ?_, fun c h4 h5 h6 h7 => by rw [sD_ne h4, f1 c h4 h5], fun j hj => by rw [sD_nb hj, j1 j hj]⟩
    · rw [if_neg (by omega), if_neg h3]
      exact PR_ne (sD_ne (by omega)) M1
    · rw [sD_eq, if_neg]
      simp only [Bool.or_eq_true, decide_eq_true_eq]
      omega
theorem compare_spec (hb : isK b) (hF : FT Φ D (b + 1)) {f g : Nat} (hf : isP f) (hg : isP g) (hfb : f < b ∨ b + 36 ≤ f) (hgb : g < b ∨ b + 36 ≤ g) {F G : pl} (RF : PR D (f + 1) F) (RG : PR D (g + 1) G) (oF : pOK Φ F) (oG : pOK Φ G) {side : Nat} (hs : side < 2) {S : eS} (hS : S = ceul Φ side F G) :
    ∃ D', Vl (d + 3) 71 0 [some (.inr (.inr (some b))), some (.inl (side : Int)), some (.inr (.inr (some f))), some (.inr (.inr (some g))), none] [] (hp ω D) = some ((0, none), hp ω D') ∧ PR D' (b + 7) (pSc Φ side (mnum Φ side S.1) S.1) ∧ PR D' (b + 9) (pSc Φ side (mnum Φ side S.1) S.2.2.1) ∧ PR D' (b + 11) (pSc Φ side (mnum Φ side S.1) S.2.2.2.2.1) ∧ PR D' (b + 13) (pSc Φ side (mnum Φ side (cmul Φ side F G S)) (cmul Φ side F G S)) ∧ D' b 5 = (if cfit F G S.1 = true then 1 else 0) ∧ (∀ c, c ≠ b → (c < b + 6 ∨ b + 36 ≤ c) → D' c = D c) ∧ ∀ j, j ≠ 5 → D' b j = D b j := by
  have nf := pneK hf hb
  have ng := pneK hg hb
  have q1 := copyF (ω := ω) (D := D) (d := d + 2) (pK_6 hb) hf RF
  have RG1 : PR (pD D (b + 6 + 1) (rI F)) (g + 1) G := PR_ne (pD_ne (by omega)) RG
  have q2 := copyF (ω := ω) (d := d + 2) (pK_26 hb) hg RG1
  have q3 := constantF (ω := ω) (D := pD (pD D (b + 6 + 1) (rI F)) (b + 26 + 1) (rI G)) (d := d + 1) (v := 1) (pK_8 hb)
  have q4 := clearF (ω := ω) (D := pD (pD (pD D (b + 6 + 1) (rI F)) (b + 26 + 1) (rI G)) (b + 8 + 1) (rI (mono 1 0))) (d := d + 2) (pK_28 hb)
  have q5 := clearF (ω := ω) (D := pD (pD (pD (pD D (b + 6 + 1) (rI F)) (b + 26 + 1) (rI G)) (b + 8 + 1) (rI (mono 1 0))) (b + 28 + 1) (rI p0)) (d := d + 2) (pK_10 hb)
  have q6 := constantF (ω := ω) (D := pD (pD (pD (pD (pD D (b + 6 + 1) (rI F)) (b + 26 + 1) (rI G)) (b + 8 + 1) (rI (mono 1 0))) (b + 28 + 1) (rI p0)) (b + 10 + 1) (rI p0)) (d := d + 1) (v := 1) (pK_30 hb)
  rw [show ((1 : Nat) : Int) = 1 from rfl] at q3 q6
  obtain ⟨D1, hD1⟩ : ∃ D1, D1 = pD (pD (pD (pD (pD (pD D (b + 6 + 1) (rI F)) (b + 26 + 1) (rI G)) (b + 8 + 1) (rI (mono 1 0))) (b + 28 + 1) (rI p0)) (b + 10 + 1) (rI p0)) (b + 30 + 1) (rI (mono 1 0)) := ⟨_, rfl⟩
  rw [← hD1] at q6
  have E1 : ES D1 b (eS0 F G) := by
    rw [hD1]
    refine ⟨?_, ?_, ?_, ?_, ?_, pD_PR⟩
    · exact PR_ne (by rw [pD_ne (by omega), pD_ne (by omega), pD_ne (by omega), pD_ne (by omega), pD_ne (by omega)]) (pD_PR (D := D) (c := b + 6 + 1) (F := F))
    · exact PR_ne (by rw [pD_ne (by omega), pD_ne (by omega), pD_ne (by omega), pD_ne (by omega)]) (pD_PR (c := b + 26 + 1) (F := G))
    · exact PR_ne (by rw [pD_ne (by omega), pD_ne (by omega), pD_ne (by omega)]) (pD_PR (c := b + 8 + 1) (F := mono 1 0))
    · exact PR_ne (by rw [pD_ne (by omega), pD_ne (by omega)]) (pD_PR (c := b + 28 + 1) (F := p0))
    · exact PR_ne (by rw [pD_ne (by omega)]) (pD_PR (c := b + 10 + 1) (F := p0))
  have f1 : ∀ c, (c < b + 6 ∨ b + 36 ≤ c) → D1 c = D c := fun c hc => by
    rw [hD1, pD_ne (by omega), pD_ne (by omega), pD_ne (by omega), pD_ne (by omega), pD_ne (by omega), pD_ne (by omega)]
  have F1 : FT Φ D1 (b + 1) := FT_fr hF (fun c h1 h2 => f1 c (by omega))
  have O1 := eS0_OK hF.1 oF oG
  obtain ⟨D2, x, q7, E2, F2, f2⟩ := compare_loop (ω := ω) (d := d) hb hs (sz_le F) (sz_le G) (some f) (some g) 19 (eS0 F G) D1 (by decide) F1 O1 E1
  rw [show (19 : Int) - ((19 : Nat) : Int) = 0 from rfl] at q7
  have O2 := eul_OK hF.1 (side := side) (sz_le F) (sz_le G) 19 _ O1
  have eS2 : eul Φ side 19 (eS0 F G) = S := hS.symm
  rw [eS2] at E2 O2
  obtain ⟨D3, q8, M3, b3, f3, j3⟩ := makeMultiple_spec (ω := ω) (d := d) hb F2 hf hg hfb hgb (PR_ne (by rw [f2 _ (by omega), f1 _ (by omega)]) RF) (PR_ne (by rw [f2 _ (by omega), f1 _ (by omega)]) RG) oF oG hs O2 E2
  have oM := (cmul_OK hF.1 (side := side) oF O2).1
  have F3 : FT Φ D3 (b + 1) := FT_fr F2 (fun c h1 h2 => f3 c (by omega) (by omega) (by omega) (by omega))
  have q9 := monicNumber_spec (ω := ω) (d := d + 1) hb F3 (pK_12 hb) M3 oM hs
  have hm9 := mnum_lt (Φ := Φ) hF.1 (side := side) oM.1
  obtain ⟨D4, q10, M4, f4⟩ := scale_spec (ω := ω) (d := d) hb F3 (pK_12 hb) (by omega) (by omega) (by omega) M3 oM hs hm9
  have F4 : FT Φ D4 (b + 1) := FT_fr F3 (fun c h1 h2 => f4 c (by omega) (by omega) (by omega) (by omega))
  have P4 : PR D4 (b + 6 + 1) S.1 := PR_ne (by rw [f4 _ (by omega) (by omega) (by omega) (by omega), f3 _ (by omega) (by omega) (by omega) (by omega)]) E2.1
  have q11 := monicNumber_spec (ω := ω) (d := d + 1) hb F4 (pK_6 hb) P4 O2.1 hs
  have hm11 := mnum_lt (Φ := Φ) hF.1 (side := side) O2.1.1
  obtain ⟨D5, q12, P5, f5⟩ := scale_spec (ω := ω) (d := d) hb F4 (pK_6 hb) (by omega) (by omega) (by omega) P4 O2.1 hs hm11
  have F5 : FT Φ D5 (b + 1) := FT_fr F4 (fun c h1 h2 => f5 c (by omega) (by omega) (by omega) (by omega))
  have A5 : PR D5 (b + 8 + 1) S.2.2.1 := PR_ne (by rw [f5 _ (by omega) (by omega) (by omega) (by omega), f4 _ (by omega) (by omega) (by omega) (by omega), f3 _ (by omega) (by omega) (by omega) (by omega)]) E2.2.2.1
  obtain ⟨D6, q13, A6, f6⟩ := scale_spec (ω := ω) (d := d) hb F5 (pK_8 hb) (by omega) (by omega) (by omega) A5 O2.2.2.1 hs hm11
  have F6 : FT Φ D6 (b + 1) := FT_fr F5 (fun c h1 h2 => f6 c (by omega) (by omega) (by omega) (by omega))
  have C6 : PR D6 (b + 10 + 1) S.2.2.2.2.1 := PR_ne (by rw [f6 _ (by omega) (by omega) (by omega) (by omega), f5 _ (by omega) (by omega) (by omega) (by omega), f4 _ (by omega) (by omega) (by omega) (by omega), f3 _ (by omega) (by omega) (by omega) (by omega)]) E2.2.2.2.2.1
  obtain ⟨D7, q14, C7, f7⟩ := scale_spec (ω := ω) (d := d) hb F6 (pK_10 hb) (by omega) (by omega) (by omega) C6 O2.2.2.2.2.1 hs hm11
  refine ⟨D7, ?_, ?_, ?_, C7, ?_, ?_, ?_, ?_⟩
  · simp only [vK_compare_0, aGF (kK hb), rK_0 hb, aGF (kF (fK hb)), rK_1 hb, rK_2 hb, rK_3 hb, rK_4 hb, rK_6 hb, rK_7 hb, rK_8 hb, rK_9 hb, rK_10 hb, rK_11 hb, rK_12 hb, rK_13 hb, rK_14 hb, rK_15 hb, rK_16 hb, aGF (kP (pK_6 hb)), aGF (kP (pK_8 hb)), aGF (kP (pK_10 hb)), aGF (kP (pK_12 hb)), aGF (kP (pK_14 hb)), aGF (kP (pK_16 hb)), aGF (kP (pK_18 hb)), aGF (kP (pK_20 hb)), aGF (kP (pK_22 hb)), aGF (kP (pK_24 hb)), aGF (kP (pK_26 hb)), aGF (kP (pK_28 hb)), aGF (kP (pK_30 hb)), aGF (kP (pK_32 hb)), aGF (kP (pK_34 hb)), rP (pK_6 hb), rP (pK_8 hb), rP (pK_10 hb), rP (pK_12 hb), rP (pK_14 hb), rP (pK_16 hb), rP (pK_18 hb), rP (pK_20 hb), rP (pK_22 hb), rP (pK_24 hb), rP (pK_26 hb), rP (pK_28 hb), rP (pK_30 hb), rP (pK_32 hb), rP (pK_34 hb), q1, aVC, tlS, tlN, aLt, hwD, vK_compare_8, q2, vK_compare_16, q3, vK_compare_24, q4, vK_compare_31, q5, vK_compare_38, q6, vK_compare_46, q7, vK_compare_142, q8, vK_compare_149, q9, vK_compare_160, q10, vK_compare_167, q11, vK_compare_176, q12, vK_compare_189, q13, vK_compare_200, q14, vK_compare_211]
  · exact PR_ne (by rw [f7 _ (by omega) (by omega) (by omega) (by omega), f6 _ (by omega) (by omega) (by omega) (by omega)]) P5
  · exact PR_ne (f7 _ (by omega) (by omega) (by omega) (by omega)) A6
  · exact PR_ne (by rw [f7 _ (by omega) (by omega) (by omega) (by omega), f6 _ (by omega) (by omega) (by omega) (by omega), f5 _ (by omega) (by omega) (by omega) (by omega)]) M4
  · rw [f7 _ (by omega) (by omega) (by omega) (by omega), f6 _ (by omega) (by omega) (by omega) (by omega), f5 _ (by omega) (by omega) (by omega) (by omega), f4 _ (by omega) (by omega) (by omega) (by omega), b3]
  · intro c h1 h2
    rw [f7 _ (by omega) (by omega) (by omega) (by omega), f6 _ (by omega) (by omega) (by omega) (by omega), f5 _ (by omega) (by omega) (by omega) (by omega), f4 _ (by omega) (by omega) (by omega) (by omega), f3 _ (by omega) (by omega) (by omega) (by omega), f2 _ h2, f1 _ h2]
  · intro j hj
    rw [f7 _ (by omega) (by omega) (by omega) (by omega), f6 _ (by omega) (by omega) (by omega) (by omega), f5 _ (by omega) (by omega) (by omega) (by omega), f4 _ (by omega) (by omega) (by omega) (by omega), j3 j hj, f2 _ (by omega), f1 _ (by omega)]
end CMQ
