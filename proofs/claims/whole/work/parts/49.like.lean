/-! LIKENESS in the class -/
theorem SP_congr {ω : jw} {D : jD} {m n k : Nat} {R R' : Nat → pl} (h : SP ω D m n k R) (hR : ∀ j, j < n → R j = R' j) : SP ω D m n k R' := by
  obtain ⟨h1, h2, h3, h4, h5, h6, h7, h8⟩ := h
  exact ⟨h1, h2, h3, h4, h5, h6, h7, fun j hj => by rw [← hR j hj]; exact h8 j hj⟩
def laR (Φ : gF) (F G : pl) (t : Nat) : pl := lvr Φ F (mono (2 ^ (t % Φ.1)) (t / Φ.1)) G
def grc (k : Nat) : Nat := k ^^^ (k / 2)
def lyc (m code : Nat) : pl := fun j => if m * j < 12 then code / 2 ^ (m * j) % 2 ^ m else 0
/-- the walk through the sums -/
def lkl (Φ : gF) (F G : pl) (n : Nat) : Nat → Nat → Bool
  | 0, _ => false
  | r + 1, i => if pk Φ.1 (gsm (laR Φ F G) i) n = 0 ∧ sz (cPart Φ 0 (ceul Φ 0 (lyc Φ.1 (grc i)) G)) = 1 then true else lkl Φ F G n r (i + 1)
def fewD (Φ : gF) (F : pl) : Prop := (sz F : Int) - 1 ≤ 12 ∧ ((sz F : Int) - 1) * (Φ.1 : Int) ≤ 12
noncomputable def oLike (A : aA) (i j : Int) : Int := by
  classical exact if (aN A i ∧ aN A j) ∧ sz (an A i) ≠ 0 ∧ sz (an A j) ≠ 0 ∧ fewD (aF A) (an A i) ∧ fewD (aF A) (an A j) then (if sz (an A j) = sz (an A i) ∧ (sz (an A i) = 1 ∨ lkl (aF A) (an A i) (an A j) (sz (an A i) - 1) (2 ^ ((aF A).1 * (sz (an A i) - 1)) - 1) 1 = true) then 1 else 0) else -2
section LIKE
variable {d : Nat} {A : aA} {Φ : gF}
theorem grc_lt {k n : Nat} (h : k < 2 ^ n) : grc k < 2 ^ n := x_lt h (Nat.lt_of_le_of_lt (Nat.div_le_self _ _) h)
theorem code_spec {ω : jw} {D : jD} {k : Nat} (hk : k < 4096) : Vl d 139 0 [some (.inr (.inr (some 302))), some (.inl (k : Int))] [] (hp ω D) = some ((0, some (.inl (grc k : Int))), hp ω D) := by
  have e : jush (k : Int) 1 = ((k / 2 : Nat) : Int) := by
    have := jush_n (a := k) (k := 1) (by omega) (by decide)
    rw [Nat.pow_one] at this
    exact this
  rw [vS_code_0, e, jxor_n (by omega) (by omega)]
  rfl
theorem lyc_OK {m code : Nat} (hm : 1 ≤ m) : (∀ b, lyc m code b < 2 ^ m) ∧ dle (lyc m code) 12 := by
  refine ⟨fun b => ?_, fun b hb => ?_⟩
  · unfold lyc; split
    · exact Nat.mod_lt _ (Nat.two_pow_pos m)
    · exact Nat.two_pow_pos m
  · unfold lyc
    rw [if_neg]
    have : 1 * b ≤ m * b := Nat.mul_le_mul_right b hm
    omega
theorem putPolynomial_spec {ω : jw} {D : jD} {m code o : Nat} (hm : D 302 4 = (m : Int)) (hm1 : 1 ≤ m) (hm8 : m ≤ 8) (hc : code < 4096) (ho : isP o) (ho2 : o + 1 ≠ 302) : Vl (d + 1) 140 0 [some (.inr (.inr (some 302))), some (.inl (code : Int)), some (.inr (.inr (some o))), none] [] (hp ω D) = some ((0, none), hp ω (pD D (o + 1) (rI (lyc m code)))) := by
  have h256 : 2 ^ m ≤ 256 := Nat.pow_le_pow_right (n := 2) (by decide) hm8
  have ch := chain (fun j => Vl (d + 1) 140 2 [some (.inr (.inr (some 302))), some (.inl (code : Int)), some (.inr (.inr (some o))), some (.inl (j : Int))] [] (hp ω (pDn D (o + 1) j (rI (lyc m code))))) 17 (fun j hj => by
    have hmm : pDn D (o + 1) j (rI (lyc m code)) 302 4 = (m : Int) := by rw [pDn_ne (fun q => ho2 q.symm)]; exact hm
    have hmj : m * j < 2147483648 := by
      have := Nat.mul_le_mul hm8 (show j ≤ 17 by omega)
      omega
    have q2 := put_spec (ω := ω) (D := pDn D (o + 1) j (rI (lyc m code))) (d := d) (v := (lyc m code j : Int)) ho hj
    have q3 : sD (pDn D (o + 1) j (rI (lyc m code))) (o + 1) j (lyc m code j : Int) = pDn D (o + 1) (j + 1) (rI (lyc m code)) := pDn_s rfl
    rw [vS_putPolynomial_2, if_pos (by omega), vS_putPolynomial_8, aGF kS, hD, hmm, w32_ml hmj]
    by_cases h12 : m * j < 12
    · have e1 : Vl d 141 0 [some (.inr (.inr (some 302))), some (.inr (.inl (code : Int))), none, some (.inl (j : Int))] [] (hp ω (pDn D (o + 1) j (rI (lyc m code)))) = some ((0, some (.inl (lyc m code j : Int))), hp ω (pDn D (o + 1) j (rI (lyc m code)))) := by
        have z1 : code / 2 ^ (m * j) < 4096 := Nat.lt_of_le_of_lt (Nat.div_le_self _ _) hc
        have a1 : jlush (code : Int) ((m * j : Nat) : Int) = ((code / 2 ^ (m * j) : Nat) : Int) := by
          unfold jlush
          rw [u64_n (by omega), s64_n (by omega)]
          generalize code / 2 ^ (m * j) = z at z1
          unfold w64; omega
        have a2 : jshl 1 (m : Int) = ((2 ^ m : Nat) : Int) := by
          have := jshl_n (a := 1) (k := m) (by omega) (by omega)
          rw [Nat.one_mul] at this; exact this
        have a3 : w32 (((2 ^ m : Nat) : Int) - 1) = ((2 ^ m - 1 : Nat) : Int) := by
          have hp0 : 0 < 2 ^ m := Nat.two_pow_pos m
          generalize 2 ^ m = z at hp0 h256
          unfold w32; omega
        rw [vS_unpacked_0, aGF kS, aGF kS, hD, hmm, w32_ml hmj, a1, w32_n (by omega), a2, a3, jand_k m (by omega) (by omega)]
        unfold lyc
        rw [if_pos h12]
      rw [if_pos (by omega), vS_putPolynomial_21, aGF kS, e1, aVC, tlS, vS_putPolynomial_28, vS_putPolynomial_32, aGF (kP ho), q2, aVC, tlN, vS_putPolynomial_35, w32_s (by omega), q3]
    · have e0 : (lyc m code j : Int) = 0 := by
        unfold lyc
        rw [if_neg h12]; rfl
      rw [e0] at q2 q3
      rw [if_neg (by omega), vS_putPolynomial_31, vS_putPolynomial_32, aGF (kP ho), q2, aVC, tlN, vS_putPolynomial_35, w32_s (by omega), q3])
  rw [pDn_0, show ((0 : Nat) : Int) = 0 from rfl] at ch
  rw [vS_putPolynomial_0, ch, vS_putPolynomial_2, if_neg (by decide), vS_putPolynomial_41]
theorem like_inner {f g : Nat} (hf : isP f) (hg : isP g) (hf1 : f < 66) (hg1 : g < 66) {F G : pl} (oF : pOK Φ F) (oG : pOK Φ G) {n j : Nat} (hn : sz G = n + 1) (hj : j < n) (hmn : Φ.1 * n ≤ 12) : ∀ (r e : Nat) (ω : jw) (D : jD), e + r = Φ.1 → FT Φ D 76 → PR D (f + 1) F → PR D (g + 1) G → SP ω D Φ.1 (Φ.1 * j + e) n (laR Φ F G) → ∃ ω' D' y, Vl (d + 4) 132 26 [some (.inr (.inr (some 0))), some (.inr (.inr (some f))), some (.inr (.inr (some g))), some (.inl (n : Int)), some (.inl (j : Int)), some (.inl (e : Int)), none] [] (hp ω D) = Vl (d + 4) 132 98 [some (.inr (.inr (some 0))), some (.inr (.inr (some f))), some (.inr (.inr (some g))), some (.inl (n : Int)), some (.inl (j : Int)), some (.inl y), none] [] (hp ω' D') ∧ SP ω' D' Φ.1 (Φ.1 * (j + 1)) n (laR Φ F G) ∧ wEq ω ω' ∧ ∀ q, q ≠ 302 → q ≠ 364 → q ≠ 90 → q ≠ 92 → D' q = D q
  | 0, e, ω, D, he, hF, RF, RG, hS => by
    refine ⟨ω, D, (e : Int), ?_, ?_, wEq_r ω, fun _ _ _ _ _ => rfl⟩
    · simp only [vC_areLike_26, aGF kC, rC_0, rC_1, rC_2, rC_3, rC_4, rC_5, rC_6, rC_7, rC_8, rC_9, rC_10, rC_11, rC_12, aGF kA, rA_0, aGF (kT tT_3), aGF (kK tK_75), aGF (kF tF_76), q75_0, q75_1, q75_2, q75_3, q75_4, q75_6, q75_7, q75_8, q75_9, q75_10, q75_11, q75_12, q75_13, q75_14, q75_15, q75_16, aGF (kP i67), aGF (kP i69), aGF (kP i71), aGF (kP i73), aGF (kP i363), aGF (kP i81), aGF (kP i83), aGF (kP i85), aGF (kP i87), aGF (kP i89), aGF (kP i91), aGF (kP i93), aGF (kP i95), aGF (kP i97), aGF (kP i99), aGF (kP i101), aGF (kP i103), aGF (kP i105), aGF (kP i107), aGF (kP i109)]
      rw [hD, hF.2.1, if_neg (by omega)]
    · rw [Nat.mul_succ, ← show e = Φ.1 by omega]
      rw [show e = Φ.1 by omega] at hS ⊢
      exact hS
  | r + 1, e, ω, D, he, hF, RF, RG, hS => by
    have h8 := F_m8 hF.1
    have h2e : 2 ^ e < 2 ^ Φ.1 := Nat.pow_lt_pow_right (by decide) (by omega)
    have h256 := F_256 hF.1
    have hn12 : n ≤ 12 := Nat.le_trans (by have := Nat.mul_le_mul_right n (F_m1 hF.1); omega) hmn
    have hcnt : Φ.1 * j + e < 12 := by
      have : Φ.1 * (j + 1) ≤ Φ.1 * n := Nat.mul_le_mul_left _ (by omega)
      rw [Nat.mul_succ] at this; omega
    have esh : jshl 1 (e : Int) = ((2 ^ e : Nat) : Int) := by
      have := jshl_n (a := 1) (k := e) (by omega) (by omega)
      rw [Nat.one_mul] at this; exact this
    have q1 := clearF (ω := ω) (D := D) (d := d + 3) i363
    have q2 := putF (ω := ω) (D := pD D (363 + 1) (rI p0)) (d := d + 3) (j := j) (v := 2 ^ e) i363 pD_PR (by omega)
    obtain ⟨D2, hD2⟩ : ∃ D2, D2 = pD (pD D (363 + 1) (rI p0)) (363 + 1) (rI (fun c => if c = j then 2 ^ e else p0 c)) := ⟨_, rfl⟩
    rw [← hD2] at q2
    have f2 : ∀ q, q ≠ 364 → D2 q = D q := fun q hq => by rw [hD2, pD_ne hq, pD_ne hq]
    have R2 : PR D2 (363 + 1) (mono (2 ^ e) j) := by rw [hD2]; exact pD_PR
    obtain ⟨D3, q3, R3, f3⟩ := leave_spec (ω := ω) (D := D2) (d := d + 2) tK_75 (FT_congr (fun q _ _ => f2 q (by omega)) hF) hf i363 hg (by omega) (by omega) (by omega) (by omega) (by decide) (PR_ne (f2 _ (by omega)) RF) R2 (PR_ne (f2 _ (by omega)) RG) oF oG (mono_in h2e j) (by omega) (fun _ => dle_mono (mono_dle _ _) (by omega))
    have hrow : laR Φ F G (Φ.1 * j + e) = lvr Φ F (mono (2 ^ e) j) G := by
      unfold laR
      rw [Nat.mul_add_mod, Nat.mod_eq_of_lt (by omega), Nat.mul_add_div (F_m1 hF.1), Nat.div_eq_of_lt (by omega), Nat.add_zero]
    have irow : inF Φ (lvr Φ F (mono (2 ^ e) j) G) := by
      unfold lvr; split
      · exact p0_in Φ
      · exact lv_in hF.1 oF.1 _
    obtain ⟨ω4, D4, q4, S4, w4, f4⟩ := addRow_spec (ω := ω) (D := D3) (d := d + 2) (c := 90) (SP_fr hS (by rw [f3 302 (by decide) (by decide), f2 302 (by decide)])) hcnt (kPa i89) (by omega) irow (fun b hb => R3 b (by omega))
    have S5 := SP_congr (R' := laR Φ F G) S4 (fun t ht => by
      by_cases e1 : t = Φ.1 * j + e
      · rw [if_pos e1, e1, hrow]
      · rw [if_neg e1])
    have f5 : ∀ q, q ≠ 302 → q ≠ 364 → q ≠ 90 → q ≠ 92 → D4 q = D q := fun q a b c d => by rw [f4 q a, f3 q (by omega) (by omega), f2 q b]
    obtain ⟨ω', D', y, q6, S6, w6, f6⟩ := like_inner hf hg hf1 hg1 oF oG hn hj hmn r (e + 1) ω4 D4 (by omega) (FT_congr (fun q _ _ => f5 q (by omega) (by omega) (by omega) (by omega)) hF) (PR_ne (f5 _ (by omega) (by omega) (by omega) (by omega)) RF) (PR_ne (f5 _ (by omega) (by omega) (by omega) (by omega)) RG) S5
    refine ⟨ω', D', y, ?_, S6, wEq_t w4 w6, fun q a b c d => by rw [f6 q a b c d, f5 q a b c d]⟩
    simp only [vC_areLike_26, aGF kC, rC_0, rC_1, rC_2, rC_3, rC_4, rC_5, rC_6, rC_7, rC_8, rC_9, rC_10, rC_11, rC_12, aGF kA, rA_0, aGF (kT tT_3), aGF (kK tK_75), aGF (kF tF_76), q75_0, q75_1, q75_2, q75_3, q75_4, q75_6, q75_7, q75_8, q75_9, q75_10, q75_11, q75_12, q75_13, q75_14, q75_15, q75_16, aGF (kP i67), aGF (kP i69), aGF (kP i71), aGF (kP i73), aGF (kP i363), aGF (kP i81), aGF (kP i83), aGF (kP i85), aGF (kP i87), aGF (kP i89), aGF (kP i91), aGF (kP i93), aGF (kP i95), aGF (kP i97), aGF (kP i99), aGF (kP i101), aGF (kP i103), aGF (kP i105), aGF (kP i107), aGF (kP i109)]
    rw [hD, hF.2.1, if_pos (by omega)]
    simp only [vC_areLike_41, aGF kC, rC_0, rC_1, rC_2, rC_3, rC_4, rC_5, rC_6, rC_7, rC_8, rC_9, rC_10, rC_11, rC_12, aGF kA, rA_0, aGF (kT tT_3), aGF (kK tK_75), aGF (kF tF_76), q75_0, q75_1, q75_2, q75_3, q75_4, q75_6, q75_7, q75_8, q75_9, q75_10, q75_11, q75_12, q75_13, q75_14, q75_15, q75_16, aGF (kP i67), aGF (kP i69), aGF (kP i71), aGF (kP i73), aGF (kP i363), aGF (kP i81), aGF (kP i83), aGF (kP i85), aGF (kP i87), aGF (kP i89), aGF (kP i91), aGF (kP i93), aGF (kP i95), aGF (kP i97), aGF (kP i99), aGF (kP i101), aGF (kP i103), aGF (kP i105), aGF (kP i107), aGF (kP i109), q1, aVC, tlS, tlN, aLt, hwD, vC_areLike_48, esh, q2, vC_areLike_61, q3, vC_areLike_74, rP i89, aGF kS, q4, vC_areLike_92]
    rw [w32_s (by omega), q6]
theorem like_rows {f g : Nat} (hf : isP f) (hg : isP g) (hf1 : f < 66) (hg1 : g < 66) {F G : pl} (oF : pOK Φ F) (oG : pOK Φ G) {n : Nat} (hn : sz G = n + 1) (hmn : Φ.1 * n ≤ 12) : ∀ (r j : Nat) (ω : jw) (D : jD) (u5 : Option jv), j + r = n → FT Φ D 76 → PR D (f + 1) F → PR D (g + 1) G → SP ω D Φ.1 (Φ.1 * j) n (laR Φ F G) → ∃ ω' D' u5', Vl (d + 4) 132 17 [some (.inr (.inr (some 0))), some (.inr (.inr (some f))), some (.inr (.inr (some g))), some (.inl (n : Int)), some (.inl (j : Int)), u5, none] [] (hp ω D) = Vl (d + 4) 132 104 [some (.inr (.inr (some 0))), some (.inr (.inr (some f))), some (.inr (.inr (some g))), some (.inl (n : Int)), some (.inl (n : Int)), u5', none] [] (hp ω' D') ∧ SP ω' D' Φ.1 (Φ.1 * n) n (laR Φ F G) ∧ wEq ω ω' ∧ ∀ q, q ≠ 302 → q ≠ 364 → q ≠ 90 → q ≠ 92 → D' q = D q
  | 0, j, ω, D, u5, hj, hF, RF, RG, hS => by
    rw [show j = n by omega] at hS ⊢
    exact ⟨ω, D, u5, by rw [vC_areLike_17, if_neg (by omega)], hS, wEq_r ω, fun _ _ _ _ _ => rfl⟩
  | r + 1, j, ω, D, u5, hj, hF, RF, RG, hS => by
    obtain ⟨ω1, D1, y, q1, S1, w1, f1⟩ := like_inner (d := d) hf hg hf1 hg1 oF oG hn (show j < n by omega) hmn Φ.1 0 ω D (by omega) hF RF RG (by rw [Nat.add_zero]; exact hS)
    rw [show ((0 : Nat) : Int) = 0 from rfl] at q1
    obtain ⟨ω', D', u5', q2, S2, w2, f2⟩ := like_rows hf hg hf1 hg1 oF oG hn hmn r (j + 1) ω1 D1 (some (.inl y)) (by omega) (FT_congr (fun q _ _ => f1 q (by omega) (by omega) (by omega) (by omega)) hF) (PR_ne (f1 _ (by omega) (by omega) (by omega) (by omega)) RF) (PR_ne (f1 _ (by omega) (by omega) (by omega) (by omega)) RG) S1
    refine ⟨ω', D', u5', ?_, S2, wEq_t w1 w2, fun q a b c e => by rw [f2 q a b c e, f1 q a b c e]⟩
    have hn12 : n ≤ 12 := Nat.le_trans (by have := Nat.mul_le_mul_right n (F_m1 hF.1); omega) hmn
    rw [vC_areLike_17, if_pos (by omega), vC_areLike_23, q1, vC_areLike_98, w32_s (by omega), q2]
theorem pL_zero {m n : Nat} {X : pl} (hX : ∀ b, X b < 2 ^ m) (hmn : m * n ≤ 12) : (jlcmp (pL m X n) 0 = 0) ↔ pk m X n = 0 := by
  have h1 := pkq_lt hX n
  have h2 : 2 ^ (m * n) ≤ 2 ^ 12 := Nat.pow_le_pow_right (by decide) hmn
  have e : pL m X n = (pk m X n : Int) := by
    unfold pL
    generalize pk m X n = z at h1
    have h3 : z < 4096 := Nat.lt_of_lt_of_le h1 h2
    unfold w64; omega
  rw [e]
  unfold jlcmp
  generalize pk m X n = z
  constructor
  · intro h
    by_cases e0 : z = 0
    · exact e0
    · rw [if_neg (by omega), if_neg (by omega)] at h
      exact absurd h (by decide)
  · intro h
    rw [h]; decide
theorem like_gray {ω : jw} {f g : Nat} (hg : isP g) (hg1 : g < 66) {F G : pl} (oG : pOK Φ G) {n : Nat} (hmn : Φ.1 * n ≤ 12) : ∀ (r i : Nat) (D : jD), i + 1 + r = 2 ^ (Φ.1 * n) → FT Φ D 76 → PR D (g + 1) G → SP ω D Φ.1 (Φ.1 * n) n (laR Φ F G) → ∃ D', Vl (d + 4) 132 110 [some (.inr (.inr (some 0))), some (.inr (.inr (some f))), some (.inr (.inr (some g))), some (.inl (n : Int)), some (.inr (.inl (pL Φ.1 (gsm (laR Φ F G) i) n))), none, some (.inl ((i + 1 : Nat) : Int))] [] (hp ω D) = some ((0, some (.inl (if lkl Φ F G n r (i + 1) = true then 1 else 0))), hp ω D') ∧ ∀ q, q ≠ 364 → q ≠ 75 → (q < 81 ∨ 111 ≤ q) → D' q = D q
  | 0, i, D, hi, hF, RG, hS => by
    refine ⟨D, ?_, fun _ _ _ _ => rfl⟩
    simp only [vC_areLike_110, aGF kC, rC_0, rC_1, rC_2, rC_3, rC_4, rC_5, rC_6, rC_7, rC_8, rC_9, rC_10, rC_11, rC_12, aGF kA, rA_0, aGF (kT tT_3), aGF (kK tK_75), aGF (kF tF_76), q75_0, q75_1, q75_2, q75_3, q75_4, q75_6, q75_7, q75_8, q75_9, q75_10, q75_11, q75_12, q75_13, q75_14, q75_15, q75_16, aGF (kP i67), aGF (kP i69), aGF (kP i71), aGF (kP i73), aGF (kP i363), aGF (kP i81), aGF (kP i83), aGF (kP i85), aGF (kP i87), aGF (kP i89), aGF (kP i91), aGF (kP i93), aGF (kP i95), aGF (kP i97), aGF (kP i99), aGF (kP i101), aGF (kP i103), aGF (kP i105), aGF (kP i107), aGF (kP i109), aGF kS, sums_spec hS, aVC, tlS, tlN, aLt, hwD]
    rw [vC_areLike_119, if_neg (by omega), vC_areLike_197]
    rfl
  | r + 1, i, D, hi, hF, RG, hS => by
    have h12 : 2 ^ (Φ.1 * n) ≤ 2 ^ 12 := Nat.pow_le_pow_right (by decide) hmn
    have m1 := F_m1 hF.1
    have m8 := F_m8 hF.1
    obtain ⟨t1, t2⟩ := step_spec2 (ω := ω) (d := d + 2) hS (i := i + 1) (by omega) (by omega)
    have g1 := gsm_in hS i (by omega)
    have g2 := gsm_in hS (i + 1) (by omega)
    have hx := pL_x (k := n) g1 (hS.2.2.2.2.2.2.2 _ t1).1 hS.2.2.2.1
    have hx' : jlxor (pL Φ.1 (gsm (laR Φ F G) i) n) (pL Φ.1 (laR Φ F G (tzk (i + 1))) n) = pL Φ.1 (gsm (laR Φ F G) (i + 1)) n := hx
    have hz := pL_zero g2 hmn
    have hl1 : ¬ (pk Φ.1 (gsm (laR Φ F G) (i + 1)) n = 0 ∧ sz (cPart Φ 0 (ceul Φ 0 (lyc Φ.1 (grc (i + 1))) G)) = 1) → lkl Φ F G n (r + 1) (i + 1) = lkl Φ F G n r (i + 1 + 1) := fun q => if_neg q
    have hl2 : (pk Φ.1 (gsm (laR Φ F G) (i + 1)) n = 0 ∧ sz (cPart Φ 0 (ceul Φ 0 (lyc Φ.1 (grc (i + 1))) G)) = 1) → lkl Φ F G n (r + 1) (i + 1) = true := fun q => if_pos q
    have st : Vl (d + 4) 132 110 [some (.inr (.inr (some 0))), some (.inr (.inr (some f))), some (.inr (.inr (some g))), some (.inl (n : Int)), some (.inr (.inl (pL Φ.1 (gsm (laR Φ F G) i) n))), none, some (.inl ((i + 1 : Nat) : Int))] [] (hp ω D) = if (jlcmp (pL Φ.1 (gsm (laR Φ F G) (i + 1)) n) 0) = 0 then Vl (d + 4) 132 143 [some (.inr (.inr (some 0))), some (.inr (.inr (some f))), some (.inr (.inr (some g))), some (.inl (n : Int)), some (.inr (.inl (pL Φ.1 (gsm (laR Φ F G) (i + 1)) n))), none, some (.inl ((i + 1 : Nat) : Int))] [] (hp ω D) else Vl (d + 4) 132 191 [some (.inr (.inr (some 0))), some (.inr (.inr (some f))), some (.inr (.inr (some g))), some (.inl (n : Int)), some (.inr (.inl (pL Φ.1 (gsm (laR Φ F G) (i + 1)) n))), none, some (.inl ((i + 1 : Nat) : Int))] [] (hp ω D) := by
      simp only [vC_areLike_110, aGF kC, rC_0, rC_1, rC_2, rC_3, rC_4, rC_5, rC_6, rC_7, rC_8, rC_9, rC_10, rC_11, rC_12, aGF kA, rA_0, aGF (kT tT_3), aGF (kK tK_75), aGF (kF tF_76), q75_0, q75_1, q75_2, q75_3, q75_4, q75_6, q75_7, q75_8, q75_9, q75_10, q75_11, q75_12, q75_13, q75_14, q75_15, q75_16, aGF (kP i67), aGF (kP i69), aGF (kP i71), aGF (kP i73), aGF (kP i363), aGF (kP i81), aGF (kP i83), aGF (kP i85), aGF (kP i87), aGF (kP i89), aGF (kP i91), aGF (kP i93), aGF (kP i95), aGF (kP i97), aGF (kP i99), aGF (kP i101), aGF (kP i103), aGF (kP i105), aGF (kP i107), aGF (kP i109), aGF kS, sums_spec hS, aVC, tlS, tlN, aLt, hwD]
      rw [vC_areLike_119, if_pos (by omega)]
      simp only [vC_areLike_122, aGF kC, rC_0, rC_1, rC_2, rC_3, rC_4, rC_5, rC_6, rC_7, rC_8, rC_9, rC_10, rC_11, rC_12, aGF kA, rA_0, aGF (kT tT_3), aGF (kK tK_75), aGF (kF tF_76), q75_0, q75_1, q75_2, q75_3, q75_4, q75_6, q75_7, q75_8, q75_9, q75_10, q75_11, q75_12, q75_13, q75_14, q75_15, q75_16, aGF (kP i67), aGF (kP i69), aGF (kP i71), aGF (kP i73), aGF (kP i363), aGF (kP i81), aGF (kP i83), aGF (kP i85), aGF (kP i87), aGF (kP i89), aGF (kP i91), aGF (kP i93), aGF (kP i95), aGF (kP i97), aGF (kP i99), aGF (kP i101), aGF (kP i103), aGF (kP i105), aGF (kP i107), aGF (kP i109), aGF kS, t2, aVC, tlS, tlN, aLt, hwD]
      rw [vC_areLike_133, hx']
    rw [st]
    have st2 : ∀ D1 : jD, FT Φ D1 76 → PR D1 (g + 1) G → SP ω D1 Φ.1 (Φ.1 * n) n (laR Φ F G) → ∃ D', Vl (d + 4) 132 191 [some (.inr (.inr (some 0))), some (.inr (.inr (some f))), some (.inr (.inr (some g))), some (.inl (n : Int)), some (.inr (.inl (pL Φ.1 (gsm (laR Φ F G) (i + 1)) n))), none, some (.inl ((i + 1 : Nat) : Int))] [] (hp ω D1) = some ((0, some (.inl (if lkl Φ F G n r (i + 1 + 1) = true then 1 else 0))), hp ω D') ∧ ∀ q, q ≠ 364 → q ≠ 75 → (q < 81 ∨ 111 ≤ q) → D' q = D1 q := fun D1 F1 R1 S1 => by
      obtain ⟨D', q1, f1⟩ := like_gray hg hg1 oG hmn r (i + 1) D1 (by omega) F1 R1 S1
      refine ⟨D', ?_, f1⟩
      rw [vC_areLike_191, w32_s (by omega), q1]
    by_cases h0 : pk Φ.1 (gsm (laR Φ F G) (i + 1)) n = 0
    rotate_left
    · rw [if_neg (fun q => h0 (hz.1 q)), hl1 (fun q => h0 q.1)]
      exact st2 D hF RG hS
    rw [if_pos (hz.2 h0)]
    have hg2 := grc_lt (k := i + 1) (n := 12) (by omega)
    have q1 := code_spec (ω := ω) (D := D) (d := d + 3) (k := i + 1) (by omega)
    have q2 := putPolynomial_spec (ω := ω) (D := D) (d := d + 2) (o := 363) hS.1 m1 m8 hg2 i363 (by decide)
    have oL := lyc_OK (m := Φ.1) (code := grc (i + 1)) m1
    have F2 : FT Φ (pD D (363 + 1) (rI (lyc Φ.1 (grc (i + 1))))) 76 := FT_congr (fun q _ _ => pD_ne (by omega)) hF
    obtain ⟨D3, q3, R7, -, -, -, -, f3, -⟩ := compare_spec (ω := ω) (d := d) (side := 0) tK_75 F2 i363 hg (Or.inr (by omega)) (Or.inl (by omega)) pD_PR (PR_ne (pD_ne (by omega)) RG) ⟨oL.1, dle_mono oL.2 (by omega)⟩ oG (by omega) rfl
    rw [show ((0 : Nat) : Int) = 0 from rfl] at q3
    have q4 := topF (ω := ω) (d := d + 3) i81 R7
    have fr : ∀ q, q ≠ 364 → q ≠ 75 → (q < 81 ∨ 111 ≤ q) → D3 q = D q := fun q a b c => by rw [f3 q b (by omega), pD_ne a]
    have st3 : Vl (d + 4) 132 143 [some (.inr (.inr (some 0))), some (.inr (.inr (some f))), some (.inr (.inr (some g))), some (.inl (n : Int)), some (.inr (.inl (pL Φ.1 (gsm (laR Φ F G) (i + 1)) n))), none, some (.inl ((i + 1 : Nat) : Int))] [] (hp ω D) = if (sz (cPart Φ 0 (ceul Φ 0 (lyc Φ.1 (grc (i + 1))) G)) : Int) - 1 = 0 then Vl (d + 4) 132 189 [some (.inr (.inr (some 0))), some (.inr (.inr (some f))), some (.inr (.inr (some g))), some (.inl (n : Int)), some (.inr (.inl (pL Φ.1 (gsm (laR Φ F G) (i + 1)) n))), none, some (.inl ((i + 1 : Nat) : Int))] [] (hp ω D3) else Vl (d + 4) 132 191 [some (.inr (.inr (some 0))), some (.inr (.inr (some f))), some (.inr (.inr (some g))), some (.inl (n : Int)), some (.inr (.inl (pL Φ.1 (gsm (laR Φ F G) (i + 1)) n))), none, some (.inl ((i + 1 : Nat) : Int))] [] (hp ω D3) := by
      simp only [vC_areLike_143, aGF kC, rC_0, rC_1, rC_2, rC_3, rC_4, rC_5, rC_6, rC_7, rC_8, rC_9, rC_10, rC_11, rC_12, aGF kA, rA_0, aGF (kT tT_3), aGF (kK tK_75), aGF (kF tF_76), q75_0, q75_1, q75_2, q75_3, q75_4, q75_6, q75_7, q75_8, q75_9, q75_10, q75_11, q75_12, q75_13, q75_14, q75_15, q75_16, aGF (kP i67), aGF (kP i69), aGF (kP i71), aGF (kP i73), aGF (kP i363), aGF (kP i81), aGF (kP i83), aGF (kP i85), aGF (kP i87), aGF (kP i89), aGF (kP i91), aGF (kP i93), aGF (kP i95), aGF (kP i97), aGF (kP i99), aGF (kP i101), aGF (kP i103), aGF (kP i105), aGF (kP i107), aGF (kP i109), aGF kS, q1, aVC, tlS, tlN, aLt, hwD]
      simp only [vC_areLike_156, aGF kC, rC_0, rC_1, rC_2, rC_3, rC_4, rC_5, rC_6, rC_7, rC_8, rC_9, rC_10, rC_11, rC_12, aGF kA, rA_0, aGF (kT tT_3), aGF (kK tK_75), aGF (kF tF_76), q75_0, q75_1, q75_2, q75_3, q75_4, q75_6, q75_7, q75_8, q75_9, q75_10, q75_11, q75_12, q75_13, q75_14, q75_15, q75_16, aGF (kP i67), aGF (kP i69), aGF (kP i71), aGF (kP i73), aGF (kP i363), aGF (kP i81), aGF (kP i83), aGF (kP i85), aGF (kP i87), aGF (kP i89), aGF (kP i91), aGF (kP i93), aGF (kP i95), aGF (kP i97), aGF (kP i99), aGF (kP i101), aGF (kP i103), aGF (kP i105), aGF (kP i107), aGF (kP i109), aGF kS, q2, aVC, tlS, tlN, aLt, hwD]
      simp only [vC_areLike_163, aGF kC, rC_0, rC_1, rC_2, rC_3, rC_4, rC_5, rC_6, rC_7, rC_8, rC_9, rC_10, rC_11, rC_12, aGF kA, rA_0, aGF (kT tT_3), aGF (kK tK_75), aGF (kF tF_76), q75_0, q75_1, q75_2, q75_3, q75_4, q75_6, q75_7, q75_8, q75_9, q75_10, q75_11, q75_12, q75_13, q75_14, q75_15, q75_16, aGF (kP i67), aGF (kP i69), aGF (kP i71), aGF (kP i73), aGF (kP i363), aGF (kP i81), aGF (kP i83), aGF (kP i85), aGF (kP i87), aGF (kP i89), aGF (kP i91), aGF (kP i93), aGF (kP i95), aGF (kP i97), aGF (kP i99), aGF (kP i101), aGF (kP i103), aGF (kP i105), aGF (kP i107), aGF (kP i109), q3, aVC, tlS, tlN, aLt, hwD]
      simp only [vC_areLike_176, aGF kC, rC_0, rC_1, rC_2, rC_3, rC_4, rC_5, rC_6, rC_7, rC_8, rC_9, rC_10, rC_11, rC_12, aGF kA, rA_0, aGF (kT tT_3), aGF (kK tK_75), aGF (kF tF_76), q75_0, q75_1, q75_2, q75_3, q75_4, q75_6, q75_7, q75_8, q75_9, q75_10, q75_11, q75_12, q75_13, q75_14, q75_15, q75_16, aGF (kP i67), aGF (kP i69), aGF (kP i71), aGF (kP i73), aGF (kP i363), aGF (kP i81), aGF (kP i83), aGF (kP i85), aGF (kP i87), aGF (kP i89), aGF (kP i91), aGF (kP i93), aGF (kP i95), aGF (kP i97), aGF (kP i99), aGF (kP i101), aGF (kP i103), aGF (kP i105), aGF (kP i107), aGF (kP i109), q4, aVC, tlS, tlN, aLt, hwD]
      rw [vC_areLike_186]
      rfl
    rw [st3]
    by_cases h1 : sz (cPart Φ 0 (ceul Φ 0 (lyc Φ.1 (grc (i + 1))) G)) = 1
    · rw [if_pos (by omega), hl2 ⟨h0, h1⟩, vC_areLike_189]
      refine ⟨D3, ?_, fr⟩
      unfold vZ
      rw [if_pos (Or.inr rfl)]
      first | done | rfl
    · rw [if_neg (by omega), hl1 (fun q => h1 q.2)]
      obtain ⟨D', q5, f5⟩ := st2 D3 (FT_congr (fun q _ _ => fr q (by omega) (by omega) (by omega)) hF) (PR_ne (fr _ (by omega) (by omega) (by omega)) RG) (SP_fr hS (fr 302 (by decide) (by decide) (by decide)))
      exact ⟨D', q5, fun q a b c => by rw [f5 q a b c, fr q a b c]⟩
theorem areLike_spec {ω : jw} {D : jD} {f g : Nat} (hF : FT Φ D 76) (hf : isP f) (hg : isP g) (hf1 : f < 66) (hg1 : g < 66) {F G : pl} (RF : PR D (f + 1) F) (RG : PR D (g + 1) G) (oF : pOK Φ F) (oG : pOK Φ G) {n : Nat} (hn : sz G = n + 1) (hmn : Φ.1 * n ≤ 12) : ∃ ω' D', Vl (d + 4) 132 0 [some (.inr (.inr (some 0))), some (.inr (.inr (some f))), some (.inr (.inr (some g))), some (.inl (n : Int)), none, none, none] [] (hp ω D) = some ((0, some (.inl (if lkl Φ F G n (2 ^ (Φ.1 * n) - 1) 1 = true then 1 else 0))), hp ω' D') ∧ wEq ω ω' ∧ ∀ q, q ≠ 302 → q ≠ 364 → q ≠ 75 → (q < 81 ∨ 111 ≤ q) → D' q = D q := by
  have m1 := F_m1 hF.1
  have hn12 : n ≤ 12 := Nat.le_trans (by have := Nat.mul_le_mul_right n m1; omega) hmn
  obtain ⟨D1, q1, S1, f1⟩ := beginS_spec (ω := ω) (D := D) (d := d + 3) hF (k := n) (by omega) (by omega) (laR Φ F G)
  obtain ⟨ω2, D2, u5, q2, S2, w2, f2⟩ := like_rows (d := d) hf hg hf1 hg1 oF oG hn hmn n 0 ω D1 none (by omega) (FT_congr (fun q _ _ => f1 q (by omega)) hF) (PR_ne (f1 _ (by omega)) RF) (PR_ne (f1 _ (by omega)) RG) (by rw [Nat.mul_zero]; exact S1)
  rw [show ((0 : Nat) : Int) = 0 from rfl] at q2
  have hpos : 0 < 2 ^ (Φ.1 * n) := Nat.two_pow_pos _
  have fr : ∀ q, q ≠ 302 → q ≠ 364 → q ≠ 90 → q ≠ 92 → D2 q = D q := fun q a b c e => by rw [f2 q a b c e, f1 q a]
  obtain ⟨D3, q3, f3⟩ := like_gray (d := d) (ω := ω2) (f := f) (F := F) hg hg1 oG hmn (2 ^ (Φ.1 * n) - 1) 0 D2 (by omega) (FT_congr (fun q _ _ => fr q (by omega) (by omega) (by omega) (by omega)) hF) (PR_ne (fr _ (by omega) (by omega) (by omega) (by omega)) RG) S2
  have e0 : pL Φ.1 (gsm (laR Φ F G) 0) n = 0 := by
    unfold pL
    rw [show pk Φ.1 (gsm (laR Φ F G) 0) n = 0 from pkq_z n (fun _ _ => rfl)]; rfl
  rw [e0, show ((0 + 1 : Nat) : Int) = 1 from rfl] at q3
  refine ⟨ω2, D3, ?_, w2, fun q a b c e => by rw [f3 q b c e, fr q a b (by omega) (by omega)]⟩
  simp only [vC_areLike_0, aGF kC, rC_0, rC_1, rC_2, rC_3, rC_4, rC_5, rC_6, rC_7, rC_8, rC_9, rC_10, rC_11, rC_12, aGF kA, rA_0, aGF (kT tT_3), aGF (kK tK_75), aGF (kF tF_76), q75_0, q75_1, q75_2, q75_3, q75_4, q75_6, q75_7, q75_8, q75_9, q75_10, q75_11, q75_12, q75_13, q75_14, q75_15, q75_16, aGF (kP i67), aGF (kP i69), aGF (kP i71), aGF (kP i73), aGF (kP i363), aGF (kP i81), aGF (kP i83), aGF (kP i85), aGF (kP i87), aGF (kP i89), aGF (kP i91), aGF (kP i93), aGF (kP i95), aGF (kP i97), aGF (kP i99), aGF (kP i101), aGF (kP i103), aGF (kP i105), aGF (kP i107), aGF (kP i109), aGF kS, q1, aVC, tlS, tlN, aLt, hwD]
  rw [vC_areLike_14, q2, vC_areLike_104, q3]
theorem like_op {ω : jw} {D : jD} (h : CS D A) (i j : Int) : ∃ ω' D', Vl (d + 5) 131 0 [some (.inr (.inr (some 0))), some (.inl i), some (.inl j), none, none, none] [] (hp ω D) = some ((0, some (.inl (oLike A i j))), hp ω' D') ∧ CS D' A ∧ wEq ω ω' ∧ ∀ q, 488 ≤ q → D' q = D q := by
  have hF : FT (aF A) D 76 := h.2.2.2.1
  have e1 : ¬ ((aN A i ∧ aN A j) ∧ sz (an A i) ≠ 0 ∧ sz (an A j) ≠ 0 ∧ fewD (aF A) (an A i) ∧ fewD (aF A) (an A j)) → oLike A i j = -2 := fun q => by
    unfold oLike; exact if_neg q
  have e2 : ((aN A i ∧ aN A j) ∧ sz (an A i) ≠ 0 ∧ sz (an A j) ≠ 0 ∧ fewD (aF A) (an A i) ∧ fewD (aF A) (an A j)) → (sz (an A j) = sz (an A i) ∧ (sz (an A i) = 1 ∨ lkl (aF A) (an A i) (an A j) (sz (an A i) - 1) (2 ^ ((aF A).1 * (sz (an A i) - 1)) - 1) 1 = true)) → oLike A i j = 1 := fun q q' => by
    unfold oLike; rw [if_pos q]; exact if_pos q'
  have e3 : ((aN A i ∧ aN A j) ∧ sz (an A i) ≠ 0 ∧ sz (an A j) ≠ 0 ∧ fewD (aF A) (an A i) ∧ fewD (aF A) (an A j)) → ¬ (sz (an A j) = sz (an A i) ∧ (sz (an A i) = 1 ∨ lkl (aF A) (an A i) (an A j) (sz (an A i) - 1) (2 ^ ((aF A).1 * (sz (an A i) - 1)) - 1) 1 = true)) → oLike A i j = 0 := fun q q' => by
    unfold oLike; rw [if_pos q]; exact if_neg q'
  have st : Vl (d + 5) 131 0 [some (.inr (.inr (some 0))), some (.inl i), some (.inl j), none, none, none] [] (hp ω D) = Vl (d + 5) 131 17 [some (.inr (.inr (some 0))), some (.inl i), some (.inl j), some (.inr (.inr (if aN A i then some (5 + 2 * i.toNat) else none))), none, none] [.inr (.inr (if aN A j then some (5 + 2 * j.toNat) else none))] (hp ω D) := by
    simp only [vC_like_0, aGF kC, rC_0, rC_1, rC_2, rC_3, rC_4, rC_5, rC_6, rC_7, rC_8, rC_9, rC_10, rC_11, rC_12, aGF kA, rA_0, aGF (kT tT_3), aGF (kK tK_75), aGF (kF tF_76), q75_0, q75_1, q75_2, q75_3, q75_4, q75_6, q75_7, q75_8, q75_9, q75_10, q75_11, q75_12, q75_13, q75_14, q75_15, q75_16, aGF (kP i67), aGF (kP i69), aGF (kP i71), aGF (kP i73), aGF (kP i363), aGF (kP i81), aGF (kP i83), aGF (kP i85), aGF (kP i87), aGF (kP i89), aGF (kP i91), aGF (kP i93), aGF (kP i95), aGF (kP i97), aGF (kP i99), aGF (kP i101), aGF (kP i103), aGF (kP i105), aGF (kP i107), aGF (kP i109), named3 h, aVC, tlS, tlN, aLt, hwD, vC_like_8]
  rw [st, vC_like_17]
  by_cases h1 : aN A i
  rotate_left
  · rw [if_neg h1, e1 (fun q => h1 q.1.1)]
    refine ⟨ω, D, ?_, h, wEq_r ω, fun _ _ => rfl⟩
    show Vl (d + 5) 131 43 _ [] _ = _
    rw [vC_like_43]
  rw [if_pos h1]
  show ∃ ω' D', Vl (d + 5) 131 23 _ [] _ = _ ∧ _
  rw [vC_like_23]
  by_cases h2 : aN A j
  rotate_left
  · rw [if_neg h2, e1 (fun q => h2 q.1.2)]
    refine ⟨ω, D, ?_, h, wEq_r ω, fun _ _ => rfl⟩
    show Vl (d + 5) 131 43 _ [] _ = _
    rw [vC_like_43]
  rw [if_pos h2]
  show ∃ ω' D', Vl (d + 5) 131 28 _ [] _ = _ ∧ _
  obtain ⟨p1, p2, p3, hi⟩ := CS_nm h h1
  obtain ⟨r1, r2, r3, hj⟩ := CS_nm h h2
  have h17 := sz_le (an A i)
  have h17' := sz_le (an A j)
  rw [vC_like_28, aGF (kP p1), isZeroF p1 p2, aVC, tlS, vC_like_32]
  by_cases h3 : sz (an A i) = 0
  · rw [if_pos h3, if_neg (by decide), vC_like_43, e1 (fun q => q.2.1 h3)]
    exact ⟨ω, D, rfl, h, wEq_r ω, fun _ _ => rfl⟩
  rw [if_neg h3, if_pos rfl, vC_like_35, aGF (kP r1), isZeroF r1 r2, aVC, tlS, vC_like_40]
  by_cases h4 : sz (an A j) = 0
  · rw [if_pos h4, if_neg (by decide), vC_like_43, e1 (fun q => q.2.2.1 h4)]
    exact ⟨ω, D, rfl, h, wEq_r ω, fun _ _ => rfl⟩
  rw [if_neg h4, if_pos rfl, vC_like_46, aGF (kP p1), topF p1 p2, aVC, tlS]
  simp only [vC_like_50, aGF kC, rC_0, rC_1, rC_2, rC_3, rC_4, rC_5, rC_6, rC_7, rC_8, rC_9, rC_10, rC_11, rC_12, aGF kA, rA_0, aGF (kT tT_3), aGF (kK tK_75), aGF (kF tF_76), q75_0, q75_1, q75_2, q75_3, q75_4, q75_6, q75_7, q75_8, q75_9, q75_10, q75_11, q75_12, q75_13, q75_14, q75_15, q75_16, aGF (kP i67), aGF (kP i69), aGF (kP i71), aGF (kP i73), aGF (kP i363), aGF (kP i81), aGF (kP i83), aGF (kP i85), aGF (kP i87), aGF (kP i89), aGF (kP i91), aGF (kP i93), aGF (kP i95), aGF (kP i97), aGF (kP i99), aGF (kP i101), aGF (kP i103), aGF (kP i105), aGF (kP i107), aGF (kP i109), isFew_spec tF_76 hF (show -100 ≤ (sz (an A i) : Int) - 1 by omega), aVC, tlS, tlN, aLt, hwD]
  rw [vC_like_64]
  by_cases h5 : fewD (aF A) (an A i)
  rotate_left
  · rw [if_neg (show ¬ ((sz (an A i) : Int) - 1 ≤ 12 ∧ ((sz (an A i) : Int) - 1) * ((aF A).1 : Int) ≤ 12) from h5), if_pos rfl, vC_like_85, e1 (fun q => h5 q.2.2.2.1)]
    exact ⟨ω, D, rfl, h, wEq_r ω, fun _ _ => rfl⟩
  rw [if_pos (show (sz (an A i) : Int) - 1 ≤ 12 ∧ ((sz (an A i) : Int) - 1) * ((aF A).1 : Int) ≤ 12 from h5), if_neg (by decide)]
  simp only [vC_like_67, aGF kC, rC_0, rC_1, rC_2, rC_3, rC_4, rC_5, rC_6, rC_7, rC_8, rC_9, rC_10, rC_11, rC_12, aGF kA, rA_0, aGF (kT tT_3), aGF (kK tK_75), aGF (kF tF_76), q75_0, q75_1, q75_2, q75_3, q75_4, q75_6, q75_7, q75_8, q75_9, q75_10, q75_11, q75_12, q75_13, q75_14, q75_15, q75_16, aGF (kP i67), aGF (kP i69), aGF (kP i71), aGF (kP i73), aGF (kP i363), aGF (kP i81), aGF (kP i83), aGF (kP i85), aGF (kP i87), aGF (kP i89), aGF (kP i91), aGF (kP i93), aGF (kP i95), aGF (kP i97), aGF (kP i99), aGF (kP i101), aGF (kP i103), aGF (kP i105), aGF (kP i107), aGF (kP i109), aGF (kP r1), topF r1 r2, aVC, tlS, tlN, aLt, hwD]
  simp only [vC_like_79, aGF (kF tF_76), isFew_spec tF_76 hF (show -100 ≤ (sz (an A j) : Int) - 1 by omega), aVC, tlS, tlN, aLt, hwD]
  rw [vC_like_82]
  by_cases h6 : fewD (aF A) (an A j)
  rotate_left
  · rw [if_neg (show ¬ ((sz (an A j) : Int) - 1 ≤ 12 ∧ ((sz (an A j) : Int) - 1) * ((aF A).1 : Int) ≤ 12) from h6), if_pos rfl, vC_like_85, e1 (fun q => h6 q.2.2.2.2)]
    exact ⟨ω, D, rfl, h, wEq_r ω, fun _ _ => rfl⟩
  rw [if_pos (show (sz (an A j) : Int) - 1 ≤ 12 ∧ ((sz (an A j) : Int) - 1) * ((aF A).1 : Int) ≤ 12 from h6), if_neg (by decide), vC_like_88, aGF (kP r1), topF r1 r2, aVC, tlS, vC_like_93]
  have hc : (aN A i ∧ aN A j) ∧ sz (an A i) ≠ 0 ∧ sz (an A j) ≠ 0 ∧ fewD (aF A) (an A i) ∧ fewD (aF A) (an A j) := ⟨⟨h1, h2⟩, h3, h4, h5, h6⟩
  by_cases h7 : sz (an A j) = sz (an A i)
  rotate_left
  · rw [if_neg (show ¬ ((sz (an A j) : Int) - 1 = (sz (an A i) : Int) - 1) by omega), vC_like_119, vC_like_120, e3 hc (fun q => h7 q.1)]
    exact ⟨ω, D, rfl, h, wEq_r ω, fun _ _ => rfl⟩
  rw [if_pos (show (sz (an A j) : Int) - 1 = (sz (an A i) : Int) - 1 by omega), vC_like_98]
  by_cases h8 : sz (an A i) = 1
  · rw [if_pos (show (sz (an A i) : Int) - 1 = 0 by omega), vC_like_115, vC_like_120, e2 hc ⟨h7, Or.inl h8⟩]
    exact ⟨ω, D, rfl, h, wEq_r ω, fun _ _ => rfl⟩
  rw [if_neg (show ¬ ((sz (an A i) : Int) - 1 = 0) by omega)]
  obtain ⟨n, hn⟩ : ∃ n, sz (an A i) = n + 1 := ⟨sz (an A i) - 1, by omega⟩
  have hmn : (aF A).1 * n ≤ 12 := by
    have e := h5.2
    rw [show (sz (an A i) : Int) - 1 = (n : Int) by omega, ← Int.natCast_mul, Nat.mul_comm] at e; omega
  rw [show (sz (an A i) : Int) - 1 = (n : Int) by omega]
  have en : sz (an A i) - 1 = n := by omega
  rw [en] at e2 e3
  obtain ⟨ω', D', q1, w1, f1⟩ := areLike_spec (ω := ω) (d := d) hF p1 r1 (by omega) (by omega) p2 r2 p3 r3 (show sz (an A j) = n + 1 by omega) hmn
  refine ⟨ω', D', ?_, CS_same h (fun c hc => f1 c (by unfold kept at hc; omega) (by unfold kept at hc; omega) (by unfold kept at hc; omega) (by unfold kept at hc; omega)), w1, fun q hq => f1 q (by omega) (by omega) (by omega) (by omega)⟩
  simp only [vC_like_103, aGF kC, rC_0, rC_1, rC_2, rC_3, rC_4, rC_5, rC_6, rC_7, rC_8, rC_9, rC_10, rC_11, rC_12, aGF kA, rA_0, aGF (kT tT_3), aGF (kK tK_75), aGF (kF tF_76), q75_0, q75_1, q75_2, q75_3, q75_4, q75_6, q75_7, q75_8, q75_9, q75_10, q75_11, q75_12, q75_13, q75_14, q75_15, q75_16, aGF (kP i67), aGF (kP i69), aGF (kP i71), aGF (kP i73), aGF (kP i363), aGF (kP i81), aGF (kP i83), aGF (kP i85), aGF (kP i87), aGF (kP i89), aGF (kP i91), aGF (kP i93), aGF (kP i95), aGF (kP i97), aGF (kP i99), aGF (kP i101), aGF (kP i103), aGF (kP i105), aGF (kP i107), aGF (kP i109), q1, aVC, tlS, tlN, aLt, hwD]
  rw [vC_like_112]
  by_cases h9 : lkl (aF A) (an A i) (an A j) n (2 ^ ((aF A).1 * n) - 1) 1 = true
  · rw [if_pos h9, if_neg (by decide), vC_like_115, vC_like_120, e2 hc ⟨h7, Or.inr h9⟩]
  · rw [if_neg h9, if_pos rfl, vC_like_119, vC_like_120, e3 hc (fun q => by rcases q.2 with q | q; exact h8 q; exact h9 q)]
end LIKE
