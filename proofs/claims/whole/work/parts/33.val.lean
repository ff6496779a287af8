/-! POWERS, RESTS, VALUES in the class -/
def pw (Φ : gF) (F : pl) : Nat → pl
  | 0 => mono 1 0
  | k + 1 => pJ Φ 0 (pw Φ F k) F
/-- x^k H without what G takes away, where n is G's degree -/
def lw (Φ : gF) (G : pl) (n hd : Nat) (H : pl) : Nat → pl
  | 0 => H
  | k + 1 => pA (pS Φ (lw Φ G n hd H k)) (pM Φ (fm Φ (pS Φ (lw Φ G n hd H k) n) hd) G)
def lv (Φ : gF) (F G : pl) (n hd : Nat) (H : pl) : Nat → pl
  | 0 => p0
  | k + 1 => pA (lv Φ F G n hd H k) (pM Φ (F k) (lw Φ G n hd H k))
def lvr (Φ : gF) (F H G : pl) : pl := if sz G ≤ 1 then p0 else lv Φ F G (sz G - 1) (fi Φ (G (sz G - 1))) H (sz F)
def nrm (Φ : gF) (a r : Nat) : Nat → Nat
  | 0 => r
  | k + 1 => fst_ Φ a (nrm Φ a r k)
def apn (Φ : gF) (F : pl) (a r : Nat) : Nat → Nat
  | 0 => 0
  | k + 1 => apn Φ F a r k ^^^ fm Φ (F k) (nrm Φ a r k)
def app (Φ : gF) (F : pl) (a r : Nat) : Nat := apn Φ F a r (sz F)
def lin (v : Nat) : pl := fun c => if c = 0 then v else mono 1 1 c
def tkn (Φ : gF) (F : pl) (a : Nat) : pl := if app Φ F a 1 = 0 then F else pJ Φ 0 (lin (fkn Φ a (app Φ F a 1))) F
section VAL
variable {Φ : gF}
theorem pw_in (h : FOK Φ) {F : pl} (oF : pOK Φ F) : ∀ k, inF Φ (pw Φ F k)
  | 0 => mono_in (by have := F_2 h; omega) 0
  | k + 1 => pJ_in h (pw_in h oF k) oF.1
theorem pw_sz {F : pl} (oF : pOK Φ F) : ∀ k, (sz F - 1) * k ≤ 16 → dle (pw Φ F k) 17 ∧ sz (pw Φ F k) ≤ (sz F - 1) * k + 1
  | 0, _ => ⟨dle_mono (mono_dle _ _) (by decide), sz_mono 1 0⟩
  | k + 1, h => by
    rw [Nat.mul_succ] at h ⊢
    obtain ⟨a1, a2⟩ := pw_sz oF k (by omega)
    have hj := pJ_sz (Φ := Φ) (side := 0) a1 oF.2
    have hF := sz_le F
    refine ⟨?_, ?_⟩
    · refine pJ_dle a1 oF.2 17 ?_
      by_cases hz : sz F = 0
      · have := sz_le (pw Φ F k); omega
      · omega
    · show sz (pJ Φ 0 (pw Φ F k) F) ≤ _
      split at hj <;> omega
theorem lw_in (h : FOK Φ) {G H : pl} {n hd : Nat} (iH : inF Φ H) : ∀ k, inF Φ (lw Φ G n hd H k)
  | 0 => iH
  | k + 1 => pA_in (pS_in h (lw_in h iH k)) (pM_in h (fm_lt h (pS_in h (lw_in h iH k) n)) G)
theorem lv_in (h : FOK Φ) {F G H : pl} {n hd : Nat} (iF : inF Φ F) : ∀ k, inF Φ (lv Φ F G n hd H k)
  | 0 => p0_in Φ
  | k + 1 => pA_in (lv_in h iF k) (pM_in h (iF k) _)
theorem lw_dle (h : FOK Φ) {G H : pl} {n : Nat} (iG : inF Φ G) (dG : dle G (n + 1)) (g0 : G n ≠ 0) (iH : inF Φ H) (dH : dle H n) : ∀ k, dle (lw Φ G n (fi Φ (G n)) H k) n
  | 0 => dH
  | k + 1 => fun b hb => by
    have ih := lw_dle h iG dG g0 iH dH k
    have i1 := pS_in h (lw_in h (G := G) (n := n) (hd := fi Φ (G n)) iH k) n
    show pS Φ _ b ^^^ fm Φ _ (G b) = 0
    by_cases q : b = n
    · rw [q, fm_a h i1 (fi_lt h (iG n)), fi_m2 h (iG n) g0, fm_1r, Nat.xor_self]
    · rw [pS_dle ih b (by omega), dG b (by omega), fm_0r]; rfl
theorem lv_dle {F G H : pl} {n hd : Nat} (hw : ∀ k, dle (lw Φ G n hd H k) n) : ∀ k, dle (lv Φ F G n hd H k) n
  | 0 => p0_dle n
  | k + 1 => pA_dle (lv_dle hw k) (pM_dle (hw k))
theorem nrm_lt (h : FOK Φ) {a r : Nat} (hr : r < 2 ^ Φ.1) : ∀ k, nrm Φ a r k < 2 ^ Φ.1
  | 0 => hr
  | k + 1 => fst_lt h (nrm_lt h hr k)
theorem apn_lt (h : FOK Φ) {F : pl} (iF : inF Φ F) {a r : Nat} : ∀ k, apn Φ F a r k < 2 ^ Φ.1
  | 0 => F_pos Φ
  | k + 1 => x_lt (apn_lt h iF k) (fm_lt h (iF k))
theorem app_lt (h : FOK Φ) {F : pl} (iF : inF Φ F) (a r : Nat) : app Φ F a r < 2 ^ Φ.1 := apn_lt h iF _
theorem fkn_lt (h : FOK Φ) {a c : Nat} (hc : c < 2 ^ Φ.1) : fkn Φ a c < 2 ^ Φ.1 := fm_lt h (fst_lt h hc)
theorem lin_OK (h : FOK Φ) {v : Nat} (hv : v < 2 ^ Φ.1) : pOK Φ (lin v) ∧ sz (lin v) = 2 := by
  have d2 : dle (lin v) 2 := fun b hb => by unfold lin mono; rw [if_neg (by omega), if_neg (by omega)]
  refine ⟨⟨fun b => ?_, dle_mono d2 (by decide)⟩, sz_of (s := 1) (by decide) (show (if (1 : Nat) = 0 then v else if (1 : Nat) = 1 then 1 else 0) ≠ 0 by rw [if_neg (by decide), if_pos rfl]; decide) d2⟩
  unfold lin
  split
  · exact hv
  · exact mono_in (by have := F_2 h; omega) 1 b
theorem tkn_OK (h : FOK Φ) {F : pl} (oF : pOK Φ F) {a : Nat} (hs : sz F ≤ 16) : pOK Φ (tkn Φ F a) ∧ sz (tkn Φ F a) ≤ sz F + 1 := by
  unfold tkn
  split
  · exact ⟨oF, by omega⟩
  · obtain ⟨l1, l2⟩ := lin_OK h (fkn_lt h (a := a) (app_lt h oF.1 a 1))
    refine ⟨⟨pJ_in h l1.1 oF.1, pJ_dle l1.2 oF.2 17 (by omega)⟩, ?_⟩
    have := pJ_sz (Φ := Φ) (side := 0) l1.2 oF.2
    split at this <;> omega
end VAL
section VALC
variable {ω : jw} {D : jD} {b d : Nat} {Φ : gF}
theorem multiply_spec (hb : isK b) (hF : FT Φ D (b + 1)) {f g out : Nat} (hf : isP f) (hg : isP g) (ho : isP out) (hf1 : f ≠ b + 16) (hf2 : f ≠ b + 18) (hg1 : g ≠ b + 16) (hg2 : g ≠ b + 18) {F G : pl} (RF : PR D (f + 1) F) (RG : PR D (g + 1) G) (oF : pOK Φ F) (oG : pOK Φ G) (hfit : sz F = 0 ∨ sz G = 0 ∨ sz F + sz G ≤ 18) :
    ∃ D', Vl (d + 2) 82 0 [some (.inr (.inr (some b))), some (.inr (.inr (some f))), some (.inr (.inr (some g))), some (.inr (.inr (some out)))] [] (hp ω D) = some ((0, some (.inl 1)), hp ω D') ∧ PR D' (out + 1) (pJ Φ 0 F G) ∧ ∀ c, c ≠ b + 17 → c ≠ b + 19 → c ≠ out + 1 → D' c = D c := by
  obtain ⟨D1, q1, R1, f1⟩ := join_spec (ω := ω) (d := d) hb hF hf hg ho hf1 hf2 hg1 hg2 RF RG oF.1 oG.1 oF.2 oG.2 hfit (side := 0) (by decide)
  refine ⟨D1, ?_, R1, f1⟩
  rw [show ((0 : Nat) : Int) = 0 from rfl] at q1
  simp only [vK_multiply_0, aGF (kK hb), rK_0 hb, aGF (kF (fK hb)), rK_1 hb, rK_2 hb, rK_3 hb, rK_4 hb, rK_6 hb, rK_7 hb, rK_8 hb, rK_9 hb, rK_10 hb, rK_11 hb, rK_12 hb, rK_13 hb, rK_14 hb, rK_15 hb, rK_16 hb, aGF (kP (pK_6 hb)), aGF (kP (pK_8 hb)), aGF (kP (pK_10 hb)), aGF (kP (pK_12 hb)), aGF (kP (pK_14 hb)), aGF (kP (pK_16 hb)), aGF (kP (pK_18 hb)), aGF (kP (pK_20 hb)), aGF (kP (pK_22 hb)), aGF (kP (pK_24 hb)), aGF (kP (pK_26 hb)), aGF (kP (pK_28 hb)), aGF (kP (pK_30 hb)), aGF (kP (pK_32 hb)), aGF (kP (pK_34 hb)), rP (pK_6 hb), rP (pK_8 hb), rP (pK_10 hb), rP (pK_12 hb), rP (pK_14 hb), rP (pK_16 hb), rP (pK_18 hb), rP (pK_20 hb), rP (pK_22 hb), rP (pK_24 hb), rP (pK_26 hb), rP (pK_28 hb), rP (pK_30 hb), rP (pK_32 hb), rP (pK_34 hb), q1, aVC, tlS, tlN, aLt, hwD, vK_multiply_8, aZ1]
theorem multiply_no (hb : isK b) {f g out : Nat} (hf : isP f) (hg : isP g) {F G : pl} (RF : PR D (f + 1) F) (RG : PR D (g + 1) G) (h1 : sz F ≠ 0) (h2 : sz G ≠ 0) (h3 : 18 < sz F + sz G) : Vl (d + 2) 82 0 [some (.inr (.inr (some b))), some (.inr (.inr (some f))), some (.inr (.inr (some g))), some (.inr (.inr (some out)))] [] (hp ω D) = some ((0, some (.inl 0)), hp ω D) := by
  have q1 := join_no (ω := ω) (d := d) (b := b) (out := out) hf hg RF RG h1 h2 h3 (side := 0) (by decide)
  rw [show ((0 : Nat) : Int) = 0 from rfl] at q1
  simp only [vK_multiply_0, aGF (kK hb), rK_0 hb, aGF (kF (fK hb)), rK_1 hb, rK_2 hb, rK_3 hb, rK_4 hb, rK_6 hb, rK_7 hb, rK_8 hb, rK_9 hb, rK_10 hb, rK_11 hb, rK_12 hb, rK_13 hb, rK_14 hb, rK_15 hb, rK_16 hb, aGF (kP (pK_6 hb)), aGF (kP (pK_8 hb)), aGF (kP (pK_10 hb)), aGF (kP (pK_12 hb)), aGF (kP (pK_14 hb)), aGF (kP (pK_16 hb)), aGF (kP (pK_18 hb)), aGF (kP (pK_20 hb)), aGF (kP (pK_22 hb)), aGF (kP (pK_24 hb)), aGF (kP (pK_26 hb)), aGF (kP (pK_28 hb)), aGF (kP (pK_30 hb)), aGF (kP (pK_32 hb)), aGF (kP (pK_34 hb)), rP (pK_6 hb), rP (pK_8 hb), rP (pK_10 hb), rP (pK_12 hb), rP (pK_14 hb), rP (pK_16 hb), rP (pK_18 hb), rP (pK_20 hb), rP (pK_22 hb), rP (pK_24 hb), rP (pK_26 hb), rP (pK_28 hb), rP (pK_30 hb), rP (pK_32 hb), rP (pK_34 hb), q1, aVC, tlS, tlN, aLt, hwD, vK_multiply_8, aZ0]
theorem raise_loop (hb : isK b) (hF : FT Φ D (b + 1)) {f : Nat} (hf : isP f) (f1 : f ≠ b + 16) (f2 : f ≠ b + 18) (f3 : f ≠ b + 34) {F : pl} (RF : PR D (f + 1) F) (oF : pOK Φ F) {n : Nat} (hn : (sz F - 1) * n ≤ 16) (hn16 : n ≤ 16) : ∀ (r k : Nat) (Dk : jD), k + r = n → PR Dk (b + 35) (pw Φ F k) → (∀ c, c ≠ b + 17 → c ≠ b + 19 → c ≠ b + 35 → Dk c = D c) →
    ∃ D', Vl (d + 3) 81 23 [some (.inr (.inr (some b))), some (.inr (.inr (some f))), some (.inl (n : Int)), some (.inl (k : Int))] [] (hp ω Dk) = some ((0, some (.inl 1)), hp ω D') ∧ PR D' (f + 1) (pw Φ F n) ∧ ∀ c, c ≠ b + 17 → c ≠ b + 19 → c ≠ b + 35 → c ≠ f + 1 → D' c = D c
  | 0, k, Dk, hk, hP, hfr => by
    have q := copyF (ω := ω) (d := d + 2) hf (pK_34 hb) hP
    refine ⟨pD Dk (f + 1) (rI (pw Φ F k)), ?_, by rw [show n = k by omega]; exact pD_PR, fun c h1 h2 h3 h4 => by rw [pD_ne h4, hfr c h1 h2 h3]⟩
    · rw [vK_raise_23, if_neg (by omega)]
      simp only [vK_raise_48, aGF (kK hb), rK_0 hb, aGF (kF (fK hb)), rK_1 hb, rK_2 hb, rK_3 hb, rK_4 hb, rK_6 hb, rK_7 hb, rK_8 hb, rK_9 hb, rK_10 hb, rK_11 hb, rK_12 hb, rK_13 hb, rK_14 hb, rK_15 hb, rK_16 hb, aGF (kP (pK_6 hb)), aGF (kP (pK_8 hb)), aGF (kP (pK_10 hb)), aGF (kP (pK_12 hb)), aGF (kP (pK_14 hb)), aGF (kP (pK_16 hb)), aGF (kP (pK_18 hb)), aGF (kP (pK_20 hb)), aGF (kP (pK_22 hb)), aGF (kP (pK_24 hb)), aGF (kP (pK_26 hb)), aGF (kP (pK_28 hb)), aGF (kP (pK_30 hb)), aGF (kP (pK_32 hb)), aGF (kP (pK_34 hb)), rP (pK_6 hb), rP (pK_8 hb), rP (pK_10 hb), rP (pK_12 hb), rP (pK_14 hb), rP (pK_16 hb), rP (pK_18 hb), rP (pK_20 hb), rP (pK_22 hb), rP (pK_24 hb), rP (pK_26 hb), rP (pK_28 hb), rP (pK_30 hb), rP (pK_32 hb), rP (pK_34 hb), aGF (kP hf), rP hf, q, aVC, tlS, tlN, aLt, hwD, vK_raise_56, aZ1]
  | r + 1, k, Dk, hk, hP, hfr => by
    have hm : (sz F - 1) * k + (sz F - 1) ≤ (sz F - 1) * n := by
      rw [← Nat.mul_succ]; exact Nat.mul_le_mul_left _ (by omega)
    obtain ⟨d1, d2⟩ := pw_sz (Φ := Φ) oF k (by omega)
    obtain ⟨D1, q1, R1, g1⟩ := multiply_spec (ω := ω) (d := d) hb (FT_fr hF (fun c h1 h2 => hfr c (by omega) (by omega) (by omega))) (pK_34 hb) hf (pK_34 hb) (by omega) (by omega) f1 f2 hP (PR_ne (hfr _ (by omega) (by omega) (by omega)) RF) ⟨pw_in hF.1 oF k, d1⟩ oF (by omega)
    obtain ⟨D2, q2, R2, g2⟩ := raise_loop hb hF hf f1 f2 f3 RF oF hn hn16 r (k + 1) D1 (by omega) R1 (fun c h1 h2 h3 => by rw [g1 c h1 h2 h3, hfr c h1 h2 h3])
    refine ⟨D2, ?_, R2, g2⟩
    rw [vK_raise_23, if_pos (by omega)]
    simp only [vK_raise_28, aGF (kK hb), rK_0 hb, aGF (kF (fK hb)), rK_1 hb, rK_2 hb, rK_3 hb, rK_4 hb, rK_6 hb, rK_7 hb, rK_8 hb, rK_9 hb, rK_10 hb, rK_11 hb, rK_12 hb, rK_13 hb, rK_14 hb, rK_15 hb, rK_16 hb, aGF (kP (pK_6 hb)), aGF (kP (pK_8 hb)), aGF (kP (pK_10 hb)), aGF (kP (pK_12 hb)), aGF (kP (pK_14 hb)), aGF (kP (pK_16 hb)), aGF (kP (pK_18 hb)), aGF (kP (pK_20 hb)), aGF (kP (pK_22 hb)), aGF (kP (pK_24 hb)), aGF (kP (pK_26 hb)), aGF (kP (pK_28 hb)), aGF (kP (pK_30 hb)), aGF (kP (pK_32 hb)), aGF (kP (pK_34 hb)), rP (pK_6 hb), rP (pK_8 hb), rP (pK_10 hb), rP (pK_12 hb), rP (pK_14 hb), rP (pK_16 hb), rP (pK_18 hb), rP (pK_20 hb), rP (pK_22 hb), rP (pK_24 hb), rP (pK_26 hb), rP (pK_28 hb), rP (pK_30 hb), rP (pK_32 hb), rP (pK_34 hb), q1, aVC, tlS, tlN, aLt, hwD, vK_raise_41]
    rw [w32_s (by omega), q2]
theorem raise_spec (hb : isK b) (hF : FT Φ D (b + 1)) {f : Nat} (hf : isP f) (f1 : f ≠ b + 16) (f2 : f ≠ b + 18) (f3 : f ≠ b + 34) {F : pl} (RF : PR D (f + 1) F) (oF : pOK Φ F) {n : Nat} (hn16 : n ≤ 16) (hn : (sz F - 1) * n ≤ 16) :
    ∃ D', Vl (d + 3) 81 0 [some (.inr (.inr (some b))), some (.inr (.inr (some f))), some (.inl (n : Int)), none] [] (hp ω D) = some ((0, some (.inl 1)), hp ω D') ∧ PR D' (f + 1) (pw Φ F n) ∧ ∀ c, c ≠ b + 17 → c ≠ b + 19 → c ≠ b + 35 → c ≠ f + 1 → D' c = D c := by
  have h17 := sz_le F
  have q1 := constantF (ω := ω) (D := D) (d := d + 1) (v := 1) (pK_34 hb)
  rw [show ((1 : Nat) : Int) = 1 from rfl] at q1
  obtain ⟨D2, q2, R2, g2⟩ := raise_loop (ω := ω) (d := d) hb hF hf f1 f2 f3 RF oF hn hn16 n 0 (pD D (b + 34 + 1) (rI (mono 1 0))) (by omega) pD_PR (fun c h1 h2 h3 => pD_ne h3)
  refine ⟨D2, ?_, R2, g2⟩
  simp only [vK_raise_0, aGF (kP hf), rP hf, topF hf RF, aVC, tlS, tlN, aLt, hwD]
  have e : ¬ (16 < w32 (((sz F : Int) - 1) * (n : Int))) := by
    by_cases hz : sz F = 0
    · rw [hz]; unfold w32; omega
    · rw [show (sz F : Int) - 1 = ((sz F - 1 : Nat) : Int) by omega, w32_ml (by omega)]; omega
  rw [vK_raise_4, if_neg e]
  simp only [vK_raise_13, aGF (kK hb), rK_0 hb, aGF (kF (fK hb)), rK_1 hb, rK_2 hb, rK_3 hb, rK_4 hb, rK_6 hb, rK_7 hb, rK_8 hb, rK_9 hb, rK_10 hb, rK_11 hb, rK_12 hb, rK_13 hb, rK_14 hb, rK_15 hb, rK_16 hb, aGF (kP (pK_6 hb)), aGF (kP (pK_8 hb)), aGF (kP (pK_10 hb)), aGF (kP (pK_12 hb)), aGF (kP (pK_14 hb)), aGF (kP (pK_16 hb)), aGF (kP (pK_18 hb)), aGF (kP (pK_20 hb)), aGF (kP (pK_22 hb)), aGF (kP (pK_24 hb)), aGF (kP (pK_26 hb)), aGF (kP (pK_28 hb)), aGF (kP (pK_30 hb)), aGF (kP (pK_32 hb)), aGF (kP (pK_34 hb)), rP (pK_6 hb), rP (pK_8 hb), rP (pK_10 hb), rP (pK_12 hb), rP (pK_14 hb), rP (pK_16 hb), rP (pK_18 hb), rP (pK_20 hb), rP (pK_22 hb), rP (pK_24 hb), rP (pK_26 hb), rP (pK_28 hb), rP (pK_30 hb), rP (pK_32 hb), rP (pK_34 hb), q1, aVC, tlS, tlN, aLt, hwD, vK_raise_21]
  exact q2
theorem raise_no {f : Nat} (hf : isP f) {F : pl} (RF : PR D (f + 1) F) {n : Nat} (hn16 : n ≤ 16) (h0 : sz F ≠ 0) (hn : 16 < (sz F - 1) * n) : Vl (d + 1) 81 0 [some (.inr (.inr (some b))), some (.inr (.inr (some f))), some (.inl (n : Int)), none] [] (hp ω D) = some ((0, some (.inl 0)), hp ω D) := by
  have h17 := sz_le F
  have hm : (sz F - 1) * n ≤ 16 * 16 := Nat.mul_le_mul (by omega) hn16
  simp only [vK_raise_0, aGF (kP hf), rP hf, topF hf RF, aVC, tlS, tlN, aLt, hwD]
  rw [vK_raise_4, if_pos (by rw [show (sz F : Int) - 1 = ((sz F - 1 : Nat) : Int) by omega, w32_ml (by omega)]; omega), vK_raise_11]; rfl
theorem leave_loop (hb : isK b) (hF : FT Φ D (b + 1)) {f g : Nat} (hf : isP f) (hg : isP g) (f1 : f ≠ b + 14) (f2 : f ≠ b + 16) (g1 : g ≠ b + 14) (g2 : g ≠ b + 16) {F G H : pl} (RF : PR D (f + 1) F) (RG : PR D (g + 1) G) (oF : pOK Φ F) (oG : pOK Φ G) (iH : inF Φ H) {n : Nat} (hn : sz G = n + 2) (dH : dle H (n + 1)) (o2 : Option Nat) : ∀ (r k : Nat) (Dk : jD), k + r = sz F → PR Dk (b + 17) (lw Φ G (n + 1) (fi Φ (G (n + 1))) H k) → PR Dk (b + 15) (lv Φ F G (n + 1) (fi Φ (G (n + 1))) H k) → (∀ c, c ≠ b + 15 → c ≠ b + 17 → Dk c = D c) →
    ∃ D', Vl (d + 1) 118 45 [some (.inr (.inr (some b))), some (.inr (.inr (some f))), some (.inr (.inr o2)), some (.inr (.inr (some g))), some (.inl ((n + 1 : Nat) : Int)), some (.inl ((sz F : Int) - 1)), some (.inl (fi Φ (G (n + 1)) : Int)), some (.inl (k : Int))] [] (hp ω Dk) = some ((0, none), hp ω D') ∧ PR D' (b + 15) (lv Φ F G (n + 1) (fi Φ (G (n + 1))) H (sz F)) ∧ ∀ c, c ≠ b + 15 → c ≠ b + 17 → D' c = D c
  | 0, k, Dk, hk, hW, hV, hfr => by
    refine ⟨Dk, ?_, by rw [← show k = sz F by omega]; exact hV, hfr⟩
    rw [vK_leave_45, if_pos (by omega), vK_leave_150]
  | r + 1, k, Dk, hk, hW, hV, hfr => by
    have h17 := sz_le F
    have g17 := sz_le G
    have dG : dle G (n + 1 + 1) := by rw [← hn]; exact sz_dle oG.2
    have g0 : G (n + 1) ≠ 0 := sz_top hn
    have hFk : FT Φ Dk (b + 1) := FT_fr hF (fun c h1 h2 => hfr c (by omega) (by omega))
    have RFk : PR Dk (f + 1) F := PR_ne (hfr _ (by omega) (by omega)) RF
    have iW := lw_in (Φ := Φ) hF.1 (G := G) (n := n + 1) (hd := fi Φ (G (n + 1))) iH k
    have dW := lw_dle (Φ := Φ) hF.1 oG.1 dG g0 iH dH k
    have hi := fi_lt (Φ := Φ) hF.1 (oG.1 (n + 1))
    have q1 := addTimes_spec (ω := ω) (d := d) (fK hb) hFk (kPa (pK_14 hb)) (kPa (pK_16 hb)) (fun j hj => by omega) (by omega) (T := n) (by omega) hV hW (lv_in hF.1 oF.1 k) iW (fun c h1 h2 => dW c (by omega)) (oF.1 k)
    obtain ⟨D1, hD1⟩ : ∃ D1, D1 = pD Dk (b + 14 + 1) (rI (fun c => lv Φ F G (n + 1) (fi Φ (G (n + 1))) H k c ^^^ fm Φ (F k) (lw Φ G (n + 1) (fi Φ (G (n + 1))) H k c))) := ⟨_, rfl⟩
    rw [← hD1] at q1
    have m1 : ∀ c, c ≠ b + 15 → D1 c = Dk c := fun c h => by rw [hD1, pD_ne h]
    have F1 : FT Φ D1 (b + 1) := FT_fr hFk (fun c h1 h2 => m1 c (by omega))
    have W1 : PR D1 (b + 16 + 1) (lw Φ G (n + 1) (fi Φ (G (n + 1))) H k) := PR_ne (m1 _ (by omega)) hW
    have q2 := passLetter_spec (ω := ω) (d := d) (fK hb) F1 (kPa (pK_16 hb)) (fun j hj => by omega) W1 iW (T := n) (by omega) (fun c h1 h2 => dW c (by omega))
    obtain ⟨D2, hD2⟩ : ∃ D2, D2 = pD D1 (b + 16 + 1) (rI (pS Φ (lw Φ G (n + 1) (fi Φ (G (n + 1))) H k))) := ⟨_, rfl⟩
    rw [← hD2] at q2
    have m2 : ∀ c, c ≠ b + 17 → D2 c = D1 c := fun c h => by rw [hD2, pD_ne h]
    have F2 : FT Φ D2 (b + 1) := FT_fr F1 (fun c h1 h2 => m2 c (by omega))
    have W2 : PR D2 (b + 16 + 1) (pS Φ (lw Φ G (n + 1) (fi Φ (G (n + 1))) H k)) := by rw [hD2]; exact pD_PR
    have iS := pS_in (Φ := Φ) hF.1 iW
    have dS : dle (pS Φ (lw Φ G (n + 1) (fi Φ (G (n + 1))) H k)) 17 := dle_mono (pS_dle dW) (by omega)
    have q3 := getF (ω := ω) (d := d) (pK_16 hb) W2 dS (j := n + 1) (by omega)
    have q4 := product_spec (ω := ω) (d := d) (fK hb) F2 (iS (n + 1)) hi
    have G2 : PR D2 (g + 1) G := PR_ne (by rw [m2 _ (by omega), m1 _ (by omega), hfr _ (by omega) (by omega)]) RG
    have q5 := addTimes_spec (ω := ω) (d := d) (fK hb) F2 (kPa (pK_16 hb)) (kPa hg) (fun j hj => by omega) (by omega) (T := n + 1) (by omega) W2 G2 iS oG.1 (fun c h1 h2 => dG c (by omega)) (fm_lt (b := fi Φ (G (n + 1))) hF.1 (iS (n + 1)))
    obtain ⟨D', a1, a2, a3⟩ := leave_loop hb hF hf hg f1 f2 g1 g2 RF RG oF oG iH hn dH o2 r (k + 1) (pD D2 (b + 16 + 1) (rI (fun c => pS Φ (lw Φ G (n + 1) (fi Φ (G (n + 1))) H k) c ^^^ fm Φ (fm Φ (pS Φ (lw Φ G (n + 1) (fi Φ (G (n + 1))) H k) (n + 1)) (fi Φ (G (n + 1)))) (G c)))) (by omega) pD_PR (PR_ne (by rw [pD_ne (by omega), m2 _ (by omega)]) (by rw [hD1]; exact pD_PR)) (fun c h1 h2 => by rw [pD_ne (by omega), m2 c h2, m1 c h1, hfr c h1 h2])
    refine ⟨D', ?_, a2, a3⟩
    rw [vK_leave_45, if_neg (by omega), vK_leave_52, if_pos (by omega)]
    simp only [vK_leave_57, aGF (kK hb), rK_0 hb, aGF (kF (fK hb)), rK_1 hb, rK_2 hb, rK_3 hb, rK_4 hb, rK_6 hb, rK_7 hb, rK_8 hb, rK_9 hb, rK_10 hb, rK_11 hb, rK_12 hb, rK_13 hb, rK_14 hb, rK_15 hb, rK_16 hb, aGF (kP (pK_6 hb)), aGF (kP (pK_8 hb)), aGF (kP (pK_10 hb)), aGF (kP (pK_12 hb)), aGF (kP (pK_14 hb)), aGF (kP (pK_16 hb)), aGF (kP (pK_18 hb)), aGF (kP (pK_20 hb)), aGF (kP (pK_22 hb)), aGF (kP (pK_24 hb)), aGF (kP (pK_26 hb)), aGF (kP (pK_28 hb)), aGF (kP (pK_30 hb)), aGF (kP (pK_32 hb)), aGF (kP (pK_34 hb)), rP (pK_6 hb), rP (pK_8 hb), rP (pK_10 hb), rP (pK_12 hb), rP (pK_14 hb), rP (pK_16 hb), rP (pK_18 hb), rP (pK_20 hb), rP (pK_22 hb), rP (pK_24 hb), rP (pK_26 hb), rP (pK_28 hb), rP (pK_30 hb), rP (pK_32 hb), rP (pK_34 hb), aGF (kP hf), rP hf, getF hf RFk oF.2 (show k < 2147483648 by omega), aVC, tlS, tlN, aLt, hwD, vK_leave_74, show w32 (((n + 1 : Nat) : Int) - 1) = (n : Int) by unfold w32; omega, q1, vK_leave_88, q2, vK_leave_106, q3, vK_leave_130, aGF (kF (fK hb)), q4, vK_leave_135, aGF (kP hg), rP hg, q5, vK_leave_144]
    rw [w32_s (by omega), a1]
theorem leave_spec (hb : isK b) (hF : FT Φ D (b + 1)) {f h g : Nat} (hf : isP f) (hh : isP h) (hg : isP g) (f1 : f ≠ b + 14) (f2 : f ≠ b + 16) (g1 : g ≠ b + 14) (g2 : g ≠ b + 16) (h1 : h ≠ b + 14) {F G H : pl} (RF : PR D (f + 1) F) (RH : PR D (h + 1) H) (RG : PR D (g + 1) G) (oF : pOK Φ F) (oG : pOK Φ G) (iH : inF Φ H) (hn : sz G ≠ 0) (dH : 1 < sz G → dle H (sz G - 1)) :
    ∃ D', Vl (d + 1) 118 0 [some (.inr (.inr (some b))), some (.inr (.inr (some f))), some (.inr (.inr (some h))), some (.inr (.inr (some g))), none, none, none, none] [] (hp ω D) = some ((0, none), hp ω D') ∧ PR D' (b + 15) (lvr Φ F H G) ∧ ∀ c, c ≠ b + 15 → c ≠ b + 17 → D' c = D c := by
  have h17 := sz_le F
  have g17 := sz_le G
  have q1 := clearF (ω := ω) (D := D) (d := d) (pK_14 hb)
  have H1 : PR (pD D (b + 14 + 1) (rI p0)) (h + 1) H := PR_ne (pD_ne (by omega)) RH
  have q2 := copyF (ω := ω) (d := d) (pK_16 hb) hh H1
  have st : Vl (d + 1) 118 0 [some (.inr (.inr (some b))), some (.inr (.inr (some f))), some (.inr (.inr (some h))), some (.inr (.inr (some g))), none, none, none, none] [] (hp ω D) = Vl (d + 1) 118 45 [some (.inr (.inr (some b))), some (.inr (.inr (some f))), some (.inr (.inr (some h))), some (.inr (.inr (some g))), some (.inl ((sz G - 1 : Nat) : Int)), some (.inl ((sz F : Int) - 1)), some (.inl (fi Φ (G (sz G - 1)) : Int)), some (.inl 0)] [] (hp ω (pD (pD D (b + 14 + 1) (rI p0)) (b + 16 + 1) (rI H))) := by
    simp only [vK_leave_0, aGF (kP hg), rP hg, topF hg RG, aVC, tlS, tlN, aLt, hwD, vK_leave_4, aGF (kP hf), rP hf, topF hf RF, show (sz G : Int) - 1 = ((sz G - 1 : Nat) : Int) by omega, vK_leave_10, aGF (kK hb), rK_0 hb, aGF (kF (fK hb)), rK_1 hb, rK_2 hb, rK_3 hb, rK_4 hb, rK_6 hb, rK_7 hb, rK_8 hb, rK_9 hb, rK_10 hb, rK_11 hb, rK_12 hb, rK_13 hb, rK_14 hb, rK_15 hb, rK_16 hb, aGF (kP (pK_6 hb)), aGF (kP (pK_8 hb)), aGF (kP (pK_10 hb)), aGF (kP (pK_12 hb)), aGF (kP (pK_14 hb)), aGF (kP (pK_16 hb)), aGF (kP (pK_18 hb)), aGF (kP (pK_20 hb)), aGF (kP (pK_22 hb)), aGF (kP (pK_24 hb)), aGF (kP (pK_26 hb)), aGF (kP (pK_28 hb)), aGF (kP (pK_30 hb)), aGF (kP (pK_32 hb)), aGF (kP (pK_34 hb)), rP (pK_6 hb), rP (pK_8 hb), rP (pK_10 hb), rP (pK_12 hb), rP (pK_14 hb), rP (pK_16 hb), rP (pK_18 hb), rP (pK_20 hb), rP (pK_22 hb), rP (pK_24 hb), rP (pK_26 hb), rP (pK_28 hb), rP (pK_30 hb), rP (pK_32 hb), rP (pK_34 hb), getF hg RG oG.2 (show sz G - 1 < 2147483648 by omega), vK_leave_22, inverse_spec (fK hb) hF (oG.1 (sz G - 1)), vK_leave_25, q1, vK_leave_34, q2, vK_leave_42]
  rw [st]
  have fr : ∀ c, c ≠ b + 15 → c ≠ b + 17 → pD (pD D (b + 14 + 1) (rI p0)) (b + 16 + 1) (rI H) c = D c := fun c h3 h4 => by rw [pD_ne (by omega), pD_ne (by omega)]
  unfold lvr
  by_cases h2 : sz G ≤ 1
  · refine ⟨_, ?_, ?_, fr⟩
    · rw [vK_leave_45]
      by_cases h3 : sz F = 0
      · rw [if_pos (by omega), vK_leave_150]
      · rw [if_neg (by omega), vK_leave_52, if_neg (by omega), vK_leave_150]
    · rw [if_pos h2]
      exact PR_ne (by rw [pD_ne (by omega)]) (pD_PR (c := b + 14 + 1) (F := p0))
  · obtain ⟨n, hn2⟩ : ∃ n, sz G = n + 2 := ⟨sz G - 2, by omega⟩
    rw [if_neg h2, hn2, show n + 2 - 1 = n + 1 by omega]
    exact leave_loop hb hF hf hg f1 f2 g1 g2 RF RG oF oG iH hn2 (by have := dH (by omega); rw [hn2] at this; exact this) (some h) (sz F) 0 _ (by omega) pD_PR (PR_ne (by rw [pD_ne (by omega)]) (pD_PR (c := b + 14 + 1) (F := p0))) fr
theorem dividesFromRight_spec (hb : isK b) (hF : FT Φ D (b + 1)) {f g : Nat} (hf : isP f) (hg : isP g) (f1 : f ≠ b + 14) (f2 : f ≠ b + 16) (f3 : f ≠ b + 20) (g1 : g ≠ b + 14) (g2 : g ≠ b + 16) (g3 : g ≠ b + 20) {F G : pl} (RF : PR D (f + 1) F) (RG : PR D (g + 1) G) (oF : pOK Φ F) (oG : pOK Φ G) (hn : sz G ≠ 0) :
    ∃ D', Vl (d + 2) 117 0 [some (.inr (.inr (some b))), some (.inr (.inr (some g))), some (.inr (.inr (some f)))] [] (hp ω D) = some ((0, some (.inl (if sz (lvr Φ F (mono 1 0) G) = 0 then 1 else 0))), hp ω D') ∧ ∀ c, c ≠ b + 15 → c ≠ b + 17 → c ≠ b + 21 → D' c = D c := by
  have q1 := constantF (ω := ω) (D := D) (d := d) (v := 1) (pK_20 hb)
  rw [show ((1 : Nat) : Int) = 1 from rfl] at q1
  have F1 : FT Φ (pD D (b + 20 + 1) (rI (mono 1 0))) (b + 1) := FT_fr hF (fun c h1 h2 => pD_ne (by omega))
  have o1 : pOK Φ (mono 1 0) := mono_OK (by have := F_2 hF.1; omega) (by decide)
  obtain ⟨D2, q2, R2, m2⟩ := leave_spec (ω := ω) (d := d) hb F1 hf (pK_20 hb) hg f1 f2 g1 g2 (by omega) (PR_ne (pD_ne (by omega)) RF) pD_PR (PR_ne (pD_ne (by omega)) RG) oF oG o1.1 hn (fun _ => dle_mono (mono_dle 1 0) (by omega))
  have q3 := isZeroF (ω := ω) (d := d) (pK_14 hb) R2
  refine ⟨D2, ?_, fun c h1 h2 h3 => by rw [m2 c h1 h2, pD_ne h3]⟩
  simp only [vK_dividesFromRight_0, aGF (kK hb), rK_0 hb, aGF (kF (fK hb)), rK_1 hb, rK_2 hb, rK_3 hb, rK_4 hb, rK_6 hb, rK_7 hb, rK_8 hb, rK_9 hb, rK_10 hb, rK_11 hb, rK_12 hb, rK_13 hb, rK_14 hb, rK_15 hb, rK_16 hb, aGF (kP (pK_6 hb)), aGF (kP (pK_8 hb)), aGF (kP (pK_10 hb)), aGF (kP (pK_12 hb)), aGF (kP (pK_14 hb)), aGF (kP (pK_16 hb)), aGF (kP (pK_18 hb)), aGF (kP (pK_20 hb)), aGF (kP (pK_22 hb)), aGF (kP (pK_24 hb)), aGF (kP (pK_26 hb)), aGF (kP (pK_28 hb)), aGF (kP (pK_30 hb)), aGF (kP (pK_32 hb)), aGF (kP (pK_34 hb)), rP (pK_6 hb), rP (pK_8 hb), rP (pK_10 hb), rP (pK_12 hb), rP (pK_14 hb), rP (pK_16 hb), rP (pK_18 hb), rP (pK_20 hb), rP (pK_22 hb), rP (pK_24 hb), rP (pK_26 hb), rP (pK_28 hb), rP (pK_30 hb), rP (pK_32 hb), rP (pK_34 hb), q1, aVC, tlS, tlN, aLt, hwD, vK_dividesFromRight_8, q2, vK_dividesFromRight_18, q3, vK_dividesFromRight_25]
  split <;> rfl
theorem appliedTo_loop (hb : isK b) (hF : FT Φ D (b + 1)) {f : Nat} (hf : isP f) {F : pl} (RF : PR D (f + 1) F) (oF : pOK Φ F) {a r : Nat} (ha : a < 2 ^ Φ.1) (hr : r < 2 ^ Φ.1) (x3 : Int) : ∀ (n k : Nat), k + n = sz F → Vl (d + 2) 103 15 [some (.inr (.inr (some b))), some (.inr (.inr (some f))), some (.inl (a : Int)), some (.inl x3), some (.inl (apn Φ F a r k : Int)), some (.inl (nrm Φ a r k : Int)), some (.inl ((sz F : Int) - 1)), some (.inl (k : Int))] [] (hp ω D) = some ((0, some (.inl (app Φ F a r : Int))), hp ω D)
  | 0, k, hk => by
    rw [vK_appliedTo_15, if_pos (by omega), vK_appliedTo_60]
    unfold app
    rw [← show k = sz F by omega]
  | n + 1, k, hk => by
    have h17 := sz_le F
    have h256 := F_256 hF.1
    have i1 := nrm_lt (Φ := Φ) hF.1 (a := a) hr k
    have i2 := apn_lt (Φ := Φ) hF.1 oF.1 (a := a) (r := r) k
    have i3 := fm_lt (Φ := Φ) hF.1 (b := nrm Φ a r k) (oF.1 k)
    rw [vK_appliedTo_15, if_neg (by omega)]
    simp only [vK_appliedTo_22, aGF (kK hb), rK_0 hb, aGF (kF (fK hb)), rK_1 hb, rK_2 hb, rK_3 hb, rK_4 hb, rK_6 hb, rK_7 hb, rK_8 hb, rK_9 hb, rK_10 hb, rK_11 hb, rK_12 hb, rK_13 hb, rK_14 hb, rK_15 hb, rK_16 hb, aGF (kP (pK_6 hb)), aGF (kP (pK_8 hb)), aGF (kP (pK_10 hb)), aGF (kP (pK_12 hb)), aGF (kP (pK_14 hb)), aGF (kP (pK_16 hb)), aGF (kP (pK_18 hb)), aGF (kP (pK_20 hb)), aGF (kP (pK_22 hb)), aGF (kP (pK_24 hb)), aGF (kP (pK_26 hb)), aGF (kP (pK_28 hb)), aGF (kP (pK_30 hb)), aGF (kP (pK_32 hb)), aGF (kP (pK_34 hb)), rP (pK_6 hb), rP (pK_8 hb), rP (pK_10 hb), rP (pK_12 hb), rP (pK_14 hb), rP (pK_16 hb), rP (pK_18 hb), rP (pK_20 hb), rP (pK_22 hb), rP (pK_24 hb), rP (pK_26 hb), rP (pK_28 hb), rP (pK_30 hb), rP (pK_32 hb), rP (pK_34 hb), aGF (kP hf), rP hf, getF hf RF oF.2 (show k < 2147483648 by omega), aVC, tlS, tlN, aLt, hwD, vK_appliedTo_34, product_spec (fK hb) hF (oF.1 k) i1, vK_appliedTo_39, step_spec (fK hb) hF ha i1, vK_appliedTo_52, jxor_n (show apn Φ F a r k < 2147483648 by omega) (show fm Φ (F k) (nrm Φ a r k) < 2147483648 by omega), w32_s (show k < 2147483647 by omega)]
    exact appliedTo_loop hb hF hf RF oF ha hr x3 n (k + 1) (by omega)
theorem appliedTo_spec (hb : isK b) (hF : FT Φ D (b + 1)) {f : Nat} (hf : isP f) {F : pl} (RF : PR D (f + 1) F) (oF : pOK Φ F) {a r : Nat} (ha : a < 2 ^ Φ.1) (hr : r < 2 ^ Φ.1) : Vl (d + 2) 103 0 [some (.inr (.inr (some b))), some (.inr (.inr (some f))), some (.inl (a : Int)), some (.inl (r : Int)), none, none, none, none] [] (hp ω D) = some ((0, some (.inl (app Φ F a r : Int))), hp ω D) := by
  simp only [vK_appliedTo_0, aGF (kP hf), rP hf, topF hf RF, aVC, tlS, tlN, aLt, hwD, vK_appliedTo_10]
  exact appliedTo_loop hb hF hf RF oF ha hr _ (sz F) 0 (by omega)
theorem takeIn_spec (hb : isK b) (hF : FT Φ D (b + 1)) {f : Nat} (hf : isP f) (f1 : f ≠ b + 16) (f2 : f ≠ b + 18) (f3 : f ≠ b + 20) {F : pl} (RF : PR D (f + 1) F) (oF : pOK Φ F) {a : Nat} (ha : a < 2 ^ Φ.1) (hs : sz F ≤ 16) : ∃ D', Vl (d + 3) 112 0 [some (.inr (.inr (some b))), some (.inr (.inr (some f))), some (.inl (a : Int)), none] [] (hp ω D) = some ((0, none), hp ω D') ∧ PR D' (f + 1) (tkn Φ F a) ∧ ∀ c, c ≠ b + 17 → c ≠ b + 19 → c ≠ b + 21 → c ≠ f + 1 → D' c = D c := by
  have h1 : (1 : Nat) < 2 ^ Φ.1 := by have := F_2 hF.1; omega
  have hv := app_lt (Φ := Φ) hF.1 oF.1 a 1
  have q1 := appliedTo_spec (ω := ω) (d := d) hb hF hf RF oF ha h1
  rw [show ((1 : Nat) : Int) = 1 from rfl] at q1
  simp only [vK_takeIn_0, aGF (kK hb), rK_0 hb, aGF (kF (fK hb)), rK_1 hb, rK_2 hb, rK_3 hb, rK_4 hb, rK_6 hb, rK_7 hb, rK_8 hb, rK_9 hb, rK_10 hb, rK_11 hb, rK_12 hb, rK_13 hb, rK_14 hb, rK_15 hb, rK_16 hb, aGF (kP (pK_6 hb)), aGF (kP (pK_8 hb)), aGF (kP (pK_10 hb)), aGF (kP (pK_12 hb)), aGF (kP (pK_14 hb)), aGF (kP (pK_16 hb)), aGF (kP (pK_18 hb)), aGF (kP (pK_20 hb)), aGF (kP (pK_22 hb)), aGF (kP (pK_24 hb)), aGF (kP (pK_26 hb)), aGF (kP (pK_28 hb)), aGF (kP (pK_30 hb)), aGF (kP (pK_32 hb)), aGF (kP (pK_34 hb)), rP (pK_6 hb), rP (pK_8 hb), rP (pK_10 hb), rP (pK_12 hb), rP (pK_14 hb), rP (pK_16 hb), rP (pK_18 hb), rP (pK_20 hb), rP (pK_22 hb), rP (pK_24 hb), rP (pK_26 hb), rP (pK_28 hb), rP (pK_30 hb), rP (pK_32 hb), rP (pK_34 hb), q1, aVC, tlS, tlN, aLt, hwD]
  rw [vK_takeIn_7]
  unfold tkn
  by_cases h0 : app Φ F a 1 = 0
  · rw [if_pos (by omega), vK_takeIn_47]
    refine ⟨D, rfl, ?_, fun _ _ _ _ _ => rfl⟩
    rw [if_pos h0]; exact RF
  · rw [if_neg (by omega)]
    have q2 := letterF (ω := ω) (D := D) (d := d + 1) (pK_20 hb)
    have F1 : FT Φ (pD D (b + 20 + 1) (rI (mono 1 1))) (b + 1) := FT_fr hF (fun c h1 h2 => pD_ne (by omega))
    have q3 := kinOf_spec (ω := ω) (d := d) (fK hb) F1 ha hv
    have q4 := putF (ω := ω) (D := pD D (b + 20 + 1) (rI (mono 1 1))) (d := d + 2) (j := 0) (v := fkn Φ a (app Φ F a 1)) (pK_20 hb) pD_PR (by decide)
    rw [show ((0 : Nat) : Int) = 0 from rfl] at q4
    obtain ⟨l1, l2⟩ := lin_OK (Φ := Φ) hF.1 (fkn_lt hF.1 (a := a) hv)
    obtain ⟨D5, q5, R5, m5⟩ := multiply_spec (ω := ω) (d := d) (D := pD (pD D (b + 20 + 1) (rI (mono 1 1))) (b + 20 + 1) (rI (fun c => if c = 0 then fkn Φ a (app Φ F a 1) else mono 1 1 c))) hb (FT_fr F1 (fun c h1 h2 => pD_ne (by omega))) (pK_20 hb) hf hf (by omega) (by omega) f1 f2 (F := lin (fkn Φ a (app Φ F a 1))) pD_PR (PR_ne (by rw [pD_ne (by omega), pD_ne (by omega)]) RF) l1 oF (by omega)
    refine ⟨D5, ?_, ?_, fun c h4 h5 h6 h7 => by rw [m5 c h4 h5 h7, pD_ne (by omega), pD_ne (by omega)]⟩
    · simp only [vK_takeIn_12, aGF (kK hb), rK_0 hb, aGF (kF (fK hb)), rK_1 hb, rK_2 hb, rK_3 hb, rK_4 hb, rK_6 hb, rK_7 hb, rK_8 hb, rK_9 hb, rK_10 hb, rK_11 hb, rK_12 hb, rK_13 hb, rK_14 hb, rK_15 hb, rK_16 hb, aGF (kP (pK_6 hb)), aGF (kP (pK_8 hb)), aGF (kP (pK_10 hb)), aGF (kP (pK_12 hb)), aGF (kP (pK_14 hb)), aGF (kP (pK_16 hb)), aGF (kP (pK_18 hb)), aGF (kP (pK_20 hb)), aGF (kP (pK_22 hb)), aGF (kP (pK_24 hb)), aGF (kP (pK_26 hb)), aGF (kP (pK_28 hb)), aGF (kP (pK_30 hb)), aGF (kP (pK_32 hb)), aGF (kP (pK_34 hb)), rP (pK_6 hb), rP (pK_8 hb), rP (pK_10 hb), rP (pK_12 hb), rP (pK_14 hb), rP (pK_16 hb), rP (pK_18 hb), rP (pK_20 hb), rP (pK_22 hb), rP (pK_24 hb), rP (pK_26 hb), rP (pK_28 hb), rP (pK_30 hb), rP (pK_32 hb), rP (pK_34 hb), q2, aVC, tlS, tlN, aLt, hwD, vK_takeIn_19, q3, vK_takeIn_33, aGF (kP (pK_20 hb)), q4, vK_takeIn_36, q5, vK_takeIn_46, vK_takeIn_47]
    · rw [if_neg h0]; exact R5
end VALC
