/-! IRREDUCIBLE ROWS: transitivity, the least divisor; isWhole of the reference -/
section IRR
variable {Φ : gF}
theorem isDv_m (h : FOK Φ) {F G : pl} (oF : pOK Φ F) (oG : pOK Φ G) (hz : sz G ≠ 0) (hd : isDv Φ F G = true) : F = pP Φ 17 (dvd Φ 0 F G).1 G := by
  obtain ⟨n, hn⟩ : ∃ n, sz G = n + 1 := ⟨sz G - 1, by omega⟩
  obtain ⟨a1, a2, a3, a4, a5, -⟩ := dvd_fact h (side := 0) oF.1 oG.1 oF.2 oG.2 hn
  rw [isDv_dvd h oF oG hz] at hd
  have h17 := sz_le G
  have e := sz_z (dle_mono a4 (by omega)) (of_decide_eq_true hd)
  rw [e, pA_0] at a5
  unfold pB at a5
  rw [if_neg (by decide)] at a5
  exact a5.symm
theorem isDv_u (h : FOK Φ) {F G Q : pl} (oF : pOK Φ F) (oG : pOK Φ G) (hz : sz G ≠ 0) (oQ : pOK Φ Q) (e : F = pP Φ 17 Q G) : isDv Φ F G = true := by
  obtain ⟨n, hn⟩ : ∃ n, sz G = n + 1 := ⟨sz G - 1, by omega⟩
  have := dvd_u h (side := 0) oF.1 oG.1 oF.2 oG.2 hn oQ.1 oQ.2 (p0_dle n) (by
    unfold pB
    rw [if_neg (by decide), pA_0]; exact e.symm)
  rw [isDv_dvd h oF oG hz, this]
  exact decide_eq_true sz_p0
theorem isDv_t (h : FOK Φ) {F G H : pl} (oF : pOK Φ F) (oG : pOK Φ G) (oH : pOK Φ H) (zG : sz G ≠ 0) (zH : sz H ≠ 0) (h1 : isDv Φ F G = true) (h2 : isDv Φ G H = true) : isDv Φ F H = true := by
  obtain ⟨g, hg⟩ : ∃ g, sz G = g + 1 := ⟨sz G - 1, by omega⟩
  obtain ⟨k, hk⟩ : ∃ k, sz H = k + 1 := ⟨sz H - 1, by omega⟩
  obtain ⟨a1, -, a3, -⟩ := dvd_fact h (side := 0) oF.1 oG.1 oF.2 oG.2 hg
  obtain ⟨b1, -, b3, -⟩ := dvd_fact h (side := 0) oG.1 oH.1 oG.2 oH.2 hk
  have e1 := isDv_m h oF oG zG h1
  have e2 := isDv_m h oG oH zH h2
  have f17 := sz_le F
  have g17 := sz_le G
  have dQ : dle (pP Φ 17 (dvd Φ 0 F G).1 (dvd Φ 0 G H).1) 17 := by
    rw [pP_ge a3 17 (by omega)]
    exact dle_mono (pP_dle b3 _) (by omega)
  refine isDv_u h oF oH zH ⟨pP_in h a1 17, dQ⟩ ?_
  have e3 := pP_assoc h a1 b1 oH.1 (dle_mono b3 (show sz G - k ≤ 17 by omega)) 17
  rw [← e2, ← e1] at e3
  exact e3.trans (pP_ge dQ (17 + 17) (by decide))
theorem isDv_s (h : FOK Φ) {F : pl} (oF : pOK Φ F) (hz : sz F ≠ 0) : isDv Φ F F = true := by
  refine isDv_u h oF oF hz (Q := mono 1 0) ⟨mono_in (one_lt h) 0, dle_mono (mono_dle 1 0) (by decide)⟩ ?_
  rw [pP_ge (mono_dle 1 0) 17 (by decide), pP_mono]
  exact (pM_1 h oF.1).symm
theorem isUi_i (F : pl) (e : Nat) : ∀ r low, isUi Φ F e r low = true ↔ ∀ c, low ≤ c → c < low + r → isDv Φ F (mnc Φ c e) = false
  | 0, low => ⟨fun _ c h1 h2 => absurd h1 (by omega), fun _ => rfl⟩
  | r + 1, low => by
    unfold isUi
    rw [Bool.and_eq_true, isUi_i F e r (low + 1), Bool.not_eq_true']
    constructor
    · intro hh c h1 h2
      by_cases q : c = low
      · rw [q]; exact hh.1
      · exact hh.2 c (by omega) (by omega)
    · intro hh
      exact ⟨hh low (Nat.le_refl _) (by omega), fun c h1 h2 => hh c (by omega) (by omega)⟩
theorem isUl_i (F : pl) : ∀ r e, isUl Φ F r e = true ↔ ∀ x, e ≤ x → x < e + r → ∀ c, c < 2 ^ (Φ.1 * x) → isDv Φ F (mnc Φ c x) = false
  | 0, e => ⟨fun _ c h1 h2 => absurd h1 (by omega), fun _ => rfl⟩
  | r + 1, e => by
    unfold isUl
    rw [Bool.and_eq_true, isUl_i F r (e + 1), isUi_i]
    constructor
    · intro hh x h1 h2 c hc
      by_cases q : x = e
      · rw [q] at hc ⊢; exact hh.1 c (Nat.zero_le _) (by omega)
      · exact hh.2 x (by omega) (by omega) c hc
    · intro hh
      exact ⟨fun c _ h2 => hh e (Nat.le_refl _) (by omega) c (by omega), fun x h1 h2 c hc => hh x (by omega) (by omega) c hc⟩
theorem isU_i (F : pl) : isU Φ F = true ↔ ∀ x, 1 ≤ x → x + 2 ≤ sz F → ∀ c, c < 2 ^ (Φ.1 * x) → isDv Φ F (mnc Φ c x) = false := by
  unfold isU
  rw [isUl_i]
  exact ⟨fun hh x h1 h2 c hc => hh x h1 (by omega) c hc, fun hh x h1 h2 c hc => hh x h1 (by omega) c hc⟩
theorem isU_no {F : pl} (h : ¬ isU Φ F = true) : ∃ x, 1 ≤ x ∧ x + 2 ≤ sz F ∧ ∃ c, c < 2 ^ (Φ.1 * x) ∧ isDv Φ F (mnc Φ c x) = true := by
  rw [isU_i] at h
  refine Classical.byContradiction fun q => h (fun x h1 h2 c hc => ?_)
  cases hd : isDv Φ F (mnc Φ c x) with
  | false => rfl
  | true => exact absurd ⟨x, h1, h2, c, hc, hd⟩ q
theorem isU_least (h : FOK Φ) {F : pl} (oF : pOK Φ F) : ∀ f x c, x ≤ f → 1 ≤ x → x + 2 ≤ sz F → c < 2 ^ (Φ.1 * x) → isDv Φ F (mnc Φ c x) = true → ∃ y, 1 ≤ y ∧ y + 2 ≤ sz F ∧ ∃ b, b < 2 ^ (Φ.1 * y) ∧ isDv Φ F (mnc Φ b y) = true ∧ isU Φ (mnc Φ b y) = true
  | 0, x, c, hf, h1, h2, hc, hd => absurd h1 (by omega)
  | f + 1, x, c, hf, h1, h2, hc, hd => by
    have h17 := sz_le F
    obtain ⟨oG, sG⟩ := mnc_OK h c (show x < 17 by omega)
    by_cases hU : isU Φ (mnc Φ c x) = true
    · exact ⟨x, h1, h2, c, hc, hd, hU⟩
    · obtain ⟨y, y1, y2, b, hb, hb2⟩ := isU_no hU
      obtain ⟨oH, sH⟩ := mnc_OK h b (show y < 17 by omega)
      exact isU_least h oF f y b (by omega) y1 (by omega) hb (isDv_t h oF oG oH (by omega) (by omega) hd hb2)
/-- stopped is stopped -/
theorem inl_stop {w : Int} {rec : Nat → pl → xS → xS} {F : pl} {dep e : Nat} {x : Bool × xS} (hx : xdn w x.2 = true) : ∀ r low, inl Φ w rec F dep e r low x = x
  | 0, _ => rfl
  | r + 1, low => by unfold inl; rw [if_pos hx]
theorem oul_stop {w : Int} {rec : Nat → pl → xS → xS} {F : pl} {dep : Nat} {x : Bool × xS} (hx : xdn w x.2 = true) : ∀ r e, oul Φ w rec F dep r e x = x
  | 0, _ => rfl
  | r + 1, e => by unfold oul; rw [inl_stop hx, oul_stop hx r (e + 1)]
theorem inl_b {w : Int} {rec : Nat → pl → xS → xS} {F : pl} {dep e : Nat} : ∀ r low (x : Bool × xS), ¬ xdn w (inl Φ w rec F dep e r low x).2 = true → ((inl Φ w rec F dep e r low x).1 = true ↔ (x.1 = true ∨ ∃ c, low ≤ c ∧ c < low + r ∧ (isDv Φ F (mnc Φ c e) && isU Φ (mnc Φ c e)) = true))
  | 0, low, x, _ => ⟨fun q => Or.inl q, fun q => by
      rcases q with q | ⟨c, h1, h2, -⟩
      · exact q
      · omega⟩
  | r + 1, low, x, hx => by
    unfold inl at hx ⊢
    by_cases h1 : xdn w x.2 = true
    · rw [if_pos h1] at hx; exact absurd h1 hx
    rw [if_neg h1] at hx ⊢
    by_cases h2 : (isDv Φ F (mnc Φ low e) && isU Φ (mnc Φ low e)) = true
    · rw [if_pos h2] at hx ⊢
      rw [inl_b r (low + 1) _ hx]
      exact ⟨fun _ => Or.inr ⟨low, Nat.le_refl _, by omega, h2⟩, fun _ => Or.inl rfl⟩
    · rw [if_neg h2] at hx ⊢
      rw [inl_b r (low + 1) _ hx]
      constructor
      · rintro (q | ⟨c, c1, c2, c3⟩)
        · exact Or.inl q
        · exact Or.inr ⟨c, by omega, by omega, c3⟩
      · rintro (q | ⟨c, c1, c2, c3⟩)
        · exact Or.inl q
        · by_cases e1 : c = low
          · rw [e1] at c3; exact absurd c3 h2
          · exact Or.inr ⟨c, by omega, by omega, c3⟩
theorem oul_b {w : Int} {rec : Nat → pl → xS → xS} {F : pl} {dep : Nat} : ∀ r e (x : Bool × xS), ¬ xdn w (oul Φ w rec F dep r e x).2 = true → ((oul Φ w rec F dep r e x).1 = true ↔ (x.1 = true ∨ ∃ y, e ≤ y ∧ y < e + r ∧ ∃ c, c < 2 ^ (Φ.1 * y) ∧ (isDv Φ F (mnc Φ c y) && isU Φ (mnc Φ c y)) = true))
  | 0, e, x, _ => ⟨fun q => Or.inl q, fun q => by
      rcases q with q | ⟨c, h1, h2, -⟩
      · exact q
      · omega⟩
  | r + 1, e, x, hx => by
    unfold oul at hx ⊢
    by_cases h1 : xdn w (inl Φ w rec F dep e (2 ^ (Φ.1 * e)) 0 x).2 = true
    · rw [oul_stop h1] at hx; exact absurd h1 hx
    rw [oul_b r (e + 1) _ hx, inl_b _ 0 x h1]
    constructor
    · rintro ((q | ⟨c, c1, c2, c3⟩) | ⟨y, y1, y2, y3⟩)
      · exact Or.inl q
      · exact Or.inr ⟨e, Nat.le_refl _, by omega, c, by omega, c3⟩
      · exact Or.inr ⟨y, by omega, by omega, y3⟩
    · rintro (q | ⟨y, y1, y2, c, c2, c3⟩)
      · exact Or.inl (Or.inl q)
      · by_cases e1 : y = e
        · rw [e1] at c2 c3; exact Or.inl (Or.inr ⟨c, Nat.zero_le _, by omega, c3⟩)
        · exact Or.inr ⟨y, by omega, by omega, c, c2, c3⟩
theorem oul_U (h : FOK Φ) {w : Int} {rec : Nat → pl → xS → xS} {F : pl} {dep : Nat} {S : xS} (oF : pOK Φ F) (hx : ¬ xdn w (oul Φ w rec F dep (sz F - 2) 1 (false, S)).2 = true) : (oul Φ w rec F dep (sz F - 2) 1 (false, S)).1 = !isU Φ F := by
  have hb := oul_b (Φ := Φ) (sz F - 2) 1 (false, S) hx
  by_cases hU : isU Φ F = true
  · rw [hU]
    rw [isU_i] at hU
    cases hr : (oul Φ w rec F dep (sz F - 2) 1 (false, S)).1 with
    | false => rfl
    | true =>
      rcases hb.mp hr with q | ⟨y, y1, y2, c, c2, c3⟩
      · cases q
      · rw [hU y y1 (by omega) c c2] at c3; cases c3
  · obtain ⟨x, x1, x2, c, c1, c2⟩ := isU_no hU
    obtain ⟨y, y1, y2, b, b1, b2, b3⟩ := isU_least h oF x x c (Nat.le_refl _) x1 x2 c1 c2
    have hU' : isU Φ F = false := by
      cases hq : isU Φ F with
      | false => rfl
      | true => exact absurd hq hU
    rw [hU']
    exact hb.mpr (Or.inr ⟨y, y1, by omega, b, b1, by rw [b2, b3]; rfl⟩)
end IRR
section MWH
variable {ρ : jr2} {D D' : jD} {d : Nat} {Φ : gF} {A : aA} {T : aT}
theorem mwh_i (hO : FOK Φ) {e : Nat} (hme : Φ.1 * e ≤ 12) (he : e ≤ 12) {F : pl} (oF : pOK Φ F) : ∀ (r low : Nat) (D : jD), low + r = 2 ^ (Φ.1 * e) → MF Φ D → PR D 523 F → ∃ D', Vl (d + 8) 274 12 [some (.inr (.inr (some 488))), some (.inr (.inr (some 523))), some (.inl (e : Int)), some (.inl (low : Int))] [] (hp (1, ρ) D) = (if isUi Φ F e r low = true then Vl (d + 8) 274 52 [some (.inr (.inr (some 488))), some (.inr (.inr (some 523))), some (.inl (e : Int)), some (.inl ((2 ^ (Φ.1 * e) : Nat) : Int))] [] (hp (1, ρ) D') else some ((0, some (.inl 0)), hp (1, ρ) D')) ∧ ∀ q, (q < 497 ∨ 501 < q) → q ≠ 504 → q ≠ 505 → q ≠ 521 → D' q = D q
  | 0, low, D, hl, hF, RF => by
    obtain rfl : low = 2 ^ (Φ.1 * e) := by omega
    exact ⟨D, by rw [vM_isWhole_12, mGF m488, mmany hF, aVC, tlS, vM_isWhole_18, myN_n hO hme, if_neg (by omega)]; rfl, fun _ _ _ _ _ => rfl⟩
  | r + 1, low, D, hl, hF, RF => by
    have p1 : 2 ^ (Φ.1 * e) ≤ 2 ^ 12 := Nat.pow_le_pow_right (by decide) hme
    obtain ⟨oG, sG⟩ := mnc_OK hO low (show e < 17 by omega)
    have q1 := mlayM (d := d + 6) (ρ := ρ) (D := D) hF m521 (by decide) (low := low) (n := e) (by omega) hme
    have hF1 : MF Φ (pD D 521 (rI (mnc Φ low e))) := MF_cg hF (pD_ne (by decide))
    obtain ⟨D1, q2, -, f2⟩ := mdivR (d := d) (ρ := ρ) hF1 (cf := 523) (cg := 521) ⟨m523, by decide, by decide⟩ ⟨m521, by decide, by decide⟩ (by decide) (by decide) (by decide) (PR_ne (pD_ne (by decide)) RF) pD_PR oF oG (by omega)
    have g2 : ∀ q, (q < 497 ∨ 501 < q) → q ≠ 504 → q ≠ 505 → q ≠ 521 → D1 q = D q := fun q a b c e => by rw [f2 q a b c, pD_ne e]
    have R1 : PR D1 523 F := PR_ne (g2 523 (by decide) (by decide) (by decide) (by decide)) RF
    have hF2 : MF Φ D1 := MF_cg hF (g2 488 (by decide) (by decide) (by decide) (by decide))
    rw [vM_isWhole_12, mGF m488, mmany hF, aVC, tlS, vM_isWhole_18, myN_n hO hme, if_pos (by omega), vM_isWhole_21]
    simp only [mGF m488, mr50]
    rw [q1, aVC, tlN, vM_isWhole_32]
    simp only [mGF m488, mr50]
    rw [q2, aVC, tlS, vM_isWhole_41]
    unfold isUi
    cases hd : isDv Φ F (mnc Φ low e) with
    | true => exact ⟨D1, by rw [if_pos rfl, if_neg j10, vM_isWhole_44, aZ0, if_neg (by simp)], g2⟩
    | false =>
      obtain ⟨D2, q3, f3⟩ := mwh_i hO hme he oF r (low + 1) D1 (by omega) hF2 R1
      refine ⟨D2, ?_, fun q a b c e => by rw [f3 q a b c e, g2 q a b c e]⟩
      rw [if_neg (show ¬ (false = true) by decide), if_pos j00, vM_isWhole_46, w32_s (by omega), q3]
      rfl
theorem mwh_l (hO : FOK Φ) {F : pl} (oF : pOK Φ F) (h1F : 1 ≤ sz F) (hm : Φ.1 * (sz F - 2) ≤ 12) : ∀ (r e : Nat) (D : jD) (u3 : Option jv), e + r = sz F - 1 ∨ (r = 0 ∧ sz F ≤ e + 1) → 1 ≤ e → e ≤ 17 → MF Φ D → PR D 523 F → ∃ D', Vl (d + 8) 274 2 [some (.inr (.inr (some 488))), some (.inr (.inr (some 523))), some (.inl (e : Int)), u3] [] (hp (1, ρ) D) = some ((0, some (.inl (if isUl Φ F r e = true then 1 else 0))), hp (1, ρ) D') ∧ ∀ q, (q < 497 ∨ 501 < q) → q ≠ 504 → q ≠ 505 → q ≠ 521 → D' q = D q
  | 0, e, D, u3, he, h1, h9, hF, RF => by
    have q1 := mdeg (d := d + 7) (ρ := ρ) m523 (by decide) RF
    exact ⟨D, by rw [vM_isWhole_2, q1, aVC, tlS, vM_isWhole_7, if_neg (by omega), vM_isWhole_58, aZ1]; rfl, fun _ _ _ _ _ => rfl⟩
  | r + 1, e, D, u3, he, h1, h9, hF, RF => by
    have q1 := mdeg (d := d + 7) (ρ := ρ) m523 (by decide) RF
    have m1 := F_m1 hO
    have h2 : Φ.1 * e ≤ Φ.1 * (sz F - 2) := Nat.mul_le_mul_left _ (by omega)
    have h3 : 1 * e ≤ Φ.1 * e := Nat.mul_le_mul_right e m1
    obtain ⟨D1, q2, f2⟩ := mwh_i (d := d) (ρ := ρ) hO (e := e) (by omega) (by omega) oF (2 ^ (Φ.1 * e)) 0 D (Nat.zero_add _) hF RF
    rw [show ((0 : Nat) : Int) = 0 from rfl] at q2
    rw [vM_isWhole_2, q1, aVC, tlS, vM_isWhole_7, if_pos (by omega), vM_isWhole_10, q2]
    unfold isUl
    cases hi : isUi Φ F e (2 ^ (Φ.1 * e)) 0 with
    | false => exact ⟨D1, by rw [if_neg (by decide), if_neg (by simp)], f2⟩
    | true =>
      obtain ⟨D2, q3, f3⟩ := mwh_l hO oF h1F hm r (e + 1) D1 (some (.inl ((2 ^ (Φ.1 * e) : Nat) : Int))) (by omega) (by omega) (by omega) (MF_cg hF (f2 488 (by decide) (by decide) (by decide) (by decide))) (PR_ne (f2 523 (by decide) (by decide) (by decide) (by decide)) RF)
      refine ⟨D2, ?_, fun q a b c e => by rw [f3 q a b c e, f2 q a b c e]⟩
      rw [if_pos rfl, vM_isWhole_52, w32_s (by omega), q3, Bool.true_and]
theorem misW (hF : MF Φ D) {F : pl} (RF : PR D 523 F) (oF : pOK Φ F) (h1F : 1 ≤ sz F) (hm : Φ.1 * (sz F - 2) ≤ 12) : ∃ D', Vl (d + 8) 274 0 [some (.inr (.inr (some 488))), some (.inr (.inr (some 523))), none, none] [] (hp (1, ρ) D) = some ((0, some (.inl (if isU Φ F = true then 1 else 0))), hp (1, ρ) D') ∧ ∀ q, (q < 497 ∨ 501 < q) → q ≠ 504 → q ≠ 505 → q ≠ 521 → D' q = D q := by
  obtain ⟨D1, q1, f1⟩ := mwh_l (d := d) (ρ := ρ) hF.1 oF h1F hm (sz F - 2) 1 D none (by omega) (by decide) (by decide) hF RF
  rw [show ((1 : Nat) : Int) = 1 from rfl] at q1
  exact ⟨D1, by rw [vM_isWhole_0, q1]; rfl, f1⟩
end MWH
