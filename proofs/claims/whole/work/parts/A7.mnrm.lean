/-! THE REFERENCE'S NORM: f written in y; plain products -/
section MNRM
variable {ρ : jr2} {D D' : jD} {d : Nat} {Φ : gF} {A : aA} {T : aT}
theorem pD_cg {c : Nat} {r r' : Nat → Int} (h : ∀ b, b < 17 → r b = r' b) : pD D c r = pD D c r' := by
  funext x y
  show (if x = c ∧ y < 17 then r y else D x y) = if x = c ∧ y < 17 then r' y else D x y
  by_cases q : x = c ∧ y < 17
  · rw [if_pos q, if_pos q, h y q.2]
  · rw [if_neg q, if_neg q]
theorem mly_k (hF : MF Φ D) {cf : Nat} {Y : pl} (RY : PR D 528 Y) (iY : inF Φ Y) (x2 : Int) : ∀ n : Nat, n ≤ 17 → Vl (d + 2) 280 19 [some (.inr (.inr (some 488))), some (.inr (.inr (some cf))), some (.inl x2), some (.inl ((n : Int) - 1))] [] (hp (1, ρ) (pHi D 528 n (rI (iyS Φ Y 0)))) = Vl (d + 2) 280 71 [some (.inr (.inr (some 488))), some (.inr (.inr (some cf))), some (.inl x2), some (.inl (-1))] [] (hp (1, ρ) (pD D 528 (rI (iyS Φ Y 0))))
  | 0, _ => by
    rw [vM_layInY_19, if_pos (by omega)]
    rw [show pHi D 528 0 (rI (iyS Φ Y 0)) = pD D 528 (rI (iyS Φ Y 0)) from by
      funext x y
      unfold pHi pD pDn
      by_cases q : x = 528 ∧ y < 17
      · rw [if_pos (by omega), if_pos q]
      · rw [if_neg (by omega), if_neg q]]
    rfl
  | n + 1, hn17 => by
    have hO := hF.1
    have h256 := F_256 hO
    have hFn : MF Φ (pHi D 528 (n + 1) (rI (iyS Φ Y 0))) := MF_cg hF (pHi_ne (by decide))
    have e1 : ∀ k, k ≤ n → pHi D 528 (n + 1) (rI (iyS Φ Y 0)) 528 k = (Y k : Int) := fun k hk => by
      rw [← RY k (by omega)]; exact if_neg (by omega)
    have hcl : Φ.2.2.2 < 2 ^ Φ.1 := hO.2.2
    have q1 := mturn (d := d) (ρ := ρ) hFn hcl (n := n) (by omega)
    have q2 := mmul (d := d + 1) (ρ := ρ) hFn (iY n) (fT_lt hO hcl n)
    have l1 : fm Φ (Y n) (fT Φ n Φ.2.2.2) < 2 ^ Φ.1 := fm_lt hO (iY n)
    have l2 : (if n = 0 then 0 else Y (n - 1)) < 2 ^ Φ.1 := by
      split
      · exact F_pos Φ
      · exact iY _
    have st : Vl (d + 2) 280 19 [some (.inr (.inr (some 488))), some (.inr (.inr (some cf))), some (.inl x2), some (.inl (((n + 1 : Nat) : Int) - 1))] [] (hp (1, ρ) (pHi D 528 (n + 1) (rI (iyS Φ Y 0)))) = Vl (d + 2) 280 44 [some (.inr (.inr (some 488))), some (.inr (.inr (some cf))), some (.inl x2), some (.inl (n : Int))] [.inl ((if n = 0 then 0 else Y (n - 1) : Nat) : Int), .inl (n : Int), .inr (.inr (some 528))] (hp (1, ρ) (pHi D 528 (n + 1) (rI (iyS Φ Y 0)))) := by
      rw [show ((n + 1 : Nat) : Int) - 1 = (n : Int) by omega, vM_layInY_19, if_neg (by omega), vM_layInY_23, mGF m488, mr59]
      by_cases h0 : n = 0
      · rw [if_neg (by omega), if_pos h0, vM_layInY_43]; rfl
      · rw [if_pos (by omega), if_neg h0, vM_layInY_32, mGF m488, mr59, show w32 ((n : Int) - 1) = ((n - 1 : Nat) : Int) from by unfold w32; omega, mIA m528, if_pos (by omega), Int.toNat_natCast, e1 (n - 1) (by omega)]
    have es : sD (pHi D 528 (n + 1) (rI (iyS Φ Y 0))) 528 n ((((if n = 0 then 0 else Y (n - 1)) ^^^ fm Φ (Y n) (fT Φ n Φ.2.2.2) : Nat) : Int)) = pHi D 528 n (rI (iyS Φ Y 0)) := by
      funext x y
      unfold sD pHi
      by_cases q1 : x = 528 ∧ y = n
      · rw [if_pos q1, if_pos (show x = 528 ∧ n ≤ y ∧ y < 17 by omega), q1.2]
        unfold rI iyS
        by_cases h0 : n = 0
        · rw [if_pos h0, if_pos h0, h0, fT_0, Nat.zero_xor, Nat.xor_zero]
        · rw [if_neg h0, if_neg h0]
      · rw [if_neg q1]
        by_cases q3 : x = 528 ∧ n + 1 ≤ y ∧ y < 17
        · rw [if_pos q3, if_pos (show x = 528 ∧ n ≤ y ∧ y < 17 by omega)]
        · rw [if_neg q3, if_neg (show ¬ (x = 528 ∧ n ≤ y ∧ y < 17) by omega)]
    rw [st, vM_layInY_44]
    simp only [mGF m488, mr59]
    rw [mIA m528, if_pos (by omega), Int.toNat_natCast, e1 n (Nat.le_refl n), hD, hFn.2.2.2.2, q1, aVC, tlS, vM_layInY_60, mGF m488, q2, aVC, tlS, vM_layInY_63, jxor_n (by omega) (by omega), mIS m528, if_pos (by omega), Int.toNat_natCast, es, show w32 ((n : Int) + (-1)) = (n : Int) - 1 from by unfold w32; omega]
    exact mly_k hF RY iY x2 n (by omega)
theorem mly_i {cf : Nat} (kf : KM cf (1, 17)) (hc8 : cf ≠ 528) {F : pl} (iF : inF Φ F) : ∀ (n : Nat) (Y : pl) (D : jD) (u3 : Option jv), n ≤ 17 → MF Φ D → PR D cf F → PR D 528 Y → inF Φ Y → ∃ D', Vl (d + 2) 280 12 [some (.inr (.inr (some 488))), some (.inr (.inr (some cf))), some (.inl ((n : Int) - 1)), u3] [] (hp (1, ρ) D) = some ((0, none), hp (1, ρ) D') ∧ PR D' 528 (iyL Φ F n Y) ∧ ∀ q, q ≠ 528 → D' q = D q
  | 0, Y, D, u3, hn, hF, RF, RY, iY => ⟨D, by rw [vM_layInY_12, if_pos (by omega), vM_layInY_89], RY, fun _ _ => rfl⟩
  | n + 1, Y, D, u3, hn, hF, RF, RY, iY => by
    have hO := hF.1
    have h256 := F_256 hO
    have q1 := mly_k (d := d) (ρ := ρ) (cf := cf) hF RY iY (n : Int) 17 (Nat.le_refl 17)
    rw [show pHi D 528 17 (rI (iyS Φ Y 0)) = D from by funext x y; exact if_neg (by omega), show ((17 : Nat) : Int) - 1 = 16 from rfl] at q1
    obtain ⟨E, hE⟩ : ∃ E, E = pD D 528 (rI (iyS Φ Y 0)) := ⟨_, rfl⟩
    have e0 : E 528 0 = (iyS Φ Y 0 0 : Int) := by rw [hE]; exact pD_PR 0 (by decide)
    have ef : E cf n = (F n : Int) := by rw [hE, pD_ne hc8]; exact RF n (by omega)
    have i0 := iyS_in hO iY (F_pos Φ) 0
    have iFn := iF n
    have es : sD E 528 0 ((iyS Φ Y 0 0 ^^^ F n : Nat) : Int) = pD D 528 (rI (iyS Φ Y (F n))) := by
      rw [hE, sD_pD (by decide)]
      refine pD_cg (fun b hb => ?_)
      show ((if b = 0 then iyS Φ Y 0 0 ^^^ F n else iyS Φ Y 0 b : Nat) : Int) = ((iyS Φ Y (F n) b : Nat) : Int)
      by_cases h : b = 0
      · rw [if_pos h, h]
        unfold iyS
        rw [if_pos rfl, if_pos rfl, Nat.xor_zero]
      · rw [if_neg h]
        unfold iyS
        rw [if_neg h, if_neg h]
    obtain ⟨D2, q2, R2, f2⟩ := mly_i kf hc8 iF n (iyS Φ Y (F n)) (pD D 528 (rI (iyS Φ Y (F n)))) (some (.inl (-1))) (by omega) (MF_cg hF (pD_ne (by decide))) (PR_ne (pD_ne hc8) RF) pD_PR (iyS_in hO iY iFn)
    refine ⟨D2, ?_, R2, fun q hq => by rw [f2 q hq, pD_ne hq]⟩
    rw [vM_layInY_12, if_neg (by omega), vM_layInY_16, show ((n + 1 : Nat) : Int) - 1 = (n : Int) by omega, q1, ← hE, vM_layInY_71, mGF m488, mr59, mIA m528, if_pos (by decide), show (0 : Int).toNat = 0 from rfl, e0, mIA kf, if_pos (by omega), Int.toNat_natCast, ef, jxor_n (by omega) (by omega), mIS m528, if_pos (by decide), show (0 : Int).toNat = 0 from rfl, es, show w32 ((n : Int) + (-1)) = (n : Int) - 1 from by unfold w32; omega, q2]
theorem mlayY (hF : MF Φ D) {cf : Nat} (kf : KM cf (1, 17)) (hc8 : cf ≠ 528) {F : pl} (RF : PR D cf F) (iF : inF Φ F) : ∃ D', Vl (d + 2) 280 0 [some (.inr (.inr (some 488))), some (.inr (.inr (some cf))), none, none] [] (hp (1, ρ) D) = some ((0, none), hp (1, ρ) D') ∧ PR D' 528 (iY Φ F) ∧ ∀ q, q ≠ 528 → D' q = D q := by
  have q1 := mclear (d := d + 1) (ρ := ρ) (D := D) m528 (by decide) (by decide)
  have q2 := mdeg (d := d + 1) (ρ := ρ) (D := pD D 528 (rI p0)) kf (by decide) (PR_ne (pD_ne hc8) RF)
  obtain ⟨D2, q3, R3, f3⟩ := mly_i (d := d) (ρ := ρ) kf hc8 iF (sz F) p0 (pD D 528 (rI p0)) none (sz_le F) (MF_cg hF (pD_ne (by decide))) (PR_ne (pD_ne hc8) RF) pD_PR (p0_in Φ)
  refine ⟨D2, ?_, R3, fun q hq => by rw [f3 q hq, pD_ne hq]⟩
  rw [vM_layInY_0]
  simp only [mGF m488, mr59]
  rw [q1, aVC, tlN, vM_layInY_7, q2, aVC, tlS, vM_layInY_11, q3]
theorem mpp_row (hF : MF Φ D) {c1 n1 at_ c3 c4 : Nat} (k1 : KM c1 (1, n1)) (hn1 : n1 < 100000) (hat : at_ + 17 ≤ n1) (k3 : KM c3 (1, 17)) (k4 : KM c4 (1, 17)) (h14 : c1 ≠ c4) (h34 : c3 ≠ c4) (h48 : c4 ≠ 488) {C M : pl} (RC : PRo D c1 at_ C) (RM : PR D c3 M) (iC : inF Φ C) (iM : inF Φ M) {i : Nat} (hi : i < 17) : ∀ n k : Nat, i + k + n = 17 → Vl (d + 1) 281 18 [some (.inr (.inr (some 488))), some (.inr (.inr (some c1))), some (.inl (at_ : Int)), some (.inr (.inr (some c3))), some (.inr (.inr (some c4))), some (.inl (i : Int)), some (.inl (k : Int))] [] (hp (1, ρ) (pD D c4 (rI (apX Φ C M p0 i k)))) = Vl (d + 1) 281 75 [some (.inr (.inr (some 488))), some (.inr (.inr (some c1))), some (.inl (at_ : Int)), some (.inr (.inr (some c3))), some (.inr (.inr (some c4))), some (.inl (i : Int)), some (.inl ((17 - i : Nat) : Int))] [] (hp (1, ρ) (pD D c4 (rI (apX Φ C M p0 (i + 1) 0))))
  | 0, k, hk => by
    obtain rfl : k = 17 - i := by omega
    rw [vM_plainProduct_18, w32_ad (by omega), if_neg (by omega)]
    rw [pD_cg (D := D) (c := c4) (r := rI (apX Φ C M p0 i (17 - i))) (r' := rI (apX Φ C M p0 (i + 1) 0)) (fun b hb => by
      unfold rI; rw [apX_n C M p0 hb])]
  | n + 1, k, hk => by
    have hO := hF.1
    have h256 := F_256 hO
    obtain ⟨E, hE⟩ : ∃ E, E = pD D c4 (rI (apX Φ C M p0 i k)) := ⟨_, rfl⟩
    have e1 : E c1 (at_ + i) = (C i : Int) := by rw [hE, pD_ne h14]; exact RC i hi
    have e3 : E c3 k = (M k : Int) := by rw [hE, pD_ne h34]; exact RM k (by omega)
    have e4 : E c4 (i + k) = (apX Φ C M p0 i k (i + k) : Int) := by rw [hE]; exact pD_PR (i + k) (by omega)
    have ih := mpp_row hF k1 hn1 hat k3 k4 h14 h34 h48 RC RM iC iM hi n (k + 1) (by omega)
    have es : sD E c4 (i + k) ((apX Φ C M p0 i k (i + k) ^^^ fm Φ (C i) (M k) : Nat) : Int) = pD D c4 (rI (apX Φ C M p0 i (k + 1))) := by
      rw [hE, sD_pD (by omega), apX_s]
    have skip : fm Φ (C i) (M k) = 0 → pD D c4 (rI (apX Φ C M p0 i (k + 1))) = E := fun hz => by
      rw [← es, hz, Nat.xor_zero, ← e4]
      funext x y
      unfold sD
      by_cases q : x = c4 ∧ y = i + k
      · rw [if_pos q, q.1, q.2]
      · rw [if_neg q]
    have l1 := apX_in hO iC (p0_in Φ) M i k (i + k)
    have l2 : fm Φ (C i) (M k) < 2 ^ Φ.1 := fm_lt hO (iC i)
    rw [← hE, vM_plainProduct_18, w32_ad (by omega), if_pos (by omega), vM_plainProduct_28, w32_ad (by omega), mIA k1, if_pos (by omega), Int.toNat_natCast, e1]
    by_cases h0 : C i = 0
    · rw [if_pos (show (C i : Int) = 0 by omega), vM_plainProduct_69, w32_s (by omega), ← skip (by rw [h0, fm_0l])]
      exact ih
    rw [if_neg (show ¬ (C i : Int) = 0 by omega), vM_plainProduct_37, mIA k3, if_pos (by omega), Int.toNat_natCast, e3]
    by_cases h1 : M k = 0
    · rw [if_pos (show (M k : Int) = 0 by omega), vM_plainProduct_69, w32_s (by omega), ← skip (by rw [h1, fm_0r])]
      exact ih
    rw [if_neg (show ¬ (M k : Int) = 0 by omega), vM_plainProduct_44, w32_ad (by omega), w32_ad (by omega), mIA k4, if_pos (by omega), Int.toNat_natCast, e4, mIA k1, if_pos (by omega), Int.toNat_natCast, e1, mIA k3, if_pos (by omega), Int.toNat_natCast, e3, mGF m488]
    have q1 := mmul (d := d) (ρ := ρ) (D := E) (MF_cg hF (by rw [hE, pD_ne (fun z => h48 z.symm)])) (iC i) (iM k)
    rw [q1, aVC, tlS, vM_plainProduct_67, jxor_n (by omega) (by omega), mIS k4, if_pos (by omega), Int.toNat_natCast, es, vM_plainProduct_69, w32_s (by omega)]
    exact ih
theorem mpp_rows (hF : MF Φ D) {c1 n1 at_ c3 c4 : Nat} (k1 : KM c1 (1, n1)) (hn1 : n1 < 100000) (hat : at_ + 17 ≤ n1) (k3 : KM c3 (1, 17)) (k4 : KM c4 (1, 17)) (h14 : c1 ≠ c4) (h34 : c3 ≠ c4) (h48 : c4 ≠ 488) {C M : pl} (RC : PRo D c1 at_ C) (RM : PR D c3 M) (iC : inF Φ C) (iM : inF Φ M) : ∀ (n i : Nat) (u6 : Option jv), i + n = 17 → Vl (d + 1) 281 8 [some (.inr (.inr (some 488))), some (.inr (.inr (some c1))), some (.inl (at_ : Int)), some (.inr (.inr (some c3))), some (.inr (.inr (some c4))), some (.inl (i : Int)), u6] [] (hp (1, ρ) (pD D c4 (rI (apX Φ C M p0 i 0)))) = some ((0, none), hp (1, ρ) (pD D c4 (rI (pC Φ C M))))
  | 0, i, u6, hi => by
    obtain rfl : i = 17 := by omega
    rw [vM_plainProduct_8, if_neg (by decide), vM_plainProduct_81]
    rw [pD_cg (D := D) (c := c4) (r := rI (apX Φ C M p0 17 0)) (r' := rI (pC Φ C M)) (fun b hb => by
      unfold rI apX pC
      rw [if_neg (by omega), if_pos hb, Nat.xor_zero]
      show ((0 ^^^ pCn Φ C M 17 b : Nat) : Int) = _
      rw [Nat.zero_xor])]
  | n + 1, i, u6, hi => by
    have q := mpp_row (d := d) (ρ := ρ) hF k1 hn1 hat k3 k4 h14 h34 h48 RC RM iC iM (i := i) (by omega) (17 - i) 0 (by omega)
    rw [show ((0 : Nat) : Int) = 0 from rfl] at q
    rw [vM_plainProduct_8, if_pos (by omega), vM_plainProduct_15, q, vM_plainProduct_75, w32_s (by omega)]
    exact mpp_rows hF k1 hn1 hat k3 k4 h14 h34 h48 RC RM iC iM n (i + 1) _ (by omega)
theorem mplainP (hF : MF Φ D) {c1 n1 at_ c3 c4 : Nat} (k1 : KM c1 (1, n1)) (hn1 : n1 < 100000) (hat : at_ + 17 ≤ n1) (k3 : KM c3 (1, 17)) (k4 : KM c4 (1, 17)) (h14 : c1 ≠ c4) (h34 : c3 ≠ c4) (h48 : c4 ≠ 488) {C M : pl} (RC : PRo D c1 at_ C) (RM : PR D c3 M) (iC : inF Φ C) (iM : inF Φ M) : Vl (d + 1) 281 0 [some (.inr (.inr (some 488))), some (.inr (.inr (some c1))), some (.inl (at_ : Int)), some (.inr (.inr (some c3))), some (.inr (.inr (some c4))), none, none] [] (hp (1, ρ) D) = some ((0, none), hp (1, ρ) (pD D c4 (rI (pC Φ C M)))) := by
  have q1 := mclear (d := d) (ρ := ρ) (D := D) k4 (by decide) (by decide)
  have q2 := mpp_rows (d := d) (ρ := ρ) hF k1 hn1 hat k3 k4 h14 h34 h48 RC RM iC iM 17 0 none rfl
  rw [show ((0 : Nat) : Int) = 0 from rfl] at q2
  rw [vM_plainProduct_0, q1, aVC, tlN, vM_plainProduct_5]
  rw [pD_cg (D := D) (c := c4) (r := rI p0) (r' := rI (apX Φ C M p0 0 0)) (fun b hb => by
    unfold rI apX
    rw [if_neg (by omega)]
    show ((0 : Nat) : Int) = ((0 ^^^ (0 ^^^ 0) : Nat) : Int)
    simp)]
  exact q2
end MNRM
