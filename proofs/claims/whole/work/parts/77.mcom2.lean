/-! THE REFERENCE'S COMMON PARTS AND MULTIPLES, whole -/
section MCOM2
variable {ρ : jr2} {D : jD} {d : Nat} {Φ : gF}
theorem mcommon (hF : MF Φ D) {cf cg side : Nat} (hs : side < 2) (hf : KM cf (1, 17)) (hg : KM cg (1, 17)) (hf2 : 510 < cf) (hg2 : 510 < cg) {F G : pl} (RF : PR D cf F) (RG : PR D cg G) (oF : pOK Φ F) (oG : pOK Φ G) :
    ∃ D', Vl (d + 7) 234 0 [some (.inr (.inr (some 488))), some (.inr (.inr (some cf))), some (.inr (.inr (some cg))), some (.inl (side : Int))] [] (hp (1, ρ) D) = some ((0, none), hp (1, ρ) D') ∧ MES D' (ceul Φ side F G) ∧ ∀ q, (q < 497 ∨ 510 < q) → D' q = D q := by
  have k1 := mcpy (d := d + 6) (ρ := ρ) (D := D) hf m502 (by decide) (by decide) (by decide) (by omega) RF
  have k2 := mcpy (d := d + 6) (ρ := ρ) (D := pD D 502 (rI F)) hg m503 (by decide) (by decide) (by decide) (by omega) (PR_ne (pD_ne (by omega)) RG)
  obtain ⟨D1, hD1⟩ : ∃ D1, D1 = pD (pD D 502 (rI F)) 503 (rI G) := ⟨_, rfl⟩
  rw [← hD1] at k2
  have k3 := mclear (d := d + 6) (ρ := ρ) (D := D1) m507 (by decide) (by decide)
  have k4 := mclear (d := d + 6) (ρ := ρ) (D := pD D1 507 (rI p0)) m508 (by decide) (by decide)
  have k5 := mclear (d := d + 6) (ρ := ρ) (D := pD (pD D1 507 (rI p0)) 508 (rI p0)) m509 (by decide) (by decide)
  have k6 := mclear (d := d + 6) (ρ := ρ) (D := pD (pD (pD D1 507 (rI p0)) 508 (rI p0)) 509 (rI p0)) m510 (by decide) (by decide)
  obtain ⟨D2, hD2⟩ : ∃ D2, D2 = pD (pD (pD (pD D1 507 (rI p0)) 508 (rI p0)) 509 (rI p0)) 510 (rI p0) := ⟨_, rfl⟩
  rw [← hD2] at k6
  obtain ⟨D3, hD3⟩ : ∃ D3, D3 = sD (sD D2 507 0 1) 510 0 1 := ⟨_, rfl⟩
  have g1 : ∀ q, (q < 507 ∨ 510 < q) → D3 q = D1 q := fun q h => by rw [hD3, sD_ne (by omega), sD_ne (by omega), hD2, pD_ne (by omega), pD_ne (by omega), pD_ne (by omega), pD_ne (by omega)]
  have g0 : ∀ q, (q < 497 ∨ 510 < q) → D3 q = D q := fun q h => by rw [g1 q (by omega), hD1, pD_ne (by omega), pD_ne (by omega)]
  have one : ∀ c, (∀ b, b < 17 → D3 c b = if b = 0 then 1 else 0) → PR D3 c (mono 1 0) := fun c h b hb => by
    rw [h b hb]
    show (if b = 0 then (1 : Int) else 0) = (((if b = 0 then 1 else 0) : Nat) : Int)
    split <;> rfl
  have z : ∀ c, c = 507 ∨ c = 508 ∨ c = 509 ∨ c = 510 → ∀ b, b < 17 → D2 c b = 0 := fun c hc b hb => by
    rw [hD2]
    rcases hc with rfl | rfl | rfl | rfl
    · rw [pD_ne (by decide), pD_ne (by decide), pD_ne (by decide)]; exact pDn_lt hb
    · rw [pD_ne (by decide), pD_ne (by decide)]; exact pDn_lt hb
    · rw [pD_ne (by decide)]; exact pDn_lt hb
    · exact pDn_lt hb
  have hM : MES D3 (eS0 F G) := by
    refine ⟨PR_ne (D := pD D 502 (rI F)) (by rw [g1 502 (by decide), hD1, pD_ne (by decide)]) pD_PR, PR_ne (D := pD (pD D 502 (rI F)) 503 (rI G)) (by rw [g1 503 (by decide), hD1]) pD_PR, one 507 (fun b hb => ?_), fun b hb => ?_, fun b hb => ?_, one 510 (fun b hb => ?_)⟩
    · rw [hD3, sD_ne (by decide)]
      show (if 507 = 507 ∧ b = 0 then 1 else D2 507 b) = _
      by_cases e : b = 0
      · rw [if_pos ⟨rfl, e⟩, if_pos e]
      · rw [if_neg (fun q => e q.2), if_neg e, z 507 (by decide) b hb]
    · rw [hD3, sD_ne (by decide), sD_ne (by decide), z 509 (by decide) b hb]; rfl
    · rw [hD3, sD_ne (by decide), sD_ne (by decide), z 508 (by decide) b hb]; rfl
    · rw [hD3]
      show (if 510 = 510 ∧ b = 0 then 1 else sD D2 507 0 1 510 b) = _
      by_cases e : b = 0
      · rw [if_pos ⟨rfl, e⟩, if_pos e]
      · rw [if_neg (fun q => e q.2), if_neg e, sD_ne (by decide), z 510 (by decide) b hb]
  have hlt : sz (eS0 F G).2.1 < 19 := by
    show sz G < 19
    have := sz_le G; omega
  obtain ⟨D4, q4, M4, f4⟩ := mcom_loop (d := d) (ρ := ρ) hs (sz_le F) (sz_le G) (some cf) (some cg) 19 (eS0 F G) D3 hlt (MF_cg hF (g0 488 (by decide))) hM (eS0_OK hF.1 oF oG)
  refine ⟨D4, ?_, M4, fun q h => by rw [f4 q h, g0 q h]⟩
  rw [vM_commonOf_0, mGF m488, mr19, k1, aVC, tlN, vM_commonOf_10, mGF m488, mr20, k2, aVC, tlN, vM_commonOf_20, mGF m488, mr24, k3, aVC, tlN, vM_commonOf_27, mGF m488, mr25, k4, aVC, tlN, vM_commonOf_34, mGF m488, mr26, k5, aVC, tlN, vM_commonOf_41, mGF m488, mr27, k6, aVC, tlN, vM_commonOf_48, mGF m488, mr24, mIS m507, if_pos (by decide), mGF m488, mr27, mIS m510, if_pos (by decide), show (0 : Int).toNat = 0 from rfl, ← hD3]
  exact q4
theorem cMul_z {side : Nat} {F G : pl} (h : sz F = 0 ∨ sz G = 0) : cMul Φ side F G = p0 := by
  unfold cMul
  have e : cmul Φ side F G (ceul Φ side F G) = p0 := if_pos h
  rw [e]
  unfold pSc pJ
  split
  · rw [sz_p0]; rfl
  · exact pP_0r _ _
/-- the least multiple of f and g, in 511 and 512, to 513 -/
theorem mmult (hF : MF Φ D) {side : Nat} (hs : side < 2) {F G : pl} (RF : PR D 511 F) (RG : PR D 512 G) (oF : pOK Φ F) (oG : pOK Φ G) :
    ∃ D', Vl (d + 8) 239 0 [some (.inr (.inr (some 488))), some (.inl (side : Int)), none, none] [] (hp (1, ρ) D) = some ((0, some (.inl (if cfit F G (ceul Φ side F G).1 = true then (sz (cMul Φ side F G) : Int) - 1 else -2))), hp (1, ρ) D') ∧ (cfit F G (ceul Φ side F G).1 = true → PR D' 513 (cMul Φ side F G)) ∧ ∀ q, (q < 497 ∨ 510 < q) → q ≠ 513 → D' q = D q := by
  have q1 := mdeg (d := d + 7) (ρ := ρ) m511 (by decide) RF
  have q2 := mdeg (d := d + 7) (ρ := ρ) m512 (by decide) RG
  have q3 := mclear (d := d + 7) (ρ := ρ) (D := D) m513 (by decide) (by decide)
  have h17f := sz_le F
  have h17g := sz_le G
  have st : Vl (d + 8) 239 0 [some (.inr (.inr (some 488))), some (.inl (side : Int)), none, none] [] (hp (1, ρ) D) = Vl (d + 8) 239 23 [some (.inr (.inr (some 488))), some (.inl (side : Int)), some (.inl ((sz F : Int) - 1)), some (.inl ((sz G : Int) - 1))] [] (hp (1, ρ) (pD D 513 (rI p0))) := by
    rw [vM_multipleOf_0, mGF m488, mr28, q1, aVC, tlS, vM_multipleOf_7, mGF m488, mr29, q2, aVC, tlS, vM_multipleOf_15, mGF m488, mr30, q3, aVC, tlN]
  rw [st, vM_multipleOf_23]
  by_cases hz : sz F = 0 ∨ sz G = 0
  · have hc : cfit F G (ceul Φ side F G).1 = true := by
      unfold cfit
      rcases hz with h | h
      · simp [h]
      · simp [h]
    have e0 := cMul_z (Φ := Φ) (side := side) hz
    refine ⟨pD D 513 (rI p0), ?_, fun _ => by rw [e0]; exact pD_PR, fun q _ h => pD_ne h⟩
    rw [if_pos hc, e0, sz_p0]
    by_cases hf : sz F = 0
    · rw [if_pos (by omega), vM_multipleOf_31]; rfl
    · rw [if_neg (by omega), vM_multipleOf_27, if_pos (by omega), vM_multipleOf_31]; rfl
  have hF1 : MF Φ (pD D 513 (rI p0)) := MF_cg hF (pD_ne (by decide))
  obtain ⟨D1, p1, M1, f1⟩ := mcommon (d := d) (ρ := ρ) hF1 hs m511 m512 (by decide) (by decide) (PR_ne (pD_ne (by decide)) RF) (PR_ne (pD_ne (by decide)) RG) oF oG
  have oE := ceul_OK hF.1 (s := side) oF oG
  obtain ⟨oM, oM2⟩ := cmul_OK hF.1 (side := side) (G := G) oF oE
  have hS17 := sz_le (ceul Φ side F G).1
  have q5 := mdeg (d := d + 7) (ρ := ρ) m502 (by decide) M1.1
  rw [if_neg (by omega), vM_multipleOf_27, if_neg (by omega), vM_multipleOf_33]
  simp only [mGF m488, mr28, mr29]
  rw [p1, aVC, tlN, vM_multipleOf_46, mGF m488, mr19, q5, aVC, tlS, vM_multipleOf_56, show w32 ((sz F : Int) - 1 + ((sz G : Int) - 1)) = (sz F : Int) + (sz G : Int) - 2 from by unfold w32; omega, show w32 ((sz F : Int) + (sz G : Int) - 2 - ((sz (ceul Φ side F G).1 : Int) - 1)) = (sz F : Int) + (sz G : Int) - 1 - (sz (ceul Φ side F G).1 : Int) from by unfold w32; omega]
  by_cases hc : cfit F G (ceul Φ side F G).1 = true
  rotate_left
  · have : ¬ sz F + sz G ≤ sz (ceul Φ side F G).1 + 17 := fun q => hc (by unfold cfit; simp [q])
    rw [if_neg hc, if_pos (by omega), vM_multipleOf_62]
    exact ⟨D1, rfl, fun z => absurd z hc, fun q a b => by rw [f1 q a, pD_ne b]⟩
  have hfit : sz F + sz G ≤ sz (ceul Φ side F G).1 + 17 := by
    unfold cfit at hc
    simp only [Bool.or_eq_true, decide_eq_true_eq] at hc
    omega
  have hF2 : MF Φ D1 := MF_cg hF1 (f1 488 (by decide))
  obtain ⟨-, -, -, o4, -⟩ := oE
  have em : cmul Φ side F G (ceul Φ side F G) = pJ Φ side (ceul Φ side F G).2.2.2.1 F := by
    unfold cmul; rw [if_neg hz, if_pos hfit]
  have RF1 : PR D1 511 F := PR_ne (by rw [f1 511 (by decide), pD_ne (by decide)]) RF
  have key : ∃ D2, Vl (d + 8) 239 65 [some (.inr (.inr (some 488))), some (.inl (side : Int)), some (.inl ((sz F : Int) - 1)), some (.inl ((sz G : Int) - 1))] [] (hp (1, ρ) D1) = Vl (d + 8) 239 104 [some (.inr (.inr (some 488))), some (.inl (side : Int)), some (.inl ((sz F : Int) - 1)), some (.inl ((sz G : Int) - 1))] [] (hp (1, ρ) D2) ∧ PR D2 513 (cmul Φ side F G (ceul Φ side F G)) ∧ ∀ q, q ≠ 513 → q ≠ 497 → D2 q = D1 q := by
    by_cases h0 : side = 0
    · subst h0
      obtain ⟨D2, r1, r2, r3⟩ := mprod (d := d + 3) (ρ := ρ) hF2 m509 m511 m513 (by decide) (by decide) (by decide) (by decide) (by decide) (by decide) M1.2.2.2.1 RF1 o4.1 oF.1
      refine ⟨D2, ?_, by rw [em]; exact r2, r3⟩
      rw [vM_multipleOf_65, if_pos (by rfl), vM_multipleOf_88]
      simp only [mGF m488, mr26, mr28, mr30]
      rw [r1, aVC, tlN]
    · obtain rfl : side = 1 := by omega
      obtain ⟨D2, r1, r2, r3⟩ := mprod (d := d + 3) (ρ := ρ) hF2 m511 m509 m513 (by decide) (by decide) (by decide) (by decide) (by decide) (by decide) RF1 M1.2.2.2.1 oF.1 o4.1
      refine ⟨D2, ?_, by rw [em]; exact r2, r3⟩
      rw [vM_multipleOf_65, if_neg (by decide), vM_multipleOf_69]
      simp only [mGF m488, mr26, mr28, mr30]
      rw [r1, aVC, tlN, vM_multipleOf_85]
  obtain ⟨D2, r1, r2, r3⟩ := key
  obtain ⟨D3, s1, s2, s3⟩ := mmonic (d := d + 1) (ρ := ρ) (MF_cg hF2 (r3 488 (by decide) (by decide))) hs m513 (by decide) (by decide) (by decide) (by decide) r2 oM
  have q6 := mdeg (d := d + 7) (ρ := ρ) m513 (by decide) s2
  refine ⟨D3, ?_, fun _ => s2, fun q a b => by rw [s3 q b (by omega) (by omega) (by omega), r3 q b (by omega), f1 q a, pD_ne b]⟩
  rw [if_neg (by omega), if_pos hc, r1, vM_multipleOf_104]
  simp only [mGF m488, mr30]
  rw [s1, aVC, tlN, vM_multipleOf_113, mGF m488, mr30, q6, aVC, tlS, vM_multipleOf_120]
  rfl
end MCOM2
