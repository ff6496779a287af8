/-! THE REFERENCE'S METHODS: the least one, with many values 0 -/
section MLEAST
variable {ρ : jr2} {D D' : jD} {d : Nat} {Φ : gF} {A : aA} {T : aT}
theorem mleast_loop (hO : FOK Φ) {l : Nat} (h16 : l ≤ 16) {t : Nat → Nat} (ht : ∀ q, q < l → t q < 2 ^ Φ.1) : ∀ (n i : Nat) (F : pl) (D : jD) (u3 : Option jv), MF Φ D → (∀ q, q < l → D 520 q = (t q : Int)) → i + n = l → PR D 511 F → pOK Φ F → sz F ≤ i + 1 → ∃ D' u3', Vl (d + 8) 264 39 [some (.inr (.inr (some 488))), some (.inl (l : Int)), some (.inl (i : Int)), u3] [] (hp (1, ρ) D) = Vl (d + 8) 264 128 [some (.inr (.inr (some 488))), some (.inl (l : Int)), some (.inl (l : Int)), u3'] [] (hp (1, ρ) D') ∧ PR D' 511 (lsl Φ t n i F) ∧ pOK Φ (lsl Φ t n i F) ∧ ∀ q, (q < 497 ∨ 515 < q) → D' q = D q
  | 0, i, F, D, u3, hF, hT, hi, RF, oF, hs => by
    obtain rfl : i = l := by omega
    exact ⟨D, u3, by rw [vM_least_39, if_neg (by omega)], RF, oF, fun _ _ => rfl⟩
  | n + 1, i, F, D, u3, hF, hT, hi, RF, oF, hs => by
    have hti := ht i (by omega)
    obtain ⟨D1, q1, f1⟩ := mvalueAt (d := d) (ρ := ρ) hF RF oF hti
    obtain ⟨o1, s1⟩ := tkn_OK hO oF (a := t i) (by omega)
    have e0 : lsl Φ t (n + 1) i F = lsl Φ t n (i + 1) (tkn Φ F (t i)) := rfl
    rw [vM_least_39, if_pos (by omega), vM_least_44]
    simp only [mGF m488, mr49]
    rw [mIA m520, if_pos (by omega), Int.toNat_natCast, hT i (by omega), q1, aVC, tlS, vM_least_54, e0]
    have et : tkn Φ F (t i) = if app Φ F (t i) 1 = 0 then F else pJ Φ 0 (lin (fkn Φ (t i) (app Φ F (t i) 1))) F := rfl
    by_cases h0 : app Φ F (t i) 1 = 0
    · rw [if_pos h0] at et
      rw [et] at o1 s1 ⊢
      obtain ⟨D2, u2, q2, R2, o2, f2⟩ := mleast_loop hO h16 ht n (i + 1) F D1 (some (.inl (app Φ F (t i) 1 : Int))) (MF_cg hF (f1 488 (by decide))) (fun q hq => by rw [f1 520 (by decide)]; exact hT q hq) (by omega) (PR_ne (f1 511 (by decide)) RF) oF (by omega)
      refine ⟨D2, u2, ?_, R2, o2, fun q hq => by rw [f2 q hq, f1 q (by omega)]⟩
      rw [if_pos (show (app Φ F (t i) 1 : Int) = 0 by omega), vM_least_59, vM_least_122, w32_s (by omega), q2]
    · rw [if_neg h0] at et
      rw [et] at o1 s1 ⊢
      have hv := app_lt hO oF.1 (t i) 1
      have hk := fkn_lt hO (a := t i) hv
      obtain ⟨l1, l2⟩ := lin_OK hO hk
      have qc := mclear (d := d + 7) (ρ := ρ) (D := D1) m515 (by decide) (by decide)
      obtain ⟨E, hE⟩ : ∃ E, E = sD (sD (pD D1 515 (rI p0)) 515 1 1) 515 0 (fkn Φ (t i) (app Φ F (t i) 1) : Int) := ⟨_, rfl⟩
      have fE : ∀ q, q ≠ 515 → E q = D1 q := fun q hq => by rw [hE, sD_ne hq, sD_ne hq, pD_ne hq]
      have RE : PR E 515 (lin (fkn Φ (t i) (app Φ F (t i) 1))) := by
        have e : E = pD D1 515 (rI (fun b => if b = 0 then fkn Φ (t i) (app Φ F (t i) 1) else if b = 1 then 1 else p0 b)) := by
          rw [hE, show (1 : Int) = ((1 : Nat) : Int) from rfl, sD_pD (by decide), sD_pD (by decide)]
        rw [e]
        exact pD_PR
      have hF1 : MF Φ D1 := MF_cg hF (f1 488 (by decide))
      have hF2 : MF Φ (sD (pD D1 515 (rI p0)) 515 1 1) := MF_cg hF1 (by rw [sD_ne (by decide), pD_ne (by decide)])
      have qk := mkinOf (d := d + 4) (ρ := ρ) hF2 hti hv h0
      obtain ⟨D3, q3, R3, f3⟩ := mprod (d := d + 3) (ρ := ρ) (D := E) (MF_cg hF1 (fE 488 (by decide))) m515 m511 m513 (by decide) (by decide) (by decide) (by decide) (by decide) (by decide) RE (PR_ne ((fE 511 (by decide)).trans (f1 511 (by decide))) RF) l1.1 oF.1
      have q4 := mcpy (d := d + 7) (ρ := ρ) m513 m511 (by decide) (by decide) (by decide) (by decide) R3
      have e520 : ∀ j, j < l → D1 520 j = (t j : Int) := fun j hj => by rw [f1 520 (by decide)]; exact hT j hj
      have f4 : ∀ q, (q < 497 ∨ 515 < q) → pD D3 511 (rI (pP Φ (sz (lin (fkn Φ (t i) (app Φ F (t i) 1)))) (lin (fkn Φ (t i) (app Φ F (t i) 1))) F)) q = D q := fun q hq => by rw [pD_ne (by omega), f3 q (by omega) (by omega), fE q (by omega), f1 q (by omega)]
      obtain ⟨D2, u2, q2, R2, o2, f2⟩ := mleast_loop hO h16 ht n (i + 1) (pJ Φ 0 (lin (fkn Φ (t i) (app Φ F (t i) 1))) F) (pD D3 511 (rI (pP Φ (sz (lin (fkn Φ (t i) (app Φ F (t i) 1)))) (lin (fkn Φ (t i) (app Φ F (t i) 1))) F))) (some (.inl (app Φ F (t i) 1 : Int))) (MF_cg hF (f4 488 (by decide))) (fun q hq => by rw [f4 520 (by decide)]; exact hT q hq) (by omega) (by unfold pJ; rw [if_neg (by decide)]; exact pD_PR) o1 (by omega)
      refine ⟨D2, u2, ?_, R2, o2, fun q hq => by rw [f2 q hq, f4 q hq]⟩
      have e1 : sD (pD D1 515 (rI p0)) 515 1 1 520 i = (t i : Int) := by rw [sD_ne (by decide), pD_ne (by decide)]; exact e520 i (by omega)
      rw [if_neg (show ¬ (app Φ F (t i) 1 : Int) = 0 by omega), vM_least_62]
      simp only [mGF m488, mr41]
      rw [qc, aVC, tlN, vM_least_69, mGF m488, mr41, mIS m515, if_pos (show (0 : Int) ≤ 1 ∧ (1 : Int) < ((17 : Nat) : Int) by decide), show (1 : Int).toNat = 1 from rfl]
      simp only [mGF m488, mr41, mr49]
      rw [mIA m520, if_pos (by omega), Int.toNat_natCast, e1, qk, aVC, tlS, vM_least_92, mIS m515, if_pos (show (0 : Int) ≤ 0 ∧ (0 : Int) < ((17 : Nat) : Int) by decide), show (0 : Int).toNat = 0 from rfl, ← hE]
      simp only [mGF m488, mr28, mr30, mr41]
      rw [q3, aVC, tlN, vM_least_109]
      simp only [mGF m488, mr28, mr30]
      rw [q4, aVC, tlN, vM_least_122, w32_s (by omega), q2]
theorem mleast_op (h : MS D A) : MO ρ D (oLeast A).2 (oLeast A).1 (Vl (d + 8) 264 0 [some (.inr (.inr (some 488))), none, none, none] [] (hp (1, ρ) D)) := by
  have hB := mB_MS h
  have hF := mB_MF h
  obtain ⟨D1, q1, m1, t1, z1, F1, f1⟩ := mtakeN (d := d + 6) (ρ := ρ) hB hF m520 (most := 16) (by decide) (by decide) (by unfold mK; decide) (by decide)
  unfold oLeast
  rw [show ((16 : Nat) : Int) = 16 from rfl] at q1
  rw [vM_least_0, mGF m488, mbegin h, aVC, tlN, vM_least_4]
  simp only [mGF m488, mr49]
  rw [q1, aVC, tlS, vM_least_14]
  have g1 : ∀ q, q < 488 → D1 q = D q := fun q hq => by rw [f1 q (by omega) (by omega), mB_ne (by omega)]
  by_cases h1 : Al A ≤ 16 ∧ allN A 0 (Al A) = true
  rotate_left
  · rw [if_neg h1, if_neg h1, if_pos rfl, vM_least_20]
    exact ⟨D1, rfl, m1, by rw [z1]; exact mB_0, g1⟩
  rw [if_pos h1, if_pos h1, if_neg (show ¬ (Al A : Int) = -1 by omega)]
  have ht := hAll_t hB hF.1 h1.2
  have qc := mclear (d := d + 7) (ρ := ρ) (D := D1) m511 (by decide) (by decide)
  obtain ⟨E, hE⟩ : ∃ E, E = sD (pD D1 511 (rI p0)) 511 0 1 := ⟨_, rfl⟩
  have fE : ∀ q, q ≠ 511 → E q = D1 q := fun q hq => by rw [hE, sD_ne hq, pD_ne hq]
  have RE : PR E 511 (mono 1 0) := by
    have e : E = pD D1 511 (rI (fun b => if b = 0 then 1 else p0 b)) := by
      rw [hE, show (1 : Int) = ((1 : Nat) : Int) from rfl, sD_pD (by decide)]
    rw [e]
    exact pD_PR
  obtain ⟨D2, u2, q2, R2, o2, f2⟩ := mleast_loop (d := d) (ρ := ρ) hF.1 h1.1 (t := At A) (fun q hq => (ht q hq).1) (Al A) 0 (mono 1 0) E none (MF_cg F1 (fE 488 (by decide))) (fun q hq => by rw [fE 520 (by decide)]; exact t1 h1 q hq) (Nat.zero_add _) RE (mono_OK (by have := F_2 hF.1; omega) (by decide)) (sz_mono 1 0)
  rw [show ((0 : Nat) : Int) = 0 from rfl] at q2
  have q3 := mtell (d := d + 6) (ρ := ρ) (D := D2) (k := 0) (by decide) m511 (by decide) R2
  rw [show ((0 : Nat) : Int) = 0 from rfl] at q3
  have f3 : ∀ q, (q < 497 ∨ 515 < q) → D2 q = D1 q := fun q hq => by rw [f2 q hq, fE q (by omega)]
  have m2 : MS D2 (aTape A 0 (At A)) := MS_sc m1 (fun c hc => f3 c (by unfold mK at hc; omega))
  rw [vM_least_23]
  simp only [mGF m488, mr28]
  rw [qc, aVC, tlN, vM_least_30, mGF m488, mr28, mIS m511, if_pos (show (0 : Int) ≤ 0 ∧ (0 : Int) < ((17 : Nat) : Int) by decide), show (0 : Int).toNat = 0 from rfl, ← hE, q2, vM_least_128]
  simp only [mGF m488, mr28]
  rw [q3, aVC, tlS, vM_least_137]
  exact ⟨_, rfl, MS_res m2 (k := 0) (by decide) (pOK_8 hF.1 o2), by rw [pOn_far (by decide), f3 488 (by decide), z1]; exact mB_0, fun q hq => by rw [pOn_far (by omega), f3 q (by omega), g1 q hq]⟩
end MLEAST
