/-! THE REFERENCE'S METHODS: divides, multiple, common -/
section MOPS2
variable {ρ : jr2} {D D' : jD} {d : Nat} {Φ : gF} {A : aA}
theorem MO_res (h : MS D A) {D2 : jD} {k : Nat} (hk : k < 4) {F : pl} (oF : pO8 F) {r : Nat → pl} (h2 : MS D2 (aRes A r)) (h0 : D2 488 0 = 0) (hf : ∀ q, q < 488 → D2 q = D q) {ans : Int} {run : Option jr} (hr : run = some ((0, some (.inl ans)), hp (1, ρ) (pOn D2 518 (17 * k) 17 (rI F)))) : MO ρ D (aRes A (rset r k F)) ans run := ⟨_, hr, MS_res h2 hk oF, by rw [pOn_far (by decide)]; exact h0, fun q hq => by rw [pOn_far (by omega), hf q hq]⟩
/-- both NAMES taken and the side told -/
theorem mtwo (h : MS D A) (i j : Int) : ∃ E, E = pD (pD (mB D A) 511 (rI (an A i))) 512 (rI (an A j)) ∧ (∀ q, q ≠ 511 → q ≠ 512 → E q = mB D A q) ∧ PR E 511 (an A i) ∧ PR E 512 (an A j) ∧ MF (aF A) E := by
  refine ⟨_, rfl, fun q a b => by rw [pD_ne b, pD_ne a], PR_ne (pD_ne (by decide)) pD_PR, pD_PR, MF_cg (mB_MF h) (by rw [pD_ne (by decide), pD_ne (by decide)])⟩
theorem aRes_me (A : aA) : aRes A (Ar A) = A := rfl
theorem mdivides_op (h : MS D A) (i j s : Int) : MO ρ D (oDivides A i j s).2 (oDivides A i j s).1 (Vl (d + 7) 249 0 [some (.inr (.inr (some 488))), some (.inl i), some (.inl j), some (.inl s)] [] (hp (1, ρ) D)) := by
  have hB := mB_MS h
  have hF := mB_MF h
  unfold oDivides
  rw [vM_divides_0, mGF m488, mtakeBoth h]
  by_cases h1 : aN A i ∧ aN A j
  rotate_left
  · rw [if_neg h1, if_neg (show ¬ ((aN A i ∧ aN A j) ∧ (s = 0 ∨ s = 1)) from fun z => h1 z.1), aVC, tlS, vM_divides_6, if_pos j00, vM_divides_28]
    exact MO_mB h rfl
  rw [if_pos h1, aVC, tlS, vM_divides_6, if_neg j10, vM_divides_9, misIn, aVC, tlS, vM_divides_15]
  obtain ⟨p1, p2, -⟩ := MS_nm hB h1.1
  obtain ⟨r1, r2, -⟩ := MS_nm hB h1.2
  obtain ⟨E, hE, fE, RF, RG, hFE⟩ := mtwo h i j
  rw [← hE]
  by_cases h2 : s = 0 ∨ s = 1
  rotate_left
  · rw [if_neg (show ¬ (0 ≤ s ∧ s ≤ 1) by omega), if_neg (show ¬ ((aN A i ∧ aN A j) ∧ (s = 0 ∨ s = 1)) from fun z => h2 z.2), if_pos j00, vM_divides_28]
    exact MO_sc h rfl (fun q hq => fE q (by unfold mK at hq; omega) (by unfold mK at hq; omega))
  rw [if_pos (show 0 ≤ s ∧ s ≤ 1 by omega), if_neg j10, if_pos (show ((aN A i ∧ aN A j) ∧ (s = 0 ∨ s = 1)) from ⟨h1, h2⟩), vM_divides_18, mGF m488, mr29, mdeg m512 (by decide) RG, aVC, tlS, vM_divides_25]
  by_cases h3 : sz (an A j) = 0
  · rw [if_pos h3, if_pos (show (sz (an A j) : Int) - 1 < 0 by omega), vM_divides_28]
    exact MO_sc h rfl (fun q hq => fE q (by unfold mK at hq; omega) (by unfold mK at hq; omega))
  rw [if_neg h3, if_neg (show ¬ (sz (an A j) : Int) - 1 < 0 by omega)]
  obtain ⟨x, rfl⟩ := Int.eq_ofNat_of_zero_le (show 0 ≤ s by omega)
  rw [Int.toNat_natCast]
  have hx : x < 2 := by omega
  obtain ⟨D2, t1, t2, t3, t4⟩ := mdivide (d := d) (ρ := ρ) hFE hx (cf := 511) (cg := 512) (cq := 504) (cr := 505) ⟨m511, by decide, by decide⟩ ⟨m512, by decide, by decide⟩ ⟨m504, by decide, by decide⟩ ⟨m505, by decide, by decide⟩ (by decide) (by decide) (by decide) (by decide) RF RG p2 r2 h3
  obtain ⟨n, hn⟩ : ∃ n, sz (an A j) = n + 1 := ⟨sz (an A j) - 1, by omega⟩
  obtain ⟨e1, e2, e3, e4, -, -⟩ := dvd_fact hF.1 (side := x) p2.1 r2.1 p2.2 r2.2 hn
  have hs1 := sz_le (an A i)
  have hs2 := sz_le (an A j)
  have fr : ∀ q, (mK q ∨ q ≤ 488) → D2 q = mB D A q := fun q hq => by rw [t4 q (by unfold mK at hq; omega) (by unfold mK at hq; omega) (by unfold mK at hq; omega), fE q (by unfold mK at hq; omega) (by unfold mK at hq; omega)]
  have hM2 : MS D2 A := MS_sc hB (fun c hc => fr c (by rcases hc with z | z; exact Or.inl z; exact Or.inr (by omega)))
  have k1 := mtell (d := d + 5) (ρ := ρ) (k := 0) (by decide) m504 (by decide) t2
  have k2 := mtell (d := d + 5) (ρ := ρ) (k := 1) (D := pOn D2 518 (17 * 0) 17 (rI (dvd (aF A) x (an A i) (an A j)).1)) (by decide) m505 (by decide) (PR_ne (pOn_far (by decide)) t3)
  have hM3 := MS_res hM2 (k := 0) (by decide) (pOK_8 hF.1 ⟨e1, dle_mono e3 (by omega)⟩)
  refine MO_res h (k := 1) (by decide) (pOK_8 hF.1 ⟨e2, dle_mono e4 (by omega)⟩) hM3 (by rw [pOn_far (by decide), fr 488 (Or.inr (by decide))]; exact mB_0) (fun q hq => by rw [pOn_far (by omega), fr q (Or.inr (by omega)), mB_ne (by omega)]) ?_
  rw [show ((0 : Nat) : Int) = 0 from rfl] at k1
  rw [show ((1 : Nat) : Int) = 1 from rfl] at k2
  have st : Vl (d + 7) 249 31 [some (.inr (.inr (some 488))), some (.inl i), some (.inl j), some (.inl (x : Int))] [] (hp (1, ρ) E) = Vl (d + 7) 249 61 [some (.inr (.inr (some 488))), some (.inl i), some (.inl j), some (.inl (x : Int))] [] (hp (1, ρ) D2) := by
    have f50 : Vl (d + 7) 249 50 [some (.inr (.inr (some 488))), some (.inl i), some (.inl j), some (.inl (x : Int))] [.inl (x : Int), .inr (.inr (some 512)), .inr (.inr (some 511)), .inr (.inr (some 488))] (hp (1, ρ) E) = Vl (d + 7) 249 61 [some (.inr (.inr (some 488))), some (.inl i), some (.inl j), some (.inl (x : Int))] [] (hp (1, ρ) D2) := by
      rw [vM_divides_50, mGF m488, mGF m488, mGF m488, mr21, mr22, t1, aVC, tlN]
    rw [← f50, vM_divides_31, mGF m488, mGF m488, mr28, mr29]
    by_cases hx1 : x = 1
    · subst hx1
      rw [if_pos (by rfl), vM_divides_45]; rfl
    · obtain rfl : x = 0 := by omega
      rw [if_neg (by decide), vM_divides_49]; rfl
  rw [st, vM_divides_61, mGF m488, mGF m488, mr21, k1, aVC, tlS, vM_divides_70, mGF m488, mGF m488, mr22, k2, aVC, tlS, vM_divides_80]
theorem mmultiple_op (h : MS D A) (i j s : Int) : MO ρ D (oMultiple A i j s).2 (oMultiple A i j s).1 (Vl (d + 9) 251 0 [some (.inr (.inr (some 488))), some (.inl i), some (.inl j), some (.inl s)] [] (hp (1, ρ) D)) := by
  have hB := mB_MS h
  have hF := mB_MF h
  unfold oMultiple
  rw [vM_multiple_0, mGF m488, mtakeBoth h]
  by_cases h1 : aN A i ∧ aN A j
  rotate_left
  · rw [if_neg h1, if_neg (show ¬ ((aN A i ∧ aN A j) ∧ (s = 0 ∨ s = 1)) from fun z => h1 z.1), aVC, tlS, vM_multiple_6, if_pos j00, vM_multiple_18]
    exact MO_mB h rfl
  rw [if_pos h1, aVC, tlS, vM_multiple_6, if_neg j10, vM_multiple_9, misIn, aVC, tlS, vM_multiple_15]
  obtain ⟨p1, p2, -⟩ := MS_nm hB h1.1
  obtain ⟨r1, r2, -⟩ := MS_nm hB h1.2
  obtain ⟨E, hE, fE, RF, RG, hFE⟩ := mtwo h i j
  rw [← hE]
  by_cases h2 : s = 0 ∨ s = 1
  rotate_left
  · rw [if_neg (show ¬ (0 ≤ s ∧ s ≤ 1) by omega), if_neg (show ¬ ((aN A i ∧ aN A j) ∧ (s = 0 ∨ s = 1)) from fun z => h2 z.2), if_pos j00, vM_multiple_18]
    exact MO_sc h rfl (fun q hq => fE q (by unfold mK at hq; omega) (by unfold mK at hq; omega))
  rw [if_pos (show 0 ≤ s ∧ s ≤ 1 by omega), if_neg j10, if_pos (show ((aN A i ∧ aN A j) ∧ (s = 0 ∨ s = 1)) from ⟨h1, h2⟩), vM_multiple_21]
  obtain ⟨x, rfl⟩ := Int.eq_ofNat_of_zero_le (show 0 ≤ s by omega)
  rw [Int.toNat_natCast]
  have hx : x < 2 := by omega
  obtain ⟨D2, t1, t2, t3⟩ := mmult (d := d) (ρ := ρ) hFE hx RF RG p2 r2
  have fr : ∀ q, (mK q ∨ q ≤ 488) → D2 q = mB D A q := fun q hq => by rw [t3 q (by unfold mK at hq; omega) (by unfold mK at hq; omega), fE q (by unfold mK at hq; omega) (by unfold mK at hq; omega)]
  have hM2 : MS D2 A := MS_sc hB (fun c hc => fr c (by rcases hc with z | z; exact Or.inl z; exact Or.inr (by omega)))
  have st : (if (x : Int) = 1 then Vl (d + 9) 251 27 [some (.inr (.inr (some 488))), some (.inl i), some (.inl j), some (.inl (x : Int))] [.inr (.inr (some 488))] (hp (1, ρ) E) else Vl (d + 9) 251 31 [some (.inr (.inr (some 488))), some (.inl i), some (.inl j), some (.inl (x : Int))] [.inr (.inr (some 488))] (hp (1, ρ) E)) = Vl (d + 9) 251 32 [some (.inr (.inr (some 488))), some (.inl i), some (.inl j), some (.inl (x : Int))] [.inl (x : Int), .inr (.inr (some 488))] (hp (1, ρ) E) := by
    by_cases hx1 : x = 1
    · subst hx1
      rw [if_pos (by rfl), vM_multiple_27]; rfl
    · obtain rfl : x = 0 := by omega
      rw [if_neg (by decide), vM_multiple_31]; rfl
  rw [st, vM_multiple_32, mGF m488, t1, aVC, tlS, vM_multiple_35]
  by_cases hc : cfit (an A i) (an A j) (ceul (aF A) x (an A i) (an A j)).1 = true
  rotate_left
  · rw [if_neg hc, if_neg hc, if_pos (show (-2 : Int) = -2 from rfl), vM_multiple_40, vM_multiple_54]
    exact MO_sc h rfl fr
  have oE := ceul_OK hF.1 (s := x) p2 r2
  have oM := (cmul_OK hF.1 (side := x) (G := an A j) p2 oE).1
  have k1 := mtell (d := d + 7) (ρ := ρ) (k := 0) (by decide) m513 (by decide) (t2 hc)
  rw [show ((0 : Nat) : Int) = 0 from rfl] at k1
  rw [if_pos hc, if_pos hc, if_neg (show ¬ (sz (cMul (aF A) x (an A i) (an A j)) : Int) - 1 = -2 by omega)]
  refine MO_res h (k := 0) (r := Ar A) (by decide) (pSc_8 hF.1 oM oM) hM2 (by rw [fr 488 (Or.inr (by decide))]; exact mB_0) (fun q hq => by rw [fr q (Or.inr (by omega)), mB_ne (by omega)]) ?_
  rw [vM_multiple_45, mGF m488, mGF m488, mr30, k1, aVC, tlS, vM_multiple_54]
  rfl
end MOPS2
