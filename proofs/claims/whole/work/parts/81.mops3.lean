/-! THE REFERENCE'S METHODS: common; a polynomial's work on numbers is the rest of a division -/
section MOPS3
variable {ρ : jr2} {D D' : jD} {d : Nat} {Φ : gF} {A : aA}
theorem rset_c (r : Nat → pl) {i j : Nat} (h : i ≠ j) (F G : pl) : rset (rset r i F) j G = rset (rset r j G) i F := by
  funext q
  unfold rset
  by_cases h1 : q = j
  · rw [if_pos h1, if_neg (by omega), if_pos h1]
  · rw [if_neg h1, if_neg h1]
theorem mnum_0 (S : pl) : mnum Φ 0 S = if sz S = 0 then 0 else fi Φ (S (sz S - 1)) := by
  unfold mnum
  rw [if_neg (by decide)]
  by_cases h : sz S = 0
  · rw [if_pos h, if_pos h]; rfl
  · rw [if_neg h, if_neg h]
theorem mcommon_op (h : MS D A) (i j s : Int) : MO ρ D (oCommon A i j s).2 (oCommon A i j s).1 (Vl (d + 8) 250 0 [some (.inr (.inr (some 488))), some (.inl i), some (.inl j), some (.inl s), none, none] [] (hp (1, ρ) D)) := by
  have hB := mB_MS h
  have hF := mB_MF h
  unfold oCommon
  rw [vM_common_0, mGF m488, mtakeBoth h]
  by_cases h1 : aN A i ∧ aN A j
  rotate_left
  · rw [if_neg h1, if_neg (show ¬ ((aN A i ∧ aN A j) ∧ (s = 0 ∨ s = 1)) from fun z => h1 z.1), aVC, tlS, vM_common_6, if_pos j00, vM_common_18]
    exact MO_mB h rfl
  rw [if_pos h1, aVC, tlS, vM_common_6, if_neg j10, vM_common_9, misIn, aVC, tlS, vM_common_15]
  obtain ⟨p1, p2, -⟩ := MS_nm hB h1.1
  obtain ⟨r1, r2, -⟩ := MS_nm hB h1.2
  obtain ⟨E, hE, fE, RF, RG, hFE⟩ := mtwo h i j
  rw [← hE]
  by_cases h2 : s = 0 ∨ s = 1
  rotate_left
  · rw [if_neg (show ¬ (0 ≤ s ∧ s ≤ 1) by omega), if_neg (show ¬ ((aN A i ∧ aN A j) ∧ (s = 0 ∨ s = 1)) from fun z => h2 z.2), if_pos j00, vM_common_18]
    exact MO_sc h rfl (fun q hq => fE q (by unfold mK at hq; omega) (by unfold mK at hq; omega))
  rw [if_pos (show 0 ≤ s ∧ s ≤ 1 by omega), if_neg j10, if_pos (show ((aN A i ∧ aN A j) ∧ (s = 0 ∨ s = 1)) from ⟨h1, h2⟩)]
  obtain ⟨x, rfl⟩ := Int.eq_ofNat_of_zero_le (show 0 ≤ s by omega)
  rw [Int.toNat_natCast]
  have hx : x < 2 := by omega
  obtain ⟨D2, t1, t2, t3⟩ := mcommon (d := d) (ρ := ρ) hFE hx m511 m512 (by decide) (by decide) RF RG p2 r2
  have oE := ceul_OK hF.1 (s := x) p2 r2
  obtain ⟨S, hS⟩ : ∃ S, S = ceul (aF A) x (an A i) (an A j) := ⟨_, rfl⟩
  rw [← hS] at t2 oE ⊢
  obtain ⟨o1, o2, o3, o4, o5, o6, -⟩ := oE
  have h17 := sz_le S.1
  have fr : ∀ q, (mK q ∨ q ≤ 488) → D2 q = mB D A q := fun q hq => by rw [t3 q (by unfold mK at hq; omega), fE q (by unfold mK at hq; omega) (by unfold mK at hq; omega)]
  have hF2 : MF (aF A) D2 := MF_cg hF (fr 488 (Or.inr (by decide)))
  have hM2 : MS D2 A := MS_sc hB (fun c hc => fr c (by rcases hc with z | z; exact Or.inl z; exact Or.inr (by omega)))
  have st : Vl (d + 8) 250 21 [some (.inr (.inr (some 488))), some (.inl i), some (.inl j), some (.inl (x : Int)), none, none] [] (hp (1, ρ) E) = Vl (d + 8) 250 50 [some (.inr (.inr (some 488))), some (.inl i), some (.inl j), some (.inl (x : Int)), none, none] [.inl ((sz S.1 : Int) - 1)] (hp (1, ρ) D2) := by
    have q1 := mdeg (d := d + 7) (ρ := ρ) m502 (by decide) t2.1
    have f40 : Vl (d + 8) 250 40 [some (.inr (.inr (some 488))), some (.inl i), some (.inl j), some (.inl (x : Int)), none, none] [.inl (x : Int), .inr (.inr (some 512)), .inr (.inr (some 511)), .inr (.inr (some 488))] (hp (1, ρ) E) = Vl (d + 8) 250 50 [some (.inr (.inr (some 488))), some (.inl i), some (.inl j), some (.inl (x : Int)), none, none] [.inl ((sz S.1 : Int) - 1)] (hp (1, ρ) D2) := by
      rw [vM_common_40, mGF m488, t1, aVC, tlN, vM_common_43, mGF m488, mr19, q1, aVC, tlS]
    rw [← f40, vM_common_21, mGF m488, mGF m488, mr28, mr29]
    by_cases hx1 : x = 1
    · subst hx1
      rw [if_pos (by rfl), vM_common_35]; rfl
    · obtain rfl : x = 0 := by omega
      rw [if_neg (by decide), vM_common_39]; rfl
  -- the part itself, told last
  have last : ∀ (D3 : jD) (r : Nat → pl) (x4 : Int) (u5 : Option jv), MS D3 (aRes A r) → MF (aF A) D3 → PR D3 502 S.1 → D3 488 0 = 0 → (∀ q, q < 488 → D3 q = D q) → MO ρ D (aRes A (rset r 0 (cPart (aF A) x S))) ((sz (cPart (aF A) x S) : Int) - 1) (Vl (d + 8) 250 118 [some (.inr (.inr (some 488))), some (.inl i), some (.inl j), some (.inl (x : Int)), some (.inl x4), u5] [] (hp (1, ρ) D3)) := fun D3 r x4 u5 hM3 hF3 R3 h0 hf => by
    obtain ⟨D4, s1, s2, s3⟩ := mmonic (d := d + 1) (ρ := ρ) hF3 hx m502 (by decide) (by decide) (by decide) (by decide) R3 o1
    have q2 := mtell (d := d + 6) (ρ := ρ) (k := 0) (by decide) m502 (by decide) s2
    rw [show ((0 : Nat) : Int) = 0 from rfl] at q2
    have g4 : ∀ q, (mK q ∨ q ≤ 488) → D4 q = D3 q := fun q hq => s3 q (by unfold mK at hq; omega) (by unfold mK at hq; omega) (by unfold mK at hq; omega) (by unfold mK at hq; omega)
    refine MO_res h (k := 0) (by decide) (pSc_8 hF.1 o1 o1) (MS_sc hM3 (fun c hc => g4 c (by rcases hc with z | z; exact Or.inl z; exact Or.inr (by omega)))) (by rw [g4 488 (Or.inr (by decide))]; exact h0) (fun q hq => by rw [g4 q (Or.inr (by omega)), hf q hq]) ?_
    have f133 : Vl (d + 8) 250 118 [some (.inr (.inr (some 488))), some (.inl i), some (.inl j), some (.inl (x : Int)), some (.inl x4), u5] [] (hp (1, ρ) D3) = Vl (d + 8) 250 133 [some (.inr (.inr (some 488))), some (.inl i), some (.inl j), some (.inl (x : Int)), some (.inl x4), u5] [.inl (x : Int), .inr (.inr (some 502)), .inr (.inr (some 488))] (hp (1, ρ) D3) := by
      rw [vM_common_118, mGF m488, mr19]
      by_cases hx1 : x = 1
      · subst hx1
        rw [if_pos (by rfl), vM_common_128]; rfl
      · obtain rfl : x = 0 := by omega
        rw [if_neg (by decide), vM_common_132]; rfl
    rw [f133, vM_common_133, mGF m488, s1, aVC, tlN, vM_common_136, mGF m488, mGF m488, mr19, q2, aVC, tlS, vM_common_145]
    rfl
  rw [st, vM_common_50]
  by_cases h0 : x = 0
  rotate_left
  · rw [if_neg (show ¬ (x : Int) = 0 by omega), if_neg (show ¬ (x : Int) = 0 by omega)]
    exact last D2 (Ar A) _ _ hM2 hF2 t2.1 (by rw [fr 488 (Or.inr (by decide))]; exact mB_0) (fun q hq => by rw [fr q (Or.inr (by omega)), mB_ne (by omega)])
  subst h0
  rw [if_pos (show ((0 : Nat) : Int) = 0 from rfl), if_pos (show ((0 : Nat) : Int) = 0 from rfl), ← hS]
  have hv : mnum (aF A) 0 S.1 < 2 ^ (aF A).1 := mnum_lt hF.1 o1.1
  have st2 : Vl (d + 8) 250 56 [some (.inr (.inr (some 488))), some (.inl i), some (.inl j), some (.inl ((0 : Nat) : Int)), some (.inl ((sz S.1 : Int) - 1)), none] [] (hp (1, ρ) D2) = Vl (d + 8) 250 76 [some (.inr (.inr (some 488))), some (.inl i), some (.inl j), some (.inl ((0 : Nat) : Int)), some (.inl ((sz S.1 : Int) - 1)), none] [.inl (mnum (aF A) 0 S.1 : Int)] (hp (1, ρ) D2) := by
    rw [vM_common_56, mnum_0]
    by_cases hz : sz S.1 = 0
    · rw [if_pos (show (sz S.1 : Int) - 1 < 0 by omega), if_pos hz, vM_common_61]; rfl
    · obtain ⟨t, ht⟩ : ∃ t, sz S.1 = t + 1 := ⟨sz S.1 - 1, by omega⟩
      have q1 := minv_nz (d := d + 6) (ρ := ρ) hF2 (o1.1 t) (sz_top ht)
      rw [if_neg (show ¬ (sz S.1 : Int) - 1 < 0 by omega), if_neg hz, vM_common_65, mGF m488, mr19, ht, show ((t + 1 : Nat) : Int) - 1 = (t : Int) by omega, mIA m502, if_pos (by omega), Int.toNat_natCast, t2.1 t (by omega), mGF m488, q1, aVC, tlS, Nat.add_sub_cancel]
  have e3 := pSc_0 hF.1 hv o3
  have e5 := pSc_0 hF.1 hv o5
  have q1 := mscale (d := d + 6) (ρ := ρ) hF2 m507 (by decide) (by decide) t2.2.2.1 o3.1 hv
  have q2 := mscale (d := d + 6) (ρ := ρ) (D := pD D2 507 (rI (pM (aF A) (mnum (aF A) 0 S.1) S.2.2.1))) (MF_cg hF2 (pD_ne (by decide))) m508 (by decide) (by decide) (PR_ne (pD_ne (by decide)) t2.2.2.2.2.1) o5.1 hv
  obtain ⟨D3, hD3⟩ : ∃ D3, D3 = pD (pD D2 507 (rI (pM (aF A) (mnum (aF A) 0 S.1) S.2.2.1))) 508 (rI (pM (aF A) (mnum (aF A) 0 S.1) S.2.2.2.2.1)) := ⟨_, rfl⟩
  rw [← hD3] at q2
  have R7 : PR D3 507 (pM (aF A) (mnum (aF A) 0 S.1) S.2.2.1) := by rw [hD3]; exact PR_ne (pD_ne (by decide)) pD_PR
  have R8 : PR D3 508 (pM (aF A) (mnum (aF A) 0 S.1) S.2.2.2.2.1) := by rw [hD3]; exact pD_PR
  have g3 : ∀ q, q ≠ 507 → q ≠ 508 → D3 q = D2 q := fun q a b => by rw [hD3, pD_ne b, pD_ne a]
  have hM3 : MS D3 A := MS_sc hM2 (fun c hc => g3 c (by unfold mK at hc; omega) (by unfold mK at hc; omega))
  have k1 := mtell (d := d + 6) (ρ := ρ) (k := 2) (by decide) m507 (by decide) R7
  have k2 := mtell (d := d + 6) (ρ := ρ) (k := 3) (D := pOn D3 518 (17 * 2) 17 (rI (pM (aF A) (mnum (aF A) 0 S.1) S.2.2.1))) (by decide) m508 (by decide) (PR_ne (pOn_far (by decide)) R8)
  rw [show ((2 : Nat) : Int) = 2 from rfl] at k1
  rw [show ((3 : Nat) : Int) = 3 from rfl] at k2
  rw [e3, e5, rset_c (rset (Ar A) 0 _) (show (2 : Nat) ≠ 3 by decide), rset_c (Ar A) (show (0 : Nat) ≠ 3 by decide), rset_c (rset (Ar A) 3 _) (show (0 : Nat) ≠ 2 by decide), rset_c (Ar A) (show (3 : Nat) ≠ 2 by decide)]
  rw [st2, vM_common_76, mGF m488, mGF m488, mr24, q1, aVC, tlN, vM_common_88, mGF m488, mGF m488, mr25, q2, aVC, tlN, vM_common_98, mGF m488, mGF m488, mr24, k1, aVC, tlS, vM_common_107, mGF m488, mGF m488, mr25, k2, aVC, tlS, vM_common_117]
  have o3' : pO8 (pM (aF A) (mnum (aF A) 0 S.1) S.2.2.1) := by rw [← e3]; exact pSc_8 hF.1 o1 o3
  have o5' : pO8 (pM (aF A) (mnum (aF A) 0 S.1) S.2.2.2.2.1) := by rw [← e5]; exact pSc_8 hF.1 o1 o5
  have hM4 := MS_res hM3 (k := 2) (by decide) o3'
  have hM5 := MS_res hM4 (k := 3) (by decide) o5'
  exact last _ _ _ _ hM5 (MF_cg hF2 (by rw [pOn_far (by decide), pOn_far (by decide), g3 488 (by decide) (by decide)])) (PR_ne (by rw [pOn_far (by decide), pOn_far (by decide), g3 502 (by decide) (by decide)]) t2.1) (by rw [pOn_far (by decide), pOn_far (by decide), g3 488 (by decide) (by decide), fr 488 (Or.inr (by decide))]; exact mB_0) (fun q hq => by rw [pOn_far (by omega), pOn_far (by omega), g3 q (by omega) (by omega), fr q (Or.inr (by omega)), mB_ne (by omega)])
end MOPS3
