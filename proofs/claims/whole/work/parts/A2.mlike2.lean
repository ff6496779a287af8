/-! THE REFERENCE'S METHODS: likeness, the act -/
section MLIKE2
variable {ρ : jr2} {D D' : jD} {d : Nat} {Φ : gF} {A : aA} {T : aT}
theorem fcM_p (h : FOK Φ) {F : pl} (oF : pOK Φ F) (hz : sz F ≠ 0) : ∃ v, v < 2 ^ Φ.1 ∧ v ≠ 0 ∧ fcM Φ F = pM Φ v F ∧ pOK Φ (fcM Φ F) := by
  obtain ⟨n, hn⟩ : ∃ n, sz F = n + 1 := ⟨sz F - 1, by omega⟩
  have e : fcM Φ F = pM Φ (fi Φ (F n)) F := by
    unfold fcM
    rw [fcM_eq oF, mnum0 hn]
  refine ⟨fi Φ (F n), fi_lt h (oF.1 n), fi_nz h (oF.1 n) (sz_top hn), e, ?_⟩
  rw [e]
  exact ⟨pM_in h (fi_lt h (oF.1 n)) _, pM_dle oF.2⟩
theorem mlk_loop (hO : FOK Φ) {F G : pl} (oF : pOK Φ F) (oG : pOK Φ G) {n : Nat} (hn1 : 1 ≤ n) (hnF : sz F = n + 1) (hn : sz G = n + 1) (hmn : Φ.1 * n ≤ 12) (x1 x2 : Int) : ∀ (r c : Nat) (D : jD), c + r = 2 ^ (Φ.1 * n) → MF Φ D → PR D 525 F → PR D 526 G → ∃ D', Vl (d + 8) 276 125 [some (.inr (.inr (some 488))), some (.inl x1), some (.inl x2), some (.inl (n : Int)), some (.inl (n : Int)), some (.inl (c : Int))] [] (hp (1, ρ) D) = some ((0, some (.inl (if mkl Φ F G n r c = true then 1 else 0))), hp (1, ρ) D') ∧ ∀ q, (q < 497 ∨ 532 < q ∨ q = 518) → D' q = D q
  | 0, c, D, hc, hF, RF, RG => by
    refine ⟨D, ?_, fun _ _ => rfl⟩
    rw [vM_like_125, mGF m488, mmany hF, aVC, tlS, vM_like_132, myN_n hO hmn, if_neg (by omega), vM_like_189]; rfl
  | r + 1, c, D, hc, hF, RF, RG => by
    have p1 : 2 ^ (Φ.1 * n) ≤ 2 ^ 12 := Nat.pow_le_pow_right (by decide) hmn
    have n17 := sz_le G
    obtain ⟨oL, dL⟩ := lyN_OK hO (c := c) (show n ≤ 17 by omega)
    have q1 := mlay (d := d + 6) (ρ := ρ) (D := D) hF m523 (by decide) (low := c) (n := n) (by omega) hmn
    have f1 : ∀ q, q ≠ 523 → pD D 523 (rI (lyN Φ c n)) q = D q := fun q hq => pD_ne hq
    obtain ⟨D2, q2, f2⟩ := mleav (d := d) (ρ := ρ) (MF_cg hF (f1 488 (by decide))) oF oG oL hn1 hnF hn dL (PR_ne (f1 525 (by decide)) RF) (PR_ne (f1 526 (by decide)) RG) pD_PR
    have g2 : ∀ q, (q < 497 ∨ 501 < q) → q ≠ 504 → q ≠ 505 → q ≠ 527 → q ≠ 532 → q ≠ 523 → D2 q = D q := fun q a b c e f g => by rw [f2 q a b c e f, f1 q g]
    have hF2 : MF Φ D2 := MF_cg hF (g2 488 (by decide) (by decide) (by decide) (by decide) (by decide) (by decide))
    have R5 : PR D2 525 F := PR_ne (g2 525 (by decide) (by decide) (by decide) (by decide) (by decide) (by decide)) RF
    have R6 : PR D2 526 G := PR_ne (g2 526 (by decide) (by decide) (by decide) (by decide) (by decide) (by decide)) RG
    have R3 : PR D2 523 (lyN Φ c n) := PR_ne (f2 523 (by decide) (by decide) (by decide) (by decide) (by decide)) pD_PR
    have go : ∀ D3, (∀ q, (q < 497 ∨ 532 < q ∨ q = 518) → D3 q = D q) → PR D3 525 F → PR D3 526 G → ∃ D', Vl (d + 8) 276 183 [some (.inr (.inr (some 488))), some (.inl x1), some (.inl x2), some (.inl (n : Int)), some (.inl (n : Int)), some (.inl (c : Int))] [] (hp (1, ρ) D3) = some ((0, some (.inl (if mkl Φ F G n r (c + 1) = true then 1 else 0))), hp (1, ρ) D') ∧ ∀ q, (q < 497 ∨ 532 < q ∨ q = 518) → D' q = D q := fun D3 g3 r5 r6 => by
      obtain ⟨D4, q4, f4⟩ := mlk_loop hO oF oG hn1 hnF hn hmn x1 x2 r (c + 1) D3 (by omega) (MF_cg hF (g3 488 (by decide))) r5 r6
      exact ⟨D4, by rw [vM_like_183, w32_s (by omega), q4], fun q hq => by rw [f4 q hq, g3 q hq]⟩
    have gD2 : ∀ q, (q < 497 ∨ 532 < q ∨ q = 518) → D2 q = D q := fun q hq => g2 q (by omega) (by omega) (by omega) (by omega) (by omega) (by omega)
    rw [vM_like_125, mGF m488, mmany hF, aVC, tlS, vM_like_132, myN_n hO hmn, if_pos (by omega), vM_like_135]
    simp only [mGF m488, mr52]
    rw [q1, aVC, tlN, vM_like_147, mGF m488, q2, aVC, tlS, vM_like_152]
    unfold mkl
    by_cases h1 : sz (lvr Φ F (lyN Φ c n) G) = 0
    rotate_left
    · rw [if_neg h1, if_pos j00, vM_like_155, if_neg (show ¬ (sz (lvr Φ F (lyN Φ c n) G) = 0 ∧ sz (ceul Φ 0 (lyN Φ c n) G).1 = 1) from fun z => h1 z.1)]
      exact go D2 gD2 R5 R6
    obtain ⟨D3, q3, E3, f3⟩ := mcommon (d := d) (ρ := ρ) hF2 (side := 0) (by decide) m523 m526 (by decide) (by decide) R3 R6 oL oG
    have q4 := mdeg (d := d + 7) (ρ := ρ) m502 (by decide) E3.1
    rw [show ((0 : Nat) : Int) = 0 from rfl] at q3
    rw [if_pos h1, if_neg j10, vM_like_158]
    simp only [mGF m488, mr52, mr57]
    rw [q3, aVC, tlN, vM_like_171]
    simp only [mGF m488, mr19]
    rw [q4, aVC, tlS, vM_like_178]
    have gD3 : ∀ q, (q < 497 ∨ 532 < q ∨ q = 518) → D3 q = D q := fun q hq => by rw [f3 q (by omega), gD2 q hq]
    by_cases h2 : sz (ceul Φ 0 (lyN Φ c n) G).1 = 1
    · rw [if_pos (show (sz (ceul Φ 0 (lyN Φ c n) G).1 : Int) - 1 = 0 by omega), vM_like_181, if_pos (show sz (lvr Φ F (lyN Φ c n) G) = 0 ∧ sz (ceul Φ 0 (lyN Φ c n) G).1 = 1 from ⟨h1, h2⟩), if_pos rfl]
      exact ⟨D3, rfl, gD3⟩
    · rw [if_neg (show ¬ (sz (ceul Φ 0 (lyN Φ c n) G).1 : Int) - 1 = 0 by omega), if_neg (show ¬ (sz (lvr Φ F (lyN Φ c n) G) = 0 ∧ sz (ceul Φ 0 (lyN Φ c n) G).1 = 1) from fun z => h2 z.2)]
      exact go D3 gD3 (PR_ne (f3 525 (by decide)) R5) (PR_ne (f3 526 (by decide)) R6)
theorem few_my {z : Nat} (hO : FOK Φ) (hz : z ≠ 0) : ¬ (4096 : Int) < myN Φ ((z : Int) - 1) ↔ ((z : Int) - 1 ≤ 12 ∧ ((z : Int) - 1) * (Φ.1 : Int) ≤ 12) := by
  obtain ⟨k, rfl⟩ : ∃ k, z = k + 1 := ⟨z - 1, by omega⟩
  rw [show ((k + 1 : Nat) : Int) - 1 = (k : Int) by omega]
  unfold myN
  rw [if_neg (by omega), Int.toNat_natCast]
  by_cases h1 : (k : Int) ≤ 12 ∧ (k : Int) * (Φ.1 : Int) ≤ 12
  · have p := Nat.pow_le_pow_right (n := 2) (by decide) ((my_c hO).mp h1)
    rw [if_pos h1]
    exact ⟨fun _ => h1, fun _ => by omega⟩
  · rw [if_neg h1]
    exact ⟨fun z => absurd z (by decide), fun z => absurd z h1⟩
theorem mlike_op (h : MS D A) (i j : Int) : MO ρ D A (oLike A i j) (Vl (d + 8) 276 0 [some (.inr (.inr (some 488))), some (.inl i), some (.inl j), none, none, none] [] (hp (1, ρ) D)) := by
  have hB := mB_MS h
  have hF := mB_MF h
  have hO := hF.1
  unfold oLike
  rw [vM_like_0, mGF m488, mtakeBoth h]
  by_cases h1 : aN A i ∧ aN A j
  rotate_left
  · rw [if_neg h1, aVC, tlS, vM_like_6, if_pos j00, vM_like_9, if_neg (fun z => h1 z.1)]
    exact MO_mB h rfl
  obtain ⟨p1, p2, -⟩ := MS_nm hB h1.1
  obtain ⟨r1, r2, -⟩ := MS_nm hB h1.2
  obtain ⟨E, hE⟩ : ∃ E, E = pD (pD (mB D A) 511 (rI (an A i))) 512 (rI (an A j)) := ⟨_, rfl⟩
  have fE : ∀ q, q ≠ 511 → q ≠ 512 → E q = mB D A q := fun q a b => by rw [hE, pD_ne b, pD_ne a]
  have RF : PR E 511 (an A i) := by rw [hE]; exact PR_ne (pD_ne (by decide)) pD_PR
  have RG : PR E 512 (an A j) := by rw [hE]; exact pD_PR
  have hFE : MF (aF A) E := MF_cg hF (fE 488 (by decide) (by decide))
  have done : ∀ (D1 : jD) (x : Int), (∀ q, (q < 497 ∨ 532 < q ∨ q = 518) → D1 q = E q) → MO ρ D A x (some ((0, some (.inl x)), hp (1, ρ) D1)) := fun D1 x g => MO_sc h rfl (fun q hq => by
    rw [g q (by unfold mK at hq; omega), fE q (by unfold mK at hq; omega) (by unfold mK at hq; omega)])
  have q1 := mdeg (d := d + 7) (ρ := ρ) m511 (by decide) RF
  have q2 := mdeg (d := d + 7) (ρ := ρ) m512 (by decide) RG
  rw [if_pos h1, ← hE, aVC, tlS, vM_like_6, if_neg j10, vM_like_12]
  simp only [mGF m488, mr28]
  rw [q1, aVC, tlS, vM_like_19]
  simp only [mGF m488, mr29]
  rw [q2, aVC, tlS, vM_like_27]
  have bad : ¬ ((aN A i ∧ aN A j) ∧ sz (an A i) ≠ 0 ∧ sz (an A j) ≠ 0 ∧ fewD (aF A) (an A i) ∧ fewD (aF A) (an A j)) → ∀ z : Int, MO ρ D A (by classical exact if (aN A i ∧ aN A j) ∧ sz (an A i) ≠ 0 ∧ sz (an A j) ≠ 0 ∧ fewD (aF A) (an A i) ∧ fewD (aF A) (an A j) then z else -2) (Vl (d + 8) 276 61 [some (.inr (.inr (some 488))), some (.inl i), some (.inl j), some (.inl ((sz (an A i) : Int) - 1)), some (.inl ((sz (an A j) : Int) - 1)), none] [] (hp (1, ρ) E)) := fun hb z => by
    rw [if_neg hb, vM_like_61]
    exact done E _ (fun _ _ => rfl)
  by_cases h3 : sz (an A i) = 0
  · rw [if_pos (show (sz (an A i) : Int) - 1 < 0 by omega)]
    exact bad (fun z => z.2.1 h3) _
  rw [if_neg (show ¬ (sz (an A i) : Int) - 1 < 0 by omega), vM_like_33]
  by_cases h4 : sz (an A j) = 0
  · rw [if_pos (show (sz (an A j) : Int) - 1 < 0 by omega)]
    exact bad (fun z => z.2.2.1 h4) _
  have m3 := few_my (Φ := aF A) hO h3
  have m4 := few_my (Φ := aF A) hO h4
  rw [if_neg (show ¬ (sz (an A j) : Int) - 1 < 0 by omega), vM_like_38, mGF m488, mmany hFE, aVC, tlS, vM_like_43]
  by_cases h5 : fewD (aF A) (an A i)
  rotate_left
  · rw [if_pos (show 4096 < myN (aF A) ((sz (an A i) : Int) - 1) from Classical.byContradiction fun z => h5 (m3.mp z))]
    exact bad (fun z => h5 z.2.2.2.1) _
  rw [if_neg (m3.mpr h5), vM_like_49, mGF m488, mmany hFE, aVC, tlS, vM_like_55]
  by_cases h6 : fewD (aF A) (an A j)
  rotate_left
  · rw [if_pos (show 4096 < myN (aF A) ((sz (an A j) : Int) - 1) from Classical.byContradiction fun z => h6 (m4.mp z))]
    exact bad (fun z => h6 z.2.2.2.2) _
  rw [if_neg (m4.mpr h6), vM_like_64, if_pos (show (aN A i ∧ aN A j) ∧ sz (an A i) ≠ 0 ∧ sz (an A j) ≠ 0 ∧ fewD (aF A) (an A i) ∧ fewD (aF A) (an A j) from ⟨h1, h3, h4, h5, h6⟩)]
  by_cases h7 : sz (an A i) = sz (an A j)
  rotate_left
  · rw [if_neg (show ¬ (sz (an A i) : Int) - 1 = (sz (an A j) : Int) - 1 by omega), vM_like_70, if_neg (show ¬ (sz (an A j) = sz (an A i) ∧ (sz (an A i) = 1 ∨ lkl (aF A) (an A i) (an A j) (sz (an A i) - 1) (2 ^ ((aF A).1 * (sz (an A i) - 1)) - 1) 1 = true)) from fun z => h7 z.1.symm)]
    exact done E _ (fun _ _ => rfl)
  rw [if_pos (show (sz (an A i) : Int) - 1 = (sz (an A j) : Int) - 1 by omega), vM_like_72]
  by_cases h8 : sz (an A i) = 1
  · rw [if_pos (show (sz (an A i) : Int) - 1 = 0 by omega), vM_like_76, if_pos (show sz (an A j) = sz (an A i) ∧ (sz (an A i) = 1 ∨ lkl (aF A) (an A i) (an A j) (sz (an A i) - 1) (2 ^ ((aF A).1 * (sz (an A i) - 1)) - 1) 1 = true) from ⟨h7.symm, Or.inl h8⟩)]
    exact done E _ (fun _ _ => rfl)
  rw [if_neg (show ¬ (sz (an A i) : Int) - 1 = 0 by omega), vM_like_78]
  obtain ⟨n, hn⟩ : ∃ n, sz (an A i) = n + 1 := ⟨sz (an A i) - 1, by omega⟩
  have hnG : sz (an A j) = n + 1 := by omega
  have hmn : (aF A).1 * n ≤ 12 := (my_c hO).mp (by
    have := h5
    unfold fewD at this
    rw [hn, show ((n + 1 : Nat) : Int) - 1 = (n : Int) by omega] at this
    exact this)
  obtain ⟨v, v1, v2, v3, v4⟩ := fcM_p hO p2 h3
  obtain ⟨u, u1, u2, u3, u4⟩ := fcM_p hO r2 h4
  obtain ⟨D1, k1, R1, f1⟩ := mmonic (d := d + 1) (ρ := ρ) hFE (side := 0) (by decide) m511 (by decide) (by decide) (by decide) (by decide) RF p2
  obtain ⟨D2, k2, R2, f2⟩ := mmonic (d := d + 1) (ρ := ρ) (D := D1) (MF_cg hFE (f1 488 (by decide) (by decide) (by decide) (by decide))) (side := 0) (by decide) m512 (by decide) (by decide) (by decide) (by decide) (PR_ne (f1 512 (by decide) (by decide) (by decide) (by decide)) RG) r2
  have R1' : PR D2 511 (fcM (aF A) (an A i)) := PR_ne (f2 511 (by decide) (by decide) (by decide) (by decide)) R1
  have k3 := mcpy (d := d + 7) (ρ := ρ) (D := D2) m511 m525 (by decide) (by decide) (by decide) (by decide) R1'
  have k4 := mcpy (d := d + 7) (ρ := ρ) (D := pD D2 525 (rI (fcM (aF A) (an A i)))) m512 m526 (by decide) (by decide) (by decide) (by decide) (PR_ne (pD_ne (by decide)) R2)
  obtain ⟨D4, hD4⟩ : ∃ D4, D4 = pD (pD D2 525 (rI (fcM (aF A) (an A i)))) 526 (rI (pSc (aF A) 0 (mnum (aF A) 0 (an A j)) (an A j))) := ⟨_, rfl⟩
  rw [← hD4] at k4
  have f4 : ∀ q, (q < 497 ∨ 532 < q ∨ q = 518) → D4 q = E q := fun q hq => by rw [hD4, pD_ne (by omega), pD_ne (by omega), f2 q (by omega) (by omega) (by omega) (by omega), f1 q (by omega) (by omega) (by omega) (by omega)]
  rw [show ((0 : Nat) : Int) = 0 from rfl] at k1 k2
  simp only [mGF m488, mr28]
  rw [k1, aVC, tlN, vM_like_87]
  simp only [mGF m488, mr29]
  rw [k2, aVC, tlN, vM_like_96]
  simp only [mGF m488, mr28, mr56]
  rw [k3, aVC, tlN, vM_like_109]
  simp only [mGF m488, mr29, mr57]
  have hsF : sz (fcM (aF A) (an A i)) = n + 1 := (fcM_sz hO p2).trans hn
  have hsG : sz (fcM (aF A) (an A j)) = n + 1 := (fcM_sz hO r2).trans hnG
  obtain ⟨D5, k5, f5⟩ := mlk_loop (d := d) (ρ := ρ) hO v4 u4 (show 1 ≤ n by omega) hsF hsG hmn i j (2 ^ ((aF A).1 * n) - 1) 1 D4 (by have := Nat.two_pow_pos ((aF A).1 * n); omega) (MF_cg hFE (f4 488 (by decide))) (by rw [hD4]; exact PR_ne (pD_ne (by decide)) pD_PR) (by rw [hD4]; exact pD_PR)
  rw [show ((1 : Nat) : Int) = 1 from rfl] at k5
  rw [k4, aVC, tlN, vM_like_122, show (sz (an A i) : Int) - 1 = (n : Int) by omega, show (sz (an A j) : Int) - 1 = (n : Int) by omega, k5]
  have el := lkl_mkl hO p2 r2 (show 1 ≤ n by omega) hnG hmn u1 u2 v1 v2
  rw [← v3, ← u3] at el
  rw [hn, Nat.add_sub_cancel, el]
  by_cases hm : mkl (aF A) (fcM (aF A) (an A i)) (fcM (aF A) (an A j)) n (2 ^ ((aF A).1 * n) - 1) 1 = true
  · rw [if_pos hm, if_pos ⟨hnG, Or.inr hm⟩]
    exact done D5 _ (fun q hq => by rw [f5 q hq, f4 q hq])
  · rw [if_neg hm, if_neg (fun z => by
      rcases z.2 with y | y
      · omega
      · exact hm y)]
    exact done D5 _ (fun q hq => by rw [f5 q hq, f4 q hq])
end MLIKE2
