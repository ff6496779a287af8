/-! THE REFERENCE'S READER: the first LINES -/
section MHD
variable {ρ ρ1 ρ' : jr2} {D D1 D' D2 : jD} {d : Nat} {X : sx} {t : tk} {l : Nat} {Φ : gF} {x : Nat → Nat} {len : Nat} {nm : Nat → Nat}
/-- the state ahead of use() out of its pieces, where nothing is named -/
theorem MPR_hd {Φ' : gF} {t0 : tk} (hS : MPR ρ D (sx0 x len Φ nm) t0 l) {D2 : jD} {l' : Nat} (h489 : D2 489 = D 489) (h31 : D2 488 31 = D 488 31) (hT : MTK ρ' D2 len t) (hO : FOK Φ') (h0 : D2 491 0 = (Φ'.1 : Int)) (h1 : D2 491 1 = (Φ'.2.1 : Int)) (h2 : D2 491 2 = (Φ'.2.2.1 : Int)) (h3 : D2 491 3 = (Φ'.2.2.2 : Int)) (hj : ∀ j, 4 ≤ j → D2 491 j = D 491 j) (h46 : D2 488 46 = (l' : Int)) (h37 : D2 488 37 = D 488 37) : MPR ρ' D2 (sx0 x len Φ' nm) t l' := by
  obtain ⟨⟨⟨x1, x2, x3⟩, -, ⟨n1, n2, n3⟩, -⟩, ⟨r1, r2, r3, -⟩, -, -, r7⟩ := hS
  exact ⟨⟨⟨by rw [h31]; exact x1, x2, fun i hi => by rw [h489]; exact x3 i hi⟩, aF0_OK hO, ⟨Nat.zero_le _, by rw [hj 4 (by decide)]; exact n2, fun i hi => absurd hi (Nat.not_lt_zero i)⟩, fun i hi => absurd hi (Nat.not_lt_zero i)⟩, ⟨⟨Or.inl ⟨h0, h1⟩, h2, h3⟩, by rw [hj 5 (by decide)]; exact r2, by rw [hj 6 (by decide)]; exact r3, rfl, rfl⟩, hT, h46, by rw [h37]; exact r7⟩
theorem girr_1 (p : Nat) : girr 1 p = true := rfl
theorem mfieldL (hS : MLS ρ D (sx0 x len Φ nm) t 0) (ht : t.1 < 258) (hz : Φ.2.2.1 = 0 ∧ Φ.2.2.2 = 0) : match hdF (sx0 x len Φ nm) (nx (sx0 x len Φ nm) t) with
    | .inl e => MLE ρ D e (Vl (d + 4) 210 0 [some (.inr (.inr (some 488))), none] [] (hp (1, ρ) D))
    | .inr q => t.2.2.2 ≤ (nx (sx0 x len Φ nm) q.2).2.2.2 ∧ MLY ρ D (sx0 x len (q.1.1, q.1.2, Φ.2.2.1, Φ.2.2.2) nm) (nx (sx0 x len Φ nm) q.2) 1 (Vl (d + 4) 210 0 [some (.inr (.inr (some 488))), none] [] (hp (1, ρ) D)) := by
  obtain ⟨hP, hF⟩ := hS
  have e46 : D 488 46 = 0 := hP.2.2.2.1
  have hX := hP.1.1
  have hT1 : MTK ρ (sD D 488 46 1) len t := MTK_cg hP.2.2.1 (fun j a b => sD_nb (by omega))
  have hX1 : MX (sD D 488 46 1) x len := ⟨by rw [sD_nb (by decide)]; exact hX.1, hX.2.1, fun i hi => by rw [sD_ne (by decide)]; exact hX.2.2 i hi⟩
  obtain ⟨ρ1, D1, a1, a2, a3, a4, a5, a6⟩ := mgoL (d := d + 1) hX1 hT1 ht
  have G1 : XG D D1 := XG_tr (XG_8 (by decide)) (XG_TX a3)
  have hXa := MX_TX hX1 a3
  rw [vM_readField_0, mGF m488, hD, e46, if_neg (by decide), vM_readField_13]
  simp only [mGF m488, hwD, aLt]
  rw [a1, aVC, tlN, vM_readField_22, mGF m488, hD]
  show match hdF (sx0 x len Φ nm) (scn x len t.2.2.2) with
    | .inl e => MLE ρ D e _
    | .inr q => _
  obtain ⟨u, hu⟩ : ∃ u, u = scn x len t.2.2.2 := ⟨_, rfl⟩
  rw [← hu] at a4 a5 a6 ⊢
  obtain ⟨kd3, -, -, kd5⟩ := mkind a4
  unfold hdF
  by_cases h257 : u.1 = 257
  rotate_left
  · rw [if_neg h257, if_neg (show ¬ D1 488 34 = 3 from fun z => h257 (kd3.mp z)), vM_readField_30, mGF m488, mbad1 a4, aVC, tlS, vM_readField_35, aZ0]
    exact MLE_bad (f' := 1) rfl (LG_LX a2) G1 rfl
  obtain ⟨k35, k9⟩ := kd5 h257
  rw [if_pos h257, if_pos (kd3.mpr h257), vM_readField_36]
  simp only [mGF m488, hD, k35]
  rw [misIn, aVC, tlS, vM_readField_46]
  by_cases h18 : 1 ≤ u.2.2.1 ∧ u.2.2.1 ≤ 8
  rotate_left
  · rw [if_neg h18, if_neg (show ¬ ((1 : Int) ≤ (u.2.2.1 : Int) ∧ (u.2.2.1 : Int) ≤ 8) by omega), if_pos rfl, vM_readField_49, mGF m488, mbad2 a4 (by omega), aVC, tlS, vM_readField_54, aZ0]
    exact MLE_bad (f' := 2) rfl (LG_LX a2) G1 rfl
  rw [if_pos h18, if_pos (show (1 : Int) ≤ (u.2.2.1 : Int) ∧ (u.2.2.1 : Int) ≤ 8 by omega), if_neg j10, vM_readField_55]
  simp only [mGF m488, hD, k35]
  obtain ⟨ρ2, D2, b1, b2, b3, b4, b5, b6⟩ := mgoL (d := d + 1) hXa a4 (show u.1 < 258 by omega)
  have G2 : XG D D2 := XG_tr G1 (XG_TX b3)
  have L2 := LG_LX (LX_tr a2 b2)
  have hXb := MX_TX hXa b3
  rw [b1, aVC, tlN, vM_readField_64, mGF m488, hD]
  show match (if (scn x len u.2.2.2).1 = 257 then (if 2 ^ u.2.2.1 ≤ (scn x len u.2.2.2).2.2.1 ∧ (scn x len u.2.2.2).2.2.1 < 2 ^ (u.2.2.1 + 1) then (if girr u.2.2.1 (scn x len u.2.2.2).2.2.1 = true then .inr ((u.2.2.1, (scn x len u.2.2.2).2.2.1), scn x len u.2.2.2) else .inl (2, (scn x len u.2.2.2).2.1)) else .inl (2, (scn x len u.2.2.2).2.1)) else .inl (1, (scn x len u.2.2.2).2.1) : (Nat × Nat) ⊕ ((Nat × Nat) × tk)) with
    | .inl e => MLE ρ D e _
    | .inr q => _
  obtain ⟨v, hv⟩ : ∃ v, v = scn x len u.2.2.2 := ⟨_, rfl⟩
  rw [← hv] at b4 b5 b6 ⊢
  obtain ⟨ld3, -, -, ld5⟩ := mkind b4
  obtain ⟨n, hn⟩ : ∃ n, n = u.2.2.1 := ⟨_, rfl⟩
  rw [← hn] at h18 ⊢
  by_cases g257 : v.1 = 257
  rotate_left
  · rw [if_neg g257, if_neg (show ¬ D2 488 34 = 3 from fun z => g257 (ld3.mp z)), vM_readField_72, mGF m488, mbad1 b4, aVC, tlS, vM_readField_77, aZ0]
    exact MLE_bad (f' := 1) rfl L2 G2 rfl
  obtain ⟨l35, l9⟩ := ld5 g257
  have hpn : 2 ^ n ≤ 2 ^ 8 := Nat.pow_le_pow_right (by decide) h18.2
  have hp2 : 2 ^ (n + 1) = 2 ^ n * 2 := Nat.pow_succ 2 n
  rw [if_pos g257, if_pos (ld3.mpr g257), vM_readField_78, mGF m488, hD, l35, jshr_n (by omega)]
  have bad2 : MLE ρ D (2, v.2.1) (Vl (d + 4) 210 104 [some (.inr (.inr (some 488))), some (.inl (n : Int))] [] (hp (1, ρ2) D2)) := by
    rw [vM_readField_104, mGF m488, mbad2 b4 (by omega), aVC, tlS, vM_readField_109, aZ0]
    exact MLE_bad (f' := 2) rfl L2 G2 rfl
  have hdiv : v.2.2.1 / 2 ^ n = 1 ↔ (2 ^ n ≤ v.2.2.1 ∧ v.2.2.1 < 2 ^ (n + 1)) := by
    have h0 := Nat.two_pow_pos n
    constructor
    · intro z
      have z1 := Nat.div_mul_le_self v.2.2.1 (2 ^ n)
      have z2 := Nat.lt_mul_div_succ v.2.2.1 h0
      rw [z] at z1 z2
      omega
    · intro z
      rw [Nat.div_eq_iff h0]
      omega
  by_cases hr : 2 ^ n ≤ v.2.2.1 ∧ v.2.2.1 < 2 ^ (n + 1)
  rotate_left
  · rw [if_neg hr, if_neg (show ¬ ((v.2.2.1 / 2 ^ n : Nat) : Int) = 1 from fun z => hr (hdiv.mp (by omega)))]
    exact bad2
  have hd1 := hdiv.mpr hr
  have st : Vl (d + 4) 210 88 [some (.inr (.inr (some 488))), some (.inl (n : Int))] [] (hp (1, ρ2) D2) = if girr n v.2.2.1 = true then Vl (d + 4) 210 110 [some (.inr (.inr (some 488))), some (.inl (n : Int))] [] (hp (1, ρ2) D2) else Vl (d + 4) 210 104 [some (.inr (.inr (some 488))), some (.inl (n : Int))] [] (hp (1, ρ2) D2) := by
    rw [vM_readField_88]
    by_cases h1 : n = 1
    · rw [if_neg (show ¬ (1 : Int) < (n : Int) by omega), if_pos (by rw [h1]; exact girr_1 _)]
    rw [if_pos (show (1 : Int) < (n : Int) by omega), vM_readField_93]
    simp only [mGF m488, hD, l35]
    rw [mprime hr.2 h18.1 h18.2, aVC, tlS, vM_readField_101]
    by_cases hg : girr n v.2.2.1 = true
    · rw [if_pos hg, if_neg j10, if_pos hg]
    · rw [if_neg hg, if_pos rfl, if_neg hg]
  rw [if_pos hr, if_pos (show ((v.2.2.1 / 2 ^ n : Nat) : Int) = 1 by omega), st]
  by_cases hg : girr n v.2.2.1 = true
  rotate_left
  · rw [if_neg hg, if_neg hg]
    exact bad2
  rw [if_pos hg, if_pos hg, vM_readField_110]
  simp only [mGF m488, mr4]
  rw [mIS m491, if_pos (by decide), show (0 : Int).toNat = 0 from rfl]
  simp only [mGF m488, mr4, hD]
  rw [mIS m491, if_pos (by decide), show (1 : Int).toNat = 1 from rfl, sD_ne (show (488 : Nat) ≠ 491 by decide), l35]
  obtain ⟨E, hE⟩ : ∃ E, E = sD (sD D2 491 0 (n : Int)) 491 1 (v.2.2.1 : Int) := ⟨_, rfl⟩
  have fE : ∀ q, q ≠ 491 → E q = D2 q := fun q a => by rw [hE, sD_ne a, sD_ne a]
  have hTE : MTK ρ2 E len v := MTK_cg b4 (fun j _ _ => by rw [fE 488 (by decide)])
  have hXE : MX E x len := ⟨by rw [fE 488 (by decide)]; exact hXb.1, hXb.2.1, fun i hi => by rw [fE 489 (by decide)]; exact hXb.2.2 i hi⟩
  obtain ⟨ρ3, D3, c1, c2, c3, c4, c5, c6⟩ := mgoL (d := d + 1) hXE hTE (show v.1 < 258 by omega)
  rw [← hE]
  simp only [mGF m488]
  rw [c1, aVC, tlN, vM_readField_131, aZ1]
  have f491 : D3 491 = E 491 := c3.1 491 (by decide)
  have o491 : D2 491 = D 491 := by rw [b3.1 491 (by decide), a3.1 491 (by decide), sD_ne (by decide)]
  have hFO : FOK (n, v.2.2.1, Φ.2.2.1, Φ.2.2.2) := ⟨⟨⟨h18.1, h18.2, hr.1, hr.2⟩, hg⟩, by show Φ.2.2.1 < n; rw [hz.1]; exact h18.1, by show Φ.2.2.2 < 2 ^ n; rw [hz.2]; exact Nat.two_pow_pos n⟩
  have r1 := hP.2.1.1
  have e2 : D 491 2 = (Φ.2.2.1 : Int) := r1.2.1
  have e3 : D 491 3 = (Φ.2.2.2 : Int) := r1.2.2
  refine ⟨by show t.2.2.2 ≤ (scn x len v.2.2.2).2.2.2; omega, ρ3, D3, rfl, LG_tr L2 (LG_LX c2), XG_tr G2 (XG_tr (by rw [hE]; exact XG_tr XG_1 XG_1) (XG_TX c3)), ?_⟩
  refine MPR_hd hP (by rw [c3.1 489 (by decide), fE 489 (by decide), b3.1 489 (by decide), a3.1 489 (by decide), sD_ne (by decide)]) (by rw [c3.2 31 (by decide), fE 488 (by decide), b3.2 31 (by decide), a3.2 31 (by decide), sD_nb (by decide)]) c4 hFO ?_ ?_ ?_ ?_ (fun j hj => ?_) ?_ ?_
  · rw [f491, hE, sD_nb (by decide)]; exact sD_eq
  · rw [f491, hE]; exact sD_eq
  · rw [f491, hE, sD_nb (by decide), sD_nb (by decide), o491]; exact e2
  · rw [f491, hE, sD_nb (by decide), sD_nb (by decide), o491]; exact e3
  · rw [f491, hE, sD_nb (by omega), sD_nb (by omega), o491]
  · rw [c3.2 46 (by decide), fE 488 (by decide), b3.2 46 (by decide), a3.2 46 (by decide)]; exact sD_eq
  · rw [c3.2 37 (by decide), fE 488 (by decide), b3.2 37 (by decide), a3.2 37 (by decide), sD_nb (by decide)]
/-- a number of the law: the turn (1), the slope (2) -/
theorem mlawL {h : Nat} (hh : h = 1 ∨ h = 2) (hS : MLS ρ D (sx0 x len Φ nm) t l) (hl : l ≤ h) (ht : t.1 < 258) : match hdN (sx0 x len Φ nm) Φ h (nx (sx0 x len Φ nm) t) with
    | .inl e => MLE ρ D e (Vl (d + 4) 213 0 [some (.inr (.inr (some 488))), some (.inl (if h = 1 then 1 else 0))] [] (hp (1, ρ) D))
    | .inr q => t.2.2.2 ≤ (nx (sx0 x len Φ nm) q.2).2.2.2 ∧ MLY ρ D (sx0 x len q.1 nm) (nx (sx0 x len Φ nm) q.2) (h + 1) (Vl (d + 4) 213 0 [some (.inr (.inr (some 488))), some (.inl (if h = 1 then 1 else 0))] [] (hp (1, ρ) D)) := by
  obtain ⟨hP, hF⟩ := hS
  have hO := hF.1
  have e46 : D 488 46 = (l : Int) := hP.2.2.2.1
  have hX := hP.1.1
  obtain ⟨b, hb⟩ : ∃ b : Int, b = if h = 1 then 1 else 0 := ⟨_, rfl⟩
  have hb1 : b = 0 ↔ h = 2 := by
    rw [hb]
    rcases hh with rfl | rfl
    · rw [if_pos rfl]; decide
    · rw [if_neg (by decide)]; decide
  have hT1 : MTK ρ (sD D 488 46 ((h + 1 : Nat) : Int)) len t := MTK_cg hP.2.2.1 (fun j a b => sD_nb (by omega))
  have hX1 : MX (sD D 488 46 ((h + 1 : Nat) : Int)) x len := ⟨by rw [sD_nb (by decide)]; exact hX.1, hX.2.1, fun i hi => by rw [sD_ne (by decide)]; exact hX.2.2 i hi⟩
  obtain ⟨ρ1, D1, a1, a2, a3, a4, a5, a6⟩ := mgoL (d := d + 1) hX1 hT1 ht
  have G1 : XG D D1 := XG_tr (XG_8 (by decide)) (XG_TX a3)
  have hXa := MX_TX hX1 a3
  have st : Vl (d + 4) 213 0 [some (.inr (.inr (some 488))), some (.inl b)] [] (hp (1, ρ) D) = Vl (d + 4) 213 39 [some (.inr (.inr (some 488))), some (.inl b)] [] (hp (1, ρ1) D1) := by
    have s32 : Vl (d + 4) 213 32 [some (.inr (.inr (some 488))), some (.inl b)] [.inl ((h + 1 : Nat) : Int), .inr (.inr (some 488))] (hp (1, ρ) D) = Vl (d + 4) 213 39 [some (.inr (.inr (some 488))), some (.inl b)] [] (hp (1, ρ1) D1) := by
      rw [vM_readLaw_32]
      simp only [mGF m488, hwD, aLt]
      rw [a1, aVC, tlN]
    rw [vM_readLaw_0]
    simp only [mGF m488, hD, e46]
    rcases hh with rfl | rfl
    · have hb0 : ¬ b = 0 := fun z => absurd (hb1.mp z) (by decide)
      rw [if_neg hb0, vM_readLaw_8, vM_readLaw_13, if_neg (by omega), vM_readLaw_22, if_neg hb0, vM_readLaw_27]
      exact s32
    · have hb0 : b = 0 := hb1.mpr rfl
      rw [if_pos hb0, vM_readLaw_12, vM_readLaw_13, if_neg (by omega), vM_readLaw_22, if_pos hb0, vM_readLaw_31]
      exact s32
  rw [← hb, st, vM_readLaw_39, mGF m488, hD]
  show match hdN (sx0 x len Φ nm) Φ h (scn x len t.2.2.2) with
    | .inl e => MLE ρ D e _
    | .inr q => _
  obtain ⟨u, hu⟩ : ∃ u, u = scn x len t.2.2.2 := ⟨_, rfl⟩
  rw [← hu] at a4 a5 a6 ⊢
  obtain ⟨kd3, -, -, kd5⟩ := mkind a4
  unfold hdN
  rw [if_neg (show ¬ h = 0 by omega)]
  by_cases h257 : u.1 = 257
  rotate_left
  · rw [if_neg h257, if_neg (show ¬ D1 488 34 = 3 from fun z => h257 (kd3.mp z)), vM_readLaw_47, mGF m488, mbad1 a4, aVC, tlS, vM_readLaw_52, aZ0]
    exact MLE_bad (f' := 1) rfl (LG_LX a2) G1 rfl
  obtain ⟨k35, k9⟩ := kd5 h257
  have f10 : D1 488 10 = (Φ.1 : Int) := by rw [a3.2 10 (by decide), sD_nb (by decide)]; exact hF.2.1
  have hF1 : MF Φ D1 := by
    obtain ⟨b1, b2, b3, b4, b5⟩ := hF
    exact ⟨b1, f10, by rw [a3.2 11 (by decide), sD_nb (by decide)]; exact b3, by rw [a3.2 12 (by decide), sD_nb (by decide)]; exact b4, by rw [a3.2 13 (by decide), sD_nb (by decide)]; exact b5⟩
  have h256 := F_256 hO
  rw [if_pos h257, if_pos (kd3.mpr h257), vM_readLaw_53]
  have bad2 : MLE ρ D (2, u.2.1) (Vl (d + 4) 213 82 [some (.inr (.inr (some 488))), some (.inl b)] [] (hp (1, ρ1) D1)) := by
    rw [vM_readLaw_82, mGF m488, mbad2 a4 (by omega), aVC, tlS, vM_readLaw_87, aZ0]
    exact MLE_bad (f' := 2) rfl (LG_LX a2) G1 rfl
  have s88 : (if b = 0 then Vl (d + 4) 213 71 [some (.inr (.inr (some 488))), some (.inl b)] [] (hp (1, ρ1) D1) else Vl (d + 4) 213 57 [some (.inr (.inr (some 488))), some (.inl b)] [] (hp (1, ρ1) D1)) = if u.2.2.1 < (if h = 1 then Φ.1 else 2 ^ Φ.1) then Vl (d + 4) 213 88 [some (.inr (.inr (some 488))), some (.inl b)] [] (hp (1, ρ1) D1) else Vl (d + 4) 213 82 [some (.inr (.inr (some 488))), some (.inl b)] [] (hp (1, ρ1) D1) := by
    rcases hh with rfl | rfl
    · have hb0 : ¬ b = 0 := fun z => absurd (hb1.mp z) (by decide)
      rw [if_neg hb0, if_pos (show (1 : Nat) = 1 from rfl), vM_readLaw_57, mGF m488, mGF m488, hD, k35, hD, f10]
      by_cases q : u.2.2.1 < Φ.1
      · rw [if_pos (show (u.2.2.1 : Int) < (Φ.1 : Int) by omega), if_pos q]
      · rw [if_neg (show ¬ (u.2.2.1 : Int) < (Φ.1 : Int) by omega), if_neg q, vM_readLaw_68]
    · have hb0 : b = 0 := hb1.mpr rfl
      rw [if_pos hb0, if_neg (show ¬ (2 : Nat) = 1 by decide), vM_readLaw_71]
      simp only [mGF m488, hD, k35]
      rw [misNum hF1, aVC, tlS, vM_readLaw_79]
      by_cases q : u.2.2.1 < 2 ^ Φ.1
      · rw [if_pos (show 0 ≤ (u.2.2.1 : Int) ∧ (u.2.2.1 : Int) < ((2 ^ Φ.1 : Nat) : Int) by omega), if_neg j10, if_pos q]
      · rw [if_neg (show ¬ (0 ≤ (u.2.2.1 : Int) ∧ (u.2.2.1 : Int) < ((2 ^ Φ.1 : Nat) : Int)) by omega), if_pos rfl, if_neg q]
  rw [s88]
  by_cases hq : u.2.2.1 < (if h = 1 then Φ.1 else 2 ^ Φ.1)
  rotate_left
  · rw [if_neg hq, if_neg hq]
    exact bad2
  rw [if_pos hq, if_pos hq]
  obtain ⟨E, hE⟩ : ∃ E, E = sD D1 491 (h + 1) (u.2.2.1 : Int) := ⟨_, rfl⟩
  have fE : ∀ q, q ≠ 491 → E q = D1 q := fun q a => by rw [hE, sD_ne a]
  have hTE : MTK ρ1 E len u := MTK_cg a4 (fun j _ _ => by rw [fE 488 (by decide)])
  have hXE : MX E x len := ⟨by rw [fE 488 (by decide)]; exact hXa.1, hXa.2.1, fun i hi => by rw [fE 489 (by decide)]; exact hXa.2.2 i hi⟩
  obtain ⟨ρ3, D3, c1, c2, c3, c4, c5, c6⟩ := mgoL (d := d + 1) hXE hTE (show u.1 < 258 by omega)
  have s110 : Vl (d + 4) 213 88 [some (.inr (.inr (some 488))), some (.inl b)] [] (hp (1, ρ1) D1) = some ((0, some (.inl 1)), hp (1, ρ3) D3) := by
    have s101 : ∀ i : Int, i = ((h + 1 : Nat) : Int) → Vl (d + 4) 213 101 [some (.inr (.inr (some 488))), some (.inl b)] [.inl i, .inr (.inr (some 491))] (hp (1, ρ1) D1) = some ((0, some (.inl 1)), hp (1, ρ3) D3) := fun i hi => by
      rw [vM_readLaw_101, mGF m488, hD, k35, mIS m491, hi, if_pos (by omega), Int.toNat_natCast, ← hE]
      simp only [mGF m488]
      rw [c1, aVC, tlN, vM_readLaw_110, aZ1]
    rw [vM_readLaw_88]
    simp only [mGF m488, mr4]
    rcases hh with rfl | rfl
    · have hb0 : ¬ b = 0 := fun z => absurd (hb1.mp z) (by decide)
      rw [if_neg hb0, vM_readLaw_96, s101 2 rfl]
    · have hb0 : b = 0 := hb1.mpr rfl
      rw [if_pos hb0, vM_readLaw_100, s101 3 rfl]
  rw [s110]
  have f491 : D3 491 = E 491 := c3.1 491 (by decide)
  have o491 : D1 491 = D 491 := by rw [a3.1 491 (by decide), sD_ne (by decide)]
  obtain ⟨r0, e2, e3⟩ := hP.2.1.1
  refine ⟨by show t.2.2.2 ≤ (scn x len u.2.2.2).2.2.2; omega, ρ3, D3, rfl, LG_tr (LG_LX a2) (LG_LX c2), XG_tr G1 (XG_tr (by rw [hE]; exact XG_1) (XG_TX c3)), ?_⟩
  have fr : ∀ j, j ≠ h + 1 → D3 491 j = D 491 j := fun j hj => by rw [f491, hE, sD_nb hj, o491]
  have fe : D3 491 (h + 1) = (u.2.2.1 : Int) := by rw [f491, hE]; exact sD_eq
  have hM : ∀ Φ' : gF, FOK Φ' → MN Φ' D3 491 0 → MPR ρ3 D3 (sx0 x len Φ' nm) (scn x len u.2.2.2) (h + 1) := fun Φ' hO' hN => by
    obtain ⟨⟨⟨x1, x2, x3⟩, -, ⟨n1, n2, n3⟩, -⟩, ⟨-, r2, r3, -⟩, -, -, r7⟩ := hP
    have z489 : D3 489 = D 489 := by rw [c3.1 489 (by decide), fE 489 (by decide), a3.1 489 (by decide), sD_ne (by decide)]
    have z31 : D3 488 31 = D 488 31 := by rw [c3.2 31 (by decide), fE 488 (by decide), a3.2 31 (by decide), sD_nb (by decide)]
    have z37 : D3 488 37 = D 488 37 := by rw [c3.2 37 (by decide), fE 488 (by decide), a3.2 37 (by decide), sD_nb (by decide)]
    have z46 : D3 488 46 = ((h + 1 : Nat) : Int) := by rw [c3.2 46 (by decide), fE 488 (by decide), a3.2 46 (by decide)]; exact sD_eq
    exact ⟨⟨⟨by rw [z31]; exact x1, x2, fun i hi => by rw [z489]; exact x3 i hi⟩, aF0_OK hO', ⟨Nat.zero_le _, by rw [fr 4 (by omega)]; exact n2, fun i hi => absurd hi (Nat.not_lt_zero i)⟩, fun i hi => absurd hi (Nat.not_lt_zero i)⟩, ⟨hN, by rw [fr 5 (by omega)]; exact r2, by rw [fr 6 (by omega)]; exact r3, rfl, rfl⟩, c4, z46, by rw [z37]; exact r7⟩
  refine hM _ ?_ ?_
  · rcases hh with rfl | rfl
    · exact ⟨hO.1, hq, hO.2.2⟩
    · exact ⟨hO.1, hO.2.1, hq⟩
  · rcases hh with rfl | rfl
    · refine ⟨?_, fe, by rw [fr 3 (by decide)]; exact e3⟩
      rw [fr 0 (by decide), fr (0 + 1) (by decide)]; exact r0
    · refine ⟨?_, by rw [fr 2 (by decide)]; exact e2, fe⟩
      rw [fr 0 (by decide), fr (0 + 1) (by decide)]; exact r0
end MHD
