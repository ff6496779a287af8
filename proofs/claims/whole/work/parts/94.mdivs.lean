/-! THE REST BY THE CLASS IS THE REST OF DIVISION; numbers of polynomials in the reference -/
section REST
variable {Φ : gF}
theorem fs_1 (Φ : gF) : fs Φ 1 = 0 := by unfold fs; rw [show ft Φ 1 = 1 from gsn_1 _ _ _, Nat.xor_self, fm_0r]
theorem pS_m1 (k : Nat) : pS Φ (mono 1 k) = mono 1 (k + 1) := by
  funext b
  unfold pS mono
  by_cases h1 : b = k + 1
  · rw [if_neg (show ¬ b = 0 by omega), if_pos (show b - 1 = k by omega), if_neg (show ¬ b = k by omega), if_pos h1, fs_0, show ft Φ 1 = 1 from gsn_1 _ _ _]; rfl
  · rw [if_neg h1]
    by_cases h2 : b = k
    · rw [if_pos h2, fs_1]
      by_cases h3 : b = 0
      · rw [if_pos h3]; rfl
      · rw [if_neg h3, if_neg (by omega), ft_0]; rfl
    · rw [if_neg h2, fs_0]
      by_cases h3 : b = 0
      · rw [if_pos h3]; rfl
      · rw [if_neg h3, if_neg (by omega), ft_0]; rfl
theorem pSi_m1 : ∀ k, pSi Φ k (mono 1 0) = mono 1 k
  | 0 => rfl
  | k + 1 => by
    show pS Φ (pSi Φ k (mono 1 0)) = _
    rw [pSi_m1 k, pS_m1]
theorem pP_1r (F : pl) : ∀ k, pP Φ k F (mono 1 0) = fun b => if b < k then F b else 0
  | 0 => rfl
  | k + 1 => by
    show pA (pP Φ k F (mono 1 0)) (pM Φ (F k) (pSi Φ k (mono 1 0))) = _
    rw [pP_1r F k, pSi_m1]
    funext b
    show (if b < k then F b else 0) ^^^ fm Φ (F k) (if b = k then 1 else 0) = if b < k + 1 then F b else 0
    by_cases h : b = k
    · rw [if_neg (by omega), if_pos h, if_pos (by omega), fm_1r, Nat.zero_xor, h]
    · rw [if_neg h, fm_0r, Nat.xor_zero]
      by_cases h2 : b < k
      · rw [if_pos h2, if_pos (by omega)]
      · rw [if_neg h2, if_neg (by omega)]
theorem pP_1 {F : pl} (dF : dle F 17) : pP Φ (sz F) F (mono 1 0) = F := by
  rw [pP_1r]
  funext b
  by_cases h : b < sz F
  · exact if_pos h
  · rw [if_neg h]; exact (sz_ge dF (by omega)).symm
theorem lw_ex (h : FOK Φ) {G H : pl} (iG : inF Φ G) {n hd : Nat} (hh : hd < 2 ^ Φ.1) (iH : inF Φ H) : ∀ k, ∃ Q, inF Φ Q ∧ dle Q k ∧ pSi Φ k H = pA (pP Φ k Q G) (lw Φ G n hd H k)
  | 0 => ⟨p0, p0_in Φ, p0_dle 0, (p0_A H).symm⟩
  | k + 1 => by
    obtain ⟨Q, iQ, dQ, e⟩ := lw_ex h iG (n := n) hh iH k
    have iW := lw_in h (G := G) (n := n) (hd := hd) iH k
    have hc : fm Φ (pS Φ (lw Φ G n hd H k) n) hd < 2 ^ Φ.1 := fm_lt h (pS_in h iW n)
    refine ⟨pA (pS Φ Q) (mono (fm Φ (pS Φ (lw Φ G n hd H k) n) hd) 0), pA_in (pS_in h iQ) (mono_in hc 0), pA_dle (pS_dle dQ) (dle_mono (mono_dle _ _) (by omega)), ?_⟩
    have e1 : pP Φ (k + 1) (mono (fm Φ (pS Φ (lw Φ G n hd H k) n) hd) 0) G = pM Φ (fm Φ (pS Φ (lw Φ G n hd H k) n) hd) G := by
      rw [pP_ge (mono_dle _ _) (k + 1) (by omega), pP_mono]; rfl
    rw [pP_Al, e1]
    show pS Φ (pSi Φ k H) = pA _ (pA (pS Φ (lw Φ G n hd H k)) (pM Φ (fm Φ (pS Φ (lw Φ G n hd H k) n) hd) G))
    rw [e, pS_A h (pP_in h iQ k) iW, pS_P h iQ iG dQ, pA_a, pA_c (pS Φ (lw Φ G n hd H k)), pA_k]
theorem lv_ex (h : FOK Φ) {F G H : pl} (iF : inF Φ F) (iG : inF Φ G) {n hd : Nat} (hh : hd < 2 ^ Φ.1) (iH : inF Φ H) : ∀ k, ∃ Q, inF Φ Q ∧ dle Q k ∧ pP Φ k F H = pA (pP Φ k Q G) (lv Φ F G n hd H k)
  | 0 => ⟨p0, p0_in Φ, p0_dle 0, (p0_A p0).symm⟩
  | k + 1 => by
    obtain ⟨Q, iQ, dQ, e⟩ := lv_ex h iF iG (n := n) hh iH k
    obtain ⟨P, iP, dP, e2⟩ := lw_ex h iG (n := n) hh iH k
    refine ⟨pA Q (pM Φ (F k) P), pA_in iQ (pM_in h (iF k) P), dle_mono (pA_dle dQ (pM_dle dP)) (by omega), ?_⟩
    rw [pP_ge (n := k) (pA_dle dQ (pM_dle dP)) (k + 1) (by omega), pP_Al, pP_Ml h (iF k) iP]
    show pA (pP Φ k F H) (pM Φ (F k) (pSi Φ k H)) = pA _ (pA (lv Φ F G n hd H k) (pM Φ (F k) (lw Φ G n hd H k)))
    rw [e, e2, pM_A, pA_4]
/-- the rest of F by G from the right -/
theorem lvr_dvd (h : FOK Φ) {F G : pl} (oF : pOK Φ F) (oG : pOK Φ G) (hz : sz G ≠ 0) : (dvd Φ 0 F G).2 = lvr Φ F (mono 1 0) G := by
  obtain ⟨n, hn⟩ : ∃ n, sz G = n + 1 := ⟨sz G - 1, by omega⟩
  obtain ⟨a1, a2, a3, a4, a5, -⟩ := dvd_fact h (side := 0) oF.1 oG.1 oF.2 oG.2 hn
  unfold lvr
  by_cases h0 : n = 0
  · rw [if_pos (by omega)]
    funext b
    exact a4 b (by omega)
  · have i1 : inF Φ (mono 1 0) := mono_in (one_lt h) 0
    have g0 := sz_top hn
    have hi := fi_lt h (oG.1 n)
    obtain ⟨Q, iQ, dQ, e⟩ := lv_ex h oF.1 oG.1 (n := n) hi i1 (sz F)
    rw [pP_1 oF.2] at e
    have hw := lw_dle h oG.1 (by rw [← hn]; exact sz_dle oG.2) g0 i1 (dle_mono (mono_dle 1 0) (show 0 + 1 ≤ n by omega))
    have h17 := sz_le F
    have := dvd_u h (side := 0) oF.1 oG.1 oF.2 oG.2 hn iQ (dle_mono dQ h17) (lv_dle (F := F) hw (sz F)) (by
      unfold pB
      rw [if_neg (by decide), pP_ge dQ 17 h17]; exact e.symm)
    rw [if_neg (by omega), hn, Nat.add_sub_cancel, this]
theorem isDv_dvd (h : FOK Φ) {F G : pl} (oF : pOK Φ F) (oG : pOK Φ G) (hz : sz G ≠ 0) : isDv Φ F G = decide (sz (dvd Φ 0 F G).2 = 0) := by
  unfold isDv; rw [lvr_dvd h oF oG hz]
/-- a step of the walk is a rest -/
theorem lw_S (h : FOK Φ) {G H : pl} (oG : pOK Φ G) {n : Nat} (hn : sz G = n + 1) (iH : inF Φ H) (dH : dle H n) (k : Nat) : (dvd Φ 0 (pS Φ (lw Φ G n (fi Φ (G n)) H k)) G).2 = lw Φ G n (fi Φ (G n)) H (k + 1) := by
  have g0 := sz_top hn
  have hw := lw_dle h oG.1 (by rw [← hn]; exact sz_dle oG.2) g0 iH dH
  have h17 := sz_le G
  have iW := lw_in h (G := G) (n := n) (hd := fi Φ (G n)) iH k
  have hc : fm Φ (pS Φ (lw Φ G n (fi Φ (G n)) H k) n) (fi Φ (G n)) < 2 ^ Φ.1 := fm_lt h (pS_in h iW n)
  have dS : dle (pS Φ (lw Φ G n (fi Φ (G n)) H k)) 17 := dle_mono (pS_dle (hw k)) (by omega)
  have := dvd_u h (side := 0) (pS_in h iW) oG.1 dS oG.2 hn (mono_in hc 0) (dle_mono (mono_dle _ _) (by omega)) (hw (k + 1)) (by
    unfold pB
    rw [if_neg (by decide), pP_ge (mono_dle _ _) 17 (by omega), pP_mono]
    show pA (pM Φ _ G) (pA (pS Φ (lw Φ G n (fi Φ (G n)) H k)) (pM Φ (fm Φ (pS Φ (lw Φ G n (fi Φ (G n)) H k) n) (fi Φ (G n))) G)) = _
    rw [pA_c (pS Φ (lw Φ G n (fi Φ (G n)) H k)), pA_k])
  rw [this]
end REST
section MDIV
variable {ρ : jr2} {D D' : jD} {d : Nat} {Φ : gF} {A : aA} {T : aT}
def myN (Φ : gF) (n : Int) : Int := if n < 0 then 1 else if n ≤ 12 ∧ n * (Φ.1 : Int) ≤ 12 then ((2 ^ (Φ.1 * n.toNat) : Nat) : Int) else 4097
theorem p2_4096 {e : Nat} : 4096 < 2 ^ e ↔ 12 < e := by
  constructor
  · intro h
    by_cases q : e ≤ 12
    · have := Nat.pow_le_pow_right (n := 2) (by decide) q; omega
    · omega
  · intro h
    have := Nat.pow_le_pow_right (n := 2) (by decide) (show 13 ≤ e by omega); omega
theorem mmany_loop (hF : MF Φ D) {n : Nat} : ∀ f k : Nat, k + f = 13 → k ≤ n → Φ.1 * k ≤ 12 → Vl d 267 4 [some (.inr (.inr (some 488))), some (.inl (n : Int)), some (.inl ((2 ^ (Φ.1 * k) : Nat) : Int)), some (.inl (k : Int))] [] (hp (1, ρ) D) = some ((0, some (.inl (if Φ.1 * n ≤ 12 then ((2 ^ (Φ.1 * n) : Nat) : Int) else 4097))), hp (1, ρ) D)
  | 0, k, hk, hkn, hm => by
    have m1 := F_m1 hF.1
    have : 1 * k ≤ Φ.1 * k := Nat.mul_le_mul_right k m1
    omega
  | f + 1, k, hk, hkn, hm => by
    have m1 := F_m1 hF.1
    have m8 := F_m8 hF.1
    rw [vM_manyOf_4]
    by_cases e : k = n
    · rw [if_neg (by omega), vM_manyOf_33, ← e, if_pos hm]
    · have p1 : 2 ^ (Φ.1 * k) ≤ 2 ^ 12 := Nat.pow_le_pow_right (by decide) hm
      have p2 : 2 ^ Φ.1 ≤ 2 ^ 8 := Nat.pow_le_pow_right (by decide) m8
      have p3 : 2 ^ (Φ.1 * k) * 2 ^ Φ.1 ≤ 2 ^ 12 * 2 ^ 8 := Nat.mul_le_mul p1 p2
      have p4 : Φ.1 * (k + 1) = Φ.1 * k + Φ.1 := Nat.mul_succ _ _
      have p5 : 2 ^ (Φ.1 * k) * 2 ^ Φ.1 = 2 ^ (Φ.1 * (k + 1)) := by rw [← Nat.pow_add, p4]
      have p6 : Φ.1 * (k + 1) ≤ Φ.1 * n := Nat.mul_le_mul_left _ (by omega)
      have p7 := p2_4096 (e := Φ.1 * (k + 1))
      rw [if_pos (by omega), vM_manyOf_9, mGF m488, hD, hF.2.1, jshl_n (by omega) (by omega), p5]
      by_cases h1 : 12 < Φ.1 * (k + 1)
      · have := p7.mpr h1
        rw [if_pos (by omega), vM_manyOf_23, if_neg (by omega)]
      · have h2 : ¬ 4096 < 2 ^ (Φ.1 * (k + 1)) := fun z => h1 (p7.mp z)
        rw [if_neg (by omega), vM_manyOf_27, w32_s (by omega)]
        exact mmany_loop hF f (k + 1) (by omega) (by omega) (by omega)
theorem my_c {n : Nat} (hO : FOK Φ) : ((n : Int) ≤ 12 ∧ (n : Int) * (Φ.1 : Int) ≤ 12) ↔ Φ.1 * n ≤ 12 := by
  have m1 := F_m1 hO
  have h1 : 1 * n ≤ Φ.1 * n := Nat.mul_le_mul_right n m1
  have e : (n : Int) * (Φ.1 : Int) = ((Φ.1 * n : Nat) : Int) := by rw [Nat.mul_comm]; exact (Int.natCast_mul _ _).symm
  rw [e]
  omega
theorem mmany (hF : MF Φ D) (n : Int) : Vl d 267 0 [some (.inr (.inr (some 488))), some (.inl n), none, none] [] (hp (1, ρ) D) = some ((0, some (.inl (myN Φ n))), hp (1, ρ) D) := by
  unfold myN
  rw [vM_manyOf_0]
  by_cases h0 : n < 0
  · rw [if_pos h0, vM_manyOf_4, if_neg (by omega), vM_manyOf_33]
  · obtain ⟨k, rfl⟩ := Int.eq_ofNat_of_zero_le (show 0 ≤ n by omega)
    have q := mmany_loop (d := d) (ρ := ρ) hF (n := k) 13 0 rfl (Nat.zero_le _) (by rw [Nat.mul_zero]; decide)
    rw [Nat.mul_zero, show ((2 ^ 0 : Nat) : Int) = 1 from rfl, show ((0 : Nat) : Int) = 0 from rfl] at q
    rw [if_neg h0, q, Int.toNat_natCast]
    by_cases h1 : Φ.1 * k ≤ 12
    · rw [if_pos h1, if_pos ((my_c hF.1).mpr h1)]
    · rw [if_neg h1, if_neg (fun z => h1 ((my_c hF.1).mp z))]
/-- the plain row of n numbers by number -/
def lyN (Φ : gF) (low n : Nat) : pl := fun j => if j < n then low / 2 ^ (Φ.1 * j) % 2 ^ Φ.1 else 0
theorem mlay_loop (hF : MF Φ D) {c : Nat} (kc : KM c (1, 17)) (hc : c ≠ 488) {low n : Nat} (hl : low < 2147483648) (hmn : Φ.1 * n ≤ 12) (x3 : Int) : ∀ j : Nat, j ≤ n → Vl d 268 8 [some (.inr (.inr (some 488))), some (.inl (low : Int)), some (.inl (n : Int)), some (.inl x3), some (.inr (.inr (some c))), some (.inl 0)] [] (hp (1, ρ) (pD D c (rI p0))) = Vl d 268 8 [some (.inr (.inr (some 488))), some (.inl (low : Int)), some (.inl (n : Int)), some (.inl x3), some (.inr (.inr (some c))), some (.inl (j : Int))] [] (hp (1, ρ) (pD D c (rI (lyN Φ low j))))
  | 0, _ => by
    rw [show lyN Φ low 0 = p0 from funext fun b => if_neg (by omega)]; rfl
  | j + 1, hj => by
    have m1 := F_m1 hF.1
    have m8 := F_m8 hF.1
    have h1 : 1 * n ≤ Φ.1 * n := Nat.mul_le_mul_right n m1
    have h2 : Φ.1 * (j + 1) ≤ Φ.1 * n := Nat.mul_le_mul_left _ hj
    rw [Nat.mul_succ] at h2
    have e10 : pD D c (rI (lyN Φ low j)) 488 10 = (Φ.1 : Int) := by rw [pD_ne (fun z => hc z.symm)]; exact hF.2.1
    have hd := Nat.div_le_self low (2 ^ (Φ.1 * j))
    have p1 : 2 ^ Φ.1 ≤ 2 ^ 8 := Nat.pow_le_pow_right (by decide) m8
    have pp := F_pos Φ
    rw [mlay_loop hF kc hc hl hmn x3 j (by omega), vM_layNumber_8, if_pos (by omega), vM_layNumber_14, mGF m488, mGF m488, hD, e10, w32_ml (by omega), jshr_n (by omega), show (1 : Int) = ((1 : Nat) : Int) from rfl, jshl_n (by omega) (by omega), Nat.one_mul, show ((2 ^ Φ.1 : Nat) : Int) - ((1 : Nat) : Int) = ((2 ^ Φ.1 - 1 : Nat) : Int) by omega, w32_n (by omega), jand_k Φ.1 (by omega) (by omega), mIS kc, if_pos (by omega), Int.toNat_natCast, show ((1 : Nat) : Int) = 1 from rfl, w32_s (by omega), sD_pD (by omega)]
    rw [show (fun b => if b = j then low / 2 ^ (Φ.1 * j) % 2 ^ Φ.1 else lyN Φ low j b) = lyN Φ low (j + 1) from funext fun b => by
      unfold lyN
      by_cases e : b = j
      · rw [if_pos e, if_pos (by omega), e]
      · rw [if_neg e]
        by_cases e2 : b < j
        · rw [if_pos e2, if_pos (by omega)]
        · rw [if_neg e2, if_neg (by omega)]]
theorem mlay (hF : MF Φ D) {c : Nat} (kc : KM c (1, 17)) (hc : c ≠ 488) {low n : Nat} (hl : low < 2147483648) (hmn : Φ.1 * n ≤ 12) : Vl (d + 1) 268 0 [some (.inr (.inr (some 488))), some (.inl (low : Int)), some (.inl (n : Int)), some (.inl 0), some (.inr (.inr (some c))), none] [] (hp (1, ρ) D) = some ((0, none), hp (1, ρ) (pD D c (rI (lyN Φ low n)))) := by
  have q1 := mclear (d := d) (ρ := ρ) (D := D) kc (by decide) (by decide)
  rw [vM_layNumber_0, q1, aVC, tlN, vM_layNumber_5, mlay_loop hF kc hc hl hmn 0 n (Nat.le_refl n), vM_layNumber_8, if_neg (by omega), vM_layNumber_43, if_pos rfl, vM_layNumber_52]
theorem mlayM (hF : MF Φ D) {c : Nat} (kc : KM c (1, 17)) (hc : c ≠ 488) {low n : Nat} (hl : low < 2147483648) (hmn : Φ.1 * n ≤ 12) : Vl (d + 1) 268 0 [some (.inr (.inr (some 488))), some (.inl (low : Int)), some (.inl (n : Int)), some (.inl 1), some (.inr (.inr (some c))), none] [] (hp (1, ρ) D) = some ((0, none), hp (1, ρ) (pD D c (rI (mnc Φ low n)))) := by
  have m1 := F_m1 hF.1
  have h1 : 1 * n ≤ Φ.1 * n := Nat.mul_le_mul_right n m1
  have q1 := mclear (d := d) (ρ := ρ) (D := D) kc (by decide) (by decide)
  rw [vM_layNumber_0, q1, aVC, tlN, vM_layNumber_5, mlay_loop hF kc hc hl hmn 1 n (Nat.le_refl n), vM_layNumber_8, if_neg (by omega), vM_layNumber_43, if_neg (by decide), vM_layNumber_47, mIS kc, if_pos (by omega), Int.toNat_natCast, show (1 : Int) = ((1 : Nat) : Int) from rfl, sD_pD (by omega), vM_layNumber_52]
  rw [show (fun b => if b = n then 1 else lyN Φ low n b) = mnc Φ low n from funext fun b => by
    unfold lyN mnc
    by_cases e : b = n
    · rw [if_pos e, if_neg (by omega), if_pos e]
    · rw [if_neg e, if_neg e]]
theorem mnum_loop (hF : MF Φ D) {c : Nat} (kc : KM c (1, 17)) {F : pl} (RF : PR D c F) (iF : inF Φ F) : ∀ (j : Nat) (a B : Nat), j ≤ 17 → a < 2 ^ B → B + Φ.1 * j ≤ 30 → Vl d 270 7 [some (.inr (.inr (some 488))), some (.inr (.inr (some c))), some (.inl (a : Int)), some (.inl ((j : Int) - 1))] [] (hp (1, ρ) D) = some ((0, some (.inl (nml Φ F j a : Int))), hp (1, ρ) D)
  | 0, a, B, hj, ha, hB => by rw [vM_numberOf_7, if_pos (by omega), vM_numberOf_28]; rfl
  | j + 1, a, B, hj, ha, hB => by
    have m8 := F_m8 hF.1
    rw [Nat.mul_succ] at hB
    have hf := iF j
    have p1 : 2 ^ (B + Φ.1) ≤ 2 ^ 30 := Nat.pow_le_pow_right (by decide) (by omega)
    have p2 : a * 2 ^ Φ.1 + F j < 2 ^ (B + Φ.1) := by
      have : (a + 1) * 2 ^ Φ.1 ≤ 2 ^ B * 2 ^ Φ.1 := Nat.mul_le_mul_right _ ha
      rw [Nat.pow_add]
      rw [Nat.add_mul, Nat.one_mul] at this
      omega
    have p3 : a * 2 ^ Φ.1 ||| F j = a * 2 ^ Φ.1 + F j := by
      rw [Nat.mul_comm]; exact (Nat.two_pow_add_eq_or_of_lt hf a).symm
    have h256 := F_256 hF.1
    rw [vM_numberOf_7, if_neg (by omega), vM_numberOf_11, mGF m488, show ((j + 1 : Nat) : Int) - 1 = (j : Int) by omega, mIA kc, if_pos (by omega), Int.toNat_natCast, RF j (by omega), hD, hF.2.1, jshl_n (by omega) (by omega), jor_n (by omega) (by omega), p3, show w32 ((j : Int) + (-1)) = (j : Int) - 1 from by unfold w32; omega, mnum_loop hF kc RF iF j _ (B + Φ.1) (by omega) p2 (by omega)]
    rfl
theorem mnumber (hF : MF Φ D) {c : Nat} (kc : KM c (1, 17)) {F : pl} (RF : PR D c F) (iF : inF Φ F) (hB : Φ.1 * sz F ≤ 30) : Vl (d + 1) 270 0 [some (.inr (.inr (some 488))), some (.inr (.inr (some c))), none, none] [] (hp (1, ρ) D) = some ((0, some (.inl (nmb Φ F : Int))), hp (1, ρ) D) := by
  have q1 := mdeg (d := d) (ρ := ρ) kc (by decide) RF
  have q2 := mnum_loop (d := d + 1) (ρ := ρ) hF kc RF iF (sz F) 0 0 (sz_le F) (by decide) (by omega)
  rw [show ((0 : Nat) : Int) = 0 from rfl] at q2
  rw [vM_numberOf_0, q1, aVC, tlS, vM_numberOf_6, q2]
  rfl
theorem mdivR (hF : MF Φ D) {cf cg : Nat} (hf : dCl cf) (hg : dCl cg) (hf5 : cf ≠ 505) (hg4 : cg ≠ 504) (hg5 : cg ≠ 505) {F G : pl} (RF : PR D cf F) (RG : PR D cg G) (oF : pOK Φ F) (oG : pOK Φ G) (hz : sz G ≠ 0) : ∃ D', Vl (d + 7) 269 0 [some (.inr (.inr (some 488))), some (.inr (.inr (some cf))), some (.inr (.inr (some cg)))] [] (hp (1, ρ) D) = some ((0, some (.inl (if isDv Φ F G = true then 1 else 0))), hp (1, ρ) D') ∧ PR D' 504 (dvd Φ 0 F G).1 ∧ ∀ q, (q < 497 ∨ 501 < q) → q ≠ 504 → q ≠ 505 → D' q = D q := by
  obtain ⟨D1, q1, r1, r2, f1⟩ := mdivide (d := d) (ρ := ρ) hF (side := 0) (by decide) hf hg (cq := 504) (cr := 505) ⟨m504, by decide, by decide⟩ ⟨m505, by decide, by decide⟩ hf5 hg4 hg5 (by decide) RF RG oF oG hz
  have q2 := mdeg (d := d + 6) (ρ := ρ) m505 (by decide) r2
  refine ⟨D1, ?_, r1, fun q a b c => f1 q b c a⟩
  rw [show ((0 : Nat) : Int) = 0 from rfl] at q1
  rw [vM_dividesRight_0]
  simp only [mGF m488, mr21, mr22]
  rw [q1, aVC, tlN, vM_dividesRight_15]
  simp only [mGF m488, mr22]
  rw [q2, aVC, tlS, vM_dividesRight_22, isDv_dvd hF.1 oF oG hz]
  by_cases h0 : sz (dvd Φ 0 F G).2 = 0
  · rw [if_pos (by omega), vM_dividesRight_25, vM_dividesRight_30, aZ1, decide_eq_true h0, if_pos rfl]
  · rw [if_neg (by omega), vM_dividesRight_29, vM_dividesRight_30, aZ0, decide_eq_false h0, if_neg (by decide)]
end MDIV
