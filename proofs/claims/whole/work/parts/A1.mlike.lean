/-! THE REFERENCE'S METHODS: likeness -/
def mkl (Φ : gF) (F G : pl) (n : Nat) : Nat → Nat → Bool
  | 0, _ => false
  | r + 1, c => if sz (lvr Φ F (lyN Φ c n) G) = 0 ∧ sz (ceul Φ 0 (lyN Φ c n) G).1 = 1 then true else mkl Φ F G n r (c + 1)
section LK2
variable {Φ : gF}
theorem mkl_i {F G : pl} {n : Nat} : ∀ r c, mkl Φ F G n r c = true ↔ ∃ k, c ≤ k ∧ k < c + r ∧ sz (lvr Φ F (lyN Φ k n) G) = 0 ∧ sz (ceul Φ 0 (lyN Φ k n) G).1 = 1
  | 0, c => ⟨(fun z => by cases z), fun ⟨k, h1, h2, _⟩ => absurd h1 (by omega)⟩
  | r + 1, c => by
    unfold mkl
    by_cases h : sz (lvr Φ F (lyN Φ c n) G) = 0 ∧ sz (ceul Φ 0 (lyN Φ c n) G).1 = 1
    · rw [if_pos h]
      exact ⟨fun _ => ⟨c, Nat.le_refl _, by omega, h⟩, fun _ => rfl⟩
    · rw [if_neg h, mkl_i r (c + 1)]
      constructor
      · rintro ⟨k, h1, h2, h3⟩
        exact ⟨k, by omega, by omega, h3⟩
      · rintro ⟨k, h1, h2, h3⟩
        by_cases e : k = c
        · rw [e] at h3; exact absurd h3 h
        · exact ⟨k, by omega, by omega, h3⟩
theorem lkl_i {F G : pl} {n : Nat} : ∀ r c, lkl Φ F G n r c = true ↔ ∃ k, c ≤ k ∧ k < c + r ∧ pk Φ.1 (gsm (laR Φ F G) k) n = 0 ∧ sz (cPart Φ 0 (ceul Φ 0 (lyc Φ.1 (grc k)) G)) = 1
  | 0, c => ⟨(fun z => by cases z), fun ⟨k, h1, h2, _⟩ => absurd h1 (by omega)⟩
  | r + 1, c => by
    unfold lkl
    by_cases h : pk Φ.1 (gsm (laR Φ F G) c) n = 0 ∧ sz (cPart Φ 0 (ceul Φ 0 (lyc Φ.1 (grc c)) G)) = 1
    · rw [if_pos h]
      exact ⟨fun _ => ⟨c, Nat.le_refl _, by omega, h⟩, fun _ => rfl⟩
    · rw [if_neg h, lkl_i r (c + 1)]
      constructor
      · rintro ⟨k, h1, h2, h3⟩
        exact ⟨k, by omega, by omega, h3⟩
      · rintro ⟨k, h1, h2, h3⟩
        by_cases e : k = c
        · rw [e] at h3; exact absurd h3 h
        · exact ⟨k, by omega, by omega, h3⟩
theorem pk_i {m : Nat} {F : pl} : ∀ n, pk m F n = 0 ↔ ∀ b, b < n → F b = 0
  | 0 => ⟨fun _ b hb => absurd hb (Nat.not_lt_zero _), fun _ => rfl⟩
  | n + 1 => by
    show pk m F n + F n * 2 ^ (m * n) = 0 ↔ _
    have hp := Nat.two_pow_pos (m * n)
    constructor
    · intro h b hb
      have h1 : F n * 2 ^ (m * n) = 0 := by omega
      have h2 : F n = 0 := by
        rcases Nat.mul_eq_zero.mp h1 with q | q
        · exact q
        · omega
      by_cases e : b = n
      · rw [e]; exact h2
      · exact (pk_i (m := m) (F := F) n).mp (by omega) b (by omega)
    · intro h
      rw [(pk_i n).mpr (fun b hb => h b (by omega)), h n (by omega), Nat.zero_mul]
theorem lyc_lyN (hO : FOK Φ) {c n : Nat} (hc : c < 2 ^ (Φ.1 * n)) (hmn : Φ.1 * n ≤ 12) : lyc Φ.1 c = lyN Φ c n := by
  funext b
  unfold lyc lyN
  have m1 := F_m1 hO
  by_cases h : b < n
  · have h1 : Φ.1 * (b + 1) ≤ Φ.1 * n := Nat.mul_le_mul_left _ h
    rw [Nat.mul_succ] at h1
    rw [if_pos h, if_pos (by omega)]
  · rw [if_neg h]
    split
    · have h1 : Φ.1 * n ≤ Φ.1 * b := Nat.mul_le_mul_left _ (by omega)
      have h2 : 2 ^ (Φ.1 * n) ≤ 2 ^ (Φ.1 * b) := Nat.pow_le_pow_right (by decide) h1
      rw [Nat.div_eq_of_lt (by omega), Nat.zero_mod]
    · rfl
theorem lyN_OK (hO : FOK Φ) {c n : Nat} (hn : n ≤ 17) : pOK Φ (lyN Φ c n) ∧ dle (lyN Φ c n) n := by
  have d : dle (lyN Φ c n) n := fun b hb => if_neg (by omega)
  refine ⟨⟨fun b => ?_, dle_mono d hn⟩, d⟩
  unfold lyN
  split
  · exact Nat.mod_lt _ (F_pos Φ)
  · exact F_pos Φ
theorem lvr_dle (h : FOK Φ) {F G H : pl} (oG : pOK Φ G) {n : Nat} (hn : sz G = n + 1) (iH : inF Φ H) (dH : dle H n) : dle (lvr Φ F H G) n := by
  unfold lvr
  by_cases h1 : sz G ≤ 1
  · rw [if_pos h1]; exact p0_dle n
  · rw [if_neg h1, hn, Nat.add_sub_cancel]
    exact lv_dle (lw_dle h oG.1 (by rw [← hn]; exact sz_dle oG.2) (sz_top hn) iH dH) _
theorem lkl_mkl (h : FOK Φ) {F G : pl} (oF : pOK Φ F) (oG : pOK Φ G) {n u v : Nat} (hn1 : 1 ≤ n) (hG : sz G = n + 1) (hmn : Φ.1 * n ≤ 12) (hu : u < 2 ^ Φ.1) (u0 : u ≠ 0) (hv : v < 2 ^ Φ.1) (v0 : v ≠ 0) : lkl Φ F G n (2 ^ (Φ.1 * n) - 1) 1 = mkl Φ (pM Φ v F) (pM Φ u G) n (2 ^ (Φ.1 * n) - 1) 1 := by
  have m1 := F_m1 h
  have h17 := sz_le G
  have p1 : 2 ^ (Φ.1 * n) ≤ 2 ^ 12 := Nat.pow_le_pow_right (by decide) hmn
  have pp := Nat.two_pow_pos (Φ.1 * n)
  have il : ∀ a, inF Φ (lyc Φ.1 a) := fun a => (lyc_OK m1).1
  have hg : ∀ k, k < 4096 → gsm (laR Φ F G) k = lvr Φ F (lyc Φ.1 (grc k)) G := gsm_f (f := fun a => lvr Φ F (lyc Φ.1 a) G) (by
    show lvr Φ F (lyc Φ.1 0) G = p0
    rw [lyc_0, lvr_0]) (fun a t _ ht => by
    show lvr Φ F (lyc Φ.1 (a ^^^ 2 ^ t)) G = pA (lvr Φ F (lyc Φ.1 a) G) (laR Φ F G t)
    rw [lyc_x m1 ht, lvr_A h (il a) (mono_in (Nat.pow_lt_pow_right (by decide) (Nat.mod_lt t m1)) _)]; rfl)
  have cond : ∀ k, k < 2 ^ (Φ.1 * n) → ((pk Φ.1 (gsm (laR Φ F G) k) n = 0 ∧ sz (cPart Φ 0 (ceul Φ 0 (lyc Φ.1 (grc k)) G)) = 1) ↔ (sz (lvr Φ (pM Φ v F) (lyN Φ (grc k) n) (pM Φ u G)) = 0 ∧ sz (ceul Φ 0 (lyN Φ (grc k) n) (pM Φ u G)).1 = 1)) := fun k hk => by
    have hgk := grc_lt hk
    obtain ⟨oL, dL⟩ := lyN_OK h (c := grc k) (show n ≤ 17 by omega)
    have oC := ceul_OK h (s := 0) oL oG
    rw [hg k (by omega), lyc_lyN h hgk hmn, lvr_sc h oF oG oL.1 hu u0 hv v0, ceul_sc h oL oG hu u0]
    have e1 : sz (cPart Φ 0 (ceul Φ 0 (lyN Φ (grc k) n) G)) = sz (ceul Φ 0 (lyN Φ (grc k) n) G).1 := fcM_sz h oC.1
    have dR := lvr_dle h (F := F) oG hG oL.1 dL
    have iR : pOK Φ (lvr Φ F (lyN Φ (grc k) n) G) := by
      refine ⟨?_, dle_mono dR (by omega)⟩
      unfold lvr
      rw [if_neg (by omega)]
      exact lv_in h oF.1 _
    rw [e1, pM_sz h iR hv v0, pk_i]
    refine and_congr_left fun _ => ⟨fun z => sz_0 (fun b hb => ?_), fun z b hb => sz_ge iR.2 (by omega)⟩
    by_cases hb2 : b < n
    · exact z b hb2
    · exact dR b (by omega)
  have iff : lkl Φ F G n (2 ^ (Φ.1 * n) - 1) 1 = true ↔ mkl Φ (pM Φ v F) (pM Φ u G) n (2 ^ (Φ.1 * n) - 1) 1 = true := by
    rw [lkl_i, mkl_i]
    constructor
    · rintro ⟨k, h1, h2, h3⟩
      refine ⟨grc k, ?_, ?_, (cond k (by omega)).mp h3⟩
      · refine Nat.pos_of_ne_zero fun z => ?_
        have z1 : k ^^^ (k ^^^ (k / 2)) = k / 2 := xr_k _ _
        have z2 : k ^^^ (k / 2) = 0 := z
        rw [z2, Nat.xor_zero] at z1
        omega
      · have := grc_lt (k := k) (n := Φ.1 * n) (by omega)
        omega
    · rintro ⟨c, h1, h2, h3⟩
      have hc := gri_lt (c := c) (n := Φ.1 * n) (by omega)
      have eg := gri_all c (by omega)
      refine ⟨gri c, ?_, by omega, (cond (gri c) hc).mpr (by rw [eg]; exact h3)⟩
      refine Nat.pos_of_ne_zero fun z => ?_
      rw [z, grc_0] at eg
      omega
  cases hl : lkl Φ F G n (2 ^ (Φ.1 * n) - 1) 1 with
  | true => exact (iff.mp hl).symm
  | false =>
    cases hm : mkl Φ (pM Φ v F) (pM Φ u G) n (2 ^ (Φ.1 * n) - 1) 1 with
    | false => rfl
    | true => rw [iff.mpr hm] at hl; cases hl
end LK2
section MLIKE
variable {ρ : jr2} {D D' : jD} {d : Nat} {Φ : gF} {A : aA} {T : aT}
theorem mlv_loop (hO : FOK Φ) {F G H : pl} (oF : pOK Φ F) (oG : pOK Φ G) (oH : pOK Φ H) {n : Nat} (hn : sz G = n + 1) (dH : dle H n) : ∀ (r i : Nat) (D : jD) (u3 : Option jv), i + r = n → MF Φ D → PR D 525 F → PR D 526 G → PR D 527 (lw Φ G n (fi Φ (G n)) H i) → PR D 532 (lv Φ F G n (fi Φ (G n)) H i) → ∃ D' v3, Vl (d + 7) 277 22 [some (.inr (.inr (some 488))), some (.inl (n : Int)), some (.inl (i : Int)), u3] [] (hp (1, ρ) D) = Vl (d + 7) 277 122 [some (.inr (.inr (some 488))), some (.inl (n : Int)), some (.inl (n : Int)), v3] [] (hp (1, ρ) D') ∧ PR D' 532 (lv Φ F G n (fi Φ (G n)) H (n + 1)) ∧ ∀ q, (q < 497 ∨ 501 < q) → q ≠ 504 → q ≠ 505 → q ≠ 527 → q ≠ 532 → D' q = D q := by
  intro r
  have n17 := sz_le G
  have h256 := F_256 hO
  have hw := lw_dle hO oG.1 (by rw [← hn]; exact sz_dle oG.2) (sz_top hn) oH.1 dH
  have iw := lw_in hO (G := G) (n := n) (hd := fi Φ (G n)) oH.1
  have il := lv_in hO (F := F) (G := G) (H := H) (n := n) (hd := fi Φ (G n)) oF.1
  have core : ∀ (i : Nat) (D : jD) (u3 : Option jv), i ≤ n → MF Φ D → PR D 525 F → PR D 527 (lw Φ G n (fi Φ (G n)) H i) → PR D 532 (lv Φ F G n (fi Φ (G n)) H i) → Vl (d + 7) 277 22 [some (.inr (.inr (some 488))), some (.inl (n : Int)), some (.inl (i : Int)), u3] [] (hp (1, ρ) D) = Vl (d + 7) 277 66 [some (.inr (.inr (some 488))), some (.inl (n : Int)), some (.inl (i : Int)), some (.inl ((17 : Nat) : Int))] [] (hp (1, ρ) (pDn D 532 17 (rI (lv Φ F G n (fi Φ (G n)) H (i + 1))))) := fun i D u3 hi hF RF RW RS => by
    have ch := chain (fun k => Vl (d + 7) 277 29 [some (.inr (.inr (some 488))), some (.inl (n : Int)), some (.inl (i : Int)), some (.inl (k : Int))] [] (hp (1, ρ) (pDn D 532 k (rI (lv Φ F G n (fi Φ (G n)) H (i + 1)))))) 17 (fun k hk => by
      have e1 : pDn D 532 k (rI (lv Φ F G n (fi Φ (G n)) H (i + 1))) 532 k = (lv Φ F G n (fi Φ (G n)) H i k : Int) := by rw [pDn_ge (Nat.le_refl k)]; exact RS k hk
      have e2 : pDn D 532 k (rI (lv Φ F G n (fi Φ (G n)) H (i + 1))) 525 i = (F i : Int) := by rw [pDn_ne (by decide)]; exact RF i (by omega)
      have e3 : pDn D 532 k (rI (lv Φ F G n (fi Φ (G n)) H (i + 1))) 527 k = (lw Φ G n (fi Φ (G n)) H i k : Int) := by rw [pDn_ne (by decide)]; exact RW k hk
      have hFk : MF Φ (pDn D 532 k (rI (lv Φ F G n (fi Φ (G n)) H (i + 1)))) := MF_cg hF (pDn_ne (by decide))
      have q1 := mmul (d := d + 6) (ρ := ρ) hFk (oF.1 i) (iw i k)
      have b1 := il i k
      have b2 : fm Φ (F i) (lw Φ G n (fi Φ (G n)) H i k) < 2 ^ Φ.1 := fm_lt hO (oF.1 i)
      rw [vM_leavesNothing_29, if_pos (by omega), vM_leavesNothing_35]
      simp only [mGF m488, mr56, mr58, mr63]
      rw [mIA m532, if_pos (by omega), Int.toNat_natCast, e1, mIA m525, if_pos (by omega), Int.toNat_natCast, e2, mIA m527, if_pos (by omega), Int.toNat_natCast, e3, q1, aVC, tlS, vM_leavesNothing_58, jxor_n (by omega) (by omega), mIS m532, if_pos (by omega), Int.toNat_natCast, w32_s (by omega), pDn_s (show ((lv Φ F G n (fi Φ (G n)) H i k ^^^ fm Φ (F i) (lw Φ G n (fi Φ (G n)) H i k) : Nat) : Int) = rI (lv Φ F G n (fi Φ (G n)) H (i + 1)) k from rfl)])
    rw [pDn_0, show ((0 : Nat) : Int) = 0 from rfl] at ch
    rw [vM_leavesNothing_22, if_neg (by omega), vM_leavesNothing_27, ch, vM_leavesNothing_29, if_neg (by decide)]
  induction r with
  | zero =>
    intro i D u3 hi hF RF RG RW RS
    obtain rfl : i = n := by omega
    refine ⟨pDn D 532 17 (rI (lv Φ F G i (fi Φ (G i)) H (i + 1))), some (.inl ((17 : Nat) : Int)), by rw [core i D u3 (Nat.le_refl i) hF RF RW RS, vM_leavesNothing_66, if_pos rfl, vM_leavesNothing_71], fun k hk => pDn_lt hk, fun q _ _ _ _ e => pDn_ne e⟩
  | succ r ih =>
    intro i D u3 hi hF RF RG RW RS
    obtain ⟨E, hE⟩ : ∃ E, E = pDn D 532 17 (rI (lv Φ F G n (fi Φ (G n)) H (i + 1))) := ⟨_, rfl⟩
    have fE : ∀ q, q ≠ 532 → E q = D q := fun q e => by rw [hE, pDn_ne e]
    have hFE : MF Φ E := MF_cg hF (fE 488 (by decide))
    have q1 := mshift (d := d + 3) (ρ := ρ) hFE m527 (by decide) (by decide) (PR_ne (fE 527 (by decide)) RW) (iw i)
    have iS := pS_in hO (iw i)
    have dS : dle (pS Φ (lw Φ G n (fi Φ (G n)) H i)) 17 := dle_mono (pS_dle (hw i)) (by omega)
    have hF2 : MF Φ (pD E 527 (rI (pS Φ (lw Φ G n (fi Φ (G n)) H i)))) := MF_cg hFE (pD_ne (by decide))
    obtain ⟨D3, q3, -, r3, f3⟩ := mdivide (d := d) (ρ := ρ) hF2 (side := 0) (by decide) (cf := 527) (cg := 526) (cq := 504) (cr := 505) ⟨m527, by decide, by decide⟩ ⟨m526, by decide, by decide⟩ ⟨m504, by decide, by decide⟩ ⟨m505, by decide, by decide⟩ (by decide) (by decide) (by decide) (by decide) pD_PR (PR_ne (by rw [pD_ne (by decide), fE 526 (by decide)]) RG) ⟨iS, dS⟩ oG (by omega)
    rw [lw_S hO oG hn oH.1 dH i] at r3
    have q4 := mcpy (d := d + 6) (ρ := ρ) (D := D3) m505 m527 (by decide) (by decide) (by decide) (by decide) r3
    rw [show ((0 : Nat) : Int) = 0 from rfl] at q3
    have f4 : ∀ q, (q < 497 ∨ 501 < q) → q ≠ 504 → q ≠ 505 → q ≠ 527 → q ≠ 532 → pD D3 527 (rI (lw Φ G n (fi Φ (G n)) H (i + 1))) q = D q := fun q a b c e f => by rw [pD_ne e, f3 q b c a, pD_ne e, fE q f]
    obtain ⟨D5, v3, q5, r5, f5⟩ := ih (i + 1) (pD D3 527 (rI (lw Φ G n (fi Φ (G n)) H (i + 1)))) (some (.inl ((17 : Nat) : Int))) (by omega) (MF_cg hF (f4 488 (by decide) (by decide) (by decide) (by decide) (by decide))) (PR_ne (f4 525 (by decide) (by decide) (by decide) (by decide) (by decide)) RF) (PR_ne (f4 526 (by decide) (by decide) (by decide) (by decide) (by decide)) RG) pD_PR (fun k hk => by
      rw [pD_ne (by decide), f3 532 (by decide) (by decide) (by decide), pD_ne (by decide), hE]; exact pDn_lt hk)
    refine ⟨D5, v3, ?_, r5, fun q a b c e f => by rw [f5 q a b c e f, f4 q a b c e f]⟩
    rw [core i D u3 (by omega) hF RF RW RS, ← hE, vM_leavesNothing_66, if_neg (by omega), vM_leavesNothing_74]
    simp only [mGF m488, mr58]
    rw [q1, aVC, tlN, vM_leavesNothing_82]
    simp only [mGF m488, mr21, mr22, mr57, mr58]
    rw [q3, aVC, tlN, vM_leavesNothing_103]
    simp only [mGF m488, mr22, mr58]
    rw [q4, aVC, tlN, vM_leavesNothing_116, w32_s (by omega), q5]
theorem mleav (hF : MF Φ D) {F G H : pl} (oF : pOK Φ F) (oG : pOK Φ G) (oH : pOK Φ H) {n : Nat} (hn1 : 1 ≤ n) (hnF : sz F = n + 1) (hn : sz G = n + 1) (dH : dle H n) (RF : PR D 525 F) (RG : PR D 526 G) (RH : PR D 523 H) : ∃ D', Vl (d + 7) 277 0 [some (.inr (.inr (some 488))), some (.inl (n : Int)), none, none] [] (hp (1, ρ) D) = some ((0, some (.inl (if sz (lvr Φ F H G) = 0 then 1 else 0))), hp (1, ρ) D') ∧ ∀ q, (q < 497 ∨ 501 < q) → q ≠ 504 → q ≠ 505 → q ≠ 527 → q ≠ 532 → D' q = D q := by
  have q1 := mcpy (d := d + 6) (ρ := ρ) (D := D) m523 m527 (by decide) (by decide) (by decide) (by decide) RH
  have q2 := mclear (d := d + 6) (ρ := ρ) (D := pD D 527 (rI H)) m532 (by decide) (by decide)
  have f2 : ∀ q, q ≠ 527 → q ≠ 532 → pD (pD D 527 (rI H)) 532 (rI p0) q = D q := fun q a b => by rw [pD_ne b, pD_ne a]
  obtain ⟨D3, v3, q3, r3, f3⟩ := mlv_loop (d := d) (ρ := ρ) hF.1 oF oG oH hn dH n 0 (pD (pD D 527 (rI H)) 532 (rI p0)) none (Nat.zero_add _) (MF_cg hF (f2 488 (by decide) (by decide))) (PR_ne (f2 525 (by decide) (by decide)) RF) (PR_ne (f2 526 (by decide) (by decide)) RG) (PR_ne (pD_ne (by decide)) pD_PR) pD_PR
  have q4 := mdeg (d := d + 6) (ρ := ρ) m532 (by decide) r3
  rw [show ((0 : Nat) : Int) = 0 from rfl] at q3
  have el : lvr Φ F H G = lv Φ F G n (fi Φ (G n)) H (n + 1) := by
    unfold lvr
    rw [if_neg (by omega), hn, hnF, Nat.add_sub_cancel]
  refine ⟨D3, ?_, fun q a b c e f => by rw [f3 q a b c e f, f2 q e f]⟩
  rw [vM_leavesNothing_0]
  simp only [mGF m488, mr52, mr58]
  rw [q1, aVC, tlN, vM_leavesNothing_13]
  simp only [mGF m488, mr63]
  rw [q2, aVC, tlN, vM_leavesNothing_20, q3, vM_leavesNothing_122]
  simp only [mGF m488, mr63]
  rw [q4, aVC, tlS, vM_leavesNothing_129, ← el]
  by_cases h0 : sz (lvr Φ F H G) = 0
  · rw [if_pos (by omega), vM_leavesNothing_132, vM_leavesNothing_137, aZ1, if_pos h0]
  · rw [if_neg (by omega), vM_leavesNothing_136, vM_leavesNothing_137, aZ0, if_neg h0]
end MLIKE
