/-! THE REFERENCE'S NORM: the loop over the orders, the act -/
def tcm (Φ : gF) (Y : pl) (r code : Nat) : pl := if msk code r = 2 ^ r - 1 then trm Φ Y r code r else p0
section MNQ
variable {ρ : jr2} {D D' : jD} {d : Nat} {Φ : gF} {A : aA} {T : aT}
theorem tcm_in (h : FOK Φ) {Y : pl} (iY : inF Φ Y) {r code : Nat} : inF Φ (tcm Φ Y r code) := by
  unfold tcm
  split
  · exact trm_in h iY r
  · exact p0_in Φ
theorem sD_mono : PR (sD (pD D 530 (rI p0)) 530 0 1) 530 (mono 1 0) := fun b hb => by
  show (if 530 = 530 ∧ b = 0 then (1 : Int) else pD D 530 (rI p0) 530 b) = ((if b = 0 then 1 else 0 : Nat) : Int)
  by_cases h : b = 0
  · rw [if_pos ⟨rfl, h⟩, if_pos h]; rfl
  · rw [if_neg (fun z => h z.2), if_neg h, pD_PR (F := p0) b hb]; rfl
theorem mcode {r : Nat} (hr : 1 ≤ r ∧ r ≤ 4) {Y : pl} (iY : inF Φ Y) (x1 : Int) : ∀ (n c : Nat) (D : jD) (u4 u5 : Option jv), c + n = 4 ^ r → MF Φ D → CE Φ D Y r r 0 → PR D 532 (xsm (tcm Φ Y r) c) → ∃ D' v4 v5, Vl (d + 3) 278 154 [some (.inr (.inr (some 488))), some (.inl x1), some (.inl (r : Int)), some (.inl (c : Int)), u4, u5] [] (hp (1, ρ) D) = Vl (d + 3) 278 300 [some (.inr (.inr (some 488))), some (.inl x1), some (.inl (r : Int)), some (.inl ((4 ^ r : Nat) : Int)), v4, v5] [] (hp (1, ρ) D') ∧ PR D' 532 (xsm (tcm Φ Y r) (4 ^ r)) ∧ ∀ q, q ≠ 530 → q ≠ 531 → q ≠ 532 → D' q = D q
  | n, c, D, u4, u5, hc, hF, hC, RS => by
    have hO := hF.1
    have h44 : 4 ^ r ≤ 4 ^ 4 := Nat.pow_le_pow_right (by decide) hr.2
    have h16 : 2 ^ r ≤ 2 ^ 4 := Nat.pow_le_pow_right (by decide) hr.2
    have hr0 := Nat.two_pow_pos r
    have e2 : (2 : Nat) ^ (2 * r) = 4 ^ r := by rw [Nat.pow_mul]
    have ej : jshl 1 (w32 (2 * (r : Int))) = ((4 ^ r : Nat) : Int) := by
      rw [show w32 (2 * (r : Int)) = ((2 * r : Nat) : Int) from by rw [w32_i (by omega) (by omega)]; omega, show (1 : Int) = ((1 : Nat) : Int) from rfl, jshl_n (by omega) (by rw [e2]; omega), Nat.one_mul, e2]
    match n, hc with
    | 0, hc =>
      obtain rfl : c = 4 ^ r := by omega
      exact ⟨D, u4, u5, by rw [vM_norm_154, ej, if_neg (by omega)], RS, fun _ _ _ _ => rfl⟩
    | n + 1, hc =>
      have ef : w32 (jshl 1 (r : Int) - 1) = ((2 ^ r - 1 : Nat) : Int) := by
        rw [show jshl 1 (r : Int) = ((2 ^ r : Nat) : Int) from by rw [show (1 : Int) = ((1 : Nat) : Int) from rfl, jshl_n (by omega) (by omega), Nat.one_mul], w32_i (by omega) (by omega)]
        omega
      have q1 := mmask (d := d) (ρ := ρ) (D := D) hr (show c < 256 by omega) (h := hp (1, ρ) D) rfl x1 r (Nat.le_refl r)
      have hm16 := (msk_f c r).1
      have st : Vl (d + 3) 278 154 [some (.inr (.inr (some 488))), some (.inl x1), some (.inl (r : Int)), some (.inl (c : Int)), u4, u5] [] (hp (1, ρ) D) = Vl (d + 3) 278 196 [some (.inr (.inr (some 488))), some (.inl x1), some (.inl (r : Int)), some (.inl (c : Int)), some (.inl (msk c r : Int)), some (.inl (r : Int))] [] (hp (1, ρ) D) := by
        rw [vM_norm_154, ej, if_pos (by omega), vM_norm_163, q1, vM_norm_169, if_neg (by omega)]
      rw [st, vM_norm_196, ef]
      by_cases hf : msk c r = 2 ^ r - 1
      · have hs : xsm (tcm Φ Y r) (c + 1) = pA (xsm (tcm Φ Y r) c) (trm Φ Y r c r) := by
          show pA (xsm (tcm Φ Y r) c) (tcm Φ Y r c) = _
          rw [show tcm Φ Y r c = trm Φ Y r c r from if_pos hf]
        have f1 : ∀ q, q ≠ 530 → sD (pD D 530 (rI p0)) 530 0 1 q = D q := fun q a => by rw [sD_ne a, pD_ne a]
        obtain ⟨D3, q3, R3, f3⟩ := mterm (d := d) (ρ := ρ) hr iY (show c < 256 by omega) hf x1 (msk c r : Int) r 0 (sD (pD D 530 (rI p0)) 530 0 1) (Nat.zero_add r) (MF_cg hF (f1 488 (by decide))) (by unfold CE PRo; rw [f1 529 (by decide)]; exact hC) sD_mono
        have q2 := mclear (d := d + 2) (ρ := ρ) (D := D) m530 (by decide) (by decide)
        have RS3 : PR D3 532 (xsm (tcm Φ Y r) c) := PR_ne (by rw [f3 532 (by decide) (by decide), f1 532 (by decide)]) RS
        have q4 := mplus (d := d + 2) (ρ := ρ) (D := D3) hO m532 m530 (by decide) (by decide) (by decide) RS3 R3 (xsm_in hO (fun i => tcm_in hO iY) c) (trm_in hO iY r)
        rw [← hs] at q4
        have g : ∀ q, q ≠ 530 → q ≠ 531 → q ≠ 532 → pD D3 532 (rI (xsm (tcm Φ Y r) (c + 1))) q = D q := fun q a b e => by rw [pD_ne e, f3 q a b, f1 q a]
        obtain ⟨D5, v4, v5, q5, R5, f5⟩ := mcode hr iY x1 n (c + 1) (pD D3 532 (rI (xsm (tcm Φ Y r) (c + 1)))) (some (.inl (msk c r : Int))) (some (.inl (r : Int))) (by omega) (MF_cg hF (g 488 (by decide) (by decide) (by decide))) (by unfold CE PRo; rw [g 529 (by decide) (by decide) (by decide)]; exact hC) pD_PR
        refine ⟨D5, v4, v5, ?_, R5, fun q a b e => by rw [f5 q a b e, g q a b e]⟩
        rw [show ((0 : Nat) : Int) = 0 from rfl] at q3
        rw [if_pos (by omega), vM_norm_209, mGF m488, mr61, q2, aVC, tlN, vM_norm_216, mGF m488, mr61, mIS m530, if_pos (by decide), show (0 : Int).toNat = 0 from rfl, q3, vM_norm_283]
        simp only [mGF m488, mr61, mr63]
        rw [q4, aVC, tlN, vM_norm_294, w32_s (by omega), q5]
      · have hs : xsm (tcm Φ Y r) (c + 1) = xsm (tcm Φ Y r) c := by
          show pA (xsm (tcm Φ Y r) c) (tcm Φ Y r c) = _
          rw [show tcm Φ Y r c = p0 from if_neg hf, pA_0]
        obtain ⟨D5, v4, v5, q5, R5, f5⟩ := mcode hr iY x1 n (c + 1) D (some (.inl (msk c r : Int))) (some (.inl (r : Int))) (by omega) hF hC (by rw [hs]; exact RS)
        refine ⟨D5, v4, v5, ?_, R5, f5⟩
        rw [if_neg (by omega), vM_norm_206, vM_norm_294, w32_s (by omega), q5]
theorem mnz (x1 x2 : Int) : ∀ (n k : Nat) (D : jD), k + n = 272 → (∀ b, b < k → D 529 b = 0) → ∃ D', Vl d 278 59 [some (.inr (.inr (some 488))), some (.inl x1), some (.inl x2), some (.inl (k : Int)), none, none] [] (hp (1, ρ) D) = Vl d 278 79 [some (.inr (.inr (some 488))), some (.inl x1), some (.inl x2), some (.inl 272), none, none] [] (hp (1, ρ) D') ∧ (∀ b, b < 272 → D' 529 b = 0) ∧ ∀ q, q ≠ 529 → D' q = D q
  | 0, k, D, hk, hz => by
    obtain rfl : k = 272 := by omega
    exact ⟨D, by rw [vM_norm_59, if_neg (by decide)]; rfl, hz, fun _ _ => rfl⟩
  | n + 1, k, D, hk, hz => by
    obtain ⟨D2, q2, z2, f2⟩ := mnz x1 x2 n (k + 1) (sD D 529 k 0) (by omega) (fun b hb => by
      show (if 529 = 529 ∧ b = k then (0 : Int) else D 529 b) = 0
      by_cases e : b = k
      · rw [if_pos ⟨rfl, e⟩]
      · rw [if_neg (fun z => e z.2), hz b (by omega)])
    refine ⟨D2, ?_, z2, fun q hq => by rw [f2 q hq, sD_ne hq]⟩
    rw [vM_norm_59, if_pos (by omega), vM_norm_66, mGF m488, mr60, mIS m529, if_pos (by omega), Int.toNat_natCast, w32_s (by omega), q2]
theorem mnorm_op (h : MS D A) (i : Int) : MO ρ D (oNorm A i).2 (oNorm A i).1 (Vl (d + 4) 278 0 [some (.inr (.inr (some 488))), some (.inl i), none, none, none, none] [] (hp (1, ρ) D)) := by
  have hB := mB_MS h
  have hF := mB_MF h
  have hO := hF.1
  have hr := rd_b hO
  have q1 := mbegin (d := d + 2) (ρ := ρ) h
  have q2 := mround (d := d + 3) (ρ := ρ) hF
  have q3 := misName (d := d + 3) (ρ := ρ) hB i
  unfold oNorm
  rw [vM_norm_0, mGF m488, q1, aVC, tlN, vM_norm_4, mGF m488, q2, aVC, tlS, vM_norm_8, mGF m488, q3, aVC, tlS, vM_norm_14]
  by_cases h1 : aN A i
  rotate_left
  · rw [if_neg h1, if_pos j00, vM_norm_22, if_neg (fun z => h1 z.1)]
    exact MO_mB h rfl
  rw [if_pos h1, if_neg j10, vM_norm_17]
  by_cases h2 : rd (aF A) ≤ 4
  rotate_left
  · rw [if_neg (show ¬ (aN A i ∧ rd (aF A) ≤ 4 ∧ sz (an A i) ≤ 7) from fun z => h2 z.2.1), if_pos (show (4 : Int) < (rd (aF A) : Int) by omega), vM_norm_22]
    exact MO_mB h rfl
  obtain ⟨p1, p2, -⟩ := MS_nm hB h1
  obtain ⟨E, hE⟩ : ∃ E, E = pD (mB D A) 511 (rI (an A i)) := ⟨_, rfl⟩
  have fE : ∀ q, q ≠ 511 → E q = mB D A q := fun q a => by rw [hE, pD_ne a]
  have RF : PR E 511 (an A i) := by rw [hE]; exact pD_PR
  have q4 := mtake (d := d + 2) (ρ := ρ) hB h1 m511 (by decide)
  have q5 := mdeg (d := d + 3) (ρ := ρ) (D := E) m511 (by decide) RF
  rw [if_neg (show ¬ (4 : Int) < (rd (aF A) : Int) by omega), vM_norm_25]
  simp only [mGF m488, mr28]
  rw [q4, ← hE, aVC, tlN, vM_norm_34]
  simp only [mGF m488, mr28]
  rw [q5, aVC, tlS, vM_norm_41]
  by_cases h3 : sz (an A i) ≤ 7
  rotate_left
  · rw [if_neg (show ¬ (aN A i ∧ rd (aF A) ≤ 4 ∧ sz (an A i) ≤ 7) from fun z => h3 z.2.2), if_pos (show 6 < (sz (an A i) : Int) - 1 by omega), vM_norm_46]
    exact MO_sc h rfl (fun q hq => fE q (by unfold mK at hq; omega))
  have hFE : MF (aF A) E := MF_cg hF (fE 488 (by decide))
  obtain ⟨D1, s1, R1, f1⟩ := mlayY (d := d + 1) (ρ := ρ) hFE (cf := 511) m511 (by decide) RF p2.1
  obtain ⟨D2, s2, z2, f2⟩ := mnz (d := d + 4) (ρ := ρ) i (rd (aF A) : Int) 272 0 D1 (Nat.zero_add 272) (fun b hb => absurd hb (Nat.not_lt_zero b))
  have g2 : ∀ q, q ≠ 511 → q ≠ 528 → q ≠ 529 → D2 q = mB D A q := fun q a b c => by rw [f2 q c, f1 q b, fE q a]
  have hF2 : MF (aF A) D2 := MF_cg hF (g2 488 (by decide) (by decide) (by decide))
  have iy := iY_in hO p2.1
  have dy : dle (iY (aF A) (an A i)) 7 := dle_mono (iY_dle _) h3
  obtain ⟨D3, v4, s3, C3, f3⟩ := mcell_j (d := d + 2) (ρ := ρ) ⟨hr.1, h2⟩ iy dy i (rd (aF A)) 0 D2 none (Nat.zero_add _) hF2 (PR_ne (f2 528 (by decide)) R1) (fun a ha c hc q hq => by
    rw [z2 _ (by omega)]
    by_cases e : a = 0
    · rw [if_neg (by omega), if_pos e, ncK_0]; rfl
    · rw [if_neg (by omega), if_neg e]; rfl)
  have s4 := mclear (d := d + 3) (ρ := ρ) (D := D3) m532 (by decide) (by decide)
  have g3 : ∀ q, q ≠ 511 → q ≠ 528 → q ≠ 529 → D3 q = mB D A q := fun q a b c => by rw [f3 q c, g2 q a b c]
  obtain ⟨D5, v4', v5, s5, R5, f5⟩ := mcode (d := d + 1) (ρ := ρ) ⟨hr.1, h2⟩ iy i (4 ^ rd (aF A)) 0 (pD D3 532 (rI p0)) v4 none (Nat.zero_add _) (MF_cg hF (by rw [pD_ne (by decide)]; exact g3 488 (by decide) (by decide) (by decide))) (by unfold CE PRo; rw [pD_ne (by decide)]; exact C3) pD_PR
  have en : xsm (tcm (aF A) (iY (aF A) (an A i)) (rd (aF A))) (4 ^ rd (aF A)) = nNorm (aF A) (an A i) := by
    have hp4 := Nat.two_pow_pos (rd (aF A))
    exact nms (Φ := aF A) (Y := iY (aF A) (an A i)) h2 (rd (aF A)) (2 ^ rd (aF A) - 1) h2 (by omega) (pcn_top _ (by omega))
  rw [en] at R5
  have s6 := mtell (d := d + 2) (ρ := ρ) (D := D5) (k := 0) (by decide) m532 (by decide) R5
  rw [show ((0 : Nat) : Int) = 0 from rfl] at s2 s3 s5 s6
  have g5 : ∀ q, q ≠ 511 → q ≠ 528 → q ≠ 529 → q ≠ 530 → q ≠ 531 → q ≠ 532 → D5 q = mB D A q := fun q a b c e f g => by rw [f5 q e f g, pD_ne g, g3 q a b c]
  have m5 : MS D5 A := MS_sc hB (fun c hc => g5 c (by unfold mK at hc; omega) (by unfold mK at hc; omega) (by unfold mK at hc; omega) (by unfold mK at hc; omega) (by unfold mK at hc; omega) (by unfold mK at hc; omega))
  have oN : pOK (aF A) (nNorm (aF A) (an A i)) := ⟨nmr_in hO iy _ _ _, nmr_dle _ _ _ _⟩
  rw [if_pos (show aN A i ∧ rd (aF A) ≤ 4 ∧ sz (an A i) ≤ 7 from ⟨h1, h2, h3⟩), if_neg (show ¬ 6 < (sz (an A i) : Int) - 1 by omega), vM_norm_49]
  simp only [mGF m488, mr28]
  rw [s1, aVC, tlN, vM_norm_57, s2, vM_norm_79, s3, vM_norm_145, mGF m488, mr63, s4, aVC, tlN, vM_norm_152, s5, vM_norm_300]
  simp only [mGF m488, mr63]
  rw [s6, aVC, tlS, vM_norm_309]
  exact ⟨_, rfl, MS_res m5 (k := 0) (by decide) (pOK_8 hO oN), by rw [pOn_far (by decide), g5 488 (by decide) (by decide) (by decide) (by decide) (by decide) (by decide)]; exact mB_0, fun q hq => by rw [pOn_far (by omega), g5 q (by omega) (by omega) (by omega) (by omega) (by omega) (by omega), mB_ne (by omega)]⟩
end MNQ
