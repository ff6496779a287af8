/-! THE REFERENCE'S POLYNOMIALS: scaling; divisions step by step -/
def shR (k : Nat) (F : pl) : pl := fun b => if b < k then 0 else F (b - k)
section MSC
variable {ρ : jr2} {D : jD} {d : Nat} {Φ : gF}
theorem pS_sh (k : Nat) (F : pl) : pS Φ (shR k F) = shR k (pS Φ F) := by
  funext b
  unfold pS shR
  dsimp only
  by_cases h1 : b < k
  · rw [if_pos h1, if_pos h1, fs_0]
    by_cases h2 : b = 0
    · rw [if_pos h2]; rfl
    · rw [if_neg h2, if_pos (by omega), ft_0]; rfl
  · rw [if_neg h1, if_neg h1]
    by_cases h3 : b = k
    · subst h3
      rw [Nat.sub_self, if_pos (show (0 : Nat) = 0 from rfl)]
      by_cases h2 : b = 0
      · rw [if_pos h2]
      · rw [if_neg h2, if_pos (by omega), ft_0]
    · rw [if_neg (show ¬ b = 0 by omega), if_neg (show ¬ b - 1 < k by omega), if_neg (show ¬ b - k = 0 by omega), show b - 1 - k = b - k - 1 by omega]
theorem pSi_sh (k : Nat) (F : pl) : ∀ n, pSi Φ n (shR k F) = shR k (pSi Φ n F)
  | 0 => rfl
  | n + 1 => by
    show pS Φ (pSi Φ n (shR k F)) = shR k (pS Φ (pSi Φ n F))
    rw [pSi_sh k F n, pS_sh]
theorem pP_sh (k : Nat) (A F : pl) : ∀ n, pP Φ n A (shR k F) = shR k (pP Φ n A F)
  | 0 => by funext b; unfold shR pP; split <;> rfl
  | n + 1 => by
    show pA (pP Φ n A (shR k F)) (pM Φ (A n) (pSi Φ n (shR k F))) = shR k (pA (pP Φ n A F) (pM Φ (A n) (pSi Φ n F)))
    rw [pP_sh k A F n, pSi_sh]
    funext b
    unfold pA pM shR
    by_cases h : b < k
    · rw [if_pos h, if_pos h, if_pos h, fm_0r]; rfl
    · rw [if_neg h, if_neg h, if_neg h]
theorem mono_sh (c k : Nat) : mono c k = shR k (mono c 0) := by
  funext b
  unfold mono shR
  dsimp only
  by_cases h : b < k
  · rw [if_pos h, if_neg (by omega)]
  · rw [if_neg h]
    by_cases h2 : b = k
    · rw [if_pos h2, if_pos (by omega)]
    · rw [if_neg h2, if_neg (by omega)]
theorem mono_z (k : Nat) : mono 0 k = p0 := by
  funext b; unfold mono; split <;> rfl
theorem pJ_z (side : Nat) (G : pl) : pJ Φ side p0 G = p0 := by
  unfold pJ
  split
  · exact pP_0r _ _
  · rw [sz_p0]; rfl
theorem dvl_skip {side n hd : Nat} {G L : pl} : ∀ (k j : Nat) (Q : pl), j ≤ k → (∀ b, j + n ≤ b → b < k + n → L b = 0) → (∀ b, b < k → Q b = 0) → dvl Φ side n hd G k L Q = dvl Φ side n hd G j L Q
  | 0, j, Q, hj, _, _ => by
    obtain rfl : j = 0 := by omega
    rfl
  | k + 1, j, Q, hj, hL, hQ => by
    by_cases e : j = k + 1
    · rw [e]
    have z : dq Φ side n hd k L = 0 := by
      unfold dq
      rw [hL (k + n) (by omega) (by omega)]
      simp only [fm_0l]
      split
      · exact gsn_0 _ _ _
      · rfl
    show dvl Φ side n hd G k (pA L (pJ Φ side (mono (dq Φ side n hd k L) k) G)) (fun b => if b = k then dq Φ side n hd k L else Q b) = _
    rw [z, mono_z, pJ_z, pA_0, show (fun b => if b = k then 0 else Q b) = Q from funext fun b => by
      by_cases h : b = k
      · rw [if_pos h, h, hQ k (by omega)]
      · rw [if_neg h]]
    exact dvl_skip k j Q (by omega) (fun b h1 h2 => hL b h1 (by omega)) (fun b h => hQ b (by omega))
theorem mscale (hF : MF Φ D) {c n1 v : Nat} (h : KM c (1, n1)) (hn : 17 ≤ n1) (hc : c ≠ 488) {F : pl} (hR : PR D c F) (iF : inF Φ F) (hv : v < 2 ^ Φ.1) : Vl (d + 1) 238 0 [some (.inr (.inr (some 488))), some (.inl (v : Int)), some (.inr (.inr (some c))), none] [] (hp (1, ρ) D) = some ((0, none), hp (1, ρ) (pD D c (rI (pM Φ v F)))) := by
  have c0 := chain (fun k => Vl (d + 1) 238 2 [some (.inr (.inr (some 488))), some (.inl (v : Int)), some (.inr (.inr (some c))), some (.inl (k : Int))] [] (hp (1, ρ) (pDn D c k (rI (pM Φ v F))))) 17 (fun k hk => by

    have hFk : MF Φ (pDn D c k (rI (pM Φ v F))) := MF_cg hF (pDn_ne (fun e => hc e.symm))
    have e1 : pDn D c k (rI (pM Φ v F)) c k = (F k : Int) := by rw [pDn_ge (Nat.le_refl k)]; exact hR k hk
    have q1 := mmul (d := d) (ρ := ρ) hFk hv (iF k)
    rw [vM_scale_2, if_pos (by omega), vM_scale_8, mIA h, if_pos (by omega), Int.toNat_natCast, e1, mGF m488, q1, aVC, tlS, vM_scale_18, mIS h, if_pos (by omega), Int.toNat_natCast, w32_s (by omega), pDn_s (show ((fm Φ v (F k) : Nat) : Int) = rI (pM Φ v F) k from rfl)])

  rw [pDn_0] at c0
  rw [vM_scale_0]
  refine c0.trans ?_
  rw [vM_scale_2, if_neg (by omega), vM_scale_25]
theorem mscaleR (hF : MF Φ D) {c v : Nat} (h : KM c (1, 17)) (hc : c ≠ 488) (h7 : c ≠ 497) (h8 : c ≠ 498) (h9 : c ≠ 499) {F : pl} (hR : PR D c F) (iF : inF Φ F) (hv : v < 2 ^ Φ.1) : ∃ D', Vl (d + 5) 232 0 [some (.inr (.inr (some 488))), some (.inr (.inr (some c))), some (.inl (v : Int))] [] (hp (1, ρ) D) = some ((0, none), hp (1, ρ) D') ∧ PR D' c (pP Φ (sz F) F (mono v 0)) ∧ ∀ q, q ≠ c → q ≠ 497 → q ≠ 498 → q ≠ 499 → D' q = D q := by
  have q1 := mclear (d := d + 4) (ρ := ρ) (D := D) m498 (by decide) (by decide)
  obtain ⟨D1, hD1⟩ : ∃ D1, D1 = sD (pD D 498 (rI p0)) 498 0 (v : Int) := ⟨_, rfl⟩
  have f1 : ∀ q, q ≠ 498 → D1 q = D q := fun q hq => by rw [hD1, sD_ne hq, pD_ne hq]
  have R1 : PR D1 498 (mono v 0) := by
    have e : D1 = pD D 498 (rI (fun b => if b = 0 then v else p0 b)) := by rw [hD1, sD_pD (by decide)]
    rw [e]
    exact pD_PR
  obtain ⟨D2, q2, R2, f2⟩ := mprod (d := d) (ρ := ρ) (MF_cg hF (f1 488 (by decide))) h m498 m499 h9 (by decide) h7 (by decide) (by decide) (by decide) (PR_ne (f1 c h8) hR) R1 iF (mono_in hv 0)
  have q3 := mcpy (d := d + 4) (ρ := ρ) m499 h (by decide) (by decide) (by decide) (fun e => h9 e.symm) R2
  refine ⟨pD D2 c (rI (pP Φ (sz F) F (mono v 0))), ?_, pD_PR, fun q a1 a2 a3 a4 => by rw [pD_ne a1, f2 q a4 a2, f1 q a3]⟩
  rw [vM_scaleRight_0, mGF m488, mr15, q1, aVC, tlN, vM_scaleRight_7, mGF m488, mr15, mIS m498, if_pos (by decide), show (0 : Int).toNat = 0 from rfl, ← hD1, mGF m488, mGF m488, mGF m488, mr15, mr16, q2, aVC, tlN, vM_scaleRight_27, mGF m488, mr16, q3, aVC, tlN, vM_scaleRight_37]
theorem pSc_0 (h : FOK Φ) {v : Nat} (hv : v < 2 ^ Φ.1) {M : pl} (oM : pOK Φ M) : pSc Φ 0 v M = pM Φ v M := by
  unfold pSc
  rw [pJ_B (dle_mono (mono_dle v 0) (by decide)) oM.2]
  unfold pB
  rw [if_neg (by decide), pP_ge (mono_dle v 0) 17 (by decide)]
  exact pP_mono v M 0
theorem mmonic (hF : MF Φ D) {c : Nat} {side : Nat} (hs : side < 2) (h : KM c (1, 17)) (hc : c ≠ 488) (h7 : c ≠ 497) (h8 : c ≠ 498) (h9 : c ≠ 499) {F : pl} (hR : PR D c F) (oF : pOK Φ F) : ∃ D', Vl (d + 6) 237 0 [some (.inr (.inr (some 488))), some (.inr (.inr (some c))), some (.inl (side : Int)), none] [] (hp (1, ρ) D) = some ((0, none), hp (1, ρ) D') ∧ PR D' c (pSc Φ side (mnum Φ side F) F) ∧ ∀ q, q ≠ c → q ≠ 497 → q ≠ 498 → q ≠ 499 → D' q = D q := by
  rw [vM_makeMonic_0, mdeg h (by decide) hR, aVC, tlS, vM_makeMonic_4]
  have h17 := sz_le F
  cases hz : sz F with
  | zero =>
    have e0 : F = p0 := sz_z oF.2 hz
    refine ⟨D, ?_, ?_, fun _ _ _ _ _ => rfl⟩
    · rw [if_pos (by omega), vM_makeMonic_9]
    · have : pSc Φ side (mnum Φ side F) F = p0 := by
        rw [e0]; unfold pSc pJ
        split
        · rw [sz_p0]; rfl
        · exact pP_0r _ _
      rw [this, ← e0]; exact hR
  | succ t =>
    have ht : F t ≠ 0 := sz_top hz
    have en : mnum Φ side F = if side = 1 then fB Φ t (fi Φ (F t)) else fi Φ (F t) := by
      unfold mnum
      rw [hz, if_neg (show ¬ (t + 1 = 0) from Nat.succ_ne_zero t), Nat.add_sub_cancel]
    have li := fi_lt hF.1 (oF.1 t)
    have q1 := minv_nz (d := d + 4) (ρ := ρ) hF (oF.1 t) ht
    rw [if_neg (by omega), show ((t + 1 : Nat) : Int) - 1 = (t : Int) by omega, vM_makeMonic_10]
    by_cases h1 : side = 1
    · rw [if_neg (by omega), vM_makeMonic_14, mIA h, if_pos (by omega), Int.toNat_natCast, hR t (by omega), mGF m488, q1, aVC, tlS, vM_makeMonic_24, mGF m488, show w32 (-(t : Int)) = -(t : Int) from by unfold w32; omega, mback (d := d + 4) hF li (by omega), aVC, tlS, vM_makeMonic_29, mGF m488]
      obtain ⟨D2, q2, R2, f2⟩ := mscaleR (d := d) (ρ := ρ) hF h hc h7 h8 h9 hR oF.1 (fB_lt hF.1 li t)
      refine ⟨D2, ?_, ?_, f2⟩
      · rw [q2, aVC, tlN, vM_makeMonic_32, vM_makeMonic_47]
      · rw [en, if_pos h1]
        unfold pSc pJ
        rw [if_pos h1]; exact R2
    · obtain rfl : side = 0 := by omega
      rw [if_pos (by omega), vM_makeMonic_35, mIA h, if_pos (by omega), Int.toNat_natCast, hR t (by omega), mGF m488, q1, aVC, tlS, vM_makeMonic_43, mGF m488, mscale (d := d + 4) hF h (by decide) hc hR oF.1 li, aVC, tlN, vM_makeMonic_47]
      refine ⟨_, rfl, ?_, fun q a1 _ _ _ => pD_ne a1⟩
      rw [en, if_neg h1, pSc_0 hF.1 li oF]
      exact pD_PR
end MSC
