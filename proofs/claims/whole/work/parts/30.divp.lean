/-! DIVISIONS: what they are, and that there is one only -/
theorem fT_0 (Φ : gF) (a : Nat) : fT Φ 0 a = a := by unfold fT; rw [Nat.mul_zero]; rfl
theorem fT_S (Φ : gF) (n a : Nat) : fT Φ (n + 1) a = ft Φ (fT Φ n a) := by
  unfold fT ft
  rw [Nat.mul_succ, gsn_add]
section DIVP
variable {Φ : gF}
theorem fT_m (h : FOK Φ) (n : Nat) {a b : Nat} (ha : a < 2 ^ Φ.1) (hb : b < 2 ^ Φ.1) : fT Φ n (fm Φ a b) = fm Φ (fT Φ n a) (fT Φ n b) := gsn_m h.1.1 _ _ _ ha hb
theorem fT_x (h : FOK Φ) (n : Nat) {a b : Nat} (ha : a < 2 ^ Φ.1) (hb : b < 2 ^ Φ.1) : fT Φ n (a ^^^ b) = fT Φ n a ^^^ fT Φ n b := gsn_x h.1.1 _ _ _ ha hb
theorem fT_nz (h : FOK Φ) (n : Nat) {a : Nat} (ha : a < 2 ^ Φ.1) (h0 : a ≠ 0) : fT Φ n a ≠ 0 := gsn_nz h.1 _ _ ha h0
theorem fT_1 (Φ : gF) (n : Nat) : fT Φ n 1 = 1 := gsn_1 _ _ _
theorem fT_z (Φ : gF) (n : Nat) : fT Φ n 0 = 0 := gsn_0 _ _ _
theorem fT_B (h : FOK Φ) (n : Nat) {a : Nat} (ha : a < 2 ^ Φ.1) : fT Φ n (fB Φ n a) = a := by
  unfold fT fB
  rw [← gsn_add]
  have h1 := F_m1 h
  have e : (Φ.1 - 1) * Φ.2.2.1 * n + Φ.2.2.1 * n = Φ.1 * (Φ.2.2.1 * n) := by
    obtain ⟨k, hk⟩ : ∃ k, Φ.1 = k + 1 := ⟨Φ.1 - 1, by omega⟩
    rw [hk, Nat.add_sub_cancel, Nat.succ_mul, Nat.mul_assoc]
  rw [e]
  exact gsn_mk h.1 ha _
theorem fi_m (h : FOK Φ) {a : Nat} (ha : a < 2 ^ Φ.1) (h0 : a ≠ 0) : fm Φ a (fi Φ a) = 1 := by
  unfold fi
  rw [if_neg h0]; exact gi_m h.1 ha h0
theorem fi_m2 (h : FOK Φ) {a : Nat} (ha : a < 2 ^ Φ.1) (h0 : a ≠ 0) : fm Φ (fi Φ a) a = 1 := by
  rw [fm_c h (fi_lt h ha) ha, fi_m h ha h0]
theorem fm_nz (h : FOK Φ) {a b : Nat} (ha : a < 2 ^ Φ.1) (hb : b < 2 ^ Φ.1) (h1 : a ≠ 0) (h2 : b ≠ 0) : fm Φ a b ≠ 0 := fun q => by
  rcases gm_nz h.1 ha hb q with q | q
  · exact h1 q
  · exact h2 q
/-- the highest number of a row behind letters -/
theorem pSi_top {F : Nat → Nat} {n : Nat} (hF : dle F (n + 1)) : ∀ k, pSi Φ k F (n + k) = fT Φ k (F n)
  | 0 => (fT_0 Φ _).symm
  | k + 1 => by
    show pS Φ (pSi Φ k F) (n + k + 1) = _
    unfold pS
    rw [if_neg (by omega), Nat.add_sub_cancel, pSi_top hF k, pSi_dle hF k (n + k + 1) (by omega), fs_0, Nat.xor_zero, fT_S]
theorem pP_top {A G : Nat → Nat} {n : Nat} (hG : dle G (n + 1)) (a : Nat) : pP Φ (a + 1) A G (a + n) = fm Φ (A a) (fT Φ a (G n)) := by
  show pP Φ a A G (a + n) ^^^ fm Φ (A a) (pSi Φ a G (a + n)) = _
  rw [pP_dle hG a (a + n) (by omega), Nat.zero_xor, Nat.add_comm a n, pSi_top hG]
/-- products of whole rows -/
def pB (Φ : gF) (side : Nat) (A B : Nat → Nat) : Nat → Nat := if side = 1 then pP Φ 17 B A else pP Φ 17 A B
theorem pJ_B {side : Nat} {A B : Nat → Nat} (hA : dle A 17) (hB : dle B 17) : pJ Φ side A B = pB Φ side A B := by
  unfold pJ pB
  split
  · exact (pP_ge (sz_dle hB) 17 (sz_le B)).symm
  · exact (pP_ge (sz_dle hA) 17 (sz_le A)).symm
theorem pB_A (h : FOK Φ) {side : Nat} {A A' B : Nat → Nat} (iA : inF Φ A) (iA' : inF Φ A') : pB Φ side (pA A A') B = pA (pB Φ side A B) (pB Φ side A' B) := by
  unfold pB
  split
  · exact pP_Ar h iA iA' 17
  · exact pP_Al _ _ _ 17
theorem pB_0 (side : Nat) (B : Nat → Nat) : pB Φ side p0 B = p0 := by
  unfold pB
  split
  · exact pP_0r 17 B
  · exact pP_z 17 (fun _ _ => rfl)
theorem pB_in (h : FOK Φ) {side : Nat} {A B : Nat → Nat} (iA : inF Φ A) (iB : inF Φ B) : inF Φ (pB Φ side A B) := by
  unfold pB; split
  · exact pP_in h iB 17
  · exact pP_in h iA 17
theorem pB_top {side : Nat} {A B : Nat → Nat} {a n : Nat} (hA : dle A (a + 1)) (hB : dle B (n + 1)) (ha : a < 17) (hn : n < 17) : pB Φ side A B (a + n) = (if side = 1 then fm Φ (B n) (fT Φ n (A a)) else fm Φ (A a) (fT Φ a (B n))) := by
  unfold pB
  split
  · rw [pP_ge hB 17 (by omega), Nat.add_comm a n, pP_top hA]
  · rw [pP_ge hA 17 (by omega), pP_top hB]
theorem pB_dle {side : Nat} {A B : Nat → Nat} {a n : Nat} (hA : dle A a) (hB : dle B n) (ha : a ≤ 17) (hn : n ≤ 17) : dle (pB Φ side A B) (a + n - 1) := by
  unfold pB
  split
  · rw [pP_ge hB 17 hn]; exact pP_dle hA n
  · rw [pP_ge hA 17 ha]; exact dle_mono (pP_dle hB a) (by omega)
/-- a product of what isn't 0 has the sum of the degrees -/
theorem pB_sz (h : FOK Φ) {side : Nat} {A B : Nat → Nat} (iA : inF Φ A) (iB : inF Φ B) (dA : dle A 17) (dB : dle B 17) {a n : Nat} (hA : sz A = a + 1) (hB : sz B = n + 1) : pB Φ side A B (a + n) ≠ 0 := by
  have h1 := sz_le A
  have h2 := sz_le B
  rw [pB_top (by rw [← hA]; exact sz_dle dA) (by rw [← hB]; exact sz_dle dB) (by omega) (by omega)]
  split
  · exact fm_nz h (iB n) (fT_lt h (iA a) n) (sz_top hB) (fT_nz h n (iA a) (sz_top hA))
  · exact fm_nz h (iA a) (fT_lt h (iB n) a) (sz_top hA) (fT_nz h a (iB n) (sz_top hB))
/-- there is one quotient and one rest only -/
theorem div_u (h : FOK Φ) {side : Nat} {G Q R Q' R' : Nat → Nat} (iG : inF Φ G) (dG : dle G 17) {n : Nat} (hn : sz G = n + 1) (iQ : inF Φ Q) (iQ' : inF Φ Q') (dQ : dle Q 17) (dQ' : dle Q' 17) (dR : dle R n) (dR' : dle R' n) (e : pA (pB Φ side Q G) R = pA (pB Φ side Q' G) R') : Q = Q' ∧ R = R' := by
  have e2 : pB Φ side (pA Q Q') G = pA R R' := by
    rw [pB_A h iQ iQ']
    have : pA (pA (pB Φ side Q G) R) (pA R (pB Φ side Q' G)) = pA (pA (pB Φ side Q' G) R') (pA R (pB Φ side Q' G)) := by rw [e]
    rw [pA_a, pA_k, pA_c R, pA_4, pA_s, p0_A] at this
    rw [this, pA_c]
  have hz : sz (pA Q Q') = 0 := by
    by_cases q : sz (pA Q Q') = 0
    · exact q
    · obtain ⟨a, ha⟩ : ∃ a, sz (pA Q Q') = a + 1 := ⟨sz (pA Q Q') - 1, by omega⟩
      have h1 := pB_sz h (side := side) (pA_in iQ iQ') iG (pA_dle dQ dQ') dG ha hn
      rw [e2] at h1
      exact absurd (pA_dle dR dR' (a + n) (by omega)) h1
  have hp := sz_z (pA_dle dQ dQ') hz
  have eq1 : Q = Q' := funext fun b => xr_z (congrFun hp b)
  refine ⟨eq1, ?_⟩
  rw [hp, pB_0] at e2
  exact funext fun b => xr_z (congrFun e2.symm b)
theorem dq_lt (h : FOK Φ) {side n hd k : Nat} {L : Nat → Nat} (iL : inF Φ L) : dq Φ side n hd k L < 2 ^ Φ.1 := by
  unfold dq; split
  · exact fB_lt h (fm_lt h (iL _)) _
  · exact fm_lt h (iL _)
/-- the highest number is taken away -/
theorem dq_top (h : FOK Φ) {side n k : Nat} {L G : Nat → Nat} (iL : inF Φ L) (iG : inF Φ G) (dG : dle G (n + 1)) (g0 : G n ≠ 0) (hn : n < 17) (hk : k < 17) : pB Φ side (mono (dq Φ side n (fi Φ (G n)) k L) k) G (k + n) = L (k + n) := by
  rw [pB_top (mono_dle _ _) dG hk hn]
  have hL := iL (k + n)
  have hG := iG n
  have hi := fi_lt h hG
  have hm : mono (dq Φ side n (fi Φ (G n)) k L) k k = dq Φ side n (fi Φ (G n)) k L := if_pos rfl
  rw [hm]
  unfold dq
  by_cases hs : side = 1
  · rw [if_pos hs, if_pos hs, fT_B h n (fm_lt h hL), fm_lc h hG hL, fi_m h hG g0, fm_1r]
  · rw [if_neg hs, if_neg hs, fm_a h hL (fT_lt h hi k), ← fT_m h k hi hG, fi_m2 h hG g0, fT_1, fm_1r]
theorem dvl_fact (h : FOK Φ) {side n : Nat} {G : Nat → Nat} (iG : inF Φ G) (dG : dle G (n + 1)) (g0 : G n ≠ 0) (hn : n < 17) : ∀ k L Q, k + n ≤ 17 → inF Φ L → inF Φ Q → dle L (n + k) → dle Q 17 → (∀ b, b < k → Q b = 0) →
    inF Φ (dvl Φ side n (fi Φ (G n)) G k L Q).1 ∧ inF Φ (dvl Φ side n (fi Φ (G n)) G k L Q).2 ∧ dle (dvl Φ side n (fi Φ (G n)) G k L Q).1 17 ∧ dle (dvl Φ side n (fi Φ (G n)) G k L Q).2 n ∧ (∀ b, k ≤ b → (dvl Φ side n (fi Φ (G n)) G k L Q).1 b = Q b) ∧ pA (pB Φ side (dvl Φ side n (fi Φ (G n)) G k L Q).1 G) (dvl Φ side n (fi Φ (G n)) G k L Q).2 = pA (pB Φ side Q G) L
  | 0, L, Q, _, iL, iQ, dL, dQ, _ => ⟨iQ, iL, dQ, dL, fun _ _ => rfl, rfl⟩
  | k + 1, L, Q, hk, iL, iQ, dL, dQ, hQ => by
    unfold dvl
    have hc := dq_lt h (side := side) (n := n) (hd := fi Φ (G n)) (k := k) iL
    have dM : dle (mono (dq Φ side n (fi Φ (G n)) k L) k) 17 := dle_mono (mono_dle _ _) (by omega)
    have dG' : dle G 17 := dle_mono dG (by omega)
    have ht := dq_top h (side := side) (k := k) iL iG dG g0 hn (by omega)
    have iM := mono_in (Φ := Φ) hc k
    rw [pJ_B dM dG']
    have eQ : (fun b => if b = k then dq Φ side n (fi Φ (G n)) k L else Q b) = pA Q (mono (dq Φ side n (fi Φ (G n)) k L) k) := by
      funext b
      unfold pA mono
      by_cases hb : b = k
      · rw [if_pos hb, if_pos hb, hQ b (by omega), Nat.zero_xor]
      · rw [if_neg hb, if_neg hb, Nat.xor_zero]
    rw [eQ]
    have dM' := pB_dle (Φ := Φ) (side := side) (mono_dle (dq Φ side n (fi Φ (G n)) k L) k) dG (by omega) (by omega)
    obtain ⟨a1, a2, a3, a4, a5, a6⟩ := dvl_fact h (side := side) iG dG g0 hn k (pA L (pB Φ side (mono (dq Φ side n (fi Φ (G n)) k L) k) G)) (pA Q (mono (dq Φ side n (fi Φ (G n)) k L) k)) (by omega) (pA_in iL (pB_in h iM iG)) (pA_in iQ iM) (fun b hb => by
      unfold pA
      by_cases hb2 : b = k + n
      · rw [hb2, ht, Nat.xor_self]
      · rw [dL b (by omega), dM' b (by omega)]; rfl) (pA_dle dQ dM) (fun b hb => by
      unfold pA mono
      rw [hQ b (by omega), if_neg (by omega)]; rfl)
    refine ⟨a1, a2, a3, a4, fun b hb => ?_, ?_⟩
    · rw [a5 b (by omega)]
      unfold pA mono
      rw [if_neg (by omega), Nat.xor_zero]
    · rw [a6, pB_A h iQ iM, pA_a, pA_c L, pA_k]
/-- what quotient and rest are -/
theorem dvd_fact (h : FOK Φ) {side : Nat} {F G : Nat → Nat} (iF : inF Φ F) (iG : inF Φ G) (dF : dle F 17) (dG : dle G 17) {n : Nat} (hn : sz G = n + 1) : inF Φ (dvd Φ side F G).1 ∧ inF Φ (dvd Φ side F G).2 ∧ dle (dvd Φ side F G).1 (sz F - n) ∧ dle (dvd Φ side F G).2 n ∧ pA (pB Φ side (dvd Φ side F G).1 G) (dvd Φ side F G).2 = F ∧ sz (dvd Φ side F G).2 ≤ sz F := by
  have h1 := sz_le F
  have h2 := sz_le G
  unfold dvd
  rw [hn, Nat.add_sub_cancel]
  by_cases hk : n ≤ sz F
  · obtain ⟨a1, a2, a3, a4, a5, a6⟩ := dvl_fact h (side := side) iG (by rw [← hn]; exact sz_dle dG) (sz_top hn) (by omega) (sz F - n) F p0 (by omega) iF (p0_in Φ) (by rw [show n + (sz F - n) = sz F by omega]; exact sz_dle dF) (p0_dle 17) (fun _ _ => rfl)
    refine ⟨a1, a2, fun b hb => a5 b hb, a4, ?_, Nat.le_trans (sz_dle_le a4) hk⟩
    rw [a6, pB_0, p0_A]
  · rw [show sz F - n = 0 by omega]
    refine ⟨p0_in Φ, iF, p0_dle _, fun b hb => sz_ge dF (by omega), ?_, Nat.le_refl _⟩
    show pA (pB Φ side p0 G) F = F
    rw [pB_0, p0_A]
theorem dvd_u (h : FOK Φ) {side : Nat} {F G Q R : Nat → Nat} (iF : inF Φ F) (iG : inF Φ G) (dF : dle F 17) (dG : dle G 17) {n : Nat} (hn : sz G = n + 1) (iQ : inF Φ Q) (dQ : dle Q 17) (dR : dle R n) (e : pA (pB Φ side Q G) R = F) : dvd Φ side F G = (Q, R) := by
  obtain ⟨a1, a2, a3, a4, a5, -⟩ := dvd_fact h (side := side) iF iG dF dG hn
  have h1 := sz_le F
  obtain ⟨e1, e2⟩ := div_u h (side := side) iG dG hn a1 iQ (dle_mono a3 (by omega)) dQ a4 dR (by rw [a5, e])
  rw [← e1, ← e2]
end DIVP
