/-! THE REFERENCE'S NORM: cells, the sum, the act -/
def CE (Φ : gF) (D : jD) (Y : pl) (r j k : Nat) : Prop := ∀ a, a < r → ∀ c, c < r → PRo D 529 (17 * (4 * a + c)) (if a < j then nc Φ Y r a c else if a = j then ncK Φ Y r j c k else p0)
section MNO
variable {ρ : jr2} {D D' : jD} {d : Nat} {Φ : gF} {A : aA} {T : aT}
theorem ncK_0 {Y : pl} {r row col : Nat} : ncK Φ Y r row col 0 = p0 := by
  funext q
  unfold ncK
  rw [if_neg (by omega)]; rfl
theorem CE_n {Y : pl} (dY : dle Y 7) {r j : Nat} (h : CE Φ D Y r j 8) : CE Φ D Y r (j + 1) 0 := fun a ha c hc => by
  have := h a ha c hc
  by_cases e : a = j
  · rw [if_neg (by omega), if_pos e, ncK_nc (dle_mono dY (by decide))] at this
    rw [if_pos (by omega), e]
    rw [e] at this
    exact this
  · by_cases e2 : a < j
    · rw [if_pos e2] at this
      rw [if_pos (by omega)]; exact this
    · rw [if_neg e2, if_neg e] at this
      rw [if_neg (by omega)]
      by_cases e3 : a = j + 1
      · rw [if_pos e3, ncK_0]; exact this
      · rw [if_neg e3]; exact this
theorem mo_tm {k j r mo : Nat} (h : mo = (k + j) % r) : ((k + j : Nat) : Int).tmod (r : Int) = (mo : Int) := by subst h; rfl
theorem mo_td {k j r qo : Nat} (h : qo = (k + j) / r) : ((k + j : Nat) : Int).tdiv (r : Int) = (qo : Int) := by subst h; rfl
theorem mo_b {j mo qo k r : Nat} (h1 : j < r) (h2 : mo < r) (h3 : r ≤ 4) (h4 : qo ≤ k + j) (h5 : k < 8) : 17 * (4 * j + mo) + qo < 272 := by omega
theorem mo_e {j mo qo : Nat} (h1 : j < 4) (h2 : mo < 4) (h4 : qo < 12) : w32 (w32 (17 * w32 (w32 (4 * (j : Int)) + (mo : Int))) + w32 (qo : Int)) = ((17 * (4 * j + mo) + qo : Nat) : Int) := by
  have e1 : w32 (4 * (j : Int)) = 4 * (j : Int) := w32_i (by omega) (by omega)
  have e2 : w32 (4 * (j : Int) + (mo : Int)) = 4 * (j : Int) + (mo : Int) := w32_i (by omega) (by omega)
  have e3 : w32 (17 * (4 * (j : Int) + (mo : Int))) = 17 * (4 * (j : Int) + (mo : Int)) := w32_i (by omega) (by omega)
  have e4 : w32 (17 * (4 * (j : Int) + (mo : Int)) + (qo : Int)) = 17 * (4 * (j : Int) + (mo : Int)) + (qo : Int) := w32_i (by omega) (by omega)
  rw [w32_n (n := qo) (by omega), e1, e2, e3, e4]
  omega
theorem mcell_k {r : Nat} (hr : 1 ≤ r ∧ r ≤ 4) {Y : pl} (iY : inF Φ Y) {j : Nat} (hj : j < r) (x1 : Int) : ∀ (n k : Nat) (D : jD), k + n = 8 → MF Φ D → PR D 528 Y → CE Φ D Y r j k → ∃ D', Vl (d + 2) 278 89 [some (.inr (.inr (some 488))), some (.inl x1), some (.inl (r : Int)), some (.inl (j : Int)), some (.inl (k : Int)), none] [] (hp (1, ρ) D) = Vl (d + 2) 278 139 [some (.inr (.inr (some 488))), some (.inl x1), some (.inl (r : Int)), some (.inl (j : Int)), some (.inl 8), none] [] (hp (1, ρ) D') ∧ CE Φ D' Y r j 8 ∧ ∀ q, q ≠ 529 → D' q = D q
  | 0, k, D, hk, hF, RY, hC => by
    obtain rfl : k = 8 := by omega
    exact ⟨D, by rw [vM_norm_89, if_neg (by decide)]; rfl, hC, fun _ _ => rfl⟩
  | n + 1, k, D, hk, hF, RY, hC => by
    have hO := hF.1
    have hr4 : r = 1 ∨ r = 2 ∨ r = 3 ∨ r = 4 := by omega
    have q1 := mturn (d := d) (ρ := ρ) hF (a := Y k) (n := j) (iY k) (by omega)
    obtain ⟨mo, hmo⟩ : ∃ mo, mo = (k + j) % r := ⟨_, rfl⟩
    obtain ⟨qo, hqo⟩ : ∃ qo, qo = (k + j) / r := ⟨_, rfl⟩
    have hmod : mo < r := by rw [hmo]; exact Nat.mod_lt _ hr.1
    have hdiv : qo ≤ k + j := by rw [hqo]; exact Nat.div_le_self _ _
    obtain ⟨E, hE⟩ : ∃ E, E = sD D 529 (17 * (4 * j + mo) + qo) (fT Φ j (Y k) : Int) := ⟨_, rfl⟩
    have fE : ∀ q, q ≠ 529 → E q = D q := fun q hq => by rw [hE, sD_ne hq]
    have yes1 : mo ≤ k + j ∧ (k + j - mo) % r = 0 := by
      rcases hr4 with rfl | rfl | rfl | rfl <;> omega
    have yes2 : (k + j - mo) / r = qo := by
      rcases hr4 with rfl | rfl | rfl | rfl <;> omega
    have no1 : ∀ c, c < r → c ≠ mo → (k + j < c ∨ (k + j - c) % r ≠ 0) := fun c hc hne => by
      rcases hr4 with rfl | rfl | rfl | rfl <;> omega
    obtain ⟨D2, q2, C2, f2⟩ := mcell_k hr iY hj x1 n (k + 1) E (by omega) (MF_cg hF (fE 488 (by decide))) (PR_ne (fE 528 (by decide)) RY) (fun a ha c hc q hq => by
      have h0 := hC a ha c hc q hq
      rw [hE]
      show (if 529 = 529 ∧ 17 * (4 * a + c) + q = 17 * (4 * j + mo) + qo then (fT Φ j (Y k) : Int) else D 529 (17 * (4 * a + c) + q)) = _
      by_cases ea : a = j
      · rw [if_neg (show ¬ a < j by omega), if_pos ea] at h0 ⊢
        by_cases ec : c = mo
        · have hyq := congrFun (ncK_yes (Φ := Φ) (Y := Y) (row := j) (col := c) (k := k) hr (by rw [ec]; exact yes1)) q
          rw [← hyq]
          show _ = ((if q = (k + j - c) / r then fT Φ j (Y k) else ncK Φ Y r j c k q : Nat) : Int)
          rw [ec, yes2]
          rw [ec] at h0
          by_cases eq : q = qo
          · rw [if_pos ⟨rfl, by rw [ea, eq]⟩, if_pos eq]
          · rw [if_neg (fun z => eq (by rw [ea] at z; omega)), if_neg eq, h0]
        · rw [if_neg (fun z => ec (by rw [ea] at z; omega)), h0, ncK_no (Φ := Φ) (Y := Y) (row := j) (col := c) (k := k) hr (no1 c hc ec)]
      · rw [if_neg (fun z => ea (by omega)), h0]
        by_cases e2 : a < j
        · rw [if_pos e2, if_pos e2]
        · rw [if_neg e2, if_neg ea, if_neg e2, if_neg ea])
    refine ⟨D2, ?_, C2, fun q hq => by rw [f2 q hq, fE q hq]⟩
    have hk8' : k < 8 := by omega
    have ei := mo_e (j := j) (mo := mo) (qo := qo) (Nat.lt_of_lt_of_le hj hr.2) (Nat.lt_of_lt_of_le hmod hr.2) (Nat.lt_of_le_of_lt hdiv (by omega))
    have hb : 17 * (4 * j + mo) + qo < 272 := mo_b hj hmod hr.2 hdiv hk8'
    have hkj : k + j < 2147483648 := by omega
    have hk1 : k < 2147483647 := by omega
    have hr0 : ¬ (r : Int) = 0 := by omega
    have hk8 : (k : Int) < 8 := by omega
    have hi1 : 0 ≤ (k : Int) ∧ (k : Int) < ((17 : Nat) : Int) := by omega
    have hk17 : k < 17 := by omega
    have em := mo_tm hmo
    have ed := mo_td hqo
    clear hmo hqo yes1 yes2 no1
    rw [vM_norm_89, if_pos hk8, vM_norm_96, mGF m488, if_neg hr0, if_neg hr0]
    simp only [mGF m488, mr59, mr60]
    rw [mIA m528, if_pos hi1, Int.toNat_natCast, RY k hk17, q1, aVC, tlS, vM_norm_132, w32_ad hkj, em, ed, ei, mIS m529, if_pos (show (0 : Int) ≤ ((17 * (4 * j + mo) + qo : Nat) : Int) ∧ ((17 * (4 * j + mo) + qo : Nat) : Int) < ((272 : Nat) : Int) from ⟨Int.natCast_nonneg _, Int.ofNat_lt.mpr hb⟩), Int.toNat_natCast, ← hE, w32_s hk1, q2]
theorem mcell_j {r : Nat} (hr : 1 ≤ r ∧ r ≤ 4) {Y : pl} (iY : inF Φ Y) (dY : dle Y 7) (x1 : Int) : ∀ (n j : Nat) (D : jD) (u4 : Option jv), j + n = r → MF Φ D → PR D 528 Y → CE Φ D Y r j 0 → ∃ D' v4, Vl (d + 2) 278 81 [some (.inr (.inr (some 488))), some (.inl x1), some (.inl (r : Int)), some (.inl (j : Int)), u4, none] [] (hp (1, ρ) D) = Vl (d + 2) 278 145 [some (.inr (.inr (some 488))), some (.inl x1), some (.inl (r : Int)), some (.inl (r : Int)), v4, none] [] (hp (1, ρ) D') ∧ CE Φ D' Y r r 0 ∧ ∀ q, q ≠ 529 → D' q = D q
  | 0, j, D, u4, hj, hF, RY, hC => by
    obtain rfl : j = r := by omega
    exact ⟨D, u4, by rw [vM_norm_81, if_neg (by omega)], hC, fun _ _ => rfl⟩
  | n + 1, j, D, u4, hj, hF, RY, hC => by
    obtain ⟨D1, q1, C1, f1⟩ := mcell_k (d := d) (ρ := ρ) hr iY (show j < r by omega) x1 8 0 D rfl hF RY hC
    rw [show ((0 : Nat) : Int) = 0 from rfl] at q1
    obtain ⟨D2, v4, q2, C2, f2⟩ := mcell_j hr iY dY x1 n (j + 1) D1 (some (.inl 8)) (by omega) (MF_cg hF (f1 488 (by decide))) (PR_ne (f1 528 (by decide)) RY) (CE_n dY C1)
    refine ⟨D2, v4, ?_, C2, fun q hq => by rw [f2 q hq, f1 q hq]⟩
    rw [vM_norm_81, if_pos (by omega), vM_norm_86, q1, vM_norm_139, w32_s (by omega), q2]
theorem trm_in (h : FOK Φ) {Y : pl} (iY : inF Φ Y) {r code : Nat} : ∀ j, inF Φ (trm Φ Y r code j)
  | 0 => mono_in (one_lt h) 0
  | j + 1 => pC_in h (nc_in h iY _ _ _) _
theorem xsm_in (h : FOK Φ) {P : Nat → pl} (hP : ∀ i, inF Φ (P i)) : ∀ n, inF Φ (xsm P n)
  | 0 => p0_in Φ
  | n + 1 => pA_in (xsm_in h hP n) (hP n)
theorem msk_dig {code s : Nat} : ∀ j, j < s → 2 ^ (code / 4 ^ j % 4) ≤ msk code s := by
  induction s with
  | zero => exact fun j hj => absurd hj (Nat.not_lt_zero _)
  | succ s ih =>
    intro j hj
    show _ ≤ msk code s ||| 2 ^ (code / 4 ^ s % 4)
    by_cases e : j = s
    · rw [e]; exact Nat.right_le_or
    · exact Nat.le_trans (ih j (by omega)) Nat.left_le_or
theorem dig4 {code j : Nat} (hc : code < 256) (hj : j < 4) : jand (jshr (code : Int) (w32 (2 * (j : Int)))) 3 = ((code / 4 ^ j % 4 : Nat) : Int) := by
  have e : (2 : Nat) ^ (2 * j) = 4 ^ j := by rw [Nat.pow_mul]
  have hd := Nat.div_le_self code (4 ^ j)
  rw [show w32 (2 * (j : Int)) = ((2 * j : Nat) : Int) from by rw [w32_i (by omega) (by omega)]; omega, jshr_n (by omega), e, show (3 : Int) = ((2 ^ 2 - 1 : Nat) : Int) from rfl, jand_k 2 (by decide) (by omega)]
theorem mterm {r : Nat} (hr : 1 ≤ r ∧ r ≤ 4) {Y : pl} (iY : inF Φ Y) {code : Nat} (hc : code < 256) (hm : msk code r = 2 ^ r - 1) (x1 x4 : Int) : ∀ (n j : Nat) (D : jD), j + n = r → MF Φ D → CE Φ D Y r r 0 → PR D 530 (trm Φ Y r code j) → ∃ D', Vl (d + 3) 278 226 [some (.inr (.inr (some 488))), some (.inl x1), some (.inl (r : Int)), some (.inl (code : Int)), some (.inl x4), some (.inl (j : Int))] [] (hp (1, ρ) D) = Vl (d + 3) 278 283 [some (.inr (.inr (some 488))), some (.inl x1), some (.inl (r : Int)), some (.inl (code : Int)), some (.inl x4), some (.inl (r : Int))] [] (hp (1, ρ) D') ∧ PR D' 530 (trm Φ Y r code r) ∧ ∀ q, q ≠ 530 → q ≠ 531 → D' q = D q
  | 0, j, D, hj, hF, hC, RT => by
    obtain rfl : j = r := by omega
    exact ⟨D, by rw [vM_norm_226, if_neg (by omega)], RT, fun _ _ _ => rfl⟩
  | n + 1, j, D, hj, hF, hC, RT => by
    have hO := hF.1
    have hdg : code / 4 ^ j % 4 < r := by
      refine Classical.byContradiction fun z => ?_
      have h1 := msk_dig (code := code) (s := r) j (by omega)
      have h2 : 2 ^ r ≤ 2 ^ (code / 4 ^ j % 4) := Nat.pow_le_pow_right (by decide) (by omega)
      have h3 := Nat.two_pow_pos r
      omega
    have hcell := hC j (by omega) _ hdg
    rw [if_pos (by omega)] at hcell
    have q1 := mplainP (d := d + 1) (ρ := ρ) hF (c1 := 529) (n1 := 272) (at_ := 17 * (4 * j + code / 4 ^ j % 4)) (c3 := 530) (c4 := 531) m529 (by decide) (by omega) m530 m531 (by decide) (by decide) (by decide) hcell RT (nc_in hO iY _ _ _) (trm_in hO iY j)
    have q2 := mcpy (d := d + 2) (ρ := ρ) (D := pD D 531 (rI (pC Φ (nc Φ Y r j (code / 4 ^ j % 4)) (trm Φ Y r code j)))) m531 m530 (by decide) (by decide) (by decide) (by decide) pD_PR
    have f2 : ∀ q, q ≠ 530 → q ≠ 531 → pD (pD D 531 (rI (pC Φ (nc Φ Y r j (code / 4 ^ j % 4)) (trm Φ Y r code j)))) 530 (rI (pC Φ (nc Φ Y r j (code / 4 ^ j % 4)) (trm Φ Y r code j))) q = D q := fun q a b => by rw [pD_ne a, pD_ne b]
    obtain ⟨D3, q3, R3, f3⟩ := mterm hr iY hc hm x1 x4 n (j + 1) (pD (pD D 531 (rI (pC Φ (nc Φ Y r j (code / 4 ^ j % 4)) (trm Φ Y r code j)))) 530 (rI (pC Φ (nc Φ Y r j (code / 4 ^ j % 4)) (trm Φ Y r code j)))) (by omega) (MF_cg hF (f2 488 (by decide) (by decide))) (by unfold CE PRo; rw [f2 529 (by decide) (by decide)]; exact hC) pD_PR
    refine ⟨D3, ?_, R3, fun q a b => by rw [f3 q a b, f2 q a b]⟩
    have ei : w32 (17 * w32 (w32 (4 * (j : Int)) + ((code / 4 ^ j % 4 : Nat) : Int))) = ((17 * (4 * j + code / 4 ^ j % 4) : Nat) : Int) := by
      rw [w32_i (x := 4 * (j : Int)) (by omega) (by omega), w32_i (x := 4 * (j : Int) + ((code / 4 ^ j % 4 : Nat) : Int)) (by omega) (by omega), w32_i (by omega) (by omega)]
      omega
    rw [vM_norm_226, if_pos (by omega), vM_norm_232]
    simp only [mGF m488, mr60, mr61, mr62]
    rw [dig4 hc (by omega), ei, q1, aVC, tlN, vM_norm_264]
    simp only [mGF m488, mr61, mr62]
    rw [q2, aVC, tlN, vM_norm_277, w32_s (by omega), q3]
theorem mmask {r : Nat} (hr : 1 ≤ r ∧ r ≤ 4) {code : Nat} (hc : code < 256) {h : jh} (hG : h = hp (1, ρ) D) (x1 : Int) : ∀ j : Nat, j ≤ r → Vl (d + 3) 278 169 [some (.inr (.inr (some 488))), some (.inl x1), some (.inl (r : Int)), some (.inl (code : Int)), some (.inl 0), some (.inl 0)] [] h = Vl (d + 3) 278 169 [some (.inr (.inr (some 488))), some (.inl x1), some (.inl (r : Int)), some (.inl (code : Int)), some (.inl (msk code j : Int)), some (.inl (j : Int))] [] h
  | 0, _ => rfl
  | j + 1, hj => by
    have hd := Nat.mod_lt (code / 4 ^ j) (show 0 < 4 by decide)
    have hm := (msk_f code j).1
    have hp4 : 2 ^ (code / 4 ^ j % 4) ≤ 2 ^ 4 := Nat.pow_le_pow_right (by decide) (by omega)
    have e1 : jshl 1 ((code / 4 ^ j % 4 : Nat) : Int) = ((2 ^ (code / 4 ^ j % 4) : Nat) : Int) := by
      have := jshl_n (a := 1) (k := code / 4 ^ j % 4) (by omega) (by omega)
      rw [Nat.one_mul] at this
      exact this
    rw [mmask hr hc hG x1 j (by omega), vM_norm_169, if_pos (by omega), vM_norm_175, dig4 hc (by omega), e1, jor_n (by omega) (by omega), w32_s (by omega)]
    rfl
end MNO
