/-! LIKENESS: scaled rows, Gray's order runs through all numbers -/
section LK
variable {Φ : gF}
theorem dvd_sc (h : FOK Φ) {F G : pl} (oF : pOK Φ F) (oG : pOK Φ G) (hz : sz G ≠ 0) {a b : Nat} (ha : a < 2 ^ Φ.1) (hb : b < 2 ^ Φ.1) (hb0 : b ≠ 0) : (dvd Φ 0 (pM Φ a F) (pM Φ b G)).2 = pM Φ a (dvd Φ 0 F G).2 := by
  obtain ⟨n, hn⟩ : ∃ n, sz G = n + 1 := ⟨sz G - 1, by omega⟩
  obtain ⟨a1, a2, a3, a4, a5, -⟩ := dvd_fact h (side := 0) oF.1 oG.1 oF.2 oG.2 hn
  have f17 := sz_le F
  have hi := fi_lt h hb
  have hs : sz (pM Φ b G) = n + 1 := by rw [pM_sz h oG hb hb0, hn]
  have iQ : inF Φ (pM Φ a (dvd Φ 0 F G).1) := pM_in h ha _
  have e1 : pP Φ 1 (mono (fi Φ b) 0) (pM Φ b G) = G := by
    rw [pP_mono]
    show pM Φ (fi Φ b) (pM Φ b G) = G
    rw [← pM_M h hi hb, fi_m2 h hb hb0, pM_1 h oG.1]
  have e2 := pP_assoc h iQ (mono_in hi 0) (pM_in h hb G) (mono_dle (fi Φ b) 0) 17
  rw [e1] at e2
  have dQ : dle (pP Φ 17 (pM Φ a (dvd Φ 0 F G).1) (mono (fi Φ b) 0)) 17 := dle_mono (pP_dle (mono_dle _ _) 17) (by decide)
  have := dvd_u h (side := 0) (pM_in h ha F) (pM_in h hb G) (pM_dle oF.2) (pM_dle oG.2) hs (pP_in h iQ 17) dQ (pM_dle (a := a) (Φ := Φ) a4) (by
    unfold pB
    rw [if_neg (by decide), ← pP_ge dQ (0 + 1 + 17) (by decide), ← e2, pP_Ml h ha a1, ← pM_A]
    unfold pB at a5
    rw [if_neg (by decide)] at a5
    rw [a5])
  rw [this]
def Sc (Φ : gF) (A B : pl) : Prop := ∃ a, a < 2 ^ Φ.1 ∧ a ≠ 0 ∧ B = pM Φ a A
theorem eul_sc (h : FOK Φ) : ∀ (n : Nat) (S S' : eS), pOK Φ S.1 → pOK Φ S.2.1 → Sc Φ S.1 S'.1 → Sc Φ S.2.1 S'.2.1 → sz (eul Φ 0 n S').1 = sz (eul Φ 0 n S).1
  | 0, S, S', o1, o2, ⟨a, a1, a2, a3⟩, _ => by
    show sz S'.1 = sz S.1
    rw [a3, pM_sz h o1 a1 a2]
  | n + 1, S, S', o1, o2, ⟨a, a1, a2, a3⟩, ⟨b, b1, b2, b3⟩ => by
    have e : sz S'.2.1 = sz S.2.1 := by rw [b3, pM_sz h o2 b1 b2]
    unfold eul
    by_cases hz : sz S.2.1 = 0
    · rw [if_pos hz, if_pos (e.trans hz), a3, pM_sz h o1 a1 a2]
    · rw [if_neg hz, if_neg (fun z => hz (e ▸ z))]
      obtain ⟨k, hk⟩ : ∃ k, sz S.2.1 = k + 1 := ⟨sz S.2.1 - 1, by omega⟩
      obtain ⟨c1, c2, c3, c4, c5, -⟩ := dvd_fact h (side := 0) o1.1 o2.1 o1.2 o2.2 hk
      have k17 := sz_le S.2.1
      exact eul_sc h n (eSt Φ 0 S) (eSt Φ 0 S') o2 ⟨c2, dle_mono c4 (by omega)⟩ ⟨b, b1, b2, b3⟩ ⟨a, a1, a2, by
        show (dvd Φ 0 S'.1 S'.2.1).2 = pM Φ a (dvd Φ 0 S.1 S.2.1).2
        rw [a3, b3]
        exact dvd_sc h o1 o2 hz a1 b1 b2⟩
theorem ceul_sc (h : FOK Φ) {F G : pl} (oF : pOK Φ F) (oG : pOK Φ G) {u : Nat} (hu : u < 2 ^ Φ.1) (hu0 : u ≠ 0) : sz (ceul Φ 0 F (pM Φ u G)).1 = sz (ceul Φ 0 F G).1 :=
  eul_sc h 19 (eS0 F G) (eS0 F (pM Φ u G)) oF oG ⟨1, one_lt h, Nat.one_ne_zero, (pM_1 h oF.1).symm⟩ ⟨u, hu, hu0, rfl⟩
theorem fi_mul (h : FOK Φ) {u g : Nat} (hu : u < 2 ^ Φ.1) (hg : g < 2 ^ Φ.1) (u0 : u ≠ 0) (g0 : g ≠ 0) : fm Φ (fi Φ (fm Φ u g)) u = fi Φ g := by
  have hug := fm_lt (b := g) h hu
  have hn := fm_nz h hu hg u0 g0
  have hw := fi_lt h hug
  have e1 := fi_m2 h hug hn
  have hwu := fm_lt (b := u) h hw
  have e2 : fm Φ (fm Φ (fm Φ (fi Φ (fm Φ u g)) u) g) (fi Φ g) = fi Φ g := by
    rw [fm_a h hw hu, e1, fm_1l h (fi_lt h hg)]
  rw [fm_a h hwu hg, fi_m h hg g0, fm_1r] at e2
  exact e2
theorem lw_sc (h : FOK Φ) {G H : pl} (iG : inF Φ G) {n u : Nat} (iH : inF Φ H) (hu : u < 2 ^ Φ.1) (u0 : u ≠ 0) (g0 : G n ≠ 0) : ∀ k, lw Φ (pM Φ u G) n (fi Φ (pM Φ u G n)) H k = lw Φ G n (fi Φ (G n)) H k
  | 0 => rfl
  | k + 1 => by
    show pA (pS Φ (lw Φ (pM Φ u G) n (fi Φ (pM Φ u G n)) H k)) (pM Φ (fm Φ (pS Φ (lw Φ (pM Φ u G) n (fi Φ (pM Φ u G n)) H k) n) (fi Φ (pM Φ u G n))) (pM Φ u G)) = pA (pS Φ (lw Φ G n (fi Φ (G n)) H k)) (pM Φ (fm Φ (pS Φ (lw Φ G n (fi Φ (G n)) H k) n) (fi Φ (G n))) G)
    rw [lw_sc h iG iH hu u0 g0 k]
    have iW := pS_in h (lw_in h (G := G) (n := n) (hd := fi Φ (G n)) iH k) n
    have hug : pM Φ u G n < 2 ^ Φ.1 := fm_lt h hu
    have hw := fi_lt h hug
    rw [← pM_M h (fm_lt h iW) hu, fm_a h iW hw]
    rw [show fm Φ (fi Φ (pM Φ u G n)) u = fi Φ (G n) from fi_mul h hu (iG n) u0 g0]
theorem lv_scF (h : FOK Φ) {F G H : pl} (iF : inF Φ F) {n hd v : Nat} (hv : v < 2 ^ Φ.1) : ∀ k, lv Φ (pM Φ v F) G n hd H k = pM Φ v (lv Φ F G n hd H k)
  | 0 => (pM_p0 Φ v).symm
  | k + 1 => by
    show pA (lv Φ (pM Φ v F) G n hd H k) (pM Φ (fm Φ v (F k)) (lw Φ G n hd H k)) = pM Φ v (pA (lv Φ F G n hd H k) (pM Φ (F k) (lw Φ G n hd H k)))
    rw [lv_scF h iF hv k, pM_A, pM_M h hv (iF k)]
theorem lv_cgW {F G G' H : pl} {n hd hd' : Nat} (hw : ∀ k, lw Φ G' n hd' H k = lw Φ G n hd H k) : ∀ k, lv Φ F G' n hd' H k = lv Φ F G n hd H k
  | 0 => rfl
  | k + 1 => by unfold lv; rw [lv_cgW hw k, hw k]
theorem lvr_sc (h : FOK Φ) {F G H : pl} (oF : pOK Φ F) (oG : pOK Φ G) (iH : inF Φ H) {u v : Nat} (hu : u < 2 ^ Φ.1) (u0 : u ≠ 0) (hv : v < 2 ^ Φ.1) (v0 : v ≠ 0) : lvr Φ (pM Φ v F) H (pM Φ u G) = pM Φ v (lvr Φ F H G) := by
  unfold lvr
  rw [pM_sz h oG hu u0, pM_sz h oF hv v0]
  by_cases h1 : sz G ≤ 1
  · rw [if_pos h1, if_pos h1, pM_p0]
  · rw [if_neg h1, if_neg h1]
    obtain ⟨n, hn⟩ : ∃ n, sz G = n + 1 := ⟨sz G - 1, by omega⟩
    rw [hn, Nat.add_sub_cancel, lv_scF h oF.1 hv, lv_cgW (lw_sc h oG.1 iH hu u0 (sz_top hn))]
theorem lw_A (h : FOK Φ) {G H H' : pl} (iH : inF Φ H) (iH' : inF Φ H') {n hd : Nat} : ∀ k, lw Φ G n hd (pA H H') k = pA (lw Φ G n hd H k) (lw Φ G n hd H' k)
  | 0 => rfl
  | k + 1 => by
    show pA (pS Φ (lw Φ G n hd (pA H H') k)) (pM Φ (fm Φ (pS Φ (lw Φ G n hd (pA H H') k) n) hd) G) = pA (pA (pS Φ (lw Φ G n hd H k)) (pM Φ (fm Φ (pS Φ (lw Φ G n hd H k) n) hd) G)) (pA (pS Φ (lw Φ G n hd H' k)) (pM Φ (fm Φ (pS Φ (lw Φ G n hd H' k) n) hd) G))
    rw [lw_A h iH iH' k, pS_A h (lw_in h iH k) (lw_in h iH' k)]
    show pA (pA (pS Φ (lw Φ G n hd H k)) (pS Φ (lw Φ G n hd H' k))) (pM Φ (fm Φ (pS Φ (lw Φ G n hd H k) n ^^^ pS Φ (lw Φ G n hd H' k) n) hd) G) = _
    rw [fm_xl, pM_x, pA_4]
theorem lv_A (h : FOK Φ) {F G H H' : pl} (iH : inF Φ H) (iH' : inF Φ H') {n hd : Nat} : ∀ k, lv Φ F G n hd (pA H H') k = pA (lv Φ F G n hd H k) (lv Φ F G n hd H' k)
  | 0 => (pA_s p0).symm
  | k + 1 => by
    show pA (lv Φ F G n hd (pA H H') k) (pM Φ (F k) (lw Φ G n hd (pA H H') k)) = pA (pA (lv Φ F G n hd H k) (pM Φ (F k) (lw Φ G n hd H k))) (pA (lv Φ F G n hd H' k) (pM Φ (F k) (lw Φ G n hd H' k)))
    rw [lv_A h iH iH' k, lw_A h iH iH' k, pM_A, pA_4]
theorem lvr_A (h : FOK Φ) {F G H H' : pl} (iH : inF Φ H) (iH' : inF Φ H') : lvr Φ F (pA H H') G = pA (lvr Φ F H G) (lvr Φ F H' G) := by
  unfold lvr
  by_cases h1 : sz G ≤ 1
  · rw [if_pos h1, if_pos h1, if_pos h1]; exact (pA_s p0).symm
  · rw [if_neg h1, if_neg h1, if_neg h1]; exact lv_A h iH iH' _
theorem lw_0 {G : pl} {n hd : Nat} : ∀ k, lw Φ G n hd p0 k = p0
  | 0 => rfl
  | k + 1 => by
    show pA (pS Φ (lw Φ G n hd p0 k)) (pM Φ (fm Φ (pS Φ (lw Φ G n hd p0 k) n) hd) G) = p0
    rw [lw_0 k, pS_0, show fm Φ (p0 n) hd = 0 from fm_0l _ _, pM_z]; exact pA_s p0
theorem lv_0 {F G : pl} {n hd : Nat} : ∀ k, lv Φ F G n hd p0 k = p0
  | 0 => rfl
  | k + 1 => by
    show pA (lv Φ F G n hd p0 k) (pM Φ (F k) (lw Φ G n hd p0 k)) = p0
    rw [lv_0 k, lw_0, pM_p0]; exact pA_s p0
theorem lvr_0 {F G : pl} : lvr Φ F p0 G = p0 := by
  unfold lvr
  split
  · rfl
  · exact lv_0 _
end LK
section GRAY
def gri (c : Nat) : Nat :=
  let a := c ^^^ (c / 2)
  let b := a ^^^ (a / 4)
  let e := b ^^^ (b / 16)
  e ^^^ (e / 256)
set_option maxRecDepth 100000 in
theorem gri_all : ∀ c : Nat, c < 4096 → grc (gri c) = c := by decide +kernel
set_option maxRecDepth 100000 in
theorem grc_all : ∀ i : Nat, i < 4095 → grc (i + 1) = grc i ^^^ 2 ^ tzk (i + 1) ∧ tzk (i + 1) < 12 := by decide +kernel
theorem xd_lt {c k n : Nat} (h : c < 2 ^ n) : c ^^^ (c / k) < 2 ^ n := x_lt h (Nat.lt_of_le_of_lt (Nat.div_le_self _ _) h)
theorem gri_lt {c n : Nat} (h : c < 2 ^ n) : gri c < 2 ^ n := xd_lt (xd_lt (xd_lt (xd_lt h)))
theorem gri_0 : gri 0 = 0 := rfl
theorem grc_0 : grc 0 = 0 := rfl
theorem gsm_f {R f : Nat → pl} (h0 : f 0 = p0) (hs : ∀ a t, a < 4096 → t < 12 → f (a ^^^ 2 ^ t) = pA (f a) (R t)) : ∀ i, i < 4096 → gsm R i = f (grc i)
  | 0, _ => h0.symm
  | i + 1, hi => by
    obtain ⟨g1, g2⟩ := grc_all i (by omega)
    show pA (gsm R i) (R (tzk (i + 1))) = f (grc (i + 1))
    rw [gsm_f h0 hs i (by omega), g1, hs _ _ (grc_lt (n := 12) (by omega)) g2]
theorem dm_x (a b k m : Nat) : (a ^^^ b) / 2 ^ k % 2 ^ m = (a / 2 ^ k % 2 ^ m) ^^^ (b / 2 ^ k % 2 ^ m) := by
  rw [← Nat.shiftRight_eq_div_pow, ← Nat.shiftRight_eq_div_pow, ← Nat.shiftRight_eq_div_pow, Nat.shiftRight_xor_distrib, Nat.xor_mod_two_pow]
theorem pow_dm {m t j : Nat} (hm : 1 ≤ m) : 2 ^ t / 2 ^ (m * j) % 2 ^ m = if j = t / m then 2 ^ (t % m) else 0 := by
  have e := Nat.div_add_mod t m
  have hr := Nat.mod_lt t hm
  generalize t / m = q at e ⊢
  generalize t % m = r at e hr ⊢
  subst e
  rcases Nat.lt_trichotomy j q with h | h | h
  · obtain ⟨k, rfl⟩ : ∃ k, q = j + 1 + k := ⟨q - (j + 1), by omega⟩
    rw [if_neg (by omega), show m * (j + 1 + k) + r = m * j + (m + (m * k + r)) from by rw [Nat.mul_add, Nat.mul_add, Nat.mul_one]; omega, Nat.pow_add, Nat.mul_div_cancel_left _ (Nat.two_pow_pos _), Nat.pow_add, Nat.mul_mod_right]
  · subst h
    rw [if_pos rfl, Nat.pow_add, Nat.mul_div_cancel_left _ (Nat.two_pow_pos _), Nat.mod_eq_of_lt (Nat.pow_lt_pow_right (by decide) hr)]
  · obtain ⟨k, rfl⟩ : ∃ k, j = q + 1 + k := ⟨j - (q + 1), by omega⟩
    have : 2 ^ (m * q + r) < 2 ^ (m * (q + 1 + k)) := Nat.pow_lt_pow_right (by decide) (by rw [Nat.mul_add, Nat.mul_add, Nat.mul_one]; omega)
    rw [if_neg (by omega), Nat.div_eq_of_lt this, Nat.zero_mod]
theorem lyc_x {m a t : Nat} (hm : 1 ≤ m) (ht : t < 12) : lyc m (a ^^^ 2 ^ t) = pA (lyc m a) (mono (2 ^ (t % m)) (t / m)) := by
  funext j
  unfold lyc
  show (if m * j < 12 then (a ^^^ 2 ^ t) / 2 ^ (m * j) % 2 ^ m else 0) = (if m * j < 12 then a / 2 ^ (m * j) % 2 ^ m else 0) ^^^ (if j = t / m then 2 ^ (t % m) else 0)
  by_cases h : m * j < 12
  · rw [if_pos h, if_pos h, dm_x, pow_dm hm]
  · rw [if_neg h, if_neg h, if_neg, Nat.xor_self]
    intro z
    rw [z] at h
    have := Nat.mul_div_le t m
    omega
theorem lyc_0 (m : Nat) : lyc m 0 = p0 := by
  funext j
  unfold lyc
  rw [Nat.zero_div, Nat.zero_mod]
  split
  · rfl
  · rfl
end GRAY
