/-! TURNED PRODUCTS, as functions of whole numbers -/
def pA (F G : Nat → Nat) : Nat → Nat := fun b => F b ^^^ G b
def pM (Φ : gF) (a : Nat) (F : Nat → Nat) : Nat → Nat := fun b => fm Φ a (F b)
def p0 : Nat → Nat := fun _ => 0
def mono (c k : Nat) : Nat → Nat := fun b => if b = k then c else 0
def pSi (Φ : gF) : Nat → (Nat → Nat) → (Nat → Nat)
  | 0, F => F
  | n + 1, F => pS Φ (pSi Φ n F)
def pP (Φ : gF) : Nat → (Nat → Nat) → (Nat → Nat) → (Nat → Nat)
  | 0, _, _ => p0
  | n + 1, F, G => pA (pP Φ n F G) (pM Φ (F n) (pSi Φ n G))
/-- the degree and one more, of the first 17 numbers -/
def sz (F : Nat → Nat) : Nat := szn (rI F) 17
theorem szn_congr {r r' : Nat → Int} : ∀ n, (∀ b, b < n → r b = r' b) → szn r n = szn r' n
  | 0, _ => rfl
  | n + 1, h => by
    unfold szn
    rw [h n (by omega), szn_congr n (fun b hb => h b (by omega))]
theorem szn_ge {r : Nat → Int} : ∀ n b, szn r n ≤ b → b < n → r b = 0
  | 0, _, _, h => absurd h (Nat.not_lt_zero _)
  | n + 1, b, h1, h2 => by
    unfold szn at h1
    by_cases h : r n = 0
    · rw [if_pos h] at h1
      by_cases hb : b = n
      · rw [hb]; exact h
      · exact szn_ge n b h1 (by omega)
    · rw [if_neg h] at h1; omega
theorem szn_top {r : Nat → Int} : ∀ n s, szn r n = s + 1 → r s ≠ 0
  | 0, s, h => by unfold szn at h; omega
  | n + 1, s, h => by
    unfold szn at h
    by_cases hr : r n = 0
    · rw [if_pos hr] at h; exact szn_top n s h
    · rw [if_neg hr] at h
      rw [show s = n by omega]; exact hr
theorem szn_of {r : Nat → Int} : ∀ n s, s < n → r s ≠ 0 → (∀ b, s < b → b < n → r b = 0) → szn r n = s + 1
  | 0, _, h, _, _ => absurd h (Nat.not_lt_zero _)
  | n + 1, s, h, h1, h2 => by
    unfold szn
    by_cases hs : s = n
    · rw [← hs, if_neg h1]
    · rw [if_pos (h2 n (by omega) (by omega))]
      exact szn_of n s (by omega) h1 (fun b h3 h4 => h2 b h3 (by omega))
theorem szn_0 {r : Nat → Int} : ∀ n, (∀ b, b < n → r b = 0) → szn r n = 0
  | 0, _ => rfl
  | n + 1, h => by
    unfold szn
    rw [if_pos (h n (by omega))]; exact szn_0 n (fun b hb => h b (by omega))
theorem sz_PR {D : jD} {c : Nat} {F : Nat → Nat} (h : PR D c F) : szn (D c) 17 = sz F := szn_congr 17 h
theorem sz_le (F : Nat → Nat) : sz F ≤ 17 := szn_le _ _
theorem sz_ge {F : Nat → Nat} (h : dle F 17) {b : Nat} (hb : sz F ≤ b) : F b = 0 := by
  by_cases q : b < 17
  · have := szn_ge (r := rI F) 17 b hb q
    unfold rI at this; omega
  · exact h b (by omega)
theorem sz_dle {F : Nat → Nat} (h : dle F 17) : dle F (sz F) := fun _ hb => sz_ge h hb
theorem sz_top {F : Nat → Nat} {s : Nat} (h : sz F = s + 1) : F s ≠ 0 := by
  have := szn_top (r := rI F) 17 s h
  unfold rI at this; omega
theorem sz_of {F : Nat → Nat} {s : Nat} (hs : s < 17) (h1 : F s ≠ 0) (h2 : dle F (s + 1)) : sz F = s + 1 := szn_of 17 s hs (by unfold rI; omega) (fun b h3 _ => by unfold rI; rw [h2 b h3]; rfl)
theorem sz_0 {F : Nat → Nat} (h : ∀ b, b < 17 → F b = 0) : sz F = 0 := szn_0 17 (fun b hb => by unfold rI; rw [h b hb]; rfl)
theorem sz_z {F : Nat → Nat} (h : dle F 17) (hz : sz F = 0) : F = p0 := funext fun b => sz_ge h (by omega)
theorem sz_p0 : sz p0 = 0 := sz_0 fun _ _ => rfl
theorem sz_dle_le {F : Nat → Nat} {n : Nat} (h : dle F n) : sz F ≤ n := by
  by_cases h0 : sz F ≤ n
  · exact h0
  · exact absurd (h (sz F - 1) (by omega)) (sz_top (show sz F = (sz F - 1) + 1 by omega))
theorem dle_mono {F : Nat → Nat} {n k : Nat} (h : dle F n) (hk : n ≤ k) : dle F k := fun b hb => h b (by omega)
theorem pA_in {Φ : gF} {F G : Nat → Nat} (hF : inF Φ F) (hG : inF Φ G) : inF Φ (pA F G) := fun b => x_lt (hF b) (hG b)
theorem pM_in {Φ : gF} (h : FOK Φ) {a : Nat} (ha : a < 2 ^ Φ.1) (F : Nat → Nat) : inF Φ (pM Φ a F) := fun _ => fm_lt h ha
theorem p0_in (Φ : gF) : inF Φ p0 := fun _ => F_pos Φ
theorem mono_in {Φ : gF} {c : Nat} (hc : c < 2 ^ Φ.1) (k : Nat) : inF Φ (mono c k) := fun b => by
  unfold mono; split
  · exact hc
  · exact F_pos Φ
theorem pSi_in {Φ : gF} (h : FOK Φ) {F : Nat → Nat} (hF : inF Φ F) : ∀ n, inF Φ (pSi Φ n F)
  | 0 => hF
  | n + 1 => pS_in h (pSi_in h hF n)
theorem pP_in {Φ : gF} (h : FOK Φ) {F G : Nat → Nat} (hF : inF Φ F) : ∀ n, inF Φ (pP Φ n F G)
  | 0 => p0_in Φ
  | n + 1 => pA_in (pP_in h hF n) (pM_in h (hF n) _)
theorem pA_dle {F G : Nat → Nat} {n : Nat} (hF : dle F n) (hG : dle G n) : dle (pA F G) n := fun b hb => by unfold pA; rw [hF b hb, hG b hb]; rfl
theorem pM_dle {Φ : gF} {a : Nat} {F : Nat → Nat} {n : Nat} (hF : dle F n) : dle (pM Φ a F) n := fun b hb => by unfold pM; rw [hF b hb, fm_0r]
theorem p0_dle (n : Nat) : dle p0 n := fun _ _ => rfl
theorem mono_dle (c k : Nat) : dle (mono c k) (k + 1) := fun b hb => if_neg (by omega)
theorem pSi_dle {Φ : gF} {F : Nat → Nat} {n : Nat} (hF : dle F n) : ∀ k, dle (pSi Φ k F) (n + k)
  | 0 => hF
  | k + 1 => pS_dle (pSi_dle hF k)
theorem pP_dle {Φ : gF} {F G : Nat → Nat} {n : Nat} (hG : dle G n) : ∀ k, dle (pP Φ k F G) (n + k - 1)
  | 0 => p0_dle _
  | k + 1 => pA_dle (dle_mono (pP_dle hG k) (by omega)) (pM_dle (dle_mono (pSi_dle hG k) (by omega)))
theorem pA_c (F G : Nat → Nat) : pA F G = pA G F := funext fun _ => xr_c _ _
theorem pA_a (F G H : Nat → Nat) : pA (pA F G) H = pA F (pA G H) := funext fun _ => xr_a _ _ _
theorem pA_l (F G H : Nat → Nat) : pA F (pA G H) = pA G (pA F H) := funext fun _ => xr_l _ _ _
theorem pA_4 (F G H K : Nat → Nat) : pA (pA F G) (pA H K) = pA (pA F H) (pA G K) := funext fun _ => xr_4 _ _ _ _
theorem pA_0 (F : Nat → Nat) : pA F p0 = F := funext fun _ => Nat.xor_zero _
theorem p0_A (F : Nat → Nat) : pA p0 F = F := funext fun _ => Nat.zero_xor _
theorem pA_s (F : Nat → Nat) : pA F F = p0 := funext fun _ => Nat.xor_self _
theorem pA_k (F G : Nat → Nat) : pA F (pA F G) = G := funext fun _ => xr_k _ _
section SKEW
variable {Φ : gF}
theorem ft_x (h : FOK Φ) {a b : Nat} (ha : a < 2 ^ Φ.1) (hb : b < 2 ^ Φ.1) : ft Φ (a ^^^ b) = ft Φ a ^^^ ft Φ b := gsn_x h.1.1 _ _ _ ha hb
theorem ft_m (h : FOK Φ) {a b : Nat} (ha : a < 2 ^ Φ.1) (hb : b < 2 ^ Φ.1) : ft Φ (fm Φ a b) = fm Φ (ft Φ a) (ft Φ b) := gsn_m h.1.1 _ _ _ ha hb
theorem fm_xl (Φ : gF) (a b c : Nat) : fm Φ (a ^^^ b) c = fm Φ a c ^^^ fm Φ b c := gm_xl _ _ _ _ _
theorem fm_xr (Φ : gF) (a b c : Nat) : fm Φ a (b ^^^ c) = fm Φ a b ^^^ fm Φ a c := gm_xr _ _ _ _ _
theorem fm_a (h : FOK Φ) {a b c : Nat} (ha : a < 2 ^ Φ.1) (hb : b < 2 ^ Φ.1) : fm Φ (fm Φ a b) c = fm Φ a (fm Φ b c) := gm_a h.1.1 ha hb
theorem fm_c (h : FOK Φ) {a b : Nat} (ha : a < 2 ^ Φ.1) (hb : b < 2 ^ Φ.1) : fm Φ a b = fm Φ b a := gm_c h.1.1 ha hb
theorem fm_lc (h : FOK Φ) {a b c : Nat} (ha : a < 2 ^ Φ.1) (hb : b < 2 ^ Φ.1) : fm Φ a (fm Φ b c) = fm Φ b (fm Φ a c) := gm_lc h.1.1 ha hb
theorem fm_1l (h : FOK Φ) {a : Nat} (ha : a < 2 ^ Φ.1) : fm Φ 1 a = a := gm_1l h.1.1 ha
theorem fm_1r (Φ : gF) (a : Nat) : fm Φ a 1 = a := gm_1r _ _ _
theorem fs_x (h : FOK Φ) {a b : Nat} (ha : a < 2 ^ Φ.1) (hb : b < 2 ^ Φ.1) : fs Φ (a ^^^ b) = fs Φ a ^^^ fs Φ b := by
  unfold fs
  rw [← fm_xr, ft_x h ha hb, xr_4]
/-- the slope of a product -/
theorem fs_m (h : FOK Φ) {a b : Nat} (ha : a < 2 ^ Φ.1) (hb : b < 2 ^ Φ.1) : fs Φ (fm Φ a b) = fm Φ (ft Φ a) (fs Φ b) ^^^ fm Φ (fs Φ a) b := by
  have hta := ft_lt h ha
  have htb := ft_lt h hb
  have hc := h.2.2
  unfold fs
  rw [ft_m h ha hb, fm_lc h hta hc, fm_a h hc (x_lt hta ha), ← fm_xr]
  congr 1
  rw [fm_xr, fm_xl]
  rw [xr_4, xr_a, xr_k, ]
theorem pS_A (h : FOK Φ) {F G : Nat → Nat} (hF : inF Φ F) (hG : inF Φ G) : pS Φ (pA F G) = pA (pS Φ F) (pS Φ G) := by
  funext b
  unfold pS pA
  rw [fs_x h (hF b) (hG b), xr_4]
  congr 1
  split
  · rfl
  · exact ft_x h (hF _) (hG _)
theorem pS_M (h : FOK Φ) {a : Nat} (ha : a < 2 ^ Φ.1) {F : Nat → Nat} (hF : inF Φ F) : pS Φ (pM Φ a F) = pA (pM Φ (ft Φ a) (pS Φ F)) (pM Φ (fs Φ a) F) := by
  funext b
  unfold pS pA pM
  rw [fs_m h ha (hF b), fm_xr, ← xr_a, ]
  congr 1
  congr 1
  split
  · rw [fm_0r]
  · exact ft_m h ha (hF _)
theorem pS_0 : pS Φ p0 = p0 := by
  funext b
  unfold pS p0
  rw [ft_0, fs_0]; split <;> rfl
theorem pSi_A (h : FOK Φ) {F G : Nat → Nat} (hF : inF Φ F) (hG : inF Φ G) : ∀ n, pSi Φ n (pA F G) = pA (pSi Φ n F) (pSi Φ n G)
  | 0 => rfl
  | n + 1 => by
    unfold pSi
    rw [pSi_A h hF hG n, pS_A h (pSi_in h hF n) (pSi_in h hG n)]
theorem pSi_0 : ∀ n, pSi Φ n p0 = p0
  | 0 => rfl
  | n + 1 => by unfold pSi; rw [pSi_0 n, pS_0]
theorem pSi_s (F : Nat → Nat) : ∀ n, pSi Φ n (pS Φ F) = pSi Φ (n + 1) F
  | 0 => rfl
  | n + 1 => by
    show pS Φ (pSi Φ n (pS Φ F)) = pS Φ (pSi Φ (n + 1) F)
    rw [pSi_s F n]
theorem pM_A (Φ : gF) (a : Nat) (F G : Nat → Nat) : pM Φ a (pA F G) = pA (pM Φ a F) (pM Φ a G) := funext fun _ => fm_xr _ _ _ _
theorem pM_x (Φ : gF) (a b : Nat) (F : Nat → Nat) : pM Φ (a ^^^ b) F = pA (pM Φ a F) (pM Φ b F) := funext fun _ => fm_xl _ _ _ _
theorem pM_p0 (Φ : gF) (a : Nat) : pM Φ a p0 = p0 := funext fun _ => fm_0r _ _
theorem pM_z (Φ : gF) (F : Nat → Nat) : pM Φ 0 F = p0 := funext fun _ => fm_0l _ _
theorem pM_1 (h : FOK Φ) {F : Nat → Nat} (hF : inF Φ F) : pM Φ 1 F = F := funext fun b => fm_1l h (hF b)
theorem pM_M (h : FOK Φ) {a b : Nat} (ha : a < 2 ^ Φ.1) (hb : b < 2 ^ Φ.1) (F : Nat → Nat) : pM Φ (fm Φ a b) F = pM Φ a (pM Φ b F) := funext fun _ => fm_a h ha hb
theorem pP_0r (n : Nat) (F : Nat → Nat) : pP Φ n F p0 = p0 := by
  induction n with
  | zero => rfl
  | succ n ih => unfold pP; rw [ih, pSi_0, pM_p0, pA_0]
theorem pP_Ar (h : FOK Φ) {F G H : Nat → Nat} (hG : inF Φ G) (hH : inF Φ H) : ∀ n, pP Φ n F (pA G H) = pA (pP Φ n F G) (pP Φ n F H)
  | 0 => (pA_0 _).symm
  | n + 1 => by
    unfold pP
    rw [pP_Ar h hG hH n, pSi_A h hG hH, pM_A, pA_4]
theorem pP_Al (F F' G : Nat → Nat) : ∀ n, pP Φ n (pA F F') G = pA (pP Φ n F G) (pP Φ n F' G)
  | 0 => (pA_0 _).symm
  | n + 1 => by
    unfold pP
    rw [pP_Al F F' G n, pA_4]
    congr 1
    exact pM_x _ _ _ _
theorem pP_Ml (h : FOK Φ) {a : Nat} (ha : a < 2 ^ Φ.1) {F : Nat → Nat} (hF : inF Φ F) (G : Nat → Nat) : ∀ n, pP Φ n (pM Φ a F) G = pM Φ a (pP Φ n F G)
  | 0 => (pM_p0 _ _).symm
  | n + 1 => by
    unfold pP
    rw [pP_Ml h ha hF G n, pM_A]
    congr 1
    exact pM_M h ha (hF n) _
theorem pP_z {F G : Nat → Nat} : ∀ n, (∀ b, b < n → F b = 0) → pP Φ n F G = p0
  | 0, _ => rfl
  | n + 1, h => by unfold pP; rw [pP_z n (fun b hb => h b (by omega)), h n (by omega), pM_z, pA_0]
/-- the products don't depend on how many zeros are looked at -/
theorem pP_ge {F G : Nat → Nat} {n : Nat} (h : dle F n) : ∀ k, n ≤ k → pP Φ k F G = pP Φ n F G
  | 0, hk => by rw [Nat.le_zero.mp hk]
  | k + 1, hk => by
    by_cases hq : n = k + 1
    · rw [hq]
    · show pA (pP Φ k F G) (pM Φ (F k) (pSi Φ k G)) = _
      rw [pP_ge h k (by omega), h k (by omega), pM_z, pA_0]
theorem pP_congr {F F' G : Nat → Nat} : ∀ n, (∀ b, b < n → F b = F' b) → pP Φ n F G = pP Φ n F' G
  | 0, _ => rfl
  | n + 1, h => by unfold pP; rw [pP_congr n (fun b hb => h b (by omega)), h n (by omega)]
theorem pP_mono (c : Nat) (G : Nat → Nat) (k : Nat) : pP Φ (k + 1) (mono c k) G = pM Φ c (pSi Φ k G) := by
  unfold pP
  rw [pP_z (F := mono c k) k (fun b hb => if_neg (by omega)), p0_A]
  unfold mono
  rw [if_pos rfl]
/-- the letter goes with products: x (F G) = (x F) G -/
theorem pS_P (h : FOK Φ) {F G : Nat → Nat} (hF : inF Φ F) (hG : inF Φ G) {n : Nat} (hd : dle F n) : pS Φ (pP Φ n F G) = pP Φ (n + 1) (pS Φ F) G := by
  have key : ∀ k, pP Φ (k + 1) (pS Φ F) G = pA (pS Φ (pP Φ k F G)) (pM Φ (fs Φ (F k)) (pSi Φ k G)) := by
    intro k
    induction k with
    | zero =>
      unfold pP pP
      rw [pS_0, p0_A, p0_A]
      congr 1
      unfold pS
      rw [if_pos rfl, Nat.zero_xor]
    | succ k ih =>
      rw [show pP Φ (k + 1 + 1) (pS Φ F) G = pA (pP Φ (k + 1) (pS Φ F) G) (pM Φ (pS Φ F (k + 1)) (pSi Φ (k + 1) G)) from rfl, ih]
      rw [show pP Φ (k + 1) F G = pA (pP Φ k F G) (pM Φ (F k) (pSi Φ k G)) from rfl, pS_A h (pP_in h hF k) (pM_in h (hF k) _), pS_M h (hF k) (pSi_in h hG k)]
      have e : pS Φ F (k + 1) = ft Φ (F k) ^^^ fs Φ (F (k + 1)) := by
        unfold pS
        rw [if_neg (by omega), Nat.add_sub_cancel]
      rw [e, pM_x]
      rw [show pSi Φ (k + 1) G = pS Φ (pSi Φ k G) from rfl]
      rw [pA_a, pA_a, pA_a]
      congr 1
      rw [← pA_a, ← pA_a, pA_c (pM Φ (fs Φ (F k)) (pSi Φ k G))]
  rw [key n, hd n (Nat.le_refl _), fs_0, pM_z, pA_0]
theorem pSi_P (h : FOK Φ) {F G : Nat → Nat} (hF : inF Φ F) (hG : inF Φ G) {n : Nat} (hd : dle F n) : ∀ k, pSi Φ k (pP Φ n F G) = pP Φ (n + k) (pSi Φ k F) G
  | 0 => rfl
  | k + 1 => by
    show pS Φ (pSi Φ k (pP Φ n F G)) = pP Φ (n + k + 1) (pS Φ (pSi Φ k F)) G
    rw [pSi_P h hF hG hd k, pS_P h (pSi_in h hF k) hG (pSi_dle hd k)]
/-- products are associative -/
theorem pP_assoc (h : FOK Φ) {F G H : Nat → Nat} (hF : inF Φ F) (hG : inF Φ G) (hH : inF Φ H) {n : Nat} (hd : dle G n) : ∀ k, pP Φ k F (pP Φ n G H) = pP Φ (n + k) (pP Φ k F G) H
  | 0 => by
    show p0 = pP Φ n p0 H
    rw [pP_z (F := p0) n (fun _ _ => rfl)]
  | k + 1 => by
    show pA (pP Φ k F (pP Φ n G H)) (pM Φ (F k) (pSi Φ k (pP Φ n G H))) = pP Φ (n + (k + 1)) (pA (pP Φ k F G) (pM Φ (F k) (pSi Φ k G))) H
    rw [pP_assoc h hF hG hH hd k, pSi_P h hG hH hd k, pP_Al, pP_Ml h (hF k) (pSi_in h hG k)]
    congr 1
    · exact (pP_ge (dle_mono (pP_dle hd k) (by omega)) _ (by omega)).symm
    · exact congrArg _ (pP_ge (pSi_dle hd k) _ (by omega)).symm
end SKEW
