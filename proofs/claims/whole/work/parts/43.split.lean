/-! FACTORINGS in the class -/
def isUi (Φ : gF) (F : pl) (e : Nat) : Nat → Nat → Bool
  | 0, _ => true
  | r + 1, low => !(isDv Φ F (mnc Φ low e)) && isUi Φ F e r (low + 1)
def isUl (Φ : gF) (F : pl) : Nat → Nat → Bool
  | 0, _ => true
  | r + 1, e => isUi Φ F e (2 ^ (Φ.1 * e)) 0 && isUl Φ F r (e + 1)
/-- no monic row of a lesser degree divides -/
def isU (Φ : gF) (F : pl) : Bool := isUl Φ F (sz F - 2) 1
abbrev xS : Type := Int × Nat × (Nat → Int)
def xdn (w : Int) (S : xS) : Bool := decide (w ≠ -1) && decide (w < S.1)
def nml (Φ : gF) (F : pl) : Nat → Nat → Nat
  | 0, a => a
  | j + 1, a => nml Φ F j (a * 2 ^ Φ.1 + F j)
def nmb (Φ : gF) (F : pl) : Nat := nml Φ F (sz F) 0
def chs (Φ : gF) (rec : Nat → pl → xS → xS) (F : pl) (dep : Nat) (G : pl) (num : Nat) (S : xS) : xS := rec (dep + 1) (dvd Φ 0 F G).1 (S.1, S.2.1, fun q => if q = dep then (num : Int) else S.2.2 q)
def inl (Φ : gF) (w : Int) (rec : Nat → pl → xS → xS) (F : pl) (dep e : Nat) : Nat → Nat → Bool × xS → Bool × xS
  | 0, _, x => x
  | r + 1, low, x => if xdn w x.2 = true then x else if (isDv Φ F (mnc Φ low e) && isU Φ (mnc Φ low e)) = true then inl Φ w rec F dep e r (low + 1) (true, chs Φ rec F dep (mnc Φ low e) (2 ^ (Φ.1 * e) + low) x.2) else inl Φ w rec F dep e r (low + 1) x
def oul (Φ : gF) (w : Int) (rec : Nat → pl → xS → xS) (F : pl) (dep : Nat) : Nat → Nat → Bool × xS → Bool × xS
  | 0, _, x => x
  | r + 1, e, x => oul Φ w rec F dep r (e + 1) (inl Φ w rec F dep e (2 ^ (Φ.1 * e)) 0 x)
def srch (Φ : gF) (w : Int) : Nat → Nat → pl → xS → xS
  | 0, _, _, S => S
  | t + 1, dep, F, S => if sz F ≤ 1 then (w32 (S.1 + 1), dep, S.2.2) else if ((oul Φ w (srch Φ w t) F dep (sz F - 2) 1 (false, S)).1 || xdn w (oul Φ w (srch Φ w t) F dep (sz F - 2) 1 (false, S)).2) = true then (oul Φ w (srch Φ w t) F dep (sz F - 2) 1 (false, S)).2 else chs Φ (srch Φ w t) F dep F (nmb Φ F) (oul Φ w (srch Φ w t) F dep (sz F - 2) 1 (false, S)).2
/-- the splitter's numbers -/
def XS (D : jD) (w : Int) (S : xS) : Prop := D 279 5 = w ∧ D 279 6 = S.1 ∧ D 279 7 = (S.2.1 : Int) ∧ ∀ q, q < 7 → D 301 q = S.2.2 q
theorem XS_fr {D D' : jD} {w : Int} {S : xS} (h : XS D w S) (h1 : D' 279 = D 279) (h2 : D' 301 = D 301) : XS D' w S := by
  unfold XS at h ⊢
  rw [h1, h2]; exact h
/-- what a search from a depth on may change -/
def xfr (dep c : Nat) : Prop := c = 279 ∨ c = 281 ∨ c = 283 ∨ c = 285 ∨ c = 301 ∨ (288 + 2 * dep < c ∧ c ≤ 300) ∨ (81 ≤ c ∧ c < 111)
def SrchOK (Φ : gF) (w : Int) (t d : Nat) : Prop := ∀ (ω : jw) (dep : Nat) (F : pl) (S : xS) (D : jD), FT Φ D 76 → XS D w S → PR D (288 + 2 * dep) F → pOK Φ F → 1 ≤ sz F → dep + sz F ≤ 7 → Φ.1 * (sz F - 2) ≤ 12 → sz F ≤ t → ∃ D', Vl d 124 0 [some (.inr (.inr (some 279))), some (.inr (.inr (some 75))), some (.inl (dep : Int)), none, none, none, none, none, none] [] (hp ω D) = some ((0, none), hp ω D') ∧ XS D' w (srch Φ w t dep F S) ∧ ∀ c, ¬ xfr dep c → D' c = D c
section SPL
variable {ω : jw} {D : jD} {d : Nat} {A : aA} {Φ : gF}
theorem isDone_spec {w : Int} {S : xS} (h : XS D w S) : Vl d 125 0 [some (.inr (.inr (some 279)))] [] (hp ω D) = some ((0, some (.inl (if xdn w S = true then 1 else 0))), hp ω D) := by
  unfold xdn
  rw [vX_isDone_0, aGF kX, hD, h.1]
  by_cases h1 : w = -1
  · rw [if_pos h1, vX_isDone_23, vX_isDone_24, decide_eq_false (show ¬ (w ≠ -1) from fun q => q h1)]; rfl
  · rw [if_neg h1, vX_isDone_8, aGF kX, aGF kX, hD, hD, h.1, h.2.1, decide_eq_true h1, Bool.true_and]
    by_cases h2 : w < S.1
    · rw [if_pos h2, vX_isDone_19, vX_isDone_24, decide_eq_true h2]; rfl
    · rw [if_neg h2, vX_isDone_23, vX_isDone_24, decide_eq_false h2]; rfl
theorem pow_sh {m e : Nat} (h : m * e ≤ 12) : jshl 1 (((m * e : Nat)) : Int) = ((2 ^ (m * e) : Nat) : Int) := by
  have h1 : 2 ^ (m * e) ≤ 2 ^ 12 := Nat.pow_le_pow_right (by decide) h
  have := jshl_n (a := 1) (k := m * e) (by omega) (by omega)
  rw [Nat.one_mul] at this
  exact this
theorem isUi_spec {f e : Nat} (hf : isP f) (hfo : f ≠ 282) (f1 : f ≠ 89) (f2 : f ≠ 91) (f3 : f ≠ 95) (he : Φ.1 * e ≤ 12) (he2 : e ≤ 12) {F : pl} (oF : pOK Φ F) (x3 : Int) : ∀ (r low : Nat) (D : jD), low + r = 2 ^ (Φ.1 * e) → FT Φ D 76 → PR D (f + 1) F → ∃ D', (Vl (d + 3) 126 31 [some (.inr (.inr (some 279))), some (.inr (.inr (some 75))), some (.inr (.inr (some f))), some (.inl x3), some (.inl (e : Int)), some (.inl ((2 ^ (Φ.1 * e) : Nat) : Int)), some (.inl (low : Int))] [] (hp ω D) = if isUi Φ F e r low = true then Vl (d + 3) 126 73 [some (.inr (.inr (some 279))), some (.inr (.inr (some 75))), some (.inr (.inr (some f))), some (.inl x3), some (.inl (e : Int)), some (.inl ((2 ^ (Φ.1 * e) : Nat) : Int)), some (.inl ((2 ^ (Φ.1 * e) : Nat) : Int))] [] (hp ω D') else some ((0, some (.inl 0)), hp ω D')) ∧ ∀ q, q ≠ 283 → q ≠ 90 → q ≠ 92 → q ≠ 96 → D' q = D q
  | 0, low, D, hl, hF, RF => by
    refine ⟨D, ?_, fun _ _ _ _ _ => rfl⟩
    rw [vX_isUndivided_31, if_neg (by omega), show low = 2 ^ (Φ.1 * e) by omega]
    rfl
  | r + 1, low, D, hl, hF, RF => by
    have h1 : 2 ^ (Φ.1 * e) ≤ 2 ^ 12 := Nat.pow_le_pow_right (by decide) he
    obtain ⟨D1, D2, q1, q2, R2, g1, g2⟩ := tryMonic (ω := ω) (d := d) (Φ := Φ) (o := 282) hF hf i282 (Or.inr rfl) hfo f1 f2 f3 (show low < 2147483648 by omega) he he2 RF oF
    have st : Vl (d + 3) 126 31 [some (.inr (.inr (some 279))), some (.inr (.inr (some 75))), some (.inr (.inr (some f))), some (.inl x3), some (.inl (e : Int)), some (.inl ((2 ^ (Φ.1 * e) : Nat) : Int)), some (.inl (low : Int))] [] (hp ω D) = Vl (d + 3) 126 62 [some (.inr (.inr (some 279))), some (.inr (.inr (some 75))), some (.inr (.inr (some f))), some (.inl x3), some (.inl (e : Int)), some (.inl ((2 ^ (Φ.1 * e) : Nat) : Int)), some (.inl (low : Int))] [.inl (if isDv Φ F (mnc Φ low e) = true then 1 else 0)] (hp ω D2) := by
      rw [vX_isUndivided_31, if_pos (by omega)]
      simp only [vX_isUndivided_38, aGF (kK tK_75), aGF kX, q75_0, rX_1, q1, aVC, tlS, tlN, aLt, hwD, vX_isUndivided_53, q2]
    rw [st, vX_isUndivided_62]
    unfold isUi
    by_cases hd : isDv Φ F (mnc Φ low e) = true
    · rw [hd, if_pos rfl, if_neg (by decide), vX_isUndivided_65]
      exact ⟨D2, rfl, g2⟩
    · have hd' : isDv Φ F (mnc Φ low e) = false := Bool.eq_false_iff.mpr hd
      rw [hd', if_pos (by decide), vX_isUndivided_67, w32_s (by omega)]
      obtain ⟨D', q3, g3⟩ := isUi_spec hf hfo f1 f2 f3 he he2 oF x3 r (low + 1) D2 (by omega) (FT_congr (fun q _ _ => g2 q (by omega) (by omega) (by omega) (by omega)) hF) (PR_ne (g2 _ (by omega) (by omega) (by omega) (by omega)) RF)
      exact ⟨D', q3, fun q a b c d => by rw [g3 q a b c d, g2 q a b c d]⟩
theorem isUl_spec {f n : Nat} (hf : isP f) (hfo : f ≠ 282) (f1 : f ≠ 89) (f2 : f ≠ 91) (f3 : f ≠ 95) (hn : Φ.1 * (n - 1) ≤ 12) (hn2 : n ≤ 13) (hm : 1 ≤ Φ.1) {F : pl} (oF : pOK Φ F) : ∀ (r e : Nat) (D : jD) (u5 u6 : Option jv), e + r = max n 1 → 1 ≤ e → FT Φ D 76 → PR D (f + 1) F → ∃ D', Vl (d + 3) 126 8 [some (.inr (.inr (some 279))), some (.inr (.inr (some 75))), some (.inr (.inr (some f))), some (.inl (n : Int)), some (.inl (e : Int)), u5, u6] [] (hp ω D) = some ((0, some (.inl (if isUl Φ F r e = true then 1 else 0))), hp ω D') ∧ ∀ q, q ≠ 283 → q ≠ 90 → q ≠ 92 → q ≠ 96 → D' q = D q
  | 0, e, D, u5, u6, he, he1, hF, RF => ⟨D, by rw [vX_isUndivided_8, if_neg (by omega), vX_isUndivided_79]; rfl, fun _ _ _ _ _ => rfl⟩
  | r + 1, e, D, u5, u6, he, he1, hF, RF => by
    have hme : Φ.1 * e ≤ 12 := Nat.le_trans (Nat.mul_le_mul_left _ (by omega)) hn
    have he12 : e ≤ 12 := by omega
    have st : Vl (d + 3) 126 8 [some (.inr (.inr (some 279))), some (.inr (.inr (some 75))), some (.inr (.inr (some f))), some (.inl (n : Int)), some (.inl (e : Int)), u5, u6] [] (hp ω D) = Vl (d + 3) 126 31 [some (.inr (.inr (some 279))), some (.inr (.inr (some 75))), some (.inr (.inr (some f))), some (.inl (n : Int)), some (.inl (e : Int)), some (.inl ((2 ^ (Φ.1 * e) : Nat) : Int)), some (.inl 0)] [] (hp ω D) := by
      rw [vX_isUndivided_8, if_pos (by omega), vX_isUndivided_14, aGF (kK tK_75), q75_0, aGF (kF tF_76), hD, hF.2.1, w32_ml (by omega), pow_sh hme]
    obtain ⟨D1, q1, g1⟩ := isUi_spec (ω := ω) (d := d) hf hfo f1 f2 f3 hme he12 oF (n : Int) (2 ^ (Φ.1 * e)) 0 D (by omega) hF RF
    rw [show ((0 : Nat) : Int) = 0 from rfl] at q1
    rw [st, q1]
    unfold isUl
    by_cases hb : isUi Φ F e (2 ^ (Φ.1 * e)) 0 = true
    · rw [if_pos hb, hb, Bool.true_and, vX_isUndivided_73, w32_s (by omega)]
      obtain ⟨D', q3, g3⟩ := isUl_spec hf hfo f1 f2 f3 hn hn2 hm oF r (e + 1) D1 _ _ (by omega) (by omega) (FT_congr (fun q _ _ => g1 q (by omega) (by omega) (by omega) (by omega)) hF) (PR_ne (g1 _ (by omega) (by omega) (by omega) (by omega)) RF)
      exact ⟨D', q3, fun q a b c d => by rw [g3 q a b c d, g1 q a b c d]⟩
    · rw [if_neg hb, Bool.eq_false_iff.mpr hb]
      exact ⟨D1, rfl, g1⟩
theorem isUndivided_spec {f : Nat} (hf : isP f) (hfo : f ≠ 282) (f1 : f ≠ 89) (f2 : f ≠ 91) (f3 : f ≠ 95) (hF : FT Φ D 76) {F : pl} (RF : PR D (f + 1) F) (oF : pOK Φ F) (h1 : 1 ≤ sz F) (hn : Φ.1 * (sz F - 2) ≤ 12) (hn2 : sz F ≤ 14) : ∃ D', Vl (d + 3) 126 0 [some (.inr (.inr (some 279))), some (.inr (.inr (some 75))), some (.inr (.inr (some f))), none, none, none, none] [] (hp ω D) = some ((0, some (.inl (if isU Φ F = true then 1 else 0))), hp ω D') ∧ ∀ q, q ≠ 283 → q ≠ 90 → q ≠ 92 → q ≠ 96 → D' q = D q := by
  obtain ⟨D', q, g⟩ := isUl_spec (ω := ω) (d := d) (n := sz F - 1) hf hfo f1 f2 f3 (by rw [show sz F - 1 - 1 = sz F - 2 by omega]; exact hn) (by omega) (F_m1 hF.1) oF (sz F - 2) 1 D none none (by omega) (Nat.le_refl _) hF RF
  rw [show ((1 : Nat) : Int) = 1 from rfl] at q
  refine ⟨D', ?_, g⟩
  rw [vX_isUndivided_0, aGF (kP hf), topF hf RF, aVC, tlS, vX_isUndivided_4, show (sz F : Int) - 1 = ((sz F - 1 : Nat) : Int) by omega, q]
  rfl
theorem nml_or {m a b : Nat} (hb : b < 2 ^ m) : a * 2 ^ m ||| b = a * 2 ^ m + b := by
  rw [Nat.mul_comm, ← Nat.two_pow_add_eq_or_of_lt hb]
theorem numberOf_loop {f : Nat} (hf : isP f) (hF : FT Φ D 76) {F : pl} (RF : PR D (f + 1) F) (oF : pOK Φ F) : ∀ (j a k : Nat), j ≤ 17 → a < 2 ^ (Φ.1 * k) → Φ.1 * (k + j) ≤ 30 → Vl (d + 1) 128 7 [some (.inr (.inr (some 76))), some (.inr (.inr (some f))), some (.inl (a : Int)), some (.inl ((j : Int) - 1))] [] (hp ω D) = some ((0, some (.inl (nml Φ F j a : Int))), hp ω D)
  | 0, a, k, _, _, _ => by
    rw [vX_numberOf_7, if_pos (by omega), vX_numberOf_30]; rfl
  | j + 1, a, k, hj, ha, hk => by
    have h8 := F_m8 hF.1
    have hm := F_m1 hF.1
    have hFj := oF.1 j
    have hak : a * 2 ^ Φ.1 + F j < 2 ^ (Φ.1 * (k + 1)) := by
      rw [Nat.mul_succ, Nat.pow_add]
      have : (a + 1) * 2 ^ Φ.1 ≤ 2 ^ (Φ.1 * k) * 2 ^ Φ.1 := Nat.mul_le_mul_right _ ha
      rw [Nat.succ_mul] at this
      omega
    have hkj : Φ.1 * (k + 1) ≤ 30 := Nat.le_trans (Nat.mul_le_mul_left _ (by omega)) hk
    have h30 : 2 ^ (Φ.1 * (k + 1)) ≤ 2 ^ 30 := Nat.pow_le_pow_right (by decide) hkj
    rw [vX_numberOf_7, if_neg (by omega), vX_numberOf_11, aGF (kF tF_76), aGF (kP hf), show ((j + 1 : Nat) : Int) - 1 = (j : Int) by omega, getF hf RF oF.2 (by omega), aVC, tlS, vX_numberOf_22, hD, hF.2.1, jshl_n (by omega) (by omega), jor_n (by omega) (by have := F_256 hF.1; omega), nml_or hFj, show w32 ((j : Int) + (-1)) = (j : Int) - 1 by unfold w32; omega]
    exact numberOf_loop hf hF RF oF j _ (k + 1) (by omega) hak (by rw [show k + 1 + j = k + (j + 1) by omega]; exact hk)
theorem numberOf_spec {f : Nat} (hf : isP f) (hF : FT Φ D 76) {F : pl} (RF : PR D (f + 1) F) (oF : pOK Φ F) (hk : Φ.1 * sz F ≤ 30) : Vl (d + 1) 128 0 [some (.inr (.inr (some 76))), some (.inr (.inr (some f))), none, none] [] (hp ω D) = some ((0, some (.inl (nmb Φ F : Int))), hp ω D) := by
  rw [vX_numberOf_0, aGF (kP hf), topF hf RF, aVC, tlS, vX_numberOf_6]
  exact numberOf_loop (ω := ω) (d := d) hf hF RF oF (sz F) 0 0 (sz_le F) (by rw [Nat.mul_zero]; decide) (by rw [Nat.zero_add]; exact hk)
end SPL
