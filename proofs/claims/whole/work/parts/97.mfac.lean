/-! THE REFERENCE'S SEARCH FOR FACTORINGS -/
def wK (w K : Int) : Prop := (w = -1 ∧ K = 1073741824) ∨ (0 ≤ w ∧ w < 2147483648 ∧ K = w)
def MXS (D : jD) (w K : Int) (dep : Nat) (S : xS) : Prop := D 488 54 = K - S.1 ∧ (∀ q, q < dep → D 524 q = S.2.2 q) ∧ (xdn w S = true → D 488 55 = (S.2.1 : Int) ∧ S.2.1 ≤ 6 ∧ ∀ q, q < S.2.1 → D 524 q = S.2.2 q)
def mfx (c : Nat) : Prop := c = 488 ∨ (497 ≤ c ∧ c ≤ 501) ∨ c = 504 ∨ c = 505 ∨ c = 512 ∨ c = 521 ∨ c = 522 ∨ c = 523 ∨ c = 524
def MFr (D D' : jD) (dep : Nat) : Prop := (∀ q, ¬ mfx q → D' q = D q) ∧ (∀ j, j ≠ 54 → j ≠ 55 → D' 488 j = D 488 j) ∧ ∀ y, y < 17 * (dep + 1) → D' 522 y = D 522 y
def MSO (ρ : jr2) (Φ : gF) (w K : Int) (t d : Nat) : Prop := ∀ (dep : Nat) (F : pl) (S : xS) (D : jD), MF Φ D → PRo D 522 (17 * dep) F → pOK Φ F → 1 ≤ sz F → dep + sz F ≤ 7 → Φ.1 * (sz F - 2) ≤ 12 → sz F ≤ t → MXS D w K dep S → ¬ xdn w S = true → 0 ≤ S.1 → S.1 + ((2 ^ ((Φ.1 + 1) * (sz F - 1)) : Nat) : Int) ≤ 1073741824 → ∃ D', Vl d 273 0 [some (.inr (.inr (some 488))), some (.inl (dep : Int)), none, none, none, none] [] (hp (1, ρ) D) = some ((0, some (.inl ((srch Φ w t dep F S).1 - S.1))), hp (1, ρ) D') ∧ MXS D' w K dep (srch Φ w t dep F S) ∧ S.1 ≤ (srch Φ w t dep F S).1 ∧ (srch Φ w t dep F S).1 ≤ S.1 + ((2 ^ ((Φ.1 + 1) * (sz F - 1)) : Nat) : Int) ∧ MFr D D' dep
section MFAC
variable {ρ : jr2} {D D' D2 : jD} {d : Nat} {Φ : gF} {A : aA} {T : aT} {w K : Int} {t : Nat}
theorem wK_s (h : wK w K) {S : xS} (h2 : S.1 ≤ 1073741824) : (K - S.1 < 0 ↔ xdn w S = true) := by
  unfold xdn
  rw [Bool.and_eq_true, decide_eq_true_eq, decide_eq_true_eq]
  unfold wK at h
  omega
theorem MFr_r (D : jD) (dep : Nat) : MFr D D dep := ⟨fun _ _ => rfl, fun _ _ _ => rfl, fun _ _ => rfl⟩
theorem MFr_t {dep : Nat} (h1 : MFr D D' dep) (h2 : MFr D' D2 dep) : MFr D D2 dep := ⟨fun q hq => (h2.1 q hq).trans (h1.1 q hq), fun j a b => (h2.2.1 j a b).trans (h1.2.1 j a b), fun y hy => (h2.2.2 y hy).trans (h1.2.2 y hy)⟩
theorem MFr_u {dep : Nat} (h : MFr D D' (dep + 1)) : MFr D D' dep := ⟨h.1, h.2.1, fun y hy => h.2.2 y (by omega)⟩
theorem MFr_F {dep : Nat} (h : MFr D D' dep) (hF : MF Φ D) : MF Φ D' := ⟨hF.1, by rw [h.2.1 10 (by decide) (by decide)]; exact hF.2.1, by rw [h.2.1 11 (by decide) (by decide)]; exact hF.2.2.1, by rw [h.2.1 12 (by decide) (by decide)]; exact hF.2.2.2.1, by rw [h.2.1 13 (by decide) (by decide)]; exact hF.2.2.2.2⟩
theorem MFr_P {dep : Nat} (h : MFr D D' dep) {F : pl} (hP : PRo D 522 (17 * dep) F) : PRo D' 522 (17 * dep) F := fun k hk => by rw [h.2.2 _ (by omega)]; exact hP k hk
theorem MXS_cg {dep : Nat} {S : xS} (h : MXS D w K dep S) (h1 : D' 488 = D 488) (h2 : D' 524 = D 524) : MXS D' w K dep S := by
  unfold MXS at h ⊢; rw [h1, h2]; exact h
theorem mchoose (hw : wK w K) (hS : MSO ρ Φ w K t (d + 8)) {dep : Nat} {F G : pl} {S : xS} (hF : MF Φ D) (RF : PRo D 522 (17 * dep) F) (RQ : PR D 504 (dvd Φ 0 F G).1) (RG : PR D 512 G) (oF : pOK Φ F) (oG : pOK Φ G) (g2 : 2 ≤ sz G) (hFG : sz G ≤ sz F) (hdep : dep + sz F ≤ 7) (hm : Φ.1 * (sz F - 2) ≤ 12) (ht : sz F ≤ t + 1) (hX : MXS D w K dep S) (hx : ¬ xdn w S = true) (h0 : 0 ≤ S.1) (hB : S.1 + ((2 ^ ((Φ.1 + 1) * (sz F - sz G)) : Nat) : Int) ≤ 1073741824) {c : Int} (hc0 : 0 ≤ c) (hc1 : c ≤ S.1) (x2 x4 x5 : Int) :
    ∃ D', MFr D D' dep ∧ (isU Φ G = false → Vl (d + 9) 273 157 [some (.inr (.inr (some 488))), some (.inl (dep : Int)), some (.inl x2), some (.inl c), some (.inl x4), some (.inl x5)] [] (hp (1, ρ) D) = Vl (d + 9) 273 236 [some (.inr (.inr (some 488))), some (.inl (dep : Int)), some (.inl x2), some (.inl c), some (.inl x4), some (.inl x5)] [] (hp (1, ρ) D') ∧ MXS D' w K dep S) ∧ (isU Φ G = true → Vl (d + 9) 273 157 [some (.inr (.inr (some 488))), some (.inl (dep : Int)), some (.inl x2), some (.inl c), some (.inl x4), some (.inl x5)] [] (hp (1, ρ) D) = (if xdn w (chs Φ (srch Φ w t) F dep G (nmb Φ G) S) = true then some ((0, some (.inl (c + ((chs Φ (srch Φ w t) F dep G (nmb Φ G) S).1 - S.1)))), hp (1, ρ) D') else Vl (d + 9) 273 236 [some (.inr (.inr (some 488))), some (.inl (dep : Int)), some (.inl x2), some (.inl (c + ((chs Φ (srch Φ w t) F dep G (nmb Φ G) S).1 - S.1))), some (.inl x4), some (.inl x5)] [] (hp (1, ρ) D')) ∧ MXS D' w K dep (chs Φ (srch Φ w t) F dep G (nmb Φ G) S) ∧ S.1 ≤ (chs Φ (srch Φ w t) F dep G (nmb Φ G) S).1 ∧ (chs Φ (srch Φ w t) F dep G (nmb Φ G) S).1 ≤ S.1 + ((2 ^ ((Φ.1 + 1) * (sz F - sz G)) : Nat) : Int)) := by
  have hO := hF.1
  have m8 := F_m8 hO
  obtain ⟨z1, z2, oQ⟩ := dvd_nz hO (side := 0) oF oG (by omega) hFG
  have q1 := mcopy (d := d + 8) (ρ := ρ) (D := D) (a := 0) (b := 17 * dep + 17) m504 m522 (by decide) (by omega) (by decide) (Or.inl (by decide)) (PRo_0 RQ)
  obtain ⟨D1, hD1⟩ : ∃ D1, D1 = pOn D 522 (17 * dep + 17) 17 (rI (dvd Φ 0 F G).1) := ⟨_, rfl⟩
  rw [← hD1] at q1
  have q2 := mcpy (d := d + 8) (ρ := ρ) (D := D1) m512 m523 (by decide) (by decide) (by decide) (by decide) (PR_ne (by rw [hD1, pOn_far (by decide)]) RG)
  obtain ⟨D3, hD3⟩ : ∃ D3, D3 = pD D1 523 (rI G) := ⟨_, rfl⟩
  rw [← hD3] at q2
  have f3 : ∀ q, q ≠ 522 → q ≠ 523 → D3 q = D q := fun q a b => by rw [hD3, pD_ne b, hD1, pOn_far a]
  have hz : Φ.1 * (sz G - 2) ≤ Φ.1 * (sz F - 2) := Nat.mul_le_mul_left _ (by omega)
  obtain ⟨D4, q4, f4⟩ := misW (d := d) (ρ := ρ) (D := D3) (MF_cg hF (f3 488 (by decide) (by decide))) (F := G) (by rw [hD3]; exact pD_PR) oG (by omega) (by omega)
  have r4 : MFr D D4 dep := by
    refine ⟨fun q hq => ?_, fun j _ _ => by rw [f4 488 (by decide) (by decide) (by decide) (by decide), f3 488 (by decide) (by decide)], fun y hy => ?_⟩
    · unfold mfx at hq
      rw [f4 q (by omega) (by omega) (by omega) (by omega), f3 q (by omega) (by omega)]
    · rw [f4 522 (by decide) (by decide) (by decide) (by decide), hD3, pD_ne (by decide), hD1, pOn_ne (Or.inr (by omega))]
  have x4' : MXS D4 w K dep S := MXS_cg hX (by rw [f4 488 (by decide) (by decide) (by decide) (by decide), f3 488 (by decide) (by decide)]) (by rw [f4 524 (by decide) (by decide) (by decide) (by decide), f3 524 (by decide) (by decide)])
  have st : Vl (d + 9) 273 157 [some (.inr (.inr (some 488))), some (.inl (dep : Int)), some (.inl x2), some (.inl c), some (.inl x4), some (.inl x5)] [] (hp (1, ρ) D) = if isU Φ G = true then Vl (d + 9) 273 203 [some (.inr (.inr (some 488))), some (.inl (dep : Int)), some (.inl x2), some (.inl c), some (.inl x4), some (.inl x5)] [] (hp (1, ρ) D4) else Vl (d + 9) 273 236 [some (.inr (.inr (some 488))), some (.inl (dep : Int)), some (.inl x2), some (.inl c), some (.inl x4), some (.inl x5)] [] (hp (1, ρ) D4) := by
    rw [show ((0 : Nat) : Int) = 0 from rfl] at q1
    rw [vM_factorAt_157]
    simp only [mGF m488, mr21, mr51]
    rw [show w32 (w32 (17 * (dep : Int)) + 17) = ((17 * dep + 17 : Nat) : Int) from by
      rw [w32_i (x := 17 * (dep : Int)) (by omega) (by omega), w32_i (by omega) (by omega)]; omega, q1, aVC, tlN, vM_factorAt_176]
    simp only [mGF m488, mr29, mr52]
    rw [q2, aVC, tlN, vM_factorAt_189]
    simp only [mGF m488, mr52]
    rw [q4, aVC, tlS, vM_factorAt_197]
    cases hU : isU Φ G with
    | true => rw [if_pos rfl, if_neg j10, if_pos rfl]
    | false => rw [if_neg (show ¬ (false = true) by decide), if_pos j00, vM_factorAt_200, if_neg (show ¬ (false = true) by decide)]
  cases hU : isU Φ G with
  | false =>
    rw [hU, if_neg (show ¬ (false = true) by decide)] at st
    exact ⟨D4, r4, fun _ => ⟨st, x4'⟩, fun z => by cases z⟩
  | true =>
    rw [hU, if_pos rfl] at st
    have hz2 : Φ.1 * sz G ≤ Φ.1 * ((sz F - 2) + 2) := Nat.mul_le_mul_left _ (by omega)
    rw [Nat.mul_add] at hz2
    have hF4 : MF Φ D4 := MFr_F r4 hF
    have q5 := mnumber (d := d + 7) (ρ := ρ) (D := D4) hF4 m523 (PR_ne (f4 523 (by decide) (by decide) (by decide) (by decide)) (by rw [hD3]; exact pD_PR)) oG.1 (by omega)
    obtain ⟨E, hE⟩ : ∃ E, E = sD D4 524 dep (nmb Φ G : Int) := ⟨_, rfl⟩
    have hFE : MF Φ E := MF_cg hF4 (by rw [hE, sD_ne (by decide)])
    have hpw : (2 : Nat) ^ ((Φ.1 + 1) * (sz (dvd Φ 0 F G).1 - 1)) ≤ 2 ^ ((Φ.1 + 1) * (sz F - sz G)) := Nat.pow_le_pow_right (by decide) (Nat.mul_le_mul_left _ (by omega))
    have hmq : Φ.1 * (sz (dvd Φ 0 F G).1 - 2) ≤ Φ.1 * (sz F - 2) := Nat.mul_le_mul_left _ (by omega)
    have ech : chs Φ (srch Φ w t) F dep G (nmb Φ G) S = srch Φ w t (dep + 1) (dvd Φ 0 F G).1 (S.1, S.2.1, fun q => if q = dep then (nmb Φ G : Int) else S.2.2 q) := rfl
    obtain ⟨D5, q6, x6, l6, b6, r6⟩ := hS (dep + 1) (dvd Φ 0 F G).1 (S.1, S.2.1, fun q => if q = dep then (nmb Φ G : Int) else S.2.2 q) E hFE (fun k hk => by
      rw [hE, sD_ne (by decide), f4 522 (by decide) (by decide) (by decide) (by decide), hD3, pD_ne (by decide), hD1, show 17 * (dep + 1) + k = 17 * dep + 17 + k by omega, pOn_in hk]; rfl) oQ (by omega) (by omega) (by omega) (by omega) ⟨by
        show E 488 54 = K - S.1
        rw [hE, sD_ne (by decide)]; exact x4'.1, fun q hq => by
        show E 524 q = if q = dep then (nmb Φ G : Int) else S.2.2 q
        by_cases e : q = dep
        · rw [if_pos e, hE, e, sD_eq]
        · rw [if_neg e, hE, sD_nb e]; exact x4'.2.1 q (by omega), fun z => absurd z hx⟩ hx h0 (by
        show S.1 + _ ≤ _
        omega)
    rw [← ech] at q6 x6 l6 b6
    have l6' : S.1 ≤ (chs Φ (srch Φ w t) F dep G (nmb Φ G) S).1 := l6
    have b6' : (chs Φ (srch Φ w t) F dep G (nmb Φ G) S).1 ≤ S.1 + ((2 ^ ((Φ.1 + 1) * (sz (dvd Φ 0 F G).1 - 1)) : Nat) : Int) := b6
    have rE : MFr D4 E dep := ⟨fun q hq => by rw [hE, sD_ne (by unfold mfx at hq; omega)], fun j _ _ => by rw [hE, sD_ne (by decide)], fun y _ => by rw [hE, sD_ne (by decide)]⟩
    generalize hS' : chs Φ (srch Φ w t) F dep G (nmb Φ G) S = S' at q6 x6 l6' b6' ⊢
    have e54 : D5 488 54 = K - S'.1 := x6.1
    have hst := wK_s hw (S := S') (by omega)
    refine ⟨D5, MFr_t r4 (MFr_t rE (MFr_u r6)), (fun z => by cases z), fun _ => ⟨?_, ⟨e54, fun q hq => x6.2.1 q (by omega), x6.2.2⟩, l6', by omega⟩⟩
    have eC : w32 (c + (S'.1 - S.1)) = c + (S'.1 - S.1) := w32_i (by omega) (by omega)
    have q6' : Vl (d + 8) 273 0 [some (.inr (.inr (some 488))), some (.inl ((dep + 1 : Nat) : Int)), none, none, none, none] [] (hp (1, ρ) E) = some ((0, some (.inl (S'.1 - S.1))), hp (1, ρ) D5) := q6
    rw [st, vM_factorAt_203]
    simp only [mGF m488, mr52, mr53]
    rw [q5, aVC, tlS, vM_factorAt_216, mIS m524, if_pos (by omega), Int.toNat_natCast, ← hE, mGF m488, w32_s (by omega), q6', aVC, tlS, vM_factorAt_225, mGF m488, hD, e54, eC]
    by_cases hs : xdn w S' = true
    · rw [if_pos (hst.mpr hs), vM_factorAt_234, if_pos hs]
    · rw [if_neg (fun z => hs (hst.mp z)), if_neg hs]
theorem minner (hw : wK w K) (hS : MSO ρ Φ w K t (d + 8)) {dep e : Nat} {F : pl} (oF : pOK Φ F) (he1 : 1 ≤ e) (he : e + 2 ≤ sz F) (hdep : dep + sz F ≤ 7) (hm : Φ.1 * (sz F - 2) ≤ 12) (ht : sz F ≤ t + 1) {S0 : Int} (hS0 : 0 ≤ S0) : ∀ (r low : Nat) (x : Bool × xS) (D : jD), low + r = 2 ^ (Φ.1 * e) → MF Φ D → PRo D 522 (17 * dep) F → MXS D w K dep x.2 → ¬ xdn w x.2 = true → S0 ≤ x.2.1 → x.2.1 + ((r * 2 ^ ((Φ.1 + 1) * (sz F - (e + 1))) : Nat) : Int) ≤ 1073741824 →
    ∃ D', Vl (d + 9) 273 67 [some (.inr (.inr (some 488))), some (.inl (dep : Int)), some (.inl ((sz F : Int) - 1)), some (.inl (x.2.1 - S0)), some (.inl (e : Int)), some (.inl (low : Int))] [] (hp (1, ρ) D) = (if xdn w (inl Φ w (srch Φ w t) F dep e r low x).2 = true then some ((0, some (.inl ((inl Φ w (srch Φ w t) F dep e r low x).2.1 - S0))), hp (1, ρ) D') else Vl (d + 9) 273 242 [some (.inr (.inr (some 488))), some (.inl (dep : Int)), some (.inl ((sz F : Int) - 1)), some (.inl ((inl Φ w (srch Φ w t) F dep e r low x).2.1 - S0)), some (.inl (e : Int)), some (.inl ((2 ^ (Φ.1 * e) : Nat) : Int))] [] (hp (1, ρ) D')) ∧ MXS D' w K dep (inl Φ w (srch Φ w t) F dep e r low x).2 ∧ x.2.1 ≤ (inl Φ w (srch Φ w t) F dep e r low x).2.1 ∧ (inl Φ w (srch Φ w t) F dep e r low x).2.1 ≤ x.2.1 + ((r * 2 ^ ((Φ.1 + 1) * (sz F - (e + 1))) : Nat) : Int) ∧ MFr D D' dep
  | 0, low, x, D, hl, hF, RF, hX, hx, hx0, hB => by
    have hO := hF.1
    have h2 : Φ.1 * e ≤ Φ.1 * (sz F - 2) := Nat.mul_le_mul_left _ (by omega)
    obtain rfl : low = 2 ^ (Φ.1 * e) := by omega
    refine ⟨D, ?_, hX, Int.le_refl _, by
      show x.2.1 ≤ _
      omega, MFr_r D dep⟩
    rw [show inl Φ w (srch Φ w t) F dep e 0 (2 ^ (Φ.1 * e)) x = x from rfl, if_neg hx, vM_factorAt_67, if_pos (by omega), vM_factorAt_76, vM_factorAt_82, mGF m488, mmany hF, aVC, tlS, vM_factorAt_85, myN_n hO (by omega), if_neg (by omega)]
  | r + 1, low, x, D, hl, hF, RF, hX, hx, hx0, hB => by
    have hO := hF.1
    have m1 := F_m1 hO
    have h2 : Φ.1 * e ≤ Φ.1 * (sz F - 2) := Nat.mul_le_mul_left _ (by omega)
    have h3 : 1 * e ≤ Φ.1 * e := Nat.mul_le_mul_right e m1
    have p1 : 2 ^ (Φ.1 * e) ≤ 2 ^ 12 := Nat.pow_le_pow_right (by decide) (by omega)
    obtain ⟨oG, sG⟩ := mnc_OK hO low (show e < 17 by omega)
    rw [Nat.succ_mul] at hB
    have q1 := mcopy (d := d + 8) (ρ := ρ) (D := D) (a := 17 * dep) (b := 0) m522 m523 (by omega) (by decide) (by decide) (Or.inl (by decide)) RF
    rw [pOn_pD] at q1
    have hF1 : MF Φ (pD D 523 (rI F)) := MF_cg hF (pD_ne (by decide))
    have q2 := mlayM (d := d + 7) (ρ := ρ) (D := pD D 523 (rI F)) hF1 m512 (by decide) (low := low) (n := e) (by omega) (by omega)
    have hF2 : MF Φ (pD (pD D 523 (rI F)) 512 (rI (mnc Φ low e))) := MF_cg hF1 (pD_ne (by decide))
    obtain ⟨D3, q3, r3, f3⟩ := mdivR (d := d + 1) (ρ := ρ) hF2 (cf := 523) (cg := 512) ⟨m523, by decide, by decide⟩ ⟨m512, by decide, by decide⟩ (by decide) (by decide) (by decide) (PR_ne (pD_ne (by decide)) pD_PR) pD_PR oF oG (by omega)
    have g3 : ∀ q, (q < 497 ∨ 501 < q) → q ≠ 504 → q ≠ 505 → q ≠ 512 → q ≠ 523 → D3 q = D q := fun q a b c e f => by rw [f3 q a b c, pD_ne e, pD_ne f]
    have r3' : MFr D D3 dep := ⟨fun q hq => by unfold mfx at hq; exact g3 q (by omega) (by omega) (by omega) (by omega) (by omega), fun j _ _ => by rw [g3 488 (by decide) (by decide) (by decide) (by decide) (by decide)], fun y _ => by rw [g3 522 (by decide) (by decide) (by decide) (by decide) (by decide)]⟩
    have x3' : MXS D3 w K dep x.2 := MXS_cg hX (g3 488 (by decide) (by decide) (by decide) (by decide) (by decide)) (g3 524 (by decide) (by decide) (by decide) (by decide) (by decide))
    have st : Vl (d + 9) 273 67 [some (.inr (.inr (some 488))), some (.inl (dep : Int)), some (.inl ((sz F : Int) - 1)), some (.inl (x.2.1 - S0)), some (.inl (e : Int)), some (.inl (low : Int))] [] (hp (1, ρ) D) = if isDv Φ F (mnc Φ low e) = true then Vl (d + 9) 273 157 [some (.inr (.inr (some 488))), some (.inl (dep : Int)), some (.inl ((sz F : Int) - 1)), some (.inl (x.2.1 - S0)), some (.inl (e : Int)), some (.inl (low : Int))] [] (hp (1, ρ) D3) else Vl (d + 9) 273 236 [some (.inr (.inr (some 488))), some (.inl (dep : Int)), some (.inl ((sz F : Int) - 1)), some (.inl (x.2.1 - S0)), some (.inl (e : Int)), some (.inl (low : Int))] [] (hp (1, ρ) D3) := by
      rw [show ((0 : Nat) : Int) = 0 from rfl] at q1
      rw [vM_factorAt_67, if_pos (by omega), vM_factorAt_76, vM_factorAt_82, mGF m488, mmany hF, aVC, tlS, vM_factorAt_85, myN_n hO (by omega), if_pos (by omega), vM_factorAt_88]
      simp only [mGF m488, mr51, mr52]
      rw [show w32 (17 * (dep : Int)) = ((17 * dep : Nat) : Int) from by rw [w32_i (by omega) (by omega)]; omega, q1, aVC, tlN, vM_factorAt_104, if_pos (by omega), vM_factorAt_110]
      simp only [mGF m488, mr29]
      rw [q2, aVC, tlN, vM_factorAt_123, vM_factorAt_139]
      simp only [mGF m488, mr29, mr52]
      rw [q3, aVC, tlS, vM_factorAt_151]
      cases hd : isDv Φ F (mnc Φ low e) with
      | true => rw [if_pos rfl, if_neg j10, if_pos rfl]
      | false => rw [if_neg (show ¬ (false = true) by decide), if_pos j00, vM_factorAt_154, if_neg (show ¬ (false = true) by decide)]
    have hpos : 0 < 2 ^ ((Φ.1 + 1) * (sz F - (e + 1))) := Nat.two_pow_pos _
    have skip : ∀ D4, MFr D D4 dep → MXS D4 w K dep x.2 → ∃ D', Vl (d + 9) 273 236 [some (.inr (.inr (some 488))), some (.inl (dep : Int)), some (.inl ((sz F : Int) - 1)), some (.inl (x.2.1 - S0)), some (.inl (e : Int)), some (.inl (low : Int))] [] (hp (1, ρ) D4) = (if xdn w (inl Φ w (srch Φ w t) F dep e r (low + 1) x).2 = true then some ((0, some (.inl ((inl Φ w (srch Φ w t) F dep e r (low + 1) x).2.1 - S0))), hp (1, ρ) D') else Vl (d + 9) 273 242 [some (.inr (.inr (some 488))), some (.inl (dep : Int)), some (.inl ((sz F : Int) - 1)), some (.inl ((inl Φ w (srch Φ w t) F dep e r (low + 1) x).2.1 - S0)), some (.inl (e : Int)), some (.inl ((2 ^ (Φ.1 * e) : Nat) : Int))] [] (hp (1, ρ) D')) ∧ MXS D' w K dep (inl Φ w (srch Φ w t) F dep e r (low + 1) x).2 ∧ x.2.1 ≤ (inl Φ w (srch Φ w t) F dep e r (low + 1) x).2.1 ∧ (inl Φ w (srch Φ w t) F dep e r (low + 1) x).2.1 ≤ x.2.1 + ((r * 2 ^ ((Φ.1 + 1) * (sz F - (e + 1))) : Nat) : Int) ∧ MFr D D' dep := fun D4 r4 x4 => by
      obtain ⟨D5, q5, x5, l5, b5, r5⟩ := minner hw hS oF he1 he hdep hm ht hS0 r (low + 1) x D4 (by omega) (MFr_F r4 hF) (MFr_P r4 RF) x4 hx hx0 (by omega)
      exact ⟨D5, by rw [vM_factorAt_236, w32_s (by omega), q5], x5, l5, b5, MFr_t r4 r5⟩
    rw [Nat.succ_mul]
    have eb : ∀ a : Int, a ≤ x.2.1 + ((r * 2 ^ ((Φ.1 + 1) * (sz F - (e + 1))) : Nat) : Int) → a ≤ x.2.1 + ((r * 2 ^ ((Φ.1 + 1) * (sz F - (e + 1))) + 2 ^ ((Φ.1 + 1) * (sz F - (e + 1))) : Nat) : Int) := fun a ha => by omega
    have ein : inl Φ w (srch Φ w t) F dep e (r + 1) low x = if (isDv Φ F (mnc Φ low e) && isU Φ (mnc Φ low e)) = true then inl Φ w (srch Φ w t) F dep e r (low + 1) (true, chs Φ (srch Φ w t) F dep (mnc Φ low e) (2 ^ (Φ.1 * e) + low) x.2) else inl Φ w (srch Φ w t) F dep e r (low + 1) x := by
      show (if xdn w x.2 = true then x else _) = _
      rw [if_neg hx]
    rw [ein, st]
    by_cases hd : isDv Φ F (mnc Φ low e) = true
    rotate_left
    · obtain ⟨D5, q5, x5, l5, b5, r5⟩ := skip D3 r3' x3'
      rw [if_neg hd, if_neg (fun z => hd (by rw [Bool.and_eq_true] at z; exact z.1))]
      exact ⟨D5, q5, x5, l5, eb _ b5, r5⟩
    have hsG : sz (mnc Φ low e) ≤ sz F := by omega
    have hsub : sz F - sz (mnc Φ low e) = sz F - (e + 1) := by omega
    obtain ⟨D4, r4, no, yes⟩ := mchoose (d := d) (ρ := ρ) (S := x.2) hw hS (MFr_F r3' hF) (MFr_P r3' RF) r3 (PR_ne (f3 512 (by decide) (by decide) (by decide)) pD_PR) oF oG (by omega) hsG hdep hm ht x3' hx (by omega) (by rw [hsub]; omega) (c := x.2.1 - S0) (by omega) (by omega) ((sz F : Int) - 1) (e : Int) (low : Int)
    rw [if_pos hd]
    cases hU : isU Φ (mnc Φ low e) with
    | false =>
      obtain ⟨q4, x4⟩ := no hU
      obtain ⟨D5, q5, x5, l5, b5, r5⟩ := skip D4 (MFr_t r3' r4) x4
      rw [if_neg (show ¬ ((isDv Φ F (mnc Φ low e) && false) = true) by rw [Bool.and_false]; decide), q4]
      exact ⟨D5, q5, x5, l5, eb _ b5, r5⟩
    | true =>
      obtain ⟨q4, x4, l4, b4⟩ := yes hU
      rw [hsub] at b4
      rw [nmb_mnc hO (show e < 17 by omega) (show low < 2 ^ (Φ.1 * e) by omega)] at q4 x4 l4 b4
      rw [if_pos (show (isDv Φ F (mnc Φ low e) && true) = true by rw [hd]; rfl), q4]
      generalize hS' : chs Φ (srch Φ w t) F dep (mnc Φ low e) (2 ^ (Φ.1 * e) + low) x.2 = S' at x4 l4 b4 ⊢
      have ec : x.2.1 - S0 + (S'.1 - x.2.1) = S'.1 - S0 := by omega
      rw [ec]
      by_cases hs : xdn w S' = true
      · rw [if_pos hs, inl_stop (x := (true, S')) hs]
        exact ⟨D4, by rw [if_pos hs], x4, l4, by
          show S'.1 ≤ _
          omega, MFr_t r3' r4⟩
      · have r34 := MFr_t r3' r4
        obtain ⟨D5, q5, x5, l5, b5, r5⟩ := minner hw hS oF he1 he hdep hm ht hS0 r (low + 1) (true, S') D4 (by omega) (MFr_F r34 hF) (MFr_P r34 RF) x4 hs (by
          show S0 ≤ S'.1
          omega) (by
          show S'.1 + _ ≤ _
          omega)
        have l5' : S'.1 ≤ (inl Φ w (srch Φ w t) F dep e r (low + 1) (true, S')).2.1 := l5
        have b5' : (inl Φ w (srch Φ w t) F dep e r (low + 1) (true, S')).2.1 ≤ S'.1 + ((r * 2 ^ ((Φ.1 + 1) * (sz F - (e + 1))) : Nat) : Int) := b5
        refine ⟨D5, ?_, x5, by omega, by omega, MFr_t r34 r5⟩
        rw [if_neg hs, vM_factorAt_236, w32_s (by omega)]
        exact q5
end MFAC
