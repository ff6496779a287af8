/-! THE REFERENCE'S FACTORINGS -/
section MFAC2
variable {ρ : jr2} {D D' D2 : jD} {d : Nat} {Φ : gF} {A : aA} {T : aT} {w K : Int} {t : Nat}
theorem mouter (hw : wK w K) (hS : MSO ρ Φ w K t (d + 8)) {dep : Nat} {F : pl} (oF : pOK Φ F) (h2F : 2 ≤ sz F) (hdep : dep + sz F ≤ 7) (hm : Φ.1 * (sz F - 2) ≤ 12) (ht : sz F ≤ t + 1) {S0 : Int} (hS0 : 0 ≤ S0) (hB0 : S0 + ((2 ^ ((Φ.1 + 1) * (sz F - 1)) : Nat) : Int) ≤ 1073741824) : ∀ (r e : Nat) (x : Bool × xS) (D : jD) (u5 : Option jv), e + r = sz F - 1 → 1 ≤ e → MF Φ D → PRo D 522 (17 * dep) F → MXS D w K dep x.2 → ¬ xdn w x.2 = true → S0 ≤ x.2.1 → x.2.1 + ((2 ^ ((Φ.1 + 1) * (sz F - 1) - (e - 1)) : Nat) : Int) ≤ S0 + ((2 ^ ((Φ.1 + 1) * (sz F - 1)) : Nat) : Int) →
    ∃ D' v5, Vl (d + 9) 273 58 [some (.inr (.inr (some 488))), some (.inl (dep : Int)), some (.inl ((sz F : Int) - 1)), some (.inl (x.2.1 - S0)), some (.inl (e : Int)), u5] [] (hp (1, ρ) D) = (if xdn w (oul Φ w (srch Φ w t) F dep r e x).2 = true then some ((0, some (.inl ((oul Φ w (srch Φ w t) F dep r e x).2.1 - S0))), hp (1, ρ) D') else Vl (d + 9) 273 58 [some (.inr (.inr (some 488))), some (.inl (dep : Int)), some (.inl ((sz F : Int) - 1)), some (.inl ((oul Φ w (srch Φ w t) F dep r e x).2.1 - S0)), some (.inl ((sz F : Int) - 1)), v5] [] (hp (1, ρ) D')) ∧ MXS D' w K dep (oul Φ w (srch Φ w t) F dep r e x).2 ∧ x.2.1 ≤ (oul Φ w (srch Φ w t) F dep r e x).2.1 ∧ (oul Φ w (srch Φ w t) F dep r e x).2.1 + 1 ≤ S0 + ((2 ^ ((Φ.1 + 1) * (sz F - 1)) : Nat) : Int) ∧ MFr D D' dep
  | 0, e, x, D, u5, he, h1, hF, RF, hX, hx, hx0, hB => by
    have hp := Nat.two_pow_pos ((Φ.1 + 1) * (sz F - 1) - (e - 1))
    refine ⟨D, u5, ?_, hX, Int.le_refl _, by
      show x.2.1 + 1 ≤ _
      omega, MFr_r D dep⟩
    rw [show oul Φ w (srch Φ w t) F dep 0 e x = x from rfl, if_neg hx, show ((sz F : Int) - 1) = (e : Int) by omega]
  | r + 1, e, x, D, u5, he, h1, hF, RF, hX, hx, hx0, hB => by
    have hO := hF.1
    have m1 := F_m1 hO
    obtain ⟨k, hk⟩ : ∃ k, sz F = e + 1 + k := ⟨sz F - (e + 1), by omega⟩
    have ek : sz F - (e + 1) = k := by omega
    have e1 : (Φ.1 + 1) * (sz F - 1) = Φ.1 * e + (Φ.1 + 1) * k + e := by
      rw [show sz F - 1 = e + k by omega, Nat.mul_add, Nat.succ_mul]; omega
    have e2 : (Φ.1 + 1) * (sz F - 1) - (e - 1) = Φ.1 * e + (Φ.1 + 1) * k + 1 := by omega
    have e3 : (Φ.1 + 1) * (sz F - 1) - (e + 1 - 1) = Φ.1 * e + (Φ.1 + 1) * k := by omega
    have e4 : 2 ^ (Φ.1 * e) * 2 ^ ((Φ.1 + 1) * k) = 2 ^ (Φ.1 * e + (Φ.1 + 1) * k) := (Nat.pow_add _ _ _).symm
    have e5 : (2 : Nat) ^ (Φ.1 * e + (Φ.1 + 1) * k + 1) = 2 ^ (Φ.1 * e + (Φ.1 + 1) * k) * 2 := Nat.pow_succ _ _
    rw [e2, e5] at hB
    obtain ⟨D1, q1, x1, l1, b1, r1⟩ := minner (d := d) (ρ := ρ) hw hS oF h1 (show e + 2 ≤ sz F by omega) hdep hm ht hS0 (2 ^ (Φ.1 * e)) 0 x D (Nat.zero_add _) hF RF hX hx hx0 (by rw [ek, e4]; omega)
    rw [show ((0 : Nat) : Int) = 0 from rfl] at q1
    rw [ek, e4] at b1
    rw [vM_factorAt_58, if_neg (by omega), vM_factorAt_64, q1]
    have eo : oul Φ w (srch Φ w t) F dep (r + 1) e x = oul Φ w (srch Φ w t) F dep r (e + 1) (inl Φ w (srch Φ w t) F dep e (2 ^ (Φ.1 * e)) 0 x) := rfl
    rw [eo]
    generalize hy : inl Φ w (srch Φ w t) F dep e (2 ^ (Φ.1 * e)) 0 x = y at x1 l1 b1 ⊢
    have hpp := Nat.two_pow_pos (Φ.1 * e + (Φ.1 + 1) * k)
    by_cases hs : xdn w y.2 = true
    · rw [oul_stop hs, if_pos hs]
      exact ⟨D1, none, by rw [if_pos hs], x1, l1, by omega, r1⟩
    · obtain ⟨D2, v5, q2, x2, l2, b2, r2⟩ := mouter hw hS oF h2F hdep hm ht hS0 hB0 r (e + 1) y D1 (some (.inl ((2 ^ (Φ.1 * e) : Nat) : Int))) (by omega) (by omega) (MFr_F r1 hF) (MFr_P r1 RF) x1 hs (by omega) (by rw [e3]; omega)
      refine ⟨D2, v5, ?_, x2, by omega, b2, MFr_t r1 r2⟩
      rw [if_neg hs, vM_factorAt_242, w32_s (by omega), q2]
theorem msearch_step (hw : wK w K) (hS : MSO ρ Φ w K t (d + 8)) : MSO ρ Φ w K (t + 1) (d + 9) := by
  intro dep F S D hF RF oF h1 hdep hm ht hX hx h0 hB
  have hO := hF.1
  have q1 := mcopy (d := d + 8) (ρ := ρ) (D := D) (a := 17 * dep) (b := 0) m522 m523 (by omega) (by decide) (by decide) (Or.inl (by decide)) RF
  rw [pOn_pD, show ((0 : Nat) : Int) = 0 from rfl] at q1
  have f1 : ∀ q, q ≠ 523 → pD D 523 (rI F) q = D q := fun q hq => pD_ne hq
  have hF1 : MF Φ (pD D 523 (rI F)) := MF_cg hF (f1 488 (by decide))
  have q2 := mdeg (d := d + 8) (ρ := ρ) (D := pD D 523 (rI F)) m523 (by decide) pD_PR
  have r1 : MFr D (pD D 523 (rI F)) dep := ⟨fun q hq => f1 q (by unfold mfx at hq; omega), fun j _ _ => by rw [f1 488 (by decide)], fun y _ => by rw [f1 522 (by decide)]⟩
  have x1 : MXS (pD D 523 (rI F)) w K dep S := MXS_cg hX (f1 488 (by decide)) (f1 524 (by decide))
  have hpp0 := Nat.two_pow_pos ((Φ.1 + 1) * (sz F - 1))
  have eix : w32 (17 * (dep : Int)) = ((17 * dep : Nat) : Int) := by rw [w32_i (by omega) (by omega)]; omega
  rw [vM_factorAt_0]
  simp only [mGF m488, mr51, mr52]
  rw [eix, q1, aVC, tlN, vM_factorAt_16]
  simp only [mGF m488, mr52]
  rw [q2, aVC, tlS, vM_factorAt_23]
  obtain ⟨E, hE⟩ : ∃ E, E = pD D 523 (rI F) := ⟨_, rfl⟩
  rw [← hE] at r1 x1 hF1 ⊢
  clear q1 q2 f1
  by_cases h2 : sz F ≤ 1
  · have es : srch Φ w (t + 1) dep F S = (w32 (S.1 + 1), dep, S.2.2) := by
      show (if sz F ≤ 1 then _ else _) = _
      rw [if_pos h2]
    rw [es, w32_i (by omega) (by omega)]
    have e54 : E 488 54 = K - S.1 := x1.1
    have hst := wK_s hw (S := S) (by omega)
    have hst2 := wK_s hw (S := (S.1 + 1, dep, S.2.2)) (by
      show S.1 + 1 ≤ _
      omega)
    have hnn : ¬ K - S.1 < 0 := fun z => hx (hst.mp z)
    have hKb : K - S.1 < 2147483648 := by unfold wK at hw; omega
    rw [if_pos (by omega), vM_factorAt_29, mGF m488, hD, e54]
    by_cases h3 : K - S.1 = 0
    · rw [if_pos h3, vM_factorAt_36, mGF m488, aLt, hwD, vM_factorAt_41, mGF m488, mGF m488, hD]
      have e2 : sD E 488 55 (dep : Int) 488 54 = K - S.1 := by rw [sD_nb (by decide)]; exact e54
      rw [e2, w32_i (by omega) (by omega), aLt, hwD]
      refine ⟨sD (sD E 488 55 (dep : Int)) 488 54 (K - S.1 - 1), ?_, ⟨?_, fun q hq => ?_, fun _ => ⟨?_, ?_, fun q hq => ?_⟩⟩, ?_, ?_, MFr_t r1 ⟨fun q hq => ?_, fun j a b => ?_, fun y _ => ?_⟩⟩
      · rw [show ((S.1 + 1, dep, S.2.2) : xS).1 - S.1 = 1 from by
          show S.1 + 1 - S.1 = 1
          omega]
      · rw [sD_eq]
        show K - S.1 - 1 = K - (S.1 + 1)
        omega
      · rw [sD_ne (by decide), sD_ne (by decide)]; exact x1.2.1 q hq
      · show sD (sD E 488 55 (dep : Int)) 488 54 (K - S.1 - 1) 488 55 = (dep : Int)
        rw [sD_nb (by decide), sD_eq]
      · show dep ≤ 6
        omega
      · rw [sD_ne (by decide), sD_ne (by decide)]; exact x1.2.1 q hq
      · show S.1 ≤ S.1 + 1
        omega
      · show S.1 + 1 ≤ _
        omega
      · unfold mfx at hq
        rw [sD_ne (by omega), sD_ne (by omega)]
      · rw [sD_nb a, sD_nb b]
      · rw [sD_ne (by decide), sD_ne (by decide)]
    · rw [if_neg h3, vM_factorAt_41, mGF m488, mGF m488, hD, e54, w32_i (by omega) (by omega), aLt, hwD]
      refine ⟨sD E 488 54 (K - S.1 - 1), ?_, ⟨?_, fun q hq => ?_, fun z => ?_⟩, ?_, ?_, MFr_t r1 ⟨fun q hq => ?_, fun j a b => ?_, fun y _ => ?_⟩⟩
      · rw [show ((S.1 + 1, dep, S.2.2) : xS).1 - S.1 = 1 from by
          show S.1 + 1 - S.1 = 1
          omega]
      · rw [sD_eq]
        show K - S.1 - 1 = K - (S.1 + 1)
        omega
      · rw [sD_ne (by decide)]; exact x1.2.1 q hq
      · have z2 : K - (S.1 + 1) < 0 := hst2.mpr z
        omega
      · show S.1 ≤ S.1 + 1
        omega
      · show S.1 + 1 ≤ _
        omega
      · unfold mfx at hq
        rw [sD_ne (by omega)]
      · rw [sD_nb a]
      · rw [sD_ne (by decide)]
  · have es : srch Φ w (t + 1) dep F S = if ((oul Φ w (srch Φ w t) F dep (sz F - 2) 1 (false, S)).1 || xdn w (oul Φ w (srch Φ w t) F dep (sz F - 2) 1 (false, S)).2) = true then (oul Φ w (srch Φ w t) F dep (sz F - 2) 1 (false, S)).2 else chs Φ (srch Φ w t) F dep F (nmb Φ F) (oul Φ w (srch Φ w t) F dep (sz F - 2) 1 (false, S)).2 := by
      show (if sz F ≤ 1 then _ else _) = _
      rw [if_neg h2]
    obtain ⟨D3, v5, q3, x3, l3, b3, r3⟩ := mouter (d := d) (ρ := ρ) hw hS oF (by omega) hdep hm (by omega) h0 hB (sz F - 2) 1 (false, S) E none (by omega) (Nat.le_refl 1) hF1 (MFr_P r1 RF) x1 hx (Int.le_refl _) (by rw [Nat.sub_self, Nat.sub_zero]; exact Int.le_refl _)
    have l3' : S.1 ≤ (oul Φ w (srch Φ w t) F dep (sz F - 2) 1 (false, S)).2.1 := l3
    rw [show ((1 : Nat) : Int) = 1 from rfl] at q3
    rw [show ((false, S) : Bool × xS).2.1 - S.1 = 0 from by
      show S.1 - S.1 = 0
      omega] at q3
    rw [es, if_neg (by omega), vM_factorAt_53, q3]
    have hU := fun z => oul_U hO (w := w) (rec := srch Φ w t) (dep := dep) (S := S) oF z
    generalize hy : oul Φ w (srch Φ w t) F dep (sz F - 2) 1 (false, S) = y at x3 l3' b3 hU ⊢
    have r13 := MFr_t r1 r3
    by_cases hs : xdn w y.2 = true
    · rw [if_pos hs, if_pos (show (y.1 || xdn w y.2) = true by rw [hs, Bool.or_true])]
      exact ⟨D3, rfl, x3, l3', by omega, r13⟩
    rw [if_neg hs]
    have hU' := hU hs
    have hsf : xdn w y.2 = false := by
      cases hq : xdn w y.2 with
      | false => rfl
      | true => exact absurd hq hs
    have R3 := MFr_P r13 RF
    have hF3 := MFr_F r13 hF
    have q4 := mcopy (d := d + 8) (ρ := ρ) (D := D3) (a := 17 * dep) (b := 0) m522 m523 (by omega) (by decide) (by decide) (Or.inl (by decide)) R3
    rw [pOn_pD, show ((0 : Nat) : Int) = 0 from rfl] at q4
    have q5 := mcpy (d := d + 8) (ρ := ρ) (D := pD D3 523 (rI F)) m523 m512 (by decide) (by decide) (by decide) (by decide) pD_PR
    have hF4 : MF Φ (pD (pD D3 523 (rI F)) 512 (rI F)) := MF_cg hF3 (by rw [pD_ne (by decide), pD_ne (by decide)])
    obtain ⟨D5, q6, R6, f6⟩ := mdivR (d := d + 1) (ρ := ρ) hF4 (cf := 523) (cg := 512) ⟨m523, by decide, by decide⟩ ⟨m512, by decide, by decide⟩ (by decide) (by decide) (by decide) (PR_ne (pD_ne (by decide)) pD_PR) pD_PR oF oF (by omega)
    have g6 : ∀ q, (q < 497 ∨ 501 < q) → q ≠ 504 → q ≠ 505 → q ≠ 512 → q ≠ 523 → D5 q = D3 q := fun q a b c e f => by rw [f6 q a b c, pD_ne e, pD_ne f]
    have r5 : MFr D3 D5 dep := ⟨fun q hq => by unfold mfx at hq; exact g6 q (by omega) (by omega) (by omega) (by omega) (by omega), fun j _ _ => by rw [g6 488 (by decide) (by decide) (by decide) (by decide) (by decide)], fun y _ => by rw [g6 522 (by decide) (by decide) (by decide) (by decide) (by decide)]⟩
    have x5 : MXS D5 w K dep y.2 := MXS_cg x3 (g6 488 (by decide) (by decide) (by decide) (by decide) (by decide)) (g6 524 (by decide) (by decide) (by decide) (by decide) (by decide))
    obtain ⟨D6, r6, no, yes⟩ := mchoose (d := d) (ρ := ρ) (S := y.2) hw hS (MFr_F r5 hF3) (MFr_P r5 R3) R6 (PR_ne (f6 512 (by decide) (by decide) (by decide)) pD_PR) oF oF (by omega) (Nat.le_refl _) hdep hm (by omega) x5 hs (by omega) (by rw [Nat.sub_self, Nat.mul_zero, Nat.pow_zero]; omega) (c := y.2.1 - S.1) (by omega) (by omega) ((sz F : Int) - 1) ((sz F : Int) - 1) 0
    rw [isDv_s hO oF (by omega), if_pos rfl] at q6
    have st : Vl (d + 9) 273 58 [some (.inr (.inr (some 488))), some (.inl (dep : Int)), some (.inl ((sz F : Int) - 1)), some (.inl (y.2.1 - S.1)), some (.inl ((sz F : Int) - 1)), v5] [] (hp (1, ρ) D3) = Vl (d + 9) 273 157 [some (.inr (.inr (some 488))), some (.inl (dep : Int)), some (.inl ((sz F : Int) - 1)), some (.inl (y.2.1 - S.1)), some (.inl ((sz F : Int) - 1)), some (.inl 0)] [] (hp (1, ρ) D5) := by
      rw [vM_factorAt_58, if_neg (by omega), vM_factorAt_64, vM_factorAt_67, if_neg (by omega), vM_factorAt_81, vM_factorAt_82, mGF m488, mmany hF3, aVC, tlS, vM_factorAt_85, show myN Φ 0 = 1 from by
        have := myN_n hO (n := 0) (by rw [Nat.mul_zero]; decide)
        rw [Nat.mul_zero, show ((0 : Nat) : Int) = 0 from rfl, show ((2 ^ 0 : Nat) : Int) = 1 from rfl] at this
        exact this, if_pos (by decide), vM_factorAt_88]
      simp only [mGF m488, mr51, mr52]
      rw [eix, q4, aVC, tlN, vM_factorAt_104, if_neg (by omega), vM_factorAt_126]
      simp only [mGF m488, mr29, mr52]
      rw [q5, aVC, tlN, vM_factorAt_139]
      simp only [mGF m488, mr29, mr52]
      rw [q6, aVC, tlS, vM_factorAt_151, if_neg j10]
    have fin : ∀ (D7 : jD) (c : Int), MF Φ D7 → Vl (d + 9) 273 236 [some (.inr (.inr (some 488))), some (.inl (dep : Int)), some (.inl ((sz F : Int) - 1)), some (.inl c), some (.inl ((sz F : Int) - 1)), some (.inl 0)] [] (hp (1, ρ) D7) = some ((0, some (.inl c)), hp (1, ρ) D7) := fun D7 c hF7 => by
      rw [vM_factorAt_236, show w32 (0 + 1) = 1 from rfl, vM_factorAt_67, if_neg (by omega), vM_factorAt_81, vM_factorAt_82, mGF m488, mmany hF7, aVC, tlS, vM_factorAt_85, show myN Φ 0 = 1 from by
        have := myN_n hO (n := 0) (by rw [Nat.mul_zero]; decide)
        rw [Nat.mul_zero, show ((0 : Nat) : Int) = 0 from rfl, show ((2 ^ 0 : Nat) : Int) = 1 from rfl] at this
        exact this, if_neg (by decide), vM_factorAt_242, w32_i (by omega) (by omega), vM_factorAt_58, if_pos (by omega), vM_factorAt_248]
    have r36 := MFr_t r13 (MFr_t r5 r6)
    rw [st]
    cases hu : isU Φ F with
    | false =>
      obtain ⟨q7, x7⟩ := no hu
      rw [hu] at hU'
      rw [q7, fin D6 _ (MFr_F r36 hF), if_pos (show (y.1 || xdn w y.2) = true by rw [hU']; rfl)]
      exact ⟨D6, rfl, x7, l3', by omega, r36⟩
    | true =>
      obtain ⟨q7, x7, l7, b7⟩ := yes hu
      rw [hu] at hU'
      rw [Nat.sub_self, Nat.mul_zero, Nat.pow_zero] at b7
      rw [q7, if_neg (show ¬ (y.1 || xdn w y.2) = true by rw [hU', hsf]; decide)]
      generalize hS' : chs Φ (srch Φ w t) F dep F (nmb Φ F) y.2 = S' at x7 l7 b7 ⊢
      have ec : y.2.1 - S.1 + (S'.1 - y.2.1) = S'.1 - S.1 := by omega
      rw [ec, fin D6 _ (MFr_F r36 hF)]
      refine ⟨D6, ?_, x7, by omega, by omega, r36⟩
      by_cases hs2 : xdn w S' = true
      · rw [if_pos hs2]
      · rw [if_neg hs2]
theorem msearch_ok (hw : wK w K) : ∀ t d, MSO ρ Φ w K t (d + t + 8)
  | 0, d => fun dep F S D hF RF oF h1 hdep hm ht => absurd ht (by omega)
  | t + 1, d => by
    have := msearch_step (d := d + t) hw (msearch_ok hw t d)
    rw [show d + (t + 1) + 8 = d + t + 9 by omega]
    exact this
end MFAC2
