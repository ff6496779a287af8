/-! FACTORINGS in the class, the search -/
theorem xfr_up {dep c : Nat} (h : xfr (dep + 1) c) : xfr dep c := by unfold xfr at h ⊢; omega
theorem dvd_nz {Φ : gF} (h : FOK Φ) {side : Nat} {F G : pl} (oF : pOK Φ F) (oG : pOK Φ G) (hG : sz G ≠ 0) (hFG : sz G ≤ sz F) : sz (dvd Φ side F G).1 ≠ 0 ∧ sz (dvd Φ side F G).1 + sz G ≤ sz F + 1 ∧ pOK Φ (dvd Φ side F G).1 := by
  obtain ⟨n, hn⟩ : ∃ n, sz G = n + 1 := ⟨sz G - 1, by omega⟩
  obtain ⟨a1, a2, a3, a4, a5, a6⟩ := dvd_fact h (side := side) oF.1 oG.1 oF.2 oG.2 hn
  have h17 := sz_le F
  have s1 := sz_dle_le a3
  refine ⟨fun q => ?_, by omega, a1, dle_mono a3 (by omega)⟩
  have e := sz_z (dle_mono a3 (by omega)) q
  rw [e, pB_0, p0_A] at a5
  have := sz_dle_le a4
  rw [a5] at this
  omega
section SPL2
variable {d : Nat} {Φ : gF} {w : Int} {t : Nat}
theorem choose_spec (hS : SrchOK Φ w t (d + 2)) {ω : jw} {D : jD} {dep num : Nat} {F G : pl} {S : xS} (hF : FT Φ D 76) (hX : XS D w S) (RF : PR D (288 + 2 * dep) F) (RG : PR D 281 G) (oF : pOK Φ F) (oG : pOK Φ G) (g2 : 2 ≤ sz G) (hFG : sz G ≤ sz F) (hdep : dep + sz F ≤ 7) (hm : Φ.1 * (sz F - 2) ≤ 12) (ht : sz F ≤ t + 1) : ∃ D', Vl (d + 3) 127 0 [some (.inr (.inr (some 279))), some (.inr (.inr (some 75))), some (.inl (dep : Int)), some (.inl (num : Int))] [] (hp ω D) = some ((0, none), hp ω D') ∧ XS D' w (chs Φ (srch Φ w t) F dep G num S) ∧ ∀ c, ¬ xfr dep c → D' c = D c := by
  have hd6 : dep < 6 := by omega
  have p1 := prPar (show dep < 7 by omega)
  have p2 := prPar (show dep + 1 < 7 by omega)
  obtain ⟨q0, q1, q2⟩ := dvd_nz hF.1 (side := 0) oF oG (by omega) hFG
  have RF1 : PR (sD D 301 dep (num : Int)) (287 + 2 * dep + 1) F := by
    rw [show 287 + 2 * dep + 1 = 288 + 2 * dep by omega]
    exact PR_ne (sD_ne (by omega)) RF
  have RG1 : PR (sD D 301 dep (num : Int)) (280 + 1) G := PR_ne (sD_ne (by omega)) RG
  obtain ⟨D2, e2, R2, R3, f2⟩ := divide_spec (ω := ω) (D := sD D 301 dep (num : Int)) (d := d) (side := 0) tK_75 (FT_congr (fun c _ _ => sD_ne (by omega)) hF) p1 i280 p2 i284 (by decide) (by decide) (by decide) (by decide) (by decide) (by omega) (by omega) RF1 RG1 oF.1 oG.1 oF.2 oG.2 (by decide) (by omega)
  rw [show ((0 : Nat) : Int) = 0 from rfl] at e2
  have fr2 : ∀ c, c ≠ 301 → c ≠ 288 + 2 * (dep + 1) → c ≠ 285 → (c < 81 ∨ 111 ≤ c) → D2 c = D c := fun c h1 h2 h3 h4 => by rw [f2 c (by omega) (by omega) (by omega) (by omega) (by omega) (by omega) (by omega), sD_ne h1]
  have X2 : XS D2 w (S.1, S.2.1, fun q => if q = dep then (num : Int) else S.2.2 q) := by
    obtain ⟨x1, x2, x3, x4⟩ := hX
    refine ⟨by rw [fr2 279 (by omega) (by omega) (by omega) (by omega)]; exact x1, by rw [fr2 279 (by omega) (by omega) (by omega) (by omega)]; exact x2, by rw [fr2 279 (by omega) (by omega) (by omega) (by omega)]; exact x3, fun q hq => ?_⟩
    rw [f2 301 (by omega) (by omega) (by omega) (by omega) (by omega) (by omega) (by omega)]
    dsimp only
    by_cases e : q = dep
    · rw [e, sD_eq, if_pos rfl]
    · rw [sD_nb e, if_neg e]; exact x4 q hq
  obtain ⟨D3, e3, X3, f3⟩ := hS ω (dep + 1) (dvd Φ 0 F G).1 (S.1, S.2.1, fun q => if q = dep then (num : Int) else S.2.2 q) D2 (FT_congr (fun c _ _ => fr2 c (by omega) (by omega) (by omega) (by omega)) hF) X2 (by
    rw [show 288 + 2 * (dep + 1) = 287 + 2 * (dep + 1) + 1 by omega]; exact R2) q2 (by omega) (by omega) (Nat.le_trans (Nat.mul_le_mul_left _ (by omega)) hm) (by omega)
  refine ⟨D3, ?_, X3, fun c hc => by
    have hc2 : ¬ xfr (dep + 1) c := fun q => hc (xfr_up q)
    unfold xfr at hc
    rw [f3 c hc2, fr2 c (by omega) (by omega) (by omega) (by omega)]⟩
  rw [vX_choose_0, if_neg (by omega), vX_choose_4, if_pos (by omega), vX_choose_11, aGF kX, rX_4, aIS kX_4, if_pos (by omega), Int.toNat_natCast, aGF kX, rX_3, aAA kX_3, if_pos (by omega), Int.toNat_natCast, rPar (show dep < 7 by omega), aGF kX, aGF kX, rX_3, w32_s (by omega), aAA kX_3, if_pos (by omega), Int.toNat_natCast, rPar (show dep + 1 < 7 by omega), aGF kX, rX_0, rX_2, aGF (kK tK_75), e2, aVC, tlS, vX_choose_45, aGF kX, w32_s (by omega), e3, aVC, tlN, vX_choose_54]
theorem inner_spec (hS : SrchOK Φ w t (d + 2)) {ω : jw} {dep e : Nat} {F : pl} (oF : pOK Φ F) (he1 : 1 ≤ e) (he : e + 2 ≤ sz F) (hdep : dep + sz F ≤ 7) (hm : Φ.1 * (sz F - 2) ≤ 12) (ht : sz F ≤ t + 1) (x4 : Int) : ∀ (r low : Nat) (x : Bool × xS) (D : jD), low + r = 2 ^ (Φ.1 * e) → FT Φ D 76 → XS D w x.2 → PR D (288 + 2 * dep) F →
    ∃ D' y, Vl (d + 4) 124 76 [some (.inr (.inr (some 279))), some (.inr (.inr (some 75))), some (.inl (dep : Int)), some (.inr (.inr (some (287 + 2 * dep)))), some (.inl x4), some (.inl (if x.1 = true then 1 else 0)), some (.inl (e : Int)), some (.inl ((2 ^ (Φ.1 * e) : Nat) : Int)), some (.inl (low : Int))] [] (hp ω D) = Vl (d + 4) 124 149 [some (.inr (.inr (some 279))), some (.inr (.inr (some 75))), some (.inl (dep : Int)), some (.inr (.inr (some (287 + 2 * dep)))), some (.inl x4), some (.inl (if (inl Φ w (srch Φ w t) F dep e r low x).1 = true then 1 else 0)), some (.inl (e : Int)), some (.inl ((2 ^ (Φ.1 * e) : Nat) : Int)), some (.inl y)] [] (hp ω D') ∧ XS D' w (inl Φ w (srch Φ w t) F dep e r low x).2 ∧ ∀ c, ¬ xfr dep c → D' c = D c
  | 0, low, x, D, hl, hF, hX, RF => ⟨D, (low : Int), by rw [vX_search_76, if_neg (by omega)]; rfl, hX, fun _ _ => rfl⟩
  | r + 1, low, x, D, hl, hF, hX, RF => by
    have hme : Φ.1 * e ≤ 12 := Nat.le_trans (Nat.mul_le_mul_left _ (by omega)) hm
    have h12 : 2 ^ (Φ.1 * e) ≤ 2 ^ 12 := Nat.pow_le_pow_right (by decide) hme
    have st : Vl (d + 4) 124 76 [some (.inr (.inr (some 279))), some (.inr (.inr (some 75))), some (.inl (dep : Int)), some (.inr (.inr (some (287 + 2 * dep)))), some (.inl x4), some (.inl (if x.1 = true then 1 else 0)), some (.inl (e : Int)), some (.inl ((2 ^ (Φ.1 * e) : Nat) : Int)), some (.inl (low : Int))] [] (hp ω D) = Vl (d + 4) 124 87 [some (.inr (.inr (some 279))), some (.inr (.inr (some 75))), some (.inl (dep : Int)), some (.inr (.inr (some (287 + 2 * dep)))), some (.inl x4), some (.inl (if x.1 = true then 1 else 0)), some (.inl (e : Int)), some (.inl ((2 ^ (Φ.1 * e) : Nat) : Int)), some (.inl (low : Int))] [.inl (if xdn w x.2 = true then 1 else 0)] (hp ω D) := by
      rw [vX_search_76, if_pos (by omega), vX_search_83, aGF kX, isDone_spec hX, aVC, tlS]
    rw [st, vX_search_87]
    unfold inl
    by_cases hdn : xdn w x.2 = true
    · rw [if_pos hdn, if_neg (by decide), if_pos hdn]
      exact ⟨D, (low : Int), rfl, hX, fun _ _ => rfl⟩
    rw [if_neg hdn, if_pos rfl, if_neg hdn]
    have p1 := prPar (show dep < 7 by omega)
    have RF1 : PR D (287 + 2 * dep + 1) F := by rw [show 287 + 2 * dep + 1 = 288 + 2 * dep by omega]; exact RF
    obtain ⟨D1, D2, q1, q2, R2, g1, g2⟩ := tryMonic (ω := ω) (d := d + 1) (Φ := Φ) (o := 280) hF p1 i280 (Or.inl rfl) (by omega) (by omega) (by omega) (by omega) (show low < 2147483648 by omega) hme (show e ≤ 12 by omega) RF1 oF
    have F2 : FT Φ D2 76 := FT_congr (fun c _ _ => g2 c (by omega) (by omega) (by omega) (by omega)) hF
    have X2 : XS D2 w x.2 := XS_fr hX (g2 279 (by decide) (by decide) (by decide) (by decide)) (g2 301 (by decide) (by decide) (by decide) (by decide))
    have RF2 : PR D2 (288 + 2 * dep) F := PR_ne (g2 _ (by omega) (by omega) (by omega) (by omega)) RF
    have x2 : ∀ c, ¬ xfr dep c → D2 c = D c := fun c hc => by unfold xfr at hc; exact g2 c (by omega) (by omega) (by omega) (by omega)
    obtain ⟨o1, s1⟩ := mnc_OK hF.1 low (show e < 17 by omega)
    simp only [vX_search_90, aGF (kK tK_75), aGF kX, q75_0, rX_0, q1, aVC, tlS, tlN, aLt, hwD, vX_search_105, q2]
    rw [vX_search_114]
    by_cases h1 : isDv Φ F (mnc Φ low e) = true
    rotate_left
    · have h1' : isDv Φ F (mnc Φ low e) = false := Bool.eq_false_iff.mpr h1
      rw [if_neg h1, if_pos rfl, vX_search_143, w32_s (by omega), h1', Bool.false_and, if_neg (show ¬ ((false : Bool) = true) by decide)]
      obtain ⟨D', y, a1, a2, a3⟩ := inner_spec hS oF he1 he hdep hm ht x4 r (low + 1) x D2 (by omega) F2 X2 RF2
      exact ⟨D', y, a1, a2, fun c hc => by rw [a3 c hc, x2 c hc]⟩
    rw [if_pos h1, if_neg (by decide), h1, Bool.true_and]
    obtain ⟨D3, q3, g3⟩ := isUndivided_spec (ω := ω) (d := d) i280 (by decide) (by decide) (by decide) (by decide) F2 R2 o1 (by omega) (by rw [s1]; exact Nat.le_trans (Nat.mul_le_mul_left _ (by omega)) hm) (by omega)
    have F3 : FT Φ D3 76 := FT_congr (fun c _ _ => g3 c (by omega) (by omega) (by omega) (by omega)) F2
    have X3 : XS D3 w x.2 := XS_fr X2 (g3 279 (by decide) (by decide) (by decide) (by decide)) (g3 301 (by decide) (by decide) (by decide) (by decide))
    have RF3 : PR D3 (288 + 2 * dep) F := PR_ne (g3 _ (by omega) (by omega) (by omega) (by omega)) RF2
    have R3 : PR D3 281 (mnc Φ low e) := PR_ne (g3 _ (by decide) (by decide) (by decide) (by decide)) R2
    have x3 : ∀ c, ¬ xfr dep c → D3 c = D c := fun c hc => by
      rw [g3 c (by unfold xfr at hc; omega) (by unfold xfr at hc; omega) (by unfold xfr at hc; omega) (by unfold xfr at hc; omega), x2 c hc]
    simp only [vX_search_117, aGF kX, rX_0, q3, aVC, tlS, tlN, aLt, hwD]
    rw [vX_search_126]
    by_cases h2 : isU Φ (mnc Φ low e) = true
    rotate_left
    · rw [if_neg h2, if_pos rfl, vX_search_143, w32_s (by omega), if_neg h2]
      obtain ⟨D', y, a1, a2, a3⟩ := inner_spec hS oF he1 he hdep hm ht x4 r (low + 1) x D3 (by omega) F3 X3 RF3
      exact ⟨D', y, a1, a2, fun c hc => by rw [a3 c hc, x3 c hc]⟩
    rw [if_pos h2, if_neg (by decide), if_pos h2]
    obtain ⟨D4, q4, X4, g4⟩ := choose_spec (num := 2 ^ (Φ.1 * e) + low) hS (ω := ω) F3 X3 RF3 R3 oF o1 (by omega) (by omega) hdep hm ht
    have x4' : ∀ c, ¬ xfr dep c → D4 c = D c := fun c hc => by rw [g4 c hc, x3 c hc]
    obtain ⟨D', y, a1, a2, a3⟩ := inner_spec hS oF he1 he hdep hm ht x4 r (low + 1) (true, chs Φ (srch Φ w t) F dep (mnc Φ low e) (2 ^ (Φ.1 * e) + low) x.2) D4 (by omega) (FT_congr (fun c _ _ => g4 c (by unfold xfr; omega)) F3) X4 (PR_ne (g4 _ (by unfold xfr; omega)) RF3)
    refine ⟨D', y, ?_, a2, fun c hc => by rw [a3 c hc, x4' c hc]⟩
    rw [vX_search_129, aGF kX, w32_ad (by omega), q4, aVC, tlN, vX_search_143, w32_s (by omega)]
    exact a1
theorem outer_spec (hS : SrchOK Φ w t (d + 2)) {ω : jw} {dep : Nat} {F : pl} (oF : pOK Φ F) (h2 : 2 ≤ sz F) (hdep : dep + sz F ≤ 7) (hm : Φ.1 * (sz F - 2) ≤ 12) (ht : sz F ≤ t + 1) : ∀ (r e : Nat) (x : Bool × xS) (D : jD) (u7 u8 : Option jv), e + r = sz F - 1 → 1 ≤ e → FT Φ D 76 → XS D w x.2 → PR D (288 + 2 * dep) F →
    ∃ D' y v7 v8, Vl (d + 4) 124 52 [some (.inr (.inr (some 279))), some (.inr (.inr (some 75))), some (.inl (dep : Int)), some (.inr (.inr (some (287 + 2 * dep)))), some (.inl ((sz F : Int) - 1)), some (.inl (if x.1 = true then 1 else 0)), some (.inl (e : Int)), u7, u8] [] (hp ω D) = Vl (d + 4) 124 155 [some (.inr (.inr (some 279))), some (.inr (.inr (some 75))), some (.inl (dep : Int)), some (.inr (.inr (some (287 + 2 * dep)))), some (.inl ((sz F : Int) - 1)), some (.inl (if (oul Φ w (srch Φ w t) F dep r e x).1 = true then 1 else 0)), some (.inl y), v7, v8] [] (hp ω D') ∧ XS D' w (oul Φ w (srch Φ w t) F dep r e x).2 ∧ ∀ c, ¬ xfr dep c → D' c = D c
  | 0, e, x, D, u7, u8, he, he1, hF, hX, RF => ⟨D, (e : Int), u7, u8, by rw [vX_search_52, if_neg (by omega)]; rfl, hX, fun _ _ => rfl⟩
  | r + 1, e, x, D, u7, u8, he, he1, hF, hX, RF => by
    have hme : Φ.1 * e ≤ 12 := Nat.le_trans (Nat.mul_le_mul_left _ (by omega)) hm
    have h17 := sz_le F
    obtain ⟨D1, y1, q1, X1, f1⟩ := inner_spec hS (ω := ω) (e := e) oF he1 (by omega) hdep hm ht ((sz F : Int) - 1) (2 ^ (Φ.1 * e)) 0 x D (by omega) hF hX RF
    rw [show ((0 : Nat) : Int) = 0 from rfl] at q1
    obtain ⟨D', y, v7, v8, a1, a2, a3⟩ := outer_spec hS oF h2 hdep hm ht r (e + 1) (inl Φ w (srch Φ w t) F dep e (2 ^ (Φ.1 * e)) 0 x) D1 (some (.inl ((2 ^ (Φ.1 * e) : Nat) : Int))) (some (.inl y1)) (by omega) (by omega) (FT_congr (fun c _ _ => f1 c (by unfold xfr; omega)) hF) X1 (PR_ne (f1 _ (by unfold xfr; omega)) RF)
    refine ⟨D', y, v7, v8, ?_, a2, fun c hc => by rw [a3 c hc, f1 c hc]⟩
    rw [vX_search_52, if_pos (by omega), vX_search_59, aGF (kK tK_75), q75_0, aGF (kF tF_76), hD, hF.2.1, w32_ml (by omega), pow_sh hme, q1, vX_search_149, w32_s (by omega)]
    exact a1
theorem search_step (hS : SrchOK Φ w t (d + 2)) : SrchOK Φ w (t + 1) (d + 4) := by
  intro ω dep F S D hF hX RF oF h1 hdep hm ht
  have h17 := sz_le F
  have p1 := prPar (show dep < 7 by omega)
  have RF1 : PR D (287 + 2 * dep + 1) F := by rw [show 287 + 2 * dep + 1 = 288 + 2 * dep by omega]; exact RF
  have st : Vl (d + 4) 124 0 [some (.inr (.inr (some 279))), some (.inr (.inr (some 75))), some (.inl (dep : Int)), none, none, none, none, none, none] [] (hp ω D) = Vl (d + 4) 124 22 [some (.inr (.inr (some 279))), some (.inr (.inr (some 75))), some (.inl (dep : Int)), some (.inr (.inr (some (287 + 2 * dep)))), none, none, none, none, none] [.inl ((sz F : Int) - 1)] (hp ω D) := by
    rw [vX_search_0, if_neg (by omega), vX_search_4, if_neg (by omega), vX_search_11, aGF kX, rX_3, aAA kX_3, if_pos (by omega), Int.toNat_natCast, rPar (show dep < 7 by omega), aGF (kP p1), topF p1 RF1, aVC, tlS]
  rw [st, vX_search_22]
  unfold srch
  by_cases h2 : sz F ≤ 1
  · rw [if_pos (by omega), if_pos h2]
    obtain ⟨x1, x2, x3, x4⟩ := hX
    have e6 : (sD D 279 6 (w32 (S.1 + 1))) 279 5 = w := by rw [sD_nb (by decide)]; exact x1
    refine ⟨sD (sD D 279 6 (w32 (S.1 + 1))) 279 7 (dep : Int), ?_, ⟨by rw [sD_nb (by decide)]; exact e6, by rw [sD_nb (by decide), sD_eq], by rw [sD_eq], fun q hq => by rw [sD_ne (by decide), sD_ne (by decide)]; exact x4 q hq⟩, fun c hc => by unfold xfr at hc; rw [sD_ne (by omega), sD_ne (by omega)]⟩
    rw [vX_search_30, aGF kX, aGF kX, hD, x2, aLt, hwD, aGF kX, aLt, hwD]
  rw [if_neg (by omega), if_neg h2, vX_search_46]
  obtain ⟨D1, y, v7, v8, q1, X1, f1⟩ := outer_spec hS (ω := ω) oF (by omega) hdep hm (by omega) (sz F - 2) 1 (false, S) D none none (by omega) (Nat.le_refl _) hF hX RF
  rw [show ((1 : Nat) : Int) = 1 from rfl, show (if (false : Bool) = true then (1 : Int) else 0) = 0 from rfl] at q1
  rw [q1, vX_search_155]
  have F1 : FT Φ D1 76 := FT_congr (fun c _ _ => f1 c (by unfold xfr; omega)) hF
  have RF2 : PR D1 (288 + 2 * dep) F := PR_ne (f1 _ (by unfold xfr; omega)) RF
  have RF3 : PR D1 (287 + 2 * dep + 1) F := by rw [show 287 + 2 * dep + 1 = 288 + 2 * dep by omega]; exact RF2
  by_cases h3 : (oul Φ w (srch Φ w t) F dep (sz F - 2) 1 (false, S)).1 = true
  · rw [if_pos h3, if_neg (by decide), vX_search_189, h3, Bool.true_or, if_pos rfl]
    exact ⟨D1, rfl, X1, f1⟩
  rw [if_neg h3, if_pos rfl, Bool.eq_false_iff.mpr h3, Bool.false_or, vX_search_160, aGF kX, isDone_spec X1, aVC, tlS, vX_search_164]
  by_cases h4 : xdn w (oul Φ w (srch Φ w t) F dep (sz F - 2) 1 (false, S)).2 = true
  · rw [if_pos h4, if_neg (by decide), vX_search_189, if_pos h4]
    exact ⟨D1, rfl, X1, f1⟩
  rw [if_neg h4, if_pos rfl, if_neg h4]
  have q2 := copyF (ω := ω) (d := d + 3) i280 p1 RF3
  have f2 : ∀ c, c ≠ 281 → pD D1 (280 + 1) (rI F) c = D1 c := fun c hc => pD_ne (by omega)
  have F2 : FT Φ (pD D1 (280 + 1) (rI F)) 76 := FT_congr (fun c _ _ => f2 c (by omega)) F1
  have hm30 : Φ.1 * sz F ≤ 30 := by
    have h8 := F_m8 hF.1
    have : Φ.1 * sz F = Φ.1 * (sz F - 2) + Φ.1 * 2 := by rw [← Nat.mul_add]; congr 1; omega
    omega
  have q3 := numberOf_spec (ω := ω) (d := d + 2) p1 F2 (PR_ne (f2 _ (by omega)) RF3) oF hm30
  obtain ⟨D3, q4, X3, f3⟩ := choose_spec (num := nmb Φ F) (G := F) hS (ω := ω) F2 (XS_fr X1 (f2 279 (by decide)) (f2 301 (by decide))) (PR_ne (f2 _ (by omega)) RF2) pD_PR oF oF (by omega) (Nat.le_refl _) hdep hm (by omega)
  refine ⟨D3, ?_, X3, fun c hc => by rw [f3 c hc, f2 c (by unfold xfr at hc; omega), f1 c hc]⟩
  rw [vX_search_167, aGF kX, rX_0, aGF (kP i280), q2, aVC, tlN, vX_search_175, aGF (kK tK_75), q75_0, q3, aVC, tlS, vX_search_186, aGF kX, q4, aVC, tlN, vX_search_189]
theorem search_ok : ∀ t d, SrchOK Φ w t (d + 2 * t + 2)
  | 0, d => fun ω dep F S D hF hX RF oF h1 hdep hm ht => absurd ht (by omega)
  | t + 1, d => by
    have := search_step (search_ok t d)
    rw [show d + 2 * (t + 1) + 2 = d + 2 * t + 4 by omega]
    exact this
end SPL2
