/-! THE REFERENCE'S READER: powers, terms, sums -/
section MEX4
variable {ρ ρ1 ρ' : jr2} {D D1 D' D2 : jD} {d : Nat} {X : sx} {t : tk} {s w : Nat} {Φ : gF}
theorem mpw_loop {k : Nat} {v : pl} (ov : pOK Φ v) {n : Nat} (hn : n ≤ 16) (x1 : Int) : ∀ (j i : Nat) (D : jD), i + j = n → MF Φ D → PR D 516 v → PR D 515 (pw Φ v i) → ∃ D', Vl (k + 13) 219 122 [some (.inr (.inr (some 488))), some (.inl x1), some (.inl (n : Int)), some (.inl (i : Int))] [] (hp (1, ρ) D) = Vl (k + 13) 219 162 [some (.inr (.inr (some 488))), some (.inl x1), some (.inl (n : Int)), some (.inl (n : Int))] [] (hp (1, ρ) D') ∧ PR D' 515 (pw Φ v n) ∧ ∀ q, q ≠ 497 → q ≠ 515 → q ≠ 517 → D' q = D q
  | 0, i, D, hi, hF, RV, RP => by
    obtain rfl : i = n := by omega
    exact ⟨D, by rw [vM_readPower_122, if_neg (by omega)], RP, fun _ _ _ _ => rfl⟩
  | j + 1, i, D, hi, hF, RV, RP => by
    have hO := hF.1
    obtain ⟨D1, q1, R1, f1⟩ := mprod (d := k + 8) (ρ := ρ) hF m515 m516 m517 (by decide) (by decide) (by decide) (by decide) (by decide) (by decide) RP RV (pw_in hO ov i) ov.1
    have q2 := mcpy (d := k + 12) (ρ := ρ) (D := D1) m517 m515 (by decide) (by decide) (by decide) (by decide) R1
    have g : ∀ q, q ≠ 497 → q ≠ 515 → q ≠ 517 → pD D1 515 (rI (pP Φ (sz (pw Φ v i)) (pw Φ v i) v)) q = D q := fun q a b c => by rw [pD_ne b, f1 q c a]
    obtain ⟨D2, q3, R3, f3⟩ := mpw_loop ov hn x1 j (i + 1) (pD D1 515 (rI (pP Φ (sz (pw Φ v i)) (pw Φ v i) v))) (by omega) (MF_cg hF (g 488 (by decide) (by decide) (by decide))) (PR_ne (g 516 (by decide) (by decide) (by decide)) RV) (by
      show PR _ 515 (pJ Φ 0 (pw Φ v i) v)
      unfold pJ
      rw [if_neg (by decide)]
      exact pD_PR)
    refine ⟨D2, ?_, R3, fun q a b c => by rw [f3 q a b c, g q a b c]⟩
    rw [vM_readPower_122, if_pos (by omega), vM_readPower_127]
    simp only [mGF m488, mr41, mr42, mr43]
    rw [q1, aVC, tlN, vM_readPower_143]
    simp only [mGF m488, mr41, mr43]
    rw [q2, aVC, tlN, vM_readPower_156, w32_s (by omega), q3]
theorem mpower {k n : Nat} {sub : Option (tk → pr)} (hs : MSUB X (k + 10) n sub) (hS : MST ρ D X t s w) (hw : w + n = 6) (hs3 : s ≤ 3 * w + 2) : MPO ρ D X s w t.2.2.2 (pwP X sub t) (Vl (k + 13) 219 0 [some (.inr (.inr (some 488))), none, none, none] [] (hp (1, ρ) D)) := by
  have hO := hS.1.2.2.1.1
  have r := matom hs hS hw hs3
  rw [vM_readPower_0, mGF m488]
  unfold pwP
  cases hr : atP X sub t with
  | inl e =>
    rw [hr] at r
    refine MPO_er r LX_rf XF_rf (fun ρ2 D2 q => ?_)
    rw [q, aVC, tlS, vM_readPower_4, if_pos rfl, vM_readPower_7, aZ0]
  | inr rr =>
    obtain ⟨v, t1⟩ := rr
    rw [hr] at r
    obtain ⟨ρ1, D1, r1, r2, r3, r4, r5, r6, r7, r8, r9, r10⟩ := r
    dsimp only at r5 r6 r7 r9 r10
    rw [r1, aVC, tlS, vM_readPower_4, if_neg j10, vM_readPower_9, mGF m488, msn94 r5.2.1, aVC, tlS, vM_readPower_15]
    dsimp only
    by_cases h94 : t1.1 = 94
    rotate_left
    · rw [if_neg h94, if_neg h94, if_pos rfl, vM_readPower_18, aZ1]
      exact ⟨ρ1, D1, rfl, r2, r3, r4, r5, r6, r7, r8, r9, r10⟩
    have e33 : D1 488 33 = (t1.2.1 : Int) := r5.2.1.1
    rw [if_pos h94, if_pos h94, if_neg j10, vM_readPower_20]
    simp only [mGF m488, hD, e33]
    obtain ⟨ρ2, D2, g1, g2, g3, g4, g5, g6⟩ := mgoX (d := k + 10) r5 (show t1.1 < 258 by omega)
    have L2 := LX_tr r2 g2
    have F2 := XF_tr r3 (XF_TX g3)
    obtain ⟨kd3, -, -, kd5⟩ := mkind g4.2.1
    rw [g1, aVC, tlN, vM_readPower_29, mGF m488, hD]
    by_cases h257 : (nx X t1).1 = 257
    rotate_left
    · rw [if_neg (fun z => h257 (kd3.mp z)), if_neg h257, vM_readPower_37, mGF m488, mbad1 g4.2.1, aVC, tlS, vM_readPower_42, aZ0]
      exact MPO_bad (f' := 1) rfl L2 F2 rfl
    obtain ⟨k35, k9⟩ := kd5 h257
    rw [if_pos (kd3.mpr h257), if_pos h257, vM_readPower_43, mGF m488, hD, k35]
    by_cases h16 : (nx X t1).2.2.1 ≤ 16
    rotate_left
    · rw [if_neg h16, if_pos (show (16 : Int) < ((nx X t1).2.2.1 : Int) by omega), vM_readPower_52, mGF m488, mbad2 g4.2.1 (by omega), aVC, tlS, vM_readPower_57, aZ0]
      exact MPO_bad (f' := 2) rfl L2 F2 rfl
    rw [if_pos h16, if_neg (show ¬ (16 : Int) < ((nx X t1).2.2.1 : Int) by omega), vM_readPower_58]
    simp only [mGF m488, hD, k35]
    obtain ⟨ρ3, D3, u1, u2, u3, u4, u5, u6⟩ := mgoX (d := k + 10) g4 (show (nx X t1).1 < 258 by omega)
    have L3 := LX_tr L2 u2
    have F3 := XF_tr F2 (XF_TX u3)
    have RV : PRo D3 514 (17 * s) v := by unfold PRo; rw [u3.1 514 (by decide), g3.1 514 (by decide)]; exact r6
    have q1 := mpop (d := k + 11) (ρ := ρ3) (s := s) m516 (by decide) RV u4.2.2.1 (by omega)
    obtain ⟨E, hE⟩ : ∃ E, E = pD (sD D3 488 44 (s : Int)) 516 (rI v) := ⟨_, rfl⟩
    rw [← hE] at q1
    have RE : PR E 516 v := by rw [hE]; exact pD_PR
    have eE : ∀ q, q ≠ 488 → q ≠ 516 → E q = D3 q := fun q a b => by rw [hE, pD_ne b, sD_ne a]
    have e8 : ∀ j, j ≠ 44 → E 488 j = D3 488 j := fun j a => by rw [hE, pD_ne (by decide), sD_nb a]
    have xE : XF D3 E := ⟨fun q a => eE q (by omega) (by omega), fun j _ a _ => e8 j a⟩
    have hSE : MST ρ3 E X (nx X (nx X t1)) s w := MST_cg u4 xE (fun j a b => e8 j (by omega)) (by rw [hE, pD_ne (by decide)]; exact sD_eq) (by rw [e8 45 (by decide)]; exact u4.2.2.2)
    have q2 := mdeg (d := k + 12) (ρ := ρ3) m516 (by decide) RE
    rw [u1, aVC, tlN, vM_readPower_67]
    simp only [mGF m488, mr42]
    rw [q1, aVC, tlN, vM_readPower_75]
    simp only [mGF m488, mr42]
    rw [q2, aVC, tlS, vM_readPower_82]
    have h17 := sz_le v
    obtain ⟨N, hN⟩ : ∃ N, N = (nx X t1).2.2.1 := ⟨_, rfl⟩
    rw [← hN] at h16 ⊢
    have big : (sz v - 1) * N ≤ 16 * 16 := Nat.mul_le_mul (by omega) h16
    by_cases hm : (sz v - 1) * N ≤ 16
    rotate_left
    · have hv : 1 < sz v := Classical.byContradiction fun z => hm (by rw [show sz v - 1 = 0 by omega]; omega)
      have em : ((sz v : Int) - 1) * (N : Int) = (((sz v - 1) * N : Nat) : Int) := by
        rw [Int.natCast_mul, show ((sz v - 1 : Nat) : Int) = (sz v : Int) - 1 by omega]
      rw [if_pos (show 0 < (sz v : Int) - 1 by omega), vM_readPower_85]
      simp only [mGF m488, mr42]
      rw [if_neg hm, q2, aVC, tlS, vM_readPower_92, em, w32_n (by omega), if_pos (show 16 < (((sz v - 1) * N : Nat) : Int) by omega), vM_readPower_99, mGF m488, mbadAt, aVC, tlS, vM_readPower_105, aZ0]
      exact MPO_bad (f' := 4) rfl L3 (XF_tr F3 xE) rfl
    rw [if_pos hm]
    have s106 : (if 0 < (sz v : Int) - 1 then Vl (k + 13) 219 85 [some (.inr (.inr (some 488))), some (.inl (t1.2.1 : Int)), some (.inl (N : Int)), none] [] (hp (1, ρ3) E) else Vl (k + 13) 219 106 [some (.inr (.inr (some 488))), some (.inl (t1.2.1 : Int)), some (.inl (N : Int)), none] [] (hp (1, ρ3) E)) = Vl (k + 13) 219 106 [some (.inr (.inr (some 488))), some (.inl (t1.2.1 : Int)), some (.inl (N : Int)), none] [] (hp (1, ρ3) E) := by
      by_cases hv : 0 < (sz v : Int) - 1
      · have em : ((sz v : Int) - 1) * (N : Int) = (((sz v - 1) * N : Nat) : Int) := by
          rw [Int.natCast_mul, show ((sz v - 1 : Nat) : Int) = (sz v : Int) - 1 by omega]
        rw [if_pos hv, vM_readPower_85]
        simp only [mGF m488, mr42]
        rw [q2, aVC, tlS, vM_readPower_92, em, w32_n (by omega), if_neg (by omega)]
      · rw [if_neg hv]
    have q3 := mclear (d := k + 12) (ρ := ρ3) (D := E) m515 (by decide) (by decide)
    have f4 : ∀ q, q ≠ 515 → sD (pD E 515 (rI p0)) 515 0 1 q = E q := fun q a => by rw [sD_ne a, pD_ne a]
    obtain ⟨D5, q4, R5, f5⟩ := mpw_loop (k := k) (ρ := ρ3) r7 h16 (t1.2.1 : Int) N 0 (sD (pD E 515 (rI p0)) 515 0 1) (Nat.zero_add N) (MF_cg hSE.1.2.2.1 (f4 488 (by decide))) (PR_ne (f4 516 (by decide)) RE) (fun b hb => by
      show (if 515 = 515 ∧ b = 0 then (1 : Int) else pD E 515 (rI p0) 515 b) = ((if b = 0 then 1 else 0 : Nat) : Int)
      by_cases e : b = 0
      · rw [if_pos ⟨rfl, e⟩, if_pos e]; rfl
      · rw [if_neg (fun z => e z.2), if_neg e, pD_PR (F := p0) b hb]; rfl)
    rw [show ((0 : Nat) : Int) = 0 from rfl] at q4
    have g5 : ∀ q, (q ≤ 496 ∨ 518 ≤ q) → D5 q = E q := fun q a => by rw [f5 q (by omega) (by omega) (by omega), f4 q (by omega)]
    have oP : pOK (tF (sA X)) (pw (tF (sA X)) v N) := ⟨pw_in hO r7 N, (pw_sz r7 N hm).1⟩
    have hS5 : MST ρ3 D5 X (nx X (nx X t1)) s w := MST_sc hSE g5
    have q6 := mpush (d := k + 11) (ρ := ρ3) (D := D5) m515 (by decide) R5 hS5.2.2.1 (by omega)
    have xp : XF D5 (sD (pOn D5 514 (17 * s) 17 (rI (pw (tF (sA X)) v N))) 488 44 ((s + 1 : Nat) : Int)) := ⟨fun q a => by rw [sD_ne (by omega), pOn_far (by omega)], fun j _ a _ => by rw [sD_nb a, pOn_far (by decide)]⟩
    have fj : ∀ j, j ≠ 44 → sD (pOn D5 514 (17 * s) 17 (rI (pw (tF (sA X)) v N))) 488 44 ((s + 1 : Nat) : Int) 488 j = D5 488 j := fun j a => by rw [sD_nb a, pOn_far (by decide)]
    refine ⟨ρ3, _, ?_, L3, XF_tr F3 (XF_tr xE (XF_tr (XF_sc g5) xp)), ?_, MST_cg hS5 xp (fun j a b => fj j (by omega)) sD_eq (by rw [fj 45 (by decide)]; exact hS5.2.2.2), ?_, oP, fun b hb => ?_, ?_, fun z => ?_⟩
    · rw [s106, vM_readPower_106]
      simp only [mGF m488, mr41]
      rw [q3, aVC, tlN, vM_readPower_113]
      simp only [mGF m488, mr41]
      rw [mIS m515, if_pos (by decide), show (0 : Int).toNat = 0 from rfl, q4, vM_readPower_162]
      simp only [mGF m488, mr41]
      rw [q6, aVC, tlN, vM_readPower_170, aZ1]
    · rw [fj 37 (by decide), g5 488 (by decide), e8 37 (by decide), u3.2 37 (by decide), g3.2 37 (by decide), r4]
    · unfold PRo; rw [sD_ne (by decide)]; exact fun b hb => pOn_in hb
    · rw [sD_ne (by decide), pOn_ne (Or.inr (by omega)), f5 514 (by decide) (by decide) (by decide), f4 514 (by decide), eE 514 (by decide) (by decide), u3.1 514 (by decide), g3.1 514 (by decide), r8 b hb]
    · show t.2.2.2 ≤ (nx X (nx X t1)).2.2.2; omega
    · show t.2.2.2 + 1 ≤ (nx X (nx X t1)).2.2.2
      have := u6 z
      omega
/-- two rows taken from the stack -/
theorem mpop2 {k : Nat} {F G : pl} (hS : MST ρ D X t (s + 2) w) (RF : PRo D 514 (17 * s) F) (RG : PRo D 514 (17 * (s + 1)) G) (hs : s < 46) : ∃ E1 E, Vl (k + 2) 226 0 [some (.inr (.inr (some 488))), some (.inr (.inr (some 516)))] [] (hp (1, ρ) D) = some ((0, none), hp (1, ρ) E1) ∧ Vl (k + 2) 226 0 [some (.inr (.inr (some 488))), some (.inr (.inr (some 515)))] [] (hp (1, ρ) E1) = some ((0, none), hp (1, ρ) E) ∧ PR E 515 F ∧ PR E 516 G ∧ XF D E ∧ MST ρ E X t s w ∧ E 488 37 = D 488 37 ∧ ∀ b, E 514 b = D 514 b := by
  have q1 := mpop (d := k + 1) (ρ := ρ) (s := s + 1) m516 (by decide) RG hS.2.2.1 (by omega)
  obtain ⟨E1, hE1⟩ : ∃ E1, E1 = pD (sD D 488 44 ((s + 1 : Nat) : Int)) 516 (rI G) := ⟨_, rfl⟩
  rw [← hE1] at q1
  have q2 := mpop (d := k + 1) (ρ := ρ) (D := E1) (s := s) (F := F) m515 (by decide) (by rw [hE1]; unfold PRo; rw [pD_ne (by decide), sD_ne (by decide)]; exact RF) (by rw [hE1, pD_ne (by decide)]; exact sD_eq) (by omega)
  obtain ⟨E, hE⟩ : ∃ E, E = pD (sD E1 488 44 (s : Int)) 515 (rI F) := ⟨_, rfl⟩
  rw [← hE] at q2
  have e8 : ∀ j, j ≠ 44 → E 488 j = D 488 j := fun j hj => by rw [hE, pD_ne (by decide), sD_nb hj, hE1, pD_ne (by decide), sD_nb hj]
  have eo : ∀ q, q ≠ 488 → q ≠ 515 → q ≠ 516 → E q = D q := fun q a b c => by rw [hE, pD_ne b, sD_ne a, hE1, pD_ne c, sD_ne a]
  have xE : XF D E := ⟨fun q a => eo q (by omega) (by omega) (by omega), fun j _ a _ => e8 j a⟩
  exact ⟨E1, E, q1, q2, by rw [hE]; exact pD_PR, by rw [hE]; exact PR_ne (by rw [pD_ne (by decide), sD_ne (by decide)]) (by rw [hE1]; exact pD_PR), xE, MST_cg hS xE (fun j a b => e8 j (by omega)) (by rw [hE, pD_ne (by decide)]; exact sD_eq) (by rw [e8 45 (by decide)]; exact hS.2.2.2), e8 37 (by decide), fun b => by rw [eo 514 (by decide) (by decide) (by decide)]⟩
/-- a row put on the stack -/
theorem mput {k : Nat} {c : Nat} (hS : MST ρ D X t s w) (kc : KM c (1, 17)) (hc : c ≠ 514) {F : pl} (RF : PR D c F) (hs : s < 48) : ∃ E, Vl (k + 1) 222 0 [some (.inr (.inr (some 488))), some (.inr (.inr (some c)))] [] (hp (1, ρ) D) = some ((0, none), hp (1, ρ) E) ∧ XF D E ∧ MST ρ E X t (s + 1) w ∧ E 488 37 = D 488 37 ∧ PRo E 514 (17 * s) F ∧ ∀ b, b < 17 * s → E 514 b = D 514 b := by
  have q := mpush (d := k) (ρ := ρ) kc hc RF hS.2.2.1 hs
  have xp : XF D (sD (pOn D 514 (17 * s) 17 (rI F)) 488 44 ((s + 1 : Nat) : Int)) := ⟨fun q a => by rw [sD_ne (by omega), pOn_far (by omega)], fun j _ a _ => by rw [sD_nb a, pOn_far (by decide)]⟩
  have fj : ∀ j, j ≠ 44 → sD (pOn D 514 (17 * s) 17 (rI F)) 488 44 ((s + 1 : Nat) : Int) 488 j = D 488 j := fun j a => by rw [sD_nb a, pOn_far (by decide)]
  exact ⟨_, q, xp, MST_cg hS xp (fun j a b => fj j (by omega)) sD_eq (by rw [fj 45 (by decide)]; exact hS.2.2.2), fj 37 (by decide), by unfold PRo; rw [sD_ne (by decide)]; exact fun b hb => pOn_in hb, fun b hb => by rw [sD_ne (by decide), pOn_ne (Or.inr (by omega))]⟩
theorem mtk_le (hS : MST ρ D X t s w) : t.2.2.2 ≤ 540 ∧ (t.1 ≠ 258 → 1 ≤ t.2.2.2) := by
  have h1 := hS.2.1.2.1
  have h2 := hS.1.1.2.1
  exact ⟨by omega, hS.2.1.2.2.1⟩
theorem pwP_258 {sub : Option (tk → pr)} (h : t.1 = 258) : pwP X sub t = .inl (1, t.2.1) := by
  have e : atP X sub t = .inl (1, t.2.1) := by unfold atP; rw [if_neg (by omega), if_neg (by omega), if_neg (by omega)]
  unfold pwP; rw [e]
theorem tmP_258 {sub : Option (tk → pr)} (h : t.1 = 258) : tmP X sub t = .inl (1, t.2.1) := by unfold tmP; rw [pwP_258 h]
theorem mterm_loop {k n : Nat} {sub : Option (tk → pr)} (hs : MSUB X (k + 10) n sub) (hw : w + n = 6) (hs3 : s ≤ 3 * w + 1) (P : Nat) : ∀ (m : Nat) (v : pl) (t : tk) (ρ : jr2) (D : jD) (u1 u2 u3 : Option jv), MST ρ D X t (s + 1) w → PRo D 514 (17 * s) v → pOK (tF (sA X)) v → (t.1 = 42 → 541 ≤ m + t.2.2.2) → P ≤ t.2.2.2 → (t.1 ≠ 258 → P + 1 ≤ t.2.2.2) → MPO ρ D X s w P (tmL X sub m v t) (Vl (k + 14) 218 9 [some (.inr (.inr (some 488))), u1, u2, u3] [] (hp (1, ρ) D))
  | m, v, t, ρ, D, u1, u2, u3, hS, RV, ov, hm, hP, hP2 => by
    have hO := hS.1.2.2.1.1
    have hle := mtk_le hS
    rw [vM_readTerm_9, mGF m488, msn42 hS.2.1, aVC, tlS, vM_readTerm_15]
    by_cases h42 : t.1 = 42
    rotate_left
    · have e : tmL X sub m v t = .inr (v, t) := by
        cases m with
        | zero => rfl
        | succ m => unfold tmL; rw [if_neg h42]
      rw [if_neg h42, if_pos rfl, vM_readTerm_133, aZ1, e]
      exact ⟨ρ, D, rfl, LX_rf, XF_rf, rfl, hS, RV, ov, fun _ _ => rfl, hP, hP2⟩
    match m, hm with
    | 0, hm => have := hm h42; omega
    | m + 1, hm =>
      have h541 := hm h42
      have e33 : D 488 33 = (t.2.1 : Int) := hS.2.1.1
      rw [if_pos h42, if_neg j10, vM_readTerm_18]
      simp only [mGF m488, hD, e33]
      obtain ⟨ρ1, D1, g1, g2, g3, g4, g5, g6⟩ := mgoX (d := k + 11) hS (show t.1 < 258 by omega)
      have r := mpower hs g4 hw (by omega)
      rw [g1, aVC, tlN, vM_readTerm_27, mGF m488]
      unfold tmL
      rw [if_pos h42]
      cases hr : pwP X sub (nx X t) with
      | inl e =>
        rw [hr] at r
        refine MPO_er r g2 (XF_TX g3) (fun ρ2 D2 q => ?_)
        rw [q, aVC, tlS, vM_readTerm_31, if_pos rfl, vM_readTerm_34, aZ0]
      | inr rr =>
        obtain ⟨g, t1⟩ := rr
        rw [hr] at r
        have hn58 : (nx X t).1 ≠ 258 := fun z => by rw [pwP_258 z] at hr; cases hr
        have hg7 := g6 hn58
        obtain ⟨ρ2, D2, r1, r2, r3, r4, r5, r6, r7, r8, r9, r10⟩ := r
        dsimp only at r5 r6 r7 r9 r10
        have L2 := LX_tr g2 r2
        have F2 := XF_tr (XF_TX g3) r3
        have RV2 : PRo D2 514 (17 * s) v := fun b hb => by rw [r8 _ (by omega), g3.1 514 (by decide)]; exact RV b hb
        obtain ⟨E1, E, p1, p2, p3, p4, p5, p6, p7, p8⟩ := mpop2 (k := k + 11) r5 RV2 r6 (by omega)
        have d1 := mdeg (d := k + 13) (ρ := ρ2) m515 (by decide) p3
        have d2 := mdeg (d := k + 13) (ρ := ρ2) m516 (by decide) p4
        have h17 := sz_le v
        have h17g := sz_le g
        rw [r1, aVC, tlS, vM_readTerm_31, if_neg j10, vM_readTerm_36]
        simp only [mGF m488, mr42]
        rw [p1, aVC, tlN, vM_readTerm_44]
        simp only [mGF m488, mr41]
        rw [p2, aVC, tlN, vM_readTerm_52]
        simp only [mGF m488, mr41]
        rw [d1, aVC, tlS, vM_readTerm_59]
        simp only [mGF m488, mr42]
        rw [d2, aVC, tlS, vM_readTerm_67]
        have s91 : (sz v = 0 ∨ sz g = 0 ∨ sz v + sz g ≤ 18) → (if (sz v : Int) - 1 < 0 then Vl (k + 14) 218 91 [some (.inr (.inr (some 488))), some (.inl (t.2.1 : Int)), some (.inl ((sz v : Int) - 1)), some (.inl ((sz g : Int) - 1))] [] (hp (1, ρ2) E) else Vl (k + 14) 218 72 [some (.inr (.inr (some 488))), some (.inl (t.2.1 : Int)), some (.inl ((sz v : Int) - 1)), some (.inl ((sz g : Int) - 1))] [] (hp (1, ρ2) E)) = Vl (k + 14) 218 91 [some (.inr (.inr (some 488))), some (.inl (t.2.1 : Int)), some (.inl ((sz v : Int) - 1)), some (.inl ((sz g : Int) - 1))] [] (hp (1, ρ2) E) := fun hz => by
          by_cases c1 : (sz v : Int) - 1 < 0
          · rw [if_pos c1]
          rw [if_neg c1, vM_readTerm_72]
          by_cases c2 : (sz g : Int) - 1 < 0
          · rw [if_pos c2]
          rw [if_neg c2, vM_readTerm_76, w32_i (by omega) (by omega), if_neg (by omega)]
        by_cases hz : sz v = 0 ∨ sz g = 0 ∨ sz v + sz g ≤ 18
        rotate_left
        · rw [if_neg hz, if_neg (show ¬ (sz v : Int) - 1 < 0 by omega), vM_readTerm_72, if_neg (show ¬ (sz g : Int) - 1 < 0 by omega), vM_readTerm_76, w32_i (by omega) (by omega), if_pos (show 16 < (sz v : Int) - 1 + ((sz g : Int) - 1) by omega), vM_readTerm_84, mGF m488, mbadAt, aVC, tlS, vM_readTerm_90, aZ0]
          exact MPO_bad (f' := 4) rfl L2 (XF_tr F2 p5) rfl
        rw [s91 hz, if_pos hz]
        have q3 := mclear (d := k + 13) (ρ := ρ2) (D := E) m517 (by decide) (by decide)
        have oJ : pOK (tF (sA X)) (pJ (tF (sA X)) 0 v g) := ⟨pJ_in hO ov.1 r7.1, pJ_dle ov.2 r7.2 17 (by omega)⟩
        have f3 : ∀ q, q ≠ 517 → pD E 517 (rI p0) q = E q := fun q a => pD_ne a
        have sp : ∃ D3, Vl (k + 14) 218 98 [some (.inr (.inr (some 488))), some (.inl (t.2.1 : Int)), some (.inl ((sz v : Int) - 1)), some (.inl ((sz g : Int) - 1))] [] (hp (1, ρ2) (pD E 517 (rI p0))) = Vl (k + 14) 218 122 [some (.inr (.inr (some 488))), some (.inl (t.2.1 : Int)), some (.inl ((sz v : Int) - 1)), some (.inl ((sz g : Int) - 1))] [] (hp (1, ρ2) D3) ∧ PR D3 517 (pJ (tF (sA X)) 0 v g) ∧ ∀ q, q ≠ 497 → q ≠ 517 → D3 q = E q := by
          rw [vM_readTerm_98]
          by_cases c1 : (sz v : Int) - 1 < 0
          · rw [if_pos c1]
            refine ⟨_, rfl, ?_, fun q _ b => f3 q b⟩
            rw [sz_z ov.2 (show sz v = 0 by omega), pJ_z]
            exact pD_PR
          rw [if_neg c1, vM_readTerm_102]
          by_cases c2 : (sz g : Int) - 1 < 0
          · rw [if_pos c2]
            refine ⟨_, rfl, ?_, fun q _ b => f3 q b⟩
            rw [sz_z r7.2 (show sz g = 0 by omega)]
            unfold pJ
            rw [if_neg (by decide), pP_0r]
            exact pD_PR
          obtain ⟨D3, a1, a2, a3⟩ := mprod (d := k + 9) (ρ := ρ2) (D := pD E 517 (rI p0)) (Φ := tF (sA X)) (MF_cg p6.1.2.2.1 (f3 488 (by decide))) m515 m516 m517 (by decide) (by decide) (by decide) (by decide) (by decide) (by decide) (PR_ne (f3 515 (by decide)) p3) (PR_ne (f3 516 (by decide)) p4) ov.1 r7.1
          refine ⟨D3, ?_, ?_, fun q a b => by rw [a3 q b a, f3 q b]⟩
          · rw [if_neg c2, vM_readTerm_106]
            simp only [mGF m488, mr41, mr42, mr43]
            rw [a1, aVC, tlN]
          · unfold pJ; rw [if_neg (by decide)]; exact a2
        obtain ⟨D3, a1, a2, a3⟩ := sp
        have g3' : ∀ q, (q ≤ 496 ∨ 518 ≤ q) → D3 q = E q := fun q a => a3 q (by omega) (by omega)
        have hS3 : MST ρ2 D3 X t1 s w := MST_sc p6 g3'
        obtain ⟨E4, b1, b2, b3, b4, b5, b6⟩ := mput (k := k + 12) hS3 m517 (by decide) a2 (by omega)
        have F4 : XF D E4 := XF_tr F2 (XF_tr p5 (XF_tr (XF_sc g3') b2))
        have ih := mterm_loop hs hw hs3 P m (pJ (tF (sA X)) 0 v g) t1 ρ2 E4 (some (.inl (t.2.1 : Int))) (some (.inl ((sz v : Int) - 1))) (some (.inl ((sz g : Int) - 1))) b3 b5 oJ (fun z => by have := r10 (by omega); omega) (by omega) (fun z => by have := r10 z; omega)
        have st : Vl (k + 14) 218 91 [some (.inr (.inr (some 488))), some (.inl (t.2.1 : Int)), some (.inl ((sz v : Int) - 1)), some (.inl ((sz g : Int) - 1))] [] (hp (1, ρ2) E) = Vl (k + 14) 218 9 [some (.inr (.inr (some 488))), some (.inl (t.2.1 : Int)), some (.inl ((sz v : Int) - 1)), some (.inl ((sz g : Int) - 1))] [] (hp (1, ρ2) E4) := by
          rw [vM_readTerm_91]
          simp only [mGF m488, mr43]
          rw [q3, aVC, tlN, a1, vM_readTerm_122]
          simp only [mGF m488, mr43]
          rw [b1, aVC, tlN, vM_readTerm_130]
        rw [st]
        cases hq : tmL X sub m (pJ (tF (sA X)) 0 v g) t1 with
        | inl e =>
          rw [hq] at ih
          exact MPO_er ih L2 F4 (fun _ _ z => z)
        | inr rr =>
          rw [hq] at ih
          obtain ⟨ρ6, D6, c1, c2, c3, c4, c5, c6, c7, c8, c9⟩ := ih
          exact ⟨ρ6, D6, c1, LX_tr L2 c2, XF_tr F4 c3, by rw [c4, b4, g3' 488 (by decide), p7, r4, g3.2 37 (by decide)], c5, c6, c7, fun b hb => by rw [c8 b hb, b6 b hb, a3 514 (by decide) (by decide), p8, r8 b (by omega), g3.1 514 (by decide)], c9⟩
end MEX4
