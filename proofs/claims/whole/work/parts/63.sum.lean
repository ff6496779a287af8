/-! The class's Reader: terms, sums -/
section EX5
variable {d : Nat} {ω : jw} {D D' D2 : jD} {X : sx} {t : tk} {B B' : Nat} {Φ : gF}
theorem PO_pre {r : pr} {run : Option jr} {cell : Nat} (h : EF D D' B) (p : PO ω D' B cell Φ r run) : PO ω D B cell Φ r run := by
  cases r with
  | inl e =>
    obtain ⟨D2, q1, q2, q3, q4⟩ := p
    exact ⟨D2, q1, q2, q3, EQ_trans h.1 q4 (Nat.le_refl _)⟩
  | inr r =>
    obtain ⟨D2, q1, q2, q3, q4, q5⟩ := p
    exact ⟨D2, q1, q2, q3, q4, EF_trans h q5 (Nat.le_refl _)⟩
theorem term_loop {dp : Nat} {sub : Option (tk → pr)} (hs : SUBA ω X d dp sub) (hd : dp < 7) : ∀ (n k : Nat) (v : pl) (t : tk) (D : jD) (u4 : Option jv), k + n = 540 → EV D X → TKD D t → PR D (216 + 9 * dp + 4) v → pOK (tF (sA X)) v → PO ω D (216 + 9 * dp + 3) (216 + 9 * dp + 4) (tF (sA X)) (tmL X sub n v t) (Vl (d + 9) 50 29 [some (.inr (.inr (some 111))), some (.inl (dp : Int)), some (.inr (.inr (some (216 + 9 * dp)))), some (.inl (k : Int)), u4] [] (hp ω D))
  | 0, k, v, t, D, u4, hk, hE, hT, RV, oV => by
    refine ⟨D, ?_, RV, oV, hT, EF_refl⟩
    rw [vR_term_29, if_neg (by omega), vR_term_101, aZ1]
  | n + 1, k, v, t, D, u4, hk, hE, hT, RV, oV => by
    have v0 := isV6 hd
    rw [vR_term_29, if_pos (show (k : Int) < 540 by omega), vR_term_36, aGF kR, hD, hT.1]
    unfold tmL
    by_cases h1 : t.1 = 42
    rotate_left
    · rw [if_neg h1, if_neg (show ¬ (t.1 : Int) = 42 by omega), vR_term_101, aZ1]
      exact ⟨D, rfl, RV, oV, hT, EF_refl⟩
    rw [if_pos h1, if_pos (show (t.1 : Int) = 42 by omega), vR_term_45, aGF kR, aGF kR, hD, hT.2.1, scanX (d := d + 6) hE hT, aVC, tlN, vR_term_55, aGF kR]
    have e1 : EF D (sT D (nx X t)) (216 + 9 * dp + 5) := EF_sT
    have hE1 := EV_EF hE e1
    have p := power_spec (ω := ω) (d := d) (D := sT D (nx X t)) (t := nx X t) hs hd hE1 sT_TKD
    cases hr : pwP X sub (nx X t) with
    | inl e =>
      rw [hr] at p
      refine PO_fr p e1 (by omega) (by omega) (fun D2 q => ?_)
      rw [q, aVC, tlS, vR_term_60, if_pos j00, vR_term_63, aZ0]
    | inr r =>
      rw [hr] at p
      obtain ⟨g, t1⟩ := r
      obtain ⟨D2, a1, a2, a3, a4, a5⟩ := p
      dsimp only at a2 a3 a4 ⊢
      have e2 : EF D D2 (216 + 9 * dp + 3) := EF_mono (EF_trans e1 a5 (Nat.le_refl _)) (by omega)
      have hE2 := EV_EF hE e2
      have RV2 : PR D2 (216 + 9 * dp + 3 + 1) v := PR_ne (by rw [a5.1 _ (by omega) (by omega), sT_ne (by omega)]) RV
      rw [a1, aVC, tlS, vR_term_60, if_neg j10, vR_term_65, aGF kR, aGF (kV v0), aGF (kV v0), aGF (kV v0), rR_4, aGF kR_4, rV_1 v0, rV_2 v0]
      by_cases h2 : sz v = 0 ∨ sz g = 0 ∨ sz v + sz g ≤ 18
      · obtain ⟨D3, b1, b2, b3⟩ := multiply_spec (ω := ω) (d := d + 6) tK_173 hE2.2.2.2.1 (pV_3 v0) (pV_5 v0) (pV_3 v0) (by omega) (by omega) (by omega) (by omega) RV2 a2 oV a3 h2
        have e3 : EF D2 D3 (216 + 9 * dp + 3) := ⟨fun q hq z => b3 q (by omega) (by omega) (by omega), fun j _ => by rw [b3 111 (by omega) (by omega) (by omega)]⟩
        have o3 : pOK (tF (sA X)) (pJ (tF (sA X)) 0 v g) := ⟨pJ_in hE.2.2.1.1 oV.1 a3.1, pJ_dle oV.2 a3.2 17 (by have := sz_le v; have := sz_le g; omega)⟩
        have hT3 : TKD D3 t1 := by
          unfold TKD at a4 ⊢
          rw [b3 111 (by omega) (by omega) (by omega)]; exact a4
        have p2 := term_loop hs hd n (k + 1) (pJ (tF (sA X)) 0 v g) t1 D3 (some (.inl (t.2.1 : Int))) (by omega) (EV_EF hE2 e3) hT3 b2 o3
        rw [if_pos h2, b1, aVC, tlS, vR_term_84, if_neg j10, vR_term_95, w32_s (by omega)]
        exact PO_pre (EF_trans e2 e3 (Nat.le_refl _)) p2
      · rw [if_neg h2, multiply_no (d := d + 6) (out := 216 + 9 * dp + 3) tK_173 (pV_3 v0) (pV_5 v0) RV2 a2 (by omega) (by omega) (by omega), aVC, tlS, vR_term_84, if_pos j00, vR_term_87, aGF kR, refuse_spec, aVC, tlS, vR_term_94, aZ0]
        exact PO_bad e2 rfl
theorem term_spec {dp : Nat} {sub : Option (tk → pr)} (hs : SUBA ω X d dp sub) (hd : dp < 7) (hE : EV D X) (hT : TKD D t) : PO ω D (216 + 9 * dp + 3) (216 + 9 * dp + 4) (tF (sA X)) (tmP X sub t) (Vl (d + 9) 50 0 [some (.inr (.inr (some 111))), some (.inl (dp : Int)), none, none, none] [] (hp ω D)) := by
  have v0 := isV6 hd
  have p := power_spec (ω := ω) (d := d) hs hd hE hT
  rw [vR_term_0, aGF kR, level_spec hd, aVC, tlS, vR_term_5, aGF kR]
  unfold tmP
  cases hr : pwP X sub t with
  | inl e =>
    rw [hr] at p
    refine PO_fr p (EF_refl (B := 216 + 9 * dp + 3)) (Nat.le_refl _) (by omega) (fun D2 q => ?_)
    rw [q, aVC, tlS, vR_term_11, if_pos j00, vR_term_14, aZ0]
  | inr r =>
    rw [hr] at p
    obtain ⟨v, t1⟩ := r
    obtain ⟨D2, a1, a2, a3, a4, a5⟩ := p
    dsimp only at a2 a3 a4 ⊢
    have e2 : EF D (pD D2 (216 + 9 * dp + 3 + 1) (rI v)) (216 + 9 * dp + 3) := EF_trans (EF_mono a5 (by omega)) (EF_pD (by omega) (by omega) (by omega) (by omega) (by omega) (by omega) (by omega)) (Nat.le_refl _)
    have p2 := term_loop (ω := ω) (d := d) hs hd 540 0 v t1 (pD D2 (216 + 9 * dp + 3 + 1) (rI v)) none (by omega) (EV_EF hE e2) (TKD_pD a4 (by omega)) pD_PR a3
    rw [a1, aVC, tlS, vR_term_11, if_neg j10, vR_term_16, aGF (kV v0), aGF (kV v0), rV_1 v0, rV_2 v0, aGF (kP (pV_3 v0)), copyF (pV_3 v0) (pV_5 v0) a2, aVC, tlN, vR_term_27]
    exact PO_pre e2 p2
theorem sum_loop {dp : Nat} {sub : Option (tk → pr)} (hs : SUBA ω X d dp sub) (hd : dp < 7) : ∀ (n k : Nat) (a : pl) (t : tk) (D : jD), k + n = 540 → EV D X → TKD D t → PR D (216 + 9 * dp + 2) a → pOK (tF (sA X)) a → PO ω D (216 + 9 * dp) (216 + 9 * dp + 2) (tF (sA X)) (smL X sub n a t) (Vl (d + 10) 47 15 [some (.inr (.inr (some 111))), some (.inl (dp : Int)), some (.inr (.inr (some (216 + 9 * dp)))), some (.inl (k : Int))] [] (hp ω D))
  | 0, k, a, t, D, hk, hE, hT, RA, oA => by
    rw [vR_sum_15, if_neg (by omega), vR_sum_64, aGF kR, aGF kR, hD, hT.2.1, refuse_spec, aVC, tlS, vR_sum_73, aZ0]
    exact PO_bad (D' := D) EF_refl rfl
  | n + 1, k, a, t, D, hk, hE, hT, RA, oA => by
    have v0 := isV6 hd
    rw [vR_sum_15, if_pos (show (k : Int) < 540 by omega), vR_sum_22, aGF kR]
    unfold smL
    have p := term_spec (ω := ω) (d := d) hs hd hE hT
    cases hr : tmP X sub t with
    | inl e =>
      rw [hr] at p
      refine PO_fr p (EF_refl (B := 216 + 9 * dp)) (Nat.le_refl _) (by omega) (fun D2 q => ?_)
      rw [q, aVC, tlS, vR_sum_27, if_pos j00, vR_sum_30, aZ0]
    | inr r =>
      rw [hr] at p
      obtain ⟨v, t1⟩ := r
      obtain ⟨D2, a1, a2, a3, a4, a5⟩ := p
      dsimp only at a2 a3 a4 ⊢
      have RA2 : PR D2 (216 + 9 * dp + 1 + 1) a := PR_ne (a5.1 _ (by omega) (by omega)) RA
      have q1 := addF (ω := ω) (D := D2) (d := d + 9) hE.2.2.1.1 (pV_1 v0) (pV_3 v0) RA2 a2 oA.1 a3.1
      have oS : pOK (tF (sA X)) (pA a v) := ⟨pA_in oA.1 a3.1, pA_dle oA.2 a3.2⟩
      have e2 : EF D (pD D2 (216 + 9 * dp + 1 + 1) (rI (pA a v))) (216 + 9 * dp) := EF_trans (EF_mono a5 (by omega)) (EF_pD (by omega) (by omega) (by omega) (by omega) (by omega) (by omega) (by omega)) (Nat.le_refl _)
      have hE2 := EV_EF hE e2
      have hT2 : TKD (pD D2 (216 + 9 * dp + 1 + 1) (rI (pA a v))) t1 := TKD_pD a4 (by omega)
      rw [a1, aVC, tlS, vR_sum_27, if_neg j10, vR_sum_32, aGF (kV v0), aGF (kV v0), rV_0 v0, rV_1 v0, aGF (kP (pV_1 v0)), q1, aVC, tlN, vR_sum_43, aGF kR, hD, hT2.1]
      by_cases h1 : t1.1 = 43
      · have e3 : EF D (sT (pD D2 (216 + 9 * dp + 1 + 1) (rI (pA a v))) (nx X t1)) (216 + 9 * dp) := EF_trans e2 EF_sT (Nat.le_refl _)
        have p2 := sum_loop hs hd n (k + 1) (pA a v) (nx X t1) (sT (pD D2 (216 + 9 * dp + 1 + 1) (rI (pA a v))) (nx X t1)) (by omega) (EV_EF hE e3) sT_TKD (PR_ne (sT_ne (by omega)) pD_PR) oS
        rw [if_pos h1, if_pos (show (t1.1 : Int) = 43 by omega), vR_sum_54, aGF kR, scanX (d := d + 7) hE2 hT2, aVC, tlN, vR_sum_58, w32_s (by omega)]
        exact PO_pre e3 p2
      · rw [if_neg h1, if_neg (show ¬ (t1.1 : Int) = 43 by omega), vR_sum_52, aZ1]
        exact ⟨_, rfl, pD_PR, oS, hT2, e2⟩
theorem sum_spec {dp : Nat} {sub : Option (tk → pr)} (hs : SUBA ω X d dp sub) (hd : dp < 7) (hE : EV D X) (hT : TKD D t) : PO ω D (216 + 9 * dp) (216 + 9 * dp + 2) (tF (sA X)) (smP X sub t) (Vl (d + 10) 47 0 [some (.inr (.inr (some 111))), some (.inl (dp : Int)), none, none] [] (hp ω D)) := by
  have v0 := isV6 hd
  have e1 : EF D (pD D (216 + 9 * dp + 1 + 1) (rI p0)) (216 + 9 * dp) := EF_pD (by omega) (by omega) (by omega) (by omega) (by omega) (by omega) (by omega)
  have p := sum_loop (ω := ω) (d := d) hs hd 540 0 p0 t (pD D (216 + 9 * dp + 1 + 1) (rI p0)) (by omega) (EV_EF hE e1) (TKD_pD hT (by omega)) pD_PR ⟨p0_in _, p0_dle 17⟩
  rw [vR_sum_0, aGF kR, level_spec hd, aVC, tlS, vR_sum_5, aGF (kV v0), rV_0 v0, aGF (kP (pV_1 v0)), clearF (pV_1 v0), aVC, tlN, vR_sum_13]
  exact PO_pre e1 p
/-- a sum, by the depth that is left -/
theorem smN_spec (X : sx) : ∀ (n dp d : Nat), n + dp = 6 → ∀ (D : jD) (t : tk), EV D X → TKD D t → PO ω D (216 + 9 * dp) (216 + 9 * dp + 2) (tF (sA X)) (smN X n t) (Vl (d + 6 * n + 10) 47 0 [some (.inr (.inr (some 111))), some (.inl (dp : Int)), none, none] [] (hp ω D))
  | 0, dp, d, h, D, t, hE, hT => sum_spec (sub := none) (fun e => show dp = 6 by omega) (by omega) hE hT
  | n + 1, dp, d, h, D, t, hE, hT => by
    refine sum_spec (sub := some (smN X n)) (d := d + 6 * (n + 1)) (fun e => ?_) (by omega) hE hT
    refine ⟨by omega, fun D t hE hT => ?_⟩
    have p := smN_spec X n (dp + 1) (d + e) (by omega) D t hE hT
    rw [show d + 6 * (n + 1) + e + 4 = d + e + 6 * n + 10 by omega]
    exact p
end EX5
