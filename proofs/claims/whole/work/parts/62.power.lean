/-! The class's Reader: atoms, powers, terms, sums -/
def pwP (X : sx) (sub : Option (tk → pr)) (t : tk) : pr := match atP X sub t with
  | .inl e => .inl e
  | .inr (v, t1) => if t1.1 = 94 then (if (nx X t1).1 = 257 then (if (nx X t1).2.2.1 ≤ 16 then (if (sz v - 1) * (nx X t1).2.2.1 ≤ 16 then .inr (pw (tF (sA X)) v (nx X t1).2.2.1, nx X (nx X t1)) else .inl (4, t1.2.1)) else .inl (2, (nx X t1).2.1)) else .inl (1, (nx X t1).2.1)) else .inr (v, t1)
def tmL (X : sx) (sub : Option (tk → pr)) : Nat → pl → tk → pr
  | 0, v, t => .inr (v, t)
  | n + 1, v, t => if t.1 = 42 then (match pwP X sub (nx X t) with
    | .inl e => .inl e
    | .inr (g, t1) => if sz v = 0 ∨ sz g = 0 ∨ sz v + sz g ≤ 18 then tmL X sub n (pJ (tF (sA X)) 0 v g) t1 else .inl (4, t.2.1)) else .inr (v, t)
def tmP (X : sx) (sub : Option (tk → pr)) (t : tk) : pr := match pwP X sub t with
  | .inl e => .inl e
  | .inr (v, t1) => tmL X sub 540 v t1
def smL (X : sx) (sub : Option (tk → pr)) : Nat → pl → tk → pr
  | 0, _, t => .inl (1, t.2.1)
  | n + 1, a, t => match tmP X sub t with
    | .inl e => .inl e
    | .inr (v, t1) => if t1.1 = 43 then smL X sub n (pA a v) (nx X t1) else .inr (pA a v, t1)
def smP (X : sx) (sub : Option (tk → pr)) (t : tk) : pr := smL X sub 540 p0 t
/-- a sum, n brackets deep at most -/
def smN (X : sx) : Nat → tk → pr
  | 0 => smP X none
  | n + 1 => smP X (some (smN X n))
section EX4
variable {d : Nat} {ω : jw} {D D' D2 : jD} {X : sx} {t : tk} {B B' : Nat} {Φ : gF}
theorem mono_8 (h : FOK Φ) {c k : Nat} (hc : c < 2 ^ Φ.1) (hk : k < 17) : pOK Φ (mono c k) := ⟨mono_in hc k, dle_mono (mono_dle c k) (by omega)⟩
theorem one_lt (h : FOK Φ) : 1 < 2 ^ Φ.1 := by
  have : 2 ^ 1 ≤ 2 ^ Φ.1 := Nat.pow_le_pow_right (by decide) (F_m1 h)
  omega
theorem wordAtom_spec {dp : Nat} {sub : Option (tk → pr)} (hs : SUBOK ω X (d + 4) dp sub) (hd : dp < 7) (hE : EV D X) (hT : TKD D t) : PO ω D (216 + 9 * dp + 5) (216 + 9 * dp + 6) (tF (sA X)) (waP X sub t) (Vl (d + 6) 55 0 [some (.inr (.inr (some 111))), some (.inl (dp : Int)), none, none] [] (hp ω D)) := by
  have v0 := isV6 hd
  have st : Vl (d + 6) 55 0 [some (.inr (.inr (some 111))), some (.inl (dp : Int)), none, none] [] (hp ω D) = Vl (d + 6) 55 7 [some (.inr (.inr (some 111))), some (.inl (dp : Int)), none, none] [.inl (kw t.2.2.1)] (hp ω D) := by
    rw [vR_wordAtom_0, aGF kR, hD, hT.2.2.1, keyword_spec, aVC, tlS]
  have fin : ∀ (E : jD) (u : Option jv) (y : Int) (v : pl), EV E X → TKD E t → EF D E (216 + 9 * dp + 5) → PR E (216 + 9 * dp + 6) v → pOK (tF (sA X)) v → PO ω D (216 + 9 * dp + 5) (216 + 9 * dp + 6) (tF (sA X)) (.inr (v, nx X t)) (Vl (d + 6) 55 96 [some (.inr (.inr (some 111))), some (.inl (dp : Int)), some (.inl y), u] [] (hp ω E)) := fun E u y v e1 e2 e3 e4 e5 => by
    refine ⟨sT E (nx X t), ?_, PR_ne (sT_ne (by omega)) e4, e5, sT_TKD, EF_trans e3 EF_sT (Nat.le_refl _)⟩
    rw [vR_wordAtom_96, aGF kR, scanX (d := d + 3) e1 e2, aVC, tlN, vR_wordAtom_100, aZ1]
  rw [st, vR_wordAtom_7]
  unfold waP
  by_cases h4 : 4 ≤ kw t.2.2.1
  · rw [if_pos h4, if_neg (show ¬ kw t.2.2.1 < 4 by omega), vR_wordAtom_13, aGF kR]
    have p := what_spec (ω := ω) (d := d) h4 hs hd hE hT
    cases hr : whP X sub (kw t.2.2.1) t with
    | inl e =>
      rw [hr] at p
      refine PO_fr p (EF_refl (B := 216 + 9 * dp + 5)) (Nat.le_refl _) (Nat.le_refl _) (fun D2 q => ?_)
      rw [q, aVC, tlS, vR_wordAtom_19, aZ0]
    | inr r =>
      rw [hr] at p
      obtain ⟨D2, a1, a2⟩ := p
      refine ⟨D2, ?_, a2⟩
      rw [a1, aVC, tlS, vR_wordAtom_19, aZ1]
  rw [if_neg h4, if_pos (show kw t.2.2.1 < 4 by omega), vR_wordAtom_20]
  by_cases h3 : kw t.2.2.1 = 3
  · rw [if_pos h3, if_pos h3, vR_wordAtom_25, aGF kR, level_spec hd, aVC, tlS, vR_wordAtom_30, aGF (kV v0), rV_2 v0, aGF (kP (pV_5 v0)), letterF (d := d + 4) (pV_5 v0), aVC, tlN, vR_wordAtom_36]
    have e1 : EF D (pD D (216 + 9 * dp + 5 + 1) (rI (mono 1 1))) (216 + 9 * dp + 5) := EF_pD (by omega) (by omega) (by omega) (by omega) (by omega) (by omega) (by omega)
    exact fin _ _ _ _ (EV_EF hE e1) (TKD_pD hT (by omega)) e1 pD_PR (mono_8 hE.2.2.1.1 (one_lt hE.2.2.1.1) (by decide))
  rw [if_neg h3, if_neg h3, vR_wordAtom_39]
  by_cases h1 : kw t.2.2.1 = -1
  rotate_left
  · rw [if_neg h1, if_neg h1, vR_wordAtom_44, aGF kR, aGF kR, hD, hT.2.1, refuse_spec, aVC, tlS, vR_wordAtom_53, aZ0]
    exact PO_bad (D' := D) EF_refl rfl
  rw [if_pos h1, if_pos h1]
  have hT112 := hE.2.1
  have hO := hE.2.2.1
  have q1 := nameOf_spec (ω := ω) (D := D) (d := d + 5) (c := t.2.2.1) hO.2.1 hT112.2.1 hE.2.2.2.2
  have q2 := named_spec (ω := ω) (D := D) (d := d + 5) tT_112 hO.2.1 hT112.2.1 (x := nix (sC X) t.2.2.1 (tN (sA X)) 0)
  have hr := nix_rng (sC X) t.2.2.1 (tN (sA X)) 0
  rw [vR_wordAtom_54, aGF kR, aGF kR, hD, hT.2.2.1, aGF kR, q1, aVC, tlS, rR_0, vR_wordAtom_66, aGF kR_0, q2, aVC, tlS, vR_wordAtom_69]
  by_cases h0 : nix (sC X) t.2.2.1 (tN (sA X)) 0 = -1
  · rw [if_pos h0, if_neg (by omega)]
    show PO ω D _ _ _ _ (Vl (d + 6) 55 74 _ [] _)
    rw [vR_wordAtom_74, aGF kR, aGF kR, hD, hT.2.1, refuse_spec, aVC, tlS, vR_wordAtom_83, aZ0]
    exact PO_bad (D' := D) EF_refl rfl
  · obtain ⟨j, -, hj, ej⟩ := hr.resolve_left h0
    have hN := hO.2.1
    rw [if_neg h0, ej, if_pos (by omega), Int.toNat_natCast]
    show PO ω D _ _ _ _ (Vl (d + 6) 55 84 _ [] _)
    have hp := pT_1 (i := j) tT_112 (by omega)
    have RJ := hT112.2.2.2.2.1 j (by omega)
    rw [show 112 + 3 + 2 * j = 112 + 2 + 2 * j + 1 by omega] at RJ
    have q3 := copyF (ω := ω) (D := D) (d := d + 5) (pV_5 v0) hp RJ
    rw [vR_wordAtom_84, aGF kR, level_spec hd, aVC, tlS, vR_wordAtom_89, aGF (kV v0), rV_2 v0, aGF (kP (pV_5 v0)), q3, aVC, tlN]
    have e1 : EF D (pD D (216 + 9 * dp + 5 + 1) (rI (tn (sA X) j))) (216 + 9 * dp + 5) := EF_pD (by omega) (by omega) (by omega) (by omega) (by omega) (by omega) (by omega)
    exact fin _ _ _ _ (EV_EF hE e1) (TKD_pD hT (by omega)) e1 pD_PR (hO.2.2.2.2.1 j (by omega))
theorem atom_spec {dp : Nat} {sub : Option (tk → pr)} (hs : SUBA ω X d dp sub) (hd : dp < 7) (hE : EV D X) (hT : TKD D t) : PO ω D (216 + 9 * dp + 5) (216 + 9 * dp + 6) (tF (sA X)) (atP X sub t) (Vl (d + 7) 52 0 [some (.inr (.inr (some 111))), some (.inl (dp : Int))] [] (hp ω D)) := by
  have v0 := isV6 hd
  have hF := hE.2.2.2.1
  have h256 := F_256 hF.1
  rw [vR_atom_0, aGF kR, hD, hT.1]
  unfold atP
  by_cases h1 : t.1 = 40
  · rw [if_pos (show (t.1 : Int) = 40 by omega), if_pos h1, vR_atom_9, aGF kR]
    have p := bracket_spec (k := 0) (ω := ω) (d := d + 1) (hs 1) hd hE hT
    cases hr : brP X sub t with
    | inl e =>
      rw [hr] at p
      refine PO_fr p (EF_refl (B := 216 + 9 * dp + 5)) (Nat.le_refl _) (Nat.le_refl _) (fun D2 q => ?_)
      rw [q, aVC, tlS, vR_atom_14, aZ0]
    | inr r =>
      rw [hr] at p
      obtain ⟨D2, a1, a2⟩ := p
      refine ⟨D2, ?_, a2⟩
      rw [a1, aVC, tlS, vR_atom_14, aZ1]
  rw [if_neg (show ¬ (t.1 : Int) = 40 by omega), if_neg h1, vR_atom_15, aGF kR, hD, hT.1]
  by_cases h2 : t.1 = 256
  · rw [if_pos (show (t.1 : Int) = 256 by omega), if_pos h2, vR_atom_25, aGF kR]
    have p := wordAtom_spec (ω := ω) (d := d) (hs 0) hd hE hT
    cases hr : waP X sub t with
    | inl e =>
      rw [hr] at p
      refine PO_fr p (EF_refl (B := 216 + 9 * dp + 5)) (Nat.le_refl _) (Nat.le_refl _) (fun D2 q => ?_)
      rw [q, aVC, tlS, vR_atom_30, aZ0]
    | inr r =>
      rw [hr] at p
      obtain ⟨D2, a1, a2⟩ := p
      refine ⟨D2, ?_, a2⟩
      rw [a1, aVC, tlS, vR_atom_30, aZ1]
  rw [if_neg (show ¬ (t.1 : Int) = 256 by omega), if_neg h2]
  have e4 : D 174 4 = ((2 ^ (tF (sA X)).1 : Nat) : Int) := hF.2.2.2.2.2.1
  have hpos := Nat.two_pow_pos (tF (sA X)).1
  have q1 := isNumber_spec (ω := ω) (d := d + 5) hT (lo := 0) (hi := ((2 ^ (tF (sA X)).1 : Nat) : Int) - 1)
  rw [vR_atom_31, aGF kR, rR_4, aGF kR_4, rK_0 tK_173, aGF (kF tF_174), aGF kR, hD, e4, show w32 (((2 ^ (tF (sA X)).1 : Nat) : Int) - 1) = ((2 ^ (tF (sA X)).1 : Nat) : Int) - 1 from by unfold w32; omega, q1]
  by_cases h3 : t.1 = 257
  rotate_left
  · rw [if_neg h3, if_neg h3, aVC, tlS, vR_atom_48, if_pos j00, vR_atom_51, aZ0]
    exact PO_bad (D' := D) EF_refl rfl
  rw [if_pos h3, if_pos h3]
  by_cases h4 : t.2.2.1 < 2 ^ (tF (sA X)).1
  rotate_left
  · rw [if_neg h4, if_neg (by omega), aVC, tlS, vR_atom_48, if_pos j00, vR_atom_51, aZ0]
    exact PO_bad (D' := D) EF_refl rfl
  rw [if_pos h4, if_pos (by omega), aVC, tlS, vR_atom_48, if_neg j10, vR_atom_53, aGF kR, level_spec hd, aVC, tlS, vR_atom_58, aGF (kV v0), aGF kR, rV_2 v0, hD, hT.2.2.1, aGF (kP (pV_5 v0)), constantF (d := d + 5) (pV_5 v0), aVC, tlN, vR_atom_68, aGF kR]
  have e1 : EF D (pD D (216 + 9 * dp + 5 + 1) (rI (mono t.2.2.1 0))) (216 + 9 * dp + 5) := EF_pD (by omega) (by omega) (by omega) (by omega) (by omega) (by omega) (by omega)
  refine ⟨sT (pD D (216 + 9 * dp + 5 + 1) (rI (mono t.2.2.1 0))) (nx X t), ?_, PR_ne (sT_ne (by omega)) pD_PR, mono_8 hF.1 h4 (by decide), sT_TKD, EF_trans e1 EF_sT (Nat.le_refl _)⟩
  rw [scanX (d := d + 4) (EV_EF hE e1) (TKD_pD hT (by omega)), aVC, tlN, vR_atom_72, aZ1]
theorem power_spec {dp : Nat} {sub : Option (tk → pr)} (hs : SUBA ω X d dp sub) (hd : dp < 7) (hE : EV D X) (hT : TKD D t) : PO ω D (216 + 9 * dp + 5) (216 + 9 * dp + 6) (tF (sA X)) (pwP X sub t) (Vl (d + 8) 51 0 [some (.inr (.inr (some 111))), some (.inl (dp : Int)), none, none] [] (hp ω D)) := by
  have v0 := isV6 hd
  have p := atom_spec (ω := ω) (d := d) hs hd hE hT
  rw [vR_power_0, aGF kR]
  unfold pwP
  cases hr : atP X sub t with
  | inl e =>
    rw [hr] at p
    refine PO_fr p (EF_refl (B := 216 + 9 * dp + 5)) (Nat.le_refl _) (Nat.le_refl _) (fun D2 q => ?_)
    rw [q, aVC, tlS, vR_power_5, if_pos j00, vR_power_8, aZ0]
  | inr r =>
    rw [hr] at p
    obtain ⟨v, t1⟩ := r
    obtain ⟨D2, a1, a2, a3, a4, a5⟩ := p
    dsimp only at a2 a3 a4 ⊢
    have hE2 : EV D2 X := EV_EF hE a5
    rw [a1, aVC, tlS, vR_power_5, if_neg j10, vR_power_10, aGF kR, hD, a4.1]
    by_cases h1 : t1.1 = 94
    rotate_left
    · rw [if_neg (show ¬ (t1.1 : Int) = 94 by omega), if_neg h1, vR_power_19, aZ1]
      exact ⟨D2, rfl, a2, a3, a4, a5⟩
    rw [if_pos (show (t1.1 : Int) = 94 by omega), if_pos h1, vR_power_21, aGF kR, aGF kR, hD, a4.2.1, scanX (d := d + 5) hE2 a4, aVC, tlN, vR_power_30, aGF kR]
    have e1 : EF D (sT D2 (nx X t1)) (216 + 9 * dp + 5) := EF_trans a5 EF_sT (Nat.le_refl _)
    have hE3 : EV (sT D2 (nx X t1)) X := EV_EF hE e1
    have hT3 : TKD (sT D2 (nx X t1)) (nx X t1) := sT_TKD
    rw [isNumber_spec (d := d + 6) hT3]
    by_cases h2 : (nx X t1).1 = 257
    rotate_left
    · rw [if_neg h2, if_neg h2, aVC, tlS, vR_power_37, if_pos j00, vR_power_40, aZ0]
      exact PO_bad (D' := sT D2 (nx X t1)) e1 rfl
    rw [if_pos h2, if_pos h2]
    by_cases h3 : (nx X t1).2.2.1 ≤ 16
    rotate_left
    · rw [if_neg h3, if_neg (show ¬ ((0 : Int) ≤ ((nx X t1).2.2.1 : Int) ∧ ((nx X t1).2.2.1 : Int) ≤ 16) by omega), aVC, tlS, vR_power_37, if_pos j00, vR_power_40, aZ0]
      exact PO_bad (D' := sT D2 (nx X t1)) e1 rfl
    rw [if_pos h3, if_pos (show ((0 : Int) ≤ ((nx X t1).2.2.1 : Int) ∧ ((nx X t1).2.2.1 : Int) ≤ 16) by omega), aVC, tlS, vR_power_37, if_neg j10, vR_power_42, aGF kR, aGF kR, hD, hT3.2.2.1, scanX (d := d + 5) hE3 hT3, aVC, tlN, vR_power_51, aGF kR, aGF kR, rR_4, level_spec hd, aVC, tlS, vR_power_60, aGF (kV v0), aGF kR_4, rV_2 v0]
    have e2 : EF D (sT (sT D2 (nx X t1)) (nx X (nx X t1))) (216 + 9 * dp + 5) := EF_trans e1 EF_sT (Nat.le_refl _)
    have hE4 := EV_EF hE e2
    have R4 : PR (sT (sT D2 (nx X t1)) (nx X (nx X t1))) (216 + 9 * dp + 5 + 1) v := PR_ne (by rw [sT_ne (by omega), sT_ne (by omega)]) a2
    by_cases h5 : (sz v - 1) * (nx X t1).2.2.1 ≤ 16
    · obtain ⟨D5, b1, b2, b3⟩ := raise_spec (ω := ω) (d := d + 4) tK_173 hE4.2.2.2.1 (pV_5 v0) (by omega) (by omega) (by omega) R4 a3 h3 h5
      rw [if_pos h5, b1, aVC, tlS, vR_power_67, if_neg j10, vR_power_79, vR_power_84, aZ1]
      have e3 : EF (sT (sT D2 (nx X t1)) (nx X (nx X t1))) D5 (216 + 9 * dp + 5) := ⟨fun q hq z => b3 q (by omega) (by omega) (by omega) (by omega), fun j _ => by rw [b3 111 (by omega) (by omega) (by omega) (by omega)]⟩
      refine ⟨D5, rfl, b2, ⟨pw_in hE.2.2.1.1 a3 _, (pw_sz a3 _ h5).1⟩, ?_, EF_trans e2 e3 (Nat.le_refl _)⟩
      have hT5 : TKD (sT (sT D2 (nx X t1)) (nx X (nx X t1))) (nx X (nx X t1)) := sT_TKD
      unfold TKD at hT5 ⊢
      rw [b3 111 (by omega) (by omega) (by omega) (by omega)]; exact hT5
    · rw [if_neg h5, raise_no (d := d + 6) (pV_5 v0) R4 h3 (by
        intro z; rw [z] at h5; exact h5 (by rw [Nat.zero_sub, Nat.zero_mul]; omega)) (by omega), aVC, tlS, vR_power_67, if_pos j00, vR_power_70, aGF kR, refuse_spec, aVC, tlS, vR_power_76, if_pos j00, vR_power_83, vR_power_84, aZ0]
      exact PO_bad e2 rfl
end EX4
