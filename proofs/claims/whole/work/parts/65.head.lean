/-! The class's Reader: the first LINES -/
def aF0 (Φ : gF) : aT := (Φ, 0, fun _ => p0, 0, fun _ => 0, 0, fun _ => p0, fun _ => 0)
def hdF (X : sx) (t : tk) : (Nat × Nat) ⊕ ((Nat × Nat) × tk) := if t.1 = 257 then (if 1 ≤ t.2.2.1 ∧ t.2.2.1 ≤ 8 then (if (nx X t).1 = 257 then (if 2 ^ t.2.2.1 ≤ (nx X t).2.2.1 ∧ (nx X t).2.2.1 < 2 ^ (t.2.2.1 + 1) then (if girr t.2.2.1 (nx X t).2.2.1 = true then .inr ((t.2.2.1, (nx X t).2.2.1), nx X t) else .inl (2, (nx X t).2.1)) else .inl (2, (nx X t).2.1)) else .inl (1, (nx X t).2.1)) else .inl (2, t.2.1)) else .inl (1, t.2.1)
def hdN (X : sx) (Φ : gF) (h : Nat) (t : tk) : (Nat × Nat) ⊕ (gF × tk) := if h = 0 then (match hdF X t with
    | .inl e => .inl e
    | .inr q => .inr ((q.1.1, q.1.2, Φ.2.2.1, Φ.2.2.2), q.2)) else if t.1 = 257 then (if t.2.2.1 < (if h = 1 then Φ.1 else 2 ^ Φ.1) then .inr ((if h = 1 then (Φ.1, Φ.2.1, t.2.2.1, Φ.2.2.2) else (Φ.1, Φ.2.1, Φ.2.2.1, t.2.2.1)), t) else .inl (2, t.2.1)) else .inl (1, t.2.1)
def hdL (X : sx) (Φ : gF) (h : Nat) (t : tk) : (Nat × Nat) ⊕ (gF × tk) := match hdN X Φ h (nx X t) with
  | .inl e => .inl e
  | .inr (Φ', t2) => match psW X 59 (nx X t2) with
    | .inl e => .inl e
    | .inr t3 => .inr (Φ', t3)
def GF (D D' : jD) : Prop := ∀ q, (q < 111 ∨ 279 ≤ q) → D' q = D q
def LSR (D : jD) (X : sx) (t : tk) (L nh : Nat) : Prop := EV D X ∧ TKD D t ∧ D 111 1 = (L : Int) ∧ D 111 11 = (nh : Int) ∧ D 111 2 = 0
abbrev sx0 (x : Nat → Nat) (len : Nat) (Φ : gF) (nm : Nat → Nat) : sx := (x, len, aF0 Φ, nm)
def HO (D : jD) (x : Nat → Nat) (len : Nat) (nm : Nat → Nat) (L h : Nat) (r : (Nat × Nat) ⊕ (gF × tk)) : Prop := match r with
  | .inl e => D 111 2 = (e.1 : Int) ∧ D 111 3 = (e.2 : Int) ∧ e.1 ≠ 0
  | .inr q => LSR D (sx0 x len q.1 nm) q.2 L h
section HEAD
variable {d : Nat} {ω : jw} {D D' D2 : jD} {X : sx} {t : tk} {Φ : gF} {x : Nat → Nat} {len : Nat} {nm : Nat → Nat}
theorem aF0_OK (h : FOK Φ) : TOK (aF0 Φ) := ⟨h, Nat.zero_le _, Nat.zero_le _, Nat.zero_le _, fun i hi => absurd hi (Nat.not_lt_zero _), fun i hi => absurd hi (Nat.not_lt_zero _), fun i hi => absurd hi (Nat.not_lt_zero _)⟩
theorem aF0_TS {b : Nat} (h0 : D b 0 = (Φ.1 : Int)) (h1 : D b 1 = (Φ.2.1 : Int)) (h2 : D b 2 = (Φ.2.2.1 : Int)) (h3 : D b 3 = (Φ.2.2.2 : Int)) (h4 : D b 4 = 0) (h5 : D b 5 = 0) (h6 : D b 6 = 0) : TS D b (aF0 Φ) := ⟨⟨h0, h1, h2, h3⟩, h4, h5, h6, fun i hi => absurd hi (Nat.not_lt_zero _), fun i hi => absurd hi (Nat.not_lt_zero _), fun i hi => absurd hi (Nat.not_lt_zero _)⟩
theorem GF_sF {f p : Int} (h : GF D D') : GF D (sF D' f p) := fun q hq => by unfold sF; rw [sD_ne (by omega), sD_ne (by omega), h q hq]
theorem GF_sT (h : GF D D') : GF D (sT D' t) := fun q hq => by rw [sT_ne (by omega), h q hq]
theorem GF_sD {c i : Nat} {v : Int} (h : GF D D') (hc : 111 ≤ c ∧ c < 279) : GF D (sD D' c i v) := fun q hq => by rw [sD_ne (by omega), h q hq]
theorem GF_rf : GF D D := fun _ _ => rfl
theorem GF_tr (h1 : GF D D') (h2 : GF D' D2) : GF D D2 := fun q hq => by rw [h2 q hq, h1 q hq]
theorem TKD_far {E : jD} (hT : TKD D t) (h : ∀ j, 12 ≤ j → E 111 j = D 111 j) : TKD E t := by
  unfold TKD at hT ⊢
  rw [h 12 (by decide), h 13 (by decide), h 14 (by decide), h 15 (by decide)]; exact hT
theorem endLine_spec (hE : EV D X) (hT : TKD D t) {L : Nat} (hL : L < 1000) (h1 : D 111 1 = (L : Int)) : Vl (d + 4) 42 0 [some (.inr (.inr (some 111)))] [] (hp ω D) = match psW X 59 t with
    | .inl e => some ((0, none), hp ω (sF D (e.1 : Int) (e.2 : Int)))
    | .inr t1 => some ((0, none), hp ω (sD (sT D t1) 111 1 ((L + 1 : Nat) : Int))) := by
  rw [vR_endLine_0, aGF kR, show (59 : Int) = ((59 : Nat) : Int) from rfl, passX hE hT]
  cases hw : psW X 59 t with
  | inl e =>
    show vC (some ((0, some (.inl 0)), _)) _ = _
    rw [aVC, tlS, vR_endLine_6, if_pos j00, vR_endLine_19]
  | inr t1 =>
    show vC (some ((0, some (.inl 1)), _)) _ = _
    have e1 : sT D t1 111 1 = (L : Int) := by rw [sT_far (by omega)]; exact h1
    rw [aVC, tlS, vR_endLine_6, if_neg j10, vR_endLine_9, aGF kR, aGF kR, hD, e1, aLt, hwD, vR_endLine_19, w32_s (by omega)]
theorem head_tail (hX : RX D x len) (hT : TKD D t) (hS : TS D 112 (aF0 Φ)) (hO : FOK Φ) {L h : Nat} (hL : L < 1000) (h1 : D 111 1 = (L : Int)) (h11 : D 111 11 = (h : Int)) (h2 : D 111 2 = 0) (y : Int) : ∃ D', Vl (d + 6) 35 76 [some (.inr (.inr (some 111))), some (.inl y)] [] (hp ω D) = some ((0, none), hp ω D') ∧ GF D D' ∧ HO D' x len nm (L + 1) h (match psW (sx0 x len Φ nm) 59 (nx (sx0 x len Φ nm) t) with
    | .inl e => .inl e
    | .inr t3 => .inr (Φ, t3)) := by
  obtain ⟨D1, q1, F1, f1⟩ := tellTo_spec (ω := ω) (D := D) (d := d + 2) (T := aF0 Φ) tT_112 tF_174 hO hS.1.1 hS.1.2.1 hS.1.2.2.1 hS.1.2.2.2
  have e111 : D1 111 = D 111 := f1 111 (by omega)
  have hE1 : EV D1 (sx0 x len Φ nm) := ⟨RX_cg hX (by rw [e111]) (f1 215 (by omega)), TS_fr (aF0_OK hO) hS (fun c a b => f1 c (by omega)), aF0_OK hO, F1, fun i hi => absurd hi (Nat.not_lt_zero _)⟩
  have hT1 : TKD D1 t := TKD_far hT (fun j _ => by rw [e111])
  have g1 : GF D D1 := fun q hq => f1 q (by omega)
  have hE2 : EV (sT D1 (nx (sx0 x len Φ nm) t)) (sx0 x len Φ nm) := EV_EF hE1 (EF_sT (B := 279))
  have q3 := endLine_spec (ω := ω) (d := d + 1) hE2 sT_TKD hL (by rw [sT_far (by omega), e111]; exact h1)
  rw [vR_headLine_76, aGF kR, aGF kR, rR_0, rR_4, aGF kR_4, rK_0 tK_173, aGF kR_0, q1, aVC, tlN, vR_headLine_90, aGF kR, scanX (d := d + 3) hE1 hT1, aVC, tlN, vR_headLine_94, aGF kR, q3]
  cases hw : psW (sx0 x len Φ nm) 59 (nx (sx0 x len Φ nm) t) with
  | inl e =>
    have := ps_in hw
    refine ⟨sF (sT D1 (nx (sx0 x len Φ nm) t)) (e.1 : Int) (e.2 : Int), ?_, GF_sF (GF_sT g1), sF_2, sF_3, by rw [this]; exact Nat.one_ne_zero⟩
    show vC (some ((0, none), _)) _ = _
    rw [aVC, tlN, vR_headLine_98]
  | inr t3 =>
    refine ⟨sD (sT (sT D1 (nx (sx0 x len Φ nm) t)) t3) 111 1 ((L + 1 : Nat) : Int), ?_, GF_sD (GF_sT (GF_sT g1)) (by decide), ?_, ?_, sD_eq, ?_, ?_⟩
    · show vC (some ((0, none), _)) _ = _
      rw [aVC, tlN, vR_headLine_98]
    · have hE3 : EV (sT (sT D1 (nx (sx0 x len Φ nm) t)) t3) (sx0 x len Φ nm) := EV_EF hE2 (EF_sT (B := 279))
      obtain ⟨a1, a2, a3, a4, a5⟩ := hE3
      exact ⟨RX_cg a1 (by unfold sD; rw [if_neg (by omega)]) (sD_ne (by decide)), TS_fr a3 a2 (fun c z b => sD_ne (by omega)), a3, FT_congr (fun c z b => sD_ne (by omega)) a4, fun i hi => absurd hi (Nat.not_lt_zero _)⟩
    · have : TKD (sT (sT D1 (nx (sx0 x len Φ nm) t)) t3) t3 := sT_TKD
      exact TKD_far this (fun j hj => by unfold sD; rw [if_neg (by omega)])
    · show sD _ 111 1 _ 111 11 = _
      unfold sD; rw [if_neg (by omega), sT_far (by omega), sT_far (by omega), e111]; exact h11
    · show sD _ 111 1 _ 111 2 = _
      unfold sD; rw [if_neg (by omega), sT_far (by omega), sT_far (by omega), e111]; exact h2
/-- the numbers behind field -/
theorem fieldNumbers_spec (hX : RX D (sX X) (sN X)) (hT : TKD D t) : ∃ D', Vl (d + 3) 37 0 [some (.inr (.inr (some 111)))] [] (hp ω D) = (match hdF X t with
    | .inl _ => some ((0, some (.inl 0)), hp ω D')
    | .inr _ => some ((0, some (.inl 1)), hp ω D')) ∧ GF D D' ∧ (match hdF X t with
    | .inl e => D' 111 2 = (e.1 : Int) ∧ D' 111 3 = (e.2 : Int) ∧ e.1 ≠ 0
    | .inr q => D' = sT (sD D 112 0 (q.1.1 : Int)) q.2 ∧ (q.2.1 = 257 ∧ q.2.2.2.1 = q.1.2) ∧ gfd q.1.1 q.1.2) := by
  rw [vR_fieldNumbers_0, aGF kR, isNumber_spec (d := d + 1) hT]
  unfold hdF
  by_cases h1 : t.1 = 257
  rotate_left
  · rw [if_neg h1, if_neg h1, aVC, tlS, vR_fieldNumbers_7, if_pos j00, vR_fieldNumbers_10, aZ0]
    exact ⟨_, rfl, GF_sF GF_rf, sF_2, sF_3, Nat.succ_ne_zero _⟩
  rw [if_pos h1, if_pos h1]
  by_cases h2 : 1 ≤ t.2.2.1 ∧ t.2.2.1 ≤ 8
  rotate_left
  · rw [if_neg (show ¬ ((1 : Int) ≤ (t.2.2.1 : Int) ∧ (t.2.2.1 : Int) ≤ 8) by omega), if_neg h2, aVC, tlS, vR_fieldNumbers_7, if_pos j00, vR_fieldNumbers_10, aZ0]
    exact ⟨_, rfl, GF_sF GF_rf, sF_2, sF_3, Nat.succ_ne_zero _⟩
  rw [if_pos (show ((1 : Int) ≤ (t.2.2.1 : Int) ∧ (t.2.2.1 : Int) ≤ 8) by omega), if_pos h2, aVC, tlS, vR_fieldNumbers_7, if_neg j10]
  obtain ⟨n, hn⟩ : ∃ n, n = t.2.2.1 := ⟨_, rfl⟩
  rw [← hn] at h2 ⊢
  have h8 : 2 ^ n ≤ 2 ^ 8 := Nat.pow_le_pow_right (by decide) h2.2
  have hp1 : 2 ^ (n + 1) = 2 * 2 ^ n := by rw [Nat.pow_succ, Nat.mul_comm]
  have e14 : D 111 14 = (n : Int) := by rw [hn]; exact hT.2.2.1
  have hX1 : RX (sD D 112 0 (n : Int)) (sX X) (sN X) := RX_cg hX (by rw [sD_ne (by decide)]) (sD_ne (by decide))
  have hT1 : TKD (sD D 112 0 (n : Int)) t := TKD_far hT (fun j _ => by rw [sD_ne (by decide)])
  have q1 : Vl (d + 2) 26 0 [some (.inr (.inr (some 111))), none] [] (hp ω (sD D 112 0 (n : Int))) = some ((0, none), hp ω (sT (sD D 112 0 (n : Int)) (nx X t))) := scan_spec hX1 hT1.2.2.2
  have e0 : sT (sD D 112 0 (n : Int)) (nx X t) 112 0 = (n : Int) := by rw [sT_ne (by decide)]; exact sD_eq
  have hT2 : TKD (sT (sD D 112 0 (n : Int)) (nx X t)) (nx X t) := sT_TKD
  have g2 : GF D (sT (sD D 112 0 (n : Int)) (nx X t)) := GF_sT (GF_sD GF_rf (by decide))
  rw [vR_fieldNumbers_12, aGF kR, aGF kR, rR_0, aGF kR_0, hD, e14, aLt, hwD, aGF kR, q1, aVC, tlN, vR_fieldNumbers_27]
  rw [aGF kR, rR_0, aGF kR_0, aGF kR, rR_0, aGF kR_0, aGF kR, hD, e0, show (1 : Int) = ((1 : Nat) : Int) from rfl, jshl_n (by omega) (by omega), Nat.one_mul, show (2 : Int) = ((2 : Nat) : Int) from rfl, jshl_n (by omega) (by omega), ← hp1, show w32 (((2 ^ (n + 1) : Nat) : Int) - ((1 : Nat) : Int)) = ((2 ^ (n + 1) : Nat) : Int) - 1 from by unfold w32; omega, isNumber_spec (d := d + 1) hT2]
  by_cases h3 : (nx X t).1 = 257
  rotate_left
  · rw [if_neg h3, if_neg h3, aVC, tlS, vR_fieldNumbers_51, if_pos j00, vR_fieldNumbers_54, aZ0]
    exact ⟨_, rfl, GF_sF g2, sF_2, sF_3, Nat.succ_ne_zero _⟩
  rw [if_pos h3, if_pos h3]
  by_cases h4 : 2 ^ n ≤ (nx X t).2.2.1 ∧ (nx X t).2.2.1 < 2 ^ (n + 1)
  rotate_left
  · rw [if_neg (show ¬ (((2 ^ n : Nat) : Int) ≤ ((nx X t).2.2.1 : Int) ∧ ((nx X t).2.2.1 : Int) ≤ ((2 ^ (n + 1) : Nat) : Int) - 1) by omega), if_neg h4, aVC, tlS, vR_fieldNumbers_51, if_pos j00, vR_fieldNumbers_54, aZ0]
    exact ⟨_, rfl, GF_sF g2, sF_2, sF_3, Nat.succ_ne_zero _⟩
  rw [if_pos (show (((2 ^ n : Nat) : Int) ≤ ((nx X t).2.2.1 : Int) ∧ ((nx X t).2.2.1 : Int) ≤ ((2 ^ (n + 1) : Nat) : Int) - 1) by omega), if_pos h4, aVC, tlS, vR_fieldNumbers_51, if_neg j10, vR_fieldNumbers_56, aGF kR, aGF kR, rR_0, aGF kR_0, hD, hT2.2.2.1, hD, e0, isUndiv_spec (d := d + 1) (by omega) h2.1 h2.2, aVC, tlS, vR_fieldNumbers_70]
  by_cases h5 : girr n (nx X t).2.2.1 = true
  · rw [if_pos h5, if_pos h5, if_neg j10, vR_fieldNumbers_85, vR_fieldNumbers_90, aZ1]
    exact ⟨_, rfl, g2, rfl, ⟨h3, rfl⟩, ⟨h2.1, h2.2, h4.1, h4.2⟩, h5⟩
  · rw [if_neg h5, if_neg h5, if_pos j00, vR_fieldNumbers_73, aGF kR, aGF kR, hD, hT2.2.1, refuse_spec, aVC, tlS, vR_fieldNumbers_82, if_pos j00, vR_fieldNumbers_89, vR_fieldNumbers_90, aZ0]
    exact ⟨_, rfl, GF_sF g2, sF_2, sF_3, Nat.succ_ne_zero _⟩
end HEAD
