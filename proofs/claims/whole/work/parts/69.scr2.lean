/-! script() -/
def H1 (D : jD) (x : Nat → Nat) (len : Nat) (r : (Nat × Nat) ⊕ (gF × tk × Nat)) : Prop := match r with
  | .inl e => D 111 2 = (e.1 : Int) ∧ D 111 3 = (e.2 : Int) ∧ e.1 ≠ 0
  | .inr q => ∃ nh, LSR D (sx0 x len q.1 (fun _ => 0)) q.2.1 q.2.2 nh ∧ q.2.2 ≤ 3
def H2 (D : jD) (r : (Nat × Nat) ⊕ (sx × Nat)) : Prop := match r with
  | .inl e => D 111 2 = (e.1 : Int) ∧ D 111 3 = (e.2 : Int) ∧ e.1 ≠ 0
  | .inr q => ∃ t nh, LSR D q.1 t q.2 nh
def oScript (A : aA) : Int × aA := match scR (At A) (Al A) with
  | .inl e => (w32 (-1 - (e.2 : Int)), (0, At A, AT A, Ai A, AI A, Ar A, (e.1 : Int), Ag A, AG A))
  | .inr q => ((q.2 : Int), (0, At A, q.1, Ai A, AI A, Ar A, 0, Ag A, AG A))
section SCR2
variable {d : Nat} {ω : jw} {D D' D2 : jD} {X : sx} {t : tk} {Φ : gF} {x : Nat → Nat} {len : Nat} {A : aA}
theorem LSR_cg {L nh : Nat} (h : LSR D X t L nh) (hf : ∀ q, 111 ≤ q → q < 279 → D' q = D q) : LSR D' X t L nh := by
  obtain ⟨⟨a1, a2, a3, a4, a5⟩, b, c1, c2, c3⟩ := h
  have e := hf 111 (by decide) (by decide)
  exact ⟨⟨RX_cg a1 (by rw [e]) (hf 215 (by decide) (by decide)), TS_fr a3 a2 (fun c z b => hf c (by omega) (by omega)), a3, FT_congr (fun c z b => hf c (by omega) (by omega)) a4, fun i hi => by rw [hf 209 (by decide) (by decide)]; exact a5 i hi⟩, TKD_far b (fun j _ => by rw [e]), by rw [e]; exact c1, by rw [e]; exact c2, by rw [e]; exact c3⟩
theorem script_h0 (h : D 111 2 ≠ 0) (k : Nat) (hk : k ≤ 540) : Vl (d + 48) 23 21 [some (.inr (.inr (some 0))), some (.inl (k : Int))] [] (hp ω D) = Vl (d + 48) 23 51 [some (.inr (.inr (some 0))), some (.inl (k : Int))] [] (hp ω D) := by
  rw [vC_script_21]
  by_cases h1 : (k : Int) < 540
  · rw [if_pos h1, vC_script_28, aGF kC, rC_6, aGF kR, isAtHead_no (d := d + 44) h, aVC, tlS, vC_script_35, if_pos j00]
  · rw [if_neg h1]
theorem script_h2 (h : D 111 2 ≠ 0) (k : Nat) (hk : k ≤ 540) : Vl (d + 48) 23 53 [some (.inr (.inr (some 0))), some (.inl (k : Int))] [] (hp ω D) = Vl (d + 48) 23 83 [some (.inr (.inr (some 0))), some (.inl (k : Int))] [] (hp ω D) := by
  rw [vC_script_53]
  by_cases h1 : (k : Int) < 540
  · rw [if_pos h1, vC_script_60, aGF kC, rC_6, aGF kR, goesOn_no (d := d + 47) h, aVC, tlS, vC_script_67, if_pos j00]
  · rw [if_neg h1]
theorem script_heads : ∀ (n k : Nat) (Φ : gF) (t : tk) (L nh : Nat) (D : jD), k + n = 540 → LSR D (sx0 x len Φ (fun _ => 0)) t L nh → L ≤ nh → nh ≤ 3 → (nh = 0 → Φ.2.2.1 = 0 ∧ Φ.2.2.2 = 0) → ∃ (D' : jD) (k' : Nat), Vl (d + 48) 23 21 [some (.inr (.inr (some 0))), some (.inl (k : Int))] [] (hp ω D) = Vl (d + 48) 23 51 [some (.inr (.inr (some 0))), some (.inl (k' : Int))] [] (hp ω D') ∧ GF D D' ∧ H1 D' x len (hdS x len n Φ t L nh)
  | 0, k, Φ, t, L, nh, D, hk, hL, h1, h2, h3 => ⟨D, k, by rw [vC_script_21, if_neg (by omega)], GF_rf, nh, hL, by show L ≤ 3; omega⟩
  | n + 1, k, Φ, t, L, nh, D, hk, hL, h1, h2, h3 => by
    rw [vC_script_21, if_pos (by omega), vC_script_28, aGF kC, rC_6, aGF kR, isAtHead_spec (d := d + 44) hL, aVC, tlS, vC_script_35]
    unfold hdS
    by_cases hc : isHd t ∧ (nh : Int) ≤ kw t.2.2.1
    rotate_left
    · rw [if_neg hc, if_pos j00, if_neg hc]
      exact ⟨D, k, rfl, GF_rf, nh, hL, by show L ≤ 3; omega⟩
    rw [if_pos hc, if_neg j10, if_pos hc]
    obtain ⟨h, hh⟩ := Int.eq_ofNat_of_zero_le hc.1.2.1
    have hle := hc.1.2.2
    have hge := hc.2
    obtain ⟨D1, q1, g1, p1⟩ := headLine_spec (ω := ω) (d := d + 41) hL hh (by omega) (by omega) h3 (by omega)
    rw [hh, Int.toNat_natCast]
    rw [vC_script_38, aGF kC, rC_6, aGF kR, q1, aVC, tlN, vC_script_45, w32_s (by omega)]
    cases hr : hdL (sx0 x len Φ (fun _ => 0)) Φ h t with
    | inl e =>
      rw [hr] at p1
      have hne : D1 111 2 ≠ 0 := by
        have e1 : D1 111 2 = (e.1 : Int) := p1.1
        have e2 : e.1 ≠ 0 := p1.2.2
        omega
      exact ⟨D1, k + 1, script_h0 hne (k + 1) (by omega), g1, p1⟩
    | inr q =>
      rw [hr] at p1
      obtain ⟨D2, k', q2, g2, p2⟩ := script_heads n (k + 1) q.1 q.2 (L + 1) (h + 1) D1 (by omega) p1 (by omega) (by omega) (fun z => absurd z (by omega))
      exact ⟨D2, k', q2, GF_tr g1 g2, p2⟩
theorem script_names : ∀ (n k : Nat) (X : sx) (t : tk) (L nh : Nat) (D : jD), k + n = 540 → LSR D X t L nh → L ≤ k + 3 → ∃ (D' : jD) (k' : Nat), Vl (d + 48) 23 53 [some (.inr (.inr (some 0))), some (.inl (k : Int))] [] (hp ω D) = Vl (d + 48) 23 83 [some (.inr (.inr (some 0))), some (.inl (k' : Int))] [] (hp ω D') ∧ GF D D' ∧ H2 D' (lnS n X t L)
  | 0, k, X, t, L, nh, D, hk, hL, h1 => ⟨D, k, by rw [vC_script_53, if_neg (by omega)], GF_rf, t, nh, hL⟩
  | n + 1, k, X, t, L, nh, D, hk, hL, h1 => by
    rw [vC_script_53, if_pos (by omega), vC_script_60, aGF kC, rC_6, aGF kR, goesOn_spec (d := d + 47) hL, aVC, tlS, vC_script_67]
    unfold lnS
    by_cases hc : t.1 = 258 ∧ sN X ≤ 500
    · rw [if_pos hc, if_pos j00, if_pos hc]
      exact ⟨D, k, rfl, GF_rf, t, nh, hL⟩
    rw [if_neg hc, if_neg j10, if_neg hc]
    obtain ⟨D1, q1, g1, p1⟩ := nameLine_spec (ω := ω) (d := d) hL (by omega)
    rw [vC_script_70, aGF kC, rC_6, aGF kR, q1, aVC, tlN, vC_script_77, w32_s (by omega)]
    cases hr : nmL X t with
    | inl e =>
      have e2 := nmL_nz hr
      rw [hr] at p1
      have hne : D1 111 2 ≠ 0 := by
        have e1 : D1 111 2 = (e.1 : Int) := p1.1
        omega
      exact ⟨D1, k + 1, script_h2 hne (k + 1) (by omega), g1, p1.1, p1.2, e2⟩
    | inr q =>
      rw [hr] at p1
      obtain ⟨D2, k', q2, g2, p2⟩ := script_names n (k + 1) _ q.2.2 (L + 1) nh D1 (by omega) p1 (by omega)
      exact ⟨D2, k', q2, GF_tr g1 g2, p2⟩
/-- both loops -/
theorem script_loops (hA : TA D len x) : ∃ (D' : jD) (k' : Nat), Vl (d + 48) 23 0 [some (.inr (.inr (some 0))), none] [] (hp ω D) = Vl (d + 48) 23 83 [some (.inr (.inr (some 0))), some (.inl (k' : Int))] [] (hp ω D') ∧ GF (sD D 1 1 0) D' ∧ (match scR x len with
    | .inl e => D' 111 2 = (e.1 : Int) ∧ D' 111 3 = (e.2 : Int) ∧ e.1 ≠ 0
    | .inr q => D' 111 2 = 0 ∧ D' 111 1 = (q.2 : Int) ∧ TS D' 112 q.1 ∧ TOK q.1) := by
  obtain ⟨D1, q1, g1, l1⟩ := begin_spec (ω := ω) (d := d + 43) hA
  have l2 : LSR (sD D1 1 1 0) (sx0 x len (1, 3, 0, 0) (fun _ => 0)) (scn x len 0) 0 0 := LSR_cg l1 (fun q h1 h2 => sD_ne (by omega))
  have g2 : GF (sD D 1 1 0) (sD D1 1 1 0) := fun q hq => by
    funext b
    show (if q = 1 ∧ b = 1 then 0 else D1 q b) = (if q = 1 ∧ b = 1 then 0 else D q b)
    rw [g1 q hq]
  obtain ⟨D2, k2, q2, g3, p2⟩ := script_heads (ω := ω) (d := d) (x := x) (len := len) 540 0 (1, 3, 0, 0) (scn x len 0) 0 0 (sD D1 1 1 0) rfl l2 (Nat.le_refl _) (by decide) (fun _ => ⟨rfl, rfl⟩)
  have st : Vl (d + 48) 23 0 [some (.inr (.inr (some 0))), none] [] (hp ω D) = Vl (d + 48) 23 53 [some (.inr (.inr (some 0))), some (.inl ((0 : Nat) : Int))] [] (hp ω D2) := by
    rw [vC_script_0, aGF kC, aGF kC, rC_6, rC_0, aGF kR, q1, aVC, tlN, vC_script_11, aGF kC, rC_0, aGF kA, aLt, hwD, show (0 : Int) = ((0 : Nat) : Int) from rfl]
    rw [show ((0 : Nat) : Int) = 0 from rfl] at q2 ⊢
    rw [q2, vC_script_51]
  rw [st]
  unfold scR
  cases hr : hdS x len 540 (1, 3, 0, 0) (scn x len 0) 0 0 with
  | inl e =>
    rw [hr] at p2
    have hne : D2 111 2 ≠ 0 := by
      have e1 : D2 111 2 = (e.1 : Int) := p2.1
      have e2 : e.1 ≠ 0 := p2.2.2
      omega
    exact ⟨D2, 0, script_h2 hne 0 (by decide), GF_tr g2 g3, p2⟩
  | inr q =>
    rw [hr] at p2
    obtain ⟨nh, l3, hL3⟩ := p2
    obtain ⟨D3, k3, q3, g4, p3⟩ := script_names (ω := ω) (d := d) 540 0 _ q.2.1 q.2.2 nh D2 rfl l3 (by omega)
    refine ⟨D3, k3, q3, GF_tr (GF_tr g2 g3) g4, ?_⟩
    dsimp only
    cases hr2 : lnS 540 (sx0 x len q.1 (fun _ => 0)) q.2.1 q.2.2 with
    | inl e => rw [hr2] at p3; exact p3
    | inr r =>
      rw [hr2] at p3
      obtain ⟨t4, nh4, l4⟩ := p3
      exact ⟨l4.2.2.2.2, l4.2.2.1, l4.1.2.1, l4.1.2.2.1⟩
theorem script_op (h : CS D A) : ∃ D', Vl (d + 48) 23 0 [some (.inr (.inr (some 0))), none] [] (hp ω D) = some ((0, some (.inl (oScript A).1)), hp ω D') ∧ CS D' (oScript A).2 ∧ ∀ q, 488 ≤ q → D' q = D q := by
  have h0 := CS_len0 h
  obtain ⟨D1, k, q1, g1, p1⟩ := script_loops (ω := ω) (d := d) h.1
  have h1 : CS D1 (aTape A 0 (At A)) := CS_same h0 (fun c hc => g1 c (by unfold kept at hc; omega))
  have f1 : ∀ q, 488 ≤ q → D1 q = D q := fun q hq => by rw [g1 q (by omega), sD_ne (by omega)]
  rw [q1]
  unfold oScript
  cases hr : scR (At A) (Al A) with
  | inl e =>
    rw [hr] at p1
    obtain ⟨a1, a2, a3⟩ := p1
    have e13 : sD D1 0 13 (e.1 : Int) 111 3 = (e.2 : Int) := by rw [sD_ne (by decide)]; exact a2
    obtain ⟨b1, b2, b3, b4, b5, b6, b7, b8, b9, b10⟩ := h1
    refine ⟨sD D1 0 13 (e.1 : Int), ?_, ⟨⟨by rw [sD_ne (by decide)]; exact b1.1, b1.2.1, fun i hi => absurd hi (Nat.not_lt_zero _)⟩, b2, TS_fr b2 b3 (fun c z b => sD_ne (by omega)), FT_congr (fun c z b => sD_ne (by omega)) b4, fun k hk2 => ⟨by rw [sD_ne (by decide)]; exact (b5 k hk2).1, fun q => ⟨((b5 k hk2).2 q).1, TS_fr ((b5 k hk2).2 q).1 ((b5 k hk2).2 q).2 (fun c z b => sD_ne (by omega))⟩⟩, fun k hk4 => ⟨(b6 k hk4).1, PR_ne (sD_ne (by omega)) (b6 k hk4).2⟩, sD_eq, b8, by rw [sD_ne (by decide)]; exact b9, fun i z1 z2 => by rw [sD_ne (by decide)]; exact b10 i z1 z2⟩, fun q hq => by rw [sD_ne (by omega), f1 q hq]⟩
    rw [vC_script_83, aGF kC, rC_6, aGF kR, aGF kC, hD, a1, aLt, hwD, aGF kC, hD, sD_eq, if_neg (show ¬ (e.1 : Int) = 0 by omega), vC_script_101, aGF kC, rC_6, aGF kR, hD, e13]
  | inr r =>
    rw [hr] at p1
    obtain ⟨a1, a2, a3, a4⟩ := p1
    have t112 : TS (sD D1 0 13 0) 112 r.1 := TS_fr a4 a3 (fun c z b => sD_ne (by omega))
    obtain ⟨D3, q3, T3, f3⟩ := copyT_spec (ω := ω) (d := d + 46) (D := sD D1 0 13 0) tT_3 tT_112 (by decide) a4 t112
    obtain ⟨D4, q4, F4, f4⟩ := tellTo_spec (ω := ω) (D := D3) (d := d + 44) (T := r.1) tT_3 tF_76 a4.1 T3.1.1 T3.1.2.1 T3.1.2.2.1 T3.1.2.2.2
    have fr : ∀ c, (c < 3 ∨ 64 ≤ c) → (c < 76 ∨ 81 ≤ c) → c ≠ 0 → D4 c = D1 c := fun c z1 z2 z3 => by rw [f4 c (by omega), f3 c (by omega), sD_ne z3]
    obtain ⟨b1, b2, b3, b4, b5, b6, b7, b8, b9, b10⟩ := h1
    have e13 : D4 0 13 = 0 := by rw [f4 0 (by omega), f3 0 (by omega)]; exact sD_eq
    have e1 : D4 111 1 = (r.2 : Int) := by rw [fr 111 (by omega) (by omega) (by decide)]; exact a2
    refine ⟨D4, ?_, ⟨⟨by rw [fr 1 (by omega) (by omega) (by decide)]; exact b1.1, b1.2.1, fun i hi => absurd hi (Nat.not_lt_zero _)⟩, a4, TS_fr a4 T3 (fun c z b => f4 c (by omega)), F4, fun k hk2 => ⟨by rw [fr 65 (by omega) (by omega) (by decide)]; exact (b5 k hk2).1, fun q => ⟨((b5 k hk2).2 q).1, TS_fr ((b5 k hk2).2 q).1 ((b5 k hk2).2 q).2 (fun c z b => fr c (by omega) (by omega) (by omega))⟩⟩, fun k hk4 => ⟨(b6 k hk4).1, PR_ne (fr _ (by omega) (by omega) (by omega)) (b6 k hk4).2⟩, e13, b8, by rw [fr 343 (by omega) (by omega) (by decide)]; exact b9, fun i z1 z2 => by rw [fr 344 (by omega) (by omega) (by decide)]; exact b10 i z1 z2⟩, fun q hq => by rw [fr q (by omega) (by omega) (by omega), f1 q hq]⟩
    rw [vC_script_83, aGF kC, rC_6, aGF kR, aGF kC, hD, a1, aLt, hwD, aGF kC, hD, sD_eq, if_pos j00, vC_script_111, aGF kC, aGF kC, rC_6, aGF kR, rC_1, rR_0, aGF kC_1, q3, aVC, tlN, vC_script_125, aGF kC, aGF kC, rC_5, aGF kC_5, rC_1, q75_0, aGF kC_1, q4, aVC, tlN, vC_script_139, aGF kC, rC_6, aGF kR, hD, e1]
end SCR2
