/-! The class's Reader: a LINE of a NAME; script() -/
def hdS (x : Nat → Nat) (len : Nat) : Nat → gF → tk → Nat → Nat → (Nat × Nat) ⊕ (gF × tk × Nat)
  | 0, Φ, t, L, _ => .inr (Φ, t, L)
  | n + 1, Φ, t, L, nh => if isHd t ∧ (nh : Int) ≤ kw t.2.2.1 then (match hdL (sx0 x len Φ (fun _ => 0)) Φ (kw t.2.2.1).toNat t with
    | .inl e => .inl e
    | .inr q => hdS x len n q.1 q.2 (L + 1) ((kw t.2.2.1).toNat + 1)) else .inr (Φ, t, L)
def lnS : Nat → sx → tk → Nat → (Nat × Nat) ⊕ (sx × Nat)
  | 0, X, _, L => .inr (X, L)
  | n + 1, X, t, L => if t.1 = 258 ∧ sN X ≤ 500 then .inr (X, L) else (match nmL X t with
    | .inl e => .inl e
    | .inr q => lnS n (nmX X t.2.2.1 q.1 q.2.1) q.2.2 (L + 1))
def scR (x : Nat → Nat) (len : Nat) : (Nat × Nat) ⊕ (aT × Nat) := match hdS x len 540 (1, 3, 0, 0) (scn x len 0) 0 0 with
  | .inl e => .inl e
  | .inr (Φ, t, L) => match lnS 540 (sx0 x len Φ (fun _ => 0)) t L with
    | .inl e => .inl e
    | .inr (X, L') => .inr (sA X, L')
section LINE2
variable {d : Nat} {ω : jw} {D D' D2 : jD} {X : sx} {t : tk} {Φ : gF} {x : Nat → Nat} {len : Nat} {nm : Nat → Nat}
theorem GF_EF {B : Nat} (h : EF D D' B) : GF D D' := fun q hq => h.1 q (by omega) (by omega)
theorem GF_EQ {B : Nat} (h : EQ D D' B) : GF D D' := fun q hq => h q (by omega) (by omega)
theorem nameLine_spec {L nh : Nat} (hL : LSR D X t L nh) (hL9 : L < 1000) : ∃ D', Vl (d + 47) 45 0 [some (.inr (.inr (some 111))), none, none] [] (hp ω D) = some ((0, none), hp ω D') ∧ GF D D' ∧ NO D' X t.2.2.1 (L + 1) nh (nmL X t) := by
  obtain ⟨hE, hT, e1, e11, e2⟩ := hL
  have hO := hE.2.2.1
  have hS := hE.2.1
  have hN := hO.2.1
  have st0 : ∀ u : Option jv, (hu : u = none) → ∃ D', Vl (d + 47) 45 23 [some (.inr (.inr (some 111))), some (.inl (t.2.2.1 : Int)), u] [] (hp ω D) = some ((0, none), hp ω D') ∧ GF D D' ∧ (D' 111 2 = (((if isHd t then 3 else 1 : Nat) : Nat) : Int) ∧ D' 111 3 = (t.2.1 : Int)) := fun u hu => by
    subst hu
    rw [vR_nameLine_23, aGF kR, isHead_spec (d := d + 44) hT, aVC, tlS, vR_nameLine_28]
    by_cases hh : isHd t
    · rw [if_pos hh, if_neg j10, vR_nameLine_31, vR_nameLine_36, aGF kR, aGF kR, hD, hT.2.1, refuse_spec, aVC, tlS, vR_nameLine_43, if_pos hh]
      exact ⟨_, rfl, GF_sF GF_rf, sF_2, sF_3⟩
    · rw [if_neg hh, if_pos j00, vR_nameLine_35, vR_nameLine_36, aGF kR, aGF kR, hD, hT.2.1, refuse_spec, aVC, tlS, vR_nameLine_43, if_neg hh]
      exact ⟨_, rfl, GF_sF GF_rf, sF_2, sF_3⟩
  rw [vR_nameLine_0, aGF kR, aGF kR, hD, hD, hT.2.2.1, hT.1]
  unfold nmL
  by_cases h1 : t.1 = 256
  rotate_left
  · rw [if_neg (show ¬ (t.1 : Int) = 256 by omega), if_neg (fun z => h1 z.1)]
    exact st0 none rfl
  rw [if_pos (show (t.1 : Int) = 256 by omega), vR_nameLine_15, keyword_spec, aVC, tlS, vR_nameLine_19]
  by_cases h2 : kw t.2.2.1 = -1
  rotate_left
  · rw [if_neg h2, if_neg (fun z => h2 z.2)]
    exact st0 none rfl
  rw [if_pos h2, if_pos ⟨h1, h2⟩, vR_nameLine_45, aGF kR, nameOf_spec (d := d + 46) hN hS.2.1 hE.2.2.2.2, aVC, tlS, vR_nameLine_50]
  have hj := nix_rng (sC X) t.2.2.1 (tN (sA X)) 0
  generalize nix (sC X) t.2.2.1 (tN (sA X)) 0 = j at hj ⊢
  have q56 : (if j = -1 then Vl (d + 47) 45 56 [some (.inr (.inr (some 111))), some (.inl (t.2.2.1 : Int)), some (.inl j)] [] (hp ω D) else Vl (d + 47) 45 79 [some (.inr (.inr (some 111))), some (.inl (t.2.2.1 : Int)), some (.inl j)] [] (hp ω D)) = if j = -1 ∧ 12 ≤ tN (sA X) then some ((0, none), hp ω (sF D 4 t.2.1)) else Vl (d + 47) 45 79 [some (.inr (.inr (some 111))), some (.inl (t.2.2.1 : Int)), some (.inl j)] [] (hp ω D) := by
    by_cases h3 : j = -1
    · rw [if_pos h3, vR_nameLine_56, aGF kR, rR_0, aGF kR_0, hD, hS.2.1]
      by_cases h4 : 12 ≤ tN (sA X)
      · rw [if_neg (show ¬ (tN (sA X) : Int) < 12 by omega), if_pos ⟨h3, h4⟩, vR_nameLine_68, aGF kR, aGF kR, hD, hT.2.1, refuse_spec, aVC, tlS, vR_nameLine_77]
      · rw [if_pos (show (tN (sA X) : Int) < 12 by omega), if_neg (fun z => h4 z.2)]
    · rw [if_neg h3, if_neg (fun z => h3 z.1)]
  rw [q56]
  by_cases h3 : j = -1 ∧ 12 ≤ tN (sA X)
  · rw [if_pos h3, if_pos h3]
    exact ⟨_, rfl, GF_sF GF_rf, sF_2, sF_3⟩
  rw [if_neg h3, if_neg h3]
  have ea : EF D (sT D (nx X t)) 216 := EF_sT
  have hEa := EV_EF hE ea
  have qp := passX (ω := ω) (d := d + 43) (w := 61) hEa sT_TKD
  rw [vR_nameLine_79, aGF kR, scanX (d := d + 44) hE hT, aVC, tlN, vR_nameLine_83, aGF kR, show (61 : Int) = ((61 : Nat) : Int) from rfl, qp]
  cases hw : psW X 61 (nx X t) with
  | inl e =>
    refine ⟨sF (sT D (nx X t)) (e.1 : Int) (e.2 : Int), ?_, GF_sF (GF_EF ea), sF_2, sF_3⟩
    show vC (some ((0, some (.inl 0)), _)) _ = _
    rw [aVC, tlS, vR_nameLine_89, if_pos j00, vR_nameLine_100]
  | inr t1 =>
    have eb : EF D (sT (sT D (nx X t)) t1) 216 := EF_trans ea EF_sT (Nat.le_refl _)
    have hEb := EV_EF hE eb
    have ps := smN_spec (ω := ω) X 6 0 d rfl (sT (sT D (nx X t)) t1) t1 hEb sT_TKD
    have st1 : vC (some ((0, some (.inl 1)), hp ω (sT (sT D (nx X t)) t1))) (fun r1 h2 => Vl (d + 46 + 1) 45 89 [some (.inr (.inr (some 111))), some (.inl (t.2.2.1 : Int)), some (.inl j)] (r1.toList ++ []) h2) = vC (Vl (d + 46) 47 0 [some (.inr (.inr (some 111))), some (.inl ((0 : Nat) : Int)), none, none] [] (hp ω (sT (sT D (nx X t)) t1))) (fun r1 h2 => Vl (d + 46 + 1) 45 97 [some (.inr (.inr (some 111))), some (.inl (t.2.2.1 : Int)), some (.inl j)] (r1.toList ++ []) h2) := by
      rw [aVC, tlS, vR_nameLine_89, if_neg j10, vR_nameLine_92, aGF kR]; rfl
    show ∃ D', vC (some ((0, some (.inl 1)), _)) _ = _ ∧ _
    rw [st1]
    dsimp only
    cases hr : smN X 6 t1 with
    | inl e =>
      rw [hr] at ps
      obtain ⟨D2, b1, b2, b3, b4⟩ := ps
      refine ⟨D2, ?_, GF_tr (GF_EF eb) (GF_EQ b4), b2, b3⟩
      rw [show d + 46 = d + 6 * 6 + 10 from rfl, b1, aVC, tlS, vR_nameLine_97, if_pos j00, vR_nameLine_100]
    | inr r =>
      rw [hr] at ps
      obtain ⟨v, t2⟩ := r
      obtain ⟨D2, b1, b2, b3, b4, b5⟩ := ps
      dsimp only at b2 b3 b4 ⊢
      have ec : EF D D2 216 := EF_trans eb b5 (Nat.le_refl _)
      have hEc := EV_EF hE ec
      obtain ⟨i, hi⟩ : ∃ i : Nat, i = (if j = -1 then tN (sA X) else j.toNat) := ⟨_, rfl⟩
      have hiN : i ≤ tN (sA X) ∧ i < 12 := by
        rw [hi]
        by_cases h5 : j = -1
        · rw [if_pos h5]; omega
        · rw [if_neg h5]
          obtain ⟨y, -, hy, ey⟩ := hj.resolve_left h5
          rw [ey, Int.toNat_natCast]; omega
      have st2 : Vl (d + 46 + 1) 45 101 [some (.inr (.inr (some 111))), some (.inl (t.2.2.1 : Int)), some (.inl j)] [] (hp ω D2) = Vl (d + 46 + 1) 45 124 [some (.inr (.inr (some 111))), some (.inl (t.2.2.1 : Int)), some (.inl (i : Int))] [] (hp ω D2) := by
        have s2 : Vl (d + 46 + 1) 45 114 [some (.inr (.inr (some 111))), some (.inl (t.2.2.1 : Int)), some (.inl (i : Int))] [] (hp ω D2) = Vl (d + 46 + 1) 45 124 [some (.inr (.inr (some 111))), some (.inl (t.2.2.1 : Int)), some (.inl (i : Int))] [] (hp ω D2) := by
          rw [vR_nameLine_114, if_neg (by omega), vR_nameLine_118, if_pos (by omega)]
        rw [vR_nameLine_101]
        by_cases h5 : j = -1
        · rw [if_pos h5, vR_nameLine_106, aGF kR, rR_0, aGF kR_0, hD, hEc.2.1.2.1, ← s2, hi, if_pos h5]
        · obtain ⟨y, -, hy, ey⟩ := hj.resolve_left h5
          rw [if_neg h5, ← s2, hi, if_neg h5, ey, Int.toNat_natCast]
      have v0 : isV 216 := isV6 (dp := 0) (by decide)
      obtain ⟨hX2, hS2, hO2, hF2, hC2⟩ := hEc
      have hS3 : TS (sD D2 209 i (t.2.2.1 : Int)) 112 (sA X) := TS_fr hO2 hS2 (fun c z b => sD_ne (by omega))
      obtain ⟨D4, c1, c2, c3⟩ := putName_spec (ω := ω) (d := d + 45) (D := sD D2 209 i (t.2.2.1 : Int)) tT_112 hO2 hS3 hiN.1 hiN.2 (pV_1 v0) (F := v) (PR_ne (sD_ne (by decide)) b2)
      have f111 : D4 111 = D2 111 := by rw [c3 111 (by omega) (by omega), sD_ne (by decide)]
      have hE4 : EV D4 (nmX X t.2.2.1 i v) := by
        refine ⟨RX_cg hX2 (by rw [f111]) (by rw [c3 215 (by omega) (by omega), sD_ne (by decide)]), c2, tPut_OK hO2 hiN.1 hiN.2 b3, FT_congr (fun c z b => by rw [c3 c (by omega) (by omega), sD_ne (by omega)]) hF2, fun q hq => ?_⟩
        have hq' : q < max (tN (sA X)) (i + 1) := hq
        rw [c3 209 (by omega) (by omega)]
        show (if 209 = 209 ∧ q = i then (t.2.2.1 : Int) else D2 209 q) = (((if q = i then t.2.2.1 else sC X q) : Nat) : Int)
        by_cases h6 : q = i
        · rw [if_pos ⟨rfl, h6⟩, if_pos h6]
        · rw [if_neg (fun z => h6 z.2), if_neg h6]
          exact hC2 q (by omega)
      have hT4 : TKD D4 t2 := TKD_far b4 (fun j _ => by rw [f111])
      have b11 : D4 111 1 = (L : Int) := by rw [f111, ec.2 1 (by decide)]; exact e1
      have q9 := endLine_spec (ω := ω) (d := d + 42) hE4 hT4 hL9 b11
      have g4 : GF D D4 := GF_tr (GF_EF ec) (GF_tr (GF_sD GF_rf (by decide)) (fun q hq => c3 q (by omega) (by omega)))
      have st3 : Vl (d + 46 + 1) 45 124 [some (.inr (.inr (some 111))), some (.inl (t.2.2.1 : Int)), some (.inl (i : Int))] [] (hp ω D2) = vC (Vl (d + 42 + 4) 42 0 [some (.inr (.inr (some 111)))] [] (hp ω D4)) (fun r1 h2 => Vl (d + 46 + 1) 45 151 [some (.inr (.inr (some 111))), some (.inl (t.2.2.1 : Int)), some (.inl (i : Int))] (r1.toList ++ []) h2) := by
        rw [vR_nameLine_124, aGF kR, rR_5, aIS kR_5, if_pos (by omega), Int.toNat_natCast, aGF kR, aGF kR, show (0 : Int) = ((0 : Nat) : Int) from rfl, level_spec (by decide), rR_0, aVC, tlS, vR_nameLine_141]
        rw [show 216 + 9 * 0 = 216 from rfl, aGF (kV v0), rV_0 v0, aGF kR_0, c1, aVC, tlN, vR_nameLine_147, aGF kR]
      rw [show d + 46 = d + 6 * 6 + 10 from rfl] at st2 st3 ⊢
      rw [b1, aVC, tlS, vR_nameLine_97, if_neg j10, st2, st3, q9]
      rw [show psW (nmX X t.2.2.1 i v) 59 t2 = psW X 59 t2 from rfl]
      cases hw2 : psW X 59 t2 with
      | inl e =>
        refine ⟨sF D4 (e.1 : Int) (e.2 : Int), ?_, GF_sF g4, sF_2, sF_3⟩
        show vC (some ((0, none), _)) _ = _
        rw [aVC, tlN, vR_nameLine_151]
      | inr t3 =>
        have ef : EF D4 (sT D4 t3) 216 := EF_sT
        obtain ⟨a1, a2, a3, a4, a5⟩ := EV_EF hE4 ef
        refine ⟨sD (sT D4 t3) 111 1 ((L + 1 : Nat) : Int), ?_, GF_sD (GF_sT g4) (by decide), ?_⟩
        · show vC (some ((0, none), _)) _ = _
          rw [aVC, tlN, vR_nameLine_151]
        · show LSR _ (nmX X t.2.2.1 (if j = -1 then tN (sA X) else j.toNat) v) t3 (L + 1) nh
          rw [← hi]
          refine ⟨⟨RX_cg a1 (by unfold sD; rw [if_neg (by omega)]) (sD_ne (by decide)), TS_fr a3 a2 (fun c z b => sD_ne (by omega)), a3, FT_congr (fun c z b => sD_ne (by omega)) a4, fun i hi => by rw [sD_ne (by decide)]; exact a5 i hi⟩, ?_, sD_eq, ?_, ?_⟩
          · have : TKD (sT D4 t3) t3 := sT_TKD
            exact TKD_far this (fun j hj => by unfold sD; rw [if_neg (by omega)])
          · show sD _ 111 1 _ 111 11 = _
            unfold sD; rw [if_neg (by omega), sT_far (by omega), f111, ec.2 11 (by decide)]; exact e11
          · show sD _ 111 1 _ 111 2 = _
            unfold sD; rw [if_neg (by omega), sT_far (by omega), f111, ec.2 2 (by decide)]; exact e2
end LINE2
