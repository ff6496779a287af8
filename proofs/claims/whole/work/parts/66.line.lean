/-! The class's Reader: a first LINE, a LINE of a NAME -/
abbrev isHd (t : tk) : Prop := t.1 = 256 ∧ 0 ≤ kw t.2.2.1 ∧ kw t.2.2.1 ≤ 2
def nmL (X : sx) (t : tk) : (Nat × Nat) ⊕ (Nat × pl × tk) := if t.1 = 256 ∧ kw t.2.2.1 = -1 then (if nix (sC X) t.2.2.1 (tN (sA X)) 0 = -1 ∧ 12 ≤ tN (sA X) then .inl (4, t.2.1) else match psW X 61 (nx X t) with
    | .inl e => .inl e
    | .inr t1 => match smN X 6 t1 with
      | .inl e => .inl e
      | .inr (v, t2) => match psW X 59 t2 with
        | .inl e => .inl e
        | .inr t3 => .inr ((if nix (sC X) t.2.2.1 (tN (sA X)) 0 = -1 then tN (sA X) else (nix (sC X) t.2.2.1 (tN (sA X)) 0).toNat), v, t3)) else .inl ((if isHd t then 3 else 1), t.2.1)
def nmX (X : sx) (c : Nat) (i : Nat) (v : pl) : sx := (sX X, sN X, tPut (sA X) i v, fun q => if q = i then c else sC X q)
def NO (D : jD) (X : sx) (c L h : Nat) (r : (Nat × Nat) ⊕ (Nat × pl × tk)) : Prop := match r with
  | .inl e => D 111 2 = (e.1 : Int) ∧ D 111 3 = (e.2 : Int)
  | .inr q => LSR D (nmX X c q.1 q.2.1) q.2.2 L h
section LINE
variable {d : Nat} {ω : jw} {D D' D2 : jD} {X : sx} {t : tk} {Φ : gF} {x : Nat → Nat} {len : Nat} {nm : Nat → Nat}
theorem kwF_ge (c : Nat) : ∀ n k, -1 ≤ kwF c n k
  | 0, _ => Int.le_refl _
  | n + 1, k => by
    unfold kwF
    split
    · omega
    · exact kwF_ge c n (k + 1)
theorem kw_ge (c : Nat) : -1 ≤ kw c := kwF_ge c 55 0
theorem isHead_spec (hT : TKD D t) : Vl (d + 2) 33 0 [some (.inr (.inr (some 111))), none] [] (hp ω D) = some ((0, some (.inl (if isHd t then 1 else 0))), hp ω D) := by
  rw [vR_isHead_0, aGF kR, hD, hT.1]
  have no : ∀ y : Int, Vl (d + 2) 33 36 [some (.inr (.inr (some 111))), some (.inl y)] [] (hp ω D) = some ((0, some (.inl 0)), hp ω D) := fun y => by
    rw [vR_isHead_36, vR_isHead_37, aZ0]
  by_cases h1 : t.1 = 256
  rotate_left
  · rw [if_neg (show ¬ (t.1 : Int) = 256 by omega), vR_isHead_20, vR_isHead_21, if_pos rfl, no, if_neg (fun z => h1 z.1)]
  rw [if_pos (show (t.1 : Int) = 256 by omega), vR_isHead_10, aGF kR, hD, hT.2.2.1, keyword_spec, aVC, tlS, vR_isHead_17, vR_isHead_21]
  by_cases h2 : kw t.2.2.1 = -1
  · rw [if_pos h2, no, if_neg (by omega)]
  rw [if_neg h2, vR_isHead_27]
  by_cases h3 : 2 < kw t.2.2.1
  · rw [if_pos h3, no, if_neg (by omega)]
  have h4 : 0 ≤ kw t.2.2.1 := by have := kw_ge t.2.2.1; omega
  rw [if_neg h3, vR_isHead_32, vR_isHead_37, aZ1, if_pos ⟨h1, h4, by omega⟩]
theorem isHeadNumber_spec {h : Nat} (hX : RX D x len) (hT : TKD D t) (hS : TS D 112 (aF0 Φ)) (hO : FOK Φ) (hh : h < 3) (hz : h = 0 → Φ.2.2.1 = 0 ∧ Φ.2.2.2 = 0) : ∃ D', Vl (d + 4) 36 0 [some (.inr (.inr (some 111))), some (.inl (h : Int))] [] (hp ω D) = (match hdN (sx0 x len Φ nm) Φ h t with
    | .inl _ => some ((0, some (.inl 0)), hp ω D')
    | .inr _ => some ((0, some (.inl 1)), hp ω D')) ∧ GF D D' ∧ (match hdN (sx0 x len Φ nm) Φ h t with
    | .inl e => D' 111 2 = (e.1 : Int) ∧ D' 111 3 = (e.2 : Int) ∧ e.1 ≠ 0
    | .inr q => TKD D' q.2 ∧ (∀ j, j < 12 → D' 111 j = D 111 j) ∧ D' 215 = D 215 ∧ TS (sD D' 112 (h + 1) (q.2.2.2.1 : Int)) 112 (aF0 q.1) ∧ FOK q.1) := by
  obtain ⟨⟨s0, s1, s2, s3⟩, s4, s5, s6, -⟩ := hS
  unfold hdN
  rw [vR_isHeadNumber_0]
  by_cases h0 : h = 0
  · obtain ⟨D1, q1, g1, p1⟩ := fieldNumbers_spec (ω := ω) (d := d) (X := sx0 x len Φ nm) (D := D) (t := t) hX hT
    obtain ⟨z1, z2⟩ := hz h0
    rw [if_pos (show (h : Int) = 0 by omega), if_pos h0, vR_isHeadNumber_4, aGF kR, q1]
    cases hr : hdF (sx0 x len Φ nm) t with
    | inl e =>
      rw [hr] at p1
      refine ⟨D1, ?_, g1, p1⟩
      show vC (some ((0, some (.inl 0)), _)) _ = _
      rw [aVC, tlS, vR_isHeadNumber_8, aZ0]
    | inr q =>
      rw [hr] at p1
      obtain ⟨c1, c2, c3⟩ := p1
      refine ⟨D1, ?_, g1, ?_, fun j hj => ?_, ?_, ?_, ?_⟩
      · show vC (some ((0, some (.inl 1)), _)) _ = _
        rw [aVC, tlS, vR_isHeadNumber_8, aZ1]
      · rw [c1]; exact sT_TKD
      · rw [c1, sT_far (by omega), sD_ne (by decide)]
      · rw [c1, sT_ne (by decide), sD_ne (by decide)]
      · subst h0
        rw [c1]
        show TS (sD (sT (sD D 112 0 (q.1.1 : Int)) q.2) 112 1 (q.2.2.2.1 : Int)) 112 (aF0 (q.1.1, q.1.2, Φ.2.2.1, Φ.2.2.2))
        have fr : ∀ j, 2 ≤ j → sD (sT (sD D 112 0 (q.1.1 : Int)) q.2) 112 1 (q.2.2.2.1 : Int) 112 j = D 112 j := fun j hj => by
          unfold sD; rw [if_neg (by omega), sT_ne (by decide)]
          show (if 112 = 112 ∧ j = 0 then _ else D 112 j) = _
          rw [if_neg (by omega)]
        refine aF0_TS ?_ ?_ (by rw [fr 2 (by decide)]; exact s2) (by rw [fr 3 (by decide)]; exact s3) (by rw [fr 4 (by decide)]; exact s4) (by rw [fr 5 (by decide)]; exact s5) (by rw [fr 6 (by decide)]; exact s6)
        · unfold sD; rw [if_neg (by omega), sT_ne (by decide)]
          show (if 112 = 112 ∧ 0 = 0 then _ else D 112 0) = _
          rw [if_pos ⟨rfl, rfl⟩]
        · rw [sD_eq, c2.2]
      · refine ⟨c3, ?_, ?_⟩
        · show Φ.2.2.1 < q.1.1
          rw [z1]; exact c3.1.1
        · show Φ.2.2.2 < 2 ^ q.1.1
          rw [z2]; exact Nat.two_pow_pos _
  rw [if_neg (show ¬ (h : Int) = 0 by omega), if_neg h0, vR_isHeadNumber_9]
  have m1 := F_m1 hO
  have m8 := F_m8 hO
  have h256 : 2 ^ Φ.1 ≤ 2 ^ 8 := Nat.pow_le_pow_right (by decide) m8
  have st : ∀ lim : Nat, 1 ≤ lim → Vl (d + 4) 36 39 [some (.inr (.inr (some 111))), some (.inl (h : Int))] [.inl ((lim : Int) - 1), .inl 0, .inr (.inr (some 111))] (hp ω D) = if t.1 = 257 then (if t.2.2.1 < lim then some ((0, some (.inl 1)), hp ω D) else some ((0, some (.inl 0)), hp ω (sF D 2 t.2.1))) else some ((0, some (.inl 0)), hp ω (sF D 1 t.2.1)) := fun lim hl => by
    rw [vR_isHeadNumber_39, aGF kR, isNumber_spec (d := d + 2) hT]
    by_cases q1 : t.1 = 257
    · rw [if_pos q1, if_pos q1]
      by_cases q2 : t.2.2.1 < lim
      · rw [if_pos q2, if_pos (show (0 : Int) ≤ (t.2.2.1 : Int) ∧ (t.2.2.1 : Int) ≤ (lim : Int) - 1 by omega), aVC, tlS, vR_isHeadNumber_42, aZ1]
      · rw [if_neg q2, if_neg (show ¬ ((0 : Int) ≤ (t.2.2.1 : Int) ∧ (t.2.2.1 : Int) ≤ (lim : Int) - 1) by omega), aVC, tlS, vR_isHeadNumber_42, aZ0]
    · rw [if_neg q1, if_neg q1, aVC, tlS, vR_isHeadNumber_42, aZ0]
  have st2 : (if (h : Int) = 1 then Vl (d + 4) 36 16 [some (.inr (.inr (some 111))), some (.inl (h : Int))] [.inl 0, .inr (.inr (some 111))] (hp ω D) else Vl (d + 4) 36 28 [some (.inr (.inr (some 111))), some (.inl (h : Int))] [.inl 0, .inr (.inr (some 111))] (hp ω D)) = if t.1 = 257 then (if t.2.2.1 < (if h = 1 then Φ.1 else 2 ^ Φ.1) then some ((0, some (.inl 1)), hp ω D) else some ((0, some (.inl 0)), hp ω (sF D 2 t.2.1))) else some ((0, some (.inl 0)), hp ω (sF D 1 t.2.1)) := by
    by_cases h1 : h = 1
    · rw [if_pos (show (h : Int) = 1 by omega), if_pos h1, vR_isHeadNumber_16, aGF kR, rR_0, aGF kR_0, hD, s0, show w32 (((aF0 Φ).1.1 : Int) - 1) = ((Φ.1 : Nat) : Int) - 1 from by show w32 ((Φ.1 : Int) - 1) = _; unfold w32; omega, st Φ.1 m1]
    · rw [if_neg (show ¬ (h : Int) = 1 by omega), if_neg h1, vR_isHeadNumber_28, aGF kR, rR_0, aGF kR_0, hD, s0, show w32 (jshl 1 ((aF0 Φ).1.1 : Int) - 1) = ((2 ^ Φ.1 : Nat) : Int) - 1 from by
        show w32 (jshl 1 (Φ.1 : Int) - 1) = _
        rw [show (jshl 1 (Φ.1 : Int)) = ((2 ^ Φ.1 : Nat) : Int) from by rw [show (1 : Int) = ((1 : Nat) : Int) from rfl, jshl_n (by omega) (by omega), Nat.one_mul]]
        have := Nat.two_pow_pos Φ.1
        unfold w32; omega, st (2 ^ Φ.1) (Nat.two_pow_pos _)]
  rw [st2]
  by_cases q1 : t.1 = 257
  rotate_left
  · rw [if_neg q1, if_neg q1]
    exact ⟨_, rfl, GF_sF GF_rf, sF_2, sF_3, Nat.succ_ne_zero _⟩
  rw [if_pos q1, if_pos q1]
  by_cases q2 : t.2.2.1 < (if h = 1 then Φ.1 else 2 ^ Φ.1)
  rotate_left
  · rw [if_neg q2, if_neg q2]
    exact ⟨_, rfl, GF_sF GF_rf, sF_2, sF_3, Nat.succ_ne_zero _⟩
  rw [if_pos q2, if_pos q2]
  refine ⟨D, rfl, GF_rf, hT, fun _ _ => rfl, rfl, ?_, ?_⟩
  · have fr : ∀ j, j ≠ h + 1 → sD D 112 (h + 1) (t.2.2.1 : Int) 112 j = D 112 j := fun j hj => if_neg (by omega)
    by_cases h1 : h = 1
    · subst h1
      exact aF0_TS (by rw [fr 0 (by decide)]; exact s0) (by rw [fr 1 (by decide)]; exact s1) sD_eq (by rw [fr 3 (by decide)]; exact s3) (by rw [fr 4 (by decide)]; exact s4) (by rw [fr 5 (by decide)]; exact s5) (by rw [fr 6 (by decide)]; exact s6)
    · obtain rfl : h = 2 := by omega
      exact aF0_TS (by rw [fr 0 (by decide)]; exact s0) (by rw [fr 1 (by decide)]; exact s1) (by rw [fr 2 (by decide)]; exact s2) sD_eq (by rw [fr 4 (by decide)]; exact s4) (by rw [fr 5 (by decide)]; exact s5) (by rw [fr 6 (by decide)]; exact s6)
  · by_cases h1 : h = 1
    · rw [if_pos h1] at q2
      show FOK (if h = 1 then _ else _)
      rw [if_pos h1]; exact ⟨hO.1, q2, hO.2.2⟩
    · rw [if_neg h1] at q2
      show FOK (if h = 1 then _ else _)
      rw [if_neg h1]; exact ⟨hO.1, hO.2.1, q2⟩
theorem headLine_spec {L h nh : Nat} (hL : LSR D (sx0 x len Φ nm) t L nh) (hk : kw t.2.2.1 = (h : Int)) (hh : h < 3) (hnh : nh ≤ h) (hz : nh = 0 → Φ.2.2.1 = 0 ∧ Φ.2.2.2 = 0) (hL9 : L < 1000) : ∃ D', Vl (d + 6) 35 0 [some (.inr (.inr (some 111))), none] [] (hp ω D) = some ((0, none), hp ω D') ∧ GF D D' ∧ HO D' x len nm (L + 1) (h + 1) (hdL (sx0 x len Φ nm) Φ h t) := by
  obtain ⟨hE, hT, e1, e11, e2⟩ := hL
  have hE1 : EV (sD D 111 11 ((h + 1 : Nat) : Int)) (sx0 x len Φ nm) := by
    obtain ⟨a1, a2, a3, a4, a5⟩ := hE
    exact ⟨RX_cg a1 (by unfold sD; rw [if_neg (by omega)]) (sD_ne (by decide)), TS_fr a3 a2 (fun c z b => sD_ne (by omega)), a3, FT_congr (fun c z b => sD_ne (by omega)) a4, fun i hi => absurd hi (Nat.not_lt_zero _)⟩
  have hT1 : TKD (sD D 111 11 ((h + 1 : Nat) : Int)) t := TKD_far hT (fun j hj => by unfold sD; rw [if_neg (by omega)])
  obtain ⟨D1, hD1⟩ : ∃ D1, D1 = sT (sD D 111 11 ((h + 1 : Nat) : Int)) (nx (sx0 x len Φ nm) t) := ⟨_, rfl⟩
  have q1 : Vl (d + 5) 26 0 [some (.inr (.inr (some 111))), none] [] (hp ω (sD D 111 11 ((h + 1 : Nat) : Int))) = some ((0, none), hp ω D1) := by rw [hD1]; exact scanX (d := d + 3) hE1 hT1
  have hE2 : EV D1 (sx0 x len Φ nm) := by rw [hD1]; exact EV_EF hE1 (EF_sT (B := 279))
  have hT2 : TKD D1 (nx (sx0 x len Φ nm) t) := by rw [hD1]; exact sT_TKD
  have g1 : GF D D1 := by rw [hD1]; exact GF_sT (GF_sD GF_rf (by decide))
  have b1 : D1 111 1 = (L : Int) := by rw [hD1, sT_far (by omega), ← e1]; exact if_neg (by omega)
  have b11 : D1 111 11 = ((h + 1 : Nat) : Int) := by rw [hD1, sT_far (by omega)]; exact sD_eq
  have b2 : D1 111 2 = 0 := by rw [hD1, sT_far (by omega), ← e2]; exact if_neg (by omega)
  obtain ⟨D2, q2, g2, p2⟩ := isHeadNumber_spec (ω := ω) (d := d + 1) (nm := nm) hE2.1 hT2 hE2.2.1 hE2.2.2.1.1 hh (fun z => hz (by omega))
  rw [vR_headLine_0, aGF kR, hD, hT.2.2.1, keyword_spec, hk, aVC, tlS, vR_headLine_7, aGF kR, aLt, hwD, w32_s (by omega), aGF kR, q1, aVC, tlN, vR_headLine_19, aGF kR, q2]
  unfold hdL
  cases hr : hdN (sx0 x len Φ nm) Φ h (nx (sx0 x len Φ nm) t) with
  | inl e =>
    rw [hr] at p2
    refine ⟨D2, ?_, GF_tr g1 g2, p2⟩
    show vC (some ((0, some (.inl 0)), _)) _ = _
    rw [aVC, tlS, vR_headLine_24, if_pos j00, vR_headLine_27]
  | inr q =>
    rw [hr] at p2
    obtain ⟨c1, c2, c3, c4, c5⟩ := p2
    have hX3 : RX (sD D2 112 (h + 1) (q.2.2.2.1 : Int)) x len := RX_cg hE2.1 (by rw [sD_ne (by decide), c2 10 (by decide)]) (by rw [sD_ne (by decide), c3])
    obtain ⟨D3, q3, g3, p3⟩ := head_tail (ω := ω) (d := d) (nm := nm) (L := L) (h := h + 1) hX3 (TKD_far c1 (fun j _ => by rw [sD_ne (by decide)])) c4 c5 hL9 (by rw [sD_ne (by decide), c2 1 (by decide)]; exact b1) (by rw [sD_ne (by decide), c2 11 (by decide)]; exact b11) (by rw [sD_ne (by decide), c2 2 (by decide)]; exact b2) (h : Int)
    refine ⟨D3, ?_, GF_tr (GF_tr g1 g2) (GF_tr (GF_sD GF_rf (by decide)) g3), p3⟩
    show vC (some ((0, some (.inl 1)), _)) _ = _
    rw [aVC, tlS, vR_headLine_24, if_neg j10, vR_headLine_28]
    by_cases h0 : h = 0
    · subst h0
      rw [if_pos (show ((0 : Nat) : Int) = 0 from rfl), vR_headLine_32, aGF kR, aGF kR, rR_0, aGF kR_0, hD, c1.2.2.1, aLt, hwD]
      exact q3
    rw [if_neg (show ¬ (h : Int) = 0 by omega), vR_headLine_46]
    by_cases h1 : h = 1
    · subst h1
      rw [if_pos (show ((1 : Nat) : Int) = 1 from rfl), vR_headLine_51, aGF kR, aGF kR, rR_0, aGF kR_0, hD, c1.2.2.1, aLt, hwD]
      exact q3
    · obtain rfl : h = 2 := by omega
      rw [if_neg (by decide), vR_headLine_65, aGF kR, aGF kR, rR_0, aGF kR_0, hD, c1.2.2.1, aLt, hwD]
      exact q3
end LINE
