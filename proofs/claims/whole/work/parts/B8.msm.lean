/-! THE REFERENCE'S READER: sums, all depths -/
section MEX5
variable {ρ ρ1 ρ' : jr2} {D D1 D' D2 : jD} {d : Nat} {X : sx} {t : tk} {s w : Nat} {Φ : gF}
theorem mtermE {k n : Nat} {sub : Option (tk → pr)} (hs : MSUB X (k + 10) n sub) (hS : MST ρ D X t s w) (hw : w + n = 6) (hs3 : s ≤ 3 * w + 1) : MPO ρ D X s w t.2.2.2 (tmP X sub t) (Vl (k + 14) 218 0 [some (.inr (.inr (some 488))), none, none, none] [] (hp (1, ρ) D)) := by
  have r := mpower hs hS hw (by omega)
  rw [vM_readTerm_0, mGF m488]
  unfold tmP
  cases hr : pwP X sub t with
  | inl e =>
    rw [hr] at r
    refine MPO_er r LX_rf XF_rf (fun ρ2 D2 q => ?_)
    rw [q, aVC, tlS, vM_readTerm_4, if_pos rfl, vM_readTerm_7, aZ0]
  | inr rr =>
    obtain ⟨v, t1⟩ := rr
    rw [hr] at r
    obtain ⟨ρ1, D1, r1, r2, r3, r4, r5, r6, r7, r8, r9, r10⟩ := r
    dsimp only at r5 r6 r7 r9 r10
    have hle := mtk_le r5
    have ih := mterm_loop hs hw hs3 t.2.2.2 540 v t1 ρ1 D1 none none none r5 r6 r7 (fun z => by have := hle.2 (by omega); omega) r9 r10
    rw [r1, aVC, tlS, vM_readTerm_4, if_neg j10]
    dsimp only
    cases hq : tmL X sub 540 v t1 with
    | inl e =>
      rw [hq] at ih
      exact MPO_er ih r2 r3 (fun _ _ z => z)
    | inr rr =>
      rw [hq] at ih
      obtain ⟨ρ6, D6, c1, c2, c3, c4, c5, c6, c7, c8, c9⟩ := ih
      exact ⟨ρ6, D6, c1, LX_tr r2 c2, XF_tr r3 c3, by rw [c4, r4], c5, c6, c7, fun b hb => by rw [c8 b hb, r8 b hb], c9⟩
theorem msum_loop {k n : Nat} {sub : Option (tk → pr)} (hs : MSUB X (k + 10) n sub) (hw : w + n = 6) (hs3 : s ≤ 3 * w) (P : Nat) : ∀ (m : Nat) (a : pl) (t : tk) (ρ : jr2) (D : jD), MST ρ D X t (s + 1) w → PRo D 514 (17 * s) a → pOK (tF (sA X)) a → (t.1 = 43 → 541 ≤ m + t.2.2.2) → P ≤ t.2.2.2 → (t.1 ≠ 258 → P + 1 ≤ t.2.2.2) → MPO ρ D X s w P (if t.1 = 43 then smL X sub m a (nx X t) else .inr (a, t)) (Vl (k + 15) 217 9 [some (.inr (.inr (some 488)))] [] (hp (1, ρ) D))
  | m, a, t, ρ, D, hS, RA, oA, hm, hP, hP2 => by
    have hO := hS.1.2.2.1.1
    have hle := mtk_le hS
    rw [vM_readExpr_9, mGF m488, msn43 hS.2.1, aVC, tlS, vM_readExpr_15]
    by_cases h43 : t.1 = 43
    rotate_left
    · rw [if_neg h43, if_neg h43, if_pos rfl, vM_readExpr_69, aZ1]
      exact ⟨ρ, D, rfl, LX_rf, XF_rf, rfl, hS, RA, oA, fun _ _ => rfl, hP, hP2⟩
    match m, hm with
    | 0, hm => have := hm h43; omega
    | m + 1, hm =>
      have h541 := hm h43
      rw [if_pos h43, if_pos h43, if_neg j10, vM_readExpr_18, mGF m488]
      obtain ⟨ρ1, D1, g1, g2, g3, g4, g5, g6⟩ := mgoX (d := k + 12) hS (show t.1 < 258 by omega)
      have r := mtermE hs g4 hw (by omega)
      rw [g1, aVC, tlN, vM_readExpr_22, mGF m488]
      unfold smL
      cases hr : tmP X sub (nx X t) with
      | inl e =>
        rw [hr] at r
        refine MPO_er r g2 (XF_TX g3) (fun ρ2 D2 q => ?_)
        rw [q, aVC, tlS, vM_readExpr_26, if_pos rfl, vM_readExpr_29, aZ0]
      | inr rr =>
        obtain ⟨v, t1⟩ := rr
        rw [hr] at r
        have hn58 : (nx X t).1 ≠ 258 := fun z => by rw [tmP_258 z] at hr; cases hr
        have hg7 := g6 hn58
        obtain ⟨ρ2, D2, r1, r2, r3, r4, r5, r6, r7, r8, r9, r10⟩ := r
        dsimp only at r5 r6 r7 r9 r10
        have L2 := LX_tr g2 r2
        have F2 := XF_tr (XF_TX g3) r3
        have RA2 : PRo D2 514 (17 * s) a := fun b hb => by rw [r8 _ (by omega), g3.1 514 (by decide)]; exact RA b hb
        obtain ⟨E1, E, p1, p2, p3, p4, p5, p6, p7, p8⟩ := mpop2 (k := k + 12) r5 RA2 r6 (by omega)
        have q3 := mplus (d := k + 14) (ρ := ρ2) (D := E) hO m515 m516 (by decide) (by decide) (by decide) p3 p4 oA.1 r7.1
        have f3 : ∀ q, (q ≤ 496 ∨ 518 ≤ q) → pD E 515 (rI (pA a v)) q = E q := fun q b => pD_ne (by omega)
        have hS3 : MST ρ2 (pD E 515 (rI (pA a v))) X t1 s w := MST_sc p6 f3
        have oS : pOK (tF (sA X)) (pA a v) := ⟨pA_in oA.1 r7.1, pA_dle oA.2 r7.2⟩
        obtain ⟨E4, b1, b2, b3, b4, b5, b6⟩ := mput (k := k + 13) hS3 m515 (by decide) pD_PR (by omega)
        have F4 : XF D E4 := XF_tr F2 (XF_tr p5 (XF_tr (XF_sc f3) b2))
        have ih := msum_loop hs hw hs3 P m (pA a v) t1 ρ2 E4 b3 b5 oS (fun z => by have := r10 (by omega); omega) (by omega) (fun z => by have := r10 z; omega)
        rw [r1, aVC, tlS, vM_readExpr_26, if_neg j10, vM_readExpr_31]
        simp only [mGF m488, mr42]
        rw [p1, aVC, tlN, vM_readExpr_39]
        simp only [mGF m488, mr41]
        rw [p2, aVC, tlN, vM_readExpr_47]
        simp only [mGF m488, mr41, mr42]
        rw [q3, aVC, tlN, vM_readExpr_58]
        simp only [mGF m488, mr41]
        rw [b1, aVC, tlN, vM_readExpr_66]
        cases hq : (if t1.1 = 43 then smL X sub m (pA a v) (nx X t1) else .inr (pA a v, t1) : pr) with
        | inl e =>
          rw [hq] at ih
          exact MPO_er ih L2 F4 (fun _ _ z => z)
        | inr rr =>
          rw [hq] at ih
          obtain ⟨ρ6, D6, c1, c2, c3, c4, c5, c6, c7, c8, c9⟩ := ih
          exact ⟨ρ6, D6, c1, LX_tr L2 c2, XF_tr F4 c3, by rw [c4, b4, f3 488 (by decide), p7, r4, g3.2 37 (by decide)], c5, c6, c7, fun b hb => by rw [c8 b hb, b6 b hb, pD_ne (by decide), p8, r8 b (by omega), g3.1 514 (by decide)], c9⟩
theorem msum {k n : Nat} {sub : Option (tk → pr)} (hs : MSUB X (k + 10) n sub) (hS : MST ρ D X t s w) (hw : w + n = 6) (hs3 : s ≤ 3 * w) : MPO ρ D X s w t.2.2.2 (smP X sub t) (Vl (k + 15) 217 0 [some (.inr (.inr (some 488)))] [] (hp (1, ρ) D)) := by
  have r := mtermE hs hS hw (by omega)
  rw [vM_readExpr_0, mGF m488]
  unfold smP smL
  cases hr : tmP X sub t with
  | inl e =>
    rw [hr] at r
    refine MPO_er r LX_rf XF_rf (fun ρ2 D2 q => ?_)
    rw [q, aVC, tlS, vM_readExpr_4, if_pos rfl, vM_readExpr_7, aZ0]
  | inr rr =>
    obtain ⟨v, t1⟩ := rr
    rw [hr] at r
    have hn58 : t.1 ≠ 258 := fun z => by rw [tmP_258 z] at hr; cases hr
    have hle := (mtk_le hS).2 hn58
    obtain ⟨ρ1, D1, r1, r2, r3, r4, r5, r6, r7, r8, r9, r10⟩ := r
    dsimp only at r5 r6 r7 r9 r10
    have ih := msum_loop hs hw hs3 t.2.2.2 539 v t1 ρ1 D1 r5 r6 r7 (fun z => by have := r10 (by omega); omega) r9 r10
    rw [r1, aVC, tlS, vM_readExpr_4, if_neg j10]
    dsimp only
    rw [p0_A]
    cases hq : (if t1.1 = 43 then smL X sub 539 v (nx X t1) else .inr (v, t1) : pr) with
    | inl e =>
      rw [hq] at ih
      exact MPO_er ih r2 r3 (fun _ _ z => z)
    | inr rr =>
      rw [hq] at ih
      obtain ⟨ρ6, D6, c1, c2, c3, c4, c5, c6, c7, c8, c9⟩ := ih
      exact ⟨ρ6, D6, c1, LX_tr r2 c2, XF_tr r3 c3, by rw [c4, r4], c5, c6, c7, fun b hb => by rw [c8 b hb, r8 b hb], c9⟩
theorem msumN (X : sx) : ∀ (n d : Nat) (ρ : jr2) (D : jD) (t : tk) (s w : Nat), MST ρ D X t s w → w + n = 6 → s ≤ 3 * w → MPO ρ D X s w t.2.2.2 (smN X n t) (Vl (d + 5 * n + 15) 217 0 [some (.inr (.inr (some 488)))] [] (hp (1, ρ) D))
  | 0, d, ρ, D, t, s, w, hS, hw, h3 => msum (k := d) (n := 0) (sub := none) rfl hS hw h3
  | n + 1, d, ρ, D, t, s, w, hS, hw, h3 => by
    have q := msum (k := d + 5 * n + 5) (n := n + 1) (sub := some (smN X n)) ⟨n, rfl, fun ρ D t s w a b c => msumN X n d ρ D t s w a b c⟩ hS hw h3
    rw [show d + 5 * n + 5 + 15 = d + 5 * (n + 1) + 15 by omega] at q
    exact q
end MEX5
