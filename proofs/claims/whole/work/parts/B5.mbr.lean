/-! THE REFERENCE'S READER: brackets -/
def MSUB (X : sx) (k n : Nat) (sub : Option (tk → pr)) : Prop := match sub with
  | none => n = 0
  | some S => ∃ m, n = m + 1 ∧ ∀ (ρ : jr2) (D : jD) (t : tk) (s w : Nat), MST ρ D X t s w → w + m = 6 → s ≤ 3 * w → MPO ρ D X s w t.2.2.2 (S t) (Vl k 217 0 [some (.inr (.inr (some 488)))] [] (hp (1, ρ) D))
section MEX2
variable {ρ ρ1 ρ' : jr2} {D D1 D' D2 : jD} {d : Nat} {X : sx} {t : tk} {s w : Nat} {Φ : gF}
theorem MPO_bad {P f p : Nat} {f' : Int} (hf : f' = (f : Int)) {run : Option jr} (hL : LX ρ ρ1) (hX : XF D D1) (hr : run = some ((0, some (.inl 0)), hp (1, ρ1) (mFt D1 f' (p : Int)))) : MPO ρ D X s w P (.inl (f, p)) run := ⟨_, _, hr, hL, XF_tr hX XF_mFt, by rw [mFt_37]; exact hf, mFt_38⟩
theorem MPO_er {P P1 s1 w1 : Nat} {e : Nat × Nat} {run run' : Option jr} (h : MPO ρ1 D1 X s1 w1 P1 (.inl e) run) (hL : LX ρ ρ1) (hX : XF D D1) (hr : ∀ ρ2 D2, run = some ((0, some (.inl 0)), hp (1, ρ2) D2) → run' = some ((0, some (.inl 0)), hp (1, ρ2) D2)) : MPO ρ D X s w P (.inl e) run' := by
  obtain ⟨ρ2, D2, q1, q2, q3, q4, q5⟩ := h
  exact ⟨ρ2, D2, hr _ _ q1, LX_tr hL q2, XF_tr hX q3, q4, q5⟩
theorem mbad1 {len : Nat} (hT : MTK ρ D len t) : Vl d 211 0 [some (.inr (.inr (some 488))), some (.inl 1)] [] (hp (1, ρ) D) = some ((0, some (.inl 0)), hp (1, ρ) (mFt D 1 (t.2.1 : Int))) := mbad hT (k := 1) (fun _ => rfl)
theorem mbad2 {len : Nat} (hT : MTK ρ D len t) (h : t.1 < 258) : Vl d 211 0 [some (.inr (.inr (some 488))), some (.inl 2)] [] (hp (1, ρ) D) = some ((0, some (.inl 0)), hp (1, ρ) (mFt D 2 (t.2.1 : Int))) := mbad hT (k := 2) (fun z => by omega)
theorem mbad3 {len : Nat} (hT : MTK ρ D len t) (h : t.1 < 258) : Vl d 211 0 [some (.inr (.inr (some 488))), some (.inl 3)] [] (hp (1, ρ) D) = some ((0, some (.inl 0)), hp (1, ρ) (mFt D 3 (t.2.1 : Int))) := mbad hT (k := 3) (fun z => by omega)
theorem mbad4 {len : Nat} (hT : MTK ρ D len t) (h : t.1 < 258) : Vl d 211 0 [some (.inr (.inr (some 488))), some (.inl 4)] [] (hp (1, ρ) D) = some ((0, some (.inl 0)), hp (1, ρ) (mFt D 4 (t.2.1 : Int))) := mbad hT (k := 4) (fun z => by omega)
theorem msn40 {len : Nat} (hT : MTK ρ D len t) : Vl d 216 0 [some (.inr (.inr (some 488))), some (.inl 40)] [] (hp (1, ρ) D) = some ((0, some (.inl (if t.1 = 40 then 1 else 0))), hp (1, ρ) D) := msign hT (c := 40) (by decide)
theorem msn41 {len : Nat} (hT : MTK ρ D len t) : Vl d 216 0 [some (.inr (.inr (some 488))), some (.inl 41)] [] (hp (1, ρ) D) = some ((0, some (.inl (if t.1 = 41 then 1 else 0))), hp (1, ρ) D) := msign hT (c := 41) (by decide)
theorem msn42 {len : Nat} (hT : MTK ρ D len t) : Vl d 216 0 [some (.inr (.inr (some 488))), some (.inl 42)] [] (hp (1, ρ) D) = some ((0, some (.inl (if t.1 = 42 then 1 else 0))), hp (1, ρ) D) := msign hT (c := 42) (by decide)
theorem msn43 {len : Nat} (hT : MTK ρ D len t) : Vl d 216 0 [some (.inr (.inr (some 488))), some (.inl 43)] [] (hp (1, ρ) D) = some ((0, some (.inl (if t.1 = 43 then 1 else 0))), hp (1, ρ) D) := msign hT (c := 43) (by decide)
theorem msn44 {len : Nat} (hT : MTK ρ D len t) : Vl d 216 0 [some (.inr (.inr (some 488))), some (.inl 44)] [] (hp (1, ρ) D) = some ((0, some (.inl (if t.1 = 44 then 1 else 0))), hp (1, ρ) D) := msign hT (c := 44) (by decide)
theorem msn59 {len : Nat} (hT : MTK ρ D len t) : Vl d 216 0 [some (.inr (.inr (some 488))), some (.inl 59)] [] (hp (1, ρ) D) = some ((0, some (.inl (if t.1 = 59 then 1 else 0))), hp (1, ρ) D) := msign hT (c := 59) (by decide)
theorem msn61 {len : Nat} (hT : MTK ρ D len t) : Vl d 216 0 [some (.inr (.inr (some 488))), some (.inl 61)] [] (hp (1, ρ) D) = some ((0, some (.inl (if t.1 = 61 then 1 else 0))), hp (1, ρ) D) := msign hT (c := 61) (by decide)
theorem msn94 {len : Nat} (hT : MTK ρ D len t) : Vl d 216 0 [some (.inr (.inr (some 488))), some (.inl 94)] [] (hp (1, ρ) D) = some ((0, some (.inl (if t.1 = 94 then 1 else 0))), hp (1, ρ) D) := msign hT (c := 94) (by decide)
theorem psW_y {c : Nat} (h : t.1 = c) : psW X c t = .inr (nx X t) := if_pos h
theorem psW_n {c : Nat} (h : t.1 ≠ c) : psW X c t = .inl (1, t.2.1) := if_neg h
/-- the bracket closed: the stack is as it was, a bracket less -/
theorem mclose {k : Nat} (hS : MST ρ D X t s (w + 1)) (x1 x2 : Int) (hw : w < 6) : (∀ e, psW X 41 t = .inl e → ∃ D', Vl (k + 11) 224 100 [some (.inr (.inr (some 488))), some (.inl x1), some (.inl x2)] [] (hp (1, ρ) D) = some ((0, some (.inl 0)), hp (1, ρ) D') ∧ XF D D' ∧ D' 488 37 = (e.1 : Int) ∧ D' 488 38 = (e.2 : Int)) ∧ (∀ t2, psW X 41 t = .inr t2 → ∃ ρ' D', Vl (k + 11) 224 100 [some (.inr (.inr (some 488))), some (.inl x1), some (.inl x2)] [] (hp (1, ρ) D) = (if x1 < 4 then Vl (k + 11) 224 143 [some (.inr (.inr (some 488))), some (.inl x1), some (.inl x2)] [] (hp (1, ρ') D') else Vl (k + 11) 224 134 [some (.inr (.inr (some 488))), some (.inl x1), some (.inl x2)] [] (hp (1, ρ') D')) ∧ LX ρ ρ' ∧ XF D D' ∧ (∀ q, q ≠ 488 → D' q = D q) ∧ D' 488 37 = D 488 37 ∧ MST ρ' D' X t2 s w ∧ t.2.2.2 ≤ t2.2.2.2 ∧ (t2.1 ≠ 258 → t.2.2.2 + 1 ≤ t2.2.2.2)) := by
  refine ⟨fun e he => ?_, fun t2 he => ?_⟩
  · by_cases h : t.1 = 41
    · rw [psW_y h] at he; exact absurd he (by intro z; cases z)
    · rw [psW_n h] at he
      obtain rfl : (1, t.2.1) = e := by injection he
      refine ⟨mFt D 1 (t.2.1 : Int), ?_, XF_mFt, mFt_37, mFt_38⟩
      rw [vM_readBracket_100, mGF m488, msn41 hS.2.1, aVC, tlS, vM_readBracket_106, if_neg h, if_pos rfl, vM_readBracket_109, mGF m488, mbad1 hS.2.1, aVC, tlS, vM_readBracket_114, aZ0]
  · by_cases h : t.1 = 41
    rotate_left
    · rw [psW_n h] at he; exact absurd he (by intro z; cases z)
    rw [psW_y h] at he
    obtain rfl : nx X t = t2 := by injection he
    obtain ⟨ρ', D', q1, q2, q3, q4, q5, q6⟩ := mgoX (d := k + 8) hS (show t.1 < 258 by omega)
    have e45 : D' 488 45 = ((w + 1 : Nat) : Int) := q4.2.2.2
    refine ⟨ρ', sD D' 488 45 (w : Int), ?_, q2, XF_tr (XF_TX q3) (XF_sD (by decide)), fun q a => by rw [sD_ne a, q3.1 q a], by rw [sD_nb (by decide), q3.2 37 (by decide)], MST_cg q4 (XF_sD (by decide)) (fun j _ b => sD_nb (by omega)) (by rw [sD_nb (by decide)]; exact q4.2.2.1) sD_eq, q5, q6⟩
    rw [vM_readBracket_100, mGF m488, msn41 hS.2.1, aVC, tlS, vM_readBracket_106, if_pos h, if_neg j10, vM_readBracket_115, mGF m488, q1, aVC, tlN, vM_readBracket_119]
    simp only [mGF m488, hwD, aLt, hD, e45]
    rw [show w32 (((w + 1 : Nat) : Int) - 1) = (w : Int) from by rw [w32_i (by omega) (by omega)]; omega]
/-- a bracket opened -/
theorem mopen {k n : Nat} {S : tk → pr} (hs : MSUB X (k + 10) n (some S)) (hS : MST ρ D X t s w) (hw : w + n = 6) (ht : t.1 < 258) (x1 : Int) : ∃ ρ' D', Vl (k + 11) 224 0 [some (.inr (.inr (some 488))), some (.inl x1), none] [] (hp (1, ρ) D) = Vl (k + 11) 224 34 [some (.inr (.inr (some 488))), some (.inl x1), some (.inl (t.2.1 : Int))] [] (hp (1, ρ') D') ∧ LX ρ ρ' ∧ XF D D' ∧ (∀ q, q ≠ 488 → D' q = D q) ∧ D' 488 37 = D 488 37 ∧ MST ρ' D' X (nx X t) s (w + 1) ∧ t.2.2.2 ≤ (nx X t).2.2.2 ∧ ((nx X t).1 ≠ 258 → t.2.2.2 + 1 ≤ (nx X t).2.2.2) := by
  obtain ⟨m, hm, -⟩ := hs
  have e45 : D 488 45 = (w : Int) := hS.2.2.2
  have e33 : D 488 33 = (t.2.1 : Int) := hS.2.1.1
  have hS1 : MST ρ (sD D 488 45 ((w + 1 : Nat) : Int)) X t s (w + 1) := MST_cg hS (XF_sD (by decide)) (fun j _ b => sD_nb (by omega)) (by rw [sD_nb (by decide)]; exact hS.2.2.1) sD_eq
  obtain ⟨ρ', D', q1, q2, q3, q4, q5, q6⟩ := mgoX (d := k + 8) hS1 ht
  refine ⟨ρ', D', ?_, q2, XF_tr (XF_sD (by decide)) (XF_TX q3), fun q a => by rw [q3.1 q a, sD_ne a], by rw [q3.2 37 (by decide), sD_nb (by decide)], q4, q5, q6⟩
  rw [vM_readBracket_0, mGF m488, hD, e45, if_neg (by omega), vM_readBracket_15]
  simp only [mGF m488, hwD, aLt, hD, e45, e33]
  rw [w32_s (by omega), q1, aVC, tlN]
/-- no bracket more -/
theorem mdeep {k : Nat} (hS : MST ρ D X t s 6) (ht : t.1 < 258) (x1 : Int) : Vl (k + 11) 224 0 [some (.inr (.inr (some 488))), some (.inl x1), none] [] (hp (1, ρ) D) = some ((0, some (.inl 0)), hp (1, ρ) (mFt D 4 (t.2.1 : Int))) := by
  have e45 : D 488 45 = ((6 : Nat) : Int) := hS.2.2.2
  rw [vM_readBracket_0, mGF m488, hD, e45, if_pos (show ((6 : Nat) : Int) = 6 from rfl), vM_readBracket_9, mGF m488, mbad4 hS.2.1 ht, aVC, tlS, vM_readBracket_14, aZ0]
theorem mbr1 {k n : Nat} {sub : Option (tk → pr)} (hs : MSUB X (k + 10) n sub) (hS : MST ρ D X t s w) (hw : w + n = 6) (ht : t.1 < 258) (hs3 : s ≤ 3 * w + 2) : MPO ρ D X s w t.2.2.2 (brP X sub t) (Vl (k + 11) 224 0 [some (.inr (.inr (some 488))), some (.inl (-1)), none] [] (hp (1, ρ) D)) := by
  cases sub with
  | none =>
    have hn : n = 0 := hs
    obtain rfl : w = 6 := by omega
    exact MPO_bad (f' := 4) rfl LX_rf XF_rf (mdeep hS ht (-1))
  | some S =>
    obtain ⟨ρ1, D1, q1, q2, q3, q3a, q4, q5, q6, q7⟩ := mopen hs hS hw ht (-1)
    obtain ⟨m, hm, hR⟩ := hs
    have r := hR ρ1 D1 (nx X t) s (w + 1) q5 (by omega) (by omega)
    rw [q1, vM_readBracket_34, if_pos (by decide), vM_readBracket_58, mGF m488]
    unfold brP
    dsimp only
    cases hr : S (nx X t) with
    | inl e =>
      rw [hr] at r
      refine MPO_er r q2 q3 (fun ρ2 D2 q => ?_)
      rw [q, aVC, tlS, vM_readBracket_62, if_pos rfl, vM_readBracket_65, aZ0]
    | inr rr =>
      obtain ⟨v, t1⟩ := rr
      rw [hr] at r
      obtain ⟨ρ2, D2, r1, r2, r3, r4, r5, r6, r7, r8, r9, r10⟩ := r
      dsimp only at r5 r6 r7 r9 r10
      have st : vC (Vl (k + 10) 217 0 [some (.inr (.inr (some 488)))] [] (hp (1, ρ1) D1)) (fun r1 h2 => Vl (k + 11) 224 62 [some (.inr (.inr (some 488))), some (.inl (-1)), some (.inl (t.2.1 : Int))] (r1.toList ++ []) h2) = Vl (k + 11) 224 100 [some (.inr (.inr (some 488))), some (.inl (-1)), some (.inl (t.2.1 : Int))] [] (hp (1, ρ2) D2) := by
        rw [r1, aVC, tlS, vM_readBracket_62, if_neg j10, vM_readBracket_67, if_pos (by decide)]
      rw [st]
      obtain ⟨c1, c2⟩ := mclose (k := k) r5 (-1) (t.2.1 : Int) (by omega)
      dsimp only
      cases hp4 : psW X 41 t1 with
      | inl e =>
        obtain ⟨D3, z1, z2, z3, z4⟩ := c1 e hp4
        exact ⟨ρ2, D3, z1, LX_tr q2 r2, XF_tr q3 (XF_tr r3 z2), z3, z4⟩
      | inr t2 =>
        obtain ⟨ρ3, D3, z1, z2, z3, z3a, z4, z5, z6, z7⟩ := c2 t2 hp4
        refine ⟨ρ3, D3, ?_, LX_tr q2 (LX_tr r2 z2), XF_tr q3 (XF_tr r3 z3), by rw [z4, r4, q4], z5, ?_, r7, fun b hb => by rw [z3a 514 (by decide), r8 b hb, q3a 514 (by decide)], ?_, fun z => ?_⟩
        · rw [z1, if_pos (by decide), vM_readBracket_143, vM_readBracket_148, aZ1]
        · unfold PRo; rw [z3a 514 (by decide)]; exact r6
        · show t.2.2.2 ≤ t2.2.2.2; omega
        · show t.2.2.2 + 1 ≤ t2.2.2.2
          have := z7 z; omega
theorem mbr2 {k n : Nat} {sub : Option (tk → pr)} (hs : MSUB X (k + 10) n sub) (hS : MST ρ D X t s w) (hw : w + n = 6) (ht : t.1 < 258) (hs3 : s ≤ 3 * w + 2) {x1 : Int} (h4 : 4 ≤ x1) (h11 : x1 ≤ 11) : MPO ρ D X s w t.2.2.2 (whP X sub x1 t) (Vl (k + 11) 224 0 [some (.inr (.inr (some 488))), some (.inl x1), none] [] (hp (1, ρ) D)) := by
  cases sub with
  | none =>
    have hn : n = 0 := hs
    obtain rfl : w = 6 := by omega
    exact MPO_bad (f' := 4) rfl LX_rf XF_rf (mdeep hS ht x1)
  | some S =>
    obtain ⟨ρ1, D1, q1, q2, q3, q3a, q4, q5, q6, q7⟩ := mopen hs hS hw ht x1
    obtain ⟨m, hm, hR⟩ := hs
    rw [q1, vM_readBracket_34, if_neg (show ¬ x1 < 4 by omega), vM_readBracket_39, mGF m488, msn40 q5.2.1, aVC, tlS, vM_readBracket_45]
    unfold whP
    dsimp only
    by_cases h40 : (nx X t).1 = 40
    rotate_left
    · rw [psW_n h40, if_neg h40, if_pos rfl, vM_readBracket_48, mGF m488, mbad1 q5.2.1, aVC, tlS, vM_readBracket_53, aZ0]
      exact MPO_bad (f' := 1) rfl q2 q3 rfl
    rw [psW_y h40, if_pos h40, if_neg j10, vM_readBracket_54, mGF m488]
    dsimp only
    obtain ⟨ρ2, D2, g1, g2, g3, g4, g5, g6⟩ := mgoX (d := k + 8) q5 (show (nx X t).1 < 258 by omega)
    have L2 := LX_tr q2 g2
    have F2 := XF_tr q3 (XF_TX g3)
    have r := hR ρ2 D2 (nx X (nx X t)) s (w + 1) g4 (by omega) (by omega)
    rw [g1, aVC, tlN, vM_readBracket_58, mGF m488]
    cases hr : S (nx X (nx X t)) with
    | inl e =>
      rw [hr] at r
      refine MPO_er r L2 F2 (fun ρ2 D2 q => ?_)
      rw [q, aVC, tlS, vM_readBracket_62, if_pos rfl, vM_readBracket_65, aZ0]
    | inr rr =>
      obtain ⟨F, t1⟩ := rr
      rw [hr] at r
      obtain ⟨ρ3, D3, r1, r2, r3, r4, r5, r6, r7, r8, r9, r10⟩ := r
      dsimp only at r5 r6 r7 r9 r10
      have L3 := LX_tr L2 r2
      have F3 := XF_tr F2 r3
      rw [r1, aVC, tlS, vM_readBracket_62, if_neg j10, vM_readBracket_67, if_neg (show ¬ x1 < 4 by omega), vM_readBracket_72, mGF m488, msn44 r5.2.1, aVC, tlS, vM_readBracket_78]
      dsimp only
      by_cases h44 : t1.1 = 44
      rotate_left
      · rw [psW_n h44, if_neg h44, if_pos rfl, vM_readBracket_81, mGF m488, mbad1 r5.2.1, aVC, tlS, vM_readBracket_86, aZ0]
        exact MPO_bad (f' := 1) rfl L3 F3 rfl
      rw [psW_y h44, if_pos h44, if_neg j10, vM_readBracket_87, mGF m488]
      dsimp only
      obtain ⟨ρ4, D4, u1, u2, u3, u4, u5, u6⟩ := mgoX (d := k + 8) r5 (show t1.1 < 258 by omega)
      have L4 := LX_tr L3 u2
      have F4 := XF_tr F3 (XF_TX u3)
      have v := hR ρ4 D4 (nx X t1) (s + 1) (w + 1) u4 (by omega) (by omega)
      rw [u1, aVC, tlN, vM_readBracket_91, mGF m488]
      cases hv : S (nx X t1) with
      | inl e =>
        rw [hv] at v
        refine MPO_er v L4 F4 (fun ρ2 D2 q => ?_)
        rw [q, aVC, tlS, vM_readBracket_95, if_pos rfl, vM_readBracket_98, aZ0]
      | inr rr2 =>
        obtain ⟨G, t4⟩ := rr2
        rw [hv] at v
        obtain ⟨ρ5, D5, v1, v2, v3, v4, v5, v6, v7, v8, v9, v10⟩ := v
        dsimp only at v5 v6 v7 v9 v10
        have L5 := LX_tr L4 v2
        have F5 := XF_tr F4 v3
        rw [v1, aVC, tlS, vM_readBracket_95, if_neg j10]
        obtain ⟨c1, c2⟩ := mclose (k := k) v5 x1 (t.2.1 : Int) (by omega)
        dsimp only
        cases hp4 : psW X 41 t4 with
        | inl e =>
          obtain ⟨D6, z1, z2, z3, z4⟩ := c1 e hp4
          exact ⟨ρ5, D6, z1, L5, XF_tr F5 z2, z3, z4⟩
        | inr t5 =>
          obtain ⟨ρ6, D6, z1, z2, z3, z3a, z4, z5, z6, z7⟩ := c2 t5 hp4
          have L6 := LX_tr L5 z2
          have F6 := XF_tr F5 z3
          have RF : PRo D6 514 (17 * s) F := fun b hb => by rw [z3a 514 (by decide), v8 _ (by omega), u3.1 514 (by decide)]; exact r6 b hb
          have RG : PRo D6 514 (17 * (s + 1)) G := by unfold PRo; rw [z3a 514 (by decide)]; exact v6
          obtain ⟨D7, w1, w2, w3⟩ := mwork (d := k + 1) (ρ := ρ6) h4 h11 z5.1.2.2.1 RF RG r7 v7 z5.2.2.1 (by omega) (t.2.1 : Int)
          rw [z1, if_neg (show ¬ x1 < 4 by omega), vM_readBracket_134, mGF m488]
          dsimp only
          cases hk : wrk (tF (sA X)) x1 F G with
          | none =>
            rw [hk] at w3
            obtain ⟨y1, y2, y3⟩ := w3
            refine ⟨ρ6, D7, ?_, L6, XF_tr F6 w1, y2, y3⟩
            rw [y1, aVC, tlS, vM_readBracket_140, if_pos rfl, vM_readBracket_147, vM_readBracket_148, aZ0]
          | some vv =>
            rw [hk] at w3
            obtain ⟨y1, y2, y3, y4, y5, y6⟩ := w3
            refine ⟨ρ6, D7, ?_, L6, XF_tr F6 w1, by rw [y2, z4, v4, u3.2 37 (by decide), r4, g3.2 37 (by decide), q4], MST_cg z5 w1 (fun j a b => w2 j (Or.inl ⟨a, b⟩)) y3 (by rw [w2 45 (Or.inr rfl)]; exact z5.2.2.2), y4, y5, fun b hb => by rw [y6 b hb, z3a 514 (by decide), v8 b (by omega), u3.1 514 (by decide), r8 b hb, g3.1 514 (by decide), q3a 514 (by decide)], ?_, fun z => ?_⟩
            · rw [y1, aVC, tlS, vM_readBracket_140, if_neg j10, vM_readBracket_143, vM_readBracket_148, aZ1]
            · show t.2.2.2 ≤ t5.2.2.2; omega
            · show t.2.2.2 + 1 ≤ t5.2.2.2
              have := z7 z; omega
end MEX2
