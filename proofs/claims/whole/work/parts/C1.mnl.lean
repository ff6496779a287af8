/-! THE REFERENCE'S READER: a LINE of a NAME; a LINE -/
section MNL
variable {ρ ρ1 ρ' : jr2} {D D1 D' D2 : jD} {d : Nat} {X : sx} {t : tk} {l : Nat} {Φ : gF} {x : Nat → Nat} {len : Nat} {nm : Nat → Nat}
theorem MTK_ρ {len : Nat} (hT : MTK ρ D len t) (h : ρ'.2.2 488 39 = ρ.2.2 488 39) : MTK ρ' D len t := by unfold MTK at hT ⊢; rw [h]; exact hT
theorem sM_ne {c i : Nat} {v : Int} {a b : Nat} (h : a ≠ c) : (sM ρ c i v).2.2 a b = ρ.2.2 a b := if_neg (fun z => h z.1)
theorem nx_nm {c i : Nat} {v : pl} {t2 : tk} : nx (nmX X c i v) t2 = nx X t2 := rfl
/-- the name and its polynomial laid down -/
theorem mlayN {k : Nat} {t2 : tk} {v : pl} {j : Int} {c i : Nat} (hS : MST ρ D X t2 1 0) (hR : MRD D (sA X)) (h46 : D 488 46 = 4) (h37 : D 488 37 = 0) (Rv : PRo D 514 0 v) (ov : pOK (tF (sA X)) v) (hj : (j = -1 ∧ i = tN (sA X) ∧ tN (sA X) < 12) ∨ (j = (i : Int) ∧ i < tN (sA X) ∧ sC X i = c)) (hc : mvd 6 c) : ∃ ρ' D', Vl (k + 2) 214 116 [some (.inr (.inr (some 488))), some (.inl j), some (.inr (.inl (cv 6 c : Int))), none] [] (hp (1, ρ) D) = some ((0, some (.inl 1)), hp (1, ρ') D') ∧ LG ρ ρ' ∧ XG D D' ∧ MPR ρ' D' (nmX X c i v) t2 4 := by
  obtain ⟨⟨hX, hO, hF, ⟨n1, n2, n3⟩, hP⟩, hT, h44, h45⟩ := hS
  obtain ⟨r1, r2, r3, r4, r5⟩ := hR
  have hi12 : i < 12 := by omega
  -- the name
  have step : ∃ ρ1 D1, Vl (k + 2) 214 116 [some (.inr (.inr (some 488))), some (.inl j), some (.inr (.inl (cv 6 c : Int))), none] [] (hp (1, ρ) D) = Vl (k + 2) 214 145 [some (.inr (.inr (some 488))), some (.inl (i : Int)), some (.inr (.inl (cv 6 c : Int))), none] [] (hp (1, ρ1) D1) ∧ LG ρ ρ1 ∧ ρ1.2.2 488 39 = ρ.2.2 488 39 ∧ (∀ q, q ≠ 491 → D1 q = D q) ∧ (∀ b, b ≠ 4 → D1 491 b = D 491 b) ∧ D1 491 4 = ((max (tN (sA X)) (i + 1) : Nat) : Int) ∧ ∀ q, q < max (tN (sA X)) (i + 1) → ρ1.2.2 494 q = (cv 6 (if q = i then c else sC X q) : Int) ∧ mvd 6 (if q = i then c else sC X q) := by
    rw [vM_readNamed_116]
    rcases hj with ⟨e1, e2, e3⟩ | ⟨e1, e2, e3⟩
    · refine ⟨sM ρ 494 i (cv 6 c : Int), sD D 491 4 ((i + 1 : Nat) : Int), ?_, ⟨rfl, rfl, fun b hb => funext fun y => if_neg (by omega)⟩, sM_ne (by decide), fun q a => sD_ne a, fun b a => sD_nb a, ?_, fun q hq => ?_⟩
      · rw [if_pos e1, vM_readNamed_121]
        simp only [mGF m488, mr4, mr7]
        rw [mIA m491, if_pos (by decide), show (4 : Int).toNat = 4 from rfl, n2, ← e2, mLS m494, if_pos (by omega), Int.toNat_natCast]
        simp only [mGF m488, mr4]
        rw [mIA m491, if_pos (by decide), show (4 : Int).toNat = 4 from rfl, n2, ← e2, mIS m491, if_pos (by decide), show (4 : Int).toNat = 4 from rfl, w32_s (by omega)]
      · rw [sD_eq, ← e2, show max i (i + 1) = i + 1 by omega]
      · show (if 494 = 494 ∧ q = i then ((cv 6 c : Nat) : Int) else ρ.2.2 494 q) = _ ∧ _
        by_cases h : q = i
        · rw [if_pos ⟨rfl, h⟩, if_pos h]; exact ⟨rfl, hc⟩
        · rw [if_neg (fun z => h z.2), if_neg h]; exact n3 q (by omega)
    · refine ⟨ρ, D, ?_, LG_rf, rfl, fun _ _ => rfl, fun _ _ => rfl, by rw [n2, show max (tN (sA X)) (i + 1) = tN (sA X) by omega], fun q hq => ?_⟩
      · rw [if_neg (by omega), e1]
      · by_cases h : q = i
        · rw [if_pos h, ← e3, h]; exact n3 i e2
        · rw [if_neg h]; exact n3 q (by omega)
  obtain ⟨ρ1, D1, s1, s2, s2', s3, s4, s5, s6⟩ := step
  have q1 := mpop (d := k) (ρ := ρ1) (D := D1) (s := 0) (F := v) m515 (by decide) (by rw [Nat.mul_zero]; unfold PRo; rw [s3 514 (by decide)]; exact Rv) (by rw [s3 488 (by decide)]; exact h44) (by decide)
  obtain ⟨E, hE⟩ : ∃ E, E = pD (sD D1 488 44 ((0 : Nat) : Int)) 515 (rI v) := ⟨_, rfl⟩
  rw [← hE] at q1
  have eE : ∀ q, q ≠ 488 → q ≠ 515 → E q = D1 q := fun q a b => by rw [hE, pD_ne b, sD_ne a]
  have e8 : ∀ j, j ≠ 44 → E 488 j = D1 488 j := fun j a => by rw [hE, pD_ne (by decide), sD_nb a]
  have q2 := mcopy (d := k + 1) (ρ := ρ1) (D := E) (a := 0) (b := 16 + 17 * i) m515 m491 (by decide) (by omega) (by decide) (Or.inl (by decide)) (F := v) (PRo_0 (by rw [hE]; exact pD_PR))
  obtain ⟨G, hG⟩ : ∃ G, G = pOn E 491 (16 + 17 * i) 17 (rI v) := ⟨_, rfl⟩
  rw [← hG] at q2
  have g8 : ∀ j, j ≠ 44 → G 488 j = D 488 j := fun j a => by rw [hG, pOn_far (by decide), e8 j a, s3 488 (by decide)]
  have gq : ∀ q, q ≠ 488 → q ≠ 515 → q ≠ 491 → G q = D q := fun q a b c => by rw [hG, pOn_far c, eE q a b, s3 q c]
  have g491 : ∀ b, (b < 16 + 17 * i ∨ 16 + 17 * i + 17 ≤ b) → G 491 b = D1 491 b := fun b hb => by rw [hG, pOn_ne (Or.inr (by omega)), eE 491 (by decide) (by decide)]
  refine ⟨ρ1, G, ?_, s2, ⟨fun q a => gq q (by omega) (by omega) (by omega), fun j a b _ _ => g8 j b⟩, ⟨⟨by rw [g8 31 (by decide)]; exact hX.1, hX.2.1, fun y hy => by rw [gq 489 (by decide) (by decide) (by decide)]; exact hX.2.2 y hy⟩, tPut_OK hO (by omega) hi12 ov, ⟨by show max (tN (sA X)) (i + 1) ≤ 12; omega, by rw [g491 4 (by omega)]; exact s5, s6⟩, fun q hq => ?_⟩, ⟨?_, by rw [g491 5 (by omega), s4 5 (by decide)]; exact r2, by rw [g491 6 (by omega), s4 6 (by decide)]; exact r3, r4, r5⟩, MTK_ρ (MTK_cg hT (fun j a b => g8 j (by omega))) s2', by rw [g8 46 (by decide)]; exact h46, by rw [g8 37 (by decide)]; exact h37⟩
  · rw [s1, vM_readNamed_145]
    simp only [mGF m488, mr41]
    rw [q1, aVC, tlN, vM_readNamed_153]
    simp only [mGF m488, mr4, mr41]
    rw [show w32 (16 + w32 (17 * (i : Int))) = ((16 + 17 * i : Nat) : Int) from by rw [w32_i (x := 17 * (i : Int)) (by omega) (by omega), w32_i (by omega) (by omega)]; omega, show (0 : Int) = ((0 : Nat) : Int) from rfl, q2, aVC, tlN, vM_readNamed_172, aZ1]
  · have hq' : q < max (tN (sA X)) (i + 1) := hq
    show PRo G 491 (16 + 17 * q) (if q = i then v else tn (sA X) q)
    by_cases h : q = i
    · rw [if_pos h, h, hG]; exact fun b hb => pOn_in hb
    · rw [if_neg h]
      intro b hb
      rw [g491 _ (by omega), s4 _ (by omega)]
      exact hP q (by omega) b hb
  · have e0 : ∀ b, b < 4 → G 491 b = D 491 b := fun b hb => by rw [g491 b (by omega), s4 b (by omega)]
    obtain ⟨z1, z2, z3⟩ := r1
    exact ⟨by rw [e0 0 (by decide), e0 (0 + 1) (by decide)]; exact z1, by rw [e0 (0 + 2) (by decide)]; exact z2, by rw [e0 (0 + 3) (by decide)]; exact z3⟩
theorem mnamed (hS : MLS ρ D X t l) (hh : ¬ isHd t) : match nmL X t with
    | .inl e => MLE ρ D e (Vl (d + 46) 214 0 [some (.inr (.inr (some 488))), none, none, none] [] (hp (1, ρ) D))
    | .inr q => ∃ t2 : tk, t2.1 = 59 ∧ nx X t2 = q.2.2 ∧ t.2.2.2 + 1 ≤ t2.2.2.2 ∧ MLY ρ D (nmX X t.2.2.1 q.1 q.2.1) t2 4 (Vl (d + 46) 214 0 [some (.inr (.inr (some 488))), none, none, none] [] (hp (1, ρ) D)) := by
  obtain ⟨⟨⟨hX, hO, hM, hP⟩, hR, hT, h46, h37⟩, hF⟩ := hS
  obtain ⟨kd3, kd2, -, -⟩ := mkind hT
  have no : MLE ρ D ((if isHd t then 3 else 1), t.2.1) (Vl (d + 46) 214 16 [some (.inr (.inr (some 488))), none, none, none] [] (hp (1, ρ) D)) := by
    rw [if_neg hh, vM_readNamed_16, mGF m488, mbad1 hT, aVC, tlS, vM_readNamed_21, aZ0]
    exact MLE_bad (f' := 1) rfl LG_rf XG_rf rfl
  rw [vM_readNamed_0, mGF m488, hD]
  unfold nmL
  by_cases h1 : t.1 = 256
  rotate_left
  · rw [if_neg (show ¬ (t.1 = 256 ∧ kw t.2.2.1 = -1) from fun z => h1 z.1), if_neg (show ¬ D 488 34 = 2 from fun z => h1 (kd2.mp z))]
    exact no
  rw [if_pos (kd2.mpr h1), vM_readNamed_8, mGF m488, mwah (d := d + 43) hT, aVC, tlS, vM_readNamed_12, if_pos h1]
  by_cases h2 : kw t.2.2.1 = -1
  rotate_left
  · rw [if_neg (show ¬ (t.1 = 256 ∧ kw t.2.2.1 = -1) from fun z => h2 z.2), if_neg h2]
    exact no
  have hw : ρ.2.2 488 39 = (cv 6 t.2.2.1 : Int) ∧ mvd 6 t.2.2.1 := by
    obtain ⟨-, -, -, hT⟩ := hT
    rcases hT with ⟨a, -⟩ | ⟨a, -⟩ | ⟨a, e, -, w, v⟩ | ⟨a, -⟩ | ⟨a, -⟩
    · omega
    · omega
    · exact ⟨w, v⟩
    · omega
    · omega
  obtain ⟨D0, hD0⟩ : ∃ D0, D0 = sD D 488 46 4 := ⟨_, rfl⟩
  have f0 : ∀ q, q ≠ 488 → D0 q = D q := fun q a => by rw [hD0, sD_ne a]
  have f8 : ∀ j, j ≠ 46 → D0 488 j = D 488 j := fun j a => by rw [hD0, sD_nb a]
  have hT0 : MTK ρ D0 (sN X) t := MTK_cg hT (fun j a b => f8 j (by omega))
  have hX0 : MX D0 (sX X) (sN X) := ⟨by rw [f8 31 (by decide)]; exact hX.1, hX.2.1, fun i hi => by rw [f0 489 (by decide)]; exact hX.2.2 i hi⟩
  have hM0 : MNM ρ D0 (sC X) (tN (sA X)) := ⟨hM.1, by rw [f0 491 (by decide)]; exact hM.2.1, hM.2.2⟩
  have hF0 : MF (tF (sA X)) D0 := by
    obtain ⟨b1, b2, b3, b4, b5⟩ := hF
    exact ⟨b1, by rw [f8 10 (by decide)]; exact b2, by rw [f8 11 (by decide)]; exact b3, by rw [f8 12 (by decide)]; exact b4, by rw [f8 13 (by decide)]; exact b5⟩
  have hP0 : ∀ i, i < tN (sA X) → PRo D0 491 (16 + 17 * i) (tn (sA X) i) := fun i hi => by unfold PRo; rw [f0 491 (by decide)]; exact hP i hi
  have hR0 : MRD D0 (sA X) := by
    obtain ⟨r1, r2, r3, r4⟩ := hR
    exact ⟨MN_cg r1 (f0 491 (by decide)), by rw [f0 491 (by decide)]; exact r2, by rw [f0 491 (by decide)]; exact r3, r4⟩
  have G0 : XG D D0 := by rw [hD0]; exact XG_8 (by decide)
  rw [if_pos h2, if_pos (show t.1 = 256 ∧ kw t.2.2.1 = -1 from ⟨h1, h2⟩), vM_readNamed_22]
  simp only [mGF m488, hwD, aLt]
  rw [← hD0, mfind (d := d + 44) hM0 hT0 h1, aVC, tlS, vM_readNamed_31]
  have hj := nix_rng (sC X) t.2.2.1 (tN (sA X)) 0
  have hjc : ∀ n i j, nix (sC X) t.2.2.1 n i = ((j : Nat) : Int) → sC X j = t.2.2.1 := by
    intro n
    induction n with
    | zero => intro i j e; exact absurd e (by show ¬ (-1 : Int) = (j : Int); omega)
    | succ n ih =>
      intro i j e
      have e' : (if sC X i = t.2.2.1 then (i : Int) else nix (sC X) t.2.2.1 n (i + 1)) = (j : Int) := e
      by_cases q : sC X i = t.2.2.1
      · rw [if_pos q] at e'
        have : i = j := by omega
        rw [← this]; exact q
      · rw [if_neg q] at e'; exact ih (i + 1) j e'
  have hjk := hjc (tN (sA X)) 0
  generalize nix (sC X) t.2.2.1 (tN (sA X)) 0 = j at hj hjk ⊢
  have h12 := hM.1
  have q54 : (if j = -1 then Vl (d + 46) 214 37 [some (.inr (.inr (some 488))), some (.inl j), none, none] [] (hp (1, ρ) D0) else Vl (d + 46) 214 54 [some (.inr (.inr (some 488))), some (.inl j), none, none] [] (hp (1, ρ) D0)) = if j = -1 ∧ 12 ≤ tN (sA X) then some ((0, some (.inl 0)), hp (1, ρ) (mFt D0 4 (t.2.1 : Int))) else Vl (d + 46) 214 54 [some (.inr (.inr (some 488))), some (.inl j), none, none] [] (hp (1, ρ) D0) := by
    by_cases h3 : j = -1
    · rw [if_pos h3, vM_readNamed_37, mGF m488, mr4, mIA m491, if_pos (by decide), show (4 : Int).toNat = 4 from rfl, hM0.2.1]
      by_cases h4 : 12 ≤ tN (sA X)
      · rw [if_pos (show (tN (sA X) : Int) = 12 by omega), if_pos ⟨h3, h4⟩, vM_readNamed_48, mGF m488, mbad4 hT0 (by omega), aVC, tlS, vM_readNamed_53, aZ0]
      · rw [if_neg (show ¬ (tN (sA X) : Int) = 12 by omega), if_neg (fun z => h4 z.2)]
    · rw [if_neg h3, if_neg (fun z => h3 z.1)]
  rw [q54]
  by_cases h3 : j = -1 ∧ 12 ≤ tN (sA X)
  · rw [if_pos h3, if_pos h3]
    exact MLE_bad (f' := 4) rfl LG_rf G0 rfl
  rw [if_neg h3, if_neg h3, vM_readNamed_54]
  obtain ⟨ρ1, D1, a1, a2, a3, a4, a5, a6⟩ := mgoL (d := d + 43) hX0 hT0 (show t.1 < 258 by omega)
  have hX1 := MX_TX hX0 a3
  have G1 := XG_tr G0 (XG_TX a3)
  have L1 := LG_LX a2
  have hg : gL (hp (1, ρ) D0) 488 39 = (cv 6 t.2.2.1 : Int) := hw.1
  simp only [mGF m488]
  rw [hg, a1, aVC, tlN, vM_readNamed_63, mGF m488, msn61 a4, aVC, tlS, vM_readNamed_69]
  have a4' : MTK ρ1 D1 (sN X) (nx X t) := a4
  have a6' : (nx X t).1 ≠ 258 → t.2.2.2 + 1 ≤ (nx X t).2.2.2 := a6
  show match (match psW X 61 (nx X t) with
    | .inl e => .inl e
    | .inr t1 => match smN X 6 t1 with
      | .inl e => .inl e
      | .inr (v, t2) => match psW X 59 t2 with
        | .inl e => .inl e
        | .inr t3 => .inr ((if j = -1 then tN (sA X) else j.toNat), v, t3) : (Nat × Nat) ⊕ (Nat × pl × tk)) with
    | .inl e => MLE ρ D e (if (if (nx X t).1 = 61 then (1 : Int) else 0) = 0 then _ else _)
    | .inr q => ∃ t2 : tk, t2.1 = 59 ∧ nx X t2 = q.2.2 ∧ t.2.2.2 + 1 ≤ t2.2.2.2 ∧ MLY ρ D (nmX X t.2.2.1 q.1 q.2.1) t2 4 (if (if (nx X t).1 = 61 then (1 : Int) else 0) = 0 then _ else _)
  by_cases h61 : (nx X t).1 = 61
  rotate_left
  · rw [psW_n h61, if_neg h61, if_pos rfl, vM_readNamed_72, mGF m488, mbad1 a4', aVC, tlS, vM_readNamed_77, aZ0]
    exact MLE_bad (f' := 1) rfl L1 G1 rfl
  rw [psW_y h61, if_pos h61, if_neg j10, vM_readNamed_78, mGF m488]
  obtain ⟨ρ2, D2, b1, b2, b3, b4, b5, b6⟩ := mgoL (d := d + 43) hX1 a4' (show (nx X t).1 < 258 by omega)
  have b4' : MTK ρ2 D2 (sN X) (nx X (nx X t)) := b4
  have b5' : (nx X t).2.2.2 ≤ (nx X (nx X t)).2.2.2 := b5
  obtain ⟨E, hE⟩ : ∃ E, E = sD (sD D2 488 44 0) 488 45 0 := ⟨_, rfl⟩
  have fE : ∀ q, q ≠ 488 → E q = D0 q := fun q a => by rw [hE, sD_ne a, sD_ne a, b3.1 q a, a3.1 q a]
  have eE : ∀ j, j ≠ 44 → j ≠ 45 → E 488 j = D2 488 j := fun j a b => by rw [hE, sD_nb b, sD_nb a]
  have eE0 : ∀ j, (j < 32 ∨ 36 < j) → j ≠ 44 → j ≠ 45 → E 488 j = D0 488 j := fun j a b c => by rw [eE j b c, b3.2 j a, a3.2 j a]
  have LE : LX ρ ρ2 := LX_tr a2 b2
  have hSE : MST ρ2 E X (nx X (nx X t)) 0 0 := by
    refine ⟨⟨⟨by rw [eE0 31 (by decide) (by decide) (by decide)]; exact hX0.1, hX0.2.1, fun i hi => by rw [fE 489 (by decide)]; exact hX0.2.2 i hi⟩, hO, ?_, ⟨hM0.1, by rw [fE 491 (by decide)]; exact hM0.2.1, fun i hi => by rw [LE.2.2 494 i (Or.inl (by decide))]; exact hM0.2.2 i hi⟩, fun i hi => by unfold PRo; rw [fE 491 (by decide)]; exact hP0 i hi⟩, MTK_cg b4' (fun j x y => eE j (by omega) (by omega)), by rw [hE, sD_nb (by decide)]; exact sD_eq, by rw [hE]; exact sD_eq⟩
    obtain ⟨c1, c2, c3, c4, c5⟩ := hF0
    exact ⟨c1, by rw [eE0 10 (by decide) (by decide) (by decide)]; exact c2, by rw [eE0 11 (by decide) (by decide) (by decide)]; exact c3, by rw [eE0 12 (by decide) (by decide) (by decide)]; exact c4, by rw [eE0 13 (by decide) (by decide) (by decide)]; exact c5⟩
  have ps := msumN X 6 d ρ2 E (nx X (nx X t)) 0 0 hSE rfl (by decide)
  have GE : XG D E := XG_tr G1 (XG_tr (XG_TX b3) (by rw [hE]; exact XG_tr (XG_8 (by decide)) (XG_8 (by decide))))
  rw [b1, aVC, tlN, vM_readNamed_82]
  simp only [mGF m488, hwD, aLt]
  rw [← hE]
  cases hr : smN X 6 (nx X (nx X t)) with
  | inl e =>
    rw [hr] at ps
    obtain ⟨ρ3, D3, c1, c2, c3, c4, c5⟩ := ps
    rw [show d + 45 = d + 5 * 6 + 15 from rfl, c1, aVC, tlS, vM_readNamed_96, if_pos rfl, vM_readNamed_99, aZ0]
    exact ⟨ρ3, D3, rfl, LG_LX (LX_tr LE c2), XG_tr GE (XG_XF c3), c4, c5⟩
  | inr rr =>
    obtain ⟨v, t2⟩ := rr
    rw [hr] at ps
    obtain ⟨ρ3, D3, c1, c2, c3, c4, c5, c6, c7, c8, c9, c10⟩ := ps
    dsimp only at c5 c6 c7 c9 c10 ⊢
    have L3 : LG ρ ρ3 := LG_LX (LX_tr LE c2)
    have G3 : XG D D3 := XG_tr GE (XG_XF c3)
    rw [show d + 45 = d + 5 * 6 + 15 from rfl, c1, aVC, tlS, vM_readNamed_96, if_neg j10, vM_readNamed_101, mGF m488, msn59 c5.2.1, aVC, tlS, vM_readNamed_107]
    by_cases h59 : t2.1 = 59
    rotate_left
    · rw [psW_n h59, if_neg h59, if_pos rfl, vM_readNamed_110, mGF m488, mbad1 c5.2.1, aVC, tlS, vM_readNamed_115, aZ0]
      exact MLE_bad (f' := 1) rfl L3 G3 rfl
    rw [psW_y h59, if_pos h59, if_neg j10]
    obtain ⟨i, hi⟩ : ∃ i : Nat, i = (if j = -1 then tN (sA X) else j.toNat) := ⟨_, rfl⟩
    have hji : (j = -1 ∧ i = tN (sA X) ∧ tN (sA X) < 12) ∨ (j = (i : Int) ∧ i < tN (sA X) ∧ sC X i = t.2.2.1) := by
      by_cases h5 : j = -1
      · rw [if_pos h5] at hi
        exact Or.inl ⟨h5, hi, by omega⟩
      · obtain ⟨y, -, hy, ey⟩ := hj.resolve_left h5
        rw [if_neg h5, ey, Int.toNat_natCast] at hi
        subst hi
        exact Or.inr ⟨ey, by omega, hjk _ ey⟩
    have hR3 : MRD D3 (sA X) := by
      obtain ⟨r1, r2, r3, r4⟩ := hR0
      have e491 : D3 491 = D0 491 := by rw [c3.1 491 (by decide), fE 491 (by decide)]
      exact ⟨MN_cg r1 e491, by rw [e491]; exact r2, by rw [e491]; exact r3, r4⟩
    obtain ⟨ρ4, D4, y1, y2, y3, y4⟩ := mlayN (k := d + 44) c5 hR3 (by rw [c3.2 46 (by decide) (by decide) (by decide), eE0 46 (by decide) (by decide) (by decide), hD0]; exact sD_eq) (by rw [c4, eE0 37 (by decide) (by decide) (by decide), f8 37 (by decide)]; exact h37) c6 c7 hji hw.2
    dsimp only
    rw [← hi]
    refine ⟨t2, h59, rfl, ?_, ρ4, D4, ?_, LG_tr L3 y2, XG_tr G3 y3, y4⟩
    · have := a6' (by omega); omega
    · exact y1
end MNL
