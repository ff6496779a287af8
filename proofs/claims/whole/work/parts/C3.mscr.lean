/-! THE REFERENCE'S script() -/
section MSCR
variable {ρ ρ1 ρ' : jr2} {D D1 D' D2 : jD} {d : Nat} {X : sx} {t : tk} {l : Nat} {Φ : gF} {x : Nat → Nat} {len : Nat} {A : aA}
/-- what all LINES come to: the answer of a fault, or the loop's end -/
def MLL (ρ : jr2) (D : jD) (e : Nat × Nat) (run : Option jr) : Prop := ∃ ρ' D', run = some ((0, some (.inl (w32 (-1 - (e.2 : Int))))), hp (1, ρ') D') ∧ LG ρ ρ' ∧ XG D D' ∧ D' 488 37 = (e.1 : Int)
theorem MLL_fr {e : Nat × Nat} {run : Option jr} (h : MLL ρ1 D1 e run) (hL : LG ρ ρ1) (hX : XG D D1) : MLL ρ D e run := by
  obtain ⟨ρ', D', a, b, c, f⟩ := h
  exact ⟨ρ', D', a, LG_tr hL b, XG_tr hX c, f⟩
theorem MLL_e {e : Nat × Nat} {run : Option jr} {x1 : Int} (hE : MLE ρ D e run) : MLL ρ D e (vC run (fun r1 h2 => Vl (d + 1) 199 89 [some (.inr (.inr (some 488))), some (.inl x1), none] (r1.toList ++ []) h2)) := by
  obtain ⟨ρ1, D1, a1, a2, a3, a4, a5⟩ := hE
  refine ⟨ρ1, D1, ?_, a2, a3, a4⟩
  rw [a1, aVC, tlS, vM_script_89, if_pos rfl, vM_script_92, mGF m488, hD, a5]
theorem mheads : ∀ (n : Nat) (Φ : gF) (t : tk) (L nh : Nat) (ρ : jr2) (D : jD), MLS ρ D (sx0 x len Φ (fun _ => 0)) t nh → L ≤ nh → nh ≤ 3 → 4 ≤ n + nh → (nh = 0 → Φ.2.2.1 = 0 ∧ Φ.2.2.2 = 0) → match hdS x len n Φ t L nh with
    | .inl e => MLL ρ D e (Vl (d + 48) 199 78 [some (.inr (.inr (some 488))), some (.inl (L : Int)), none] [] (hp (1, ρ) D))
    | .inr q => ∃ ρ' D' nh', Vl (d + 48) 199 78 [some (.inr (.inr (some 488))), some (.inl (L : Int)), none] [] (hp (1, ρ) D) = Vl (d + 48) 199 78 [some (.inr (.inr (some 488))), some (.inl (q.2.2 : Int)), none] [] (hp (1, ρ') D') ∧ LG ρ ρ' ∧ XG D D' ∧ MLS ρ' D' (sx0 x len q.1 (fun _ => 0)) q.2.1 nh' ∧ (isHd q.2.1 → kw q.2.1.2.2.1 < (nh' : Int)) ∧ q.2.2 ≤ 3
  | 0, Φ, t, L, nh, ρ, D, hS, hL, h3, h4, hz => by omega
  | n + 1, Φ, t, L, nh, ρ, D, hS, hL, h3, h4, hz => by
    unfold hdS
    by_cases hh : isHd t ∧ (nh : Int) ≤ kw t.2.2.1
    rotate_left
    · rw [if_neg hh]
      exact ⟨ρ, D, nh, rfl, LG_rf, XG_rf, hS, fun z => Classical.byContradiction fun w => hh ⟨z, by have w' : ¬ kw t.2.2.1 < (nh : Int) := w; omega⟩, by dsimp only; omega⟩
    obtain ⟨⟨g1, g2, g3⟩, g4⟩ := hh
    obtain ⟨h, hk⟩ := Int.eq_ofNat_of_zero_le g2
    have r := mlineH (d := d + 42) (h := h) hS g1 hk (by omega) (by omega) hz
    have hT : MTK ρ D len t := hS.1.2.2.1
    obtain ⟨-, kd2, kd0, -⟩ := mkind hT
    rw [if_pos (show isHd t ∧ (nh : Int) ≤ kw t.2.2.1 from ⟨⟨g1, g2, g3⟩, g4⟩), vM_script_78, mGF m488, hD, if_neg (show ¬ D 488 34 = 0 from fun z => by have := kd0.mp z; omega), vM_script_85, mGF m488, hk, Int.toNat_natCast]
    cases hr : hdL (sx0 x len Φ (fun _ => 0)) Φ h t with
    | inl e =>
      rw [hr] at r
      exact MLL_e (d := d + 47) r
    | inr q =>
      rw [hr] at r
      obtain ⟨ρ1, D1, a1, a2, a3, a4, -⟩ := r
      have ih := mheads n q.1 q.2 (L + 1) (h + 1) ρ1 D1 a4 (by omega) (by omega) (by omega) (fun z => absurd z (by omega))
      have st : vC (Vl (d + 47) 206 0 [some (.inr (.inr (some 488))), none, none] [] (hp (1, ρ) D)) (fun r1 h2 => Vl (d + 47 + 1) 199 89 [some (.inr (.inr (some 488))), some (.inl (L : Int)), none] (r1.toList ++ []) h2) = Vl (d + 48) 199 78 [some (.inr (.inr (some 488))), some (.inl ((L + 1 : Nat) : Int)), none] [] (hp (1, ρ1) D1) := by
        rw [show d + 47 = d + 42 + 5 from rfl, a1, aVC, tlS, vM_script_89, if_neg j10, vM_script_99, w32_s (by omega)]
      rw [st]
      dsimp only
      cases hq : hdS x len n q.1 q.2 (L + 1) (h + 1) with
      | inl e => rw [hq] at ih; exact MLL_fr ih a2 a3
      | inr qq =>
        rw [hq] at ih
        obtain ⟨ρ2, D2, nh2, b1, b2, b3, b4⟩ := ih
        exact ⟨ρ2, D2, nh2, b1, LG_tr a2 b2, XG_tr a3 b3, b4⟩
theorem mnames : ∀ (n : Nat) (X : sx) (t : tk) (L l : Nat) (ρ : jr2) (D : jD), MLS ρ D X t l → (isHd t → kw t.2.2.1 < (l : Int)) → L + n < 2000 → ((t.1 = 258 ∧ (sN X ≤ 500 ∨ 1 ≤ n)) ∨ 541 ≤ n + t.2.2.2) → match lnS n X t L with
    | .inl e => MLL ρ D e (Vl (d + 48) 199 78 [some (.inr (.inr (some 488))), some (.inl (L : Int)), none] [] (hp (1, ρ) D))
    | .inr q => ∃ ρ' D' t' l', Vl (d + 48) 199 78 [some (.inr (.inr (some 488))), some (.inl (L : Int)), none] [] (hp (1, ρ) D) = Vl (d + 48) 199 105 [some (.inr (.inr (some 488))), some (.inl (q.2 : Int)), none] [] (hp (1, ρ') D') ∧ LG ρ ρ' ∧ XG D D' ∧ MLS ρ' D' q.1 t' l'
  | n, X, t, L, l, ρ, D, hS, hl, hL, hC => by
    have hT : MTK ρ D (sN X) t := hS.1.2.2.1
    have hle := hT.2.1
    have hX := hS.1.1.1
    have h540 := hX.2.1
    obtain ⟨-, -, kd0, -⟩ := mkind hT
    by_cases he : t.1 = 258 ∧ sN X ≤ 500
    · have e : lnS n X t L = .inr (X, L) := by
        cases n with
        | zero => rfl
        | succ n => unfold lnS; rw [if_pos he]
      rw [e]
      exact ⟨ρ, D, t, l, by rw [vM_script_78, mGF m488, hD, if_pos (kd0.mpr he)], LG_rf, XG_rf, hS⟩
    match n, hC, hL with
    | 0, hC, _ => exact absurd hC (by omega)
    | n + 1, hC, hL =>
      have r := mlineN (d := d) hS hl
      unfold lnS
      rw [if_neg he, vM_script_78, mGF m488, hD, if_neg (show ¬ D 488 34 = 0 from fun z => he (kd0.mp z)), vM_script_85, mGF m488]
      cases hr : nmL X t with
      | inl e =>
        rw [hr] at r
        exact MLL_e (d := d + 47) r
      | inr q =>
        rw [hr] at r
        obtain ⟨ρ1, D1, a1, a2, a3, a4, a5⟩ := r
        have hn58 : t.1 ≠ 258 := fun z => by
          have : nmL X t = .inl ((if isHd t then 3 else 1), t.2.1) := by unfold nmL; rw [if_neg (show ¬ (t.1 = 256 ∧ kw t.2.2.1 = -1) by omega)]
          rw [this] at hr; cases hr
        have ih := mnames n (nmX X t.2.2.1 q.1 q.2.1) q.2.2 (L + 1) 4 ρ1 D1 a4 (fun z => by have := z.2.2; omega) (by omega) (Or.inr (by omega))
        have st : vC (Vl (d + 47) 206 0 [some (.inr (.inr (some 488))), none, none] [] (hp (1, ρ) D)) (fun r1 h2 => Vl (d + 47 + 1) 199 89 [some (.inr (.inr (some 488))), some (.inl (L : Int)), none] (r1.toList ++ []) h2) = Vl (d + 48) 199 78 [some (.inr (.inr (some 488))), some (.inl ((L + 1 : Nat) : Int)), none] [] (hp (1, ρ1) D1) := by
          rw [a1, aVC, tlS, vM_script_89, if_neg j10, vM_script_99, w32_s (by omega)]
        rw [st]
        dsimp only
        cases hq : lnS n (nmX X t.2.2.1 q.1 q.2.1) q.2.2 (L + 1) with
        | inl e => rw [hq] at ih; exact MLL_fr ih a2 a3
        | inr qq =>
          rw [hq] at ih
          obtain ⟨ρ2, D2, t2, l2, b1, b2, b3, b4⟩ := ih
          exact ⟨ρ2, D2, t2, l2, b1, LG_tr a2 b2, XG_tr a3 b3, b4⟩
/-- the tape taken, a fault told -/
theorem MS_flt (h : MS D A) (hk : ∀ c, mK c → c ≠ 489 → D' c = D c) (h2 : D' 488 2 = 0) {f : Int} (h37 : D' 488 37 = f) (h69 : D' 488 69 = D 488 69) : MS D' (0, At A, AT A, Ai A, AI A, Ar A, f, Ag A, AG A) := by
  obtain ⟨-, b, c, e, fr, g1, g2, g3, g4⟩ := h
  unfold mK at hk
  have k518 := hk 518 (by decide) (by decide)
  have k537 := hk 537 (by decide) (by decide)
  exact ⟨⟨h2, Nat.zero_le _, fun i hi => absurd hi (Nat.not_lt_zero i)⟩, b, MT_cg c (hk 490 (by decide) (by decide)), fun k hk2 => ⟨by rw [hk 496 (by decide) (by decide)]; exact (e k hk2).1, fun z => ⟨((e k hk2).2 z).1, MT_cg ((e k hk2).2 z).2 (hk 492 (by decide) (by decide))⟩⟩, fun k hk4 => ⟨(fr k hk4).1, fun j hj => by rw [k518]; exact (fr k hk4).2 j hj⟩, h37, g2, by rw [h69]; exact g3, fun i h1 h2 => by rw [k537]; exact g4 i h1 h2⟩
theorem mscript_op (h : MS D A) : MOl ρ D (oScript A).2 (oScript A).1 (Vl (d + 48) 199 0 [some (.inr (.inr (some 488))), none, none] [] (hp (1, ρ) D)) := by
  have hl := h.1.2.1
  obtain ⟨D1, hD1⟩ : ∃ D1, D1 = sD (sD (sD (sD (sD (sD D 488 0 0) 488 2 0) 488 31 (Al A : Int)) 488 37 0) 488 32 0) 488 46 0 := ⟨_, rfl⟩
  have f1 : ∀ q, q ≠ 488 → D1 q = D q := fun q a => by rw [hD1, sD_ne a, sD_ne a, sD_ne a, sD_ne a, sD_ne a, sD_ne a]
  have fj : ∀ j, j ≠ 0 → j ≠ 2 → j ≠ 31 → j ≠ 37 → j ≠ 32 → j ≠ 46 → D1 488 j = D 488 j := fun j a b c e f g => by rw [hD1, sD_nb g, sD_nb f, sD_nb e, sD_nb c, sD_nb b, sD_nb a]
  have e0 : D1 488 0 = 0 := by rw [hD1, sD_nb (by decide), sD_nb (by decide), sD_nb (by decide), sD_nb (by decide), sD_nb (by decide)]; exact sD_eq
  have e2 : D1 488 2 = 0 := by rw [hD1, sD_nb (by decide), sD_nb (by decide), sD_nb (by decide), sD_nb (by decide)]; exact sD_eq
  have e31 : D1 488 31 = (Al A : Int) := by rw [hD1, sD_nb (by decide), sD_nb (by decide), sD_nb (by decide)]; exact sD_eq
  have e37 : D1 488 37 = 0 := by rw [hD1, sD_nb (by decide), sD_nb (by decide)]; exact sD_eq
  have e32 : D1 488 32 = 0 := by rw [hD1, sD_nb (by decide)]; exact sD_eq
  have e46 : D1 488 46 = 0 := by rw [hD1]; exact sD_eq
  have st1 : Vl (d + 48) 199 0 [some (.inr (.inr (some 488))), none, none] [] (hp (1, ρ) D) = Vl (d + 48) 199 30 [some (.inr (.inr (some 488))), some (.inl 0), none] [] (hp (1, ρ) D1) := by
    have et : sD D 488 0 0 488 2 = (Al A : Int) := by rw [sD_nb (by decide)]; exact h.1.1
    rw [vM_script_0, mGF m488, aLt, hwD, mGF m488, vM_take0_0, mGF m488, mGF m488, aLt, hwD, hD, et, aVC, tlS, vM_script_10]
    simp only [mGF m488, hwD, aLt]
    rw [hD1]
  have c0 := chain (fun j => Vl (d + 48) 199 30 [some (.inr (.inr (some 488))), some (.inl (j : Int)), none] [] (hp (1, ρ) (pOn D1 491 0 j (fun _ => 0)))) 220 (fun j hj => by
    have e := pOn_s (D := D1) (c := 491) (b := 0) (n := j) (r := fun _ => 0) (v := 0) rfl
    rw [Nat.zero_add] at e
    rw [vM_script_30, if_pos (by omega), vM_script_37, mGF m488, mr4, mIS m491, if_pos (by omega), Int.toNat_natCast, w32_s (by omega), e])

  rw [pOn_0, show ((0 : Nat) : Int) = 0 from rfl] at c0
  obtain ⟨D3, hD3⟩ : ∃ D3, D3 = sD (sD (pOn D1 491 0 220 (fun _ => 0)) 491 0 1) 491 1 3 := ⟨_, rfl⟩
  have f3 : ∀ q, q ≠ 491 → D3 q = D1 q := fun q a => by rw [hD3, sD_ne a, sD_ne a, pOn_far a]
  have z3 : ∀ j, 2 ≤ j → j < 220 → D3 491 j = 0 := fun j a b => by
    rw [hD3, sD_nb (by omega), sD_nb (by omega)]
    have := pOn_in (D := D1) (c := 491) (b := 0) (n := 220) (r := fun _ => 0) b
    rw [Nat.zero_add] at this
    exact this
  have z0 : D3 491 0 = 1 := by rw [hD3, sD_nb (by decide)]; exact sD_eq
  have z1 : D3 491 1 = 3 := by rw [hD3]; exact sD_eq
  have hO0 : FOK (1, 3, 0, 0) := aT0_OK.1
  have hN3 : MN (1, 3, 0, 0) D3 491 0 := ⟨Or.inl ⟨z0, z1⟩, z3 2 (by decide) (by decide), z3 3 (by decide) (by decide)⟩
  have q3 := muse (d := d + 47) (ρ := ρ) m491 (by decide) (by decide) hO0 hN3
  obtain ⟨D4, hD4⟩ : ∃ D4, D4 = mUse D3 (1, 3, 0, 0) := ⟨_, rfl⟩
  rw [← hD4] at q3
  have f4 : ∀ q, q ≠ 488 → D4 q = D3 q := fun q a => by rw [hD4]; exact mUse_ne a
  have j4 : ∀ j, (j < 10 ∨ 13 < j) → D4 488 j = D1 488 j := fun j a => by rw [hD4, mUse_f a, f3 488 (by decide)]
  have hX4 : MX D4 (At A) (Al A) := ⟨by rw [j4 31 (by decide)]; exact e31, hl, fun i hi => by rw [f4 489 (by decide), f3 489 (by decide), f1 489 (by decide)]; exact h.1.2.2 i hi⟩
  obtain ⟨ρ5, D5, g1, g2, g3, g4⟩ := mgo (d := d + 45) (ρ := ρ) hX4 (b := 0) (by rw [j4 32 (by decide)]; exact e32) (Nat.zero_le _)
  have e5 : D5 491 = D3 491 := by rw [g3.1 491 (by decide), f4 491 (by decide)]
  have m5 : MLS ρ5 D5 (sx0 (At A) (Al A) (1, 3, 0, 0) (fun _ => 0)) (scn (At A) (Al A) 0) 0 := by
    refine ⟨⟨⟨MX_TX hX4 g3, aF0_OK hO0, ⟨Nat.zero_le _, by rw [e5]; exact z3 4 (by decide) (by decide), fun i hi => absurd hi (Nat.not_lt_zero i)⟩, fun i hi => absurd hi (Nat.not_lt_zero i)⟩, ⟨MN_cg hN3 e5, by rw [e5]; exact z3 5 (by decide) (by decide), by rw [e5]; exact z3 6 (by decide) (by decide), rfl, rfl⟩, g4, by rw [g3.2 46 (by decide), j4 46 (by decide)]; exact e46, by rw [g3.2 37 (by decide), j4 37 (by decide)]; exact e37⟩, ?_⟩
    have hF4 : MF (1, 3, 0, 0) D4 := by rw [hD4]; exact mUse_MF hO0
    obtain ⟨b1, b2, b3, b4, b5⟩ := hF4
    exact ⟨b1, by rw [g3.2 10 (by decide)]; exact b2, by rw [g3.2 11 (by decide)]; exact b3, by rw [g3.2 12 (by decide)]; exact b4, by rw [g3.2 13 (by decide)]; exact b5⟩
  have st2 : Vl (d + 48) 199 0 [some (.inr (.inr (some 488))), none, none] [] (hp (1, ρ) D) = Vl (d + 48) 199 78 [some (.inr (.inr (some 488))), some (.inl 0), none] [] (hp (1, ρ5) D5) := by
    rw [st1, c0, vM_script_30, if_neg (by decide), vM_script_50, mGF m488, mr4, mIS m491, if_pos (by decide), show (0 : Int).toNat = 0 from rfl]
    simp only [mGF m488, mr4]
    rw [mIS m491, if_pos (by decide), show (1 : Int).toNat = 1 from rfl, ← hD3]
    simp only [mGF m488, mr4]
    rw [q3, aVC, tlN, vM_script_72, mGF m488, g1, aVC, tlN, vM_script_76]
  -- what is left of the old state
  have fq : ∀ q, (q < 488 ∨ q = 489 ∨ q = 490 ∨ (492 ≤ q ∧ q ≤ 496) ∨ 518 ≤ q) → D5 q = D q := fun q a => by rw [g3.1 q (by omega), f4 q (by omega), f3 q (by omega), f1 q (by omega)]
  have fl : ∀ (D6 : jD) (f : Int), XG D5 D6 → D6 488 37 = f → MS D6 (0, At A, AT A, Ai A, AI A, Ar A, f, Ag A, AG A) := fun D6 f hX hf => MS_flt h (fun c hc _ => by rw [hX.1 c (by unfold mK at hc; omega), fq c (by unfold mK at hc; omega)]) (by rw [hX.2 2 (by decide) (by decide) (by decide) (by decide), g3.2 2 (by decide), j4 2 (by decide)]; exact e2) hf (by rw [hX.2 69 (by decide) (by decide) (by decide) (by decide), g3.2 69 (by decide), j4 69 (by decide), fj 69 (by decide) (by decide) (by decide) (by decide) (by decide) (by decide)])
  have l0 : ∀ D6 : jD, XG D5 D6 → D6 488 0 = 0 := fun D6 hX => by rw [hX.2 0 (by decide) (by decide) (by decide) (by decide), g3.2 0 (by decide), j4 0 (by decide)]; exact e0
  have L5 := LG_LX g2
  have fin : ∀ e : Nat × Nat, MLL ρ5 D5 e (Vl (d + 48) 199 78 [some (.inr (.inr (some 488))), some (.inl 0), none] [] (hp (1, ρ5) D5)) → MOl ρ D (0, At A, AT A, Ai A, AI A, Ar A, (e.1 : Int), Ag A, AG A) (w32 (-1 - (e.2 : Int))) (Vl (d + 48) 199 78 [some (.inr (.inr (some 488))), some (.inl 0), none] [] (hp (1, ρ5) D5)) := fun e he => by
    obtain ⟨ρ6, D6, a1, a2, a3, a4⟩ := he
    obtain ⟨b1, b2, b3⟩ := LG_tr L5 a2
    exact ⟨ρ6, D6, a1, fl D6 _ a3 a4, l0 D6 a3, fun q hq => by rw [a3.1 q (Or.inl hq), fq q (Or.inl hq)], b1, b2, b3⟩
  rw [st2]
  have r := mheads (d := d) 540 (1, 3, 0, 0) (scn (At A) (Al A) 0) 0 0 ρ5 D5 m5 (Nat.le_refl _) (by decide) (by decide) (fun _ => ⟨rfl, rfl⟩)
  rw [show ((0 : Nat) : Int) = 0 from rfl] at r
  unfold oScript scR
  cases hr : hdS (At A) (Al A) 540 (1, 3, 0, 0) (scn (At A) (Al A) 0) 0 0 with
  | inl e =>
    rw [hr] at r
    exact fin e r
  | inr q =>
    rw [hr] at r
    obtain ⟨Φ, t1, L⟩ := q
    obtain ⟨ρ6, D6, nh6, a1, a2, a3, a4, a5, a6⟩ := r
    dsimp only at a1 a4 a5 a6 ⊢
    have hT6 := a4.1.2.2.1
    have r2 := mnames (d := d) 540 (sx0 (At A) (Al A) Φ (fun _ => 0)) t1 L nh6 ρ6 D6 a4 a5 (by omega) (by
      by_cases hc : t1.1 = 258
      · exact Or.inl ⟨hc, Or.inr (by decide)⟩
      · have := hT6.2.2.1 hc
        exact Or.inr (by omega))
    cases hr2 : lnS 540 (sx0 (At A) (Al A) Φ (fun _ => 0)) t1 L with
    | inl e =>
      rw [hr2] at r2
      refine fin e ?_
      rw [a1]
      exact MLL_fr r2 a2 a3
    | inr q =>
      rw [hr2] at r2
      obtain ⟨X, L'⟩ := q
      obtain ⟨ρ7, D7, t7, l7, b1, b2, b3, b4⟩ := r2
      dsimp only at b1 b4 ⊢
      have X7 := XG_tr a3 b3
      have L7 := LG_tr L5 (LG_tr a2 b2)
      obtain ⟨⟨⟨-, hO7, ⟨n1, n2, -⟩, p7⟩, ⟨r71, r72, r73, r74, r75⟩, -, -, h377⟩, -⟩ := b4
      have M7 := fl D7 0 X7 h377
      have c1 := chain (fun j => Vl (d + 48) 199 107 [some (.inr (.inr (some 488))), some (.inl (L' : Int)), some (.inl (j : Int))] [] (hp (1, ρ7) (pOn D7 490 0 j (fun b => D7 491 b)))) 220 (fun j hj => by
        have e := pOn_s (D := D7) (c := 490) (b := 0) (n := j) (r := fun b => D7 491 b) (v := D7 491 j) rfl
        rw [Nat.zero_add] at e
        have e1 : pOn D7 490 0 j (fun b => D7 491 b) 491 j = D7 491 j := by rw [pOn_far (by decide)]
        rw [vM_script_107, if_pos (by omega), vM_script_114]
        simp only [mGF m488, mr3, mr4]
        rw [mIA m491, if_pos (by omega), Int.toNat_natCast, e1, mIS m490, if_pos (by omega), Int.toNat_natCast, w32_s (by omega), e])
    
      rw [pOn_0] at c1
      obtain ⟨D8, hD8⟩ : ∃ D8, D8 = pOn D7 490 0 220 (fun b => D7 491 b) := ⟨_, rfl⟩
      rw [← hD8] at c1
      have c2 := chain (fun j => Vl (d + 48) 199 134 [some (.inr (.inr (some 488))), some (.inl (L' : Int)), some (.inl (j : Int))] [] (hp (1, lOn ρ7 493 0 j (fun b => ρ7.2.2 494 b)) D8)) 12 (fun j hj => by
        have e := lOn_s (ρ := ρ7) (c := 493) (b := 0) (n := j) (r := fun b => ρ7.2.2 494 b)
        rw [Nat.zero_add] at e
        have e1 : (lOn ρ7 493 0 j (fun b => ρ7.2.2 494 b)).2.2 494 j = ρ7.2.2 494 j := lOn_ne (by decide)
        rw [vM_script_134, if_pos (by omega), vM_script_140]
        simp only [mGF m488, mr6, mr7]
        rw [mLA m494, if_pos (by omega), Int.toNat_natCast, e1, mLS m493, if_pos (by omega), Int.toNat_natCast, w32_s (by omega), e])
    
      rw [lOn_0] at c2
      rw [show ((0 : Nat) : Int) = 0 from rfl] at c1 c2
      have n8 : ∀ q, q ≠ 490 → D8 q = D7 q := fun q a => by rw [hD8, pOn_far a]
      have i8 : ∀ b, b < 220 → D8 490 b = D7 491 b := fun b hb => by
        have := pOn_in (D := D7) (c := 490) (b := 0) (n := 220) (r := fun b => D7 491 b) hb
        rw [Nat.zero_add] at this
        rw [hD8]; exact this
      have T8 : MT D8 490 0 (sA X) := by
        refine ⟨⟨?_, by rw [i8 (0 + 2) (by decide)]; exact r71.2.1, by rw [i8 (0 + 3) (by decide)]; exact r71.2.2⟩, by rw [i8 (0 + 4) (by decide)]; exact n2, by rw [i8 (0 + 5) (by decide), r74]; exact r72, by rw [i8 (0 + 6) (by decide), r75]; exact r73, fun i hi => by rw [r74] at hi; exact absurd hi (Nat.not_lt_zero i), fun i hi b hb => ?_, fun a ha => by rw [r75] at ha; exact absurd ha (Nat.not_lt_zero a)⟩
        · rw [i8 0 (by decide), i8 (0 + 1) (by decide)]; exact r71.1
        · rw [Nat.zero_add, i8 _ (by omega)]; exact p7 i hi b hb
      obtain ⟨y1, y2, y3⟩ := L7
      refine ⟨lOn ρ7 493 0 12 (fun b => ρ7.2.2 494 b), D8, ?_, MS_now M7 hO7 T8 (fun c _ hne => n8 c hne) (by rw [n8 488 (by decide)]) (by rw [n8 488 (by decide)]) (by rw [n8 488 (by decide)]), by rw [n8 488 (by decide)]; exact l0 D7 X7, fun q hq => by rw [n8 q (by omega), X7.1 q (Or.inl hq), fq q (Or.inl hq)], y1, y2, fun c hc => funext fun y => by rw [lOn_ne (by omega), y3 c hc]⟩
      rw [a1, b1, vM_script_105, c1, vM_script_107, if_neg (by decide), vM_script_132, c2, vM_script_134, if_neg (by decide), vM_script_158]
end MSCR
