/-! THE REFERENCE'S METHODS: rank, points, sum rank -/
def PB (D : jD) (pv : Nat → Nat) : Prop := ∀ q, q < 8 → D 533 q = (pv q : Int)
section MRNK
variable {ρ : jr2} {D D' : jD} {d : Nat} {Φ : gF} {A : aA} {T : aT}
theorem rkA_z : ∀ (b : Nat) (pv : Nat → Nat), rkA b 0 pv = (false, pv)
  | 0, _ => rfl
  | b + 1, pv => by
    unfold rkA
    rw [if_neg (by rw [Nat.zero_div]; decide), rkA_z b pv]
theorem mrkA (o1 : Option Nat) (x2 x3 i : Int) : ∀ (b l r : Nat) (pv : Nat → Nat) (D : jD), b ≤ 8 → l < 256 → r < 1000 → (∀ q, q < 8 → pv q < 256) → PB D pv → ∃ D' v' k', Vl d 283 48 [some (.inr (.inr (some 488))), some (.inr (.inr o1)), some (.inl x2), some (.inl x3), some (.inl (r : Int)), some (.inl i), some (.inl (l : Int)), some (.inl ((b : Int) - 1))] [] (hp (1, ρ) D) = Vl d 283 117 [some (.inr (.inr (some 488))), some (.inr (.inr o1)), some (.inl x2), some (.inl x3), some (.inl ((r + (if (rkA b l pv).1 = true then 1 else 0) : Nat) : Int)), some (.inl i), some (.inl v'), some (.inl k')] [] (hp (1, ρ) D') ∧ PB D' (rkA b l pv).2 ∧ ∀ q, q ≠ 533 → D' q = D q
  | 0, l, r, pv, D, hb, hl, hr, hp8, hP => ⟨D, (l : Int), -1, by rw [vM_rankOf_48, if_pos (by omega)]; rfl, hP, fun _ _ => rfl⟩
  | b + 1, l, r, pv, D, hb, hl, hr, hp8, hP => by
    rw [vM_rankOf_48, if_neg (by omega), vM_rankOf_53, show ((b + 1 : Nat) : Int) - 1 = (b : Int) by omega]
    by_cases h0 : l = 0
    · subst h0
      rw [rkA_z]
      exact ⟨D, ((0 : Nat) : Int), (b : Int), by rw [if_pos (by rfl)]; rfl, hP, fun _ _ => rfl⟩
    have hd := Nat.div_le_self l (2 ^ b)
    rw [if_neg (by omega), vM_rankOf_58, jshr_n (by omega), jand_1 (by omega)]
    unfold rkA
    by_cases h1 : l / 2 ^ b % 2 = 1
    rotate_left
    · obtain ⟨D', v', k', q, p, f⟩ := mrkA o1 x2 x3 i b l r pv D (by omega) hl hr hp8 hP
      rw [if_neg h1, if_pos (show ((l / 2 ^ b % 2 : Nat) : Int) = 0 by omega), vM_rankOf_68, vM_rankOf_111, show w32 ((b : Int) + (-1)) = (b : Int) - 1 from by unfold w32; omega]
      exact ⟨D', v', k', q, p, f⟩
    have eb : D 533 b = (pv b : Int) := hP b (by omega)
    rw [if_pos h1, if_neg (show ¬ ((l / 2 ^ b % 2 : Nat) : Int) = 0 by omega), vM_rankOf_71, mGF m488, mr64, mIA m533, if_pos (by omega), Int.toNat_natCast, eb]
    by_cases h2 : pv b = 0
    · rw [if_pos h2, if_pos (show (pv b : Int) = 0 by omega), vM_rankOf_81, mGF m488, mr64, mIS m533, if_pos (by omega), Int.toNat_natCast, w32_s (by omega), vM_rankOf_111, show w32 ((b : Int) + (-1)) = (b : Int) - 1 from by unfold w32; omega]
      refine ⟨sD D 533 b (l : Int), 0, (b : Int) - 1, ?_, fun q hq => ?_, fun q hq => sD_ne hq⟩
      · rw [vM_rankOf_48]
        by_cases hb0 : (b : Int) - 1 < 0
        · rw [if_pos hb0]; rfl
        · rw [if_neg hb0, vM_rankOf_53, if_pos rfl]; rfl
      · show (if 533 = 533 ∧ q = b then (l : Int) else D 533 q) = (((if q = b then l else pv q) : Nat) : Int)
        by_cases e : q = b
        · rw [if_pos ⟨rfl, e⟩, if_pos e]
        · rw [if_neg (fun z => e z.2), if_neg e]; exact hP q hq
    · have hpb := hp8 b (by omega)
      have hx : l ^^^ pv b < 2 ^ 8 := x_lt (by omega) (by omega)
      obtain ⟨D', v', k', q, p, f⟩ := mrkA o1 x2 x3 i b (l ^^^ pv b) r pv D (by omega) (by omega) hr hp8 hP
      rw [if_neg h2, if_neg (show ¬ (pv b : Int) = 0 by omega), vM_rankOf_99, mGF m488, mr64, mIA m533, if_pos (by omega), Int.toNat_natCast, eb, jxor_n (by omega) (by omega), vM_rankOf_111, show w32 ((b : Int) + (-1)) = (b : Int) - 1 from by unfold w32; omega]
      exact ⟨D', v', k', q, p, f⟩
theorem mrkL {c n1 : Nat} (kc : KM c (1, n1)) (hc : c ≠ 533) {t : Nat → Nat} {i0 N : Nat} (hn : i0 + N ≤ n1) (hn9 : n1 < 100000) : ∀ (n i r : Nat) (pv : Nat → Nat) (D : jD) (u6 u7 : Option jv), i + n = i0 + N → r + n < 1000 → (∀ q, i ≤ q → q < i0 + N → D c q = (t q : Int) ∧ t q < 256) → (∀ q, q < 8 → pv q < 256) → PB D pv → ∃ D', Vl d 283 30 [some (.inr (.inr (some 488))), some (.inr (.inr (some c))), some (.inl (i0 : Int)), some (.inl (N : Int)), some (.inl (r : Int)), some (.inl (i : Int)), u6, u7] [] (hp (1, ρ) D) = some ((0, some (.inl ((r + rkL t n i pv : Nat) : Int))), hp (1, ρ) D') ∧ ∀ q, q ≠ 533 → D' q = D q
  | 0, i, r, pv, D, u6, u7, hi, hr, ht, hp8, hP => ⟨D, by rw [vM_rankOf_30, w32_ad (by omega), if_neg (by omega), vM_rankOf_123]; rfl, fun _ _ => rfl⟩
  | n + 1, i, r, pv, D, u6, u7, hi, hr, ht, hp8, hP => by
    obtain ⟨t1, t2⟩ := ht i (Nat.le_refl _) (by omega)
    obtain ⟨D1, v', k', q1, p1, f1⟩ := mrkA (d := d) (ρ := ρ) (some c) (i0 : Int) (N : Int) (i : Int) 8 (t i) r pv D (Nat.le_refl _) t2 (by omega) hp8 hP
    have hle : (if (rkA 8 (t i) pv).1 = true then 1 else 0) ≤ 1 := by split <;> omega
    obtain ⟨D2, q2, f2⟩ := mrkL kc hc hn hn9 n (i + 1) (r + (if (rkA 8 (t i) pv).1 = true then 1 else 0)) (rkA 8 (t i) pv).2 D1 (some (.inl v')) (some (.inl k')) (by omega) (by omega) (fun q a b => by rw [f1 c hc]; exact ht q (by omega) b) (rkA_8 8 (t i) pv t2 hp8 (Nat.le_refl _)) p1
    refine ⟨D2, ?_, fun q hq => by rw [f2 q hq, f1 q hq]⟩
    rw [show ((8 : Nat) : Int) - 1 = 7 from rfl] at q1
    rw [vM_rankOf_30, w32_ad (by omega), if_pos (by omega), vM_rankOf_38, mIA kc, if_pos (by omega), Int.toNat_natCast, t1, q1, vM_rankOf_117, w32_s (by omega), q2, Nat.add_assoc]
    rfl
theorem mrankOf {c n1 : Nat} (kc : KM c (1, n1)) (hc : c ≠ 533) {t : Nat → Nat} {i0 N : Nat} (hn : i0 + N ≤ n1) (hn9 : n1 < 900) (ht : ∀ q, i0 ≤ q → q < i0 + N → D c q = (t q : Int) ∧ t q < 256) : ∃ D', Vl d 283 0 [some (.inr (.inr (some 488))), some (.inr (.inr (some c))), some (.inl (i0 : Int)), some (.inl (N : Int)), none, none, none, none] [] (hp (1, ρ) D) = some ((0, some (.inl (rkn t i0 N : Int))), hp (1, ρ) D') ∧ ∀ q, q ≠ 533 → D' q = D q := by
  have c0 := chain (fun k => Vl d 283 3 [some (.inr (.inr (some 488))), some (.inr (.inr (some c))), some (.inl (i0 : Int)), some (.inl (N : Int)), some (.inl (k : Int)), none, none, none] [] (hp (1, ρ) (pDn D 533 k (fun _ => 0)))) 8 (fun k hk => by

    rw [vM_rankOf_3, if_pos (by omega), vM_rankOf_10, mGF m488, mr64, mIS m533, if_pos (by omega), Int.toNat_natCast, w32_s (by omega), pDn_s rfl])

  rw [pDn_0, show ((0 : Nat) : Int) = 0 from rfl] at c0
  obtain ⟨D2, q2, f2⟩ := mrkL (d := d) (ρ := ρ) kc hc (t := t) (i0 := i0) (N := N) hn (by omega) N i0 0 (fun _ => 0) (pDn D 533 8 (fun _ => 0)) none none rfl (by omega) (fun q a b => by rw [pDn_ne hc]; exact ht q a b) (fun _ _ => by decide) (fun q hq => by rw [pDn_lt hq]; rfl)
  rw [show ((0 : Nat) : Int) = 0 from rfl, Nat.zero_add] at q2
  refine ⟨D2, ?_, fun q hq => by rw [f2 q hq, pDn_ne hq]⟩
  rw [vM_rankOf_0, c0, vM_rankOf_3, if_neg (by omega), vM_rankOf_24]
  exact q2
theorem hAll_t (h : MS D A) (hF : FOK (aF A)) (h2 : allN A 0 (Al A) = true) : ∀ q, q < Al A → At A q < 2 ^ (aF A).1 ∧ At A q < 256 := fun q hq => by
  have := hAll_rI (Al A) 0 h2 q (Nat.zero_le _) (by omega)
  have h256 := F_256 hF
  exact ⟨this, by omega⟩
theorem mrank_op (h : MS D A) : MO ρ D (oRank A).2 (oRank A).1 (Vl (d + 2) 282 0 [some (.inr (.inr (some 488))), none] [] (hp (1, ρ) D)) := by
  have hB := mB_MS h
  have hF := mB_MF h
  obtain ⟨D1, q1, m1, t1, z1, F1, f1⟩ := mtakeN (d := d) (ρ := ρ) hB hF m520 (most := 16) (by decide) (by decide) (by unfold mK; decide) (by decide)
  unfold oRank
  rw [show ((16 : Nat) : Int) = 16 from rfl] at q1
  rw [vM_rank_0, mGF m488, mbegin h, aVC, tlN, vM_rank_4]
  simp only [mGF m488, mr49]
  rw [q1, aVC, tlS, vM_rank_14]
  have g1 : ∀ q, q < 488 → D1 q = D q := fun q hq => by rw [f1 q (by omega) (by omega), mB_ne (by omega)]
  by_cases h1 : Al A ≤ 16 ∧ allN A 0 (Al A) = true
  rotate_left
  · rw [if_neg h1, if_pos (show (-1 : Int) < 1 by decide), vM_rank_20, vM_rank_34, if_neg (show ¬ ((1 ≤ Al A ∧ Al A ≤ 16) ∧ allN A 0 (Al A) = true) from fun z => h1 ⟨z.1.2, z.2⟩)]
    exact ⟨D1, rfl, m1, by rw [z1]; exact mB_0, g1⟩
  rw [if_pos h1]
  by_cases h0 : Al A < 1
  · rw [if_neg (show ¬ ((1 ≤ Al A ∧ Al A ≤ 16) ∧ allN A 0 (Al A) = true) from fun z => by omega), if_pos (show (Al A : Int) < 1 by omega), vM_rank_20, vM_rank_34]
    exact ⟨D1, rfl, m1, by rw [z1]; exact mB_0, g1⟩
  have ht := hAll_t hB hF.1 h1.2
  obtain ⟨D2, q2, f2⟩ := mrankOf (d := d + 1) (ρ := ρ) (D := D1) m520 (by decide) (t := At A) (i0 := 0) (N := Al A) (by omega) (by decide) (fun q _ hq => ⟨t1 h1 q (by omega), (ht q (by omega)).2⟩)
  rw [show ((0 : Nat) : Int) = 0 from rfl] at q2
  rw [if_pos (show (1 ≤ Al A ∧ Al A ≤ 16) ∧ allN A 0 (Al A) = true from ⟨⟨by omega, h1.1⟩, h1.2⟩), if_neg (show ¬ (Al A : Int) < 1 by omega), vM_rank_24]
  simp only [mGF m488, mr49]
  rw [q2, aVC, tlS, vM_rank_34]
  exact ⟨D2, rfl, MS_sc m1 (fun c hc => f2 c (by unfold mK at hc; omega)), by rw [f2 488 (by decide), z1]; exact mB_0, fun q hq => by rw [f2 q (by omega), g1 q hq]⟩
theorem mpoints_op (h : MS D A) : MO ρ D (oPoints A).2 (oPoints A).1 (Vl (d + 2) 286 0 [some (.inr (.inr (some 488))), none, none] [] (hp (1, ρ) D)) := by
  have hB := mB_MS h
  have hF := mB_MF h
  obtain ⟨D1, q1, m1, t1, z1, F1, f1⟩ := mtakeN (d := d) (ρ := ρ) hB hF m520 (most := 8) (by decide) (by decide) (by unfold mK; decide) (by decide)
  unfold oPoints
  rw [show ((8 : Nat) : Int) = 8 from rfl] at q1
  rw [vM_points_0, mGF m488, mbegin h, aVC, tlN, vM_points_4]
  simp only [mGF m488, mr49]
  rw [q1, aVC, tlS, vM_points_14]
  have g1 : ∀ q, q < 488 → D1 q = D q := fun q hq => by rw [f1 q (by omega) (by omega), mB_ne (by omega)]
  by_cases h1 : Al A ≤ 8 ∧ allN A 0 (Al A) = true
  rotate_left
  · rw [if_neg h1, if_pos (show (-1 : Int) < 1 by decide), vM_points_20, if_neg (show ¬ ((1 ≤ Al A ∧ Al A ≤ 8) ∧ allN A 0 (Al A) = true) from fun z => h1 ⟨z.1.2, z.2⟩)]
    exact ⟨D1, rfl, m1, by rw [z1]; exact mB_0, g1⟩
  rw [if_pos h1]
  by_cases h0 : Al A < 1
  · rw [if_neg (show ¬ ((1 ≤ Al A ∧ Al A ≤ 8) ∧ allN A 0 (Al A) = true) from fun z => by omega), if_pos (show (Al A : Int) < 1 by omega), vM_points_20]
    exact ⟨D1, rfl, m1, by rw [z1]; exact mB_0, g1⟩
  have ht := hAll_t hB hF.1 h1.2
  have c5 : (0 : Int) ≤ 5 ∧ (5 : Int) < ((508 : Nat) : Int) := by decide
  obtain ⟨E, hE⟩ : ∃ E, E = sD D1 490 5 (Al A : Int) := ⟨_, rfl⟩
  have c0 := chain (fun j => Vl (d + 2) 286 31 [some (.inr (.inr (some 488))), some (.inl (Al A : Int)), some (.inl (j : Int))] [] (hp (1, ρ) (pOn E 490 8 j (rI (At A))))) (Al A) (fun j hj => by

    have e1 : pOn E 490 8 j (rI (At A)) 520 j = (At A j : Int) := by rw [pOn_far (by decide), hE, sD_ne (by decide)]; exact t1 h1 j hj
    rw [vM_points_31, if_pos (by omega), vM_points_36]
    simp only [mGF m488, mr3, mr49]
    rw [mIA m520, if_pos (by omega), Int.toNat_natCast, e1, show w32 (8 + (j : Int)) = ((8 + j : Nat) : Int) from by unfold w32; omega, mIS m490, if_pos (by omega), Int.toNat_natCast, w32_s (by omega), pOn_s (show (At A j : Int) = rI (At A) j from rfl)])

  rw [pOn_0, show ((0 : Nat) : Int) = 0 from rfl] at c0
  have nE : ∀ q, q ≠ 490 → pOn E 490 8 (Al A) (rI (At A)) q = D1 q := fun q hq => by rw [pOn_far hq, hE, sD_ne hq]
  obtain ⟨D2, q2, f2⟩ := mrankOf (d := d + 1) (ρ := ρ) (D := pOn E 490 8 (Al A) (rI (At A))) m520 (by decide) (t := At A) (i0 := 0) (N := Al A) (by omega) (by decide) (fun q _ hq => ⟨by rw [nE 520 (by decide)]; exact t1 h1 q (by omega), (ht q (by omega)).2⟩)
  rw [show ((0 : Nat) : Int) = 0 from rfl] at q2
  rw [if_pos (show (1 ≤ Al A ∧ Al A ≤ 8) ∧ allN A 0 (Al A) = true from ⟨⟨by omega, h1.1⟩, h1.2⟩), if_neg (show ¬ (Al A : Int) < 1 by omega), vM_points_22]
  simp only [mGF m488, mr3]
  rw [mIS m490, if_pos c5, show (5 : Int).toNat = 5 from rfl, ← hE, c0, vM_points_31, if_neg (show ¬ ((Al A : Nat) : Int) < (Al A : Int) by omega), vM_points_57]
  simp only [mGF m488, mr49]
  rw [q2, aVC, tlS, vM_points_67]
  have hO := m1.2.1
  have hT := m1.2.2.1
  have hOP : TOK (tPts (AT A) (Al A) (At A)) := tPts_OK hO h1.1 (fun i hi => (ht i hi).1)
  refine ⟨D2, rfl, MS_sc (MS_now m1 hOP ?_ (fun c _ hne => nE c hne) (by rw [nE 488 (by decide)]) (by rw [nE 488 (by decide)]) (by rw [nE 488 (by decide)])) (fun c hc => f2 c (by unfold mK at hc; omega)), by rw [f2 488 (by decide), nE 488 (by decide), z1]; exact mB_0, fun q hq => by rw [f2 q (by omega), nE q (by omega), g1 q hq]⟩
  obtain ⟨⟨h01, h2, h3⟩, h4, h5, h6, h7, h8, h9⟩ := hT
  obtain ⟨-, b1, b2, b3, -⟩ := hO
  have b1' : tN (AT A) ≤ 12 := b1
  have b3' : tU (AT A) ≤ 16 := b3
  have fr : ∀ y, y ≠ 5 → (y < 8 ∨ 16 ≤ y) → pOn E 490 8 (Al A) (rI (At A)) 490 y = D1 490 y := fun y hy hy2 => by
    rw [pOn_ne (Or.inr (by omega)), hE, sD_nb hy]
  refine ⟨⟨?_, by rw [fr _ (by omega) (by omega)]; exact h2, by rw [fr _ (by omega) (by omega)]; exact h3⟩, by rw [fr _ (by omega) (by omega)]; exact h4, ?_, by rw [fr _ (by omega) (by omega)]; exact h6, fun j hj => ?_, fun j hj k hk => ?_, fun a ha => ⟨?_, fun k hk => ?_⟩⟩
  · rcases h01 with ⟨q1, q2⟩ | ⟨q1, q2⟩
    · exact Or.inl ⟨by rw [fr _ (by omega) (by omega)]; exact q1, by rw [fr _ (by omega) (by omega)]; exact q2⟩
    · exact Or.inr ⟨by rw [fr _ (by omega) (by omega)]; exact q1, q2⟩
  · rw [pOn_ne (Or.inr (by omega)), hE]; exact sD_eq
  · have hj8 : j < Al A := hj
    rw [show 0 + 8 + j = 8 + j by omega, pOn_in hj8]; rfl
  · have hjN : j < tN (AT A) := hj
    rw [fr _ (by omega) (by omega)]; exact h8 j hj k hk
  · have ha8 : a < tU (AT A) := ha
    rw [fr _ (by omega) (by omega)]; exact (h9 a ha).1
  · have ha8 : a < tU (AT A) := ha
    rw [fr _ (by omega) (by omega)]; exact (h9 a ha).2 k hk
end MRNK
