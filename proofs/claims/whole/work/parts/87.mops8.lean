/-! THE REFERENCE'S METHODS: image, restore, least -/
def lOn (ρ : jr2) (c b n : Nat) (r : Nat → Int) : jr2 := (ρ.1, ρ.2.1, fun x y => if x = c ∧ b ≤ y ∧ y < b + n then r (y - b) else ρ.2.2 x y)
section MOPS8
variable {ρ : jr2} {D D' : jD} {d : Nat} {Φ : gF} {A : aA} {T : aT}
theorem lOn_0 {c b : Nat} {r : Nat → Int} : lOn ρ c b 0 r = ρ := by
  unfold lOn
  rw [show (fun x y => if x = c ∧ b ≤ y ∧ y < b + 0 then r (y - b) else ρ.2.2 x y) = ρ.2.2 from funext fun x => funext fun y => if_neg (by omega)]
theorem lOn_s {c b n : Nat} {r : Nat → Int} : sM (lOn ρ c b n r) c (b + n) (r n) = lOn ρ c b (n + 1) r := by
  unfold sM lOn
  refine congrArg (fun z => (ρ.1, ρ.2.1, z)) (funext fun x => funext fun y => ?_)
  dsimp only
  by_cases q1 : x = c ∧ y = b + n
  · rw [if_pos q1, if_pos (by omega), q1.2, Nat.add_sub_cancel_left]
  · rw [if_neg q1]
    by_cases q2 : x = c ∧ b ≤ y ∧ y < b + n
    · rw [if_pos q2, if_pos (by omega)]
    · rw [if_neg q2, if_neg (by omega)]
theorem lOn_ne {c b n : Nat} {r : Nat → Int} {x y : Nat} (h : x ≠ c) : (lOn ρ c b n r).2.2 x y = ρ.2.2 x y := if_neg (fun z => h z.1)
theorem mimage_op (h : MS D A) (k : Int) : MOl ρ D (oImage A k).2 (oImage A k).1 (Vl (d + 2) 294 0 [some (.inr (.inr (some 488))), some (.inl k), none] [] (hp (1, ρ) D)) := by
  have hB := mB_MS h
  unfold oImage
  rw [vM_image_0, mGF m488, mbegin h, aVC, tlN, vM_image_4, misIn, aVC, tlS, vM_image_10]
  by_cases h1 : 0 ≤ k ∧ k ≤ 1
  rotate_left
  · rw [if_neg h1, if_pos j00, vM_image_13, aZ0, if_neg (by omega)]
    exact MO_l (MO_mB h rfl)
  obtain ⟨x, rfl⟩ := Int.eq_ofNat_of_zero_le h1.1
  have hx : x < 2 := by omega
  rw [if_pos h1, if_neg j10, vM_image_15, if_pos (by omega), Int.toNat_natCast]
  have c0 := chain (fun j => Vl (d + 2) 294 17 [some (.inr (.inr (some 488))), some (.inl (x : Int)), some (.inl (j : Int))] [] (hp (1, ρ) (pOn (mB D A) 492 (508 * x) j (fun b => mB D A 490 b)))) 508 (fun j hj => by

    have e1 : pOn (mB D A) 492 (508 * x) j (fun b => mB D A 490 b) 490 j = mB D A 490 j := by rw [pOn_far (by decide)]
    rw [vM_image_17, if_pos (by omega), vM_image_24]
    simp only [mGF m488, mr3, mr5]
    rw [mIA m490, if_pos (by omega), Int.toNat_natCast, e1, show w32 (w32 (508 * (x : Int)) + (j : Int)) = ((508 * x + j : Nat) : Int) from by
      have e : w32 (508 * (x : Int)) = 508 * (x : Int) := by unfold w32; omega
      rw [e]; unfold w32; omega, mIS m492, if_pos (by omega), Int.toNat_natCast, w32_s (by omega), pOn_s (c := 492) (b := 508 * x) (n := j) (r := fun b => mB D A 490 b) rfl])

  rw [pOn_0] at c0
  obtain ⟨D1, hD1⟩ : ∃ D1, D1 = pOn (mB D A) 492 (508 * x) 508 (fun b => mB D A 490 b) := ⟨_, rfl⟩
  rw [← hD1] at c0
  have c1 := chain (fun j => Vl (d + 2) 294 50 [some (.inr (.inr (some 488))), some (.inl (x : Int)), some (.inl (j : Int))] [] (hp (1, lOn ρ 495 (12 * x) j (fun b => ρ.2.2 493 b)) D1)) 12 (fun j hj => by

    have e1 : (lOn ρ 495 (12 * x) j (fun b => ρ.2.2 493 b)).2.2 493 j = ρ.2.2 493 j := lOn_ne (by decide)
    rw [vM_image_50, if_pos (by omega), vM_image_56]
    simp only [mGF m488, mr6, mr8]
    rw [mLA m493, if_pos (by omega), Int.toNat_natCast, e1, show w32 (w32 (12 * (x : Int)) + (j : Int)) = ((12 * x + j : Nat) : Int) from by
      have e : w32 (12 * (x : Int)) = 12 * (x : Int) := by unfold w32; omega
      rw [e]; unfold w32; omega, mLS m495, if_pos (by omega), Int.toNat_natCast, w32_s (by omega), lOn_s (c := 495) (b := 12 * x) (n := j) (r := fun b => ρ.2.2 493 b)])

  rw [lOn_0] at c1
  rw [show ((0 : Nat) : Int) = 0 from rfl] at c0 c1
  rw [c0, vM_image_17, if_neg (by decide), vM_image_48, c1, vM_image_50, if_neg (by decide), vM_image_79, mGF m488, mr9, mBS m496, if_pos (by omega), if_pos (Or.inr rfl), Int.toNat_natCast, aZ1]
  have n1 : ∀ q, q ≠ 492 → q ≠ 496 → sD D1 496 x 1 q = mB D A q := fun q a b => by rw [sD_ne b, hD1, pOn_far a]
  refine ⟨lOn ρ 495 (12 * x) 12 (fun b => ρ.2.2 493 b), sD D1 496 x 1, rfl, ?_, by rw [n1 488 (by decide) (by decide)]; exact mB_0, fun q hq => by rw [n1 q (by omega) (by omega), mB_ne (by omega)], rfl, rfl, fun c hc => funext fun y => lOn_ne (by omega)⟩
  obtain ⟨a0, hO, hT, e, f, g1, g2, g3, g4⟩ := hB
  have n489 := n1 489 (by decide) (by decide)
  have n518 := n1 518 (by decide) (by decide)
  refine ⟨⟨by rw [n1 488 (by decide) (by decide)]; exact a0.1, a0.2.1, fun i hi => by rw [n489]; exact a0.2.2 i hi⟩, hO, MT_cg hT (n1 490 (by decide) (by decide)), fun q hq => ?_, fun k hk4 => ⟨(f k hk4).1, fun j hj => by rw [n518]; exact (f k hk4).2 j hj⟩, by rw [n1 488 (by decide) (by decide)]; exact g1, g2, by rw [n1 488 (by decide) (by decide)]; exact g3, fun i z1 z2 => by rw [n1 537 (by decide) (by decide)]; exact g4 i z1 z2⟩
  show sD D1 496 x 1 496 q = (if (if q = x then true else Ai A q) = true then 1 else 0) ∧ ((if q = x then true else Ai A q) = true → TOK (if q = x then AT A else AI A q) ∧ MT _ 492 (508 * q) (if q = x then AT A else AI A q))
  by_cases eq : q = x
  · rw [if_pos eq, if_pos eq, if_pos rfl, eq]
    refine ⟨sD_eq, fun _ => ⟨hO, MT_mv hO hT (fun j hj => ?_)⟩⟩
    rw [sD_ne (by decide), hD1, pOn_in hj, Nat.zero_add]
  · rw [if_neg eq, if_neg eq]
    refine ⟨by rw [sD_nb eq, hD1, pOn_far (by decide)]; exact (e q hq).1, fun z => ⟨((e q hq).2 z).1, MT_mv ((e q hq).2 z).1 ((e q hq).2 z).2 (fun j hj => ?_)⟩⟩
    rw [sD_ne (by decide), hD1, pOn_ne (Or.inr (by omega))]
theorem mrestore_op (h : MS D A) (k : Int) : MOl ρ D (oRestore A k).2 (oRestore A k).1 (Vl (d + 2) 295 0 [some (.inr (.inr (some 488))), some (.inl k), none] [] (hp (1, ρ) D)) := by
  have hB := mB_MS h
  unfold oRestore
  rw [vM_restore_0, mGF m488, mbegin h, aVC, tlN, vM_restore_4, misIn, aVC, tlS, vM_restore_10]
  by_cases h1 : 0 ≤ k ∧ k ≤ 1
  rotate_left
  · rw [if_neg h1, if_pos j00, vM_restore_22, aZ0, if_neg (fun z => h1 (by omega))]
    exact MO_l (MO_mB h rfl)
  obtain ⟨x, rfl⟩ := Int.eq_ofNat_of_zero_le h1.1
  have hx : x < 2 := by omega
  obtain ⟨k1, k2⟩ := hB.2.2.2.1 x hx
  rw [if_pos h1, if_neg j10, vM_restore_13, mGF m488, mr9, mBA m496, if_pos (show 0 ≤ (x : Int) ∧ (x : Int) < ((2 : Nat) : Int) by omega), Int.toNat_natCast, k1]
  by_cases h2 : Ai A x = true
  rotate_left
  · rw [if_neg h2, if_pos j00, vM_restore_22, aZ0, if_neg (fun z => h2 z.2)]
    exact MO_l (MO_mB h rfl)
  obtain ⟨hOI, hTI⟩ := k2 h2
  rw [if_pos h2, if_neg j10, if_pos ⟨by omega, h2⟩, vM_restore_24]
  have c0 := chain (fun j => Vl (d + 2) 295 26 [some (.inr (.inr (some 488))), some (.inl (x : Int)), some (.inl (j : Int))] [] (hp (1, ρ) (pOn (mB D A) 490 0 j (fun b => mB D A 492 (508 * x + b))))) 508 (fun j hj => by

    have e1 : pOn (mB D A) 490 0 j (fun b => mB D A 492 (508 * x + b)) 492 (508 * x + j) = mB D A 492 (508 * x + j) := by rw [pOn_far (by decide)]
    rw [vM_restore_26, if_pos (by omega), vM_restore_33]
    simp only [mGF m488, mr3, mr5]
    rw [show w32 (w32 (508 * (x : Int)) + (j : Int)) = ((508 * x + j : Nat) : Int) from by
      have e : w32 (508 * (x : Int)) = 508 * (x : Int) := by unfold w32; omega
      rw [e]; unfold w32; omega, mIA m492, if_pos (by omega), Int.toNat_natCast, e1, mIS m490, if_pos (by omega), Int.toNat_natCast, w32_s (by omega)]
    have := pOn_s (D := mB D A) (c := 490) (b := 0) (n := j) (r := fun b => mB D A 492 (508 * x + b)) rfl
    rw [Nat.zero_add] at this
    rw [this])

  rw [pOn_0] at c0
  obtain ⟨D1, hD1⟩ : ∃ D1, D1 = pOn (mB D A) 490 0 508 (fun b => mB D A 492 (508 * x + b)) := ⟨_, rfl⟩
  rw [← hD1] at c0
  have c1 := chain (fun j => Vl (d + 2) 295 59 [some (.inr (.inr (some 488))), some (.inl (x : Int)), some (.inl (j : Int))] [] (hp (1, lOn ρ 493 0 j (fun b => ρ.2.2 495 (12 * x + b))) D1)) 12 (fun j hj => by

    have e1 : (lOn ρ 493 0 j (fun b => ρ.2.2 495 (12 * x + b))).2.2 495 (12 * x + j) = ρ.2.2 495 (12 * x + j) := lOn_ne (by decide)
    rw [vM_restore_59, if_pos (by omega), vM_restore_65]
    simp only [mGF m488, mr6, mr8]
    rw [show w32 (w32 (12 * (x : Int)) + (j : Int)) = ((12 * x + j : Nat) : Int) from by
      have e : w32 (12 * (x : Int)) = 12 * (x : Int) := by unfold w32; omega
      rw [e]; unfold w32; omega, mLA m495, if_pos (by omega), Int.toNat_natCast, e1, mLS m493, if_pos (by omega), Int.toNat_natCast, w32_s (by omega)]
    have := lOn_s (ρ := ρ) (c := 493) (b := 0) (n := j) (r := fun b => ρ.2.2 495 (12 * x + b))
    rw [Nat.zero_add] at this
    rw [this])

  rw [lOn_0] at c1
  rw [show ((0 : Nat) : Int) = 0 from rfl] at c0 c1
  rw [c0, vM_restore_26, if_neg (by decide), vM_restore_57, c1, vM_restore_59, if_neg (by decide), vM_restore_88, aZ1]
  have n1 : ∀ q, q ≠ 490 → D1 q = mB D A q := fun q a => by rw [hD1, pOn_far a]
  refine ⟨lOn ρ 493 0 12 (fun b => ρ.2.2 495 (12 * x + b)), D1, rfl, MS_now hB hOI (MT_mv hOI hTI (fun j hj => ?_)) (fun c _ hne => n1 c hne) (by rw [n1 488 (by decide)]) (by rw [n1 488 (by decide)]) (by rw [n1 488 (by decide)]), by rw [n1 488 (by decide)]; exact mB_0, fun q hq => by rw [n1 q (by omega), mB_ne (by omega)], rfl, rfl, fun c hc => funext fun y => lOn_ne (by omega)⟩
  rw [hD1, pOn_in hj]
/-- the tape's numbers into a row -/
theorem mtakeN (h : MS D A) (hF : MF (aF A) D) {c n1 most : Nat} (kc : KM c (1, n1)) (hm : most ≤ n1) (hn : n1 < 100000) (hc : ¬ mK c) (hc8 : c ≠ 488) : ∃ D', Vl (d + 1) 265 0 [some (.inr (.inr (some 488))), some (.inl (most : Int)), some (.inr (.inr (some c))), none, none] [] (hp (1, ρ) D) = some ((0, some (.inl (if Al A ≤ most ∧ allN A 0 (Al A) = true then (Al A : Int) else -1))), hp (1, ρ) D') ∧ MS D' (aTape A 0 (At A)) ∧ (Al A ≤ most ∧ allN A 0 (Al A) = true → ∀ i, i < Al A → D' c i = (At A i : Int)) ∧ D' 488 0 = D 488 0 ∧ MF (aF A) D' ∧ ∀ q, q ≠ 488 → q ≠ c → D' q = D q := by
  have hl := h.1.2.1
  have fa : ∀ j, j ≠ 2 → sD D 488 2 0 488 j = D 488 j := fun j hj => sD_nb hj
  have hF0 : MF (aF A) (sD D 488 2 0) := ⟨hF.1, by rw [fa _ (by decide)]; exact hF.2.1, by rw [fa _ (by decide)]; exact hF.2.2.1, by rw [fa _ (by decide)]; exact hF.2.2.2.1, by rw [fa _ (by decide)]; exact hF.2.2.2.2⟩
  have h0 : MS (sD D 488 2 0) (aTape A 0 (At A)) := MS_tape h ⟨sD_eq, by decide, fun i hi => absurd hi (Nat.not_lt_zero _)⟩ (fun q hq _ => sD_ne (by unfold mK at hq; omega)) (fa 37 (by decide)) (fa 69 (by decide))
  rw [vM_takeNumbers_0, mGF m488, vM_take0_0, mGF m488, mGF m488, aLt, hwD, hD, h.1.1, aVC, tlS, vM_takeNumbers_4]
  by_cases h1 : Al A ≤ most
  rotate_left
  · rw [if_pos (by omega), if_neg (fun z => h1 z.1), vM_takeNumbers_10]
    exact ⟨_, rfl, h0, fun z => absurd z.1 h1, fa 0 (by decide), hF0, fun q a _ => sD_ne a⟩
  have chk : ∀ n j : Nat, j + n = Al A → Vl (d + 1) 265 15 [some (.inr (.inr (some 488))), some (.inl (most : Int)), some (.inr (.inr (some c))), some (.inl (Al A : Int)), some (.inl (j : Int))] [] (hp (1, ρ) (sD D 488 2 0)) = if hAll (rI (At A)) ((2 ^ (aF A).1 : Nat) : Int) j n = true then Vl (d + 1) 265 43 [some (.inr (.inr (some 488))), some (.inl (most : Int)), some (.inr (.inr (some c))), some (.inl (Al A : Int)), some (.inl (Al A : Int))] [] (hp (1, ρ) (sD D 488 2 0)) else some ((0, some (.inl (-1))), hp (1, ρ) (sD D 488 2 0)) := by
    intro n
    induction n with
    | zero =>
      intro j hj
      obtain rfl : j = Al A := by omega
      rw [vM_takeNumbers_15, if_neg (by omega)]; rfl
    | succ n ih =>
      intro j hj
      have e : sD D 488 2 0 489 j = (At A j : Int) := by rw [sD_ne (by decide)]; exact (h.1.2.2 j (by omega)).1
      rw [vM_takeNumbers_15, if_pos (by omega), vM_takeNumbers_21]
      simp only [mGF m488, mr1]
      rw [mIA m489, if_pos (by omega), Int.toNat_natCast, e, misNum hF0, aVC, tlS, vM_takeNumbers_32]
      unfold hAll
      by_cases z : 0 ≤ (At A j : Int) ∧ (At A j : Int) < ((2 ^ (aF A).1 : Nat) : Int)
      · rw [if_pos z, if_neg j10, vM_takeNumbers_37, w32_s (by omega), ih (j + 1) (by omega)]
        have e2 : (decide (0 ≤ rI (At A) j) && decide (rI (At A) j < ((2 ^ (aF A).1 : Nat) : Int))) = true := by
          rw [Bool.and_eq_true, decide_eq_true_eq, decide_eq_true_eq]; exact z
        rw [e2, Bool.true_and]
      · have e2 : (decide (0 ≤ rI (At A) j) && decide (rI (At A) j < ((2 ^ (aF A).1 : Nat) : Int))) = false := by
          rw [Bool.eq_false_iff]
          intro y
          rw [Bool.and_eq_true, decide_eq_true_eq, decide_eq_true_eq] at y
          exact z y
        rw [if_neg z, if_pos j00, vM_takeNumbers_35, e2, Bool.false_and]; rfl
  have q1 := chk (Al A) 0 (Nat.zero_add _)
  rw [show ((0 : Nat) : Int) = 0 from rfl] at q1
  rw [if_neg (by omega), vM_takeNumbers_12, q1]
  by_cases h2 : hAll (rI (At A)) ((2 ^ (aF A).1 : Nat) : Int) 0 (Al A) = true
  rotate_left
  · rw [if_neg h2, if_neg (fun z => h2 z.2)]
    exact ⟨_, rfl, h0, fun z => absurd z.2 h2, fa 0 (by decide), hF0, fun q a _ => sD_ne a⟩
  have c489 : c ≠ 489 := fun e => hc (Or.inl e)
  have c0 := chain (fun j => Vl (d + 1) 265 46 [some (.inr (.inr (some 488))), some (.inl (most : Int)), some (.inr (.inr (some c))), some (.inl (Al A : Int)), some (.inl (j : Int))] [] (hp (1, ρ) (pDn (sD D 488 2 0) c j (rI (At A))))) (Al A) (fun j hj => by

    have e : pDn (sD D 488 2 0) c j (rI (At A)) 489 j = (At A j : Int) := by rw [pDn_ne (fun e => c489 e.symm), sD_ne (by decide)]; exact (h.1.2.2 j hj).1
    rw [vM_takeNumbers_46, if_pos (by omega), vM_takeNumbers_52, mGF m488, mr1, mIA m489, if_pos (by omega), Int.toNat_natCast, e, mIS kc, if_pos (by omega), Int.toNat_natCast, w32_s (by omega), pDn_s (show (At A j : Int) = rI (At A) j from rfl)])

  rw [pDn_0, show ((0 : Nat) : Int) = 0 from rfl] at c0
  rw [if_pos h2, if_pos ⟨h1, h2⟩, vM_takeNumbers_43, c0, vM_takeNumbers_46, if_neg (by omega), vM_takeNumbers_69]
  exact ⟨_, rfl, MS_sc h0 (fun q hq => pDn_ne (fun e => by rcases hq with z | z; exact hc (e ▸ z); exact hc8 (e.symm.trans z))), fun _ i hi => pDn_lt hi, by rw [pDn_ne (fun e => hc8 e.symm)]; exact fa 0 (by decide), MF_cg hF0 (pDn_ne (fun e => hc8 e.symm)), fun q a b => by rw [pDn_ne b, sD_ne a]⟩
end MOPS8
