/-! THE REFERENCE'S METHODS: keep, image, restore -/
section MOPS7
variable {ρ : jr2} {D D' : jD} {d : Nat} {Φ : gF} {A : aA} {T : aT}
theorem e17m {x : Nat} (hx : x < 20) : w32 (16 + w32 (17 * (x : Int))) = ((16 + 17 * x : Nat) : Int) := by
  have e : w32 (17 * (x : Int)) = 17 * (x : Int) := by unfold w32; omega
  rw [e]; unfold w32; omega
theorem e18m {x : Nat} (hx : x < 20) : w32 (220 + w32 (18 * (x : Int))) = ((220 + 18 * x : Nat) : Int) := by
  have e : w32 (18 * (x : Int)) = 18 * (x : Int) := by unfold w32; omega
  rw [e]; unfold w32; omega
theorem c6 : (0 : Int) ≤ 6 ∧ (6 : Int) < ((508 : Nat) : Int) := by decide
/-- an act is put behind the others -/
def MR (D : jD) (u i : Nat) (F : pl) : jD := sD (pOn (sD D 490 (220 + 18 * u) (i : Int)) 490 (220 + 18 * u + 1) 17 (rI F)) 490 6 ((u + 1 : Nat) : Int)
theorem MR_ne {u i : Nat} {F : pl} {q : Nat} (h : q ≠ 490) : MR D u i F q = D q := by unfold MR; rw [sD_ne h, pOn_far h, sD_ne h]
theorem MT_rem1 (hO : TOK T) {i : Nat} (hu : tU T < 16) (h : MT D 490 0 T) {F : pl} : MT (MR D (tU T) i F) 490 0 (tNum T (tU T + 1) (fun q => if q = tU T then F else tu T q) (fun q => if q = tU T then i else tv T q)) := by
  obtain ⟨⟨h01, h2, h3⟩, h4, h5, h6, h7, h8, h9⟩ := h
  obtain ⟨-, b1, b2, b3, -⟩ := hO
  obtain ⟨u, hu'⟩ : ∃ u, u = tU T := ⟨_, rfl⟩
  rw [← hu'] at hu h6 h9 ⊢
  have fr : ∀ y, y ≠ 6 → (y < 220 + 18 * u ∨ 220 + 18 * u + 18 ≤ y) → MR D u i F 490 y = D 490 y := fun y h1 h2 => by
    unfold MR; rw [sD_nb h1, pOn_ne (Or.inr (by omega)), sD_nb (by omega)]
  have fv : MR D u i F 490 (220 + 18 * u) = (i : Int) := by
    unfold MR; rw [sD_nb (by omega), pOn_ne (Or.inr (by omega)), sD_eq]
  have fb : ∀ k, k < 17 → MR D u i F 490 (220 + 18 * u + 1 + k) = (F k : Int) := fun k hk => by
    unfold MR; rw [sD_nb (by omega), pOn_in hk]; rfl
  refine ⟨⟨?_, by rw [fr _ (by omega) (by omega)]; exact h2, by rw [fr _ (by omega) (by omega)]; exact h3⟩, by rw [fr _ (by omega) (by omega)]; exact h4, by rw [fr _ (by omega) (by omega)]; exact h5, by unfold MR; exact sD_eq, fun j hj => ?_, fun j hj k hk => ?_, fun a ha => ?_⟩
  · rcases h01 with ⟨q1, q2⟩ | ⟨q1, q2⟩
    · exact Or.inl ⟨by rw [fr _ (by omega) (by omega)]; exact q1, by rw [fr _ (by omega) (by omega)]; exact q2⟩
    · exact Or.inr ⟨by rw [fr _ (by omega) (by omega)]; exact q1, q2⟩
  · have hj8 : j < tP T := hj
    rw [fr _ (by omega) (by omega)]; exact h7 j hj
  · have hjN : j < tN T := hj
    rw [fr _ (by omega) (by omega)]; exact h8 j hj k hk
  · have ha8 : a < u + 1 := ha
    show MR D u i F 490 (0 + 220 + 18 * a) = (((if a = u then i else tv T a) : Nat) : Int) ∧ PRo _ 490 (0 + 221 + 18 * a) (if a = u then F else tu T a)
    by_cases e : a = u
    · rw [if_pos e, if_pos e, e, show 0 + 220 + 18 * u = 220 + 18 * u by omega]
      refine ⟨fv, fun k hk => ?_⟩
      rw [show 0 + 221 + 18 * u + k = 220 + 18 * u + 1 + k by omega]; exact fb k hk
    · rw [if_neg e, if_neg e]
      refine ⟨by rw [fr _ (by omega) (by omega)]; exact (h9 a (by omega)).1, fun k hk => ?_⟩
      rw [fr _ (by omega) (by omega)]; exact (h9 a (by omega)).2 k hk
def shN (D : jD) (n : Nat) : jD := fun c y => if c = 490 ∧ 220 ≤ y ∧ y < 220 + n then D c (y + 18) else D c y
theorem shN_0 : shN D 0 = D := by funext c y; exact if_neg (by omega)
theorem shN_s (n : Nat) : sD (shN D n) 490 (220 + n) (D 490 (220 + n + 18)) = shN D (n + 1) := by
  funext c y
  unfold sD shN
  by_cases q1 : c = 490 ∧ y = 220 + n
  · rw [if_pos q1, if_pos (by omega), q1.1, q1.2]
  · rw [if_neg q1]
    by_cases q2 : c = 490 ∧ 220 ≤ y ∧ y < 220 + n
    · rw [if_pos q2, if_pos (by omega)]
    · rw [if_neg q2, if_neg (by omega)]
theorem shN_ne {n q : Nat} (h : q ≠ 490) : shN D n q = D q := by funext y; exact if_neg (fun z => h z.1)
theorem mkeep_shift (x1 x2 : Int) : Vl d 254 69 [some (.inr (.inr (some 488))), some (.inl x1), some (.inl x2), some (.inl 17)] [] (hp (1, ρ) D) = Vl d 254 108 [some (.inr (.inr (some 488))), some (.inl x1), some (.inl x2), some (.inl 288)] [] (hp (1, ρ) (shN D 270)) := by
  have c0 := chain (fun n => Vl d 254 72 [some (.inr (.inr (some 488))), some (.inl x1), some (.inl x2), some (.inl ((18 + n : Nat) : Int))] [] (hp (1, ρ) (shN D n))) 270 (fun n hn => by

    have e1 : shN D n 490 (220 + (18 + n)) = D 490 (220 + n + 18) := by
      rw [show 220 + (18 + n) = 220 + n + 18 by omega]; exact if_neg (by omega)
    rw [vM_keep_72, if_pos (by omega), vM_keep_79]
    simp only [mGF m488, mr3]
    rw [show w32 (220 + ((18 + n : Nat) : Int)) = ((220 + (18 + n) : Nat) : Int) from by unfold w32; omega, mIA m490, if_pos (by omega), Int.toNat_natCast, e1, show w32 (((220 + (18 + n) : Nat) : Int) - 18) = ((220 + n : Nat) : Int) from by unfold w32; omega, mIS m490, if_pos (by omega), Int.toNat_natCast, shN_s, w32_s (by omega), show 18 + n + 1 = 18 + (n + 1) by omega])

  rw [shN_0] at c0
  rw [vM_keep_69]
  refine Eq.trans c0 ?_
  rw [vM_keep_72, if_neg (by omega)]
  rfl
theorem MT_shift (hO : TOK T) (h16 : tU T = 16) (h : MT D 490 0 T) : MT (sD (shN D 270) 490 6 (15 : Int)) 490 0 (tNum T 15 (fun q => tu T (q + 1)) (fun q => tv T (q + 1))) := by
  obtain ⟨⟨h01, h2, h3⟩, h4, h5, h6, h7, h8, h9⟩ := h
  obtain ⟨-, b1, b2, b3, -⟩ := hO
  have fr : ∀ y, y ≠ 6 → y < 220 → sD (shN D 270) 490 6 (15 : Int) 490 y = D 490 y := fun y h1 h2 => by
    rw [sD_nb h1]; exact if_neg (by omega)
  have fs : ∀ y, 220 ≤ y → y < 490 → sD (shN D 270) 490 6 (15 : Int) 490 y = D 490 (y + 18) := fun y h1 h2 => by
    rw [sD_nb (by omega)]; exact if_pos (by omega)
  refine ⟨⟨?_, by rw [fr _ (by omega) (by omega)]; exact h2, by rw [fr _ (by omega) (by omega)]; exact h3⟩, by rw [fr _ (by omega) (by omega)]; exact h4, by rw [fr _ (by omega) (by omega)]; exact h5, sD_eq, fun j hj => ?_, fun j hj k hk => ?_, fun a ha => ⟨?_, fun k hk => ?_⟩⟩
  · rcases h01 with ⟨q1, q2⟩ | ⟨q1, q2⟩
    · exact Or.inl ⟨by rw [fr _ (by omega) (by omega)]; exact q1, by rw [fr _ (by omega) (by omega)]; exact q2⟩
    · exact Or.inr ⟨by rw [fr _ (by omega) (by omega)]; exact q1, q2⟩
  · have hj8 : j < tP T := hj
    rw [fr _ (by omega) (by omega)]; exact h7 j hj
  · have hjN : j < tN T := hj
    rw [fr _ (by omega) (by omega)]; exact h8 j hj k hk
  · have ha8 : a < 15 := ha
    rw [fs _ (by omega) (by omega), show 0 + 220 + 18 * a + 18 = 0 + 220 + 18 * (a + 1) by omega]
    exact (h9 (a + 1) (by omega)).1
  · have ha8 : a < 15 := ha
    rw [fs _ (by omega) (by omega), show 0 + 221 + 18 * a + k + 18 = 0 + 221 + 18 * (a + 1) + k by omega]
    exact (h9 (a + 1) (by omega)).2 k hk
theorem mkeep_check (hB : MS D A) (hF : MF (aF A) D) {k : Nat} (hk4 : k < 4) (x1 : Int) : ∀ n j : Nat, j + n = 17 → Vl (d + 1) 254 25 [some (.inr (.inr (some 488))), some (.inl x1), some (.inl (k : Int)), some (.inl (j : Int))] [] (hp (1, ρ) D) = if hAll (rI (Ar A k)) ((2 ^ (aF A).1 : Nat) : Int) j n = true then Vl (d + 1) 254 57 [some (.inr (.inr (some 488))), some (.inl x1), some (.inl (k : Int)), some (.inl 17)] [] (hp (1, ρ) D) else some ((0, some (.inl 0)), hp (1, ρ) D)
  | 0, j, hj => by
    obtain rfl : j = 17 := by omega
    rw [vM_keep_25, if_neg (by omega)]; rfl
  | n + 1, j, hj => by
    have e := (hB.2.2.2.2.1 k hk4).2 j (by omega)
    have e17 : w32 (w32 (17 * (k : Int)) + (j : Int)) = ((17 * k + j : Nat) : Int) := by
      have e : w32 (17 * (k : Int)) = 17 * (k : Int) := by unfold w32; omega
      rw [e]; unfold w32; omega
    rw [vM_keep_25, if_pos (by omega), vM_keep_31]
    simp only [mGF m488, mr47]
    rw [e17, mIA m518, if_pos (by omega), Int.toNat_natCast, e, misNum hF, aVC, tlS, vM_keep_46]
    unfold hAll
    by_cases h1 : 0 ≤ (Ar A k j : Int) ∧ (Ar A k j : Int) < ((2 ^ (aF A).1 : Nat) : Int)
    · rw [if_pos h1, if_neg j10, vM_keep_51, w32_s (by omega), mkeep_check hB hF hk4 x1 n (j + 1) (by omega)]
      have e2 : (decide (0 ≤ rI (Ar A k) j) && decide (rI (Ar A k) j < ((2 ^ (aF A).1 : Nat) : Int))) = true := by
        rw [Bool.and_eq_true, decide_eq_true_eq, decide_eq_true_eq]; exact h1
      rw [e2, Bool.true_and]
    · have e2 : (decide (0 ≤ rI (Ar A k) j) && decide (rI (Ar A k) j < ((2 ^ (aF A).1 : Nat) : Int))) = false := by
        rw [Bool.eq_false_iff]
        intro z
        rw [Bool.and_eq_true, decide_eq_true_eq, decide_eq_true_eq] at z
        exact h1 z
      rw [if_neg h1, if_pos j00, vM_keep_49, aZ0, e2, Bool.false_and]; rfl
/-- remembered and put -/
theorem mkeep_put {i k u : Nat} (hB : MS D A) (h0 : D 488 0 = 0) {D0 : jD} (hf : ∀ q, q < 488 → D q = D0 q) (hO : TOK T) (hi : i < tN T) (hk4 : k < 4) (hT : MT D 490 0 T) (hu : tU T = u) (hu16 : u < 16) (oK : pOK (tF T) (Ar A k)) (x3 : Int) : MO ρ D0 (aNow A (tPut (tNum T (u + 1) (fun q => if q = u then tn T i else tu T q) (fun q => if q = u then i else tv T q)) i (Ar A k))) 1 (Vl (d + 1) 254 119 [some (.inr (.inr (some 488))), some (.inl (i : Int)), some (.inl (k : Int)), some (.inl x3)] [] (hp (1, ρ) D)) := by
  subst hu
  have hN := hO.2.1
  have e6 : D 490 6 = (tU T : Int) := hT.2.2.2.1
  have hm := MT_rem1 hO (i := i) (F := tn T i) hu16 hT
  have hOm : TOK (tNum T (tU T + 1) (fun q => if q = tU T then tn T i else tu T q) (fun q => if q = tU T then i else tv T q)) := by
    have := tRem_OK hO hi
    unfold tRem at this
    rw [if_neg (by omega)] at this
    exact this
  have hp2 := MT_put hOm (i := i) hi hm (F := Ar A k)
  obtain ⟨D1, hD1⟩ : ∃ D1, D1 = sD D 490 (220 + 18 * tU T) (i : Int) := ⟨_, rfl⟩
  obtain ⟨D2, hD2⟩ : ∃ D2, D2 = pOn D1 490 (220 + 18 * tU T + 1) 17 (rI (tn T i)) := ⟨_, rfl⟩
  have eM : MR D (tU T) i (tn T i) = sD D2 490 6 ((tU T + 1 : Nat) : Int) := by rw [hD2, hD1]; rfl
  have eP : PRo D1 490 (16 + 17 * i) (tn T i) := fun b hb => by
    rw [hD1, sD_nb (by omega)]
    have := hT.2.2.2.2.2.1 i hi b hb
    rw [show 0 + 16 + 17 * i + b = 16 + 17 * i + b by omega] at this
    exact this
  have q1 := mcopy (d := d) (ρ := ρ) (D := D1) (a := 16 + 17 * i) (b := 220 + 18 * tU T + 1) m490 m490 (by omega) (by omega) (by decide) (Or.inr (by omega)) eP
  rw [← hD2] at q1
  have e62 : D2 490 6 = (tU T : Int) := by rw [hD2, pOn_ne (Or.inr (by omega)), hD1, sD_nb (by omega)]; exact e6
  have f518 : MR D (tU T) i (tn T i) 518 = D 518 := MR_ne (by decide)
  have eR : PRo (MR D (tU T) i (tn T i)) 518 (17 * k) (Ar A k) := fun b hb => by rw [f518]; exact (hB.2.2.2.2.1 k hk4).2 b hb
  have q2 := mcopy (d := d) (ρ := ρ) (D := MR D (tU T) i (tn T i)) (a := 17 * k) (b := 16 + 17 * i) m518 m490 (by omega) (by omega) (by decide) (Or.inl (by decide)) eR
  refine ⟨pOn (MR D (tU T) i (tn T i)) 490 (16 + 17 * i) 17 (rI (Ar A k)), ?_, MS_now hB (tPut_OK hOm (i := i) (Nat.le_of_lt hi) (by omega) oK) hp2 (fun c _ hne => by rw [pOn_far hne, MR_ne hne]) (by rw [pOn_far (by decide), MR_ne (by decide)]) (by rw [pOn_far (by decide), MR_ne (by decide)]) (by rw [pOn_far (by decide), MR_ne (by decide)]), by rw [pOn_far (by decide), MR_ne (by decide)]; exact h0, fun q hq => by rw [pOn_far (by omega), MR_ne (by omega), hf q hq]⟩
  rw [vM_keep_119]
  simp only [mGF m488, mr3, mr47]
  rw [mIA m490, if_pos c6, show (6 : Int).toNat = 6 from rfl, e6, e18m (by omega), mIS m490, if_pos (by omega), Int.toNat_natCast, ← hD1]
  simp only [mGF m488, mr3, mr47]
  rw [e17m (by omega), w32_s (by omega), q1, aVC, tlN, vM_keep_162]
  simp only [mGF m488, mr3, mr47]
  rw [mIA m490, if_pos c6, show (6 : Int).toNat = 6 from rfl, e62, mIS m490, if_pos c6, show (6 : Int).toNat = 6 from rfl, w32_s (by omega), ← eM]
  simp only [mGF m488, mr3, mr47]
  rw [e17m (by omega), show w32 (17 * (k : Int)) = ((17 * k : Nat) : Int) from by unfold w32; omega, q2, aVC, tlN, vM_keep_195, aZ1]
theorem hAll_17 {q : Nat} {F : pl} (h : hAll (rI F) (q : Int) 0 17 = true) : ∀ b, b < 17 → F b < q := fun b hb => hAll_rI 17 0 h b (Nat.zero_le _) (by omega)
theorem mkeep_op (h : MS D A) (i k : Int) : MO ρ D (oKeep A i k).2 (oKeep A i k).1 (Vl (d + 2) 254 0 [some (.inr (.inr (some 488))), some (.inl i), some (.inl k), none] [] (hp (1, ρ) D)) := by
  have hB := mB_MS h
  have hF := mB_MF h
  have hO := hB.2.1
  have hT := hB.2.2.1
  unfold oKeep
  rw [vM_keep_0, mGF m488, mbegin h, aVC, tlN, vM_keep_4, mGF m488, misName hB, aVC, tlS, vM_keep_9]
  by_cases h1 : aN A i
  rotate_left
  · rw [if_neg h1, if_pos j00, vM_keep_21, aZ0, if_neg (fun z => h1 z.1)]
    exact MO_mB h rfl
  rw [if_pos h1, if_neg j10, vM_keep_12, misIn, aVC, tlS, vM_keep_18]
  by_cases h2 : 0 ≤ k ∧ k ≤ 3
  rotate_left
  · rw [if_neg h2, if_pos j00, vM_keep_21, aZ0, if_neg (fun z => h2 (by omega))]
    exact MO_mB h rfl
  obtain ⟨x, rfl⟩ := Int.eq_ofNat_of_zero_le h1.1
  obtain ⟨y, rfl⟩ := Int.eq_ofNat_of_zero_le h2.1
  have q1 := mkeep_check (d := d + 1) (ρ := ρ) hB hF (show y < 4 by omega) (x : Int) 17 0 (Nat.zero_add _)
  rw [show ((0 : Nat) : Int) = 0 from rfl] at q1
  rw [if_pos h2, if_neg j10, vM_keep_23, q1, Int.toNat_natCast, Int.toNat_natCast]
  by_cases h3 : hAll (rI (Ar A y)) ((2 ^ (aF A).1 : Nat) : Int) 0 17 = true
  rotate_left
  · rw [if_neg h3, if_neg (fun z => h3 z.2.2)]
    exact MO_mB h rfl
  have p8 := (hB.2.2.2.2.1 y (by omega)).1
  have oK : pOK (tF (AT A)) (Ar A y) := ⟨fun b => by
    by_cases hb : b < 17
    · exact hAll_17 h3 b hb
    · rw [p8.2 b (by omega)]; exact Nat.two_pow_pos _, p8.2⟩
  have hx : x < tN (AT A) := by have := h1.2; omega
  have t6 : mB D A 490 6 = (tU (AT A) : Int) := hT.2.2.2.1
  have h16 := hO.2.2.2.1
  rw [if_pos h3, if_pos ⟨h1, by omega, h3⟩, vM_keep_57, mGF m488, mr3, mIA m490, if_pos c6, show (6 : Int).toNat = 6 from rfl, t6]
  by_cases h4 : tU (AT A) = 16
  · have hS := MT_shift hO h4 hT
    obtain ⟨D1, hD1⟩ : ∃ D1, D1 = sD (shN (mB D A) 270) 490 6 (15 : Int) := ⟨_, rfl⟩
    rw [← hD1] at hS
    have n1 : ∀ q, q ≠ 490 → D1 q = mB D A q := fun q hq => by rw [hD1, sD_ne hq, shN_ne hq]
    have hOS : TOK (tNum (AT A) 15 (fun q => tu (AT A) (q + 1)) (fun q => tv (AT A) (q + 1))) := ⟨hO.1, hO.2.1, hO.2.2.1, by show 15 ≤ 16; decide, hO.2.2.2.2.1, hO.2.2.2.2.2.1, fun q hq => hO.2.2.2.2.2.2 (q + 1) (by have : q < 15 := hq; omega)⟩
    have hB1 : MS D1 (aNow A (tNum (AT A) 15 (fun q => tu (AT A) (q + 1)) (fun q => tv (AT A) (q + 1)))) := MS_now hB hOS hS (fun c _ hne => n1 c hne) (by rw [n1 488 (by decide)]) (by rw [n1 488 (by decide)]) (by rw [n1 488 (by decide)])
    have fin := mkeep_put (d := d + 1) (ρ := ρ) (i := x) (k := y) (u := 15) (D0 := D) hB1 (by rw [n1 488 (by decide)]; exact mB_0) (fun q hq => by rw [n1 q (by omega), mB_ne (by omega)]) hOS hx (by omega) hS rfl (by decide) oK 288
    have eT : tRem (AT A) x = tNum (AT A) 16 (fun q => if q = 15 then tn (AT A) x else tu (AT A) (q + 1)) (fun q => if q = 15 then x else tv (AT A) (q + 1)) := by
      unfold tRem; rw [if_pos (by omega)]; rfl
    rw [eT]
    have e615 : shN (mB D A) 270 490 6 = 16 := by
      rw [show shN (mB D A) 270 490 6 = mB D A 490 6 from if_neg (by omega), t6, h4]; rfl
    rw [if_pos (by omega), mkeep_shift, vM_keep_108]
    simp only [mGF m488, mr3]
    rw [mIA m490, if_pos c6, show (6 : Int).toNat = 6 from rfl, e615, mIS m490, if_pos c6, show (6 : Int).toNat = 6 from rfl, show w32 (16 - 1) = 15 from rfl, ← hD1]
    exact fin
  · have fin := mkeep_put (d := d + 1) (ρ := ρ) (i := x) (k := y) (u := tU (AT A)) (D0 := D) hB mB_0 (fun q hq => mB_ne (by omega)) hO hx (by omega) hT rfl (by omega) oK 17
    have eT : tRem (AT A) x = tNum (AT A) (tU (AT A) + 1) (fun q => if q = tU (AT A) then tn (AT A) x else tu (AT A) q) (fun q => if q = tU (AT A) then x else tv (AT A) q) := by
      unfold tRem; rw [if_neg (by omega)]; rfl
    rw [eT, if_neg (by omega)]
    exact fin
end MOPS7
