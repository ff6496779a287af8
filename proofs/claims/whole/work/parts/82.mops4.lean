/-! THE REFERENCE'S METHODS: the small ones -/
def MTA (D : jD) (l : Nat) (t : Nat → Nat) : Prop := D 488 2 = (l : Int) ∧ l ≤ 540 ∧ ∀ i, i < l → D 489 i = (t i : Int) ∧ t i < 256
def MOx (ρ : jr2) (D : jD) (A : aA) (o : Option Int) (run : Option jr) : Prop := ∃ D', run = some ((0, some (.inl (o.getD 0))), hp (1, ρ) D') ∧ MS D' A ∧ D' 488 0 = (if o.isSome = true then 0 else 1) ∧ ∀ q, q < 488 → D' q = D q
def mlr : Nat → Nat → Nat → Nat
  | 0, a, _ => a
  | n + 1, a, b => if b = 0 then a else mlr n b (a % b)
section MOPS4
variable {ρ : jr2} {D D' : jD} {d : Nat} {Φ : gF} {A : aA}
theorem MS_tape (h : MS D A) {n : Nat} {t : Nat → Nat} (hT : MTA D' n t) (hk : ∀ c, mK c → c ≠ 489 → D' c = D c) (h37 : D' 488 37 = D 488 37) (h69 : D' 488 69 = D 488 69) : MS D' (aTape A n t) := by
  obtain ⟨-, b, c, e, f, g1, g2, g3, g4⟩ := h
  unfold mK at hk
  have k518 := hk 518 (by decide) (by decide)
  refine ⟨hT, b, MT_cg c (hk 490 (by decide) (by decide)), fun k hk2 => ⟨by rw [hk 496 (by decide) (by decide)]; exact (e k hk2).1, fun z => ⟨((e k hk2).2 z).1, MT_cg ((e k hk2).2 z).2 (hk 492 (by decide) (by decide))⟩⟩, fun k hk4 => ⟨(f k hk4).1, fun j hj => by rw [k518]; exact (f k hk4).2 j hj⟩, by rw [h37]; exact g1, g2, by rw [h69]; exact g3, fun i z1 z2 => by rw [hk 537 (by decide) (by decide)]; exact g4 i z1 z2⟩
/-- thrown set to 0: nothing else -/
theorem MS_0 (h : MS D A) (x : Int) : MS (sD D 488 0 x) A := MS_cg h (fun c hc => sD_ne (by unfold mK at hc; omega)) (if_neg (by omega)) (if_neg (by omega)) (if_neg (by omega))
theorem mcome_loop (x : Int) : ∀ (n l : Nat) (t : Nat → Nat) (D : jD), n ≤ 4 → MTA D l t → l + n ≤ 540 → ∃ D', Vl d 187 3 [some (.inr (.inr (some 488))), some (.inl x), some (.inl (8 * (n : Int) - 8))] [] (hp (1, ρ) D) = some ((0, none), hp (1, ρ) D') ∧ MTA D' (l + n) (tbn x n t l) ∧ (∀ c, c ≠ 488 → c ≠ 489 → D' c = D c) ∧ ∀ j, j ≠ 2 → D' 488 j = D 488 j
  | 0, l, t, D, _, h, hl => ⟨D, by rw [vM_come_3, if_pos (by omega), vM_come_39], h, fun _ _ _ => rfl, fun _ _ => rfl⟩
  | n + 1, l, t, D, hn, h, hl => by
    have e1 : (sD D 489 l (byo x (8 * n) : Int)) 488 2 = (l : Int) := by rw [sD_ne (by decide)]; exact h.1
    obtain ⟨D', q, r, f, g⟩ := mcome_loop x n (l + 1) (fun q => if q = l then byo x (8 * n) else t q) (sD (sD D 489 l (byo x (8 * n) : Int)) 488 2 ((l + 1 : Nat) : Int)) (by omega) ⟨sD_eq, by omega, fun i hi => by
      by_cases hil : i = l
      · subst hil
        rw [sD_ne (by decide), sD_eq]
        show (byo x (8 * n) : Int) = (((if i = i then byo x (8 * n) else t i) : Nat) : Int) ∧ (if i = i then byo x (8 * n) else t i) < 256
        rw [if_pos rfl]; exact ⟨rfl, byo_lt _ _⟩
      · rw [sD_ne (by decide), sD_nb hil]
        show D 489 i = (((if i = l then byo x (8 * n) else t i) : Nat) : Int) ∧ (if i = l then byo x (8 * n) else t i) < 256
        rw [if_neg hil]; exact h.2.2 i (by omega)⟩ (by omega)
    refine ⟨D', ?_, by rw [show l + (n + 1) = l + 1 + n by omega]; exact r, fun c h1 h2 => by rw [f c h1 h2, sD_ne h1, sD_ne h2], fun j hj => by rw [g j hj, sD_nb hj, sD_ne (by decide)]⟩
    rw [vM_come_3, if_neg (by omega), vM_come_7, mGF m488, mGF m488, hD, h.1, mr1, mIS m489, if_pos (by omega), Int.toNat_natCast, show (8 * ((n + 1 : Nat) : Int) - 8) = ((8 * n : Nat) : Int) by omega, byo_eq x (show 8 * n < 32 by omega), mGF m488, mGF m488, hD, e1, aLt, hwD, w32_s (by omega), show w32 (((8 * n : Nat) : Int) + (-8)) = 8 * (n : Int) - 8 from by unfold w32; omega]
    exact q
theorem mcome (x : Int) {l : Nat} {t : Nat → Nat} (h : MTA D l t) (hl : l + 4 ≤ 540) : ∃ D', Vl d 187 0 [some (.inr (.inr (some 488))), some (.inl x), none] [] (hp (1, ρ) D) = some ((0, none), hp (1, ρ) D') ∧ MTA D' (l + 4) (tbn x 4 t l) ∧ (∀ c, c ≠ 488 → c ≠ 489 → D' c = D c) ∧ ∀ j, j ≠ 2 → D' 488 j = D 488 j := by
  have := mcome_loop (ρ := ρ) (d := d) x 4 l t D (by decide) h hl
  rw [vM_come_0]
  exact this
theorem mfeed_op (h : MS D A) (a b c e f : Int) : MO ρ D (oFeed A a b c e f).2 (oFeed A a b c e f).1 (Vl (d + 1) 186 0 [some (.inr (.inr (some 488))), some (.inl a), some (.inl b), some (.inl c), some (.inl e), some (.inl f)] [] (hp (1, ρ) D)) := by
  have h0 := MS_0 h 0
  have e2 : sD D 488 0 0 488 2 = (Al A : Int) := h0.1.1
  have hl := h.1.2.1
  unfold oFeed
  rw [vM_feed_0, mGF m488, aLt, hwD, mGF m488, hD, e2, show w32 ((Al A : Int) + 20) = (Al A : Int) + 20 from by unfold w32; omega]
  by_cases h1 : 540 < Al A + 20
  · rw [if_pos h1, if_pos (by omega), vM_feed_18]
    exact ⟨_, rfl, h0, sD_eq, fun q hq => sD_ne (by omega)⟩
  rw [if_neg h1, if_neg (by omega)]
  obtain ⟨D1, q1, t1, f1, g1⟩ := mcome (d := d) (ρ := ρ) a h0.1 (by omega)
  obtain ⟨D2, q2, t2, f2, g2⟩ := mcome (d := d) (ρ := ρ) b t1 (by omega)
  obtain ⟨D3, q3, t3, f3, g3⟩ := mcome (d := d) (ρ := ρ) c t2 (by omega)
  obtain ⟨D4, q4, t4, f4, g4⟩ := mcome (d := d) (ρ := ρ) e t3 (by omega)
  obtain ⟨D5, q5, t5, f5, g5⟩ := mcome (d := d) (ρ := ρ) f t4 (by omega)
  have gg : ∀ j, j ≠ 2 → D5 488 j = sD D 488 0 0 488 j := fun j hj => by rw [g5 j hj, g4 j hj, g3 j hj, g2 j hj, g1 j hj]
  have ff : ∀ c, c ≠ 488 → c ≠ 489 → D5 c = sD D 488 0 0 c := fun c z1 z2 => by rw [f5 c z1 z2, f4 c z1 z2, f3 c z1 z2, f2 c z1 z2, f1 c z1 z2]
  refine ⟨D5, ?_, MS_tape h0 t5 (fun c hc hne => ff c (by unfold mK at hc; omega) hne) (gg 37 (by decide)) (gg 69 (by decide)), by rw [gg 0 (by decide)]; exact sD_eq, fun q hq => by rw [ff q (by omega) (by omega), sD_ne (by omega)]⟩
  rw [vM_feed_20, mGF m488, q1, aVC, tlN, vM_feed_25, mGF m488, q2, aVC, tlN, vM_feed_30, mGF m488, q3, aVC, tlN, vM_feed_35, mGF m488, q4, aVC, tlN, vM_feed_41, mGF m488, q5, aVC, tlN, vM_feed_47, mGF m488, hD, t5.1]
theorem mendT_op (h : MS D A) (n : Int) : MO ρ D (oEnd A n).2 (oEnd A n).1 (Vl d 188 0 [some (.inr (.inr (some 488))), some (.inl n)] [] (hp (1, ρ) D)) := by
  have h0 := MS_0 h 0
  have e2 : sD D 488 0 0 488 2 = (Al A : Int) := h0.1.1
  unfold oEnd
  rw [vM_end_0, mGF m488, aLt, hwD]
  by_cases h1 : n < 0
  · rw [if_pos h1, if_pos (Or.inl h1), vM_end_17, aZ0]
    exact ⟨_, rfl, h0, sD_eq, fun q hq => sD_ne (by omega)⟩
  rw [if_neg h1, vM_end_9, mGF m488, hD, e2]
  by_cases h2 : (Al A : Int) < n
  · rw [if_pos h2, if_pos (Or.inr h2), vM_end_17, aZ0]
    exact ⟨_, rfl, h0, sD_eq, fun q hq => sD_ne (by omega)⟩
  rw [if_neg h2, if_neg (fun z => z.elim h1 h2), vM_end_19, mGF m488, aLt, hwD, aZ1]
  obtain ⟨x, rfl⟩ := Int.eq_ofNat_of_zero_le (show 0 ≤ n by omega)
  rw [Int.toNat_natCast]
  refine ⟨_, rfl, MS_tape h0 ⟨sD_eq, by have := h.1.2.1; omega, fun i hi => by rw [sD_ne (by decide)]; exact h0.1.2.2 i (by omega)⟩ (fun c hc _ => sD_ne (by unfold mK at hc; omega)) (sD_nb (by decide)) (sD_nb (by decide)), by rw [sD_nb (by decide)]; exact sD_eq, fun q hq => by rw [sD_ne (by omega), sD_ne (by omega)]⟩
theorem mtimes_op (h : MS D A) (a b : Int) : MO ρ D A (oTimes A a b) (Vl (d + 2) 189 0 [some (.inr (.inr (some 488))), some (.inl a), some (.inl b)] [] (hp (1, ρ) D)) := by
  have hF := mB_MF h
  unfold oTimes
  rw [vM_times_0, mGF m488, mbegin h, aVC, tlN, vM_times_4, mGF m488, misNum hF, aVC, tlS, vM_times_9]
  by_cases h1 : 0 ≤ a ∧ a < ((2 ^ (aF A).1 : Nat) : Int)
  rotate_left
  · rw [if_neg h1, if_pos j00, vM_times_29, vM_times_30, if_neg (fun z => h1 z.1)]
    exact MO_mB h rfl
  rw [if_pos h1, if_neg j10, vM_times_12, mGF m488, misNum hF, aVC, tlS, vM_times_17]
  by_cases h2 : 0 ≤ b ∧ b < ((2 ^ (aF A).1 : Nat) : Int)
  rotate_left
  · rw [if_neg h2, if_pos j00, vM_times_29, vM_times_30, if_neg (fun z => h2 z.2)]
    exact MO_mB h rfl
  obtain ⟨x, rfl⟩ := Int.eq_ofNat_of_zero_le h1.1
  obtain ⟨y, rfl⟩ := Int.eq_ofNat_of_zero_le h2.1
  rw [if_pos h2, if_neg j10, vM_times_20, mGF m488, mmul hF (by omega) (by omega), aVC, tlS, vM_times_26, vM_times_30, if_pos ⟨h1, h2⟩, Int.toNat_natCast, Int.toNat_natCast]
  exact MO_mB h rfl
theorem mturned_op (h : MS D A) (a k : Int) : MO ρ D A (oTurned A a k) (Vl (d + 2) 194 0 [some (.inr (.inr (some 488))), some (.inl a), some (.inl k)] [] (hp (1, ρ) D)) := by
  have hF := mB_MF h
  unfold oTurned
  rw [vM_turned_0, mGF m488, mbegin h, aVC, tlN, vM_turned_4, mGF m488, misNum hF, aVC, tlS, vM_turned_9]
  by_cases h1 : 0 ≤ a ∧ a < ((2 ^ (aF A).1 : Nat) : Int)
  rotate_left
  · rw [if_neg h1, if_pos j00, vM_turned_31, vM_turned_32, if_neg (fun z => h1 z.1)]
    exact MO_mB h rfl
  rw [if_pos h1, if_neg j10, vM_turned_12, misIn, aVC, tlS, vM_turned_19]
  by_cases h2 : 0 ≤ k ∧ k ≤ 99
  rotate_left
  · rw [if_neg h2, if_pos j00, vM_turned_31, vM_turned_32, if_neg (fun z => h2 z.2)]
    exact MO_mB h rfl
  obtain ⟨x, rfl⟩ := Int.eq_ofNat_of_zero_le h1.1
  obtain ⟨y, rfl⟩ := Int.eq_ofNat_of_zero_le h2.1
  rw [if_pos h2, if_neg j10, vM_turned_22, mGF m488, mturn hF (by omega) (by omega), aVC, tlS, vM_turned_28, vM_turned_32, if_pos ⟨h1, h2⟩, Int.toNat_natCast, Int.toNat_natCast]
  exact MO_mB h rfl
theorem mslope_op (h : MS D A) (a : Int) : MO ρ D A (oSlope A a) (Vl (d + 3) 197 0 [some (.inr (.inr (some 488))), some (.inl a)] [] (hp (1, ρ) D)) := by
  have hF := mB_MF h
  unfold oSlope
  rw [vM_slope_0, mGF m488, mbegin h, aVC, tlN, vM_slope_4, mGF m488, misNum hF, aVC, tlS, vM_slope_9]
  by_cases h1 : 0 ≤ a ∧ a < ((2 ^ (aF A).1 : Nat) : Int)
  rotate_left
  · rw [if_neg h1, if_neg h1, if_pos j00, vM_slope_20, vM_slope_21]
    exact MO_mB h rfl
  obtain ⟨x, rfl⟩ := Int.eq_ofNat_of_zero_le h1.1
  rw [if_pos h1, if_pos h1, if_neg j10, vM_slope_12, mGF m488, mslope hF (by omega), aVC, tlS, vM_slope_17, vM_slope_21, Int.toNat_natCast]
  exact MO_mB h rfl
theorem mfault_op (h : MS D A) : MO ρ D A (Af A) (Vl d 240 0 [some (.inr (.inr (some 488)))] [] (hp (1, ρ) D)) := by
  have h0 := MS_0 h 0
  have e37 : sD D 488 0 0 488 37 = Af A := h0.2.2.2.2.2.1
  rw [vM_fault_0, mGF m488, aLt, hwD, mGF m488, hD, e37]
  exact ⟨_, rfl, h0, sD_eq, fun q hq => sD_ne (by omega)⟩
theorem mtap_op (h : MS D A) (i : Int) : MO ρ D A (oTap A i) (Vl d 293 0 [some (.inr (.inr (some 488))), some (.inl i)] [] (hp (1, ρ) D)) := by
  have h0 := MS_0 h 0
  obtain ⟨-, -, -, -, -, -, g2, g3, g4⟩ := h0
  have g16 : Ag A ≤ 16 := g2
  unfold oTap
  rw [vM_tap_0, mGF m488, aLt, hwD]
  have no : MO ρ D A (-1) (Vl d 293 26 [some (.inr (.inr (some 488))), some (.inl i)] [] (hp (1, ρ) (sD D 488 0 0))) := by
    rw [vM_tap_26, vM_tap_27]
    exact ⟨_, rfl, MS_0 h 0, sD_eq, fun q hq => sD_ne (by omega)⟩
  by_cases h1 : 0 < i
  rotate_left
  · rw [if_neg h1, if_neg (by omega)]; exact no
  rw [if_pos h1, vM_tap_9, mGF m488, hD, g3]
  by_cases h2 : (Ag A : Int) < i
  · rw [if_pos h2, if_neg (by omega)]; exact no
  obtain ⟨x, rfl⟩ := Int.eq_ofNat_of_zero_le (show 0 ≤ i by omega)
  rw [if_neg h2, if_pos (by omega), Int.toNat_natCast, vM_tap_17, mGF m488, mr68, mIA m537, if_pos (by omega), Int.toNat_natCast, g4 x (by omega) (by omega), vM_tap_27]
  exact ⟨_, rfl, MS_0 h 0, sD_eq, fun q hq => sD_ne (by omega)⟩
theorem mdegree_op (h : MS D A) (i : Int) : MOx ρ D A (oDegree A i) (Vl (d + 2) 241 0 [some (.inr (.inr (some 488))), some (.inl i)] [] (hp (1, ρ) D)) := by
  have hB := mB_MS h
  unfold oDegree
  rw [vM_degree_0, mGF m488, mbegin h, aVC, tlN, vM_degree_4, mGF m488, misName hB, aVC, tlS, vM_degree_9]
  by_cases h1 : aN A i
  · rw [if_pos h1, if_pos h1, if_neg j10, vM_degree_17, mGF m488, mGF m488, mr28, mtake hB h1 m511 (by decide), aVC, tlN, vM_degree_26, mGF m488, mr28, mdeg m511 (by decide) pD_PR, aVC, tlS, vM_degree_33]
    exact ⟨_, rfl, MS_sc hB (fun c hc => pD_ne (by unfold mK at hc; omega)), by rw [pD_ne (by decide)]; exact mB_0, fun q hq => by rw [pD_ne (by omega), mB_ne (by omega)]⟩
  · rw [if_neg h1, if_neg h1, if_pos j00, vM_degree_12, mGF m488, vM_refuse_0, mGF m488, aLt, hwD, aVC, tlS, vM_degree_16]
    exact ⟨_, rfl, MS_0 hB 1, sD_eq, fun q hq => by rw [sD_ne (by omega), mB_ne (by omega)]⟩
theorem mat_op (h : MS D A) (i j : Int) (hj9 : j < 2147483648) : MOx ρ D A (oAt A i j) (Vl (d + 2) 245 0 [some (.inr (.inr (some 488))), some (.inl i), some (.inl j)] [] (hp (1, ρ) D)) := by
  have hB := mB_MS h
  unfold oAt
  have no : MOx ρ D A none (Vl (d + 2) 245 16 [some (.inr (.inr (some 488))), some (.inl i), some (.inl j)] [] (hp (1, ρ) (mB D A))) := by
    rw [vM_at_16, mGF m488, vM_refuse_0, mGF m488, aLt, hwD, aVC, tlS, vM_at_20]
    exact ⟨_, rfl, MS_0 hB 1, sD_eq, fun q hq => by rw [sD_ne (by omega), mB_ne (by omega)]⟩
  rw [vM_at_0, mGF m488, mbegin h, aVC, tlN, vM_at_4, mGF m488, misName hB, aVC, tlS, vM_at_9]
  by_cases h1 : aN A i
  rotate_left
  · rw [if_neg h1, if_pos j00, if_neg (fun z => h1 z.1)]; exact no
  rw [if_pos h1, if_neg j10, vM_at_12]
  by_cases h2 : j < 0
  · rw [if_pos h2, if_neg (by omega)]; exact no
  obtain ⟨p1, p2, p3⟩ := MS_nm hB h1
  obtain ⟨x, rfl⟩ := Int.eq_ofNat_of_zero_le (show 0 ≤ j by omega)
  rw [if_neg h2, if_pos ⟨h1, by omega⟩, vM_at_21, Int.toNat_natCast]
  have ok : ∀ {run : Option jr}, run = some ((0, some (.inl (an A i x : Int))), hp (1, ρ) (mB D A)) → MOx ρ D A (some (an A i x : Int)) run := fun hr => ⟨_, hr, hB, mB_0, fun q hq => mB_ne (by omega)⟩
  by_cases h3 : 16 < x
  · rw [if_pos (by omega), vM_at_27, vM_at_45]
    exact ok (by rw [p2.2 x (by omega)]; rfl)
  · rw [if_neg (by omega), vM_at_31, mGF m488, mr3, show w32 (w32 (16 + w32 (17 * i)) + (x : Int)) = ((16 + 17 * i.toNat + x : Nat) : Int) from by
      have e : w32 (17 * i) = 17 * i := by unfold w32; omega
      rw [e]
      have e' : w32 (16 + 17 * i) = 16 + 17 * i := by unfold w32; omega
      rw [e']; unfold w32; omega, mIA m490, if_pos (by omega), Int.toNat_natCast, p1 x (by omega), vM_at_45]
    exact ok rfl
theorem mresult_op (h : MS D A) (k j : Int) (hj9 : j < 2147483648) : MOx ρ D A (oResult A k j) (Vl (d + 2) 252 0 [some (.inr (.inr (some 488))), some (.inl k), some (.inl j)] [] (hp (1, ρ) D)) := by
  have hB := mB_MS h
  unfold oResult
  have no : MOx ρ D A none (Vl (d + 2) 252 17 [some (.inr (.inr (some 488))), some (.inl k), some (.inl j)] [] (hp (1, ρ) (mB D A))) := by
    rw [vM_result_17, mGF m488, vM_refuse_0, mGF m488, aLt, hwD, aVC, tlS, vM_result_21]
    exact ⟨_, rfl, MS_0 hB 1, sD_eq, fun q hq => by rw [sD_ne (by omega), mB_ne (by omega)]⟩
  rw [vM_result_0, mGF m488, mbegin h, aVC, tlN, vM_result_4, misIn, aVC, tlS, vM_result_10]
  by_cases h1 : 0 ≤ k ∧ k ≤ 3
  rotate_left
  · rw [if_neg h1, if_pos j00, if_neg (by omega)]; exact no
  rw [if_pos h1, if_neg j10, vM_result_13]
  by_cases h2 : j < 0
  · rw [if_pos h2, if_neg (by omega)]; exact no
  obtain ⟨x, rfl⟩ := Int.eq_ofNat_of_zero_le (show 0 ≤ j by omega)
  obtain ⟨y, rfl⟩ := Int.eq_ofNat_of_zero_le h1.1
  obtain ⟨p1, p2⟩ := hB.2.2.2.2.1 y (by omega)
  rw [if_neg h2, if_pos (by omega), vM_result_22, Int.toNat_natCast, Int.toNat_natCast]
  have ok : ∀ {run : Option jr}, run = some ((0, some (.inl (Ar A y x : Int))), hp (1, ρ) (mB D A)) → MOx ρ D A (some (Ar A y x : Int)) run := fun hr => ⟨_, hr, hB, mB_0, fun q hq => mB_ne (by omega)⟩
  by_cases h3 : 16 < x
  · rw [if_pos (by omega), vM_result_28, vM_result_43]
    exact ok (by rw [p1.2 x (by omega)]; rfl)
  · rw [if_neg (by omega), vM_result_32, mGF m488, mr47, show w32 (w32 (17 * (y : Int)) + (x : Int)) = ((17 * y + x : Nat) : Int) from by
      have e : w32 (17 * (y : Int)) = 17 * (y : Int) := by unfold w32; omega
      rw [e]; unfold w32; omega, mIA m518, if_pos (by omega), Int.toNat_natCast, p2 x (by omega), vM_result_43]
    exact ok rfl
theorem mresultDegree_op (h : MS D A) (k : Int) : MO ρ D A (oResultDegree A k) (Vl (d + 2) 253 0 [some (.inr (.inr (some 488))), some (.inl k)] [] (hp (1, ρ) D)) := by
  have hB := mB_MS h
  unfold oResultDegree
  rw [vM_resultDegree_0, mGF m488, mbegin h, aVC, tlN, vM_resultDegree_4, misIn, aVC, tlS, vM_resultDegree_10]
  by_cases h1 : 0 ≤ k ∧ k ≤ 3
  rotate_left
  · rw [if_neg h1, if_pos j00, vM_resultDegree_13, if_neg (by omega)]
    exact MO_mB h rfl
  obtain ⟨y, rfl⟩ := Int.eq_ofNat_of_zero_le h1.1
  obtain ⟨p1, p2⟩ := hB.2.2.2.2.1 y (by omega)
  have q1 := mcopy (d := d + 1) (ρ := ρ) (a := 17 * y) (b := 0) m518 m511 (by omega) (by decide) (by decide) (Or.inl (by decide)) p2
  rw [pOn_pD] at q1
  rw [if_pos h1, if_neg j10, if_pos (by omega), vM_resultDegree_16, mGF m488, mGF m488, mr47, mr28, show w32 (17 * (y : Int)) = ((17 * y : Nat) : Int) from by unfold w32; omega, show (0 : Int) = ((0 : Nat) : Int) from rfl, q1, aVC, tlN, vM_resultDegree_32, mGF m488, mr28, mdeg m511 (by decide) pD_PR, aVC, tlS, vM_resultDegree_39, Int.toNat_natCast]
  exact MO_sc h rfl (fun q hq => pD_ne (by unfold mK at hq; omega))
theorem mlr_loop : ∀ (n a b : Nat) (u : Option jv), b < n → a < 1000 → b < 1000 → ∃ u', Vl d 279 19 [some (.inr (.inr (some 488))), some (.inl (a : Int)), some (.inl (b : Int)), u] [] (hp (1, ρ) D) = Vl d 279 34 [some (.inr (.inr (some 488))), some (.inl (mlr n a b : Int)), some (.inl 0), u'] [] (hp (1, ρ) D)
  | 0, a, b, u, h, _, _ => absurd h (Nat.not_lt_zero _)
  | n + 1, a, b, u, h, ha, hb => by
    unfold mlr
    by_cases h0 : b = 0
    · subst h0
      exact ⟨u, by rw [vM_round_19, if_neg (by omega), if_pos rfl]; rfl⟩
    · have hm := Nat.mod_lt a (show 0 < b by omega)
      have e : (a : Int).tmod (b : Int) = ((a % b : Nat) : Int) := by rw [Int.tmod_eq_emod_of_nonneg (by omega)]; omega
      obtain ⟨u', hu⟩ := mlr_loop n b (a % b) (some (.inl ((a % b : Nat) : Int))) (by omega) hb (by omega)
      refine ⟨u', ?_⟩
      rw [vM_round_19, if_pos (by omega), vM_round_23, if_neg (by omega), e, if_neg h0]
      exact hu
theorem mlr_rdn : ∀ m, m < 9 → 1 ≤ m → ∀ s, s < m → s ≠ 0 → mlr 9 m s ≠ 0 ∧ m / mlr 9 m s = rdn m s := by decide +kernel
theorem rdn_s0 : ∀ m, m < 9 → 1 ≤ m → rdn m 0 = 1 := by decide +kernel
theorem mround (hF : MF Φ D) : Vl d 279 0 [some (.inr (.inr (some 488))), none, none, none] [] (hp (1, ρ) D) = some ((0, some (.inl (rd Φ : Int))), hp (1, ρ) D) := by
  have m1 := F_m1 hF.1
  have m8 := F_m8 hF.1
  have hs := hF.1.2.1
  rw [vM_round_0, mGF m488, hD, hF.2.2.2.1]
  by_cases h0 : Φ.2.2.1 = 0
  · have e1 : rd Φ = 1 := by
      show rdn Φ.1 Φ.2.2.1 = 1
      rw [h0]; exact rdn_s0 Φ.1 (by omega) m1
    rw [if_pos (by omega), vM_round_7, e1]; rfl
  · obtain ⟨e1, e2⟩ := mlr_rdn Φ.1 (by omega) m1 Φ.2.2.1 hs h0
    obtain ⟨u', hu⟩ := mlr_loop (d := d) (ρ := ρ) (D := D) 9 Φ.1 Φ.2.2.1 none (by omega) (by omega) (by omega)
    rw [if_neg (by omega), vM_round_9, mGF m488, mGF m488, hD, hD, hF.2.1, hF.2.2.2.1, hu, vM_round_34, mGF m488, hD, hF.2.1, if_neg (by omega)]
    have e3 : (Φ.1 : Int).tdiv (mlr 9 Φ.1 Φ.2.2.1 : Int) = ((Φ.1 / mlr 9 Φ.1 Φ.2.2.1 : Nat) : Int) := by rw [Int.tdiv_eq_ediv_of_nonneg (by omega)]; rfl
    rw [e3, e2, w32_n (by have := rd_b hF.1; unfold rd at this; omega)]
theorem mcount_op (h : MS D A) (w : Int) : MO ρ D A (oCount A w) (Vl (d + 2) 296 0 [some (.inr (.inr (some 488))), some (.inl w)] [] (hp (1, ρ) D)) := by
  have hB := mB_MS h
  have hF := mB_MF h
  have t4 : mB D A 490 4 = (tN (AT A) : Int) := hB.2.2.1.2.1
  have t5 : mB D A 490 5 = (tP (AT A) : Int) := hB.2.2.1.2.2.1
  have t6 : mB D A 490 6 = (tU (AT A) : Int) := hB.2.2.1.2.2.2.1
  have ok : ∀ {x : Int} {run : Option jr}, run = some ((0, some (.inl x)), hp (1, ρ) (mB D A)) → MO ρ D A x run := fun hr => MO_mB h hr
  unfold oCount
  rw [vM_count_0, mGF m488, mbegin h, aVC, tlN, vM_count_4]
  by_cases h0 : w = 0
  · subst h0
    rw [if_pos rfl]
    refine ok ?_
    show Vl (d + 2) 296 56 _ [] _ = _
    rw [vM_count_56, mGF m488, hD, hF.2.1]
  rw [if_neg h0]
  by_cases h1 : w = 1
  · subst h1
    rw [if_pos rfl]
    refine ok ?_
    show Vl (d + 2) 296 61 _ [] _ = _
    rw [vM_count_61, mGF m488, hD, hF.2.2.1]
  rw [if_neg h1]
  by_cases h2 : w = 2
  · subst h2
    rw [if_pos rfl]
    refine ok ?_
    show Vl (d + 2) 296 66 _ [] _ = _
    rw [vM_count_66, mGF m488, hD, hF.2.2.2.1]
  rw [if_neg h2]
  by_cases h3 : w = 3
  · subst h3
    rw [if_pos rfl]
    refine ok ?_
    show Vl (d + 2) 296 71 _ [] _ = _
    rw [vM_count_71, mGF m488, hD, hF.2.2.2.2]
  rw [if_neg h3]
  by_cases h4 : w = 4
  · subst h4
    rw [if_pos rfl]
    refine ok ?_
    show Vl (d + 2) 296 76 _ [] _ = _
    rw [vM_count_76, mGF m488, mround hF, aVC, tlS, vM_count_80]
  rw [if_neg h4]
  by_cases h5 : w = 5
  · subst h5
    rw [if_pos rfl]
    refine ok ?_
    show Vl (d + 2) 296 81 _ [] _ = _
    rw [vM_count_81, mGF m488, mr3, mIA m490, if_pos (by decide), show (4 : Int).toNat = 4 from rfl, t4]
  rw [if_neg h5]
  by_cases h6 : w = 6
  · subst h6
    rw [if_pos rfl]
    refine ok ?_
    show Vl (d + 2) 296 88 _ [] _ = _
    rw [vM_count_88, mGF m488, mr3, mIA m490, if_pos (by decide), show (5 : Int).toNat = 5 from rfl, t5]
  rw [if_neg h6]
  by_cases h7 : w = 7
  · subst h7
    rw [if_pos rfl]
    refine ok ?_
    show Vl (d + 2) 296 95 _ [] _ = _
    rw [vM_count_95, mGF m488, mr3, mIA m490, if_pos (by decide), show (6 : Int).toNat = 6 from rfl, t6]
  rw [if_neg h7]
  by_cases h8 : w = 8
  · subst h8
    rw [if_pos rfl]
    refine ok ?_
    show Vl (d + 2) 296 103 _ [] _ = _
    rw [vM_count_103, mGF m488, hD, hB.1.1]
  rw [if_neg h8]
  have e : jsw [56, 61, 66, 71, 76, 81, 88, 95, 103] 108 0 8 w = 108 := by
    unfold jsw
    by_cases q1 : w < 0
    · rw [if_pos q1]
    · rw [if_neg q1, if_pos (by omega)]
  rw [e]
  refine ok ?_
  rw [vM_count_108]
end MOPS4
