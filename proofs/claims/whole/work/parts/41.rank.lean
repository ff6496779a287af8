/-! RANKS, POINTS, LEAST in the class -/
def rkA : Nat → Nat → (Nat → Nat) → Bool × (Nat → Nat)
  | 0, _, pv => (false, pv)
  | b + 1, l, pv => if l / 2 ^ b % 2 = 1 then (if pv b = 0 then (true, fun q => if q = b then l else pv q) else rkA b (l ^^^ pv b) pv) else rkA b l pv
def rkL (t : Nat → Nat) : Nat → Nat → (Nat → Nat) → Nat
  | 0, _, _ => 0
  | n + 1, i, pv => (if (rkA 8 (t i) pv).1 = true then 1 else 0) + rkL t n (i + 1) (rkA 8 (t i) pv).2
/-- the rank of n numbers from i on -/
def rkn (t : Nat → Nat) (i n : Nat) : Nat := rkL t n i (fun _ => 0)
def allN (A : aA) (i n : Nat) : Bool := hAll (rI (At A)) ((2 ^ (aF A).1 : Nat) : Int) i n
def oRank (A : aA) : Int × aA := (if (1 ≤ Al A ∧ Al A ≤ 16) ∧ allN A 0 (Al A) = true then (rkn (At A) 0 (Al A) : Int) else -1, aTape A 0 (At A))
def oPoints (A : aA) : Int × aA := if (1 ≤ Al A ∧ Al A ≤ 8) ∧ allN A 0 (Al A) = true then ((rkn (At A) 0 (Al A) : Int), aNow (aTape A 0 (At A)) (tPts (AT A) (Al A) (At A))) else (-1, aTape A 0 (At A))
def lsl (Φ : gF) (t : Nat → Nat) : Nat → Nat → pl → pl
  | 0, _, F => F
  | n + 1, i, F => lsl Φ t n (i + 1) (tkn Φ F (t i))
def oLeast (A : aA) : Int × aA := if Al A ≤ 16 ∧ allN A 0 (Al A) = true then ((sz (lsl (aF A) (At A) (Al A) 0 (mono 1 0)) : Int) - 1, aRes (aTape A 0 (At A)) (rset (Ar A) 0 (lsl (aF A) (At A) (Al A) 0 (mono 1 0)))) else (-2, aTape A 0 (At A))
theorem rkA_8 : ∀ (b l : Nat) (pv : Nat → Nat), l < 256 → (∀ q, q < 8 → pv q < 256) → b ≤ 8 → ∀ q, q < 8 → (rkA b l pv).2 q < 256
  | 0, l, pv, _, hp, _, q, hq => hp q hq
  | b + 1, l, pv, hl, hp, hb, q, hq => by
    unfold rkA
    split
    · split
      · dsimp only
        split
        · exact hl
        · exact hp q hq
      · exact rkA_8 b _ pv (x_lt (n := 8) hl (hp b (by omega))) hp (by omega) q hq
    · exact rkA_8 b l pv hl hp (by omega) q hq
def PV (D : jD) (pv : Nat → Nat) : Prop := ∀ q, q < 8 → D 304 q = (pv q : Int) ∧ pv q < 256
section RANK
variable {ω : jw} {D : jD} {d : Nat} {A : aA}
theorem clearPivots_spec : ∃ D', Vl d 150 0 [some (.inr (.inr (some 302))), none] [] (hp ω D) = some ((0, none), hp ω D') ∧ PV D' (fun _ => 0) ∧ ∀ q, q ≠ 304 → D' q = D q := by
  have ch := chain (fun j => Vl d 150 2 [some (.inr (.inr (some 302))), some (.inl (j : Int))] [] (hp ω (pDn D 304 j (fun _ => 0)))) 8 (fun j hj => by
    rw [vS_clearPivots_2, if_pos (by omega), vS_clearPivots_8, aGF kS, rS_1, aIS kS_1, if_pos (by omega), Int.toNat_natCast, w32_s (by omega), pDn_s rfl])
  rw [pDn_0, show ((0 : Nat) : Int) = 0 from rfl] at ch
  refine ⟨pDn D 304 8 (fun _ => 0), ?_, fun q hq => ⟨by rw [pDn_lt hq]; rfl, by show (0 : Nat) < 256; decide⟩, fun q hq => pDn_ne hq⟩
  rw [vS_clearPivots_0, ch, vS_clearPivots_2, if_neg (by decide), vS_clearPivots_21]
theorem addsRank_loop (x1 : Int) : ∀ (b l : Nat) (pv : Nat → Nat) (D : jD), b ≤ 8 → l < 256 → PV D pv → ∃ D', Vl d 151 5 [some (.inr (.inr (some 302))), some (.inl x1), some (.inl (l : Int)), some (.inl ((b : Int) - 1))] [] (hp ω D) = some ((0, some (.inl (if (rkA b l pv).1 = true then 1 else 0))), hp ω D') ∧ PV D' (rkA b l pv).2 ∧ ∀ q, q ≠ 304 → D' q = D q
  | 0, l, pv, D, _, _, hp => ⟨D, by rw [vS_addsRank_5, if_pos (by omega), vS_addsRank_51]; rfl, hp, fun _ _ => rfl⟩
  | b + 1, l, pv, D, hb, hl, hp => by
    have hpb := hp b (by omega)
    rw [vS_addsRank_5, if_neg (by omega), vS_addsRank_9, show ((b + 1 : Nat) : Int) - 1 = (b : Int) by omega, jush_n (by omega) (by omega), jand_1 (Nat.lt_of_le_of_lt (Nat.div_le_self _ _) (by omega))]
    unfold rkA
    by_cases h1 : l / 2 ^ b % 2 = 1
    · rw [if_pos (by omega), if_pos h1, vS_addsRank_18, aGF kS, rS_1, aIA kS_1, if_pos (by omega), Int.toNat_natCast, hpb.1]
      by_cases h2 : pv b = 0
      · rw [if_pos (by omega), if_pos h2, vS_addsRank_27, aGF kS, rS_1, aIS kS_1, if_pos (by omega), Int.toNat_natCast]
        refine ⟨_, rfl, fun q hq => ?_, fun q hq => sD_ne hq⟩
        dsimp only
        by_cases e : q = b
        · rw [e, sD_eq, if_pos rfl]; exact ⟨rfl, hl⟩
        · rw [sD_nb e, if_neg e]; exact hp q hq
      · rw [if_neg (by omega), if_neg h2, vS_addsRank_36, aGF kS, rS_1, aIA kS_1, if_pos (by omega), Int.toNat_natCast, hpb.1, jxor_n (by omega) (by omega), vS_addsRank_45, show w32 ((b : Int) + (-1)) = (b : Int) - 1 by unfold w32; omega]
        exact addsRank_loop x1 b _ pv D (by omega) (x_lt (n := 8) hl hpb.2) hp
    · rw [if_neg (by omega), if_neg h1, vS_addsRank_45, show w32 ((b : Int) + (-1)) = (b : Int) - 1 by unfold w32; omega]
      exact addsRank_loop x1 b l pv D (by omega) hl hp
theorem addsRank_spec {l : Nat} (hl : l < 256) {pv : Nat → Nat} (hpv : PV D pv) : ∃ D', Vl d 151 0 [some (.inr (.inr (some 302))), some (.inl (l : Int)), none, none] [] (hp ω D) = some ((0, some (.inl (if (rkA 8 l pv).1 = true then 1 else 0))), hp ω D') ∧ PV D' (rkA 8 l pv).2 ∧ ∀ q, q ≠ 304 → D' q = D q := by
  have := addsRank_loop (ω := ω) (d := d) (l : Int) 8 l pv D (Nat.le_refl _) hl hpv
  rw [vS_addsRank_0]
  exact this
theorem rankOf_loop {c L : Nat} (hc : KL0[c]? = some (1, L)) (hc2 : c ≠ 304) {t : Nat → Nat} (x2 : Int) {e : Nat} (he : e ≤ L) (hL : L ≤ 4096) : ∀ (n i r : Nat) (pv : Nat → Nat) (D : jD), i + n = e → r ≤ i → (∀ q, i ≤ q → q < e → D c q = (t q : Int) ∧ t q < 256) → PV D pv → ∃ D', Vl (d + 1) 149 14 [some (.inr (.inr (some 302))), some (.inr (.inr (some c))), some (.inl x2), some (.inl (e : Int)), some (.inl (r : Int)), some (.inl (i : Int))] [] (hp ω D) = some ((0, some (.inl ((r + rkL t n i pv : Nat) : Int))), hp ω D') ∧ ∀ q, q ≠ 304 → D' q = D q
  | 0, i, r, pv, D, hi, hr, ht, hp => ⟨D, by rw [vS_rankOf_14, if_neg (by omega), vS_rankOf_54]; rfl, fun _ _ => rfl⟩
  | n + 1, i, r, pv, D, hi, hr, ht, hp => by
    have hti := ht i (Nat.le_refl _) (by omega)
    obtain ⟨D1, q1, p1, f1⟩ := addsRank_spec (ω := ω) (d := d) hti.2 hp
    obtain ⟨D2, q2, f2⟩ := rankOf_loop hc hc2 (t := t) x2 he hL n (i + 1) (r + (if (rkA 8 (t i) pv).1 = true then 1 else 0)) _ D1 (by omega) (by split <;> omega) (fun q h1 h2 => by rw [f1 c hc2]; exact ht q (by omega) h2) p1
    refine ⟨D2, ?_, fun q hq => by rw [f2 q hq, f1 q hq]⟩
    rw [vS_rankOf_14, if_pos (by omega), vS_rankOf_20, aLN hc, if_pos (by omega), vS_rankOf_27, aIA hc, if_pos (by omega), Int.toNat_natCast, hti.1, aGF kS, q1, aVC, tlS, vS_rankOf_37]
    unfold rkL
    rw [← Nat.add_assoc]
    by_cases hb : (rkA 8 (t i) pv).1 = true
    · rw [if_pos hb] at q2 ⊢
      rw [if_neg (by decide), vS_rankOf_40, vS_rankOf_45, show w32 ((r : Int) + 1) = ((r + 1 : Nat) : Int) from w32_s (by omega), w32_s (by omega), if_pos hb, q2]
    · rw [if_neg hb] at q2 ⊢
      rw [if_pos rfl, vS_rankOf_44, vS_rankOf_45, show w32 ((r : Int) + 0) = ((r + 0 : Nat) : Int) by unfold w32; omega, w32_s (by omega), if_neg hb, q2]
theorem rankOf_spec {c L : Nat} (hc : KL0[c]? = some (1, L)) (hc2 : c ≠ 304) {t : Nat → Nat} {i n : Nat} (he : i + n ≤ L) (hL : L ≤ 4096) (ht : ∀ q, i ≤ q → q < i + n → D c q = (t q : Int) ∧ t q < 256) : ∃ D', Vl (d + 1) 149 0 [some (.inr (.inr (some 302))), some (.inr (.inr (some c))), some (.inl (i : Int)), some (.inl ((i + n : Nat) : Int)), none, none] [] (hp ω D) = some ((0, some (.inl (rkn t i n : Int))), hp ω D') ∧ ∀ q, q ≠ 304 → D' q = D q := by
  obtain ⟨D1, q1, p1, f1⟩ := clearPivots_spec (ω := ω) (D := D) (d := d)
  obtain ⟨D2, q2, f2⟩ := rankOf_loop (ω := ω) (d := d) hc hc2 (t := t) (i : Int) he hL n i 0 _ D1 rfl (Nat.zero_le _) (fun q h1 h2 => by rw [f1 c hc2]; exact ht q h1 h2) p1
  rw [show ((0 : Nat) : Int) = 0 from rfl, Nat.zero_add] at q2
  refine ⟨D2, ?_, fun q hq => by rw [f2 q hq, f1 q hq]⟩
  rw [vS_rankOf_0, aGF kS, q1, aVC, tlN, vS_rankOf_4, show (if (i : Int) < (0 : Int) then (0 : Int) else (i : Int)) = (i : Int) by split <;> omega, q2]
  rfl
theorem isWord_spec {n : Int} : Vl d 148 0 [some (.inl n)] [] (hp ω D) = some ((0, some (.inl (if 1 ≤ n ∧ n ≤ 16 then 1 else 0))), hp ω D) := by
  rw [vC_isWord_0]
  by_cases h1 : n < 1
  · rw [if_pos h1, vC_isWord_15, vC_isWord_16, if_neg (by omega)]; rfl
  rw [if_neg h1, vC_isWord_5]
  by_cases h2 : 16 < n
  · rw [if_pos h2, vC_isWord_15, vC_isWord_16, if_neg (by omega)]; rfl
  · rw [if_neg h2, vC_isWord_11, vC_isWord_16, if_pos (by omega)]; rfl
/-- all numbers of the tape from i on are the field's -/
theorem tapeAll (h : CS D A) {i e : Nat} (hi : i ≤ e) (he : e ≤ Al A) : Vl (d + 1) 98 0 [some (.inr (.inr (some 76))), some (.inr (.inr (some 2))), some (.inl (i : Int)), some (.inl (e : Int)), none] [] (hp ω D) = some ((0, some (.inl (if allN A i (e - i) = true then 1 else 0))), hp ω D) := by
  have hF : FT (aF A) D 76 := h.2.2.2.1
  have hl := h.1.2.1
  rw [hasAll_spec tF_76 hF kA_0 (by decide) (show e ≤ 540 by omega) hi]
  unfold allN
  rw [hAll_congr (r' := rI (At A)) _ (e - i) i (fun b h1 h2 => (h.1.2.2 b (by omega)).1)]
theorem CS_len0 (h : CS D A) : CS (sD D 1 1 0) (aTape A 0 (At A)) := CS_tape h ⟨sD_eq, by decide, fun i hi => absurd hi (Nat.not_lt_zero _)⟩ (fun c h1 _ => sD_ne h1)
theorem rank_op (h : CS D A) : ∃ D', Vl (d + 2) 147 0 [some (.inr (.inr (some 0))), none, none] [] (hp ω D) = some ((0, some (.inl (oRank A).1)), hp ω D') ∧ CS D' (oRank A).2 ∧ ∀ q, 488 ≤ q → D' q = D q := by
  have hl := h.1.2.1
  have h0 := CS_len0 h
  unfold oRank
  have st : Vl (d + 2) 147 0 [some (.inr (.inr (some 0))), none, none] [] (hp ω D) = Vl (d + 2) 147 12 [some (.inr (.inr (some 0))), some (.inl (Al A : Int)), none] [.inl (if 1 ≤ (Al A : Int) ∧ (Al A : Int) ≤ 16 then 1 else 0)] (hp ω D) := by
    simp only [vC_rank_0, aGF kC, rC_0, rC_1, rC_2, rC_3, rC_4, rC_5, rC_6, rC_7, rC_8, rC_9, rC_10, rC_11, rC_12, aGF kA, rA_0, aGF (kT tT_3), aGF (kK tK_75), aGF (kF tF_76), q75_0, q75_1, q75_2, q75_3, q75_4, q75_6, q75_7, q75_8, q75_9, q75_10, q75_11, q75_12, q75_13, q75_14, q75_15, q75_16, aGF (kP i67), aGF (kP i69), aGF (kP i71), aGF (kP i73), aGF (kP i363), aGF (kP i81), aGF (kP i83), aGF (kP i85), aGF (kP i87), aGF (kP i89), aGF (kP i91), aGF (kP i93), aGF (kP i95), aGF (kP i97), aGF (kP i99), aGF (kP i101), aGF (kP i103), aGF (kP i105), aGF (kP i107), aGF (kP i109)]
    rw [hD, h.1.1]
    simp only [isWord_spec, aVC, tlS, tlN, aLt, hwD]
  have fin : ∀ x : Int, Vl (d + 2) 147 42 [some (.inr (.inr (some 0))), some (.inl (Al A : Int)), none] [.inl x] (hp ω D) = if x = 0 then Vl (d + 2) 147 74 [some (.inr (.inr (some 0))), some (.inl (Al A : Int)), some (.inl x)] [] (hp ω (sD D 1 1 0)) else Vl (d + 2) 147 55 [some (.inr (.inr (some 0))), some (.inl (Al A : Int)), some (.inl x)] [] (hp ω (sD D 1 1 0)) := fun x => by
    simp only [vC_rank_42, aGF kC, rC_0, rC_1, rC_2, rC_3, rC_4, rC_5, rC_6, rC_7, rC_8, rC_9, rC_10, rC_11, rC_12, aGF kA, rA_0, aGF (kT tT_3), aGF (kK tK_75), aGF (kF tF_76), q75_0, q75_1, q75_2, q75_3, q75_4, q75_6, q75_7, q75_8, q75_9, q75_10, q75_11, q75_12, q75_13, q75_14, q75_15, q75_16, aGF (kP i67), aGF (kP i69), aGF (kP i71), aGF (kP i73), aGF (kP i363), aGF (kP i81), aGF (kP i83), aGF (kP i85), aGF (kP i87), aGF (kP i89), aGF (kP i91), aGF (kP i93), aGF (kP i95), aGF (kP i97), aGF (kP i99), aGF (kP i101), aGF (kP i103), aGF (kP i105), aGF (kP i107), aGF (kP i109), aVC, tlS, tlN, aLt, hwD]
  rw [st, vC_rank_12]
  by_cases h1 : 1 ≤ Al A ∧ Al A ≤ 16
  rotate_left
  · rw [if_neg (show ¬ (1 ≤ (Al A : Int) ∧ (Al A : Int) ≤ 16) by omega), if_pos rfl, vC_rank_41, fin, if_pos rfl, vC_rank_74, vC_rank_75, if_neg (fun q => h1 q.1)]
    exact ⟨_, rfl, h0, fun q hq => sD_ne (by omega)⟩
  have ta := tapeAll (ω := ω) (d := d) h (i := 0) (e := Al A) (by omega) (Nat.le_refl _)
  rw [show ((0 : Nat) : Int) = 0 from rfl, Nat.sub_zero] at ta
  rw [if_pos (show 1 ≤ (Al A : Int) ∧ (Al A : Int) ≤ 16 by omega), if_neg (by decide)]
  simp only [vC_rank_15, aGF kC, rC_0, rC_1, rC_2, rC_3, rC_4, rC_5, rC_6, rC_7, rC_8, rC_9, rC_10, rC_11, rC_12, aGF kA, rA_0, aGF (kT tT_3), aGF (kK tK_75), aGF (kF tF_76), q75_0, q75_1, q75_2, q75_3, q75_4, q75_6, q75_7, q75_8, q75_9, q75_10, q75_11, q75_12, q75_13, q75_14, q75_15, q75_16, aGF (kP i67), aGF (kP i69), aGF (kP i71), aGF (kP i73), aGF (kP i363), aGF (kP i81), aGF (kP i83), aGF (kP i85), aGF (kP i87), aGF (kP i89), aGF (kP i91), aGF (kP i93), aGF (kP i95), aGF (kP i97), aGF (kP i99), aGF (kP i101), aGF (kP i103), aGF (kP i105), aGF (kP i107), aGF (kP i109), ta, aVC, tlS, tlN, aLt, hwD]
  rw [vC_rank_34]
  by_cases h2 : allN A 0 (Al A) = true
  rotate_left
  · rw [if_neg h2, if_pos rfl, vC_rank_41, fin, if_pos rfl, vC_rank_74, vC_rank_75, if_neg (fun q => h2 q.2)]
    exact ⟨_, rfl, h0, fun q hq => sD_ne (by omega)⟩
  rw [if_pos h2, if_neg (by decide), vC_rank_37, fin, if_neg (by decide), if_pos ⟨h1, h2⟩]
  obtain ⟨D1, q1, f1⟩ := rankOf_spec (ω := ω) (D := sD D 1 1 0) (d := d) kA_0 (by decide) (t := At A) (i := 0) (n := Al A) (by omega) (by decide) (fun q _ hq => by rw [sD_ne (by decide)]; exact h.1.2.2 q (by omega))
  rw [Nat.zero_add, show ((0 : Nat) : Int) = 0 from rfl] at q1
  refine ⟨D1, ?_, CS_same h0 (fun c hc => f1 c (by unfold kept at hc; omega)), fun q hq => by rw [f1 q (by omega), sD_ne (by omega)]⟩
  simp only [vC_rank_55, aGF kC, rC_0, rC_1, rC_2, rC_3, rC_4, rC_5, rC_6, rC_7, rC_8, rC_9, rC_10, rC_11, rC_12, aGF kA, rA_0, aGF (kT tT_3), aGF (kK tK_75), aGF (kF tF_76), q75_0, q75_1, q75_2, q75_3, q75_4, q75_6, q75_7, q75_8, q75_9, q75_10, q75_11, q75_12, q75_13, q75_14, q75_15, q75_16, aGF (kP i67), aGF (kP i69), aGF (kP i71), aGF (kP i73), aGF (kP i363), aGF (kP i81), aGF (kP i83), aGF (kP i85), aGF (kP i87), aGF (kP i89), aGF (kP i91), aGF (kP i93), aGF (kP i95), aGF (kP i97), aGF (kP i99), aGF (kP i101), aGF (kP i103), aGF (kP i105), aGF (kP i107), aGF (kP i109), aGF kS, q1, aVC, tlS, tlN, aLt, hwD, vC_rank_71, vC_rank_75]
theorem points_op (h : CS D A) : ∃ D', Vl (d + 2) 157 0 [some (.inr (.inr (some 0))), none, none] [] (hp ω D) = some ((0, some (.inl (oPoints A).1)), hp ω D') ∧ CS D' (oPoints A).2 ∧ ∀ q, 488 ≤ q → D' q = D q := by
  have hl := h.1.2.1
  have h0 := CS_len0 h
  unfold oPoints
  have fin : ∀ x : Int, Vl (d + 2) 157 46 [some (.inr (.inr (some 0))), some (.inl (Al A : Int)), none] [.inl x] (hp ω D) = if x = 0 then Vl (d + 2) 157 59 [some (.inr (.inr (some 0))), some (.inl (Al A : Int)), some (.inl x)] [] (hp ω (sD D 1 1 0)) else Vl (d + 2) 157 61 [some (.inr (.inr (some 0))), some (.inl (Al A : Int)), some (.inl x)] [] (hp ω (sD D 1 1 0)) := fun x => by
    simp only [vC_points_46, aGF kC, rC_0, rC_1, rC_2, rC_3, rC_4, rC_5, rC_6, rC_7, rC_8, rC_9, rC_10, rC_11, rC_12, aGF kA, rA_0, aGF (kT tT_3), aGF (kK tK_75), aGF (kF tF_76), q75_0, q75_1, q75_2, q75_3, q75_4, q75_6, q75_7, q75_8, q75_9, q75_10, q75_11, q75_12, q75_13, q75_14, q75_15, q75_16, aGF (kP i67), aGF (kP i69), aGF (kP i71), aGF (kP i73), aGF (kP i363), aGF (kP i81), aGF (kP i83), aGF (kP i85), aGF (kP i87), aGF (kP i89), aGF (kP i91), aGF (kP i93), aGF (kP i95), aGF (kP i97), aGF (kP i99), aGF (kP i101), aGF (kP i103), aGF (kP i105), aGF (kP i107), aGF (kP i109), aVC, tlS, tlN, aLt, hwD]
  simp only [vC_points_0, aGF kC, rC_0, rC_1, rC_2, rC_3, rC_4, rC_5, rC_6, rC_7, rC_8, rC_9, rC_10, rC_11, rC_12, aGF kA, rA_0, aGF (kT tT_3), aGF (kK tK_75), aGF (kF tF_76), q75_0, q75_1, q75_2, q75_3, q75_4, q75_6, q75_7, q75_8, q75_9, q75_10, q75_11, q75_12, q75_13, q75_14, q75_15, q75_16, aGF (kP i67), aGF (kP i69), aGF (kP i71), aGF (kP i73), aGF (kP i363), aGF (kP i81), aGF (kP i83), aGF (kP i85), aGF (kP i87), aGF (kP i89), aGF (kP i91), aGF (kP i93), aGF (kP i95), aGF (kP i97), aGF (kP i99), aGF (kP i101), aGF (kP i103), aGF (kP i105), aGF (kP i107), aGF (kP i109)]
  rw [hD, h.1.1]
  by_cases h1 : (Al A : Int) < 1
  · rw [if_pos h1, vC_points_45, fin, if_pos rfl, vC_points_59, if_neg (by omega)]
    exact ⟨_, rfl, h0, fun q hq => sD_ne (by omega)⟩
  rw [if_neg h1, vC_points_13]
  by_cases h3 : 8 < (Al A : Int)
  · rw [if_pos h3, vC_points_45, fin, if_pos rfl, vC_points_59, if_neg (by omega)]
    exact ⟨_, rfl, h0, fun q hq => sD_ne (by omega)⟩
  have ta := tapeAll (ω := ω) (d := d) h (i := 0) (e := Al A) (by omega) (Nat.le_refl _)
  rw [show ((0 : Nat) : Int) = 0 from rfl, Nat.sub_zero] at ta
  rw [if_neg h3]
  simp only [vC_points_19, aGF kC, rC_0, rC_1, rC_2, rC_3, rC_4, rC_5, rC_6, rC_7, rC_8, rC_9, rC_10, rC_11, rC_12, aGF kA, rA_0, aGF (kT tT_3), aGF (kK tK_75), aGF (kF tF_76), q75_0, q75_1, q75_2, q75_3, q75_4, q75_6, q75_7, q75_8, q75_9, q75_10, q75_11, q75_12, q75_13, q75_14, q75_15, q75_16, aGF (kP i67), aGF (kP i69), aGF (kP i71), aGF (kP i73), aGF (kP i363), aGF (kP i81), aGF (kP i83), aGF (kP i85), aGF (kP i87), aGF (kP i89), aGF (kP i91), aGF (kP i93), aGF (kP i95), aGF (kP i97), aGF (kP i99), aGF (kP i101), aGF (kP i103), aGF (kP i105), aGF (kP i107), aGF (kP i109), ta, aVC, tlS, tlN, aLt, hwD]
  rw [vC_points_38]
  by_cases h2 : allN A 0 (Al A) = true
  rotate_left
  · rw [if_neg h2, if_pos rfl, vC_points_45, fin, if_pos rfl, vC_points_59, if_neg (fun q => h2 q.2)]
    exact ⟨_, rfl, h0, fun q hq => sD_ne (by omega)⟩
  rw [if_pos h2, if_neg (by decide), vC_points_41, fin, if_neg (by decide), if_pos ⟨⟨by omega, by omega⟩, h2⟩]
  obtain ⟨D1, q1, T1, f1⟩ := putPoints_spec (ω := ω) (D := sD D 1 1 0) (d := d + 1) tT_3 h0.2.1 h0.2.2.1 (n := Al A) kA_0 (Or.inl (by decide)) (by omega) (by omega) (by decide) (q := At A) (fun i hi => by rw [sD_ne (by decide)]; exact (h.1.2.2 i hi).1)
  have n1 := CS_now h0 (T := tPts (AT A) (Al A) (At A)) T1 (tPts_OK h.2.1 (by omega) (fun i hi => by
    have := (hAll_iff (Al A) 0).mp h2 i (by omega) (by omega)
    unfold rI at this
    have e : ((At A i : Nat) : Int) < ((2 ^ (tF (AT A)).1 : Nat) : Int) := this.2
    omega)) rfl (fun c hc => f1 c (by omega) (by omega))
  obtain ⟨D2, q2, f2⟩ := rankOf_spec (ω := ω) (D := D1) (d := d) kA_0 (by decide) (t := At A) (i := 0) (n := Al A) (by omega) (by decide) (fun q _ hq => by rw [f1 2 (by decide) (by decide), sD_ne (by decide)]; exact h.1.2.2 q (by omega))
  rw [Nat.zero_add, show ((0 : Nat) : Int) = 0 from rfl] at q2
  refine ⟨D2, ?_, CS_same n1 (fun c hc => f2 c (by unfold kept at hc; omega)), fun q hq => by rw [f2 q (by omega), f1 q (by omega) (by omega), sD_ne (by omega)]⟩
  simp only [vC_points_61, aGF kC, rC_0, rC_1, rC_2, rC_3, rC_4, rC_5, rC_6, rC_7, rC_8, rC_9, rC_10, rC_11, rC_12, aGF kA, rA_0, aGF (kT tT_3), aGF (kK tK_75), aGF (kF tF_76), q75_0, q75_1, q75_2, q75_3, q75_4, q75_6, q75_7, q75_8, q75_9, q75_10, q75_11, q75_12, q75_13, q75_14, q75_15, q75_16, aGF (kP i67), aGF (kP i69), aGF (kP i71), aGF (kP i73), aGF (kP i363), aGF (kP i81), aGF (kP i83), aGF (kP i85), aGF (kP i87), aGF (kP i89), aGF (kP i91), aGF (kP i93), aGF (kP i95), aGF (kP i97), aGF (kP i99), aGF (kP i101), aGF (kP i103), aGF (kP i105), aGF (kP i107), aGF (kP i109), q1, aVC, tlS, tlN, aLt, hwD, vC_points_76, aGF kS, q2, vC_points_92]
theorem least_loop (x1 : Int) : ∀ (n i : Nat) (F : pl) (D : jD), FT (aF A) D 76 → TA D (Al A) (At A) → i + n = Al A → Al A ≤ 16 → (∀ q, q < Al A → At A q < 2 ^ (aF A).1) → PR D 68 F → pOK (aF A) F → sz F ≤ i + 1 → ∃ D' u2, Vl (d + 4) 111 62 [some (.inr (.inr (some 0))), some (.inl x1), some (.inl (i : Int))] [] (hp ω D) = Vl (d + 4) 111 101 [some (.inr (.inr (some 0))), some (.inl x1), u2] [] (hp ω D') ∧ PR D' 68 (lsl (aF A) (At A) n i F) ∧ pOK (aF A) (lsl (aF A) (At A) n i F) ∧ ∀ q, (q < 92 ∨ 97 ≤ q) → q ≠ 68 → D' q = D q
  | 0, i, F, D, hF, hT, hi, h16, hq, RF, oF, hs => ⟨D, some (.inl (i : Int)), by
      simp only [vC_least_62, aGF kC, rC_0, rC_1, rC_2, rC_3, rC_4, rC_5, rC_6, rC_7, rC_8, rC_9, rC_10, rC_11, rC_12, aGF kA, rA_0, aGF (kT tT_3), aGF (kK tK_75), aGF (kF tF_76), q75_0, q75_1, q75_2, q75_3, q75_4, q75_6, q75_7, q75_8, q75_9, q75_10, q75_11, q75_12, q75_13, q75_14, q75_15, q75_16, aGF (kP i67), aGF (kP i69), aGF (kP i71), aGF (kP i73), aGF (kP i363), aGF (kP i81), aGF (kP i83), aGF (kP i85), aGF (kP i87), aGF (kP i89), aGF (kP i91), aGF (kP i93), aGF (kP i95), aGF (kP i97), aGF (kP i99), aGF (kP i101), aGF (kP i103), aGF (kP i105), aGF (kP i107), aGF (kP i109)]
      rw [hD, hT.1, if_neg (by omega)], RF, oF, fun _ _ _ => rfl⟩
  | n + 1, i, F, D, hF, hT, hi, h16, hq, RF, oF, hs => by
    have hti := hT.2.2 i (by omega)
    obtain ⟨D1, q1, R1, f1⟩ := takeIn_spec (ω := ω) (d := d) tK_75 hF i67 (by decide) (by decide) (by decide) RF oF (hq i (by omega)) (by omega)
    obtain ⟨o1, s1⟩ := tkn_OK hF.1 oF (a := At A i) (by omega)
    obtain ⟨D2, u2, q2, R2, o2, f2⟩ := least_loop x1 n (i + 1) _ D1 (FT_congr (fun c _ _ => f1 c (by omega) (by omega) (by omega) (by omega)) hF) ⟨by rw [f1 1 (by decide) (by decide) (by decide) (by decide)]; exact hT.1, hT.2.1, fun q hq2 => by rw [f1 2 (by decide) (by decide) (by decide) (by decide)]; exact hT.2.2 q hq2⟩ (by omega) h16 hq R1 o1 (by omega)
    refine ⟨D2, u2, ?_, R2, o2, fun q hq2 hq3 => by rw [f2 q hq2 hq3, f1 q (by omega) (by omega) (by omega) (by omega)]⟩
    simp only [vC_least_62, aGF kC, rC_0, rC_1, rC_2, rC_3, rC_4, rC_5, rC_6, rC_7, rC_8, rC_9, rC_10, rC_11, rC_12, aGF kA, rA_0, aGF (kT tT_3), aGF (kK tK_75), aGF (kF tF_76), q75_0, q75_1, q75_2, q75_3, q75_4, q75_6, q75_7, q75_8, q75_9, q75_10, q75_11, q75_12, q75_13, q75_14, q75_15, q75_16, aGF (kP i67), aGF (kP i69), aGF (kP i71), aGF (kP i73), aGF (kP i363), aGF (kP i81), aGF (kP i83), aGF (kP i85), aGF (kP i87), aGF (kP i89), aGF (kP i91), aGF (kP i93), aGF (kP i95), aGF (kP i97), aGF (kP i99), aGF (kP i101), aGF (kP i103), aGF (kP i105), aGF (kP i107), aGF (kP i109)]
    rw [hD, hT.1, if_pos (by omega)]
    simp only [vC_least_73, aGF kC, rC_0, rC_1, rC_2, rC_3, rC_4, rC_5, rC_6, rC_7, rC_8, rC_9, rC_10, rC_11, rC_12, aGF kA, rA_0, aGF (kT tT_3), aGF (kK tK_75), aGF (kF tF_76), q75_0, q75_1, q75_2, q75_3, q75_4, q75_6, q75_7, q75_8, q75_9, q75_10, q75_11, q75_12, q75_13, q75_14, q75_15, q75_16, aGF (kP i67), aGF (kP i69), aGF (kP i71), aGF (kP i73), aGF (kP i363), aGF (kP i81), aGF (kP i83), aGF (kP i85), aGF (kP i87), aGF (kP i89), aGF (kP i91), aGF (kP i93), aGF (kP i95), aGF (kP i97), aGF (kP i99), aGF (kP i101), aGF (kP i103), aGF (kP i105), aGF (kP i107), aGF (kP i109), aR0]
    rw [aIA kA_0, if_pos (by have := hT.2.1; omega), Int.toNat_natCast, hti.1]
    simp only [aGF kC, rC_0, rC_1, rC_2, rC_3, rC_4, rC_5, rC_6, rC_7, rC_8, rC_9, rC_10, rC_11, rC_12, aGF kA, rA_0, aGF (kT tT_3), aGF (kK tK_75), aGF (kF tF_76), q75_0, q75_1, q75_2, q75_3, q75_4, q75_6, q75_7, q75_8, q75_9, q75_10, q75_11, q75_12, q75_13, q75_14, q75_15, q75_16, aGF (kP i67), aGF (kP i69), aGF (kP i71), aGF (kP i73), aGF (kP i363), aGF (kP i81), aGF (kP i83), aGF (kP i85), aGF (kP i87), aGF (kP i89), aGF (kP i91), aGF (kP i93), aGF (kP i95), aGF (kP i97), aGF (kP i99), aGF (kP i101), aGF (kP i103), aGF (kP i105), aGF (kP i107), aGF (kP i109), q1, aVC, tlS, tlN, aLt, hwD]
    rw [vC_least_95, w32_s (by omega), q2]
theorem least_op (h : CS D A) : ∃ D', Vl (d + 4) 111 0 [some (.inr (.inr (some 0))), none, none] [] (hp ω D) = some ((0, some (.inl (oLeast A).1)), hp ω D') ∧ CS D' (oLeast A).2 ∧ ∀ q, 488 ≤ q → D' q = D q := by
  have hl := h.1.2.1
  have h0 := CS_len0 h
  have hF : FT (aF A) D 76 := h.2.2.2.1
  unfold oLeast
  have no : Vl (d + 4) 111 101 [some (.inr (.inr (some 0))), some (.inl 0), none] [] (hp ω D) = some ((0, some (.inl (-2))), hp ω (sD D 1 1 0)) := by
    simp only [vC_least_101, aGF kC, rC_0, rC_1, rC_2, rC_3, rC_4, rC_5, rC_6, rC_7, rC_8, rC_9, rC_10, rC_11, rC_12, aGF kA, rA_0, aGF (kT tT_3), aGF (kK tK_75), aGF (kF tF_76), q75_0, q75_1, q75_2, q75_3, q75_4, q75_6, q75_7, q75_8, q75_9, q75_10, q75_11, q75_12, q75_13, q75_14, q75_15, q75_16, aGF (kP i67), aGF (kP i69), aGF (kP i71), aGF (kP i73), aGF (kP i363), aGF (kP i81), aGF (kP i83), aGF (kP i85), aGF (kP i87), aGF (kP i89), aGF (kP i91), aGF (kP i93), aGF (kP i95), aGF (kP i97), aGF (kP i99), aGF (kP i101), aGF (kP i103), aGF (kP i105), aGF (kP i107), aGF (kP i109), aVC, tlS, tlN, aLt, hwD]
    rw [if_pos trivial, vC_least_125, vC_least_127]
  simp only [vC_least_0, aGF kC, rC_0, rC_1, rC_2, rC_3, rC_4, rC_5, rC_6, rC_7, rC_8, rC_9, rC_10, rC_11, rC_12, aGF kA, rA_0, aGF (kT tT_3), aGF (kK tK_75), aGF (kF tF_76), q75_0, q75_1, q75_2, q75_3, q75_4, q75_6, q75_7, q75_8, q75_9, q75_10, q75_11, q75_12, q75_13, q75_14, q75_15, q75_16, aGF (kP i67), aGF (kP i69), aGF (kP i71), aGF (kP i73), aGF (kP i363), aGF (kP i81), aGF (kP i83), aGF (kP i85), aGF (kP i87), aGF (kP i89), aGF (kP i91), aGF (kP i93), aGF (kP i95), aGF (kP i97), aGF (kP i99), aGF (kP i101), aGF (kP i103), aGF (kP i105), aGF (kP i107), aGF (kP i109)]
  rw [hD, h.1.1]
  by_cases h1 : 16 < (Al A : Int)
  · rw [if_pos h1, vC_least_44, vC_least_45, if_pos rfl, no, if_neg (by omega)]
    exact ⟨_, rfl, h0, fun q hq => sD_ne (by omega)⟩
  have ta := tapeAll (ω := ω) (d := d + 2) h (i := 0) (e := Al A) (by omega) (Nat.le_refl _)
  rw [show ((0 : Nat) : Int) = 0 from rfl, Nat.sub_zero] at ta
  rw [if_neg h1]
  simp only [vC_least_12, aGF kC, rC_0, rC_1, rC_2, rC_3, rC_4, rC_5, rC_6, rC_7, rC_8, rC_9, rC_10, rC_11, rC_12, aGF kA, rA_0, aGF (kT tT_3), aGF (kK tK_75), aGF (kF tF_76), q75_0, q75_1, q75_2, q75_3, q75_4, q75_6, q75_7, q75_8, q75_9, q75_10, q75_11, q75_12, q75_13, q75_14, q75_15, q75_16, aGF (kP i67), aGF (kP i69), aGF (kP i71), aGF (kP i73), aGF (kP i363), aGF (kP i81), aGF (kP i83), aGF (kP i85), aGF (kP i87), aGF (kP i89), aGF (kP i91), aGF (kP i93), aGF (kP i95), aGF (kP i97), aGF (kP i99), aGF (kP i101), aGF (kP i103), aGF (kP i105), aGF (kP i107), aGF (kP i109)]
  rw [hD, h.1.1, ta, aVC, tlS, vC_least_37]
  by_cases h2 : allN A 0 (Al A) = true
  rotate_left
  · rw [if_neg h2, if_pos rfl, vC_least_44, vC_least_45, if_pos rfl, no, if_neg (fun q => h2 q.2)]
    exact ⟨_, rfl, h0, fun q hq => sD_ne (by omega)⟩
  rw [if_pos h2, if_neg (by decide), vC_least_40, vC_least_45, if_neg (by decide), if_pos ⟨by omega, h2⟩]
  have q1 := constantF (ω := ω) (D := D) (d := d + 2) (v := 1) i67
  rw [show ((1 : Nat) : Int) = 1 from rfl] at q1
  have fm1 : ∀ c, c ≠ 68 → pD D (67 + 1) (rI (mono 1 0)) c = D c := fun c hc => pD_ne (by omega)
  obtain ⟨D2, u2, q2, R2, o2, f2⟩ := least_loop (ω := ω) (d := d) (A := A) 1 (Al A) 0 (mono 1 0) (pD D (67 + 1) (rI (mono 1 0))) (FT_congr (fun c _ _ => fm1 c (by omega)) hF) ⟨by rw [fm1 1 (by decide)]; exact h.1.1, hl, fun q hq => by rw [fm1 2 (by decide)]; exact h.1.2.2 q hq⟩ (by omega) (by omega) (fun q hq => by
    have := (hAll_iff (Al A) 0).mp h2 q (by omega) (by omega)
    unfold rI at this
    omega) pD_PR (mono_OK (by have := F_2 hF.1; omega) (by decide)) (sz_mono 1 0)
  rw [show ((0 : Nat) : Int) = 0 from rfl] at q2
  have f3 : ∀ q, (q < 92 ∨ 97 ≤ q) → q ≠ 68 → D2 q = D q := fun q h3 h4 => by rw [f2 q h3 h4, fm1 q h4]
  have c3 : CS D2 (aRes A (rset (Ar A) 0 (lsl (aF A) (At A) (Al A) 0 (mono 1 0)))) := CS_keep h (fun c hc => f3 c (by unfold kept at hc; omega) (by unfold kept at hc; omega)) (rset_ok (by decide) (pOK_8 hF.1 o2) R2 (fun q hq hne => ⟨(h.2.2.2.2.2.1 q hq).1, PR_ne (f3 _ (by omega) (by omega)) (h.2.2.2.2.2.1 q hq).2⟩))
  have q4 := topF (ω := ω) (D := sD D2 1 1 0) (d := d + 3) i67 (PR_ne (sD_ne (by decide)) R2)
  refine ⟨sD D2 1 1 0, ?_, CS_len0 c3, fun q hq => by rw [sD_ne (by omega), f3 q (by omega) (by omega)]⟩
  simp only [vC_least_50, aGF kC, rC_0, rC_1, rC_2, rC_3, rC_4, rC_5, rC_6, rC_7, rC_8, rC_9, rC_10, rC_11, rC_12, aGF kA, rA_0, aGF (kT tT_3), aGF (kK tK_75), aGF (kF tF_76), q75_0, q75_1, q75_2, q75_3, q75_4, q75_6, q75_7, q75_8, q75_9, q75_10, q75_11, q75_12, q75_13, q75_14, q75_15, q75_16, aGF (kP i67), aGF (kP i69), aGF (kP i71), aGF (kP i73), aGF (kP i363), aGF (kP i81), aGF (kP i83), aGF (kP i85), aGF (kP i87), aGF (kP i89), aGF (kP i91), aGF (kP i93), aGF (kP i95), aGF (kP i97), aGF (kP i99), aGF (kP i101), aGF (kP i103), aGF (kP i105), aGF (kP i107), aGF (kP i109), aR0, q1, aVC, tlS, tlN, aLt, hwD, vC_least_60, q2, vC_least_101]
  rw [if_neg (by decide)]
  simp only [vC_least_113, aGF kC, rC_0, rC_1, rC_2, rC_3, rC_4, rC_5, rC_6, rC_7, rC_8, rC_9, rC_10, rC_11, rC_12, aGF kA, rA_0, aGF (kT tT_3), aGF (kK tK_75), aGF (kF tF_76), q75_0, q75_1, q75_2, q75_3, q75_4, q75_6, q75_7, q75_8, q75_9, q75_10, q75_11, q75_12, q75_13, q75_14, q75_15, q75_16, aGF (kP i67), aGF (kP i69), aGF (kP i71), aGF (kP i73), aGF (kP i363), aGF (kP i81), aGF (kP i83), aGF (kP i85), aGF (kP i87), aGF (kP i89), aGF (kP i91), aGF (kP i93), aGF (kP i95), aGF (kP i97), aGF (kP i99), aGF (kP i101), aGF (kP i103), aGF (kP i105), aGF (kP i107), aGF (kP i109), aR0, q4, aVC, tlS, tlN, aLt, hwD, vC_least_122, vC_least_127]
end RANK
