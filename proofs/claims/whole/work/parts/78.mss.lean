/-! WHAT THE REFERENCE HOLDS; its small methods -/
def MN (Φ : gF) (D : jD) (c o : Nat) : Prop := ((D c o = (Φ.1 : Int) ∧ D c (o + 1) = (Φ.2.1 : Int)) ∨ (D c o = 0 ∧ Φ.1 = 1 ∧ Φ.2.1 = 3)) ∧ D c (o + 2) = (Φ.2.2.1 : Int) ∧ D c (o + 3) = (Φ.2.2.2 : Int)
def MT (D : jD) (c o : Nat) (T : aT) : Prop := MN (tF T) D c o ∧ D c (o + 4) = (tN T : Int) ∧ D c (o + 5) = (tP T : Int) ∧ D c (o + 6) = (tU T : Int) ∧ (∀ i, i < tP T → D c (o + 8 + i) = (tp T i : Int)) ∧ (∀ i, i < tN T → PRo D c (o + 16 + 17 * i) (tn T i)) ∧ ∀ a, a < tU T → D c (o + 220 + 18 * a) = (tv T a : Int) ∧ PRo D c (o + 221 + 18 * a) (tu T a)
def MS (D : jD) (A : aA) : Prop := (D 488 2 = (Al A : Int) ∧ Al A ≤ 540 ∧ ∀ i, i < Al A → D 489 i = (At A i : Int) ∧ At A i < 256) ∧ TOK (AT A) ∧ MT D 490 0 (AT A) ∧ (∀ k, k < 2 → D 496 k = (if Ai A k = true then 1 else 0) ∧ (Ai A k = true → TOK (AI A k) ∧ MT D 492 (508 * k) (AI A k))) ∧ (∀ k, k < 4 → pO8 (Ar A k) ∧ PRo D 518 (17 * k) (Ar A k)) ∧ D 488 37 = Af A ∧ Ag A ≤ 16 ∧ D 488 69 = (Ag A : Int) ∧ ∀ i, 1 ≤ i → i ≤ Ag A → D 537 i = (AG A i : Int)
def mK (c : Nat) : Prop := c = 489 ∨ c = 490 ∨ c = 492 ∨ c = 496 ∨ c = 518 ∨ c = 537
def mUse (D : jD) (Φ : gF) : jD := sD (sD (sD (sD D 488 10 (Φ.1 : Int)) 488 11 (Φ.2.1 : Int)) 488 12 (Φ.2.2.1 : Int)) 488 13 (Φ.2.2.2 : Int)
section MSS
variable {ρ : jr2} {D D' : jD} {d : Nat} {Φ : gF} {A : aA}
theorem MN_cg {c o : Nat} (h : MN Φ D c o) (e : D' c = D c) : MN Φ D' c o := by unfold MN at h ⊢; rw [e]; exact h
theorem MT_cg {c o : Nat} {T : aT} (h : MT D c o T) (e : D' c = D c) : MT D' c o T := by
  unfold MT PRo MN at h ⊢; rw [e]; exact h
theorem MS_cg (h : MS D A) (hk : ∀ c, mK c → D' c = D c) (h2 : D' 488 2 = D 488 2) (h37 : D' 488 37 = D 488 37) (h69 : D' 488 69 = D 488 69) : MS D' A := by
  obtain ⟨⟨a1, a2, a3⟩, b, c, e, f, g1, g2, g3, g4⟩ := h
  unfold mK at hk
  have k489 := hk 489 (by decide)
  have k518 := hk 518 (by decide)
  refine ⟨⟨by rw [h2]; exact a1, a2, fun i hi => by rw [k489]; exact a3 i hi⟩, b, MT_cg c (hk 490 (by decide)), fun k hk2 => ⟨by rw [hk 496 (by decide)]; exact (e k hk2).1, fun z => ⟨((e k hk2).2 z).1, MT_cg ((e k hk2).2 z).2 (hk 492 (by decide))⟩⟩, fun k hk4 => ⟨(f k hk4).1, fun j hj => by rw [k518]; exact (f k hk4).2 j hj⟩, by rw [h37]; exact g1, g2, by rw [h69]; exact g3, fun i z1 z2 => by rw [hk 537 (by decide)]; exact g4 i z1 z2⟩
/-- scratch cells alone changed -/
theorem MS_sc (h : MS D A) (hk : ∀ c, (mK c ∨ c = 488) → D' c = D c) : MS D' A := MS_cg h (fun c hc => hk c (Or.inl hc)) (by rw [hk 488 (Or.inr rfl)]) (by rw [hk 488 (Or.inr rfl)]) (by rw [hk 488 (Or.inr rfl)])
theorem mUse_ne {q : Nat} (h : q ≠ 488) : mUse D Φ q = D q := by unfold mUse; rw [sD_ne h, sD_ne h, sD_ne h, sD_ne h]
theorem mUse_f {j : Nat} (h : j < 10 ∨ 13 < j) : mUse D Φ 488 j = D 488 j := by
  unfold mUse sD; rw [if_neg (by omega), if_neg (by omega), if_neg (by omega), if_neg (by omega)]
theorem mUse_MF (hO : FOK Φ) : MF Φ (mUse D Φ) := by
  refine ⟨hO, ?_, ?_, ?_, ?_⟩
  · unfold mUse sD; rw [if_neg (by omega), if_neg (by omega), if_neg (by omega), if_pos ⟨rfl, rfl⟩]
  · unfold mUse sD; rw [if_neg (by omega), if_neg (by omega), if_pos ⟨rfl, rfl⟩]
  · unfold mUse sD; rw [if_neg (by omega), if_pos ⟨rfl, rfl⟩]
  · unfold mUse; exact sD_eq
theorem muse {r n : Nat} (kr : KM r (1, n)) (hn : 4 ≤ n) (hr : r ≠ 488) (hO : FOK Φ) (hN : MN Φ D r 0) : Vl d 191 0 [some (.inr (.inr (some 488))), some (.inr (.inr (some r)))] [] (hp (1, ρ) D) = some ((0, none), hp (1, ρ) (mUse D Φ)) := by
  obtain ⟨h01, h2, h3⟩ := hN
  have m1 := F_m1 hO
  have z : ∀ (E : jD) (k : Int → Option jr) (i : Nat), i < 4 → E r = D r → vIA (hp (1, ρ) E) (some r) (i : Int) k = k (D r i) := fun E k i hi he => by
    rw [mIA kr, if_pos (by omega), Int.toNat_natCast, he]
  have z0 : ∀ (E : jD) (k : Int → Option jr), E r = D r → vIA (hp (1, ρ) E) (some r) 0 k = k (D r 0) := fun E k he => z E k 0 (by decide) he
  have z1 : ∀ (E : jD) (k : Int → Option jr), E r = D r → vIA (hp (1, ρ) E) (some r) 1 k = k (D r 1) := fun E k he => z E k 1 (by decide) he
  have z2 : ∀ (E : jD) (k : Int → Option jr), E r = D r → vIA (hp (1, ρ) E) (some r) 2 k = k (D r 2) := fun E k he => z E k 2 (by decide) he
  have z3 : ∀ (E : jD) (k : Int → Option jr), E r = D r → vIA (hp (1, ρ) E) (some r) 3 k = k (D r 3) := fun E k he => z E k 3 (by decide) he
  have e2 : D r 2 = (Φ.2.2.1 : Int) := h2
  have e3 : D r 3 = (Φ.2.2.2 : Int) := h3
  have fin : Vl d 191 31 [some (.inr (.inr (some 488))), some (.inr (.inr (some r)))] [.inl (Φ.2.1 : Int), .inr (.inr (some 488))] (hp (1, ρ) (sD D 488 10 (Φ.1 : Int))) = some ((0, none), hp (1, ρ) (mUse D Φ)) := by
    rw [vM_use_31, mGF m488, aLt, hwD, z2 _ _ (by rw [sD_ne hr, sD_ne hr]), mGF m488, aLt, hwD, z3 _ _ (by rw [sD_ne hr, sD_ne hr, sD_ne hr]), mGF m488, aLt, hwD, e2, e3]; rfl
  rw [vM_use_0, z0 D _ rfl]
  rcases h01 with ⟨q1, q2⟩ | ⟨q1, q2, q3⟩
  · have q1' : D r 0 = (Φ.1 : Int) := q1
    have q2' : D r 1 = (Φ.2.1 : Int) := q2
    have hne : ¬ (Φ.1 : Int) = 0 := by omega
    rw [q1', if_neg hne, vM_use_11, z0 D _ rfl, q1', vM_use_14, mGF m488, aLt, hwD, z0 _ _ (sD_ne hr), q1', if_neg hne, vM_use_28, z1 _ _ (sD_ne hr), q2']
    exact fin
  · have q1' : D r 0 = 0 := q1
    rw [q1', if_pos rfl, vM_use_7, vM_use_14, mGF m488, aLt, hwD, z0 _ _ (sD_ne hr), q1', if_pos rfl, vM_use_24]
    rw [q2, q3] at fin
    exact fin
def mB (D : jD) (A : aA) : jD := mUse (sD D 488 0 0) (aF A)
theorem mbegin (h : MS D A) : Vl (d + 1) 190 0 [some (.inr (.inr (some 488)))] [] (hp (1, ρ) D) = some ((0, none), hp (1, ρ) (mB D A)) := by
  have q := muse (d := d) (ρ := ρ) (D := sD D 488 0 0) m490 (by decide) (by decide) h.2.1.1 (MN_cg h.2.2.1.1 (sD_ne (by decide)))
  rw [vM_begin_0, mGF m488, aLt, hwD, mGF m488, mGF m488, mr3, q, aVC, tlN, vM_begin_13]
  rfl
theorem mB_ne {q : Nat} (h : q ≠ 488) : mB D A q = D q := by unfold mB; rw [mUse_ne h, sD_ne h]
theorem mB_f {j : Nat} (h : j < 10 ∨ 13 < j) (h0 : j ≠ 0) : mB D A 488 j = D 488 j := by
  unfold mB; rw [mUse_f h]; exact if_neg (fun z => h0 z.2)
theorem mB_0 : mB D A 488 0 = 0 := by unfold mB; rw [mUse_f (by decide)]; exact sD_eq
theorem mB_MF (h : MS D A) : MF (aF A) (mB D A) := mUse_MF h.2.1.1
theorem mB_MS (h : MS D A) : MS (mB D A) A := MS_cg h (fun c hc => mB_ne (by unfold mK at hc; omega)) (mB_f (by decide) (by decide)) (mB_f (by decide) (by decide)) (mB_f (by decide) (by decide))
theorem misNum (hF : MF Φ D) (x : Int) : Vl d 192 0 [some (.inr (.inr (some 488))), some (.inl x)] [] (hp (1, ρ) D) = some ((0, some (.inl (if 0 ≤ x ∧ x < ((2 ^ Φ.1 : Nat) : Int) then 1 else 0))), hp (1, ρ) D) := by
  have h256 := F_256 hF.1
  have m8 := F_m8 hF.1
  rw [vM_isNumber_0]
  by_cases h1 : x < 0
  · rw [if_pos h1, vM_isNumber_18, vM_isNumber_19, aZ0, if_neg (by omega)]
  · rw [if_neg h1, vM_isNumber_4, mGF m488, hD, hF.2.1, show jshl 1 (Φ.1 : Int) = ((2 ^ Φ.1 : Nat) : Int) from by rw [show (1 : Int) = ((1 : Nat) : Int) from rfl, jshl_n (by omega) (by omega), Nat.one_mul]]
    by_cases h2 : x < ((2 ^ Φ.1 : Nat) : Int)
    · rw [if_pos h2, vM_isNumber_14, vM_isNumber_19, aZ1, if_pos (by omega)]
    · rw [if_neg h2, vM_isNumber_18, vM_isNumber_19, aZ0, if_neg (by omega)]
theorem misIn {h : jh} (x a b : Int) : Vl d 195 0 [some (.inl x), some (.inl a), some (.inl b)] [] h = some ((0, some (.inl (if a ≤ x ∧ x ≤ b then 1 else 0))), h) := by
  rw [vM_isIn_0]
  by_cases h1 : x < a
  · rw [if_pos h1, vM_isIn_14, vM_isIn_15, aZ0, if_neg (by omega)]
  · rw [if_neg h1, vM_isIn_5]
    by_cases h2 : b < x
    · rw [if_pos h2, vM_isIn_14, vM_isIn_15, aZ0, if_neg (by omega)]
    · rw [if_neg h2, vM_isIn_10, vM_isIn_15, aZ1, if_pos (by omega)]
theorem misName (h : MS D A) (i : Int) : Vl d 242 0 [some (.inr (.inr (some 488))), some (.inl i)] [] (hp (1, ρ) D) = some ((0, some (.inl (if aN A i then 1 else 0))), hp (1, ρ) D) := by
  have e4 : D 490 4 = (tN (AT A) : Int) := h.2.2.1.2.1
  rw [vM_isName_0]
  by_cases h1 : i < 0
  · rw [if_pos h1, vM_isName_18, vM_isName_19, aZ0, if_neg (by omega)]
  · rw [if_neg h1, vM_isName_4, mGF m488, mr3, mIA m490, if_pos (by decide), show (4 : Int).toNat = 4 from rfl, e4]
    by_cases h2 : i < (tN (AT A) : Int)
    · rw [if_pos h2, vM_isName_14, vM_isName_19, aZ1, if_pos (by omega)]
    · rw [if_neg h2, vM_isName_18, vM_isName_19, aZ0, if_neg (by omega)]
theorem MS_nm (h : MS D A) {i : Int} (h1 : aN A i) : PRo D 490 (16 + 17 * i.toNat) (an A i) ∧ pOK (aF A) (an A i) ∧ i.toNat < 12 := by
  have hN := h.2.1.2.1
  have hi : i.toNat < tN (AT A) := by omega
  refine ⟨?_, h.2.1.2.2.2.2.1 _ hi, by omega⟩
  have := h.2.2.1.2.2.2.2.2.1 _ hi
  rw [show 0 + 16 + 17 * i.toNat = 16 + 17 * i.toNat by omega] at this
  exact this
/-- a NAME's polynomial into a row -/
theorem mtake (h : MS D A) {i : Int} (h1 : aN A i) {c : Nat} (kc : KM c (1, 17)) (hc : c ≠ 490) : Vl (d + 1) 244 0 [some (.inr (.inr (some 488))), some (.inl i), some (.inr (.inr (some c)))] [] (hp (1, ρ) D) = some ((0, none), hp (1, ρ) (pD D c (rI (an A i)))) := by
  obtain ⟨p1, p2, p3⟩ := MS_nm h h1
  have q := mcopy (d := d) (ρ := ρ) (a := 16 + 17 * i.toNat) (b := 0) m490 kc (by omega) (by omega) (by decide) (Or.inl (fun e => hc e.symm)) p1
  rw [pOn_pD] at q
  rw [vM_take2_0, mGF m488, mr3, show w32 (16 + w32 (17 * i)) = ((16 + 17 * i.toNat : Nat) : Int) from by
    have e : w32 (17 * i) = 17 * i := by unfold w32; omega
    rw [e]; unfold w32; omega, show (0 : Int) = ((0 : Nat) : Int) from rfl, q, aVC, tlN, vM_take2_16]
theorem MS_res (h : MS D A) {k : Nat} (hk : k < 4) {F : pl} (oF : pO8 F) : MS (pOn D 518 (17 * k) 17 (rI F)) (aRes A (rset (Ar A) k F)) := by
  obtain ⟨⟨a1, a2, a3⟩, b, c, e, f, g1, g2, g3, g4⟩ := h
  refine ⟨⟨by rw [pOn_far (by decide)]; exact a1, a2, fun i hi => by rw [pOn_far (by decide)]; exact a3 i hi⟩, b, MT_cg c (pOn_far (by decide)), fun j hj => ⟨by rw [pOn_far (by decide)]; exact (e j hj).1, fun z => ⟨((e j hj).2 z).1, MT_cg ((e j hj).2 z).2 (pOn_far (by decide))⟩⟩, fun j hj => ?_, by rw [pOn_far (by decide)]; exact g1, g2, by rw [pOn_far (by decide)]; exact g3, fun i z1 z2 => by rw [pOn_far (by decide)]; exact g4 i z1 z2⟩
  show pO8 (if j = k then F else Ar A j) ∧ PRo _ 518 (17 * j) (if j = k then F else Ar A j)
  by_cases q : j = k
  · rw [if_pos q, q]
    exact ⟨oF, fun b hb => pOn_in hb⟩
  · rw [if_neg q]
    exact ⟨(f j hj).1, fun b hb => by rw [pOn_ne (Or.inr (by omega))]; exact (f j hj).2 b hb⟩
/-- a row told as RESULT k -/
theorem mtell {k c : Nat} (hk : k < 4) (kc : KM c (1, 17)) (hc : c ≠ 518) {F : pl} (RF : PR D c F) : Vl (d + 1) 248 0 [some (.inr (.inr (some 488))), some (.inl (k : Int)), some (.inr (.inr (some c)))] [] (hp (1, ρ) D) = some ((0, some (.inl ((sz F : Int) - 1))), hp (1, ρ) (pOn D 518 (17 * k) 17 (rI F))) := by
  have q := mcopy (d := d) (ρ := ρ) (a := 0) (b := 17 * k) kc m518 (by decide) (by omega) (by decide) (Or.inl hc) (PRo_0 RF)
  have q2 := mdeg (d := d) (ρ := ρ) (D := pOn D 518 (17 * k) 17 (rI F)) kc (by decide) (PR_ne (pOn_far hc) RF)
  rw [vM_tell_0, mGF m488, mr47, show w32 (17 * (k : Int)) = ((17 * k : Nat) : Int) from by unfold w32; omega, show (0 : Int) = ((0 : Nat) : Int) from rfl, q, aVC, tlN, vM_tell_13, q2, aVC, tlS, vM_tell_17]
end MSS
