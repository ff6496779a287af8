/-! THE REFERENCE'S METHODS: undo, keep, image, restore -/
def MOl (ρ : jr2) (D : jD) (A' : aA) (ans : Int) (run : Option jr) : Prop := ∃ (ρ' : jr2) (D' : jD), run = some ((0, some (.inl ans)), hp (1, ρ') D') ∧ MS D' A' ∧ D' 488 0 = 0 ∧ (∀ q, q < 488 → D' q = D q) ∧ ρ'.1 = ρ.1 ∧ ρ'.2.1 = ρ.2.1 ∧ ∀ c, c < 488 → ρ'.2.2 c = ρ.2.2 c
def tNum (T : aT) (u : Nat) (f : Nat → pl) (v : Nat → Nat) : aT := (tF T, tN T, tn T, tP T, tp T, u, f, v)
section MOPS6
variable {ρ : jr2} {D D' : jD} {d : Nat} {Φ : gF} {A : aA} {T : aT}
theorem MO_l {A' : aA} {ans : Int} {run : Option jr} (h : MO ρ D A' ans run) : MOl ρ D A' ans run := by
  obtain ⟨D', a, b, c, e⟩ := h
  exact ⟨ρ, D', a, b, c, e, rfl, rfl, fun _ _ => rfl⟩
theorem MS_now (h : MS D A) (hO : TOK T) (hT : MT D' 490 0 T) (hk : ∀ c, mK c → c ≠ 490 → D' c = D c) (h2 : D' 488 2 = D 488 2) (h37 : D' 488 37 = D 488 37) (h69 : D' 488 69 = D 488 69) : MS D' (aNow A T) := by
  obtain ⟨⟨a1, a2, a3⟩, -, -, e, f, g1, g2, g3, g4⟩ := h
  unfold mK at hk
  have k489 := hk 489 (by decide) (by decide)
  have k518 := hk 518 (by decide) (by decide)
  refine ⟨⟨by rw [h2]; exact a1, a2, fun i hi => by rw [k489]; exact a3 i hi⟩, hO, hT, fun k hk2 => ⟨by rw [hk 496 (by decide) (by decide)]; exact (e k hk2).1, fun z => ⟨((e k hk2).2 z).1, MT_cg ((e k hk2).2 z).2 (hk 492 (by decide) (by decide))⟩⟩, fun k hk4 => ⟨(f k hk4).1, fun j hj => by rw [k518]; exact (f k hk4).2 j hj⟩, by rw [h37]; exact g1, g2, by rw [h69]; exact g3, fun i z1 z2 => by rw [hk 537 (by decide) (by decide)]; exact g4 i z1 z2⟩
/-- the same numbers at another place -/
theorem MT_mv (hO : TOK T) {c o c' o' : Nat} (h : MT D c o T) (hf : ∀ j, j < 508 → D' c' (o' + j) = D c (o + j)) : MT D' c' o' T := by
  obtain ⟨⟨h01, h2, h3⟩, h4, h5, h6, h7, h8, h9⟩ := h
  obtain ⟨-, b1, b2, b3, -⟩ := hO
  have f0 := hf 0 (by decide)
  refine ⟨⟨?_, by rw [hf 2 (by decide)]; exact h2, by rw [hf 3 (by decide)]; exact h3⟩, by rw [hf 4 (by decide)]; exact h4, by rw [hf 5 (by decide)]; exact h5, by rw [hf 6 (by decide)]; exact h6, fun i hi => ?_, fun i hi k hk => ?_, fun a ha => ⟨?_, fun k hk => ?_⟩⟩
  · rcases h01 with ⟨q1, q2⟩ | ⟨q1, q2⟩
    · exact Or.inl ⟨f0.trans q1, by rw [hf 1 (by decide)]; exact q2⟩
    · exact Or.inr ⟨f0.trans q1, q2⟩
  · rw [Nat.add_assoc, hf (8 + i) (by omega), ← Nat.add_assoc]; exact h7 i hi
  · rw [show o' + 16 + 17 * i + k = o' + (16 + 17 * i + k) by omega, hf (16 + 17 * i + k) (by omega), show o + (16 + 17 * i + k) = o + 16 + 17 * i + k by omega]; exact h8 i hi k hk
  · rw [Nat.add_assoc, hf (220 + 18 * a) (by omega), ← Nat.add_assoc]; exact (h9 a ha).1
  · rw [show o' + 221 + 18 * a + k = o' + (221 + 18 * a + k) by omega, hf (221 + 18 * a + k) (by omega), show o + (221 + 18 * a + k) = o + 221 + 18 * a + k by omega]; exact (h9 a ha).2 k hk
/-- a NAME's polynomial is put -/
theorem MT_put (hO : TOK T) {i : Nat} (hi : i < tN T) (h : MT D 490 0 T) {F : pl} : MT (pOn D 490 (16 + 17 * i) 17 (rI F)) 490 0 (tPut T i F) := by
  obtain ⟨⟨h01, h2, h3⟩, h4, h5, h6, h7, h8, h9⟩ := h
  obtain ⟨-, b1, b2, b3, -⟩ := hO
  have fr : ∀ y, (y < 16 + 17 * i ∨ 16 + 17 * i + 17 ≤ y) → pOn D 490 (16 + 17 * i) 17 (rI F) 490 y = D 490 y := fun y hy => pOn_ne (Or.inr hy)
  have em : max (tN T) (i + 1) = tN T := by omega
  refine ⟨⟨?_, by rw [fr _ (by omega)]; exact h2, by rw [fr _ (by omega)]; exact h3⟩, ?_, by rw [fr _ (by omega)]; exact h5, by rw [fr _ (by omega)]; exact h6, fun j hj => ?_, fun j hj k hk => ?_, fun a ha => ⟨?_, fun k hk => ?_⟩⟩
  · rcases h01 with ⟨q1, q2⟩ | ⟨q1, q2⟩
    · exact Or.inl ⟨by rw [fr _ (by omega)]; exact q1, by rw [fr _ (by omega)]; exact q2⟩
    · exact Or.inr ⟨by rw [fr _ (by omega)]; exact q1, q2⟩
  · rw [fr _ (by omega)]
    show D 490 (0 + 4) = ((max (tN T) (i + 1) : Nat) : Int)
    rw [em]; exact h4
  · have hj8 : j < tP T := hj
    rw [fr _ (by omega)]; exact h7 j hj
  · have hjN : j < max (tN T) (i + 1) := hj
    show _ = (((if j = i then F else tn T j) k : Nat) : Int)
    by_cases e : j = i
    · rw [if_pos e, e, show 0 + 16 + 17 * i + k = 16 + 17 * i + k by omega, pOn_in hk]; rfl
    · rw [if_neg e, fr _ (by omega)]; exact h8 j (by omega) k hk
  · have ha8 : a < tU T := ha
    rw [fr _ (by omega)]; exact (h9 a ha).1
  · have ha8 : a < tU T := ha
    rw [fr _ (by omega)]; exact (h9 a ha).2 k hk
/-- fewer acts -/
theorem MT_less {u : Nat} (hu : u ≤ tU T) (hO : TOK T) (h : MT D 490 0 T) : MT (sD D 490 6 (u : Int)) 490 0 (tNum T u (tu T) (tv T)) := by
  obtain ⟨⟨h01, h2, h3⟩, h4, h5, h6, h7, h8, h9⟩ := h
  obtain ⟨-, b1, b2, b3, -⟩ := hO
  have fr : ∀ y, y ≠ 6 → sD D 490 6 (u : Int) 490 y = D 490 y := fun y hy => sD_nb hy
  refine ⟨⟨?_, by rw [fr _ (by omega)]; exact h2, by rw [fr _ (by omega)]; exact h3⟩, by rw [fr _ (by omega)]; exact h4, by rw [fr _ (by omega)]; exact h5, sD_eq, fun j hj => by rw [fr _ (by omega)]; exact h7 j hj, fun j hj k hk => by rw [fr _ (by omega)]; exact h8 j hj k hk, fun a ha => ⟨?_, fun k hk => ?_⟩⟩
  · rcases h01 with ⟨q1, q2⟩ | ⟨q1, q2⟩
    · exact Or.inl ⟨by rw [fr _ (by omega)]; exact q1, by rw [fr _ (by omega)]; exact q2⟩
    · exact Or.inr ⟨by rw [fr _ (by omega)]; exact q1, q2⟩
  · have ha8 : a < u := ha
    rw [fr _ (by omega)]; exact (h9 a (by omega)).1
  · have ha8 : a < u := ha
    rw [fr _ (by omega)]; exact (h9 a (by omega)).2 k hk
theorem mundo_op (h : MS D A) : MO ρ D (oUndo A).2 (oUndo A).1 (Vl (d + 2) 255 0 [some (.inr (.inr (some 488))), none] [] (hp (1, ρ) D)) := by
  have hB := mB_MS h
  have hO := hB.2.1
  have hT := hB.2.2.1
  have t6 : mB D A 490 6 = (tU (AT A) : Int) := hT.2.2.2.1
  have h16 := hO.2.2.2.1
  unfold oUndo
  rw [vM_undo_0, mGF m488, mbegin h, aVC, tlN, vM_undo_4, mGF m488, mr3, mIA m490, if_pos (show (0 : Int) ≤ 6 ∧ (6 : Int) < ((508 : Nat) : Int) by decide), show (6 : Int).toNat = 6 from rfl, t6]
  by_cases h0 : tU (AT A) = 0
  · rw [if_pos h0, if_pos (show (tU (AT A) : Int) = 0 by omega), vM_undo_14]
    exact MO_mB h rfl
  rw [if_neg h0, if_neg (show ¬ (tU (AT A) : Int) = 0 by omega)]
  obtain ⟨u, hu⟩ : ∃ u, tU (AT A) = u + 1 := ⟨tU (AT A) - 1, by omega⟩
  have hv := (hO.2.2.2.2.2.2 u (by omega)).2
  have hN := hO.2.1
  have a9 := hT.2.2.2.2.2.2 u (by omega)
  have eU : tUnd (AT A) = tPut (tNum (AT A) u (tu (AT A)) (tv (AT A))) (tv (AT A) u) (tu (AT A) u) := by
    unfold tUnd
    rw [hu, Nat.add_sub_cancel]; rfl
  have hL := MT_less (u := u) (by omega) hO hT
  have hOL : TOK (tNum (AT A) u (tu (AT A)) (tv (AT A))) := ⟨hO.1, hO.2.1, hO.2.2.1, by show u ≤ 16; omega, hO.2.2.2.2.1, hO.2.2.2.2.2.1, fun q hq => hO.2.2.2.2.2.2 q (by have : q < u := hq; omega)⟩
  have hP := MT_put hOL (i := tv (AT A) u) hv hL (F := tu (AT A) u)
  have hOU := tUnd_OK hO h0
  obtain ⟨D1, hD1⟩ : ∃ D1, D1 = sD (mB D A) 490 6 (u : Int) := ⟨_, rfl⟩
  have e6 : D1 490 6 = (u : Int) := by rw [hD1]; exact sD_eq
  have ev : D1 490 (220 + 18 * u) = (tv (AT A) u : Int) := by
    have a91 := a9.1
    rw [show 0 + 220 + 18 * u = 220 + 18 * u by omega] at a91
    rw [hD1, sD_nb (by omega)]; exact a91
  have eb : PRo D1 490 (220 + 18 * u + 1) (tu (AT A) u) := fun k hk => by
    rw [hD1, sD_nb (by omega), ← a9.2 k hk]; congr 1; omega
  have q1 := mcopy (d := d + 1) (ρ := ρ) (D := D1) (a := 220 + 18 * u + 1) (b := 16 + 17 * tv (AT A) u) m490 m490 (by omega) (by omega) (by decide) (Or.inr (by omega)) eb
  rw [← eU, ← hD1] at hP
  rw [show tU (AT A) - 1 = u by omega]
  refine ⟨pOn D1 490 (16 + 17 * tv (AT A) u) 17 (rI (tu (AT A) u)), ?_, MS_now hB hOU hP (fun c _ hne => by rw [pOn_far hne, hD1, sD_ne hne]) (by rw [pOn_far (by decide), hD1, sD_ne (by decide)]) (by rw [pOn_far (by decide), hD1, sD_ne (by decide)]) (by rw [pOn_far (by decide), hD1, sD_ne (by decide)]), by rw [pOn_far (by decide), hD1, sD_ne (by decide)]; exact mB_0, fun q hq => by rw [pOn_far (by omega), hD1, sD_ne (by omega), mB_ne (by omega)]⟩
  have e18 : w32 (220 + w32 (18 * (u : Int))) = ((220 + 18 * u : Nat) : Int) := by
    have e : w32 (18 * (u : Int)) = 18 * (u : Int) := by unfold w32; omega
    rw [e]; unfold w32; omega
  have e17 : w32 (16 + w32 (17 * (tv (AT A) u : Int))) = ((16 + 17 * tv (AT A) u : Nat) : Int) := by
    have e : w32 (17 * (tv (AT A) u : Int)) = 17 * (tv (AT A) u : Int) := by unfold w32; omega
    rw [e]; unfold w32; omega
  rw [vM_undo_16, mGF m488, mr3, mIA m490, if_pos (show (0 : Int) ≤ 6 ∧ (6 : Int) < ((508 : Nat) : Int) by decide), show (6 : Int).toNat = 6 from rfl, t6, mIS m490, if_pos (show (0 : Int) ≤ 6 ∧ (6 : Int) < ((508 : Nat) : Int) by decide), show (6 : Int).toNat = 6 from rfl, hu, show w32 (((u + 1 : Nat) : Int) - 1) = (u : Int) from by unfold w32; omega, ← hD1]
  simp only [mGF m488, mr3]
  rw [mIA m490, if_pos (show (0 : Int) ≤ 6 ∧ (6 : Int) < ((508 : Nat) : Int) by decide), show (6 : Int).toNat = 6 from rfl, e6, e18, mIA m490, if_pos (by omega), Int.toNat_natCast, ev, e17, w32_s (by omega), q1, aVC, tlN, vM_undo_68, mGF m488, mr3, mIA m490, if_pos (show (0 : Int) ≤ 6 ∧ (6 : Int) < ((508 : Nat) : Int) by decide), show (6 : Int).toNat = 6 from rfl, pOn_ne (Or.inr (by omega)), e6]
end MOPS6
