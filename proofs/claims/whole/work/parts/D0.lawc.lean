/-! THE LAW: each call (wip/whole/gen_d0.py) -/
section LAW2
variable {D0 D : jD} {k i N : Nat} {ω : jw} {A : aA} {d : Nat} {u5 u6 : Option jv}
theorem law_c0 (hL : LI D0 k ω D A) (hs : ∀ j, -2147483648 ≤ D0 1000000 j ∧ D0 1000000 j < 2147483648) (hN : D0 1000001 0 = (N : Int)) (hN2 : N ≤ 3072) (hi : i + 6 ≤ N) : ∃ ω2 D2 A2, Vl (d + 49) 297 216 [some (.inr (.inr (some jSCR))), some (.inr (.inr (some 0))), some (.inr (.inr (some 488))), some (.inr (.inr (some 539))), some (.inl (i : Int)), u5, u6] [] (hp ω D) = Vl (d + 49) 297 1549 [some (.inr (.inr (some jSCR))), some (.inr (.inr (some 0))), some (.inr (.inr (some 488))), some (.inr (.inr (some 539))), some (.inl (i : Int)), u5, u6] [] (hp ω2 D2) ∧ LI D0 k ω2 D2 A2 := by
  have w1 := hL.1.1
  have w2 : ω.2.2.1 ≤ 1000 := Nat.le_trans hL.1.2.2.1 hL.1.2.2.2
  have w3 := hL.2.2.2
  have hC : CO ω D (oFeed A (D0 1000000 (i + 1)) (D0 1000000 (i + 2)) (D0 1000000 (i + 3)) (D0 1000000 (i + 4)) (D0 1000000 (i + 5))).2 (oFeed A (D0 1000000 (i + 1)) (D0 1000000 (i + 2)) (D0 1000000 (i + 3)) (D0 1000000 (i + 4)) (D0 1000000 (i + 5))).1 _ := CO_d (feed_op (d := d + 47) hL.2.1 (D0 1000000 (i + 1)) (D0 1000000 (i + 2)) (D0 1000000 (i + 3)) (D0 1000000 (i + 4)) (D0 1000000 (i + 5)) )
  obtain ⟨ω2, D2, q1, q2⟩ := law_op (dd := d + 48) (yy := 186) (NEXT := fun h => Vl (d + 49) 297 1549 [some (.inr (.inr (some jSCR))), some (.inr (.inr (some 0))), some (.inr (.inr (some 488))), some (.inr (.inr (some 539))), some (.inl (i : Int)), u5, u6] [] h) (K1 := fun r1 h2 => Vl (d + 49) 297 250 [some (.inr (.inr (some jSCR))), some (.inr (.inr (some 0))), some (.inr (.inr (some 488))), some (.inr (.inr (some 539))), some (.inl (i : Int)), u5, u6] (r1.toList ++ []) h2) (K2 := fun r1 h2 => Vl (d + 49) 297 284 [some (.inr (.inr (some jSCR))), some (.inr (.inr (some 0))), some (.inr (.inr (some 488))), some (.inr (.inr (some 539))), some (.inl (i : Int)), u5, u6] (r1.toList ++ [.inl (oFeed A (D0 1000000 (i + 1)) (D0 1000000 (i + 2)) (D0 1000000 (i + 3)) (D0 1000000 (i + 4)) (D0 1000000 (i + 5))).1]) h2) hL hC (fun ρ D' h => MO_l (mfeed_op (d := d + 47) h (D0 1000000 (i + 1)) (D0 1000000 (i + 2)) (D0 1000000 (i + 3)) (D0 1000000 (i + 4)) (D0 1000000 (i + 5)) )) (fun ρ D' hS r => by
    rw [tlS, vL_law_250, sIA (ω := (1, ρ)) rfl r hS hN hN2 (c := 1) (z := 1) rfl (by omega), sIA (ω := (1, ρ)) rfl r hS hN hN2 (c := 2) (z := 2) rfl (by omega), sIA (ω := (1, ρ)) rfl r hS hN hN2 (c := 3) (z := 3) rfl (by omega), sIA (ω := (1, ρ)) rfl r hS hN hN2 (c := 4) (z := 4) rfl (by omega), sIA (ω := (1, ρ)) rfl r hS hN hN2 (c := 5) (z := 5) rfl (by omega), mGF m488]) (fun ρ D' hS r => by
    rw [tlS, vL_law_284, if_pos rfl])
  refine ⟨ω2, D2, (oFeed A (D0 1000000 (i + 1)) (D0 1000000 (i + 2)) (D0 1000000 (i + 3)) (D0 1000000 (i + 4)) (D0 1000000 (i + 5))).2, ?_, q2⟩
  rw [vL_law_216, sIA w1 w2 w3 hN hN2 (c := 1) (z := 1) rfl (by omega), sIA w1 w2 w3 hN hN2 (c := 2) (z := 2) rfl (by omega), sIA w1 w2 w3 hN hN2 (c := 3) (z := 3) rfl (by omega), sIA w1 w2 w3 hN hN2 (c := 4) (z := 4) rfl (by omega), sIA w1 w2 w3 hN hN2 (c := 5) (z := 5) rfl (by omega), aGF kC]
  exact q1
theorem law_c1 (hL : LI D0 k ω D A) (hs : ∀ j, -2147483648 ≤ D0 1000000 j ∧ D0 1000000 j < 2147483648) (hN : D0 1000001 0 = (N : Int)) (hN2 : N ≤ 3072) (hi : i + 6 ≤ N) : ∃ ω2 D2 A2, Vl (d + 49) 297 289 [some (.inr (.inr (some jSCR))), some (.inr (.inr (some 0))), some (.inr (.inr (some 488))), some (.inr (.inr (some 539))), some (.inl (i : Int)), u5, u6] [] (hp ω D) = Vl (d + 49) 297 1549 [some (.inr (.inr (some jSCR))), some (.inr (.inr (some 0))), some (.inr (.inr (some 488))), some (.inr (.inr (some 539))), some (.inl (i : Int)), u5, u6] [] (hp ω2 D2) ∧ LI D0 k ω2 D2 A2 := by
  have w1 := hL.1.1
  have w2 : ω.2.2.1 ≤ 1000 := Nat.le_trans hL.1.2.2.1 hL.1.2.2.2
  have w3 := hL.2.2.2
  have hC : CO ω D (oEnd A (D0 1000000 (i + 1))).2 (oEnd A (D0 1000000 (i + 1))).1 _ := CO_d (end_op (d := d + 48) hL.2.1 (D0 1000000 (i + 1)) )
  obtain ⟨ω2, D2, q1, q2⟩ := law_op (dd := d + 48) (yy := 188) (NEXT := fun h => Vl (d + 49) 297 1549 [some (.inr (.inr (some jSCR))), some (.inr (.inr (some 0))), some (.inr (.inr (some 488))), some (.inr (.inr (some 539))), some (.inl (i : Int)), u5, u6] [] h) (K1 := fun r1 h2 => Vl (d + 49) 297 299 [some (.inr (.inr (some jSCR))), some (.inr (.inr (some 0))), some (.inr (.inr (some 488))), some (.inr (.inr (some 539))), some (.inl (i : Int)), u5, u6] (r1.toList ++ []) h2) (K2 := fun r1 h2 => Vl (d + 49) 297 309 [some (.inr (.inr (some jSCR))), some (.inr (.inr (some 0))), some (.inr (.inr (some 488))), some (.inr (.inr (some 539))), some (.inl (i : Int)), u5, u6] (r1.toList ++ [.inl (oEnd A (D0 1000000 (i + 1))).1]) h2) hL hC (fun ρ D' h => MO_l (mendT_op (d := d + 48) h (D0 1000000 (i + 1)) )) (fun ρ D' hS r => by
    rw [tlS, vL_law_299, sIA (ω := (1, ρ)) rfl r hS hN hN2 (c := 1) (z := 1) rfl (by omega), mGF m488]) (fun ρ D' hS r => by
    rw [tlS, vL_law_309, if_pos rfl])
  refine ⟨ω2, D2, (oEnd A (D0 1000000 (i + 1))).2, ?_, q2⟩
  rw [vL_law_289, sIA w1 w2 w3 hN hN2 (c := 1) (z := 1) rfl (by omega), aGF kC]
  exact q1
theorem law_c2 (hL : LI D0 k ω D A) (hs : ∀ j, -2147483648 ≤ D0 1000000 j ∧ D0 1000000 j < 2147483648) (hN : D0 1000001 0 = (N : Int)) (hN2 : N ≤ 3072) (hi : i + 6 ≤ N) : ∃ ω2 D2 A2, Vl (d + 49) 297 314 [some (.inr (.inr (some jSCR))), some (.inr (.inr (some 0))), some (.inr (.inr (some 488))), some (.inr (.inr (some 539))), some (.inl (i : Int)), u5, u6] [] (hp ω D) = Vl (d + 49) 297 1549 [some (.inr (.inr (some jSCR))), some (.inr (.inr (some 0))), some (.inr (.inr (some 488))), some (.inr (.inr (some 539))), some (.inl (i : Int)), u5, u6] [] (hp ω2 D2) ∧ LI D0 k ω2 D2 A2 := by
  have w1 := hL.1.1
  have w2 : ω.2.2.1 ≤ 1000 := Nat.le_trans hL.1.2.2.1 hL.1.2.2.2
  have w3 := hL.2.2.2
  have hC : CO ω D (oScript A).2 (oScript A).1 _ := CO_d (script_op (d := d) hL.2.1  )
  obtain ⟨ω2, D2, q1, q2⟩ := law_op (dd := d + 48) (yy := 199) (NEXT := fun h => Vl (d + 49) 297 1549 [some (.inr (.inr (some jSCR))), some (.inr (.inr (some 0))), some (.inr (.inr (some 488))), some (.inr (.inr (some 539))), some (.inl (i : Int)), u5, u6] [] h) (K1 := fun r1 h2 => Vl (d + 49) 297 318 [some (.inr (.inr (some jSCR))), some (.inr (.inr (some 0))), some (.inr (.inr (some 488))), some (.inr (.inr (some 539))), some (.inl (i : Int)), u5, u6] (r1.toList ++ []) h2) (K2 := fun r1 h2 => Vl (d + 49) 297 322 [some (.inr (.inr (some jSCR))), some (.inr (.inr (some 0))), some (.inr (.inr (some 488))), some (.inr (.inr (some 539))), some (.inl (i : Int)), u5, u6] (r1.toList ++ [.inl (oScript A).1]) h2) hL hC (fun ρ D' h => (mscript_op (d := d) h  )) (fun ρ D' hS r => by
    rw [tlS, vL_law_318, mGF m488]) (fun ρ D' hS r => by
    rw [tlS, vL_law_322, if_pos rfl])
  refine ⟨ω2, D2, (oScript A).2, ?_, q2⟩
  rw [vL_law_314, aGF kC]
  exact q1
theorem law_c3 (hL : LI D0 k ω D A) (hs : ∀ j, -2147483648 ≤ D0 1000000 j ∧ D0 1000000 j < 2147483648) (hN : D0 1000001 0 = (N : Int)) (hN2 : N ≤ 3072) (hi : i + 6 ≤ N) : ∃ ω2 D2 A2, Vl (d + 49) 297 327 [some (.inr (.inr (some jSCR))), some (.inr (.inr (some 0))), some (.inr (.inr (some 488))), some (.inr (.inr (some 539))), some (.inl (i : Int)), u5, u6] [] (hp ω D) = Vl (d + 49) 297 1549 [some (.inr (.inr (some jSCR))), some (.inr (.inr (some 0))), some (.inr (.inr (some 488))), some (.inr (.inr (some 539))), some (.inl (i : Int)), u5, u6] [] (hp ω2 D2) ∧ LI D0 k ω2 D2 A2 := by
  have w1 := hL.1.1
  have w2 : ω.2.2.1 ≤ 1000 := Nat.le_trans hL.1.2.2.1 hL.1.2.2.2
  have w3 := hL.2.2.2
  have hC : CO ω D A (Af A) _ := CO_p hL.2.1 (fault_op (d := d + 48) hL.2.1)
  obtain ⟨ω2, D2, q1, q2⟩ := law_op (dd := d + 48) (yy := 240) (NEXT := fun h => Vl (d + 49) 297 1549 [some (.inr (.inr (some jSCR))), some (.inr (.inr (some 0))), some (.inr (.inr (some 488))), some (.inr (.inr (some 539))), some (.inl (i : Int)), u5, u6] [] h) (K1 := fun r1 h2 => Vl (d + 49) 297 331 [some (.inr (.inr (some jSCR))), some (.inr (.inr (some 0))), some (.inr (.inr (some 488))), some (.inr (.inr (some 539))), some (.inl (i : Int)), u5, u6] (r1.toList ++ []) h2) (K2 := fun r1 h2 => Vl (d + 49) 297 335 [some (.inr (.inr (some jSCR))), some (.inr (.inr (some 0))), some (.inr (.inr (some 488))), some (.inr (.inr (some 539))), some (.inl (i : Int)), u5, u6] (r1.toList ++ [.inl (Af A)]) h2) hL hC (fun ρ D' h => MO_l (mfault_op (d := d + 48) h)) (fun ρ D' hS r => by
    rw [tlS, vL_law_331, mGF m488]) (fun ρ D' hS r => by
    rw [tlS, vL_law_335, if_pos rfl])
  refine ⟨ω2, D2, A, ?_, q2⟩
  rw [vL_law_327, aGF kC]
  exact q1
theorem law_c4 (hL : LI D0 k ω D A) (hs : ∀ j, -2147483648 ≤ D0 1000000 j ∧ D0 1000000 j < 2147483648) (hN : D0 1000001 0 = (N : Int)) (hN2 : N ≤ 3072) (hi : i + 6 ≤ N) : ∃ ω2 D2 A2, Vl (d + 49) 297 340 [some (.inr (.inr (some jSCR))), some (.inr (.inr (some 0))), some (.inr (.inr (some 488))), some (.inr (.inr (some 539))), some (.inl (i : Int)), u5, u6] [] (hp ω D) = Vl (d + 49) 297 1549 [some (.inr (.inr (some jSCR))), some (.inr (.inr (some 0))), some (.inr (.inr (some 488))), some (.inr (.inr (some 539))), some (.inl (i : Int)), u5, u6] [] (hp ω2 D2) ∧ LI D0 k ω2 D2 A2 := by
  have w1 := hL.1.1
  have w2 : ω.2.2.1 ≤ 1000 := Nat.le_trans hL.1.2.2.1 hL.1.2.2.2
  have w3 := hL.2.2.2
  have hC : CO ω D A (oTimes A (D0 1000000 (i + 1)) (D0 1000000 (i + 2))) _ := CO_p hL.2.1 (times_op (d := d + 47) hL.2.1 (D0 1000000 (i + 1)) (D0 1000000 (i + 2)))
  obtain ⟨ω2, D2, q1, q2⟩ := law_op (dd := d + 48) (yy := 189) (NEXT := fun h => Vl (d + 49) 297 1549 [some (.inr (.inr (some jSCR))), some (.inr (.inr (some 0))), some (.inr (.inr (some 488))), some (.inr (.inr (some 539))), some (.inl (i : Int)), u5, u6] [] h) (K1 := fun r1 h2 => Vl (d + 49) 297 356 [some (.inr (.inr (some jSCR))), some (.inr (.inr (some 0))), some (.inr (.inr (some 488))), some (.inr (.inr (some 539))), some (.inl (i : Int)), u5, u6] (r1.toList ++ []) h2) (K2 := fun r1 h2 => Vl (d + 49) 297 372 [some (.inr (.inr (some jSCR))), some (.inr (.inr (some 0))), some (.inr (.inr (some 488))), some (.inr (.inr (some 539))), some (.inl (i : Int)), u5, u6] (r1.toList ++ [.inl (oTimes A (D0 1000000 (i + 1)) (D0 1000000 (i + 2)))]) h2) hL hC (fun ρ D' h => MO_l (mtimes_op (d := d + 46) h (D0 1000000 (i + 1)) (D0 1000000 (i + 2)))) (fun ρ D' hS r => by
    rw [tlS, vL_law_356, sIA (ω := (1, ρ)) rfl r hS hN hN2 (c := 1) (z := 1) rfl (by omega), sIA (ω := (1, ρ)) rfl r hS hN hN2 (c := 2) (z := 2) rfl (by omega), mGF m488]) (fun ρ D' hS r => by
    rw [tlS, vL_law_372, if_pos rfl])
  refine ⟨ω2, D2, A, ?_, q2⟩
  rw [vL_law_340, sIA w1 w2 w3 hN hN2 (c := 1) (z := 1) rfl (by omega), sIA w1 w2 w3 hN hN2 (c := 2) (z := 2) rfl (by omega), aGF kC]
  exact q1
theorem law_c5 (hL : LI D0 k ω D A) (hs : ∀ j, -2147483648 ≤ D0 1000000 j ∧ D0 1000000 j < 2147483648) (hN : D0 1000001 0 = (N : Int)) (hN2 : N ≤ 3072) (hi : i + 6 ≤ N) : ∃ ω2 D2 A2, Vl (d + 49) 297 377 [some (.inr (.inr (some jSCR))), some (.inr (.inr (some 0))), some (.inr (.inr (some 488))), some (.inr (.inr (some 539))), some (.inl (i : Int)), u5, u6] [] (hp ω D) = Vl (d + 49) 297 1549 [some (.inr (.inr (some jSCR))), some (.inr (.inr (some 0))), some (.inr (.inr (some 488))), some (.inr (.inr (some 539))), some (.inl (i : Int)), u5, u6] [] (hp ω2 D2) ∧ LI D0 k ω2 D2 A2 := by
  have w1 := hL.1.1
  have w2 : ω.2.2.1 ≤ 1000 := Nat.le_trans hL.1.2.2.1 hL.1.2.2.2
  have w3 := hL.2.2.2
  have hC : CO ω D A (oTurned A (D0 1000000 (i + 1)) (D0 1000000 (i + 2))) _ := CO_p hL.2.1 (turned_op (d := d + 47) hL.2.1 (D0 1000000 (i + 1)) (D0 1000000 (i + 2)))
  obtain ⟨ω2, D2, q1, q2⟩ := law_op (dd := d + 48) (yy := 194) (NEXT := fun h => Vl (d + 49) 297 1549 [some (.inr (.inr (some jSCR))), some (.inr (.inr (some 0))), some (.inr (.inr (some 488))), some (.inr (.inr (some 539))), some (.inl (i : Int)), u5, u6] [] h) (K1 := fun r1 h2 => Vl (d + 49) 297 393 [some (.inr (.inr (some jSCR))), some (.inr (.inr (some 0))), some (.inr (.inr (some 488))), some (.inr (.inr (some 539))), some (.inl (i : Int)), u5, u6] (r1.toList ++ []) h2) (K2 := fun r1 h2 => Vl (d + 49) 297 409 [some (.inr (.inr (some jSCR))), some (.inr (.inr (some 0))), some (.inr (.inr (some 488))), some (.inr (.inr (some 539))), some (.inl (i : Int)), u5, u6] (r1.toList ++ [.inl (oTurned A (D0 1000000 (i + 1)) (D0 1000000 (i + 2)))]) h2) hL hC (fun ρ D' h => MO_l (mturned_op (d := d + 46) h (D0 1000000 (i + 1)) (D0 1000000 (i + 2)))) (fun ρ D' hS r => by
    rw [tlS, vL_law_393, sIA (ω := (1, ρ)) rfl r hS hN hN2 (c := 1) (z := 1) rfl (by omega), sIA (ω := (1, ρ)) rfl r hS hN hN2 (c := 2) (z := 2) rfl (by omega), mGF m488]) (fun ρ D' hS r => by
    rw [tlS, vL_law_409, if_pos rfl])
  refine ⟨ω2, D2, A, ?_, q2⟩
  rw [vL_law_377, sIA w1 w2 w3 hN hN2 (c := 1) (z := 1) rfl (by omega), sIA w1 w2 w3 hN hN2 (c := 2) (z := 2) rfl (by omega), aGF kC]
  exact q1
theorem law_c6 (hL : LI D0 k ω D A) (hs : ∀ j, -2147483648 ≤ D0 1000000 j ∧ D0 1000000 j < 2147483648) (hN : D0 1000001 0 = (N : Int)) (hN2 : N ≤ 3072) (hi : i + 6 ≤ N) : ∃ ω2 D2 A2, Vl (d + 49) 297 414 [some (.inr (.inr (some jSCR))), some (.inr (.inr (some 0))), some (.inr (.inr (some 488))), some (.inr (.inr (some 539))), some (.inl (i : Int)), u5, u6] [] (hp ω D) = Vl (d + 49) 297 1549 [some (.inr (.inr (some jSCR))), some (.inr (.inr (some 0))), some (.inr (.inr (some 488))), some (.inr (.inr (some 539))), some (.inl (i : Int)), u5, u6] [] (hp ω2 D2) ∧ LI D0 k ω2 D2 A2 := by
  have w1 := hL.1.1
  have w2 : ω.2.2.1 ≤ 1000 := Nat.le_trans hL.1.2.2.1 hL.1.2.2.2
  have w3 := hL.2.2.2
  have hC : CO ω D A (oSlope A (D0 1000000 (i + 1))) _ := CO_p hL.2.1 (slope_op (d := d + 47) hL.2.1 (D0 1000000 (i + 1)))
  obtain ⟨ω2, D2, q1, q2⟩ := law_op (dd := d + 48) (yy := 197) (NEXT := fun h => Vl (d + 49) 297 1549 [some (.inr (.inr (some jSCR))), some (.inr (.inr (some 0))), some (.inr (.inr (some 488))), some (.inr (.inr (some 539))), some (.inl (i : Int)), u5, u6] [] h) (K1 := fun r1 h2 => Vl (d + 49) 297 424 [some (.inr (.inr (some jSCR))), some (.inr (.inr (some 0))), some (.inr (.inr (some 488))), some (.inr (.inr (some 539))), some (.inl (i : Int)), u5, u6] (r1.toList ++ []) h2) (K2 := fun r1 h2 => Vl (d + 49) 297 434 [some (.inr (.inr (some jSCR))), some (.inr (.inr (some 0))), some (.inr (.inr (some 488))), some (.inr (.inr (some 539))), some (.inl (i : Int)), u5, u6] (r1.toList ++ [.inl (oSlope A (D0 1000000 (i + 1)))]) h2) hL hC (fun ρ D' h => MO_l (mslope_op (d := d + 45) h (D0 1000000 (i + 1)))) (fun ρ D' hS r => by
    rw [tlS, vL_law_424, sIA (ω := (1, ρ)) rfl r hS hN hN2 (c := 1) (z := 1) rfl (by omega), mGF m488]) (fun ρ D' hS r => by
    rw [tlS, vL_law_434, if_pos rfl])
  refine ⟨ω2, D2, A, ?_, q2⟩
  rw [vL_law_414, sIA w1 w2 w3 hN hN2 (c := 1) (z := 1) rfl (by omega), aGF kC]
  exact q1
theorem law_c9 (hL : LI D0 k ω D A) (hs : ∀ j, -2147483648 ≤ D0 1000000 j ∧ D0 1000000 j < 2147483648) (hN : D0 1000001 0 = (N : Int)) (hN2 : N ≤ 3072) (hi : i + 6 ≤ N) : ∃ ω2 D2 A2, Vl (d + 49) 297 563 [some (.inr (.inr (some jSCR))), some (.inr (.inr (some 0))), some (.inr (.inr (some 488))), some (.inr (.inr (some 539))), some (.inl (i : Int)), u5, u6] [] (hp ω D) = Vl (d + 49) 297 1549 [some (.inr (.inr (some jSCR))), some (.inr (.inr (some 0))), some (.inr (.inr (some 488))), some (.inr (.inr (some 539))), some (.inl (i : Int)), u5, u6] [] (hp ω2 D2) ∧ LI D0 k ω2 D2 A2 := by
  have w1 := hL.1.1
  have w2 : ω.2.2.1 ≤ 1000 := Nat.le_trans hL.1.2.2.1 hL.1.2.2.2
  have w3 := hL.2.2.2
  have hC : CO ω D (oMakes A (D0 1000000 (i + 1)) (D0 1000000 (i + 2)) (D0 1000000 (i + 3))).2 (oMakes A (D0 1000000 (i + 1)) (D0 1000000 (i + 2)) (D0 1000000 (i + 3))).1 _ := CO_d (makes_op (d := d + 45) hL.2.1 (D0 1000000 (i + 1)) (D0 1000000 (i + 2)) (D0 1000000 (i + 3)) )
  obtain ⟨ω2, D2, q1, q2⟩ := law_op (dd := d + 48) (yy := 246) (NEXT := fun h => Vl (d + 49) 297 1549 [some (.inr (.inr (some jSCR))), some (.inr (.inr (some 0))), some (.inr (.inr (some 488))), some (.inr (.inr (some 539))), some (.inl (i : Int)), u5, u6] [] h) (K1 := fun r1 h2 => Vl (d + 49) 297 585 [some (.inr (.inr (some jSCR))), some (.inr (.inr (some 0))), some (.inr (.inr (some 488))), some (.inr (.inr (some 539))), some (.inl (i : Int)), u5, u6] (r1.toList ++ []) h2) (K2 := fun r1 h2 => Vl (d + 49) 297 607 [some (.inr (.inr (some jSCR))), some (.inr (.inr (some 0))), some (.inr (.inr (some 488))), some (.inr (.inr (some 539))), some (.inl (i : Int)), u5, u6] (r1.toList ++ [.inl (oMakes A (D0 1000000 (i + 1)) (D0 1000000 (i + 2)) (D0 1000000 (i + 3))).1]) h2) hL hC (fun ρ D' h => MO_l (mmakes_op (d := d + 43) h (D0 1000000 (i + 1)) (D0 1000000 (i + 2)) (D0 1000000 (i + 3)) )) (fun ρ D' hS r => by
    rw [tlS, vL_law_585, sIA (ω := (1, ρ)) rfl r hS hN hN2 (c := 1) (z := 1) rfl (by omega), sIA (ω := (1, ρ)) rfl r hS hN hN2 (c := 2) (z := 2) rfl (by omega), sIA (ω := (1, ρ)) rfl r hS hN hN2 (c := 3) (z := 3) rfl (by omega), mGF m488]) (fun ρ D' hS r => by
    rw [tlS, vL_law_607, if_pos rfl])
  refine ⟨ω2, D2, (oMakes A (D0 1000000 (i + 1)) (D0 1000000 (i + 2)) (D0 1000000 (i + 3))).2, ?_, q2⟩
  rw [vL_law_563, sIA w1 w2 w3 hN hN2 (c := 1) (z := 1) rfl (by omega), sIA w1 w2 w3 hN hN2 (c := 2) (z := 2) rfl (by omega), sIA w1 w2 w3 hN hN2 (c := 3) (z := 3) rfl (by omega), aGF kC]
  exact q1
theorem law_c10 (hL : LI D0 k ω D A) (hs : ∀ j, -2147483648 ≤ D0 1000000 j ∧ D0 1000000 j < 2147483648) (hN : D0 1000001 0 = (N : Int)) (hN2 : N ≤ 3072) (hi : i + 6 ≤ N) : ∃ ω2 D2 A2, Vl (d + 49) 297 612 [some (.inr (.inr (some jSCR))), some (.inr (.inr (some 0))), some (.inr (.inr (some 488))), some (.inr (.inr (some 539))), some (.inl (i : Int)), u5, u6] [] (hp ω D) = Vl (d + 49) 297 1549 [some (.inr (.inr (some jSCR))), some (.inr (.inr (some 0))), some (.inr (.inr (some 488))), some (.inr (.inr (some 539))), some (.inl (i : Int)), u5, u6] [] (hp ω2 D2) ∧ LI D0 k ω2 D2 A2 := by
  have w1 := hL.1.1
  have w2 : ω.2.2.1 ≤ 1000 := Nat.le_trans hL.1.2.2.1 hL.1.2.2.2
  have w3 := hL.2.2.2
  have hC : CO ω D (oDivides A (D0 1000000 (i + 1)) (D0 1000000 (i + 2)) (D0 1000000 (i + 3))).2 (oDivides A (D0 1000000 (i + 1)) (D0 1000000 (i + 2)) (D0 1000000 (i + 3))).1 _ := CO_d (divides_op (d := d + 45) hL.2.1 (D0 1000000 (i + 1)) (D0 1000000 (i + 2)) (D0 1000000 (i + 3)) )
  obtain ⟨ω2, D2, q1, q2⟩ := law_op (dd := d + 48) (yy := 249) (NEXT := fun h => Vl (d + 49) 297 1549 [some (.inr (.inr (some jSCR))), some (.inr (.inr (some 0))), some (.inr (.inr (some 488))), some (.inr (.inr (some 539))), some (.inl (i : Int)), u5, u6] [] h) (K1 := fun r1 h2 => Vl (d + 49) 297 634 [some (.inr (.inr (some jSCR))), some (.inr (.inr (some 0))), some (.inr (.inr (some 488))), some (.inr (.inr (some 539))), some (.inl (i : Int)), u5, u6] (r1.toList ++ []) h2) (K2 := fun r1 h2 => Vl (d + 49) 297 656 [some (.inr (.inr (some jSCR))), some (.inr (.inr (some 0))), some (.inr (.inr (some 488))), some (.inr (.inr (some 539))), some (.inl (i : Int)), u5, u6] (r1.toList ++ [.inl (oDivides A (D0 1000000 (i + 1)) (D0 1000000 (i + 2)) (D0 1000000 (i + 3))).1]) h2) hL hC (fun ρ D' h => MO_l (mdivides_op (d := d + 41) h (D0 1000000 (i + 1)) (D0 1000000 (i + 2)) (D0 1000000 (i + 3)) )) (fun ρ D' hS r => by
    rw [tlS, vL_law_634, sIA (ω := (1, ρ)) rfl r hS hN hN2 (c := 1) (z := 1) rfl (by omega), sIA (ω := (1, ρ)) rfl r hS hN hN2 (c := 2) (z := 2) rfl (by omega), sIA (ω := (1, ρ)) rfl r hS hN hN2 (c := 3) (z := 3) rfl (by omega), mGF m488]) (fun ρ D' hS r => by
    rw [tlS, vL_law_656, if_pos rfl])
  refine ⟨ω2, D2, (oDivides A (D0 1000000 (i + 1)) (D0 1000000 (i + 2)) (D0 1000000 (i + 3))).2, ?_, q2⟩
  rw [vL_law_612, sIA w1 w2 w3 hN hN2 (c := 1) (z := 1) rfl (by omega), sIA w1 w2 w3 hN hN2 (c := 2) (z := 2) rfl (by omega), sIA w1 w2 w3 hN hN2 (c := 3) (z := 3) rfl (by omega), aGF kC]
  exact q1
theorem law_c11 (hL : LI D0 k ω D A) (hs : ∀ j, -2147483648 ≤ D0 1000000 j ∧ D0 1000000 j < 2147483648) (hN : D0 1000001 0 = (N : Int)) (hN2 : N ≤ 3072) (hi : i + 6 ≤ N) : ∃ ω2 D2 A2, Vl (d + 49) 297 661 [some (.inr (.inr (some jSCR))), some (.inr (.inr (some 0))), some (.inr (.inr (some 488))), some (.inr (.inr (some 539))), some (.inl (i : Int)), u5, u6] [] (hp ω D) = Vl (d + 49) 297 1549 [some (.inr (.inr (some jSCR))), some (.inr (.inr (some 0))), some (.inr (.inr (some 488))), some (.inr (.inr (some 539))), some (.inl (i : Int)), u5, u6] [] (hp ω2 D2) ∧ LI D0 k ω2 D2 A2 := by
  have w1 := hL.1.1
  have w2 : ω.2.2.1 ≤ 1000 := Nat.le_trans hL.1.2.2.1 hL.1.2.2.2
  have w3 := hL.2.2.2
  have hC : CO ω D (oCommon A (D0 1000000 (i + 1)) (D0 1000000 (i + 2)) (D0 1000000 (i + 3))).2 (oCommon A (D0 1000000 (i + 1)) (D0 1000000 (i + 2)) (D0 1000000 (i + 3))).1 _ := CO_d (common_op (d := d + 44) hL.2.1 (D0 1000000 (i + 1)) (D0 1000000 (i + 2)) (D0 1000000 (i + 3)) )
  obtain ⟨ω2, D2, q1, q2⟩ := law_op (dd := d + 48) (yy := 250) (NEXT := fun h => Vl (d + 49) 297 1549 [some (.inr (.inr (some jSCR))), some (.inr (.inr (some 0))), some (.inr (.inr (some 488))), some (.inr (.inr (some 539))), some (.inl (i : Int)), u5, u6] [] h) (K1 := fun r1 h2 => Vl (d + 49) 297 683 [some (.inr (.inr (some jSCR))), some (.inr (.inr (some 0))), some (.inr (.inr (some 488))), some (.inr (.inr (some 539))), some (.inl (i : Int)), u5, u6] (r1.toList ++ []) h2) (K2 := fun r1 h2 => Vl (d + 49) 297 705 [some (.inr (.inr (some jSCR))), some (.inr (.inr (some 0))), some (.inr (.inr (some 488))), some (.inr (.inr (some 539))), some (.inl (i : Int)), u5, u6] (r1.toList ++ [.inl (oCommon A (D0 1000000 (i + 1)) (D0 1000000 (i + 2)) (D0 1000000 (i + 3))).1]) h2) hL hC (fun ρ D' h => MO_l (mcommon_op (d := d + 40) h (D0 1000000 (i + 1)) (D0 1000000 (i + 2)) (D0 1000000 (i + 3)) )) (fun ρ D' hS r => by
    rw [tlS, vL_law_683, sIA (ω := (1, ρ)) rfl r hS hN hN2 (c := 1) (z := 1) rfl (by omega), sIA (ω := (1, ρ)) rfl r hS hN hN2 (c := 2) (z := 2) rfl (by omega), sIA (ω := (1, ρ)) rfl r hS hN hN2 (c := 3) (z := 3) rfl (by omega), mGF m488]) (fun ρ D' hS r => by
    rw [tlS, vL_law_705, if_pos rfl])
  refine ⟨ω2, D2, (oCommon A (D0 1000000 (i + 1)) (D0 1000000 (i + 2)) (D0 1000000 (i + 3))).2, ?_, q2⟩
  rw [vL_law_661, sIA w1 w2 w3 hN hN2 (c := 1) (z := 1) rfl (by omega), sIA w1 w2 w3 hN hN2 (c := 2) (z := 2) rfl (by omega), sIA w1 w2 w3 hN hN2 (c := 3) (z := 3) rfl (by omega), aGF kC]
  exact q1
theorem law_c12 (hL : LI D0 k ω D A) (hs : ∀ j, -2147483648 ≤ D0 1000000 j ∧ D0 1000000 j < 2147483648) (hN : D0 1000001 0 = (N : Int)) (hN2 : N ≤ 3072) (hi : i + 6 ≤ N) : ∃ ω2 D2 A2, Vl (d + 49) 297 710 [some (.inr (.inr (some jSCR))), some (.inr (.inr (some 0))), some (.inr (.inr (some 488))), some (.inr (.inr (some 539))), some (.inl (i : Int)), u5, u6] [] (hp ω D) = Vl (d + 49) 297 1549 [some (.inr (.inr (some jSCR))), some (.inr (.inr (some 0))), some (.inr (.inr (some 488))), some (.inr (.inr (some 539))), some (.inl (i : Int)), u5, u6] [] (hp ω2 D2) ∧ LI D0 k ω2 D2 A2 := by
  have w1 := hL.1.1
  have w2 : ω.2.2.1 ≤ 1000 := Nat.le_trans hL.1.2.2.1 hL.1.2.2.2
  have w3 := hL.2.2.2
  have hC : CO ω D (oMultiple A (D0 1000000 (i + 1)) (D0 1000000 (i + 2)) (D0 1000000 (i + 3))).2 (oMultiple A (D0 1000000 (i + 1)) (D0 1000000 (i + 2)) (D0 1000000 (i + 3))).1 _ := CO_d (multiple_op (d := d + 44) hL.2.1 (D0 1000000 (i + 1)) (D0 1000000 (i + 2)) (D0 1000000 (i + 3)) )
  obtain ⟨ω2, D2, q1, q2⟩ := law_op (dd := d + 48) (yy := 251) (NEXT := fun h => Vl (d + 49) 297 1549 [some (.inr (.inr (some jSCR))), some (.inr (.inr (some 0))), some (.inr (.inr (some 488))), some (.inr (.inr (some 539))), some (.inl (i : Int)), u5, u6] [] h) (K1 := fun r1 h2 => Vl (d + 49) 297 732 [some (.inr (.inr (some jSCR))), some (.inr (.inr (some 0))), some (.inr (.inr (some 488))), some (.inr (.inr (some 539))), some (.inl (i : Int)), u5, u6] (r1.toList ++ []) h2) (K2 := fun r1 h2 => Vl (d + 49) 297 754 [some (.inr (.inr (some jSCR))), some (.inr (.inr (some 0))), some (.inr (.inr (some 488))), some (.inr (.inr (some 539))), some (.inl (i : Int)), u5, u6] (r1.toList ++ [.inl (oMultiple A (D0 1000000 (i + 1)) (D0 1000000 (i + 2)) (D0 1000000 (i + 3))).1]) h2) hL hC (fun ρ D' h => MO_l (mmultiple_op (d := d + 39) h (D0 1000000 (i + 1)) (D0 1000000 (i + 2)) (D0 1000000 (i + 3)) )) (fun ρ D' hS r => by
    rw [tlS, vL_law_732, sIA (ω := (1, ρ)) rfl r hS hN hN2 (c := 1) (z := 1) rfl (by omega), sIA (ω := (1, ρ)) rfl r hS hN hN2 (c := 2) (z := 2) rfl (by omega), sIA (ω := (1, ρ)) rfl r hS hN hN2 (c := 3) (z := 3) rfl (by omega), mGF m488]) (fun ρ D' hS r => by
    rw [tlS, vL_law_754, if_pos rfl])
  refine ⟨ω2, D2, (oMultiple A (D0 1000000 (i + 1)) (D0 1000000 (i + 2)) (D0 1000000 (i + 3))).2, ?_, q2⟩
  rw [vL_law_710, sIA w1 w2 w3 hN hN2 (c := 1) (z := 1) rfl (by omega), sIA w1 w2 w3 hN hN2 (c := 2) (z := 2) rfl (by omega), sIA w1 w2 w3 hN hN2 (c := 3) (z := 3) rfl (by omega), aGF kC]
  exact q1
theorem law_c14 (hL : LI D0 k ω D A) (hs : ∀ j, -2147483648 ≤ D0 1000000 j ∧ D0 1000000 j < 2147483648) (hN : D0 1000001 0 = (N : Int)) (hN2 : N ≤ 3072) (hi : i + 6 ≤ N) : ∃ ω2 D2 A2, Vl (d + 49) 297 827 [some (.inr (.inr (some jSCR))), some (.inr (.inr (some 0))), some (.inr (.inr (some 488))), some (.inr (.inr (some 539))), some (.inl (i : Int)), u5, u6] [] (hp ω D) = Vl (d + 49) 297 1549 [some (.inr (.inr (some jSCR))), some (.inr (.inr (some 0))), some (.inr (.inr (some 488))), some (.inr (.inr (some 539))), some (.inl (i : Int)), u5, u6] [] (hp ω2 D2) ∧ LI D0 k ω2 D2 A2 := by
  have w1 := hL.1.1
  have w2 : ω.2.2.1 ≤ 1000 := Nat.le_trans hL.1.2.2.1 hL.1.2.2.2
  have w3 := hL.2.2.2
  have hC : CO ω D A (oResultDegree A (D0 1000000 (i + 1))) _ := CO_p hL.2.1 (resultDegree_op (d := d + 47) hL.2.1 (D0 1000000 (i + 1)))
  obtain ⟨ω2, D2, q1, q2⟩ := law_op (dd := d + 48) (yy := 253) (NEXT := fun h => Vl (d + 49) 297 1549 [some (.inr (.inr (some jSCR))), some (.inr (.inr (some 0))), some (.inr (.inr (some 488))), some (.inr (.inr (some 539))), some (.inl (i : Int)), u5, u6] [] h) (K1 := fun r1 h2 => Vl (d + 49) 297 837 [some (.inr (.inr (some jSCR))), some (.inr (.inr (some 0))), some (.inr (.inr (some 488))), some (.inr (.inr (some 539))), some (.inl (i : Int)), u5, u6] (r1.toList ++ []) h2) (K2 := fun r1 h2 => Vl (d + 49) 297 847 [some (.inr (.inr (some jSCR))), some (.inr (.inr (some 0))), some (.inr (.inr (some 488))), some (.inr (.inr (some 539))), some (.inl (i : Int)), u5, u6] (r1.toList ++ [.inl (oResultDegree A (D0 1000000 (i + 1)))]) h2) hL hC (fun ρ D' h => MO_l (mresultDegree_op (d := d + 46) h (D0 1000000 (i + 1)))) (fun ρ D' hS r => by
    rw [tlS, vL_law_837, sIA (ω := (1, ρ)) rfl r hS hN hN2 (c := 1) (z := 1) rfl (by omega), mGF m488]) (fun ρ D' hS r => by
    rw [tlS, vL_law_847, if_pos rfl])
  refine ⟨ω2, D2, A, ?_, q2⟩
  rw [vL_law_827, sIA w1 w2 w3 hN hN2 (c := 1) (z := 1) rfl (by omega), aGF kC]
  exact q1
theorem law_c15 (hL : LI D0 k ω D A) (hs : ∀ j, -2147483648 ≤ D0 1000000 j ∧ D0 1000000 j < 2147483648) (hN : D0 1000001 0 = (N : Int)) (hN2 : N ≤ 3072) (hi : i + 6 ≤ N) : ∃ ω2 D2 A2, Vl (d + 49) 297 852 [some (.inr (.inr (some jSCR))), some (.inr (.inr (some 0))), some (.inr (.inr (some 488))), some (.inr (.inr (some 539))), some (.inl (i : Int)), u5, u6] [] (hp ω D) = Vl (d + 49) 297 1549 [some (.inr (.inr (some jSCR))), some (.inr (.inr (some 0))), some (.inr (.inr (some 488))), some (.inr (.inr (some 539))), some (.inl (i : Int)), u5, u6] [] (hp ω2 D2) ∧ LI D0 k ω2 D2 A2 := by
  have w1 := hL.1.1
  have w2 : ω.2.2.1 ≤ 1000 := Nat.le_trans hL.1.2.2.1 hL.1.2.2.2
  have w3 := hL.2.2.2
  have hC : CO ω D (oKeep A (D0 1000000 (i + 1)) (D0 1000000 (i + 2))).2 (oKeep A (D0 1000000 (i + 1)) (D0 1000000 (i + 2))).1 _ := CO_d (keep_op (d := d + 45) hL.2.1 (D0 1000000 (i + 1)) (D0 1000000 (i + 2)) )
  obtain ⟨ω2, D2, q1, q2⟩ := law_op (dd := d + 48) (yy := 254) (NEXT := fun h => Vl (d + 49) 297 1549 [some (.inr (.inr (some jSCR))), some (.inr (.inr (some 0))), some (.inr (.inr (some 488))), some (.inr (.inr (some 539))), some (.inl (i : Int)), u5, u6] [] h) (K1 := fun r1 h2 => Vl (d + 49) 297 868 [some (.inr (.inr (some jSCR))), some (.inr (.inr (some 0))), some (.inr (.inr (some 488))), some (.inr (.inr (some 539))), some (.inl (i : Int)), u5, u6] (r1.toList ++ []) h2) (K2 := fun r1 h2 => Vl (d + 49) 297 884 [some (.inr (.inr (some jSCR))), some (.inr (.inr (some 0))), some (.inr (.inr (some 488))), some (.inr (.inr (some 539))), some (.inl (i : Int)), u5, u6] (r1.toList ++ [.inl (oKeep A (D0 1000000 (i + 1)) (D0 1000000 (i + 2))).1]) h2) hL hC (fun ρ D' h => MO_l (mkeep_op (d := d + 46) h (D0 1000000 (i + 1)) (D0 1000000 (i + 2)) )) (fun ρ D' hS r => by
    rw [tlS, vL_law_868, sIA (ω := (1, ρ)) rfl r hS hN hN2 (c := 1) (z := 1) rfl (by omega), sIA (ω := (1, ρ)) rfl r hS hN hN2 (c := 2) (z := 2) rfl (by omega), mGF m488]) (fun ρ D' hS r => by
    rw [tlS, vL_law_884, if_pos rfl])
  refine ⟨ω2, D2, (oKeep A (D0 1000000 (i + 1)) (D0 1000000 (i + 2))).2, ?_, q2⟩
  rw [vL_law_852, sIA w1 w2 w3 hN hN2 (c := 1) (z := 1) rfl (by omega), sIA w1 w2 w3 hN hN2 (c := 2) (z := 2) rfl (by omega), aGF kC]
  exact q1
theorem law_c16 (hL : LI D0 k ω D A) (hs : ∀ j, -2147483648 ≤ D0 1000000 j ∧ D0 1000000 j < 2147483648) (hN : D0 1000001 0 = (N : Int)) (hN2 : N ≤ 3072) (hi : i + 6 ≤ N) : ∃ ω2 D2 A2, Vl (d + 49) 297 889 [some (.inr (.inr (some jSCR))), some (.inr (.inr (some 0))), some (.inr (.inr (some 488))), some (.inr (.inr (some 539))), some (.inl (i : Int)), u5, u6] [] (hp ω D) = Vl (d + 49) 297 1549 [some (.inr (.inr (some jSCR))), some (.inr (.inr (some 0))), some (.inr (.inr (some 488))), some (.inr (.inr (some 539))), some (.inl (i : Int)), u5, u6] [] (hp ω2 D2) ∧ LI D0 k ω2 D2 A2 := by
  have w1 := hL.1.1
  have w2 : ω.2.2.1 ≤ 1000 := Nat.le_trans hL.1.2.2.1 hL.1.2.2.2
  have w3 := hL.2.2.2
  have hC : CO ω D (oUndo A).2 (oUndo A).1 _ := CO_d (undo_op (d := d + 45) hL.2.1  )
  obtain ⟨ω2, D2, q1, q2⟩ := law_op (dd := d + 48) (yy := 255) (NEXT := fun h => Vl (d + 49) 297 1549 [some (.inr (.inr (some jSCR))), some (.inr (.inr (some 0))), some (.inr (.inr (some 488))), some (.inr (.inr (some 539))), some (.inl (i : Int)), u5, u6] [] h) (K1 := fun r1 h2 => Vl (d + 49) 297 893 [some (.inr (.inr (some jSCR))), some (.inr (.inr (some 0))), some (.inr (.inr (some 488))), some (.inr (.inr (some 539))), some (.inl (i : Int)), u5, u6] (r1.toList ++ []) h2) (K2 := fun r1 h2 => Vl (d + 49) 297 897 [some (.inr (.inr (some jSCR))), some (.inr (.inr (some 0))), some (.inr (.inr (some 488))), some (.inr (.inr (some 539))), some (.inl (i : Int)), u5, u6] (r1.toList ++ [.inl (oUndo A).1]) h2) hL hC (fun ρ D' h => MO_l (mundo_op (d := d + 46) h  )) (fun ρ D' hS r => by
    rw [tlS, vL_law_893, mGF m488]) (fun ρ D' hS r => by
    rw [tlS, vL_law_897, if_pos rfl])
  refine ⟨ω2, D2, (oUndo A).2, ?_, q2⟩
  rw [vL_law_889, aGF kC]
  exact q1
theorem law_c17 (hL : LI D0 k ω D A) (hs : ∀ j, -2147483648 ≤ D0 1000000 j ∧ D0 1000000 j < 2147483648) (hN : D0 1000001 0 = (N : Int)) (hN2 : N ≤ 3072) (hi : i + 6 ≤ N) : ∃ ω2 D2 A2, Vl (d + 49) 297 902 [some (.inr (.inr (some jSCR))), some (.inr (.inr (some 0))), some (.inr (.inr (some 488))), some (.inr (.inr (some 539))), some (.inl (i : Int)), u5, u6] [] (hp ω D) = Vl (d + 49) 297 1549 [some (.inr (.inr (some jSCR))), some (.inr (.inr (some 0))), some (.inr (.inr (some 488))), some (.inr (.inr (some 539))), some (.inl (i : Int)), u5, u6] [] (hp ω2 D2) ∧ LI D0 k ω2 D2 A2 := by
  have w1 := hL.1.1
  have w2 : ω.2.2.1 ≤ 1000 := Nat.le_trans hL.1.2.2.1 hL.1.2.2.2
  have w3 := hL.2.2.2
  have hC : CO ω D A (oValue A (D0 1000000 (i + 1)) (D0 1000000 (i + 2))) _ := CO_p hL.2.1 (value_op (d := d + 45) hL.2.1 (D0 1000000 (i + 1)) (D0 1000000 (i + 2)))
  obtain ⟨ω2, D2, q1, q2⟩ := law_op (dd := d + 48) (yy := 256) (NEXT := fun h => Vl (d + 49) 297 1549 [some (.inr (.inr (some jSCR))), some (.inr (.inr (some 0))), some (.inr (.inr (some 488))), some (.inr (.inr (some 539))), some (.inl (i : Int)), u5, u6] [] h) (K1 := fun r1 h2 => Vl (d + 49) 297 918 [some (.inr (.inr (some jSCR))), some (.inr (.inr (some 0))), some (.inr (.inr (some 488))), some (.inr (.inr (some 539))), some (.inl (i : Int)), u5, u6] (r1.toList ++ []) h2) (K2 := fun r1 h2 => Vl (d + 49) 297 934 [some (.inr (.inr (some jSCR))), some (.inr (.inr (some 0))), some (.inr (.inr (some 488))), some (.inr (.inr (some 539))), some (.inl (i : Int)), u5, u6] (r1.toList ++ [.inl (oValue A (D0 1000000 (i + 1)) (D0 1000000 (i + 2)))]) h2) hL hC (fun ρ D' h => MO_l (mvalue_op (d := d + 40) h (D0 1000000 (i + 1)) (D0 1000000 (i + 2)))) (fun ρ D' hS r => by
    rw [tlS, vL_law_918, sIA (ω := (1, ρ)) rfl r hS hN hN2 (c := 1) (z := 1) rfl (by omega), sIA (ω := (1, ρ)) rfl r hS hN hN2 (c := 2) (z := 2) rfl (by omega), mGF m488]) (fun ρ D' hS r => by
    rw [tlS, vL_law_934, if_pos rfl])
  refine ⟨ω2, D2, A, ?_, q2⟩
  rw [vL_law_902, sIA w1 w2 w3 hN hN2 (c := 1) (z := 1) rfl (by omega), sIA w1 w2 w3 hN hN2 (c := 2) (z := 2) rfl (by omega), aGF kC]
  exact q1
theorem law_c18 (hL : LI D0 k ω D A) (hs : ∀ j, -2147483648 ≤ D0 1000000 j ∧ D0 1000000 j < 2147483648) (hN : D0 1000001 0 = (N : Int)) (hN2 : N ≤ 3072) (hi : i + 6 ≤ N) : ∃ ω2 D2 A2, Vl (d + 49) 297 939 [some (.inr (.inr (some jSCR))), some (.inr (.inr (some 0))), some (.inr (.inr (some 488))), some (.inr (.inr (some 539))), some (.inl (i : Int)), u5, u6] [] (hp ω D) = Vl (d + 49) 297 1549 [some (.inr (.inr (some jSCR))), some (.inr (.inr (some 0))), some (.inr (.inr (some 488))), some (.inr (.inr (some 539))), some (.inl (i : Int)), u5, u6] [] (hp ω2 D2) ∧ LI D0 k ω2 D2 A2 := by
  have w1 := hL.1.1
  have w2 : ω.2.2.1 ≤ 1000 := Nat.le_trans hL.1.2.2.1 hL.1.2.2.2
  have w3 := hL.2.2.2
  have hC : CO ω D A (oApplied A (D0 1000000 (i + 1)) (D0 1000000 (i + 2)) (D0 1000000 (i + 3))) _ := CO_p hL.2.1 (applied_op (d := d + 45) hL.2.1 (D0 1000000 (i + 1)) (D0 1000000 (i + 2)) (D0 1000000 (i + 3)))
  obtain ⟨ω2, D2, q1, q2⟩ := law_op (dd := d + 48) (yy := 258) (NEXT := fun h => Vl (d + 49) 297 1549 [some (.inr (.inr (some jSCR))), some (.inr (.inr (some 0))), some (.inr (.inr (some 488))), some (.inr (.inr (some 539))), some (.inl (i : Int)), u5, u6] [] h) (K1 := fun r1 h2 => Vl (d + 49) 297 961 [some (.inr (.inr (some jSCR))), some (.inr (.inr (some 0))), some (.inr (.inr (some 488))), some (.inr (.inr (some 539))), some (.inl (i : Int)), u5, u6] (r1.toList ++ []) h2) (K2 := fun r1 h2 => Vl (d + 49) 297 983 [some (.inr (.inr (some jSCR))), some (.inr (.inr (some 0))), some (.inr (.inr (some 488))), some (.inr (.inr (some 539))), some (.inl (i : Int)), u5, u6] (r1.toList ++ [.inl (oApplied A (D0 1000000 (i + 1)) (D0 1000000 (i + 2)) (D0 1000000 (i + 3)))]) h2) hL hC (fun ρ D' h => MO_l (mapplied_op (d := d + 44) h (D0 1000000 (i + 1)) (D0 1000000 (i + 2)) (D0 1000000 (i + 3)))) (fun ρ D' hS r => by
    rw [tlS, vL_law_961, sIA (ω := (1, ρ)) rfl r hS hN hN2 (c := 1) (z := 1) rfl (by omega), sIA (ω := (1, ρ)) rfl r hS hN hN2 (c := 2) (z := 2) rfl (by omega), sIA (ω := (1, ρ)) rfl r hS hN hN2 (c := 3) (z := 3) rfl (by omega), mGF m488]) (fun ρ D' hS r => by
    rw [tlS, vL_law_983, if_pos rfl])
  refine ⟨ω2, D2, A, ?_, q2⟩
  rw [vL_law_939, sIA w1 w2 w3 hN hN2 (c := 1) (z := 1) rfl (by omega), sIA w1 w2 w3 hN hN2 (c := 2) (z := 2) rfl (by omega), sIA w1 w2 w3 hN hN2 (c := 3) (z := 3) rfl (by omega), aGF kC]
  exact q1
theorem law_c19 (hL : LI D0 k ω D A) (hs : ∀ j, -2147483648 ≤ D0 1000000 j ∧ D0 1000000 j < 2147483648) (hN : D0 1000001 0 = (N : Int)) (hN2 : N ≤ 3072) (hi : i + 6 ≤ N) : ∃ ω2 D2 A2, Vl (d + 49) 297 988 [some (.inr (.inr (some jSCR))), some (.inr (.inr (some 0))), some (.inr (.inr (some 488))), some (.inr (.inr (some 539))), some (.inl (i : Int)), u5, u6] [] (hp ω D) = Vl (d + 49) 297 1549 [some (.inr (.inr (some jSCR))), some (.inr (.inr (some 0))), some (.inr (.inr (some 488))), some (.inr (.inr (some 539))), some (.inl (i : Int)), u5, u6] [] (hp ω2 D2) ∧ LI D0 k ω2 D2 A2 := by
  have w1 := hL.1.1
  have w2 : ω.2.2.1 ≤ 1000 := Nat.le_trans hL.1.2.2.1 hL.1.2.2.2
  have w3 := hL.2.2.2
  have hC : CO ω D A (oRoots A (D0 1000000 (i + 1)) (D0 1000000 (i + 2))) _ := CO_p hL.2.1 (roots_op (d := d + 45) hL.2.1 (D0 1000000 (i + 1)) (D0 1000000 (i + 2)))
  obtain ⟨ω2, D2, q1, q2⟩ := law_op (dd := d + 48) (yy := 260) (NEXT := fun h => Vl (d + 49) 297 1549 [some (.inr (.inr (some jSCR))), some (.inr (.inr (some 0))), some (.inr (.inr (some 488))), some (.inr (.inr (some 539))), some (.inl (i : Int)), u5, u6] [] h) (K1 := fun r1 h2 => Vl (d + 49) 297 1004 [some (.inr (.inr (some jSCR))), some (.inr (.inr (some 0))), some (.inr (.inr (some 488))), some (.inr (.inr (some 539))), some (.inl (i : Int)), u5, u6] (r1.toList ++ []) h2) (K2 := fun r1 h2 => Vl (d + 49) 297 1020 [some (.inr (.inr (some jSCR))), some (.inr (.inr (some 0))), some (.inr (.inr (some 488))), some (.inr (.inr (some 539))), some (.inl (i : Int)), u5, u6] (r1.toList ++ [.inl (oRoots A (D0 1000000 (i + 1)) (D0 1000000 (i + 2)))]) h2) hL hC (fun ρ D' h => MO_l (mroots_op (d := d + 40) h (D0 1000000 (i + 1)) (D0 1000000 (i + 2)))) (fun ρ D' hS r => by
    rw [tlS, vL_law_1004, sIA (ω := (1, ρ)) rfl r hS hN hN2 (c := 1) (z := 1) rfl (by omega), sIA (ω := (1, ρ)) rfl r hS hN hN2 (c := 2) (z := 2) rfl (by omega), mGF m488]) (fun ρ D' hS r => by
    rw [tlS, vL_law_1020, if_pos rfl])
  refine ⟨ω2, D2, A, ?_, q2⟩
  rw [vL_law_988, sIA w1 w2 w3 hN hN2 (c := 1) (z := 1) rfl (by omega), sIA w1 w2 w3 hN hN2 (c := 2) (z := 2) rfl (by omega), aGF kC]
  exact q1
theorem law_c20 (hL : LI D0 k ω D A) (hs : ∀ j, -2147483648 ≤ D0 1000000 j ∧ D0 1000000 j < 2147483648) (hN : D0 1000001 0 = (N : Int)) (hN2 : N ≤ 3072) (hi : i + 6 ≤ N) : ∃ ω2 D2 A2, Vl (d + 49) 297 1025 [some (.inr (.inr (some jSCR))), some (.inr (.inr (some 0))), some (.inr (.inr (some 488))), some (.inr (.inr (some 539))), some (.inl (i : Int)), u5, u6] [] (hp ω D) = Vl (d + 49) 297 1549 [some (.inr (.inr (some jSCR))), some (.inr (.inr (some 0))), some (.inr (.inr (some 488))), some (.inr (.inr (some 539))), some (.inl (i : Int)), u5, u6] [] (hp ω2 D2) ∧ LI D0 k ω2 D2 A2 := by
  have w1 := hL.1.1
  have w2 : ω.2.2.1 ≤ 1000 := Nat.le_trans hL.1.2.2.1 hL.1.2.2.2
  have w3 := hL.2.2.2
  have hC : CO ω D A (oKin A (D0 1000000 (i + 1)) (D0 1000000 (i + 2))) _ := CO_p hL.2.1 (kin_op (d := d + 45) hL.2.1 (D0 1000000 (i + 1)) (D0 1000000 (i + 2)))
  obtain ⟨ω2, D2, q1, q2⟩ := law_op (dd := d + 48) (yy := 261) (NEXT := fun h => Vl (d + 49) 297 1549 [some (.inr (.inr (some jSCR))), some (.inr (.inr (some 0))), some (.inr (.inr (some 488))), some (.inr (.inr (some 539))), some (.inl (i : Int)), u5, u6] [] h) (K1 := fun r1 h2 => Vl (d + 49) 297 1041 [some (.inr (.inr (some jSCR))), some (.inr (.inr (some 0))), some (.inr (.inr (some 488))), some (.inr (.inr (some 539))), some (.inl (i : Int)), u5, u6] (r1.toList ++ []) h2) (K2 := fun r1 h2 => Vl (d + 49) 297 1057 [some (.inr (.inr (some jSCR))), some (.inr (.inr (some 0))), some (.inr (.inr (some 488))), some (.inr (.inr (some 539))), some (.inl (i : Int)), u5, u6] (r1.toList ++ [.inl (oKin A (D0 1000000 (i + 1)) (D0 1000000 (i + 2)))]) h2) hL hC (fun ρ D' h => MO_l (mkin_op (d := d + 44) h (D0 1000000 (i + 1)) (D0 1000000 (i + 2)))) (fun ρ D' hS r => by
    rw [tlS, vL_law_1041, sIA (ω := (1, ρ)) rfl r hS hN hN2 (c := 1) (z := 1) rfl (by omega), sIA (ω := (1, ρ)) rfl r hS hN hN2 (c := 2) (z := 2) rfl (by omega), mGF m488]) (fun ρ D' hS r => by
    rw [tlS, vL_law_1057, if_pos rfl])
  refine ⟨ω2, D2, A, ?_, q2⟩
  rw [vL_law_1025, sIA w1 w2 w3 hN hN2 (c := 1) (z := 1) rfl (by omega), sIA w1 w2 w3 hN hN2 (c := 2) (z := 2) rfl (by omega), aGF kC]
  exact q1
theorem law_c21 (hL : LI D0 k ω D A) (hs : ∀ j, -2147483648 ≤ D0 1000000 j ∧ D0 1000000 j < 2147483648) (hN : D0 1000001 0 = (N : Int)) (hN2 : N ≤ 3072) (hi : i + 6 ≤ N) : ∃ ω2 D2 A2, Vl (d + 49) 297 1062 [some (.inr (.inr (some jSCR))), some (.inr (.inr (some 0))), some (.inr (.inr (some 488))), some (.inr (.inr (some 539))), some (.inl (i : Int)), u5, u6] [] (hp ω D) = Vl (d + 49) 297 1549 [some (.inr (.inr (some jSCR))), some (.inr (.inr (some 0))), some (.inr (.inr (some 488))), some (.inr (.inr (some 539))), some (.inl (i : Int)), u5, u6] [] (hp ω2 D2) ∧ LI D0 k ω2 D2 A2 := by
  have w1 := hL.1.1
  have w2 : ω.2.2.1 ≤ 1000 := Nat.le_trans hL.1.2.2.1 hL.1.2.2.2
  have w3 := hL.2.2.2
  have hC : CO ω D A (oClasses A) _ := CO_d (classes_op (d := d + 44) hL.2.1  )
  obtain ⟨ω2, D2, q1, q2⟩ := law_op (dd := d + 48) (yy := 263) (NEXT := fun h => Vl (d + 49) 297 1549 [some (.inr (.inr (some jSCR))), some (.inr (.inr (some 0))), some (.inr (.inr (some 488))), some (.inr (.inr (some 539))), some (.inl (i : Int)), u5, u6] [] h) (K1 := fun r1 h2 => Vl (d + 49) 297 1066 [some (.inr (.inr (some jSCR))), some (.inr (.inr (some 0))), some (.inr (.inr (some 488))), some (.inr (.inr (some 539))), some (.inl (i : Int)), u5, u6] (r1.toList ++ []) h2) (K2 := fun r1 h2 => Vl (d + 49) 297 1070 [some (.inr (.inr (some jSCR))), some (.inr (.inr (some 0))), some (.inr (.inr (some 488))), some (.inr (.inr (some 539))), some (.inl (i : Int)), u5, u6] (r1.toList ++ [.inl (oClasses A)]) h2) hL hC (fun ρ D' h => MO_l (mclasses_op (d := d + 44) h  )) (fun ρ D' hS r => by
    rw [tlS, vL_law_1066, mGF m488]) (fun ρ D' hS r => by
    rw [tlS, vL_law_1070, if_pos rfl])
  refine ⟨ω2, D2, A, ?_, q2⟩
  rw [vL_law_1062, aGF kC]
  exact q1
theorem law_c22 (hL : LI D0 k ω D A) (hs : ∀ j, -2147483648 ≤ D0 1000000 j ∧ D0 1000000 j < 2147483648) (hN : D0 1000001 0 = (N : Int)) (hN2 : N ≤ 3072) (hi : i + 6 ≤ N) : ∃ ω2 D2 A2, Vl (d + 49) 297 1075 [some (.inr (.inr (some jSCR))), some (.inr (.inr (some 0))), some (.inr (.inr (some 488))), some (.inr (.inr (some 539))), some (.inl (i : Int)), u5, u6] [] (hp ω D) = Vl (d + 49) 297 1549 [some (.inr (.inr (some jSCR))), some (.inr (.inr (some 0))), some (.inr (.inr (some 488))), some (.inr (.inr (some 539))), some (.inl (i : Int)), u5, u6] [] (hp ω2 D2) ∧ LI D0 k ω2 D2 A2 := by
  have w1 := hL.1.1
  have w2 : ω.2.2.1 ≤ 1000 := Nat.le_trans hL.1.2.2.1 hL.1.2.2.2
  have w3 := hL.2.2.2
  have hC : CO ω D (oLeast A).2 (oLeast A).1 _ := CO_d (least_op (d := d + 44) hL.2.1  )
  obtain ⟨ω2, D2, q1, q2⟩ := law_op (dd := d + 48) (yy := 264) (NEXT := fun h => Vl (d + 49) 297 1549 [some (.inr (.inr (some jSCR))), some (.inr (.inr (some 0))), some (.inr (.inr (some 488))), some (.inr (.inr (some 539))), some (.inl (i : Int)), u5, u6] [] h) (K1 := fun r1 h2 => Vl (d + 49) 297 1079 [some (.inr (.inr (some jSCR))), some (.inr (.inr (some 0))), some (.inr (.inr (some 488))), some (.inr (.inr (some 539))), some (.inl (i : Int)), u5, u6] (r1.toList ++ []) h2) (K2 := fun r1 h2 => Vl (d + 49) 297 1083 [some (.inr (.inr (some jSCR))), some (.inr (.inr (some 0))), some (.inr (.inr (some 488))), some (.inr (.inr (some 539))), some (.inl (i : Int)), u5, u6] (r1.toList ++ [.inl (oLeast A).1]) h2) hL hC (fun ρ D' h => MO_l (mleast_op (d := d + 40) h  )) (fun ρ D' hS r => by
    rw [tlS, vL_law_1079, mGF m488]) (fun ρ D' hS r => by
    rw [tlS, vL_law_1083, if_pos rfl])
  refine ⟨ω2, D2, (oLeast A).2, ?_, q2⟩
  rw [vL_law_1075, aGF kC]
  exact q1
theorem law_c23 (hL : LI D0 k ω D A) (hs : ∀ j, -2147483648 ≤ D0 1000000 j ∧ D0 1000000 j < 2147483648) (hN : D0 1000001 0 = (N : Int)) (hN2 : N ≤ 3072) (hi : i + 6 ≤ N) : ∃ ω2 D2 A2, Vl (d + 49) 297 1088 [some (.inr (.inr (some jSCR))), some (.inr (.inr (some 0))), some (.inr (.inr (some 488))), some (.inr (.inr (some 539))), some (.inl (i : Int)), u5, u6] [] (hp ω D) = Vl (d + 49) 297 1549 [some (.inr (.inr (some jSCR))), some (.inr (.inr (some 0))), some (.inr (.inr (some 488))), some (.inr (.inr (some 539))), some (.inl (i : Int)), u5, u6] [] (hp ω2 D2) ∧ LI D0 k ω2 D2 A2 := by
  have w1 := hL.1.1
  have w2 : ω.2.2.1 ≤ 1000 := Nat.le_trans hL.1.2.2.1 hL.1.2.2.2
  have w3 := hL.2.2.2
  have hC : CO ω D A (oDivisors A (D0 1000000 (i + 1)) (D0 1000000 (i + 2)) (D0 1000000 (i + 3))) _ := CO_d (divisors_op (d := d + 44) hL.2.1 (D0 1000000 (i + 1)) (D0 1000000 (i + 2)) (D0 1000000 (i + 3)) (hs (i + 3)).1)
  obtain ⟨ω2, D2, q1, q2⟩ := law_op (dd := d + 48) (yy := 266) (NEXT := fun h => Vl (d + 49) 297 1549 [some (.inr (.inr (some jSCR))), some (.inr (.inr (some 0))), some (.inr (.inr (some 488))), some (.inr (.inr (some 539))), some (.inl (i : Int)), u5, u6] [] h) (K1 := fun r1 h2 => Vl (d + 49) 297 1110 [some (.inr (.inr (some jSCR))), some (.inr (.inr (some 0))), some (.inr (.inr (some 488))), some (.inr (.inr (some 539))), some (.inl (i : Int)), u5, u6] (r1.toList ++ []) h2) (K2 := fun r1 h2 => Vl (d + 49) 297 1132 [some (.inr (.inr (some jSCR))), some (.inr (.inr (some 0))), some (.inr (.inr (some 488))), some (.inr (.inr (some 539))), some (.inl (i : Int)), u5, u6] (r1.toList ++ [.inl (oDivisors A (D0 1000000 (i + 1)) (D0 1000000 (i + 2)) (D0 1000000 (i + 3)))]) h2) hL hC (fun ρ D' h => MO_l (mdivisors_op (d := d + 40) h (D0 1000000 (i + 1)) (D0 1000000 (i + 2)) (D0 1000000 (i + 3)) )) (fun ρ D' hS r => by
    rw [tlS, vL_law_1110, sIA (ω := (1, ρ)) rfl r hS hN hN2 (c := 1) (z := 1) rfl (by omega), sIA (ω := (1, ρ)) rfl r hS hN hN2 (c := 2) (z := 2) rfl (by omega), sIA (ω := (1, ρ)) rfl r hS hN hN2 (c := 3) (z := 3) rfl (by omega), mGF m488]) (fun ρ D' hS r => by
    rw [tlS, vL_law_1132, if_pos rfl])
  refine ⟨ω2, D2, A, ?_, q2⟩
  rw [vL_law_1088, sIA w1 w2 w3 hN hN2 (c := 1) (z := 1) rfl (by omega), sIA w1 w2 w3 hN hN2 (c := 2) (z := 2) rfl (by omega), sIA w1 w2 w3 hN hN2 (c := 3) (z := 3) rfl (by omega), aGF kC]
  exact q1
theorem law_c24 (hL : LI D0 k ω D A) (hs : ∀ j, -2147483648 ≤ D0 1000000 j ∧ D0 1000000 j < 2147483648) (hN : D0 1000001 0 = (N : Int)) (hN2 : N ≤ 3072) (hi : i + 6 ≤ N) : ∃ ω2 D2 A2, Vl (d + 49) 297 1137 [some (.inr (.inr (some jSCR))), some (.inr (.inr (some 0))), some (.inr (.inr (some 488))), some (.inr (.inr (some 539))), some (.inl (i : Int)), u5, u6] [] (hp ω D) = Vl (d + 49) 297 1549 [some (.inr (.inr (some jSCR))), some (.inr (.inr (some 0))), some (.inr (.inr (some 488))), some (.inr (.inr (some 539))), some (.inl (i : Int)), u5, u6] [] (hp ω2 D2) ∧ LI D0 k ω2 D2 A2 := by
  have w1 := hL.1.1
  have w2 : ω.2.2.1 ≤ 1000 := Nat.le_trans hL.1.2.2.1 hL.1.2.2.2
  have w3 := hL.2.2.2
  have hC : CO ω D A (oFactorings A (D 301) (D0 1000000 (i + 1))) _ := CO_d (factorings_op (d := d + 27) hL.2.1 (D0 1000000 (i + 1)))
  obtain ⟨ω2, D2, q1, q2⟩ := law_op (dd := d + 48) (yy := 271) (NEXT := fun h => Vl (d + 49) 297 1549 [some (.inr (.inr (some jSCR))), some (.inr (.inr (some 0))), some (.inr (.inr (some 488))), some (.inr (.inr (some 539))), some (.inl (i : Int)), u5, u6] [] h) (K1 := fun r1 h2 => Vl (d + 49) 297 1147 [some (.inr (.inr (some jSCR))), some (.inr (.inr (some 0))), some (.inr (.inr (some 488))), some (.inr (.inr (some 539))), some (.inl (i : Int)), u5, u6] (r1.toList ++ []) h2) (K2 := fun r1 h2 => Vl (d + 49) 297 1157 [some (.inr (.inr (some jSCR))), some (.inr (.inr (some 0))), some (.inr (.inr (some 488))), some (.inr (.inr (some 539))), some (.inl (i : Int)), u5, u6] (r1.toList ++ [.inl (oFactorings A (D 301) (D0 1000000 (i + 1)))]) h2) hL hC (fun ρ D' h => MO_l (mfactorings_op (d := d + 32) h (D 301) (D0 1000000 (i + 1)))) (fun ρ D' hS r => by
    rw [tlS, vL_law_1147, sIA (ω := (1, ρ)) rfl r hS hN hN2 (c := 1) (z := 1) rfl (by omega), mGF m488]) (fun ρ D' hS r => by
    rw [tlS, vL_law_1157, if_pos rfl])
  refine ⟨ω2, D2, A, ?_, q2⟩
  rw [vL_law_1137, sIA w1 w2 w3 hN hN2 (c := 1) (z := 1) rfl (by omega), aGF kC]
  exact q1
theorem law_c25 (hL : LI D0 k ω D A) (hs : ∀ j, -2147483648 ≤ D0 1000000 j ∧ D0 1000000 j < 2147483648) (hN : D0 1000001 0 = (N : Int)) (hN2 : N ≤ 3072) (hi : i + 6 ≤ N) : ∃ ω2 D2 A2, Vl (d + 49) 297 1162 [some (.inr (.inr (some jSCR))), some (.inr (.inr (some 0))), some (.inr (.inr (some 488))), some (.inr (.inr (some 539))), some (.inl (i : Int)), u5, u6] [] (hp ω D) = Vl (d + 49) 297 1549 [some (.inr (.inr (some jSCR))), some (.inr (.inr (some 0))), some (.inr (.inr (some 488))), some (.inr (.inr (some 539))), some (.inl (i : Int)), u5, u6] [] (hp ω2 D2) ∧ LI D0 k ω2 D2 A2 := by
  have w1 := hL.1.1
  have w2 : ω.2.2.1 ≤ 1000 := Nat.le_trans hL.1.2.2.1 hL.1.2.2.2
  have w3 := hL.2.2.2
  have hC : CO ω D A (oFactor A (D 301) (D0 1000000 (i + 1)) (D0 1000000 (i + 2)) (D0 1000000 (i + 3))) _ := CO_d (factor_op (d := d + 27) hL.2.1 (D0 1000000 (i + 1)) (D0 1000000 (i + 2)) (D0 1000000 (i + 3)))
  obtain ⟨ω2, D2, q1, q2⟩ := law_op (dd := d + 48) (yy := 275) (NEXT := fun h => Vl (d + 49) 297 1549 [some (.inr (.inr (some jSCR))), some (.inr (.inr (some 0))), some (.inr (.inr (some 488))), some (.inr (.inr (some 539))), some (.inl (i : Int)), u5, u6] [] h) (K1 := fun r1 h2 => Vl (d + 49) 297 1184 [some (.inr (.inr (some jSCR))), some (.inr (.inr (some 0))), some (.inr (.inr (some 488))), some (.inr (.inr (some 539))), some (.inl (i : Int)), u5, u6] (r1.toList ++ []) h2) (K2 := fun r1 h2 => Vl (d + 49) 297 1206 [some (.inr (.inr (some jSCR))), some (.inr (.inr (some 0))), some (.inr (.inr (some 488))), some (.inr (.inr (some 539))), some (.inl (i : Int)), u5, u6] (r1.toList ++ [.inl (oFactor A (D 301) (D0 1000000 (i + 1)) (D0 1000000 (i + 2)) (D0 1000000 (i + 3)))]) h2) hL hC (fun ρ D' h => MO_l (mfactor_op (d := d + 32) h (D 301) (D0 1000000 (i + 1)) (D0 1000000 (i + 2)) (D0 1000000 (i + 3)) (hs (i + 2)).2 (hs (i + 3)).2)) (fun ρ D' hS r => by
    rw [tlS, vL_law_1184, sIA (ω := (1, ρ)) rfl r hS hN hN2 (c := 1) (z := 1) rfl (by omega), sIA (ω := (1, ρ)) rfl r hS hN hN2 (c := 2) (z := 2) rfl (by omega), sIA (ω := (1, ρ)) rfl r hS hN hN2 (c := 3) (z := 3) rfl (by omega), mGF m488]) (fun ρ D' hS r => by
    rw [tlS, vL_law_1206, if_pos rfl])
  refine ⟨ω2, D2, A, ?_, q2⟩
  rw [vL_law_1162, sIA w1 w2 w3 hN hN2 (c := 1) (z := 1) rfl (by omega), sIA w1 w2 w3 hN hN2 (c := 2) (z := 2) rfl (by omega), sIA w1 w2 w3 hN hN2 (c := 3) (z := 3) rfl (by omega), aGF kC]
  exact q1
theorem law_c26 (hL : LI D0 k ω D A) (hs : ∀ j, -2147483648 ≤ D0 1000000 j ∧ D0 1000000 j < 2147483648) (hN : D0 1000001 0 = (N : Int)) (hN2 : N ≤ 3072) (hi : i + 6 ≤ N) : ∃ ω2 D2 A2, Vl (d + 49) 297 1211 [some (.inr (.inr (some jSCR))), some (.inr (.inr (some 0))), some (.inr (.inr (some 488))), some (.inr (.inr (some 539))), some (.inl (i : Int)), u5, u6] [] (hp ω D) = Vl (d + 49) 297 1549 [some (.inr (.inr (some jSCR))), some (.inr (.inr (some 0))), some (.inr (.inr (some 488))), some (.inr (.inr (some 539))), some (.inl (i : Int)), u5, u6] [] (hp ω2 D2) ∧ LI D0 k ω2 D2 A2 := by
  have w1 := hL.1.1
  have w2 : ω.2.2.1 ≤ 1000 := Nat.le_trans hL.1.2.2.1 hL.1.2.2.2
  have w3 := hL.2.2.2
  have hC : CO ω D A (oLike A (D0 1000000 (i + 1)) (D0 1000000 (i + 2))) _ := CO_e (like_op (d := d + 43) hL.2.1 (D0 1000000 (i + 1)) (D0 1000000 (i + 2)) )
  obtain ⟨ω2, D2, q1, q2⟩ := law_op (dd := d + 48) (yy := 276) (NEXT := fun h => Vl (d + 49) 297 1549 [some (.inr (.inr (some jSCR))), some (.inr (.inr (some 0))), some (.inr (.inr (some 488))), some (.inr (.inr (some 539))), some (.inl (i : Int)), u5, u6] [] h) (K1 := fun r1 h2 => Vl (d + 49) 297 1227 [some (.inr (.inr (some jSCR))), some (.inr (.inr (some 0))), some (.inr (.inr (some 488))), some (.inr (.inr (some 539))), some (.inl (i : Int)), u5, u6] (r1.toList ++ []) h2) (K2 := fun r1 h2 => Vl (d + 49) 297 1243 [some (.inr (.inr (some jSCR))), some (.inr (.inr (some 0))), some (.inr (.inr (some 488))), some (.inr (.inr (some 539))), some (.inl (i : Int)), u5, u6] (r1.toList ++ [.inl (oLike A (D0 1000000 (i + 1)) (D0 1000000 (i + 2)))]) h2) hL hC (fun ρ D' h => MO_l (mlike_op (d := d + 40) h (D0 1000000 (i + 1)) (D0 1000000 (i + 2)) )) (fun ρ D' hS r => by
    rw [tlS, vL_law_1227, sIA (ω := (1, ρ)) rfl r hS hN hN2 (c := 1) (z := 1) rfl (by omega), sIA (ω := (1, ρ)) rfl r hS hN hN2 (c := 2) (z := 2) rfl (by omega), mGF m488]) (fun ρ D' hS r => by
    rw [tlS, vL_law_1243, if_pos rfl])
  refine ⟨ω2, D2, A, ?_, q2⟩
  rw [vL_law_1211, sIA w1 w2 w3 hN hN2 (c := 1) (z := 1) rfl (by omega), sIA w1 w2 w3 hN hN2 (c := 2) (z := 2) rfl (by omega), aGF kC]
  exact q1
theorem law_c27 (hL : LI D0 k ω D A) (hs : ∀ j, -2147483648 ≤ D0 1000000 j ∧ D0 1000000 j < 2147483648) (hN : D0 1000001 0 = (N : Int)) (hN2 : N ≤ 3072) (hi : i + 6 ≤ N) : ∃ ω2 D2 A2, Vl (d + 49) 297 1248 [some (.inr (.inr (some jSCR))), some (.inr (.inr (some 0))), some (.inr (.inr (some 488))), some (.inr (.inr (some 539))), some (.inl (i : Int)), u5, u6] [] (hp ω D) = Vl (d + 49) 297 1549 [some (.inr (.inr (some jSCR))), some (.inr (.inr (some 0))), some (.inr (.inr (some 488))), some (.inr (.inr (some 539))), some (.inl (i : Int)), u5, u6] [] (hp ω2 D2) ∧ LI D0 k ω2 D2 A2 := by
  have w1 := hL.1.1
  have w2 : ω.2.2.1 ≤ 1000 := Nat.le_trans hL.1.2.2.1 hL.1.2.2.2
  have w3 := hL.2.2.2
  have hC : CO ω D (oNorm A (D0 1000000 (i + 1))).2 (oNorm A (D0 1000000 (i + 1))).1 _ := CO_d (norm_op (d := d + 45) hL.2.1 (D0 1000000 (i + 1)) )
  obtain ⟨ω2, D2, q1, q2⟩ := law_op (dd := d + 48) (yy := 278) (NEXT := fun h => Vl (d + 49) 297 1549 [some (.inr (.inr (some jSCR))), some (.inr (.inr (some 0))), some (.inr (.inr (some 488))), some (.inr (.inr (some 539))), some (.inl (i : Int)), u5, u6] [] h) (K1 := fun r1 h2 => Vl (d + 49) 297 1258 [some (.inr (.inr (some jSCR))), some (.inr (.inr (some 0))), some (.inr (.inr (some 488))), some (.inr (.inr (some 539))), some (.inl (i : Int)), u5, u6] (r1.toList ++ []) h2) (K2 := fun r1 h2 => Vl (d + 49) 297 1268 [some (.inr (.inr (some jSCR))), some (.inr (.inr (some 0))), some (.inr (.inr (some 488))), some (.inr (.inr (some 539))), some (.inl (i : Int)), u5, u6] (r1.toList ++ [.inl (oNorm A (D0 1000000 (i + 1))).1]) h2) hL hC (fun ρ D' h => MO_l (mnorm_op (d := d + 44) h (D0 1000000 (i + 1)) )) (fun ρ D' hS r => by
    rw [tlS, vL_law_1258, sIA (ω := (1, ρ)) rfl r hS hN hN2 (c := 1) (z := 1) rfl (by omega), mGF m488]) (fun ρ D' hS r => by
    rw [tlS, vL_law_1268, if_pos rfl])
  refine ⟨ω2, D2, (oNorm A (D0 1000000 (i + 1))).2, ?_, q2⟩
  rw [vL_law_1248, sIA w1 w2 w3 hN hN2 (c := 1) (z := 1) rfl (by omega), aGF kC]
  exact q1
theorem law_c28 (hL : LI D0 k ω D A) (hs : ∀ j, -2147483648 ≤ D0 1000000 j ∧ D0 1000000 j < 2147483648) (hN : D0 1000001 0 = (N : Int)) (hN2 : N ≤ 3072) (hi : i + 6 ≤ N) : ∃ ω2 D2 A2, Vl (d + 49) 297 1273 [some (.inr (.inr (some jSCR))), some (.inr (.inr (some 0))), some (.inr (.inr (some 488))), some (.inr (.inr (some 539))), some (.inl (i : Int)), u5, u6] [] (hp ω D) = Vl (d + 49) 297 1549 [some (.inr (.inr (some jSCR))), some (.inr (.inr (some 0))), some (.inr (.inr (some 488))), some (.inr (.inr (some 539))), some (.inl (i : Int)), u5, u6] [] (hp ω2 D2) ∧ LI D0 k ω2 D2 A2 := by
  have w1 := hL.1.1
  have w2 : ω.2.2.1 ≤ 1000 := Nat.le_trans hL.1.2.2.1 hL.1.2.2.2
  have w3 := hL.2.2.2
  have hC : CO ω D (oRank A).2 (oRank A).1 _ := CO_d (rank_op (d := d + 46) hL.2.1  )
  obtain ⟨ω2, D2, q1, q2⟩ := law_op (dd := d + 48) (yy := 282) (NEXT := fun h => Vl (d + 49) 297 1549 [some (.inr (.inr (some jSCR))), some (.inr (.inr (some 0))), some (.inr (.inr (some 488))), some (.inr (.inr (some 539))), some (.inl (i : Int)), u5, u6] [] h) (K1 := fun r1 h2 => Vl (d + 49) 297 1277 [some (.inr (.inr (some jSCR))), some (.inr (.inr (some 0))), some (.inr (.inr (some 488))), some (.inr (.inr (some 539))), some (.inl (i : Int)), u5, u6] (r1.toList ++ []) h2) (K2 := fun r1 h2 => Vl (d + 49) 297 1281 [some (.inr (.inr (some jSCR))), some (.inr (.inr (some 0))), some (.inr (.inr (some 488))), some (.inr (.inr (some 539))), some (.inl (i : Int)), u5, u6] (r1.toList ++ [.inl (oRank A).1]) h2) hL hC (fun ρ D' h => MO_l (mrank_op (d := d + 46) h  )) (fun ρ D' hS r => by
    rw [tlS, vL_law_1277, mGF m488]) (fun ρ D' hS r => by
    rw [tlS, vL_law_1281, if_pos rfl])
  refine ⟨ω2, D2, (oRank A).2, ?_, q2⟩
  rw [vL_law_1273, aGF kC]
  exact q1
theorem law_c29 (hL : LI D0 k ω D A) (hs : ∀ j, -2147483648 ≤ D0 1000000 j ∧ D0 1000000 j < 2147483648) (hN : D0 1000001 0 = (N : Int)) (hN2 : N ≤ 3072) (hi : i + 6 ≤ N) : ∃ ω2 D2 A2, Vl (d + 49) 297 1286 [some (.inr (.inr (some jSCR))), some (.inr (.inr (some 0))), some (.inr (.inr (some 488))), some (.inr (.inr (some 539))), some (.inl (i : Int)), u5, u6] [] (hp ω D) = Vl (d + 49) 297 1549 [some (.inr (.inr (some jSCR))), some (.inr (.inr (some 0))), some (.inr (.inr (some 488))), some (.inr (.inr (some 539))), some (.inl (i : Int)), u5, u6] [] (hp ω2 D2) ∧ LI D0 k ω2 D2 A2 := by
  have w1 := hL.1.1
  have w2 : ω.2.2.1 ≤ 1000 := Nat.le_trans hL.1.2.2.1 hL.1.2.2.2
  have w3 := hL.2.2.2
  have hC : CO ω D (oSumRank A).2 (oSumRank A).1 _ := CO_d (sumRank_op (d := d + 45) hL.2.1  )
  obtain ⟨ω2, D2, q1, q2⟩ := law_op (dd := d + 48) (yy := 284) (NEXT := fun h => Vl (d + 49) 297 1549 [some (.inr (.inr (some jSCR))), some (.inr (.inr (some 0))), some (.inr (.inr (some 488))), some (.inr (.inr (some 539))), some (.inl (i : Int)), u5, u6] [] h) (K1 := fun r1 h2 => Vl (d + 49) 297 1290 [some (.inr (.inr (some jSCR))), some (.inr (.inr (some 0))), some (.inr (.inr (some 488))), some (.inr (.inr (some 539))), some (.inl (i : Int)), u5, u6] (r1.toList ++ []) h2) (K2 := fun r1 h2 => Vl (d + 49) 297 1294 [some (.inr (.inr (some jSCR))), some (.inr (.inr (some 0))), some (.inr (.inr (some 488))), some (.inr (.inr (some 539))), some (.inl (i : Int)), u5, u6] (r1.toList ++ [.inl (oSumRank A).1]) h2) hL hC (fun ρ D' h => MO_l (msumRank_op (d := d + 46) h  )) (fun ρ D' hS r => by
    rw [tlS, vL_law_1290, mGF m488]) (fun ρ D' hS r => by
    rw [tlS, vL_law_1294, if_pos rfl])
  refine ⟨ω2, D2, (oSumRank A).2, ?_, q2⟩
  rw [vL_law_1286, aGF kC]
  exact q1
theorem law_c30 (hL : LI D0 k ω D A) (hs : ∀ j, -2147483648 ≤ D0 1000000 j ∧ D0 1000000 j < 2147483648) (hN : D0 1000001 0 = (N : Int)) (hN2 : N ≤ 3072) (hi : i + 6 ≤ N) : ∃ ω2 D2 A2, Vl (d + 49) 297 1299 [some (.inr (.inr (some jSCR))), some (.inr (.inr (some 0))), some (.inr (.inr (some 488))), some (.inr (.inr (some 539))), some (.inl (i : Int)), u5, u6] [] (hp ω D) = Vl (d + 49) 297 1549 [some (.inr (.inr (some jSCR))), some (.inr (.inr (some 0))), some (.inr (.inr (some 488))), some (.inr (.inr (some 539))), some (.inl (i : Int)), u5, u6] [] (hp ω2 D2) ∧ LI D0 k ω2 D2 A2 := by
  have w1 := hL.1.1
  have w2 : ω.2.2.1 ≤ 1000 := Nat.le_trans hL.1.2.2.1 hL.1.2.2.2
  have w3 := hL.2.2.2
  have hC : CO ω D A (oWeight A (D0 1000000 (i + 1)) (D0 1000000 (i + 2))) _ := CO_e (weight_op (d := d + 45) hL.2.1 (D0 1000000 (i + 1)) (D0 1000000 (i + 2)) (hs (i + 2)).2)
  obtain ⟨ω2, D2, q1, q2⟩ := law_op (dd := d + 48) (yy := 285) (NEXT := fun h => Vl (d + 49) 297 1549 [some (.inr (.inr (some jSCR))), some (.inr (.inr (some 0))), some (.inr (.inr (some 488))), some (.inr (.inr (some 539))), some (.inl (i : Int)), u5, u6] [] h) (K1 := fun r1 h2 => Vl (d + 49) 297 1315 [some (.inr (.inr (some jSCR))), some (.inr (.inr (some 0))), some (.inr (.inr (some 488))), some (.inr (.inr (some 539))), some (.inl (i : Int)), u5, u6] (r1.toList ++ []) h2) (K2 := fun r1 h2 => Vl (d + 49) 297 1331 [some (.inr (.inr (some jSCR))), some (.inr (.inr (some 0))), some (.inr (.inr (some 488))), some (.inr (.inr (some 539))), some (.inl (i : Int)), u5, u6] (r1.toList ++ [.inl (oWeight A (D0 1000000 (i + 1)) (D0 1000000 (i + 2)))]) h2) hL hC (fun ρ D' h => MO_l (mweight_op (d := d + 43) h (D0 1000000 (i + 1)) (D0 1000000 (i + 2)) )) (fun ρ D' hS r => by
    rw [tlS, vL_law_1315, sIA (ω := (1, ρ)) rfl r hS hN hN2 (c := 1) (z := 1) rfl (by omega), sIA (ω := (1, ρ)) rfl r hS hN hN2 (c := 2) (z := 2) rfl (by omega), mGF m488]) (fun ρ D' hS r => by
    rw [tlS, vL_law_1331, if_pos rfl])
  refine ⟨ω2, D2, A, ?_, q2⟩
  rw [vL_law_1299, sIA w1 w2 w3 hN hN2 (c := 1) (z := 1) rfl (by omega), sIA w1 w2 w3 hN hN2 (c := 2) (z := 2) rfl (by omega), aGF kC]
  exact q1
theorem law_c31 (hL : LI D0 k ω D A) (hs : ∀ j, -2147483648 ≤ D0 1000000 j ∧ D0 1000000 j < 2147483648) (hN : D0 1000001 0 = (N : Int)) (hN2 : N ≤ 3072) (hi : i + 6 ≤ N) : ∃ ω2 D2 A2, Vl (d + 49) 297 1336 [some (.inr (.inr (some jSCR))), some (.inr (.inr (some 0))), some (.inr (.inr (some 488))), some (.inr (.inr (some 539))), some (.inl (i : Int)), u5, u6] [] (hp ω D) = Vl (d + 49) 297 1549 [some (.inr (.inr (some jSCR))), some (.inr (.inr (some 0))), some (.inr (.inr (some 488))), some (.inr (.inr (some 539))), some (.inl (i : Int)), u5, u6] [] (hp ω2 D2) ∧ LI D0 k ω2 D2 A2 := by
  have w1 := hL.1.1
  have w2 : ω.2.2.1 ≤ 1000 := Nat.le_trans hL.1.2.2.1 hL.1.2.2.2
  have w3 := hL.2.2.2
  have hC : CO ω D (oPoints A).2 (oPoints A).1 _ := CO_d (points_op (d := d + 46) hL.2.1  )
  obtain ⟨ω2, D2, q1, q2⟩ := law_op (dd := d + 48) (yy := 286) (NEXT := fun h => Vl (d + 49) 297 1549 [some (.inr (.inr (some jSCR))), some (.inr (.inr (some 0))), some (.inr (.inr (some 488))), some (.inr (.inr (some 539))), some (.inl (i : Int)), u5, u6] [] h) (K1 := fun r1 h2 => Vl (d + 49) 297 1340 [some (.inr (.inr (some jSCR))), some (.inr (.inr (some 0))), some (.inr (.inr (some 488))), some (.inr (.inr (some 539))), some (.inl (i : Int)), u5, u6] (r1.toList ++ []) h2) (K2 := fun r1 h2 => Vl (d + 49) 297 1344 [some (.inr (.inr (some jSCR))), some (.inr (.inr (some 0))), some (.inr (.inr (some 488))), some (.inr (.inr (some 539))), some (.inl (i : Int)), u5, u6] (r1.toList ++ [.inl (oPoints A).1]) h2) hL hC (fun ρ D' h => MO_l (mpoints_op (d := d + 46) h  )) (fun ρ D' hS r => by
    rw [tlS, vL_law_1340, mGF m488]) (fun ρ D' hS r => by
    rw [tlS, vL_law_1344, if_pos rfl])
  refine ⟨ω2, D2, (oPoints A).2, ?_, q2⟩
  rw [vL_law_1336, aGF kC]
  exact q1
theorem law_c32 (hL : LI D0 k ω D A) (hs : ∀ j, -2147483648 ≤ D0 1000000 j ∧ D0 1000000 j < 2147483648) (hN : D0 1000001 0 = (N : Int)) (hN2 : N ≤ 3072) (hi : i + 6 ≤ N) : ∃ ω2 D2 A2, Vl (d + 49) 297 1349 [some (.inr (.inr (some jSCR))), some (.inr (.inr (some 0))), some (.inr (.inr (some 488))), some (.inr (.inr (some 539))), some (.inl (i : Int)), u5, u6] [] (hp ω D) = Vl (d + 49) 297 1549 [some (.inr (.inr (some jSCR))), some (.inr (.inr (some 0))), some (.inr (.inr (some 488))), some (.inr (.inr (some 539))), some (.inl (i : Int)), u5, u6] [] (hp ω2 D2) ∧ LI D0 k ω2 D2 A2 := by
  have w1 := hL.1.1
  have w2 : ω.2.2.1 ≤ 1000 := Nat.le_trans hL.1.2.2.1 hL.1.2.2.2
  have w3 := hL.2.2.2
  have hC : CO ω D A (oWord A (D0 1000000 (i + 1)) (D0 1000000 (i + 2))) _ := CO_p hL.2.1 (word_op (d := d + 45) hL.2.1 (D0 1000000 (i + 1)) (D0 1000000 (i + 2)))
  obtain ⟨ω2, D2, q1, q2⟩ := law_op (dd := d + 48) (yy := 287) (NEXT := fun h => Vl (d + 49) 297 1549 [some (.inr (.inr (some jSCR))), some (.inr (.inr (some 0))), some (.inr (.inr (some 488))), some (.inr (.inr (some 539))), some (.inl (i : Int)), u5, u6] [] h) (K1 := fun r1 h2 => Vl (d + 49) 297 1365 [some (.inr (.inr (some jSCR))), some (.inr (.inr (some 0))), some (.inr (.inr (some 488))), some (.inr (.inr (some 539))), some (.inl (i : Int)), u5, u6] (r1.toList ++ []) h2) (K2 := fun r1 h2 => Vl (d + 49) 297 1381 [some (.inr (.inr (some jSCR))), some (.inr (.inr (some 0))), some (.inr (.inr (some 488))), some (.inr (.inr (some 539))), some (.inl (i : Int)), u5, u6] (r1.toList ++ [.inl (oWord A (D0 1000000 (i + 1)) (D0 1000000 (i + 2)))]) h2) hL hC (fun ρ D' h => MO_l (mword_op (d := d + 44) h (D0 1000000 (i + 1)) (D0 1000000 (i + 2)))) (fun ρ D' hS r => by
    rw [tlS, vL_law_1365, sIA (ω := (1, ρ)) rfl r hS hN hN2 (c := 1) (z := 1) rfl (by omega), sIA (ω := (1, ρ)) rfl r hS hN hN2 (c := 2) (z := 2) rfl (by omega), mGF m488]) (fun ρ D' hS r => by
    rw [tlS, vL_law_1381, if_pos rfl])
  refine ⟨ω2, D2, A, ?_, q2⟩
  rw [vL_law_1349, sIA w1 w2 w3 hN hN2 (c := 1) (z := 1) rfl (by omega), sIA w1 w2 w3 hN hN2 (c := 2) (z := 2) rfl (by omega), aGF kC]
  exact q1
theorem law_c33 (hL : LI D0 k ω D A) (hs : ∀ j, -2147483648 ≤ D0 1000000 j ∧ D0 1000000 j < 2147483648) (hN : D0 1000001 0 = (N : Int)) (hN2 : N ≤ 3072) (hi : i + 6 ≤ N) : ∃ ω2 D2 A2, Vl (d + 49) 297 1386 [some (.inr (.inr (some jSCR))), some (.inr (.inr (some 0))), some (.inr (.inr (some 488))), some (.inr (.inr (some 539))), some (.inl (i : Int)), u5, u6] [] (hp ω D) = Vl (d + 49) 297 1549 [some (.inr (.inr (some jSCR))), some (.inr (.inr (some 0))), some (.inr (.inr (some 488))), some (.inr (.inr (some 539))), some (.inl (i : Int)), u5, u6] [] (hp ω2 D2) ∧ LI D0 k ω2 D2 A2 := by
  have w1 := hL.1.1
  have w2 : ω.2.2.1 ≤ 1000 := Nat.le_trans hL.1.2.2.1 hL.1.2.2.2
  have w3 := hL.2.2.2
  have hC : CO ω D A (oDistance A (D0 1000000 (i + 1))) _ := CO_e (distance_op (d := d + 44) hL.2.1 (D0 1000000 (i + 1)) )
  obtain ⟨ω2, D2, q1, q2⟩ := law_op (dd := d + 48) (yy := 288) (NEXT := fun h => Vl (d + 49) 297 1549 [some (.inr (.inr (some jSCR))), some (.inr (.inr (some 0))), some (.inr (.inr (some 488))), some (.inr (.inr (some 539))), some (.inl (i : Int)), u5, u6] [] h) (K1 := fun r1 h2 => Vl (d + 49) 297 1396 [some (.inr (.inr (some jSCR))), some (.inr (.inr (some 0))), some (.inr (.inr (some 488))), some (.inr (.inr (some 539))), some (.inl (i : Int)), u5, u6] (r1.toList ++ []) h2) (K2 := fun r1 h2 => Vl (d + 49) 297 1406 [some (.inr (.inr (some jSCR))), some (.inr (.inr (some 0))), some (.inr (.inr (some 488))), some (.inr (.inr (some 539))), some (.inl (i : Int)), u5, u6] (r1.toList ++ [.inl (oDistance A (D0 1000000 (i + 1)))]) h2) hL hC (fun ρ D' h => MO_l (mdistance_op (d := d + 43) h (D0 1000000 (i + 1)) )) (fun ρ D' hS r => by
    rw [tlS, vL_law_1396, sIA (ω := (1, ρ)) rfl r hS hN hN2 (c := 1) (z := 1) rfl (by omega), mGF m488]) (fun ρ D' hS r => by
    rw [tlS, vL_law_1406, if_pos rfl])
  refine ⟨ω2, D2, A, ?_, q2⟩
  rw [vL_law_1386, sIA w1 w2 w3 hN hN2 (c := 1) (z := 1) rfl (by omega), aGF kC]
  exact q1
theorem law_c34 (hL : LI D0 k ω D A) (hs : ∀ j, -2147483648 ≤ D0 1000000 j ∧ D0 1000000 j < 2147483648) (hN : D0 1000001 0 = (N : Int)) (hN2 : N ≤ 3072) (hi : i + 6 ≤ N) : ∃ ω2 D2 A2, Vl (d + 49) 297 1411 [some (.inr (.inr (some jSCR))), some (.inr (.inr (some 0))), some (.inr (.inr (some 488))), some (.inr (.inr (some 539))), some (.inl (i : Int)), u5, u6] [] (hp ω D) = Vl (d + 49) 297 1549 [some (.inr (.inr (some jSCR))), some (.inr (.inr (some 0))), some (.inr (.inr (some 488))), some (.inr (.inr (some 539))), some (.inl (i : Int)), u5, u6] [] (hp ω2 D2) ∧ LI D0 k ω2 D2 A2 := by
  have w1 := hL.1.1
  have w2 : ω.2.2.1 ≤ 1000 := Nat.le_trans hL.1.2.2.1 hL.1.2.2.2
  have w3 := hL.2.2.2
  have hC : CO ω D (oMend A (D0 1000000 (i + 1))).2 (oMend A (D0 1000000 (i + 1))).1 _ := CO_e (mend_op (d := d + 44) hL.2.1 (D0 1000000 (i + 1)))
  obtain ⟨ω2, D2, q1, q2⟩ := law_op (dd := d + 48) (yy := 290) (NEXT := fun h => Vl (d + 49) 297 1549 [some (.inr (.inr (some jSCR))), some (.inr (.inr (some 0))), some (.inr (.inr (some 488))), some (.inr (.inr (some 539))), some (.inl (i : Int)), u5, u6] [] h) (K1 := fun r1 h2 => Vl (d + 49) 297 1421 [some (.inr (.inr (some jSCR))), some (.inr (.inr (some 0))), some (.inr (.inr (some 488))), some (.inr (.inr (some 539))), some (.inl (i : Int)), u5, u6] (r1.toList ++ []) h2) (K2 := fun r1 h2 => Vl (d + 49) 297 1431 [some (.inr (.inr (some jSCR))), some (.inr (.inr (some 0))), some (.inr (.inr (some 488))), some (.inr (.inr (some 539))), some (.inl (i : Int)), u5, u6] (r1.toList ++ [.inl (oMend A (D0 1000000 (i + 1))).1]) h2) hL hC (fun ρ D' h => MO_l (mend_op2 (d := d + 43) h (D0 1000000 (i + 1)))) (fun ρ D' hS r => by
    rw [tlS, vL_law_1421, sIA (ω := (1, ρ)) rfl r hS hN hN2 (c := 1) (z := 1) rfl (by omega), mGF m488]) (fun ρ D' hS r => by
    rw [tlS, vL_law_1431, if_pos rfl])
  refine ⟨ω2, D2, (oMend A (D0 1000000 (i + 1))).2, ?_, q2⟩
  rw [vL_law_1411, sIA w1 w2 w3 hN hN2 (c := 1) (z := 1) rfl (by omega), aGF kC]
  exact q1
theorem law_c35 (hL : LI D0 k ω D A) (hs : ∀ j, -2147483648 ≤ D0 1000000 j ∧ D0 1000000 j < 2147483648) (hN : D0 1000001 0 = (N : Int)) (hN2 : N ≤ 3072) (hi : i + 6 ≤ N) : ∃ ω2 D2 A2, Vl (d + 49) 297 1436 [some (.inr (.inr (some jSCR))), some (.inr (.inr (some 0))), some (.inr (.inr (some 488))), some (.inr (.inr (some 539))), some (.inl (i : Int)), u5, u6] [] (hp ω D) = Vl (d + 49) 297 1549 [some (.inr (.inr (some jSCR))), some (.inr (.inr (some 0))), some (.inr (.inr (some 488))), some (.inr (.inr (some 539))), some (.inl (i : Int)), u5, u6] [] (hp ω2 D2) ∧ LI D0 k ω2 D2 A2 := by
  have w1 := hL.1.1
  have w2 : ω.2.2.1 ≤ 1000 := Nat.le_trans hL.1.2.2.1 hL.1.2.2.2
  have w3 := hL.2.2.2
  have hC : CO ω D (oRegister A).2 (oRegister A).1 _ := CO_g (register_op (d := d + 44) hL.2.1 hL.1.2.1)
  obtain ⟨ω2, D2, q1, q2⟩ := law_op (dd := d + 48) (yy := 291) (NEXT := fun h => Vl (d + 49) 297 1549 [some (.inr (.inr (some jSCR))), some (.inr (.inr (some 0))), some (.inr (.inr (some 488))), some (.inr (.inr (some 539))), some (.inl (i : Int)), u5, u6] [] h) (K1 := fun r1 h2 => Vl (d + 49) 297 1440 [some (.inr (.inr (some jSCR))), some (.inr (.inr (some 0))), some (.inr (.inr (some 488))), some (.inr (.inr (some 539))), some (.inl (i : Int)), u5, u6] (r1.toList ++ []) h2) (K2 := fun r1 h2 => Vl (d + 49) 297 1444 [some (.inr (.inr (some jSCR))), some (.inr (.inr (some 0))), some (.inr (.inr (some 488))), some (.inr (.inr (some 539))), some (.inl (i : Int)), u5, u6] (r1.toList ++ [.inl (oRegister A).1]) h2) hL hC (fun ρ D' h => MO_l (mregister_op (d := d + 45) h)) (fun ρ D' hS r => by
    rw [tlS, vL_law_1440, mGF m488]) (fun ρ D' hS r => by
    rw [tlS, vL_law_1444, if_pos rfl])
  refine ⟨ω2, D2, (oRegister A).2, ?_, q2⟩
  rw [vL_law_1436, aGF kC]
  exact q1
theorem law_c36 (hL : LI D0 k ω D A) (hs : ∀ j, -2147483648 ≤ D0 1000000 j ∧ D0 1000000 j < 2147483648) (hN : D0 1000001 0 = (N : Int)) (hN2 : N ≤ 3072) (hi : i + 6 ≤ N) : ∃ ω2 D2 A2, Vl (d + 49) 297 1449 [some (.inr (.inr (some jSCR))), some (.inr (.inr (some 0))), some (.inr (.inr (some 488))), some (.inr (.inr (some 539))), some (.inl (i : Int)), u5, u6] [] (hp ω D) = Vl (d + 49) 297 1549 [some (.inr (.inr (some jSCR))), some (.inr (.inr (some 0))), some (.inr (.inr (some 488))), some (.inr (.inr (some 539))), some (.inl (i : Int)), u5, u6] [] (hp ω2 D2) ∧ LI D0 k ω2 D2 A2 := by
  have w1 := hL.1.1
  have w2 : ω.2.2.1 ≤ 1000 := Nat.le_trans hL.1.2.2.1 hL.1.2.2.2
  have w3 := hL.2.2.2
  have hC : CO ω D A (oTap A (D0 1000000 (i + 1))) _ := CO_p hL.2.1 (tap_op (d := d + 47) hL.2.1 (D0 1000000 (i + 1)))
  obtain ⟨ω2, D2, q1, q2⟩ := law_op (dd := d + 48) (yy := 293) (NEXT := fun h => Vl (d + 49) 297 1549 [some (.inr (.inr (some jSCR))), some (.inr (.inr (some 0))), some (.inr (.inr (some 488))), some (.inr (.inr (some 539))), some (.inl (i : Int)), u5, u6] [] h) (K1 := fun r1 h2 => Vl (d + 49) 297 1459 [some (.inr (.inr (some jSCR))), some (.inr (.inr (some 0))), some (.inr (.inr (some 488))), some (.inr (.inr (some 539))), some (.inl (i : Int)), u5, u6] (r1.toList ++ []) h2) (K2 := fun r1 h2 => Vl (d + 49) 297 1469 [some (.inr (.inr (some jSCR))), some (.inr (.inr (some 0))), some (.inr (.inr (some 488))), some (.inr (.inr (some 539))), some (.inl (i : Int)), u5, u6] (r1.toList ++ [.inl (oTap A (D0 1000000 (i + 1)))]) h2) hL hC (fun ρ D' h => MO_l (mtap_op (d := d + 48) h (D0 1000000 (i + 1)))) (fun ρ D' hS r => by
    rw [tlS, vL_law_1459, sIA (ω := (1, ρ)) rfl r hS hN hN2 (c := 1) (z := 1) rfl (by omega), mGF m488]) (fun ρ D' hS r => by
    rw [tlS, vL_law_1469, if_pos rfl])
  refine ⟨ω2, D2, A, ?_, q2⟩
  rw [vL_law_1449, sIA w1 w2 w3 hN hN2 (c := 1) (z := 1) rfl (by omega), aGF kC]
  exact q1
theorem law_c37 (hL : LI D0 k ω D A) (hs : ∀ j, -2147483648 ≤ D0 1000000 j ∧ D0 1000000 j < 2147483648) (hN : D0 1000001 0 = (N : Int)) (hN2 : N ≤ 3072) (hi : i + 6 ≤ N) : ∃ ω2 D2 A2, Vl (d + 49) 297 1474 [some (.inr (.inr (some jSCR))), some (.inr (.inr (some 0))), some (.inr (.inr (some 488))), some (.inr (.inr (some 539))), some (.inl (i : Int)), u5, u6] [] (hp ω D) = Vl (d + 49) 297 1549 [some (.inr (.inr (some jSCR))), some (.inr (.inr (some 0))), some (.inr (.inr (some 488))), some (.inr (.inr (some 539))), some (.inl (i : Int)), u5, u6] [] (hp ω2 D2) ∧ LI D0 k ω2 D2 A2 := by
  have w1 := hL.1.1
  have w2 : ω.2.2.1 ≤ 1000 := Nat.le_trans hL.1.2.2.1 hL.1.2.2.2
  have w3 := hL.2.2.2
  have hC : CO ω D (oImage A (D0 1000000 (i + 1))).2 (oImage A (D0 1000000 (i + 1))).1 _ := CO_d (image_op (d := d + 46) hL.2.1 (D0 1000000 (i + 1)) )
  obtain ⟨ω2, D2, q1, q2⟩ := law_op (dd := d + 48) (yy := 294) (NEXT := fun h => Vl (d + 49) 297 1549 [some (.inr (.inr (some jSCR))), some (.inr (.inr (some 0))), some (.inr (.inr (some 488))), some (.inr (.inr (some 539))), some (.inl (i : Int)), u5, u6] [] h) (K1 := fun r1 h2 => Vl (d + 49) 297 1484 [some (.inr (.inr (some jSCR))), some (.inr (.inr (some 0))), some (.inr (.inr (some 488))), some (.inr (.inr (some 539))), some (.inl (i : Int)), u5, u6] (r1.toList ++ []) h2) (K2 := fun r1 h2 => Vl (d + 49) 297 1494 [some (.inr (.inr (some jSCR))), some (.inr (.inr (some 0))), some (.inr (.inr (some 488))), some (.inr (.inr (some 539))), some (.inl (i : Int)), u5, u6] (r1.toList ++ [.inl (oImage A (D0 1000000 (i + 1))).1]) h2) hL hC (fun ρ D' h => (mimage_op (d := d + 46) h (D0 1000000 (i + 1)) )) (fun ρ D' hS r => by
    rw [tlS, vL_law_1484, sIA (ω := (1, ρ)) rfl r hS hN hN2 (c := 1) (z := 1) rfl (by omega), mGF m488]) (fun ρ D' hS r => by
    rw [tlS, vL_law_1494, if_pos rfl])
  refine ⟨ω2, D2, (oImage A (D0 1000000 (i + 1))).2, ?_, q2⟩
  rw [vL_law_1474, sIA w1 w2 w3 hN hN2 (c := 1) (z := 1) rfl (by omega), aGF kC]
  exact q1
theorem law_c38 (hL : LI D0 k ω D A) (hs : ∀ j, -2147483648 ≤ D0 1000000 j ∧ D0 1000000 j < 2147483648) (hN : D0 1000001 0 = (N : Int)) (hN2 : N ≤ 3072) (hi : i + 6 ≤ N) : ∃ ω2 D2 A2, Vl (d + 49) 297 1499 [some (.inr (.inr (some jSCR))), some (.inr (.inr (some 0))), some (.inr (.inr (some 488))), some (.inr (.inr (some 539))), some (.inl (i : Int)), u5, u6] [] (hp ω D) = Vl (d + 49) 297 1549 [some (.inr (.inr (some jSCR))), some (.inr (.inr (some 0))), some (.inr (.inr (some 488))), some (.inr (.inr (some 539))), some (.inl (i : Int)), u5, u6] [] (hp ω2 D2) ∧ LI D0 k ω2 D2 A2 := by
  have w1 := hL.1.1
  have w2 : ω.2.2.1 ≤ 1000 := Nat.le_trans hL.1.2.2.1 hL.1.2.2.2
  have w3 := hL.2.2.2
  have hC : CO ω D (oRestore A (D0 1000000 (i + 1))).2 (oRestore A (D0 1000000 (i + 1))).1 _ := CO_d (restore_op (d := d + 44) hL.2.1 (D0 1000000 (i + 1)) )
  obtain ⟨ω2, D2, q1, q2⟩ := law_op (dd := d + 48) (yy := 295) (NEXT := fun h => Vl (d + 49) 297 1549 [some (.inr (.inr (some jSCR))), some (.inr (.inr (some 0))), some (.inr (.inr (some 488))), some (.inr (.inr (some 539))), some (.inl (i : Int)), u5, u6] [] h) (K1 := fun r1 h2 => Vl (d + 49) 297 1509 [some (.inr (.inr (some jSCR))), some (.inr (.inr (some 0))), some (.inr (.inr (some 488))), some (.inr (.inr (some 539))), some (.inl (i : Int)), u5, u6] (r1.toList ++ []) h2) (K2 := fun r1 h2 => Vl (d + 49) 297 1519 [some (.inr (.inr (some jSCR))), some (.inr (.inr (some 0))), some (.inr (.inr (some 488))), some (.inr (.inr (some 539))), some (.inl (i : Int)), u5, u6] (r1.toList ++ [.inl (oRestore A (D0 1000000 (i + 1))).1]) h2) hL hC (fun ρ D' h => (mrestore_op (d := d + 46) h (D0 1000000 (i + 1)) )) (fun ρ D' hS r => by
    rw [tlS, vL_law_1509, sIA (ω := (1, ρ)) rfl r hS hN hN2 (c := 1) (z := 1) rfl (by omega), mGF m488]) (fun ρ D' hS r => by
    rw [tlS, vL_law_1519, if_pos rfl])
  refine ⟨ω2, D2, (oRestore A (D0 1000000 (i + 1))).2, ?_, q2⟩
  rw [vL_law_1499, sIA w1 w2 w3 hN hN2 (c := 1) (z := 1) rfl (by omega), aGF kC]
  exact q1
theorem law_c39 (hL : LI D0 k ω D A) (hs : ∀ j, -2147483648 ≤ D0 1000000 j ∧ D0 1000000 j < 2147483648) (hN : D0 1000001 0 = (N : Int)) (hN2 : N ≤ 3072) (hi : i + 6 ≤ N) : ∃ ω2 D2 A2, Vl (d + 49) 297 1524 [some (.inr (.inr (some jSCR))), some (.inr (.inr (some 0))), some (.inr (.inr (some 488))), some (.inr (.inr (some 539))), some (.inl (i : Int)), u5, u6] [] (hp ω D) = Vl (d + 49) 297 1549 [some (.inr (.inr (some jSCR))), some (.inr (.inr (some 0))), some (.inr (.inr (some 488))), some (.inr (.inr (some 539))), some (.inl (i : Int)), u5, u6] [] (hp ω2 D2) ∧ LI D0 k ω2 D2 A2 := by
  have w1 := hL.1.1
  have w2 : ω.2.2.1 ≤ 1000 := Nat.le_trans hL.1.2.2.1 hL.1.2.2.2
  have w3 := hL.2.2.2
  have hC : CO ω D A (oCount A (D0 1000000 (i + 1))) _ := CO_p hL.2.1 (count_op (d := d + 48) hL.2.1 (D0 1000000 (i + 1)))
  obtain ⟨ω2, D2, q1, q2⟩ := law_op (dd := d + 48) (yy := 296) (NEXT := fun h => Vl (d + 49) 297 1549 [some (.inr (.inr (some jSCR))), some (.inr (.inr (some 0))), some (.inr (.inr (some 488))), some (.inr (.inr (some 539))), some (.inl (i : Int)), u5, u6] [] h) (K1 := fun r1 h2 => Vl (d + 49) 297 1534 [some (.inr (.inr (some jSCR))), some (.inr (.inr (some 0))), some (.inr (.inr (some 488))), some (.inr (.inr (some 539))), some (.inl (i : Int)), u5, u6] (r1.toList ++ []) h2) (K2 := fun r1 h2 => Vl (d + 49) 297 1544 [some (.inr (.inr (some jSCR))), some (.inr (.inr (some 0))), some (.inr (.inr (some 488))), some (.inr (.inr (some 539))), some (.inl (i : Int)), u5, u6] (r1.toList ++ [.inl (oCount A (D0 1000000 (i + 1)))]) h2) hL hC (fun ρ D' h => MO_l (mcount_op (d := d + 46) h (D0 1000000 (i + 1)))) (fun ρ D' hS r => by
    rw [tlS, vL_law_1534, sIA (ω := (1, ρ)) rfl r hS hN hN2 (c := 1) (z := 1) rfl (by omega), mGF m488]) (fun ρ D' hS r => by
    rw [tlS, vL_law_1544, if_pos rfl])
  refine ⟨ω2, D2, A, ?_, q2⟩
  rw [vL_law_1524, sIA w1 w2 w3 hN hN2 (c := 1) (z := 1) rfl (by omega), aGF kC]
  exact q1
end LAW2
