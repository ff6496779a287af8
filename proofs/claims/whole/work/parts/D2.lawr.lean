/-! THE LAW: its loop, its run (wip/whole/gen_d2.py) -/
def lwT : List Nat := [216, 289, 314, 327, 340, 377, 414, 439, 495, 563, 612, 661, 710, 759, 827, 852, 889, 902, 939, 988, 1025, 1062, 1075, 1088, 1137, 1162, 1211, 1248, 1273, 1286, 1299, 1336, 1349, 1386, 1411, 1436, 1449, 1474, 1499, 1524]
section LAW4
variable {D0 D D' : jD} {k i N : Nat} {ω : jw} {ρ : jr2} {A : aA} {d : Nat} {u5 u6 : Option jv}
theorem lwT_c (c : Nat) (hc : c < 40) : jsw lwT 1549 0 39 (c : Int) = lwT.getD c 0 := by
  unfold jsw
  rw [if_neg (by omega), if_neg (by omega), show ((c : Int) - 0).toNat = c by omega]
theorem law_step (hL : LI D0 k ω D A) (hk : k + 1 ≤ 1000) (hs : ∀ j, -2147483648 ≤ D0 1000000 j ∧ D0 1000000 j < 2147483648) (hN : D0 1000001 0 = (N : Int)) (hN2 : N ≤ 3072) (hi : i + 6 ≤ N) (x : Int) : ∃ ω2 D2 A2 u5' u6', Vl (d + 49) 297 (jsw lwT 1549 0 39 x) [some (.inr (.inr (some jSCR))), some (.inr (.inr (some 0))), some (.inr (.inr (some 488))), some (.inr (.inr (some 539))), some (.inl (i : Int)), u5, u6] [] (hp ω D) = Vl (d + 49) 297 1549 [some (.inr (.inr (some jSCR))), some (.inr (.inr (some 0))), some (.inr (.inr (some 488))), some (.inr (.inr (some 539))), some (.inl (i : Int)), u5', u6'] [] (hp ω2 D2) ∧ LI D0 (k + 1) ω2 D2 A2 := by
  by_cases h0 : x < 0
  · refine ⟨ω, D, A, u5, u6, ?_, LI_up hL hk⟩
    rw [show jsw lwT 1549 0 39 x = 1549 from if_pos h0]
  by_cases h1 : 39 < x
  · refine ⟨ω, D, A, u5, u6, ?_, LI_up hL hk⟩
    rw [show jsw lwT 1549 0 39 x = 1549 from by unfold jsw; rw [if_neg h0, if_pos h1]]
  obtain ⟨c, rfl⟩ := Int.eq_ofNat_of_zero_le (show 0 ≤ x by omega)
  have hc : c < 40 := by omega
  rw [lwT_c c hc]
  have fin : ∀ p, (∃ ω2 D2 A2, Vl (d + 49) 297 p [some (.inr (.inr (some jSCR))), some (.inr (.inr (some 0))), some (.inr (.inr (some 488))), some (.inr (.inr (some 539))), some (.inl (i : Int)), u5, u6] [] (hp ω D) = Vl (d + 49) 297 1549 [some (.inr (.inr (some jSCR))), some (.inr (.inr (some 0))), some (.inr (.inr (some 488))), some (.inr (.inr (some 539))), some (.inl (i : Int)), u5, u6] [] (hp ω2 D2) ∧ LI D0 k ω2 D2 A2) → ∃ ω2 D2 A2 u5' u6', Vl (d + 49) 297 p [some (.inr (.inr (some jSCR))), some (.inr (.inr (some 0))), some (.inr (.inr (some 488))), some (.inr (.inr (some 539))), some (.inl (i : Int)), u5, u6] [] (hp ω D) = Vl (d + 49) 297 1549 [some (.inr (.inr (some jSCR))), some (.inr (.inr (some 0))), some (.inr (.inr (some 488))), some (.inr (.inr (some 539))), some (.inl (i : Int)), u5', u6'] [] (hp ω2 D2) ∧ LI D0 (k + 1) ω2 D2 A2 := fun p z => by
    obtain ⟨ω2, D2, A2, a, b⟩ := z
    exact ⟨ω2, D2, A2, u5, u6, a, LI_up b hk⟩
  have h40 : c = 0 ∨ c = 1 ∨ c = 2 ∨ c = 3 ∨ c = 4 ∨ c = 5 ∨ c = 6 ∨ c = 7 ∨ c = 8 ∨ c = 9 ∨ c = 10 ∨ c = 11 ∨ c = 12 ∨ c = 13 ∨ c = 14 ∨ c = 15 ∨ c = 16 ∨ c = 17 ∨ c = 18 ∨ c = 19 ∨ c = 20 ∨ c = 21 ∨ c = 22 ∨ c = 23 ∨ c = 24 ∨ c = 25 ∨ c = 26 ∨ c = 27 ∨ c = 28 ∨ c = 29 ∨ c = 30 ∨ c = 31 ∨ c = 32 ∨ c = 33 ∨ c = 34 ∨ c = 35 ∨ c = 36 ∨ c = 37 ∨ c = 38 ∨ c = 39 := by omega
  rcases h40 with rfl | rfl | rfl | rfl | rfl | rfl | rfl | rfl | rfl | rfl | rfl | rfl | rfl | rfl | rfl | rfl | rfl | rfl | rfl | rfl | rfl | rfl | rfl | rfl | rfl | rfl | rfl | rfl | rfl | rfl | rfl | rfl | rfl | rfl | rfl | rfl | rfl | rfl | rfl | rfl
  · exact fin _ (law_c0 hL hs hN hN2 hi)
  · exact fin _ (law_c1 hL hs hN hN2 hi)
  · exact fin _ (law_c2 hL hs hN hN2 hi)
  · exact fin _ (law_c3 hL hs hN hN2 hi)
  · exact fin _ (law_c4 hL hs hN hN2 hi)
  · exact fin _ (law_c5 hL hs hN hN2 hi)
  · exact fin _ (law_c6 hL hs hN hN2 hi)
  · exact law_c7 hL hk hs hN hN2 hi
  · exact law_c8 hL hk hs hN hN2 hi
  · exact fin _ (law_c9 hL hs hN hN2 hi)
  · exact fin _ (law_c10 hL hs hN hN2 hi)
  · exact fin _ (law_c11 hL hs hN hN2 hi)
  · exact fin _ (law_c12 hL hs hN hN2 hi)
  · exact law_c13 hL hk hs hN hN2 hi
  · exact fin _ (law_c14 hL hs hN hN2 hi)
  · exact fin _ (law_c15 hL hs hN hN2 hi)
  · exact fin _ (law_c16 hL hs hN hN2 hi)
  · exact fin _ (law_c17 hL hs hN hN2 hi)
  · exact fin _ (law_c18 hL hs hN hN2 hi)
  · exact fin _ (law_c19 hL hs hN hN2 hi)
  · exact fin _ (law_c20 hL hs hN hN2 hi)
  · exact fin _ (law_c21 hL hs hN hN2 hi)
  · exact fin _ (law_c22 hL hs hN hN2 hi)
  · exact fin _ (law_c23 hL hs hN hN2 hi)
  · exact fin _ (law_c24 hL hs hN hN2 hi)
  · exact fin _ (law_c25 hL hs hN hN2 hi)
  · exact fin _ (law_c26 hL hs hN hN2 hi)
  · exact fin _ (law_c27 hL hs hN hN2 hi)
  · exact fin _ (law_c28 hL hs hN hN2 hi)
  · exact fin _ (law_c29 hL hs hN hN2 hi)
  · exact fin _ (law_c30 hL hs hN hN2 hi)
  · exact fin _ (law_c31 hL hs hN hN2 hi)
  · exact fin _ (law_c32 hL hs hN hN2 hi)
  · exact fin _ (law_c33 hL hs hN hN2 hi)
  · exact fin _ (law_c34 hL hs hN hN2 hi)
  · exact fin _ (law_c35 hL hs hN hN2 hi)
  · exact fin _ (law_c36 hL hs hN hN2 hi)
  · exact fin _ (law_c37 hL hs hN hN2 hi)
  · exact fin _ (law_c38 hL hs hN hN2 hi)
  · exact fin _ (law_c39 hL hs hN hN2 hi)
theorem law_loop (hs : ∀ j, -2147483648 ≤ D0 1000000 j ∧ D0 1000000 j < 2147483648) (hN : D0 1000001 0 = (N : Int)) (hN2 : N ≤ 3072) : ∀ (n j k : Nat) (ω : jw) (D : jD) (A : aA) (u5 u6 : Option jv), 6 * (j + n) ≤ N → N < 6 * (j + n) + 6 → LI D0 k ω D A → k + n ≤ 1000 → ∃ ω' D', Vl (d + 49) 297 23 [some (.inr (.inr (some jSCR))), some (.inr (.inr (some 0))), some (.inr (.inr (some 488))), some (.inr (.inr (some 539))), some (.inl ((6 * j : Nat) : Int)), u5, u6] [] (hp ω D) = some ((0, some (.inl 1)), hp ω' D') ∧ ω'.1 = 1 ∧ ω'.2.2.1 ≤ k + n
  | 0, j, k, ω, D, A, u5, u6, h1, h2, hL, hk => by
    have w2 : ω.2.2.1 ≤ 1000 := Nat.le_trans hL.1.2.2.1 hL.1.2.2.2
    refine ⟨ω, D, ?_, hL.1.1, hL.1.2.2.1⟩
    rw [vL_law_23, sLN hL.1.1 w2 hL.2.2.2, hN, w32_i (by omega) (by omega), if_pos (by omega), vL_law_1555, aZ1]
  | n + 1, j, k, ω, D, A, u5, u6, h1, h2, hL, hk => by
    have w2 : ω.2.2.1 ≤ 1000 := Nat.le_trans hL.1.2.2.1 hL.1.2.2.2
    obtain ⟨ω2, D2, A2, v5, v6, q1, q2⟩ := law_step (d := d) (u5 := u5) (u6 := u6) (i := 6 * j) hL (by omega) hs hN hN2 (by omega) (jand (D0 1000000 (6 * j)) 63)
    obtain ⟨ω3, D3, q3, q4, q5⟩ := law_loop hs hN hN2 n (j + 1) (k + 1) ω2 D2 A2 v5 v6 (by omega) (by omega) q2 (by omega)
    refine ⟨ω3, D3, ?_, q4, by omega⟩
    rw [vL_law_23, sLN hL.1.1 w2 hL.2.2.2, hN, w32_i (x := (N : Int) - 6) (by omega) (by omega), if_neg (by omega), vL_law_33, sIA0 hL.1.1 w2 hL.2.2.2 hN (by omega)]
    refine q1.trans ?_
    rw [vL_law_1549, show w32 (((6 * j : Nat) : Int) + 6) = ((6 * (j + 1) : Nat) : Int) from by rw [w32_i (by omega) (by omega)]; omega, q3]
/-- the law's run, from an empty heap beside the script -/
theorem law_run (hs : ∀ j, -2147483648 ≤ D0 1000000 j ∧ D0 1000000 j < 2147483648) (hN : D0 1000001 0 = (N : Int)) (hN2 : N ≤ 3072) (hz : ∀ a, a < 1000000 → ∀ i, D0 a i = 0) : ∃ ω' D', Vl (d + 49) 297 0 [some (.inr (.inr (some jSCR))), none, none, none, none, none, none] [] (hx D0 0 1077 []) = some ((0, some (.inl 1)), hp ω' D') ∧ ω'.1 = 1 ∧ ω'.2.2.1 ≤ 512 := by
  obtain ⟨D1, c1, c2, c3⟩ := class_made (d := d + 43) (D0 := D0) hz
  have hD1 : ∀ a, 488 ≤ a → a < 1000000 → ∀ i, D1 a i = 0 := fun a h1 h2 i => by rw [c3 a h1]; exact hz a h2 i
  have m1 := model_made (d := d + 48) hD1
  have no : ∀ a, a ≠ 488 → lkD lwM D1 a = D1 a := fun a ha => lkD_z lwM (fun q hq => by
    have : ∀ q ∈ lwM, q.1 = 488 := by decide
    have := this q hq
    omega)
  have hL : LI D0 0 (1, ρ0) (lkD lwM D1) aA0 := ⟨⟨rfl, ⟨fun i hi => hi, fun i j _ _ e => e⟩, Nat.le_refl _, by decide⟩, CS_fr c2 (fun q hq => no q (by omega)), MS_0s hD1, by rw [no _ (by decide), c3 _ (by decide)], by rw [no _ (by decide), c3 _ (by decide)]⟩
  obtain ⟨ω', D', q1, q2, q3⟩ := law_loop (d := d) hs hN hN2 (N / 6) 0 0 (1, ρ0) (lkD lwM D1) aA0 none none (by omega) (by omega) hL (by omega)
  refine ⟨ω', D', ?_, q2, by omega⟩
  have e0 : hp (0, fun b => b, 0, fun _ _ => 0) D1 = hx D1 488 102 [] := (hx_0 (D0 := D1) (l := [])).symm
  rw [vL_law_0, xN (n := 0) (m := 1076) (by decide +kernel) (DZm hz rfl)]
  refine (congrArg (fun z => vC z _) c1).trans ?_
  rw [aVC, tlN, e0, vL_law_7, xN (n := 488) (m := 101) (by decide +kernel) (DZq hD1 rfl)]
  refine (congrArg (fun z => vC z _) m1).trans ?_
  rw [aVC, tlN, vL_law_15, xN (n := 539) (m := 0) (by decide +kernel) (DZq hD1 (by decide)), hx_1]
  exact q1
end LAW4
