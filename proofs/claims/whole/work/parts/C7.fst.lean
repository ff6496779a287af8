/-! THE FIRST STATE: class, reference, row (wip/whole/gen_c7.py) -/
def aA0 : aA := (0, fun _ => 0, aT0, fun _ => false, fun _ => aT0, fun _ => p0, 0, 0, fun _ => 0)
def lwM : List (Nat × Nat × Int) := [(488, 11, 3), (488, 10, 1)]
def ρ0 : jr2 := (fun b => b, 0, fun _ _ => 0)
section FST
variable {D0 D1 : jD} {d : Nat}
theorem UL_102 : ULx.drop 102 = UL0 := by decide +kernel
theorem r345 : ∀ b, b < 16 → lkR UL0 345 b = some (346 + b) ∧ lkR ULx 345 b = some (346 + b) := by decide +kernel
theorem hx_0 {l : List (Nat × Nat × Int)} : hx D0 488 102 l = hp (0, fun b => b, 0, fun _ _ => 0) (lkD l D0) := by
  unfold hx hp
  refine Prod.ext ?_ (Prod.ext ?_ rfl)
  · show KLx.take 488 = KL0 ++ []
    rw [List.append_nil, ← KL0_len]
    exact List.take_left' rfl
  · show lkR (ULx.drop 102) = fun a b => if a = 345 ∧ b < 16 then some (346 + b) else lkR UL0 a b
    rw [UL_102]
    funext a b
    by_cases h : a = 345 ∧ b < 16
    · rw [if_pos h, h.1]; exact (r345 b h.2).1
    · rw [if_neg h]
theorem hx_1 {l : List (Nat × Nat × Int)} : hx D0 540 0 l = hp (1, ρ0) (lkD l D0) := by
  unfold hx hp
  refine Prod.ext ?_ (Prod.ext ?_ rfl)
  · show KLx.take 540 = KL0 ++ (KLm ++ [])
    rw [List.append_nil, ← KLx_len, List.take_length]; rfl
  · show lkR ULx = fun a b => if a = 345 ∧ b < 16 then some (346 + b) else lkR ULx a b
    funext a b
    by_cases h : a = 345 ∧ b < 16
    · rw [if_pos h, h.1]; exact (r345 b h.2).2
    · rw [if_neg h]
theorem lw1_no {a : Nat} (h : (lw1.all fun q => decide (q.1 ≠ a)) = true) : lkD lw1 D0 a = D0 a := lkD_z lw1 (fun q hq => by
  have := List.all_eq_true.mp h q hq
  simpa using this)
theorem lw1_lt : (lw1.all fun q => decide (q.1 < 488)) = true := by decide +kernel
theorem lw1_ge {a : Nat} (h : 488 ≤ a) : lkD lw1 D0 a = D0 a := lkD_z lw1 (fun q hq => by
  have := List.all_eq_true.mp lw1_lt q hq
  have h2 : q.1 < 488 := by simpa using this
  omega)
/-- the class is made -/
theorem class_made (hD : ∀ a, a < 1000000 → ∀ i, D0 a i = 0) : ∃ D1, Vl (d + 5) 0 0 [some (.inr (.inr (some 0))), none] [] (hx D0 1 1076 []) = some ((0, none), hp (0, fun b => b, 0, fun _ _ => 0) D1) ∧ CS D1 aA0 ∧ ∀ a, 488 ≤ a → D1 a = D0 a := by
  have e1 := xC0 (d := d + 1) (D0 := D0) hD
  obtain ⟨D, hDD⟩ : ∃ D, D = lkD lw1 D0 := ⟨_, rfl⟩
  have t3 : D 3 0 = 1 ∧ D 3 1 = 3 ∧ D 3 2 = 0 ∧ D 3 3 = 0 ∧ D 3 4 = 0 ∧ D 3 5 = 0 ∧ D 3 6 = 0 := by
    rw [hDD]
    exact ⟨rfl, rfl, rfl, rfl, rfl, rfl, rfl⟩
  obtain ⟨D1, q1, F1, f1⟩ := tellTo_spec (ω := (0, fun b => b, 0, fun _ _ => 0)) (D := D) (d := d + 1) (T := aT0) tT_3 tF_76 aT0_OK.1 t3.1 t3.2.1 t3.2.2.1 t3.2.2.2.1
  have z : ∀ a, (lw1.all fun q => decide (q.1 ≠ a)) = true → (a < 76 ∨ 81 ≤ a) → a < 1000000 → ∀ i, D1 a i = 0 := fun a h1 h2 h3 i => by
    rw [f1 a (by omega), hDD, lw1_no h1]; exact hD a h3 i
  have zr : ∀ k, k < 4 → (lw1.all fun q => decide (q.1 ≠ 68 + 2 * k)) = true := by decide +kernel
  refine ⟨D1, ?_, ⟨⟨?_, by decide, fun i hi => absurd hi (Nat.not_lt_zero i)⟩, aT0_OK, ⟨⟨?_, ?_, ?_, ?_⟩, ?_, ?_, ?_, fun i hi => absurd hi (Nat.not_lt_zero i), fun i hi => absurd hi (Nat.not_lt_zero i), fun i hi => absurd hi (Nat.not_lt_zero i)⟩, F1, fun k hk => ⟨?_, fun h => absurd (show false = true from h) (by decide)⟩, fun k hk => ⟨⟨fun b => by show 0 < 256; decide, fun b _ => rfl⟩, fun b _ => ?_⟩, ?_, by decide, ?_, fun i h1 h2 => absurd (Nat.le_trans h1 h2) (by decide)⟩, fun a ha => ?_⟩
  · rw [e1, vC_init_166]
    rw [hx_0, ← hDD]
    simp only [aGF kC, rC_1, rC_5, aGF (kT tT_3), aGF (kK tK_75), rK_0 tK_75]
    rw [q1, aVC, tlN, vC_init_180]
  · rw [f1 1 (by omega), hDD]; rfl
  · rw [f1 3 (by omega)]; exact t3.1
  · rw [f1 3 (by omega)]; exact t3.2.1
  · rw [f1 3 (by omega)]; exact t3.2.2.1
  · rw [f1 3 (by omega)]; exact t3.2.2.2.1
  · rw [f1 3 (by omega)]; exact t3.2.2.2.2.1
  · rw [f1 3 (by omega)]; exact t3.2.2.2.2.2.1
  · rw [f1 3 (by omega)]; exact t3.2.2.2.2.2.2
  · rw [z 65 (by decide +kernel) (by omega) (by decide)]; rfl
  · rw [z (68 + 2 * k) (zr k hk) (by omega) (by omega)]; rfl
  · rw [f1 0 (by omega), hDD]; rfl
  · rw [f1 343 (by omega), hDD]; rfl
  · rw [f1 a (by omega), hDD, lw1_ge ha]
theorem DZq {n : Nat} {l : List (Nat × Nat × Int)} (hD : ∀ a, 488 ≤ a → a < 1000000 → ∀ i, D1 a i = 0) (h : (decide (488 ≤ n) && l.all fun q => decide (q.1 < n)) = true) : DZ D1 n l := by
  rw [Bool.and_eq_true, decide_eq_true_eq] at h
  exact ⟨fun a ha hb => hD a (by omega) hb, fun q hq => by
    have := List.all_eq_true.mp h.2 q hq
    simpa using this⟩
set_option maxRecDepth 100000 in
theorem model_made (hD : ∀ a, 488 ≤ a → a < 1000000 → ∀ i, D1 a i = 0) : Vl d 184 0 [some (.inr (.inr (some 488)))] [] (hx D1 489 101 []) = some ((0, none), hx D1 539 1 lwM) := by
  rw [vM_init_0, xN (n := 489) (m := 100) (by decide +kernel) (DZq hD (by decide +kernel)), xG (by decide +kernel), xR (m := 99) (by decide +kernel), vM_init_13, xN (n := 490) (m := 98) (by decide +kernel) (DZq hD (by decide +kernel)), xG (by decide +kernel), xR (m := 97) (by decide +kernel), vM_init_22, xN (n := 491) (m := 96) (by decide +kernel) (DZq hD (by decide +kernel)), xG (by decide +kernel), xR (m := 95) (by decide +kernel)]
  rw [vM_init_31, xN (n := 492) (m := 94) (by decide +kernel) (DZq hD (by decide +kernel)), xG (by decide +kernel), xR (m := 93) (by decide +kernel), vM_init_40, xN (n := 493) (m := 92) (by decide +kernel) (DZq hD (by decide +kernel)), xG (by decide +kernel), xR (m := 91) (by decide +kernel), vM_init_48, xN (n := 494) (m := 90) (by decide +kernel) (DZq hD (by decide +kernel)), xG (by decide +kernel), xR (m := 89) (by decide +kernel)]
  rw [vM_init_56, xN (n := 495) (m := 88) (by decide +kernel) (DZq hD (by decide +kernel)), xG (by decide +kernel), xR (m := 87) (by decide +kernel), vM_init_64, xN (n := 496) (m := 86) (by decide +kernel) (DZq hD (by decide +kernel)), xG (by decide +kernel), xR (m := 85) (by decide +kernel), vM_init_71, xG (by decide +kernel), xD, vM_init_76]
  rw [xG (by decide +kernel), xD, vM_init_81, xN (n := 497) (m := 84) (by decide +kernel) (DZq hD (by decide +kernel)), xG (by decide +kernel), xR (m := 83) (by decide +kernel), vM_init_89, xN (n := 498) (m := 82) (by decide +kernel) (DZq hD (by decide +kernel)), xG (by decide +kernel), xR (m := 81) (by decide +kernel), vM_init_97, xN (n := 499) (m := 80) (by decide +kernel) (DZq hD (by decide +kernel))]
  rw [xG (by decide +kernel), xR (m := 79) (by decide +kernel), vM_init_105, xN (n := 500) (m := 78) (by decide +kernel) (DZq hD (by decide +kernel)), xG (by decide +kernel), xR (m := 77) (by decide +kernel), vM_init_114, xN (n := 501) (m := 76) (by decide +kernel) (DZq hD (by decide +kernel)), xG (by decide +kernel), xR (m := 75) (by decide +kernel), vM_init_122, xN (n := 502) (m := 74) (by decide +kernel) (DZq hD (by decide +kernel))]
  rw [xG (by decide +kernel), xR (m := 73) (by decide +kernel), vM_init_130, xN (n := 503) (m := 72) (by decide +kernel) (DZq hD (by decide +kernel)), xG (by decide +kernel), xR (m := 71) (by decide +kernel), vM_init_138, xN (n := 504) (m := 70) (by decide +kernel) (DZq hD (by decide +kernel)), xG (by decide +kernel), xR (m := 69) (by decide +kernel), vM_init_146, xN (n := 505) (m := 68) (by decide +kernel) (DZq hD (by decide +kernel))]
  rw [xG (by decide +kernel), xR (m := 67) (by decide +kernel), vM_init_154, xN (n := 506) (m := 66) (by decide +kernel) (DZq hD (by decide +kernel)), xG (by decide +kernel), xR (m := 65) (by decide +kernel), vM_init_162, xN (n := 507) (m := 64) (by decide +kernel) (DZq hD (by decide +kernel)), xG (by decide +kernel), xR (m := 63) (by decide +kernel), vM_init_170, xN (n := 508) (m := 62) (by decide +kernel) (DZq hD (by decide +kernel))]
  rw [xG (by decide +kernel), xR (m := 61) (by decide +kernel), vM_init_178, xN (n := 509) (m := 60) (by decide +kernel) (DZq hD (by decide +kernel)), xG (by decide +kernel), xR (m := 59) (by decide +kernel), vM_init_186, xN (n := 510) (m := 58) (by decide +kernel) (DZq hD (by decide +kernel)), xG (by decide +kernel), xR (m := 57) (by decide +kernel), vM_init_194, xN (n := 511) (m := 56) (by decide +kernel) (DZq hD (by decide +kernel))]
  rw [xG (by decide +kernel), xR (m := 55) (by decide +kernel), vM_init_202, xN (n := 512) (m := 54) (by decide +kernel) (DZq hD (by decide +kernel)), xG (by decide +kernel), xR (m := 53) (by decide +kernel), vM_init_210, xN (n := 513) (m := 52) (by decide +kernel) (DZq hD (by decide +kernel)), xG (by decide +kernel), xR (m := 51) (by decide +kernel), vM_init_218, xN (n := 514) (m := 50) (by decide +kernel) (DZq hD (by decide +kernel))]
  rw [xG (by decide +kernel), xR (m := 49) (by decide +kernel), vM_init_227, xN (n := 515) (m := 48) (by decide +kernel) (DZq hD (by decide +kernel)), xG (by decide +kernel), xR (m := 47) (by decide +kernel), vM_init_235, xN (n := 516) (m := 46) (by decide +kernel) (DZq hD (by decide +kernel)), xG (by decide +kernel), xR (m := 45) (by decide +kernel), vM_init_243, xN (n := 517) (m := 44) (by decide +kernel) (DZq hD (by decide +kernel))]
  rw [xG (by decide +kernel), xR (m := 43) (by decide +kernel), vM_init_251, xN (n := 518) (m := 42) (by decide +kernel) (DZq hD (by decide +kernel)), xG (by decide +kernel), xR (m := 41) (by decide +kernel), vM_init_259, xN (n := 519) (m := 40) (by decide +kernel) (DZq hD (by decide +kernel)), xG (by decide +kernel), xR (m := 39) (by decide +kernel), vM_init_268, xN (n := 520) (m := 38) (by decide +kernel) (DZq hD (by decide +kernel))]
  rw [xG (by decide +kernel), xR (m := 37) (by decide +kernel), vM_init_276, xN (n := 521) (m := 36) (by decide +kernel) (DZq hD (by decide +kernel)), xG (by decide +kernel), xR (m := 35) (by decide +kernel), vM_init_284, xN (n := 522) (m := 34) (by decide +kernel) (DZq hD (by decide +kernel)), xG (by decide +kernel), xR (m := 33) (by decide +kernel), vM_init_293, xN (n := 523) (m := 32) (by decide +kernel) (DZq hD (by decide +kernel))]
  rw [xG (by decide +kernel), xR (m := 31) (by decide +kernel), vM_init_301, xN (n := 524) (m := 30) (by decide +kernel) (DZq hD (by decide +kernel)), xG (by decide +kernel), xR (m := 29) (by decide +kernel), vM_init_309, xN (n := 525) (m := 28) (by decide +kernel) (DZq hD (by decide +kernel)), xG (by decide +kernel), xR (m := 27) (by decide +kernel), vM_init_317, xN (n := 526) (m := 26) (by decide +kernel) (DZq hD (by decide +kernel))]
  rw [xG (by decide +kernel), xR (m := 25) (by decide +kernel), vM_init_325, xN (n := 527) (m := 24) (by decide +kernel) (DZq hD (by decide +kernel)), xG (by decide +kernel), xR (m := 23) (by decide +kernel), vM_init_333, xN (n := 528) (m := 22) (by decide +kernel) (DZq hD (by decide +kernel)), xG (by decide +kernel), xR (m := 21) (by decide +kernel), vM_init_341, xN (n := 529) (m := 20) (by decide +kernel) (DZq hD (by decide +kernel))]
  rw [xG (by decide +kernel), xR (m := 19) (by decide +kernel), vM_init_350, xN (n := 530) (m := 18) (by decide +kernel) (DZq hD (by decide +kernel)), xG (by decide +kernel), xR (m := 17) (by decide +kernel), vM_init_358, xN (n := 531) (m := 16) (by decide +kernel) (DZq hD (by decide +kernel)), xG (by decide +kernel), xR (m := 15) (by decide +kernel), vM_init_366, xN (n := 532) (m := 14) (by decide +kernel) (DZq hD (by decide +kernel))]
  rw [xG (by decide +kernel), xR (m := 13) (by decide +kernel), vM_init_374, xN (n := 533) (m := 12) (by decide +kernel) (DZq hD (by decide +kernel)), xG (by decide +kernel), xR (m := 11) (by decide +kernel), vM_init_382, xN (n := 534) (m := 10) (by decide +kernel) (DZq hD (by decide +kernel)), xG (by decide +kernel), xR (m := 9) (by decide +kernel), vM_init_390, xN (n := 535) (m := 8) (by decide +kernel) (DZq hD (by decide +kernel))]
  rw [xG (by decide +kernel), xR (m := 7) (by decide +kernel), vM_init_398, xN (n := 536) (m := 6) (by decide +kernel) (DZq hD (by decide +kernel)), xG (by decide +kernel), xR (m := 5) (by decide +kernel), vM_init_407, xN (n := 537) (m := 4) (by decide +kernel) (DZq hD (by decide +kernel)), xG (by decide +kernel), xR (m := 3) (by decide +kernel), vM_init_415, xN (n := 538) (m := 2) (by decide +kernel) (DZq hD (by decide +kernel))]
  rw [xG (by decide +kernel), xR (m := 1) (by decide +kernel), vM_init_423]
  rfl
theorem MS_0s (hD : ∀ a, 488 ≤ a → a < 1000000 → ∀ i, D1 a i = 0) : MS (lkD lwM D1) aA0 := by
  have z : ∀ a, 489 ≤ a → a < 1000000 → ∀ i, lkD lwM D1 a i = 0 := fun a h1 h2 i => by
    rw [lkD_z lwM (fun q hq => by
      have : ∀ q ∈ lwM, q.1 = 488 := by decide
      have := this q hq
      omega)]
    exact hD a (by omega) h2 i
  have z8 : ∀ j, j ≠ 10 → j ≠ 11 → lkD lwM D1 488 j = 0 := fun j h1 h2 => by
    show sD (sD D1 488 10 1) 488 11 3 488 j = 0
    rw [sD_nb h2, sD_nb h1]
    exact hD 488 (by decide) (by decide) j
  have c : ∀ o, MT (lkD lwM D1) 490 o aT0 := fun o => ⟨⟨Or.inr ⟨z 490 (by decide) (by decide) _, rfl, rfl⟩, z 490 (by decide) (by decide) _, z 490 (by decide) (by decide) _⟩, z 490 (by decide) (by decide) _, z 490 (by decide) (by decide) _, z 490 (by decide) (by decide) _, fun i hi => absurd hi (Nat.not_lt_zero i), fun i hi => absurd hi (Nat.not_lt_zero i), fun i hi => absurd hi (Nat.not_lt_zero i)⟩
  exact ⟨⟨z8 2 (by decide) (by decide), by decide, fun i hi => absurd hi (Nat.not_lt_zero i)⟩, aT0_OK, c 0, fun k hk => ⟨z 496 (by decide) (by decide) k, fun h => absurd (show false = true from h) (by decide)⟩, fun k hk => ⟨⟨fun b => by show 0 < 256; decide, fun b _ => rfl⟩, fun b _ => z 518 (by decide) (by decide) _⟩, z8 37 (by decide) (by decide), by decide, z8 69 (by decide) (by decide), fun i h1 h2 => absurd (Nat.le_trans h1 h2) (by decide)⟩
end FST
