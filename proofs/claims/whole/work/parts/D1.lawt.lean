/-! THE LAW: the calls that may throw; the loop (wip/whole/gen_d1.py) -/
section LAW3
variable {D0 D D' : jD} {k i N : Nat} {ω : jw} {ρ : jr2} {A : aA} {d : Nat} {u5 u6 : Option jv}
theorem jtry0 {y2 pc o : Nat} {av : List jv} {av' ls : List (Option jv)} {h h' : jh} {x : Int} (h1 : av.getLast? = some (.inr (.inr (some o)))) (h2 : jent (pmL y2) av.dropLast = av') (h3 : Vl d y2 0 av' [] h = some ((0, some (.inl x)), h')) (h4 : gK h' o = some (3, 1)) : jco Vl (d + 1) 297 pc ls h (some (.inr (.inl (1, y2, av, [])))) = Vl (d + 1) 297 (pc + 3) ls [.inl 0] (wL h' o 0 x) := by
  unfold jco
  simp only [h1, h2, h3]
  rw [if_pos h4]
theorem jtry1 {y2 pc o : Nat} {av : List jv} {av' ls : List (Option jv)} {h h' : jh} {r : Option jv} (h1 : av.getLast? = some (.inr (.inr (some o)))) (h2 : jent (pmL y2) av.dropLast = av') (h3 : Vl d y2 0 av' [] h = some ((1, r), h')) : jco Vl (d + 1) 297 pc ls h (some (.inr (.inl (1, y2, av, [])))) = Vl (d + 1) 297 (pc + 3) ls [.inl 1] (nC h' (0, 14)) := by
  unfold jco
  simp only [h1, h2, h3]
theorem lkR_hi {a b : Nat} (ha : 540 ≤ a) : ∀ us : List jev, (us.all fun q => decide (q.1 < 540)) = true → lkR us a b = none
  | [], _ => rfl
  | (c, none) :: us, h => by
    rw [List.all_cons, Bool.and_eq_true, decide_eq_true_eq] at h
    show (if a = c then none else lkR us a b) = none
    rw [if_neg (by have := h.1; dsimp only at this; omega)]
    exact lkR_hi ha us h.2
  | (c, some (i, v)) :: us, h => by
    rw [List.all_cons, Bool.and_eq_true, decide_eq_true_eq] at h
    show (if a = c ∧ b = i then v else lkR us a b) = none
    rw [if_neg (by have := h.1; dsimp only at this; omega)]
    exact lkR_hi ha us h.2
theorem ULx_hi : (ULx.all fun q => decide (q.1 < 540)) = true := by decide +kernel
/-- an exception is made -/
theorem hp_nC : nC (hp (1, ρ) D) (0, 14) = hp (1, (ρ.1, ρ.2.1 + 1, fun a b => if a = 540 + ρ.2.1 then 0 else ρ.2.2 a b)) (fun a b => if a = 540 + ρ.2.1 then 0 else D a b) := by
  have hl : (hp (1, ρ) D).1.length = 540 + ρ.2.1 := hp_len rfl
  unfold nC
  rw [hl]
  refine Prod.ext ?_ (Prod.ext ?_ rfl)
  · show (KL0 ++ (KLm ++ List.replicate ρ.2.1 (0, 14))) ++ [(0, 14)] = KL0 ++ (KLm ++ List.replicate (ρ.2.1 + 1) (0, 14))
    rw [List.replicate_succ', List.append_assoc, List.append_assoc]
  · show (fun a b => if a = 540 + ρ.2.1 then none else (hp (1, ρ) D).2.1 a b) = fun a b => if a = 345 ∧ b < 16 then some (346 + ρ.1 b) else lkR ULx a b
    funext a b
    by_cases h : a = 540 + ρ.2.1
    · rw [if_pos h, if_neg (by omega), lkR_hi (by omega) ULx ULx_hi]
    · rw [if_neg h]; rfl
theorem jlcmp_s (a : Int) : jlcmp a a = 0 := by
  unfold jlcmp
  rw [if_neg (by omega), if_pos rfl]
/-- the class's side of a call that may throw -/
theorem law_t1 {y2 pc : Nat} {av : List jv} {av' ls : List (Option jv)} {o : Option Int} (hL : LI D0 k ω D A) (hk : k + 1 ≤ 1000) (h1 : av.getLast? = some (.inr (.inr (some 539)))) (h2 : jent (pmL y2) av.dropLast = av') (h3 : Vl d y2 0 av' [] (hp ω D) = some (((match o with | some x => (0, some (.inl x)) | none => (1, none)) : Nat × Option jv), hp ω D)) : ∃ (ρ1 : jr2) (D1 : jD) (s0 : Int), jco Vl (d + 1) 297 pc ls (hp ω D) (some (.inr (.inl (1, y2, av, [])))) = Vl (d + 1) 297 (pc + 3) ls [.inl s0] (hp (1, ρ1) D1) ∧ LI D0 (k + 1) (1, ρ1) D1 A ∧ s0 = (if o.isSome = true then 0 else 1) ∧ (o.isSome = true → ρ1.2.2 539 0 = o.getD 0) := by
  obtain ⟨⟨w1, w2, w3, w4⟩, hcs, hms, hs⟩ := hL
  obtain ⟨q, ρ⟩ := ω
  obtain rfl : q = 1 := w1
  have w3' : ρ.2.1 ≤ k := w3
  cases o with
  | some x =>
    have hg : gK (hp (1, ρ) D) 539 = some (3, 1) := hM m539
    refine ⟨sM ρ 539 0 x, D, 0, jtry0 h1 h2 h3 hg, ⟨⟨rfl, w2, by show ρ.2.1 ≤ k + 1; omega, hk⟩, hcs, hms, hs⟩, rfl, fun _ => sM_eq⟩
  | none =>
    refine ⟨(ρ.1, ρ.2.1 + 1, fun a b => if a = 540 + ρ.2.1 then 0 else ρ.2.2 a b), (fun a b => if a = 540 + ρ.2.1 then 0 else D a b), 1, (jtry1 h1 h2 h3).trans (congrArg (fun z => Vl (d + 1) 297 (pc + 3) ls [.inl 1] z) hp_nC), ⟨⟨rfl, w2, by show ρ.2.1 + 1 ≤ k + 1; omega, hk⟩, CS_fr hcs (fun q hq => ?_), MS_fr hms (fun q h5 h6 => ?_), ?_, ?_⟩, rfl, fun z => absurd z (by decide)⟩
    · funext b; exact if_neg (by omega)
    · funext b; exact if_neg (by omega)
    · rw [← hs.1]; funext b; exact if_neg (by omega)
    · rw [← hs.2]; funext b; exact if_neg (by omega)
/-- the reference's side -/
theorem law_t2 {dd yy : Nat} {av : List (Option jv)} {o : Option Int} (hL : LI D0 k (1, ρ) D A) (hM : ∀ D', MS D' A → MOx ρ D' A o (Vl dd yy 0 av [] (hp (1, ρ) D'))) : ∃ D2, Vl dd yy 0 av [] (hp (1, ρ) D) = some ((0, some (.inl (o.getD 0))), hp (1, ρ) D2) ∧ LI D0 k (1, ρ) D2 A ∧ D2 488 0 = (if o.isSome = true then 0 else 1) := by
  obtain ⟨⟨w1, w2, w3, w4⟩, hcs, hms, hs⟩ := hL
  obtain ⟨D2, b1, b2, b3, b4⟩ := hM D hms
  have w3' : ρ.2.1 ≤ k := w3
  have hfar := fun c hc => Vl_far (c := c) b1 (by rw [hp_len rfl]; show 540 + ρ.2.1 ≤ 1000000; omega) hc
  exact ⟨D2, b1, ⟨⟨w1, w2, w3, w4⟩, CS_fr hcs b4, b2, by rw [hfar _ (by decide)]; exact hs.1, by rw [hfar _ (by decide)]; exact hs.2⟩, b3⟩
theorem law_c7 (hL : LI D0 k ω D A) (hk : k + 1 ≤ 1000) (hs : ∀ j, -2147483648 ≤ D0 1000000 j ∧ D0 1000000 j < 2147483648) (hN : D0 1000001 0 = (N : Int)) (hN2 : N ≤ 3072) (hi : i + 6 ≤ N) : ∃ ω2 D2 A2 u5' u6', Vl (d + 49) 297 439 [some (.inr (.inr (some jSCR))), some (.inr (.inr (some 0))), some (.inr (.inr (some 488))), some (.inr (.inr (some 539))), some (.inl (i : Int)), u5, u6] [] (hp ω D) = Vl (d + 49) 297 1549 [some (.inr (.inr (some jSCR))), some (.inr (.inr (some 0))), some (.inr (.inr (some 488))), some (.inr (.inr (some 539))), some (.inl (i : Int)), u5', u6'] [] (hp ω2 D2) ∧ LI D0 (k + 1) ω2 D2 A2 := by
  have w1 := hL.1.1
  have w2 : ω.2.2.1 ≤ 1000 := Nat.le_trans hL.1.2.2.1 hL.1.2.2.2
  have w3 := hL.2.2.2
  have q0 := degree_op (ω := ω) (d := d + 47) hL.2.1 (D0 1000000 (i + 1)) 
  obtain ⟨ρ1, D1, s0, q1, hL1, hs0, hl⟩ := law_t1 (o := oDegree A (D0 1000000 (i + 1))) (pc := 447) (ls := [some (.inr (.inr (some jSCR))), some (.inr (.inr (some 0))), some (.inr (.inr (some 488))), some (.inr (.inr (some 539))), some (.inl (i : Int)), u5, u6]) hL hk (av := [.inr (.inr (some 0)), .inl (D0 1000000 (i + 1)), .inr (.inr (some 539))]) rfl (by rfl) q0
  have r : ρ1.2.1 ≤ 1000 := Nat.le_trans hL1.1.2.2.1 hL1.1.2.2.2
  obtain ⟨D2, q2, hL2, ht⟩ := law_t2 (o := oDegree A (D0 1000000 (i + 1))) hL1 (fun D' h => mdegree_op (d := d + 46) (ρ := ρ1) h (D0 1000000 (i + 1)) )
  have q3 : Vl (d + 48) 185 0 [some (.inr (.inr (some 488)))] [] (hp (1, ρ1) D2) = some ((0, some (.inl s0)), hp (1, ρ1) D2) := by
    rw [vM_thrown_0, mGF m488, hD, ht, hs0]
  refine ⟨(1, ρ1), D2, A, some (.inl s0), some (.inl ((oDegree A (D0 1000000 (i + 1))).getD 0)), ?_, hL2⟩
  rw [vL_law_439, sIA w1 w2 w3 hN hN2 (c := 1) (z := 1) rfl (by omega)]
  refine q1.trans ?_
  rw [vL_law_450, sIA (ω := (1, ρ1)) rfl r hL1.2.2.2 hN hN2 (c := 1) (z := 1) rfl (by omega), mGF m488]
  refine (congrArg (fun z => vC z _) q2).trans ?_
  rw [aVC, tlS, vL_law_462, mGF m488, q3, aVC, tlS, vL_law_468, if_pos rfl, vL_law_475]
  by_cases hz : s0 = 0
  · have hso : (oDegree A (D0 1000000 (i + 1))).isSome = true := Classical.byContradiction fun z => by rw [hs0, if_neg z] at hz; exact absurd hz (by decide)
    rw [if_pos hz, vL_law_480, mLA m539, if_pos (by decide), show (0 : Int).toNat = 0 from rfl, hl hso, if_pos (jlcmp_s _), vL_law_492]
  · rw [if_neg hz, vL_law_492]
theorem law_c8 (hL : LI D0 k ω D A) (hk : k + 1 ≤ 1000) (hs : ∀ j, -2147483648 ≤ D0 1000000 j ∧ D0 1000000 j < 2147483648) (hN : D0 1000001 0 = (N : Int)) (hN2 : N ≤ 3072) (hi : i + 6 ≤ N) : ∃ ω2 D2 A2 u5' u6', Vl (d + 49) 297 495 [some (.inr (.inr (some jSCR))), some (.inr (.inr (some 0))), some (.inr (.inr (some 488))), some (.inr (.inr (some 539))), some (.inl (i : Int)), u5, u6] [] (hp ω D) = Vl (d + 49) 297 1549 [some (.inr (.inr (some jSCR))), some (.inr (.inr (some 0))), some (.inr (.inr (some 488))), some (.inr (.inr (some 539))), some (.inl (i : Int)), u5', u6'] [] (hp ω2 D2) ∧ LI D0 (k + 1) ω2 D2 A2 := by
  have w1 := hL.1.1
  have w2 : ω.2.2.1 ≤ 1000 := Nat.le_trans hL.1.2.2.1 hL.1.2.2.2
  have w3 := hL.2.2.2
  have q0 := at_op (ω := ω) (d := d + 47) hL.2.1 (D0 1000000 (i + 1)) (D0 1000000 (i + 2)) (hs (i + 2)).2
  obtain ⟨ρ1, D1, s0, q1, hL1, hs0, hl⟩ := law_t1 (o := oAt A (D0 1000000 (i + 1)) (D0 1000000 (i + 2))) (pc := 509) (ls := [some (.inr (.inr (some jSCR))), some (.inr (.inr (some 0))), some (.inr (.inr (some 488))), some (.inr (.inr (some 539))), some (.inl (i : Int)), u5, u6]) hL hk (av := [.inr (.inr (some 0)), .inl (D0 1000000 (i + 1)), .inl (D0 1000000 (i + 2)), .inr (.inr (some 539))]) rfl (by rfl) q0
  have r : ρ1.2.1 ≤ 1000 := Nat.le_trans hL1.1.2.2.1 hL1.1.2.2.2
  obtain ⟨D2, q2, hL2, ht⟩ := law_t2 (o := oAt A (D0 1000000 (i + 1)) (D0 1000000 (i + 2))) hL1 (fun D' h => mat_op (d := d + 46) (ρ := ρ1) h (D0 1000000 (i + 1)) (D0 1000000 (i + 2)) (hs (i + 2)).2)
  have q3 : Vl (d + 48) 185 0 [some (.inr (.inr (some 488)))] [] (hp (1, ρ1) D2) = some ((0, some (.inl s0)), hp (1, ρ1) D2) := by
    rw [vM_thrown_0, mGF m488, hD, ht, hs0]
  refine ⟨(1, ρ1), D2, A, some (.inl s0), some (.inl ((oAt A (D0 1000000 (i + 1)) (D0 1000000 (i + 2))).getD 0)), ?_, hL2⟩
  rw [vL_law_495, sIA w1 w2 w3 hN hN2 (c := 1) (z := 1) rfl (by omega), sIA w1 w2 w3 hN hN2 (c := 2) (z := 2) rfl (by omega)]
  refine q1.trans ?_
  rw [vL_law_512, sIA (ω := (1, ρ1)) rfl r hL1.2.2.2 hN hN2 (c := 1) (z := 1) rfl (by omega), sIA (ω := (1, ρ1)) rfl r hL1.2.2.2 hN hN2 (c := 2) (z := 2) rfl (by omega), mGF m488]
  refine (congrArg (fun z => vC z _) q2).trans ?_
  rw [aVC, tlS, vL_law_530, mGF m488, q3, aVC, tlS, vL_law_536, if_pos rfl, vL_law_543]
  by_cases hz : s0 = 0
  · have hso : (oAt A (D0 1000000 (i + 1)) (D0 1000000 (i + 2))).isSome = true := Classical.byContradiction fun z => by rw [hs0, if_neg z] at hz; exact absurd hz (by decide)
    rw [if_pos hz, vL_law_548, mLA m539, if_pos (by decide), show (0 : Int).toNat = 0 from rfl, hl hso, if_pos (jlcmp_s _), vL_law_560]
  · rw [if_neg hz, vL_law_560]
theorem law_c13 (hL : LI D0 k ω D A) (hk : k + 1 ≤ 1000) (hs : ∀ j, -2147483648 ≤ D0 1000000 j ∧ D0 1000000 j < 2147483648) (hN : D0 1000001 0 = (N : Int)) (hN2 : N ≤ 3072) (hi : i + 6 ≤ N) : ∃ ω2 D2 A2 u5' u6', Vl (d + 49) 297 759 [some (.inr (.inr (some jSCR))), some (.inr (.inr (some 0))), some (.inr (.inr (some 488))), some (.inr (.inr (some 539))), some (.inl (i : Int)), u5, u6] [] (hp ω D) = Vl (d + 49) 297 1549 [some (.inr (.inr (some jSCR))), some (.inr (.inr (some 0))), some (.inr (.inr (some 488))), some (.inr (.inr (some 539))), some (.inl (i : Int)), u5', u6'] [] (hp ω2 D2) ∧ LI D0 (k + 1) ω2 D2 A2 := by
  have w1 := hL.1.1
  have w2 : ω.2.2.1 ≤ 1000 := Nat.le_trans hL.1.2.2.1 hL.1.2.2.2
  have w3 := hL.2.2.2
  have q0 := result_op (ω := ω) (d := d + 47) hL.2.1 (D0 1000000 (i + 1)) (D0 1000000 (i + 2)) (hs (i + 2)).2
  obtain ⟨ρ1, D1, s0, q1, hL1, hs0, hl⟩ := law_t1 (o := oResult A (D0 1000000 (i + 1)) (D0 1000000 (i + 2))) (pc := 773) (ls := [some (.inr (.inr (some jSCR))), some (.inr (.inr (some 0))), some (.inr (.inr (some 488))), some (.inr (.inr (some 539))), some (.inl (i : Int)), u5, u6]) hL hk (av := [.inr (.inr (some 0)), .inl (D0 1000000 (i + 1)), .inl (D0 1000000 (i + 2)), .inr (.inr (some 539))]) rfl (by rfl) q0
  have r : ρ1.2.1 ≤ 1000 := Nat.le_trans hL1.1.2.2.1 hL1.1.2.2.2
  obtain ⟨D2, q2, hL2, ht⟩ := law_t2 (o := oResult A (D0 1000000 (i + 1)) (D0 1000000 (i + 2))) hL1 (fun D' h => mresult_op (d := d + 46) (ρ := ρ1) h (D0 1000000 (i + 1)) (D0 1000000 (i + 2)) (hs (i + 2)).2)
  have q3 : Vl (d + 48) 185 0 [some (.inr (.inr (some 488)))] [] (hp (1, ρ1) D2) = some ((0, some (.inl s0)), hp (1, ρ1) D2) := by
    rw [vM_thrown_0, mGF m488, hD, ht, hs0]
  refine ⟨(1, ρ1), D2, A, some (.inl s0), some (.inl ((oResult A (D0 1000000 (i + 1)) (D0 1000000 (i + 2))).getD 0)), ?_, hL2⟩
  rw [vL_law_759, sIA w1 w2 w3 hN hN2 (c := 1) (z := 1) rfl (by omega), sIA w1 w2 w3 hN hN2 (c := 2) (z := 2) rfl (by omega)]
  refine q1.trans ?_
  rw [vL_law_776, sIA (ω := (1, ρ1)) rfl r hL1.2.2.2 hN hN2 (c := 1) (z := 1) rfl (by omega), sIA (ω := (1, ρ1)) rfl r hL1.2.2.2 hN hN2 (c := 2) (z := 2) rfl (by omega), mGF m488]
  refine (congrArg (fun z => vC z _) q2).trans ?_
  rw [aVC, tlS, vL_law_794, mGF m488, q3, aVC, tlS, vL_law_800, if_pos rfl, vL_law_807]
  by_cases hz : s0 = 0
  · have hso : (oResult A (D0 1000000 (i + 1)) (D0 1000000 (i + 2))).isSome = true := Classical.byContradiction fun z => by rw [hs0, if_neg z] at hz; exact absurd hz (by decide)
    rw [if_pos hz, vL_law_812, mLA m539, if_pos (by decide), show (0 : Int).toNat = 0 from rfl, hl hso, if_pos (jlcmp_s _), vL_law_824]
  · rw [if_neg hz, vL_law_824]
end LAW3
