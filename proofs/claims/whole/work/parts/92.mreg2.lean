/-! THE REFERENCE'S METHODS: the shortest register, elimination -/
section MREG2
variable {ρ : jr2} {D D' : jD} {d : Nat} {Φ : gF} {A : aA} {T : aT}
theorem rwf_nz (R : Nat → pl) (i : Nat) : ∀ n r f, rwf R i n r = some f → R f i ≠ 0
  | 0, _, _, h => by cases h
  | n + 1, r, f, h => by
    unfold rwf at h
    by_cases h0 : R r i = 0
    · rw [if_pos h0] at h; exact rwf_nz R i n (r + 1) f h
    · rw [if_neg h0] at h
      have e : r = f := by injection h
      rw [← e]; exact h0
theorem mdM_ne {R : Nat → pl} {i s q r : Nat} (h : r ≠ q) : mdM Φ R i s (q + 1) r = mdM Φ R i s q r := by
  unfold mdM
  by_cases e : r = s ∨ r < q
  · rw [if_pos e, if_pos (by omega)]
  · rw [if_neg e, if_neg (by omega)]
theorem mdM_eq {R : Nat → pl} {i s q : Nat} : mdM Φ R i s (q + 1) q = clM Φ R i s q := by
  unfold mdM; rw [if_pos (by omega)]
theorem mdM_no {R : Nat → pl} {i s q : Nat} (h : q ≠ s) : mdM Φ R i s q q = R q := by
  unfold mdM; rw [if_neg (by omega)]
theorem mdM_s {R : Nat → pl} {i s q : Nat} : mdM Φ R i s q s = clM Φ R i s s := by
  unfold mdM; rw [if_pos (Or.inl rfl)]
theorem mgClear {N cnt t s i : Nat} {R : Nat → pl} (hc : cnt ≤ 16) (ht : t ≤ 16) (hs : s < cnt) (hi : i < t) (hin : ∀ r, inF Φ (R r)) (x7 x8 : Int) : ∀ (n q : Nat) (D : jD) (u10 u11 : Option jv), q + n = cnt → MF Φ D → MW D cnt t (mdM Φ R (i + 1) s q) → ∃ D' u10' u11', Vl (d + 1) 292 305 [some (.inr (.inr (some 488))), some (.inl (N : Int)), some (.inl (t : Int)), some (.inr (.inr (some 538))), some (.inl ((cnt : Int))), some (.inl ((s : Int))), some (.inl ((i : Int))), some (.inl (x7)), some (.inl (x8)), some (.inl ((q : Int))), u10, u11] [] (hp (1, ρ) D) = Vl (d + 1) 292 398 [some (.inr (.inr (some 488))), some (.inl (N : Int)), some (.inl (t : Int)), some (.inr (.inr (some 538))), some (.inl ((cnt : Int))), some (.inl ((s : Int))), some (.inl ((i : Int))), some (.inl (x7)), some (.inl (x8)), some (.inl ((cnt : Int))), u10', u11'] [] (hp (1, ρ) D') ∧ MW D' cnt t (clM Φ R (i + 1) s) ∧ ∀ q, q ≠ 536 → D' q = D q
  | 0, q, D, u10, u11, hq, hF, hW => by
    obtain rfl : q = cnt := by omega
    refine ⟨D, u10, u11, by rw [vM_registers_305, if_neg (by omega)], fun r hr k hk => ?_, fun _ _ => rfl⟩
    rw [hW r hr k hk]
    unfold mdM
    rw [if_pos (Or.inr hr)]
  | n + 1, q, D, u10, u11, hq, hF, hW => by
    have hO := hF.1
    have e := hW q (by omega) i (by omega)
    rw [cq_l hi] at e
    have go : ∀ (D1 : jD) (u11 : Option jv), MW D1 cnt t (mdM Φ R (i + 1) s (q + 1)) → (∀ y, y ≠ 536 → D1 y = D y) → ∃ D' u10' u11', Vl (d + 1) 292 392 [some (.inr (.inr (some 488))), some (.inl (N : Int)), some (.inl (t : Int)), some (.inr (.inr (some 538))), some (.inl ((cnt : Int))), some (.inl ((s : Int))), some (.inl ((i : Int))), some (.inl (x7)), some (.inl (x8)), some (.inl ((q : Int))), some (.inl ((mdM Φ R (i + 1) s q q (i + 1) : Int))), u11] [] (hp (1, ρ) D1) = Vl (d + 1) 292 398 [some (.inr (.inr (some 488))), some (.inl (N : Int)), some (.inl (t : Int)), some (.inr (.inr (some 538))), some (.inl ((cnt : Int))), some (.inl ((s : Int))), some (.inl ((i : Int))), some (.inl (x7)), some (.inl (x8)), some (.inl ((cnt : Int))), u10', u11'] [] (hp (1, ρ) D') ∧ MW D' cnt t (clM Φ R (i + 1) s) ∧ ∀ q, q ≠ 536 → D' q = D q := fun D1 u11 W1 g1 => by
      obtain ⟨D2, a, b, q2, W2, g2⟩ := mgClear hc ht hs hi hin x7 x8 n (q + 1) D1 (some (.inl (mdM Φ R (i + 1) s q q (i + 1) : Int))) u11 (by omega) (MF_cg hF (g1 488 (by decide))) W1
      exact ⟨D2, a, b, by rw [vM_registers_392, w32_s (by omega), q2], W2, fun y hy => by rw [g2 y hy, g1 y hy]⟩
    rw [vM_registers_305, if_pos (by omega), vM_registers_312]
    simp only [mGF m488, mr67]
    rw [mqi (by omega) (by omega), mIA m536, if_pos (by omega), Int.toNat_natCast, e]
    by_cases h1 : q = s
    · rw [if_pos (by omega)]
      refine go D u11 (fun r hr k hk => ?_) (fun _ _ => rfl)
      rw [hW r hr k hk]
      by_cases er : r = q
      · rw [er, mdM_eq, h1, mdM_s]
      · rw [mdM_ne er]
    rw [if_neg (by omega), vM_registers_334]
    by_cases h2 : R q (i + 1) = 0
    · rw [if_pos (show (mdM Φ R (i + 1) s q q (i + 1) : Int) = 0 by rw [mdM_no h1, h2]; rfl), vM_registers_339]
      refine go D u11 (fun r hr k hk => ?_) (fun _ _ => rfl)
      rw [hW r hr k hk]
      by_cases er : r = q
      · rw [er, mdM_eq, mdM_no h1]
        unfold clM
        rw [if_neg h1]
        show ((R q (cq t k) : Nat) : Int) = ((R q (cq t k) ^^^ fm Φ (R q (i + 1)) (fm Φ (R s (cq t k)) (fi Φ (R s (i + 1)))) : Nat) : Int)
        rw [h2, fm_0l, Nat.xor_zero]
      · rw [mdM_ne er]
    have es : ∀ j, j ≤ t → D 536 (17 * s + j) = ((fm Φ (R s (cq t j)) (fi Φ (R s (i + 1))) : Nat) : Int) := fun j hj => by
      rw [hW s hs j hj, mdM_s]
      unfold clM
      rw [if_pos rfl]
    obtain ⟨D1, q1, W1, w1, g1⟩ := mgElim (d := d) (ρ := ρ) (Φ := Φ) (D := D) (N := N) (cnt := cnt) (t := t) (s := s) (x := q) (v := R q (i + 1)) (F := fun j => R q (cq t j)) (G := fun j => fm Φ (R s (cq t j)) (fi Φ (R s (i + 1)))) (by omega) (by omega) h1 ht (hin q (i + 1)) (fun j => hin q _) (fun j => fm_lt hO (hin s _)) (i : Int) x7 x8 (t + 1) 0 hF (by omega) (fun j hj => by
      rw [hW q (by omega) j hj, mdM_no h1, if_neg (by omega)]) es
    obtain ⟨D2, a, b, q2, W2, g2⟩ := go D1 (some (.inl ((t + 1 : Nat) : Int))) (fun r hr k hk => by
      by_cases er : r = q
      · rw [er, W1 k hk, mdM_eq]
        unfold clM
        rw [if_neg h1]
      · rw [w1 _ (by omega), hW r hr k hk, mdM_ne er]) g1
    refine ⟨D2, a, b, ?_, W2, g2⟩
    rw [if_neg (show ¬ (mdM Φ R (i + 1) s q q (i + 1) : Int) = 0 by rw [mdM_no h1]; omega), vM_registers_342]
    rw [mdM_no h1] at q2 ⊢
    rw [show ((0 : Nat) : Int) = 0 from rfl] at q1
    rw [q1, q2]
theorem mgSolve {N cnt t : Nat} (hc : cnt ≤ 16) (ht : t ≤ 16) : ∀ (i : Nat) (R : Nat → pl) (dn : Nat) (sb : Nat → Int) (D : jD) (u7 u8 u9 u10 u11 : Option jv), i ≤ t → MF Φ D → MW D cnt t R → (∀ r, inF Φ (R r)) → dn ≤ cnt → (∀ b, b ≤ i → sb b = -1) → (∀ b, 1 ≤ b → b ≤ t → D 538 b = sb b + 1) → (∀ b, -1 ≤ sb b ∧ sb b < (cnt : Int)) →
    ∃ D' v7 v8 v9 v10 v11, Vl (d + 2) 292 117 [some (.inr (.inr (some 488))), some (.inl (N : Int)), some (.inl (t : Int)), some (.inr (.inr (some 538))), some (.inl ((cnt : Int))), some (.inl ((dn : Int))), some (.inl (((i : Int) - 1))), u7, u8, u9, u10, u11] [] (hp (1, ρ) D) = Vl (d + 2) 292 417 [some (.inr (.inr (some 488))), some (.inl (N : Int)), some (.inl (t : Int)), some (.inr (.inr (some 538))), some (.inl ((cnt : Int))), some (.inl (((slv Φ cnt i R dn sb).2.1 : Int))), some (.inl ((-1))), v7, v8, v9, v10, v11] [] (hp (1, ρ) D') ∧ MW D' cnt t (slv Φ cnt i R dn sb).1 ∧ (slv Φ cnt i R dn sb).2.1 ≤ cnt ∧ (∀ b, 1 ≤ b → b ≤ t → D' 538 b = (slv Φ cnt i R dn sb).2.2 b + 1) ∧ (∀ b, -1 ≤ (slv Φ cnt i R dn sb).2.2 b ∧ (slv Φ cnt i R dn sb).2.2 b < (cnt : Int)) ∧ ∀ q, q ≠ 536 → q ≠ 538 → D' q = D q
  | 0, R, dn, sb, D, u7, u8, u9, u10, u11, hi, hF, hW, hin, hd, hs0, hsb, hb9 => by
    refine ⟨D, u7, u8, u9, u10, u11, ?_, hW, hd, hsb, hb9, fun _ _ _ => rfl⟩
    rw [vM_registers_117, if_pos (by omega)]; rfl
  | i + 1, R, dn, sb, D, u7, u8, u9, u10, u11, hi, hF, hW, hin, hd, hs0, hsb, hb9 => by
    have hO := hF.1
    have q1 := mgSearch (d := d + 2) (ρ := ρ) (N := N) (i := i) hW hc ht (by omega) (dn : Int) u8 u9 u10 u11 (cnt - dn) dn (by omega)
    have ei : ((i + 1 : Nat) : Int) - 1 = (i : Int) := by omega
    rw [vM_registers_117, if_neg (by omega), vM_registers_122, ei, q1]
    unfold slv
    cases hf : rwf R (i + 1) (cnt - dn) dn with
    | none =>
      obtain ⟨D2, v7, v8, v9, v10, v11, q3, W3, d3, s3, b3, f3⟩ := mgSolve hc ht i R dn (fun b => if b = i + 1 then -1 else sb b) D (some (.inl (cnt : Int))) u8 u9 u10 u11 (by omega) hF hW hin hd (fun b hb => by
        show (if b = i + 1 then -1 else sb b) = -1
        rw [if_neg (by omega)]; exact hs0 b (by omega)) (fun b h1 h2 => by
        show D 538 b = (if b = i + 1 then -1 else sb b) + 1
        rw [hsb b h1 h2]
        by_cases e : b = i + 1
        · rw [if_pos e, hs0 b (by omega)]
        · rw [if_neg e]) (fun b => by
        show -1 ≤ (if b = i + 1 then -1 else sb b) ∧ (if b = i + 1 then -1 else sb b) < (cnt : Int)
        split
        · omega
        · exact hb9 b)
      refine ⟨D2, v7, v8, v9, v10, v11, ?_, W3, d3, s3, b3, f3⟩
      show Vl (d + 2) 292 162 _ [] _ = _
      rw [vM_registers_162, vM_registers_411, show w32 ((i : Int) + (-1)) = (i : Int) - 1 from by unfold w32; omega]
      exact q3
    | some f =>
      have hfr := rwf_rng R (i + 1) _ _ f hf
      have hnz := rwf_nz R (i + 1) _ _ f hf
      obtain ⟨D1, u9', q4, W4, f4⟩ := mgSwap (d := d + 2) (ρ := ρ) (N := N) (f := f) (s := dn) hc ht (show f < cnt by omega) (show dn < cnt by omega) (i : Int) u10 u11 (t + 1) 0 D u9 (Nat.zero_add _) (fun r hr j hj => by rw [if_neg (by omega)]; exact hW r hr j hj)
      have hin2 := swM_in hin f dn
      have hF1 : MF Φ D1 := MF_cg hF (f4 488 (by decide))
      have e5 := W4 dn (by omega) i (by omega)
      rw [cq_l (by omega)] at e5
      have es : swM R f dn dn = R f := if_pos rfl
      have hn2 : swM R f dn dn (i + 1) ≠ 0 := by rw [es]; exact hnz
      have q5 := minv_nz (d := d) (ρ := ρ) hF1 (hin2 dn (i + 1)) hn2
      have hy := fi_lt hO (hin2 dn (i + 1))
      obtain ⟨D3, q6, W6, f6⟩ := mgScale (d := d + 1) (ρ := ρ) (N := N) (s := dn) hc ht (show dn < cnt by omega) hin2 hy (i : Int) (f : Int) u10 u11 (t + 1) 0 D1 hF1 (Nat.zero_add _) (fun r hr j hj => by rw [if_neg (by omega)]; exact W4 r hr j hj)
      obtain ⟨D4, a, b, q7, W7, f7⟩ := mgClear (d := d + 1) (ρ := ρ) (N := N) (s := dn) (i := i) hc ht (show dn < cnt by omega) (by omega) hin2 (f : Int) (fi Φ (swM R f dn dn (i + 1)) : Int) cnt 0 D3 u10 u11 (Nat.zero_add _) (MF_cg hF1 (f6 488 (by decide))) (fun r hr k hk => by
        rw [W6 r hr k hk]
        unfold mdM
        by_cases e : r = dn
        · rw [if_pos e, if_pos (Or.inl e)]
          unfold clM
          rw [if_pos e, fm_c hO hy (hin2 dn _)]
        · rw [if_neg e, if_neg (by omega)])
      rw [show ((0 : Nat) : Int) = 0 from rfl] at q4 q6 q7
      obtain ⟨E, hE⟩ : ∃ E, E = sD D4 538 (i + 1) ((dn + 1 : Nat) : Int) := ⟨_, rfl⟩
      have fE : ∀ q, q ≠ 536 → q ≠ 538 → E q = D q := fun q h1 h2 => by rw [hE, sD_ne h2, f7 q h1, f6 q h1, f4 q h1]
      obtain ⟨D2, v7, v8, v9, v10, v11, q3, W3, d3, s3, b3, f3⟩ := mgSolve hc ht i (clM Φ (swM R f dn) (i + 1) dn) (dn + 1) (fun b => if b = i + 1 then (dn : Int) else sb b) E (some (.inl (f : Int))) (some (.inl (fi Φ (swM R f dn dn (i + 1)) : Int))) (some (.inl (cnt : Int))) a b (by omega) (MF_cg hF (fE 488 (by decide) (by decide))) (fun r hr k hk => by rw [hE, sD_ne (by decide)]; exact W7 r hr k hk) (clM_in hO hin2 _ _) (by omega) (fun b hb => by
        show (if b = i + 1 then (dn : Int) else sb b) = -1
        rw [if_neg (by omega)]; exact hs0 b (by omega)) (fun b h1 h2 => by
        show E 538 b = (if b = i + 1 then (dn : Int) else sb b) + 1
        by_cases e : b = i + 1
        · rw [if_pos e, hE, e, sD_eq]; omega
        · rw [if_neg e, ← hsb b h1 h2, hE, sD_nb e, f7 538 (by decide), f6 538 (by decide), f4 538 (by decide)]) (fun b => by
        show -1 ≤ (if b = i + 1 then (dn : Int) else sb b) ∧ (if b = i + 1 then (dn : Int) else sb b) < (cnt : Int)
        split
        · omega
        · exact hb9 b)
      refine ⟨D2, v7, v8, v9, v10, v11, ?_, W3, d3, s3, b3, fun q h1 h2 => by rw [f3 q h1 h2, fE q h1 h2]⟩
      show Vl (d + 2) 292 165 _ [] _ = _
      rw [vM_registers_165, q4, vM_registers_236]
      simp only [mGF m488, mr67]
      rw [mqi (by omega) (by omega), mIA m536, if_pos (by omega), Int.toNat_natCast, e5, q5, aVC, tlS, vM_registers_253, q6, vM_registers_302, q7, vM_registers_398, w32_s (by omega), w32_s (by omega), mIS m538, if_pos (by omega), Int.toNat_natCast, ← hE, vM_registers_411, show w32 ((i : Int) + (-1)) = (i : Int) - 1 from by unfold w32; omega]
      exact q3
theorem mgZer {N cnt t : Nat} {R : Nat → pl} (hc : cnt ≤ 16) (ht : t ≤ 16) (hW : MW D cnt t R) (x5 : Int) (u7 u8 u9 u10 u11 : Option jv) : ∀ n r : Nat, r + n = cnt → Vl d 292 421 [some (.inr (.inr (some 488))), some (.inl (N : Int)), some (.inl (t : Int)), some (.inr (.inr (some 538))), some (.inl ((cnt : Int))), some (.inl (x5)), some (.inl ((r : Int))), u7, u8, u9, u10, u11] [] (hp (1, ρ) D) = if zer R n r = true then Vl d 292 451 [some (.inr (.inr (some 488))), some (.inl (N : Int)), some (.inl (t : Int)), some (.inr (.inr (some 538))), some (.inl ((cnt : Int))), some (.inl (x5)), some (.inl ((cnt : Int))), u7, u8, u9, u10, u11] [] (hp (1, ρ) D) else some ((0, some (.inl 0)), hp (1, ρ) D)
  | 0, r, hr => by
    obtain rfl : r = cnt := by omega
    rw [vM_registers_421, if_neg (by omega)]; rfl
  | n + 1, r, hr => by
    have e := hW r (by omega) t (Nat.le_refl t)
    rw [cq_t] at e
    rw [vM_registers_421, if_pos (by omega), vM_registers_428, mGF m488, mr67, mqi (by omega) ht, mIA m536, if_pos (by omega), Int.toNat_natCast, e]
    unfold zer
    by_cases h0 : R r 0 = 0
    · rw [if_pos (show (R r 0 : Int) = 0 by omega), if_pos h0, vM_registers_445, w32_s (by omega)]
      exact mgZer hc ht hW x5 u7 u8 u9 u10 u11 n (r + 1) (by omega)
    · rw [if_neg (show ¬ (R r 0 : Int) = 0 by omega), if_neg h0, vM_registers_443, aZ0]; rfl
theorem mgTo {N cnt t : Nat} {R : Nat → pl} (hc : cnt ≤ 16) (ht : t ≤ 16) {sb : Nat → Int} (hb9 : ∀ b, -1 ≤ sb b ∧ sb b < (cnt : Int)) (x4 x5 : Int) (u7 u8 u9 u10 u11 : Option jv) : ∀ (n b : Nat) (D : jD), b + n = t + 1 → MW D cnt t R → (∀ y, b ≤ y → y ≤ t → D 538 y = sb y + 1) → ∃ D', Vl d 292 454 [some (.inr (.inr (some 488))), some (.inl (N : Int)), some (.inl (t : Int)), some (.inr (.inr (some 538))), some (.inl (x4)), some (.inl (x5)), some (.inl ((b : Int))), u7, u8, u9, u10, u11] [] (hp (1, ρ) D) = some ((0, some (.inl 1)), hp (1, ρ) D') ∧ (∀ y, b ≤ y → y ≤ t → D' 538 y = ((if 0 ≤ sb y then R (sb y).toNat 0 else 0 : Nat) : Int)) ∧ (∀ y, y < b → D' 538 y = D 538 y) ∧ ∀ q, q ≠ 538 → D' q = D q
  | 0, b, D, hb, hW, hs => ⟨D, by rw [vM_registers_454, if_pos (by omega), vM_registers_497, aZ1], fun y h1 h2 => absurd h1 (by omega), fun _ _ => rfl, fun _ _ => rfl⟩
  | n + 1, b, D, hb, hW, hs => by
    have e := hs b (Nat.le_refl b) (by omega)
    have h9 := hb9 b
    have go : ∀ v : Nat, (v : Nat) = (if 0 ≤ sb b then R (sb b).toNat 0 else 0) → ∃ D', Vl d 292 490 [some (.inr (.inr (some 488))), some (.inl (N : Int)), some (.inl (t : Int)), some (.inr (.inr (some 538))), some (.inl x4), some (.inl x5), some (.inl (b : Int)), u7, u8, u9, u10, u11] [.inl (v : Int), .inl (b : Int), .inr (.inr (some 538))] (hp (1, ρ) D) = some ((0, some (.inl 1)), hp (1, ρ) D') ∧ (∀ y, b ≤ y → y ≤ t → D' 538 y = ((if 0 ≤ sb y then R (sb y).toNat 0 else 0 : Nat) : Int)) ∧ (∀ y, y < b → D' 538 y = D 538 y) ∧ ∀ q, q ≠ 538 → D' q = D q := fun v hv => by
      obtain ⟨D2, q2, a2, b2, f2⟩ := mgTo hc ht hb9 x4 x5 u7 u8 u9 u10 u11 n (b + 1) (sD D 538 b (v : Int)) (by omega) (fun r hr k hk => by rw [sD_ne (by decide)]; exact hW r hr k hk) (fun y h1 h2 => by rw [sD_nb (by omega)]; exact hs y (by omega) h2)
      refine ⟨D2, ?_, fun y h1 h2 => ?_, fun y hy => by rw [b2 y (by omega), sD_nb (by omega)], fun q hq => by rw [f2 q hq, sD_ne hq]⟩
      · rw [vM_registers_490, mIS m538, if_pos (by omega), Int.toNat_natCast, w32_s (by omega), q2]
      · by_cases ey : y = b
        · rw [ey, b2 b (by omega), sD_eq, hv]
        · exact a2 y (by omega) h2
    rw [vM_registers_454, if_neg (by omega), vM_registers_460, mIA m538, if_pos (by omega), Int.toNat_natCast, e]
    by_cases h0 : sb b = -1
    · rw [if_pos (by omega), vM_registers_470]
      exact go 0 (by rw [if_neg (by omega)])
    · obtain ⟨x, hx⟩ := Int.eq_ofNat_of_zero_le (show 0 ≤ sb b by omega)
      have ex := hW x (by omega) t (Nat.le_refl t)
      rw [cq_t] at ex
      rw [if_neg (by omega), vM_registers_474, mGF m488, mr67, mIA m538, if_pos (by omega), Int.toNat_natCast, e, hx, w32_i (x := (x : Int) + 1 - 1) (by omega) (by omega), show (x : Int) + 1 - 1 = (x : Int) by omega, mqi (by omega) ht, mIA m536, if_pos (by omega), Int.toNat_natCast, ex]
      exact go (R x 0) (by rw [hx, if_pos (by omega), Int.toNat_natCast])
end MREG2
