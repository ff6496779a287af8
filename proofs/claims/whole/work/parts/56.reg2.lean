/-! REGISTER in the class: solving, finding the shortest -/
def rgW (A : aA) : Nat → Nat := fun i => if i < Al A then At A i else 0
def oRegister (A : aA) : Int × aA := if (1 ≤ Al A ∧ Al A ≤ 16) ∧ allN A 0 (Al A) = true then ((rgF (aF A) (rgW A) (Al A) (Al A) 0 : Int), (0, At A, AT A, Ai A, AI A, Ar A, Af A, rgF (aF A) (rgW A) (Al A) (Al A) 0, rgT (aF A) (rgW A) (Al A) (rgF (aF A) (rgW A) (Al A) (Al A) 0))) else (-1, aTape A 0 (At A))
def tpD (D : jD) (R : Nat → pl) (sb : Nat → Int) (i : Nat) : jD := fun a b => if a = 344 ∧ 1 ≤ b ∧ b ≤ i then (if 0 ≤ sb b then (R (sb b).toNat 0 : Int) else 0) else D a b
section REG2
variable {d : Nat} {ω : jw} {D : jD} {Φ : gF} {A : aA} {α : Type}
theorem slv_loop {cnt t : Nat} (hc : cnt ≤ 16) (ht : t ≤ 16) : ∀ (i : Nat) (R : Nat → pl) (dn : Nat) (sb : Nat → Int) (ω : jw) (D : jD) (u5 : Option jv), i ≤ t → wP ω → RW ω D cnt t R → (∀ r, inF Φ (R r)) → dn ≤ cnt → FT Φ D 76 → D 343 4 = (cnt : Int) → (∀ b, i < b → b ≤ t → D 362 b = sb b) → (∀ b, -1 ≤ sb b ∧ sb b < (cnt : Int)) →
    ∃ ω' D' u5', Vl (d + 2) 171 10 [some (.inr (.inr (some 343))), some (.inr (.inr (some 76))), some (.inl (t : Int)), some (.inl (dn : Int)), some (.inl (i : Int)), u5] [] (hp ω D) = Vl (d + 2) 171 78 [some (.inr (.inr (some 343))), some (.inr (.inr (some 76))), some (.inl (t : Int)), some (.inl ((slv Φ cnt i R dn sb).2.1 : Int)), some (.inl 0), u5'] [] (hp ω' D') ∧ wP ω' ∧ ω'.1 = ω.1 ∧ ω'.2.2 = ω.2.2 ∧ RW ω' D' cnt t (slv Φ cnt i R dn sb).1 ∧ (slv Φ cnt i R dn sb).2.1 ≤ cnt ∧ (∀ b, 1 ≤ b → b ≤ t → D' 362 b = (slv Φ cnt i R dn sb).2.2 b) ∧ (∀ b, -1 ≤ (slv Φ cnt i R dn sb).2.2 b ∧ (slv Φ cnt i R dn sb).2.2 b < (cnt : Int)) ∧ ∀ q, (q < 346 ∨ 362 < q) → D' q = D q
  | 0, R, dn, sb, ω, D, u5, hi, w, hR, hin, hd, hF, h4, hsb, hb9 => by
    refine ⟨ω, D, u5, ?_, w, rfl, rfl, hR, hd, fun b h1 h2 => hsb b (by omega) h2, hb9, fun _ _ => rfl⟩
    rw [vG_isSolved_10, if_pos (by omega)]; rfl
  | i + 1, R, dn, sb, ω, D, u5, hi, w, hR, hin, hd, hF, h4, hsb, hb9 => by
    have a1 : sD D 362 (i + 1) (-1) 343 = D 343 := sD_ne (by decide)
    have hR1 : RW ω (sD D 362 (i + 1) (-1)) cnt t R := fun q hq b hb => by have := w.1 q (by omega); rw [sD_ne (by omega)]; exact hR q hq b hb
    have q1 := rowWith_loop (d := d + 1) (ω := ω) (D := sD D 362 (i + 1) (-1)) hc hi ht w (by rw [a1]; exact h4) hR1 (dn : Int) (cnt - dn) dn (by omega)
    have st : Vl (d + 2) 171 10 [some (.inr (.inr (some 343))), some (.inr (.inr (some 76))), some (.inl (t : Int)), some (.inl (dn : Int)), some (.inl ((i + 1 : Nat) : Int)), u5] [] (hp ω D) = Vl (d + 2) 171 31 [some (.inr (.inr (some 343))), some (.inr (.inr (some 76))), some (.inl (t : Int)), some (.inl (dn : Int)), some (.inl ((i + 1 : Nat) : Int)), u5] [.inl (rwI (rwf R (i + 1) (cnt - dn) dn))] (hp ω (sD D 362 (i + 1) (-1))) := by
      rw [vG_isSolved_10, if_neg (by omega), vG_isSolved_16, aGF kG, rG_3, aIS kG_3, if_pos (by omega), Int.toNat_natCast, aGF kG]
      show vC (Vl (d + 1) 172 0 _ [] _) _ = _
      rw [vG_rowWith_0, q1, aVC, tlS]
    rw [st]
    unfold slv
    cases hf : rwf R (i + 1) (cnt - dn) dn with
    | none =>
      obtain ⟨ω2, D2, u2, q3, w2, w3, w4, r3, d3, s3, b3, f3⟩ := slv_loop hc ht i R dn (fun b => if b = i + 1 then -1 else sb b) ω (sD D 362 (i + 1) (-1)) (some (.inl (-1))) (by omega) w hR1 hin hd (FT_342 hF (fun c h1 h2 => sD_ne (by omega))) (by rw [a1]; exact h4) (fun b h1 h2 => by
        by_cases e : b = i + 1
        · rw [e, sD_eq]; exact (if_pos rfl).symm
        · show sD D 362 (i + 1) (-1) 362 b = if b = i + 1 then -1 else sb b
          rw [if_neg e, show sD D 362 (i + 1) (-1) 362 b = D 362 b from if_neg (by omega)]; exact hsb b (by omega) h2) (fun b => by
        show -1 ≤ (if b = i + 1 then -1 else sb b) ∧ (if b = i + 1 then -1 else sb b) < (cnt : Int)
        split
        · omega
        · exact hb9 b)
      refine ⟨ω2, D2, u2, ?_, w2, w3, w4, r3, d3, s3, b3, fun q hq => by rw [f3 q hq, sD_ne (by omega)]⟩
      show Vl (d + 2) 171 31 _ [.inl (-1)] _ = _
      rw [vG_isSolved_31, if_pos rfl, vG_isSolved_72, show w32 (((i + 1 : Nat) : Int) + (-1)) = (i : Int) from by unfold w32; omega]
      exact q3
    | some f =>
      have hfr := rwf_rng R (i + 1) _ _ f hf
      have wf := w.1 f (by omega)
      have q2 := swapRows_spec (d := d + 1) (D := sD D 362 (i + 1) (-1)) w (a := f) (b := dn) (by omega) (by omega)
      have w1 := wP_sw w (a := f) (b := dn) (by omega) (by omega)
      have hR2 := RW_sw (a := f) (b := dn) (by omega) (by omega) hR1
      obtain ⟨D1, q4, r4, f4⟩ := clearColumn_spec (d := d) (ω := wSw (wSw ω f (ω.2.1 dn)) dn (ω.2.1 f)) (i := i + 1) (s := dn) hc ht hi (by omega) w1 (FT_342 hF (fun c h1 h2 => sD_ne (by omega))) (by rw [a1]; exact h4) hR2 (swM_in hin f dn)
      have e2 : D1 362 = sD D 362 (i + 1) (-1) 362 := f4 362 (Or.inr (by decide))
      have w1r := w1.1
      obtain ⟨ω2, D2, u2, q3, w2, w3, w4, r3, d3, s3, b3, f3⟩ := slv_loop hc ht i (clM Φ (swM R f dn) (i + 1) dn) (dn + 1) (fun b => if b = i + 1 then (dn : Int) else sb b) (wSw (wSw ω f (ω.2.1 dn)) dn (ω.2.1 f)) (sD D1 362 (i + 1) (dn : Int)) (some (.inl (f : Int))) (by omega) w1 (fun q hq b hb => by have := w1r q (by omega); rw [sD_ne (by omega)]; exact r4 q hq b hb) (clM_in hF.1 (swM_in hin f dn) _ _) (by omega) (FT_342 hF (fun c h1 h2 => by rw [sD_ne (by omega), f4 c (by omega), sD_ne (by omega)])) (by rw [sD_ne (by decide), f4 343 (Or.inl (by decide)), a1]; exact h4) (fun b h1 h2 => by
        by_cases e : b = i + 1
        · rw [e, sD_eq]; exact (if_pos rfl).symm
        · show sD D1 362 (i + 1) (dn : Int) 362 b = if b = i + 1 then (dn : Int) else sb b
          rw [if_neg e, show sD D1 362 (i + 1) (dn : Int) 362 b = D1 362 b from if_neg (by omega), e2, show sD D 362 (i + 1) (-1) 362 b = D 362 b from if_neg (by omega)]; exact hsb b (by omega) h2) (fun b => by
        show -1 ≤ (if b = i + 1 then (dn : Int) else sb b) ∧ (if b = i + 1 then (dn : Int) else sb b) < (cnt : Int)
        split
        · omega
        · exact hb9 b)
      refine ⟨ω2, D2, u2, ?_, w2, w3, w4, r3, d3, s3, b3, fun q hq => by rw [f3 q hq, sD_ne (by omega), f4 q (by omega), sD_ne (by omega)]⟩
      show Vl (d + 2) 171 31 _ [.inl (f : Int)] _ = _
      rw [vG_isSolved_31, if_neg (by omega), vG_isSolved_39, if_pos (by omega), vG_isSolved_45, aGF kG, q2, aVC, tlN, vG_isSolved_52, aGF kG, q4, aVC, tlN, vG_isSolved_61, aGF kG, rG_3, aIS kG_3, if_pos (by omega), Int.toNat_natCast, w32_s (by omega), vG_isSolved_72, show w32 (((i + 1 : Nat) : Int) + (-1)) = (i : Int) from by unfold w32; omega]
      exact q3
theorem zer_loop {cnt t : Nat} (hc : cnt ≤ 16) (w : wP ω) (h4 : D 343 4 = (cnt : Int)) {R : Nat → pl} (hR : RW ω D cnt t R) (x3 : Int) (u5 : Option jv) : ∀ n r : Nat, r + n = cnt → Vl (d + 2) 171 81 [some (.inr (.inr (some 343))), some (.inr (.inr (some 76))), some (.inl (t : Int)), some (.inl x3), some (.inl (r : Int)), u5] [] (hp ω D) = some ((0, some (.inl (if zer R n r = true then 1 else 0))), hp ω D)
  | 0, r, h => by rw [vG_isSolved_81, aGF kG, hD, h4, if_neg (by omega), vG_isSolved_117, aZ1]; rfl
  | n + 1, r, h => by
    have hr := w.1 r (by omega)
    have e1 := hR r (by omega) 0 (by omega)
    rw [vG_isSolved_81, aGF kG, hD, h4, if_pos (by omega), vG_isSolved_90, if_pos (by omega), vG_isSolved_97, aGF kG, rG_2, aGr (by omega), aIA (kRw _ hr), if_pos (by omega), show (0 : Int).toNat = 0 from rfl, e1]
    unfold zer
    by_cases h0 : R r 0 = 0
    · rw [if_pos (by omega), if_pos h0, vG_isSolved_111, w32_s (by omega)]
      exact zer_loop hc w h4 hR x3 u5 n (r + 1) (by omega)
    · rw [if_neg (by omega), if_neg h0, vG_isSolved_109, aZ0]; rfl
theorem flR_in (h : FOK Φ) {row : Nat → Nat} (hrow : ∀ i, row i < 2 ^ Φ.1) (t i : Nat) : inF Φ (flR Φ row t i) := fun b => by
  unfold flR
  split
  · exact hrow _
  · exact fT_lt h (hrow _) _
theorem fill_loop {most t : Nat} (hm : most ≤ 16) (ht : t ≤ most) (w : wP ω) {row : Nat → Nat} (hrow : ∀ i, row i < 2 ^ Φ.1) : ∀ (m j : Nat) (D : jD) (u6 : Option jv), j + m = most → t ≤ j → FT Φ D 76 → (∀ q, q < most → D 2 q = (row q : Int)) → D 343 4 = ((j - t : Nat) : Int) → RW ω D (j - t) t (flR Φ row t) →
    ∃ D', Vl (d + 1) 170 9 [some (.inr (.inr (some 343))), some (.inr (.inr (some 76))), some (.inr (.inr (some 2))), some (.inl (most : Int)), some (.inl (t : Int)), some (.inl (j : Int)), u6] [] (hp ω D) = some ((0, none), hp ω D') ∧ D' 343 4 = ((most - t : Nat) : Int) ∧ RW ω D' (most - t) t (flR Φ row t) ∧ ∀ q, q ≠ 343 → (q < 346 ∨ 361 < q) → D' q = D q
  | 0, j, D, u6, hj, htj, hF, ht2, h4, hR => by
    obtain rfl : j = most := by omega
    exact ⟨D, by rw [vG_fill_9, if_neg (by omega), vG_fill_117], h4, hR, fun _ _ _ => rfl⟩
  | m + 1, j, D, u6, hj, htj, hF, ht2, h4, hR => by
    have pr := w.1 (j - t) (by omega)
    have c0 : ∀ k : Nat, k ≤ t → Vl (d + 1) 170 49 [some (.inr (.inr (some 343))), some (.inr (.inr (some 76))), some (.inr (.inr (some 2))), some (.inl (most : Int)), some (.inl (t : Int)), some (.inl (j : Int)), some (.inl ((0 + 1 : Nat) : Int))] [] (hp ω (pDn D (346 + ω.2.1 (j - t)) (0 + 1) (rI (flR Φ row t (j - t))))) = Vl (d + 1) 170 49 [some (.inr (.inr (some 343))), some (.inr (.inr (some 76))), some (.inr (.inr (some 2))), some (.inl (most : Int)), some (.inl (t : Int)), some (.inl (j : Int)), some (.inl ((k + 1 : Nat) : Int))] [] (hp ω (pDn D (346 + ω.2.1 (j - t)) (k + 1) (rI (flR Φ row t (j - t))))) := by
      intro k
      induction k with
      | zero => exact fun _ => rfl
      | succ k ih =>
        intro hk
        rw [ih (by omega)]
        have hFk : FT Φ (pDn D (346 + ω.2.1 (j - t)) (k + 1) (rI (flR Φ row t (j - t)))) 76 := FT_342 hF (fun c h1 h2 => pDn_ne (by omega))
        have q1 := turn_spec (ω := ω) (d := d) tF_76 hFk (a := row (j - (k + 1))) (n := k + 1) (hrow _) (by omega)
        have e4 : pDn D (346 + ω.2.1 (j - t)) (k + 1) (rI (flR Φ row t (j - t))) 343 4 = ((j - t : Nat) : Int) := by rw [pDn_ne (by omega)]; exact h4
        have e2 : pDn D (346 + ω.2.1 (j - t)) (k + 1) (rI (flR Φ row t (j - t))) 2 (j - (k + 1)) = (row (j - (k + 1)) : Int) := by rw [pDn_ne (by omega)]; exact ht2 _ (by omega)
        have ev : ((fT Φ (k + 1) (row (j - (k + 1))) : Nat) : Int) = rI (flR Φ row t (j - t)) (k + 1) := by
          unfold rI flR; rw [if_neg (by omega), show j - t + t - (k + 1) = j - (k + 1) by omega]
        rw [vG_fill_49, if_neg (by omega), vG_fill_56, if_neg (by omega), vG_fill_63, if_neg (by omega), vG_fill_70, aGF kG, aGF kG, hD, e4, rG_2, aGr (by omega), show w32 ((j : Int) - ((k + 1 : Nat) : Int)) = ((j - (k + 1) : Nat) : Int) from by unfold w32; omega, aIA kA_0, if_pos (by omega), Int.toNat_natCast, e2, aGF (kF tF_76), q1, aVC, tlS, vG_fill_94, aIS (kRw _ pr), if_pos (by omega), Int.toNat_natCast, w32_s (by omega), pDn_s ev]
    obtain ⟨D2, q3, r4, r3, f3⟩ := fill_loop hm ht w hrow m (j + 1) (sD (pDn D (346 + ω.2.1 (j - t)) (t + 1) (rI (flR Φ row t (j - t)))) 343 4 ((j + 1 - t : Nat) : Int)) (some (.inl ((t + 1 : Nat) : Int))) (by omega) (by omega) (FT_342 hF (fun c h1 h2 => by rw [sD_ne (by omega), pDn_ne (by omega)])) (fun q hq => by rw [sD_ne (by decide), pDn_ne (by omega)]; exact ht2 q hq) sD_eq (fun q hq b hb => by
      have hq2 := w.1 q (by omega)
      rw [sD_ne (by omega)]
      by_cases e : q = j - t
      · rw [e, pDn_lt (by omega)]; rfl
      · have := w.2 q (j - t) (by omega) (by omega)
        rw [pDn_ne (by omega)]; exact hR q (by omega) b hb)
    refine ⟨D2, ?_, r4, r3, fun q h1 h2 => by rw [f3 q h1 h2, sD_ne h1, pDn_ne (by omega)]⟩
    have e0 : sD D (346 + ω.2.1 (j - t)) 0 (row j : Int) = pDn D (346 + ω.2.1 (j - t)) (0 + 1) (rI (flR Φ row t (j - t))) := by
      rw [← pDn_s (show (row j : Int) = rI (flR Φ row t (j - t)) 0 from by unfold rI flR; rw [if_pos rfl, show j - t + t = j by omega]), pDn_0]
    have e5 : pDn D (346 + ω.2.1 (j - t)) (t + 1) (rI (flR Φ row t (j - t))) 343 4 = ((j - t : Nat) : Int) := by rw [pDn_ne (by omega)]; exact h4
    rw [vG_fill_9, if_pos (by omega), vG_fill_15, aLN (t := 0) kA_0, if_pos (by omega), vG_fill_22, aGF kG, hD, h4, if_pos (by omega), vG_fill_31, aGF kG, aGF kG, hD, h4, rG_2, aGr (by omega), aIA kA_0, if_pos (by omega), Int.toNat_natCast, ht2 j (by omega), aIS (kRw _ pr), if_pos (by omega), show (0 : Int).toNat = 0 from rfl, e0, show (1 : Int) = ((0 + 1 : Nat) : Int) from rfl, c0 t (Nat.le_refl t), vG_fill_49, if_pos (by omega), vG_fill_101, aGF kG, aGF kG, hD, e5, aLt, hwD, w32_s (by omega), w32_s (by omega), show j - t + 1 = j + 1 - t by omega]
    exact q3
theorem putTaps_loop {t : Nat} (ht : t ≤ 16) (w : wP ω) {cnt : Nat} (hc : cnt ≤ 16) {R : Nat → pl} (hR : RW ω D cnt t R) {sb : Nat → Int} (hsb : ∀ b, 1 ≤ b → b ≤ t → D 362 b = sb b) (hb9 : ∀ b, -1 ≤ sb b ∧ sb b < (cnt : Int)) (h1 : D 343 1 = (t : Int)) : ∀ i : Nat, i ≤ t → ∃ u, Vl d 175 12 [some (.inr (.inr (some 343))), some (.inl (t : Int)), some (.inl 1), none] [] (hp ω D) = Vl d 175 12 [some (.inr (.inr (some 343))), some (.inl (t : Int)), some (.inl ((i + 1 : Nat) : Int)), u] [] (hp ω (tpD D R sb i))
  | 0, _ => ⟨none, by
    rw [show (tpD D R sb 0) = D from funext fun a => funext fun b => if_neg (by omega)]; rfl⟩
  | i + 1, hi => by
    obtain ⟨u, hu⟩ := putTaps_loop ht w hc hR hsb hb9 h1 i (by omega)
    have hb := hb9 (i + 1)
    refine ⟨some (.inl (sb (i + 1))), ?_⟩
    rw [hu]
    have fe : ∀ x : Int, x = (if 0 ≤ sb (i + 1) then (R (sb (i + 1)).toNat 0 : Int) else 0) → sD (tpD D R sb i) 344 (i + 1) x = (tpD D R sb (i + 1)) := fun x hx => by
      funext a b
      unfold sD tpD
      by_cases q1 : a = 344 ∧ b = i + 1
      · rw [if_pos q1, if_pos (by omega), q1.2]; exact hx
      · rw [if_neg q1]
        by_cases q2 : a = 344 ∧ 1 ≤ b ∧ b ≤ i
        · rw [if_pos q2, if_pos (show a = 344 ∧ 1 ≤ b ∧ b ≤ i + 1 by omega)]
        · rw [if_neg q2, if_neg (show ¬ (a = 344 ∧ 1 ≤ b ∧ b ≤ i + 1) by omega)]
    have a1 : (tpD D R sb i) 343 1 = (t : Int) := by
      rw [← h1]; exact if_neg (by omega)
    have a2 : (tpD D R sb i) 362 (i + 1) = sb (i + 1) := by
      rw [← hsb (i + 1) (by omega) hi]; exact if_neg (by omega)
    generalize hE : (tpD D R sb i) = E at a1 a2 fe ⊢
    rw [vG_putTaps_12, aGF kG, hD, a1, if_neg (by omega), vG_putTaps_20, aGF kG, rG_3, aIA kG_3, if_pos (by omega), Int.toNat_natCast, a2, aGF kG, rG_0]
    by_cases h0 : sb (i + 1) < 0
    · rw [if_pos h0, vG_putTaps_53, vG_putTaps_54, aIS kG_0, if_pos (by omega), Int.toNat_natCast, w32_s (by omega), fe 0 (by rw [if_neg (by omega)])]
    · obtain ⟨x, hx⟩ := Int.eq_ofNat_of_zero_le (show 0 ≤ sb (i + 1) by omega)
      have px := w.1 x (by omega)
      have e3 : E (346 + ω.2.1 x) 0 = (R x 0 : Int) := by rw [← hE, ← hR x (by omega) 0 (by omega)]; exact if_neg (by omega)
      rw [if_neg h0, vG_putTaps_36, if_pos (by omega), vG_putTaps_42, aGF kG, rG_2, hx, aGr (by omega), aIA (kRw _ px), if_pos (by omega), show (0 : Int).toNat = 0 from rfl, e3, vG_putTaps_54, aIS kG_0, if_pos (by omega), Int.toNat_natCast, w32_s (by omega), fe (R x 0 : Int) (by rw [hx, if_pos (by omega), Int.toNat_natCast])]
theorem rgOK_end (Φ : gF) (row : Nat → Nat) (most : Nat) : rgOK Φ row most most = true := by
  have h : ∀ i R sb, (slv Φ 0 i R 0 sb).2.1 = 0 := by
    intro i
    induction i with
    | zero => exact fun _ _ => rfl
    | succ i ih => exact fun R sb => ih R _
  unfold rgOK rgS
  rw [Nat.sub_self, h]; rfl
theorem rgF_le (Φ : gF) (row : Nat → Nat) (most : Nat) : ∀ n t, rgF Φ row most n t ≤ t + n
  | 0, t => Nat.le_refl _
  | n + 1, t => by
    unfold rgF
    split
    · omega
    · have := rgF_le Φ row most n (t + 1); omega
theorem find_one {most t : Nat} (hm : most ≤ 16) (ht : t ≤ most) {row : Nat → Nat} (hrow : ∀ i, row i < 2 ^ Φ.1) (w : wP ω) (hF : FT Φ D 76) (h2 : ∀ q, q < most → D 2 q = (row q : Int)) :
    ∃ ω' D', Vl (d + 3) 169 3 [some (.inr (.inr (some 343))), some (.inr (.inr (some 76))), some (.inr (.inr (some 2))), some (.inl (most : Int)), some (.inl (t : Int))] [] (hp ω D) = Vl (d + 3) 169 25 [some (.inr (.inr (some 343))), some (.inr (.inr (some 76))), some (.inr (.inr (some 2))), some (.inl (most : Int)), some (.inl (t : Int))] [.inl (if rgOK Φ row most t = true then 1 else 0)] (hp ω' D') ∧ wP ω' ∧ ω'.1 = ω.1 ∧ ω'.2.2 = ω.2.2 ∧ RW ω' D' (most - t) t (rgS Φ row most t).1 ∧ (∀ b, 1 ≤ b → b ≤ t → D' 362 b = (rgS Φ row most t).2.2 b) ∧ (∀ b, -1 ≤ (rgS Φ row most t).2.2 b ∧ (rgS Φ row most t).2.2 b < ((most - t : Nat) : Int)) ∧ ∀ q, (q < 343 ∨ 362 < q) → D' q = D q := by
  obtain ⟨D1, q1, k1, r1, f1⟩ := fill_loop (d := d + 1) (ω := ω) hm ht w hrow (most - t) t (sD D 343 4 0) none (by omega) (Nat.le_refl t) (FT_342 hF (fun c h1 h2 => sD_ne (by omega))) (fun q hq => by rw [sD_ne (by decide)]; exact h2 q hq) (by rw [sD_eq, Nat.sub_self]; rfl) (fun i hi => absurd hi (by omega))
  have g1 : ∀ q, (q < 343 ∨ 362 < q) → D1 q = D q := fun q hq => by rw [f1 q (by omega) (by omega), sD_ne (by omega)]
  obtain ⟨ω2, D2, u2, q2, w2, w3, w4, r2, d2, s2, b2, f2⟩ := slv_loop (d := d) (cnt := most - t) (by omega) (show t ≤ 16 by omega) t (flR Φ row t) 0 (fun _ => -1) ω D1 none (Nat.le_refl t) w r1 (flR_in hF.1 hrow t) (Nat.zero_le _) (FT_342 hF (fun c h1 h2 => g1 c (by omega))) k1 (fun b h1 h2 => absurd h1 (by omega)) (fun b => by
    show -1 ≤ (-1 : Int) ∧ (-1 : Int) < _
    omega)
  have k2 : D2 343 4 = ((most - t : Nat) : Int) := by rw [f2 343 (Or.inl (by decide))]; exact k1
  have q3 := zer_loop (d := d) (t := t) (show most - t ≤ 16 by omega) w2 k2 r2 ((slv Φ (most - t) t (flR Φ row t) 0 (fun _ => -1)).2.1 : Int) u2 (most - t - (slv Φ (most - t) t (flR Φ row t) 0 (fun _ => -1)).2.1) (slv Φ (most - t) t (flR Φ row t) 0 (fun _ => -1)).2.1 (by omega)
  refine ⟨ω2, D2, ?_, w2, w3, w4, r2, s2, b2, fun q hq => by rw [f2 q (by omega), g1 q hq]⟩
  have q4 : Vl (d + 2) 170 0 [some (.inr (.inr (some 343))), some (.inr (.inr (some 76))), some (.inr (.inr (some 2))), some (.inl (most : Int)), some (.inl (t : Int)), none, none] [] (hp ω D) = some ((0, none), hp ω D1) := by
    rw [vG_fill_0, aGF kG, aLt, hwD]; exact q1
  have q5 : Vl (d + 2) 171 0 [some (.inr (.inr (some 343))), some (.inr (.inr (some 76))), some (.inl (t : Int)), none, none, none] [] (hp ω D1) = some ((0, some (.inl (if rgOK Φ row most t = true then 1 else 0))), hp ω2 D2) := by
    rw [vG_isSolved_0, if_neg (by omega), show (0 : Int) = ((0 : Nat) : Int) from rfl, q2, vG_isSolved_78]; exact q3
  rw [vG_find_3, if_neg (by omega), vG_find_9, aGF kG, q4, aVC, tlN, vG_find_18, aGF kG, q5, aVC, tlS]
theorem find_done {most t : Nat} (hm : most ≤ 16) (ht : t ≤ most) {row : Nat → Nat} (w : wP ω) (hR : RW ω D (most - t) t (rgS Φ row most t).1) (hsb : ∀ b, 1 ≤ b → b ≤ t → D 362 b = (rgS Φ row most t).2.2 b) (hb9 : ∀ b, -1 ≤ (rgS Φ row most t).2.2 b ∧ (rgS Φ row most t).2.2 b < ((most - t : Nat) : Int)) :
    ∃ D', Vl (d + 3) 169 25 [some (.inr (.inr (some 343))), some (.inr (.inr (some 76))), some (.inr (.inr (some 2))), some (.inl (most : Int)), some (.inl (t : Int))] [.inl 1] (hp ω D) = some ((0, some (.inl (t : Int))), hp ω D') ∧ D' 343 1 = (t : Int) ∧ (∀ i, 1 ≤ i → i ≤ t → D' 344 i = (rgT Φ row most t i : Int)) ∧ ∀ q, (q < 343 ∨ 362 < q) → D' q = D q := by
  obtain ⟨u, q1⟩ := putTaps_loop (d := d + 2) (D := sD D 343 1 (t : Int)) (show t ≤ 16 by omega) w (show most - t ≤ 16 by omega) (fun i hi b hb => by rw [sD_ne (by omega)]; exact hR i hi b hb) (fun b h1 h2 => by rw [sD_ne (by decide)]; exact hsb b h1 h2) hb9 sD_eq t (Nat.le_refl t)
  have e1 : (tpD (sD D 343 1 (t : Int)) (rgS Φ row most t).1 (rgS Φ row most t).2.2 t) 343 1 = (t : Int) := by
    refine (if_neg (by omega)).trans ?_
    exact sD_eq
  refine ⟨tpD (sD D 343 1 (t : Int)) (rgS Φ row most t).1 (rgS Φ row most t).2.2 t, ?_, e1, fun i h1 h2 => ?_, fun q hq => ?_⟩
  · have q2 : Vl (d + 2) 175 0 [some (.inr (.inr (some 343))), some (.inl (t : Int)), none, none] [] (hp ω D) = some ((0, none), hp ω (tpD (sD D 343 1 (t : Int)) (rgS Φ row most t).1 (rgS Φ row most t).2.2 t)) := by
      rw [vG_putTaps_0, if_neg (by omega), aGF kG, aLt, hwD, q1, vG_putTaps_12, aGF kG, hD, e1, if_pos (by omega), vG_putTaps_61]
    rw [vG_find_25, if_neg (by decide), vG_find_28, aGF kG, q2, aVC, tlN, vG_find_34, aGF kG, hD, e1]
  · refine (if_pos ⟨rfl, h1, h2⟩).trans ?_
    unfold rgT
    split
    · rfl
    · rfl
  · funext b
    refine (if_neg (by omega)).trans ?_
    rw [sD_ne (by omega)]
theorem find_loop {most : Nat} (hm : most ≤ 16) {row : Nat → Nat} (hrow : ∀ i, row i < 2 ^ Φ.1) : ∀ (m t : Nat) (ω : jw) (D : jD), t + m = most → wP ω → FT Φ D 76 → (∀ q, q < most → D 2 q = (row q : Int)) →
    ∃ ω' D', Vl (d + 3) 169 3 [some (.inr (.inr (some 343))), some (.inr (.inr (some 76))), some (.inr (.inr (some 2))), some (.inl (most : Int)), some (.inl (t : Int))] [] (hp ω D) = some ((0, some (.inl (rgF Φ row most m t : Int))), hp ω' D') ∧ wP ω' ∧ ω'.1 = ω.1 ∧ ω'.2.2 = ω.2.2 ∧ D' 343 1 = (rgF Φ row most m t : Int) ∧ (∀ i, 1 ≤ i → i ≤ rgF Φ row most m t → D' 344 i = (rgT Φ row most (rgF Φ row most m t) i : Int)) ∧ ∀ q, (q < 343 ∨ 362 < q) → D' q = D q := by
  intro m
  induction m with
  | zero =>
    intro t ω D hmt w hF h2
    obtain rfl : t = most := by omega
    obtain ⟨ω1, D1, q1, w1, w3, w4, r1, s1, b1, f1⟩ := find_one (d := d) hm (Nat.le_refl t) hrow w hF h2
    obtain ⟨D2, q2, l2, t2, f2⟩ := find_done (d := d) hm (Nat.le_refl t) w1 r1 s1 b1
    rw [rgOK_end, if_pos rfl] at q1
    exact ⟨ω1, D2, q1.trans q2, w1, w3, w4, l2, t2, fun q hq => by rw [f2 q hq, f1 q hq]⟩
  | succ m ih =>
    intro t ω D hmt w hF h2
    obtain ⟨ω1, D1, q1, w1, w3, w4, r1, s1, b1, f1⟩ := find_one (d := d) hm (show t ≤ most by omega) hrow w hF h2
    unfold rgF
    by_cases hk : rgOK Φ row most t = true
    · obtain ⟨D2, q2, l2, t2, f2⟩ := find_done (d := d) hm (show t ≤ most by omega) w1 r1 s1 b1
      rw [if_pos hk] at q1
      rw [if_pos hk]
      exact ⟨ω1, D2, q1.trans q2, w1, w3, w4, l2, t2, fun q hq => by rw [f2 q hq, f1 q hq]⟩
    · rw [if_neg hk] at q1
      rw [if_neg hk]
      obtain ⟨ω2, D2, q2, w2, w5, w6, l2, t2, f2⟩ := ih (t + 1) ω1 D1 (by omega) w1 (FT_342 hF (fun c h1 h2 => f1 c (by omega))) (fun q hq => by rw [f1 2 (by decide)]; exact h2 q hq)
      refine ⟨ω2, D2, ?_, w2, w5.trans w3, w6.trans w4, l2, t2, fun q hq => by rw [f2 q hq, f1 q hq]⟩
      rw [q1, vG_find_25, if_pos rfl, vG_find_39, w32_s (by omega)]
      exact q2
theorem hAll_rI {q : Nat} {t : Nat → Nat} : ∀ (n i : Nat), hAll (rI t) (q : Int) i n = true → ∀ b, i ≤ b → b < i + n → t b < q
  | 0, _, _, _, h1, h2 => absurd h1 (by omega)
  | n + 1, i, h, b, h1, h2 => by
    unfold hAll at h
    simp only [Bool.and_eq_true, decide_eq_true_eq] at h
    by_cases e : b = i
    · rw [e]; have := h.1.2; unfold rI at this; omega
    · exact hAll_rI n (i + 1) h.2 b (by omega) (by omega)
theorem register_op (h : CS D A) (w : wP ω) : ∃ ω' D', Vl (d + 4) 168 0 [some (.inr (.inr (some 0))), none, none] [] (hp ω D) = some ((0, some (.inl (oRegister A).1)), hp ω' D') ∧ CS D' (oRegister A).2 ∧ wG ω ω' ∧ ∀ q, 488 ≤ q → D' q = D q := by
  have hl := h.1.2.1
  have h0 := CS_len0 h
  have f0 : ∀ q, 488 ≤ q → sD D 1 1 0 q = D q := fun q hq => sD_ne (by omega)
  have hF0 : FT (aF A) (sD D 1 1 0) 76 := h0.2.2.2.1
  have st : Vl (d + 4) 168 0 [some (.inr (.inr (some 0))), none, none] [] (hp ω D) = Vl (d + 4) 168 12 [some (.inr (.inr (some 0))), some (.inl (Al A : Int)), none] [.inl (if 1 ≤ (Al A : Int) ∧ (Al A : Int) ≤ 16 then 1 else 0)] (hp ω D) := by
    simp only [vC_register_0, aGF kC, rC_0, rC_1, rC_2, rC_3, rC_4, rC_5, rC_6, rC_7, rC_8, rC_9, rC_10, rC_11, rC_12, aGF kA, rA_0, aGF (kT tT_3), aGF (kK tK_75), aGF (kF tF_76), q75_0, q75_1, q75_2, q75_3, q75_4, q75_6, q75_7, q75_8, q75_9, q75_10, q75_11, q75_12, q75_13, q75_14, q75_15, q75_16, aGF (kP i67), aGF (kP i69), aGF (kP i71), aGF (kP i73), aGF (kP i363), aGF (kP i81), aGF (kP i83), aGF (kP i85), aGF (kP i87), aGF (kP i89), aGF (kP i91), aGF (kP i93), aGF (kP i95), aGF (kP i97), aGF (kP i99), aGF (kP i101), aGF (kP i103), aGF (kP i105), aGF (kP i107), aGF (kP i109)]
    rw [hD, h.1.1]
    simp only [isWord_spec, aVC, tlS, tlN, aLt, hwD]
  have fin : ∀ x : Int, Vl (d + 4) 168 42 [some (.inr (.inr (some 0))), some (.inl (Al A : Int)), none] [.inl x] (hp ω D) = if x = 0 then Vl (d + 4) 168 80 [some (.inr (.inr (some 0))), some (.inl (Al A : Int)), some (.inl x)] [] (hp ω (sD D 1 1 0)) else Vl (d + 4) 168 55 [some (.inr (.inr (some 0))), some (.inl (Al A : Int)), some (.inl x)] [] (hp ω (sD D 1 1 0)) := fun x => by
    simp only [vC_register_42, aGF kC, rC_0, rC_1, rC_2, rC_3, rC_4, rC_5, rC_6, rC_7, rC_8, rC_9, rC_10, rC_11, rC_12, aGF kA, rA_0, aGF (kT tT_3), aGF (kK tK_75), aGF (kF tF_76), q75_0, q75_1, q75_2, q75_3, q75_4, q75_6, q75_7, q75_8, q75_9, q75_10, q75_11, q75_12, q75_13, q75_14, q75_15, q75_16, aGF (kP i67), aGF (kP i69), aGF (kP i71), aGF (kP i73), aGF (kP i363), aGF (kP i81), aGF (kP i83), aGF (kP i85), aGF (kP i87), aGF (kP i89), aGF (kP i91), aGF (kP i93), aGF (kP i95), aGF (kP i97), aGF (kP i99), aGF (kP i101), aGF (kP i103), aGF (kP i105), aGF (kP i107), aGF (kP i109), aVC, tlS, tlN, aLt, hwD]
  rw [st, vC_register_12]
  unfold oRegister
  by_cases h1 : 1 ≤ Al A ∧ Al A ≤ 16
  rotate_left
  · rw [if_neg (show ¬ (1 ≤ (Al A : Int) ∧ (Al A : Int) ≤ 16) by omega), if_pos rfl, vC_register_41, fin, if_pos rfl, vC_register_80, vC_register_81, if_neg (fun q => h1 q.1)]
    exact ⟨ω, _, rfl, h0, ⟨rfl, rfl, id⟩, f0⟩
  rw [if_pos (show 1 ≤ (Al A : Int) ∧ (Al A : Int) ≤ 16 by omega), if_neg (by decide)]
  have tA := tapeAll (d := d + 2) (ω := ω) h (i := 0) (e := Al A) (Nat.zero_le _) (Nat.le_refl _)
  have st2 : Vl (d + 4) 168 15 [some (.inr (.inr (some 0))), some (.inl (Al A : Int)), none] [] (hp ω D) = Vl (d + 4) 168 34 [some (.inr (.inr (some 0))), some (.inl (Al A : Int)), none] [.inl (if allN A 0 (Al A) = true then 1 else 0)] (hp ω D) := by
    rw [show ((0 : Nat) : Int) = 0 from rfl, Nat.sub_zero] at tA
    simp only [vC_register_15, aGF kC, rC_0, rC_1, rC_2, rC_3, rC_4, rC_5, rC_6, rC_7, rC_8, rC_9, rC_10, rC_11, rC_12, aGF kA, rA_0, aGF (kT tT_3), aGF (kK tK_75), aGF (kF tF_76), q75_0, q75_1, q75_2, q75_3, q75_4, q75_6, q75_7, q75_8, q75_9, q75_10, q75_11, q75_12, q75_13, q75_14, q75_15, q75_16, aGF (kP i67), aGF (kP i69), aGF (kP i71), aGF (kP i73), aGF (kP i363), aGF (kP i81), aGF (kP i83), aGF (kP i85), aGF (kP i87), aGF (kP i89), aGF (kP i91), aGF (kP i93), aGF (kP i95), aGF (kP i97), aGF (kP i99), aGF (kP i101), aGF (kP i103), aGF (kP i105), aGF (kP i107), aGF (kP i109), tA, aVC, tlS, tlN, aLt, hwD]
  rw [st2, vC_register_34]
  by_cases h2 : allN A 0 (Al A) = true
  rotate_left
  · rw [if_neg h2, if_pos rfl, vC_register_41, fin, if_pos rfl, vC_register_80, vC_register_81, if_neg (fun q => h2 q.2)]
    exact ⟨ω, _, rfl, h0, ⟨rfl, rfl, id⟩, f0⟩
  rw [if_pos h2, if_neg (by decide), vC_register_37, fin, if_neg (by decide), if_pos ⟨h1, h2⟩]
  have hr := hAll_rI (Al A) 0 h2
  obtain ⟨ω1, D1, q1, w1, w3, w4, l1, t1, f1⟩ := find_loop (d := d) (Φ := aF A) (most := Al A) h1.2 (row := rgW A) (fun i => by
    unfold rgW
    split
    · exact hr i (Nat.zero_le _) (by omega)
    · exact Nat.two_pow_pos _) (Al A) 0 ω (sD D 1 1 0) (Nat.zero_add _) w hF0 (fun q hq => by
    rw [sD_ne (by decide), (h.1.2.2 q hq).1]
    unfold rgW; rw [if_pos hq])
  have hle := rgF_le (aF A) (rgW A) (Al A) (Al A) 0
  obtain ⟨c1, c2, c3, c4, c5, c6, c7, c8, c9, c10⟩ := h0
  refine ⟨ω1, D1, ?_, ⟨⟨by rw [f1 1 (by decide)]; exact c1.1, c1.2.1, fun i hi => absurd hi (Nat.not_lt_zero _)⟩, c2, TS_fr c2 c3 (fun c a b => f1 c (by omega)), FT_congr (fun c a b => f1 c (by omega)) c4, fun k hk2 => ⟨by rw [f1 65 (by decide)]; exact (c5 k hk2).1, fun q => ⟨((c5 k hk2).2 q).1, TS_fr ((c5 k hk2).2 q).1 ((c5 k hk2).2 q).2 (fun c a b => f1 c (by omega))⟩⟩, fun k hk4 => ⟨(c6 k hk4).1, PR_ne (f1 _ (by omega)) (c6 k hk4).2⟩, by rw [f1 0 (by decide)]; exact c7, ?_, l1, t1⟩, ⟨w3, w4, fun _ => w1⟩, fun q hq => by rw [f1 q (by omega), f0 q hq]⟩
  · have q2 : Vl (d + 3) 169 0 [some (.inr (.inr (some 343))), some (.inr (.inr (some 76))), some (.inr (.inr (some 2))), some (.inl (Al A : Int)), none] [] (hp ω (sD D 1 1 0)) = _ := (vG_find_0 _ _ _ _ _ _).trans q1
    simp only [vC_register_55, aGF kC, rC_0, rC_1, rC_2, rC_3, rC_4, rC_5, rC_6, rC_7, rC_8, rC_9, rC_10, rC_11, rC_12, aGF kA, rA_0, aGF (kT tT_3), aGF (kK tK_75), aGF (kF tF_76), q75_0, q75_1, q75_2, q75_3, q75_4, q75_6, q75_7, q75_8, q75_9, q75_10, q75_11, q75_12, q75_13, q75_14, q75_15, q75_16, aGF (kP i67), aGF (kP i69), aGF (kP i71), aGF (kP i73), aGF (kP i363), aGF (kP i81), aGF (kP i83), aGF (kP i85), aGF (kP i87), aGF (kP i89), aGF (kP i91), aGF (kP i93), aGF (kP i95), aGF (kP i97), aGF (kP i99), aGF (kP i101), aGF (kP i103), aGF (kP i105), aGF (kP i107), aGF (kP i109), aGF kG, q2, aVC, tlS, tlN, aLt, hwD]
    rw [vC_register_77, vC_register_81]
  · show rgF (aF A) (rgW A) (Al A) (Al A) 0 ≤ 16
    omega
end REG2
