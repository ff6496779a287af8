/-! THE REFERENCE'S METHODS: the shortest register -/
def cq (t k : Nat) : Nat := if k = t then 0 else k + 1
def MW (D : jD) (cnt t : Nat) (R : Nat → pl) : Prop := ∀ r, r < cnt → ∀ k, k ≤ t → D 536 (17 * r + k) = (R r (cq t k) : Int)
section MREG
variable {ρ : jr2} {D D' : jD} {d : Nat} {Φ : gF} {A : aA} {T : aT}
theorem mqi {r k : Nat} (hr : r < 16) (hk : k ≤ 16) : w32 (w32 (17 * (r : Int)) + (k : Int)) = ((17 * r + k : Nat) : Int) := by
  rw [w32_i (x := 17 * (r : Int)) (by omega) (by omega), w32_i (by omega) (by omega)]; omega
theorem cq_t {t : Nat} : cq t t = 0 := if_pos rfl
theorem cq_l {t k : Nat} (h : k < t) : cq t k = k + 1 := if_neg (by omega)
theorem mgFill1 {N t j : Nat} (hF : MF Φ D) (hN : N ≤ 16) (htj : t ≤ j) (hj : j < N) {row : Nat → Nat} (hrow : ∀ i, row i < 2 ^ Φ.1) (h2 : ∀ q, q < N → D 520 q = (row q : Int)) : ∀ k : Nat, k ≤ t → Vl (d + 2) 292 12 [some (.inr (.inr (some 488))), some (.inl (N : Int)), some (.inl (t : Int)), some (.inr (.inr (some 538))), some (.inl ((j : Int))), some (.inl (1)), none, none, none, none, none, none] [] (hp (1, ρ) D) = Vl (d + 2) 292 12 [some (.inr (.inr (some 488))), some (.inl (N : Int)), some (.inl (t : Int)), some (.inr (.inr (some 538))), some (.inl ((j : Int))), some (.inl (((k + 1 : Nat) : Int))), none, none, none, none, none, none] [] (hp (1, ρ) (pOn D 536 (17 * (j - t)) k (rI (fun b => flR Φ row t (j - t) (cq t b)))))
  | 0, _ => by rw [pOn_0]; rfl
  | k + 1, hk => by
    rw [mgFill1 hF hN htj hj hrow h2 k (by omega)]
    have hFk : MF Φ (pOn D 536 (17 * (j - t)) k (rI (fun b => flR Φ row t (j - t) (cq t b)))) := MF_cg hF (pOn_far (by decide))
    have e2 : pOn D 536 (17 * (j - t)) k (rI (fun b => flR Φ row t (j - t) (cq t b))) 520 (j - (k + 1)) = (row (j - (k + 1)) : Int) := by rw [pOn_far (by decide)]; exact h2 _ (by omega)
    have q1 := mturn (d := d) (ρ := ρ) hFk (a := row (j - (k + 1))) (n := k + 1) (hrow _) (by omega)
    have ev : ((fT Φ (k + 1) (row (j - (k + 1))) : Nat) : Int) = rI (fun b => flR Φ row t (j - t) (cq t b)) k := by
      show _ = ((flR Φ row t (j - t) (cq t k) : Nat) : Int)
      rw [cq_l (by omega)]
      unfold flR
      rw [if_neg (by omega), show j - t + t - (k + 1) = j - (k + 1) by omega]
    have ei : w32 (w32 (w32 (17 * w32 ((j : Int) - (t : Int))) + ((k + 1 : Nat) : Int)) - 1) = ((17 * (j - t) + k : Nat) : Int) := by
      rw [w32_i (x := (j : Int) - (t : Int)) (by omega) (by omega), w32_i (x := 17 * ((j : Int) - (t : Int))) (by omega) (by omega), w32_i (x := 17 * ((j : Int) - (t : Int)) + ((k + 1 : Nat) : Int)) (by omega) (by omega), w32_i (by omega) (by omega)]; omega
    rw [vM_registers_12, if_neg (show ¬ (t : Int) < ((k + 1 : Nat) : Int) by omega), vM_registers_18]
    simp only [mGF m488, mr49, mr67]
    rw [show w32 ((j : Int) - ((k + 1 : Nat) : Int)) = ((j - (k + 1) : Nat) : Int) from by unfold w32; omega, mIA m520, if_pos (by omega), Int.toNat_natCast, e2, q1, aVC, tlS, vM_registers_50, ei, mIS m536, if_pos (by omega), Int.toNat_natCast, w32_s (by omega), pOn_s ev]
theorem mgFill {N t : Nat} (hN : N ≤ 16) {row : Nat → Nat} (hrow : ∀ i, row i < 2 ^ Φ.1) : ∀ (m j : Nat) (D : jD) (u5 : Option jv), j + m = N → t ≤ j → MF Φ D → (∀ q, q < N → D 520 q = (row q : Int)) → MW D (j - t) t (flR Φ row t) → ∃ D' u5', Vl (d + 2) 292 3 [some (.inr (.inr (some 488))), some (.inl (N : Int)), some (.inl (t : Int)), some (.inr (.inr (some 538))), some (.inl ((j : Int))), u5, none, none, none, none, none, none] [] (hp (1, ρ) D) = Vl (d + 2) 292 84 [some (.inr (.inr (some 488))), some (.inl (N : Int)), some (.inl (t : Int)), some (.inr (.inr (some 538))), some (.inl ((N : Int))), u5', none, none, none, none, none, none] [] (hp (1, ρ) D') ∧ MW D' (N - t) t (flR Φ row t) ∧ ∀ q, q ≠ 536 → D' q = D q
  | 0, j, D, u5, hj, htj, hF, h2, hW => by
    obtain rfl : j = N := by omega
    exact ⟨D, u5, by rw [vM_registers_3, if_neg (by omega)], hW, fun _ _ => rfl⟩
  | m + 1, j, D, u5, hj, htj, hF, h2, hW => by
    have c0 := mgFill1 (d := d) (ρ := ρ) (N := N) hF hN htj (by omega) hrow h2 t (Nat.le_refl t)
    have e2 : pOn D 536 (17 * (j - t)) t (rI (fun b => flR Φ row t (j - t) (cq t b))) 520 j = (row j : Int) := by rw [pOn_far (by decide)]; exact h2 _ (by omega)
    have ev : (row j : Int) = rI (fun b => flR Φ row t (j - t) (cq t b)) t := by
      show _ = ((flR Φ row t (j - t) (cq t t) : Nat) : Int)
      rw [cq_t]
      unfold flR
      rw [if_pos rfl, show j - t + t = j by omega]
    have ei : w32 (w32 (17 * w32 ((j : Int) - (t : Int))) + (t : Int)) = ((17 * (j - t) + t : Nat) : Int) := by
      rw [w32_i (x := (j : Int) - (t : Int)) (by omega) (by omega), w32_i (x := 17 * ((j : Int) - (t : Int))) (by omega) (by omega), w32_i (by omega) (by omega)]; omega
    obtain ⟨D2, u2, q3, W3, f3⟩ := mgFill (t := t) hN hrow m (j + 1) (pOn D 536 (17 * (j - t)) (t + 1) (rI (fun b => flR Φ row t (j - t) (cq t b)))) (some (.inl ((t + 1 : Nat) : Int))) (by omega) (by omega) (MF_cg hF (pOn_far (by decide))) (fun q hq => by rw [pOn_far (by decide)]; exact h2 q hq) (fun r hr k hk => by
      by_cases e : r = j - t
      · rw [e, pOn_in (show k < t + 1 by omega)]; rfl
      · rw [pOn_ne (Or.inr (by omega))]; exact hW r (by omega) k hk)
    refine ⟨D2, u2, ?_, W3, fun q hq => by rw [f3 q hq, pOn_far hq]⟩
    rw [vM_registers_3, if_pos (show (j : Int) < (N : Int) by omega), vM_registers_9, c0, vM_registers_12, if_pos (show (t : Int) < ((t + 1 : Nat) : Int) by omega), vM_registers_57]
    simp only [mGF m488, mr49, mr67]
    rw [mIA m520, if_pos (by omega), Int.toNat_natCast, e2, ei, mIS m536, if_pos (by omega), Int.toNat_natCast, w32_s (by omega), pOn_s ev, q3]
theorem mgSearch {N cnt t i : Nat} {R : Nat → pl} (hW : MW D cnt t R) (hc : cnt ≤ 16) (ht : t ≤ 16) (hi : i < t) (x5 : Int) (u8 u9 u10 u11 : Option jv) : ∀ n r : Nat, r + n = cnt → Vl d 292 126 [some (.inr (.inr (some 488))), some (.inl (N : Int)), some (.inl (t : Int)), some (.inr (.inr (some 538))), some (.inl ((cnt : Int))), some (.inl (x5)), some (.inl ((i : Int))), some (.inl ((r : Int))), u8, u9, u10, u11] [] (hp (1, ρ) D) = match rwf R (i + 1) n r with
      | none => Vl d 292 162 [some (.inr (.inr (some 488))), some (.inl (N : Int)), some (.inl (t : Int)), some (.inr (.inr (some 538))), some (.inl ((cnt : Int))), some (.inl (x5)), some (.inl ((i : Int))), some (.inl ((cnt : Int))), u8, u9, u10, u11] [] (hp (1, ρ) D)
      | some f => Vl d 292 165 [some (.inr (.inr (some 488))), some (.inl (N : Int)), some (.inl (t : Int)), some (.inr (.inr (some 538))), some (.inl ((cnt : Int))), some (.inl (x5)), some (.inl ((i : Int))), some (.inl ((f : Int))), u8, u9, u10, u11] [] (hp (1, ρ) D)
  | 0, r, hr => by
    obtain rfl : r = cnt := by omega
    rw [vM_registers_126, if_neg (by omega), vM_registers_155, if_pos rfl]; rfl
  | n + 1, r, hr => by
    have e := hW r (by omega) i (by omega)
    rw [cq_l hi] at e
    rw [vM_registers_126, if_pos (by omega), vM_registers_133, mGF m488, mr67, mqi (by omega) (by omega), mIA m536, if_pos (by omega), Int.toNat_natCast, e]
    unfold rwf
    by_cases h0 : R r (i + 1) = 0
    · rw [if_pos (show (R r (i + 1) : Int) = 0 by omega), if_pos h0, vM_registers_149, w32_s (by omega)]
      exact mgSearch hW hc ht hi x5 u8 u9 u10 u11 n (r + 1) (by omega)
    · rw [if_neg (show ¬ (R r (i + 1) : Int) = 0 by omega), if_neg h0, vM_registers_155, if_neg (by omega)]
theorem mgSwap {N cnt t f s : Nat} {R : Nat → pl} (hc : cnt ≤ 16) (ht : t ≤ 16) (hf : f < cnt) (hs : s < cnt) (x6 : Int) (u10 u11 : Option jv) : ∀ (n k : Nat) (D : jD) (u9 : Option jv), k + n = t + 1 → (∀ r, r < cnt → ∀ j, j ≤ t → D 536 (17 * r + j) = ((if j < k then swM R f s r (cq t j) else R r (cq t j) : Nat) : Int)) → ∃ D' u9', Vl d 292 168 [some (.inr (.inr (some 488))), some (.inl (N : Int)), some (.inl (t : Int)), some (.inr (.inr (some 538))), some (.inl ((cnt : Int))), some (.inl ((s : Int))), some (.inl (x6)), some (.inl ((f : Int))), some (.inl ((k : Int))), u9, u10, u11] [] (hp (1, ρ) D) = Vl d 292 236 [some (.inr (.inr (some 488))), some (.inl (N : Int)), some (.inl (t : Int)), some (.inr (.inr (some 538))), some (.inl ((cnt : Int))), some (.inl ((s : Int))), some (.inl (x6)), some (.inl ((f : Int))), some (.inl (((t + 1 : Nat) : Int))), u9', u10, u11] [] (hp (1, ρ) D') ∧ MW D' cnt t (swM R f s) ∧ ∀ q, q ≠ 536 → D' q = D q
  | 0, k, D, u9, hk, hW => by
    obtain rfl : k = t + 1 := by omega
    refine ⟨D, u9, by rw [vM_registers_168, if_pos (by omega)], fun r hr j hj => ?_, fun _ _ => rfl⟩
    rw [hW r hr j hj, if_pos (by omega)]
  | n + 1, k, D, u9, hk, hW => by
    have e1 := hW f hf k (by omega)
    have e2 := hW s hs k (by omega)
    rw [if_neg (by omega)] at e1 e2
    obtain ⟨D2, u2, q, W, g⟩ := mgSwap hc ht hf hs x6 u10 u11 n (k + 1) (sD (sD D 536 (17 * f + k) (R s (cq t k) : Int)) 536 (17 * s + k) (R f (cq t k) : Int)) (some (.inl (R f (cq t k) : Int))) (by omega) (fun r hr j hj => by
      show (if 536 = 536 ∧ 17 * r + j = 17 * s + k then (R f (cq t k) : Int) else if 536 = 536 ∧ 17 * r + j = 17 * f + k then (R s (cq t k) : Int) else D 536 (17 * r + j)) = _
      have h0 := hW r hr j hj
      by_cases ej : j = k
      · subst ej
        rw [if_neg (by omega)] at h0
        rw [if_pos (show j < j + 1 by omega)]
        unfold swM
        by_cases e3 : r = s
        · rw [if_pos ⟨rfl, by omega⟩, if_pos e3]
        · rw [if_neg (by omega), if_neg e3]
          by_cases e4 : r = f
          · rw [if_pos ⟨rfl, by omega⟩, if_pos e4]
          · rw [if_neg (by omega), if_neg e4, h0]
      · rw [if_neg (by omega), if_neg (by omega), h0]
        by_cases e5 : j < k
        · rw [if_pos e5, if_pos (by omega)]
        · rw [if_neg e5, if_neg (by omega)])
    refine ⟨D2, u2, ?_, W, fun q hq => by rw [g q hq, sD_ne hq, sD_ne hq]⟩
    rw [vM_registers_168, if_neg (by omega), vM_registers_174]
    simp only [mGF m488, mr67]
    rw [mqi (by omega) (by omega), mqi (by omega) (by omega), mIA m536, if_pos (by omega), Int.toNat_natCast, e1, mIA m536, if_pos (by omega), Int.toNat_natCast, e2, mIS m536, if_pos (by omega), Int.toNat_natCast, mGF m488, mr67, mIS m536, if_pos (by omega), Int.toNat_natCast, w32_s (by omega), q]
theorem mgScale {N cnt t s y : Nat} {R : Nat → pl} (hc : cnt ≤ 16) (ht : t ≤ 16) (hs : s < cnt) (hin : ∀ r, inF Φ (R r)) (hy : y < 2 ^ Φ.1) (x6 x7 : Int) (u10 u11 : Option jv) : ∀ (n k : Nat) (D : jD), MF Φ D → k + n = t + 1 → (∀ r, r < cnt → ∀ j, j ≤ t → D 536 (17 * r + j) = ((if r = s ∧ j < k then fm Φ y (R s (cq t j)) else R r (cq t j) : Nat) : Int)) → ∃ D', Vl (d + 1) 292 258 [some (.inr (.inr (some 488))), some (.inl (N : Int)), some (.inl (t : Int)), some (.inr (.inr (some 538))), some (.inl ((cnt : Int))), some (.inl ((s : Int))), some (.inl (x6)), some (.inl (x7)), some (.inl ((y : Int))), some (.inl ((k : Int))), u10, u11] [] (hp (1, ρ) D) = Vl (d + 1) 292 302 [some (.inr (.inr (some 488))), some (.inl (N : Int)), some (.inl (t : Int)), some (.inr (.inr (some 538))), some (.inl ((cnt : Int))), some (.inl ((s : Int))), some (.inl (x6)), some (.inl (x7)), some (.inl ((y : Int))), some (.inl (((t + 1 : Nat) : Int))), u10, u11] [] (hp (1, ρ) D') ∧ (∀ r, r < cnt → ∀ j, j ≤ t → D' 536 (17 * r + j) = ((if r = s then fm Φ y (R s (cq t j)) else R r (cq t j) : Nat) : Int)) ∧ ∀ q, q ≠ 536 → D' q = D q
  | 0, k, D, hF, hk, hW => by
    obtain rfl : k = t + 1 := by omega
    refine ⟨D, by rw [vM_registers_258, if_pos (by omega)], fun r hr j hj => ?_, fun _ _ => rfl⟩
    rw [hW r hr j hj]
    by_cases e : r = s
    · rw [if_pos ⟨e, by omega⟩, if_pos e]
    · rw [if_neg (fun z => e z.1), if_neg e]
  | n + 1, k, D, hF, hk, hW => by
    have e1 := hW s hs k (by omega)
    rw [if_neg (by omega)] at e1
    have q1 := mmul (d := d) (ρ := ρ) hF hy (hin s (cq t k))
    obtain ⟨D2, q, W, g⟩ := mgScale hc ht hs hin hy x6 x7 u10 u11 n (k + 1) (sD D 536 (17 * s + k) (fm Φ y (R s (cq t k)) : Int)) (MF_cg hF (sD_ne (by decide))) (by omega) (fun r hr j hj => by
      show (if 536 = 536 ∧ 17 * r + j = 17 * s + k then (fm Φ y (R s (cq t k)) : Int) else D 536 (17 * r + j)) = _
      have h0 := hW r hr j hj
      by_cases ej : j = k ∧ r = s
      · rw [if_pos ⟨rfl, by omega⟩, if_pos ⟨ej.2, by omega⟩, ej.1]
      · rw [if_neg (by omega), h0]
        by_cases e5 : r = s ∧ j < k
        · rw [if_pos e5, if_pos (by omega)]
        · rw [if_neg e5, if_neg (by omega)])
    refine ⟨D2, ?_, W, fun q hq => by rw [g q hq, sD_ne hq]⟩
    rw [vM_registers_258, if_neg (by omega), vM_registers_264]
    simp only [mGF m488, mr67]
    rw [mqi (by omega) (by omega), mIA m536, if_pos (by omega), Int.toNat_natCast, e1, q1, aVC, tlS, vM_registers_295, mIS m536, if_pos (by omega), Int.toNat_natCast, w32_s (by omega), q]
theorem mgElim {N cnt t s x v : Nat} {F G : Nat → Nat} (hx : x < 16) (hs : s < 16) (hxs : x ≠ s) (ht : t ≤ 16) (hv : v < 2 ^ Φ.1) (hFF : ∀ j, F j < 2 ^ Φ.1) (hG : ∀ j, G j < 2 ^ Φ.1) (x6 x7 x8 : Int) : ∀ (n k : Nat) (D : jD), MF Φ D → k + n = t + 1 → (∀ j, j ≤ t → D 536 (17 * x + j) = ((if j < k then F j ^^^ fm Φ v (G j) else F j : Nat) : Int)) → (∀ j, j ≤ t → D 536 (17 * s + j) = (G j : Int)) → ∃ D', Vl (d + 1) 292 345 [some (.inr (.inr (some 488))), some (.inl (N : Int)), some (.inl (t : Int)), some (.inr (.inr (some 538))), some (.inl ((cnt : Int))), some (.inl ((s : Int))), some (.inl (x6)), some (.inl (x7)), some (.inl (x8)), some (.inl ((x : Int))), some (.inl ((v : Int))), some (.inl ((k : Int)))] [] (hp (1, ρ) D) = Vl (d + 1) 292 392 [some (.inr (.inr (some 488))), some (.inl (N : Int)), some (.inl (t : Int)), some (.inr (.inr (some 538))), some (.inl ((cnt : Int))), some (.inl ((s : Int))), some (.inl (x6)), some (.inl (x7)), some (.inl (x8)), some (.inl ((x : Int))), some (.inl ((v : Int))), some (.inl (((t + 1 : Nat) : Int)))] [] (hp (1, ρ) D') ∧ (∀ j, j ≤ t → D' 536 (17 * x + j) = ((F j ^^^ fm Φ v (G j) : Nat) : Int)) ∧ (∀ y, (y < 17 * x ∨ 17 * x + t < y) → D' 536 y = D 536 y) ∧ ∀ q, q ≠ 536 → D' q = D q
  | 0, k, D, hF, hk, hW, hR => by
    obtain rfl : k = t + 1 := by omega
    refine ⟨D, by rw [vM_registers_345, if_pos (by omega)], fun j hj => ?_, fun _ _ => rfl, fun _ _ => rfl⟩
    rw [hW j hj, if_pos (by omega)]
  | n + 1, k, D, hF, hk, hW, hR => by
    have e1 := hW k (by omega)
    rw [if_neg (by omega)] at e1
    have q1 := mmul (d := d) (ρ := ρ) hF hv (hG k)
    have h256 := F_256 hF.1
    have b1 := hFF k
    have b2 : fm Φ v (G k) < 2 ^ Φ.1 := fm_lt hF.1 hv
    obtain ⟨D2, q, W, w2, g⟩ := mgElim hx hs hxs ht hv hFF hG x6 x7 x8 n (k + 1) (sD D 536 (17 * x + k) ((F k ^^^ fm Φ v (G k) : Nat) : Int)) (MF_cg hF (sD_ne (by decide))) (by omega) (fun j hj => by
      show (if 536 = 536 ∧ 17 * x + j = 17 * x + k then ((F k ^^^ fm Φ v (G k) : Nat) : Int) else D 536 (17 * x + j)) = _
      have h0 := hW j hj
      by_cases ej : j = k
      · rw [if_pos ⟨rfl, by omega⟩, if_pos (by omega), ej]
      · rw [if_neg (by omega), h0]
        by_cases e5 : j < k
        · rw [if_pos e5, if_pos (by omega)]
        · rw [if_neg e5, if_neg (by omega)]) (fun j hj => by rw [sD_nb (by omega)]; exact hR j hj)
    refine ⟨D2, ?_, W, fun y hy => by rw [w2 y hy, sD_nb (by omega)], fun q hq => by rw [g q hq, sD_ne hq]⟩
    rw [vM_registers_345, if_neg (by omega), vM_registers_351]
    simp only [mGF m488, mr67]
    rw [mqi (by omega) (by omega), mqi (by omega) (by omega), mIA m536, if_pos (by omega), Int.toNat_natCast, e1, mIA m536, if_pos (by omega), Int.toNat_natCast, hR k (by omega), q1, aVC, tlS, vM_registers_384, jxor_n (by omega) (by omega), mIS m536, if_pos (by omega), Int.toNat_natCast, w32_s (by omega), q]
end MREG
