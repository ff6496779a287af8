/-! THE REFERENCE'S METHODS: weights -/
def mnl (f : Nat → Nat) : Nat → Nat → Nat → Nat
  | 0, _, l => l
  | r + 1, c, l => mnl f r (c + 1) (min l (f c))
section MNL
variable {Φ : gF}
theorem mnl_le {f : Nat → Nat} {v : Nat} : ∀ r c l, v ≤ mnl f r c l ↔ v ≤ l ∧ ∀ k, c ≤ k → k < c + r → v ≤ f k
  | 0, c, l => ⟨fun h => ⟨h, fun k h1 h2 => absurd h1 (by omega)⟩, fun h => h.1⟩
  | r + 1, c, l => by
    unfold mnl
    rw [mnl_le r (c + 1)]
    constructor
    · rintro ⟨h1, h2⟩
      refine ⟨by omega, fun k k1 k2 => ?_⟩
      by_cases e : k = c
      · rw [e]; omega
      · exact h2 k (by omega) (by omega)
    · rintro ⟨h1, h2⟩
      have := h2 c (Nat.le_refl c) (by omega)
      exact ⟨by omega, fun k k1 k2 => h2 k (by omega) (by omega)⟩
theorem gray_all {N : Nat} (hN : N ≤ 12) {P Q : Nat → Prop} (h : ∀ k, k < 2 ^ N → (P k ↔ Q (grc k))) : (∀ k, 1 ≤ k → k < 1 + (2 ^ N - 1) → P k) ↔ ∀ k, 1 ≤ k → k < 1 + (2 ^ N - 1) → Q k := by
  have p1 : 2 ^ N ≤ 2 ^ 12 := Nat.pow_le_pow_right (by decide) hN
  have pp := Nat.two_pow_pos N
  constructor
  · intro hp c h1 h2
    have hc := gri_lt (c := c) (n := N) (by omega)
    have eg := gri_all c (by omega)
    have h0 : 1 ≤ gri c := Nat.pos_of_ne_zero fun z => by
      rw [z, grc_0] at eg
      omega
    have := (h (gri c) hc).mp (hp (gri c) h0 (by omega))
    rw [eg] at this
    exact this
  · intro hq k h1 h2
    have hk := grc_lt (k := k) (n := N) (by omega)
    have h0 : 1 ≤ grc k := Nat.pos_of_ne_zero fun z => by
      have z1 : k ^^^ (k ^^^ (k / 2)) = k / 2 := xr_k _ _
      have z2 : k ^^^ (k / 2) = 0 := z
      rw [z2, Nat.xor_zero] at z1
      omega
    exact (h k (by omega)).mpr (hq (grc k) h0 (by omega))
theorem mnl_gray {N : Nat} (hN : N ≤ 12) {f g : Nat → Nat} (h : ∀ k, k < 2 ^ N → g k = f (grc k)) (l : Nat) : mnl g (2 ^ N - 1) 1 l = mnl f (2 ^ N - 1) 1 l := by
  have key : ∀ v, v ≤ mnl g (2 ^ N - 1) 1 l ↔ v ≤ mnl f (2 ^ N - 1) 1 l := fun v => by
    rw [mnl_le, mnl_le]
    exact and_congr_right fun _ => gray_all hN (P := fun k => v ≤ g k) (Q := fun k => v ≤ f k) (fun k hk => by
      show v ≤ g k ↔ v ≤ f (grc k)
      rw [h k hk])
  exact Nat.le_antisymm ((key _).mp (Nat.le_refl _)) ((key _).mpr (Nat.le_refl _))
theorem lwl_mnl {R : Nat → pl} {len : Nat} : ∀ r i l, lwl R len r i l = mnl (fun k => wgt (gsm R k) len) r i l
  | 0, _, _ => rfl
  | r + 1, i, l => by unfold lwl mnl; exact lwl_mnl r (i + 1) _
theorem gsm_N {N : Nat} (hN : N ≤ 12) {R f : Nat → pl} (h0 : f 0 = p0) (hs : ∀ a t, a < 2 ^ N → t < N → f (a ^^^ 2 ^ t) = pA (f a) (R t)) : ∀ i, i < 2 ^ N → gsm R i = f (grc i)
  | 0, _ => h0.symm
  | i + 1, hi => by
    have p1 : 2 ^ N ≤ 2 ^ 12 := Nat.pow_le_pow_right (by decide) hN
    obtain ⟨g1, -⟩ := grc_all i (by omega)
    have g2 := (tz_all (i + 1) (by omega) (by omega)).2
    have g3 : tzk (i + 1) < N := by
      refine Classical.byContradiction fun q => ?_
      have := Nat.pow_le_pow_right (n := 2) (by decide) (Nat.not_lt.mp q)
      omega
    show pA (gsm R i) (R (tzk (i + 1))) = f (grc (i + 1))
    rw [gsm_N hN h0 hs i (by omega), g1, hs _ _ (grc_lt (n := N) (by omega)) g3]
theorem aRw_t {S : Nat → Nat → pl} {G : Nat → pl} (hm : 1 ≤ Φ.1) (hS : ∀ j, S (j + 1) = aRw Φ (S j) (Φ.1 * j) Φ.1 (G j)) : ∀ j t, t < Φ.1 * j → S j t = pM Φ (2 ^ (t % Φ.1)) (G (t / Φ.1))
  | 0, t, h => absurd h (by rw [Nat.mul_zero]; omega)
  | j + 1, t, h => by
    rw [Nat.mul_succ] at h
    rw [hS j]
    unfold aRw
    by_cases h1 : t < Φ.1 * j
    · rw [if_pos h1]; exact aRw_t hm hS j t h1
    · rw [if_neg h1, if_pos h]
      obtain ⟨e, rfl⟩ : ∃ e, t = Φ.1 * j + e := ⟨t - Φ.1 * j, by omega⟩
      rw [Nat.mul_add_mod, Nat.mod_eq_of_lt (by omega), Nat.mul_add_div hm, Nat.div_eq_of_lt (by omega), Nat.add_zero, Nat.add_sub_cancel_left]
theorem pP_mk (c : Nat) (G : pl) {k : Nat} (hk : k < 17) : pP Φ 17 (mono c k) G = pM Φ c (pSi Φ k G) := by
  rw [pP_ge (mono_dle c k) 17 (by omega), pP_mono]
end MNL
section MWT
variable {ρ : jr2} {D D' : jD} {d : Nat} {Φ : gF} {A : aA} {T : aT}
def wtF (Φ : gF) (G : pl) (dim n c : Nat) : Nat := wgt (pP Φ 17 (lyN Φ c dim) G) n
theorem wgt_le (F : pl) : ∀ n, wgt F n ≤ n
  | 0 => Nat.le_refl _
  | n + 1 => by
    unfold wgt
    have := wgt_le F n
    split <;> omega
theorem mwt_loop (hO : FOK Φ) {G : pl} (oG : pOK Φ G) {dim n : Nat} {dg : Int} (hdg : w32 ((n : Int) - dg) = (dim : Int)) (hn : n ≤ 8) (hmn : Φ.1 * dim ≤ 12) (x1 : Int) : ∀ (r c l : Nat) (D : jD) (u6 u7 : Option jv), c + r = 2 ^ (Φ.1 * dim) → MF Φ D → PR D 511 G → ∃ D', Vl (d + 5) 285 73 [some (.inr (.inr (some 488))), some (.inl x1), some (.inl (n : Int)), some (.inl dg), some (.inl (l : Int)), some (.inl (c : Int)), u6, u7] [] (hp (1, ρ) D) = some ((0, some (.inl (mnl (wtF Φ G dim n) r c l : Int))), hp (1, ρ) D') ∧ ∀ q, (q < 497 ∨ 513 < q ∨ q = 511) → D' q = D q
  | 0, c, l, D, u6, u7, hc, hF, RG => by
    refine ⟨D, ?_, fun _ _ => rfl⟩
    rw [vM_weight_73, mGF m488, hdg, mmany hF, aVC, tlS, vM_weight_82, myN_n hO hmn, if_neg (by omega), vM_weight_163]; rfl
  | r + 1, c, l, D, u6, u7, hc, hF, RG => by
    have p1 : 2 ^ (Φ.1 * dim) ≤ 2 ^ 12 := Nat.pow_le_pow_right (by decide) hmn
    have m1 := F_m1 hO
    have hd12 : 1 * dim ≤ Φ.1 * dim := Nat.mul_le_mul_right dim m1
    obtain ⟨oL, dL⟩ := lyN_OK hO (c := c) (show dim ≤ 17 by omega)
    have q1 := mlay (d := d + 3) (ρ := ρ) (D := D) hF m512 (by decide) (low := c) (n := dim) (by omega) hmn
    have f1 : ∀ q, q ≠ 512 → pD D 512 (rI (lyN Φ c dim)) q = D q := fun q hq => pD_ne hq
    obtain ⟨D2, q2, R2, f2⟩ := mprod (d := d) (ρ := ρ) (D := pD D 512 (rI (lyN Φ c dim))) (MF_cg hF (f1 488 (by decide))) m512 m511 m513 (by decide) (by decide) (by decide) (by decide) (by decide) (by decide) pD_PR (PR_ne (f1 511 (by decide)) RG) oL.1 oG.1
    rw [← pP_ge (sz_dle oL.2) 17 (sz_le _)] at R2
    have g2 : ∀ q, (q < 497 ∨ 513 < q ∨ q = 511) → D2 q = D q := fun q hq => by rw [f2 q (by omega) (by omega), f1 q (by omega)]
    have c0 := chain (fun k => Vl (d + 5) 285 121 [some (.inr (.inr (some 488))), some (.inl x1), some (.inl (n : Int)), some (.inl dg), some (.inl (l : Int)), some (.inl (c : Int)), some (.inl (wgt (pP Φ 17 (lyN Φ c dim) G) k : Int)), some (.inl (k : Int))] [] (hp (1, ρ) D2)) n (fun k hk => by
      have hw := wgt_le (pP Φ 17 (lyN Φ c dim) G) k
      have e1 := R2 k (by omega)
      have ew : wgt (pP Φ 17 (lyN Φ c dim) G) (k + 1) = wgt (pP Φ 17 (lyN Φ c dim) G) k + (if pP Φ 17 (lyN Φ c dim) G k = 0 then 0 else 1) := rfl
      rw [vM_weight_121, if_pos (by omega), vM_weight_127, mGF m488, mr30, mIA m513, if_pos (by omega), Int.toNat_natCast, e1]
      by_cases h0 : pP Φ 17 (lyN Φ c dim) G k = 0
      · rw [if_pos h0, Nat.add_zero] at ew
        rw [if_pos (show (pP Φ 17 (lyN Φ c dim) G k : Int) = 0 by omega), vM_weight_140, w32_s (by omega), ew]; rfl
      · rw [if_neg h0] at ew
        rw [if_neg (show ¬ (pP Φ 17 (lyN Φ c dim) G k : Int) = 0 by omega), vM_weight_137, vM_weight_140, w32_s (by omega), w32_s (by omega), ew])
    have c0' : Vl (d + 5) 285 121 [some (.inr (.inr (some 488))), some (.inl x1), some (.inl (n : Int)), some (.inl dg), some (.inl (l : Int)), some (.inl (c : Int)), some (.inl 0), some (.inl 0)] [] (hp (1, ρ) D2) = Vl (d + 5) 285 121 [some (.inr (.inr (some 488))), some (.inl x1), some (.inl (n : Int)), some (.inl dg), some (.inl (l : Int)), some (.inl (c : Int)), some (.inl (wgt (pP Φ 17 (lyN Φ c dim) G) n : Int)), some (.inl (n : Int))] [] (hp (1, ρ) D2) := c0
    obtain ⟨D3, q3, f3⟩ := mwt_loop hO oG hdg hn hmn x1 r (c + 1) (min l (wgt (pP Φ 17 (lyN Φ c dim) G) n)) D2 (some (.inl (wgt (pP Φ 17 (lyN Φ c dim) G) n : Int))) (some (.inl (n : Int))) (by omega) (MF_cg hF (g2 488 (by decide))) (PR_ne (g2 511 (by decide)) RG)
    refine ⟨D3, ?_, fun q hq => by rw [f3 q hq, g2 q hq]⟩
    rw [vM_weight_73, mGF m488, hdg, mmany hF, aVC, tlS, vM_weight_82, myN_n hO hmn, if_pos (by omega), vM_weight_85]
    simp only [mGF m488, mr29]
    rw [hdg, q1, aVC, tlN, vM_weight_99]
    simp only [mGF m488, mr28, mr29, mr30]
    rw [q2, aVC, tlN, vM_weight_115, c0', vM_weight_121, if_neg (by omega), vM_weight_146]
    by_cases h1 : wgt (pP Φ 17 (lyN Φ c dim) G) n < l
    · rw [Nat.min_eq_right (by omega)] at q3
      rw [if_pos (by omega), vM_weight_153, vM_weight_157, w32_s (by omega), q3]
      show _ = some ((0, some (Sum.inl ((mnl (wtF Φ G dim n) r (c + 1) (min l (wgt (pP Φ 17 (lyN Φ c dim) G) n)) : Nat) : Int))), hp (1, ρ) D3)
      rw [Nat.min_eq_right (by omega)]
    · rw [Nat.min_eq_left (by omega)] at q3
      rw [if_neg (by omega), vM_weight_157, w32_s (by omega), q3]
      show _ = some ((0, some (Sum.inl ((mnl (wtF Φ G dim n) r (c + 1) (min l (wgt (pP Φ 17 (lyN Φ c dim) G) n)) : Nat) : Int))), hp (1, ρ) D3)
      rw [Nat.min_eq_left (by omega)]
theorem wRw_mnl (hO : FOK Φ) {G : pl} {dim n : Nat} (hmn : Φ.1 * dim ≤ 12) (l : Nat) : lwl (wRw Φ G dim) n (2 ^ (Φ.1 * dim) - 1) 1 l = mnl (wtF Φ G dim n) (2 ^ (Φ.1 * dim) - 1) 1 l := by
  have m1 := F_m1 hO
  rw [lwl_mnl]
  refine mnl_gray hmn (fun k hk => ?_) l
  show wgt (gsm (wRw Φ G dim) k) n = wgt (pP Φ 17 (lyN Φ (grc k) dim) G) n
  have hg := gsm_N hmn (R := wRw Φ G dim) (f := fun a => pP Φ 17 (lyc Φ.1 a) G) (by
    show pP Φ 17 (lyc Φ.1 0) G = p0
    rw [lyc_0]
    exact pP_z 17 (fun _ _ => rfl)) (fun a t _ ht => by
    show pP Φ 17 (lyc Φ.1 (a ^^^ 2 ^ t)) G = pA (pP Φ 17 (lyc Φ.1 a) G) (wRw Φ G dim t)
    have hdv := Nat.div_le_self t Φ.1
    rw [lyc_x m1 (by omega), pP_Al, pP_mk _ _ (by omega), aRw_t (S := fun j => wRw Φ G j) (G := fun j => pSi Φ j G) m1 (fun _ => rfl) dim t ht]) k hk
  rw [hg]
  show wgt (pP Φ 17 (lyc Φ.1 (grc k)) G) n = _
  rw [lyc_lyN hO (grc_lt hk) hmn]
theorem mweight_op (h : MS D A) (i n : Int) : MO ρ D A (oWeight A i n) (Vl (d + 5) 285 0 [some (.inr (.inr (some 488))), some (.inl i), some (.inl n), none, none, none, none, none] [] (hp (1, ρ) D)) := by
  have hB := mB_MS h
  have hF := mB_MF h
  have hO := hF.1
  unfold oWeight
  rw [vM_weight_0, mGF m488, mbegin h, aVC, tlN, vM_weight_4, mGF m488, misName hB, aVC, tlS, vM_weight_9]
  by_cases h1 : aN A i
  rotate_left
  · rw [if_neg h1, if_pos j00, vM_weight_22, if_neg (fun z => h1 z.1.1)]
    exact MO_mB h rfl
  rw [if_pos h1, if_neg j10, vM_weight_12, misIn, aVC, tlS, vM_weight_19]
  by_cases h2 : 2 ≤ n ∧ n ≤ 8
  rotate_left
  · rw [if_neg h2, if_pos j00, vM_weight_22, if_neg (fun z => h2 z.2)]
    exact MO_mB h rfl
  obtain ⟨p1, p2, -⟩ := MS_nm hB h1
  have q1 := mtake (d := d + 3) (ρ := ρ) hB h1 (c := 511) m511 (by decide)
  obtain ⟨E, hE⟩ : ∃ E, E = pD (mB D A) 511 (rI (an A i)) := ⟨_, rfl⟩
  rw [← hE] at q1
  have RF : PR E 511 (an A i) := by rw [hE]; exact pD_PR
  have fE : ∀ q, q ≠ 511 → E q = mB D A q := fun q hq => by rw [hE, pD_ne hq]
  have hF1 : MF (aF A) E := MF_cg hF (fE 488 (by decide))
  have q2 := mdeg (d := d + 4) (ρ := ρ) m511 (by decide) RF
  have done : ∀ (D1 : jD) (x : Int), (∀ q, (q < 497 ∨ 513 < q ∨ q = 511) → D1 q = E q) → MO ρ D A x (some ((0, some (.inl x)), hp (1, ρ) D1)) := fun D1 x g => MO_sc h rfl (fun q hq => by
    rw [g q (by unfold mK at hq; omega), fE q (by unfold mK at hq; omega)])
  rw [if_pos h2, if_neg j10, vM_weight_25]
  simp only [mGF m488, mr28]
  rw [q1, aVC, tlN, vM_weight_34]
  simp only [mGF m488, mr28]
  rw [q2, aVC, tlS, vM_weight_41]
  have h17 := sz_le (an A i)
  by_cases h3 : sz (an A i) = 0
  · rw [if_neg (show ¬ ((aN A i ∧ sz (an A i) ≠ 0) ∧ 2 ≤ n ∧ n ≤ 8) from fun z => z.1.2 h3), if_pos (show (sz (an A i) : Int) - 1 < 0 by omega), vM_weight_64]
    exact done E _ (fun _ _ => rfl)
  rw [if_pos (show (aN A i ∧ sz (an A i) ≠ 0) ∧ 2 ≤ n ∧ n ≤ 8 from ⟨⟨h1, h3⟩, h2⟩), if_neg (show ¬ (sz (an A i) : Int) - 1 < 0 by omega), vM_weight_46]
  by_cases h4 : (sz (an A i) : Int) - 1 < n
  rotate_left
  · rw [if_neg h4, vM_weight_64, if_neg (fun z => by omega)]
    exact done E _ (fun _ _ => rfl)
  have e32 : w32 (n - ((sz (an A i) : Int) - 1)) = n - ((sz (an A i) : Int) - 1) := w32_i (by omega) (by omega)
  rw [if_pos h4, vM_weight_51, mGF m488, e32, mmany hF1, aVC, tlS, vM_weight_58]
  obtain ⟨dim, hdim⟩ := Int.eq_ofNat_of_zero_le (show 0 ≤ n - ((sz (an A i) : Int) - 1) by omega)
  obtain ⟨n, rfl⟩ := Int.eq_ofNat_of_zero_le (show 0 ≤ n by omega)
  have e33 := e32.trans hdim
  rw [hdim]
  unfold myN
  rw [if_neg (show ¬ (dim : Int) < 0 by omega), Int.toNat_natCast, Int.toNat_natCast]
  by_cases h5 : (dim : Int) ≤ 12 ∧ (dim : Int) * ((aF A).1 : Int) ≤ 12
  rotate_left
  · rw [if_neg h5, if_pos (show (4096 : Int) < 4097 by decide), vM_weight_64, if_neg (fun z => h5 z.2)]
    exact done E _ (fun _ _ => rfl)
  have hmn := (my_c hO).mp h5
  have pw : 2 ^ ((aF A).1 * dim) ≤ 2 ^ 12 := Nat.pow_le_pow_right (by decide) hmn
  obtain ⟨D1, q5, f5⟩ := mwt_loop (d := d) (ρ := ρ) hO p2 (dim := dim) (n := n) (dg := (sz (an A i) : Int) - 1) e33 (by omega) hmn i (2 ^ ((aF A).1 * dim) - 1) 1 n E none none (by have := Nat.two_pow_pos ((aF A).1 * dim); omega) hF1 RF
  rw [show ((1 : Nat) : Int) = 1 from rfl] at q5
  rw [if_pos h5, if_neg (show ¬ 4096 < ((2 ^ ((aF A).1 * dim) : Nat) : Int) by omega), vM_weight_67, q5, if_pos (show 1 ≤ (dim : Int) ∧ (dim : Int) ≤ 12 ∧ (dim : Int) * ((aF A).1 : Int) ≤ 12 from ⟨by omega, h5⟩), wRw_mnl hO hmn]
  exact done D1 _ f5
end MWT
