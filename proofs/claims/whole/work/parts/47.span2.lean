/-! SPAN: rows laid down, weights -/
def wEq (ω ω' : jw) : Prop := ω'.1 = ω.1 ∧ ω'.2.1 = ω.2.1 ∧ ω'.2.2.1 = ω.2.2.1 ∧ ∀ c, c ≠ 303 → ω'.2.2.2 c = ω.2.2.2 c
theorem wEq_r (ω : jw) : wEq ω ω := ⟨rfl, rfl, rfl, fun _ _ => rfl⟩
theorem wEq_t {ω ω' ω'' : jw} (h : wEq ω ω') (h' : wEq ω' ω'') : wEq ω ω'' := ⟨h'.1.trans h.1, h'.2.1.trans h.2.1, h'.2.2.1.trans h.2.2.1, fun c hc => (h'.2.2.2 c hc).trans (h.2.2.2 c hc)⟩
theorem wEq_s (ω : jw) (j : Nat) (x : Int) : wEq ω (sL ω 303 j x) := ⟨rfl, rfl, rfl, fun c hc => by funext b; exact if_neg (fun q => hc q.1)⟩
theorem SP_fr {ω : jw} {D D' : jD} {m n k : Nat} {R : Nat → pl} (h : SP ω D m n k R) (hD' : D' 302 = D 302) : SP ω D' m n k R := by
  unfold SP at h ⊢
  rw [hD']; exact h
/-- the sums in Gray's order -/
def gsm (R : Nat → pl) : Nat → pl
  | 0 => p0
  | k + 1 => pA (gsm R k) (R (tzk (k + 1)))
def wgt (F : pl) : Nat → Nat
  | 0 => 0
  | k + 1 => wgt F k + (if F k = 0 then 0 else 1)
/-- the least weight of the sums i .. -/
def lwl (R : Nat → pl) (len : Nat) : Nat → Nat → Nat → Nat
  | 0, _, l => l
  | r + 1, i, l => lwl R len r (i + 1) (min l (wgt (gsm R i) len))
section SPAN2
variable {ω : jw} {D : jD} {d : Nat} {Φ : gF}
theorem beginS_spec (hF : FT Φ D 76) {k : Nat} (hk : k ≤ 16) (hmk : Φ.1 * k ≤ 64) (R : Nat → pl) : ∃ D', Vl d 133 0 [some (.inr (.inr (some 302))), some (.inr (.inr (some 76)))] [] (hp ω D) = some ((0, none), hp ω D') ∧ SP ω D' Φ.1 0 k R ∧ ∀ q, q ≠ 302 → D' q = D q := by
  refine ⟨sD (sD D 302 3 0) 302 4 (Φ.1 : Int), ?_, ⟨sD_eq, by rw [sD_nb (by decide), sD_eq]; rfl, by decide, hmk, F_m1 hF.1, F_m8 hF.1, hk, fun j hj => absurd hj (Nat.not_lt_zero _)⟩, fun q hq => by rw [sD_ne hq, sD_ne hq]⟩
  have e : sD D 302 3 0 76 0 = (Φ.1 : Int) := by rw [sD_ne (by decide)]; exact hF.2.1
  simp only [vS_begin_0, aGF kS, aVC, tlS, tlN, aLt, hwD, aGF (kF tF_76)]
  rw [hD, e]
theorem addRow_spec {c L m n k : Nat} {R : Nat → pl} (h : SP ω D m n k R) (hn : n < 12) (hc : KL0[c]? = some (1, L)) (hk : k ≤ L) {F : pl} (hF : ∀ b, F b < 2 ^ m) (hR : ∀ b, b < k → D c b = (F b : Int)) : ∃ ω' D', Vl (d + 1) 134 0 [some (.inr (.inr (some 302))), some (.inr (.inr (some c))), some (.inl (k : Int))] [] (hp ω D) = some ((0, none), hp ω' D') ∧ SP ω' D' m (n + 1) k (fun j => if j = n then F else R j) ∧ wEq ω ω' ∧ ∀ q, q ≠ 302 → D' q = D q := by
  obtain ⟨h1, h2, h3, h4, h5, h6, h7, h8⟩ := h
  have q1 := packed_spec (ω := ω) (d := d) hc h1 h4 h6 hk (by omega) hF hR
  refine ⟨sL ω 303 n (pL m F k), sD D 302 3 ((n + 1 : Nat) : Int), ?_, ⟨by rw [sD_nb (by decide)]; exact h1, sD_eq, by omega, h4, h5, h6, h7, fun j hj => ?_⟩, wEq_s ω n _, fun q hq => sD_ne hq⟩
  · rw [vS_addRow_0, aGF kS, hD, h2, if_neg (by omega), vS_addRow_7, aGF kS, hD, h2, if_pos (by omega), vS_addRow_16, aGF kS, aGF kS, aGF kS, q1, aVC, tlS, hD, h2, rS_0, vS_addRow_30, aLS kS_0, if_pos (by omega), Int.toNat_natCast, aGF kS, aGF kS, aLt, hwD, hD, h2, w32_s (by omega), vS_addRow_41]
  · dsimp only
    by_cases e : j = n
    · subst e
      rw [if_pos rfl]
      exact ⟨hF, if_pos ⟨rfl, rfl⟩⟩
    · rw [if_neg e]
      refine ⟨(h8 j (by omega)).1, ?_⟩
      rw [← (h8 j (by omega)).2]
      exact if_neg (fun q => e q.2)
def aRw (Φ : gF) (R : Nat → pl) (n e : Nat) (F : pl) : Nat → pl := fun j => if j < n then R j else if j < n + e then pM Φ (2 ^ (j - n)) F else R j
theorem addTimesS_loop {c n k : Nat} {R : Nat → pl} (hc : KL0[c]? = some (1, 17)) (hc1 : c ≠ 305) (hc2 : c ≠ 302) (hcF : c < 76 ∨ 81 ≤ c) (hn : n + Φ.1 ≤ 12) (hk1 : 1 ≤ k) {F : pl} (iF : inF Φ F) : ∀ (r e : Nat) (ω : jw) (D : jD) (u5 : Option jv), e + r = Φ.1 → FT Φ D 76 → (∀ b, b < k → D c b = (F b : Int)) → SP ω D Φ.1 (n + e) k (aRw Φ R n e F) → ∃ ω' D', Vl (d + 2) 155 3 [some (.inr (.inr (some 302))), some (.inr (.inr (some 76))), some (.inr (.inr (some c))), some (.inl (k : Int)), some (.inl (e : Int)), u5] [] (hp ω D) = some ((0, none), hp ω' D') ∧ SP ω' D' Φ.1 (n + Φ.1) k (aRw Φ R n Φ.1 F) ∧ wEq ω ω' ∧ ∀ q, q ≠ 302 → q ≠ 305 → D' q = D q
  | 0, e, ω, D, u5, he, hF, hR, hS => by
    rw [show e = Φ.1 by omega] at hS ⊢
    refine ⟨ω, D, ?_, hS, wEq_r ω, fun _ _ _ => rfl⟩
    rw [vS_addTimes_3, aGF kS, hD, hS.1, if_neg (by omega), vS_addTimes_67]
  | r + 1, e, ω, D, u5, he, hF, hR, hS => by
    have h8 := F_m8 hF.1
    have hk16 : k ≤ 16 := hS.2.2.2.2.2.2.1
    have h2e : 2 ^ e < 2 ^ Φ.1 := Nat.pow_lt_pow_right (by decide) (by omega)
    have h256 := F_256 hF.1
    have ch := chain (fun j => Vl (d + 2) 155 15 [some (.inr (.inr (some 302))), some (.inr (.inr (some 76))), some (.inr (.inr (some c))), some (.inl (k : Int)), some (.inl (e : Int)), some (.inl (j : Int))] [] (hp ω (pDn D 305 j (fun _ => 0)))) 17 (fun j hj => by
      rw [vS_addTimes_15, if_pos (by omega), vS_addTimes_22, aGF kS, rS_2, aIS kS_2, if_pos (by omega), Int.toNat_natCast, w32_s (by omega), pDn_s rfl])
    rw [pDn_0, show ((0 : Nat) : Int) = 0 from rfl] at ch
    have F1 : FT Φ (pDn D 305 17 (fun _ => 0)) 76 := FT_congr (fun q _ _ => pDn_ne (by omega)) hF
    have esh : jshl 1 (e : Int) = ((2 ^ e : Nat) : Int) := by
      have := jshl_n (a := 1) (k := e) (by omega) (by omega)
      rw [Nat.one_mul] at this; exact this
    have q1 := addTimes_n (ω := ω) (D := pDn D 305 17 (fun _ => 0)) (d := d + 1) (n := k) tF_76 F1 kS_2 hc (fun j hj => by omega) (fun q => hc1 q.symm) (T := k - 1) (by omega) (by omega) (A := p0) (F := F) (fun b hb => pDn_lt (by omega)) (fun b hb => by rw [pDn_ne hc1]; exact hR b hb) (p0_in Φ) iF h2e
    obtain ⟨D2, hD2⟩ : ∃ D2, D2 = pDn (pDn D 305 17 (fun _ => 0)) 305 k (rI (fun b => p0 b ^^^ fm Φ (2 ^ e) (F b))) := ⟨_, rfl⟩
    rw [← hD2] at q1
    have f2 : ∀ q, q ≠ 305 → D2 q = D q := fun q hq => by rw [hD2, pDn_ne hq, pDn_ne hq]
    have R2 : ∀ b, b < k → D2 305 b = (pM Φ (2 ^ e) F b : Int) := fun b hb => by
      rw [hD2, pDn_lt hb]
      dsimp only [rI, p0, pM]
      rw [Nat.zero_xor]
    obtain ⟨ω3, D3, q3, S3, w3, f3⟩ := addRow_spec (ω := ω) (d := d) (SP_fr hS (f2 302 (by decide))) (by omega) kS_2 (by omega) (pM_in hF.1 h2e F) R2
    have eR : (fun j => if j = n + e then pM Φ (2 ^ e) F else aRw Φ R n e F j) = aRw Φ R n (e + 1) F := by
      funext j
      unfold aRw
      by_cases e1 : j = n + e
      · rw [if_pos e1, if_neg (by omega), if_pos (by omega), show j - n = e by omega]
      · rw [if_neg e1]
        by_cases e2 : j < n
        · rw [if_pos e2, if_pos e2]
        · rw [if_neg e2, if_neg e2]
          by_cases e3 : j < n + e
          · rw [if_pos e3, if_pos (by omega)]
          · rw [if_neg e3, if_neg (by omega)]
    rw [eR] at S3
    obtain ⟨ω', D', q4, S4, w4, f4⟩ := addTimesS_loop hc hc1 hc2 hcF hn hk1 iF r (e + 1) ω3 D3 (some (.inl ((17 : Nat) : Int))) (by omega) (FT_congr (fun q _ _ => by rw [f3 q (by omega), f2 q (by omega)]) hF) (fun b hb => by rw [f3 c hc2, f2 c hc1]; exact hR b hb) S3
    refine ⟨ω', D', ?_, S4, wEq_t w3 w4, fun q h1 h2 => by rw [f4 q h1 h2, f3 q h1, f2 q h2]⟩
    rw [vS_addTimes_3, aGF kS, hD, hS.1, if_pos (by omega), vS_addTimes_12, ch, vS_addTimes_15, if_neg (by decide), vS_addTimes_36, aGF kS, aGF (kF tF_76), rS_2, esh, show w32 ((k : Int) - 1) = ((k - 1 : Nat) : Int) by unfold w32; omega, q1, aVC, tlN, vS_addTimes_52, aGF kS, aGF kS, rS_2, q3, aVC, tlN, vS_addTimes_61, w32_s (by omega), q4]
theorem addTimesS_spec {c n k : Nat} {R : Nat → pl} (hc : KL0[c]? = some (1, 17)) (hc1 : c ≠ 305) (hc2 : c ≠ 302) (hcF : c < 76 ∨ 81 ≤ c) (hn : n + Φ.1 ≤ 12) (hk1 : 1 ≤ k) {F : pl} (iF : inF Φ F) (hF : FT Φ D 76) (hR : ∀ b, b < k → D c b = (F b : Int)) (hS : SP ω D Φ.1 n k R) : ∃ ω' D', Vl (d + 2) 155 0 [some (.inr (.inr (some 302))), some (.inr (.inr (some 76))), some (.inr (.inr (some c))), some (.inl (k : Int)), none, none] [] (hp ω D) = some ((0, none), hp ω' D') ∧ SP ω' D' Φ.1 (n + Φ.1) k (aRw Φ R n Φ.1 F) ∧ wEq ω ω' ∧ ∀ q, q ≠ 302 → q ≠ 305 → D' q = D q := by
  have e0 : aRw Φ R n 0 F = R := by
    funext j
    unfold aRw
    by_cases e2 : j < n
    · rw [if_pos e2]
    · rw [if_neg e2, if_neg (by omega)]
  have := addTimesS_loop (d := d) (R := R) hc hc1 hc2 hcF hn hk1 iF Φ.1 0 ω D none (by omega) hF hR (by rw [e0]; exact hS)
  rw [vS_addTimes_0]
  exact this
theorem gsm_in {m n k : Nat} {R : Nat → pl} (h : SP ω D m n k R) : ∀ i, i < 2 ^ n → ∀ b, gsm R i b < 2 ^ m
  | 0, _, _ => Nat.two_pow_pos m
  | i + 1, hi, b => by
    have h1 := gsm_in h i (by omega) b
    have h2 := (step_spec2 (ω := ω) (d := 0) h (i := i + 1) (by omega) hi).1
    exact x_lt h1 ((h.2.2.2.2.2.2.2 _ h2).1 b)
theorem weight_loop {m n k : Nat} {R : Nat → pl} (h : SP ω D m n k R) {W : pl} (hW : ∀ b, W b < 2 ^ m) (x2 : Int) (x5 : Int) : ∀ r p : Nat, p + r = k → Vl (d + 1) 156 31 [some (.inr (.inr (some 302))), some (.inl (k : Int)), some (.inl x2), some (.inr (.inl (pL m W k))), none, some (.inl x5), some (.inl (wgt W p : Int)), some (.inl (p : Int))] [] (hp ω D) = Vl (d + 1) 156 63 [some (.inr (.inr (some 302))), some (.inl (k : Int)), some (.inl x2), some (.inr (.inl (pL m W k))), none, some (.inl x5), some (.inl (wgt W k : Int)), some (.inl (k : Int))] [] (hp ω D)
  | 0, p, hp' => by rw [vS_leastWeight_31, if_neg (by omega), show p = k by omega]
  | r + 1, p, hp' => by
    have hk16 : k ≤ 16 := h.2.2.2.2.2.2.1
    have hwp : ∀ p, wgt W p ≤ p := fun p => by
      induction p with
      | zero => exact Nat.le_refl _
      | succ p ih => unfold wgt; split <;> omega
    have q1 := unpacked_spec (ω := ω) (d := d) (j := p) h.1 h.2.2.2.2.1 h.2.2.2.2.2.1 h.2.2.2.1 (by omega) hW
    have hw := hwp p
    rw [vS_leastWeight_31, if_pos (by omega), vS_leastWeight_37, aGF kS, q1, aVC, tlS, vS_leastWeight_46]
    by_cases h0 : W p = 0
    · rw [if_pos (by omega), vS_leastWeight_53, vS_leastWeight_54, w32_s (by omega), show w32 ((wgt W p : Int) + 0) = (wgt W (p + 1) : Int) by
        unfold w32
        show _ = ((wgt W p + (if W p = 0 then 0 else 1) : Nat) : Int)
        rw [if_pos h0]; omega]
      exact weight_loop h hW x2 x5 r (p + 1) (by omega)
    · have e1 : wgt W p + 1 = wgt W (p + 1) := by
        show _ = wgt W p + (if W p = 0 then 0 else 1)
        rw [if_neg h0]
      rw [if_neg (by omega), vS_leastWeight_49, vS_leastWeight_54, w32_s (by omega), w32_s (by omega), e1]
      exact weight_loop h hW x2 x5 r (p + 1) (by omega)
theorem leastWeight_loop {m n k : Nat} {R : Nat → pl} (h : SP ω D m n k R) : ∀ (r i l : Nat) (u6 u7 : Option jv), i + 1 + r = 2 ^ n → l ≤ 16 → Vl (d + 2) 156 7 [some (.inr (.inr (some 302))), some (.inl (k : Int)), some (.inl (l : Int)), some (.inr (.inl (pL m (gsm R i) k))), none, some (.inl ((i + 1 : Nat) : Int)), u6, u7] [] (hp ω D) = some ((0, some (.inl (lwl R k r (i + 1) l : Int))), hp ω D)
  | 0, i, l, u6, u7, hi, hl => by
    rw [vS_leastWeight_7, aGF kS, sums_spec h, aVC, tlS, vS_leastWeight_13, if_neg (by omega), vS_leastWeight_76]
    rfl
  | r + 1, i, l, u6, u7, hi, hl => by
    have h12 : 2 ^ n ≤ 2 ^ 12 := Nat.pow_le_pow_right (by decide) h.2.2.1
    obtain ⟨t1, t2⟩ := step_spec2 (ω := ω) (d := d) h (i := i + 1) (by omega) (by omega)
    have g1 := gsm_in h i (by omega)
    have g2 := gsm_in h (i + 1) (by omega)
    have hx := pL_x (k := k) g1 (h.2.2.2.2.2.2.2 _ t1).1 h.2.2.2.1
    have hw := weight_loop (ω := ω) (d := d + 1) h g2 (l : Int) ((i + 1 : Nat) : Int) k 0 (by omega)
    rw [show ((0 : Nat) : Int) = 0 from rfl, show (wgt (gsm R (i + 1)) 0 : Int) = 0 from rfl] at hw
    have hmin : (if (wgt (gsm R (i + 1)) k : Int) < (l : Int) then (wgt (gsm R (i + 1)) k : Int) else (l : Int)) = ((min l (wgt (gsm R (i + 1)) k) : Nat) : Int) := by split <;> omega
    rw [vS_leastWeight_7, aGF kS, sums_spec h, aVC, tlS, vS_leastWeight_13, if_pos (by omega), vS_leastWeight_16, aGF kS, t2, aVC, tlS, vS_leastWeight_23, hx, show pA (gsm R i) (R (tzk (i + 1))) = gsm R (i + 1) from rfl, hw, vS_leastWeight_63, hmin, w32_s (by omega)]
    exact leastWeight_loop h r (i + 1) (min l (wgt (gsm R (i + 1)) k)) _ _ (by omega) (by omega)
theorem leastWeight_spec {m n k : Nat} {R : Nat → pl} (h : SP ω D m n k R) : Vl (d + 2) 156 0 [some (.inr (.inr (some 302))), some (.inl (k : Int)), none, none, none, none, none, none] [] (hp ω D) = some ((0, some (.inl (lwl R k (2 ^ n - 1) 1 k : Int))), hp ω D) := by
  have h1 : 0 < 2 ^ n := Nat.two_pow_pos n
  have := leastWeight_loop (ω := ω) (d := d) h (2 ^ n - 1) 0 k none none (by omega) h.2.2.2.2.2.2.1
  have e0 : pL m (gsm R 0) k = 0 := by
    unfold pL
    rw [show pk m (gsm R 0) k = 0 from pkq_z k (fun _ _ => rfl)]; rfl
  rw [e0, show ((0 + 1 : Nat) : Int) = 1 from rfl] at this
  rw [vS_leastWeight_0, this]
end SPAN2
