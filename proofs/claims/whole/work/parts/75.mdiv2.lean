/-! THE REFERENCE'S DIVISION, whole -/
section MDIV2
variable {ρ : jr2} {D : jD} {d : Nat} {Φ : gF}
theorem pJ_mono0 {v k : Nat} (hk : k < 17) {G : pl} (dG : dle G 17) : pJ Φ 0 (mono v k) G = pM Φ v (pSi Φ k G) := by
  rw [pJ_B (dle_mono (mono_dle v k) (by omega)) dG]
  unfold pB
  rw [if_neg (by decide), pP_ge (mono_dle v k) 17 (by omega)]
  exact pP_mono v G k
theorem dvl_less (h : FOK Φ) {side n k : Nat} (hs : side < 2) {G L : pl} (oG : pOK Φ G) (hn : sz G = n + 1) (oL : pOK Φ L) (hL : sz L = k + n + 1) : pOK Φ (pA L (pJ Φ side (mono (dq Φ side n (fi Φ (G n)) k L) k) G)) ∧ dle (pA L (pJ Φ side (mono (dq Φ side n (fi Φ (G n)) k L) k) G)) (k + n) ∧ dq Φ side n (fi Φ (G n)) k L < 2 ^ Φ.1 := by
  have h17 := sz_le L
  have h17g := sz_le G
  have dG : dle G (n + 1) := by rw [← hn]; exact sz_dle oG.2
  have g0 : G n ≠ 0 := sz_top hn
  have hv := dq_lt (side := side) (n := n) (hd := fi Φ (G n)) (k := k) h oL.1
  have iM : inF Φ (mono (dq Φ side n (fi Φ (G n)) k L) k) := mono_in hv k
  have dM : dle (mono (dq Φ side n (fi Φ (G n)) k L) k) (k + 1) := mono_dle _ k
  have eB := pJ_B (Φ := Φ) (side := side) (dle_mono dM (show k + 1 ≤ 17 by omega)) oG.2
  have dP : dle (pJ Φ side (mono (dq Φ side n (fi Φ (G n)) k L) k) G) (k + 1 + (n + 1) - 1) := by
    rw [eB]; exact pB_dle dM dG (by omega) (by omega)
  have top := dq_top h (side := side) (n := n) (k := k) oL.1 oG.1 dG g0 (by omega) (by omega)
  rw [← eB] at top
  have iJ := pJ_in (side := side) h iM oG.1
  have dd : dle (pA L (pJ Φ side (mono (dq Φ side n (fi Φ (G n)) k L) k) G)) (k + n) := fun b hb => by
    show L b ^^^ _ = 0
    by_cases e : b = k + n
    · rw [e, top, Nat.xor_self]
    · rw [sz_ge oL.2 (by omega), dP b (by omega)]; rfl
  exact ⟨⟨pA_in oL.1 iJ, dle_mono dd (by omega)⟩, dd, hv⟩
/-- one step of the division: down to the next degree -/
theorem mdiv_step {cg cq cr side n N k : Nat} (hs : side < 2) (hg : dCl cg) (hq : dCl cq) (hr : dCl cr) (hgq : cg ≠ cq) (hgr : cg ≠ cr) (hqr : cq ≠ cr) {G L Q : pl} (oG : pOK Φ G) (hn : sz G = n + 1) (oL : pOK Φ L) (hL : sz L = k + n + 1) (hkN : k ≤ N) (o1 : Option Nat) (u9 u10 : Option jv) (hF : MF Φ D) (RG : PR D cg G) (RL : PR D cr L) (RQ : PR D cq Q) (RS : side = 0 → ∀ i, i ≤ N → PRo D 500 (17 * i) (pSi Φ i G)) :
    ∃ D' u9' u10', Vl (d + 6) 229 (if side = 0 then 210 else 120) [some (.inr (.inr (some 488))), some (.inr (.inr o1)), some (.inr (.inr (some cg))), some (.inl (side : Int)), some (.inr (.inr (some cq))), some (.inr (.inr (some cr))), some (.inl (n : Int)), some (.inl ((k + n : Nat) : Int)), some (.inl (k : Int)), u9, u10] [] (hp (1, ρ) D) = Vl (d + 6) 229 288 [some (.inr (.inr (some 488))), some (.inr (.inr o1)), some (.inr (.inr (some cg))), some (.inl (side : Int)), some (.inr (.inr (some cq))), some (.inr (.inr (some cr))), some (.inl (n : Int)), some (.inl ((k + n : Nat) : Int)), some (.inl (k : Int)), some (.inl u9'), some (.inl u10')] [] (hp (1, ρ) D') ∧ PR D' cr (pA L (pJ Φ side (mono (dq Φ side n (fi Φ (G n)) k L) k) G)) ∧ PR D' cq (fun b => if b = k then dq Φ side n (fi Φ (G n)) k L else Q b) ∧ (∀ q, q ≠ cq → q ≠ cr → (q < 497 ∨ q = 500 ∨ 501 < q) → D' q = D q) := by
  have h17 := sz_le L
  have h17g := sz_le G
  have dG : dle G (n + 1) := by rw [← hn]; exact sz_dle oG.2
  have g0 : G n ≠ 0 := sz_top hn
  obtain ⟨-, -, hv⟩ := dvl_less hF.1 hs oG hn oL hL
  obtain ⟨g1, g2, g3⟩ := hg
  obtain ⟨q1, q2, q3⟩ := hq
  have hr' := hr
  obtain ⟨r1, r2, r3⟩ := hr
  obtain ⟨V, hV⟩ : ∃ V, V = dq Φ side n (fi Φ (G n)) k L := ⟨_, rfl⟩
  rw [← hV] at hv ⊢
  obtain ⟨D1, hD1⟩ : ∃ D1, D1 = sD D cq k (V : Int) := ⟨_, rfl⟩
  have f1 : ∀ q, q ≠ cq → D1 q = D q := fun q e => by rw [hD1, sD_ne e]
  have RQ1 : PR D1 cq (fun b => if b = k then V else Q b) := fun b hb => by
    rw [hD1]
    show (if cq = cq ∧ b = k then (V : Int) else D cq b) = (((if b = k then V else Q b) : Nat) : Int)
    by_cases e : b = k
    · rw [if_pos ⟨rfl, e⟩, if_pos e]
    · rw [if_neg (fun z => e z.2), if_neg e]; exact RQ b hb
  have hF1 : MF Φ D1 := MF_cg hF (f1 488 (fun e => q2 e.symm))
  have RL1 : PR D1 cr L := PR_ne (f1 cr (fun e => hqr e.symm)) RL
  by_cases h0 : side = 0
  · subst h0
    have RSk := RS rfl k hkN
    have iS := pSi_in hF.1 oG.1 k
    have eS : pSi Φ k G (k + n) = fT Φ k (G n) := by rw [Nat.add_comm]; exact pSi_top dG k
    have lS := fT_lt hF.1 (oG.1 n) k
    have nS := fT_nz hF.1 k (oG.1 n) g0
    have x1 : D 500 (17 * k + (k + n)) = (fT Φ k (G n) : Int) := by rw [RSk (k + n) (by omega), eS]
    have i1 := minv_nz (d := d + 4) (ρ := ρ) hF lS nS
    have m1 := mmul (d := d + 5) (ρ := ρ) hF (oL.1 (k + n)) (fi_lt hF.1 lS)
    have eV : fm Φ (L (k + n)) (fi Φ (fT Φ k (G n))) = V := by
      rw [hV, fT_fi hF.1 k (oG.1 n) g0]; unfold dq; rw [if_neg (by decide)]
    have RS1 : PRo D1 500 (17 * k) (pSi Φ k G) := fun b hb => by rw [f1 500 (by omega)]; exact RSk b hb
    have c1 := mdiv_right (d := d) (ρ := ρ) hF1 hr' (show k + n < 17 by omega) RL1 oL.1 RS1 iS hv o1 (some cg) (some cq) ((0 : Nat) : Int)
    refine ⟨pDn D1 cr (k + n + 1) (rI (pA L (pM Φ V (pSi Φ k G)))), (V : Int), ((k + n + 1 : Nat) : Int), ?_, ?_, PR_ne (pDn_ne hqr) RQ1, fun q a1 a2 a3 => by rw [pDn_ne a2, f1 q a1]⟩
    · rw [if_pos rfl, vM_divide_210, mIA r1, if_pos (by omega), Int.toNat_natCast, RL (k + n) (by omega), mGF m488, mr17, show w32 (17 * (k : Int)) = ((17 * k : Nat) : Int) from by unfold w32; omega, w32_ad (by omega), mIA m500, if_pos (by omega), Int.toNat_natCast, x1, mGF m488, i1, aVC, tlS, vM_divide_233, mGF m488, m1, aVC, tlS, eV, vM_divide_236, mIS q1, if_pos (by omega), Int.toNat_natCast, ← hD1]
      exact c1
    · rw [pJ_mono0 (by omega) oG.2]
      intro b hb
      by_cases e : b < k + n + 1
      · rw [pDn_lt e]; rfl
      · rw [pDn_ge (by omega), RL1 b hb]
        show (L b : Int) = ((L b ^^^ fm Φ V (pSi Φ k G b) : Nat) : Int)
        rw [pSi_dle dG k b (by omega), fm_0r, Nat.xor_zero]
  · obtain rfl : side = 1 := by omega
    have li := fi_lt hF.1 (oG.1 n)
    have lm := fm_lt (b := fi Φ (G n)) hF.1 (oL.1 (k + n))
    have i1 := minv_nz (d := d + 4) (ρ := ρ) hF (oG.1 n) g0
    have m1 := mmul (d := d + 5) (ρ := ρ) hF (oL.1 (k + n)) li
    have b1 := mback (d := d + 4) (ρ := ρ) hF lm (n := n) (by omega)
    have eV : fB Φ n (fm Φ (L (k + n)) (fi Φ (G n))) = V := by
      rw [hV]; unfold dq; rw [if_pos rfl]
    have RG1 : PR D1 cg G := PR_ne (f1 cg hgq) RG
    have k1 := mcpy (d := d + 5) (ρ := ρ) (D := D1) g1 m501 (by decide) (by decide) (by decide) (by omega) RG1
    obtain ⟨D2, s1, s2, s3⟩ := mscaleR (d := d) (ρ := ρ) (D := pD D1 501 (rI G)) (MF_cg hF1 (pD_ne (by decide))) m501 (by decide) (by decide) (by decide) (by decide) pD_PR oG.1 hv
    have f2 : ∀ q, q ≠ cq → (q < 497 ∨ q = 500 ∨ 501 < q) → D2 q = D q := fun q a1 a2 => by rw [s3 q (by omega) (by omega) (by omega) (by omega), pD_ne (by omega), f1 q a1]
    have RL2 : PR D2 cr L := PR_ne (f2 cr (fun e => hqr e.symm) (by omega)) RL
    have iS : inF Φ (pP Φ (sz G) G (mono V 0)) := pP_in hF.1 oG.1 _
    have dS : dle (pP Φ (sz G) G (mono V 0)) (n + 1) := by
      have := pP_dle (Φ := Φ) (F := G) (mono_dle V 0) (sz G)
      rw [hn] at this ⊢
      exact dle_mono this (by omega)
    have c1 := mdiv_left (d := d) (ρ := ρ) (MF_cg hF (f2 488 (fun e => q2 e.symm) (by decide))) hr' (show k + n < 17 by omega) RL2 oL.1 s2 iS o1 (some cg) (some cq) ((1 : Nat) : Int) ((k + n : Nat) : Int) (V : Int)
    refine ⟨pOn D2 cr k (n + 1) (fun j => ((L (k + j) ^^^ pP Φ (sz G) G (mono V 0) j : Nat) : Int)), (V : Int), ((n + 1 : Nat) : Int), ?_, ?_, PR_ne (pOn_far hqr) (PR_ne (by rw [s3 cq (by omega) (by omega) (by omega) (by omega), pD_ne (by omega)]) RQ1), fun q a1 a2 a3 => by rw [pOn_far a2, f2 q a1 a3]⟩
    · rw [if_neg (by decide), vM_divide_120, mIA r1, if_pos (by omega), Int.toNat_natCast, RL (k + n) (by omega), mIA g1, if_pos (by omega), Int.toNat_natCast, RG n (by omega), mGF m488, i1, aVC, tlS, vM_divide_135, mGF m488, m1, aVC, tlS, vM_divide_138, mGF m488, show w32 (-(n : Int)) = -(n : Int) from by unfold w32; omega, b1, aVC, tlS, eV, vM_divide_144, mIS q1, if_pos (by omega), Int.toNat_natCast, ← hD1, mGF m488, mr18, k1, aVC, tlN, vM_divide_163, mGF m488, mGF m488, mr18, s1, aVC, tlN, vM_divide_173]
      exact c1
    · have eJ : pJ Φ 1 (mono V k) G = shR k (pP Φ (sz G) G (mono V 0)) := by
        unfold pJ
        rw [if_pos rfl, mono_sh, pP_sh]
      rw [eJ]
      intro b hb
      by_cases e : k ≤ b ∧ b < k + (n + 1)
      · obtain ⟨j, rfl⟩ : ∃ j, b = k + j := ⟨b - k, by omega⟩
        rw [pOn_in (by omega)]
        show ((L (k + j) ^^^ _ : Nat) : Int) = ((L (k + j) ^^^ shR k _ (k + j) : Nat) : Int)
        unfold shR
        rw [if_neg (by omega), Nat.add_sub_cancel_left]
      · rw [pOn_ne (by omega), RL2 b hb]
        show (L b : Int) = ((L b ^^^ shR k _ b : Nat) : Int)
        unfold shR
        by_cases e2 : b < k
        · rw [if_pos e2, Nat.xor_zero]
        · rw [if_neg e2, dS (b - k) (by omega), Nat.xor_zero]
theorem mdiv_main {cg cq cr side n N : Nat} (hs : side < 2) (hg : dCl cg) (hq : dCl cq) (hr : dCl cr) (hgq : cg ≠ cq) (hgr : cg ≠ cr) (hqr : cq ≠ cr) {G : pl} (oG : pOK Φ G) (hn : sz G = n + 1) (o1 : Option Nat) : ∀ (M : Nat) (L Q : pl) (D : jD) (u8 u9 u10 : Option jv), sz L ≤ M → MF Φ D → PR D cg G → PR D cr L → PR D cq Q → pOK Φ L → sz L ≤ N + n + 1 → (side = 0 → ∀ i, i ≤ N → PRo D 500 (17 * i) (pSi Φ i G)) → (∀ b, b + n < sz L → Q b = 0) →
    ∃ D', Vl (d + 6) 229 102 [some (.inr (.inr (some 488))), some (.inr (.inr o1)), some (.inr (.inr (some cg))), some (.inl (side : Int)), some (.inr (.inr (some cq))), some (.inr (.inr (some cr))), some (.inl (n : Int)), some (.inl ((sz L : Int) - 1)), u8, u9, u10] [] (hp (1, ρ) D) = some ((0, none), hp (1, ρ) D') ∧ PR D' cq (dvl Φ side n (fi Φ (G n)) G (sz L - n) L Q).1 ∧ PR D' cr (dvl Φ side n (fi Φ (G n)) G (sz L - n) L Q).2 ∧ (∀ q, q ≠ cq → q ≠ cr → (q < 497 ∨ q = 500 ∨ 501 < q) → D' q = D q) := by
  intro M
  induction M with
  | zero =>
    intro L Q D u8 u9 u10 hM hF RG RL RQ oL hN RS hQ
    refine ⟨D, ?_, ?_, ?_, fun _ _ _ _ => rfl⟩
    · rw [vM_divide_102, if_pos (by omega), vM_divide_298]
    · rw [show sz L - n = 0 by omega]; exact RQ
    · rw [show sz L - n = 0 by omega]; exact RL
  | succ M ih =>
    intro L Q D u8 u9 u10 hM hF RG RL RQ oL hN RS hQ
    by_cases hz : sz L ≤ n
    · refine ⟨D, ?_, ?_, ?_, fun _ _ _ _ => rfl⟩
      · rw [vM_divide_102, if_pos (by omega), vM_divide_298]
      · rw [show sz L - n = 0 by omega]; exact RQ
      · rw [show sz L - n = 0 by omega]; exact RL
    have h17 := sz_le L
    obtain ⟨k, hk⟩ : ∃ k, sz L = k + n + 1 := ⟨sz L - n - 1, by omega⟩
    obtain ⟨oL', dL', hv⟩ := dvl_less hF.1 hs oG hn oL hk
    obtain ⟨D1, v9, v10, s1, s2, s3, s4⟩ := mdiv_step (d := d) (ρ := ρ) hs hg hq hr hgq hgr hqr oG hn oL hk (show k ≤ N by omega) o1 u9 u10 hF RG RL RQ RS
    generalize hL' : pA L (pJ Φ side (mono (dq Φ side n (fi Φ (G n)) k L) k) G) = L' at oL' dL' s2
    generalize hQ' : (fun b => if b = k then dq Φ side n (fi Φ (G n)) k L else Q b) = Q' at s3
    have hz' : sz L' ≤ k + n := sz_dle_le dL'
    have q5 := mdeg (d := d + 5) (ρ := ρ) hr.1 (by decide) s2
    have hQz : ∀ b, b < k → Q' b = 0 := fun b hb => by
      rw [← hQ']
      show (if b = k then _ else Q b) = 0
      rw [if_neg (by omega)]; exact hQ b (by omega)
    obtain ⟨D', r1, r2, r3, r4⟩ := ih L' Q' D1 (some (.inl (k : Int))) (some (.inl v9)) (some (.inl v10)) (by omega) (MF_cg hF (s4 488 (fun e => hq.2.1 e.symm) (fun e => hr.2.1 e.symm) (by decide))) (PR_ne (s4 cg hgq hgr (by have := hg.2.2; omega)) RG) s2 s3 oL' (by omega) (fun z i hi b hb => by
      have e : D1 500 = D 500 := s4 500 (by have := hq.2.2; omega) (by have := hr.2.2; omega) (by omega)
      rw [e]; exact RS z i hi b hb) (fun b hb => hQz b (by omega))
    have ed : dvl Φ side n (fi Φ (G n)) G (sz L - n) L Q = dvl Φ side n (fi Φ (G n)) G (sz L' - n) L' Q' := by
      rw [show sz L - n = k + 1 by omega]
      show dvl Φ side n (fi Φ (G n)) G k (pA L (pJ Φ side (mono (dq Φ side n (fi Φ (G n)) k L) k) G)) (fun b => if b = k then dq Φ side n (fi Φ (G n)) k L else Q b) = _
      rw [hL', hQ']
      exact dvl_skip k (sz L' - n) Q' (by omega) (fun b h1 h2 => sz_ge oL'.2 (by omega)) hQz
    rw [ed]
    refine ⟨D', ?_, r2, r3, fun q a1 a2 a3 => by rw [r4 q a1 a2 a3, s4 q a1 a2 a3]⟩
    have ew : w32 (((k + n : Nat) : Int) - (n : Int)) = (k : Int) := by unfold w32; omega
    rw [vM_divide_102, if_neg (by omega), vM_divide_109, hk, show ((k + n + 1 : Nat) : Int) - 1 = ((k + n : Nat) : Int) by omega, ew]
    have st : (if (side : Int) = 0 then Vl (d + 6) 229 210 [some (.inr (.inr (some 488))), some (.inr (.inr o1)), some (.inr (.inr (some cg))), some (.inl (side : Int)), some (.inr (.inr (some cq))), some (.inr (.inr (some cr))), some (.inl (n : Int)), some (.inl ((k + n : Nat) : Int)), some (.inl (k : Int)), u9, u10] [] (hp (1, ρ) D) else Vl (d + 6) 229 120 [some (.inr (.inr (some 488))), some (.inr (.inr o1)), some (.inr (.inr (some cg))), some (.inl (side : Int)), some (.inr (.inr (some cq))), some (.inr (.inr (some cr))), some (.inl (n : Int)), some (.inl ((k + n : Nat) : Int)), some (.inl (k : Int)), u9, u10] [] (hp (1, ρ) D)) = Vl (d + 6) 229 288 [some (.inr (.inr (some 488))), some (.inr (.inr o1)), some (.inr (.inr (some cg))), some (.inl (side : Int)), some (.inr (.inr (some cq))), some (.inr (.inr (some cr))), some (.inl (n : Int)), some (.inl ((k + n : Nat) : Int)), some (.inl (k : Int)), some (.inl v9), some (.inl v10)] [] (hp (1, ρ) D1) := by
      rw [← s1]
      by_cases h0 : side = 0
      · rw [if_pos (by omega), if_pos h0]
      · rw [if_neg (by omega), if_neg h0]
    rw [st, vM_divide_288, q5, aVC, tlS, vM_divide_293]
    exact r1
/-- quotient and rest -/
theorem mdivide (hF : MF Φ D) {cf cg cq cr side : Nat} (hs : side < 2) (hf : dCl cf) (hg : dCl cg) (hq : dCl cq) (hr : dCl cr) (hfr : cf ≠ cr) (hgq : cg ≠ cq) (hgr : cg ≠ cr) (hqr : cq ≠ cr) {F G : pl} (RF : PR D cf F) (RG : PR D cg G) (oF : pOK Φ F) (oG : pOK Φ G) (hz : sz G ≠ 0) :
    ∃ D', Vl (d + 6) 229 0 [some (.inr (.inr (some 488))), some (.inr (.inr (some cf))), some (.inr (.inr (some cg))), some (.inl (side : Int)), some (.inr (.inr (some cq))), some (.inr (.inr (some cr))), none, none, none, none, none] [] (hp (1, ρ) D) = some ((0, none), hp (1, ρ) D') ∧ PR D' cq (dvd Φ side F G).1 ∧ PR D' cr (dvd Φ side F G).2 ∧ (∀ q, q ≠ cq → q ≠ cr → (q < 497 ∨ 501 < q) → D' q = D q) := by
  obtain ⟨n, hn⟩ : ∃ n, sz G = n + 1 := ⟨sz G - 1, by omega⟩
  have h17 := sz_le F
  have h17g := sz_le G
  obtain ⟨D1, hD1⟩ : ∃ D1, D1 = pD (pD D cr (rI F)) cq (rI p0) := ⟨_, rfl⟩
  have f1 : ∀ q, q ≠ cq → q ≠ cr → D1 q = D q := fun q a b => by rw [hD1, pD_ne a, pD_ne b]
  have k1 := mcpy (d := d + 5) (ρ := ρ) (D := D) hf.1 hr.1 (by decide) (by decide) (by decide) hfr RF
  have k2 := mclear (d := d + 5) (ρ := ρ) (D := pD D cr (rI F)) hq.1 (by decide) (by decide)
  rw [← hD1] at k2
  have RG1 : PR D1 cg G := PR_ne (f1 cg hgq hgr) RG
  have RL1 : PR D1 cr F := by rw [hD1]; exact PR_ne (pD_ne (fun e => hqr e.symm)) pD_PR
  have RQ1 : PR D1 cq p0 := by rw [hD1]; exact pD_PR
  have k3 := mdeg (d := d + 5) (ρ := ρ) hg.1 (by decide) RG1
  have k4 := mdeg (d := d + 5) (ρ := ρ) hr.1 (by decide) RL1
  have hF1 : MF Φ D1 := MF_cg hF (f1 488 (fun e => hq.2.1 e.symm) (fun e => hr.2.1 e.symm))
  have en : ((sz G : Int) - 1) = (n : Int) := by omega
  have ed : dvd Φ side F G = dvl Φ side n (fi Φ (G n)) G (sz F - n) F p0 := by unfold dvd; rw [hn, Nat.add_sub_cancel]
  have st : Vl (d + 6) 229 0 [some (.inr (.inr (some 488))), some (.inr (.inr (some cf))), some (.inr (.inr (some cg))), some (.inl (side : Int)), some (.inr (.inr (some cq))), some (.inr (.inr (some cr))), none, none, none, none, none] [] (hp (1, ρ) D) = Vl (d + 6) 229 24 [some (.inr (.inr (some 488))), some (.inr (.inr (some cf))), some (.inr (.inr (some cg))), some (.inl (side : Int)), some (.inr (.inr (some cq))), some (.inr (.inr (some cr))), some (.inl (n : Int)), none, none, none, none] [.inl ((sz F : Int) - 1)] (hp (1, ρ) D1) := by
    rw [vM_divide_0, k1, aVC, tlN, vM_divide_8, k2, aVC, tlN, vM_divide_13, k3, aVC, tlS, en, vM_divide_17, k4, aVC, tlS]
  rw [st, vM_divide_24, ed]
  by_cases hlt : sz F ≤ n
  · rw [if_pos (by omega), vM_divide_33, show sz F - n = 0 by omega]
    exact ⟨D1, rfl, RQ1, RL1, fun q a1 a2 _ => f1 q a1 a2⟩
  obtain ⟨N, hN⟩ : ∃ N, sz F = N + n + 1 := ⟨sz F - n - 1, by omega⟩
  rw [if_neg (by omega), vM_divide_34]
  by_cases h0 : side = 0
  · subst h0
    have k5 := mcpy (d := d + 5) (ρ := ρ) (D := D1) hg.1 m501 (by decide) (by decide) (by decide) (by have := hg.2.2; omega) RG1
    obtain ⟨D2, s1, s2, s3⟩ := mdiv_steps (d := d) (ρ := ρ) (n := n) (N := N) (by omega) oG.1 (some cf) (some cg) (some cq) (some cr) ((0 : Nat) : Int) (N + 1) 0 (pD D1 501 (rI G)) (Nat.zero_add _) (MF_cg hF1 (pD_ne (by decide))) (fun _ => pD_PR) (fun i hi => absurd hi (Nat.not_lt_zero _))
    have f2 : ∀ q, q ≠ 500 → q ≠ 501 → D2 q = D1 q := fun q a b => by rw [s3 q a b, pD_ne b]
    obtain ⟨D', r1, r2, r3, r4⟩ := mdiv_main (d := d) (ρ := ρ) (N := N) hs hg hq hr hgq hgr hqr oG hn (some cf) (sz F) F p0 D2 (some (.inl ((N + 1 : Nat) : Int))) none none (Nat.le_refl _) (MF_cg hF1 (f2 488 (by decide) (by decide))) (PR_ne (f2 cg (by have := hg.2.2; omega) (by have := hg.2.2; omega)) RG1) (PR_ne (f2 cr (by have := hr.2.2; omega) (by have := hr.2.2; omega)) RL1) (PR_ne (f2 cq (by have := hq.2.2; omega) (by have := hq.2.2; omega)) RQ1) oF (by omega) (fun _ => s2) (fun _ _ => rfl)
    refine ⟨D', ?_, r2, r3, fun q a1 a2 a3 => by rw [r4 q a1 a2 (by omega), f2 q (by omega) (by omega), f1 q a1 a2]⟩
    have e1 : ((sz F : Int) - 1) = ((N + n : Nat) : Int) := by omega
    rw [e1] at r1 ⊢
    rw [if_pos (by rfl), vM_divide_38, mGF m488, mr18, k5, aVC, tlN, vM_divide_48]
    exact s1.trans r1
  · obtain ⟨D', r1, r2, r3, r4⟩ := mdiv_main (d := d) (ρ := ρ) (N := N) hs hg hq hr hgq hgr hqr oG hn (some cf) (sz F) F p0 D1 none none none (Nat.le_refl _) hF1 RG1 RL1 RQ1 oF (by omega) (fun z => absurd z h0) (fun _ _ => rfl)
    refine ⟨D', ?_, r2, r3, fun q a1 a2 a3 => by rw [r4 q a1 a2 (by omega), f1 q a1 a2]⟩
    rw [if_neg (by omega)]
    exact r1
end MDIV2
