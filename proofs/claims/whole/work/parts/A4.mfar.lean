/-! THE REFERENCE'S METHODS: distance, mend -/
def frV (Φ : gF) (n : Nat) (p : Nat → Nat) (c : Nat) : pl := fun j => if j < n then app Φ (lyc Φ.1 c) 1 (p j) else 0
section FAR
variable {Φ : gF}
theorem apn_m {c k a r : Nat} : ∀ N, apn Φ (mono c k) a r N = if k < N then fm Φ c (nrm Φ a r k) else 0
  | 0 => (if_neg (Nat.not_lt_zero k)).symm
  | N + 1 => by
    show apn Φ (mono c k) a r N ^^^ fm Φ (if N = k then c else 0) (nrm Φ a r N) = _
    rw [apn_m N]
    by_cases h : N = k
    · rw [if_neg (by omega), if_pos h, if_pos (by omega), Nat.zero_xor, h]
    · rw [if_neg h, fm_0l, Nat.xor_zero]
      by_cases h2 : k < N
      · rw [if_pos h2, if_pos (by omega)]
      · rw [if_neg h2, if_neg (by omega)]
theorem pti_n {n : Nat} {F : pl} : ∀ x j, j < n → pti Φ n F x j = nrm Φ 1 (F j) x
  | 0, _, _ => rfl
  | x + 1, j, h => by
    show (if j < n then fst_ Φ 1 (pti Φ n F x j) else _) = fst_ Φ 1 (nrm Φ 1 (F j) x)
    rw [if_pos h, pti_n x j h]
theorem pti_z {n : Nat} {F : pl} : ∀ x j, ¬ j < n → pti Φ n F x j = F j
  | 0, _, _ => rfl
  | x + 1, j, h => by
    show (if j < n then fst_ Φ 1 (pti Φ n F x j) else pti Φ n F x j) = F j
    rw [if_neg h, pti_z x j h]
theorem lyc_d17 (hm : 1 ≤ Φ.1) (c : Nat) : dle (lyc Φ.1 c) 17 := dle_mono (lyc_OK hm).2 (by decide)
theorem spR_f (hO : FOK Φ) {T : aT} (hT : tF T = Φ) {k : Nat} (hmk : Φ.1 * k ≤ 12) : ∀ i, i < 2 ^ (Φ.1 * k) → gsm (spR T k) i = frV Φ (tP T) (tp T) (grc i) := by
  have m1 := F_m1 hO
  refine gsm_N hmk (funext fun j => ?_) (fun a t _ ht => funext fun j => ?_)
  · unfold frV
    rw [lyc_0]
    split
    · unfold app; rw [sz_p0]; rfl
    · rfl
  · have hS : spR T k t = pM Φ (2 ^ (t % Φ.1)) (pti Φ (tP T) (ptF T) (t / Φ.1)) := by
      rw [← hT] at m1 ht ⊢
      exact aRw_t (S := fun x => spR T x) (G := fun x => pti (tF T) (tP T) (ptF T) x) m1 (fun _ => rfl) k t ht
    have hdv := Nat.div_le_self t Φ.1
    show frV Φ (tP T) (tp T) (a ^^^ 2 ^ t) j = frV Φ (tP T) (tp T) a j ^^^ spR T k t j
    rw [hS]
    unfold frV
    show _ = _ ^^^ fm Φ (2 ^ (t % Φ.1)) (pti Φ (tP T) (ptF T) (t / Φ.1) j)
    by_cases hj : j < tP T
    · rw [if_pos hj, if_pos hj, app_17 (lyc_d17 m1 _), app_17 (lyc_d17 m1 _), lyc_x m1 (by omega), apn_A, apn_m, if_pos (by omega), pti_n _ _ hj]
      unfold ptF
      rw [if_pos hj]
    · rw [if_neg hj, if_neg hj, pti_z _ _ hj]
      unfold ptF
      rw [if_neg hj, fm_0r]; rfl
theorem mnl_z {f : Nat → Nat} : ∀ r c, mnl f r c 0 = 0
  | 0, _ => rfl
  | r + 1, c => by unfold mnl; rw [Nat.zero_min]; exact mnl_z r (c + 1)
theorem lrl_mnl {R : Nat → pl} {k : Nat} : ∀ r i l, lrl R k r i l = mnl (fun i => rkn (gsm R i) 0 k) r i l
  | 0, _, _ => rfl
  | r + 1, i, l => by
    unfold lrl
    by_cases h : 0 < l
    · rw [if_pos h, lrl_mnl r (i + 1)]
      show _ = mnl (fun i => rkn (gsm R i) 0 k) r (i + 1) (min l (rkn (gsm R i) 0 k))
      by_cases h2 : rkn (gsm R i) 0 k < l
      · rw [if_pos h2, Nat.min_eq_right (by omega)]
      · rw [if_neg h2, Nat.min_eq_left (by omega)]
    · obtain rfl : l = 0 := by omega
      rw [if_neg h, mnl_z]
/-- the only one in a range -/
def gol (P : Nat → Bool) (key : Nat → Int) : Nat → Nat → Int → Int
  | 0, _, f => f
  | r + 1, i, f => if P i = false then gol P key r (i + 1) f else if f = -1 then gol P key r (i + 1) (key i) else -1
theorem gol_no {P : Nat → Bool} {key : Nat → Int} : ∀ r i f, (∀ k, i ≤ k → k < i + r → P k = false) → gol P key r i f = f
  | 0, _, _, _ => rfl
  | r + 1, i, f, h => by
    unfold gol
    rw [if_pos (h i (Nat.le_refl i) (by omega))]
    exact gol_no r (i + 1) f (fun k h1 h2 => h k (by omega) (by omega))
theorem gol_f {P : Nat → Bool} {key : Nat → Int} : ∀ r i f, f ≠ -1 → (∃ k, i ≤ k ∧ k < i + r ∧ P k = true) → gol P key r i f = -1
  | 0, i, f, _, ⟨k, h1, h2, _⟩ => absurd h1 (by omega)
  | r + 1, i, f, hf, ⟨k, h1, h2, h3⟩ => by
    unfold gol
    by_cases hp : P i = false
    · rw [if_pos hp]
      refine gol_f r (i + 1) f hf ⟨k, ?_, by omega, h3⟩
      have : k ≠ i := fun e => by rw [e, hp] at h3; cases h3
      omega
    · rw [if_neg hp, if_neg hf]
theorem gol_one {P : Nat → Bool} {key : Nat → Int} {c : Nat} : ∀ r i, i ≤ c → c < i + r → P c = true → (∀ k, i ≤ k → k < i + r → P k = true → k = c) → gol P key r i (-1) = key c
  | 0, i, h1, h2, _, _ => absurd h1 (by omega)
  | r + 1, i, h1, h2, h3, h4 => by
    unfold gol
    by_cases e : i = c
    · rw [if_neg (by rw [e, h3]; decide), if_pos rfl, e]
      refine gol_no r (c + 1) _ (fun k k1 k2 => ?_)
      cases hk : P k with
      | false => rfl
      | true =>
        have := h4 k (by omega) (by omega) hk
        omega
    · have hp : P i = false := by
        cases hk : P i with
        | false => rfl
        | true => exact absurd (h4 i (Nat.le_refl i) (by omega) hk) e
      rw [if_pos hp]
      exact gol_one r (i + 1) (by omega) (by omega) h3 (fun k k1 k2 k3 => h4 k (by omega) (by omega) k3)
theorem gol_two {P : Nat → Bool} {key : Nat → Int} (hkey : ∀ k, key k ≠ -1) {a b : Nat} (hab : a < b) : ∀ r i, i ≤ a → b < i + r → P a = true → P b = true → gol P key r i (-1) = -1
  | 0, i, h1, h2, _, _ => absurd h1 (by omega)
  | r + 1, i, h1, h2, h3, h4 => by
    unfold gol
    cases hk : P i with
    | false =>
      have : i ≠ a := fun e => by rw [e, h3] at hk; cases hk
      rw [if_pos rfl]
      exact gol_two hkey hab r (i + 1) (by omega) (by omega) h3 h4
    | true =>
      rw [if_neg (by decide), if_pos rfl]
      exact gol_f r (i + 1) _ (hkey i) ⟨b, by omega, by omega, h4⟩
set_option maxRecDepth 100000 in
theorem gri_left : ∀ k : Nat, k < 4096 → gri (grc k) = k := by decide +kernel
theorem gol_gray {N : Nat} (hN : N ≤ 12) {P : Nat → Bool} : gol (fun i => P (grc i)) (fun i => (grc i : Int)) (2 ^ N) 0 (-1) = gol P (fun c => (c : Int)) (2 ^ N) 0 (-1) := by
  have p1 : 2 ^ N ≤ 2 ^ 12 := Nat.pow_le_pow_right (by decide) hN
  by_cases h0 : ∃ a, a < 2 ^ N ∧ P a = true
  rotate_left
  · have hz : ∀ a, a < 2 ^ N → P a = false := fun a ha => by
      cases hk : P a with
      | false => rfl
      | true => exact absurd ⟨a, ha, hk⟩ h0
    rw [gol_no _ _ _ (fun k _ h => hz (grc k) (grc_lt (by omega))), gol_no _ _ _ (fun k _ h => hz k (by omega))]
  obtain ⟨a, ha, pa⟩ := h0
  have ga := gri_lt ha
  have ea := gri_all a (by omega)
  by_cases h1 : ∃ b, b < 2 ^ N ∧ P b = true ∧ b ≠ a
  rotate_left
  · have hu : ∀ k, k < 2 ^ N → P k = true → k = a := fun k hk pk => Classical.byContradiction fun z => h1 ⟨k, hk, pk, z⟩
    rw [gol_one (c := a) _ 0 (Nat.zero_le _) (by omega) pa (fun k _ h2 pk => hu k (by omega) pk), gol_one (c := gri a) _ 0 (Nat.zero_le _) (by omega) (by
      show P (grc (gri a)) = true
      rw [ea]; exact pa) (fun k _ h2 pk => by
      have := hu (grc k) (grc_lt (by omega)) pk
      rw [← this, gri_left k (by omega)])]
    show ((grc (gri a) : Nat) : Int) = (a : Int)
    rw [ea]
  · obtain ⟨b, hb, pb, hne⟩ := h1
    have gb := gri_lt hb
    have eb := gri_all b (by omega)
    have hne2 : gri a ≠ gri b := fun z => hne (by rw [← ea, ← eb, z])
    have k1 : ∀ k : Nat, ((grc k : Nat) : Int) ≠ -1 := fun k => by omega
    have k2 : ∀ k : Nat, (k : Int) ≠ -1 := fun k => by omega
    have pga : P (grc (gri a)) = true := by rw [ea]; exact pa
    have pgb : P (grc (gri b)) = true := by rw [eb]; exact pb
    have e1 : gol P (fun c => (c : Int)) (2 ^ N) 0 (-1) = -1 := by
      rcases Nat.lt_or_gt_of_ne hne with z | z
      · exact gol_two k2 z _ 0 (Nat.zero_le _) (by omega) pb pa
      · exact gol_two k2 z _ 0 (Nat.zero_le _) (by omega) pa pb
    rw [e1]
    rcases Nat.lt_or_gt_of_ne hne2 with z | z
    · exact gol_two (P := fun i => P (grc i)) (key := fun i => (grc i : Int)) k1 z _ 0 (Nat.zero_le _) (by omega) pga pgb
    · exact gol_two (P := fun i => P (grc i)) (key := fun i => (grc i : Int)) k1 z _ 0 (Nat.zero_le _) (by omega) pgb pga
theorem onl_gol {R : Nat → pl} {W : pl} {k : Nat} {lim : Int} : ∀ r i f, onl R W k lim r i f = gol (fun i => decide (¬ lim < (rkn (pA W (gsm R i)) 0 k : Int))) (fun i => (grc i : Int)) r i f
  | 0, _, _ => rfl
  | r + 1, i, f => by
    unfold onl gol
    by_cases h : lim < (rkn (pA W (gsm R i)) 0 k : Int)
    · rw [if_pos h, if_pos (decide_eq_false (fun z => z h))]; exact onl_gol r (i + 1) f
    · rw [if_neg h, if_neg (show ¬ (decide (¬ lim < (rkn (pA W (gsm R i)) 0 k : Int)) = false) from by rw [decide_eq_true h]; decide)]
      by_cases h2 : f = -1
      · rw [if_pos h2, if_pos h2]; exact onl_gol r (i + 1) _
      · rw [if_neg h2, if_neg h2]
end FAR
section MFAR
variable {ρ : jr2} {D D' : jD} {d : Nat} {Φ : gF} {A : aA} {T : aT}
theorem mfar (hF : MF Φ D) {F : pl} (RF : PR D 512 F) (oF : pOK Φ F) {n : Nat} (hn : n ≤ 8) (t5 : D 490 5 = (n : Int)) {p W t : Nat → Nat} (hp8 : ∀ j, j < n → D 490 (8 + j) = (p j : Int) ∧ p j < 2 ^ Φ.1) (hW : ∀ j, j < n → D 535 j = (W j : Int) ∧ W j < 2 ^ Φ.1) (ht : ∀ j, j < n → t j = W j ^^^ app Φ F 1 (p j)) : ∃ D', Vl (d + 4) 289 0 [some (.inr (.inr (some 488))), some (.inr (.inr (some 512))), some (.inr (.inr (some 535))), none] [] (hp (1, ρ) D) = some ((0, some (.inl (rkn t 0 n : Int))), hp (1, ρ) D') ∧ ∀ q, q ≠ 533 → q ≠ 534 → D' q = D q := by
  have hO := hF.1
  have h256 := F_256 hO
  have c05 : (0 : Int) ≤ 5 ∧ (5 : Int) < ((508 : Nat) : Int) := by decide
  have ch := chain (fun k => Vl (d + 4) 289 2 [some (.inr (.inr (some 488))), some (.inr (.inr (some 512))), some (.inr (.inr (some 535))), some (.inl (k : Int))] [] (hp (1, ρ) (pDn D 534 k (rI t)))) n (fun k hk => by
    have e5 : pDn D 534 k (rI t) 490 5 = (n : Int) := by rw [pDn_ne (by decide)]; exact t5
    have ep : pDn D 534 k (rI t) 490 (8 + k) = (p k : Int) := by rw [pDn_ne (by decide)]; exact (hp8 k hk).1
    have eW : pDn D 534 k (rI t) 535 k = (W k : Int) := by rw [pDn_ne (by decide)]; exact (hW k hk).1
    have q1 := mapplied (d := d) (ρ := ρ) (D := pDn D 534 k (rI t)) (MF_cg hF (pDn_ne (by decide))) m512 (PR_ne (pDn_ne (by decide)) RF) oF (a := 1) (one_lt hO) (hp8 k hk).2
    rw [show ((1 : Nat) : Int) = 1 from rfl] at q1
    have b1 := (hW k hk).2
    have b2 := app_lt hO oF.1 1 (p k)
    rw [vM_farOf_2, mGF m488, mr3, mIA m490, if_pos c05, show (5 : Int).toNat = 5 from rfl, e5, if_pos (by omega), vM_farOf_12]
    simp only [mGF m488, mr3, mr65]
    rw [mIA m535, if_pos (by omega), Int.toNat_natCast, eW, show w32 (8 + (k : Int)) = ((8 + k : Nat) : Int) from by unfold w32; omega, mIA m490, if_pos (by omega), Int.toNat_natCast, ep, q1, aVC, tlS, vM_farOf_35, jxor_n (by omega) (by omega), mIS m534, if_pos (by omega), Int.toNat_natCast, w32_s (by omega), pDn_s (show ((W k ^^^ app Φ F 1 (p k) : Nat) : Int) = rI t k from by unfold rI; rw [ht k hk])])
  rw [pDn_0, show ((0 : Nat) : Int) = 0 from rfl] at ch
  have e5 : pDn D 534 n (rI t) 490 5 = (n : Int) := by rw [pDn_ne (by decide)]; exact t5
  obtain ⟨D2, q2, f2⟩ := mrankOf (d := d + 3) (ρ := ρ) (D := pDn D 534 n (rI t)) m534 (by decide) (t := t) (i0 := 0) (N := n) (by omega) (by decide) (fun q _ hq => ⟨pDn_lt (by omega), by
    have h1 : q < n := by omega
    rw [ht q h1]
    exact Nat.lt_of_lt_of_le (x_lt (hW q h1).2 (app_lt hO oF.1 1 (p q))) h256⟩)
  rw [show ((0 : Nat) : Int) = 0 from rfl] at q2
  refine ⟨D2, ?_, fun q a b => by rw [f2 q a, pDn_ne b]⟩
  rw [vM_farOf_0, ch, vM_farOf_2, mGF m488, mr3, mIA m490, if_pos c05, show (5 : Int).toNat = 5 from rfl, e5, if_neg (by omega), vM_farOf_43]
  simp only [mGF m488, mr3, mr65]
  rw [mIA m490, if_pos c05, show (5 : Int).toNat = 5 from rfl, e5, q2, aVC, tlS, vM_farOf_58]
end MFAR
