/-! THE REFERENCE'S METHODS: word, roots, kin, classes, undo -/
section MOPS5
variable {ρ : jr2} {D D' : jD} {d : Nat} {Φ : gF} {A : aA}
theorem mword_op (h : MS D A) (i p : Int) : MO ρ D A (oWord A i p) (Vl (d + 4) 287 0 [some (.inr (.inr (some 488))), some (.inl i), some (.inl p)] [] (hp (1, ρ) D)) := by
  have hB := mB_MS h
  have hF := mB_MF h
  have t5 : mB D A 490 5 = (tP (AT A) : Int) := hB.2.2.1.2.2.1
  unfold oWord
  rw [vM_word_0, mGF m488, mbegin h, aVC, tlN, vM_word_4, mGF m488, misName hB, aVC, tlS, vM_word_9]
  by_cases h1 : aN A i
  rotate_left
  · rw [if_neg h1, if_pos j00, vM_word_26, if_neg (fun z => h1 z.1)]
    exact MO_mB h rfl
  rw [if_pos h1, if_neg j10, vM_word_12]
  by_cases h2 : p < 0
  · rw [if_pos h2, vM_word_26, if_neg (by omega)]
    exact MO_mB h rfl
  rw [if_neg h2, vM_word_16, mGF m488, mr3, mIA m490, if_pos (show (0 : Int) ≤ 5 ∧ (5 : Int) < ((508 : Nat) : Int) by decide), show (5 : Int).toNat = 5 from rfl, t5]
  by_cases h3 : p < (tP (AT A) : Int)
  rotate_left
  · rw [if_neg h3, vM_word_26, if_neg (by omega)]
    exact MO_mB h rfl
  obtain ⟨p1, p2, -⟩ := MS_nm hB h1
  obtain ⟨x, rfl⟩ := Int.eq_ofNat_of_zero_le (show 0 ≤ p by omega)
  have hx : x < tP (AT A) := by omega
  have h8 := h.2.1.2.2.1
  have e8 : pD (mB D A) 511 (rI (an A i)) 490 (8 + x) = (tp (AT A) x : Int) := by
    rw [pD_ne (by decide)]
    have := hB.2.2.1.2.2.2.2.1 x hx
    rw [show 0 + 8 + x = 8 + x by omega] at this
    exact this
  have q2 := mapplied (d := d) (ρ := ρ) (D := pD (mB D A) 511 (rI (an A i))) (MF_cg hF (pD_ne (by decide))) m511 pD_PR p2 (a := 1) (r := tp (AT A) x) (one_lt hF.1) (h.2.1.2.2.2.2.2.1 x hx)
  rw [show ((1 : Nat) : Int) = 1 from rfl] at q2
  rw [if_pos h3, if_pos (show aN A i ∧ _ from ⟨h1, by omega, h3⟩), Int.toNat_natCast, vM_word_28, mGF m488, mGF m488, mr28, mtake hB h1 m511 (by decide), aVC, tlN, vM_word_37]
  simp only [mGF m488, mr3, mr28]
  rw [show w32 (8 + (x : Int)) = ((8 + x : Nat) : Int) from by unfold w32; omega, mIA m490, if_pos (by omega), Int.toNat_natCast, e8, q2, aVC, tlS, vM_word_55]
  exact MO_sc h rfl (fun q hq => pD_ne (by unfold mK at hq; omega))
theorem mroots_loop (hO : FOK Φ) {F : pl} (oF : pOK Φ F) (x1 k : Int) : ∀ (n a f : Nat) (D : jD), a + n = 2 ^ Φ.1 → f ≤ a → MF Φ D → PR D 511 F → ∃ D', Vl (d + 8) 260 33 [some (.inr (.inr (some 488))), some (.inl x1), some (.inl k), some (.inl (f : Int)), some (.inl (a : Int))] [] (hp (1, ρ) D) = some ((0, some (.inl (rtl Φ F k n a f))), hp (1, ρ) D') ∧ ∀ q, (q < 497 ∨ 512 < q ∨ q = 511) → D' q = D q
  | 0, a, f, D, ha, hf, hF, RF => by
    have h256 := F_256 hO
    have m8 := F_m8 hO
    refine ⟨D, ?_, fun _ _ => rfl⟩
    rw [vM_roots_33, mGF m488, hD, hF.2.1, show jshl 1 (Φ.1 : Int) = ((2 ^ Φ.1 : Nat) : Int) from by rw [show (1 : Int) = ((1 : Nat) : Int) from rfl, jshl_n (by omega) (by omega), Nat.one_mul], if_neg (by omega), vM_roots_73]
    unfold rtl
    by_cases h1 : k = -1
    · rw [if_pos h1, if_pos h1, vM_roots_78, vM_roots_83]
    · rw [if_neg h1, if_neg h1, vM_roots_82, vM_roots_83]
  | n + 1, a, f, D, ha, hf, hF, RF => by
    have h256 := F_256 hO
    have m8 := F_m8 hO
    obtain ⟨D1, q1, f1⟩ := mvalueAt (d := d) (ρ := ρ) hF RF oF (a := a) (by omega)
    have hF1 : MF Φ D1 := MF_cg hF (f1 488 (by decide))
    have RF1 : PR D1 511 F := PR_ne (f1 511 (by decide)) RF
    rw [vM_roots_33, mGF m488, hD, hF.2.1, show jshl 1 (Φ.1 : Int) = ((2 ^ Φ.1 : Nat) : Int) from by rw [show (1 : Int) = ((1 : Nat) : Int) from rfl, jshl_n (by omega) (by omega), Nat.one_mul], if_pos (by omega), vM_roots_44, mGF m488, q1, aVC, tlS, vM_roots_50]
    unfold rtl
    by_cases h0 : app Φ F a 1 = 0
    · rw [if_pos (show (app Φ F a 1 : Int) = 0 by omega), if_pos h0, vM_roots_56]
      by_cases h2 : (f : Int) = k
      · rw [if_pos h2, if_pos h2, vM_roots_61]
        exact ⟨D1, rfl, f1⟩
      · obtain ⟨D2, q2, f2⟩ := mroots_loop hO oF x1 k n (a + 1) (f + 1) D1 (by omega) (by omega) hF1 RF1
        rw [if_neg h2, if_neg h2, vM_roots_64, vM_roots_67, w32_s (by omega), w32_s (by omega)]
        exact ⟨D2, q2, fun q hq => by rw [f2 q hq, f1 q hq]⟩
    · obtain ⟨D2, q2, f2⟩ := mroots_loop hO oF x1 k n (a + 1) f D1 (by omega) (by omega) hF1 RF1
      rw [if_neg (show ¬ (app Φ F a 1 : Int) = 0 by omega), if_neg h0, vM_roots_53, vM_roots_67, w32_s (by omega)]
      exact ⟨D2, q2, fun q hq => by rw [f2 q hq, f1 q hq]⟩
theorem mroots_op (h : MS D A) (i k : Int) : MO ρ D A (oRoots A i k) (Vl (d + 8) 260 0 [some (.inr (.inr (some 488))), some (.inl i), some (.inl k), none, none] [] (hp (1, ρ) D)) := by
  have hB := mB_MS h
  have hF := mB_MF h
  unfold oRoots
  rw [vM_roots_0, mGF m488, mbegin h, aVC, tlN, vM_roots_4, mGF m488, misName hB, aVC, tlS, vM_roots_9]
  by_cases h1 : aN A i
  rotate_left
  · rw [if_neg h1, if_pos j00, vM_roots_17, if_neg (fun z => h1 z.1)]
    exact MO_mB h rfl
  rw [if_pos h1, if_neg j10, vM_roots_12]
  by_cases h2 : k < -1
  · rw [if_pos h2, vM_roots_17, if_neg (by omega)]
    exact MO_mB h rfl
  obtain ⟨p1, p2, -⟩ := MS_nm hB h1
  obtain ⟨D2, q2, f2⟩ := mroots_loop (d := d) (ρ := ρ) hF.1 p2 i k (2 ^ (aF A).1) 0 0 (pD (mB D A) 511 (rI (an A i))) (Nat.zero_add _) (Nat.le_refl _) (MF_cg hF (pD_ne (by decide))) pD_PR
  rw [show ((0 : Nat) : Int) = 0 from rfl] at q2
  rw [if_neg h2, if_pos ⟨h1, by omega⟩, vM_roots_19, mGF m488, mGF m488, mr28, mtake hB h1 m511 (by decide), aVC, tlN, vM_roots_28, q2]
  exact MO_sc h rfl (fun q hq => by rw [f2 q (by unfold mK at hq; omega), pD_ne (by unfold mK at hq; omega)])
theorem mkinOf (hF : MF Φ D) {a c : Nat} (ha : a < 2 ^ Φ.1) (hc : c < 2 ^ Φ.1) (h0 : c ≠ 0) : Vl (d + 3) 262 0 [some (.inr (.inr (some 488))), some (.inl (a : Int)), some (.inl (c : Int))] [] (hp (1, ρ) D) = some ((0, some (.inl (fkn Φ a c : Int))), hp (1, ρ) D) := by
  have h256 := F_256 hF.1
  have l2 := ft_lt hF.1 hc
  have l3 := fm_lt (b := a) hF.1 l2
  have l4 := fs_lt hF.1 c
  have q1 := mturn (d := d + 1) (ρ := ρ) hF hc (n := 1) (by decide)
  rw [show fT Φ 1 c = ft Φ c from by unfold fT ft; rw [Nat.mul_one], show ((1 : Nat) : Int) = 1 from rfl] at q1
  rw [vM_kinOf_0, mGF m488, q1, aVC, tlS, vM_kinOf_8, mGF m488, mmul hF l2 ha, aVC, tlS, vM_kinOf_12, mGF m488, mslope hF hc, aVC, tlS, vM_kinOf_17, mGF m488, minv_nz (d := d + 1) hF hc h0, aVC, tlS, vM_kinOf_23, jxor_n (by omega) (by omega), mGF m488, mmul hF (x_lt l3 l4) (fi_lt hF.1 hc), aVC, tlS, vM_kinOf_26]
  rfl
theorem mkin_loop (hF : MF Φ D) {a b : Nat} (ha : a < 2 ^ Φ.1) : ∀ n c : Nat, c + n = 2 ^ Φ.1 → 1 ≤ c → Vl (d + 4) 261 24 [some (.inr (.inr (some 488))), some (.inl (a : Int)), some (.inl (b : Int)), some (.inl (c : Int))] [] (hp (1, ρ) D) = some ((0, some (.inl (knl Φ a b n c))), hp (1, ρ) D)
  | 0, c, hc, h1 => by
    have h256 := F_256 hF.1
    have m8 := F_m8 hF.1
    rw [vM_kin_24, mGF m488, hD, hF.2.1, show jshl 1 (Φ.1 : Int) = ((2 ^ Φ.1 : Nat) : Int) from by rw [show (1 : Int) = ((1 : Nat) : Int) from rfl, jshl_n (by omega) (by omega), Nat.one_mul], if_neg (by omega), vM_kin_52]
    rfl
  | n + 1, c, hc, h1 => by
    have h256 := F_256 hF.1
    have m8 := F_m8 hF.1
    rw [vM_kin_24, mGF m488, hD, hF.2.1, show jshl 1 (Φ.1 : Int) = ((2 ^ Φ.1 : Nat) : Int) from by rw [show (1 : Int) = ((1 : Nat) : Int) from rfl, jshl_n (by omega) (by omega), Nat.one_mul], if_pos (by omega), vM_kin_34, mGF m488, mkinOf hF ha (by omega) (by omega), aVC, tlS, vM_kin_40]
    unfold knl
    by_cases h0 : fkn Φ a c = b
    · rw [if_pos (show (fkn Φ a c : Int) = (b : Int) by omega), if_pos h0, vM_kin_44]
    · rw [if_neg (show ¬ (fkn Φ a c : Int) = (b : Int) by omega), if_neg h0, vM_kin_46, w32_s (by omega)]
      exact mkin_loop hF ha n (c + 1) (by omega) (by omega)
theorem mkin_op (h : MS D A) (a b : Int) : MO ρ D A (oKin A a b) (Vl (d + 4) 261 0 [some (.inr (.inr (some 488))), some (.inl a), some (.inl b), none] [] (hp (1, ρ) D)) := by
  have hF := mB_MF h
  unfold oKin
  rw [vM_kin_0, mGF m488, mbegin h, aVC, tlN, vM_kin_4, mGF m488, misNum hF, aVC, tlS, vM_kin_9]
  by_cases h1 : 0 ≤ a ∧ a < ((2 ^ (aF A).1 : Nat) : Int)
  rotate_left
  · rw [if_neg h1, if_pos j00, vM_kin_20, if_neg (fun z => h1 z.1)]
    exact MO_mB h rfl
  rw [if_pos h1, if_neg j10, vM_kin_12, mGF m488, misNum hF, aVC, tlS, vM_kin_17]
  by_cases h2 : 0 ≤ b ∧ b < ((2 ^ (aF A).1 : Nat) : Int)
  rotate_left
  · rw [if_neg h2, if_pos j00, vM_kin_20, if_neg (fun z => h2 z.2)]
    exact MO_mB h rfl
  obtain ⟨x, rfl⟩ := Int.eq_ofNat_of_zero_le h1.1
  obtain ⟨y, rfl⟩ := Int.eq_ofNat_of_zero_le h2.1
  have hpos := F_2 hF.1
  have q := mkin_loop (d := d) (ρ := ρ) hF (a := x) (b := y) (by omega) (2 ^ (aF A).1 - 1) 1 (by omega) (Nat.le_refl _)
  rw [show ((1 : Nat) : Int) = 1 from rfl] at q
  rw [if_pos h2, if_neg j10, vM_kin_22, q, if_pos ⟨h1, h2⟩, Int.toNat_natCast, Int.toNat_natCast]
  exact MO_mB h rfl
/-- the marks of the classes -/
def MSK (D : jD) (m : Nat) (s : Nat → Bool) : Prop := ∀ b, b < 2 ^ m → D 519 b = (if s b = true then 1 else 0)
theorem mskl_loop {a : Nat} (x1 : Int) : ∀ (n c : Nat) (s : Nat → Bool) (D : jD), c + n = 2 ^ Φ.1 → 1 ≤ c → a < 2 ^ Φ.1 → MF Φ D → MSK D Φ.1 s → ∃ D', Vl (d + 4) 263 60 [some (.inr (.inr (some 488))), some (.inl x1), some (.inl (a : Int)), some (.inl (c : Int))] [] (hp (1, ρ) D) = Vl (d + 4) 263 88 [some (.inr (.inr (some 488))), some (.inl x1), some (.inl (a : Int)), some (.inl ((2 ^ Φ.1 : Nat) : Int))] [] (hp (1, ρ) D') ∧ MSK D' Φ.1 (skl Φ a n c s) ∧ ∀ q, q ≠ 519 → D' q = D q
  | 0, c, s, D, hc, h1, ha, hF, hS => by
    have h256 := F_256 hF.1
    have m8 := F_m8 hF.1
    refine ⟨D, ?_, hS, fun _ _ => rfl⟩
    rw [vM_classes_60, mGF m488, hD, hF.2.1, show jshl 1 (Φ.1 : Int) = ((2 ^ Φ.1 : Nat) : Int) from by rw [show (1 : Int) = ((1 : Nat) : Int) from rfl, jshl_n (by omega) (by omega), Nat.one_mul], if_neg (by omega), show c = 2 ^ Φ.1 by omega]
  | n + 1, c, s, D, hc, h1, ha, hF, hS => by
    have h256 := F_256 hF.1
    have m8 := F_m8 hF.1
    have hk : fkn Φ a c < 2 ^ Φ.1 := fm_lt hF.1 (fst_lt hF.1 (by omega))
    obtain ⟨D', q, r, f⟩ := mskl_loop x1 n (c + 1) (fun x => if x = fkn Φ a c then true else s x) (sD D 519 (fkn Φ a c) 1) (by omega) (by omega) ha (MF_cg hF (sD_ne (by decide))) (fun b hb => by
      show (if 519 = 519 ∧ b = fkn Φ a c then (1 : Int) else D 519 b) = (if (if b = fkn Φ a c then true else s b) = true then 1 else 0)
      by_cases e : b = fkn Φ a c
      · rw [if_pos ⟨rfl, e⟩, if_pos e, if_pos rfl]
      · rw [if_neg (fun z => e z.2), if_neg e]; exact hS b hb)
    refine ⟨D', ?_, r, fun q hq => by rw [f q hq, sD_ne hq]⟩
    rw [vM_classes_60, mGF m488, hD, hF.2.1, show jshl 1 (Φ.1 : Int) = ((2 ^ Φ.1 : Nat) : Int) from by rw [show (1 : Int) = ((1 : Nat) : Int) from rfl, jshl_n (by omega) (by omega), Nat.one_mul], if_pos (by omega), vM_classes_70, mGF m488, mGF m488, mr48, mkinOf hF ha (by omega) (by omega), aVC, tlS, vM_classes_80, mBS m519, if_pos (by omega), if_pos (Or.inr rfl), Int.toNat_natCast, w32_s (by omega)]
    exact q
theorem mcsl_loop : ∀ (n a : Nat) (s : Nat → Bool) (k : Nat) (u : Option jv) (D : jD), a + n = 2 ^ Φ.1 → k ≤ a → MF Φ D → MSK D Φ.1 s → ∃ D', Vl (d + 4) 263 33 [some (.inr (.inr (some 488))), some (.inl (k : Int)), some (.inl (a : Int)), u] [] (hp (1, ρ) D) = some ((0, some (.inl (csl Φ n a s k : Int))), hp (1, ρ) D') ∧ ∀ q, q ≠ 519 → D' q = D q
  | 0, a, s, k, u, D, ha, hk, hF, hS => by
    have h256 := F_256 hF.1
    have m8 := F_m8 hF.1
    refine ⟨D, ?_, fun _ _ => rfl⟩
    rw [vM_classes_33, mGF m488, hD, hF.2.1, show jshl 1 (Φ.1 : Int) = ((2 ^ Φ.1 : Nat) : Int) from by rw [show (1 : Int) = ((1 : Nat) : Int) from rfl, jshl_n (by omega) (by omega), Nat.one_mul], if_neg (by omega), vM_classes_94]
    rfl
  | n + 1, a, s, k, u, D, ha, hk, hF, hS => by
    have h256 := F_256 hF.1
    have m8 := F_m8 hF.1
    have e1 := hS a (by omega)
    rw [vM_classes_33, mGF m488, hD, hF.2.1, show jshl 1 (Φ.1 : Int) = ((2 ^ Φ.1 : Nat) : Int) from by rw [show (1 : Int) = ((1 : Nat) : Int) from rfl, jshl_n (by omega) (by omega), Nat.one_mul], if_pos (by omega), vM_classes_43, mGF m488, mr48, mBA m519, if_pos (by omega), Int.toNat_natCast, e1]
    unfold csl
    by_cases h0 : s a = true
    · obtain ⟨D2, q2, f2⟩ := mcsl_loop n (a + 1) s k u D (by omega) (by omega) hF hS
      rw [if_pos h0, if_neg j10, vM_classes_52, vM_classes_88, w32_s (by omega), if_pos h0]
      exact ⟨D2, q2, f2⟩
    · have hpos := F_2 hF.1
      obtain ⟨D1, q1, s1, f1⟩ := mskl_loop (d := d) (ρ := ρ) ((k + 1 : Nat) : Int) (2 ^ Φ.1 - 1) 1 s D (by omega) (Nat.le_refl _) (show a < 2 ^ Φ.1 by omega) hF hS
      obtain ⟨D2, q2, f2⟩ := mcsl_loop n (a + 1) (skl Φ a (2 ^ Φ.1 - 1) 1 s) (k + 1) (some (.inl ((2 ^ Φ.1 : Nat) : Int))) D1 (by omega) (by omega) (MF_cg hF (f1 488 (by decide))) s1
      rw [show ((1 : Nat) : Int) = 1 from rfl] at q1
      rw [if_neg h0, if_pos j00, vM_classes_55, w32_s (by omega), q1, vM_classes_88, w32_s (by omega), if_neg h0]
      exact ⟨D2, q2, fun q hq => by rw [f2 q hq, f1 q hq]⟩
theorem mclasses_op (h : MS D A) : MO ρ D A (oClasses A) (Vl (d + 4) 263 0 [some (.inr (.inr (some 488))), none, none, none] [] (hp (1, ρ) D)) := by
  have hF := mB_MF h
  have h256 := F_256 hF.1
  have m8 := F_m8 hF.1
  unfold oClasses
  have c0 := chain (fun k => Vl (d + 4) 263 8 [some (.inr (.inr (some 488))), some (.inl 0), some (.inl (k : Int)), none] [] (hp (1, ρ) (pDn (mB D A) 519 k (fun _ => 0)))) (2 ^ (aF A).1) (fun k hk => by

    have hFk : MF (aF A) (pDn (mB D A) 519 k (fun _ => 0)) := MF_cg hF (pDn_ne (by decide))
    rw [vM_classes_8, mGF m488, hD, hFk.2.1, show jshl 1 ((aF A).1 : Int) = ((2 ^ (aF A).1 : Nat) : Int) from by rw [show (1 : Int) = ((1 : Nat) : Int) from rfl, jshl_n (by omega) (by omega), Nat.one_mul], if_pos (by omega), vM_classes_18, mGF m488, mr48, mBS m519, if_pos (by omega), if_pos (Or.inl rfl), Int.toNat_natCast, w32_s (by omega), pDn_s rfl])

  rw [pDn_0] at c0
  have hF2 : MF (aF A) (pDn (mB D A) 519 (2 ^ (aF A).1) (fun _ => 0)) := MF_cg hF (pDn_ne (by decide))
  obtain ⟨D2, q2, f2⟩ := mcsl_loop (d := d) (ρ := ρ) (2 ^ (aF A).1) 0 (fun _ => false) 0 none (pDn (mB D A) 519 (2 ^ (aF A).1) (fun _ => 0)) (Nat.zero_add _) (Nat.le_refl _) hF2 (fun b hb => by rw [pDn_lt hb]; rfl)
  rw [show ((0 : Nat) : Int) = 0 from rfl] at c0 q2
  rw [vM_classes_0, mGF m488, mbegin h, aVC, tlN, vM_classes_4, c0, vM_classes_8, mGF m488, hD, hF2.2.1, show jshl 1 ((aF A).1 : Int) = ((2 ^ (aF A).1 : Nat) : Int) from by rw [show (1 : Int) = ((1 : Nat) : Int) from rfl, jshl_n (by omega) (by omega), Nat.one_mul], if_neg (by omega), vM_classes_31, q2]
  exact MO_sc h rfl (fun q hq => by rw [f2 q (by unfold mK at hq; omega), pDn_ne (by unfold mK at hq; omega)])
end MOPS5
