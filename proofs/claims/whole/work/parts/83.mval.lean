/-! THE VALUE AT A NUMBER IS A REST: x works on the numbers -/
section ACT
variable {Φ : gF}
theorem fst_x (h : FOK Φ) {a v w : Nat} (hv : v < 2 ^ Φ.1) (hw : w < 2 ^ Φ.1) : fst_ Φ a (v ^^^ w) = fst_ Φ a v ^^^ fst_ Φ a w := by
  unfold fst_
  rw [ft_x h hv hw, fm_xl, fs_x h hv hw, xr_4]
theorem fst_m (h : FOK Φ) {a f v : Nat} (hf : f < 2 ^ Φ.1) (hv : v < 2 ^ Φ.1) : fst_ Φ a (fm Φ f v) = fm Φ (ft Φ f) (fst_ Φ a v) ^^^ fm Φ (fs Φ f) v := by
  unfold fst_
  rw [ft_m h hf hv, fs_m h hf hv, fm_xr, fm_a h (ft_lt h hf) (ft_lt h hv), xr_a]
theorem fst_0 (a : Nat) : fst_ Φ a 0 = 0 := by unfold fst_; rw [ft_0, fm_0l, fs_0]; rfl
theorem nrm_z (a : Nat) : ∀ k, nrm Φ a 0 k = 0
  | 0 => rfl
  | k + 1 => by unfold nrm; rw [nrm_z a k, fst_0]
theorem apn_z (F : pl) (a : Nat) : ∀ k, apn Φ F a 0 k = 0
  | 0 => rfl
  | k + 1 => by unfold apn; rw [apn_z F a k, nrm_z, fm_0r]; rfl
theorem apn_A (F G : pl) (a r : Nat) : ∀ k, apn Φ (pA F G) a r k = apn Φ F a r k ^^^ apn Φ G a r k
  | 0 => (Nat.xor_self 0).symm
  | k + 1 => by
    show apn Φ (pA F G) a r k ^^^ fm Φ (F k ^^^ G k) _ = (apn Φ F a r k ^^^ fm Φ (F k) _) ^^^ (apn Φ G a r k ^^^ fm Φ (G k) _)
    rw [apn_A F G a r k, fm_xl, xr_4]
theorem apn_M (h : FOK Φ) {c : Nat} (hc : c < 2 ^ Φ.1) {F : pl} (iF : inF Φ F) (a r : Nat) : ∀ k, apn Φ (pM Φ c F) a r k = fm Φ c (apn Φ F a r k)
  | 0 => (fm_0r _ _).symm
  | k + 1 => by
    show apn Φ (pM Φ c F) a r k ^^^ fm Φ (fm Φ c (F k)) _ = fm Φ c (apn Φ F a r k ^^^ fm Φ (F k) _)
    rw [apn_M h hc iF a r k, fm_xr, fm_a h hc (iF k)]
theorem apn_ge {F : pl} {n : Nat} (hd : dle F n) (a r : Nat) : ∀ k, n ≤ k → apn Φ F a r k = apn Φ F a r n
  | 0, h => by rw [Nat.le_zero.mp h]
  | k + 1, h => by
    by_cases e : n = k + 1
    · rw [e]
    · show apn Φ F a r k ^^^ fm Φ (F k) _ = _
      rw [hd k (by omega), fm_0l, Nat.xor_zero]
      exact apn_ge hd a r k (by omega)
theorem apn_S (h : FOK Φ) {F : pl} (iF : inF Φ F) {a r : Nat} (hr : r < 2 ^ Φ.1) : ∀ n, apn Φ (pS Φ F) a r (n + 1) = fst_ Φ a (apn Φ F a r n) ^^^ fm Φ (fs Φ (F n)) (nrm Φ a r n)
  | 0 => by
    show 0 ^^^ fm Φ ((if 0 = 0 then 0 else _) ^^^ fs Φ (F 0)) _ = fst_ Φ a 0 ^^^ _
    rw [fst_0, if_pos rfl]
    simp only [Nat.zero_xor]
  | n + 1 => by
    have ih := apn_S h iF (a := a) hr n
    have hv := nrm_lt (a := a) h hr n
    have e1 : apn Φ (pS Φ F) a r (n + 1 + 1) = apn Φ (pS Φ F) a r (n + 1) ^^^ fm Φ (pS Φ F (n + 1)) (nrm Φ a r (n + 1)) := rfl
    have e2 : pS Φ F (n + 1) = ft Φ (F n) ^^^ fs Φ (F (n + 1)) := by unfold pS; rw [if_neg (by omega), Nat.add_sub_cancel]
    have e3 : fst_ Φ a (apn Φ F a r (n + 1)) = fst_ Φ a (apn Φ F a r n) ^^^ (fm Φ (ft Φ (F n)) (nrm Φ a r (n + 1)) ^^^ fm Φ (fs Φ (F n)) (nrm Φ a r n)) := by
      show fst_ Φ a (apn Φ F a r n ^^^ fm Φ (F n) (nrm Φ a r n)) = _
      rw [fst_x h (apn_lt h iF n) (fm_lt h (iF n)), fst_m h (iF n) hv]; rfl
    rw [e1, ih, e2, e3, fm_xl]
    generalize fst_ Φ a (apn Φ F a r n) = A
    generalize fm Φ (fs Φ (F n)) (nrm Φ a r n) = B
    generalize fm Φ (ft Φ (F n)) (nrm Φ a r (n + 1)) = C
    generalize fm Φ (fs Φ (F (n + 1))) (nrm Φ a r (n + 1)) = E
    rw [xr_a, xr_a, xr_a, xr_l B C E]
theorem apn_Si (h : FOK Φ) {G : pl} (iG : inF Φ G) {g : Nat} (dG : dle G g) {a r : Nat} (hr : r < 2 ^ Φ.1) : ∀ k, apn Φ (pSi Φ k G) a r (g + k) = nrm Φ a (apn Φ G a r g) k
  | 0 => rfl
  | k + 1 => by
    have iS := pSi_in h iG k
    have := apn_S h iS (a := a) hr (g + k)
    show apn Φ (pS Φ (pSi Φ k G)) a r (g + k + 1) = fst_ Φ a (nrm Φ a (apn Φ G a r g) k)
    rw [this, pSi_dle dG k (g + k) (Nat.le_refl _), fs_0, fm_0l, Nat.xor_zero, apn_Si h iG dG hr k]
/-- a product works as one behind the other -/
theorem apn_P (h : FOK Φ) {F G : pl} (iF : inF Φ F) (iG : inF Φ G) {g : Nat} (dG : dle G g) {a r : Nat} (hr : r < 2 ^ Φ.1) : ∀ n N, g + n ≤ N → apn Φ (pP Φ n F G) a r N = apn Φ F a (apn Φ G a r g) n
  | 0, N, _ => by
    show apn Φ p0 a r N = 0
    rw [apn_ge (F := p0) (n := 0) (fun _ _ => rfl) a r N (Nat.zero_le _)]; rfl
  | n + 1, N, hN => by
    show apn Φ (pA (pP Φ n F G) (pM Φ (F n) (pSi Φ n G))) a r N = apn Φ F a (apn Φ G a r g) n ^^^ fm Φ (F n) (nrm Φ a (apn Φ G a r g) n)
    rw [apn_A, apn_P h iF iG dG hr n N (by omega), apn_M h (iF n) (pSi_in h iG n), apn_ge (pSi_dle dG n) a r N (by omega), apn_Si h iG dG hr]
theorem app_ge {F : pl} (dF : dle F 17) (a r : Nat) {N : Nat} (hN : sz F ≤ N) : app Φ F a r = apn Φ F a r N := (apn_ge (sz_dle dF) a r N hN).symm
theorem app_17 {F : pl} (dF : dle F 17) (a r : Nat) : app Φ F a r = apn Φ F a r 17 := app_ge dF a r (sz_le F)
theorem fst_1 (h : FOK Φ) {a : Nat} (ha : a < 2 ^ Φ.1) : fst_ Φ a 1 = a := by
  unfold fst_ fs
  rw [show ft Φ 1 = 1 from gsn_1 _ _ _, Nat.xor_self, fm_0r, Nat.xor_zero, fm_1l h ha]
theorem lin_in (h : FOK Φ) {a : Nat} (ha : a < 2 ^ Φ.1) : inF Φ (lin a) := fun c => by
  unfold lin
  split
  · exact ha
  · exact mono_in (one_lt h) 1 c
theorem lin_dle (a : Nat) : dle (lin a) 2 := fun c hc => by
  unfold lin mono
  rw [if_neg (by omega), if_neg (by omega)]
theorem lin_sz (a : Nat) : sz (lin a) = 2 := sz_of (s := 1) (by decide) (by unfold lin mono; rw [if_neg (by decide), if_pos rfl]; exact Nat.one_ne_zero) (lin_dle a)
theorem lin_0 (h : FOK Φ) {a : Nat} (ha : a < 2 ^ Φ.1) : apn Φ (lin a) a 1 2 = 0 := by
  show (0 ^^^ fm Φ (lin a 0) 1) ^^^ fm Φ (lin a 1) (fst_ Φ a 1) = 0
  rw [fst_1 h ha, show lin a 0 = a from if_pos rfl, show lin a 1 = 1 from by unfold lin mono; rw [if_neg (by decide), if_pos rfl], fm_1r, fm_1l h ha, Nat.zero_xor, Nat.xor_self]
/-- the rest of f by x + a, from the right, is f's value at a -/
theorem rest_app (h : FOK Φ) {F : pl} (oF : pOK Φ F) {a : Nat} (ha : a < 2 ^ Φ.1) : (dvd Φ 0 F (lin a)).2 0 = app Φ F a 1 := by
  have dl : dle (lin a) 17 := dle_mono (lin_dle a) (by decide)
  obtain ⟨e1, e2, e3, e4, e5, -⟩ := dvd_fact h (side := 0) oF.1 (lin_in h ha) oF.2 dl (n := 1) (lin_sz a)
  have h1 := one_lt h
  have z : apn Φ (pB Φ 0 (dvd Φ 0 F (lin a)).1 (lin a)) a 1 40 = 0 := by
    unfold pB
    rw [if_neg (by decide), apn_P h e1 (lin_in h ha) (lin_dle a) h1 17 40 (by decide), lin_0 h ha, apn_z]
  have z2 : apn Φ (dvd Φ 0 F (lin a)).2 a 1 40 = (dvd Φ 0 F (lin a)).2 0 := by
    rw [apn_ge e4 a 1 40 (by decide)]
    show 0 ^^^ fm Φ ((dvd Φ 0 F (lin a)).2 0) 1 = _
    rw [Nat.zero_xor, fm_1r]
  have z3 : apn Φ F a 1 40 = apn Φ (pA (pB Φ 0 (dvd Φ 0 F (lin a)).1 (lin a)) (dvd Φ 0 F (lin a)).2) a 1 40 := congrArg (fun G => apn Φ G a 1 40) e5.symm
  rw [app_ge oF.2 a 1 (N := 40) (by have := sz_le F; omega), z3, apn_A, z, z2, Nat.zero_xor]
end ACT
section MVAL
variable {ρ : jr2} {D D' : jD} {d : Nat} {Φ : gF} {A : aA}
/-- the value of the polynomial in 511 at a -/
theorem mvalueAt (hF : MF Φ D) {F : pl} (RF : PR D 511 F) (oF : pOK Φ F) {a : Nat} (ha : a < 2 ^ Φ.1) : ∃ D', Vl (d + 7) 257 0 [some (.inr (.inr (some 488))), some (.inl (a : Int))] [] (hp (1, ρ) D) = some ((0, some (.inl (app Φ F a 1 : Int))), hp (1, ρ) D') ∧ ∀ q, (q < 497 ∨ 512 < q ∨ q = 511) → D' q = D q := by
  have q1 := mclear (d := d + 6) (ρ := ρ) (D := D) m512 (by decide) (by decide)
  obtain ⟨D1, hD1⟩ : ∃ D1, D1 = sD (sD (pD D 512 (rI p0)) 512 1 1) 512 0 (a : Int) := ⟨_, rfl⟩
  have f1 : ∀ q, q ≠ 512 → D1 q = D q := fun q hq => by rw [hD1, sD_ne hq, sD_ne hq, pD_ne hq]
  have R1 : PR D1 512 (lin a) := by
    have e : D1 = pD D 512 (rI (fun b => if b = 0 then a else if b = 1 then 1 else p0 b)) := by
      rw [hD1, show (1 : Int) = ((1 : Nat) : Int) from rfl, sD_pD (by decide), sD_pD (by decide)]
    rw [e]
    exact pD_PR
  have dl : dle (lin a) 17 := dle_mono (lin_dle a) (by decide)
  obtain ⟨D2, q2, r1, r2, f2⟩ := mdivide (d := d) (ρ := ρ) (MF_cg hF (f1 488 (by decide))) (side := 0) (by decide) (cf := 511) (cg := 512) (cq := 504) (cr := 505) ⟨m511, by decide, by decide⟩ ⟨m512, by decide, by decide⟩ ⟨m504, by decide, by decide⟩ ⟨m505, by decide, by decide⟩ (by decide) (by decide) (by decide) (by decide) (PR_ne (f1 511 (by decide)) RF) R1 oF ⟨lin_in hF.1 ha, dl⟩ (by rw [lin_sz]; decide)
  refine ⟨D2, ?_, fun q hq => by rw [f2 q (by omega) (by omega) (by omega), f1 q (by omega)]⟩
  rw [show ((0 : Nat) : Int) = 0 from rfl] at q2
  rw [vM_valueAt_0, mGF m488, mr29, q1, aVC, tlN, vM_valueAt_7, mGF m488, mr29, mIS m512, if_pos (by decide), mGF m488, mr29, mIS m512, if_pos (by decide), show (1 : Int).toNat = 1 from rfl, show (0 : Int).toNat = 0 from rfl, ← hD1]
  simp only [mGF m488, mr21, mr22, mr28, mr29]
  rw [q2, aVC, tlN, vM_valueAt_42, mGF m488, mr22, mIA m505, if_pos (by decide), show (0 : Int).toNat = 0 from rfl, r2 0 (by decide), rest_app hF.1 oF ha]
theorem mapplied (hF : MF Φ D) {c : Nat} (kc : KM c (1, 17)) {F : pl} (RF : PR D c F) (oF : pOK Φ F) {a r : Nat} (ha : a < 2 ^ Φ.1) (hr : r < 2 ^ Φ.1) : Vl (d + 3) 259 0 [some (.inr (.inr (some 488))), some (.inr (.inr (some c))), some (.inl (a : Int)), some (.inl (r : Int)), none, none, none] [] (hp (1, ρ) D) = some ((0, some (.inl (app Φ F a r : Int))), hp (1, ρ) D) := by
  have h256 := F_256 hF.1
  have c0 := chain (fun k => Vl (d + 3) 259 9 [some (.inr (.inr (some 488))), some (.inr (.inr (some c))), some (.inl (a : Int)), some (.inl (r : Int)), some (.inl (apn Φ F a r k : Int)), some (.inl (nrm Φ a r k : Int)), some (.inl (k : Int))] [] (hp (1, ρ) D)) 17 (fun k hk => by

    have hv := nrm_lt (a := a) hF.1 hr k
    have hs := apn_lt (a := a) (r := r) hF.1 oF.1 k
    have l1 := fm_lt (b := nrm Φ a r k) hF.1 (oF.1 k)
    have l2 := ft_lt hF.1 hv
    have l3 := fm_lt (b := a) hF.1 l2
    have l4 := fs_lt hF.1 (nrm Φ a r k)
    have q1 := mturn (d := d + 1) (ρ := ρ) hF hv (n := 1) (by decide)
    rw [show fT Φ 1 (nrm Φ a r k) = ft Φ (nrm Φ a r k) from by unfold fT ft; rw [Nat.mul_one], show ((1 : Nat) : Int) = 1 from rfl] at q1
    rw [vM_appliedTo_9, if_pos (by omega), vM_appliedTo_16, mIA kc, if_pos (by omega), Int.toNat_natCast, RF k hk, mGF m488, mmul hF (oF.1 k) hv, aVC, tlS, vM_appliedTo_28, mGF m488, q1, aVC, tlS, jxor_n (by omega) (by omega), vM_appliedTo_39, mGF m488, mmul hF l2 ha, aVC, tlS, vM_appliedTo_43, mGF m488, mslope hF hv, aVC, tlS, vM_appliedTo_49, jxor_n (by omega) (by omega), w32_s (by omega)]
    rfl)

  rw [vM_appliedTo_0]
  refine c0.trans ?_
  rw [vM_appliedTo_9, if_neg (by omega), vM_appliedTo_58, app_17 oF.2]
theorem mvalue_op (h : MS D A) (i a : Int) : MO ρ D A (oValue A i a) (Vl (d + 8) 256 0 [some (.inr (.inr (some 488))), some (.inl i), some (.inl a)] [] (hp (1, ρ) D)) := by
  have hB := mB_MS h
  have hF := mB_MF h
  unfold oValue
  rw [vM_value_0, mGF m488, mbegin h, aVC, tlN, vM_value_4, mGF m488, misName hB, aVC, tlS, vM_value_9]
  by_cases h1 : aN A i
  rotate_left
  · rw [if_neg h1, if_pos j00, vM_value_20, if_neg (fun z => h1 z.1)]
    exact MO_mB h rfl
  rw [if_pos h1, if_neg j10, vM_value_12, mGF m488, misNum hF, aVC, tlS, vM_value_17]
  by_cases h2 : 0 ≤ a ∧ a < ((2 ^ (aF A).1 : Nat) : Int)
  rotate_left
  · rw [if_neg h2, if_pos j00, vM_value_20, if_neg (fun z => h2 z.2)]
    exact MO_mB h rfl
  obtain ⟨p1, p2, -⟩ := MS_nm hB h1
  obtain ⟨x, rfl⟩ := Int.eq_ofNat_of_zero_le h2.1
  obtain ⟨D2, q2, f2⟩ := mvalueAt (d := d) (ρ := ρ) (D := pD (mB D A) 511 (rI (an A i))) (MF_cg hF (pD_ne (by decide))) pD_PR p2 (a := x) (by omega)
  rw [if_pos h2, if_neg j10, if_pos (show aN A i ∧ _ from ⟨h1, h2⟩), vM_value_22, mGF m488, mGF m488, mr28, mtake hB h1 m511 (by decide), aVC, tlN, vM_value_31, mGF m488, q2, aVC, tlS, vM_value_36, Int.toNat_natCast]
  exact MO_sc h rfl (fun q hq => by rw [f2 q (by unfold mK at hq; omega), pD_ne (by unfold mK at hq; omega)])
theorem mapplied_op (h : MS D A) (i a b : Int) : MO ρ D A (oApplied A i a b) (Vl (d + 4) 258 0 [some (.inr (.inr (some 488))), some (.inl i), some (.inl a), some (.inl b)] [] (hp (1, ρ) D)) := by
  have hB := mB_MS h
  have hF := mB_MF h
  unfold oApplied
  rw [vM_applied_0, mGF m488, mbegin h, aVC, tlN, vM_applied_4, mGF m488, misName hB, aVC, tlS, vM_applied_9]
  by_cases h1 : aN A i
  rotate_left
  · rw [if_neg h1, if_pos j00, vM_applied_28, if_neg (fun z => h1 z.1)]
    exact MO_mB h rfl
  rw [if_pos h1, if_neg j10, vM_applied_12, mGF m488, misNum hF, aVC, tlS, vM_applied_17]
  by_cases h2 : 0 ≤ a ∧ a < ((2 ^ (aF A).1 : Nat) : Int)
  rotate_left
  · rw [if_neg h2, if_pos j00, vM_applied_28, if_neg (fun z => h2 z.2.1)]
    exact MO_mB h rfl
  rw [if_pos h2, if_neg j10, vM_applied_20, mGF m488, misNum hF, aVC, tlS, vM_applied_25]
  by_cases h3 : 0 ≤ b ∧ b < ((2 ^ (aF A).1 : Nat) : Int)
  rotate_left
  · rw [if_neg h3, if_pos j00, vM_applied_28, if_neg (fun z => h3 z.2.2)]
    exact MO_mB h rfl
  obtain ⟨p1, p2, -⟩ := MS_nm hB h1
  obtain ⟨x, rfl⟩ := Int.eq_ofNat_of_zero_le h2.1
  obtain ⟨y, rfl⟩ := Int.eq_ofNat_of_zero_le h3.1
  have q2 := mapplied (d := d) (ρ := ρ) (D := pD (mB D A) 511 (rI (an A i))) (MF_cg hF (pD_ne (by decide))) m511 pD_PR p2 (a := x) (r := y) (by omega) (by omega)
  rw [if_pos h3, if_neg j10, if_pos (show aN A i ∧ _ from ⟨h1, h2, h3⟩), vM_applied_30, mGF m488, mGF m488, mr28, mtake hB h1 m511 (by decide), aVC, tlN, vM_applied_39, mGF m488, mGF m488, mr28, q2, aVC, tlS, vM_applied_49, Int.toNat_natCast, Int.toNat_natCast]
  exact MO_sc h rfl (fun q hq => pD_ne (by unfold mK at hq; omega))
end MVAL
