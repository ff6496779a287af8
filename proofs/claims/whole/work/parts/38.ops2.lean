/-! THE CLASS'S METHODS over polynomials and places -/
def rset (r : Nat → pl) (k : Nat) (F : pl) : Nat → pl := fun q => if q = k then F else r q
abbrev aN (A : aA) (i : Int) : Prop := 0 ≤ i ∧ i < (tN (AT A) : Int)
abbrev an (A : aA) (i : Int) : pl := tn (AT A) i.toNat
abbrev aF (A : aA) : gF := tF (AT A)
def oMakes (A : aA) (i j w : Int) : Int × aA := if (aN A i ∧ aN A j) ∧ 0 ≤ w ∧ w ≤ 1 then (if w = 0 then ((sz (pA (an A i) (an A j)) : Int) - 1, aRes A (rset (Ar A) 0 (pA (an A i) (an A j)))) else if sz (an A i) ≠ 0 ∧ sz (an A j) ≠ 0 ∧ 18 < sz (an A i) + sz (an A j) then (-2, A) else ((sz (pJ (aF A) 0 (an A i) (an A j)) : Int) - 1, aRes A (rset (Ar A) 0 (pJ (aF A) 0 (an A i) (an A j))))) else (-2, A)
def oDivides (A : aA) (i j s : Int) : Int × aA := if (aN A i ∧ aN A j) ∧ (s = 0 ∨ s = 1) then (if sz (an A j) = 0 then (-2, A) else ((sz (dvd (aF A) s.toNat (an A i) (an A j)).2 : Int) - 1, aRes A (rset (rset (Ar A) 0 (dvd (aF A) s.toNat (an A i) (an A j)).1) 1 (dvd (aF A) s.toNat (an A i) (an A j)).2))) else (-2, A)
def cPart (Φ : gF) (s : Nat) (S : eS) : pl := pSc Φ s (mnum Φ s S.1) S.1
def oCommon (A : aA) (i j s : Int) : Int × aA := if (aN A i ∧ aN A j) ∧ (s = 0 ∨ s = 1) then ((sz (cPart (aF A) s.toNat (ceul (aF A) s.toNat (an A i) (an A j))) : Int) - 1, aRes A (if s = 0 then rset (rset (rset (Ar A) 0 (cPart (aF A) s.toNat (ceul (aF A) s.toNat (an A i) (an A j)))) 2 (pSc (aF A) 0 (mnum (aF A) 0 (ceul (aF A) 0 (an A i) (an A j)).1) (ceul (aF A) 0 (an A i) (an A j)).2.2.1)) 3 (pSc (aF A) 0 (mnum (aF A) 0 (ceul (aF A) 0 (an A i) (an A j)).1) (ceul (aF A) 0 (an A i) (an A j)).2.2.2.2.1) else rset (Ar A) 0 (cPart (aF A) s.toNat (ceul (aF A) s.toNat (an A i) (an A j))))) else (-2, A)
def cMul (Φ : gF) (s : Nat) (F G : pl) : pl := pSc Φ s (mnum Φ s (cmul Φ s F G (ceul Φ s F G))) (cmul Φ s F G (ceul Φ s F G))
def oMultiple (A : aA) (i j s : Int) : Int × aA := if (aN A i ∧ aN A j) ∧ (s = 0 ∨ s = 1) then (if cfit (an A i) (an A j) (ceul (aF A) s.toNat (an A i) (an A j)).1 = true then ((sz (cMul (aF A) s.toNat (an A i) (an A j)) : Int) - 1, aRes A (rset (Ar A) 0 (cMul (aF A) s.toNat (an A i) (an A j)))) else (-2, A)) else (-2, A)
def oKeep (A : aA) (i k : Int) : Int × aA := if aN A i ∧ (0 ≤ k ∧ k < 4) ∧ hAll (rI (Ar A k.toNat)) ((2 ^ (aF A).1 : Nat) : Int) 0 17 = true then (1, aNow A (tPut (tRem (AT A) i.toNat) i.toNat (Ar A k.toNat))) else (0, A)
def oWord (A : aA) (i p : Int) : Int := if aN A i ∧ 0 ≤ p ∧ p < (tP (AT A) : Int) then (app (aF A) (an A i) 1 (tp (AT A) p.toNat) : Int) else -1
def aImg (A : aA) (k : Nat) : aA := (Al A, At A, AT A, (fun q => if q = k then true else Ai A q), (fun q => if q = k then AT A else AI A q), Ar A, Af A, Ag A, AG A)
def oImage (A : aA) (k : Int) : Int × aA := if 0 ≤ k ∧ k < 2 then (1, aImg A k.toNat) else (0, A)
def oRestore (A : aA) (k : Int) : Int × aA := if (0 ≤ k ∧ k < 2) ∧ Ai A k.toNat = true then (1, aNow A (AI A k.toNat)) else (0, A)
def oCount (A : aA) (w : Int) : Int := if w = 0 then ((aF A).1 : Int) else if w = 1 then ((aF A).2.1 : Int) else if w = 2 then ((aF A).2.2.1 : Int) else if w = 3 then ((aF A).2.2.2 : Int) else if w = 4 then (rd (aF A) : Int) else if w = 5 then (tN (AT A) : Int) else if w = 6 then (tP (AT A) : Int) else if w = 7 then (tU (AT A) : Int) else if w = 8 then (Al A : Int) else -1
def oTap (A : aA) (i : Int) : Int := if 1 ≤ i ∧ i ≤ (Ag A : Int) then (AG A i.toNat : Int) else -1
def rtl (Φ : gF) (F : pl) (k : Int) : Nat → Nat → Nat → Int
  | 0, _, f => if k = -1 then (f : Int) else -1
  | n + 1, a, f => if app Φ F a 1 = 0 then (if (f : Int) = k then (a : Int) else rtl Φ F k n (a + 1) (f + 1)) else rtl Φ F k n (a + 1) f
def oRoots (A : aA) (i k : Int) : Int := if aN A i ∧ -1 ≤ k then rtl (aF A) (an A i) k (2 ^ (aF A).1) 0 0 else -1
def knl (Φ : gF) (a b : Nat) : Nat → Nat → Int
  | 0, _ => -1
  | n + 1, c => if fkn Φ a c = b then (c : Int) else knl Φ a b n (c + 1)
def oKin (A : aA) (a b : Int) : Int := if (0 ≤ a ∧ a < ((2 ^ (aF A).1 : Nat) : Int)) ∧ 0 ≤ b ∧ b < ((2 ^ (aF A).1 : Nat) : Int) then knl (aF A) a.toNat b.toNat (2 ^ (aF A).1 - 1) 1 else -1
def skl (Φ : gF) (a : Nat) : Nat → Nat → (Nat → Bool) → (Nat → Bool)
  | 0, _, s => s
  | n + 1, c, s => skl Φ a n (c + 1) (fun x => if x = fkn Φ a c then true else s x)
def csl (Φ : gF) : Nat → Nat → (Nat → Bool) → Nat → Nat
  | 0, _, _, k => k
  | n + 1, a, s, k => if s a = true then csl Φ n (a + 1) s k else csl Φ n (a + 1) (skl Φ a (2 ^ Φ.1 - 1) 1 s) (k + 1)
def oClasses (A : aA) : Int := (csl (aF A) (2 ^ (aF A).1) 0 (fun _ => false) 0 : Int)
theorem hAll_congr {r r' : Nat → Int} (q : Int) : ∀ n i, (∀ b, i ≤ b → b < i + n → r b = r' b) → hAll r q i n = hAll r' q i n
  | 0, _, _ => rfl
  | n + 1, i, h => by
    unfold hAll
    rw [h i (by omega) (by omega), hAll_congr q n (i + 1) (fun b h1 h2 => h b (by omega) (by omega))]
theorem hAll_iff {r : Nat → Int} {q : Int} : ∀ n i, hAll r q i n = true ↔ ∀ b, i ≤ b → b < i + n → 0 ≤ r b ∧ r b < q
  | 0, i => ⟨fun _ b h1 h2 => absurd h2 (by omega), fun _ => rfl⟩
  | n + 1, i => by
    unfold hAll
    rw [Bool.and_eq_true, Bool.and_eq_true, decide_eq_true_eq, decide_eq_true_eq, hAll_iff n (i + 1)]
    refine ⟨fun h b h1 h2 => ?_, fun h => ⟨h i (by omega) (by omega), fun b h1 h2 => h b (by omega) (by omega)⟩⟩
    by_cases hb : b = i
    · rw [hb]; exact h.1
    · exact h.2 b (by omega) (by omega)
theorem ceul_OK {Φ : gF} (h : FOK Φ) {s : Nat} {F G : pl} (oF : pOK Φ F) (oG : pOK Φ G) : eOK Φ (sz F) (sz G) (ceul Φ s F G) := eul_OK h (sz_le F) (sz_le G) 19 _ (eS0_OK h oF oG)
section OPS2
variable {ω : jw} {D : jD} {d : Nat} {A : aA}
theorem isSide_spec {s : Int} : Vl d 93 0 [some (.inl s)] [] (hp ω D) = some ((0, some (.inl (if s = 0 ∨ s = 1 then 1 else 0))), hp ω D) := by
  rw [vC_isSide_0]
  by_cases h0 : s = 0
  · rw [if_pos h0, vC_isSide_9, vC_isSide_14, if_pos (Or.inl h0)]; rfl
  rw [if_neg h0, vC_isSide_4]
  by_cases h1 : s = 1
  · rw [if_pos h1, vC_isSide_9, vC_isSide_14, if_pos (Or.inr h1)]; rfl
  · rw [if_neg h1, vC_isSide_13, vC_isSide_14, if_neg (by omega)]; rfl
theorem rset_ok {D' : jD} {r : Nat → pl} {k : Nat} {F : pl} (hk : k < 4) (oF : pO8 F) (RF : PR D' (68 + 2 * k) F) (hr : ∀ q, q < 4 → q ≠ k → pO8 (r q) ∧ PR D' (68 + 2 * q) (r q)) : ∀ q, q < 4 → pO8 (rset r k F q) ∧ PR D' (68 + 2 * q) (rset r k F q) := fun q hq => by
  unfold rset
  by_cases h : q = k
  · rw [if_pos h, h]; exact ⟨oF, RF⟩
  · rw [if_neg h]; exact hr q hq h
theorem CS_nm (h : CS D A) {i : Int} (h1 : aN A i) : isP (5 + 2 * i.toNat) ∧ PR D (5 + 2 * i.toNat + 1) (an A i) ∧ pOK (aF A) (an A i) ∧ i.toNat < 12 := by
  have h12 := h.2.1.2.1
  have h2 : i.toNat < tN (AT A) := by have := h1.1; have := h1.2; omega
  obtain ⟨p1, p2, p3⟩ := CS_names h h2
  exact ⟨p1, p2, p3, by omega⟩
theorem makes_op (h : CS D A) (i j w : Int) : ∃ D', Vl (d + 3) 91 0 [some (.inr (.inr (some 0))), some (.inl i), some (.inl j), some (.inl w), none, none] [] (hp ω D) = some ((0, some (.inl (oMakes A i j w).1)), hp ω D') ∧ CS D' (oMakes A i j w).2 ∧ ∀ q, 488 ≤ q → D' q = D q := by
  have hF := h.2.2.2.1
  unfold oMakes
  have st : Vl (d + 3) 91 0 [some (.inr (.inr (some 0))), some (.inl i), some (.inl j), some (.inl w), none, none] [] (hp ω D) = Vl (d + 3) 91 18 [some (.inr (.inr (some 0))), some (.inl i), some (.inl j), some (.inl w), some (.inr (.inr (if aN A i then some (5 + 2 * i.toNat) else none))), none] [.inr (.inr (if aN A j then some (5 + 2 * j.toNat) else none))] (hp ω D) := by
    simp only [vC_makes_0, aGF kC, rC_0, rC_1, rC_2, rC_3, rC_4, rC_5, rC_6, rC_7, rC_8, rC_9, rC_10, rC_11, rC_12, aGF kA, rA_0, aGF (kT tT_3), aGF (kK tK_75), aGF (kF tF_76), q75_0, q75_1, q75_2, q75_3, q75_4, q75_6, q75_7, q75_8, q75_9, q75_10, q75_11, q75_12, q75_13, q75_14, q75_15, q75_16, aGF (kP i67), aGF (kP i69), aGF (kP i71), aGF (kP i73), aGF (kP i363), aGF (kP i81), aGF (kP i83), aGF (kP i85), aGF (kP i87), aGF (kP i89), aGF (kP i91), aGF (kP i93), aGF (kP i95), aGF (kP i97), aGF (kP i99), aGF (kP i101), aGF (kP i103), aGF (kP i105), aGF (kP i107), aGF (kP i109), named3 h, aVC, tlS, tlN, aLt, hwD, vC_makes_8]
  rw [st, vC_makes_18]
  by_cases h1 : aN A i
  rotate_left
  · rw [if_neg h1, if_neg (show ¬ ((aN A i ∧ aN A j) ∧ 0 ≤ w ∧ w ≤ 1) from fun q => h1 q.1.1)]
    refine ⟨D, ?_, h, fun _ _ => rfl⟩
    show Vl (d + 3) 91 39 _ [] _ = _
    rw [vC_makes_39]
  rw [if_pos h1]
  show ∃ D', Vl (d + 3) 91 25 _ [] _ = _ ∧ _
  rw [vC_makes_25]
  by_cases h2 : aN A j
  rotate_left
  · rw [if_neg h2, if_neg (show ¬ ((aN A i ∧ aN A j) ∧ 0 ≤ w ∧ w ≤ 1) from fun q => h2 q.1.2)]
    refine ⟨D, ?_, h, fun _ _ => rfl⟩
    show Vl (d + 3) 91 39 _ [] _ = _
    rw [vC_makes_39]
  rw [if_pos h2]
  show ∃ D', Vl (d + 3) 91 30 _ [] _ = _ ∧ _
  rw [vC_makes_30]
  by_cases h3 : w < 0
  · rw [if_pos h3, if_neg (by omega)]
    exact ⟨D, by rw [vC_makes_39], h, fun _ _ => rfl⟩
  rw [if_neg h3, vC_makes_34]
  by_cases h4 : 1 < w
  · rw [if_pos h4, if_neg (by omega)]
    exact ⟨D, by rw [vC_makes_39], h, fun _ _ => rfl⟩
  rw [if_neg h4, if_pos ⟨⟨h1, h2⟩, by omega, by omega⟩, vC_makes_42]
  obtain ⟨p1, p2, p3, hi⟩ := CS_nm h h1
  obtain ⟨r1, r2, r3, hj⟩ := CS_nm h h2
  by_cases h5 : w = 0
  · rw [if_pos h5, if_pos h5]
    have q1 := copyF (ω := ω) (d := d + 2) i363 p1 p2
    have q2 := addF (ω := ω) (D := pD D (363 + 1) (rI (an A i))) (d := d + 2) hF.1 i363 r1 pD_PR (PR_ne (pD_ne (by omega)) r2) p3.1 r3.1
    obtain ⟨D2, hD2⟩ : ∃ D2, D2 = pD (pD D (363 + 1) (rI (an A i))) (363 + 1) (rI (pA (an A i) (an A j))) := ⟨_, rfl⟩
    have R2 : PR D2 (363 + 1) (pA (an A i) (an A j)) := by rw [hD2]; exact pD_PR
    have q3 := copyF (ω := ω) (d := d + 2) i67 i363 R2
    have q4 := topF (ω := ω) (D := pD D2 (67 + 1) (rI (pA (an A i) (an A j)))) (d := d + 2) i67 pD_PR
    rw [← hD2] at q2
    have fr : ∀ c, c ≠ 364 → c ≠ 68 → pD D2 (67 + 1) (rI (pA (an A i) (an A j))) c = D c := fun c h6 h7 => by rw [pD_ne (by omega), hD2, pD_ne (by omega), pD_ne (by omega)]
    have o3 : pOK (aF A) (pA (an A i) (an A j)) := ⟨pA_in p3.1 r3.1, pA_dle p3.2 r3.2⟩
    refine ⟨pD D2 (67 + 1) (rI (pA (an A i) (an A j))), ?_, CS_keep h (fun c hc => fr c (by unfold kept at hc; omega) (by unfold kept at hc; omega)) (rset_ok (by decide) (pOK_8 hF.1 o3) pD_PR (fun q hq hne => ⟨(h.2.2.2.2.2.1 q hq).1, PR_ne (fr _ (by omega) (by omega)) (h.2.2.2.2.2.1 q hq).2⟩)), fun q hq => fr q (by omega) (by omega)⟩
    simp only [vC_makes_46, aGF kC, rC_0, rC_1, rC_2, rC_3, rC_4, rC_5, rC_6, rC_7, rC_8, rC_9, rC_10, rC_11, rC_12, aGF kA, rA_0, aGF (kT tT_3), aGF (kK tK_75), aGF (kF tF_76), q75_0, q75_1, q75_2, q75_3, q75_4, q75_6, q75_7, q75_8, q75_9, q75_10, q75_11, q75_12, q75_13, q75_14, q75_15, q75_16, aGF (kP i67), aGF (kP i69), aGF (kP i71), aGF (kP i73), aGF (kP i363), aGF (kP i81), aGF (kP i83), aGF (kP i85), aGF (kP i87), aGF (kP i89), aGF (kP i91), aGF (kP i93), aGF (kP i95), aGF (kP i97), aGF (kP i99), aGF (kP i101), aGF (kP i103), aGF (kP i105), aGF (kP i107), aGF (kP i109), q1, aVC, tlS, tlN, aLt, hwD, vC_makes_55, q2, vC_makes_64, vC_makes_88, aR0, q3, vC_makes_101, q4, vC_makes_110]
  · rw [if_neg h5, if_neg h5]
    by_cases h6 : sz (an A i) ≠ 0 ∧ sz (an A j) ≠ 0 ∧ 18 < sz (an A i) + sz (an A j)
    · rw [if_pos h6]
      have q1 := multiply_no (ω := ω) (d := d) (out := 363) tK_75 p1 r1 p2 r2 h6.1 h6.2.1 h6.2.2
      refine ⟨D, ?_, h, fun _ _ => rfl⟩
      simp only [vC_makes_67, aGF kC, rC_0, rC_1, rC_2, rC_3, rC_4, rC_5, rC_6, rC_7, rC_8, rC_9, rC_10, rC_11, rC_12, aGF kA, rA_0, aGF (kT tT_3), aGF (kK tK_75), aGF (kF tF_76), q75_0, q75_1, q75_2, q75_3, q75_4, q75_6, q75_7, q75_8, q75_9, q75_10, q75_11, q75_12, q75_13, q75_14, q75_15, q75_16, aGF (kP i67), aGF (kP i69), aGF (kP i71), aGF (kP i73), aGF (kP i363), aGF (kP i81), aGF (kP i83), aGF (kP i85), aGF (kP i87), aGF (kP i89), aGF (kP i91), aGF (kP i93), aGF (kP i95), aGF (kP i97), aGF (kP i99), aGF (kP i101), aGF (kP i103), aGF (kP i105), aGF (kP i107), aGF (kP i109), q1, aVC, tlS, tlN, aLt, hwD]
      rw [vC_makes_82, if_pos rfl, vC_makes_85]
    · rw [if_neg h6]
      obtain ⟨D2, q2, R2, f2⟩ := multiply_spec (ω := ω) (d := d) tK_75 hF p1 r1 i363 (by omega) (by omega) (by omega) (by omega) p2 r2 p3 r3 (by omega)
      have q3 := copyF (ω := ω) (d := d + 2) i67 i363 R2
      have q4 := topF (ω := ω) (D := pD D2 (67 + 1) (rI (pJ (aF A) 0 (an A i) (an A j)))) (d := d + 2) i67 pD_PR
      have fr : ∀ c, c ≠ 92 → c ≠ 94 → c ≠ 364 → c ≠ 68 → pD D2 (67 + 1) (rI (pJ (aF A) 0 (an A i) (an A j))) c = D c := fun c h6 h7 h8 h9 => by rw [pD_ne (by omega), f2 c (by omega) (by omega) (by omega)]
      have o3 : pOK (aF A) (pJ (aF A) 0 (an A i) (an A j)) := ⟨pJ_in hF.1 p3.1 r3.1, pJ_dle p3.2 r3.2 17 (by have := sz_le (an A i); have := sz_le (an A j); omega)⟩
      refine ⟨_, ?_, CS_keep h (fun c hc => fr c (by unfold kept at hc; omega) (by unfold kept at hc; omega) (by unfold kept at hc; omega) (by unfold kept at hc; omega)) (rset_ok (by decide) (pOK_8 hF.1 o3) pD_PR (fun q hq hne => ⟨(h.2.2.2.2.2.1 q hq).1, PR_ne (fr _ (by omega) (by omega) (by omega) (by omega)) (h.2.2.2.2.2.1 q hq).2⟩)), fun q hq => fr q (by omega) (by omega) (by omega) (by omega)⟩
      simp only [vC_makes_67, aGF kC, rC_0, rC_1, rC_2, rC_3, rC_4, rC_5, rC_6, rC_7, rC_8, rC_9, rC_10, rC_11, rC_12, aGF kA, rA_0, aGF (kT tT_3), aGF (kK tK_75), aGF (kF tF_76), q75_0, q75_1, q75_2, q75_3, q75_4, q75_6, q75_7, q75_8, q75_9, q75_10, q75_11, q75_12, q75_13, q75_14, q75_15, q75_16, aGF (kP i67), aGF (kP i69), aGF (kP i71), aGF (kP i73), aGF (kP i363), aGF (kP i81), aGF (kP i83), aGF (kP i85), aGF (kP i87), aGF (kP i89), aGF (kP i91), aGF (kP i93), aGF (kP i95), aGF (kP i97), aGF (kP i99), aGF (kP i101), aGF (kP i103), aGF (kP i105), aGF (kP i107), aGF (kP i109), q2, aVC, tlS, tlN, aLt, hwD]
      rw [vC_makes_82, if_neg (by decide)]
      simp only [vC_makes_88, aGF kC, rC_0, rC_1, rC_2, rC_3, rC_4, rC_5, rC_6, rC_7, rC_8, rC_9, rC_10, rC_11, rC_12, aGF kA, rA_0, aGF (kT tT_3), aGF (kK tK_75), aGF (kF tF_76), q75_0, q75_1, q75_2, q75_3, q75_4, q75_6, q75_7, q75_8, q75_9, q75_10, q75_11, q75_12, q75_13, q75_14, q75_15, q75_16, aGF (kP i67), aGF (kP i69), aGF (kP i71), aGF (kP i73), aGF (kP i363), aGF (kP i81), aGF (kP i83), aGF (kP i85), aGF (kP i87), aGF (kP i89), aGF (kP i91), aGF (kP i93), aGF (kP i95), aGF (kP i97), aGF (kP i99), aGF (kP i101), aGF (kP i103), aGF (kP i105), aGF (kP i107), aGF (kP i109), aVC, tlS, tlN, aLt, hwD, aR0, q3, vC_makes_101, q4, vC_makes_110]
theorem divides_op (h : CS D A) (i j s : Int) : ∃ D', Vl (d + 3) 92 0 [some (.inr (.inr (some 0))), some (.inl i), some (.inl j), some (.inl s), none, none] [] (hp ω D) = some ((0, some (.inl (oDivides A i j s).1)), hp ω D') ∧ CS D' (oDivides A i j s).2 ∧ ∀ q, 488 ≤ q → D' q = D q := by
  have hF := h.2.2.2.1
  unfold oDivides
  have st : Vl (d + 3) 92 0 [some (.inr (.inr (some 0))), some (.inl i), some (.inl j), some (.inl s), none, none] [] (hp ω D) = Vl (d + 3) 92 18 [some (.inr (.inr (some 0))), some (.inl i), some (.inl j), some (.inl s), some (.inr (.inr (if aN A i then some (5 + 2 * i.toNat) else none))), none] [.inr (.inr (if aN A j then some (5 + 2 * j.toNat) else none))] (hp ω D) := by
    simp only [vC_divides_0, aGF kC, rC_0, rC_1, rC_2, rC_3, rC_4, rC_5, rC_6, rC_7, rC_8, rC_9, rC_10, rC_11, rC_12, aGF kA, rA_0, aGF (kT tT_3), aGF (kK tK_75), aGF (kF tF_76), q75_0, q75_1, q75_2, q75_3, q75_4, q75_6, q75_7, q75_8, q75_9, q75_10, q75_11, q75_12, q75_13, q75_14, q75_15, q75_16, aGF (kP i67), aGF (kP i69), aGF (kP i71), aGF (kP i73), aGF (kP i363), aGF (kP i81), aGF (kP i83), aGF (kP i85), aGF (kP i87), aGF (kP i89), aGF (kP i91), aGF (kP i93), aGF (kP i95), aGF (kP i97), aGF (kP i99), aGF (kP i101), aGF (kP i103), aGF (kP i105), aGF (kP i107), aGF (kP i109), named3 h, aVC, tlS, tlN, aLt, hwD, vC_divides_8]
  rw [st, vC_divides_18]
  by_cases h1 : aN A i
  rotate_left
  · rw [if_neg h1, if_neg (show ¬ ((aN A i ∧ aN A j) ∧ (s = 0 ∨ s = 1)) from fun q => h1 q.1.1)]
    refine ⟨D, ?_, h, fun _ _ => rfl⟩
    show Vl (d + 3) 92 37 _ [] _ = _
    rw [vC_divides_37]
  rw [if_pos h1]
  show ∃ D', Vl (d + 3) 92 25 _ [] _ = _ ∧ _
  rw [vC_divides_25]
  by_cases h2 : aN A j
  rotate_left
  · rw [if_neg h2, if_neg (show ¬ ((aN A i ∧ aN A j) ∧ (s = 0 ∨ s = 1)) from fun q => h2 q.1.2)]
    refine ⟨D, ?_, h, fun _ _ => rfl⟩
    show Vl (d + 3) 92 37 _ [] _ = _
    rw [vC_divides_37]
  rw [if_pos h2]
  show ∃ D', Vl (d + 3) 92 30 _ [] _ = _ ∧ _
  rw [vC_divides_30, isSide_spec, aVC, tlS, vC_divides_34]
  by_cases h3 : s = 0 ∨ s = 1
  rotate_left
  · rw [if_neg h3, if_pos rfl, if_neg (fun q => h3 q.2)]
    exact ⟨D, by rw [vC_divides_37], h, fun _ _ => rfl⟩
  rw [if_pos h3, if_neg (by decide), if_pos ⟨⟨h1, h2⟩, h3⟩]
  obtain ⟨p1, p2, p3, hi⟩ := CS_nm h h1
  obtain ⟨r1, r2, r3, hj⟩ := CS_nm h h2
  obtain ⟨x, rfl⟩ := Int.eq_ofNat_of_zero_le (show 0 ≤ s by omega)
  rw [Int.toNat_natCast]
  by_cases h4 : sz (an A j) = 0
  · rw [if_pos h4]
    have q1 := divide_no (ω := ω) (d := d + 1) (b := 75) (f := 5 + 2 * i.toNat) (qo := 67) (ro := 69) r1 r2 h4 (x : Int)
    refine ⟨D, ?_, h, fun _ _ => rfl⟩
    simp only [vC_divides_40, aGF kC, rC_0, rC_1, rC_2, rC_3, rC_4, rC_5, rC_6, rC_7, rC_8, rC_9, rC_10, rC_11, rC_12, aGF kA, rA_0, aGF (kT tT_3), aGF (kK tK_75), aGF (kF tF_76), q75_0, q75_1, q75_2, q75_3, q75_4, q75_6, q75_7, q75_8, q75_9, q75_10, q75_11, q75_12, q75_13, q75_14, q75_15, q75_16, aGF (kP i67), aGF (kP i69), aGF (kP i71), aGF (kP i73), aGF (kP i363), aGF (kP i81), aGF (kP i83), aGF (kP i85), aGF (kP i87), aGF (kP i89), aGF (kP i91), aGF (kP i93), aGF (kP i95), aGF (kP i97), aGF (kP i99), aGF (kP i101), aGF (kP i103), aGF (kP i105), aGF (kP i107), aGF (kP i109), aR0, aR1, q1, aVC, tlS, tlN, aLt, hwD]
    rw [vC_divides_64, if_pos rfl, vC_divides_79, vC_divides_81]
  · rw [if_neg h4]
    obtain ⟨D2, q2, R2, R3, f2⟩ := divide_spec (ω := ω) (d := d) tK_75 hF p1 r1 i67 i69 (by omega) (by omega) (by omega) (by omega) (by omega) (by omega) (by omega) p2 r2 p3.1 r3.1 p3.2 r3.2 (show x < 2 by omega) h4
    have q4 := topF (ω := ω) (d := d + 2) i69 R3
    obtain ⟨n, hn⟩ : ∃ n, sz (an A j) = n + 1 := ⟨sz (an A j) - 1, by omega⟩
    obtain ⟨e1, e2, e3, e4, -, -⟩ := dvd_fact hF.1 (side := x) p3.1 r3.1 p3.2 r3.2 hn
    have hs1 := sz_le (an A i)
    have hs2 := sz_le (an A j)
    have fr : ∀ c, (c < 92 ∨ 102 ≤ c) → c ≠ 68 → c ≠ 70 → D2 c = D c := fun c h6 h7 h8 => f2 c (by omega) (by omega) (by omega) (by omega) (by omega) (by omega) (by omega)
    refine ⟨D2, ?_, CS_keep h (fun c hc => fr c (by unfold kept at hc; omega) (by unfold kept at hc; omega) (by unfold kept at hc; omega)) (rset_ok (by decide) (pOK_8 hF.1 ⟨e2, dle_mono e4 (by omega)⟩) R3 (fun q hq hne => by
      unfold rset
      by_cases h0 : q = 0
      · rw [if_pos h0, h0]; exact ⟨pOK_8 hF.1 ⟨e1, dle_mono e3 (by omega)⟩, R2⟩
      · rw [if_neg h0]; exact ⟨(h.2.2.2.2.2.1 q hq).1, PR_ne (fr _ (by omega) (by omega) (by omega)) (h.2.2.2.2.2.1 q hq).2⟩)), fun q hq => fr q (by omega) (by omega) (by omega)⟩
    · simp only [vC_divides_40, aGF kC, rC_0, rC_1, rC_2, rC_3, rC_4, rC_5, rC_6, rC_7, rC_8, rC_9, rC_10, rC_11, rC_12, aGF kA, rA_0, aGF (kT tT_3), aGF (kK tK_75), aGF (kF tF_76), q75_0, q75_1, q75_2, q75_3, q75_4, q75_6, q75_7, q75_8, q75_9, q75_10, q75_11, q75_12, q75_13, q75_14, q75_15, q75_16, aGF (kP i67), aGF (kP i69), aGF (kP i71), aGF (kP i73), aGF (kP i363), aGF (kP i81), aGF (kP i83), aGF (kP i85), aGF (kP i87), aGF (kP i89), aGF (kP i91), aGF (kP i93), aGF (kP i95), aGF (kP i97), aGF (kP i99), aGF (kP i101), aGF (kP i103), aGF (kP i105), aGF (kP i107), aGF (kP i109), aR0, aR1, q2, aVC, tlS, tlN, aLt, hwD]
      rw [vC_divides_64, if_neg (by decide)]
      simp only [vC_divides_67, aGF kC, rC_0, rC_1, rC_2, rC_3, rC_4, rC_5, rC_6, rC_7, rC_8, rC_9, rC_10, rC_11, rC_12, aGF kA, rA_0, aGF (kT tT_3), aGF (kK tK_75), aGF (kF tF_76), q75_0, q75_1, q75_2, q75_3, q75_4, q75_6, q75_7, q75_8, q75_9, q75_10, q75_11, q75_12, q75_13, q75_14, q75_15, q75_16, aGF (kP i67), aGF (kP i69), aGF (kP i71), aGF (kP i73), aGF (kP i363), aGF (kP i81), aGF (kP i83), aGF (kP i85), aGF (kP i87), aGF (kP i89), aGF (kP i91), aGF (kP i93), aGF (kP i95), aGF (kP i97), aGF (kP i99), aGF (kP i101), aGF (kP i103), aGF (kP i105), aGF (kP i107), aGF (kP i109), aR1, q4, aVC, tlS, tlN, aLt, hwD, vC_divides_76, vC_divides_81]
end OPS2
