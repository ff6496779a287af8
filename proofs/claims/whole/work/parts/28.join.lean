/-! PRODUCTS AND DIVISIONS in the class -/
theorem pD_ne {D : jD} {c : Nat} {r : Nat → Int} {a : Nat} (h : a ≠ c) : pD D c r a = D a := pDn_ne h
theorem pD_lt {D : jD} {c : Nat} {r : Nat → Int} {b : Nat} (h : b < 17) : pD D c r c b = r b := pDn_lt h
theorem tlS (v : jv) (l : List jv) : (some v).toList ++ l = v :: l := rfl
theorem tlN (l : List jv) : (none : Option jv).toList ++ l = l := rfl
set_option maxRecDepth 100000 in
theorem pneK {o b : Nat} (ho : isP o) (hb : isK b) : o + 1 < b ∨ b + 6 < o + 1 := (show ∀ o ∈ PLs, ∀ b ∈ [75, 173], o + 1 < b ∨ b + 6 < o + 1 by decide +kernel) o ho b hb
section RING
variable {ω : jw} {D : jD} {b d : Nat} {Φ : gF}
theorem topF {o : Nat} (hP : isP o) {F : Nat → Nat} (hR : PR D (o + 1) F) : Vl d 59 0 [some (.inr (.inr (some o))), none] [] (hp ω D) = some ((0, some (.inl ((sz F : Int) - 1))), hp ω D) := by
  rw [top_spec hP, sz_PR hR]
theorem getF {o : Nat} (hP : isP o) {F : Nat → Nat} (hR : PR D (o + 1) F) (hd : dle F 17) {j : Nat} (hj : j < 2147483648) : Vl d 60 0 [some (.inr (.inr (some o))), some (.inl (j : Int))] [] (hp ω D) = some ((0, some (.inl (F j : Int))), hp ω D) := by
  rw [get_spec hP hj]
  by_cases h : j < 17
  · rw [if_pos h, hR j h]
  · rw [if_neg h, hd j (by omega)]; rfl
theorem isZeroF {o : Nat} (hP : isP o) {F : Nat → Nat} (hR : PR D (o + 1) F) : Vl (d + 1) 73 0 [some (.inr (.inr (some o)))] [] (hp ω D) = some ((0, some (.inl (if sz F = 0 then 1 else 0))), hp ω D) := by
  rw [isZero_spec hP, sz_PR hR]
theorem FT_fr {D' : jD} (hF : FT Φ D (b + 1)) (h : ∀ c, b + 1 ≤ c → c < b + 6 → D' c = D c) : FT Φ D' (b + 1) := FT_congr (fun c h1 h2 => h c h1 (by omega)) hF
theorem join_loop (hb : isK b) (hF : FT Φ D (b + 1)) {f out : Nat} (hf : isP f) (ho : isP out) (hf1 : f ≠ b + 16) (hf2 : f ≠ b + 18) {F G : Nat → Nat} (RF : PR D (f + 1) F) (iF : inF Φ F) (iG : inF Φ G) (dF : dle F 17) {s : Nat} (dG : dle G (s + 1)) (hs : s < 17) (x1 : Int) (o2 o3 o6 : Option Nat) :
    ∀ (n k : Nat) (Dk : jD), k + n = sz F → (0 < n → PR Dk (b + 17) (pSi Φ k G)) → PR Dk (b + 19) (pP Φ k F G) → (∀ c, c ≠ b + 17 → c ≠ b + 19 → Dk c = D c) →
    ∃ D', Vl (d + 1) 66 79 [some (.inr (.inr (some b))), some (.inl x1), some (.inr (.inr o2)), some (.inr (.inr o3)), some (.inr (.inr (some out))), some (.inr (.inr (some f))), some (.inr (.inr o6)), some (.inl ((sz F : Int) - 1)), some (.inl (s : Int)), some (.inl (k : Int))] [] (hp ω Dk) = some ((0, some (.inl 1)), hp ω D') ∧ PR D' (out + 1) (pP Φ (sz F) F G) ∧ ∀ c, c ≠ b + 17 → c ≠ b + 19 → c ≠ out + 1 → D' c = D c
  | 0, k, Dk, hk, _, hQ, hfr => by
    refine ⟨pD Dk (out + 1) (Dk (b + 19)), ?_, ?_, ?_⟩
    · rw [vK_join_79, if_pos (by omega)]
      simp only [vK_join_156, aGF (kK hb), rK_0 hb, aGF (kF (fK hb)), rK_1 hb, rK_2 hb, rK_3 hb, rK_4 hb, rK_6 hb, rK_7 hb, rK_8 hb, rK_9 hb, rK_10 hb, rK_11 hb, rK_12 hb, rK_13 hb, rK_14 hb, rK_15 hb, rK_16 hb, aGF (kP (pK_6 hb)), aGF (kP (pK_8 hb)), aGF (kP (pK_10 hb)), aGF (kP (pK_12 hb)), aGF (kP (pK_14 hb)), aGF (kP (pK_16 hb)), aGF (kP (pK_18 hb)), aGF (kP (pK_20 hb)), aGF (kP (pK_22 hb)), aGF (kP (pK_24 hb)), aGF (kP (pK_26 hb)), aGF (kP (pK_28 hb)), aGF (kP (pK_30 hb)), aGF (kP (pK_32 hb)), aGF (kP (pK_34 hb)), rP (pK_6 hb), rP (pK_8 hb), rP (pK_10 hb), rP (pK_12 hb), rP (pK_14 hb), rP (pK_16 hb), rP (pK_18 hb), rP (pK_20 hb), rP (pK_22 hb), rP (pK_24 hb), rP (pK_26 hb), rP (pK_28 hb), rP (pK_30 hb), rP (pK_32 hb), rP (pK_34 hb), aGF (kP ho), rP ho, aVC, tlS, tlN, aLt, hD, hwD, copy_spec ho (pK_18 hb), vK_join_165, aZ1]
    · intro c hc
      rw [pD_lt hc, hQ c hc, show sz F = k by omega]
    · intro c h1 h2 h3
      rw [pD_ne (by omega), hfr c h1 h2]
  | n + 1, k, Dk, hk, hPa, hQ, hfr => by
    have hFk : FT Φ Dk (b + 1) := FT_fr hF (fun c h1 h2 => hfr c (by omega) (by omega))
    have hs17 := sz_le F
    have RFk : PR Dk (f + 1) F := PR_ne (hfr _ (by omega) (by omega)) RF
    have hPk := hPa (by omega)
    have hA := addTimes_spec (ω := ω) (d := d) (fK hb) hFk (kPa (pK_18 hb)) (kPa (pK_16 hb)) (fun j hj => by omega) (by omega) (T := s + k) (by omega) hQ hPk (pP_in hF.1 iF k) (pSi_in hF.1 iG k) (fun c h1 h2 => pSi_dle dG k c (by omega)) (iF k)
    have hFA : FT Φ (pD Dk (b + 18 + 1) (rI (fun c => pP Φ k F G c ^^^ fm Φ (F k) (pSi Φ k G c)))) (b + 1) := FT_fr hFk (fun c h1 h2 => pD_ne (by omega))
    have hPA : PR (pD Dk (b + 18 + 1) (rI (fun c => pP Φ k F G c ^^^ fm Φ (F k) (pSi Φ k G c)))) (b + 16 + 1) (pSi Φ k G) := PR_ne (pD_ne (by omega)) hPk
    have hB := passLetter_spec (ω := ω) (d := d) (fK hb) hFA (kPa (pK_16 hb)) (fun j hj => by omega) hPA (pSi_in hF.1 iG k) (T := s + k) (by omega) (fun c h1 h2 => pSi_dle dG k c (by omega))
    rw [vK_join_79, if_neg (by omega), vK_join_86, if_neg (by omega)]
    simp only [vK_join_91, aGF (kK hb), rK_0 hb, aGF (kF (fK hb)), rK_1 hb, rK_2 hb, rK_3 hb, rK_4 hb, rK_6 hb, rK_7 hb, rK_8 hb, rK_9 hb, rK_10 hb, rK_11 hb, rK_12 hb, rK_13 hb, rK_14 hb, rK_15 hb, rK_16 hb, aGF (kP (pK_6 hb)), aGF (kP (pK_8 hb)), aGF (kP (pK_10 hb)), aGF (kP (pK_12 hb)), aGF (kP (pK_14 hb)), aGF (kP (pK_16 hb)), aGF (kP (pK_18 hb)), aGF (kP (pK_20 hb)), aGF (kP (pK_22 hb)), aGF (kP (pK_24 hb)), aGF (kP (pK_26 hb)), aGF (kP (pK_28 hb)), aGF (kP (pK_30 hb)), aGF (kP (pK_32 hb)), aGF (kP (pK_34 hb)), rP (pK_6 hb), rP (pK_8 hb), rP (pK_10 hb), rP (pK_12 hb), rP (pK_14 hb), rP (pK_16 hb), rP (pK_18 hb), rP (pK_20 hb), rP (pK_22 hb), rP (pK_24 hb), rP (pK_26 hb), rP (pK_28 hb), rP (pK_30 hb), rP (pK_32 hb), rP (pK_34 hb), aGF (kP hf), rP hf, aVC, tlS, tlN, aLt, hD, hwD, getF hf RFk dF (show k < 2147483648 by omega), vK_join_109, w32_ad (show s + k < 2147483648 by omega), hA]
    rw [vK_join_124]
    by_cases hn : n = 0
    · subst hn
      rw [if_neg (by omega), vK_join_150, w32_s (by omega)]
      refine join_loop hb hF hf ho hf1 hf2 RF iF iG dF dG hs x1 o2 o3 o6 0 (k + 1) _ (by omega) (fun q => absurd q (by omega)) ?_ ?_
      · exact pD_PR
      · intro c h1 h2
        rw [pD_ne (by omega), hfr c h1 h2]
    · rw [if_pos (by omega)]
      simp only [vK_join_131, aGF (kK hb), rK_0 hb, aGF (kF (fK hb)), rK_1 hb, rK_2 hb, rK_3 hb, rK_4 hb, rK_6 hb, rK_7 hb, rK_8 hb, rK_9 hb, rK_10 hb, rK_11 hb, rK_12 hb, rK_13 hb, rK_14 hb, rK_15 hb, rK_16 hb, aGF (kP (pK_6 hb)), aGF (kP (pK_8 hb)), aGF (kP (pK_10 hb)), aGF (kP (pK_12 hb)), aGF (kP (pK_14 hb)), aGF (kP (pK_16 hb)), aGF (kP (pK_18 hb)), aGF (kP (pK_20 hb)), aGF (kP (pK_22 hb)), aGF (kP (pK_24 hb)), aGF (kP (pK_26 hb)), aGF (kP (pK_28 hb)), aGF (kP (pK_30 hb)), aGF (kP (pK_32 hb)), aGF (kP (pK_34 hb)), rP (pK_6 hb), rP (pK_8 hb), rP (pK_10 hb), rP (pK_12 hb), rP (pK_14 hb), rP (pK_16 hb), rP (pK_18 hb), rP (pK_20 hb), rP (pK_22 hb), rP (pK_24 hb), rP (pK_26 hb), rP (pK_28 hb), rP (pK_30 hb), rP (pK_32 hb), rP (pK_34 hb), aVC, tlS, tlN, aLt, hD, hwD, w32_ad (show s + k < 2147483648 by omega), hB]
      rw [vK_join_150, w32_s (by omega)]
      refine join_loop hb hF hf ho hf1 hf2 RF iF iG dF dG hs x1 o2 o3 o6 n (k + 1) _ (by omega) (fun q => ?_) ?_ ?_
      · exact pD_PR
      · exact PR_ne (pD_ne (by omega)) pD_PR
      · intro c h1 h2
        rw [pD_ne (by omega), pD_ne (by omega), hfr c h1 h2]
theorem join_core (hb : isK b) (hF : FT Φ D (b + 1)) {f g out : Nat} (hf : isP f) (hg : isP g) (ho : isP out) (hf1 : f ≠ b + 16) (hf2 : f ≠ b + 18) {F G : Nat → Nat} (RF : PR D (f + 1) F) (RG : PR D (g + 1) G) (iF : inF Φ F) (iG : inF Φ G) (dF : dle F 17) (dG : dle G 17) (hfit : sz F = 0 ∨ sz G = 0 ∨ sz F + sz G ≤ 18) (x1 : Int) (o2 o3 : Option Nat) :
    ∃ D', Vl (d + 1) 66 22 [some (.inr (.inr (some b))), some (.inl x1), some (.inr (.inr o2)), some (.inr (.inr o3)), some (.inr (.inr (some out))), some (.inr (.inr (some f))), none, none, none, none] [.inr (.inr (some g))] (hp ω D) = some ((0, some (.inl 1)), hp ω D') ∧ PR D' (out + 1) (pP Φ (sz F) F G) ∧ ∀ c, c ≠ b + 17 → c ≠ b + 19 → c ≠ out + 1 → D' c = D c := by
  have h60 : Vl (d + 1) 66 22 [some (.inr (.inr (some b))), some (.inl x1), some (.inr (.inr o2)), some (.inr (.inr o3)), some (.inr (.inr (some out))), some (.inr (.inr (some f))), none, none, none, none] [.inr (.inr (some g))] (hp ω D) = Vl (d + 1) 66 60 [some (.inr (.inr (some b))), some (.inl x1), some (.inr (.inr o2)), some (.inr (.inr o3)), some (.inr (.inr (some out))), some (.inr (.inr (some f))), some (.inr (.inr (some g))), some (.inl ((sz F : Int) - 1)), some (.inl ((sz G : Int) - 1)), none] [] (hp ω D) := by
    simp only [vK_join_22, aGF (kP hf), rP hf, aGF (kP hg), rP hg, aVC, tlS, tlN, aLt, hD, hwD, topF hf RF, vK_join_29, topF hg RG]
    rw [vK_join_36]
    by_cases h1 : sz F = 0
    · rw [if_pos (by omega)]
    rw [if_neg (by omega), vK_join_43]
    by_cases h2 : sz G = 0
    · rw [if_pos (by omega)]
    have := sz_le F
    have := sz_le G
    rw [if_neg (by omega), vK_join_48, if_neg]
    unfold w32; omega
  rw [h60]
  have hc1 := copy_spec (ω := ω) (D := D) (d := d) (pK_16 hb) hg
  have hc2 := clear_spec (ω := ω) (D := pD D (b + 16 + 1) (D (g + 1))) (d := d) (pK_18 hb)
  simp only [vK_join_60, aGF (kK hb), rK_0 hb, aGF (kF (fK hb)), rK_1 hb, rK_2 hb, rK_3 hb, rK_4 hb, rK_6 hb, rK_7 hb, rK_8 hb, rK_9 hb, rK_10 hb, rK_11 hb, rK_12 hb, rK_13 hb, rK_14 hb, rK_15 hb, rK_16 hb, aGF (kP (pK_6 hb)), aGF (kP (pK_8 hb)), aGF (kP (pK_10 hb)), aGF (kP (pK_12 hb)), aGF (kP (pK_14 hb)), aGF (kP (pK_16 hb)), aGF (kP (pK_18 hb)), aGF (kP (pK_20 hb)), aGF (kP (pK_22 hb)), aGF (kP (pK_24 hb)), aGF (kP (pK_26 hb)), aGF (kP (pK_28 hb)), aGF (kP (pK_30 hb)), aGF (kP (pK_32 hb)), aGF (kP (pK_34 hb)), rP (pK_6 hb), rP (pK_8 hb), rP (pK_10 hb), rP (pK_12 hb), rP (pK_14 hb), rP (pK_16 hb), rP (pK_18 hb), rP (pK_20 hb), rP (pK_22 hb), rP (pK_24 hb), rP (pK_26 hb), rP (pK_28 hb), rP (pK_30 hb), rP (pK_32 hb), rP (pK_34 hb), aVC, tlS, tlN, aLt, hD, hwD, hc1, vK_join_69, hc2, vK_join_76]
  have e2 : PR (pD (pD D (b + 16 + 1) (D (g + 1))) (b + 18 + 1) (fun _ => 0)) (b + 19) p0 := fun c hc => pD_lt hc
  have e3 : ∀ c, c ≠ b + 17 → c ≠ b + 19 → pD (pD D (b + 16 + 1) (D (g + 1))) (b + 18 + 1) (fun _ => 0) c = D c := fun c h1 h2 => by rw [pD_ne (by omega), pD_ne (by omega)]
  by_cases hz : sz G = 0
  · have hG := sz_z dG hz
    subst hG
    refine ⟨pD (pD (pD D (b + 16 + 1) (D (g + 1))) (b + 18 + 1) (fun _ => 0)) (out + 1) (pD (pD D (b + 16 + 1) (D (g + 1))) (b + 18 + 1) (fun _ => 0) (b + 18 + 1)), ?_, ?_, ?_⟩
    · rw [vK_join_79]
      by_cases h1 : sz F = 0
      · rw [if_pos (by omega)]
        simp only [vK_join_156, aGF (kK hb), rK_0 hb, aGF (kF (fK hb)), rK_1 hb, rK_2 hb, rK_3 hb, rK_4 hb, rK_6 hb, rK_7 hb, rK_8 hb, rK_9 hb, rK_10 hb, rK_11 hb, rK_12 hb, rK_13 hb, rK_14 hb, rK_15 hb, rK_16 hb, aGF (kP (pK_6 hb)), aGF (kP (pK_8 hb)), aGF (kP (pK_10 hb)), aGF (kP (pK_12 hb)), aGF (kP (pK_14 hb)), aGF (kP (pK_16 hb)), aGF (kP (pK_18 hb)), aGF (kP (pK_20 hb)), aGF (kP (pK_22 hb)), aGF (kP (pK_24 hb)), aGF (kP (pK_26 hb)), aGF (kP (pK_28 hb)), aGF (kP (pK_30 hb)), aGF (kP (pK_32 hb)), aGF (kP (pK_34 hb)), rP (pK_6 hb), rP (pK_8 hb), rP (pK_10 hb), rP (pK_12 hb), rP (pK_14 hb), rP (pK_16 hb), rP (pK_18 hb), rP (pK_20 hb), rP (pK_22 hb), rP (pK_24 hb), rP (pK_26 hb), rP (pK_28 hb), rP (pK_30 hb), rP (pK_32 hb), rP (pK_34 hb), aGF (kP ho), rP ho, aVC, tlS, tlN, aLt, hD, hwD, copy_spec ho (pK_18 hb), vK_join_165, aZ1]
      · rw [if_neg (by omega), vK_join_86, if_pos (by omega)]
        simp only [vK_join_156, aGF (kK hb), rK_0 hb, aGF (kF (fK hb)), rK_1 hb, rK_2 hb, rK_3 hb, rK_4 hb, rK_6 hb, rK_7 hb, rK_8 hb, rK_9 hb, rK_10 hb, rK_11 hb, rK_12 hb, rK_13 hb, rK_14 hb, rK_15 hb, rK_16 hb, aGF (kP (pK_6 hb)), aGF (kP (pK_8 hb)), aGF (kP (pK_10 hb)), aGF (kP (pK_12 hb)), aGF (kP (pK_14 hb)), aGF (kP (pK_16 hb)), aGF (kP (pK_18 hb)), aGF (kP (pK_20 hb)), aGF (kP (pK_22 hb)), aGF (kP (pK_24 hb)), aGF (kP (pK_26 hb)), aGF (kP (pK_28 hb)), aGF (kP (pK_30 hb)), aGF (kP (pK_32 hb)), aGF (kP (pK_34 hb)), rP (pK_6 hb), rP (pK_8 hb), rP (pK_10 hb), rP (pK_12 hb), rP (pK_14 hb), rP (pK_16 hb), rP (pK_18 hb), rP (pK_20 hb), rP (pK_22 hb), rP (pK_24 hb), rP (pK_26 hb), rP (pK_28 hb), rP (pK_30 hb), rP (pK_32 hb), rP (pK_34 hb), aGF (kP ho), rP ho, aVC, tlS, tlN, aLt, hD, hwD, copy_spec ho (pK_18 hb), vK_join_165, aZ1]
    · intro c hc
      rw [pD_lt hc, pD_lt hc, pP_0r]; rfl
    · intro c h1 h2 h3
      rw [pD_ne (by omega), e3 c h1 h2]
  · obtain ⟨s, hs⟩ : ∃ s, sz G = s + 1 := ⟨sz G - 1, by omega⟩
    have hs17 := sz_le G
    rw [hs, show ((s + 1 : Nat) : Int) - 1 = (s : Int) by omega]
    refine join_loop hb hF hf ho hf1 hf2 RF iF iG dF (by rw [← hs]; exact sz_dle dG) (by omega) x1 o2 o3 (some g) (sz F) 0 _ (by omega) (fun _ => ?_) e2 e3
    show PR _ (b + 17) G
    exact fun c hc => by rw [pD_ne (by omega), pD_lt hc, RG c hc]
/-- the product of steps from a side -/
def pJ (Φ : gF) (side : Nat) (A B : Nat → Nat) : Nat → Nat := if side = 1 then pP Φ (sz B) B A else pP Φ (sz A) A B
theorem join_spec (hb : isK b) (hF : FT Φ D (b + 1)) {f g out : Nat} (hf : isP f) (hg : isP g) (ho : isP out) (hf1 : f ≠ b + 16) (hf2 : f ≠ b + 18) (hg1 : g ≠ b + 16) (hg2 : g ≠ b + 18) {F G : Nat → Nat} (RF : PR D (f + 1) F) (RG : PR D (g + 1) G) (iF : inF Φ F) (iG : inF Φ G) (dF : dle F 17) (dG : dle G 17) (hfit : sz F = 0 ∨ sz G = 0 ∨ sz F + sz G ≤ 18) {side : Nat} (hsd : side < 2) :
    ∃ D', Vl (d + 1) 66 0 [some (.inr (.inr (some b))), some (.inl (side : Int)), some (.inr (.inr (some f))), some (.inr (.inr (some g))), some (.inr (.inr (some out))), none, none, none, none, none] [] (hp ω D) = some ((0, some (.inl 1)), hp ω D') ∧ PR D' (out + 1) (pJ Φ side F G) ∧ ∀ c, c ≠ b + 17 → c ≠ b + 19 → c ≠ out + 1 → D' c = D c := by
  rw [vK_join_0]
  unfold pJ
  by_cases h1 : side = 1
  · subst h1
    rw [if_pos (by rfl), vK_join_5, vK_join_10, if_pos (by rfl), vK_join_17, if_pos rfl]
    exact join_core hb hF hg hf ho hg1 hg2 RG RF iG iF dG dF (by omega) _ _ _
  · rw [if_neg (by omega), vK_join_9, vK_join_10, if_neg (by omega), vK_join_21, if_neg h1]
    exact join_core hb hF hf hg ho hf1 hf2 RF RG iF iG dF dG hfit _ _ _
theorem join_no {f g out : Nat} (hf : isP f) (hg : isP g) {F G : Nat → Nat} (RF : PR D (f + 1) F) (RG : PR D (g + 1) G) (h1 : sz F ≠ 0) (h2 : sz G ≠ 0) (h3 : 18 < sz F + sz G) {side : Nat} (hsd : side < 2) :
    Vl (d + 1) 66 0 [some (.inr (.inr (some b))), some (.inl (side : Int)), some (.inr (.inr (some f))), some (.inr (.inr (some g))), some (.inr (.inr (some out))), none, none, none, none, none] [] (hp ω D) = some ((0, some (.inl 0)), hp ω D) := by
  have := sz_le F
  have := sz_le G
  rw [vK_join_0]
  by_cases hs : side = 1
  · subst hs
    rw [if_pos (by rfl), vK_join_5, vK_join_10, if_pos (by rfl), vK_join_17]
    simp only [vK_join_22, aGF (kP hf), rP hf, aGF (kP hg), rP hg, aVC, tlS, tlN, aLt, hD, hwD, topF hf RF, vK_join_29, topF hg RG]
    rw [vK_join_36, if_neg (by omega), vK_join_43, if_neg (by omega), vK_join_48, if_pos (by unfold w32; omega), vK_join_58]; rfl
  · rw [if_neg (by omega), vK_join_9, vK_join_10, if_neg (by omega), vK_join_21]
    simp only [vK_join_22, aGF (kP hf), rP hf, aGF (kP hg), rP hg, aVC, tlS, tlN, aLt, hD, hwD, topF hf RF, vK_join_29, topF hg RG]
    rw [vK_join_36, if_neg (by omega), vK_join_43, if_neg (by omega), vK_join_48, if_pos (by unfold w32; omega), vK_join_58]; rfl
end RING
