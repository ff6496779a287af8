/-! THE REFERENCE'S METHODS: sums, products, divisions, common parts, multiples -/
def MO (ρ : jr2) (D : jD) (A' : aA) (ans : Int) (run : Option jr) : Prop := ∃ D', run = some ((0, some (.inl ans)), hp (1, ρ) D') ∧ MS D' A' ∧ D' 488 0 = 0 ∧ ∀ q, q < 488 → D' q = D q
section MOPS
variable {ρ : jr2} {D D' : jD} {d : Nat} {Φ : gF} {A : aA}
theorem MO_mB (h : MS D A) {ans : Int} {run : Option jr} (hr : run = some ((0, some (.inl ans)), hp (1, ρ) (mB D A))) : MO ρ D A ans run := ⟨_, hr, mB_MS h, mB_0, fun q hq => mB_ne (by omega)⟩
theorem MO_sc (h : MS D A) {ans : Int} {run : Option jr} (hr : run = some ((0, some (.inl ans)), hp (1, ρ) D')) (hf : ∀ q, (mK q ∨ q ≤ 488) → D' q = mB D A q) : MO ρ D A ans run := ⟨_, hr, MS_sc (mB_MS h) (fun c hc => hf c (by rcases hc with z | z; exact Or.inl z; exact Or.inr (by omega))), by rw [hf 488 (Or.inr (by decide))]; exact mB_0, fun q hq => by rw [hf q (Or.inr (by omega)), mB_ne (by omega)]⟩
theorem mtakeBoth (h : MS D A) (i j : Int) : Vl (d + 2) 247 0 [some (.inr (.inr (some 488))), some (.inl i), some (.inl j)] [] (hp (1, ρ) D) = if aN A i ∧ aN A j then some ((0, some (.inl 1)), hp (1, ρ) (pD (pD (mB D A) 511 (rI (an A i))) 512 (rI (an A j)))) else some ((0, some (.inl 0)), hp (1, ρ) (mB D A)) := by
  have hB := mB_MS h
  rw [vM_takeBoth_0, mGF m488, mbegin h, aVC, tlN, vM_takeBoth_4, mGF m488, misName hB, aVC, tlS, vM_takeBoth_9]
  by_cases h1 : aN A i
  rotate_left
  · rw [if_neg h1, if_pos j00, vM_takeBoth_20, aZ0, if_neg (fun z => h1 z.1)]
  rw [if_pos h1, if_neg j10, vM_takeBoth_12, mGF m488, misName hB, aVC, tlS, vM_takeBoth_17]
  by_cases h2 : aN A j
  rotate_left
  · rw [if_neg h2, if_pos j00, vM_takeBoth_20, aZ0, if_neg (fun z => h2 z.2)]
  have hB2 : MS (pD (mB D A) 511 (rI (an A i))) A := MS_sc hB (fun c hc => pD_ne (by unfold mK at hc; omega))
  rw [if_pos h2, if_neg j10, vM_takeBoth_22, mGF m488, mGF m488, mr28, mtake hB h1 m511 (by decide), aVC, tlN, vM_takeBoth_31, mGF m488, mGF m488, mr29, mtake hB2 h2 m512 (by decide), aVC, tlN, vM_takeBoth_40, aZ1, if_pos ⟨h1, h2⟩]
theorem mmakes_op (h : MS D A) (i j w : Int) : MO ρ D (oMakes A i j w).2 (oMakes A i j w).1 (Vl (d + 5) 246 0 [some (.inr (.inr (some 488))), some (.inl i), some (.inl j), some (.inl w), none, none] [] (hp (1, ρ) D)) := by
  have hB := mB_MS h
  have hF := mB_MF h
  unfold oMakes
  rw [vM_makes_0, mGF m488, mtakeBoth h]
  by_cases h1 : aN A i ∧ aN A j
  rotate_left
  · rw [if_neg h1, if_neg (show ¬ ((aN A i ∧ aN A j) ∧ 0 ≤ w ∧ w ≤ 1) from fun z => h1 z.1), aVC, tlS, vM_makes_6, if_pos j00, vM_makes_18]
    exact MO_mB h rfl
  rw [if_pos h1, aVC, tlS, vM_makes_6, if_neg j10, vM_makes_9, misIn, aVC, tlS, vM_makes_15]
  by_cases h2 : 0 ≤ w ∧ w ≤ 1
  rotate_left
  · rw [if_neg h2, if_neg (show ¬ ((aN A i ∧ aN A j) ∧ 0 ≤ w ∧ w ≤ 1) from fun z => h2 z.2), if_pos j00, vM_makes_18]
    exact MO_sc h rfl (fun q hq => by rw [pD_ne (by unfold mK at hq; omega), pD_ne (by unfold mK at hq; omega)])
  obtain ⟨p1, p2, -⟩ := MS_nm hB h1.1
  obtain ⟨r1, r2, -⟩ := MS_nm hB h1.2
  obtain ⟨E, hE⟩ : ∃ E, E = pD (pD (mB D A) 511 (rI (an A i))) 512 (rI (an A j)) := ⟨_, rfl⟩
  have fE : ∀ q, q ≠ 511 → q ≠ 512 → E q = mB D A q := fun q a b => by rw [hE, pD_ne b, pD_ne a]
  have RF : PR E 511 (an A i) := by rw [hE]; exact PR_ne (pD_ne (by decide)) pD_PR
  have RG : PR E 512 (an A j) := by rw [hE]; exact pD_PR
  have hFE : MF (aF A) E := MF_cg hF (fE 488 (by decide) (by decide))
  rw [if_pos h2, if_neg j10, if_pos (show ((aN A i ∧ aN A j) ∧ 0 ≤ w ∧ w ≤ 1) from ⟨h1, h2⟩), vM_makes_21, ← hE]
  have fin : ∀ (D2 : jD) (c : Nat) (F : pl) (run : Option jr), KM c (1, 17) → c ≠ 518 → PR D2 c F → pOK (aF A) F → (∀ q, (mK q ∨ q ≤ 488) → D2 q = mB D A q) → run = some ((0, some (.inl ((sz F : Int) - 1))), hp (1, ρ) (pOn D2 518 (17 * 0) 17 (rI F))) → MO ρ D (aRes A (rset (Ar A) 0 F)) ((sz F : Int) - 1) run := fun D2 c F run kc hc RFF oF hf hr => by
    refine ⟨_, hr, MS_res (MS_sc hB (fun c hc => hf c (by rcases hc with z | z; exact Or.inl z; exact Or.inr (by omega)))) (by decide) (pOK_8 hF.1 oF), ?_, fun q hq => ?_⟩
    · rw [pOn_far (by decide), hf 488 (Or.inr (by decide))]; exact mB_0
    · rw [pOn_far (by omega), hf q (Or.inr (by omega)), mB_ne (by omega)]
  by_cases h3 : w = 0
  · have q1 := mplus (d := d + 4) (ρ := ρ) hF.1 m511 m512 (by decide) (by decide) (by decide) RF RG p2.1 r2.1
    have q2 := mtell (d := d + 3) (ρ := ρ) (k := 0) (D := pD E 511 (rI (pA (an A i) (an A j)))) (by decide) m511 (by decide) pD_PR
    rw [if_pos h3, if_pos h3]
    refine fin (pD E 511 (rI (pA (an A i) (an A j)))) 511 _ _ m511 (by decide) pD_PR ⟨pA_in p2.1 r2.1, pA_dle p2.2 r2.2⟩ (fun q hq => by rw [pD_ne (by unfold mK at hq; omega), fE q (by unfold mK at hq; omega) (by unfold mK at hq; omega)]) ?_
    rw [vM_makes_25, mGF m488, mGF m488, mr28, mr29, q1, aVC, tlN, vM_makes_36, mGF m488, mGF m488, mr28]
    rw [show ((0 : Nat) : Int) = 0 from rfl] at q2
    rw [q2, aVC, tlS, vM_makes_45]
  rw [if_neg h3, if_neg h3]
  have q1 := mdeg (d := d + 4) (ρ := ρ) m511 (by decide) RF
  have q2 := mdeg (d := d + 4) (ρ := ρ) m512 (by decide) RG
  have s1 := sz_le (an A i)
  have s2 := sz_le (an A j)
  rw [vM_makes_46, mGF m488, mr28, q1, aVC, tlS, vM_makes_53, mGF m488, mr29, q2, aVC, tlS, vM_makes_62]
  have go74 : (if (sz (an A i) : Int) - 1 < 0 then Vl (d + 5) 246 87 [some (.inr (.inr (some 488))), some (.inl i), some (.inl j), some (.inl w), some (.inl ((sz (an A i) : Int) - 1)), some (.inl ((sz (an A j) : Int) - 1))] [] (hp (1, ρ) E) else Vl (d + 5) 246 69 [some (.inr (.inr (some 488))), some (.inl i), some (.inl j), some (.inl w), some (.inl ((sz (an A i) : Int) - 1)), some (.inl ((sz (an A j) : Int) - 1))] [] (hp (1, ρ) E)) = if sz (an A i) ≠ 0 ∧ sz (an A j) ≠ 0 ∧ 18 < sz (an A i) + sz (an A j) then some ((0, some (.inl (-2))), hp (1, ρ) E) else Vl (d + 5) 246 87 [some (.inr (.inr (some 488))), some (.inl i), some (.inl j), some (.inl w), some (.inl ((sz (an A i) : Int) - 1)), some (.inl ((sz (an A j) : Int) - 1))] [] (hp (1, ρ) E) := by
    by_cases a1 : sz (an A i) = 0
    · rw [if_pos (by omega), if_neg (fun z => z.1 a1)]
    · rw [if_neg (by omega), vM_makes_69]
      by_cases a2 : sz (an A j) = 0
      · rw [if_pos (by omega), if_neg (fun z => z.2.1 a2)]
      · rw [if_neg (by omega), vM_makes_74, show w32 ((sz (an A i) : Int) - 1 + ((sz (an A j) : Int) - 1)) = (sz (an A i) : Int) + (sz (an A j) : Int) - 2 from by unfold w32; omega]
        by_cases a3 : 18 < sz (an A i) + sz (an A j)
        · rw [if_pos (by omega), vM_makes_84, if_pos ⟨a1, a2, a3⟩]
        · rw [if_neg (by omega), if_neg (fun z => a3 z.2.2)]
  rw [go74]
  by_cases h4 : sz (an A i) ≠ 0 ∧ sz (an A j) ≠ 0 ∧ 18 < sz (an A i) + sz (an A j)
  · rw [if_pos h4, if_pos h4]
    exact MO_sc h rfl (fun q hq => fE q (by unfold mK at hq; omega) (by unfold mK at hq; omega))
  rw [if_neg h4, if_neg h4]
  have oJ : pOK (aF A) (pJ (aF A) 0 (an A i) (an A j)) := ⟨pJ_in hF.1 p2.1 r2.1, pJ_dle p2.2 r2.2 17 (by omega)⟩
  have q3 := mclear (d := d + 4) (ρ := ρ) (D := E) m513 (by decide) (by decide)
  have key : ∃ D2, Vl (d + 5) 246 94 [some (.inr (.inr (some 488))), some (.inl i), some (.inl j), some (.inl w), some (.inl ((sz (an A i) : Int) - 1)), some (.inl ((sz (an A j) : Int) - 1))] [] (hp (1, ρ) (pD E 513 (rI p0))) = Vl (d + 5) 246 120 [some (.inr (.inr (some 488))), some (.inl i), some (.inl j), some (.inl w), some (.inl ((sz (an A i) : Int) - 1)), some (.inl ((sz (an A j) : Int) - 1))] [] (hp (1, ρ) D2) ∧ PR D2 513 (pJ (aF A) 0 (an A i) (an A j)) ∧ ∀ q, q ≠ 513 → q ≠ 497 → D2 q = E q := by
    by_cases a1 : sz (an A i) = 0
    · refine ⟨pD E 513 (rI p0), ?_, ?_, fun q a b => pD_ne a⟩
      · rw [vM_makes_94, if_pos (by omega)]
      · rw [sz_z p2.2 a1, pJ_z]; exact pD_PR
    by_cases a2 : sz (an A j) = 0
    · refine ⟨pD E 513 (rI p0), ?_, ?_, fun q a b => pD_ne a⟩
      · rw [vM_makes_94, if_neg (by omega), vM_makes_99, if_pos (by omega)]
      · have e0 : pJ (aF A) 0 (an A i) (an A j) = p0 := by
          rw [sz_z r2.2 a2]; unfold pJ; rw [if_neg (by decide)]; exact pP_0r _ _
        rw [e0]; exact pD_PR
    obtain ⟨D2, t1, t2, t3⟩ := mprod (d := d) (ρ := ρ) (D := pD E 513 (rI p0)) (MF_cg hFE (pD_ne (by decide))) m511 m512 m513 (by decide) (by decide) (by decide) (by decide) (by decide) (by decide) (PR_ne (pD_ne (by decide)) RF) (PR_ne (pD_ne (by decide)) RG) p2.1 r2.1
    refine ⟨D2, ?_, t2, fun q a b => by rw [t3 q a b, pD_ne a]⟩
    rw [vM_makes_94, if_neg (by omega), vM_makes_99, if_neg (by omega), vM_makes_104]
    simp only [mGF m488, mr28, mr29, mr30]
    rw [t1, aVC, tlN]
  obtain ⟨D2, k1, k2, k3⟩ := key
  have q4 := mtell (d := d + 3) (ρ := ρ) (k := 0) (by decide) m513 (by decide) k2
  refine fin D2 513 _ _ m513 (by decide) k2 oJ (fun q hq => by rw [k3 q (by unfold mK at hq; omega) (by unfold mK at hq; omega), fE q (by unfold mK at hq; omega) (by unfold mK at hq; omega)]) ?_
  rw [vM_makes_87, mGF m488, mr30, q3, aVC, tlN, k1, vM_makes_120, mGF m488, mGF m488, mr30]
  rw [show ((0 : Nat) : Int) = 0 from rfl] at q4
  rw [q4, aVC, tlS, vM_makes_129]
end MOPS
