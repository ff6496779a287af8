/-! The class's Reader: quotients, parts, words, atoms -/
def waP (X : sx) (sub : Option (tk → pr)) (t : tk) : pr := if 4 ≤ kw t.2.2.1 then whP X sub (kw t.2.2.1) t else if kw t.2.2.1 = 3 then .inr (mono 1 1, nx X t) else if kw t.2.2.1 = -1 then (if nix (sC X) t.2.2.1 (tN (sA X)) 0 = -1 then .inl (3, t.2.1) else .inr (tn (sA X) (nix (sC X) t.2.2.1 (tN (sA X)) 0).toNat, nx X t)) else .inl (1, t.2.1)
def atP (X : sx) (sub : Option (tk → pr)) (t : tk) : pr := if t.1 = 40 then brP X sub t else if t.1 = 256 then waP X sub t else if t.1 = 257 then (if t.2.2.1 < 2 ^ (tF (sA X)).1 then .inr (mono t.2.2.1 0, nx X t) else .inl (2, t.2.1)) else .inl (1, t.2.1)
def WO (ω : jw) (D : jD) (B cell : Nat) (Φ : gF) (r : Option pl) (run : Option jr) : Prop := match r with
  | none => ∃ D', run = some ((0, some (.inl 0)), hp ω D') ∧ EF D D' B ∧ D' 111 = D 111
  | some v => ∃ D', run = some ((0, some (.inl 1)), hp ω D') ∧ PR D' cell v ∧ pOK Φ v ∧ EF D D' B ∧ D' 111 = D 111
def SUBA (ω : jw) (X : sx) (d dp : Nat) (sub : Option (tk → pr)) : Prop := ∀ e, SUBOK ω X (d + e + 4) dp sub
section EX2
variable {d : Nat} {ω : jw} {D D' D2 : jD} {X : sx} {t : tk} {B B' : Nat} {Φ : gF}
theorem work_lo (hF : FT Φ D 174) {f g o : Nat} (hf : isP f) (hg : isP g) (ho : isP o) (hg2 : 216 ≤ g) (ho2 : 216 ≤ o ∧ o < 278) (hB : B ≤ o + 1) {F G : pl} (RF : PR D (f + 1) F) (RG : PR D (g + 1) G) (oF : pOK Φ F) (oG : pOK Φ G) {k : Int} (h4 : 4 ≤ k) (h7 : k ≤ 7) : WO ω D B (o + 1) Φ (wrk Φ k F G) (Vl (d + 3) 57 0 [some (.inr (.inr (some 111))), some (.inl k), some (.inr (.inr (some f))), some (.inr (.inr (some g))), some (.inr (.inr (some o)))] [] (hp ω D)) := by
  have st : Vl (d + 3) 57 0 [some (.inr (.inr (some 111))), some (.inl k), some (.inr (.inr (some f))), some (.inr (.inr (some g))), some (.inr (.inr (some o)))] [] (hp ω D) = vC (Vl (d + 2) 58 0 [some (.inr (.inr (some 173))), some (.inl ((wkS k : Nat) : Int)), some (.inr (.inr (some f))), some (.inr (.inr (some g))), some (.inr (.inr (some 211))), some (.inr (.inr (some 213))), none, none, none, none] [] (hp ω D)) (fun r3 h4 => Vl (d + 3) 57 28 [some (.inr (.inr (some 111))), some (.inl k), some (.inr (.inr (some f))), some (.inr (.inr (some g))), some (.inr (.inr (some o)))] (r3.toList ++ []) h4) := by
    have fin : ∀ s : Int, Vl (d + 3) 57 15 [some (.inr (.inr (some 111))), some (.inl k), some (.inr (.inr (some f))), some (.inr (.inr (some g))), some (.inr (.inr (some o)))] [.inl s, .inr (.inr (some 173))] (hp ω D) = vC (Vl (d + 2) 58 0 [some (.inr (.inr (some 173))), some (.inl s), some (.inr (.inr (some f))), some (.inr (.inr (some g))), some (.inr (.inr (some 211))), some (.inr (.inr (some 213))), none, none, none, none] [] (hp ω D)) (fun r3 h4 => Vl (d + 3) 57 28 [some (.inr (.inr (some 111))), some (.inl k), some (.inr (.inr (some f))), some (.inr (.inr (some g))), some (.inr (.inr (some o)))] (r3.toList ++ []) h4) := fun s => by
      rw [vR_quotientOrRest_15, aGF kR, aGF kR, aGF kR_4, rR_7, rR_8]
    rw [vR_quotientOrRest_0, aGF kR, rR_4]
    by_cases h6 : k < 6
    · rw [if_pos h6, vR_quotientOrRest_10, fin, show wkS k = 0 from if_neg (by omega)]; rfl
    · rw [if_neg h6, vR_quotientOrRest_14, fin, show wkS k = 1 from if_pos (by omega)]; rfl
  have hside : wkS k < 2 := by unfold wkS; split <;> omega
  rw [st]
  unfold wrk
  rw [if_pos h7]
  by_cases hz : sz G = 0
  · rw [if_pos hz, divide_no (f := f) (qo := 211) (ro := 213) hg RG hz]
    refine ⟨D, ?_, EF_refl, rfl⟩
    rw [aVC, tlS, vR_quotientOrRest_28, if_pos rfl, vR_quotientOrRest_31, aZ0]
  rw [if_neg hz]
  obtain ⟨D1, q1, R1, R2, f1⟩ := divide_spec (ω := ω) (d := d) tK_173 hF hf hg pR_7 pR_8 (by omega) (by omega) (by omega) (by omega) (by omega) (by omega) (by omega) RF RG oF.1 oG.1 oF.2 oG.2 hside hz
  obtain ⟨n, hn⟩ : ∃ n, sz G = n + 1 := ⟨sz G - 1, by omega⟩
  obtain ⟨e1, e2, e3, e4, -, -⟩ := dvd_fact hF.1 (side := wkS k) oF.1 oG.1 oF.2 oG.2 hn
  have hs1 := sz_le F
  have hs2 := sz_le G
  have fr : EF D D1 B := ⟨fun q hq z => f1 q (by omega) (by omega) (by omega) (by omega) (by omega) (by omega) (by omega), fun j _ => by rw [f1 111 (by omega) (by omega) (by omega) (by omega) (by omega) (by omega) (by omega)]⟩
  have f111 : D1 111 = D 111 := f1 111 (by omega) (by omega) (by omega) (by omega) (by omega) (by omega) (by omega)
  rw [q1, aVC, tlS, vR_quotientOrRest_28, if_neg (show ¬ ((1 : Int) = 0) by decide), vR_quotientOrRest_33]
  have qo : (k = 4 ∨ k = 6) → WO ω D B (o + 1) Φ (some (dvd Φ (wkS k) F G).1) (Vl (d + 3) 57 46 [some (.inr (.inr (some 111))), some (.inl k), some (.inr (.inr (some f))), some (.inr (.inr (some g))), some (.inr (.inr (some o)))] [.inr (.inr (some o))] (hp ω D1)) := fun _ => by
    refine ⟨pD D1 (o + 1) (rI (dvd Φ (wkS k) F G).1), ?_, pD_PR, ⟨e1, dle_mono e3 (by omega)⟩, EF_trans fr (EF_pD (by omega) (by omega) (by omega) (by omega) (by omega) (by omega) (by omega)) (Nat.le_refl _), by rw [pD_ne (by omega), f111]⟩
    rw [vR_quotientOrRest_46, aGF kR, rR_7, vR_quotientOrRest_57, aGF (kP ho), copyF ho pR_7 R1, aVC, tlN, vR_quotientOrRest_60, aZ1]
  have ro : WO ω D B (o + 1) Φ (some (dvd Φ (wkS k) F G).2) (Vl (d + 3) 57 53 [some (.inr (.inr (some 111))), some (.inl k), some (.inr (.inr (some f))), some (.inr (.inr (some g))), some (.inr (.inr (some o)))] [.inr (.inr (some o))] (hp ω D1)) := by
    refine ⟨pD D1 (o + 1) (rI (dvd Φ (wkS k) F G).2), ?_, pD_PR, ⟨e2, dle_mono e4 (by omega)⟩, EF_trans fr (EF_pD (by omega) (by omega) (by omega) (by omega) (by omega) (by omega) (by omega)) (Nat.le_refl _), by rw [pD_ne (by omega), f111]⟩
    rw [vR_quotientOrRest_53, aGF kR, rR_8, vR_quotientOrRest_57, aGF (kP ho), copyF ho pR_8 R2, aVC, tlN, vR_quotientOrRest_60, aZ1]
  by_cases hk4 : k = 4
  · rw [if_pos hk4, if_pos (Or.inl hk4)]; exact qo (Or.inl hk4)
  rw [if_neg hk4, vR_quotientOrRest_40]
  by_cases hk6 : k = 6
  · rw [if_pos hk6, if_pos (Or.inr hk6)]; exact qo (Or.inr hk6)
  · rw [if_neg hk6, if_neg (fun q => q.elim hk4 hk6)]; exact ro
theorem work_hi (hF : FT Φ D 174) {f g o : Nat} (hf : isP f) (hg : isP g) (ho : isP o) (hf2 : 216 ≤ f) (hg2 : 216 ≤ g) (ho2 : 216 ≤ o ∧ o < 278) (hB : B ≤ o + 1) {F G : pl} (RF : PR D (f + 1) F) (RG : PR D (g + 1) G) (oF : pOK Φ F) (oG : pOK Φ G) {k : Int} (h8 : 7 < k) : WO ω D B (o + 1) Φ (wrk Φ k F G) (Vl (d + 4) 70 0 [some (.inr (.inr (some 111))), some (.inl k), some (.inr (.inr (some f))), some (.inr (.inr (some g))), some (.inr (.inr (some o)))] [] (hp ω D)) := by
  have hside : wkS k < 2 := by unfold wkS; split <;> omega
  obtain ⟨D1, q1, R7, -, -, R13, e5, f1, -⟩ := compare_spec (ω := ω) (d := d) tK_173 hF hf hg (Or.inr (by omega)) (Or.inr (by omega)) RF RG oF oG hside rfl
  have st : Vl (d + 4) 70 0 [some (.inr (.inr (some 111))), some (.inl k), some (.inr (.inr (some f))), some (.inr (.inr (some g))), some (.inr (.inr (some o)))] [] (hp ω D) = Vl (d + 4) 70 26 [some (.inr (.inr (some 111))), some (.inl k), some (.inr (.inr (some f))), some (.inr (.inr (some g))), some (.inr (.inr (some o)))] [] (hp ω D1) := by
    have fin : ∀ s : Int, s = (wkS k : Int) → Vl (d + 4) 70 21 [some (.inr (.inr (some 111))), some (.inl k), some (.inr (.inr (some f))), some (.inr (.inr (some g))), some (.inr (.inr (some o)))] [.inl s, .inr (.inr (some 173))] (hp ω D) = Vl (d + 4) 70 26 [some (.inr (.inr (some 111))), some (.inl k), some (.inr (.inr (some f))), some (.inr (.inr (some g))), some (.inr (.inr (some o)))] [] (hp ω D1) := fun s hs => by
      rw [vR_partOrMultiple_21, aGF kR_4, hs, q1, aVC, tlN]
    rw [vR_partOrMultiple_0, aGF kR, rR_4]
    by_cases h9 : k = 9
    · rw [if_pos h9, vR_partOrMultiple_16, fin 1 (by rw [show wkS k = 1 from if_pos (by omega)]; rfl)]
    rw [if_neg h9, vR_partOrMultiple_10]
    by_cases h11 : k = 11
    · rw [if_pos h11, vR_partOrMultiple_16, fin 1 (by rw [show wkS k = 1 from if_pos (by omega)]; rfl)]
    · rw [if_neg h11, vR_partOrMultiple_20, fin 0 (by rw [show wkS k = 0 from if_neg (by omega)]; rfl)]
  have oE := ceul_OK hF.1 (s := wkS k) oF oG
  have oM := (cmul_OK hF.1 (side := wkS k) (G := G) oF oE).1
  have fr : EF D D1 B := ⟨fun q hq z => f1 q (by omega) (by omega), fun j _ => by rw [f1 111 (by omega) (by omega)]⟩
  have f111 : D1 111 = D 111 := f1 111 (by omega) (by omega)
  rw [st, vR_partOrMultiple_26]
  unfold wrk
  rw [if_neg (by omega)]
  by_cases h10 : k < 10
  · rw [if_pos h10, if_pos h10]
    refine ⟨pD D1 (o + 1) (rI (cPart Φ (wkS k) (ceul Φ (wkS k) F G))), ?_, pD_PR, pSc_OK hF.1 (mnum_lt hF.1 oE.1.1) oE.1, EF_trans fr (EF_pD (by omega) (by omega) (by omega) (by omega) (by omega) (by omega) (by omega)) (Nat.le_refl _), by rw [pD_ne (by omega), f111]⟩
    rw [vR_partOrMultiple_32, aGF kR, rR_4, aGF kR_4, rK_1 tK_173, aGF (kP ho), copyF ho (pK_6 tK_173) R7, aVC, tlN, vR_partOrMultiple_44, aZ1]; rfl
  rw [if_neg h10, if_neg h10]
  have q6 := copyF (ω := ω) (d := d + 3) ho (pK_12 tK_173) R13
  have e5' : pD D1 (o + 1) (rI (pSc Φ (wkS k) (mnum Φ (wkS k) (cmul Φ (wkS k) F G (ceul Φ (wkS k) F G))) (cmul Φ (wkS k) F G (ceul Φ (wkS k) F G)))) 173 5 = (if cfit F G (ceul Φ (wkS k) F G).1 = true then 1 else 0) := by rw [pD_ne (by omega)]; exact e5
  have fr2 : EF D (pD D1 (o + 1) (rI (pSc Φ (wkS k) (mnum Φ (wkS k) (cmul Φ (wkS k) F G (ceul Φ (wkS k) F G))) (cmul Φ (wkS k) F G (ceul Φ (wkS k) F G))))) B := EF_trans fr (EF_pD (by omega) (by omega) (by omega) (by omega) (by omega) (by omega) (by omega)) (Nat.le_refl _)
  rw [vR_partOrMultiple_46, aGF kR, rR_4, aGF kR_4, rK_4 tK_173, aGF (kP ho), q6, aVC, tlN, vR_partOrMultiple_58, aGF kR, rR_4, aGF kR_4, hD, e5']
  by_cases hc : cfit F G (ceul Φ (wkS k) F G).1 = true
  · rw [if_pos hc, if_pos hc, aZ1]
    exact ⟨_, rfl, pD_PR, pSc_OK hF.1 (mnum_lt hF.1 oM.1) oM, fr2, by rw [pD_ne (by omega), f111]⟩
  · rw [if_neg hc, if_neg hc, aZ0]
    exact ⟨_, rfl, fr2, by rw [pD_ne (by omega), f111]⟩
end EX2
