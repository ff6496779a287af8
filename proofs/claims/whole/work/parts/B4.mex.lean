/-! THE REFERENCE'S READER: what an expression tells; stack, work -/
def XF (D D' : jD) : Prop := (∀ q, (q < 488 ∨ (489 ≤ q ∧ q ≤ 496) ∨ 518 ≤ q) → D' q = D q) ∧ ∀ j, (j < 32 ∨ 38 < j) → j ≠ 44 → j ≠ 45 → D' 488 j = D 488 j
def MEV (ρ : jr2) (D : jD) (X : sx) : Prop := MX D (sX X) (sN X) ∧ TOK (sA X) ∧ MF (tF (sA X)) D ∧ MNM ρ D (sC X) (tN (sA X)) ∧ ∀ i, i < tN (sA X) → PRo D 491 (16 + 17 * i) (tn (sA X) i)
def MST (ρ : jr2) (D : jD) (X : sx) (t : tk) (s w : Nat) : Prop := MEV ρ D X ∧ MTK ρ D (sN X) t ∧ D 488 44 = (s : Int) ∧ D 488 45 = (w : Int)
/-- what a run over an expression comes to: a fault, or a row more on the stack -/
def MPO (ρ : jr2) (D : jD) (X : sx) (s w P : Nat) (r : pr) (run : Option jr) : Prop := match r with
  | .inl e => ∃ ρ' D', run = some ((0, some (.inl 0)), hp (1, ρ') D') ∧ LX ρ ρ' ∧ XF D D' ∧ D' 488 37 = (e.1 : Int) ∧ D' 488 38 = (e.2 : Int)
  | .inr r => ∃ ρ' D', run = some ((0, some (.inl 1)), hp (1, ρ') D') ∧ LX ρ ρ' ∧ XF D D' ∧ D' 488 37 = D 488 37 ∧ MST ρ' D' X r.2 (s + 1) w ∧ PRo D' 514 (17 * s) r.1 ∧ pOK (tF (sA X)) r.1 ∧ (∀ b, b < 17 * s → D' 514 b = D 514 b) ∧ P ≤ r.2.2.2.2 ∧ (r.2.1 ≠ 258 → P + 1 ≤ r.2.2.2.2)
section MEX1
variable {ρ ρ' : jr2} {D D' D2 : jD} {d : Nat} {X : sx} {t : tk} {s w : Nat} {Φ : gF}
theorem XF_rf : XF D D := ⟨fun _ _ => rfl, fun _ _ _ _ => rfl⟩
theorem XF_tr (h1 : XF D D') (h2 : XF D' D2) : XF D D2 := ⟨fun q a => by rw [h2.1 q a, h1.1 q a], fun j a b c => by rw [h2.2 j a b c, h1.2 j a b c]⟩
theorem XF_TX (h : TX D D') : XF D D' := ⟨fun q a => h.1 q (by omega), fun j a _ _ => h.2 j (by omega)⟩
theorem XF_sD {j : Nat} {v : Int} (h : (32 ≤ j ∧ j ≤ 38) ∨ j = 44 ∨ j = 45) : XF D (sD D 488 j v) := ⟨fun q a => sD_ne (by omega), fun i a b c => sD_nb (by omega)⟩
theorem XF_mFt {k p : Int} : XF D (mFt D k p) := XF_tr (XF_sD (by decide)) (XF_sD (by decide))
/-- scratch rows alone -/
theorem XF_sc (h : ∀ q, (q ≤ 496 ∨ 518 ≤ q) → D' q = D q) : XF D D' := ⟨fun q a => h q (by omega), fun j _ _ _ => by rw [h 488 (by decide)]⟩
theorem mFt_37 {k p : Int} : mFt D k p 488 37 = k := by unfold mFt; rw [sD_nb (by decide)]; exact sD_eq
theorem mFt_38 {k p : Int} : mFt D k p 488 38 = p := sD_eq
theorem MX_XF {x : Nat → Nat} {len : Nat} (hX : MX D x len) (h : XF D D') : MX D' x len := ⟨by rw [h.2 31 (by decide) (by decide) (by decide)]; exact hX.1, hX.2.1, fun i hi => by rw [h.1 489 (by decide)]; exact hX.2.2 i hi⟩
theorem MF_XF (hF : MF Φ D) (h : XF D D') : MF Φ D' := by
  obtain ⟨a, b, c, e, f⟩ := hF
  exact ⟨a, by rw [h.2 10 (by decide) (by decide) (by decide)]; exact b, by rw [h.2 11 (by decide) (by decide) (by decide)]; exact c, by rw [h.2 12 (by decide) (by decide) (by decide)]; exact e, by rw [h.2 13 (by decide) (by decide) (by decide)]; exact f⟩
theorem MEV_XF (hE : MEV ρ D X) (h : XF D D') (hL : LX ρ ρ') : MEV ρ' D' X := by
  obtain ⟨h1, h2, h3, ⟨n1, n2, n3⟩, h5⟩ := hE
  exact ⟨MX_XF h1 h, h2, MF_XF h3 h, ⟨n1, by rw [h.1 491 (by decide)]; exact n2, fun i hi => by rw [hL.2.2 494 i (Or.inl (by decide))]; exact n3 i hi⟩, fun i hi => by unfold PRo; rw [h.1 491 (by decide)]; exact h5 i hi⟩
theorem MTK_cg {len : Nat} (hT : MTK ρ D len t) (h : ∀ j, 32 ≤ j → j ≤ 36 → D' 488 j = D 488 j) : MTK ρ D' len t := by
  unfold MTK at hT ⊢
  rw [h 33 (by decide) (by decide), h 34 (by decide) (by decide), h 32 (by decide) (by decide), h 35 (by decide) (by decide), h 36 (by decide) (by decide)]
  exact hT
/-- the state with the same TOKEN: rows, stack, depth changed -/
theorem MST_cg (hS : MST ρ D X t s w) {s' w' : Nat} (h : XF D D') (ht : ∀ j, 32 ≤ j → j ≤ 36 → D' 488 j = D 488 j) (h44 : D' 488 44 = (s' : Int)) (h45 : D' 488 45 = (w' : Int)) : MST ρ D' X t s' w' := ⟨MEV_XF hS.1 h LX_rf, MTK_cg hS.2.1 ht, h44, h45⟩
/-- a TOKEN on -/
theorem mgoX (hS : MST ρ D X t s w) (ht : t.1 < 258) : ∃ ρ' D', Vl (d + 2) 201 0 [some (.inr (.inr (some 488))), none, none, none, none] [] (hp (1, ρ) D) = some ((0, none), hp (1, ρ') D') ∧ LX ρ ρ' ∧ TX D D' ∧ MST ρ' D' X (nx X t) s w ∧ t.2.2.2 ≤ (nx X t).2.2.2 ∧ ((nx X t).1 ≠ 258 → t.2.2.2 + 1 ≤ (nx X t).2.2.2) := by
  obtain ⟨hE, hT, h44, h45⟩ := hS
  have hb := hT.2.1
  have hto : D 488 32 = (t.2.2.2 : Int) := by
    obtain ⟨-, -, -, hT⟩ := hT
    rcases hT with ⟨a, -⟩ | ⟨a, -⟩ | ⟨-, -, e, -⟩ | ⟨-, -, e, -⟩ | ⟨-, -, -, e, -⟩
    · omega
    · omega
    · exact e
    · exact e
    · exact e
  obtain ⟨ρ', D', q1, q2, q3, q4⟩ := mgo (d := d) (ρ := ρ) hE.1 hto hb
  obtain ⟨p1, -, p3⟩ := scn_p (x := sX X) hb
  exact ⟨ρ', D', q1, q2, q3, ⟨MEV_XF hE (XF_TX q3) q2, q4, by rw [q3.2 44 (by decide)]; exact h44, by rw [q3.2 45 (by decide)]; exact h45⟩, p1, p3⟩
theorem mpush {c : Nat} (kc : KM c (1, 17)) (hc : c ≠ 514) {F : pl} (RF : PR D c F) (h44 : D 488 44 = (s : Int)) (hs : s < 48) : Vl (d + 1) 222 0 [some (.inr (.inr (some 488))), some (.inr (.inr (some c)))] [] (hp (1, ρ) D) = some ((0, none), hp (1, ρ) (sD (pOn D 514 (17 * s) 17 (rI F)) 488 44 ((s + 1 : Nat) : Int))) := by
  have q := mcopy (d := d) (ρ := ρ) (a := 0) (b := 17 * s) kc m514 (by decide) (by omega) (by decide) (Or.inl hc) (PRo_0 RF)
  rw [vM_push_0]
  simp only [mGF m488, mr40, hD, h44]
  rw [show w32 (17 * (s : Int)) = ((17 * s : Nat) : Int) from by rw [w32_i (by omega) (by omega)]; omega, show (0 : Int) = ((0 : Nat) : Int) from rfl, q, aVC, tlN, vM_push_16]
  simp only [mGF m488, hwD, aLt, hD]
  rw [pOn_far (by decide), h44, w32_s (by omega)]
theorem mpop {c : Nat} (kc : KM c (1, 17)) (hc : c ≠ 514) {F : pl} (RF : PRo D 514 (17 * s) F) (h44 : D 488 44 = ((s + 1 : Nat) : Int)) (hs : s < 48) : Vl (d + 1) 226 0 [some (.inr (.inr (some 488))), some (.inr (.inr (some c)))] [] (hp (1, ρ) D) = some ((0, none), hp (1, ρ) (pD (sD D 488 44 (s : Int)) c (rI F))) := by
  have q := mcopy (d := d) (ρ := ρ) (D := sD D 488 44 (s : Int)) (a := 17 * s) (b := 0) m514 kc (by omega) (by decide) (by decide) (Or.inl (fun e => hc e.symm)) (F := F) (by unfold PRo; rw [sD_ne (by decide)]; exact RF)
  rw [pOn_pD] at q
  have e1 : w32 (((s + 1 : Nat) : Int) - 1) = (s : Int) := by rw [w32_i (by omega) (by omega)]; omega
  have e2 : w32 (17 * (s : Int)) = ((17 * s : Nat) : Int) := by rw [w32_i (by omega) (by omega)]; omega
  rw [vM_pop_0]
  simp only [mGF m488, mr40, hwD, aLt, hD, h44, e1, sD_eq, e2]
  rw [show (0 : Int) = ((0 : Nat) : Int) from rfl, q, aVC, tlN, vM_pop_26]
theorem wkS_2 (k : Int) : wkS k < 2 := by unfold wkS; split <;> omega
/-- what the sides come to: a quotient, a rest, a part, a multiple -/
theorem mwork {k : Int} (h4 : 4 ≤ k) (h11 : k ≤ 11) (hF : MF Φ D) {F G : pl} (RF : PRo D 514 (17 * s) F) (RG : PRo D 514 (17 * (s + 1)) G) (oF : pOK Φ F) (oG : pOK Φ G) (h44 : D 488 44 = ((s + 2 : Nat) : Int)) (hs : s < 46) (at_ : Int) : ∃ D', XF D D' ∧ (∀ j, (32 ≤ j ∧ j ≤ 36) ∨ j = 45 → D' 488 j = D 488 j) ∧ (match wrk Φ k F G with
    | none => Vl (d + 9) 225 0 [some (.inr (.inr (some 488))), some (.inl k), some (.inl at_), none] [] (hp (1, ρ) D) = some ((0, some (.inl 0)), hp (1, ρ) D') ∧ D' 488 37 = (((if k ≤ 7 then 5 else 4 : Nat)) : Int) ∧ D' 488 38 = at_
    | some v => Vl (d + 9) 225 0 [some (.inr (.inr (some 488))), some (.inl k), some (.inl at_), none] [] (hp (1, ρ) D) = some ((0, some (.inl 1)), hp (1, ρ) D') ∧ D' 488 37 = D 488 37 ∧ D' 488 44 = ((s + 1 : Nat) : Int) ∧ PRo D' 514 (17 * s) v ∧ pOK Φ v ∧ ∀ b, b < 17 * s → D' 514 b = D 514 b) := by
  have hO := hF.1
  have hw := wkS_2 k
  have q1 := mpop (d := d + 7) (ρ := ρ) (s := s + 1) m512 (by decide) RG h44 (by omega)
  obtain ⟨E1, hE1⟩ : ∃ E1, E1 = pD (sD D 488 44 ((s + 1 : Nat) : Int)) 512 (rI G) := ⟨_, rfl⟩
  rw [← hE1] at q1
  have q2 := mpop (d := d + 7) (ρ := ρ) (D := E1) (s := s) (F := F) m511 (by decide) (by rw [hE1]; unfold PRo; rw [pD_ne (by decide), sD_ne (by decide)]; exact RF) (by rw [hE1, pD_ne (by decide)]; exact sD_eq) (by omega)
  obtain ⟨E, hE⟩ : ∃ E, E = pD (sD E1 488 44 (s : Int)) 511 (rI F) := ⟨_, rfl⟩
  rw [← hE] at q2
  have RF1 : PR E 511 F := by rw [hE]; exact pD_PR
  have RG1 : PR E 512 G := by rw [hE]; exact PR_ne (by rw [pD_ne (by decide), sD_ne (by decide)]) (by rw [hE1]; exact pD_PR)
  have e44 : E 488 44 = (s : Int) := by rw [hE, pD_ne (by decide)]; exact sD_eq
  have eq_ : ∀ j, j ≠ 44 → E 488 j = D 488 j := fun j hj => by rw [hE, pD_ne (by decide), sD_nb hj, hE1, pD_ne (by decide), sD_nb hj]
  have eo : ∀ q, q ≠ 488 → q ≠ 511 → q ≠ 512 → E q = D q := fun q a b c => by rw [hE, pD_ne b, sD_ne a, hE1, pD_ne c, sD_ne a]
  have xE : XF D E := ⟨fun q a => eo q (by omega) (by omega) (by omega), fun j _ a _ => eq_ j a⟩
  have hFE : MF Φ E := MF_XF hF xE
  have st : ∀ sd : Int, sd = (wkS k : Int) → Vl (d + 9) 225 0 [some (.inr (.inr (some 488))), some (.inl k), some (.inl at_), none] [] (hp (1, ρ) D) = if 7 < k then Vl (d + 9) 225 118 [some (.inr (.inr (some 488))), some (.inl k), some (.inl at_), some (.inl sd)] [] (hp (1, ρ) E) else Vl (d + 9) 225 52 [some (.inr (.inr (some 488))), some (.inl k), some (.inl at_), some (.inl sd)] [] (hp (1, ρ) E) := fun sd hsd => by
    have yes : wkS k = 1 → Vl (d + 9) 225 40 [some (.inr (.inr (some 488))), some (.inl k), some (.inl at_), none] [] (hp (1, ρ) E) = if 7 < k then Vl (d + 9) 225 118 [some (.inr (.inr (some 488))), some (.inl k), some (.inl at_), some (.inl sd)] [] (hp (1, ρ) E) else Vl (d + 9) 225 52 [some (.inr (.inr (some 488))), some (.inl k), some (.inl at_), some (.inl sd)] [] (hp (1, ρ) E) := fun z => by
      rw [vM_work_40, vM_work_45, hsd, z]; rfl
    rw [vM_work_0]
    simp only [mGF m488, mr29]
    rw [q1, aVC, tlN, vM_work_8]
    simp only [mGF m488, mr28]
    rw [q2, aVC, tlN, vM_work_16]
    by_cases k6 : k = 6
    · rw [if_pos k6]; exact yes (if_pos (Or.inl k6))
    rw [if_neg k6, vM_work_22]
    by_cases k7 : k = 7
    · rw [if_pos k7]; exact yes (if_pos (Or.inr (Or.inl k7)))
    rw [if_neg k7, vM_work_28]
    by_cases k9 : k = 9
    · rw [if_pos k9]; exact yes (if_pos (Or.inr (Or.inr (Or.inl k9))))
    rw [if_neg k9, vM_work_34]
    by_cases k11 : k = 11
    · rw [if_pos k11]; exact yes (if_pos (Or.inr (Or.inr (Or.inr k11))))
    rw [if_neg k11, vM_work_44, vM_work_45, hsd, show wkS k = 0 from if_neg (by omega)]; rfl
  rw [st (wkS k : Int) rfl]
  -- a row told on the stack
  have put : ∀ (D3 : jD) (c : Nat) (v : pl), KM c (1, 17) → c ≠ 514 → PR D3 c v → pOK Φ v → (∀ q, (q ≤ 496 ∨ 514 ≤ q) → D3 q = E q) → ∃ D', D' = sD (pOn D3 514 (17 * s) 17 (rI v)) 488 44 ((s + 1 : Nat) : Int) ∧ Vl (d + 8) 222 0 [some (.inr (.inr (some 488))), some (.inr (.inr (some c)))] [] (hp (1, ρ) D3) = some ((0, none), hp (1, ρ) D') ∧ XF D D' ∧ (∀ j, (32 ≤ j ∧ j ≤ 36) ∨ j = 45 → D' 488 j = D 488 j) ∧ D' 488 37 = D 488 37 ∧ D' 488 44 = ((s + 1 : Nat) : Int) ∧ PRo D' 514 (17 * s) v ∧ ∀ b, b < 17 * s → D' 514 b = D 514 b := fun D3 c v kc hc Rv ov g => by
    have q := mpush (d := d + 7) (ρ := ρ) kc hc Rv (s := s) (by rw [g 488 (by decide)]; exact e44) (by omega)
    have f8 : ∀ j, j ≠ 44 → sD (pOn D3 514 (17 * s) 17 (rI v)) 488 44 ((s + 1 : Nat) : Int) 488 j = D 488 j := fun j hj => by rw [sD_nb hj, pOn_far (by decide), g 488 (by decide), eq_ j hj]
    refine ⟨_, rfl, q, ⟨fun q a => ?_, fun j _ a _ => f8 j a⟩, fun j hj => f8 j (by omega), f8 37 (by decide), sD_eq, ?_, fun b hb => ?_⟩
    · rw [sD_ne (by omega), pOn_far (by omega), g q (by omega), eo q (by omega) (by omega) (by omega)]
    · unfold PRo; rw [sD_ne (by decide)]; exact fun b hb => pOn_in hb
    · rw [sD_ne (by decide), pOn_ne (Or.inr (by omega)), g 514 (by decide), eo 514 (by decide) (by decide) (by decide)]
  unfold wrk
  by_cases h7 : k ≤ 7
  · rw [if_pos h7, if_neg (show ¬ 7 < k by omega), vM_work_52]
    simp only [mGF m488, mr29]
    rw [mdeg (d := d + 8) (ρ := ρ) m512 (by decide) RG1, aVC, tlS, vM_work_59]
    by_cases hz : sz G = 0
    · rw [if_pos hz, if_pos (show (sz G : Int) - 1 < 0 by omega), vM_work_62, mGF m488, mbadAt, aVC, tlS, vM_work_68, aZ0]
      refine ⟨mFt E 5 at_, XF_tr xE XF_mFt, fun j hj => ?_, rfl, ?_, mFt_38⟩
      · unfold mFt; rw [sD_nb (by omega), sD_nb (by omega)]; exact eq_ j (by omega)
      · rw [if_pos h7]; exact mFt_37
    rw [if_neg hz, if_neg (show ¬ (sz G : Int) - 1 < 0 by omega)]
    obtain ⟨D3, t1, t2, t3, t4⟩ := mdivide (d := d + 2) (ρ := ρ) hFE hw (cf := 511) (cg := 512) (cq := 504) (cr := 505) ⟨m511, by decide, by decide⟩ ⟨m512, by decide, by decide⟩ ⟨m504, by decide, by decide⟩ ⟨m505, by decide, by decide⟩ (by decide) (by decide) (by decide) (by decide) RF1 RG1 oF oG hz
    obtain ⟨n, hn⟩ : ∃ n, sz G = n + 1 := ⟨sz G - 1, by omega⟩
    obtain ⟨e1, e2, e3, e4, -, -⟩ := dvd_fact hO (side := wkS k) oF.1 oG.1 oF.2 oG.2 hn
    have hs1 := sz_le F
    have hs2 := sz_le G
    have g : ∀ q, (q ≤ 496 ∨ 514 ≤ q) → D3 q = E q := fun q hq => t4 q (by omega) (by omega) (by omega)
    rw [vM_work_69]
    simp only [mGF m488, mr28, mr29, mr21, mr22]
    rw [t1, aVC, tlN, vM_work_90]
    have qo : k = 4 ∨ k = 6 → ∃ D', XF D D' ∧ (∀ j, (32 ≤ j ∧ j ≤ 36) ∨ j = 45 → D' 488 j = D 488 j) ∧ Vl (d + 9) 225 102 [some (.inr (.inr (some 488))), some (.inl k), some (.inl at_), some (.inl (wkS k : Int))] [.inr (.inr (some 488))] (hp (1, ρ) D3) = some ((0, some (.inl 1)), hp (1, ρ) D') ∧ D' 488 37 = D 488 37 ∧ D' 488 44 = ((s + 1 : Nat) : Int) ∧ PRo D' 514 (17 * s) (dvd Φ (wkS k) F G).1 ∧ pOK Φ (dvd Φ (wkS k) F G).1 ∧ ∀ b, b < 17 * s → D' 514 b = D 514 b := fun _ => by
      obtain ⟨D', -, p1, p2, p3, p4, p5, p6, p7⟩ := put D3 504 _ m504 (by decide) t2 ⟨e1, dle_mono e3 (by omega)⟩ g
      refine ⟨D', p2, p3, ?_, p4, p5, p6, ⟨e1, dle_mono e3 (by omega)⟩, p7⟩
      rw [vM_work_102, mGF m488, mr21, vM_work_113, mGF m488, p1, aVC, tlN, vM_work_116, aZ1]
    by_cases k4 : k = 4
    · rw [if_pos k4, if_pos (Or.inl k4)]; exact qo (Or.inl k4)
    rw [if_neg k4, vM_work_96]
    by_cases k6 : k = 6
    · rw [if_pos k6, if_pos (Or.inr k6)]; exact qo (Or.inr k6)
    rw [if_neg k6, if_neg (fun z => z.elim k4 k6)]
    obtain ⟨D', -, p1, p2, p3, p4, p5, p6, p7⟩ := put D3 505 _ m505 (by decide) t3 ⟨e2, dle_mono e4 (by omega)⟩ g
    refine ⟨D', p2, p3, ?_, p4, p5, p6, ⟨e2, dle_mono e4 (by omega)⟩, p7⟩
    rw [vM_work_109, mGF m488, mr22, vM_work_113, mGF m488, p1, aVC, tlN, vM_work_116, aZ1]
  rw [if_neg h7, if_pos (show 7 < k by omega), vM_work_118]
  have oE := ceul_OK hO (s := wkS k) oF oG
  by_cases h10 : k < 10
  · rw [if_pos h10, if_neg (show ¬ 9 < k by omega), vM_work_124]
    obtain ⟨D2, t1, t2, t3⟩ := mcommon (d := d + 1) (ρ := ρ) hFE hw m511 m512 (by decide) (by decide) RF1 RG1 oF oG
    have hF2 : MF Φ D2 := MF_cg hFE (t3 488 (by decide))
    obtain ⟨D3, s1, s2, s3⟩ := mmonic (d := d + 2) (ρ := ρ) hF2 hw m502 (by decide) (by decide) (by decide) (by decide) t2.1 oE.1
    have oP : pOK Φ (cPart Φ (wkS k) (ceul Φ (wkS k) F G)) := pSc_OK hO (mnum_lt hO oE.1.1) oE.1
    obtain ⟨D', -, p1, p2, p3, p4, p5, p6, p7⟩ := put D3 502 _ m502 (by decide) s2 oP (fun q hq => by rw [s3 q (by omega) (by omega) (by omega) (by omega), t3 q (by omega)])
    refine ⟨D', p2, p3, ?_, p4, p5, p6, oP, p7⟩
    simp only [mGF m488, mr28, mr29]
    rw [t1, aVC, tlN, vM_work_137]
    simp only [mGF m488, mr19]
    rw [s1, aVC, tlN, vM_work_146]
    simp only [mGF m488, mr19]
    rw [p1, aVC, tlN, vM_work_154, aZ1]
  rw [if_neg h10, if_pos (show 9 < k by omega), vM_work_156, mGF m488]
  obtain ⟨D2, t1, t2, t3⟩ := mmult (d := d) (ρ := ρ) hFE hw RF1 RG1 oF oG
  rw [t1, aVC, tlS, vM_work_161]
  have oM := (cmul_OK hO (side := wkS k) (G := G) oF oE).1
  by_cases hc : cfit F G (ceul Φ (wkS k) F G).1 = true
  · rw [if_pos hc, if_pos hc, if_neg (show ¬ (sz (cMul Φ (wkS k) F G) : Int) - 1 = -2 by omega), vM_work_173]
    have oP : pOK Φ (cMul Φ (wkS k) F G) := pSc_OK hO (mnum_lt hO oM.1) oM
    obtain ⟨D', -, p1, p2, p3, p4, p5, p6, p7⟩ := put D2 513 _ m513 (by decide) (t2 hc) oP (fun q hq => t3 q (by omega) (by omega))
    refine ⟨D', p2, p3, ?_, p4, p5, p6, oP, p7⟩
    simp only [mGF m488, mr30]
    rw [p1, aVC, tlN, vM_work_181, aZ1]
  · rw [if_neg hc, if_neg hc, if_pos (show (-2 : Int) = -2 from rfl), vM_work_166, mGF m488, mbadAt, aVC, tlS, vM_work_172, aZ0]
    have x2 : XF D D2 := XF_tr xE ⟨fun q a => t3 q (by omega) (by omega), fun j _ _ _ => by rw [t3 488 (by decide) (by decide)]⟩
    refine ⟨mFt D2 4 at_, XF_tr x2 XF_mFt, fun j hj => ?_, rfl, ?_, mFt_38⟩
    · unfold mFt; rw [sD_nb (by omega), sD_nb (by omega), t3 488 (by decide) (by decide)]; exact eq_ j (by omega)
    · rw [if_neg h7]; exact mFt_37
end MEX1
