/-! THE REFERENCE'S COMMON PARTS AND MULTIPLES -/
def sw2 (D : jD) (a b j : Nat) (rB rA : Nat → Int) : jD := fun x y => if x = a ∧ y < j then rB y else if x = b ∧ y < j then rA y else D x y
def MES (D : jD) (S : eS) : Prop := PR D 502 S.1 ∧ PR D 503 S.2.1 ∧ PR D 507 S.2.2.1 ∧ PR D 509 S.2.2.2.1 ∧ PR D 508 S.2.2.2.2.1 ∧ PR D 510 S.2.2.2.2.2
section MCOM
variable {ρ : jr2} {D : jD} {d : Nat} {Φ : gF}
theorem sw2_0 {a b : Nat} {rB rA : Nat → Int} : sw2 D a b 0 rB rA = D := by
  funext x y; unfold sw2; rw [if_neg (by omega), if_neg (by omega)]
theorem sw2_s {a b j : Nat} {rB rA : Nat → Int} (hab : a ≠ b) : sD (sD (sw2 D a b j rB rA) a j (rB j)) b j (rA j) = sw2 D a b (j + 1) rB rA := by
  funext x y
  unfold sD sw2
  by_cases q1 : x = b ∧ y = j
  · rw [if_pos q1, if_neg (by omega), if_pos (by omega), q1.2]
  · rw [if_neg q1]
    by_cases q2 : x = a ∧ y = j
    · rw [if_pos q2, if_pos (by omega), q2.2]
    · rw [if_neg q2]
      by_cases q3 : x = a ∧ y < j
      · rw [if_pos q3, if_pos (by omega)]
      · rw [if_neg q3, if_neg (show ¬ (x = a ∧ y < j + 1) by omega)]
        by_cases q4 : x = b ∧ y < j
        · rw [if_pos q4, if_pos (by omega)]
        · rw [if_neg q4, if_neg (by omega)]
theorem sw2_ne {a b j : Nat} {rB rA : Nat → Int} {x : Nat} (h1 : x ≠ a) (h2 : x ≠ b) : sw2 D a b j rB rA x = D x := by
  funext y; unfold sw2; rw [if_neg (fun z => h1 z.1), if_neg (fun z => h2 z.1)]
theorem mstep (hF : MF Φ D) {a b side : Nat} (hs : side < 2) (ha : 507 ≤ a ∧ a ≤ 510) (hb : 507 ≤ b ∧ b ≤ 510) (hab : a ≠ b) (ka : KM a (1, 17)) (kb : KM b (1, 17)) {A B Q : pl} (RA : PR D a A) (RB : PR D b B) (RQ : PR D 504 Q) (oA : pOK Φ A) (oB : pOK Φ B) (oQ : pOK Φ Q) :
    ∃ D', Vl (d + 5) 235 0 [some (.inr (.inr (some 488))), some (.inr (.inr (some a))), some (.inr (.inr (some b))), some (.inl (side : Int)), none, none] [] (hp (1, ρ) D) = some ((0, none), hp (1, ρ) D') ∧ PR D' a B ∧ PR D' b (pA A (pJ Φ side Q B)) ∧ ∀ q, q ≠ a → q ≠ b → q ≠ 506 → q ≠ 497 → D' q = D q := by
  have iJ := pJ_in (side := side) hF.1 oQ.1 oB.1
  have key : ∃ D1, Vl (d + 5) 235 0 [some (.inr (.inr (some 488))), some (.inr (.inr (some a))), some (.inr (.inr (some b))), some (.inl (side : Int)), none, none] [] (hp (1, ρ) D) = Vl (d + 5) 235 33 [some (.inr (.inr (some 488))), some (.inr (.inr (some a))), some (.inr (.inr (some b))), some (.inl (side : Int)), none, none] [] (hp (1, ρ) D1) ∧ PR D1 506 (pJ Φ side Q B) ∧ ∀ q, q ≠ 506 → q ≠ 497 → D1 q = D q := by
    by_cases h0 : side = 0
    · subst h0
      obtain ⟨D1, q1, r1, f1⟩ := mprod (d := d) (ρ := ρ) hF m504 kb m506 (by decide) (by omega) (by decide) (by omega) (by decide) (by decide) RQ RB oQ.1 oB.1
      refine ⟨D1, ?_, r1, f1⟩
      rw [vM_step_0, if_pos (by rfl), vM_step_20, mGF m488, mGF m488, mGF m488, mr21, mr23, q1, aVC, tlN]
    · obtain rfl : side = 1 := by omega
      obtain ⟨D1, q1, r1, f1⟩ := mprod (d := d) (ρ := ρ) hF kb m504 m506 (by omega) (by decide) (by omega) (by decide) (by decide) (by decide) RB RQ oB.1 oQ.1
      refine ⟨D1, ?_, r1, f1⟩
      rw [vM_step_0, if_neg (by decide), vM_step_4, mGF m488, mGF m488, mGF m488, mr21, mr23, q1, aVC, tlN, vM_step_17]
  obtain ⟨D1, q1, r1, f1⟩ := key
  have q2 := mplus (d := d + 4) (ρ := ρ) hF.1 ka m506 (by decide) (by decide) (by decide) (PR_ne (f1 a (by omega) (by omega)) RA) r1 oA.1 iJ
  obtain ⟨D2, hD2⟩ : ∃ D2, D2 = pD D1 a (rI (pA A (pJ Φ side Q B))) := ⟨_, rfl⟩
  rw [← hD2] at q2
  have RA2 : PR D2 a (pA A (pJ Φ side Q B)) := by rw [hD2]; exact pD_PR
  have RB2 : PR D2 b B := PR_ne (by rw [hD2, pD_ne (fun e => hab e.symm), f1 b (by omega) (by omega)]) RB
  have sw : ∀ j : Nat, j ≤ 17 → ∃ u, Vl (d + 5) 235 44 [some (.inr (.inr (some 488))), some (.inr (.inr (some a))), some (.inr (.inr (some b))), some (.inl (side : Int)), some (.inl 0), none] [] (hp (1, ρ) D2) = Vl (d + 5) 235 44 [some (.inr (.inr (some 488))), some (.inr (.inr (some a))), some (.inr (.inr (some b))), some (.inl (side : Int)), some (.inl (j : Int)), u] [] (hp (1, ρ) (sw2 D2 a b j (rI B) (rI (pA A (pJ Φ side Q B))))) := by
    intro j
    induction j with
    | zero => exact fun _ => ⟨none, by rw [sw2_0]; rfl⟩
    | succ j ih =>
      intro hj
      obtain ⟨u, hu⟩ := ih (by omega)
      have e1 : sw2 D2 a b j (rI B) (rI (pA A (pJ Φ side Q B))) a j = (pA A (pJ Φ side Q B) j : Int) := by
        rw [← RA2 j (by omega)]; unfold sw2; rw [if_neg (by omega), if_neg (by omega)]
      have e2 : sw2 D2 a b j (rI B) (rI (pA A (pJ Φ side Q B))) b j = (B j : Int) := by
        rw [← RB2 j (by omega)]; unfold sw2; rw [if_neg (by omega), if_neg (by omega)]
      have e3 := sw2_s (D := D2) (j := j) (rB := rI B) (rA := rI (pA A (pJ Φ side Q B))) hab
      refine ⟨some (.inl (pA A (pJ Φ side Q B) j : Int)), ?_⟩
      rw [hu, vM_step_44, if_pos (by omega), vM_step_51, mIA ka, if_pos (by omega), mIA kb, if_pos (by omega), Int.toNat_natCast, e1, e2, mIS ka, if_pos (by omega), mIS kb, if_pos (by omega), Int.toNat_natCast, w32_s (by omega), ← e3]
      rfl
  obtain ⟨u, hu⟩ := sw 17 (Nat.le_refl _)
  refine ⟨sw2 D2 a b 17 (rI B) (rI (pA A (pJ Φ side Q B))), ?_, fun k hk => ?_, fun k hk => ?_, fun q a1 a2 a3 a4 => by rw [sw2_ne a1 a2, hD2, pD_ne a1, f1 q a3 a4]⟩
  · rw [q1, vM_step_33, mGF m488, mr23, q2, aVC, tlN, vM_step_41, hu, vM_step_44, if_neg (by omega), vM_step_77]
  · unfold sw2; rw [if_pos ⟨rfl, hk⟩]; rfl
  · unfold sw2; rw [if_neg (fun z => hab z.1.symm), if_pos ⟨rfl, hk⟩]; rfl
theorem mcom_loop {side sf sg : Nat} (hs : side < 2) (hf17 : sf ≤ 17) (hg17 : sg ≤ 17) (o1 o2 : Option Nat) : ∀ (n : Nat) (S : eS) (D : jD), sz S.2.1 < n → MF Φ D → MES D S → eOK Φ sf sg S →
    ∃ D', Vl (d + 7) 234 62 [some (.inr (.inr (some 488))), some (.inr (.inr o1)), some (.inr (.inr o2)), some (.inl (side : Int))] [] (hp (1, ρ) D) = some ((0, none), hp (1, ρ) D') ∧ MES D' (eul Φ side n S) ∧ ∀ q, (q < 497 ∨ 510 < q) → D' q = D q
  | 0, S, D, h, _, _, _ => absurd h (Nat.not_lt_zero _)
  | n + 1, S, D, h, hF, hM, hO => by
    obtain ⟨M1, M2, M3, M4, M5, M6⟩ := hM
    have q1 := mdeg (d := d + 6) (ρ := ρ) m503 (by decide) M2
    rw [vM_commonOf_62, mGF m488, mr20, q1, aVC, tlS, vM_commonOf_69]
    unfold eul
    by_cases hz : sz S.2.1 = 0
    · rw [if_pos (by omega), if_pos hz, vM_commonOf_148]
      exact ⟨D, rfl, ⟨M1, M2, M3, M4, M5, M6⟩, fun _ _ => rfl⟩
    have hO' := eSt_OK hF.1 hf17 hg17 (side := side) hO hz
    obtain ⟨o1', o2', o3', o4', o5', o6', -⟩ := hO
    obtain ⟨t, ht⟩ : ∃ t, sz S.2.1 = t + 1 := ⟨sz S.2.1 - 1, by omega⟩
    obtain ⟨e1, e2, e3, e4, -, -⟩ := dvd_fact hF.1 (side := side) o1'.1 o2'.1 o1'.2 o2'.2 ht
    have hsz1 := sz_le S.1
    have hsz2 := sz_le S.2.1
    have oQ : pOK Φ (dvd Φ side S.1 S.2.1).1 := ⟨e1, dle_mono e3 (by omega)⟩
    obtain ⟨D1, p1, r1, r2, f1⟩ := mdivide (d := d) (ρ := ρ) hF hs (cf := 502) (cg := 503) (cq := 504) (cr := 505) ⟨m502, by decide, by decide⟩ ⟨m503, by decide, by decide⟩ ⟨m504, by decide, by decide⟩ ⟨m505, by decide, by decide⟩ (by decide) (by decide) (by decide) (by decide) M1 M2 o1' o2' hz
    have g1 : ∀ q, q ≠ 504 → q ≠ 505 → (q < 497 ∨ 501 < q) → D1 q = D q := f1
    have k1 := mcpy (d := d + 6) (ρ := ρ) m503 m502 (by decide) (by decide) (by decide) (by decide) (PR_ne (g1 503 (by decide) (by decide) (by decide)) M2)
    have k2 := mcpy (d := d + 6) (ρ := ρ) (D := pD D1 502 (rI S.2.1)) m505 m503 (by decide) (by decide) (by decide) (by decide) (PR_ne (pD_ne (by decide)) r2)
    obtain ⟨D2, hD2⟩ : ∃ D2, D2 = pD (pD D1 502 (rI S.2.1)) 503 (rI (dvd Φ side S.1 S.2.1).2) := ⟨_, rfl⟩
    rw [← hD2] at k2
    have g2 : ∀ q, q ≠ 502 → q ≠ 503 → q ≠ 504 → q ≠ 505 → (q < 497 ∨ 501 < q) → D2 q = D q := fun q a b c e z => by rw [hD2, pD_ne b, pD_ne a, g1 q c e z]
    have R504 : PR D2 504 (dvd Φ side S.1 S.2.1).1 := PR_ne (by rw [hD2, pD_ne (by decide), pD_ne (by decide)]) r1
    have hF2 : MF Φ D2 := MF_cg hF (g2 488 (by decide) (by decide) (by decide) (by decide) (by decide))
    obtain ⟨D3, p3, s1, s2, f3⟩ := mstep (d := d + 1) (ρ := ρ) hF2 hs (a := 507) (b := 509) (by decide) (by decide) (by decide) m507 m509 (PR_ne (g2 507 (by decide) (by decide) (by decide) (by decide) (by decide)) M3) (PR_ne (g2 509 (by decide) (by decide) (by decide) (by decide) (by decide)) M4) R504 o3' o4' oQ
    obtain ⟨D4, p4, s3, s4, f4⟩ := mstep (d := d + 1) (ρ := ρ) (D := D3) (MF_cg hF2 (f3 488 (by decide) (by decide) (by decide) (by decide))) hs (a := 508) (b := 510) (by decide) (by decide) (by decide) m508 m510 (PR_ne (by rw [f3 508 (by decide) (by decide) (by decide) (by decide), g2 508 (by decide) (by decide) (by decide) (by decide) (by decide)]) M5) (PR_ne (by rw [f3 510 (by decide) (by decide) (by decide) (by decide), g2 510 (by decide) (by decide) (by decide) (by decide) (by decide)]) M6) (PR_ne (f3 504 (by decide) (by decide) (by decide) (by decide)) R504) o5' o6' oQ
    have h502 : PR D4 502 S.2.1 := PR_ne (by rw [f4 502 (by decide) (by decide) (by decide) (by decide), f3 502 (by decide) (by decide) (by decide) (by decide), hD2, pD_ne (by decide)]) pD_PR
    have h503 : PR D4 503 (dvd Φ side S.1 S.2.1).2 := PR_ne (by rw [f4 503 (by decide) (by decide) (by decide) (by decide), f3 503 (by decide) (by decide) (by decide) (by decide), hD2]) pD_PR
    have hM4 : MES D4 (eSt Φ side S) := ⟨h502, h503, PR_ne (f4 507 (by decide) (by decide) (by decide) (by decide)) s1, PR_ne (f4 509 (by decide) (by decide) (by decide) (by decide)) s2, s3, s4⟩
    have hF4 : MF Φ D4 := MF_cg hF (by rw [f4 488 (by decide) (by decide) (by decide) (by decide), f3 488 (by decide) (by decide) (by decide) (by decide), g2 488 (by decide) (by decide) (by decide) (by decide) (by decide)])
    have hlt : sz (eSt Φ side S).2.1 < n := by
      have := sz_dle_le e4
      show sz (dvd Φ side S.1 S.2.1).2 < n
      omega
    obtain ⟨D5, p5, M5', f5⟩ := mcom_loop hs hf17 hg17 o1 o2 n (eSt Φ side S) D4 hlt hF4 hM4 hO'.1
    rw [if_neg (by omega), if_neg hz]
    refine ⟨D5, ?_, M5', fun q hq => by rw [f5 q hq, f4 q (by omega) (by omega) (by omega) (by omega), f3 q (by omega) (by omega) (by omega) (by omega), g2 q (by omega) (by omega) (by omega) (by omega) (by omega)]⟩
    rw [vM_commonOf_72]
    simp only [mGF m488, mr19, mr20, mr21, mr22]
    rw [p1, aVC, tlN, vM_commonOf_93]
    simp only [mGF m488, mr19, mr20]
    rw [k1, aVC, tlN, vM_commonOf_106]
    simp only [mGF m488, mr20, mr22]
    rw [k2, aVC, tlN, vM_commonOf_119]
    simp only [mGF m488, mr24, mr26]
    rw [p3, aVC, tlN, vM_commonOf_132]
    simp only [mGF m488, mr25, mr27]
    rw [p4, aVC, tlN, vM_commonOf_145]
    exact p5
end MCOM
