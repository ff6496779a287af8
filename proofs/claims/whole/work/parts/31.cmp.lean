/-! COMMON PART AND MULTIPLE in the class -/
abbrev pl : Type := Nat → Nat
abbrev eS : Type := pl × pl × pl × pl × pl × pl
def eSt (Φ : gF) (side : Nat) (S : eS) : eS := (S.2.1, (dvd Φ side S.1 S.2.1).2, S.2.2.2.1, pA S.2.2.1 (pJ Φ side (dvd Φ side S.1 S.2.1).1 S.2.2.2.1), S.2.2.2.2.2, pA S.2.2.2.2.1 (pJ Φ side (dvd Φ side S.1 S.2.1).1 S.2.2.2.2.2))
def eul (Φ : gF) (side : Nat) : Nat → eS → eS
  | 0, S => S
  | n + 1, S => if sz S.2.1 = 0 then S else eul Φ side n (eSt Φ side S)
def pOK (Φ : gF) (F : pl) : Prop := inF Φ F ∧ dle F 17
def eI (s : Nat) (a a' P N : pl) : Prop := (sz a' = 0 ∨ sz a' + sz P ≤ s + 1) ∧ (sz a = 0 ∨ sz a + sz N ≤ s + 1)
def eOK (Φ : gF) (sf sg : Nat) (S : eS) : Prop := pOK Φ S.1 ∧ pOK Φ S.2.1 ∧ pOK Φ S.2.2.1 ∧ pOK Φ S.2.2.2.1 ∧ pOK Φ S.2.2.2.2.1 ∧ pOK Φ S.2.2.2.2.2 ∧ eI sg S.2.2.1 S.2.2.2.1 S.1 S.2.1 ∧ eI sf S.2.2.2.2.1 S.2.2.2.2.2 S.1 S.2.1
section EUL
variable {Φ : gF}
theorem pJ_sz {side : Nat} {A B : pl} (hA : dle A 17) (hB : dle B 17) : sz (pJ Φ side A B) ≤ (if sz A = 0 ∨ sz B = 0 then 0 else sz A + sz B - 1) := by
  split
  · rename_i h
    have e : pJ Φ side A B = p0 := by
      unfold pJ
      rcases h with h | h
      · rw [sz_z hA h, sz_p0]
        split
        · exact pP_0r _ _
        · rfl
      · rw [sz_z hB h, sz_p0]
        split
        · rfl
        · exact pP_0r _ _
    rw [e, sz_p0]; exact Nat.le_refl _
  · exact sz_dle_le (pJ_dle hA hB _ (by omega))
theorem pA_sz {A B : pl} (hA : dle A 17) (hB : dle B 17) : sz (pA A B) ≤ max (sz A) (sz B) := sz_dle_le (pA_dle (dle_mono (sz_dle hA) (by omega)) (dle_mono (sz_dle hB) (by omega)))
theorem eI_step {s sP sN sQ sR sa sa' sJ sn : Nat} (h1 : sa' = 0 ∨ sa' + sP ≤ s + 1) (h2 : sa = 0 ∨ sa + sN ≤ s + 1) (hN : sN ≠ 0) (hQ : sQ ≤ sP + 1 - sN) (hR : sR ≤ sN - 1) (hR2 : sR ≤ sP) (hJ : sJ ≤ (if sQ = 0 ∨ sa' = 0 then 0 else sQ + sa' - 1)) (hn : sn ≤ max sa sJ) : (sn = 0 ∨ sn + sN ≤ s + 1) ∧ (sa' = 0 ∨ sa' + sR ≤ s + 1) := by
  split at hJ <;> omega
theorem eSt_OK (h : FOK Φ) {side sf sg : Nat} (hsf : sf ≤ 17) (hsg : sg ≤ 17) {S : eS} (hS : eOK Φ sf sg S) (hN : sz S.2.1 ≠ 0) : eOK Φ sf sg (eSt Φ side S) ∧ (sz (dvd Φ side S.1 S.2.1).1 = 0 ∨ sz S.2.2.2.1 = 0 ∨ sz (dvd Φ side S.1 S.2.1).1 + sz S.2.2.2.1 ≤ 18) ∧ (sz (dvd Φ side S.1 S.2.1).1 = 0 ∨ sz S.2.2.2.2.2 = 0 ∨ sz (dvd Φ side S.1 S.2.1).1 + sz S.2.2.2.2.2 ≤ 18) ∧ pOK Φ (dvd Φ side S.1 S.2.1).1 ∧ pOK Φ (dvd Φ side S.1 S.2.1).2 := by
  obtain ⟨P, N, a, a', c, c'⟩ := S
  obtain ⟨oP, oN, oa, oa', oc, oc', i1, i2⟩ := hS
  dsimp only at *
  obtain ⟨n, hn⟩ : ∃ n, sz N = n + 1 := ⟨sz N - 1, by omega⟩
  obtain ⟨q1, q2, q3, q4, q5, q6⟩ := dvd_fact h (side := side) oP.1 oN.1 oP.2 oN.2 hn
  have hP17 := sz_le P
  have hQ : sz (dvd Φ side P N).1 ≤ sz P + 1 - sz N := by
    have := sz_dle_le q3; omega
  have hR : sz (dvd Φ side P N).2 ≤ sz N - 1 := by
    have := sz_dle_le q4; omega
  have oQ : pOK Φ (dvd Φ side P N).1 := ⟨q1, dle_mono q3 (by omega)⟩
  have hN17 := sz_le N
  have oR : pOK Φ (dvd Φ side P N).2 := ⟨q2, dle_mono q4 (by omega)⟩
  have hJa := pJ_sz (Φ := Φ) (side := side) oQ.2 oa'.2
  have hJc := pJ_sz (Φ := Φ) (side := side) oQ.2 oc'.2
  have f1 : sz (dvd Φ side P N).1 = 0 ∨ sz a' = 0 ∨ sz (dvd Φ side P N).1 + sz a' ≤ 18 := by
    have := i1.1; omega
  have f2 : sz (dvd Φ side P N).1 = 0 ∨ sz c' = 0 ∨ sz (dvd Φ side P N).1 + sz c' ≤ 18 := by
    have := i2.1; omega
  have dJa : dle (pJ Φ side (dvd Φ side P N).1 a') 17 := by
    rcases f1 with f | f | f
    · exact pJ_dle oQ.2 oa'.2 17 (by have := sz_le a'; omega)
    · exact pJ_dle oQ.2 oa'.2 17 (by have := sz_le (dvd Φ side P N).1; omega)
    · exact pJ_dle oQ.2 oa'.2 17 (by omega)
  have dJc : dle (pJ Φ side (dvd Φ side P N).1 c') 17 := by
    rcases f2 with f | f | f
    · exact pJ_dle oQ.2 oc'.2 17 (by have := sz_le c'; omega)
    · exact pJ_dle oQ.2 oc'.2 17 (by have := sz_le (dvd Φ side P N).1; omega)
    · exact pJ_dle oQ.2 oc'.2 17 (by omega)
  refine ⟨⟨oN, oR, oa', ⟨pA_in oa.1 (pJ_in h oQ.1 oa'.1), pA_dle oa.2 dJa⟩, oc', ⟨pA_in oc.1 (pJ_in h oQ.1 oc'.1), pA_dle oc.2 dJc⟩, ?_, ?_⟩, f1, f2, oQ, oR⟩
  · exact eI_step i1.1 i1.2 hN hQ hR q6 hJa (pA_sz oa.2 dJa)
  · exact eI_step i2.1 i2.2 hN hQ hR q6 hJc (pA_sz oc.2 dJc)
theorem eul_OK (h : FOK Φ) {side sf sg : Nat} (hsf : sf ≤ 17) (hsg : sg ≤ 17) : ∀ (n : Nat) (S : eS), eOK Φ sf sg S → eOK Φ sf sg (eul Φ side n S)
  | 0, _, hS => hS
  | n + 1, S, hS => by
    unfold eul
    by_cases hz : sz S.2.1 = 0
    · rw [if_pos hz]; exact hS
    · rw [if_neg hz]
      exact eul_OK h hsf hsg n _ (eSt_OK h hsf hsg hS hz).1
/-- the steps end -/
theorem eul_end (h : FOK Φ) {side sf sg : Nat} (hsf : sf ≤ 17) (hsg : sg ≤ 17) : ∀ (n : Nat) (S : eS), eOK Φ sf sg S → sz S.2.1 ≤ n → sz (eul Φ side n S).2.1 = 0
  | 0, _, _, hz => Nat.le_zero.mp hz
  | n + 1, S, hS, hn => by
    unfold eul
    by_cases hz : sz S.2.1 = 0
    · rw [if_pos hz]; exact hz
    · rw [if_neg hz]
      refine eul_end h hsf hsg n _ (eSt_OK h hsf hsg hS hz).1 ?_
      obtain ⟨k, hk⟩ : ∃ k, sz S.2.1 = k + 1 := ⟨sz S.2.1 - 1, by omega⟩
      obtain ⟨q1, q2, q3, q4, q5, q6⟩ := dvd_fact h (side := side) hS.1.1 hS.2.1.1 hS.1.2 hS.2.1.2 hk
      have := sz_dle_le q4
      show sz (dvd Φ side S.1 S.2.1).2 ≤ n
      omega
theorem p0_OK (Φ : gF) : pOK Φ p0 := ⟨p0_in Φ, p0_dle 17⟩
theorem mono_OK {v k : Nat} (hv : v < 2 ^ Φ.1) (hk : k < 17) : pOK Φ (mono v k) := ⟨mono_in hv k, dle_mono (mono_dle v k) (by omega)⟩
def eS0 (F G : pl) : eS := (F, G, mono 1 0, p0, p0, mono 1 0)
theorem eS0_OK (h : FOK Φ) {F G : pl} (oF : pOK Φ F) (oG : pOK Φ G) : eOK Φ (sz F) (sz G) (eS0 F G) := by
  have h1 : (1 : Nat) < 2 ^ Φ.1 := by have := F_2 h; omega
  have s1 := sz_mono 1 0
  refine ⟨oF, oG, mono_OK h1 (by decide), p0_OK Φ, p0_OK Φ, mono_OK h1 (by decide), ?_, ?_⟩
  · exact ⟨Or.inl sz_p0, Or.inr (by show sz (mono 1 0) + sz G ≤ _; omega)⟩
  · exact ⟨Or.inr (by show sz (mono 1 0) + sz F ≤ _; omega), Or.inl sz_p0⟩
end EUL
/-- the number that makes monic -/
def mnum (Φ : gF) (side : Nat) (M : pl) : Nat := if side = 1 then fB Φ (sz M - 1) (fi Φ (if sz M = 0 then 0 else M (sz M - 1))) else fi Φ (if sz M = 0 then 0 else M (sz M - 1))
def pSc (Φ : gF) (side v : Nat) (M : pl) : pl := pJ Φ side (mono v 0) M
theorem mnum_lt {Φ : gF} (h : FOK Φ) {side : Nat} {M : pl} (hM : inF Φ M) : mnum Φ side M < 2 ^ Φ.1 := by
  have : (if sz M = 0 then 0 else M (sz M - 1)) < 2 ^ Φ.1 := by
    split
    · exact F_pos Φ
    · exact hM _
  unfold mnum
  split
  · exact fB_lt h (fi_lt h this) _
  · exact fi_lt h this
theorem pSc_OK {Φ : gF} (h : FOK Φ) {side v : Nat} (hv : v < 2 ^ Φ.1) {M : pl} (hM : pOK Φ M) : pOK Φ (pSc Φ side v M) := ⟨pJ_in h (mono_in hv 0) hM.1, pJ_dle (dle_mono (mono_dle v 0) (by decide)) hM.2 17 (by have := sz_le M; have := sz_mono v 0; omega)⟩
def cfit (F G P : pl) : Bool := decide (sz F = 0) || decide (sz G = 0) || decide (sz F + sz G ≤ sz P + 17)
def cmul (Φ : gF) (side : Nat) (F G : pl) (S : eS) : pl := if sz F = 0 ∨ sz G = 0 then p0 else if sz F + sz G ≤ sz S.1 + 17 then pJ Φ side S.2.2.2.1 F else p0
def ceul (Φ : gF) (side : Nat) (F G : pl) : eS := eul Φ side 19 (eS0 F G)
section CMP
variable {ω : jw} {D : jD} {b d : Nat} {Φ : gF}
/-- the rows of a ring at work -/
def ES (D : jD) (b : Nat) (S : eS) : Prop := PR D (b + 7) S.1 ∧ PR D (b + 27) S.2.1 ∧ PR D (b + 9) S.2.2.1 ∧ PR D (b + 29) S.2.2.2.1 ∧ PR D (b + 11) S.2.2.2.2.1 ∧ PR D (b + 31) S.2.2.2.2.2
theorem stepOn_spec (hb : isK b) (hF : FT Φ D (b + 1)) {x y : Nat} (hx : isP x) (hy : isP y) (hxy : x ≠ y) (y1 : y ≠ b + 16) (y2 : y ≠ b + 18) (y3 : y ≠ b + 34) (x1 : x ≠ b + 16) (x2 : x ≠ b + 18) (x3 : x ≠ b + 34) {A A' Q : pl} (RA : PR D (x + 1) A) (RA' : PR D (y + 1) A') (RQ : PR D (b + 32 + 1) Q) (oA : pOK Φ A) (oA' : pOK Φ A') (oQ : pOK Φ Q) {side : Nat} (hs : side < 2) (hfit : sz Q = 0 ∨ sz A' = 0 ∨ sz Q + sz A' ≤ 18) :
    ∃ D', Vl (d + 2) 74 0 [some (.inr (.inr (some b))), some (.inl (side : Int)), some (.inr (.inr (some x))), some (.inr (.inr (some y)))] [] (hp ω D) = some ((0, none), hp ω D') ∧ PR D' (x + 1) A' ∧ PR D' (y + 1) (pA A (pJ Φ side Q A')) ∧ ∀ c, c ≠ b + 17 → c ≠ b + 19 → c ≠ b + 35 → c ≠ x + 1 → c ≠ y + 1 → D' c = D c := by
  obtain ⟨D1, q1, R1, f1⟩ := join_spec (ω := ω) (d := d) hb hF (pK_32 hb) hy (pK_34 hb) (by omega) (by omega) y1 y2 RQ RA' oQ.1 oA'.1 oQ.2 oA'.2 hfit hs
  have A1 : PR D1 (x + 1) A := PR_ne (f1 _ (by omega) (by omega) (by omega)) RA
  have A1' : PR D1 (y + 1) A' := PR_ne (f1 _ (by omega) (by omega) (by omega)) RA'
  have q2 := addF (ω := ω) (d := d + 1) hF.1 hx (pK_34 hb) A1 R1 oA.1 (pJ_in hF.1 (side := side) oQ.1 oA'.1)
  have q3 := swap_spec (ω := ω) (d := d + 1) (D := pD D1 (x + 1) (rI (pA A (pJ Φ side Q A')))) hx hy hxy
  simp only [vK_stepOn_0, aGF (kK hb), rK_0 hb, aGF (kF (fK hb)), rK_1 hb, rK_2 hb, rK_3 hb, rK_4 hb, rK_6 hb, rK_7 hb, rK_8 hb, rK_9 hb, rK_10 hb, rK_11 hb, rK_12 hb, rK_13 hb, rK_14 hb, rK_15 hb, rK_16 hb, aGF (kP (pK_6 hb)), aGF (kP (pK_8 hb)), aGF (kP (pK_10 hb)), aGF (kP (pK_12 hb)), aGF (kP (pK_14 hb)), aGF (kP (pK_16 hb)), aGF (kP (pK_18 hb)), aGF (kP (pK_20 hb)), aGF (kP (pK_22 hb)), aGF (kP (pK_24 hb)), aGF (kP (pK_26 hb)), aGF (kP (pK_28 hb)), aGF (kP (pK_30 hb)), aGF (kP (pK_32 hb)), aGF (kP (pK_34 hb)), rP (pK_6 hb), rP (pK_8 hb), rP (pK_10 hb), rP (pK_12 hb), rP (pK_14 hb), rP (pK_16 hb), rP (pK_18 hb), rP (pK_20 hb), rP (pK_22 hb), rP (pK_24 hb), rP (pK_26 hb), rP (pK_28 hb), rP (pK_30 hb), rP (pK_32 hb), rP (pK_34 hb), q1, aVC, tlS, tlN, aLt, hD, hwD, vK_stepOn_14, aGF (kP hx), rP hx, q2, vK_stepOn_23, q3, vK_stepOn_28]
  refine ⟨_, rfl, ?_, ?_, ?_⟩
  · intro c hc
    rw [pD_ne (by omega), pD_lt hc, pD_ne (by omega), A1' c hc]
  · intro c hc
    rw [pD_lt hc, pD_lt hc]; rfl
  · intro c h1 h2 h3 h4 h5
    rw [pD_ne (by omega), pD_ne (by omega), pD_ne (by omega), f1 c h1 h2 (by omega)]
theorem compare_step (hb : isK b) (hF : FT Φ D (b + 1)) {side sf sg : Nat} (hs : side < 2) (hsf : sf ≤ 17) (hsg : sg ≤ 17) {S : eS} (hS : eOK Φ sf sg S) (hE : ES D b S) (hN : sz S.2.1 ≠ 0) (o2 o3 : Option Nat) {x4 : Int} (hx : 0 ≤ x4 ∧ x4 ≤ 18) :
    ∃ D', Vl (d + 3) 71 49 [some (.inr (.inr (some b))), some (.inl (side : Int)), some (.inr (.inr o2)), some (.inr (.inr o3)), some (.inl x4)] [] (hp ω D) = Vl (d + 3) 71 49 [some (.inr (.inr (some b))), some (.inl (side : Int)), some (.inr (.inr o2)), some (.inr (.inr o3)), some (.inl (x4 + 1))] [] (hp ω D') ∧ ES D' b (eSt Φ side S) ∧ ∀ c, (c < b + 6 ∨ b + 36 ≤ c) → D' c = D c := by
  obtain ⟨hO', g1, g2, oQ, oR⟩ := eSt_OK hF.1 (side := side) hsf hsg hS hN
  obtain ⟨P, N, a, a', c, c'⟩ := S
  obtain ⟨oP, oN, oa, oa', oc, oc', i1, i2⟩ := hS
  obtain ⟨eP, eN, ea, ea', ec, ec'⟩ := hE
  dsimp only at *
  have z1 := isZeroF (ω := ω) (d := d + 1) (pK_26 hb) eN
  obtain ⟨D1, q1, Q1, R1, f1⟩ := divide_spec (ω := ω) (d := d) hb hF (pK_6 hb) (pK_26 hb) (pK_32 hb) (pK_34 hb) (by omega) (by omega) (by omega) (by omega) (by omega) (by omega) (by omega) eP eN oP.1 oN.1 oP.2 oN.2 hs hN
  have N1 : PR D1 (b + 26 + 1) N := PR_ne (f1 _ (by omega) (by omega) (by omega) (by omega) (by omega) (by omega) (by omega)) eN
  have q2 := copyF (ω := ω) (d := d + 2) (pK_6 hb) (pK_26 hb) N1
  have R2 : PR (pD D1 (b + 6 + 1) (rI N)) (b + 34 + 1) (dvd Φ side P N).2 := PR_ne (pD_ne (by omega)) R1
  have q3 := copyF (ω := ω) (d := d + 2) (pK_26 hb) (pK_34 hb) R2
  obtain ⟨D3, hD3⟩ : ∃ D3, D3 = pD (pD D1 (b + 6 + 1) (rI N)) (b + 26 + 1) (rI (dvd Φ side P N).2) := ⟨_, rfl⟩
  rw [← hD3] at q3
  have f3 : ∀ c, c ≠ b + 17 → c ≠ b + 19 → c ≠ b + 21 → c ≠ b + 23 → c ≠ b + 25 → c ≠ b + 33 → c ≠ b + 35 → c ≠ b + 7 → c ≠ b + 27 → D3 c = D c := fun c h1 h2 h3 h4 h5 h6 h7 h8 h9 => by rw [hD3, pD_ne (by omega), pD_ne (by omega), f1 c h1 h2 h3 h4 h5 (by omega) (by omega)]
  have F3 : FT Φ D3 (b + 1) := FT_fr hF (fun c h1 h2 => f3 c (by omega) (by omega) (by omega) (by omega) (by omega) (by omega) (by omega) (by omega) (by omega))
  have P3 : PR D3 (b + 7) N := by rw [hD3]; exact PR_ne (pD_ne (by omega)) pD_PR
  have N3 : PR D3 (b + 27) (dvd Φ side P N).2 := by rw [hD3]; exact pD_PR
  have Q3 : PR D3 (b + 32 + 1) (dvd Φ side P N).1 := by rw [hD3]; exact PR_ne (by rw [pD_ne (by omega), pD_ne (by omega)]) Q1
  have a3 : PR D3 (b + 8 + 1) a := PR_ne (f3 _ (by omega) (by omega) (by omega) (by omega) (by omega) (by omega) (by omega) (by omega) (by omega)) ea
  have a3' : PR D3 (b + 28 + 1) a' := PR_ne (f3 _ (by omega) (by omega) (by omega) (by omega) (by omega) (by omega) (by omega) (by omega) (by omega)) ea'
  have c3 : PR D3 (b + 10 + 1) c := PR_ne (f3 _ (by omega) (by omega) (by omega) (by omega) (by omega) (by omega) (by omega) (by omega) (by omega)) ec
  have c3' : PR D3 (b + 30 + 1) c' := PR_ne (f3 _ (by omega) (by omega) (by omega) (by omega) (by omega) (by omega) (by omega) (by omega) (by omega)) ec'
  obtain ⟨D4, q4, A4, B4, f4⟩ := stepOn_spec (ω := ω) (d := d) hb F3 (pK_8 hb) (pK_28 hb) (by omega) (by omega) (by omega) (by omega) (by omega) (by omega) (by omega) a3 a3' Q3 oa oa' oQ hs g1
  have F4 : FT Φ D4 (b + 1) := FT_fr F3 (fun c h1 h2 => f4 c (by omega) (by omega) (by omega) (by omega) (by omega))
  have c4 : PR D4 (b + 10 + 1) c := PR_ne (f4 _ (by omega) (by omega) (by omega) (by omega) (by omega)) c3
  have c4' : PR D4 (b + 30 + 1) c' := PR_ne (f4 _ (by omega) (by omega) (by omega) (by omega) (by omega)) c3'
  have Q4 : PR D4 (b + 32 + 1) (dvd Φ side P N).1 := PR_ne (f4 _ (by omega) (by omega) (by omega) (by omega) (by omega)) Q3
  obtain ⟨D5, q5, A5, B5, f5⟩ := stepOn_spec (ω := ω) (d := d) hb F4 (pK_10 hb) (pK_30 hb) (by omega) (by omega) (by omega) (by omega) (by omega) (by omega) (by omega) c4 c4' Q4 oc oc' oQ hs g2
  refine ⟨D5, ?_, ⟨?_, ?_, ?_, ?_, A5, B5⟩, ?_⟩
  · rw [vK_compare_49, if_neg (by omega)]
    simp only [vK_compare_56, aGF (kK hb), rK_0 hb, aGF (kF (fK hb)), rK_1 hb, rK_2 hb, rK_3 hb, rK_4 hb, rK_6 hb, rK_7 hb, rK_8 hb, rK_9 hb, rK_10 hb, rK_11 hb, rK_12 hb, rK_13 hb, rK_14 hb, rK_15 hb, rK_16 hb, aGF (kP (pK_6 hb)), aGF (kP (pK_8 hb)), aGF (kP (pK_10 hb)), aGF (kP (pK_12 hb)), aGF (kP (pK_14 hb)), aGF (kP (pK_16 hb)), aGF (kP (pK_18 hb)), aGF (kP (pK_20 hb)), aGF (kP (pK_22 hb)), aGF (kP (pK_24 hb)), aGF (kP (pK_26 hb)), aGF (kP (pK_28 hb)), aGF (kP (pK_30 hb)), aGF (kP (pK_32 hb)), aGF (kP (pK_34 hb)), rP (pK_6 hb), rP (pK_8 hb), rP (pK_10 hb), rP (pK_12 hb), rP (pK_14 hb), rP (pK_16 hb), rP (pK_18 hb), rP (pK_20 hb), rP (pK_22 hb), rP (pK_24 hb), rP (pK_26 hb), rP (pK_28 hb), rP (pK_30 hb), rP (pK_32 hb), rP (pK_34 hb), z1, if_neg hN, aVC, tlS, tlN, aLt, hD, hwD]
    rw [vK_compare_63, if_pos rfl]
    simp only [vK_compare_66, aGF (kK hb), rK_0 hb, aGF (kF (fK hb)), rK_1 hb, rK_2 hb, rK_3 hb, rK_4 hb, rK_6 hb, rK_7 hb, rK_8 hb, rK_9 hb, rK_10 hb, rK_11 hb, rK_12 hb, rK_13 hb, rK_14 hb, rK_15 hb, rK_16 hb, aGF (kP (pK_6 hb)), aGF (kP (pK_8 hb)), aGF (kP (pK_10 hb)), aGF (kP (pK_12 hb)), aGF (kP (pK_14 hb)), aGF (kP (pK_16 hb)), aGF (kP (pK_18 hb)), aGF (kP (pK_20 hb)), aGF (kP (pK_22 hb)), aGF (kP (pK_24 hb)), aGF (kP (pK_26 hb)), aGF (kP (pK_28 hb)), aGF (kP (pK_30 hb)), aGF (kP (pK_32 hb)), aGF (kP (pK_34 hb)), rP (pK_6 hb), rP (pK_8 hb), rP (pK_10 hb), rP (pK_12 hb), rP (pK_14 hb), rP (pK_16 hb), rP (pK_18 hb), rP (pK_20 hb), rP (pK_22 hb), rP (pK_24 hb), rP (pK_26 hb), rP (pK_28 hb), rP (pK_30 hb), rP (pK_32 hb), rP (pK_34 hb), q1, aVC, tlS, tlN, aLt, hD, hwD, vK_compare_87, q2, vK_compare_99, q3, vK_compare_110, q4, vK_compare_123, q5, vK_compare_136]
    rw [show w32 (x4 + 1) = x4 + 1 by unfold w32; omega]
  · exact PR_ne (by rw [f5 _ (by omega) (by omega) (by omega) (by omega) (by omega), f4 _ (by omega) (by omega) (by omega) (by omega) (by omega)]) P3
  · exact PR_ne (by rw [f5 _ (by omega) (by omega) (by omega) (by omega) (by omega), f4 _ (by omega) (by omega) (by omega) (by omega) (by omega)]) N3
  · exact PR_ne (f5 _ (by omega) (by omega) (by omega) (by omega) (by omega)) A4
  · exact PR_ne (f5 _ (by omega) (by omega) (by omega) (by omega) (by omega)) B4
  · intro c hc
    rw [f5 _ (by omega) (by omega) (by omega) (by omega) (by omega), f4 _ (by omega) (by omega) (by omega) (by omega) (by omega), f3 _ (by omega) (by omega) (by omega) (by omega) (by omega) (by omega) (by omega) (by omega) (by omega)]
theorem compare_loop (hb : isK b) {side sf sg : Nat} (hs : side < 2) (hsf : sf ≤ 17) (hsg : sg ≤ 17) (o2 o3 : Option Nat) : ∀ (n : Nat) (S : eS) (D : jD), n ≤ 19 → FT Φ D (b + 1) → eOK Φ sf sg S → ES D b S →
    ∃ D' x, Vl (d + 3) 71 49 [some (.inr (.inr (some b))), some (.inl (side : Int)), some (.inr (.inr o2)), some (.inr (.inr o3)), some (.inl (19 - (n : Int)))] [] (hp ω D) = Vl (d + 3) 71 142 [some (.inr (.inr (some b))), some (.inl (side : Int)), some (.inr (.inr o2)), some (.inr (.inr o3)), some (.inl x)] [] (hp ω D') ∧ ES D' b (eul Φ side n S) ∧ FT Φ D' (b + 1) ∧ ∀ c, (c < b + 6 ∨ b + 36 ≤ c) → D' c = D c
  | 0, S, D, hn, hF, hS, hE => ⟨D, _, by rw [vK_compare_49, if_pos (by omega)], hE, hF, fun _ _ => rfl⟩
  | n + 1, S, D, hn, hF, hS, hE => by
    unfold eul
    by_cases hz : sz S.2.1 = 0
    · rw [if_pos hz]
      have z1 := isZeroF (ω := ω) (d := d + 1) (pK_26 hb) hE.2.1
      refine ⟨D, 19 - ((n + 1 : Nat) : Int), ?_, hE, hF, fun _ _ => rfl⟩
      rw [vK_compare_49, if_neg (by omega)]
      simp only [vK_compare_56, aGF (kK hb), rK_0 hb, aGF (kF (fK hb)), rK_1 hb, rK_2 hb, rK_3 hb, rK_4 hb, rK_6 hb, rK_7 hb, rK_8 hb, rK_9 hb, rK_10 hb, rK_11 hb, rK_12 hb, rK_13 hb, rK_14 hb, rK_15 hb, rK_16 hb, aGF (kP (pK_6 hb)), aGF (kP (pK_8 hb)), aGF (kP (pK_10 hb)), aGF (kP (pK_12 hb)), aGF (kP (pK_14 hb)), aGF (kP (pK_16 hb)), aGF (kP (pK_18 hb)), aGF (kP (pK_20 hb)), aGF (kP (pK_22 hb)), aGF (kP (pK_24 hb)), aGF (kP (pK_26 hb)), aGF (kP (pK_28 hb)), aGF (kP (pK_30 hb)), aGF (kP (pK_32 hb)), aGF (kP (pK_34 hb)), rP (pK_6 hb), rP (pK_8 hb), rP (pK_10 hb), rP (pK_12 hb), rP (pK_14 hb), rP (pK_16 hb), rP (pK_18 hb), rP (pK_20 hb), rP (pK_22 hb), rP (pK_24 hb), rP (pK_26 hb), rP (pK_28 hb), rP (pK_30 hb), rP (pK_32 hb), rP (pK_34 hb), z1, if_pos hz, aVC, tlS, tlN, aLt, hD, hwD]
      rw [vK_compare_63, if_neg (by decide)]
    · rw [if_neg hz]
      obtain ⟨D1, q1, E1, f1⟩ := compare_step (ω := ω) (d := d) hb hF hs hsf hsg hS hE hz o2 o3 (x4 := 19 - ((n + 1 : Nat) : Int)) (by omega)
      have F1 : FT Φ D1 (b + 1) := FT_fr hF (fun c h1 h2 => f1 c (by omega))
      obtain ⟨D2, x, q2, E2, F2, f2⟩ := compare_loop hb hs hsf hsg o2 o3 n _ D1 (by omega) F1 (eSt_OK hF.1 hsf hsg hS hz).1 E1
      refine ⟨D2, x, ?_, E2, F2, fun c hc => by rw [f2 c hc, f1 c hc]⟩
      rw [q1, show 19 - ((n + 1 : Nat) : Int) + 1 = 19 - (n : Int) by omega, q2]
end CMP
