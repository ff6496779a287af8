/-! The class's Reader: what an expression tells; brackets and words -/
abbrev pr : Type := (Nat × Nat) ⊕ (pl × tk)
abbrev sx : Type := (Nat → Nat) × Nat × aT × (Nat → Nat)
abbrev sX (X : sx) : Nat → Nat := X.1
abbrev sN (X : sx) : Nat := X.2.1
abbrev sA (X : sx) : aT := X.2.2.1
abbrev sC (X : sx) : Nat → Nat := X.2.2.2
def nx (X : sx) (t : tk) : tk := scn (sX X) (sN X) t.2.2.2
def wkS (k : Int) : Nat := if k = 6 ∨ k = 7 ∨ k = 9 ∨ k = 11 then 1 else 0
def wrk (Φ : gF) (k : Int) (F G : pl) : Option pl := if k ≤ 7 then (if sz G = 0 then none else some (if k = 4 ∨ k = 6 then (dvd Φ (wkS k) F G).1 else (dvd Φ (wkS k) F G).2)) else if k < 10 then some (cPart Φ (wkS k) (ceul Φ (wkS k) F G)) else if cfit F G (ceul Φ (wkS k) F G).1 = true then some (cMul Φ (wkS k) F G) else none
def psW (X : sx) (w : Nat) (t : tk) : (Nat × Nat) ⊕ tk := if t.1 = w then .inr (nx X t) else .inl (1, t.2.1)
def brP (X : sx) (sub : Option (tk → pr)) (t : tk) : pr := match sub with
  | none => .inl (4, t.2.1)
  | some S => match S (nx X t) with
    | .inl e => .inl e
    | .inr (v, t1) => match psW X 41 t1 with
      | .inl e => .inl e
      | .inr t2 => .inr (v, t2)
def whP (X : sx) (sub : Option (tk → pr)) (k : Int) (t : tk) : pr := match sub with
  | none => .inl (4, t.2.1)
  | some S => match psW X 40 (nx X t) with
    | .inl e => .inl e
    | .inr t1 => match S t1 with
      | .inl e => .inl e
      | .inr (F, t2) => match psW X 44 t2 with
        | .inl e => .inl e
        | .inr t3 => match S t3 with
          | .inl e => .inl e
          | .inr (G, t4) => match psW X 41 t4 with
            | .inl e => .inl e
            | .inr t5 => match wrk (tF (sA X)) k F G with
              | none => .inl ((if k ≤ 7 then 5 else 4), t.2.1)
              | some v => .inr (v, t5)
def EQ (D D' : jD) (B : Nat) : Prop := ∀ q, q ≠ 111 → (q < 173 ∨ (174 ≤ q ∧ q < 179) ∨ q = 209 ∨ q = 215 ∨ (216 ≤ q ∧ q < B) ∨ 279 ≤ q) → D' q = D q
def EF (D D' : jD) (B : Nat) : Prop := EQ D D' B ∧ ∀ j, j < 12 → D' 111 j = D 111 j
def EV (D : jD) (X : sx) : Prop := RX D (sX X) (sN X) ∧ TS D 112 (sA X) ∧ TOK (sA X) ∧ FT (tF (sA X)) D 174 ∧ ∀ i, i < tN (sA X) → D 209 i = (sC X i : Int)
def PO (ω : jw) (D : jD) (B cell : Nat) (Φ : gF) (r : pr) (run : Option jr) : Prop := match r with
  | .inl e => ∃ D', run = some ((0, some (.inl 0)), hp ω D') ∧ D' 111 2 = (e.1 : Int) ∧ D' 111 3 = (e.2 : Int) ∧ EQ D D' B
  | .inr r => ∃ D', run = some ((0, some (.inl 1)), hp ω D') ∧ PR D' cell r.1 ∧ pOK Φ r.1 ∧ TKD D' r.2 ∧ EF D D' B
def SUBOK (ω : jw) (X : sx) (k dp : Nat) (sub : Option (tk → pr)) : Prop := match sub with
  | none => dp = 6
  | some S => dp < 6 ∧ ∀ D t, EV D X → TKD D t → PO ω D (216 + 9 * (dp + 1)) (216 + 9 * (dp + 1) + 2) (tF (sA X)) (S t) (Vl k 47 0 [some (.inr (.inr (some 111))), some (.inl ((dp + 1 : Nat) : Int)), none, none] [] (hp ω D))
section EX1
variable {d : Nat} {ω : jw} {D D' D2 : jD} {X : sx} {t : tk} {B B' : Nat}
theorem EF_refl : EF D D B := ⟨fun _ _ _ => rfl, fun _ _ => rfl⟩
theorem EF_trans (h1 : EF D D' B) (h2 : EF D' D2 B') (hB : B ≤ B') : EF D D2 B := ⟨fun q hq h => by rw [h2.1 q hq (by omega), h1.1 q hq h], fun j a => by rw [h2.2 j a, h1.2 j a]⟩
theorem EF_mono (h : EF D D' B') (hB : B ≤ B') : EF D D' B := ⟨fun q hq z => h.1 q hq (by omega), h.2⟩
theorem EF_sT : EF D (sT D t) B := ⟨fun q hq _ => sT_ne hq, fun j h => sT_far (by omega)⟩
theorem EQ_trans (h1 : EQ D D' B) (h2 : EQ D' D2 B') (hB : B ≤ B') : EQ D D2 B := fun q hq h => by rw [h2 q hq (by omega), h1 q hq h]
theorem EQ_sF {f p : Int} : EQ D (sF D f p) B := fun q hq _ => by unfold sF; rw [sD_ne hq, sD_ne hq]
theorem EF_pD {c : Nat} {r : Nat → Int} (h1 : c ≠ 111) (h : 173 ≤ c) (h2 : c < 174 ∨ 179 ≤ c) (h3 : c ≠ 209) (h4 : c ≠ 215) (h5 : c < 216 ∨ B ≤ c) (h6 : c < 279) : EF D (pD D c r) B := ⟨fun q _ z => pD_ne (by omega), fun j _ => by rw [pD_ne (by omega)]⟩
theorem EV_EF (hE : EV D X) (h : EF D D' B) : EV D' X := by
  obtain ⟨h1, h2, h3, h4, h5⟩ := hE
  exact ⟨RX_cg h1 (h.2 10 (by decide)) (h.1 215 (by decide) (by omega)), TS_fr h3 h2 (fun c a b => h.1 c (by omega) (by omega)), h3, FT_congr (fun c a b => h.1 c (by omega) (by omega)) h4, fun i hi => by rw [h.1 209 (by decide) (by omega)]; exact h5 i hi⟩
theorem sF_2 {f p : Int} : sF D f p 111 2 = f := by unfold sF sD; rw [if_neg (by omega), if_pos ⟨rfl, rfl⟩]
theorem sF_3 {f p : Int} : sF D f p 111 3 = p := sD_eq
theorem TKD_pD (hT : TKD D t) {c : Nat} {r : Nat → Int} (h : c ≠ 111) : TKD (pD D c r) t := by
  unfold TKD; rw [pD_ne (fun e => h e.symm)]; exact hT
theorem scanX (hE : EV D X) (hT : TKD D t) : Vl (d + 2) 26 0 [some (.inr (.inr (some 111))), none] [] (hp ω D) = some ((0, none), hp ω (sT D (nx X t))) := scan_spec hE.1 hT.2.2.2
/-- pass: the next TOKEN, or 1 and the place -/
theorem passX (hE : EV D X) (hT : TKD D t) {w : Nat} : Vl (d + 3) 43 0 [some (.inr (.inr (some 111))), some (.inl (w : Int))] [] (hp ω D) = match psW X w t with
    | .inl e => some ((0, some (.inl 0)), hp ω (sF D (e.1 : Int) (e.2 : Int)))
    | .inr t1 => some ((0, some (.inl 1)), hp ω (sT D t1)) := by
  rw [pass_spec hE.1 hT]
  unfold psW
  by_cases h : t.1 = w
  · rw [if_pos h, if_pos h]; rfl
  · rw [if_neg h, if_neg h]; rfl
theorem PO_bad {f p : Nat} {run : Option jr} {cell : Nat} {Φ : gF} (h : EF D D' B) (hr : run = some ((0, some (.inl 0)), hp ω (sF D' (f : Int) (p : Int)))) : PO ω D B cell Φ (.inl (f, p)) run := ⟨_, hr, sF_2, sF_3, EQ_trans h.1 (B' := B) EQ_sF (Nat.le_refl _)⟩
theorem PO_fr {run run' : Option jr} {cell cell' B0 : Nat} {Φ : gF} {e : Nat × Nat} (h : PO ω D' B' cell' Φ (.inl e) run) (hf : EF D D' B0) (h0 : B ≤ B0) (hB : B ≤ B') (hr : ∀ D2, run = some ((0, some (.inl 0)), hp ω D2) → run' = some ((0, some (.inl 0)), hp ω D2)) : PO ω D B cell Φ (.inl e) run' := by
  obtain ⟨D2, q1, q2, q3, q4⟩ := h
  exact ⟨D2, hr D2 q1, q2, q3, EQ_trans (EF_mono hf h0).1 q4 hB⟩
theorem isV6 {dp : Nat} (h : dp < 7) : isV (216 + 9 * dp) := vV_i h
theorem bracket_spec {k dp : Nat} {sub : Option (tk → pr)} (hs : SUBOK ω X (d + 4) dp sub) (hd : dp < 7) (hE : EV D X) (hT : TKD D t) : PO ω D (216 + 9 * dp + 5) (216 + 9 * dp + 6) (tF (sA X)) (brP X sub t) (Vl (d + 5) 53 0 [some (.inr (.inr (some 111))), some (.inl (dp : Int))] [] (hp ω D)) := by
  unfold brP
  cases sub with
  | none =>
    have h6 : dp = 6 := hs
    refine PO_bad (D' := D) EF_refl ?_
    rw [vR_bracket_0, if_neg (by omega), vR_bracket_6, aGF kR, aGF kR, hD, hT.2.1, refuse_spec, aVC, tlS, vR_bracket_15, aZ0]; rfl
  | some S =>
    obtain ⟨h6, hS⟩ := hs
    have v0 := isV6 hd
    have v1 := isV6 (show dp + 1 < 7 by omega)
    have q0 := scanX (ω := ω) (d := d + 2) hE hT
    have e0 : EF D (sT D (nx X t)) (216 + 9 * (dp + 1)) := EF_sT
    have hE1 : EV (sT D (nx X t)) X := EV_EF hE e0
    have p1 := hS (sT D (nx X t)) (nx X t) hE1 sT_TKD
    have st : Vl (d + 5) 53 0 [some (.inr (.inr (some 111))), some (.inl (dp : Int))] [] (hp ω D) = vC (Vl (d + 4) 47 0 [some (.inr (.inr (some 111))), some (.inl ((dp + 1 : Nat) : Int)), none, none] [] (hp ω (sT D (nx X t)))) (fun r1 h2 => Vl (d + 5) 53 27 [some (.inr (.inr (some 111))), some (.inl (dp : Int))] (r1.toList ++ []) h2) := by
      rw [vR_bracket_0, if_pos (by omega), vR_bracket_16, aGF kR, q0, aVC, tlN, vR_bracket_20, aGF kR, w32_s (by omega)]
    rw [st]
    dsimp only
    cases hr : S (nx X t) with
    | inl e =>
      rw [hr] at p1
      refine PO_fr p1 e0 (by omega) (by omega) (fun D2 q => ?_)
      rw [q, aVC, tlS, vR_bracket_27, if_pos rfl, vR_bracket_39, aZ0]
    | inr r =>
      rw [hr] at p1
      obtain ⟨v, t1⟩ := r
      obtain ⟨D2, q1, q2, q3, q4, q5⟩ := p1
      have e2 : EF D D2 (216 + 9 * (dp + 1)) := EF_trans e0 q5 (Nat.le_refl _)
      have q6 := passX (ω := ω) (d := d + 1) (w := 41) (EV_EF hE1 q5) q4
      rw [q1, aVC, tlS, vR_bracket_27, if_neg (by decide), vR_bracket_30, aGF kR]
      dsimp only
      cases hw : psW X 41 t1 with
      | inl e =>
        rw [hw] at q6
        refine PO_bad (EF_mono e2 (by omega)) ?_
        rw [show (41 : Int) = ((41 : Nat) : Int) from rfl, q6]
        show vC (some ((0, some (.inl 0)), _)) _ = _
        rw [aVC, tlS, vR_bracket_36, if_pos rfl, vR_bracket_39, aZ0]
      | inr t2 =>
        rw [hw] at q6
        have q7 := copyF (ω := ω) (D := sT D2 t2) (d := d + 4) (pV_5 v0) (pV_1 v1) (PR_ne (sT_ne (by omega)) q2)
        refine ⟨pD (sT D2 t2) (216 + 9 * dp + 5 + 1) (rI v), ?_, pD_PR, q3, TKD_pD sT_TKD (by omega), EF_trans (EF_trans (EF_mono e2 (by omega)) (EF_sT (B := 216 + 9 * dp + 5)) (Nat.le_refl _)) (EF_pD (by omega) (by omega) (by omega) (by omega) (by omega) (by omega) (by omega)) (Nat.le_refl _)⟩
        rw [show (41 : Int) = ((41 : Nat) : Int) from rfl, q6]
        show vC (some ((0, some (.inl 1)), _)) _ = _
        rw [aVC, tlS, vR_bracket_36, if_neg (by decide), vR_bracket_41, aGF kR, level_spec hd, aVC, tlS, vR_bracket_46, aGF (kV v0), aGF kR, w32_s (by omega), level_spec (by omega), rV_2 v0, aVC, tlS, vR_bracket_56, aGF (kV v1), rV_0 v1, aGF (kP (pV_5 v0)), q7, aVC, tlN, vR_bracket_62, aZ1]
end EX1
