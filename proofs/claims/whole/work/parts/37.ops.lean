/-! THE CLASS'S WHOLE STATE; its small methods -/
theorem q75_0 {ω : jw} {D : jD} : gR (hp ω D) 75 0 = some 76 := hR (show RF 75 0 76 by unfold RF; decide +kernel)
theorem q75_1 {ω : jw} {D : jD} : gR (hp ω D) 75 1 = some 81 := hR (show RF 75 1 81 by unfold RF; decide +kernel)
theorem q75_2 {ω : jw} {D : jD} : gR (hp ω D) 75 2 = some 83 := hR (show RF 75 2 83 by unfold RF; decide +kernel)
theorem q75_3 {ω : jw} {D : jD} : gR (hp ω D) 75 3 = some 85 := hR (show RF 75 3 85 by unfold RF; decide +kernel)
theorem q75_4 {ω : jw} {D : jD} : gR (hp ω D) 75 4 = some 87 := hR (show RF 75 4 87 by unfold RF; decide +kernel)
theorem q75_6 {ω : jw} {D : jD} : gR (hp ω D) 75 6 = some 89 := hR (show RF 75 6 89 by unfold RF; decide +kernel)
theorem q75_7 {ω : jw} {D : jD} : gR (hp ω D) 75 7 = some 91 := hR (show RF 75 7 91 by unfold RF; decide +kernel)
theorem q75_8 {ω : jw} {D : jD} : gR (hp ω D) 75 8 = some 93 := hR (show RF 75 8 93 by unfold RF; decide +kernel)
theorem q75_9 {ω : jw} {D : jD} : gR (hp ω D) 75 9 = some 95 := hR (show RF 75 9 95 by unfold RF; decide +kernel)
theorem q75_10 {ω : jw} {D : jD} : gR (hp ω D) 75 10 = some 97 := hR (show RF 75 10 97 by unfold RF; decide +kernel)
theorem q75_11 {ω : jw} {D : jD} : gR (hp ω D) 75 11 = some 99 := hR (show RF 75 11 99 by unfold RF; decide +kernel)
theorem q75_12 {ω : jw} {D : jD} : gR (hp ω D) 75 12 = some 101 := hR (show RF 75 12 101 by unfold RF; decide +kernel)
theorem q75_13 {ω : jw} {D : jD} : gR (hp ω D) 75 13 = some 103 := hR (show RF 75 13 103 by unfold RF; decide +kernel)
theorem q75_14 {ω : jw} {D : jD} : gR (hp ω D) 75 14 = some 105 := hR (show RF 75 14 105 by unfold RF; decide +kernel)
theorem q75_15 {ω : jw} {D : jD} : gR (hp ω D) 75 15 = some 107 := hR (show RF 75 15 107 by unfold RF; decide +kernel)
theorem q75_16 {ω : jw} {D : jD} : gR (hp ω D) 75 16 = some 109 := hR (show RF 75 16 109 by unfold RF; decide +kernel)
theorem q66_0 {ω : jw} {D : jD} : gR (hp ω D) 66 0 = some 67 := hR (show RF 66 0 67 by unfold RF; decide +kernel)
theorem q66_1 {ω : jw} {D : jD} : gR (hp ω D) 66 1 = some 69 := hR (show RF 66 1 69 by unfold RF; decide +kernel)
theorem q66_2 {ω : jw} {D : jD} : gR (hp ω D) 66 2 = some 71 := hR (show RF 66 2 71 by unfold RF; decide +kernel)
theorem q66_3 {ω : jw} {D : jD} : gR (hp ω D) 66 3 = some 73 := hR (show RF 66 3 73 by unfold RF; decide +kernel)
theorem q64_0 {ω : jw} {D : jD} : gR (hp ω D) 64 0 = some 366 := hR (show RF 64 0 366 by unfold RF; decide +kernel)
theorem q64_1 {ω : jw} {D : jD} : gR (hp ω D) 64 1 = some 427 := hR (show RF 64 1 427 by unfold RF; decide +kernel)
theorem q173_0 {ω : jw} {D : jD} : gR (hp ω D) 173 0 = some 174 := hR (show RF 173 0 174 by unfold RF; decide +kernel)
theorem q173_1 {ω : jw} {D : jD} : gR (hp ω D) 173 1 = some 179 := hR (show RF 173 1 179 by unfold RF; decide +kernel)
theorem q173_2 {ω : jw} {D : jD} : gR (hp ω D) 173 2 = some 181 := hR (show RF 173 2 181 by unfold RF; decide +kernel)
theorem q173_3 {ω : jw} {D : jD} : gR (hp ω D) 173 3 = some 183 := hR (show RF 173 3 183 by unfold RF; decide +kernel)
theorem q173_4 {ω : jw} {D : jD} : gR (hp ω D) 173 4 = some 185 := hR (show RF 173 4 185 by unfold RF; decide +kernel)
theorem q173_6 {ω : jw} {D : jD} : gR (hp ω D) 173 6 = some 187 := hR (show RF 173 6 187 by unfold RF; decide +kernel)
theorem q173_7 {ω : jw} {D : jD} : gR (hp ω D) 173 7 = some 189 := hR (show RF 173 7 189 by unfold RF; decide +kernel)
theorem q173_8 {ω : jw} {D : jD} : gR (hp ω D) 173 8 = some 191 := hR (show RF 173 8 191 by unfold RF; decide +kernel)
theorem q173_9 {ω : jw} {D : jD} : gR (hp ω D) 173 9 = some 193 := hR (show RF 173 9 193 by unfold RF; decide +kernel)
theorem q173_10 {ω : jw} {D : jD} : gR (hp ω D) 173 10 = some 195 := hR (show RF 173 10 195 by unfold RF; decide +kernel)
theorem q173_11 {ω : jw} {D : jD} : gR (hp ω D) 173 11 = some 197 := hR (show RF 173 11 197 by unfold RF; decide +kernel)
theorem q173_12 {ω : jw} {D : jD} : gR (hp ω D) 173 12 = some 199 := hR (show RF 173 12 199 by unfold RF; decide +kernel)
theorem q173_13 {ω : jw} {D : jD} : gR (hp ω D) 173 13 = some 201 := hR (show RF 173 13 201 by unfold RF; decide +kernel)
theorem q173_14 {ω : jw} {D : jD} : gR (hp ω D) 173 14 = some 203 := hR (show RF 173 14 203 by unfold RF; decide +kernel)
theorem q173_15 {ω : jw} {D : jD} : gR (hp ω D) 173 15 = some 205 := hR (show RF 173 15 205 by unfold RF; decide +kernel)
theorem q173_16 {ω : jw} {D : jD} : gR (hp ω D) 173 16 = some 207 := hR (show RF 173 16 207 by unfold RF; decide +kernel)
theorem q286_0 {ω : jw} {D : jD} : gR (hp ω D) 286 0 = some 287 := hR (show RF 286 0 287 by unfold RF; decide +kernel)
theorem q286_1 {ω : jw} {D : jD} : gR (hp ω D) 286 1 = some 289 := hR (show RF 286 1 289 by unfold RF; decide +kernel)
theorem q286_2 {ω : jw} {D : jD} : gR (hp ω D) 286 2 = some 291 := hR (show RF 286 2 291 by unfold RF; decide +kernel)
theorem q286_3 {ω : jw} {D : jD} : gR (hp ω D) 286 3 = some 293 := hR (show RF 286 3 293 by unfold RF; decide +kernel)
theorem q286_4 {ω : jw} {D : jD} : gR (hp ω D) 286 4 = some 295 := hR (show RF 286 4 295 by unfold RF; decide +kernel)
theorem q286_5 {ω : jw} {D : jD} : gR (hp ω D) 286 5 = some 297 := hR (show RF 286 5 297 by unfold RF; decide +kernel)
theorem q286_6 {ω : jw} {D : jD} : gR (hp ω D) 286 6 = some 299 := hR (show RF 286 6 299 by unfold RF; decide +kernel)
theorem q307_0 {ω : jw} {D : jD} : gR (hp ω D) 307 0 = some 308 := hR (show RF 307 0 308 by unfold RF; decide +kernel)
theorem q307_1 {ω : jw} {D : jD} : gR (hp ω D) 307 1 = some 310 := hR (show RF 307 1 310 by unfold RF; decide +kernel)
theorem q307_2 {ω : jw} {D : jD} : gR (hp ω D) 307 2 = some 312 := hR (show RF 307 2 312 by unfold RF; decide +kernel)
theorem q307_3 {ω : jw} {D : jD} : gR (hp ω D) 307 3 = some 314 := hR (show RF 307 3 314 by unfold RF; decide +kernel)
theorem q307_4 {ω : jw} {D : jD} : gR (hp ω D) 307 4 = some 316 := hR (show RF 307 4 316 by unfold RF; decide +kernel)
theorem q307_5 {ω : jw} {D : jD} : gR (hp ω D) 307 5 = some 318 := hR (show RF 307 5 318 by unfold RF; decide +kernel)
theorem q307_6 {ω : jw} {D : jD} : gR (hp ω D) 307 6 = some 320 := hR (show RF 307 6 320 by unfold RF; decide +kernel)
theorem q307_7 {ω : jw} {D : jD} : gR (hp ω D) 307 7 = some 322 := hR (show RF 307 7 322 by unfold RF; decide +kernel)
theorem q307_8 {ω : jw} {D : jD} : gR (hp ω D) 307 8 = some 324 := hR (show RF 307 8 324 by unfold RF; decide +kernel)
theorem q307_9 {ω : jw} {D : jD} : gR (hp ω D) 307 9 = some 326 := hR (show RF 307 9 326 by unfold RF; decide +kernel)
theorem q307_10 {ω : jw} {D : jD} : gR (hp ω D) 307 10 = some 328 := hR (show RF 307 10 328 by unfold RF; decide +kernel)
theorem q307_11 {ω : jw} {D : jD} : gR (hp ω D) 307 11 = some 330 := hR (show RF 307 11 330 by unfold RF; decide +kernel)
theorem q307_12 {ω : jw} {D : jD} : gR (hp ω D) 307 12 = some 332 := hR (show RF 307 12 332 by unfold RF; decide +kernel)
theorem q307_13 {ω : jw} {D : jD} : gR (hp ω D) 307 13 = some 334 := hR (show RF 307 13 334 by unfold RF; decide +kernel)
theorem q307_14 {ω : jw} {D : jD} : gR (hp ω D) 307 14 = some 336 := hR (show RF 307 14 336 by unfold RF; decide +kernel)
theorem q307_15 {ω : jw} {D : jD} : gR (hp ω D) 307 15 = some 338 := hR (show RF 307 15 338 by unfold RF; decide +kernel)
theorem i67 : isP 67 := by unfold isP; decide +kernel
theorem i69 : isP 69 := by unfold isP; decide +kernel
theorem i71 : isP 71 := by unfold isP; decide +kernel
theorem i73 : isP 73 := by unfold isP; decide +kernel
theorem i363 : isP 363 := by unfold isP; decide +kernel
theorem i81 : isP 81 := by unfold isP; decide +kernel
theorem i83 : isP 83 := by unfold isP; decide +kernel
theorem i85 : isP 85 := by unfold isP; decide +kernel
theorem i87 : isP 87 := by unfold isP; decide +kernel
theorem i89 : isP 89 := by unfold isP; decide +kernel
theorem i91 : isP 91 := by unfold isP; decide +kernel
theorem i93 : isP 93 := by unfold isP; decide +kernel
theorem i95 : isP 95 := by unfold isP; decide +kernel
theorem i97 : isP 97 := by unfold isP; decide +kernel
theorem i99 : isP 99 := by unfold isP; decide +kernel
theorem i101 : isP 101 := by unfold isP; decide +kernel
theorem i103 : isP 103 := by unfold isP; decide +kernel
theorem i105 : isP 105 := by unfold isP; decide +kernel
theorem i107 : isP 107 := by unfold isP; decide +kernel
theorem i109 : isP 109 := by unfold isP; decide +kernel
theorem i280 : isP 280 := by unfold isP; decide +kernel
theorem i282 : isP 282 := by unfold isP; decide +kernel
theorem i284 : isP 284 := by unfold isP; decide +kernel
theorem i340 : isP 340 := by unfold isP; decide +kernel
theorem i179 : isP 179 := by unfold isP; decide +kernel
theorem i181 : isP 181 := by unfold isP; decide +kernel
theorem i183 : isP 183 := by unfold isP; decide +kernel
theorem i185 : isP 185 := by unfold isP; decide +kernel
theorem i187 : isP 187 := by unfold isP; decide +kernel
theorem i189 : isP 189 := by unfold isP; decide +kernel
theorem i191 : isP 191 := by unfold isP; decide +kernel
theorem i193 : isP 193 := by unfold isP; decide +kernel
theorem i195 : isP 195 := by unfold isP; decide +kernel
theorem i197 : isP 197 := by unfold isP; decide +kernel
theorem i199 : isP 199 := by unfold isP; decide +kernel
theorem i201 : isP 201 := by unfold isP; decide +kernel
theorem i203 : isP 203 := by unfold isP; decide +kernel
theorem i205 : isP 205 := by unfold isP; decide +kernel
theorem i207 : isP 207 := by unfold isP; decide +kernel
abbrev aA : Type := Nat × (Nat → Nat) × aT × (Nat → Bool) × (Nat → aT) × (Nat → pl) × Int × Nat × (Nat → Nat)
abbrev Al (A : aA) : Nat := A.1
abbrev At (A : aA) : Nat → Nat := A.2.1
abbrev AT (A : aA) : aT := A.2.2.1
abbrev Ai (A : aA) : Nat → Bool := A.2.2.2.1
abbrev AI (A : aA) : Nat → aT := A.2.2.2.2.1
abbrev Ar (A : aA) : Nat → pl := A.2.2.2.2.2.1
abbrev Af (A : aA) : Int := A.2.2.2.2.2.2.1
abbrev Ag (A : aA) : Nat := A.2.2.2.2.2.2.2.1
abbrev AG (A : aA) : Nat → Nat := A.2.2.2.2.2.2.2.2
def pO8 (F : pl) : Prop := (∀ b, F b < 256) ∧ dle F 17
theorem pOK_8 {Φ : gF} (h : FOK Φ) {F : pl} (oF : pOK Φ F) : pO8 F := ⟨fun b => Nat.lt_of_lt_of_le (oF.1 b) (F_256 h), oF.2⟩
/-- the class's whole state in a heap -/
def CS (D : jD) (A : aA) : Prop := TA D (Al A) (At A) ∧ TOK (AT A) ∧ TS D 3 (AT A) ∧ FT (tF (AT A)) D 76 ∧ (∀ k, k < 2 → D 65 k = (if Ai A k = true then 1 else 0) ∧ (Ai A k = true → TOK (AI A k) ∧ TS D (366 + 61 * k) (AI A k))) ∧ (∀ k, k < 4 → pO8 (Ar A k) ∧ PR D (68 + 2 * k) (Ar A k)) ∧ D 0 13 = Af A ∧ Ag A ≤ 16 ∧ D 343 1 = (Ag A : Int) ∧ ∀ i, 1 ≤ i → i ≤ Ag A → D 344 i = (AG A i : Int)
def aRes (A : aA) (r : Nat → pl) : aA := (Al A, At A, AT A, Ai A, AI A, r, Af A, Ag A, AG A)
def aTape (A : aA) (n : Nat) (t : Nat → Nat) : aA := (n, t, AT A, Ai A, AI A, Ar A, Af A, Ag A, AG A)
def aNow (A : aA) (T : aT) : aA := (Al A, At A, T, Ai A, AI A, Ar A, Af A, Ag A, AG A)
/-- cells that hold what lasts -/
def kept (c : Nat) : Prop := c = 0 ∨ c = 1 ∨ c = 2 ∨ (3 ≤ c ∧ c < 66) ∨ (76 ≤ c ∧ c < 81) ∨ c = 343 ∨ c = 344 ∨ (366 ≤ c ∧ c < 488)
theorem CS_keep {D D' : jD} {A : aA} (h : CS D A) (hk : ∀ c, kept c → D' c = D c) {r : Nat → pl} (hr : ∀ k, k < 4 → pO8 (r k) ∧ PR D' (68 + 2 * k) (r k)) : CS D' (aRes A r) := by
  obtain ⟨h1, h2, h3, h4, h5, h6, h7, h8, h9, h10⟩ := h
  unfold kept at hk
  refine ⟨⟨by rw [hk 1 (by omega)]; exact h1.1, h1.2.1, fun i hi => by rw [hk 2 (by omega)]; exact h1.2.2 i hi⟩, h2, TS_fr h2 h3 (fun c _ _ => hk c (by omega)), FT_congr (fun c _ _ => hk c (by omega)) h4, fun k hk2 => ⟨by rw [hk 65 (by omega)]; exact (h5 k hk2).1, fun q => ⟨((h5 k hk2).2 q).1, TS_fr ((h5 k hk2).2 q).1 ((h5 k hk2).2 q).2 (fun c _ _ => hk c (by omega))⟩⟩, hr, by rw [hk 0 (by omega)]; exact h7, h8, by rw [hk 343 (by omega)]; exact h9, fun i h11 h12 => by rw [hk 344 (by omega)]; exact h10 i h11 h12⟩
theorem CS_same {D D' : jD} {A : aA} (h : CS D A) (hk : ∀ c, (kept c ∨ (66 ≤ c ∧ c < 75)) → D' c = D c) : CS D' A := CS_keep h (fun c hc => hk c (Or.inl hc)) (r := Ar A) (fun k hk4 => ⟨(h.2.2.2.2.2.1 k hk4).1, PR_ne (hk _ (by omega)) (h.2.2.2.2.2.1 k hk4).2⟩)
theorem CS_tape {D D' : jD} {A : aA} (h : CS D A) {n : Nat} {t : Nat → Nat} (ht : TA D' n t) (hk : ∀ c, c ≠ 1 → c ≠ 2 → D' c = D c) : CS D' (aTape A n t) := by
  obtain ⟨h1, h2, h3, h4, h5, h6, h7, h8, h9, h10⟩ := h
  refine ⟨ht, h2, TS_fr h2 h3 (fun c _ _ => hk c (by omega) (by omega)), FT_congr (fun c _ _ => hk c (by omega) (by omega)) h4, fun k hk2 => ⟨by rw [hk 65 (by omega) (by omega)]; exact (h5 k hk2).1, fun q => ⟨((h5 k hk2).2 q).1, TS_fr ((h5 k hk2).2 q).1 ((h5 k hk2).2 q).2 (fun c _ _ => hk c (by omega) (by omega))⟩⟩, fun k hk4 => ⟨(h6 k hk4).1, PR_ne (hk _ (by omega) (by omega)) (h6 k hk4).2⟩, by rw [hk 0 (by omega) (by omega)]; exact h7, h8, by rw [hk 343 (by omega) (by omega)]; exact h9, fun i h11 h12 => by rw [hk 344 (by omega) (by omega)]; exact h10 i h11 h12⟩
/-- the State now changed, the field not -/
theorem CS_now {D D' : jD} {A : aA} (h : CS D A) {T : aT} (hT : TS D' 3 T) (hO : TOK T) (eF : tF T = tF (AT A)) (hk : ∀ c, (c < 3 ∨ 64 ≤ c) → D' c = D c) : CS D' (aNow A T) := by
  obtain ⟨h1, h2, h3, h4, h5, h6, h7, h8, h9, h10⟩ := h
  refine ⟨⟨by rw [hk 1 (by omega)]; exact h1.1, h1.2.1, fun i hi => by rw [hk 2 (by omega)]; exact h1.2.2 i hi⟩, hO, hT, ?_, fun k hk2 => ⟨by rw [hk 65 (by omega)]; exact (h5 k hk2).1, fun q => ⟨((h5 k hk2).2 q).1, TS_fr ((h5 k hk2).2 q).1 ((h5 k hk2).2 q).2 (fun c _ _ => hk c (by omega))⟩⟩, fun k hk4 => ⟨(h6 k hk4).1, PR_ne (hk _ (by omega)) (h6 k hk4).2⟩, by rw [hk 0 (by omega)]; exact h7, h8, by rw [hk 343 (by omega)]; exact h9, fun i h11 h12 => by rw [hk 344 (by omega)]; exact h10 i h11 h12⟩
  show FT (tF T) D' 76
  rw [eF]; exact FT_congr (fun c _ _ => hk c (by omega)) h4
section AR
variable {ω : jw} {D : jD} {α : Type}
theorem aR0 (k : Option Nat → Option α) : vAA (hp ω D) (some 66) 0 k = k (some 67) := by rw [aAA kC_4, if_pos (by decide)]; exact congrArg k q66_0
theorem aR1 (k : Option Nat → Option α) : vAA (hp ω D) (some 66) 1 k = k (some 69) := by rw [aAA kC_4, if_pos (by decide)]; exact congrArg k q66_1
theorem aR2 (k : Option Nat → Option α) : vAA (hp ω D) (some 66) 2 k = k (some 71) := by rw [aAA kC_4, if_pos (by decide)]; exact congrArg k q66_2
theorem aR3 (k : Option Nat → Option α) : vAA (hp ω D) (some 66) 3 k = k (some 73) := by rw [aAA kC_4, if_pos (by decide)]; exact congrArg k q66_3
theorem aRx {j : Nat} (hj : j < 4) (k : Option Nat → Option α) : vAA (hp ω D) (some 66) (j : Int) k = k (some (67 + 2 * j)) := by rw [aAA kC_4, if_pos (by omega), Int.toNat_natCast, rRes hj]
end AR
def oFeed (A : aA) (a b c d e : Int) : Int × aA := if 540 < Al A + 20 then (-1, A) else (((Al A + 20 : Nat) : Int), aTape A (Al A + 20) (tbn e 4 (tbn d 4 (tbn c 4 (tbn b 4 (tbn a 4 (At A) (Al A)) (Al A + 4)) (Al A + 8)) (Al A + 12)) (Al A + 16)))
def oEnd (A : aA) (n : Int) : Int × aA := if n < 0 ∨ (Al A : Int) < n then (0, A) else (1, aTape A n.toNat (At A))
def oTimes (A : aA) (a b : Int) : Int := if (0 ≤ a ∧ a < ((2 ^ (tF (AT A)).1 : Nat) : Int)) ∧ 0 ≤ b ∧ b < ((2 ^ (tF (AT A)).1 : Nat) : Int) then (fm (tF (AT A)) a.toNat b.toNat : Int) else -1
def oTurned (A : aA) (a k : Int) : Int := if (0 ≤ a ∧ a < ((2 ^ (tF (AT A)).1 : Nat) : Int)) ∧ 0 ≤ k ∧ k ≤ 99 then (fT (tF (AT A)) k.toNat a.toNat : Int) else -1
def oSlope (A : aA) (a : Int) : Int := if 0 ≤ a ∧ a < ((2 ^ (tF (AT A)).1 : Nat) : Int) then (fs (tF (AT A)) a.toNat : Int) else -1
/-- thrown or not, and the answer -/
def oDegree (A : aA) (i : Int) : Option Int := if 0 ≤ i ∧ i < (tN (AT A) : Int) then some ((sz (tn (AT A) i.toNat) : Int) - 1) else none
def oAt (A : aA) (i j : Int) : Option Int := if (0 ≤ i ∧ i < (tN (AT A) : Int)) ∧ 0 ≤ j then some (tn (AT A) i.toNat j.toNat : Int) else none
def oResult (A : aA) (k j : Int) : Option Int := if (0 ≤ k ∧ k < 4) ∧ 0 ≤ j then some (Ar A k.toNat j.toNat : Int) else none
def oResultDegree (A : aA) (k : Int) : Int := if 0 ≤ k ∧ k < 4 then (sz (Ar A k.toNat) : Int) - 1 else -2
def oUndo (A : aA) : Int × aA := if tU (AT A) = 0 then (-1, A) else (((tU (AT A) - 1 : Nat) : Int), aNow A (tUnd (AT A)))
def oApplied (A : aA) (i a b : Int) : Int := if (0 ≤ i ∧ i < (tN (AT A) : Int)) ∧ (0 ≤ a ∧ a < ((2 ^ (tF (AT A)).1 : Nat) : Int)) ∧ 0 ≤ b ∧ b < ((2 ^ (tF (AT A)).1 : Nat) : Int) then (app (tF (AT A)) (tn (AT A) i.toNat) a.toNat b.toNat : Int) else -1
def oValue (A : aA) (i a : Int) : Int := if (0 ≤ i ∧ i < (tN (AT A) : Int)) ∧ (0 ≤ a ∧ a < ((2 ^ (tF (AT A)).1 : Nat) : Int)) then (app (tF (AT A)) (tn (AT A) i.toNat) a.toNat 1 : Int) else -1
section OPS1
variable {ω : jw} {D : jD} {d : Nat} {A : aA}
theorem CS_names (h : CS D A) {i : Nat} (hi : i < tN (AT A)) : isP (5 + 2 * i) ∧ PR D (5 + 2 * i + 1) (tn (AT A) i) ∧ pOK (tF (AT A)) (tn (AT A) i) := by
  have h12 := h.2.1.2.1
  refine ⟨pT_1 tT_3 (show i < 12 by omega), ?_, h.2.1.2.2.2.2.1 i hi⟩
  have := h.2.2.1.2.2.2.2.1 i hi
  rw [show 5 + 2 * i + 1 = 3 + 3 + 2 * i by omega]; exact this
theorem named3 (h : CS D A) {x : Int} : Vl d 80 0 [some (.inr (.inr (some 3))), some (.inl x)] [] (hp ω D) = some ((0, some (.inr (.inr (if 0 ≤ x ∧ x < (tN (AT A) : Int) then some (5 + 2 * x.toNat) else none)))), hp ω D) := named_spec tT_3 h.2.1.2.1 h.2.2.1.2.1
theorem feed_op (h : CS D A) (a b c e f : Int) : ∃ D', Vl (d + 1) 20 0 [some (.inr (.inr (some 0))), some (.inl a), some (.inl b), some (.inl c), some (.inl e), some (.inl f)] [] (hp ω D) = some ((0, some (.inl (oFeed A a b c e f).1)), hp ω D') ∧ CS D' (oFeed A a b c e f).2 ∧ ∀ q, 488 ≤ q → D' q = D q := by
  have hl := h.1.2.1
  simp only [vC_feed_0, aGF kC, rC_0, rC_1, rC_2, rC_3, rC_4, rC_5, rC_6, rC_7, rC_8, rC_9, rC_10, rC_11, rC_12, aGF kA, rA_0, aGF (kT tT_3), aGF (kK tK_75), aGF (kF tF_76), q75_0, q75_1, q75_2, q75_3, q75_4, q75_6, q75_7, q75_8, q75_9, q75_10, q75_11, q75_12, q75_13, q75_14, q75_15, q75_16, aGF (kP i67), aGF (kP i69), aGF (kP i71), aGF (kP i73), aGF (kP i363), aGF (kP i81), aGF (kP i83), aGF (kP i85), aGF (kP i87), aGF (kP i89), aGF (kP i91), aGF (kP i93), aGF (kP i95), aGF (kP i97), aGF (kP i99), aGF (kP i101), aGF (kP i103), aGF (kP i105), aGF (kP i107), aGF (kP i109)]
  rw [hD, h.1.1]
  unfold oFeed
  by_cases h1 : 540 < Al A + 20
  · rw [if_pos (by unfold w32; omega), vC_feed_16, if_pos h1]
    exact ⟨D, rfl, h, fun _ _ => rfl⟩
  · rw [if_neg (by unfold w32; omega), if_neg h1]
    obtain ⟨D1, q1, r1, f1⟩ := putNumber_spec (ω := ω) (d := d) a h.1 (by omega)
    obtain ⟨D2, q2, r2, f2⟩ := putNumber_spec (ω := ω) (d := d) b r1 (by omega)
    obtain ⟨D3, q3, r3, f3⟩ := putNumber_spec (ω := ω) (d := d) c r2 (by omega)
    obtain ⟨D4, q4, r4, f4⟩ := putNumber_spec (ω := ω) (d := d) e r3 (by omega)
    obtain ⟨D5, q5, r5, f5⟩ := putNumber_spec (ω := ω) (d := d) f r4 (by omega)
    refine ⟨D5, ?_, CS_tape h r5 (fun q h2 h3 => by rw [f5 q h2 h3, f4 q h2 h3, f3 q h2 h3, f2 q h2 h3, f1 q h2 h3]), fun q hq => by rw [f5 q (by omega) (by omega), f4 q (by omega) (by omega), f3 q (by omega) (by omega), f2 q (by omega) (by omega), f1 q (by omega) (by omega)]⟩
    simp only [vC_feed_18, aGF kC, rC_0, rC_1, rC_2, rC_3, rC_4, rC_5, rC_6, rC_7, rC_8, rC_9, rC_10, rC_11, rC_12, aGF kA, rA_0, aGF (kT tT_3), aGF (kK tK_75), aGF (kF tF_76), q75_0, q75_1, q75_2, q75_3, q75_4, q75_6, q75_7, q75_8, q75_9, q75_10, q75_11, q75_12, q75_13, q75_14, q75_15, q75_16, aGF (kP i67), aGF (kP i69), aGF (kP i71), aGF (kP i73), aGF (kP i363), aGF (kP i81), aGF (kP i83), aGF (kP i85), aGF (kP i87), aGF (kP i89), aGF (kP i91), aGF (kP i93), aGF (kP i95), aGF (kP i97), aGF (kP i99), aGF (kP i101), aGF (kP i103), aGF (kP i105), aGF (kP i107), aGF (kP i109), q1, aVC, tlS, tlN, aLt, hwD, vC_feed_26, q2, vC_feed_34, q3, vC_feed_42, q4, vC_feed_51, q5, vC_feed_60]
    rw [hD, r5.1]
theorem end_op (h : CS D A) (n : Int) : ∃ D', Vl d 22 0 [some (.inr (.inr (some 0))), some (.inl n)] [] (hp ω D) = some ((0, some (.inl (oEnd A n).1)), hp ω D') ∧ CS D' (oEnd A n).2 ∧ ∀ q, 488 ≤ q → D' q = D q := by
  unfold oEnd
  rw [vC_end_0]
  by_cases h1 : n < 0
  · rw [if_pos h1, vC_end_15, if_pos (Or.inl h1)]
    exact ⟨D, rfl, h, fun _ _ => rfl⟩
  rw [if_neg h1]
  simp only [vC_end_4, aGF kC, rC_0, rC_1, rC_2, rC_3, rC_4, rC_5, rC_6, rC_7, rC_8, rC_9, rC_10, rC_11, rC_12, aGF kA, rA_0, aGF (kT tT_3), aGF (kK tK_75), aGF (kF tF_76), q75_0, q75_1, q75_2, q75_3, q75_4, q75_6, q75_7, q75_8, q75_9, q75_10, q75_11, q75_12, q75_13, q75_14, q75_15, q75_16, aGF (kP i67), aGF (kP i69), aGF (kP i71), aGF (kP i73), aGF (kP i363), aGF (kP i81), aGF (kP i83), aGF (kP i85), aGF (kP i87), aGF (kP i89), aGF (kP i91), aGF (kP i93), aGF (kP i95), aGF (kP i97), aGF (kP i99), aGF (kP i101), aGF (kP i103), aGF (kP i105), aGF (kP i107), aGF (kP i109)]
  rw [hD, h.1.1]
  by_cases h2 : (Al A : Int) < n
  · rw [if_pos h2, vC_end_15, if_pos (Or.inr h2)]
    exact ⟨D, rfl, h, fun _ _ => rfl⟩
  rw [if_neg h2, if_neg (by omega)]
  have hl := h.1.2.1
  obtain ⟨k, rfl⟩ := Int.eq_ofNat_of_zero_le (show 0 ≤ n by omega)
  refine ⟨sD D 1 1 (k : Int), ?_, CS_tape h ⟨sD_eq, by rw [Int.toNat_natCast]; omega, fun i hi => ?_⟩ (fun q h3 h4 => sD_ne h3), fun q hq => sD_ne (by omega)⟩
  · simp only [vC_end_17, aGF kC, rC_0, rC_1, rC_2, rC_3, rC_4, rC_5, rC_6, rC_7, rC_8, rC_9, rC_10, rC_11, rC_12, aGF kA, rA_0, aGF (kT tT_3), aGF (kK tK_75), aGF (kF tF_76), q75_0, q75_1, q75_2, q75_3, q75_4, q75_6, q75_7, q75_8, q75_9, q75_10, q75_11, q75_12, q75_13, q75_14, q75_15, q75_16, aGF (kP i67), aGF (kP i69), aGF (kP i71), aGF (kP i73), aGF (kP i363), aGF (kP i81), aGF (kP i83), aGF (kP i85), aGF (kP i87), aGF (kP i89), aGF (kP i91), aGF (kP i93), aGF (kP i95), aGF (kP i97), aGF (kP i99), aGF (kP i101), aGF (kP i103), aGF (kP i105), aGF (kP i107), aGF (kP i109), aVC, tlS, tlN, aLt, hwD, aZ1]
  · rw [Int.toNat_natCast] at hi
    rw [sD_ne (by decide)]; exact h.1.2.2 i (by omega)
theorem fault_op (h : CS D A) : Vl d 85 0 [some (.inr (.inr (some 0)))] [] (hp ω D) = some ((0, some (.inl (Af A))), hp ω D) := by
  rw [vC_fault_0, aGF kC, hD, h.2.2.2.2.2.2.1]
theorem times_op (h : CS D A) (a b : Int) : Vl (d + 1) 86 0 [some (.inr (.inr (some 0))), some (.inl a), some (.inl b)] [] (hp ω D) = some ((0, some (.inl (oTimes A a b))), hp ω D) := by
  have hF := h.2.2.2.1
  unfold oTimes
  simp only [vC_times_0, aGF kC, rC_0, rC_1, rC_2, rC_3, rC_4, rC_5, rC_6, rC_7, rC_8, rC_9, rC_10, rC_11, rC_12, aGF kA, rA_0, aGF (kT tT_3), aGF (kK tK_75), aGF (kF tF_76), q75_0, q75_1, q75_2, q75_3, q75_4, q75_6, q75_7, q75_8, q75_9, q75_10, q75_11, q75_12, q75_13, q75_14, q75_15, q75_16, aGF (kP i67), aGF (kP i69), aGF (kP i71), aGF (kP i73), aGF (kP i363), aGF (kP i81), aGF (kP i83), aGF (kP i85), aGF (kP i87), aGF (kP i89), aGF (kP i91), aGF (kP i93), aGF (kP i95), aGF (kP i97), aGF (kP i99), aGF (kP i101), aGF (kP i103), aGF (kP i105), aGF (kP i107), aGF (kP i109), has_spec tF_76 hF, aVC, tlS, tlN, aLt, hwD]
  rw [vC_times_11]
  by_cases h1 : 0 ≤ a ∧ a < ((2 ^ (tF (AT A)).1 : Nat) : Int)
  · rw [if_pos h1, if_neg (by decide)]
    simp only [vC_times_14, aGF kC, rC_0, rC_1, rC_2, rC_3, rC_4, rC_5, rC_6, rC_7, rC_8, rC_9, rC_10, rC_11, rC_12, aGF kA, rA_0, aGF (kT tT_3), aGF (kK tK_75), aGF (kF tF_76), q75_0, q75_1, q75_2, q75_3, q75_4, q75_6, q75_7, q75_8, q75_9, q75_10, q75_11, q75_12, q75_13, q75_14, q75_15, q75_16, aGF (kP i67), aGF (kP i69), aGF (kP i71), aGF (kP i73), aGF (kP i363), aGF (kP i81), aGF (kP i83), aGF (kP i85), aGF (kP i87), aGF (kP i89), aGF (kP i91), aGF (kP i93), aGF (kP i95), aGF (kP i97), aGF (kP i99), aGF (kP i101), aGF (kP i103), aGF (kP i105), aGF (kP i107), aGF (kP i109), has_spec tF_76 hF, aVC, tlS, tlN, aLt, hwD]
    rw [vC_times_25]
    by_cases h2 : 0 ≤ b ∧ b < ((2 ^ (tF (AT A)).1 : Nat) : Int)
    · rw [if_pos h2, if_neg (by decide), if_pos ⟨h1, h2⟩]
      obtain ⟨x, rfl⟩ := Int.eq_ofNat_of_zero_le h1.1
      obtain ⟨y, rfl⟩ := Int.eq_ofNat_of_zero_le h2.1
      simp only [vC_times_28, aGF kC, rC_0, rC_1, rC_2, rC_3, rC_4, rC_5, rC_6, rC_7, rC_8, rC_9, rC_10, rC_11, rC_12, aGF kA, rA_0, aGF (kT tT_3), aGF (kK tK_75), aGF (kF tF_76), q75_0, q75_1, q75_2, q75_3, q75_4, q75_6, q75_7, q75_8, q75_9, q75_10, q75_11, q75_12, q75_13, q75_14, q75_15, q75_16, aGF (kP i67), aGF (kP i69), aGF (kP i71), aGF (kP i73), aGF (kP i363), aGF (kP i81), aGF (kP i83), aGF (kP i85), aGF (kP i87), aGF (kP i89), aGF (kP i91), aGF (kP i93), aGF (kP i95), aGF (kP i97), aGF (kP i99), aGF (kP i101), aGF (kP i103), aGF (kP i105), aGF (kP i107), aGF (kP i109), product_spec tF_76 hF (show x < 2 ^ (tF (AT A)).1 by omega) (show y < 2 ^ (tF (AT A)).1 by omega), aVC, tlS, tlN, aLt, hwD, vC_times_40, vC_times_44, Int.toNat_natCast]
    · rw [if_neg h2, if_pos rfl, vC_times_43, vC_times_44, if_neg (fun q => h2 q.2)]
  · rw [if_neg h1, if_pos rfl, vC_times_43, vC_times_44, if_neg (fun q => h1 q.1)]
theorem turned_op (h : CS D A) (a k : Int) : Vl (d + 1) 88 0 [some (.inr (.inr (some 0))), some (.inl a), some (.inl k)] [] (hp ω D) = some ((0, some (.inl (oTurned A a k))), hp ω D) := by
  have hF := h.2.2.2.1
  unfold oTurned
  simp only [vC_turned_0, aGF kC, rC_0, rC_1, rC_2, rC_3, rC_4, rC_5, rC_6, rC_7, rC_8, rC_9, rC_10, rC_11, rC_12, aGF kA, rA_0, aGF (kT tT_3), aGF (kK tK_75), aGF (kF tF_76), q75_0, q75_1, q75_2, q75_3, q75_4, q75_6, q75_7, q75_8, q75_9, q75_10, q75_11, q75_12, q75_13, q75_14, q75_15, q75_16, aGF (kP i67), aGF (kP i69), aGF (kP i71), aGF (kP i73), aGF (kP i363), aGF (kP i81), aGF (kP i83), aGF (kP i85), aGF (kP i87), aGF (kP i89), aGF (kP i91), aGF (kP i93), aGF (kP i95), aGF (kP i97), aGF (kP i99), aGF (kP i101), aGF (kP i103), aGF (kP i105), aGF (kP i107), aGF (kP i109), has_spec tF_76 hF, aVC, tlS, tlN, aLt, hwD]
  rw [vC_turned_11]
  by_cases h1 : 0 ≤ a ∧ a < ((2 ^ (tF (AT A)).1 : Nat) : Int)
  · rw [if_pos h1, if_neg (by decide), vC_turned_14]
    by_cases h2 : k < 0
    · rw [if_pos h2, vC_turned_39, vC_turned_40, if_neg (by omega)]
    rw [if_neg h2, vC_turned_18]
    by_cases h3 : 99 < k
    · rw [if_pos h3, vC_turned_39, vC_turned_40, if_neg (by omega)]
    rw [if_neg h3, if_pos (by omega)]
    obtain ⟨x, rfl⟩ := Int.eq_ofNat_of_zero_le h1.1
    obtain ⟨y, rfl⟩ := Int.eq_ofNat_of_zero_le (show 0 ≤ k by omega)
    simp only [vC_turned_24, aGF kC, rC_0, rC_1, rC_2, rC_3, rC_4, rC_5, rC_6, rC_7, rC_8, rC_9, rC_10, rC_11, rC_12, aGF kA, rA_0, aGF (kT tT_3), aGF (kK tK_75), aGF (kF tF_76), q75_0, q75_1, q75_2, q75_3, q75_4, q75_6, q75_7, q75_8, q75_9, q75_10, q75_11, q75_12, q75_13, q75_14, q75_15, q75_16, aGF (kP i67), aGF (kP i69), aGF (kP i71), aGF (kP i73), aGF (kP i363), aGF (kP i81), aGF (kP i83), aGF (kP i85), aGF (kP i87), aGF (kP i89), aGF (kP i91), aGF (kP i93), aGF (kP i95), aGF (kP i97), aGF (kP i99), aGF (kP i101), aGF (kP i103), aGF (kP i105), aGF (kP i107), aGF (kP i109), turn_spec tF_76 hF (show x < 2 ^ (tF (AT A)).1 by omega) (show y < 100 by omega), aVC, tlS, tlN, aLt, hwD, vC_turned_36, vC_turned_40, Int.toNat_natCast]
  · rw [if_neg h1, if_pos rfl, vC_turned_39, vC_turned_40, if_neg (fun q => h1 q.1)]
theorem slope_op (h : CS D A) (a : Int) : Vl (d + 1) 89 0 [some (.inr (.inr (some 0))), some (.inl a)] [] (hp ω D) = some ((0, some (.inl (oSlope A a))), hp ω D) := by
  have hF := h.2.2.2.1
  unfold oSlope
  simp only [vC_slope_0, aGF kC, rC_0, rC_1, rC_2, rC_3, rC_4, rC_5, rC_6, rC_7, rC_8, rC_9, rC_10, rC_11, rC_12, aGF kA, rA_0, aGF (kT tT_3), aGF (kK tK_75), aGF (kF tF_76), q75_0, q75_1, q75_2, q75_3, q75_4, q75_6, q75_7, q75_8, q75_9, q75_10, q75_11, q75_12, q75_13, q75_14, q75_15, q75_16, aGF (kP i67), aGF (kP i69), aGF (kP i71), aGF (kP i73), aGF (kP i363), aGF (kP i81), aGF (kP i83), aGF (kP i85), aGF (kP i87), aGF (kP i89), aGF (kP i91), aGF (kP i93), aGF (kP i95), aGF (kP i97), aGF (kP i99), aGF (kP i101), aGF (kP i103), aGF (kP i105), aGF (kP i107), aGF (kP i109), has_spec tF_76 hF, aVC, tlS, tlN, aLt, hwD]
  rw [vC_slope_11]
  by_cases h1 : 0 ≤ a ∧ a < ((2 ^ (tF (AT A)).1 : Nat) : Int)
  · rw [if_pos h1, if_neg (by decide), if_pos h1]
    obtain ⟨x, rfl⟩ := Int.eq_ofNat_of_zero_le h1.1
    simp only [vC_slope_14, aGF kC, rC_0, rC_1, rC_2, rC_3, rC_4, rC_5, rC_6, rC_7, rC_8, rC_9, rC_10, rC_11, rC_12, aGF kA, rA_0, aGF (kT tT_3), aGF (kK tK_75), aGF (kF tF_76), q75_0, q75_1, q75_2, q75_3, q75_4, q75_6, q75_7, q75_8, q75_9, q75_10, q75_11, q75_12, q75_13, q75_14, q75_15, q75_16, aGF (kP i67), aGF (kP i69), aGF (kP i71), aGF (kP i73), aGF (kP i363), aGF (kP i81), aGF (kP i83), aGF (kP i85), aGF (kP i87), aGF (kP i89), aGF (kP i91), aGF (kP i93), aGF (kP i95), aGF (kP i97), aGF (kP i99), aGF (kP i101), aGF (kP i103), aGF (kP i105), aGF (kP i107), aGF (kP i109), slopeOf_spec tF_76 hF (show x < 2 ^ (tF (AT A)).1 by omega), aVC, tlS, tlN, aLt, hwD, vC_slope_25, vC_slope_29, Int.toNat_natCast]
  · rw [if_neg h1, if_pos rfl, vC_slope_28, vC_slope_29, if_neg h1]
theorem degree_op (h : CS D A) (i : Int) : Vl (d + 1) 181 0 [some (.inr (.inr (some 0))), some (.inl i), none] [] (hp ω D) = some (((match oDegree A i with | some x => (0, some (.inl x)) | none => (1, none)) : Nat × Option jv), hp ω D) := by
  unfold oDegree
  simp only [vC_degree_0, aGF kC, rC_0, rC_1, rC_2, rC_3, rC_4, rC_5, rC_6, rC_7, rC_8, rC_9, rC_10, rC_11, rC_12, aGF kA, rA_0, aGF (kT tT_3), aGF (kK tK_75), aGF (kF tF_76), q75_0, q75_1, q75_2, q75_3, q75_4, q75_6, q75_7, q75_8, q75_9, q75_10, q75_11, q75_12, q75_13, q75_14, q75_15, q75_16, aGF (kP i67), aGF (kP i69), aGF (kP i71), aGF (kP i73), aGF (kP i363), aGF (kP i81), aGF (kP i83), aGF (kP i85), aGF (kP i87), aGF (kP i89), aGF (kP i91), aGF (kP i93), aGF (kP i95), aGF (kP i97), aGF (kP i99), aGF (kP i101), aGF (kP i103), aGF (kP i105), aGF (kP i107), aGF (kP i109), named3 h, aVC, tlS, tlN, aLt, hwD]
  rw [vC_degree_8]
  by_cases h1 : 0 ≤ i ∧ i < (tN (AT A) : Int)
  · rw [if_pos h1, if_pos h1]
    obtain ⟨x, rfl⟩ := Int.eq_ofNat_of_zero_le h1.1
    obtain ⟨p1, p2, p3⟩ := CS_names h (show x < tN (AT A) by omega)
    rw [Int.toNat_natCast]
    show Vl (d + 1) 181 21 _ [] _ = _
    simp only [vC_degree_21, aGF (kP p1), rP p1, topF p1 p2, aVC, tlS, tlN, aLt, hwD, vC_degree_25]
  · rw [if_neg h1, if_neg h1]
    show Vl (d + 1) 181 13 _ [] _ = _
    rw [vC_degree_13]
theorem at_op (h : CS D A) (i j : Int) (hj2 : j < 2147483648) : Vl (d + 1) 182 0 [some (.inr (.inr (some 0))), some (.inl i), some (.inl j), none] [] (hp ω D) = some (((match oAt A i j with | some x => (0, some (.inl x)) | none => (1, none)) : Nat × Option jv), hp ω D) := by
  unfold oAt
  simp only [vC_at_0, aGF kC, rC_0, rC_1, rC_2, rC_3, rC_4, rC_5, rC_6, rC_7, rC_8, rC_9, rC_10, rC_11, rC_12, aGF kA, rA_0, aGF (kT tT_3), aGF (kK tK_75), aGF (kF tF_76), q75_0, q75_1, q75_2, q75_3, q75_4, q75_6, q75_7, q75_8, q75_9, q75_10, q75_11, q75_12, q75_13, q75_14, q75_15, q75_16, aGF (kP i67), aGF (kP i69), aGF (kP i71), aGF (kP i73), aGF (kP i363), aGF (kP i81), aGF (kP i83), aGF (kP i85), aGF (kP i87), aGF (kP i89), aGF (kP i91), aGF (kP i93), aGF (kP i95), aGF (kP i97), aGF (kP i99), aGF (kP i101), aGF (kP i103), aGF (kP i105), aGF (kP i107), aGF (kP i109), named3 h, aVC, tlS, tlN, aLt, hwD]
  rw [vC_at_8]
  by_cases h1 : 0 ≤ i ∧ i < (tN (AT A) : Int)
  · rw [if_pos h1]
    obtain ⟨x, rfl⟩ := Int.eq_ofNat_of_zero_le h1.1
    obtain ⟨p1, p2, p3⟩ := CS_names h (show x < tN (AT A) by omega)
    rw [Int.toNat_natCast]
    show Vl (d + 1) 182 13 _ [] _ = _
    rw [vC_at_13]
    by_cases h2 : j < 0
    · rw [if_pos h2, vC_at_17, if_neg (by omega)]
    · rw [if_neg h2, if_pos ⟨h1, by omega⟩]
      obtain ⟨y, rfl⟩ := Int.eq_ofNat_of_zero_le (show 0 ≤ j by omega)
      simp only [vC_at_25, aGF (kP p1), rP p1, getF p1 p2 p3.2 (show y < 2147483648 by omega), aVC, tlS, tlN, aLt, hwD, vC_at_30, Int.toNat_natCast]
  · rw [if_neg h1, if_neg (fun q => h1 q.1)]
    show Vl (d + 1) 182 17 _ [] _ = _
    rw [vC_at_17]
theorem result_op (h : CS D A) (k j : Int) (hj2 : j < 2147483648) : Vl (d + 1) 183 0 [some (.inr (.inr (some 0))), some (.inl k), some (.inl j)] [] (hp ω D) = some (((match oResult A k j with | some x => (0, some (.inl x)) | none => (1, none)) : Nat × Option jv), hp ω D) := by
  unfold oResult
  rw [vC_result_0]
  by_cases h1 : k < 0
  · rw [if_pos h1, vC_result_13, if_neg (by omega)]
  rw [if_neg h1, vC_result_4]
  by_cases h2 : k < 4
  · rw [if_pos h2, vC_result_9]
    by_cases h3 : j < 0
    · rw [if_pos h3, vC_result_13, if_neg (by omega)]
    · rw [if_neg h3, if_pos (by omega)]
      obtain ⟨x, rfl⟩ := Int.eq_ofNat_of_zero_le (show 0 ≤ k by omega)
      obtain ⟨y, rfl⟩ := Int.eq_ofNat_of_zero_le (show 0 ≤ j by omega)
      have hr := h.2.2.2.2.2.1 x (by omega)
      have p1 := prRes (show x < 4 by omega)
      have r2 : PR D (67 + 2 * x + 1) (Ar A x) := by rw [show 67 + 2 * x + 1 = 68 + 2 * x by omega]; exact hr.2
      simp only [vC_result_21, aGF kC, rC_0, rC_1, rC_2, rC_3, rC_4, rC_5, rC_6, rC_7, rC_8, rC_9, rC_10, rC_11, rC_12, aGF kA, rA_0, aGF (kT tT_3), aGF (kK tK_75), aGF (kF tF_76), q75_0, q75_1, q75_2, q75_3, q75_4, q75_6, q75_7, q75_8, q75_9, q75_10, q75_11, q75_12, q75_13, q75_14, q75_15, q75_16, aGF (kP i67), aGF (kP i69), aGF (kP i71), aGF (kP i73), aGF (kP i363), aGF (kP i81), aGF (kP i83), aGF (kP i85), aGF (kP i87), aGF (kP i89), aGF (kP i91), aGF (kP i93), aGF (kP i95), aGF (kP i97), aGF (kP i99), aGF (kP i101), aGF (kP i103), aGF (kP i105), aGF (kP i107), aGF (kP i109), aRx (show x < 4 by omega), aGF (kP p1), rP p1, getF p1 r2 hr.1.2 (show y < 2147483648 by omega), aVC, tlS, tlN, aLt, hwD, vC_result_31, Int.toNat_natCast]
  · rw [if_neg h2, vC_result_13, if_neg (by omega)]
theorem resultDegree_op (h : CS D A) (k : Int) : Vl (d + 1) 96 0 [some (.inr (.inr (some 0))), some (.inl k)] [] (hp ω D) = some ((0, some (.inl (oResultDegree A k))), hp ω D) := by
  unfold oResultDegree
  rw [vC_resultDegree_0]
  by_cases h1 : k < 0
  · rw [if_pos h1, vC_resultDegree_9, vC_resultDegree_23, if_neg (by omega)]
  rw [if_neg h1, vC_resultDegree_4]
  by_cases h2 : k < 4
  · rw [if_pos h2, if_pos (by omega)]
    obtain ⟨x, rfl⟩ := Int.eq_ofNat_of_zero_le (show 0 ≤ k by omega)
    have hr := h.2.2.2.2.2.1 x (by omega)
    have p1 := prRes (show x < 4 by omega)
    have r2 : PR D (67 + 2 * x + 1) (Ar A x) := by rw [show 67 + 2 * x + 1 = 68 + 2 * x by omega]; exact hr.2
    simp only [vC_resultDegree_14, aGF kC, rC_0, rC_1, rC_2, rC_3, rC_4, rC_5, rC_6, rC_7, rC_8, rC_9, rC_10, rC_11, rC_12, aGF kA, rA_0, aGF (kT tT_3), aGF (kK tK_75), aGF (kF tF_76), q75_0, q75_1, q75_2, q75_3, q75_4, q75_6, q75_7, q75_8, q75_9, q75_10, q75_11, q75_12, q75_13, q75_14, q75_15, q75_16, aGF (kP i67), aGF (kP i69), aGF (kP i71), aGF (kP i73), aGF (kP i363), aGF (kP i81), aGF (kP i83), aGF (kP i85), aGF (kP i87), aGF (kP i89), aGF (kP i91), aGF (kP i93), aGF (kP i95), aGF (kP i97), aGF (kP i99), aGF (kP i101), aGF (kP i103), aGF (kP i105), aGF (kP i107), aGF (kP i109), aRx (show x < 4 by omega), aGF (kP p1), rP p1, topF p1 r2, aVC, tlS, tlN, aLt, hwD, vC_resultDegree_23, Int.toNat_natCast]
  · rw [if_neg h2, vC_resultDegree_9, vC_resultDegree_23, if_neg (by omega)]
theorem undo_op (h : CS D A) : ∃ D', Vl (d + 3) 100 0 [some (.inr (.inr (some 0)))] [] (hp ω D) = some ((0, some (.inl (oUndo A).1)), hp ω D') ∧ CS D' (oUndo A).2 ∧ ∀ q, 488 ≤ q → D' q = D q := by
  obtain ⟨D1, q1, r1, f1⟩ := undoLatest_spec (ω := ω) (d := d) tT_3 h.2.1 h.2.2.1
  unfold oUndo
  refine ⟨D1, ?_, ?_, fun q hq => f1 q (by omega)⟩
  · simp only [vC_undo_0, aGF kC, rC_0, rC_1, rC_2, rC_3, rC_4, rC_5, rC_6, rC_7, rC_8, rC_9, rC_10, rC_11, rC_12, aGF kA, rA_0, aGF (kT tT_3), aGF (kK tK_75), aGF (kF tF_76), q75_0, q75_1, q75_2, q75_3, q75_4, q75_6, q75_7, q75_8, q75_9, q75_10, q75_11, q75_12, q75_13, q75_14, q75_15, q75_16, aGF (kP i67), aGF (kP i69), aGF (kP i71), aGF (kP i73), aGF (kP i363), aGF (kP i81), aGF (kP i83), aGF (kP i85), aGF (kP i87), aGF (kP i89), aGF (kP i91), aGF (kP i93), aGF (kP i95), aGF (kP i97), aGF (kP i99), aGF (kP i101), aGF (kP i103), aGF (kP i105), aGF (kP i107), aGF (kP i109), q1, aVC, tlS, tlN, aLt, hwD, vC_undo_7]
    split <;> rfl
  · split at r1
    · rename_i h0
      rw [if_pos h0]
      exact CS_now h r1 h.2.1 rfl (fun c hc => f1 c (by omega))
    · rename_i h0
      rw [if_neg h0]
      exact CS_now h r1 (tUnd_OK h.2.1 h0) rfl (fun c hc => f1 c (by omega))
theorem applied_op (h : CS D A) (i a b : Int) : Vl (d + 3) 105 0 [some (.inr (.inr (some 0))), some (.inl i), some (.inl a), some (.inl b), none, none] [] (hp ω D) = some ((0, some (.inl (oApplied A i a b))), hp ω D) := by
  have hF := h.2.2.2.1
  unfold oApplied
  simp only [vC_applied_0, aGF kC, rC_0, rC_1, rC_2, rC_3, rC_4, rC_5, rC_6, rC_7, rC_8, rC_9, rC_10, rC_11, rC_12, aGF kA, rA_0, aGF (kT tT_3), aGF (kK tK_75), aGF (kF tF_76), q75_0, q75_1, q75_2, q75_3, q75_4, q75_6, q75_7, q75_8, q75_9, q75_10, q75_11, q75_12, q75_13, q75_14, q75_15, q75_16, aGF (kP i67), aGF (kP i69), aGF (kP i71), aGF (kP i73), aGF (kP i363), aGF (kP i81), aGF (kP i83), aGF (kP i85), aGF (kP i87), aGF (kP i89), aGF (kP i91), aGF (kP i93), aGF (kP i95), aGF (kP i97), aGF (kP i99), aGF (kP i101), aGF (kP i103), aGF (kP i105), aGF (kP i107), aGF (kP i109), named3 h, aVC, tlS, tlN, aLt, hwD]
  rw [vC_applied_8]
  by_cases h1 : 0 ≤ i ∧ i < (tN (AT A) : Int)
  · rw [if_pos h1]
    obtain ⟨z, rfl⟩ := Int.eq_ofNat_of_zero_le h1.1
    obtain ⟨p1, p2, p3⟩ := CS_names h (show z < tN (AT A) by omega)
    rw [Int.toNat_natCast]
    show Vl (d + 3) 105 15 _ [] _ = _
    simp only [vC_applied_15, aGF kC, rC_0, rC_1, rC_2, rC_3, rC_4, rC_5, rC_6, rC_7, rC_8, rC_9, rC_10, rC_11, rC_12, aGF kA, rA_0, aGF (kT tT_3), aGF (kK tK_75), aGF (kF tF_76), q75_0, q75_1, q75_2, q75_3, q75_4, q75_6, q75_7, q75_8, q75_9, q75_10, q75_11, q75_12, q75_13, q75_14, q75_15, q75_16, aGF (kP i67), aGF (kP i69), aGF (kP i71), aGF (kP i73), aGF (kP i363), aGF (kP i81), aGF (kP i83), aGF (kP i85), aGF (kP i87), aGF (kP i89), aGF (kP i91), aGF (kP i93), aGF (kP i95), aGF (kP i97), aGF (kP i99), aGF (kP i101), aGF (kP i103), aGF (kP i105), aGF (kP i107), aGF (kP i109), has_spec tF_76 hF, aVC, tlS, tlN, aLt, hwD]
    rw [vC_applied_26]
    by_cases h2 : 0 ≤ a ∧ a < ((2 ^ (tF (AT A)).1 : Nat) : Int)
    · rw [if_pos h2, if_neg (by decide)]
      simp only [vC_applied_29, aGF kC, rC_0, rC_1, rC_2, rC_3, rC_4, rC_5, rC_6, rC_7, rC_8, rC_9, rC_10, rC_11, rC_12, aGF kA, rA_0, aGF (kT tT_3), aGF (kK tK_75), aGF (kF tF_76), q75_0, q75_1, q75_2, q75_3, q75_4, q75_6, q75_7, q75_8, q75_9, q75_10, q75_11, q75_12, q75_13, q75_14, q75_15, q75_16, aGF (kP i67), aGF (kP i69), aGF (kP i71), aGF (kP i73), aGF (kP i363), aGF (kP i81), aGF (kP i83), aGF (kP i85), aGF (kP i87), aGF (kP i89), aGF (kP i91), aGF (kP i93), aGF (kP i95), aGF (kP i97), aGF (kP i99), aGF (kP i101), aGF (kP i103), aGF (kP i105), aGF (kP i107), aGF (kP i109), has_spec tF_76 hF, aVC, tlS, tlN, aLt, hwD]
      rw [vC_applied_40]
      by_cases h3 : 0 ≤ b ∧ b < ((2 ^ (tF (AT A)).1 : Nat) : Int)
      · rw [if_pos h3, if_neg (by decide), vC_applied_43, vC_applied_48, if_neg (by decide), if_pos ⟨h1, h2, h3⟩]
        obtain ⟨x, rfl⟩ := Int.eq_ofNat_of_zero_le h2.1
        obtain ⟨y, rfl⟩ := Int.eq_ofNat_of_zero_le h3.1
        simp only [vC_applied_55, aGF kC, rC_0, rC_1, rC_2, rC_3, rC_4, rC_5, rC_6, rC_7, rC_8, rC_9, rC_10, rC_11, rC_12, aGF kA, rA_0, aGF (kT tT_3), aGF (kK tK_75), aGF (kF tF_76), q75_0, q75_1, q75_2, q75_3, q75_4, q75_6, q75_7, q75_8, q75_9, q75_10, q75_11, q75_12, q75_13, q75_14, q75_15, q75_16, aGF (kP i67), aGF (kP i69), aGF (kP i71), aGF (kP i73), aGF (kP i363), aGF (kP i81), aGF (kP i83), aGF (kP i85), aGF (kP i87), aGF (kP i89), aGF (kP i91), aGF (kP i93), aGF (kP i95), aGF (kP i97), aGF (kP i99), aGF (kP i101), aGF (kP i103), aGF (kP i105), aGF (kP i107), aGF (kP i109), appliedTo_spec tK_75 hF p1 p2 p3 (show x < 2 ^ (tF (AT A)).1 by omega) (show y < 2 ^ (tF (AT A)).1 by omega), aVC, tlS, tlN, aLt, hwD, vC_applied_66, vC_applied_70, Int.toNat_natCast]
      · rw [if_neg h3, if_pos rfl, vC_applied_47, vC_applied_48, if_pos rfl, vC_applied_69, vC_applied_70, if_neg (fun q => h3 q.2.2)]
    · rw [if_neg h2, if_pos rfl, vC_applied_47, vC_applied_48, if_pos rfl, vC_applied_69, vC_applied_70, if_neg (fun q => h2 q.2.1)]
  · rw [if_neg h1, if_neg (fun q => h1 q.1)]
    show Vl (d + 3) 105 47 _ [] _ = _
    rw [vC_applied_47, vC_applied_48, if_pos rfl, vC_applied_69, vC_applied_70]
theorem value_op (h : CS D A) (i a : Int) : Vl (d + 3) 102 0 [some (.inr (.inr (some 0))), some (.inl i), some (.inl a), none] [] (hp ω D) = some ((0, some (.inl (oValue A i a))), hp ω D) := by
  have hF := h.2.2.2.1
  have h2m := F_2 hF.1
  unfold oValue
  simp only [vC_value_0, aGF kC, rC_0, rC_1, rC_2, rC_3, rC_4, rC_5, rC_6, rC_7, rC_8, rC_9, rC_10, rC_11, rC_12, aGF kA, rA_0, aGF (kT tT_3), aGF (kK tK_75), aGF (kF tF_76), q75_0, q75_1, q75_2, q75_3, q75_4, q75_6, q75_7, q75_8, q75_9, q75_10, q75_11, q75_12, q75_13, q75_14, q75_15, q75_16, aGF (kP i67), aGF (kP i69), aGF (kP i71), aGF (kP i73), aGF (kP i363), aGF (kP i81), aGF (kP i83), aGF (kP i85), aGF (kP i87), aGF (kP i89), aGF (kP i91), aGF (kP i93), aGF (kP i95), aGF (kP i97), aGF (kP i99), aGF (kP i101), aGF (kP i103), aGF (kP i105), aGF (kP i107), aGF (kP i109), named3 h, aVC, tlS, tlN, aLt, hwD]
  rw [vC_value_8]
  by_cases h1 : 0 ≤ i ∧ i < (tN (AT A) : Int)
  · rw [if_pos h1]
    obtain ⟨z, rfl⟩ := Int.eq_ofNat_of_zero_le h1.1
    obtain ⟨p1, p2, p3⟩ := CS_names h (show z < tN (AT A) by omega)
    rw [Int.toNat_natCast]
    show Vl (d + 3) 102 13 _ [] _ = _
    simp only [vC_value_13, aGF kC, rC_0, rC_1, rC_2, rC_3, rC_4, rC_5, rC_6, rC_7, rC_8, rC_9, rC_10, rC_11, rC_12, aGF kA, rA_0, aGF (kT tT_3), aGF (kK tK_75), aGF (kF tF_76), q75_0, q75_1, q75_2, q75_3, q75_4, q75_6, q75_7, q75_8, q75_9, q75_10, q75_11, q75_12, q75_13, q75_14, q75_15, q75_16, aGF (kP i67), aGF (kP i69), aGF (kP i71), aGF (kP i73), aGF (kP i363), aGF (kP i81), aGF (kP i83), aGF (kP i85), aGF (kP i87), aGF (kP i89), aGF (kP i91), aGF (kP i93), aGF (kP i95), aGF (kP i97), aGF (kP i99), aGF (kP i101), aGF (kP i103), aGF (kP i105), aGF (kP i107), aGF (kP i109), has_spec tF_76 hF, aVC, tlS, tlN, aLt, hwD]
    rw [vC_value_24]
    by_cases h2 : 0 ≤ a ∧ a < ((2 ^ (tF (AT A)).1 : Nat) : Int)
    · rw [if_pos h2, if_neg (by decide), if_pos ⟨h1, h2⟩]
      obtain ⟨x, rfl⟩ := Int.eq_ofNat_of_zero_le h2.1
      have q1 := appliedTo_spec (ω := ω) (d := d) tK_75 hF p1 p2 p3 (show x < 2 ^ (tF (AT A)).1 by omega) (show 1 < 2 ^ (tF (AT A)).1 by omega)
      rw [show ((1 : Nat) : Int) = 1 from rfl] at q1
      simp only [vC_value_27, aGF kC, rC_0, rC_1, rC_2, rC_3, rC_4, rC_5, rC_6, rC_7, rC_8, rC_9, rC_10, rC_11, rC_12, aGF kA, rA_0, aGF (kT tT_3), aGF (kK tK_75), aGF (kF tF_76), q75_0, q75_1, q75_2, q75_3, q75_4, q75_6, q75_7, q75_8, q75_9, q75_10, q75_11, q75_12, q75_13, q75_14, q75_15, q75_16, aGF (kP i67), aGF (kP i69), aGF (kP i71), aGF (kP i73), aGF (kP i363), aGF (kP i81), aGF (kP i83), aGF (kP i85), aGF (kP i87), aGF (kP i89), aGF (kP i91), aGF (kP i93), aGF (kP i95), aGF (kP i97), aGF (kP i99), aGF (kP i101), aGF (kP i103), aGF (kP i105), aGF (kP i107), aGF (kP i109), q1, aVC, tlS, tlN, aLt, hwD, vC_value_37, vC_value_41, Int.toNat_natCast]
    · rw [if_neg h2, if_pos rfl, vC_value_40, vC_value_41, if_neg (fun q => h2 q.2)]
  · rw [if_neg h1, if_neg (fun q => h1 q.1)]
    show Vl (d + 3) 102 40 _ [] _ = _
    rw [vC_value_40, vC_value_41]
end OPS1
