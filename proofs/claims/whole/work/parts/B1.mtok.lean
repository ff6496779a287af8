/-! THE REFERENCE'S READER: TOKENS -/
/-- a code of at most n letters -/
def mvd : Nat → Nat → Prop
  | 0, C => C = 0
  | n + 1, C => C = 0 ∨ ((1 ≤ C % 32 ∧ C % 32 ≤ 26) ∧ mvd n (C / 32))
/-- the same word to the base 27 -/
def cv : Nat → Nat → Nat
  | 0, _ => 0
  | n + 1, C => if C = 0 then 0 else 27 * cv n (C / 32) + C % 32
def MX (D : jD) (x : Nat → Nat) (len : Nat) : Prop := D 488 31 = (len : Int) ∧ len ≤ 540 ∧ ∀ i, i < len → D 489 i = (x i : Int) ∧ x i < 256
def TX (D D' : jD) : Prop := (∀ q, q ≠ 488 → D' q = D q) ∧ ∀ j, (j < 32 ∨ 36 < j) → D' 488 j = D 488 j
def LX (ρ ρ' : jr2) : Prop := ρ'.1 = ρ.1 ∧ ρ'.2.1 = ρ.2.1 ∧ ∀ c i, (c ≠ 488 ∨ i ≠ 39) → ρ'.2.2 c i = ρ.2.2 c i
def MTK (ρ : jr2) (D : jD) (len : Nat) (t : tk) : Prop := D 488 33 = (t.2.1 : Int) ∧ t.2.2.2 ≤ len ∧ (t.1 ≠ 258 → 1 ≤ t.2.2.2) ∧ ((t.1 = 258 ∧ len ≤ 500 ∧ D 488 34 = 0) ∨ ((t.1 = 259 ∨ (t.1 = 258 ∧ 500 < len)) ∧ D 488 34 = 1) ∨ (t.1 = 256 ∧ D 488 34 = 2 ∧ D 488 32 = (t.2.2.2 : Int) ∧ ρ.2.2 488 39 = (cv 6 t.2.2.1 : Int) ∧ mvd 6 t.2.2.1) ∨ (t.1 = 257 ∧ D 488 34 = 3 ∧ D 488 32 = (t.2.2.2 : Int) ∧ D 488 35 = (t.2.2.1 : Int) ∧ t.2.2.1 < 1000) ∨ (t.1 < 256 ∧ isSg t.1 ∧ D 488 34 = 4 ∧ D 488 32 = (t.2.2.2 : Int) ∧ D 488 36 = (t.1 : Int)))
section MTOK
variable {ρ : jr2} {D D' : jD} {d : Nat} {x : Nat → Nat} {len : Nat} {h : jh}
theorem mvd_up : ∀ n C, mvd n C → mvd (n + 1) C
  | 0, C, q => Or.inl q
  | n + 1, C, q => by
    rcases q with z | ⟨z, w⟩
    · exact Or.inl z
    · exact Or.inr ⟨z, mvd_up n _ w⟩
theorem cv_up : ∀ n C, mvd n C → cv (n + 1) C = cv n C
  | 0, C, q => by
    have q0 : C = 0 := q
    show (if C = 0 then 0 else _) = 0
    rw [if_pos q0]
  | n + 1, C, q => by
    show (if C = 0 then 0 else 27 * cv (n + 1) (C / 32) + C % 32) = if C = 0 then 0 else 27 * cv n (C / 32) + C % 32
    rcases q with z | ⟨z, w⟩
    · rw [if_pos z, if_pos z]
    · rw [cv_up n _ w]
theorem cv_f {n C : Nat} (h : mvd n C) : ∀ k, mvd (n + k) C ∧ cv (n + k) C = cv n C
  | 0 => ⟨h, rfl⟩
  | k + 1 => by
    obtain ⟨h1, h2⟩ := cv_f h k
    exact ⟨mvd_up _ _ h1, by rw [← h2]; exact cv_up _ _ h1⟩
theorem cv_6 {n C : Nat} (hn : n ≤ 6) (h : mvd n C) : mvd 6 C ∧ cv 6 C = cv n C := by
  have := cv_f h (6 - n)
  rw [show n + (6 - n) = 6 by omega] at this
  exact this
theorem cv_lt : ∀ n C, mvd n C → cv n C < 27 ^ n
  | 0, _, _ => Nat.one_pos
  | n + 1, C, q => by
    show (if C = 0 then 0 else 27 * cv n (C / 32) + C % 32) < 27 ^ (n + 1)
    have hp : 0 < 27 ^ (n + 1) := Nat.pow_pos (by decide)
    by_cases z : C = 0
    · rw [if_pos z]; exact hp
    · rw [if_neg z]
      rcases q with w | ⟨w1, w2⟩
      · exact absurd w z
      · have := cv_lt n _ w2
        rw [Nat.pow_succ]; omega
theorem cv_step {L C c : Nat} (hL : L < 6) (hm : mvd L C) (hc : 97 ≤ c ∧ c ≤ 122) : mvd (L + 1) (C * 32 + c % 32) ∧ cv 6 (C * 32 + c % 32) = 27 * cv 6 C + (c - 96) ∧ cv 6 C < 14348907 := by
  have m1 : mvd (L + 1) (C * 32 + c % 32) := by
    refine Or.inr ⟨by omega, ?_⟩
    rw [show (C * 32 + c % 32) / 32 = C by omega]
    exact hm
  refine ⟨m1, ?_, ?_⟩
  · rw [(cv_6 (by omega) m1).2, (cv_6 (by omega) hm).2]
    show (if C * 32 + c % 32 = 0 then 0 else 27 * cv L ((C * 32 + c % 32) / 32) + (C * 32 + c % 32) % 32) = _
    rw [if_neg (by omega), show (C * 32 + c % 32) / 32 = C by omega]
    omega
  · rw [(cv_6 (by omega) hm).2]
    have h1 := cv_lt L C hm
    have h2 : 27 ^ L ≤ 27 ^ 5 := Nat.pow_le_pow_right (by decide) (by omega)
    omega
theorem w64_w {W c : Nat} (hW : W < 14348907) (hc : 97 ≤ c ∧ c ≤ 122) : w64 ((w64 ((w64 (27 * (W : Int))) + (c : Int))) - 96) = ((27 * W + (c - 96) : Nat) : Int) := by
  have e1 : w64 (27 * (W : Int)) = 27 * (W : Int) := by unfold w64; omega
  have e2 : w64 (27 * (W : Int) + (c : Int)) = 27 * (W : Int) + (c : Int) := by unfold w64; omega
  have e3 : w64 (27 * (W : Int) + (c : Int) - 96) = 27 * (W : Int) + (c : Int) - 96 := by unfold w64; omega
  rw [e1, e2, e3]; omega
theorem dg_m {N c : Nat} (hN : N < 100) (h1 : 48 ≤ c) (h2 : c < 256) : w32 ((w32 ((w32 (10 * (N : Int))) + (c : Int))) - 48) = ((N * 10 + c - 48 : Nat) : Int) := by
  have e1 : w32 (10 * (N : Int)) = 10 * (N : Int) := by unfold w32; omega
  have e2 : w32 (10 * (N : Int) + (c : Int)) = 10 * (N : Int) + (c : Int) := by unfold w32; omega
  have e3 : w32 (10 * (N : Int) + (c : Int) - 48) = 10 * (N : Int) + (c : Int) - 48 := by unfold w32; omega
  rw [e1, e2, e3]; omega
theorem TX_rf : TX D D := ⟨fun _ _ => rfl, fun _ _ => rfl⟩
theorem TX_tr {D2 : jD} (h1 : TX D D') (h2 : TX D' D2) : TX D D2 := ⟨fun q a => by rw [h2.1 q a, h1.1 q a], fun j a => by rw [h2.2 j a, h1.2 j a]⟩
theorem TX_sD {j : Nat} {v : Int} (h : 32 ≤ j ∧ j ≤ 36) : TX D (sD D 488 j v) := ⟨fun q a => sD_ne a, fun i a => sD_nb (by omega)⟩
theorem LX_rf : LX ρ ρ := ⟨rfl, rfl, fun _ _ _ => rfl⟩
theorem LX_tr {ρ1 ρ2 : jr2} (h1 : LX ρ ρ1) (h2 : LX ρ1 ρ2) : LX ρ ρ2 := ⟨by rw [h2.1, h1.1], by rw [h2.2.1, h1.2.1], fun c i a => by rw [h2.2.2 c i a, h1.2.2 c i a]⟩
theorem LX_sM {v : Int} : LX ρ (sM ρ 488 39 v) := ⟨rfl, rfl, fun c i a => if_neg (fun z => by omega)⟩
theorem sM_eq {v : Int} {c i : Nat} : (sM ρ c i v).2.2 c i = v := if_pos ⟨rfl, rfl⟩
theorem MX_TX (hX : MX D x len) (h : TX D D') : MX D' x len := ⟨by rw [h.2 31 (by decide)]; exact hX.1, hX.2.1, fun i hi => by rw [h.1 489 (by decide)]; exact hX.2.2 i hi⟩
theorem misLetter {c : Nat} : Vl d 202 0 [some (.inl (c : Int))] [] h = some ((0, some (.inl (if isL c then 1 else 0))), h) := by
  rw [vM_isLetter_0]
  by_cases h1 : (c : Int) < 97
  · rw [if_pos h1, vM_isLetter_16, vM_isLetter_17, aZ0, if_neg (by omega)]
  · rw [if_neg h1, vM_isLetter_6]
    by_cases h2 : 122 < (c : Int)
    · rw [if_pos h2, vM_isLetter_16, vM_isLetter_17, aZ0, if_neg (by omega)]
    · rw [if_neg h2, vM_isLetter_12, vM_isLetter_17, aZ1, if_pos (by omega)]
theorem misDigit {c : Nat} : Vl d 203 0 [some (.inl (c : Int))] [] h = some ((0, some (.inl (if isG c then 1 else 0))), h) := by
  rw [vM_isDigit_0]
  by_cases h1 : (c : Int) < 48
  · rw [if_pos h1, vM_isDigit_16, vM_isDigit_17, aZ0, if_neg (by omega)]
  · rw [if_neg h1, vM_isDigit_6]
    by_cases h2 : 57 < (c : Int)
    · rw [if_pos h2, vM_isDigit_16, vM_isDigit_17, aZ0, if_neg (by omega)]
    · rw [if_neg h2, vM_isDigit_12, vM_isDigit_17, aZ1, if_pos (by omega)]
theorem sg_fact : ∀ c, c < 256 → (isSg c ↔ (c = 59 ∨ c = 61 ∨ c = 43 ∨ c = 42 ∨ c = 94 ∨ c = 40 ∨ c = 41 ∨ c = 44)) := by decide +kernel
theorem misMark {c : Nat} (hc : c < 256) : Vl d 204 0 [some (.inl (c : Int))] [] h = some ((0, some (.inl (if isSg c then 1 else 0))), h) := by
  have hs := sg_fact c hc
  have yes : isSg c → Vl d 204 48 [some (.inl (c : Int))] [] h = some ((0, some (.inl (if isSg c then 1 else 0))), h) := fun q => by
    rw [vM_isMark_48, vM_isMark_53, aZ1, if_pos q]
  rw [vM_isMark_0]
  by_cases h1 : (c : Int) = 59
  · rw [if_pos h1]; exact yes (hs.mpr (by omega))
  rw [if_neg h1, vM_isMark_6]
  by_cases h2 : (c : Int) = 61
  · rw [if_pos h2]; exact yes (hs.mpr (by omega))
  rw [if_neg h2, vM_isMark_12]
  by_cases h3 : (c : Int) = 43
  · rw [if_pos h3]; exact yes (hs.mpr (by omega))
  rw [if_neg h3, vM_isMark_18]
  by_cases h4 : (c : Int) = 42
  · rw [if_pos h4]; exact yes (hs.mpr (by omega))
  rw [if_neg h4, vM_isMark_24]
  by_cases h5 : (c : Int) = 94
  · rw [if_pos h5]; exact yes (hs.mpr (by omega))
  rw [if_neg h5, vM_isMark_30]
  by_cases h6 : (c : Int) = 40
  · rw [if_pos h6]; exact yes (hs.mpr (by omega))
  rw [if_neg h6, vM_isMark_36]
  by_cases h7 : (c : Int) = 41
  · rw [if_pos h7]; exact yes (hs.mpr (by omega))
  rw [if_neg h7, vM_isMark_42]
  by_cases h8 : (c : Int) = 44
  · rw [if_pos h8]; exact yes (hs.mpr (by omega))
  rw [if_neg h8, vM_isMark_52, vM_isMark_53, aZ0, if_neg (fun z => by have := hs.mp z; omega)]
theorem mbyteAt (hX : MX D x len) {b : Nat} : Vl d 205 0 [some (.inr (.inr (some 488))), some (.inl (b : Int))] [] (hp (1, ρ) D) = some ((0, some (.inl ((if b < len then x b else 0 : Nat) : Int))), hp (1, ρ) D) := by
  have hl := hX.2.1
  rw [vM_byteAt_0, mGF m488, hD, hX.1]
  by_cases hb : b < len
  · rw [if_pos (by omega), vM_byteAt_8, mGF m488, mr1, mIA m489, if_pos (by omega), Int.toNat_natCast, (hX.2.2 b hb).1, vM_byteAt_18, if_pos hb]
  · rw [if_neg (by omega), vM_byteAt_17, vM_byteAt_18, if_neg hb]; rfl
/-- the word, a letter longer -/
theorem mgo_word {b p : Nat} (hto : D 488 32 = (b : Int)) (hfr : D 488 33 = (p : Int)) (hb : b ≤ 540) (hpb : p ≤ b) (x1 x2 x3 s0 x4 : Int) : ∃ ρ1, Vl (d + 1) 201 240 [some (.inr (.inr (some 488))), some (.inl x1), some (.inl x2), some (.inl x3), some (.inl x4)] [.inl s0] (hp (1, ρ) D) = Vl (d + 1) 201 275 [some (.inr (.inr (some 488))), some (.inl x1), some (.inl x2), some (.inl s0), some (.inl x4)] [] (hp (1, ρ1) D) ∧ LX ρ ρ1 ∧ (b - p < 6 → ρ1.2.2 488 39 = w64 ((w64 ((w64 (27 * (ρ.2.2 488 39))) + x4)) - 96)) := by
  have e1 : w32 ((b : Int) - (p : Int)) = ((b - p : Nat) : Int) := by rw [w32_i (by omega) (by omega)]; omega
  by_cases h6 : b - p < 6
  · refine ⟨sM ρ 488 39 (w64 ((w64 ((w64 (27 * (ρ.2.2 488 39))) + x4)) - 96)), ?_, LX_sM, fun _ => sM_eq⟩
    rw [vM_go_240]
    simp only [mGF m488, hD, hto, hfr, e1]
    rw [if_pos (by omega), vM_go_255]
    simp only [mGF m488, mwL, aLt]
    rfl
  · refine ⟨ρ, ?_, LX_rf, fun z => absurd z h6⟩
    rw [vM_go_240]
    simp only [mGF m488, hD, hto, hfr, e1]
    rw [if_neg (by omega)]
/-- the number, a digit longer; a byte on -/
theorem mgo_num {b p : Nat} (hto : D 488 32 = (b : Int)) (hfr : D 488 33 = (p : Int)) (hb : b ≤ 540) (hpb : p ≤ b) (x1 x2 x3 x4 : Int) : ∃ D1, Vl (d + 1) 201 275 [some (.inr (.inr (some 488))), some (.inl x1), some (.inl x2), some (.inl x3), some (.inl x4)] [] (hp (1, ρ) D) = Vl (d + 1) 201 183 [some (.inr (.inr (some 488))), some (.inl x1), some (.inl x2), some (.inl x3), some (.inl x4)] [] (hp (1, ρ) D1) ∧ TX D D1 ∧ D1 488 33 = (p : Int) ∧ D1 488 32 = ((b + 1 : Nat) : Int) ∧ (b - p < 3 → D1 488 35 = w32 ((w32 ((w32 (10 * (D 488 35))) + x4)) - 48)) := by
  have e1 : w32 ((b : Int) - (p : Int)) = ((b - p : Nat) : Int) := by rw [w32_i (by omega) (by omega)]; omega
  by_cases h3 : b - p < 3
  · refine ⟨sD (sD D 488 35 (w32 ((w32 ((w32 (10 * (D 488 35))) + x4)) - 48))) 488 32 ((b + 1 : Nat) : Int), ?_, TX_tr (TX_sD (by decide)) (TX_sD (by decide)), by rw [sD_nb (by decide), sD_nb (by decide)]; exact hfr, sD_eq, fun _ => by rw [sD_nb (by decide)]; exact sD_eq⟩
    rw [vM_go_275]
    simp only [mGF m488, hD, hto, hfr, e1]
    rw [if_pos (by omega), vM_go_288]
    simp only [mGF m488, hwD, aLt, hD]
    rw [vM_go_305]
    simp only [mGF m488, hwD, aLt, hD]
    rw [sD_nb (by decide), hto, w32_s (by omega)]
  · refine ⟨sD D 488 32 ((b + 1 : Nat) : Int), ?_, TX_sD (by decide), by rw [sD_nb (by decide)]; exact hfr, sD_eq, fun z => absurd z h3⟩
    rw [vM_go_275]
    simp only [mGF m488, hD, hto, hfr, e1]
    rw [if_neg (by omega), vM_go_305]
    simp only [mGF m488, hwD, aLt, hD]
    rw [hto, w32_s (by omega)]
theorem mrun_loop {l2 p : Nat} (hl2 : l2 = 0 ∨ l2 = 1) (x1 : Int) : ∀ (n b L G C N : Nat) (D : jD) (ρ : jr2) (u4 : Option jv), b + n = len → MX D x len → D 488 32 = (b : Int) → D 488 33 = (p : Int) → p + L + G = b → (G = 0 → L ≤ 6 → ρ.2.2 488 39 = (cv 6 C : Int) ∧ mvd L C) → (L = 0 → G ≤ 3 → D 488 35 = (N : Int) ∧ N < 10 ^ G) →
    ∃ ρ' D' u4', Vl (d + 1) 201 183 [some (.inr (.inr (some 488))), some (.inl x1), some (.inl (l2 : Int)), some (.inl (if (l2 = 1 ∧ G = 0) ∨ (l2 = 0 ∧ L = 0) then 1 else 0)), u4] [] (hp (1, ρ) D) = Vl (d + 1) 201 318 [some (.inr (.inr (some 488))), some (.inl x1), some (.inl (l2 : Int)), some (.inl (if (l2 = 1 ∧ (rnS x len n b L G C N).2.2.1 = 0) ∨ (l2 = 0 ∧ (rnS x len n b L G C N).2.1 = 0) then 1 else 0)), u4'] [] (hp (1, ρ') D') ∧ LX ρ ρ' ∧ TX D D' ∧ D' 488 33 = (p : Int) ∧ D' 488 32 = ((rnS x len n b L G C N).1 : Int) ∧ p + (rnS x len n b L G C N).2.1 + (rnS x len n b L G C N).2.2.1 = (rnS x len n b L G C N).1 ∧ ((rnS x len n b L G C N).2.2.1 = 0 → (rnS x len n b L G C N).2.1 ≤ 6 → ρ'.2.2 488 39 = (cv 6 (rnS x len n b L G C N).2.2.2.1 : Int) ∧ mvd 6 (rnS x len n b L G C N).2.2.2.1) ∧ ((rnS x len n b L G C N).2.1 = 0 → (rnS x len n b L G C N).2.2.1 ≤ 3 → D' 488 35 = ((rnS x len n b L G C N).2.2.2.2 : Int) ∧ (rnS x len n b L G C N).2.2.2.2 < 1000)
  | n, b, L, G, C, N, D, ρ, u4, hb, hX, hto, hfr, hpb, hW, hN => by
    have hl := hX.2.1
    have q1 := mbyteAt (d := d) (ρ := ρ) hX (b := b)
    have bye : ∀ (u : Option jv), (rnS x len n b L G C N) = (b, L, G, C, N) → ∃ ρ' D' u4', Vl (d + 1) 201 318 [some (.inr (.inr (some 488))), some (.inl x1), some (.inl (l2 : Int)), some (.inl (if (l2 = 1 ∧ G = 0) ∨ (l2 = 0 ∧ L = 0) then 1 else 0)), u] [] (hp (1, ρ) D) = Vl (d + 1) 201 318 [some (.inr (.inr (some 488))), some (.inl x1), some (.inl (l2 : Int)), some (.inl (if (l2 = 1 ∧ (rnS x len n b L G C N).2.2.1 = 0) ∨ (l2 = 0 ∧ (rnS x len n b L G C N).2.1 = 0) then 1 else 0)), u4'] [] (hp (1, ρ') D') ∧ LX ρ ρ' ∧ TX D D' ∧ D' 488 33 = (p : Int) ∧ D' 488 32 = ((rnS x len n b L G C N).1 : Int) ∧ p + (rnS x len n b L G C N).2.1 + (rnS x len n b L G C N).2.2.1 = (rnS x len n b L G C N).1 ∧ ((rnS x len n b L G C N).2.2.1 = 0 → (rnS x len n b L G C N).2.1 ≤ 6 → ρ'.2.2 488 39 = (cv 6 (rnS x len n b L G C N).2.2.2.1 : Int) ∧ mvd 6 (rnS x len n b L G C N).2.2.2.1) ∧ ((rnS x len n b L G C N).2.1 = 0 → (rnS x len n b L G C N).2.2.1 ≤ 3 → D' 488 35 = ((rnS x len n b L G C N).2.2.2.2 : Int) ∧ (rnS x len n b L G C N).2.2.2.2 < 1000) := fun u e => by
      rw [e]
      exact ⟨ρ, D, u, rfl, LX_rf, TX_rf, hfr, hto, hpb, fun z1 z2 => ⟨(hW z1 z2).1, (cv_6 z2 (hW z1 z2).2).1⟩, fun z1 z2 => ⟨(hN z1 z2).1, by
        have z3 := (hN z1 z2).2
        have z4 : 10 ^ G ≤ 10 ^ 3 := Nat.pow_le_pow_right (by decide) z2
        show N < 1000
        omega⟩⟩
    match n, hb, bye with
    | 0, hb, bye =>
      have st : Vl (d + 1) 201 183 [some (.inr (.inr (some 488))), some (.inl x1), some (.inl (l2 : Int)), some (.inl (if (l2 = 1 ∧ G = 0) ∨ (l2 = 0 ∧ L = 0) then 1 else 0)), u4] [] (hp (1, ρ) D) = Vl (d + 1) 201 318 [some (.inr (.inr (some 488))), some (.inl x1), some (.inl (l2 : Int)), some (.inl (if (l2 = 1 ∧ G = 0) ∨ (l2 = 0 ∧ L = 0) then 1 else 0)), u4] [] (hp (1, ρ) D) := by
        rw [vM_go_183]
        simp only [mGF m488, hD, hto]
        rw [q1, aVC, tlS, vM_go_191, if_neg (by omega), misLetter, aVC, tlS, vM_go_194, if_neg (show ¬ isL 0 by omega), if_pos rfl, vM_go_197]
        simp only [mGF m488, hD, hto]
        rw [q1, aVC, tlS, vM_go_205, if_neg (by omega), misDigit, aVC, tlS, vM_go_208, if_neg (show ¬ isG 0 by omega), if_pos rfl]
      rw [st]
      exact bye u4 rfl
    | n + 1, hb, bye =>
      have hxb := hX.2.2 b (by omega)
      have st : Vl (d + 1) 201 183 [some (.inr (.inr (some 488))), some (.inl x1), some (.inl (l2 : Int)), some (.inl (if (l2 = 1 ∧ G = 0) ∨ (l2 = 0 ∧ L = 0) then 1 else 0)), u4] [] (hp (1, ρ) D) = if isL (x b) ∨ isG (x b) then Vl (d + 1) 201 211 [some (.inr (.inr (some 488))), some (.inl x1), some (.inl (l2 : Int)), some (.inl (if (l2 = 1 ∧ G = 0) ∨ (l2 = 0 ∧ L = 0) then 1 else 0)), u4] [] (hp (1, ρ) D) else Vl (d + 1) 201 318 [some (.inr (.inr (some 488))), some (.inl x1), some (.inl (l2 : Int)), some (.inl (if (l2 = 1 ∧ G = 0) ∨ (l2 = 0 ∧ L = 0) then 1 else 0)), u4] [] (hp (1, ρ) D) := by
        rw [vM_go_183]
        simp only [mGF m488, hD, hto]
        rw [q1, aVC, tlS, vM_go_191, if_pos (by omega), misLetter, aVC, tlS, vM_go_194]
        by_cases hA : isL (x b)
        · rw [if_pos hA, if_neg j10, if_pos (Or.inl hA)]
        · rw [if_neg hA, if_pos rfl, vM_go_197]
          simp only [mGF m488, hD, hto]
          rw [q1, aVC, tlS, vM_go_205, if_pos (by omega), misDigit, aVC, tlS, vM_go_208]
          by_cases hB : isG (x b)
          · rw [if_pos hB, if_neg j10, if_pos (Or.inr hB)]
          · rw [if_neg hB, if_pos rfl, if_neg (show ¬ (isL (x b) ∨ isG (x b)) from fun q => q.elim hA hB)]
      rw [st]
      by_cases hc : isL (x b) ∨ isG (x b)
      rotate_left
      · rw [if_neg hc]
        refine bye u4 ?_
        unfold rnS
        rw [if_neg (fun q => hc q.2)]
      rw [if_pos hc]
      clear bye st
      obtain ⟨g', hg'⟩ : ∃ g' : Int, g' = if isL (x b) then (if (l2 = 1 ∧ G = 0) ∨ (l2 = 0 ∧ L + 1 = 0) then 1 else 0) else (if (l2 = 1 ∧ G + 1 = 0) ∨ (l2 = 0 ∧ L = 0) then 1 else 0) := ⟨_, rfl⟩
      have s2 : Vl (d + 1) 201 211 [some (.inr (.inr (some 488))), some (.inl x1), some (.inl (l2 : Int)), some (.inl (if (l2 = 1 ∧ G = 0) ∨ (l2 = 0 ∧ L = 0) then 1 else 0)), u4] [] (hp (1, ρ) D) = Vl (d + 1) 201 240 [some (.inr (.inr (some 488))), some (.inl x1), some (.inl (l2 : Int)), some (.inl (if (l2 = 1 ∧ G = 0) ∨ (l2 = 0 ∧ L = 0) then 1 else 0)), some (.inl (x b : Int))] [.inl g'] (hp (1, ρ) D) := by
        rw [vM_go_211]
        simp only [mGF m488, mr1, hD, hto]
        rw [mIA m489, if_pos (by omega), Int.toNat_natCast, hxb.1]
        by_cases hg : (l2 = 1 ∧ G = 0) ∨ (l2 = 0 ∧ L = 0)
        · rw [if_pos hg, if_neg j10, vM_go_226, misLetter, aVC, tlS, vM_go_231]
          by_cases hA : isL (x b)
          · rw [if_pos hA]
            rw [if_pos hA] at hg'
            by_cases h1 : l2 = 1
            · rw [if_pos (by omega), vM_go_235, hg', if_pos (by omega)]
            · rw [if_neg (by omega), vM_go_239, hg', if_neg (by omega)]
          · rw [if_neg hA]
            rw [if_neg hA] at hg'
            by_cases h1 : l2 = 0
            · rw [if_pos (by omega), vM_go_235, hg', if_pos (by omega)]
            · rw [if_neg (by omega), vM_go_239, hg', if_neg (by omega)]
        · rw [if_neg hg, if_pos rfl, vM_go_239, hg']
          split
          · rw [if_neg (by omega)]
          · rw [if_neg (by omega)]
      rw [s2]
      obtain ⟨ρ1, w1, w2, w3⟩ := mgo_word (d := d) (ρ := ρ) hto hfr (by omega) (by omega) x1 (l2 : Int) (if (l2 = 1 ∧ G = 0) ∨ (l2 = 0 ∧ L = 0) then 1 else 0) g' (x b : Int)
      obtain ⟨D1, n1, n2, n3, n4, n5⟩ := mgo_num (d := d) (ρ := ρ1) hto hfr (by omega) (by omega) x1 (l2 : Int) g' (x b : Int)
      rw [w1, n1]
      have hX1 := MX_TX hX n2
      unfold rnS
      rw [if_pos (show b < len ∧ (isL (x b) ∨ isG (x b)) from ⟨by omega, hc⟩)]
      by_cases hA : isL (x b)
      · rw [if_pos hA] at hg' ⊢
        obtain ⟨ρ', D', u', z1, z2, z3, z4⟩ := mrun_loop hl2 x1 n (b + 1) (L + 1) G (C * 32 + x b % 32) N D1 ρ1 (some (.inl (x b : Int))) (by omega) hX1 n4 n3 (by omega) (fun h1 h2 => by
          obtain ⟨a1, a2⟩ := hW h1 (by omega)
          obtain ⟨c1, c2, c3⟩ := cv_step (show L < 6 by omega) a2 hA
          refine ⟨?_, c1⟩
          rw [w3 (by omega), a1, c2]
          exact w64_w c3 hA) (fun h1 _ => absurd h1 (by omega))
        exact ⟨ρ', D', u', by rw [hg']; exact z1, LX_tr w2 z2, TX_tr n2 z3, z4⟩
      · rw [if_neg hA] at hg' ⊢
        have hB : isG (x b) := hc.resolve_left hA
        obtain ⟨ρ', D', u', z1, z2, z3, z4⟩ := mrun_loop hl2 x1 n (b + 1) L (G + 1) C (N * 10 + x b - 48) D1 ρ1 (some (.inl (x b : Int))) (by omega) hX1 n4 n3 (by omega) (fun h1 _ => absurd h1 (by omega)) (fun h1 h2 => by
          obtain ⟨a1, a2⟩ := hN h1 (by omega)
          have := tn_step G (by omega)
          refine ⟨?_, by rw [this.2]; omega⟩
          rw [n5 (by omega), a1]
          exact dg_m (by omega) hB.1 (by omega))
        exact ⟨ρ', D', u', by rw [hg']; exact z1, LX_tr w2 z2, TX_tr n2 z3, z4⟩
end MTOK
