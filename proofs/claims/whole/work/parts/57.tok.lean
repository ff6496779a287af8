/-! The class's Reader: TOKENS -/
abbrev tk : Type := Nat × Nat × Nat × Nat
abbrev isL (c : Nat) : Prop := 97 ≤ c ∧ c ≤ 122
abbrev isG (c : Nat) : Prop := 48 ≤ c ∧ c ≤ 57
abbrev isSg (c : Nat) : Prop := jSIGt.idxOf (c : Int) < 8
def skp (x : Nat → Nat) (lim : Nat) : Nat → Nat → Nat
  | 0, b => b
  | n + 1, b => if b < lim ∧ (x b = 32 ∨ x b = 10) then skp x lim n (b + 1) else b
/-- a run of letters and digits: where it ends, letters, digits, code, number -/
def rnS (x : Nat → Nat) (len : Nat) : Nat → Nat → Nat → Nat → Nat → Nat → Nat × Nat × Nat × Nat × Nat
  | 0, b, L, G, C, N => (b, L, G, C, N)
  | n + 1, b, L, G, C, N => if b < len ∧ (isL (x b) ∨ isG (x b)) then (if isL (x b) then rnS x len n (b + 1) (L + 1) G (C * 32 + x b % 32) N else rnS x len n (b + 1) L (G + 1) C (N * 10 + x b - 48)) else (b, L, G, C, N)
def rnT (p : Nat) (r : Nat × Nat × Nat × Nat × Nat) : tk := if r.2.2.1 = 0 ∧ r.2.1 ≤ 6 then (256, p, r.2.2.2.1, r.1) else if r.2.1 = 0 ∧ r.2.2.1 ≤ 3 then (257, p, r.2.2.2.2, r.1) else (259, p, 0, r.1)
def scA (x : Nat → Nat) (len lim b : Nat) : tk := if lim ≤ b then (258, min b lim, 0, b) else if isL (x b) ∨ isG (x b) then rnT (min b lim) (rnS x len (len - b) b 0 0 0 0) else ((if isSg (x b) then x b else 259), min b lim, 0, b + 1)
def scn (x : Nat → Nat) (len b : Nat) : tk := scA x len (min 500 len) (skp x (min 500 len) (min 500 len - b) b)
def RX (D : jD) (x : Nat → Nat) (len : Nat) : Prop := D 111 10 = (len : Int) ∧ len ≤ 540 ∧ ∀ i, i < len → D 215 i = (x i : Int) ∧ x i < 256
def sT (D : jD) (t : tk) : jD := fun a b => if a = 111 ∧ b = 12 then (t.1 : Int) else if a = 111 ∧ b = 13 then (t.2.1 : Int) else if a = 111 ∧ b = 14 then (t.2.2.1 : Int) else if a = 111 ∧ b = 15 then (t.2.2.2 : Int) else D a b
def kst : Nat → Nat × Nat
  | 0 => (0, 0)
  | k + 1 => if jKEYt.getD k 0 = 32 then (0, (kst k).2 + 1) else ((kst k).1 * 32 + (jKEYt.getD k 0).toNat % 32, (kst k).2)
def kwF (c : Nat) : Nat → Nat → Int
  | 0, _ => -1
  | n + 1, k => if jKEYt.getD k 0 = 32 ∧ (kst k).1 = c then ((kst k).2 : Int) else kwF c n (k + 1)
def kw (c : Nat) : Int := kwF c 55 0
section TOK1
variable {d : Nat} {ω : jw} {D : jD} {h : jh}
theorem sD_sD {D : jD} {c i : Nat} {v w : Int} : sD (sD D c i v) c i w = sD D c i w := by
  funext a b; unfold sD
  by_cases q : a = c ∧ b = i
  · rw [if_pos q, if_pos q]
  · rw [if_neg q, if_neg q, if_neg q]
theorem sD_me {D : jD} {c i : Nat} {v : Int} (e : D c i = v) : sD D c i v = D := by
  funext a b; unfold sD
  by_cases q : a = c ∧ b = i
  · rw [if_pos q, q.1, q.2, e]
  · rw [if_neg q]
theorem isLetter_spec {c : Nat} : Vl d 28 0 [some (.inl (c : Int))] [] h = some ((0, some (.inl (if isL c then 1 else 0))), h) := by
  rw [vR_isLetter_0]
  by_cases h1 : (c : Int) < 97
  · rw [if_pos h1, vR_isLetter_16, vR_isLetter_17, aZ0, if_neg (by omega)]
  · rw [if_neg h1, vR_isLetter_6]
    by_cases h2 : 122 < (c : Int)
    · rw [if_pos h2, vR_isLetter_16, vR_isLetter_17, aZ0, if_neg (by omega)]
    · rw [if_neg h2, vR_isLetter_12, vR_isLetter_17, aZ1, if_pos (by omega)]
theorem isDigit_spec {c : Nat} : Vl d 29 0 [some (.inl (c : Int))] [] h = some ((0, some (.inl (if isG c then 1 else 0))), h) := by
  rw [vR_isDigit_0]
  by_cases h1 : (c : Int) < 48
  · rw [if_pos h1, vR_isDigit_16, vR_isDigit_17, aZ0, if_neg (by omega)]
  · rw [if_neg h1, vR_isDigit_6]
    by_cases h2 : 57 < (c : Int)
    · rw [if_pos h2, vR_isDigit_16, vR_isDigit_17, aZ0, if_neg (by omega)]
    · rw [if_neg h2, vR_isDigit_12, vR_isDigit_17, aZ1, if_pos (by omega)]
theorem signAt_spec {x : Nat → Nat} {len b : Nat} (hl : len ≤ 540) (hx : ∀ i, i < len → D 215 i = (x i : Int) ∧ x i < 256) (hb : b < len) : Vl d 27 0 [some (.inr (.inr (some 111))), some (.inl (b : Int))] [] (hp ω D) = some ((0, some (.inl (x b : Int))), hp ω D) := by
  rw [vR_signAt_0, if_neg (by omega), vR_signAt_4, if_pos (by omega), vR_signAt_11, aGF kR, rR_9, aIA kR_9, if_pos (by omega), Int.toNat_natCast, (hx b hb).1, vR_signAt_21]
theorem wl_fact : ∀ c, c < 256 → c &&& 31 = c % 32 := by decide +kernel
theorem withLetter_lt {C c : Nat} (hC : C < 33554432) (hc : c < 256) : jor (jshl (C : Int) 5) (jand (c : Int) 31) = ((C * 32 + c % 32 : Nat) : Int) := by
  rw [show (5 : Int) = ((5 : Nat) : Int) from rfl, jshl_n (by omega) (by omega), show (31 : Int) = ((31 : Nat) : Int) from rfl, jand_n (by omega) (by omega), wl_fact c hc, jor_n (by omega) (by omega)]
  have := Nat.two_pow_add_eq_or_of_lt (i := 5) (Nat.mod_lt c (show 0 < 2 ^ 5 by decide)) C
  rw [show 2 ^ 5 = 32 from rfl] at this
  rw [show C * 2 ^ 5 = 32 * C by omega, ← this]
theorem pw_step : ∀ L, L < 6 → 32 ^ L ≤ 33554432 ∧ 32 ^ (L + 1) = 32 ^ L * 32 := by decide +kernel
theorem tn_step : ∀ G, G < 3 → 10 ^ G ≤ 100 ∧ 10 ^ (G + 1) = 10 ^ G * 10 := by decide +kernel
theorem dg_w {N c : Nat} (hN : N < 100) (h1 : 48 ≤ c) (h2 : c < 256) : w32 ((w32 ((w32 ((N : Int) * 10)) + (c : Int))) - 48) = ((N * 10 + c - 48 : Nat) : Int) := by
  have e1 : w32 ((N : Int) * 10) = (N : Int) * 10 := by unfold w32; omega
  have e2 : w32 ((N : Int) * 10 + (c : Int)) = (N : Int) * 10 + (c : Int) := by unfold w32; omega
  have e3 : w32 ((N : Int) * 10 + (c : Int) - 48) = (N : Int) * 10 + (c : Int) - 48 := by unfold w32; omega
  rw [e1, e2, e3]; omega
theorem scanRun_loop {x : Nat → Nat} {len : Nat} (hl : len ≤ 540) (hX : RX D x len) : ∀ (n b L G C N : Nat) (x3 x4 : Int) (u5 : Option jv), b + n = len → L ≤ b → G ≤ b → (L ≤ 6 → x3 = (C : Int) ∧ C < 32 ^ L) → (G ≤ 3 → x4 = (N : Int) ∧ N < 10 ^ G) →
    ∃ x3' x4' u5', Vl (d + 1) 30 9 [some (.inr (.inr (some 111))), some (.inl (L : Int)), some (.inl (G : Int)), some (.inl x3), some (.inl x4), u5] [] (hp ω (sD D 111 15 (b : Int))) = Vl (d + 1) 30 108 [some (.inr (.inr (some 111))), some (.inl ((rnS x len n b L G C N).2.1 : Int)), some (.inl ((rnS x len n b L G C N).2.2.1 : Int)), some (.inl x3'), some (.inl x4'), u5'] [] (hp ω (sD D 111 15 ((rnS x len n b L G C N).1 : Int))) ∧ ((rnS x len n b L G C N).2.1 ≤ 6 → x3' = ((rnS x len n b L G C N).2.2.2.1 : Int)) ∧ ((rnS x len n b L G C N).2.2.1 ≤ 3 → x4' = ((rnS x len n b L G C N).2.2.2.2 : Int))
  | 0, b, L, G, C, N, x3, x4, u5, hb, hL, hG, h3, h4 => by
    refine ⟨x3, x4, u5, ?_, fun q => (h3 q).1, fun q => (h4 q).1⟩
    have e10 : sD D 111 15 (b : Int) 111 10 = (len : Int) := by rw [← hX.1]; exact if_neg (by omega)
    rw [vR_scanRun_9, aGF kR, aGF kR, hD, sD_eq, hD, e10, if_neg (by omega)]
    rfl
  | n + 1, b, L, G, C, N, x3, x4, u5, hb, hL, hG, h3, h4 => by
    have e10 : sD D 111 15 (b : Int) 111 10 = (len : Int) := by rw [← hX.1]; exact if_neg (by omega)
    have q1 := signAt_spec (d := d) (ω := ω) (D := sD D 111 15 (b : Int)) (x := x) (len := len) (b := b) hl (fun i hi => by rw [sD_ne (by decide)]; exact hX.2.2 i hi) (by omega)
    have st : Vl (d + 1) 30 9 [some (.inr (.inr (some 111))), some (.inl (L : Int)), some (.inl (G : Int)), some (.inl x3), some (.inl x4), u5] [] (hp ω (sD D 111 15 (b : Int))) = if isL (x b) ∨ isG (x b) then Vl (d + 1) 30 48 [some (.inr (.inr (some 111))), some (.inl (L : Int)), some (.inl (G : Int)), some (.inl x3), some (.inl x4), u5] [] (hp ω (sD D 111 15 (b : Int))) else Vl (d + 1) 30 108 [some (.inr (.inr (some 111))), some (.inl (L : Int)), some (.inl (G : Int)), some (.inl x3), some (.inl x4), u5] [] (hp ω (sD D 111 15 (b : Int))) := by
      rw [vR_scanRun_9, aGF kR, aGF kR, hD, sD_eq, hD, e10, if_pos (by omega), vR_scanRun_20, aGF kR, aGF kR, hD, sD_eq, q1, aVC, tlS, vR_scanRun_28, isLetter_spec, aVC, tlS, vR_scanRun_31]
      by_cases hA : isL (x b)
      · rw [if_pos hA, if_neg (by decide), if_pos (Or.inl hA)]
      · rw [if_neg hA, if_pos rfl, vR_scanRun_34, aGF kR, aGF kR, hD, sD_eq, q1, aVC, tlS, vR_scanRun_42, isDigit_spec, aVC, tlS, vR_scanRun_45]
        by_cases hB : isG (x b)
        · rw [if_pos hB, if_neg (by decide), if_pos (Or.inr hB)]
        · rw [if_neg hB, if_pos rfl, if_neg (fun q => q.elim hA hB)]
    rw [st]
    unfold rnS
    by_cases hc : isL (x b) ∨ isG (x b)
    rotate_left
    · rw [if_neg hc, if_neg (fun q => hc q.2)]
      exact ⟨x3, x4, u5, rfl, fun q => (h3 q).1, fun q => (h4 q).1⟩
    rw [if_pos hc, if_pos (show b < len ∧ (isL (x b) ∨ isG (x b)) from ⟨by omega, hc⟩)]
    have hxb := (hX.2.2 b (by omega)).2
    by_cases hA : isL (x b)
    · rw [if_pos hA]
      obtain ⟨y3, y4, y5, z1, z2, z3⟩ := scanRun_loop hl hX n (b + 1) (L + 1) G (C * 32 + x b % 32) N (jor (jshl x3 5) (jand (x b : Int) 31)) x4 (some (.inl (x b : Int))) (by omega) (by omega) (by omega) (fun q => by
        obtain ⟨a1, a2⟩ := h3 (by omega)
        have := pw_step L (by omega)
        refine ⟨by rw [a1]; exact withLetter_lt (by omega) hxb, ?_⟩
        rw [this.2]; omega) h4
      refine ⟨y3, y4, y5, ?_, z2, z3⟩
      rw [vR_scanRun_48, aGF kR, aGF kR, hD, sD_eq, q1, aVC, tlS, vR_scanRun_56, isLetter_spec, aVC, tlS, vR_scanRun_63, if_pos hA, if_neg (by decide), vR_scanRun_66, vR_withLetter_0, aVC, tlS, vR_scanRun_75, vR_scanRun_95, aGF kR, aGF kR, aLt, hwD, hD, sD_eq, sD_sD, w32_s (by omega), w32_s (by omega)]
      exact z1
    · rw [if_neg hA]
      have hB : isG (x b) := hc.resolve_left hA
      obtain ⟨y3, y4, y5, z1, z2, z3⟩ := scanRun_loop hl hX n (b + 1) L (G + 1) C (N * 10 + x b - 48) x3 (w32 ((w32 ((w32 (x4 * 10)) + (x b : Int))) - 48)) (some (.inl (x b : Int))) (by omega) (by omega) (by omega) h3 (fun q => by
        obtain ⟨a1, a2⟩ := h4 (by omega)
        have := tn_step G (by omega)
        refine ⟨?_, by rw [this.2]; omega⟩
        rw [a1]; exact dg_w (by omega) hB.1 (by omega))
      refine ⟨y3, y4, y5, ?_, z2, z3⟩
      rw [vR_scanRun_48, aGF kR, aGF kR, hD, sD_eq, q1, aVC, tlS, vR_scanRun_56, isLetter_spec, aVC, tlS, vR_scanRun_63, if_neg hA, if_pos rfl, vR_scanRun_79, vR_scanRun_95, aGF kR, aGF kR, aLt, hwD, hD, sD_eq, sD_sD, w32_s (by omega), w32_s (by omega)]
      exact z1
theorem rnS_le (x : Nat → Nat) (len : Nat) : ∀ n b L G C N, b ≤ (rnS x len n b L G C N).1 ∧ (rnS x len n b L G C N).1 ≤ b + n
  | 0, b, _, _, _, _ => ⟨Nat.le_refl _, Nat.le_refl _⟩
  | n + 1, b, L, G, C, N => by
    unfold rnS
    split
    · split
      · have := rnS_le x len n (b + 1) (L + 1) G (C * 32 + x b % 32) N; omega
      · have := rnS_le x len n (b + 1) L (G + 1) C (N * 10 + x b - 48); omega
    · exact ⟨Nat.le_refl _, by omega⟩
theorem scanRun_spec {x : Nat → Nat} {len b p : Nat} (hl : len ≤ 540) (hb : b ≤ len) (hX : RX D x len) (e13 : D 111 13 = (p : Int)) (e14 : D 111 14 = 0) : Vl (d + 1) 30 0 [some (.inr (.inr (some 111))), none, none, none, none, none] [] (hp ω (sD D 111 15 (b : Int))) = some ((0, none), hp ω (sT D (rnT p (rnS x len (len - b) b 0 0 0 0)))) := by
  obtain ⟨y3, y4, y5, z1, z2, z3⟩ := scanRun_loop (d := d) (ω := ω) hl hX (len - b) b 0 0 0 0 0 0 none (by omega) (Nat.zero_le _) (Nat.zero_le _) (fun _ => ⟨rfl, by decide⟩) (fun _ => ⟨rfl, by decide⟩)
  rw [show ((0 : Nat) : Int) = 0 from rfl] at z1
  rw [vR_scanRun_0, z1]
  generalize hr : rnS x len (len - b) b 0 0 0 0 = r at z1 z2 z3 ⊢
  obtain ⟨e, L, G, C, N⟩ := r
  dsimp only at z2 z3 ⊢
  have fe : ∀ (k : Int) (c : Int) (t : tk), k = (t.1 : Int) → (p : Int) = (t.2.1 : Int) → c = (t.2.2.1 : Int) → (e : Int) = (t.2.2.2 : Int) → sD (sD (sD D 111 15 (e : Int)) 111 12 k) 111 14 c = sT D t := fun k c t t1 t2 t3 t4 => by
    funext a q
    unfold sD sT
    by_cases hA : a = 111
    · subst hA
      by_cases q12 : q = 12
      · subst q12; simp [t1]
      by_cases q13 : q = 13
      · subst q13; simp [e13, t2]
      by_cases q14 : q = 14
      · subst q14; simp [t3]
      by_cases q15 : q = 15
      · subst q15; simp [t4]
      simp [q12, q13, q14, q15]
    · simp [hA]
  have no14 : sD (sD D 111 15 (e : Int)) 111 12 259 = sT D (259, p, 0, e) := by
    rw [← fe 259 0 (259, p, 0, e) rfl rfl rfl rfl, sD_me (c := 111) (i := 14)]
    unfold sD; rw [if_neg (by omega), if_neg (by omega)]; exact e14
  have bad : Vl (d + 1) 30 158 [some (.inr (.inr (some 111))), some (.inl (L : Int)), some (.inl (G : Int)), some (.inl y3), some (.inl y4), y5] [] (hp ω (sD D 111 15 (e : Int))) = some ((0, none), hp ω (sT D (259, p, 0, e))) := by
    rw [vR_scanRun_158, aGF kR, aLt, hwD, no14, vR_scanRun_165]
  have num : Vl (d + 1) 30 133 [some (.inr (.inr (some 111))), some (.inl (L : Int)), some (.inl (G : Int)), some (.inl y3), some (.inl y4), y5] [] (hp ω (sD D 111 15 (e : Int))) = some ((0, none), hp ω (sT D (if L = 0 ∧ G ≤ 3 then (257, p, N, e) else (259, p, 0, e)))) := by
    rw [vR_scanRun_133]
    by_cases h1 : L = 0
    · rw [if_pos (by omega), vR_scanRun_137]
      by_cases h2 : G ≤ 3
      · rw [if_neg (by omega), vR_scanRun_142, aGF kR, aLt, hwD, aGF kR, aLt, hwD, vR_scanRun_165, if_pos ⟨h1, h2⟩, z3 h2, fe 257 (N : Int) (257, p, N, e) rfl rfl rfl rfl]
      · rw [if_pos (by omega), bad, if_neg (fun q => h2 q.2)]
    · rw [if_neg (by omega), bad, if_neg (fun q => h1 q.1)]
  unfold rnT
  dsimp only
  rw [vR_scanRun_108]
  by_cases h1 : G = 0
  · rw [if_pos (by omega), vR_scanRun_112]
    by_cases h2 : L ≤ 6
    · rw [if_neg (by omega), vR_scanRun_118, aGF kR, aLt, hwD, aGF kR, aLt, hwD, vR_scanRun_165, if_pos ⟨h1, h2⟩, z2 h2, fe 256 (C : Int) (256, p, C, e) rfl rfl rfl rfl]
    · rw [if_pos (by omega), num, if_neg (show ¬ (G = 0 ∧ L ≤ 6) from fun q => h2 q.2)]
  · rw [if_neg (by omega), num, if_neg (show ¬ (G = 0 ∧ L ≤ 6) from fun q => h1 q.1)]
end TOK1
