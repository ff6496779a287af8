/-! The class's Reader: scan, keyword, what a TOKEN may be -/
def sF (D : jD) (f p : Int) : jD := sD (sD D 111 2 f) 111 3 p
def TKD (D : jD) (t : tk) : Prop := D 111 12 = (t.1 : Int) ∧ D 111 13 = (t.2.1 : Int) ∧ D 111 14 = (t.2.2.1 : Int) ∧ D 111 15 = (t.2.2.2 : Int)
def nix (nm : Nat → Nat) (c : Nat) : Nat → Nat → Int
  | 0, _ => -1
  | n + 1, i => if nm i = c then (i : Int) else nix nm c n (i + 1)
section TOK2
variable {d : Nat} {ω : jw} {D : jD} {h : jh} {x : Nat → Nat} {len : Nat} {t : tk}
theorem sT_mk {E : jD} (he : ∀ a b, ¬ (a = 111 ∧ 12 ≤ b ∧ b ≤ 15) → E a b = D a b) (h12 : E 111 12 = (t.1 : Int)) (h13 : E 111 13 = (t.2.1 : Int)) (h14 : E 111 14 = (t.2.2.1 : Int)) (h15 : E 111 15 = (t.2.2.2 : Int)) : E = sT D t := by
  funext a q
  unfold sT
  by_cases hA : a = 111
  · subst hA
    by_cases q12 : q = 12
    · subst q12; simp [h12]
    by_cases q13 : q = 13
    · subst q13; simp [h13]
    by_cases q14 : q = 14
    · subst q14; simp [h14]
    by_cases q15 : q = 15
    · subst q15; simp [h15]
    simp [q12, q13, q14, q15, he 111 q (by omega)]
  · simp [hA, he a q (by omega)]
theorem sT_12 : sT D t 111 12 = (t.1 : Int) := if_pos ⟨rfl, rfl⟩
theorem sT_13 : sT D t 111 13 = (t.2.1 : Int) := by unfold sT; rw [if_neg (by omega), if_pos ⟨rfl, rfl⟩]
theorem sT_14 : sT D t 111 14 = (t.2.2.1 : Int) := by unfold sT; rw [if_neg (by omega), if_neg (by omega), if_pos ⟨rfl, rfl⟩]
theorem sT_15 : sT D t 111 15 = (t.2.2.2 : Int) := by unfold sT; rw [if_neg (by omega), if_neg (by omega), if_neg (by omega), if_pos ⟨rfl, rfl⟩]
theorem sT_TKD : TKD (sT D t) t := ⟨sT_12, sT_13, sT_14, sT_15⟩
theorem sT_far {a b : Nat} (q : ¬ (a = 111 ∧ 12 ≤ b ∧ b ≤ 15)) : sT D t a b = D a b := by
  unfold sT; rw [if_neg (by omega), if_neg (by omega), if_neg (by omega), if_neg (by omega)]
theorem sT_ne {a : Nat} (q : a ≠ 111) : sT D t a = D a := by
  funext b; exact sT_far (fun z => q z.1)
theorem RX_cg {D' : jD} (hX : RX D x len) (h1 : D' 111 10 = D 111 10) (h2 : D' 215 = D 215) : RX D' x len := ⟨by rw [h1]; exact hX.1, hX.2.1, fun i hi => by rw [h2]; exact hX.2.2 i hi⟩
theorem RX_sT (hX : RX D x len) : RX (sT D t) x len := RX_cg hX (sT_far (by omega)) (sT_ne (by decide))
theorem skip_loop (hX : RX D x len) {lim : Nat} (hlim : lim ≤ len) : ∀ n b : Nat, lim - b = n → Vl (d + 1) 26 11 [some (.inr (.inr (some 111))), some (.inl (lim : Int))] [] (hp ω (sD D 111 15 (b : Int))) = Vl (d + 1) 26 58 [some (.inr (.inr (some 111))), some (.inl (lim : Int))] [] (hp ω (sD D 111 15 (skp x lim n b : Int)))
  | 0, b, hb => by rw [vR_scan_11, aGF kR, hD, sD_eq, if_neg (by omega)]; rfl
  | n + 1, b, hb => by
    have hl := hX.2.1
    have q1 := signAt_spec (d := d) (ω := ω) (D := sD D 111 15 (b : Int)) (x := x) (len := len) (b := b) hl (fun i hi => by rw [sD_ne (by decide)]; exact hX.2.2 i hi) (by omega)
    unfold skp
    have go : Vl (d + 1) 26 45 [some (.inr (.inr (some 111))), some (.inl (lim : Int))] [] (hp ω (sD D 111 15 (b : Int))) = Vl (d + 1) 26 58 [some (.inr (.inr (some 111))), some (.inl (lim : Int))] [] (hp ω (sD D 111 15 (skp x lim n (b + 1) : Int))) := by
      rw [vR_scan_45, aGF kR, aGF kR, aLt, hwD, hD, sD_eq, sD_sD, w32_s (by omega)]
      exact skip_loop hX hlim n (b + 1) (by omega)
    rw [vR_scan_11, aGF kR, hD, sD_eq, if_pos (by omega), vR_scan_19, aGF kR, aGF kR, hD, sD_eq, q1, aVC, tlS, vR_scan_27]
    by_cases h1 : x b = 32
    · rw [if_pos (by omega), go, if_pos (show b < lim ∧ (x b = 32 ∨ x b = 10) by omega)]
    · rw [if_neg (by omega), vR_scan_32, aGF kR, aGF kR, hD, sD_eq, q1, aVC, tlS, vR_scan_40]
      by_cases h2 : x b = 10
      · rw [if_pos (by omega), go, if_pos (show b < lim ∧ (x b = 32 ∨ x b = 10) by omega)]
      · rw [if_neg (by omega), if_neg (show ¬ (b < lim ∧ (x b = 32 ∨ x b = 10)) by omega)]
theorem scan_spec (hX : RX D x len) {b : Nat} (e15 : D 111 15 = (b : Int)) : Vl (d + 2) 26 0 [some (.inr (.inr (some 111))), none] [] (hp ω D) = some ((0, none), hp ω (sT D (scn x len b))) := by
  have hl := hX.2.1
  have elim : (if (500 : Int) < (len : Int) then (500 : Int) else (len : Int)) = ((min 500 len : Nat) : Int) := by split <;> omega
  have q0 := skip_loop (d := d + 1) (ω := ω) hX (lim := min 500 len) (by omega) (min 500 len - b) b rfl
  rw [sD_me e15] at q0
  rw [vR_scan_0, aGF kR, hD, hX.1, elim, q0]
  unfold scn
  generalize hb1 : skp x (min 500 len) (min 500 len - b) b = b1
  generalize hlim : min 500 len = lim
  have hlim2 : lim ≤ len := by omega
  have emin : (if (lim : Int) < (b1 : Int) then (lim : Int) else (b1 : Int)) = ((min b1 lim : Nat) : Int) := by split <;> omega
  have e15b : sD (sD (sD D 111 15 (b1 : Int)) 111 13 ((min b1 lim : Nat) : Int)) 111 14 0 111 15 = (b1 : Int) := by
    unfold sD; rw [if_neg (by omega), if_neg (by omega), if_pos ⟨rfl, rfl⟩]
  rw [vR_scan_58, aGF kR, aGF kR, hD, sD_eq, emin, aLt, hwD, aGF kR, aLt, hwD, aGF kR, hD, e15b]
  unfold scA
  by_cases h1 : lim ≤ b1
  · rw [if_neg (by omega), if_pos h1, vR_scan_83, aGF kR, aLt, hwD, vR_scan_174]
    congr 3
    exact sT_mk (fun a q hq => by unfold sD; rw [if_neg (by omega), if_neg (by omega), if_neg (by omega), if_neg (by omega)]) sD_eq (by unfold sD; rw [if_neg (by omega), if_neg (by omega), if_pos ⟨rfl, rfl⟩]) (by unfold sD; rw [if_neg (by omega), if_pos ⟨rfl, rfl⟩]; rfl) (by unfold sD; rw [if_neg (by omega), if_neg (by omega), if_neg (by omega), if_pos ⟨rfl, rfl⟩])
  rw [if_pos (by omega), if_neg h1]
  have hfar : ∀ a q, ¬ (a = 111 ∧ 12 ≤ q ∧ q ≤ 15) → sD (sD (sD D 111 15 (b1 : Int)) 111 13 ((min b1 lim : Nat) : Int)) 111 14 0 a q = D a q := fun a q hq => by unfold sD; rw [if_neg (by omega), if_neg (by omega), if_neg (by omega)]
  have e13 : sD (sD (sD D 111 15 (b1 : Int)) 111 13 ((min b1 lim : Nat) : Int)) 111 14 0 111 13 = ((min b1 lim : Nat) : Int) := by unfold sD; rw [if_neg (by omega), if_pos ⟨rfl, rfl⟩]
  have e14 : sD (sD (sD D 111 15 (b1 : Int)) 111 13 ((min b1 lim : Nat) : Int)) 111 14 0 111 14 = 0 := sD_eq
  generalize hE : sD (sD (sD D 111 15 (b1 : Int)) 111 13 ((min b1 lim : Nat) : Int)) 111 14 0 = E at e15b hfar e13 e14 ⊢
  have hXE : RX E x len := RX_cg hX (hfar _ _ (by omega)) (funext fun q => hfar _ _ (by omega))
  have q1 := signAt_spec (d := d + 1) (ω := ω) (D := E) (b := b1) hl hXE.2.2 (by omega)
  have hxb := (hX.2.2 b1 (by omega)).2
  have run : Vl (d + 2) 26 121 [some (.inr (.inr (some 111))), some (.inl (lim : Int))] [] (hp ω E) = some ((0, none), hp ω (sT D (rnT (min b1 lim) (rnS x len (len - b1) b1 0 0 0 0)))) := by
    have q2 := scanRun_spec (d := d) (ω := ω) (D := E) (b := b1) hl (by omega) hXE e13 e14
    rw [sD_me e15b] at q2
    rw [vR_scan_121, aGF kR, q2, aVC, tlN, vR_scan_125, vR_scan_174]
    congr 3
    exact sT_mk (fun a q hq => by rw [sT_far hq]; exact hfar a q hq) sT_12 sT_13 sT_14 sT_15
  rw [vR_scan_93, aGF kR, aGF kR, hD, e15b, q1, aVC, tlS, vR_scan_101, isLetter_spec, aVC, tlS, vR_scan_104]
  by_cases hA : isL (x b1)
  · rw [if_pos hA, if_neg (by decide), run, if_pos (Or.inl hA)]
  rw [if_neg hA, if_pos rfl, vR_scan_107, aGF kR, aGF kR, hD, e15b, q1, aVC, tlS, vR_scan_115, isDigit_spec, aVC, tlS, vR_scan_118]
  by_cases hB : isG (x b1)
  · rw [if_pos hB, if_neg (by decide), run, if_pos (Or.inr hB)]
  rw [if_neg hB, if_pos rfl, if_neg (show ¬ (isL (x b1) ∨ isG (x b1)) from fun q => q.elim hA hB), vR_scan_128, aGF kR, aGF kR, hD, e15b, q1, aVC, tlS, vR_scan_140]
  have e16 : ((x b1 : Nat) : Int) % 65536 = (x b1 : Int) := by omega
  rw [e16]
  unfold vG
  rw [if_pos (by omega)]
  have fin : ∀ k : Nat, Vl (d + 2) 26 161 [some (.inr (.inr (some 111))), some (.inl (lim : Int))] [.inl (k : Int), .inr (.inr (some 111))] (hp ω E) = some ((0, none), hp ω (sT D (k, min b1 lim, 0, b1 + 1))) := fun k => by
    have e15c : sD E 111 12 (k : Int) 111 15 = (b1 : Int) := by rw [← e15b]; exact if_neg (by omega)
    rw [vR_scan_161, aGF kR, aLt, hwD, aGF kR, aGF kR, hD, e15c, aLt, hwD, vR_scan_174, w32_s (by omega)]
    congr 3
    exact sT_mk (fun a q hq => by
      rw [← hfar a q hq]; unfold sD; rw [if_neg (by omega), if_neg (by omega)]) (by unfold sD; rw [if_neg (by omega), if_pos ⟨rfl, rfl⟩]) (by unfold sD; rw [if_neg (by omega), if_neg (by omega)]; exact e13) (by unfold sD; rw [if_neg (by omega), if_neg (by omega)]; exact e14) sD_eq
  by_cases hS : isSg (x b1)
  · rw [if_neg (show ¬ ((if jSIGt.idxOf (x b1 : Int) < 8 then (jSIGt.idxOf (x b1 : Int) : Int) else -1) < 0) from by rw [if_pos hS]; omega), vR_scan_147, aGF kR, aGF kR, hD, e15b, q1, aVC, tlS, vR_scan_155, fin, if_pos hS]
  · rw [if_pos (show (if jSIGt.idxOf (x b1 : Int) < 8 then (jSIGt.idxOf (x b1 : Int) : Int) else -1) < 0 from by rw [if_neg hS]; omega), vR_scan_158, show (259 : Int) = ((259 : Nat) : Int) from rfl, fin, if_neg hS]
theorem kst_fact : ∀ k, k < 55 → (kst k).1 < 33554432 ∧ (kst k).2 < 100 ∧ 0 ≤ jKEYt.getD k 0 ∧ jKEYt.getD k 0 < 256 := by decide +kernel
theorem keyword_loop (c : Nat) : ∀ (n k : Nat) (u : Option jv), k + n = 55 → Vl (d + 1) 34 6 [some (.inl (c : Int)), some (.inl ((kst k).1 : Int)), some (.inl ((kst k).2 : Int)), some (.inl (k : Int)), u] [] h = some ((0, some (.inl (kwF c n k))), h)
  | 0, k, u, hk => by rw [vR_keyword_6, if_neg (by omega), vR_keyword_58]; rfl
  | n + 1, k, u, hk => by
    obtain ⟨f1, f2, f3, f4⟩ := kst_fact k (by omega)
    rw [vR_keyword_6, if_pos (by omega), vR_keyword_15]
    unfold vG
    rw [if_pos (by omega), Int.toNat_natCast]
    unfold kwF
    by_cases h1 : jKEYt.getD k 0 = 32
    · rw [if_pos h1, vR_keyword_40]
      by_cases h2 : (kst k).1 = c
      · rw [if_pos (by omega), vR_keyword_45, if_pos ⟨h1, h2⟩]
      · rw [if_neg (by omega), vR_keyword_47, vR_keyword_52, w32_s (by omega), w32_s (by omega), if_neg (fun q => h2 q.2)]
        have e := keyword_loop c n (k + 1) (some (.inl (jKEYt.getD k 0))) (by omega)
        rw [show kst (k + 1) = (0, (kst k).2 + 1) from if_pos h1] at e
        exact e
    · obtain ⟨y, hy⟩ := Int.eq_ofNat_of_zero_le f3
      have e := keyword_loop c n (k + 1) (some (.inl (jKEYt.getD k 0))) (by omega)
      rw [show kst (k + 1) = ((kst k).1 * 32 + (jKEYt.getD k 0).toNat % 32, (kst k).2) from if_neg h1, hy, Int.toNat_natCast] at e
      rw [if_neg h1, vR_keyword_30, vR_withLetter_0, hy, withLetter_lt f1 (by omega), aVC, tlS, vR_keyword_36, vR_keyword_52, w32_s (by omega), if_neg (fun q => h1 (hy.trans q.1))]
      exact e
theorem keyword_spec {c : Nat} : Vl (d + 1) 34 0 [some (.inl (c : Int)), none, none, none, none] [] h = some ((0, some (.inl (kw c))), h) := by
  rw [vR_keyword_0]
  exact keyword_loop c 55 0 none (by decide)
theorem refuse_spec {f p : Int} : Vl d 39 0 [some (.inr (.inr (some 111))), some (.inl f), some (.inl p)] [] (hp ω D) = some ((0, some (.inl 0)), hp ω (sF D f p)) := by
  rw [vR_refuse_0, aGF kR, aLt, hwD, aGF kR, aLt, hwD, aZ0]; rfl
theorem pass_spec (hX : RX D x len) (hT : TKD D t) {w : Nat} : Vl (d + 3) 43 0 [some (.inr (.inr (some 111))), some (.inl (w : Int))] [] (hp ω D) = if t.1 = w then some ((0, some (.inl 1)), hp ω (sT D (scn x len t.2.2.2))) else some ((0, some (.inl 0)), hp ω (sF D 1 t.2.1)) := by
  rw [vR_pass_0, aGF kR, hD, hT.1]
  by_cases h1 : t.1 = w
  · rw [if_pos (by omega), if_pos h1, vR_pass_18, aGF kR, scan_spec hX hT.2.2.2, aVC, tlN, vR_pass_22, aZ1]
  · rw [if_neg (by omega), if_neg h1, vR_pass_8, aGF kR, aGF kR, hD, hT.2.1, refuse_spec, aVC, tlS, vR_pass_17, aZ0]
theorem isNumber_spec (hT : TKD D t) {lo hi : Int} : Vl (d + 1) 38 0 [some (.inr (.inr (some 111))), some (.inl lo), some (.inl hi)] [] (hp ω D) = if t.1 = 257 then (if lo ≤ (t.2.2.1 : Int) ∧ (t.2.2.1 : Int) ≤ hi then some ((0, some (.inl 1)), hp ω D) else some ((0, some (.inl 0)), hp ω (sF D 2 t.2.1))) else some ((0, some (.inl 0)), hp ω (sF D 1 t.2.1)) := by
  have bad : Vl (d + 1) 38 36 [some (.inr (.inr (some 111))), some (.inl lo), some (.inl hi)] [] (hp ω D) = some ((0, some (.inl 0)), hp ω (sF D 2 t.2.1)) := by
    rw [vR_isNumber_36, aGF kR, aGF kR, hD, hT.2.1, refuse_spec, aVC, tlS, vR_isNumber_45, aZ0]
  rw [vR_isNumber_0, aGF kR, hD, hT.1]
  by_cases h1 : t.1 = 257
  · rw [if_pos (by omega), if_pos h1, vR_isNumber_20, aGF kR, hD, hT.2.2.1]
    by_cases h2 : (t.2.2.1 : Int) < lo
    · rw [if_pos h2, bad, if_neg (by omega)]
    · rw [if_neg h2, vR_isNumber_28, aGF kR, hD, hT.2.2.1]
      by_cases h3 : hi < (t.2.2.1 : Int)
      · rw [if_pos h3, bad, if_neg (by omega)]
      · rw [if_neg h3, vR_isNumber_46, aZ1, if_pos (by omega)]
  · rw [if_neg (by omega), if_neg h1, vR_isNumber_10, aGF kR, aGF kR, hD, hT.2.1, refuse_spec, aVC, tlS, vR_isNumber_19, aZ0]
theorem nameOf_loop {nm : Nat → Nat} {N c : Nat} (hN : N ≤ 12) (h4 : D 112 4 = (N : Int)) (hn : ∀ i, i < N → D 209 i = (nm i : Int)) : ∀ n i : Nat, i + n = N → Vl d 46 2 [some (.inr (.inr (some 111))), some (.inl (c : Int)), some (.inl (i : Int))] [] (hp ω D) = some ((0, some (.inl (nix nm c n i))), hp ω D)
  | 0, i, hi => by rw [vR_nameOf_2, aGF kR, rR_0, aGF kR_0, hD, h4, if_neg (by omega), vR_nameOf_37]; rfl
  | n + 1, i, hi => by
    rw [vR_nameOf_2, aGF kR, rR_0, aGF kR_0, hD, h4, if_pos (by omega), vR_nameOf_13, if_pos (by omega), vR_nameOf_19, aGF kR, rR_5, aIA kR_5, if_pos (by omega), Int.toNat_natCast, hn i (by omega)]
    unfold nix
    by_cases h1 : nm i = c
    · rw [if_pos (by omega), vR_nameOf_29, if_pos h1]
    · rw [if_neg (by omega), vR_nameOf_31, w32_s (by omega), if_neg h1]
      exact nameOf_loop hN h4 hn n (i + 1) (by omega)
theorem nameOf_spec {nm : Nat → Nat} {N c : Nat} (hN : N ≤ 12) (h4 : D 112 4 = (N : Int)) (hn : ∀ i, i < N → D 209 i = (nm i : Int)) : Vl d 46 0 [some (.inr (.inr (some 111))), some (.inl (c : Int)), none] [] (hp ω D) = some ((0, some (.inl (nix nm c N 0))), hp ω D) := by
  rw [vR_nameOf_0]; exact nameOf_loop hN h4 hn N 0 (Nat.zero_add _)
theorem nix_rng (nm : Nat → Nat) (c : Nat) : ∀ n i, nix nm c n i = -1 ∨ ∃ j, i ≤ j ∧ j < i + n ∧ nix nm c n i = (j : Int)
  | 0, i => Or.inl rfl
  | n + 1, i => by
    unfold nix
    by_cases h : nm i = c
    · rw [if_pos h]; exact Or.inr ⟨i, by omega, by omega, rfl⟩
    · rw [if_neg h]
      rcases nix_rng nm c n (i + 1) with q | ⟨j, h1, h2, h3⟩
      · exact Or.inl q
      · exact Or.inr ⟨j, by omega, by omega, h3⟩
theorem level_spec {k : Nat} (hk : k < 7) : Vl d 48 0 [some (.inr (.inr (some 111))), some (.inl (k : Int))] [] (hp ω D) = some ((0, some (.inr (.inr (some (216 + 9 * k))))), hp ω D) := by
  rw [vR_level_0, aGF kR, rR_6, show (if (0 : Int) < (if (6 : Int) < (k : Int) then (6 : Int) else (k : Int)) then (if (6 : Int) < (k : Int) then (6 : Int) else (k : Int)) else (0 : Int)) = (k : Int) from by split <;> split <;> omega, aAA (t := 1) kR_6, if_pos (by omega), Int.toNat_natCast, rV_arr hk]
end TOK2
