/-! THE CONSTRUCTOR OF THE CLASS (wip/whole/gen_c6.py) -/
section CTR3
variable {D0 : jD} {n m : Nat} {l : List (Nat × Nat × Int)} {d : Nat} {α : Type}
theorem DZm (hD : ∀ a, a < 1000000 → ∀ i, D0 a i = 0) (h : (l.all fun q => decide (q.1 < n)) = true) : DZ D0 n l := ⟨fun a _ hb => hD a hb, fun q hq => by
  have := List.all_eq_true.mp h q hq
  simpa using this⟩
theorem xGR {c i : Nat} {v : Option Nat} (h : lkR (ULx.drop m) c i = v) : gR (hx D0 n m l) c i = v := h
theorem xVG2 (k : Option jr) : vG (0 ≤ (2 : Int) ∧ (2 : Int) ≤ 4096) k = k := if_pos (by decide)
theorem xVG7 (k : Option jr) : vG (0 ≤ (7 : Int) ∧ (7 : Int) ≤ 4096) k = k := if_pos (by decide)
theorem xAz {c t N i v : Nat} {z : Int} (hi0 : z = (i : Int)) (h1 : KLx[c]? = some (t + 4, N)) (h2 : c < n) (h3 : xfK v t n = true) (hi : i < N) (hf : xfR m c i v = true) (K : jh → Option α) : vAS (hx D0 n (m + 1) l) (some c) z (some v) K = K (hx D0 n m l) := by
  rw [hi0]; exact xA h1 h2 h3 hi hf K
def xfW (n m : Nat) : Bool := xfC n (m + 32) (104, 16) && (List.range 16).all fun i => xfC (n + 1 + i) (m + 2 * (15 - i) + 1) (1, 17) && xfR (m + 2 * (15 - i)) n i (n + 1 + i)
theorem xRows_loop (hz : DZ D0 (n + 1) l) : ∀ (j i : Nat), i + j = 16 → (∀ i', i ≤ i' → i' < 16 → xfC (n + 1 + i') (m + 2 * (15 - i') + 1) (1, 17) = true ∧ xfR (m + 2 * (15 - i')) n i' (n + 1 + i') = true) → nRows j n i 17 (hx D0 (n + 1 + i) (m + 2 * j) l) = hx D0 (n + 17) m l
  | 0, i, hi, _ => by
    obtain rfl : i = 16 := by omega
    rfl
  | j + 1, i, hi, hf => by
    obtain ⟨f1, f2⟩ := hf i (Nat.le_refl i) (by omega)
    have e1 : 15 - i = j := by omega
    rw [e1] at f1 f2
    have ih := xRows_loop hz j (i + 1) (by omega) (fun i' a b => hf i' (by omega) b)
    have hn : n + 1 + i ≤ 540 := by
      have := (List.getElem?_eq_some_iff.mp (xfC_d f1).1).1
      rw [KLx_len] at this; omega
    have hr := xR (D0 := D0) (n := n + 1 + i + 1) (m := m + 2 * j) (l := l) f2 (fun h : jh => some h)
    have hr2 : wR (hx D0 (n + 1 + i + 1) (m + 2 * j + 1) l) n i (some (n + 1 + i)) = hx D0 (n + 1 + i + 1) (m + 2 * j) l := Option.some.inj hr
    have hc := xC (D0 := D0) (n := n + 1 + i) (m := m + 2 * j + 1) (l := l) f1 (DZ_up hz i)
    rw [show m + 2 * j + 1 + 1 = m + 2 * (j + 1) by omega] at hc
    show nRows j n (i + 1) 17 (wR (nC (hx D0 (n + 1 + i) (m + 2 * (j + 1)) l) (1, 17)) n i (some (hx D0 (n + 1 + i) (m + 2 * (j + 1)) l).1.length)) = _
    rw [hx_len hn, hc, hr2]
    exact ih
theorem xRows (hf : xfW n m = true) (hz : DZ D0 n l) (K : Nat → jh → Option α) : vNw (hx D0 n (m + 33) l) (nRows 16 (hx D0 n (m + 33) l).1.length 0 17 (nC (hx D0 n (m + 33) l) (104, 16))) K = K n (hx D0 (n + 17) m l) := by
  unfold xfW at hf
  rw [Bool.and_eq_true, List.all_eq_true] at hf
  obtain ⟨h1, h2⟩ := hf
  have hn : n ≤ 540 := by
    have := (List.getElem?_eq_some_iff.mp (xfC_d h1).1).1
    rw [KLx_len] at this; omega
  have q := xRows_loop (m := m) (DZ_up hz 1) 16 0 rfl (fun i' _ b => by
    have := h2 i' (List.mem_range.mpr b)
    rw [Bool.and_eq_true] at this
    exact this)
  unfold vNw
  rw [hx_len hn, xC (m := m + 32) h1 hz]
  exact congrArg (K n) q
theorem xPs4 (hf : xfPs n m 4 = true) (hz : DZ D0 n l) : Vl (d + 1) 3 0 [some (.inl 4), none, none] [] (hx D0 n (m + 17) l) = some ((0, some (.inr (.inr (some n)))), hx D0 (n + 9) m l) := xPs (m := m) (N := 4) (by decide) hf hz
theorem xPs7 (hf : xfPs n m 7 = true) (hz : DZ D0 n l) : Vl (d + 1) 3 0 [some (.inl 7), none, none] [] (hx D0 n (m + 29) l) = some ((0, some (.inr (.inr (some n)))), hx D0 (n + 15) m l) := xPs (m := m) (N := 7) (by decide) hf hz
theorem xPs16 (hf : xfPs n m 16 = true) (hz : DZ D0 n l) : Vl (d + 1) 3 0 [some (.inl 16), none, none] [] (hx D0 n (m + 65) l) = some ((0, some (.inr (.inr (some n)))), hx D0 (n + 33) m l) := xPs (m := m) (N := 16) (by decide) hf hz
def lwR : List (Nat × Nat × Int) := [(111, 15, 0), (111, 14, 0), (111, 13, 0), (111, 12, 258), (111, 11, 0), (111, 10, 0)] ++ [(173, 5, 0)] ++ (fw 174) ++ [(111, 3, 0), (111, 2, 0), (111, 1, 0)] ++ (tw 112)
def lw0 : List (Nat × Nat × Int) := [(75, 5, 0)] ++ (fw 76) ++ (tw 3) ++ [(1, 1, 0)]
def lw1 : List (Nat × Nat × Int) := (tw 427) ++ (tw 366) ++ [(0, 13, 0)] ++ [(343, 4, 0)] ++ [(343, 1, 0)] ++ [(302, 4, 1), (302, 3, 0)] ++ [(279, 7, 0), (279, 6, 0), (279, 5, -1)] ++ (lwR ++ lw0)
set_option maxRecDepth 100000 in
theorem xRd (hD : ∀ a, a < 1000000 → ∀ i, D0 a i = 0) : Vl (d + 3) 8 0 [some (.inr (.inr (some 111))), none] [] (hx D0 112 855 lw0) = some ((0, none), hx D0 279 521 (lwR ++ lw0)) := by
  rw [vR_init_0, xN (n := 112) (m := 854) (by decide +kernel) (DZm hD (by decide +kernel)), xT (o := 112) (n := 113) (m := 734) (by decide +kernel) (DZm hD (by decide +kernel)), aVC, tlN, vR_init_12, xG (by decide +kernel), xR (m := 733) (by decide +kernel), xG (by decide +kernel), xD, xG (by decide +kernel), xD]
  rw [xG (by decide +kernel), xD, xN (n := 173) (m := 732) (by decide +kernel) (DZm hD (by decide +kernel)), xRg (o := 173) (n := 174) (m := 662) (by decide +kernel) (DZm hD (by decide +kernel)), aVC, tlN, vR_init_38, xG (by decide +kernel), xR (m := 661) (by decide +kernel), xN (n := 209) (m := 660) (by decide +kernel) (DZm hD (by decide +kernel)), xG (by decide +kernel), xR (m := 659) (by decide +kernel)]
  rw [xVG7, xN (n := 210) (m := 658) (by decide +kernel) (DZm hD (by decide +kernel)), xG (by decide +kernel), xR (m := 657) (by decide +kernel), xNP (n := 211) (m := 654) (by decide +kernel) (DZm hD (by decide +kernel)), tlN, vR_init_66, xG (by decide +kernel), xR (m := 653) (by decide +kernel), xNP (n := 213) (m := 650) (by decide +kernel) (DZm hD (by decide +kernel)), tlN, vR_init_77]
  rw [xG (by decide +kernel), xR (m := 649) (by decide +kernel), xN (n := 215) (m := 648) (by decide +kernel) (DZm hD (by decide +kernel)), xG (by decide +kernel), xR (m := 647) (by decide +kernel), xG (by decide +kernel), xD, xG (by decide +kernel), xD, xG (by decide +kernel), xD, xG (by decide +kernel)]
  rw [xD, xG (by decide +kernel), xD, xG (by decide +kernel), xD, vR_init_123, if_neg (show ¬ (6 : Int) < 0 by decide), vR_init_129, xG (by decide +kernel), xN (n := 216) (m := 646) (by decide +kernel) (DZm hD (by decide +kernel)), xV (o := 216) (n := 217) (m := 630) (by decide +kernel) (DZm hD (by decide +kernel)), aVC]
  rw [tlN, vR_init_141, xGR (v := some 210) (by decide +kernel), xAz (z := 0) (hi0 := rfl) (c := 210) (t := 1) (N := 7) (i := 0) (v := 216) (m := 629) (by decide +kernel) (by decide +kernel) (by decide +kernel) (by decide +kernel) (by decide +kernel), show w32 ((0 : Int) + 1) = 1 from rfl, vR_init_123, if_neg (show ¬ (6 : Int) < 1 by decide), vR_init_129, xG (by decide +kernel), xN (n := 225) (m := 628) (by decide +kernel) (DZm hD (by decide +kernel)), xV (o := 225) (n := 226) (m := 612) (by decide +kernel) (DZm hD (by decide +kernel)), aVC]
  rw [tlN, vR_init_141, xGR (v := some 210) (by decide +kernel), xAz (z := 1) (hi0 := rfl) (c := 210) (t := 1) (N := 7) (i := 1) (v := 225) (m := 611) (by decide +kernel) (by decide +kernel) (by decide +kernel) (by decide +kernel) (by decide +kernel), show w32 ((1 : Int) + 1) = 2 from rfl, vR_init_123, if_neg (show ¬ (6 : Int) < 2 by decide), vR_init_129, xG (by decide +kernel), xN (n := 234) (m := 610) (by decide +kernel) (DZm hD (by decide +kernel)), xV (o := 234) (n := 235) (m := 594) (by decide +kernel) (DZm hD (by decide +kernel)), aVC]
  rw [tlN, vR_init_141, xGR (v := some 210) (by decide +kernel), xAz (z := 2) (hi0 := rfl) (c := 210) (t := 1) (N := 7) (i := 2) (v := 234) (m := 593) (by decide +kernel) (by decide +kernel) (by decide +kernel) (by decide +kernel) (by decide +kernel), show w32 ((2 : Int) + 1) = 3 from rfl, vR_init_123, if_neg (show ¬ (6 : Int) < 3 by decide), vR_init_129, xG (by decide +kernel), xN (n := 243) (m := 592) (by decide +kernel) (DZm hD (by decide +kernel)), xV (o := 243) (n := 244) (m := 576) (by decide +kernel) (DZm hD (by decide +kernel)), aVC]
  rw [tlN, vR_init_141, xGR (v := some 210) (by decide +kernel), xAz (z := 3) (hi0 := rfl) (c := 210) (t := 1) (N := 7) (i := 3) (v := 243) (m := 575) (by decide +kernel) (by decide +kernel) (by decide +kernel) (by decide +kernel) (by decide +kernel), show w32 ((3 : Int) + 1) = 4 from rfl, vR_init_123, if_neg (show ¬ (6 : Int) < 4 by decide), vR_init_129, xG (by decide +kernel), xN (n := 252) (m := 574) (by decide +kernel) (DZm hD (by decide +kernel)), xV (o := 252) (n := 253) (m := 558) (by decide +kernel) (DZm hD (by decide +kernel)), aVC]
  rw [tlN, vR_init_141, xGR (v := some 210) (by decide +kernel), xAz (z := 4) (hi0 := rfl) (c := 210) (t := 1) (N := 7) (i := 4) (v := 252) (m := 557) (by decide +kernel) (by decide +kernel) (by decide +kernel) (by decide +kernel) (by decide +kernel), show w32 ((4 : Int) + 1) = 5 from rfl, vR_init_123, if_neg (show ¬ (6 : Int) < 5 by decide), vR_init_129, xG (by decide +kernel), xN (n := 261) (m := 556) (by decide +kernel) (DZm hD (by decide +kernel)), xV (o := 261) (n := 262) (m := 540) (by decide +kernel) (DZm hD (by decide +kernel)), aVC]
  rw [tlN, vR_init_141, xGR (v := some 210) (by decide +kernel), xAz (z := 5) (hi0 := rfl) (c := 210) (t := 1) (N := 7) (i := 5) (v := 261) (m := 539) (by decide +kernel) (by decide +kernel) (by decide +kernel) (by decide +kernel) (by decide +kernel), show w32 ((5 : Int) + 1) = 6 from rfl, vR_init_123, if_neg (show ¬ (6 : Int) < 6 by decide), vR_init_129, xG (by decide +kernel), xN (n := 270) (m := 538) (by decide +kernel) (DZm hD (by decide +kernel)), xV (o := 270) (n := 271) (m := 522) (by decide +kernel) (DZm hD (by decide +kernel)), aVC]
  rw [tlN, vR_init_141, xGR (v := some 210) (by decide +kernel), xAz (z := 6) (hi0 := rfl) (c := 210) (t := 1) (N := 7) (i := 6) (v := 270) (m := 521) (by decide +kernel) (by decide +kernel) (by decide +kernel) (by decide +kernel) (by decide +kernel), show w32 ((6 : Int) + 1) = 7 from rfl, vR_init_123, if_pos (show (6 : Int) < 7 by decide), vR_init_148]
  rfl
set_option maxRecDepth 100000 in
theorem xC0 (hD : ∀ a, a < 1000000 → ∀ i, D0 a i = 0) : Vl (d + 4) 0 0 [some (.inr (.inr (some 0))), none] [] (hx D0 1 1076 []) = Vl (d + 4) 0 166 [some (.inr (.inr (some 0))), some (.inl 2)] [] (hx D0 488 102 lw1) := by
  rw [vC_init_0, xN (n := 1) (m := 1075) (by decide +kernel) (DZm hD (by decide +kernel)), vA_init_0, xN (n := 2) (m := 1074) (by decide +kernel) (DZm hD (by decide +kernel)), xG (by decide +kernel), xR (m := 1073) (by decide +kernel), xG (by decide +kernel), xD, aVC, tlN, vC_init_12, xG (by decide +kernel)]
  rw [xR (m := 1072) (by decide +kernel), xN (n := 3) (m := 1071) (by decide +kernel) (DZm hD (by decide +kernel)), xT (o := 3) (n := 4) (m := 951) (by decide +kernel) (DZm hD (by decide +kernel)), aVC, tlN, vC_init_23, xG (by decide +kernel), xR (m := 950) (by decide +kernel), xVG2, xN (n := 64) (m := 949) (by decide +kernel) (DZm hD (by decide +kernel)), xG (by decide +kernel), xR (m := 948) (by decide +kernel)]
  rw [xN (n := 65) (m := 947) (by decide +kernel) (DZm hD (by decide +kernel)), xG (by decide +kernel), xR (m := 946) (by decide +kernel), xPs4 (n := 66) (m := 929) (by decide +kernel) (DZm hD (by decide +kernel)), aVC, tlS, vC_init_46, xG (by decide +kernel), xR (m := 928) (by decide +kernel), xN (n := 75) (m := 927) (by decide +kernel) (DZm hD (by decide +kernel)), xRg (o := 75) (n := 76) (m := 857) (by decide +kernel) (DZm hD (by decide +kernel)), aVC]
  rw [tlN, vC_init_57, xG (by decide +kernel), xR (m := 856) (by decide +kernel), xN (n := 111) (m := 855) (by decide +kernel) (DZm hD (by decide +kernel))]
  have q : Vl (d + 3) 8 0 [some (.inr (.inr (some 111))), none] [] (hx D0 112 855 ((75, 5, 0) :: (fw 76 ++ (tw 3 ++ [(1, 1, 0)])))) = some ((0, none), hx D0 279 521 (lwR ++ lw0)) := xRd hD
  rw [q]
  rw [aVC, tlN, vC_init_68, xG (by decide +kernel), xR (m := 520) (by decide +kernel), xN (n := 279) (m := 519) (by decide +kernel) (DZm hD (by decide +kernel)), vX_init_0, xNP (n := 280) (m := 516) (by decide +kernel) (DZm hD (by decide +kernel)), tlN, vX_init_12, xG (by decide +kernel), xR (m := 515) (by decide +kernel)]
  rw [xNP (n := 282) (m := 512) (by decide +kernel) (DZm hD (by decide +kernel)), tlN, vX_init_23, xG (by decide +kernel), xR (m := 511) (by decide +kernel), xNP (n := 284) (m := 508) (by decide +kernel) (DZm hD (by decide +kernel)), tlN, vX_init_34, xG (by decide +kernel), xR (m := 507) (by decide +kernel), xPs7 (n := 286) (m := 478) (by decide +kernel) (DZm hD (by decide +kernel)), aVC]
  rw [tlS, vX_init_43, xG (by decide +kernel), xR (m := 477) (by decide +kernel), xN (n := 301) (m := 476) (by decide +kernel) (DZm hD (by decide +kernel)), xG (by decide +kernel), xR (m := 475) (by decide +kernel), xG (by decide +kernel), xD, xG (by decide +kernel), xD, xG (by decide +kernel)]
  rw [xD, aVC, tlN, vC_init_79, xG (by decide +kernel), xR (m := 474) (by decide +kernel), xN (n := 302) (m := 473) (by decide +kernel) (DZm hD (by decide +kernel)), vS_init_0, xN (n := 303) (m := 472) (by decide +kernel) (DZm hD (by decide +kernel)), xG (by decide +kernel), xR (m := 471) (by decide +kernel), xN (n := 304) (m := 470) (by decide +kernel) (DZm hD (by decide +kernel))]
  rw [xG (by decide +kernel), xR (m := 469) (by decide +kernel), xN (n := 305) (m := 468) (by decide +kernel) (DZm hD (by decide +kernel)), xG (by decide +kernel), xR (m := 467) (by decide +kernel), xG (by decide +kernel), xD, xG (by decide +kernel), xD, aVC, tlN, vC_init_90]
  rw [xG (by decide +kernel), xR (m := 466) (by decide +kernel), xN (n := 306) (m := 465) (by decide +kernel) (DZm hD (by decide +kernel)), vN_init_0, xPs16 (n := 307) (m := 400) (by decide +kernel) (DZm hD (by decide +kernel)), aVC, tlS, vN_init_10, xG (by decide +kernel), xR (m := 399) (by decide +kernel), xNP (n := 340) (m := 396) (by decide +kernel) (DZm hD (by decide +kernel)), tlN]
  rw [vN_init_21, xG (by decide +kernel), xR (m := 395) (by decide +kernel), xN (n := 342) (m := 394) (by decide +kernel) (DZm hD (by decide +kernel)), xG (by decide +kernel), xR (m := 393) (by decide +kernel), aVC, tlN, vC_init_101, xG (by decide +kernel), xR (m := 392) (by decide +kernel), xN (n := 343) (m := 391) (by decide +kernel) (DZm hD (by decide +kernel))]
  rw [vG_init_0, xN (n := 344) (m := 390) (by decide +kernel) (DZm hD (by decide +kernel)), xG (by decide +kernel), xR (m := 389) (by decide +kernel), xG (by decide +kernel), xD, xRows (n := 345) (m := 356) (by decide +kernel) (DZm hD (by decide +kernel)), xG (by decide +kernel), xR (m := 355) (by decide +kernel), xN (n := 362) (m := 354) (by decide +kernel) (DZm hD (by decide +kernel)), xG (by decide +kernel), xR (m := 353) (by decide +kernel)]
  rw [xG (by decide +kernel), xD, aVC, tlN, vC_init_112, xG (by decide +kernel), xR (m := 352) (by decide +kernel), xNP (n := 363) (m := 349) (by decide +kernel) (DZm hD (by decide +kernel)), tlN, vC_init_123, xG (by decide +kernel), xR (m := 348) (by decide +kernel)]
  rw [xN (n := 365) (m := 347) (by decide +kernel) (DZm hD (by decide +kernel)), xG (by decide +kernel), xR (m := 346) (by decide +kernel), xG (by decide +kernel), xD, vC_init_142, if_pos (show (0 : Int) < 2 by decide), vC_init_147, xG (by decide +kernel), xN (n := 366) (m := 345) (by decide +kernel) (DZm hD (by decide +kernel)), xT (o := 366) (n := 367) (m := 225) (by decide +kernel) (DZm hD (by decide +kernel)), aVC]
  rw [tlN, vC_init_159, xGR (v := some 64) (by decide +kernel), xAz (z := 0) (hi0 := rfl) (c := 64) (t := 9) (N := 2) (i := 0) (v := 366) (m := 224) (by decide +kernel) (by decide +kernel) (by decide +kernel) (by decide +kernel) (by decide +kernel), show w32 ((0 : Int) + 1) = 1 from rfl, vC_init_142, if_pos (show (1 : Int) < 2 by decide), vC_init_147, xG (by decide +kernel), xN (n := 427) (m := 223) (by decide +kernel) (DZm hD (by decide +kernel)), xT (o := 427) (n := 428) (m := 103) (by decide +kernel) (DZm hD (by decide +kernel)), aVC]
  rw [tlN, vC_init_159, xGR (v := some 64) (by decide +kernel), xAz (z := 1) (hi0 := rfl) (c := 64) (t := 9) (N := 2) (i := 1) (v := 427) (m := 102) (by decide +kernel) (by decide +kernel) (by decide +kernel) (by decide +kernel) (by decide +kernel), show w32 ((1 : Int) + 1) = 2 from rfl, vC_init_142, if_neg (show ¬ (2 : Int) < 2 by decide)]
  rfl
end CTR3
