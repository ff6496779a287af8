/-! THE REFERENCE'S POLYNOMIALS: copies, sums, turned products -/
def PRo (D : jD) (c b : Nat) (F : pl) : Prop := ∀ k, k < 17 → D c (b + k) = (F k : Int)
def pOn (D : jD) (c b n : Nat) (r : Nat → Int) : jD := fun x y => if x = c ∧ b ≤ y ∧ y < b + n then r (y - b) else D x y
def pHi (D : jD) (c k : Nat) (r : Nat → Int) : jD := fun x y => if x = c ∧ k ≤ y ∧ y < 17 then r y else D x y
section MPOL
variable {ρ : jr2} {D : jD} {d : Nat} {Φ : gF}
theorem pOn_0 {c b : Nat} {r : Nat → Int} : pOn D c b 0 r = D := by
  funext x y; exact if_neg (by omega)
theorem pOn_s {c b n : Nat} {r : Nat → Int} {v : Int} (h : v = r n) : sD (pOn D c b n r) c (b + n) v = pOn D c b (n + 1) r := by
  funext x y
  unfold sD pOn
  by_cases q1 : x = c ∧ y = b + n
  · rw [if_pos q1, if_pos (by omega), q1.2, Nat.add_sub_cancel_left]; exact h
  · rw [if_neg q1]
    by_cases q2 : x = c ∧ b ≤ y ∧ y < b + n
    · rw [if_pos q2, if_pos (by omega)]
    · rw [if_neg q2, if_neg (by omega)]
theorem pOn_ne {c b n : Nat} {r : Nat → Int} {x y : Nat} (h : x ≠ c ∨ y < b ∨ b + n ≤ y) : pOn D c b n r x y = D x y := if_neg (by omega)
theorem pOn_far {c b n : Nat} {r : Nat → Int} {x : Nat} (h : x ≠ c) : pOn D c b n r x = D x := funext fun y => pOn_ne (Or.inl h)
theorem pOn_in {c b n : Nat} {r : Nat → Int} {k : Nat} (h : k < n) : pOn D c b n r c (b + k) = r k := by
  unfold pOn; rw [if_pos (by omega), Nat.add_sub_cancel_left]
theorem pOn_pD {c : Nat} {r : Nat → Int} : pOn D c 0 17 r = pD D c r := by
  funext x y
  unfold pOn pD pDn
  by_cases q : x = c ∧ y < 17
  · rw [if_pos (by omega), if_pos q]; rfl
  · rw [if_neg (by omega), if_neg q]
theorem PRo_0 {c : Nat} {F : pl} (h : PR D c F) : PRo D c 0 F := fun k hk => by rw [Nat.zero_add]; exact h k hk
theorem PR_o0 {c : Nat} {F : pl} (h : PRo D c 0 F) : PR D c F := fun k hk => by have := h k hk; rw [Nat.zero_add] at this; exact this
/-- copy of 17 numbers -/
theorem mcopy {c1 c2 n1 n2 a b : Nat} (h1 : KM c1 (1, n1)) (h2 : KM c2 (1, n2)) (ha : a + 17 ≤ n1) (hb : b + 17 ≤ n2) (hn : n1 < 100000 ∧ n2 < 100000) (hd : c1 ≠ c2 ∨ a + 17 ≤ b ∨ b + 17 ≤ a) {F : pl} (hF : PRo D c1 a F) : Vl d 223 0 [some (.inr (.inr (some c1))), some (.inl (a : Int)), some (.inr (.inr (some c2))), some (.inl (b : Int)), none] [] (hp (1, ρ) D) = some ((0, none), hp (1, ρ) (pOn D c2 b 17 (rI F))) := by
  have c0 := chain (fun k => Vl d 223 3 [some (.inr (.inr (some c1))), some (.inl (a : Int)), some (.inr (.inr (some c2))), some (.inl (b : Int)), some (.inl (k : Int))] [] (hp (1, ρ) (pOn D c2 b k (rI F)))) 17 (fun k hk => by

    have e1 : pOn D c2 b k (rI F) c1 (a + k) = (F k : Int) := by rw [pOn_ne (by omega)]; exact hF k hk
    rw [vM_copy_3, if_pos (by omega), vM_copy_10, w32_ad (by omega), mIA h1, if_pos (by omega), Int.toNat_natCast, e1, w32_ad (by omega), mIS h2, if_pos (by omega), Int.toNat_natCast, w32_s (by omega), pOn_s (show (F k : Int) = rI F k from rfl)])

  rw [pOn_0] at c0
  rw [vM_copy_0, show (0 : Int) = ((0 : Nat) : Int) from rfl, c0, vM_copy_3, if_neg (by omega), vM_copy_28]
theorem mcpy {c1 c2 n1 n2 : Nat} (h1 : KM c1 (1, n1)) (h2 : KM c2 (1, n2)) (ha : 17 ≤ n1) (hb : 17 ≤ n2) (hn : n1 < 100000 ∧ n2 < 100000) (hd : c1 ≠ c2) {F : pl} (hF : PR D c1 F) : Vl d 223 0 [some (.inr (.inr (some c1))), some (.inl 0), some (.inr (.inr (some c2))), some (.inl 0), none] [] (hp (1, ρ) D) = some ((0, none), hp (1, ρ) (pD D c2 (rI F))) := by
  have := mcopy (d := d) (ρ := ρ) (a := 0) (b := 0) h1 h2 (by omega) (by omega) hn (Or.inl hd) (PRo_0 hF)
  rw [pOn_pD] at this
  exact this
theorem mclear {c n : Nat} (h : KM c (1, n)) (hn : 17 ≤ n) (hn9 : n < 100000) : Vl d 221 0 [some (.inr (.inr (some c))), none] [] (hp (1, ρ) D) = some ((0, none), hp (1, ρ) (pD D c (rI p0))) := by
  have c0 := chain (fun k => Vl d 221 2 [some (.inr (.inr (some c))), some (.inl (k : Int))] [] (hp (1, ρ) (pDn D c k (rI p0)))) 17 (fun k hk => by

    rw [vM_clear_2, if_pos (by omega), vM_clear_8, mIS h, if_pos (by omega), Int.toNat_natCast, w32_s (by omega), pDn_s (show (0 : Int) = rI p0 k from rfl)])

  rw [pDn_0] at c0
  rw [vM_clear_0]
  refine c0.trans ?_
  rw [vM_clear_2, if_neg (by omega), vM_clear_18]
theorem mplus (hO : FOK Φ) {c1 c2 n1 n2 : Nat} (h1 : KM c1 (1, n1)) (h2 : KM c2 (1, n2)) (ha : 17 ≤ n1) (hb : 17 ≤ n2) (hn : n1 < 100000 ∧ n2 < 100000) {A B : pl} (hA : PR D c1 A) (hB : PR D c2 B) (iA : inF Φ A) (iB : inF Φ B) : Vl d 236 0 [some (.inr (.inr (some c1))), some (.inr (.inr (some c2))), none] [] (hp (1, ρ) D) = some ((0, none), hp (1, ρ) (pD D c1 (rI (pA A B)))) := by
  have h256 := F_256 hO
  have c0 := chain (fun k => Vl d 236 2 [some (.inr (.inr (some c1))), some (.inr (.inr (some c2))), some (.inl (k : Int))] [] (hp (1, ρ) (pDn D c1 k (rI (pA A B))))) 17 (fun k hk => by

    have e1 : pDn D c1 k (rI (pA A B)) c1 k = (A k : Int) := by rw [pDn_ge (Nat.le_refl k)]; exact hA k hk
    have e2 : pDn D c1 k (rI (pA A B)) c2 k = (B k : Int) := by rw [pDn_ge (Nat.le_refl k)]; exact hB k hk
    have l1 := iA k
    have l2 := iB k
    rw [vM_plus_2, if_pos (by omega), vM_plus_8, mIA h1, if_pos (by omega), mIA h2, if_pos (by omega), Int.toNat_natCast, e1, e2, jxor_n (by omega) (by omega), mIS h1, if_pos (by omega), Int.toNat_natCast, w32_s (by omega), pDn_s (show ((A k ^^^ B k : Nat) : Int) = rI (pA A B) k from rfl)])

  rw [pDn_0] at c0
  rw [vM_plus_0]
  refine c0.trans ?_
  rw [vM_plus_2, if_neg (by omega), vM_plus_23]
theorem mdeg_loop {c n1 : Nat} (h : KM c (1, n1)) (hn : 17 ≤ n1) : ∀ n : Nat, n ≤ 17 → Vl d 227 3 [some (.inr (.inr (some c))), some (.inl ((n : Int) - 1))] [] (hp (1, ρ) D) = some ((0, some (.inl ((szn (D c) n : Int) - 1))), hp (1, ρ) D)
  | 0, _ => by rw [vM_degreeOf_3, if_pos (by omega), vM_degreeOf_19]; rfl
  | n + 1, hn17 => by
    rw [vM_degreeOf_3, if_neg (by omega), show ((n + 1 : Nat) : Int) - 1 = (n : Int) by omega, vM_degreeOf_7, mIA h, if_pos (by omega), Int.toNat_natCast]
    unfold szn
    by_cases h0 : D c n = 0
    · rw [if_pos h0, if_pos h0, vM_degreeOf_13, show w32 ((n : Int) + (-1)) = (n : Int) - 1 from by unfold w32; omega]
      exact mdeg_loop h hn n (by omega)
    · rw [if_neg h0, if_neg h0, vM_degreeOf_19, show ((n + 1 : Nat) : Int) - 1 = (n : Int) by omega]
theorem mdeg {c n1 : Nat} (h : KM c (1, n1)) (hn : 17 ≤ n1) {F : pl} (hF : PR D c F) : Vl d 227 0 [some (.inr (.inr (some c))), none] [] (hp (1, ρ) D) = some ((0, some (.inl ((sz F : Int) - 1))), hp (1, ρ) D) := by
  rw [vM_degreeOf_0, show (16 : Int) = ((17 : Nat) : Int) - 1 from rfl, mdeg_loop h hn 17 (Nat.le_refl _), sz_PR hF]
theorem MF_cg {D' : jD} (hF : MF Φ D) (h : D' 488 = D 488) : MF Φ D' := by
  unfold MF at hF ⊢; rw [h]; exact hF
theorem pHi_ne {c k : Nat} {r : Nat → Int} {x : Nat} (h : x ≠ c) : pHi D c k r x = D x := funext fun y => if_neg (by omega)
theorem mshift_loop (hF : MF Φ D) {c n1 : Nat} (h : KM c (1, n1)) (hn : 17 ≤ n1) (hc : c ≠ 488) {F : pl} (hR : PR D c F) (iF : inF Φ F) : ∀ n : Nat, n ≤ 17 → Vl (d + 3) 230 3 [some (.inr (.inr (some 488))), some (.inr (.inr (some c))), some (.inl ((n : Int) - 1))] [] (hp (1, ρ) (pHi D c n (rI (pS Φ F)))) = some ((0, none), hp (1, ρ) (pD D c (rI (pS Φ F))))
  | 0, _ => by
    rw [vM_shift_3, if_pos (by omega), vM_shift_42]
    congr 3
    funext x y
    unfold pHi pD pDn
    by_cases q : x = c ∧ y < 17
    · rw [if_pos (by omega), if_pos q]
    · rw [if_neg (by omega), if_neg q]
  | n + 1, hn17 => by
    have h256 := F_256 hF.1
    have hFn : MF Φ (pHi D c (n + 1) (rI (pS Φ F))) := MF_cg hF (pHi_ne (fun e => hc e.symm))
    have e1 : ∀ k, k ≤ n → pHi D c (n + 1) (rI (pS Φ F)) c k = (F k : Int) := fun k hk => by
      rw [← hR k (by omega)]; exact if_neg (by omega)
    have l1 := fs_lt hF.1 (F n)
    have q2 := mslope (d := d) (ρ := ρ) hFn (iF n)
    have st : Vl (d + 3) 230 3 [some (.inr (.inr (some 488))), some (.inr (.inr (some c))), some (.inl (((n + 1 : Nat) : Int) - 1))] [] (hp (1, ρ) (pHi D c (n + 1) (rI (pS Φ F)))) = Vl (d + 3) 230 27 [some (.inr (.inr (some 488))), some (.inr (.inr (some c))), some (.inl (n : Int))] [.inl ((if n = 0 then 0 else ft Φ (F (n - 1)) : Nat) : Int), .inl (n : Int), .inr (.inr (some c))] (hp (1, ρ) (pHi D c (n + 1) (rI (pS Φ F)))) := by
      rw [show ((n + 1 : Nat) : Int) - 1 = (n : Int) by omega, vM_shift_3, if_neg (by omega), vM_shift_7]
      by_cases h0 : n = 0
      · rw [if_neg (by omega), if_pos h0, vM_shift_26]; rfl
      · have q1 := mturn (d := d + 1) (ρ := ρ) hFn (iF (n - 1)) (n := 1) (by decide)
        rw [if_pos (by omega), if_neg h0, vM_shift_13, show w32 ((n : Int) - 1) = ((n - 1 : Nat) : Int) from by unfold w32; omega, mIA h, if_pos (by omega), Int.toNat_natCast, e1 (n - 1) (by omega), mGF m488, show (1 : Int) = ((1 : Nat) : Int) from rfl, q1, aVC, tlS, vM_shift_23, show fT Φ 1 (F (n - 1)) = ft Φ (F (n - 1)) from by unfold fT ft; rw [Nat.mul_one]]
    have l2 : (if n = 0 then 0 else ft Φ (F (n - 1))) < 2 ^ Φ.1 := by
      split
      · exact F_pos Φ
      · exact ft_lt hF.1 (iF _)
    have es : sD (pHi D c (n + 1) (rI (pS Φ F))) c n ((((if n = 0 then 0 else ft Φ (F (n - 1))) ^^^ fs Φ (F n) : Nat) : Int)) = pHi D c n (rI (pS Φ F)) := by
      funext x y
      unfold sD pHi
      by_cases q1 : x = c ∧ y = n
      · rw [if_pos q1, if_pos (show x = c ∧ n ≤ y ∧ y < 17 by omega), q1.2]; rfl
      · rw [if_neg q1]
        by_cases q3 : x = c ∧ n + 1 ≤ y ∧ y < 17
        · rw [if_pos q3, if_pos (show x = c ∧ n ≤ y ∧ y < 17 by omega)]
        · rw [if_neg q3, if_neg (show ¬ (x = c ∧ n ≤ y ∧ y < 17) by omega)]
    rw [st, vM_shift_27, mIA h, if_pos (by omega), Int.toNat_natCast, e1 n (Nat.le_refl n), mGF m488, q2, aVC, tlS, vM_shift_34, mIS h, if_pos (by omega), Int.toNat_natCast, jxor_n (by omega) (by omega), es, show w32 ((n : Int) + (-1)) = (n : Int) - 1 from by unfold w32; omega]
    exact mshift_loop hF h hn hc hR iF n (by omega)
theorem mshift (hF : MF Φ D) {c n1 : Nat} (h : KM c (1, n1)) (hn : 17 ≤ n1) (hc : c ≠ 488) {F : pl} (hR : PR D c F) (iF : inF Φ F) : Vl (d + 3) 230 0 [some (.inr (.inr (some 488))), some (.inr (.inr (some c))), none] [] (hp (1, ρ) D) = some ((0, none), hp (1, ρ) (pD D c (rI (pS Φ F)))) := by
  have q := mshift_loop (d := d) (ρ := ρ) hF h hn hc hR iF 17 (Nat.le_refl _)
  rw [show pHi D c 17 (rI (pS Φ F)) = D from by funext x y; exact if_neg (by omega)] at q
  rw [vM_shift_0]; exact q
theorem mprod_loop {cf co : Nat} (hf : KM cf (1, 17)) (ho : KM co (1, 17)) (hfo : cf ≠ co) (hfm : cf ≠ 497) (hom : co ≠ 497) (ho8 : co ≠ 488) (o2 : Option Nat) {F G : pl} (iF : inF Φ F) (iG : inF Φ G) {t : Nat} (ht : t < 17) : ∀ (n i : Nat) (D : jD) (u : Option jv), i + n = t + 1 → MF Φ D → PR D cf F → PR D co (pP Φ i F G) → (i ≤ t → PR D 497 (pSi Φ i G)) →
    ∃ D', Vl (d + 4) 233 23 [some (.inr (.inr (some 488))), some (.inr (.inr (some cf))), some (.inr (.inr o2)), some (.inr (.inr (some co))), some (.inl (t : Int)), some (.inl (i : Int)), u] [] (hp (1, ρ) D) = some ((0, none), hp (1, ρ) D') ∧ PR D' co (pP Φ (t + 1) F G) ∧ ∀ q, q ≠ co → q ≠ 497 → D' q = D q
  | 0, i, D, u, hi, hF, RF, RO, RM => by
    obtain rfl : i = t + 1 := by omega
    exact ⟨D, by rw [vM_product_23, if_pos (by omega), vM_product_89], RO, fun _ _ _ => rfl⟩
  | n + 1, i, D, u, hi, hF, RF, RO, RM => by
    have h256 := F_256 hF.1
    have RM' := RM (by omega)
    have iS := pSi_in hF.1 iG i
    have iO : inF Φ (pP Φ i F G) := pP_in hF.1 iF i
    have c0 := chain (fun k => Vl (d + 4) 233 33 [some (.inr (.inr (some 488))), some (.inr (.inr (some cf))), some (.inr (.inr o2)), some (.inr (.inr (some co))), some (.inl (t : Int)), some (.inl (i : Int)), some (.inl (k : Int))] [] (hp (1, ρ) (pDn D co k (rI (pP Φ (i + 1) F G))))) 17 (fun k hk => by

      have hFk : MF Φ (pDn D co k (rI (pP Φ (i + 1) F G))) := MF_cg hF (pDn_ne (fun e => ho8 e.symm))
      have e1 : pDn D co k (rI (pP Φ (i + 1) F G)) co k = (pP Φ i F G k : Int) := by rw [pDn_ge (Nat.le_refl k)]; exact RO k hk
      have e2 : pDn D co k (rI (pP Φ (i + 1) F G)) cf i = (F i : Int) := by rw [pDn_ne hfo]; exact RF i (by omega)
      have e3 : pDn D co k (rI (pP Φ (i + 1) F G)) 497 k = (pSi Φ i G k : Int) := by rw [pDn_ne (fun e => hom e.symm)]; exact RM' k hk
      have q1 := mmul (d := d + 3) (ρ := ρ) hFk (iF i) (iS k)
      have l1 := iO k
      have l2 := fm_lt (b := pSi Φ i G k) hF.1 (iF i)
      rw [vM_product_33, if_pos (by omega), vM_product_40, mIA ho, if_pos (by omega), Int.toNat_natCast, e1, mIA hf, if_pos (by omega), Int.toNat_natCast, e2, mGF m488, mr14, mIA m497, if_pos (by omega), Int.toNat_natCast, e3, mGF m488, q1, aVC, tlS, vM_product_60, mIS ho, if_pos (by omega), Int.toNat_natCast, jxor_n (by omega) (by omega), w32_s (by omega), pDn_s (show ((pP Φ i F G k ^^^ fm Φ (F i) (pSi Φ i G k) : Nat) : Int) = rI (pP Φ (i + 1) F G) k from rfl)])

    rw [pDn_0] at c0
    rw [vM_product_23, if_neg (by omega), vM_product_30]
    rw [show (0 : Int) = ((0 : Nat) : Int) from rfl, c0, vM_product_33, if_neg (by omega), vM_product_68]
    by_cases hit : i < t
    · have RM2 : PR (pDn D co 17 (rI (pP Φ (i + 1) F G))) 497 (pSi Φ i G) := PR_ne (pDn_ne (fun e => hom e.symm)) RM'
      have hF2 : MF Φ (pDn D co 17 (rI (pP Φ (i + 1) F G))) := MF_cg hF (pDn_ne (fun e => ho8 e.symm))
      have q3 := mshift (d := d) (ρ := ρ) hF2 m497 (by decide) (by decide) RM2 iS
      obtain ⟨D', r1, r2, r3⟩ := mprod_loop hf ho hfo hfm hom ho8 o2 iF iG ht n (i + 1) (pD (pDn D co 17 (rI (pP Φ (i + 1) F G))) 497 (rI (pS Φ (pSi Φ i G)))) (some (.inl ((17 : Nat) : Int))) (by omega) (MF_cg hF2 (pD_ne (by decide))) (PR_ne (by rw [pD_ne hfm, pDn_ne hfo]) RF) (PR_ne (pD_ne hom) pD_PR) (fun _ => pD_PR)
      refine ⟨D', ?_, r2, fun q h1 h2 => by rw [r3 q h1 h2, pD_ne h2, pDn_ne h1]⟩
      rw [if_pos (by omega), vM_product_75, mGF m488, mGF m488, mr14, q3, aVC, tlN, vM_product_83, w32_s (by omega)]
      exact r1
    · obtain ⟨D', r1, r2, r3⟩ := mprod_loop hf ho hfo hfm hom ho8 o2 iF iG ht n (i + 1) (pDn D co 17 (rI (pP Φ (i + 1) F G))) (some (.inl ((17 : Nat) : Int))) (by omega) (MF_cg hF (pDn_ne (fun e => ho8 e.symm))) (PR_ne (pDn_ne hfo) RF) pD_PR (fun z => absurd z (by omega))
      refine ⟨D', ?_, r2, fun q h1 h2 => by rw [r3 q h1 h2, pDn_ne h1]⟩
      rw [if_neg (by omega), vM_product_83, w32_s (by omega)]
      exact r1
/-- the turned product of two rows -/
theorem mprod (hF : MF Φ D) {cf cg co : Nat} (hf : KM cf (1, 17)) (hg : KM cg (1, 17)) (ho : KM co (1, 17)) (hfo : cf ≠ co) (hgo : cg ≠ co) (hfm : cf ≠ 497) (hgm : cg ≠ 497) (hom : co ≠ 497) (ho8 : co ≠ 488) {F G : pl} (RF : PR D cf F) (RG : PR D cg G) (iF : inF Φ F) (iG : inF Φ G) : ∃ D', Vl (d + 4) 233 0 [some (.inr (.inr (some 488))), some (.inr (.inr (some cf))), some (.inr (.inr (some cg))), some (.inr (.inr (some co))), none, none, none] [] (hp (1, ρ) D) = some ((0, none), hp (1, ρ) D') ∧ PR D' co (pP Φ (sz F) F G) ∧ ∀ q, q ≠ co → q ≠ 497 → D' q = D q := by
  obtain ⟨D1, hD1⟩ : ∃ D1, D1 = pD (pD D 497 (rI G)) co (rI p0) := ⟨_, rfl⟩
  have q1 := mcpy (d := d + 3) (ρ := ρ) hg m497 (by decide) (by decide) (by decide) hgm RG
  have q2 := mclear (d := d + 3) (ρ := ρ) (D := pD D 497 (rI G)) ho (by decide) (by decide)
  rw [← hD1] at q2
  have f1 : ∀ q, q ≠ co → q ≠ 497 → D1 q = D q := fun q a b => by rw [hD1, pD_ne a, pD_ne b]
  have RF1 : PR D1 cf F := PR_ne (f1 cf hfo hfm) RF
  have q3 := mdeg (d := d + 3) (ρ := ρ) hf (by decide) RF1
  have R0 : PR D1 co p0 := by rw [hD1]; exact pD_PR
  have RM : PR D1 497 G := by rw [hD1]; exact PR_ne (pD_ne (fun e => hom e.symm)) pD_PR
  have st : Vl (d + 4) 233 0 [some (.inr (.inr (some 488))), some (.inr (.inr (some cf))), some (.inr (.inr (some cg))), some (.inr (.inr (some co))), none, none, none] [] (hp (1, ρ) D) = Vl (d + 4) 233 23 [some (.inr (.inr (some 488))), some (.inr (.inr (some cf))), some (.inr (.inr (some cg))), some (.inr (.inr (some co))), some (.inl ((sz F : Int) - 1)), some (.inl 0), none] [] (hp (1, ρ) D1) := by
    rw [vM_product_0, mGF m488, mr14, q1, aVC, tlN, vM_product_10, q2, aVC, tlN, vM_product_14, q3, aVC, tlS, vM_product_18]
  rw [st]
  cases hz : sz F with
  | zero =>
    refine ⟨D1, ?_, R0, f1⟩
    rw [vM_product_23, if_pos (by omega), vM_product_89]
  | succ t =>
    have h17 := sz_le F
    obtain ⟨D', r1, r2, r3⟩ := mprod_loop (d := d) (ρ := ρ) hf ho hfo hfm hom ho8 (some cg) iF iG (show t < 17 by omega) (t + 1) 0 D1 none (Nat.zero_add _) (MF_cg hF (f1 488 (fun e => ho8 e.symm) (by decide))) RF1 R0 (fun _ => RM)
    refine ⟨D', ?_, r2, fun q a b => by rw [r3 q a b, f1 q a b]⟩
    rw [show ((t + 1 : Nat) : Int) - 1 = (t : Int) by omega]
    exact r1
end MPOL
