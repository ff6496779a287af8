/-! THE REFERENCE'S READER: moduli that nothing divides; what a LINE comes to -/
section MPRM
variable {d : Nat} {h : jh}
theorem bhi_fact : ∀ dv, dv < 256 → 1 ≤ dv → dv / 2 ^ (bhi dv 9) ≠ 0 ∧ dv / 2 ^ (bhi dv 9 + 1) = 0 ∧ bhi dv 9 ≤ 7 := by decide +kernel
theorem brs_skip {dv hi n : Nat} : ∀ (j K r : Nat), r < 2 ^ n → n ≤ K + hi → brs dv hi (K + j) r = brs dv hi K r
  | 0, K, r, _, _ => rfl
  | j + 1, K, r, hr, hn => by
    show brs dv hi (K + j) (if (r >>> (K + j + hi)) % 2 = 1 then r ^^^ (dv <<< (K + j)) else r) = _
    have h0 : r >>> (K + j + hi) = 0 := by
      rw [Nat.shiftRight_eq_div_pow]
      exact Nat.div_eq_of_lt (Nat.lt_of_lt_of_le hr (Nat.pow_le_pow_right (by decide) (by omega)))
    rw [h0, if_neg (by decide)]
    exact brs_skip j K r hr hn
theorem mhigh {x0 x1 : Int} {dv : Nat} (hd : dv < 256) (h1 : 1 ≤ dv) (u4 u5 : Option jv) : ∀ n i : Nat, i + n = bhi dv 9 → Vl d 212 11 [some (.inl x0), some (.inl x1), some (.inl (dv : Int)), some (.inl (i : Int)), u4, u5] [] h = Vl d 212 25 [some (.inl x0), some (.inl x1), some (.inl (dv : Int)), some (.inl (bhi dv 9 : Int)), u4, u5] [] h
  | 0, i, hi => by
    obtain ⟨f1, f2, f3⟩ := bhi_fact dv hd h1
    obtain rfl : i = bhi dv 9 := by omega
    rw [vM_isPrime_11, w32_s (by omega), jshr_n (by omega), f2, if_neg (by decide)]
  | n + 1, i, hi => by
    obtain ⟨f1, f2, f3⟩ := bhi_fact dv hd h1
    have h2 : 0 < dv / 2 ^ (i + 1) := by
      have hp : 2 ^ (i + 1) ≤ 2 ^ (bhi dv 9) := Nat.pow_le_pow_right (by decide) (by omega)
      have : 2 ^ bhi dv 9 ≤ dv := Classical.byContradiction fun z => f1 (Nat.div_eq_of_lt (by omega))
      exact Nat.div_pos (by omega) (Nat.two_pow_pos _)
    rw [vM_isPrime_11, w32_s (by omega), jshr_n (by omega), if_pos (by omega), vM_isPrime_19, w32_s (by omega)]
    exact mhigh hd h1 u4 u5 n (i + 1) (by omega)
theorem mbits {x0 x1 : Int} {dv hi : Nat} (hd : dv < 256) (hh : hi ≤ 8) : ∀ k r : Nat, k + hi ≤ 9 → r < 2 ^ 20 → Vl d 212 33 [some (.inl x0), some (.inl x1), some (.inl (dv : Int)), some (.inl (hi : Int)), some (.inl (r : Int)), some (.inl ((k : Int) - 1))] [] h = Vl d 212 66 [some (.inl x0), some (.inl x1), some (.inl (dv : Int)), some (.inl (hi : Int)), some (.inl (brs dv hi k r : Int)), some (.inl (-1))] [] h
  | 0, r, hk, hr => by
    rw [vM_isPrime_33, if_pos (by omega)]; rfl
  | k + 1, r, hk, hr => by
    have hk2 : 2 ^ k ≤ 2 ^ 9 := Nat.pow_le_pow_right (by decide) (by omega)
    have hm : dv * 2 ^ k ≤ 256 * 512 := Nat.mul_le_mul (by omega) hk2
    have hdv := Nat.div_le_self r (2 ^ (k + hi))
    have hs : r >>> (k + hi) = r / 2 ^ (k + hi) := Nat.shiftRight_eq_div_pow _ _
    have hl : dv <<< k = dv * 2 ^ k := Nat.shiftLeft_eq _ _
    have eb : ((k + 1 : Nat) : Int) - 1 = (k : Int) := by omega
    have ew : w32 ((k : Int) + (-1)) = (k : Int) - 1 := by unfold w32; omega
    rw [eb, vM_isPrime_33, if_neg (by omega), vM_isPrime_38, w32_ad (by omega), jshr_n (by omega), jand_1 (by omega)]
    unfold brs
    rw [hs, hl]
    by_cases h1 : r / 2 ^ (k + hi) % 2 = 1
    · rw [if_pos (show ((r / 2 ^ (k + hi) % 2 : Nat) : Int) = 1 by omega), if_pos h1, vM_isPrime_51, jshl_n (by omega) (by omega), jxor_n (by omega) (by omega), vM_isPrime_60, ew]
      exact mbits hd hh k _ (by omega) (x_lt hr (by omega))
    · rw [if_neg (show ¬ ((r / 2 ^ (k + hi) % 2 : Nat) : Int) = 1 by omega), if_neg h1, vM_isPrime_60, ew]
      exact mbits hd hh k r (by omega) hr
theorem mprime_loop {p n : Nat} (hp1 : p < 2 ^ (n + 1)) (hn : n ≤ 8) : ∀ (j dv : Nat) (u3 u4 u5 : Option jv), 1 ≤ dv → dv + j = 2 ^ n → Vl d 212 2 [some (.inl (p : Int)), some (.inl (n : Int)), some (.inl (dv : Int)), u3, u4, u5] [] h = some ((0, some (.inl (if unL p j dv = true then 1 else 0))), h)
  | 0, dv, u3, u4, u5, h1, hd => by
    have h8 : 2 ^ n ≤ 2 ^ 8 := Nat.pow_le_pow_right (by decide) hn
    rw [vM_isPrime_2, show jshl 1 (n : Int) = ((2 ^ n : Nat) : Int) from by rw [show (1 : Int) = ((1 : Nat) : Int) from rfl, jshl_n (by omega) (by omega), Nat.one_mul], if_neg (by omega), vM_isPrime_79]
    exact aZ1 _
  | j + 1, dv, u3, u4, u5, h1, hd => by
    have h8 : 2 ^ n ≤ 2 ^ 8 := Nat.pow_le_pow_right (by decide) hn
    have h9 : 2 ^ (n + 1) ≤ 2 ^ 9 := Nat.pow_le_pow_right (by decide) (by omega)
    have hd256 : dv < 256 := by omega
    obtain ⟨f1, f2, f3⟩ := bhi_fact dv hd256 h1
    have hbn : bhi dv 9 < n := by
      refine Classical.byContradiction fun z => f1 (Nat.div_eq_of_lt ?_)
      have : 2 ^ n ≤ 2 ^ bhi dv 9 := Nat.pow_le_pow_right (by decide) (by omega)
      omega
    have q1 := mhigh (d := d) (h := h) (x0 := (p : Int)) (x1 := (n : Int)) hd256 h1 u4 u5 (bhi dv 9) 0 (Nat.zero_add _)
    have q2 := mbits (d := d) (h := h) (x0 := (p : Int)) (x1 := (n : Int)) (hi := bhi dv 9) hd256 (by omega) (n + 1 - bhi dv 9) p (by omega) (by omega)
    have eb : brs dv (bhi dv 9) (n + 1 - bhi dv 9) p = brest p dv := by
      unfold brest
      rw [show 9 - bhi dv 9 = (n + 1 - bhi dv 9) + (8 - n) by omega]
      exact (brs_skip _ _ _ hp1 (by omega)).symm
    rw [eb, show ((n + 1 - bhi dv 9 : Nat) : Int) - 1 = w32 ((n : Int) - (bhi dv 9 : Int)) from by unfold w32; omega] at q2
    rw [show ((0 : Nat) : Int) = 0 from rfl] at q1
    rw [vM_isPrime_2, show jshl 1 (n : Int) = ((2 ^ n : Nat) : Int) from by rw [show (1 : Int) = ((1 : Nat) : Int) from rfl, jshl_n (by omega) (by omega), Nat.one_mul], if_pos (by omega), vM_isPrime_9, q1, vM_isPrime_25, q2, vM_isPrime_66]
    unfold unL
    by_cases h0 : brest p dv = 0
    · rw [if_pos (show (brest p dv : Int) = 0 by omega), if_pos h0, vM_isPrime_71, aZ0]; rfl
    · rw [if_neg (show ¬ (brest p dv : Int) = 0 by omega), if_neg h0, vM_isPrime_73, w32_s (by omega)]
      exact mprime_loop hp1 hn j (dv + 1) _ _ _ (by omega) (by omega)
theorem mprime {p n : Nat} (hp1 : p < 2 ^ (n + 1)) (h1 : 1 ≤ n) (hn : n ≤ 8) : Vl d 212 0 [some (.inl (p : Int)), some (.inl (n : Int)), none, none, none, none] [] h = some ((0, some (.inl (if girr n p = true then 1 else 0))), h) := by
  have h2 : 2 ^ 1 ≤ 2 ^ n := Nat.pow_le_pow_right (by decide) h1
  have q := mprime_loop (d := d) (h := h) hp1 hn (2 ^ n - 2) 2 none none none (by decide) (by omega)
  rw [unL_all] at q
  rw [vM_isPrime_0]
  exact q
end MPRM
def XG (D D' : jD) : Prop := (∀ q, (q < 488 ∨ q = 489 ∨ q = 490 ∨ (492 ≤ q ∧ q ≤ 496) ∨ 518 ≤ q) → D' q = D q) ∧ ∀ j, (j < 10 ∨ (13 < j ∧ j < 32) ∨ 38 < j) → j ≠ 44 → j ≠ 45 → j ≠ 46 → D' 488 j = D 488 j
def LG (ρ ρ' : jr2) : Prop := ρ'.1 = ρ.1 ∧ ρ'.2.1 = ρ.2.1 ∧ ∀ c, c < 488 → ρ'.2.2 c = ρ.2.2 c
def MRD (D : jD) (T : aT) : Prop := MN (tF T) D 491 0 ∧ D 491 5 = 0 ∧ D 491 6 = 0 ∧ tP T = 0 ∧ tU T = 0
/-- ahead of use(): the numbers of the field may still be the old ones -/
def MPR (ρ : jr2) (D : jD) (X : sx) (t : tk) (l : Nat) : Prop := (MX D (sX X) (sN X) ∧ TOK (sA X) ∧ MNM ρ D (sC X) (tN (sA X)) ∧ ∀ i, i < tN (sA X) → PRo D 491 (16 + 17 * i) (tn (sA X) i)) ∧ MRD D (sA X) ∧ MTK ρ D (sN X) t ∧ D 488 46 = (l : Int) ∧ D 488 37 = 0
def MLS (ρ : jr2) (D : jD) (X : sx) (t : tk) (l : Nat) : Prop := MPR ρ D X t l ∧ MF (tF (sA X)) D
def MLE (ρ : jr2) (D : jD) (e : Nat × Nat) (run : Option jr) : Prop := ∃ ρ' D', run = some ((0, some (.inl 0)), hp (1, ρ') D') ∧ LG ρ ρ' ∧ XG D D' ∧ D' 488 37 = (e.1 : Int) ∧ D' 488 38 = (e.2 : Int)
def MLY (ρ : jr2) (D : jD) (X : sx) (t : tk) (l : Nat) (run : Option jr) : Prop := ∃ ρ' D', run = some ((0, some (.inl 1)), hp (1, ρ') D') ∧ LG ρ ρ' ∧ XG D D' ∧ MPR ρ' D' X t l
section MLIN
variable {ρ ρ1 ρ' : jr2} {D D1 D' D2 : jD} {d : Nat} {X : sx} {t : tk} {l : Nat} {Φ : gF} {x : Nat → Nat} {len : Nat} {nm : Nat → Nat}
theorem XG_rf : XG D D := ⟨fun _ _ => rfl, fun _ _ _ _ _ => rfl⟩
theorem XG_tr (h1 : XG D D') (h2 : XG D' D2) : XG D D2 := ⟨fun q a => by rw [h2.1 q a, h1.1 q a], fun j a b c e => by rw [h2.2 j a b c e, h1.2 j a b c e]⟩
theorem XG_XF (h : XF D D') : XG D D' := ⟨fun q a => h.1 q (by omega), fun j a b c _ => h.2 j (by omega) b c⟩
theorem XG_TX (h : TX D D') : XG D D' := XG_XF (XF_TX h)
theorem XG_8 {j : Nat} {v : Int} (h : (10 ≤ j ∧ j ≤ 13) ∨ (32 ≤ j ∧ j ≤ 38) ∨ (44 ≤ j ∧ j ≤ 46)) : XG D (sD D 488 j v) := ⟨fun q a => sD_ne (by omega), fun i a b c e => sD_nb (by omega)⟩
theorem XG_1 {j : Nat} {v : Int} : XG D (sD D 491 j v) := ⟨fun q a => sD_ne (by omega), fun i a b c e => by rw [sD_ne (by decide)]⟩
theorem LG_rf : LG ρ ρ := ⟨rfl, rfl, fun _ _ => rfl⟩
theorem LG_tr {ρ2 : jr2} (h1 : LG ρ ρ1) (h2 : LG ρ1 ρ2) : LG ρ ρ2 := ⟨by rw [h2.1, h1.1], by rw [h2.2.1, h1.2.1], fun c a => by rw [h2.2.2 c a, h1.2.2 c a]⟩
theorem LG_LX (h : LX ρ ρ') : LG ρ ρ' := ⟨h.1, h.2.1, fun c a => funext fun i => h.2.2 c i (Or.inl (by omega))⟩
theorem MLE_bad {f p : Nat} {f' : Int} (hf : f' = (f : Int)) {run : Option jr} (hL : LG ρ ρ1) (hX : XG D D1) (hr : run = some ((0, some (.inl 0)), hp (1, ρ1) (mFt D1 f' (p : Int)))) : MLE ρ D (f, p) run := ⟨_, _, hr, hL, XG_tr hX (XG_XF XF_mFt), by rw [mFt_37]; exact hf, mFt_38⟩
theorem MLE_fr {e : Nat × Nat} {run : Option jr} (h : MLE ρ1 D1 e run) (hL : LG ρ ρ1) (hX : XG D D1) : MLE ρ D e run := by
  obtain ⟨ρ', D', a, b, c, f⟩ := h
  exact ⟨ρ', D', a, LG_tr hL b, XG_tr hX c, f⟩
/-- what stays where a TOKEN alone has gone by -/
theorem MPR_TX {t' : tk} (h : MPR ρ D X t l) (hL : LX ρ ρ') (hX : TX D D') (hT : MTK ρ' D' (sN X) t') : MPR ρ' D' X t' l := by
  obtain ⟨⟨h1, h2, ⟨n1, n2, n3⟩, h4⟩, ⟨r1, r2, r3, r4⟩, -, h6, h7⟩ := h
  have e := hX.1 491 (by decide)
  exact ⟨⟨MX_TX h1 hX, h2, ⟨n1, by rw [e]; exact n2, fun i hi => by rw [hL.2.2 494 i (Or.inl (by decide))]; exact n3 i hi⟩, fun i hi => by unfold PRo; rw [e]; exact h4 i hi⟩, ⟨MN_cg r1 e, by rw [e]; exact r2, by rw [e]; exact r3, r4⟩, hT, by rw [hX.2 46 (by decide)]; exact h6, by rw [hX.2 37 (by decide)]; exact h7⟩
/-- a TOKEN on -/
theorem mgoL {len : Nat} {x : Nat → Nat} (hX : MX D x len) (hT : MTK ρ D len t) (ht : t.1 < 258) : ∃ ρ' D', Vl (d + 2) 201 0 [some (.inr (.inr (some 488))), none, none, none, none] [] (hp (1, ρ) D) = some ((0, none), hp (1, ρ') D') ∧ LX ρ ρ' ∧ TX D D' ∧ MTK ρ' D' len (scn x len t.2.2.2) ∧ t.2.2.2 ≤ (scn x len t.2.2.2).2.2.2 ∧ ((scn x len t.2.2.2).1 ≠ 258 → t.2.2.2 + 1 ≤ (scn x len t.2.2.2).2.2.2) := by
  have hb := hT.2.1
  have hto : D 488 32 = (t.2.2.2 : Int) := by
    obtain ⟨-, -, -, hT⟩ := hT
    rcases hT with ⟨a, -⟩ | ⟨a, -⟩ | ⟨-, -, e, -⟩ | ⟨-, -, e, -⟩ | ⟨-, -, -, e, -⟩
    · omega
    · omega
    · exact e
    · exact e
    · exact e
  obtain ⟨ρ', D', q1, q2, q3, q4⟩ := mgo (d := d) (ρ := ρ) hX hto hb
  obtain ⟨p1, -, p3⟩ := scn_p (x := x) hb
  exact ⟨ρ', D', q1, q2, q3, q4, p1, p3⟩
theorem mgoP (hS : MPR ρ D X t l) (ht : t.1 < 258) : ∃ ρ' D', Vl (d + 2) 201 0 [some (.inr (.inr (some 488))), none, none, none, none] [] (hp (1, ρ) D) = some ((0, none), hp (1, ρ') D') ∧ LX ρ ρ' ∧ TX D D' ∧ MPR ρ' D' X (nx X t) l ∧ t.2.2.2 ≤ (nx X t).2.2.2 ∧ ((nx X t).1 ≠ 258 → t.2.2.2 + 1 ≤ (nx X t).2.2.2) := by
  obtain ⟨ρ', D', q1, q2, q3, q4, q5, q6⟩ := mgoL (d := d) hS.1.1 hS.2.2.1 ht
  exact ⟨ρ', D', q1, q2, q3, MPR_TX hS q2 q3 q4, q5, q6⟩
/-- the end of a LINE, the field's numbers put to use -/
theorem mtail (hS : MPR ρ D X t l) (x1 x2 : Int) : match psW X 59 t with
    | .inl e => MLE ρ D e (Vl (d + 3) 206 53 [some (.inr (.inr (some 488))), some (.inl x1), some (.inl x2)] [] (hp (1, ρ) D))
    | .inr t3 => ∃ ρ' D', Vl (d + 3) 206 53 [some (.inr (.inr (some 488))), some (.inl x1), some (.inl x2)] [] (hp (1, ρ) D) = some ((0, some (.inl 1)), hp (1, ρ') D') ∧ LG ρ ρ' ∧ XG D D' ∧ MLS ρ' D' X t3 l ∧ t.2.2.2 ≤ t3.2.2.2 := by
  rw [vM_readLine_53, mGF m488, msn59 hS.2.2.1, aVC, tlS, vM_readLine_59]
  by_cases h : t.1 = 59
  rotate_left
  · rw [psW_n h, if_neg h, if_pos rfl, vM_readLine_62, mGF m488, mbad1 hS.2.2.1, aVC, tlS, vM_readLine_67, aZ0]
    exact MLE_bad (f' := 1) rfl LG_rf XG_rf rfl
  rw [psW_y h, if_pos h, if_neg j10, vM_readLine_68, mGF m488]
  obtain ⟨ρ', D', q1, q2, q3, q4, q5, -⟩ := mgoP (d := d) hS (show t.1 < 258 by omega)
  have q6 := muse (d := d + 2) (ρ := ρ') (D := D') m491 (by decide) (by decide) hS.1.2.1.1 q4.2.1.1
  rw [q1, aVC, tlN, vM_readLine_72]
  simp only [mGF m488, mr4]
  rw [q6, aVC, tlN, vM_readLine_80, aZ1]
  have hne : ∀ q, q ≠ 488 → mUse D' (tF (sA X)) q = D' q := fun q a => mUse_ne a
  have hf : ∀ j, (j < 10 ∨ 13 < j) → mUse D' (tF (sA X)) 488 j = D' 488 j := fun j a => mUse_f a
  obtain ⟨⟨⟨x1', x2', x3'⟩, h2, ⟨n1, n2, n3⟩, h4⟩, ⟨r1, r2, r3, r4⟩, h5, h6, h7⟩ := q4
  have e := hne 491 (by decide)
  refine ⟨ρ', _, rfl, LG_LX q2, XG_tr (XG_TX q3) ⟨fun q a => hne q (by omega), fun j a _ _ _ => hf j (by omega)⟩, ⟨⟨⟨⟨by rw [hf 31 (by decide)]; exact x1', x2', fun i hi => by rw [hne 489 (by decide)]; exact x3' i hi⟩, h2, ⟨n1, by rw [e]; exact n2, n3⟩, fun i hi => by unfold PRo; rw [e]; exact h4 i hi⟩, ⟨MN_cg r1 e, by rw [e]; exact r2, by rw [e]; exact r3, r4⟩, MTK_cg h5 (fun j a b => hf j (by omega)), by rw [hf 46 (by decide)]; exact h6, by rw [hf 37 (by decide)]; exact h7⟩, mUse_MF h2.1⟩, q5⟩
end MLIN
