/-! NUMBERS THAT ARE NOT NEGATIVE; ROWS OF A POLYNOMIAL -/
theorem w32_i {x : Int} (h1 : -2147483648 ≤ x) (h2 : x < 2147483648) : w32 x = x := by unfold w32; omega
theorem w32_s {n : Nat} (h : n < 2147483647) : w32 ((n : Int) + 1) = ((n + 1 : Nat) : Int) := by unfold w32; omega
theorem w32_p {n : Nat} (h : n < 2147483647) : w32 (((n + 1 : Nat) : Int) + (-1)) = (n : Int) := by unfold w32; omega
theorem w32_n {n : Nat} (h : n < 2147483648) : w32 (n : Int) = (n : Int) := by unfold w32; omega
theorem w32_ad {a b : Nat} (h : a + b < 2147483648) : w32 ((a : Int) + (b : Int)) = ((a + b : Nat) : Int) := by unfold w32; omega
theorem w32_ml {a b : Nat} (h : a * b < 2147483648) : w32 ((a : Int) * (b : Int)) = ((a * b : Nat) : Int) := by
  rw [← Int.natCast_mul]; exact w32_n h
theorem jand_n {a b : Nat} (ha : a < 2147483648) (hb : b < 2147483648) : jand (a : Int) (b : Int) = ((a &&& b : Nat) : Int) := by
  unfold jand
  rw [u32_n (by omega), u32_n (by omega)]
  exact w32_n (Nat.lt_of_le_of_lt Nat.and_le_left ha)
theorem jxor_n {a b : Nat} (ha : a < 2147483648) (hb : b < 2147483648) : jxor (a : Int) (b : Int) = ((a ^^^ b : Nat) : Int) := by
  unfold jxor
  rw [u32_n (by omega), u32_n (by omega)]
  exact w32_n (Nat.xor_lt_two_pow (n := 31) ha hb)
theorem jor_n {a b : Nat} (ha : a < 2147483648) (hb : b < 2147483648) : jor (a : Int) (b : Int) = ((a ||| b : Nat) : Int) := by
  unfold jor
  rw [u32_n (by omega), u32_n (by omega)]
  exact w32_n (Nat.or_lt_two_pow (n := 31) ha hb)
theorem s32_n {k : Nat} (h : k < 32) : s32 (k : Int) = k := by unfold s32; omega
theorem jush_n {a k : Nat} (ha : a < 2147483648) (hk : k < 32) : jush (a : Int) (k : Int) = ((a / 2 ^ k : Nat) : Int) := by
  unfold jush
  rw [u32_n (by omega), s32_n hk]
  exact w32_n (Nat.lt_of_le_of_lt (Nat.div_le_self _ _) ha)
theorem jshl_n {a k : Nat} (hk : k < 32) (h : a * 2 ^ k < 2147483648) : jshl (a : Int) (k : Int) = ((a * 2 ^ k : Nat) : Int) := by
  unfold jshl
  rw [s32_n hk, ← Int.natCast_mul]
  exact w32_n h
theorem jshr_n {a k : Nat} (hk : k < 32) : jshr (a : Int) (k : Int) = ((a / 2 ^ k : Nat) : Int) := by
  unfold jshr
  rw [s32_n hk]; exact (Int.natCast_ediv _ _).symm
theorem jand_k {a : Nat} (k : Nat) (hk : k ≤ 30) (ha : a < 2147483648) : jand (a : Int) ((2 ^ k - 1 : Nat) : Int) = ((a % 2 ^ k : Nat) : Int) := by
  have h1 : 2 ^ k ≤ 2 ^ 30 := Nat.pow_le_pow_right (by decide) hk
  rw [jand_n ha (by omega), Nat.and_two_pow_sub_one_eq_mod]
theorem jand_255 {a : Nat} (ha : a < 2147483648) : jand (a : Int) 255 = ((a % 256 : Nat) : Int) := jand_k 8 (by decide) ha
theorem jand_511 {a : Nat} (ha : a < 2147483648) : jand (a : Int) 511 = ((a % 512 : Nat) : Int) := jand_k 9 (by decide) ha
theorem jand_1 {a : Nat} (ha : a < 2147483648) : jand (a : Int) 1 = ((a % 2 : Nat) : Int) := jand_k 1 (by decide) ha
theorem jand_i {a : Nat} (ha : a < 256) : jand (a : Int) 255 = (a : Int) := by rw [jand_255 (by omega), Nat.mod_eq_of_lt ha]
theorem chain {α : Type} (V : Nat → α) (N : Nat) (h : ∀ j, j < N → V j = V (j + 1)) : V 0 = V N := by
  have : ∀ j, j ≤ N → V 0 = V j := fun j => by
    induction j with
    | zero => exact fun _ => rfl
    | succ j ih => exact fun hj => (ih (by omega)).trans (h j (by omega))
  exact this N (Nat.le_refl _)
/-- the first numbers of a cell, others -/
def pDn (D : jD) (c n : Nat) (r : Nat → Int) : jD := fun a b => if a = c ∧ b < n then r b else D a b
abbrev pD (D : jD) (c : Nat) (r : Nat → Int) : jD := pDn D c 17 r
theorem pDn_0 (D : jD) (c : Nat) (r : Nat → Int) : pDn D c 0 r = D := by
  funext a b; exact if_neg (by omega)
theorem pDn_s {D : jD} {c n : Nat} {r : Nat → Int} {v : Int} (h : v = r n) : sD (pDn D c n r) c n v = pDn D c (n + 1) r := by
  funext a b
  unfold sD pDn
  by_cases h1 : a = c ∧ b = n
  · rw [if_pos h1, if_pos (by omega), h1.2, h]
  · rw [if_neg h1]
    by_cases h2 : a = c ∧ b < n
    · rw [if_pos h2, if_pos (by omega)]
    · rw [if_neg h2, if_neg (by omega)]
theorem pDn_ne {D : jD} {c n : Nat} {r : Nat → Int} {a : Nat} (h : a ≠ c) : pDn D c n r a = D a := by
  funext b; exact if_neg (fun q => h q.1)
theorem pDn_lt {D : jD} {c n : Nat} {r : Nat → Int} {b : Nat} (h : b < n) : pDn D c n r c b = r b := if_pos ⟨rfl, h⟩
theorem pDn_ge {D : jD} {c n : Nat} {r : Nat → Int} {a b : Nat} (h : n ≤ b) : pDn D c n r a b = D a b := if_neg (by omega)
theorem sD_ne {D : jD} {c i : Nat} {v : Int} {a : Nat} (h : a ≠ c) : sD D c i v a = D a := by
  funext b; exact if_neg (fun q => h q.1)
theorem sD_eq {D : jD} {c i : Nat} {v : Int} : sD D c i v c i = v := if_pos ⟨rfl, rfl⟩
theorem sD_nb {D : jD} {c i : Nat} {v : Int} {a b : Nat} (h : b ≠ i) : sD D c i v a b = D a b := if_neg (fun q => h q.2)
/-- the degree and one more, of the first n numbers -/
def szn (r : Nat → Int) : Nat → Nat
  | 0 => 0
  | n + 1 => if r n = 0 then szn r n else n + 1
theorem szn_le (r : Nat → Int) : ∀ n, szn r n ≤ n
  | 0 => Nat.le_refl _
  | n + 1 => by unfold szn; split; exact Nat.le_succ_of_le (szn_le r n); exact Nat.le_refl _
section POLY
variable {ω : jw} {D : jD} {o o2 d : Nat}
theorem top_loop (hP : isP o) : ∀ n : Nat, n ≤ 17 → Vl d 59 3 [some (.inr (.inr (some o))), some (.inl ((n : Int) - 1))] [] (hp ω D) = some ((0, some (.inl ((szn (D (o + 1)) n : Int) - 1))), hp ω D)
  | 0, _ => by
    rw [vP_top_3, if_pos (by omega), vP_top_24]; rfl
  | n + 1, hn => by
    rw [vP_top_3, if_neg (by omega), vP_top_7, aGF (kP hP), rP hP, aIA (kPa hP), if_pos (by omega), show (((n + 1 : Nat) : Int) - 1).toNat = n by omega]
    unfold szn
    by_cases h0 : D (o + 1) n = 0
    · rw [if_pos h0, if_pos h0, vP_top_18, show w32 (((n + 1 : Nat) : Int) - 1 + (-1)) = (n : Int) - 1 by unfold w32; omega]
      exact top_loop hP n (by omega)
    · rw [if_neg h0, if_neg h0, vP_top_16]
theorem top_spec (hP : isP o) : Vl d 59 0 [some (.inr (.inr (some o))), none] [] (hp ω D) = some ((0, some (.inl ((szn (D (o + 1)) 17 : Int) - 1))), hp ω D) := by
  rw [vP_top_0]; exact top_loop hP 17 (Nat.le_refl _)
theorem isZero_spec (hP : isP o) : Vl (d + 1) 73 0 [some (.inr (.inr (some o)))] [] (hp ω D) = some ((0, some (.inl (if szn (D (o + 1)) 17 = 0 then 1 else 0))), hp ω D) := by
  rw [vP_isZero_0, aGF (kP hP), top_spec hP, aVC]
  show Vl (d + 1) 73 4 _ [.inl _] _ = _
  rw [vP_isZero_4]
  by_cases h : szn (D (o + 1)) 17 = 0
  · rw [if_pos (by omega), if_pos h, vP_isZero_7, vP_isZero_12]; rfl
  · rw [if_neg (by omega), if_neg h, vP_isZero_11, vP_isZero_12]; rfl
theorem get_spec (hP : isP o) {j : Nat} (hj : j < 2147483648) : Vl d 60 0 [some (.inr (.inr (some o))), some (.inl (j : Int))] [] (hp ω D) = some ((0, some (.inl (if j < 17 then D (o + 1) j else 0))), hp ω D) := by
  rw [vP_get_0, if_neg (by omega), vP_get_4]
  by_cases h : j < 17
  · rw [if_pos (by omega), vP_get_10, aGF (kP hP), rP hP, aIA (kPa hP), if_pos (by omega), vP_get_20, if_pos h, Int.toNat_natCast]
  · rw [if_neg (by omega), vP_get_19, vP_get_20, if_neg h]
theorem get_neg (hP : isP o) {x : Int} (hx : x < 0) : Vl d 60 0 [some (.inr (.inr (some o))), some (.inl x)] [] (hp ω D) = some ((0, some (.inl 0)), hp ω D) := by
  rw [vP_get_0, if_pos hx, vP_get_19, vP_get_20]
theorem put_spec (hP : isP o) {j : Nat} {v : Int} (hj : j < 17) : Vl d 65 0 [some (.inr (.inr (some o))), some (.inl (j : Int)), some (.inl v)] [] (hp ω D) = some ((0, none), hp ω (sD D (o + 1) j v)) := by
  rw [vP_put_0, if_neg (by omega), vP_put_4, if_pos (by omega), vP_put_10, aGF (kP hP), rP hP, aIS (kPa hP), if_pos (by omega), vP_put_17, Int.toNat_natCast]
theorem clear_spec (hP : isP o) : Vl d 49 0 [some (.inr (.inr (some o))), none] [] (hp ω D) = some ((0, none), hp ω (pD D (o + 1) (fun _ => 0))) := by
  rw [vP_clear_0]
  have := chain (fun j => Vl d 49 2 [some (.inr (.inr (some o))), some (.inl (j : Int))] [] (hp ω (pDn D (o + 1) j (fun _ => 0)))) 17 (fun j hj => by

    rw [vP_clear_2, if_pos (by omega), vP_clear_8, aGF (kP hP), rP hP, aIS (kPa hP), if_pos (by omega), Int.toNat_natCast, w32_s (by omega), pDn_s rfl])

  rw [pDn_0] at this
  refine this.trans ?_
  rw [vP_clear_2, if_neg (by omega), vP_clear_21]
theorem constant_spec (hP : isP o) {v : Int} : Vl (d + 1) 72 0 [some (.inr (.inr (some o))), some (.inl v)] [] (hp ω D) = some ((0, none), hp ω (pD D (o + 1) (fun b => if b = 0 then v else 0))) := by
  rw [vP_constant_0, aGF (kP hP), clear_spec hP, aVC]
  show Vl (d + 1) 72 4 _ [] _ = _
  rw [vP_constant_4, aGF (kP hP), rP hP, aIS (kPa hP), if_pos (by omega)]
  congr 3
  funext a b
  show (if a = o + 1 ∧ b = 0 then v else if a = o + 1 ∧ b < 17 then 0 else D a b) = if a = o + 1 ∧ b < 17 then (if b = 0 then v else 0) else D a b
  by_cases h1 : a = o + 1
  · by_cases h2 : b = 0
    · rw [if_pos ⟨h1, h2⟩, if_pos (by omega), if_pos h2]
    · rw [if_neg (by omega), if_neg h2]
  · rw [if_neg (by omega), if_neg (by omega), if_neg (by omega)]
theorem letter_spec (hP : isP o) : Vl (d + 1) 79 0 [some (.inr (.inr (some o)))] [] (hp ω D) = some ((0, none), hp ω (pD D (o + 1) (fun b => if b = 1 then 1 else 0))) := by
  rw [vP_letter_0, aGF (kP hP), clear_spec hP, aVC]
  show Vl (d + 1) 79 4 _ [] _ = _
  rw [vP_letter_4, aGF (kP hP), rP hP, aIS (kPa hP), if_pos (by omega)]
  congr 3
  funext a b
  show (if a = o + 1 ∧ b = 1 then 1 else if a = o + 1 ∧ b < 17 then 0 else D a b) = if a = o + 1 ∧ b < 17 then (if b = 1 then 1 else 0) else D a b
  by_cases h1 : a = o + 1
  · by_cases h2 : b = 1
    · rw [if_pos ⟨h1, h2⟩, if_pos (by omega), if_pos h2]
    · rw [if_neg (by omega), if_neg h2]
  · rw [if_neg (by omega), if_neg (by omega), if_neg (by omega)]
theorem copy_spec (hP : isP o) (hP2 : isP o2) : Vl d 54 0 [some (.inr (.inr (some o))), some (.inr (.inr (some o2))), none] [] (hp ω D) = some ((0, none), hp ω (pD D (o + 1) (D (o2 + 1)))) := by
  rw [vP_copy_0]
  have := chain (fun j => Vl d 54 2 [some (.inr (.inr (some o))), some (.inr (.inr (some o2))), some (.inl (j : Int))] [] (hp ω (pDn D (o + 1) j (D (o2 + 1))))) 17 (fun j hj => by

    rw [vP_copy_2, if_pos (by omega), vP_copy_8, aGF (kP hP), aGF (kP hP2), rP hP2, aIA (kPa hP2), if_pos (by omega), rP hP, aIS (kPa hP), if_pos (by omega), Int.toNat_natCast, w32_s (by omega), pDn_s (pDn_ge (Nat.le_refl j))])

  rw [pDn_0] at this
  refine this.trans ?_
  rw [vP_copy_2, if_neg (by omega), vP_copy_26]
theorem add_spec (hP : isP o) (hP2 : isP o2) : Vl d 69 0 [some (.inr (.inr (some o))), some (.inr (.inr (some o2))), none] [] (hp ω D) = some ((0, none), hp ω (pD D (o + 1) (fun b => jxor (D (o + 1) b) (D (o2 + 1) b)))) := by
  rw [vP_add_0]
  have := chain (fun j => Vl d 69 2 [some (.inr (.inr (some o))), some (.inr (.inr (some o2))), some (.inl (j : Int))] [] (hp ω (pDn D (o + 1) j (fun b => jxor (D (o + 1) b) (D (o2 + 1) b))))) 17 (fun j hj => by

    rw [vP_add_2, if_pos (by omega), vP_add_8, aGF (kP hP), rP hP, aIA (kPa hP), if_pos (by omega), aGF (kP hP2), rP hP2, aIA (kPa hP2), if_pos (by omega), aIS (kPa hP), if_pos (by omega), Int.toNat_natCast, w32_s (by omega), pDn_ge (Nat.le_refl j), pDn_ge (Nat.le_refl j), pDn_s rfl])

  rw [pDn_0] at this
  refine this.trans ?_
  rw [vP_add_2, if_neg (by omega), vP_add_29]
theorem swap_spec (hP : isP o) (hP2 : isP o2) (hne : o ≠ o2) : Vl d 75 0 [some (.inr (.inr (some o))), some (.inr (.inr (some o2))), none, none] [] (hp ω D) = some ((0, none), hp ω (pD (pD D (o + 1) (D (o2 + 1))) (o2 + 1) (D (o + 1)))) := by
  rw [vP_swap_0]
  have key : ∀ j : Nat, j ≤ 17 → ∃ u, Vl d 75 2 [some (.inr (.inr (some o))), some (.inr (.inr (some o2))), some (.inl 0), none] [] (hp ω D) = Vl d 75 2 [some (.inr (.inr (some o))), some (.inr (.inr (some o2))), some (.inl (j : Int)), u] [] (hp ω (pDn (pDn D (o + 1) j (D (o2 + 1))) (o2 + 1) j (D (o + 1)))) := by
    intro j
    induction j with
    | zero => intro _; exact ⟨none, by rw [pDn_0, pDn_0]; rfl⟩
    | succ j ih =>
      intro hj
      obtain ⟨u, hu⟩ := ih (by omega)
      refine ⟨some (.inl (D (o + 1) j)), hu.trans ?_⟩
      rw [vP_swap_2, if_pos (by omega), vP_swap_8, aGF (kP hP), rP hP, aIA (kPa hP), if_pos (by omega), aGF (kP hP), aGF (kP hP2), rP hP2, aIA (kPa hP2), if_pos (by omega), rP hP, aIS (kPa hP), if_pos (by omega), aGF (kP hP2), rP hP2, aIS (kPa hP2), if_pos (by omega), Int.toNat_natCast, w32_s (by omega), pDn_ge (Nat.le_refl j), pDn_ge (Nat.le_refl j), pDn_ge (Nat.le_refl j), pDn_ge (Nat.le_refl j)]
      congr 2
      funext a b
      show (if a = o2 + 1 ∧ b = j then D (o + 1) j else if a = o + 1 ∧ b = j then D (o2 + 1) j else if a = o2 + 1 ∧ b < j then D (o + 1) b else if a = o + 1 ∧ b < j then D (o2 + 1) b else D a b) = if a = o2 + 1 ∧ b < j + 1 then D (o + 1) b else if a = o + 1 ∧ b < j + 1 then D (o2 + 1) b else D a b
      by_cases h1 : a = o2 + 1
      · by_cases h2 : b = j
        · rw [if_pos ⟨h1, h2⟩, if_pos (by omega), h2]
        · rw [if_neg (by omega), if_neg (by omega)]
          by_cases h3 : b < j
          · rw [if_pos ⟨h1, h3⟩, if_pos (by omega)]
          · rw [if_neg (by omega), if_neg (by omega), if_neg (by omega), if_neg (by omega)]
      · rw [if_neg (by omega), if_neg (show ¬ (a = o2 + 1 ∧ b < j + 1) by omega)]
        by_cases h2 : a = o + 1 ∧ b = j
        · rw [if_pos h2, if_pos (by omega), h2.2]
        · rw [if_neg h2, if_neg (by omega)]
          by_cases h3 : a = o + 1 ∧ b < j
          · rw [if_pos h3, if_pos (by omega)]
          · rw [if_neg h3, if_neg (by omega)]
  obtain ⟨u, hu⟩ := key 17 (Nat.le_refl _)
  refine hu.trans ?_
  rw [vP_swap_2, if_neg (by omega), vP_swap_40]
end POLY
