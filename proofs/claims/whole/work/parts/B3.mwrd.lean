/-! THE REFERENCE'S READER: words, names, signs, faults -/
def kwL (c : Nat) : List (Nat × Nat) → Int
  | [] => -1
  | q :: l => if q.1 = c then (q.2 : Int) else kwL c l
def kwS : Nat → Nat → List (Nat × Nat)
  | 0, _ => []
  | n + 1, k => if jKEYt.getD k 0 = 32 then kst k :: kwS n (k + 1) else kwS n (k + 1)
/-- the twelve words, to the base 32 -/
def kwC (k : Nat) : Nat := ((kwS 55 0).getD k (0, 0)).1
section MWRD
variable {ρ : jr2} {D D' : jD} {d : Nat} {x : Nat → Nat} {len : Nat} {h : jh} {t : tk}
theorem kwF_L (c : Nat) : ∀ n k, kwF c n k = kwL c (kwS n k)
  | 0, _ => rfl
  | n + 1, k => by
    unfold kwF kwS
    by_cases h1 : jKEYt.getD k 0 = 32
    · rw [if_pos h1]
      show _ = if (kst k).1 = c then ((kst k).2 : Int) else kwL c (kwS n (k + 1))
      by_cases h2 : (kst k).1 = c
      · rw [if_pos ⟨h1, h2⟩, if_pos h2]
      · rw [if_neg (fun z => h2 z.2), if_neg h2]; exact kwF_L c n (k + 1)
    · rw [if_neg (fun z => h1 z.1), if_neg h1]; exact kwF_L c n (k + 1)
/-- looking up from the k-th word on -/
def kwN (c : Nat) : Nat → Nat → Int
  | 0, _ => -1
  | n + 1, k => if kwC k = c then (k : Int) else kwN c n (k + 1)
theorem kwS_ex : kwS 55 0 = [(kwC 0, 0), (kwC 1, 1), (kwC 2, 2), (kwC 3, 3), (kwC 4, 4), (kwC 5, 5), (kwC 6, 6), (kwC 7, 7), (kwC 8, 8), (kwC 9, 9), (kwC 10, 10), (kwC 11, 11)] := by decide +kernel
theorem kw_N (c : Nat) : kw c = kwN c 12 0 := by
  unfold kw
  rw [kwF_L, kwS_ex]
  rfl
def mvb : Nat → Nat → Bool
  | 0, C => C == 0
  | n + 1, C => C == 0 || (decide (1 ≤ C % 32 ∧ C % 32 ≤ 26) && mvb n (C / 32))
theorem mvb_d : ∀ n C, mvb n C = true → mvd n C
  | 0, C, e => by
    have e' : (C == 0) = true := e
    show C = 0
    simpa using e'
  | n + 1, C, e => by
    have e' : (C == 0 || (decide (1 ≤ C % 32 ∧ C % 32 ≤ 26) && mvb n (C / 32))) = true := e
    rw [Bool.or_eq_true, Bool.and_eq_true] at e'
    rcases e' with z | ⟨z, w⟩
    · exact Or.inl (by simpa using z)
    · exact Or.inr ⟨by simpa using z, mvb_d n _ w⟩
theorem kwC_b : ∀ k, k < 12 → mvb 6 (kwC k) = true := by decide +kernel
theorem kwC_fact (k : Nat) (hk : k < 12) : mvd 6 (kwC k) := mvb_d 6 _ (kwC_b k hk)
/-- one word, one number -/
theorem cv_inj : ∀ n C C', mvd n C → mvd n C' → cv n C = cv n C' → C = C'
  | 0, C, C', h1, h2, _ => by
    have e1 : C = 0 := h1
    have e2 : C' = 0 := h2
    rw [e1, e2]
  | n + 1, C, C', h1, h2, e => by
    have u : ∀ X, cv (n + 1) X = if X = 0 then 0 else 27 * cv n (X / 32) + X % 32 := fun _ => rfl
    rw [u, u] at e
    by_cases z1 : C = 0
    · by_cases z2 : C' = 0
      · rw [z1, z2]
      · rw [if_pos z1, if_neg z2] at e
        rcases h2 with w | ⟨w, _⟩
        · exact absurd w z2
        · omega
    · rcases h1 with w | ⟨w, w1⟩
      · exact absurd w z1
      by_cases z2 : C' = 0
      · rw [if_neg z1, if_pos z2] at e; omega
      · rcases h2 with v | ⟨v, v1⟩
        · exact absurd v z2
        rw [if_neg z1, if_neg z2] at e
        have ed : C % 32 = C' % 32 := by omega
        have eq := cv_inj n _ _ w1 v1 (by omega)
        omega
theorem spelt_k (a b c e f : Int) : Vl d 209 0 [some (.inl a), some (.inl b), some (.inl c), some (.inl e), some (.inl f), none, none] [] h = some ((0, some (.inr (.inl ((fun v : Int => if 0 < f then w64 (w64 (w64 (27 * v) + f) - 96) else v) ((fun v : Int => if 0 < e then w64 (w64 (w64 (27 * v) + e) - 96) else v) ((fun v : Int => if 0 < c then w64 (w64 (w64 (27 * v) + c) - 96) else v) ((fun v : Int => if 0 < b then w64 (w64 (w64 (27 * v) + b) - 96) else v) (w64 (a - 96))))))))), h) := by
  have l4 : ∀ v : Int, Vl d 209 65 [some (.inl a), some (.inl b), some (.inl c), some (.inl e), some (.inl f), some (.inr (.inl v)), none] [] h = some ((0, some (.inr (.inl (if 0 < f then w64 (w64 (w64 (27 * v) + f) - 96) else v)))), h) := fun v => by
    rw [vM_spelt_65]
    by_cases q : 0 < f
    · rw [if_pos q, if_pos q, vM_spelt_70, vM_spelt_89]
    · rw [if_neg q, if_neg q, vM_spelt_87, vM_spelt_89]
  have l3 : ∀ v : Int, Vl d 209 46 [some (.inl a), some (.inl b), some (.inl c), some (.inl e), some (.inl f), some (.inr (.inl v)), none] [] h = Vl d 209 65 [some (.inl a), some (.inl b), some (.inl c), some (.inl e), some (.inl f), some (.inr (.inl (if 0 < e then w64 (w64 (w64 (27 * v) + e) - 96) else v))), none] [] h := fun v => by
    rw [vM_spelt_46]
    by_cases q : 0 < e
    · rw [if_pos q, if_pos q, vM_spelt_50]
    · rw [if_neg q, if_neg q]
  have l2 : ∀ v : Int, Vl d 209 27 [some (.inl a), some (.inl b), some (.inl c), some (.inl e), some (.inl f), some (.inr (.inl v)), none] [] h = Vl d 209 46 [some (.inl a), some (.inl b), some (.inl c), some (.inl e), some (.inl f), some (.inr (.inl (if 0 < c then w64 (w64 (w64 (27 * v) + c) - 96) else v))), none] [] h := fun v => by
    rw [vM_spelt_27]
    by_cases q : 0 < c
    · rw [if_pos q, if_pos q, vM_spelt_31]
    · rw [if_neg q, if_neg q]
  rw [vM_spelt_0]
  by_cases q : 0 < b
  · rw [if_pos q, vM_spelt_12, l2, l3, l4]; simp only [if_pos q]
  · rw [if_neg q, l2, l3, l4]; simp only [if_neg q]
theorem mwordOf {k : Nat} (hk : k < 12) : Vl (d + 1) 208 0 [some (.inl (k : Int))] [] h = some ((0, some (.inr (.inl (cv 6 (kwC k) : Int)))), h) := by
  have hj : ∀ k : Nat, k < 12 → jsw [60, 74, 87, 101, 111, 123, 135, 148, 161, 173, 186] 198 0 10 (k : Int) = [60, 74, 87, 101, 111, 123, 135, 148, 161, 173, 186, 198].getD k 0 := by decide +kernel
  rw [vM_wordOf_0, hj k hk]
  have hk12 : k = 0 ∨ k = 1 ∨ k = 2 ∨ k = 3 ∨ k = 4 ∨ k = 5 ∨ k = 6 ∨ k = 7 ∨ k = 8 ∨ k = 9 ∨ k = 10 ∨ k = 11 := by omega
  rcases hk12 with rfl | rfl | rfl | rfl | rfl | rfl | rfl | rfl | rfl | rfl | rfl | rfl
  · show Vl (d + 1) 208 60 _ [] h = _
    rw [vM_wordOf_60, spelt_k, aVC, tlS, vM_wordOf_73]
    exact congrArg (fun z : Int => some ((0, some (Sum.inr (Sum.inl z))), h)) (by decide +kernel)
  · show Vl (d + 1) 208 74 _ [] h = _
    rw [vM_wordOf_74, spelt_k, aVC, tlS, vM_wordOf_86]
    exact congrArg (fun z : Int => some ((0, some (Sum.inr (Sum.inl z))), h)) (by decide +kernel)
  · show Vl (d + 1) 208 87 _ [] h = _
    rw [vM_wordOf_87, spelt_k, aVC, tlS, vM_wordOf_100]
    exact congrArg (fun z : Int => some ((0, some (Sum.inr (Sum.inl z))), h)) (by decide +kernel)
  · show Vl (d + 1) 208 101 _ [] h = _
    rw [vM_wordOf_101, spelt_k, aVC, tlS, vM_wordOf_110]
    exact congrArg (fun z : Int => some ((0, some (Sum.inr (Sum.inl z))), h)) (by decide +kernel)
  · show Vl (d + 1) 208 111 _ [] h = _
    rw [vM_wordOf_111, spelt_k, aVC, tlS, vM_wordOf_122]
    exact congrArg (fun z : Int => some ((0, some (Sum.inr (Sum.inl z))), h)) (by decide +kernel)
  · show Vl (d + 1) 208 123 _ [] h = _
    rw [vM_wordOf_123, spelt_k, aVC, tlS, vM_wordOf_134]
    exact congrArg (fun z : Int => some ((0, some (Sum.inr (Sum.inl z))), h)) (by decide +kernel)
  · show Vl (d + 1) 208 135 _ [] h = _
    rw [vM_wordOf_135, spelt_k, aVC, tlS, vM_wordOf_147]
    exact congrArg (fun z : Int => some ((0, some (Sum.inr (Sum.inl z))), h)) (by decide +kernel)
  · show Vl (d + 1) 208 148 _ [] h = _
    rw [vM_wordOf_148, spelt_k, aVC, tlS, vM_wordOf_160]
    exact congrArg (fun z : Int => some ((0, some (Sum.inr (Sum.inl z))), h)) (by decide +kernel)
  · show Vl (d + 1) 208 161 _ [] h = _
    rw [vM_wordOf_161, spelt_k, aVC, tlS, vM_wordOf_172]
    exact congrArg (fun z : Int => some ((0, some (Sum.inr (Sum.inl z))), h)) (by decide +kernel)
  · show Vl (d + 1) 208 173 _ [] h = _
    rw [vM_wordOf_173, spelt_k, aVC, tlS, vM_wordOf_185]
    exact congrArg (fun z : Int => some ((0, some (Sum.inr (Sum.inl z))), h)) (by decide +kernel)
  · show Vl (d + 1) 208 186 _ [] h = _
    rw [vM_wordOf_186, spelt_k, aVC, tlS, vM_wordOf_197]
    exact congrArg (fun z : Int => some ((0, some (Sum.inr (Sum.inl z))), h)) (by decide +kernel)
  · show Vl (d + 1) 208 198 _ [] h = _
    rw [vM_wordOf_198, spelt_k, aVC, tlS, vM_wordOf_210]
    exact congrArg (fun z : Int => some ((0, some (Sum.inr (Sum.inl z))), h)) (by decide +kernel)
theorem jlcmp_0 {a b : Nat} : (jlcmp (a : Int) (b : Int) = 0) ↔ a = b := by
  unfold jlcmp
  constructor
  · intro z
    split at z
    · exact absurd z (by decide)
    · split at z
      · omega
      · exact absurd z (by decide)
  · intro z
    rw [if_neg (by omega), if_pos (by omega)]
theorem mwah_loop {C : Nat} (hW : ρ.2.2 488 39 = (cv 6 C : Int)) (hC : mvd 6 C) : ∀ n k : Nat, k + n = 12 → Vl (d + 2) 207 12 [some (.inr (.inr (some 488))), some (.inl (k : Int))] [] (hp (1, ρ) D) = some ((0, some (.inl (kwN C n k))), hp (1, ρ) D)
  | 0, k, hk => by rw [vM_wordAtHand_12, if_pos (by omega), vM_wordAtHand_38]; rfl
  | n + 1, k, hk => by
    have hg : gL (hp (1, ρ) D) 488 39 = (cv 6 C : Int) := hW
    rw [vM_wordAtHand_12, if_neg (by omega), vM_wordAtHand_18, mGF m488, mwordOf (by omega), aVC, tlS, hg, vM_wordAtHand_26]
    rw [show kwN C (n + 1) k = if kwC k = C then (k : Int) else kwN C n (k + 1) from rfl]
    by_cases e : kwC k = C
    · rw [if_pos (jlcmp_0.mpr (by rw [e])), vM_wordAtHand_30, if_pos e]
    · rw [if_neg (fun z => e ((cv_inj 6 C (kwC k) hC (kwC_fact k (by omega)) (jlcmp_0.mp z)).symm)), vM_wordAtHand_32, w32_s (by omega), if_neg e]
      exact mwah_loop hW hC n (k + 1) (by omega)
/-- the word at hand -/
theorem mwah (hT : MTK ρ D len t) : Vl (d + 2) 207 0 [some (.inr (.inr (some 488))), none] [] (hp (1, ρ) D) = some ((0, some (.inl (if t.1 = 256 then kw t.2.2.1 else -1))), hp (1, ρ) D) := by
  obtain ⟨-, -, -, hT⟩ := hT
  have no : t.1 ≠ 256 → D 488 34 ≠ 2 → Vl (d + 2) 207 0 [some (.inr (.inr (some 488))), none] [] (hp (1, ρ) D) = some ((0, some (.inl (if t.1 = 256 then kw t.2.2.1 else -1))), hp (1, ρ) D) := fun h1 h2 => by
    rw [vM_wordAtHand_0, mGF m488, hD, if_neg h2, vM_wordAtHand_8, if_neg h1]
  rcases hT with ⟨a, -, e⟩ | ⟨a, e⟩ | ⟨a, e, -, w, v⟩ | ⟨a, e, -⟩ | ⟨a, -, e, -⟩
  · exact no (by omega) (by omega)
  · exact no (by omega) (by omega)
  · have q := mwah_loop (d := d) (D := D) w v 12 0 rfl
    rw [show ((0 : Nat) : Int) = 0 from rfl] at q
    rw [vM_wordAtHand_0, mGF m488, hD, if_pos e, vM_wordAtHand_10, q, if_pos a, kw_N]
  · exact no (by omega) (by omega)
  · exact no (by omega) (by omega)
/-- the names that are read -/
def MNM (ρ : jr2) (D : jD) (nm : Nat → Nat) (N : Nat) : Prop := N ≤ 12 ∧ D 491 4 = (N : Int) ∧ ∀ i, i < N → ρ.2.2 494 i = (cv 6 (nm i) : Int) ∧ mvd 6 (nm i)
theorem mfind_loop {nm : Nat → Nat} {N C : Nat} (hM : MNM ρ D nm N) (hW : ρ.2.2 488 39 = (cv 6 C : Int)) (hC : mvd 6 C) : ∀ n i : Nat, i + n = N → Vl (d + 1) 215 2 [some (.inr (.inr (some 488))), some (.inl (i : Int))] [] (hp (1, ρ) D) = some ((0, some (.inl (nix nm C n i))), hp (1, ρ) D)
  | 0, i, hi => by
    rw [vM_findName_2, mGF m488, mr4, mIA m491, if_pos (by decide), show (4 : Int).toNat = 4 from rfl, hM.2.1, if_neg (by omega), vM_findName_34]; rfl
  | n + 1, i, hi => by
    have h12 := hM.1
    have hg : gL (hp (1, ρ) D) 488 39 = (cv 6 C : Int) := hW
    obtain ⟨m1, m2⟩ := hM.2.2 i (by omega)
    rw [vM_findName_2, mGF m488, mr4, mIA m491, if_pos (by decide), show (4 : Int).toNat = 4 from rfl, hM.2.1, if_pos (by omega), vM_findName_12, mGF m488, mr7, mLA m494, if_pos (by omega), Int.toNat_natCast, mGF m488, hg, m1]
    rw [show nix nm C (n + 1) i = if nm i = C then (i : Int) else nix nm C n (i + 1) from rfl]
    by_cases e : nm i = C
    · rw [if_pos (jlcmp_0.mpr (by rw [e])), vM_findName_26, if_pos e]
    · rw [if_neg (fun z => e (cv_inj 6 _ _ m2 hC (jlcmp_0.mp z))), vM_findName_28, w32_s (by omega), if_neg e]
      exact mfind_loop hM hW hC n (i + 1) (by omega)
theorem mfind {nm : Nat → Nat} {N : Nat} (hM : MNM ρ D nm N) (hT : MTK ρ D len t) (h6 : t.1 = 256) : Vl (d + 1) 215 0 [some (.inr (.inr (some 488))), none] [] (hp (1, ρ) D) = some ((0, some (.inl (nix nm t.2.2.1 N 0))), hp (1, ρ) D) := by
  obtain ⟨-, -, -, hT⟩ := hT
  rcases hT with ⟨a, -⟩ | ⟨a, -⟩ | ⟨a, e, -, w, v⟩ | ⟨a, -⟩ | ⟨a, -⟩
  · omega
  · omega
  · have q := mfind_loop (d := d) hM w v N 0 (Nat.zero_add N)
    rw [show ((0 : Nat) : Int) = 0 from rfl] at q
    rw [vM_findName_0, q]
  · omega
  · omega
/-- is a SIGN at hand -/
theorem msign (hT : MTK ρ D len t) {c : Nat} (hc : c < 256) : Vl d 216 0 [some (.inr (.inr (some 488))), some (.inl (c : Int))] [] (hp (1, ρ) D) = some ((0, some (.inl (if t.1 = c then 1 else 0))), hp (1, ρ) D) := by
  obtain ⟨-, -, -, hT⟩ := hT
  have no : t.1 ≠ c → D 488 34 ≠ 4 → Vl d 216 0 [some (.inr (.inr (some 488))), some (.inl (c : Int))] [] (hp (1, ρ) D) = some ((0, some (.inl (if t.1 = c then 1 else 0))), hp (1, ρ) D) := fun h1 h2 => by
    rw [vM_isSign_0, mGF m488, hD, if_neg h2, vM_isSign_20, vM_isSign_21, aZ0, if_neg h1]
  rcases hT with ⟨a, -, e⟩ | ⟨a, e⟩ | ⟨a, e, -⟩ | ⟨a, e, -⟩ | ⟨a, -, e, -, s⟩
  · exact no (by omega) (by omega)
  · exact no (by omega) (by omega)
  · exact no (by omega) (by omega)
  · exact no (by omega) (by omega)
  · rw [vM_isSign_0, mGF m488, hD, if_pos e, vM_isSign_8, mGF m488, hD, s]
    by_cases q : t.1 = c
    · rw [if_pos (by omega), vM_isSign_16, vM_isSign_21, aZ1, if_pos q]
    · rw [if_neg (by omega), vM_isSign_20, vM_isSign_21, aZ0, if_neg q]
/-- the FAULT told -/
def mFt (D : jD) (k p : Int) : jD := sD (sD D 488 37 k) 488 38 p
theorem mbadAt {k p : Int} : Vl d 228 0 [some (.inr (.inr (some 488))), some (.inl k), some (.inl p)] [] (hp (1, ρ) D) = some ((0, some (.inl 0)), hp (1, ρ) (mFt D k p)) := by
  rw [vM_badAt_0, mGF m488, hwD, aLt, mGF m488, hwD, aLt, aZ0]; rfl
/-- a fault at the TOKEN at hand; where no TOKEN is there it is always 1 -/
theorem mbad (hT : MTK ρ D len t) {k : Nat} (hk : (t.1 = 259 ∨ (t.1 = 258 ∧ 500 < len)) → k = 1) : Vl d 211 0 [some (.inr (.inr (some 488))), some (.inl (k : Int))] [] (hp (1, ρ) D) = some ((0, some (.inl 0)), hp (1, ρ) (mFt D (k : Int) (t.2.1 : Int))) := by
  obtain ⟨hp3, -, -, hT⟩ := hT
  have fin : Vl d 211 14 [some (.inr (.inr (some 488))), some (.inl (k : Int))] [.inl (k : Int), .inr (.inr (some 488))] (hp (1, ρ) D) = some ((0, some (.inl 0)), hp (1, ρ) (mFt D (k : Int) (t.2.1 : Int))) := by
    rw [vM_bad_14]
    simp only [mGF m488, hwD, aLt, hD]
    rw [aZ0, sD_nb (by decide), hp3]; rfl
  have no : D 488 34 ≠ 1 → Vl d 211 0 [some (.inr (.inr (some 488))), some (.inl (k : Int))] [] (hp (1, ρ) D) = some ((0, some (.inl 0)), hp (1, ρ) (mFt D (k : Int) (t.2.1 : Int))) := fun h1 => by
    rw [vM_bad_0, mGF m488, hD, if_neg h1, vM_bad_13, fin]
  rcases hT with ⟨a, -, e⟩ | ⟨a, e⟩ | ⟨a, e, -⟩ | ⟨a, e, -⟩ | ⟨a, -, e, -, s⟩
  · exact no (by omega)
  · have hk1 := hk a
    rw [vM_bad_0, mGF m488, hD, if_pos e, vM_bad_9]
    rw [hk1] at fin ⊢
    exact fin
  · exact no (by omega)
  · exact no (by omega)
  · exact no (by omega)
end MWRD
