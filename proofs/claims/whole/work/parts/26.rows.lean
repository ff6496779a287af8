/-! ROWS: a letter passed, a number times a row added -/
def rI (F : Nat → Nat) : Nat → Int := fun b => (F b : Int)
/-- the cell c holds the numbers F -/
def PR (D : jD) (c : Nat) (F : Nat → Nat) : Prop := ∀ b, b < 17 → D c b = (F b : Int)
def inF (Φ : gF) (F : Nat → Nat) : Prop := ∀ b, F b < 2 ^ Φ.1
/-- no numbers from n on -/
def dle (F : Nat → Nat) (n : Nat) : Prop := ∀ b, n ≤ b → F b = 0
def pS (Φ : gF) (F : Nat → Nat) : Nat → Nat := fun k => (if k = 0 then 0 else ft Φ (F (k - 1))) ^^^ fs Φ (F k)
theorem pS_in {Φ : gF} (h : FOK Φ) {F : Nat → Nat} (hF : inF Φ F) : inF Φ (pS Φ F) := fun b => by
  unfold pS
  refine x_lt ?_ (fs_lt h _)
  split
  · exact F_pos Φ
  · exact ft_lt h (hF _)
theorem pS_dle {Φ : gF} {F : Nat → Nat} {n : Nat} (hF : dle F n) : dle (pS Φ F) (n + 1) := fun b hb => by
  unfold pS
  rw [if_neg (by omega), hF (b - 1) (by omega), hF b (by omega), ft_0, fs_0]; rfl
theorem pD_self {D : jD} {c : Nat} {r : Nat → Int} (h : ∀ b, b < 17 → D c b = r b) : pD D c r = D := by
  funext a b
  unfold pD pDn
  split
  · rename_i q; rw [q.1, h b q.2]
  · rfl
theorem pD_PR {D : jD} {c : Nat} {F : Nat → Nat} : PR (pD D c (rI F)) c F := fun b hb => pDn_lt hb
theorem PR_ne {D D' : jD} {c : Nat} {F : Nat → Nat} (h : D' c = D c) (hP : PR D c F) : PR D' c F := fun b hb => by rw [h]; exact hP b hb
def pLd (D : jD) (c s j : Nat) (r : Nat → Int) : jD := fun a b => if a = c ∧ j < b ∧ b ≤ s then r b else D a b
section ROWS
variable {ω : jw} {D : jD} {k d : Nat} {Φ : gF}
theorem passLetter_loop (hk : isF k) (hF : FT Φ D k) {c : Nat} (hc : KL0[c]? = some (1, 17)) (hne : ∀ j, j < 5 → c ≠ k + j) {F : Nat → Nat} (hR : PR D c F) (hi : inF Φ F) (x2 : Int) {s : Nat} (hs : s < 17) : ∀ j : Nat, j ≤ s → Vl d 68 25 [some (.inr (.inr (some k))), some (.inr (.inr (some c))), some (.inl x2), some (.inl (j : Int))] [] (hp ω (pLd D c s j (rI (pS Φ F)))) = some ((0, none), hp ω (sD (pLd D c s 0 (rI (pS Φ F))) c 0 (fs Φ (F 0) : Int)))
  | 0, _ => by
    have h256 := F_256 hF.1
    have h0 := hi 0
    have e1 : pLd D c s 0 (rI (pS Φ F)) c 0 = (F 0 : Int) := by
      rw [← hR 0 (by omega)]; exact if_neg (by omega)
    have e2 : pLd D c s 0 (rI (pS Φ F)) (k + 4) (F 0) = (fs Φ (F 0) : Int) := by
      rw [← hF.2.2.2.2.2.2.2.2.2 _ h0]; exact if_neg (fun q => hne 4 (by decide) q.1.symm)
    rw [vF_passLetter_25, if_neg (by omega), vF_passLetter_65, aGF (kF hk), aIA hc, if_pos (by omega), show (0 : Int).toNat = 0 from rfl, e1, jand_i (by omega), rF_9 hk, aIA (kF_4 hk), if_pos (by omega), Int.toNat_natCast, e2, aIS hc, if_pos (by omega)]
    rfl
  | j + 1, hj => by
    have h256 := F_256 hF.1
    have h0 := hi j
    have h1 := hi (j + 1)
    have e1 : pLd D c s (j + 1) (rI (pS Φ F)) c j = (F j : Int) := by
      rw [← hR j (by omega)]; exact if_neg (by omega)
    have e2 : pLd D c s (j + 1) (rI (pS Φ F)) (k + 3) (F j) = (ft Φ (F j) : Int) := by
      rw [← hF.2.2.2.2.2.2.2.2.1 _ h0]; exact if_neg (fun q => hne 3 (by decide) q.1.symm)
    have e3 : pLd D c s (j + 1) (rI (pS Φ F)) c (j + 1) = (F (j + 1) : Int) := by
      rw [← hR (j + 1) (by omega)]; exact if_neg (by omega)
    have e4 : pLd D c s (j + 1) (rI (pS Φ F)) (k + 4) (F (j + 1)) = (fs Φ (F (j + 1)) : Int) := by
      rw [← hF.2.2.2.2.2.2.2.2.2 _ h1]; exact if_neg (fun q => hne 4 (by decide) q.1.symm)
    have h2 := ft_lt hF.1 h0
    have h3 := fs_lt hF.1 (F (j + 1))
    rw [vF_passLetter_25, if_pos (by omega), vF_passLetter_29, aGF (kF hk), show w32 (((j + 1 : Nat) : Int) - 1) = (j : Int) by unfold w32; omega, aIA hc, if_pos (by omega), Int.toNat_natCast, e1, jand_i (by omega), rF_8 hk, aIA (kF_3 hk), if_pos (by omega), Int.toNat_natCast, e2, aGF (kF hk), aIA hc, if_pos (by omega), Int.toNat_natCast, e3, jand_i (by omega), rF_9 hk, aIA (kF_4 hk), if_pos (by omega), Int.toNat_natCast, e4, aIS hc, if_pos (by omega), Int.toNat_natCast, w32_p (by omega), jxor_n (by omega) (by omega)]
    have e5 : sD (pLd D c s (j + 1) (rI (pS Φ F))) c (j + 1) ((ft Φ (F j) ^^^ fs Φ (F (j + 1)) : Nat) : Int) = pLd D c s j (rI (pS Φ F)) := by
      funext a b
      unfold sD pLd
      by_cases q1 : a = c ∧ b = j + 1
      · rw [if_pos q1, if_pos (by omega), q1.2]
        unfold rI pS
        rw [if_neg (by omega), Nat.add_sub_cancel]
      · rw [if_neg q1]
        by_cases q2 : a = c ∧ j + 1 < b ∧ b ≤ s
        · rw [if_pos q2, if_pos (by omega)]
        · rw [if_neg q2, if_neg (by omega)]
    rw [e5]
    exact passLetter_loop hk hF hc hne hR hi x2 hs j (by omega)
theorem passLetter_spec (hk : isF k) (hF : FT Φ D k) {c : Nat} (hc : KL0[c]? = some (1, 17)) (hne : ∀ j, j < 5 → c ≠ k + j) {F : Nat → Nat} (hR : PR D c F) (hi : inF Φ F) {T : Nat} (hT : T < 1000) (hd : ∀ b, T < b → b < 17 → F b = 0) : Vl d 68 0 [some (.inr (.inr (some k))), some (.inr (.inr (some c))), some (.inl (T : Int)), none] [] (hp ω D) = some ((0, none), hp ω (pD D c (rI (pS Φ F)))) := by
  have fin : ∀ s : Nat, s < 17 → (s = 16 ∨ s = T + 1) → Vl d 68 25 [some (.inr (.inr (some k))), some (.inr (.inr (some c))), some (.inl (T : Int)), some (.inl (s : Int))] [] (hp ω D) = some ((0, none), hp ω (pD D c (rI (pS Φ F)))) := by
    intro s hs hs2
    have := passLetter_loop (ω := ω) (d := d) hk hF hc hne hR hi (T : Int) hs s (Nat.le_refl _)
    have e : pLd D c s s (rI (pS Φ F)) = D := by funext a b; exact if_neg (by omega)
    rw [e] at this
    rw [this]
    congr 3
    funext a b
    unfold sD pLd pD pDn
    by_cases q1 : a = c ∧ b = 0
    · rw [if_pos q1, if_pos (by omega), q1.2]
      unfold rI pS
      rw [if_pos rfl, Nat.zero_xor]
    · rw [if_neg q1]
      by_cases q2 : a = c ∧ 0 < b ∧ b ≤ s
      · rw [if_pos q2, if_pos (by omega)]
      · rw [if_neg q2]
        by_cases q3 : a = c ∧ b < 17
        · rw [if_pos q3, q3.1, hR b q3.2]
          unfold rI pS
          rw [if_neg (by omega)]
          rw [hd b (by omega) q3.2]
          by_cases q4 : b - 1 ≤ T
          · omega
          · rw [hd (b - 1) (by omega) (by omega), ft_0, fs_0]; rfl
        · rw [if_neg q3]
  rw [vF_passLetter_0, aLN hc, if_neg (by omega), vF_passLetter_6, aLN hc, w32_s (by omega)]
  by_cases h : T + 1 < 17
  · rw [if_pos (by omega), vF_passLetter_14, w32_s (by omega), vF_passLetter_24]
    exact fin (T + 1) h (Or.inr rfl)
  · rw [if_neg (by omega), vF_passLetter_20, aLN hc, vF_passLetter_24]
    exact fin 16 (by decide) (Or.inl rfl)
theorem addTimes_n (hk : isF k) (hF : FT Φ D k) {cs cr : Nat} (hcs : KL0[cs]? = some (1, 17)) (hcr : KL0[cr]? = some (1, 17)) (hne : ∀ j, j < 5 → cs ≠ k + j) (hcc : cs ≠ cr) {T n : Nat} (hT : T < 1000) (hn : n = min (T + 1) 17) {A F : Nat → Nat} (hA : ∀ b, b < n → D cs b = (A b : Int)) (hR : ∀ b, b < n → D cr b = (F b : Int)) (hAi : inF Φ A) (hFi : inF Φ F) {v : Nat} (hv : v < 2 ^ Φ.1) : Vl d 67 0 [some (.inr (.inr (some k))), some (.inr (.inr (some cs))), some (.inl (v : Int)), some (.inr (.inr (some cr))), some (.inl (T : Int)), none, none] [] (hp ω D) = some ((0, none), hp ω (pDn D cs n (rI (fun b => A b ^^^ fm Φ v (F b))))) := by
  have h256 := F_256 hF.1
  rw [vF_addTimes_0]
  by_cases hv0 : v = 0
  · subst hv0
    rw [if_pos (by rfl), vF_addTimes_4]
    congr 3
    funext a b
    unfold pDn
    split
    · rename_i q; rw [q.1, hA b q.2]; dsimp only [rI]; rw [fm_0l, Nat.xor_zero]
    · rfl
  rw [if_neg (by omega), vF_addTimes_5]
  obtain ⟨g, i, g1, i1, i2, -, g3, i3, hl⟩ := log_of hF hv hv0
  rw [aGF (kF hk), rF_7 hk, jand_i (by omega), aIA (kF_2 hk), if_pos (by omega), Int.toNat_natCast, i3]
  have := chain (fun j => Vl d 67 20 [some (.inr (.inr (some k))), some (.inr (.inr (some cs))), some (.inl (v : Int)), some (.inr (.inr (some cr))), some (.inl (T : Int)), some (.inl (i : Int)), some (.inl (j : Int))] [] (hp ω (pDn D cs j (rI (fun b => A b ^^^ fm Φ v (F b)))))) n (fun j hj => by

    have hFj := hFi j
    have hAj := hAi j
    have e1 : pDn D cs j (rI (fun b => A b ^^^ fm Φ v (F b))) cr j = (F j : Int) := by rw [pDn_ge (Nat.le_refl j), hR j hj]
    have e2 : pDn D cs j (rI (fun b => A b ^^^ fm Φ v (F b))) cs j = (A j : Int) := by rw [pDn_ge (Nat.le_refl j), hA j hj]
    rw [vF_addTimes_20, if_neg (by omega), vF_addTimes_27, aLN hcs, if_pos (by omega), vF_addTimes_34, aLN hcr, if_pos (by omega), vF_addTimes_41, aIA hcr, if_pos (by omega), Int.toNat_natCast, e1]
    by_cases h0 : F j = 0
    · rw [if_pos (by rw [h0]; rfl), vF_addTimes_80, w32_s (by omega)]
      congr 2
      funext a b
      unfold pDn
      by_cases q : a = cs ∧ b < j
      · rw [if_pos q, if_pos (by omega)]
      · rw [if_neg q]
        by_cases q2 : a = cs ∧ b < j + 1
        · rw [if_pos q2, q2.1, show b = j by omega, hA j hj]; dsimp only [rI]; rw [h0, fm_0r, Nat.xor_zero]
        · rw [if_neg q2]
    · obtain ⟨l, l1, l2, l3⟩ := hl (F j) hFj h0
      have e3 : pDn D cs j (rI (fun b => A b ^^^ fm Φ v (F b))) (k + 2) (F j) = (l : Int) := by rw [pDn_ne (fun q => hne 2 (by decide) q.symm), l3]
      have e4 : pDn D cs j (rI (fun b => A b ^^^ fm Φ v (F b))) (k + 1) (i + l) = (fm Φ v (F j) : Int) := by
        rw [pDn_ne (fun q => hne 1 (by decide) q.symm), g3 _ (by omega), gpw_add hF.1.1.1 g1, i2, l2]; rfl
      have hp1 := fm_lt hF.1 (b := F j) hv
      rw [if_neg (by omega), vF_addTimes_48, aIA hcs, if_pos (by omega), Int.toNat_natCast, e2, aGF (kF hk), aGF (kF hk), aIA hcr, if_pos (by omega), Int.toNat_natCast, e1, jand_i (by omega), rF_7 hk, aIA (kF_2 hk), if_pos (by omega), Int.toNat_natCast, e3, w32_ad (by omega), jand_511 (by omega), Nat.mod_eq_of_lt (by omega), rF_6 hk, aIA (kF_1 hk), if_pos (by omega), Int.toNat_natCast, e4, aIS hcs, if_pos (by omega), Int.toNat_natCast, jxor_n (by omega) (by omega), vF_addTimes_80, w32_s (by omega), show sD (pDn D cs j (rI (fun b => A b ^^^ fm Φ v (F b)))) cs j ((A j ^^^ fm Φ v (F j) : Nat) : Int) = pDn D cs (j + 1) (rI (fun b => A b ^^^ fm Φ v (F b))) from pDn_s rfl])

  rw [pDn_0] at this
  refine this.trans ?_
  rw [vF_addTimes_20]
  by_cases h : T + 1 ≤ 17
  · rw [if_pos (by omega), vF_addTimes_86]
  · rw [if_neg (by omega), vF_addTimes_27, aLN hcs, if_neg (by omega), vF_addTimes_86]
theorem addTimes_spec (hk : isF k) (hF : FT Φ D k) {cs cr : Nat} (hcs : KL0[cs]? = some (1, 17)) (hcr : KL0[cr]? = some (1, 17)) (hne : ∀ j, j < 5 → cs ≠ k + j) (hcc : cs ≠ cr) {T : Nat} (hT : T < 1000) {A F : Nat → Nat} (hA : PR D cs A) (hR : PR D cr F) (hAi : inF Φ A) (hFi : inF Φ F) (hd : ∀ b, T < b → b < 17 → F b = 0) {v : Nat} (hv : v < 2 ^ Φ.1) : Vl d 67 0 [some (.inr (.inr (some k))), some (.inr (.inr (some cs))), some (.inl (v : Int)), some (.inr (.inr (some cr))), some (.inl (T : Int)), none, none] [] (hp ω D) = some ((0, none), hp ω (pD D cs (rI (fun b => A b ^^^ fm Φ v (F b))))) := by
  rw [addTimes_n hk hF hcs hcr hne hcc hT rfl (A := A) (F := F) (fun b hb => hA b (by omega)) (fun b hb => hR b (by omega)) hAi hFi hv]
  congr 3
  funext a b
  unfold pD pDn
  by_cases q : a = cs ∧ b < min (T + 1) 17
  · rw [if_pos q, if_pos (by omega)]
  · rw [if_neg q]
    by_cases q2 : a = cs ∧ b < 17
    · rw [if_pos q2, q2.1, hA b q2.2]; dsimp only [rI]; rw [hd b (by omega) q2.2, fm_0r, Nat.xor_zero]
    · rw [if_neg q2]
end ROWS
