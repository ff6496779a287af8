/-! NORM in the class: f written in y, a cell, a product of rows -/
def iyS (Φ : gF) (Y : pl) (v : Nat) : pl := fun k => if k = 0 then fm Φ (Y 0) Φ.2.2.2 ^^^ v else Y (k - 1) ^^^ fm Φ (Y k) (fT Φ k Φ.2.2.2)
def iyL (Φ : gF) (F : pl) : Nat → pl → pl
  | 0, Y => Y
  | n + 1, Y => iyL Φ F n (iyS Φ Y (F n))
def iY (Φ : gF) (F : pl) : pl := iyL Φ F (sz F) p0
/-- a cell of the rows -/
def ncK (Φ : gF) (Y : pl) (r row col k : Nat) : pl := fun q => if row ≤ q * r + col ∧ q * r + col < k + row then fT Φ row (Y (q * r + col - row)) else 0
def pCn (Φ : gF) (A B : pl) : Nat → pl
  | 0 => p0
  | n + 1 => fun b => pCn Φ A B n b ^^^ (if n ≤ b then fm Φ (A n) (B (b - n)) else 0)
def pC (Φ : gF) (A B : pl) : pl := fun b => if b < 17 then pCn Φ A B 17 b else 0
section NORM
variable {d : Nat} {ω : jw} {D : jD} {Φ : gF}
theorem iyS_in (h : FOK Φ) {Y : pl} (hY : inF Φ Y) {v : Nat} (hv : v < 2 ^ Φ.1) : inF Φ (iyS Φ Y v) := fun k => by
  unfold iyS
  split
  · exact x_lt (fm_lt h (hY 0)) hv
  · exact x_lt (hY _) (fm_lt h (hY k))
theorem iyL_in (h : FOK Φ) {F : pl} (iF : inF Φ F) : ∀ (n : Nat) (Y : pl), inF Φ Y → inF Φ (iyL Φ F n Y)
  | 0, _, hY => hY
  | n + 1, Y, hY => iyL_in h iF n _ (iyS_in h hY (iF n))
theorem iyS_dle {Y : pl} {v n : Nat} (hY : dle Y n) : dle (iyS Φ Y v) (n + 1) := fun k hk => by
  unfold iyS
  rw [if_neg (by omega), hY (k - 1) (by omega), hY k (by omega), fm_0l]; rfl
theorem iyL_dle {F : pl} : ∀ (n k : Nat) (Y : pl), dle Y k → dle (iyL Φ F n Y) (k + n)
  | 0, _, _, hY => hY
  | n + 1, k, Y, hY => by
    have := iyL_dle (F := F) n (k + 1) _ (iyS_dle (Φ := Φ) (v := F n) hY)
    rw [show k + 1 + n = k + (n + 1) from by omega] at this
    exact this
theorem iY_dle (F : pl) : dle (iY Φ F) (sz F) := by
  have := iyL_dle (Φ := Φ) (F := F) (sz F) 0 p0 (p0_dle 0)
  rw [Nat.zero_add] at this
  exact this
theorem iY_in (h : FOK Φ) {F : pl} (iF : inF Φ F) : inF Φ (iY Φ F) := iyL_in h iF _ _ (p0_in Φ)
theorem pLd_s {D : jD} {c s j : Nat} {r : Nat → Int} {v : Int} (hj : j + 1 ≤ s) (h : v = r (j + 1)) : sD (pLd D c s (j + 1) r) c (j + 1) v = pLd D c s j r := by
  funext a b
  unfold sD pLd
  by_cases q1 : a = c ∧ b = j + 1
  · rw [if_pos q1, if_pos (by omega), q1.2, h]
  · rw [if_neg q1]
    by_cases q2 : a = c ∧ j + 1 < b ∧ b ≤ s
    · rw [if_pos q2, if_pos (by omega)]
    · rw [if_neg q2, if_neg (by omega)]
theorem sD_pD {D : jD} {c j v : Nat} {X : pl} (hj : j < 17) : sD (pD D c (rI X)) c j (v : Int) = pD D c (rI (fun b => if b = j then v else X b)) := by
  funext a b
  unfold sD pD pDn
  by_cases h1 : a = c
  · subst h1
    by_cases h2 : b = j
    · rw [if_pos ⟨rfl, h2⟩, if_pos (by omega)]; dsimp only [rI]; rw [if_pos h2]
    · rw [if_neg (by omega)]
      by_cases h3 : b < 17
      · rw [if_pos ⟨rfl, h3⟩, if_pos ⟨rfl, h3⟩]; dsimp only [rI]; rw [if_neg h2]
      · rw [if_neg (by omega), if_neg (by omega)]
  · rw [if_neg (by omega), if_neg (by omega), if_neg (by omega)]
theorem FT_342 {D' : jD} (hF : FT Φ D 76) (h : ∀ c, 76 ≤ c → c < 81 → D' c = D c) : FT Φ D' 76 := FT_congr (fun c h1 h2 => h c h1 h2) hF
theorem wiy_loop (hF : FT Φ D 76) {Y : pl} (RY : PR D 342 Y) (hY : inF Φ Y) (v : Nat) (o2 : Option Nat) (x3 : Int) : ∀ k : Nat, k ≤ 16 → Vl (d + 1) 144 34 [some (.inr (.inr (some 306))), some (.inr (.inr (some 76))), some (.inr (.inr o2)), some (.inl x3), some (.inl (k : Int))] [] (hp ω (pLd D 342 16 k (rI (iyS Φ Y v)))) = Vl (d + 1) 144 83 [some (.inr (.inr (some 306))), some (.inr (.inr (some 76))), some (.inr (.inr o2)), some (.inl x3), some (.inl 0)] [] (hp ω (pLd D 342 16 0 (rI (iyS Φ Y v))))
  | 0, _ => by rw [vN_writeInY_34, if_neg (by omega)]; rfl
  | k + 1, hk => by
    have h256 := F_256 hF.1
    have hFk : FT Φ (pLd D 342 16 (k + 1) (rI (iyS Φ Y v))) 76 := FT_342 hF (fun c h1 h2 => by funext b; exact if_neg (by omega))
    have e1 : pLd D 342 16 (k + 1) (rI (iyS Φ Y v)) 342 k = (Y k : Int) := by rw [← RY k (by omega)]; exact if_neg (by omega)
    have e2 : pLd D 342 16 (k + 1) (rI (iyS Φ Y v)) 342 (k + 1) = (Y (k + 1) : Int) := by rw [← RY (k + 1) (by omega)]; exact if_neg (by omega)
    have e3 : pLd D 342 16 (k + 1) (rI (iyS Φ Y v)) 76 3 = (Φ.2.2.2 : Int) := hFk.2.2.2.2.1
    have q1 := turn_spec (ω := ω) (d := d) tF_76 hFk (a := Φ.2.2.2) (n := k + 1) hF.1.2.2 (by omega)
    have q2 := product_spec (ω := ω) (d := d) tF_76 hFk (hY (k + 1)) (fT_lt hF.1 hF.1.2.2 (k + 1))
    have l1 := hY k
    have l2 := fm_lt (b := fT Φ (k + 1) Φ.2.2.2) hF.1 (hY (k + 1))
    rw [vN_writeInY_34, if_pos (by omega), vN_writeInY_39, aGF kN, aGF kN, rN_2, show w32 (((k + 1 : Nat) : Int) - 1) = (k : Int) by unfold w32; omega, aIA kN_2, if_pos (by omega), Int.toNat_natCast, e1, aGF kN, rN_2, aIA kN_2, if_pos (by omega), Int.toNat_natCast, e2, aGF (kF tF_76), aGF (kF tF_76), hD, e3, q1, aVC, tlS, vN_writeInY_72, aGF (kF tF_76), q2, aVC, tlS, vN_writeInY_75, aIS kN_2, if_pos (by omega), Int.toNat_natCast, jxor_n (by omega) (by omega), w32_p (by omega), pLd_s (by omega) (show ((Y k ^^^ fm Φ (Y (k + 1)) (fT Φ (k + 1) Φ.2.2.2) : Nat) : Int) = rI (iyS Φ Y v) (k + 1) from by unfold rI iyS; rw [if_neg (by omega), Nat.add_sub_cancel])]
    exact wiy_loop hF RY hY v o2 x3 k (by omega)
theorem wiy_end {D : jD} {c : Nat} {X : pl} {v : Nat} (h : v = X 0) : sD (pLd D c 16 0 (rI X)) c 0 (v : Int) = pD D c (rI X) := by
  funext a b
  unfold sD pLd pD pDn
  by_cases q1 : a = c ∧ b = 0
  · rw [if_pos q1, if_pos (by omega), q1.2, h]; rfl
  · rw [if_neg q1]
    by_cases q2 : a = c ∧ 0 < b ∧ b ≤ 16
    · rw [if_pos q2, if_pos (by omega)]
    · rw [if_neg q2, if_neg (by omega)]
theorem wiy_rows {f : Nat} (hf : isP f) (f1 : f + 1 ≠ 342) {F : pl} (oF : pOK Φ F) : ∀ (n : Nat) (Y : pl) (D : jD) (u4 : Option jv), n ≤ 17 → FT Φ D 76 → PR D (f + 1) F → PR D 342 Y → inF Φ Y →
    ∃ D', Vl (d + 1) 144 26 [some (.inr (.inr (some 306))), some (.inr (.inr (some 76))), some (.inr (.inr (some f))), some (.inl ((n : Int) - 1)), u4] [] (hp ω D) = some ((0, none), hp ω D') ∧ PR D' 342 (iyL Φ F n Y) ∧ ∀ q, q ≠ 342 → D' q = D q
  | 0, Y, D, u4, _, hF, RF, RY, hY => ⟨D, by rw [vN_writeInY_26, if_pos (by omega), vN_writeInY_115], RY, fun _ _ => rfl⟩
  | n + 1, Y, D, u4, hn, hF, RF, RY, hY => by
    have h256 := F_256 hF.1
    have q0 := wiy_loop (ω := ω) (d := d) hF RY hY (F n) (some f) (n : Int) 16 (Nat.le_refl _)
    rw [show pLd D 342 16 16 (rI (iyS Φ Y (F n))) = D from by funext a b; exact if_neg (by omega), show ((16 : Nat) : Int) = 16 from rfl] at q0
    have hFk : FT Φ (pLd D 342 16 0 (rI (iyS Φ Y (F n)))) 76 := FT_342 hF (fun c h1 h2 => by funext b; exact if_neg (by omega))
    have e1 : pLd D 342 16 0 (rI (iyS Φ Y (F n))) 342 0 = (Y 0 : Int) := by rw [← RY 0 (by omega)]; exact if_neg (by omega)
    have e3 : pLd D 342 16 0 (rI (iyS Φ Y (F n))) 76 3 = (Φ.2.2.2 : Int) := hFk.2.2.2.2.1
    have RFk : PR (pLd D 342 16 0 (rI (iyS Φ Y (F n)))) (f + 1) F := PR_ne (by funext b; exact if_neg (fun q => f1 q.1)) RF
    have q1 := product_spec (ω := ω) (d := d) tF_76 hFk (hY 0) hF.1.2.2
    have q2 := getF (ω := ω) (d := d) hf RFk oF.2 (j := n) (by omega)
    have l1 := oF.1 n
    have l2 := fm_lt (b := Φ.2.2.2) hF.1 (hY 0)
    obtain ⟨D2, q3, r3, f3⟩ := wiy_rows hf f1 oF n (iyS Φ Y (F n)) (pD D 342 (rI (iyS Φ Y (F n)))) (some (.inl 0)) (by omega) (FT_342 hF (fun c h1 h2 => pD_ne (by omega))) (PR_ne (pD_ne f1) RF) pD_PR (iyS_in hF.1 hY l1)
    refine ⟨D2, ?_, r3, fun q hq => by rw [f3 q hq, pD_ne hq]⟩
    rw [vN_writeInY_26, if_neg (by omega), show ((n + 1 : Nat) : Int) - 1 = (n : Int) from by omega, vN_writeInY_30, q0, vN_writeInY_83, aGF kN, aGF kN, rN_2, aIA kN_2, if_pos (by omega), show (0 : Int).toNat = 0 from rfl, e1, aGF (kF tF_76), aGF (kF tF_76), hD, e3, q1, aVC, tlS, vN_writeInY_102, aGF (kP hf), q2, aVC, tlS, vN_writeInY_107, aIS kN_2, if_pos (by omega), show (0 : Int).toNat = 0 from rfl, jxor_n (by omega) (by omega), wiy_end (show fm Φ (Y 0) Φ.2.2.2 ^^^ F n = iyS Φ Y (F n) 0 from rfl), show w32 ((n : Int) + (-1)) = (n : Int) - 1 from by unfold w32; omega, q3]
theorem writeInY_spec (hF : FT Φ D 76) {f : Nat} (hf : isP f) (f1 : f + 1 ≠ 342) {F : pl} (RF : PR D (f + 1) F) (oF : pOK Φ F) : ∃ D', Vl (d + 1) 144 0 [some (.inr (.inr (some 306))), some (.inr (.inr (some 76))), some (.inr (.inr (some f))), none, none] [] (hp ω D) = some ((0, none), hp ω D') ∧ PR D' 342 (iY Φ F) ∧ ∀ q, q ≠ 342 → D' q = D q := by
  have c0 := chain (fun j => Vl (d + 1) 144 2 [some (.inr (.inr (some 306))), some (.inr (.inr (some 76))), some (.inr (.inr (some f))), some (.inl (j : Int)), none] [] (hp ω (pDn D 342 j (rI p0)))) 17 (fun j hj => by

    rw [vN_writeInY_2, if_pos (by omega), vN_writeInY_8, aGF kN, rN_2, aIS kN_2, if_pos (by omega), Int.toNat_natCast, w32_s (by omega), pDn_s (show (0 : Int) = rI p0 j from rfl)])

  rw [pDn_0] at c0
  obtain ⟨D2, q3, r3, f3⟩ := wiy_rows (d := d) (ω := ω) hf f1 oF (sz F) p0 (pD D 342 (rI p0)) none (sz_le F) (FT_342 hF (fun c h1 h2 => pD_ne (by omega))) (PR_ne (pD_ne f1) RF) pD_PR (p0_in Φ)
  refine ⟨D2, ?_, r3, fun q hq => by rw [f3 q hq, pD_ne hq]⟩
  have q1 := topF (ω := ω) (d := d) hf (PR_ne (D' := pD D 342 (rI p0)) (pD_ne f1) RF)
  rw [vN_writeInY_0, show (0 : Int) = ((0 : Nat) : Int) from rfl, c0, vN_writeInY_2, if_neg (by omega), vN_writeInY_21, aGF (kP hf)]
  show vC (Vl d 59 0 _ [] (hp ω (pD D 342 (rI p0)))) _ = _
  rw [q1, aVC, tlS, vN_writeInY_25]
  exact q3
theorem ncK_no {Y : pl} {r row col k : Nat} (hr : 1 ≤ r ∧ r ≤ 4) (h : k + row < col ∨ (k + row - col) % r ≠ 0) : ncK Φ Y r row col (k + 1) = ncK Φ Y r row col k := by
  funext q
  unfold ncK
  have hr2 : r = 1 ∨ r = 2 ∨ r = 3 ∨ r = 4 := by omega
  by_cases h1 : row ≤ q * r + col ∧ q * r + col < k + row
  · rw [if_pos h1, if_pos ⟨h1.1, by omega⟩]
  · rw [if_neg h1, if_neg (fun z => ?_)]
    have h2 : q * r + col = k + row := by omega
    rcases hr2 with rfl | rfl | rfl | rfl <;> omega
theorem ncK_yes {Y : pl} {r row col k : Nat} (hr : 1 ≤ r ∧ r ≤ 4) (h : col ≤ k + row ∧ (k + row - col) % r = 0) : (fun c => if c = (k + row - col) / r then fT Φ row (Y k) else ncK Φ Y r row col k c) = ncK Φ Y r row col (k + 1) := by
  funext q
  unfold ncK
  have hr2 : r = 1 ∨ r = 2 ∨ r = 3 ∨ r = 4 := by omega
  by_cases h0 : q = (k + row - col) / r
  · have h2 : q * r + col = k + row := by
      rcases hr2 with rfl | rfl | rfl | rfl <;> omega
    rw [if_pos h0, if_pos ⟨by omega, by omega⟩, show q * r + col - row = k from by omega]
  · rw [if_neg h0]
    have h2 : q * r + col ≠ k + row := by
      rcases hr2 with rfl | rfl | rfl | rfl <;> omega
    by_cases h1 : row ≤ q * r + col ∧ q * r + col < k + row
    · rw [if_pos h1, if_pos ⟨h1.1, by omega⟩]
    · rw [if_neg h1, if_neg (by omega)]
theorem putCell_loop {r : Nat} (hr : 1 ≤ r ∧ r ≤ 4) (er : rd Φ = r) {Y : pl} (hY : inF Φ Y) {row col n : Nat} (hrow : row ≤ 3) (hcol : col ≤ 3) (hn : n ≤ 7) : ∀ (m k : Nat) (D : jD) (u6 : Option jv), k + m = n → FT Φ D 76 → PR D 342 Y → PR D 341 (ncK Φ Y r row col k) →
    ∃ D', Vl (d + 1) 145 10 [some (.inr (.inr (some 306))), some (.inr (.inr (some 76))), some (.inl (row : Int)), some (.inl (col : Int)), some (.inl ((n : Int) - 1)), some (.inl (k : Int)), u6] [] (hp ω D) = some ((0, none), hp ω D') ∧ PR D' 341 (ncK Φ Y r row col n) ∧ ∀ q, q ≠ 341 → D' q = D q
  | 0, k, D, u6, hk, hF, RY, RC => by
    obtain rfl : k = n := by omega
    exact ⟨D, by rw [vN_putCell_10, if_pos (by omega), vN_putCell_86], RC, fun _ _ => rfl⟩
  | m + 1, k, D, u6, hk, hF, RY, RC => by
    have h256 := F_256 hF.1
    have hm8 := F_m8 hF.1
    have e5 : D 76 5 = (r : Int) := by rw [← er]; exact hF.2.2.2.2.2.2.1
    by_cases hc : col ≤ k + row
    rotate_left
    · obtain ⟨D2, q3, r3, f3⟩ := putCell_loop hr er hY hrow hcol hn m (k + 1) D (some (.inl (w32 ((w32 ((k : Int) + (row : Int))) - (col : Int))))) (by omega) hF RY (by rw [ncK_no hr (Or.inl (by omega))]; exact RC)
      refine ⟨D2, ?_, r3, f3⟩
      rw [vN_putCell_10, if_neg (by omega), vN_putCell_17, if_pos (by omega), vN_putCell_24, aGF (kF tF_76), hD, e5, if_pos (by omega), w32_ad (by omega), vN_putCell_39, show w32 (((k + row : Nat) : Int) - (col : Int)) = ((k + row : Nat) : Int) - (col : Int) from by unfold w32; omega, if_pos (by omega), vN_putCell_80, w32_s (by omega)]
      rw [w32_ad (by omega), show w32 (((k + row : Nat) : Int) - (col : Int)) = ((k + row : Nat) : Int) - (col : Int) from by unfold w32; omega] at q3
      exact q3
    have ep : w32 (((k + row : Nat) : Int) - (col : Int)) = ((k + row - col : Nat) : Int) := by unfold w32; omega
    have em : ((k + row - col : Nat) : Int).tmod (r : Int) = (((k + row - col) % r : Nat) : Int) := by
      rw [Int.tmod_eq_emod_of_nonneg (by omega)]; omega
    have ed : ((k + row - col : Nat) : Int).tdiv (r : Int) = (((k + row - col) / r : Nat) : Int) := by
      rw [Int.tdiv_eq_ediv_of_nonneg (by omega)]; omega
    have hdv : (k + row - col) / r ≤ k + row - col := Nat.div_le_self _ _
    by_cases hz : (k + row - col) % r = 0
    rotate_left
    · obtain ⟨D2, q3, r3, f3⟩ := putCell_loop hr er hY hrow hcol hn m (k + 1) D (some (.inl ((k + row - col : Nat) : Int))) (by omega) hF RY (by rw [ncK_no hr (Or.inr hz)]; exact RC)
      refine ⟨D2, ?_, r3, f3⟩
      rw [vN_putCell_10, if_neg (by omega), vN_putCell_17, if_pos (by omega), vN_putCell_24, aGF (kF tF_76), hD, e5, if_pos (by omega), w32_ad (by omega), ep, vN_putCell_39, if_neg (by omega), vN_putCell_44, aGF (kF tF_76), hD, e5, if_neg (by omega), em, if_neg (by omega), vN_putCell_80, w32_s (by omega)]
      exact q3
    have l1 := hY k
    have q1 := turn_spec (ω := ω) (d := d) tF_76 hF (a := Y k) (n := row) l1 (by omega)
    have q2 := putF (ω := ω) (d := d) (v := fT Φ row (Y k)) pN_1 RC (j := (k + row - col) / r) (by omega)
    obtain ⟨D2, q3, r3, f3⟩ := putCell_loop hr er hY hrow hcol hn m (k + 1) (pD D 341 (rI (fun c => if c = (k + row - col) / r then fT Φ row (Y k) else ncK Φ Y r row col k c))) (some (.inl ((k + row - col : Nat) : Int))) (by omega) (FT_342 hF (fun c h1 h2 => pD_ne (by omega))) (PR_ne (pD_ne (by decide)) RY) (by rw [ncK_yes hr ⟨hc, hz⟩]; exact pD_PR)
    refine ⟨D2, ?_, r3, fun q hq => by rw [f3 q hq, pD_ne hq]⟩
    rw [vN_putCell_10, if_neg (by omega), vN_putCell_17, if_pos (by omega), vN_putCell_24, aGF (kF tF_76), hD, e5, if_pos (by omega), w32_ad (by omega), ep, vN_putCell_39, if_neg (by omega), vN_putCell_44, aGF (kF tF_76), hD, e5, if_neg (by omega), em, if_pos (by omega), vN_putCell_54, aGF kN, aGF (kF tF_76), hD, e5, if_neg (by omega), ed, w32_n (by omega), aGF kN, rN_2, aIA kN_2, if_pos (by omega), Int.toNat_natCast, RY k (by omega), aGF (kF tF_76), q1, aVC, tlS, rN_1, vN_putCell_77, aGF (kP pN_1), q2, aVC, tlN, vN_putCell_80, w32_s (by omega)]
    exact q3
end NORM
