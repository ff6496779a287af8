/-! NORM in the class: products of cells, minors, the whole -/
def nc (Φ : gF) (Y : pl) (r row col : Nat) : pl := fun q => if row ≤ q * r + col then fT Φ row (Y (q * r + col - row)) else 0
def nmf (G : Nat → pl) (set : Nat) : Nat → pl
  | 0 => p0
  | k + 1 => if set / 2 ^ k % 2 = 1 then pA (nmf G set k) (G k) else nmf G set k
def nmr (Φ : gF) (Y : pl) (r : Nat) : Nat → Nat → pl
  | 0, _ => mono 1 0
  | s + 1, set => nmf (fun k => pC Φ (nc Φ Y r s k) (nmr Φ Y r s (set ^^^ 2 ^ k))) set r
def nNorm (Φ : gF) (F : pl) : pl := nmr Φ (iY Φ F) (rd Φ) (rd Φ) (2 ^ rd Φ - 1)
def apX (Φ : gF) (C M S : pl) (j k : Nat) : pl := fun b => S b ^^^ (pCn Φ C M j b ^^^ (if j ≤ b ∧ b < j + k then fm Φ (C j) (M (b - j)) else 0))
def oNorm (A : aA) (i : Int) : Int × aA := if aN A i ∧ rd (aF A) ≤ 4 ∧ sz (an A i) ≤ 7 then ((sz (nNorm (aF A) (an A i)) : Int) - 1, aRes A (rset (Ar A) 0 (nNorm (aF A) (an A i)))) else (-2, A)
section NORM2
variable {d : Nat} {ω : jw} {D : jD} {Φ : gF} {A : aA}
theorem ncK_nc {Y : pl} {n : Nat} (hY : dle Y n) (r row col : Nat) : ncK Φ Y r row col n = nc Φ Y r row col := by
  funext q
  unfold ncK nc
  by_cases h1 : row ≤ q * r + col
  · by_cases h2 : q * r + col < n + row
    · rw [if_pos ⟨h1, h2⟩, if_pos h1]
    · rw [if_neg (fun z => h2 z.2), if_pos h1, hY _ (by omega), fT_z]
  · rw [if_neg (fun z => h1 z.1), if_neg h1]
theorem nc_in (h : FOK Φ) {Y : pl} (hY : inF Φ Y) (r row col : Nat) : inF Φ (nc Φ Y r row col) := fun q => by
  unfold nc
  split
  · exact fT_lt h (hY _) _
  · exact Nat.two_pow_pos _
theorem pCn_in (h : FOK Φ) {C : pl} (hC : inF Φ C) (M : pl) : ∀ n b, pCn Φ C M n b < 2 ^ Φ.1
  | 0, _ => Nat.two_pow_pos _
  | n + 1, b => by
    unfold pCn
    refine x_lt (pCn_in h hC M n b) ?_
    split
    · exact fm_lt h (hC n)
    · exact Nat.two_pow_pos _
theorem pC_in (h : FOK Φ) {C : pl} (hC : inF Φ C) (M : pl) : inF Φ (pC Φ C M) := fun b => by
  unfold pC
  split
  · exact pCn_in h hC M 17 b
  · exact Nat.two_pow_pos _
theorem pC_dle (C M : pl) : dle (pC Φ C M) 17 := fun b hb => if_neg (by omega)
theorem apX_in (h : FOK Φ) {C S : pl} (hC : inF Φ C) (hS : inF Φ S) (M : pl) (j k : Nat) : inF Φ (apX Φ C M S j k) := fun b => by
  unfold apX
  refine x_lt (hS b) (x_lt (pCn_in h hC M j b) ?_)
  split
  · exact fm_lt h (hC j)
  · exact Nat.two_pow_pos _
theorem apX_s (C M S : pl) (j k : Nat) : (fun b => if b = j + k then apX Φ C M S j k (j + k) ^^^ fm Φ (C j) (M k) else apX Φ C M S j k b) = apX Φ C M S j (k + 1) := by
  funext b
  unfold apX
  by_cases hb : b = j + k
  · rw [if_pos hb, hb, if_neg (by omega), if_pos (by omega), Nat.xor_zero, show j + k - j = k by omega, Nat.xor_assoc]
  · rw [if_neg hb]
    by_cases h1 : j ≤ b ∧ b < j + k
    · rw [if_pos h1, if_pos (by omega)]
    · rw [if_neg h1, if_neg (by omega)]
theorem apX_n (C M S : pl) {j b : Nat} (hb : b < 17) : apX Φ C M S j (17 - j) b = apX Φ C M S (j + 1) 0 b := by
  unfold apX
  rw [if_neg (show ¬ (j + 1 ≤ b ∧ b < j + 1 + 0) by omega), Nat.xor_zero]
  congr 1
  show _ = pCn Φ C M j b ^^^ (if j ≤ b then fm Φ (C j) (M (b - j)) else 0)
  congr 1
  by_cases h1 : j ≤ b
  · rw [if_pos (by omega), if_pos h1]
  · rw [if_neg (by omega), if_neg h1]
theorem addProduct_spec (hF : FT Φ D 76) {C M S : pl} {m s : Nat} (hm : isP m) (hs : isP s) (hne : m ≠ s) (hs81 : 81 ≤ s + 1) (hs341 : s + 1 ≠ 341) (RC : PR D 341 C) (hC : inF Φ C) (RM : PR D (m + 1) M) (hM : inF Φ M) (RS : PR D (s + 1) S) (hS : inF Φ S) : Vl (d + 1) 146 0 [some (.inr (.inr (some 306))), some (.inr (.inr (some 76))), some (.inr (.inr (some m))), some (.inr (.inr (some s))), none, none] [] (hp ω D) = some ((0, none), hp ω (pD D (s + 1) (rI (pA S (pC Φ C M))))) := by
  have h256 := F_256 hF.1
  have inn : ∀ j : Nat, j < 17 → ∀ u, Vl (d + 1) 146 3 [some (.inr (.inr (some 306))), some (.inr (.inr (some 76))), some (.inr (.inr (some m))), some (.inr (.inr (some s))), some (.inl (j : Int)), u] [] (hp ω (pD D (s + 1) (rI (apX Φ C M S j 0)))) = Vl (d + 1) 146 3 [some (.inr (.inr (some 306))), some (.inr (.inr (some 76))), some (.inr (.inr (some m))), some (.inr (.inr (some s))), some (.inl ((j + 1 : Nat) : Int)), some (.inl ((17 - j : Nat) : Int))] [] (hp ω (pD D (s + 1) (rI (apX Φ C M S (j + 1) 0)))) := by
    intro j hj u
    have c0 := chain (fun k => Vl (d + 1) 146 13 [some (.inr (.inr (some 306))), some (.inr (.inr (some 76))), some (.inr (.inr (some m))), some (.inr (.inr (some s))), some (.inl (j : Int)), some (.inl (k : Int))] [] (hp ω (pD D (s + 1) (rI (apX Φ C M S j k))))) (17 - j) (fun k hk => by

      have hFk : FT Φ (pD D (s + 1) (rI (apX Φ C M S j k))) 76 := FT_342 hF (fun c h1 h2 => pD_ne (by omega))
      have e1 : pD D (s + 1) (rI (apX Φ C M S j k)) (s + 1) (j + k) = (apX Φ C M S j k (j + k) : Int) := pD_PR (j + k) (by omega)
      have e2 : pD D (s + 1) (rI (apX Φ C M S j k)) 341 j = (C j : Int) := by rw [pD_ne (by omega)]; exact RC j (by omega)
      have e3 : pD D (s + 1) (rI (apX Φ C M S j k)) (m + 1) k = (M k : Int) := by rw [pD_ne (by omega)]; exact RM k (by omega)
      have q1 := product_spec (ω := ω) (d := d) tF_76 hFk (hC j) (hM k)
      have l1 := apX_in hF.1 hC hS M j k (j + k)
      have l2 := fm_lt (b := M k) hF.1 (hC j)
      rw [vN_addProduct_13, w32_ad (by omega), if_pos (by omega), vN_addProduct_23, aGF (kP hs), rP hs, w32_ad (by omega), aIA (kPa hs), if_pos (by omega), Int.toNat_natCast, e1, aGF kN, rN_1, aGF (kP pN_1), rP pN_1, aIA (kPa pN_1), if_pos (by omega), Int.toNat_natCast, e2, aGF (kP hm), rP hm, aIA (kPa hm), if_pos (by omega), Int.toNat_natCast, e3, aGF (kF tF_76), q1, aVC, tlS, vN_addProduct_55, aIS (kPa hs), if_pos (by omega), Int.toNat_natCast, jxor_n (by omega) (by omega), sD_pD (by omega), apX_s, w32_s (by omega)])

    rw [vN_addProduct_3, if_pos (by omega), vN_addProduct_10, show (0 : Int) = ((0 : Nat) : Int) from rfl, c0, vN_addProduct_13, w32_ad (by omega), if_neg (by omega), vN_addProduct_63, w32_s (by omega), pD_congr (r := rI (apX Φ C M S j (17 - j))) (r' := rI (apX Φ C M S (j + 1) 0)) (fun b hb => congrArg Int.ofNat (apX_n C M S hb))]
  have key : ∀ j : Nat, j ≤ 17 → ∃ u, Vl (d + 1) 146 3 [some (.inr (.inr (some 306))), some (.inr (.inr (some 76))), some (.inr (.inr (some m))), some (.inr (.inr (some s))), some (.inl 0), none] [] (hp ω (pD D (s + 1) (rI (apX Φ C M S 0 0)))) = Vl (d + 1) 146 3 [some (.inr (.inr (some 306))), some (.inr (.inr (some 76))), some (.inr (.inr (some m))), some (.inr (.inr (some s))), some (.inl (j : Int)), u] [] (hp ω (pD D (s + 1) (rI (apX Φ C M S j 0)))) := by
    intro j
    induction j with
    | zero => exact fun _ => ⟨none, rfl⟩
    | succ j ih =>
      intro hj
      obtain ⟨u, hu⟩ := ih (by omega)
      exact ⟨_, hu.trans (inn j (by omega) u)⟩
  obtain ⟨u, hu⟩ := key 17 (Nat.le_refl _)
  have e0 : pD D (s + 1) (rI (apX Φ C M S 0 0)) = D := pD_self (fun b hb => by
    rw [RS b hb]
    show (S b : Int) = ((S b ^^^ (0 ^^^ (if 0 ≤ b ∧ b < 0 + 0 then _ else 0)) : Nat) : Int)
    rw [if_neg (by omega), Nat.xor_zero, Nat.xor_zero])
  rw [e0] at hu
  rw [vN_addProduct_0, hu, vN_addProduct_3, if_neg (by omega), vN_addProduct_69]
  congr 3
  refine pD_congr (fun b hb => ?_)
  show ((S b ^^^ (pCn Φ C M 17 b ^^^ (if 17 ≤ b ∧ b < 17 + 0 then _ else 0)) : Nat) : Int) = ((S b ^^^ (if b < 17 then pCn Φ C M 17 b else 0) : Nat) : Int)
  rw [if_neg (by omega), if_pos hb, Nat.xor_zero]
theorem putCell_spec {r : Nat} (hr : 1 ≤ r ∧ r ≤ 4) (er : rd Φ = r) {Y : pl} (hY : inF Φ Y) {row col n : Nat} (hrow : row ≤ 3) (hcol : col ≤ 3) (hn : n ≤ 7) (hYd : dle Y n) (hF : FT Φ D 76) (RY : PR D 342 Y) : ∃ D', Vl (d + 1) 145 0 [some (.inr (.inr (some 306))), some (.inr (.inr (some 76))), some (.inl (row : Int)), some (.inl (col : Int)), some (.inl ((n : Int) - 1)), none, none] [] (hp ω D) = some ((0, none), hp ω D') ∧ PR D' 341 (nc Φ Y r row col) ∧ ∀ q, q ≠ 341 → D' q = D q := by
  obtain ⟨D2, q3, r3, f3⟩ := putCell_loop (d := d) (ω := ω) hr er hY hrow hcol hn n 0 (pD D 341 (rI p0)) none (Nat.zero_add _) (FT_342 hF (fun c h1 h2 => pD_ne (by omega))) (PR_ne (pD_ne (by decide)) RY) (by rw [show ncK Φ Y r row col 0 = p0 from by funext q; exact if_neg (by omega)]; exact pD_PR)
  rw [ncK_nc hYd] at r3
  refine ⟨D2, ?_, r3, fun q hq => by rw [f3 q hq, pD_ne hq]⟩
  rw [vN_putCell_0, aGF kN, rN_1, aGF (kP pN_1), clearF pN_1, aVC, tlN, vN_putCell_7]
  exact q3
theorem aMn {α : Type} {i : Nat} (hi : i < 16) (k : Option Nat → Option α) : vAA (hp ω D) (some 307) (i : Int) k = k (some (308 + 2 * i)) := by rw [aAA kN_0, if_pos (by omega), Int.toNat_natCast, rMin hi]
theorem nmf_in {G : Nat → pl} (hG : ∀ k, inF Φ (G k)) (set : Nat) : ∀ k, inF Φ (nmf G set k)
  | 0 => p0_in Φ
  | k + 1 => by
    unfold nmf
    split
    · exact fun b => x_lt (nmf_in hG set k b) (hG k b)
    · exact nmf_in hG set k
theorem nmf_dle {G : Nat → pl} (hG : ∀ k, dle (G k) 17) (set : Nat) : ∀ k, dle (nmf G set k) 17
  | 0 => p0_dle 17
  | k + 1 => by
    unfold nmf
    split
    · exact fun b hb => by show _ ^^^ _ = 0; rw [nmf_dle hG set k b hb, hG k b hb]; rfl
    · exact nmf_dle hG set k
theorem nmr_in (h : FOK Φ) {Y : pl} (hY : inF Φ Y) (r : Nat) : ∀ s set, inF Φ (nmr Φ Y r s set)
  | 0, _ => fun b => by
    show (if b = 0 then 1 else 0) < _
    have : 2 ^ 1 ≤ 2 ^ Φ.1 := Nat.pow_le_pow_right (by decide) (F_m1 h)
    split <;> omega
  | s + 1, set => by unfold nmr; exact nmf_in (fun k => pC_in h (nc_in h hY r s k) _) set r
theorem nmr_dle (Y : pl) (r : Nat) : ∀ s set, dle (nmr Φ Y r s set) 17
  | 0, _ => fun b hb => if_neg (by omega)
  | s + 1, set => by unfold nmr; exact nmf_dle (fun k => pC_dle _ _) set r
theorem bit_fact : ∀ set, set < 16 → ∀ k, k < 4 → set / 2 ^ k % 2 = 1 → set ^^^ 2 ^ k < set ∧ pcn 4 (set ^^^ 2 ^ k) + 1 = pcn 4 set := by decide +kernel
theorem pcn_top : ∀ r, r < 5 → pcn 4 (2 ^ r - 1) = r := by decide +kernel
theorem pcn_le : ∀ s, s < 16 → pcn 4 s ≤ 4 := by decide +kernel
theorem nm_cols {r : Nat} (hr : 1 ≤ r ∧ r ≤ 4) (er : rd Φ = r) {Y : pl} (hY : inF Φ Y) {n : Nat} (hn : n ≤ 7) (hYd : dle Y n) {set : Nat} (hset : set < 16) {s : Nat} (es : pcn 4 set = s + 1) (o2 o3 : Option Nat) : ∀ (m k : Nat) (D : jD), k + m = r → FT Φ D 76 → PR D 342 Y → (∀ i, i < set → PR D (308 + 2 * i + 1) (nmr Φ Y r (pcn 4 i) i)) → PR D (308 + 2 * set + 1) (nmf (fun k => pC Φ (nc Φ Y r s k) (nmr Φ Y r s (set ^^^ 2 ^ k))) set k) →
    ∃ D', Vl (d + 2) 143 57 [some (.inr (.inr (some 306))), some (.inr (.inr (some 76))), some (.inr (.inr o2)), some (.inr (.inr o3)), some (.inl ((n : Int) - 1)), some (.inl (r : Int)), some (.inl (set : Int)), some (.inl (k : Int))] [] (hp ω D) = Vl (d + 2) 143 121 [some (.inr (.inr (some 306))), some (.inr (.inr (some 76))), some (.inr (.inr o2)), some (.inr (.inr o3)), some (.inl ((n : Int) - 1)), some (.inl (r : Int)), some (.inl (set : Int)), some (.inl (r : Int))] [] (hp ω D') ∧ PR D' (308 + 2 * set + 1) (nmr Φ Y r (pcn 4 set) set) ∧ ∀ q, q ≠ 341 → q ≠ 308 + 2 * set + 1 → D' q = D q
  | 0, k, D, hk, hF, RY, RM, RS => by
    obtain rfl : k = r := by omega
    refine ⟨D, by rw [vN_take_57, if_neg (by omega)], ?_, fun _ _ _ => rfl⟩
    rw [es]; exact RS
  | m + 1, k, D, hk, hF, RY, RM, RS => by
    by_cases hb : set / 2 ^ k % 2 = 1
    rotate_left
    · obtain ⟨D2, q3, r3, f3⟩ := nm_cols hr er hY hn hYd hset es o2 o3 m (k + 1) D (by omega) hF RY RM (by unfold nmf; rw [if_neg hb]; exact RS)
      refine ⟨D2, ?_, r3, f3⟩
      rw [vN_take_57, if_pos (by omega), vN_take_64, jush_n (by omega) (by omega), jand_1 (by have := Nat.div_le_self set (2 ^ k); omega), if_neg (by omega), vN_take_115, w32_s (by omega)]
      exact q3
    obtain ⟨b1, b2⟩ := bit_fact set hset k (by omega) hb
    have b3 := pcn_le set hset
    have eN : ∀ G : Nat → pl, nmf G set (k + 1) = pA (nmf G set k) (G k) := fun G => if_pos hb
    have es2 : pcn 4 (set ^^^ 2 ^ k) = s := by omega
    have hk4 : 2 ^ k ≤ 2 ^ 4 := Nat.pow_le_pow_right (by decide) (by omega)
    have q1 := bitCount_spec (d := d + 1) hset (h := hp ω D)
    obtain ⟨D1, p1, r1, f1⟩ := putCell_spec (d := d) (ω := ω) hr er hY (row := s) (col := k) (by omega) (by omega) hn hYd hF RY
    have hF1 : FT Φ D1 76 := FT_342 hF (fun c h1 h2 => f1 c (by omega))
    have RM1 : PR D1 (308 + 2 * (set ^^^ 2 ^ k) + 1) (nmr Φ Y r s (set ^^^ 2 ^ k)) := by
      rw [← es2]; exact PR_ne (f1 _ (by omega)) (RM _ b1)
    have RS1 := PR_ne (f1 (308 + 2 * set + 1) (by omega)) RS
    have q2 := addProduct_spec (d := d) (ω := ω) hF1 (prMin (i := set ^^^ 2 ^ k) (by omega)) (prMin hset) (by omega) (by omega) (by omega) r1 (nc_in hF.1 hY r s k) RM1 (nmr_in hF.1 hY r _ _) RS1 (nmf_in (fun k => pC_in hF.1 (nc_in hF.1 hY r s k) _) set k)
    obtain ⟨D2, q3, r3, f3⟩ := nm_cols hr er hY hn hYd hset es o2 o3 m (k + 1) (pD D1 (308 + 2 * set + 1) (rI (pA (nmf (fun k => pC Φ (nc Φ Y r s k) (nmr Φ Y r s (set ^^^ 2 ^ k))) set k) (pC Φ (nc Φ Y r s k) (nmr Φ Y r s (set ^^^ 2 ^ k)))))) (by omega) (FT_342 hF1 (fun c h1 h2 => pD_ne (by omega))) (PR_ne (by rw [pD_ne (by omega), f1 _ (by omega)]) RY) (fun i hi => PR_ne (by rw [pD_ne (by omega), f1 _ (by omega)]) (RM i hi)) (by rw [eN]; exact pD_PR)
    refine ⟨D2, ?_, r3, fun q h1 h2 => by rw [f3 q h1 h2, pD_ne h2, f1 q h1]⟩
    rw [vN_take_57, if_pos (by omega), vN_take_64, jush_n (by omega) (by omega), jand_1 (by have := Nat.div_le_self set (2 ^ k); omega), if_pos (by omega), vN_take_75, q1, aVC, tlS, vN_take_82, aGF kN, es, show w32 (((s + 1 : Nat) : Int) - 1) = (s : Int) from by unfold w32; omega, p1, aVC, tlN, vN_take_91, aGF kN, rN_0, show (1 : Int) = ((1 : Nat) : Int) from rfl, jshl_n (by omega) (by omega), Nat.one_mul, jxor_n (by omega) (by omega), aMn (by omega), aGF kN, rN_0, aMn hset, aGF kN, q2, aVC, tlN, vN_take_115, w32_s (by omega)]
    exact q3
theorem pcn_pos : ∀ s, s < 16 → 1 ≤ s → 1 ≤ pcn 4 s := by decide +kernel
theorem nm_sets {r : Nat} (hr : 1 ≤ r ∧ r ≤ 4) (er : rd Φ = r) {Y : pl} (hY : inF Φ Y) {n : Nat} (hn : n ≤ 7) (hYd : dle Y n) (o2 o3 : Option Nat) : ∀ (m set : Nat) (D : jD) (u : Option jv), set + m = 2 ^ r → 1 ≤ set → FT Φ D 76 → PR D 342 Y → (∀ i, i < set → PR D (308 + 2 * i + 1) (nmr Φ Y r (pcn 4 i) i)) →
    ∃ u' D', Vl (d + 2) 143 35 [some (.inr (.inr (some 306))), some (.inr (.inr (some 76))), some (.inr (.inr o2)), some (.inr (.inr o3)), some (.inl ((n : Int) - 1)), some (.inl (r : Int)), some (.inl (set : Int)), u] [] (hp ω D) = Vl (d + 2) 143 127 [some (.inr (.inr (some 306))), some (.inr (.inr (some 76))), some (.inr (.inr o2)), some (.inr (.inr o3)), some (.inl ((n : Int) - 1)), some (.inl (r : Int)), some (.inl ((2 ^ r : Nat) : Int)), u'] [] (hp ω D') ∧ (∀ i, i < 2 ^ r → PR D' (308 + 2 * i + 1) (nmr Φ Y r (pcn 4 i) i)) ∧ ∀ q, (q < 309 ∨ 341 < q) → D' q = D q
  | 0, set, D, u, hk, h1, hF, RY, RM => by
    obtain rfl : set = 2 ^ r := by omega
    have hr4 : 2 ^ r ≤ 2 ^ 4 := Nat.pow_le_pow_right (by decide) hr.2
    refine ⟨u, D, ?_, RM, fun _ _ => rfl⟩
    rw [vN_take_35, show (1 : Int) = ((1 : Nat) : Int) from rfl, jshl_n (by omega) (by omega), Nat.one_mul, if_neg (by omega)]
  | m + 1, set, D, u, hk, h1, hF, RY, RM => by
    have hr4 : 2 ^ r ≤ 2 ^ 4 := Nat.pow_le_pow_right (by decide) hr.2
    have hset : set < 16 := by omega
    obtain ⟨s, es⟩ : ∃ s, pcn 4 set = s + 1 := ⟨pcn 4 set - 1, by have := pcn_pos set hset h1; omega⟩
    obtain ⟨D1, q1, r1, f1⟩ := nm_cols (d := d) (ω := ω) hr er hY hn hYd hset es o2 o3 r 0 (pD D (308 + 2 * set + 1) (rI p0)) (Nat.zero_add _) (FT_342 hF (fun c h1 h2 => pD_ne (by omega))) (PR_ne (pD_ne (by omega)) RY) (fun i hi => PR_ne (pD_ne (by omega)) (RM i hi)) pD_PR
    have g1 : ∀ q, q ≠ 341 → q ≠ 308 + 2 * set + 1 → D1 q = D q := fun q a b => by rw [f1 q a b, pD_ne b]
    obtain ⟨u', D2, q2, r2, f2⟩ := nm_sets hr er hY hn hYd o2 o3 m (set + 1) D1 (some (.inl (r : Int))) (by omega) (by omega) (FT_342 hF (fun c h1 h2 => g1 c (by omega) (by omega))) (PR_ne (g1 _ (by omega) (by omega)) RY) (fun i hi => by
      by_cases e : i = set
      · rw [e]; exact r1
      · exact PR_ne (g1 _ (by omega) (by omega)) (RM i (by omega)))
    refine ⟨u', D2, ?_, r2, fun q hq => by rw [f2 q hq, g1 q (by omega) (by omega)]⟩
    rw [vN_take_35, show jshl 1 (r : Int) = ((2 ^ r : Nat) : Int) from by rw [show (1 : Int) = ((1 : Nat) : Int) from rfl, jshl_n (by omega) (by omega), Nat.one_mul], if_pos (by omega), vN_take_44, aGF kN, rN_0, aMn hset, aGF (kP (prMin hset)), clearF (prMin hset), aVC, tlN, vN_take_54, show (0 : Int) = ((0 : Nat) : Int) from rfl, q1, vN_take_121, w32_s (by omega)]
    exact q2
theorem normTake_spec (hF : FT Φ D 76) (hr4 : rd Φ ≤ 4) {f o : Nat} (hf : isP f) (f1 : f + 1 ≠ 342) {F : pl} (RF : PR D (f + 1) F) (oF : pOK Φ F) (h7 : sz F ≤ 7) (ho : isP o) : ∃ D', Vl (d + 2) 143 0 [some (.inr (.inr (some 306))), some (.inr (.inr (some 76))), some (.inr (.inr (some f))), some (.inr (.inr (some o))), none, none, none, none] [] (hp ω D) = some ((0, none), hp ω D') ∧ PR D' (o + 1) (nNorm Φ F) ∧ ∀ q, q ≠ o + 1 → (q < 309 ∨ 342 < q) → D' q = D q := by
  have hr := rd_b hF.1
  obtain ⟨D1, q1, R1, g1⟩ := writeInY_spec (d := d) (ω := ω) hF hf f1 RF oF
  have q2 : Vl (d + 1) 59 0 [some (.inr (.inr (some f))), none] [] (hp ω D1) = _ := topF hf (PR_ne (g1 _ f1) RF)
  have q3 : Vl (d + 1) 72 0 [some (.inr (.inr (some (308 + 2 * 0)))), some (.inl 1)] [] (hp ω D1) = _ := constant_spec (prMin (by decide))
  have hF1 : FT Φ D1 76 := FT_342 hF (fun c h1 h2 => g1 c (by omega))
  have e5 : D1 76 5 = (rd Φ : Int) := hF1.2.2.2.2.2.2.1
  obtain ⟨u, D2, q4, R4, g4⟩ := nm_sets (d := d) (ω := ω) ⟨hr.1, hr4⟩ rfl (iY_in hF.1 oF.1) h7 (iY_dle F) (some f) (some o) (2 ^ rd Φ - 1) 1 (pD D1 (308 + 2 * 0 + 1) (fun b => if b = 0 then 1 else 0)) none (by have := Nat.two_pow_pos (rd Φ); omega) (Nat.le_refl _) (FT_342 hF1 (fun c h1 h2 => pD_ne (by omega))) (PR_ne (pD_ne (by decide)) R1) (fun i hi => by
    obtain rfl : i = 0 := by omega
    show PR _ (308 + 2 * 0 + 1) (mono 1 0)
    intro b hb
    rw [show pD D1 (308 + 2 * 0 + 1) (fun b => if b = 0 then (1 : Int) else 0) (308 + 2 * 0 + 1) b = _ from pDn_lt hb]
    show (if b = 0 then (1 : Int) else 0) = ((if b = 0 then 1 else 0 : Nat) : Int)
    split <;> rfl)
  rw [show ((1 : Nat) : Int) = 1 from rfl] at q4
  have hr16 : 2 ^ rd Φ ≤ 2 ^ 4 := Nat.pow_le_pow_right (by decide) hr4
  have hr0 := Nat.two_pow_pos (rd Φ)
  have RL := R4 (2 ^ rd Φ - 1) (by omega)
  rw [pcn_top _ (by omega)] at RL
  have q5 := copyF (d := d + 1) (ω := ω) ho (prMin (i := 2 ^ rd Φ - 1) (by omega)) RL
  refine ⟨pD D2 (o + 1) (rI (nNorm Φ F)), ?_, pD_PR, fun q h1 h2 => by rw [pD_ne h1, g4 q (by omega), pD_ne (by omega), g1 q (by omega)]⟩
  rw [vN_take_0, aGF kN, q1, aVC, tlN, vN_take_6, aGF (kP hf), q2, aVC, tlS, vN_take_10, aGF (kF tF_76), aGF kN, rN_0, show (0 : Int) = ((0 : Nat) : Int) from rfl, aMn (by decide), aGF (kP (prMin (by decide))), q3, aVC, tlN, hD, e5, if_neg (by omega), vN_take_32, q4, vN_take_127, aGF kN, rN_0, show w32 (jshl 1 (rd Φ : Int) - 1) = ((2 ^ rd Φ - 1 : Nat) : Int) from by rw [show jshl 1 (rd Φ : Int) = ((2 ^ rd Φ : Nat) : Int) from by rw [show (1 : Int) = ((1 : Nat) : Int) from rfl, jshl_n (by omega) (by omega), Nat.one_mul]]; unfold w32; omega, aMn (by omega), aGF (kP ho), q5, aVC, tlN, vN_take_142]
  rfl
theorem norm_op (h : CS D A) (i : Int) : ∃ D', Vl (d + 3) 142 0 [some (.inr (.inr (some 0))), some (.inl i), none] [] (hp ω D) = some ((0, some (.inl (oNorm A i).1)), hp ω D') ∧ CS D' (oNorm A i).2 ∧ ∀ q, 488 ≤ q → D' q = D q := by
  have hF : FT (aF A) D 76 := h.2.2.2.1
  have e5 : D 76 5 = (rd (aF A) : Int) := hF.2.2.2.2.2.2.1
  unfold oNorm
  simp only [vC_norm_0, aGF kC, rC_0, rC_1, rC_2, rC_3, rC_4, rC_5, rC_6, rC_7, rC_8, rC_9, rC_10, rC_11, rC_12, aGF kA, rA_0, aGF (kT tT_3), aGF (kK tK_75), aGF (kF tF_76), q75_0, q75_1, q75_2, q75_3, q75_4, q75_6, q75_7, q75_8, q75_9, q75_10, q75_11, q75_12, q75_13, q75_14, q75_15, q75_16, aGF (kP i67), aGF (kP i69), aGF (kP i71), aGF (kP i73), aGF (kP i363), aGF (kP i81), aGF (kP i83), aGF (kP i85), aGF (kP i87), aGF (kP i89), aGF (kP i91), aGF (kP i93), aGF (kP i95), aGF (kP i97), aGF (kP i99), aGF (kP i101), aGF (kP i103), aGF (kP i105), aGF (kP i107), aGF (kP i109), named3 h, aVC, tlS, tlN, aLt, hwD]
  rw [vC_norm_8]
  by_cases h1 : aN A i
  rotate_left
  · rw [if_neg h1, if_neg (fun q => h1 q.1)]
    refine ⟨D, ?_, h, fun _ _ => rfl⟩
    show Vl (d + 3) 142 36 _ [] _ = _
    rw [vC_norm_36]
  rw [if_pos h1]
  show ∃ D', Vl (d + 3) 142 13 _ [] _ = _ ∧ _
  obtain ⟨p1, p2, p3, hi⟩ := CS_nm h h1
  simp only [vC_norm_13, aGF kC, rC_0, rC_1, rC_2, rC_3, rC_4, rC_5, rC_6, rC_7, rC_8, rC_9, rC_10, rC_11, rC_12, aGF kA, rA_0, aGF (kT tT_3), aGF (kK tK_75), aGF (kF tF_76), q75_0, q75_1, q75_2, q75_3, q75_4, q75_6, q75_7, q75_8, q75_9, q75_10, q75_11, q75_12, q75_13, q75_14, q75_15, q75_16, aGF (kP i67), aGF (kP i69), aGF (kP i71), aGF (kP i73), aGF (kP i363), aGF (kP i81), aGF (kP i83), aGF (kP i85), aGF (kP i87), aGF (kP i89), aGF (kP i91), aGF (kP i93), aGF (kP i95), aGF (kP i97), aGF (kP i99), aGF (kP i101), aGF (kP i103), aGF (kP i105), aGF (kP i107), aGF (kP i109)]
  rw [hD, e5]
  by_cases h2 : rd (aF A) ≤ 4
  rotate_left
  · rw [if_pos (by omega), vC_norm_36, if_neg (fun q => h2 q.2.1)]
    exact ⟨D, rfl, h, fun _ _ => rfl⟩
  rw [if_neg (by omega), vC_norm_27, aGF (kP p1), topF p1 p2, aVC, tlS, vC_norm_31]
  by_cases h3 : sz (an A i) ≤ 7
  rotate_left
  · rw [if_pos (by omega), vC_norm_36, if_neg (fun q => h3 q.2.2)]
    exact ⟨D, rfl, h, fun _ _ => rfl⟩
  rw [if_neg (by omega), if_pos ⟨h1, h2, h3⟩]
  obtain ⟨D2, q2, R2, g2⟩ := normTake_spec (d := d) (ω := ω) hF h2 p1 (by omega) p2 p3 h3 i67
  have oN : pOK (aF A) (nNorm (aF A) (an A i)) := ⟨nmr_in hF.1 (iY_in hF.1 p3.1) _ _ _, nmr_dle _ _ _ _⟩
  refine ⟨D2, ?_, CS_keep h (fun c hc => g2 c (by unfold kept at hc; omega) (by unfold kept at hc; omega)) (rset_ok (by decide) (pOK_8 hF.1 oN) R2 (fun q hq hne => ⟨(h.2.2.2.2.2.1 q hq).1, PR_ne (g2 _ (by omega) (by omega)) (h.2.2.2.2.2.1 q hq).2⟩)), fun q hq => g2 q (by omega) (by omega)⟩
  simp only [vC_norm_39, aGF kC, rC_0, rC_1, rC_2, rC_3, rC_4, rC_5, rC_6, rC_7, rC_8, rC_9, rC_10, rC_11, rC_12, aGF kA, rA_0, aGF (kT tT_3), aGF (kK tK_75), aGF (kF tF_76), q75_0, q75_1, q75_2, q75_3, q75_4, q75_6, q75_7, q75_8, q75_9, q75_10, q75_11, q75_12, q75_13, q75_14, q75_15, q75_16, aGF (kP i67), aGF (kP i69), aGF (kP i71), aGF (kP i73), aGF (kP i363), aGF (kP i81), aGF (kP i83), aGF (kP i85), aGF (kP i87), aGF (kP i89), aGF (kP i91), aGF (kP i93), aGF (kP i95), aGF (kP i97), aGF (kP i99), aGF (kP i101), aGF (kP i103), aGF (kP i105), aGF (kP i107), aGF (kP i109), aR0, aGF kN, q2, aVC, tlS, tlN, aLt, hwD]
  have q5 := topF (ω := ω) (D := D2) (d := d + 2) i67 R2
  simp only [vC_norm_60, aGF kC, rC_0, rC_1, rC_2, rC_3, rC_4, rC_5, rC_6, rC_7, rC_8, rC_9, rC_10, rC_11, rC_12, aGF kA, rA_0, aGF (kT tT_3), aGF (kK tK_75), aGF (kF tF_76), q75_0, q75_1, q75_2, q75_3, q75_4, q75_6, q75_7, q75_8, q75_9, q75_10, q75_11, q75_12, q75_13, q75_14, q75_15, q75_16, aGF (kP i67), aGF (kP i69), aGF (kP i71), aGF (kP i73), aGF (kP i363), aGF (kP i81), aGF (kP i83), aGF (kP i85), aGF (kP i87), aGF (kP i89), aGF (kP i91), aGF (kP i93), aGF (kP i95), aGF (kP i97), aGF (kP i99), aGF (kP i101), aGF (kP i103), aGF (kP i105), aGF (kP i107), aGF (kP i109), aR0, q5, aVC, tlS, tlN, aLt, hwD]
  rw [vC_norm_69]
end NORM2
