/-! THE REFERENCE'S READER: go() -/
section MGO
variable {ρ : jr2} {D D' : jD} {d : Nat} {x : Nat → Nat} {len : Nat} {h : jh}
theorem skp_ge (lim : Nat) : ∀ n b, b ≤ skp x lim n b ∧ skp x lim n b ≤ b + n
  | 0, b => ⟨Nat.le_refl _, Nat.le_refl _⟩
  | n + 1, b => by
    unfold skp
    split
    · have := skp_ge lim n (b + 1); omega
    · exact ⟨Nat.le_refl _, by omega⟩
/-- skipping to byte 500 or to the end -/
theorem skp_500 (hl : 500 ≤ len) : ∀ n b m, b + n = 500 → b + m = len → (skp x 500 n b < 500 → skp x len m b = skp x 500 n b) ∧ (500 ≤ skp x 500 n b → 500 ≤ skp x len m b)
  | 0, b, m, hb, hm => ⟨fun z => by
      have : skp x 500 0 b = b := rfl
      omega, fun _ => by have := (skp_ge (x := x) len m b).1; omega⟩
  | n + 1, b, 0, hb, hm => by omega
  | n + 1, b, m + 1, hb, hm => by
    have ih := skp_500 hl n (b + 1) m (by omega) (by omega)
    unfold skp
    by_cases q : x b = 32 ∨ x b = 10
    · rw [if_pos (show b < 500 ∧ (x b = 32 ∨ x b = 10) from ⟨by omega, q⟩), if_pos (show b < len ∧ (x b = 32 ∨ x b = 10) from ⟨by omega, q⟩)]
      exact ih
    · rw [if_neg (show ¬ (b < 500 ∧ (x b = 32 ∨ x b = 10)) from fun z => q z.2), if_neg (show ¬ (b < len ∧ (x b = 32 ∨ x b = 10)) from fun z => q z.2)]
      exact ⟨fun _ => rfl, fun z => z⟩
theorem skp_lim {b : Nat} (hb : b ≤ len) : (skp x (min 500 len) (min 500 len - b) b < min 500 len → skp x len (len - b) b = skp x (min 500 len) (min 500 len - b) b) ∧ (min 500 len ≤ skp x (min 500 len) (min 500 len - b) b → min 500 len ≤ skp x len (len - b) b) := by
  by_cases h5 : len ≤ 500
  · rw [Nat.min_eq_right h5]; exact ⟨fun _ => rfl, fun z => z⟩
  · rw [Nat.min_eq_left (by omega)]
    by_cases hb5 : b ≤ 500
    · exact skp_500 (by omega) (500 - b) b (len - b) (by omega) (by omega)
    · have e : 500 - b = 0 := by omega
      rw [e]
      have h1 := (skp_ge (x := x) len (len - b) b).1
      exact ⟨fun z => by have : skp x 500 0 b = b := rfl; omega, fun _ => by omega⟩
theorem mskip (hX : MX D x len) : ∀ n b : Nat, b + n = len → Vl (d + 1) 201 0 [some (.inr (.inr (some 488))), none, none, none, none] [] (hp (1, ρ) (sD D 488 32 (b : Int))) = Vl (d + 1) 201 52 [some (.inr (.inr (some 488))), none, none, none, none] [] (hp (1, ρ) (sD D 488 32 (skp x len n b : Int)))
  | 0, b, hb => by
    have e31 : sD D 488 32 (b : Int) 488 31 = (len : Int) := by rw [sD_nb (by decide)]; exact hX.1
    rw [vM_go_0, mGF m488, mGF m488, hD, sD_eq, hD, e31, if_neg (by omega)]
    rfl
  | n + 1, b, hb => by
    have hl := hX.2.1
    have e31 : sD D 488 32 (b : Int) 488 31 = (len : Int) := by rw [sD_nb (by decide)]; exact hX.1
    have ex : sD D 488 32 (b : Int) 489 b = (x b : Int) := by rw [sD_ne (by decide)]; exact (hX.2.2 b (by omega)).1
    have go : Vl (d + 1) 201 39 [some (.inr (.inr (some 488))), none, none, none, none] [] (hp (1, ρ) (sD D 488 32 (b : Int))) = Vl (d + 1) 201 52 [some (.inr (.inr (some 488))), none, none, none, none] [] (hp (1, ρ) (sD D 488 32 (skp x len n (b + 1) : Int))) := by
      rw [vM_go_39, mGF m488, mGF m488, aLt, hwD, hD, sD_eq, w32_s (by omega), sD_sD]
      exact mskip hX n (b + 1) (by omega)
    rw [vM_go_0, mGF m488, mGF m488, hD, sD_eq, hD, e31, if_pos (by omega), vM_go_11]
    simp only [mGF m488, mr1, hD, sD_eq]
    rw [mIA m489, if_pos (by omega), Int.toNat_natCast, ex]
    unfold skp
    by_cases h1 : x b = 32
    · rw [if_pos (by omega), go, if_pos (show b < len ∧ (x b = 32 ∨ x b = 10) from ⟨by omega, Or.inl h1⟩)]
    rw [if_neg (by omega), vM_go_25]
    simp only [mGF m488, mr1, hD, sD_eq]
    rw [mIA m489, if_pos (by omega), Int.toNat_natCast, ex]
    by_cases h2 : x b = 10
    · rw [if_pos (by omega), go, if_pos (show b < len ∧ (x b = 32 ∨ x b = 10) from ⟨by omega, Or.inr h2⟩)]
    rw [if_neg (by omega), if_neg (show ¬ (b < len ∧ (x b = 32 ∨ x b = 10)) from fun z => z.2.elim h1 h2)]
theorem rnS_p {x : Nat → Nat} {len : Nat} {n b : Nat} (hn : 0 < n) (hb : b < len) (hc : isL (x b) ∨ isG (x b)) : b + 1 ≤ (rnS x len n b 0 0 0 0).1 ∧ (rnS x len n b 0 0 0 0).1 ≤ b + n := by
  obtain ⟨m, rfl⟩ : ∃ m, n = m + 1 := ⟨n - 1, by omega⟩
  unfold rnS
  rw [if_pos (show b < len ∧ (isL (x b) ∨ isG (x b)) from ⟨hb, hc⟩)]
  split
  · have := rnS_le x len m (b + 1) (0 + 1) 0 (0 * 32 + x b % 32) 0; omega
  · have := rnS_le x len m (b + 1) 0 (0 + 1) 0 (0 * 10 + x b - 48); omega
theorem rnT_p (p : Nat) (r : Nat × Nat × Nat × Nat × Nat) : (rnT p r).2.2.2 = r.1 ∧ (rnT p r).2.1 = p ∧ (rnT p r).1 ≠ 258 := by
  unfold rnT
  split
  · exact ⟨rfl, rfl, by dsimp only; omega⟩
  · split
    · exact ⟨rfl, rfl, by dsimp only; omega⟩
    · exact ⟨rfl, rfl, by dsimp only; omega⟩
/-- a TOKEN goes on -/
theorem scn_p {b : Nat} (hb : b ≤ len) : b ≤ (scn x len b).2.2.2 ∧ (scn x len b).2.2.2 ≤ len ∧ ((scn x len b).1 ≠ 258 → b + 1 ≤ (scn x len b).2.2.2) := by
  unfold scn scA
  have hs := skp_ge (x := x) (min 500 len) (min 500 len - b) b
  generalize skp x (min 500 len) (min 500 len - b) b = s at hs ⊢
  by_cases h1 : min 500 len ≤ s
  · rw [if_pos h1]
    exact ⟨hs.1, by show s ≤ len; omega, fun z => absurd rfl z⟩
  rw [if_neg h1]
  by_cases h2 : isL (x s) ∨ isG (x s)
  · rw [if_pos h2]
    obtain ⟨e1, -, -⟩ := rnT_p (min s (min 500 len)) (rnS x len (len - s) s 0 0 0 0)
    have := rnS_p (x := x) (len := len) (n := len - s) (b := s) (by omega) (by omega) h2
    rw [e1]
    exact ⟨by omega, by omega, fun _ => by omega⟩
  · rw [if_neg h2]
    exact ⟨by show b ≤ s + 1; omega, by show s + 1 ≤ len; omega, fun _ => by show b + 1 ≤ s + 1; omega⟩
theorem mgo (hX : MX D x len) {b : Nat} (hto : D 488 32 = (b : Int)) (hb : b ≤ len) : ∃ ρ' D', Vl (d + 2) 201 0 [some (.inr (.inr (some 488))), none, none, none, none] [] (hp (1, ρ) D) = some ((0, none), hp (1, ρ') D') ∧ LX ρ ρ' ∧ TX D D' ∧ MTK ρ' D' len (scn x len b) := by
  have hl := hX.2.1
  have q1 := mskip (d := d + 1) (ρ := ρ) hX (len - b) b (by omega)
  rw [sD_me hto] at q1
  have hs := skp_ge (x := x) len (len - b) b
  have hs2 := skp_ge (x := x) (min 500 len) (min 500 len - b) b
  have hk := skp_lim (x := x) hb
  have hp3 := scn_p (x := x) hb
  obtain ⟨s, hs0⟩ : ∃ s, s = skp x len (len - b) b := ⟨_, rfl⟩
  rw [← hs0] at q1 hs hk
  obtain ⟨E, hE⟩ : ∃ E, E = sD (sD D 488 32 (s : Int)) 488 33 (s : Int) := ⟨_, rfl⟩
  have tE : TX D E := by rw [hE]; exact TX_tr (TX_sD (by decide)) (TX_sD (by decide))
  have hXE := MX_TX hX tE
  have e32 : E 488 32 = (s : Int) := by rw [hE, sD_nb (by decide)]; exact sD_eq
  have e33 : E 488 33 = (s : Int) := by rw [hE]; exact sD_eq
  have e31 : E 488 31 = (len : Int) := hXE.1
  have st : Vl (d + 2) 201 0 [some (.inr (.inr (some 488))), none, none, none, none] [] (hp (1, ρ) D) = if 500 < len ∧ 500 ≤ s then Vl (d + 2) 201 80 [some (.inr (.inr (some 488))), none, none, none, none] [] (hp (1, ρ) E) else Vl (d + 2) 201 93 [some (.inr (.inr (some 488))), none, none, none, none] [] (hp (1, ρ) E) := by
    rw [q1, vM_go_52, mGF m488, mGF m488, aLt, hwD, mGF m488, hD, hD, sD_eq, ← hE, e31]
    by_cases h5 : 500 < len
    · rw [if_pos (by omega), vM_go_70, mGF m488, hD, e33]
      by_cases h6 : 500 ≤ s
      · rw [if_neg (by omega), if_pos ⟨h5, h6⟩]
      · rw [if_pos (by omega), if_neg (fun z => h6 z.2)]
    · rw [if_neg (by omega), if_neg (fun z => h5 z.1)]
  rw [st]
  by_cases h5 : 500 < len ∧ 500 ≤ s
  · rw [if_pos h5, vM_go_80]
    simp only [mGF m488, hwD, aLt]
    refine ⟨ρ, _, rfl, LX_rf, TX_tr tE (TX_tr (TX_sD (by decide)) (TX_sD (by decide))), ?_⟩
    have e5 : min 500 len = 500 := by omega
    rw [e5] at hk
    have hS : 500 ≤ skp x 500 (500 - b) b := Classical.byContradiction fun z => by
      have := hk.1 (by omega); omega
    have et : scn x len b = (258, 500, 0, skp x 500 (500 - b) b) := by
      unfold scn scA
      rw [e5, if_pos hS, Nat.min_eq_right hS]
    rw [et] at hp3 ⊢
    refine ⟨by rw [sD_nb (by decide)]; exact sD_eq, hp3.2.1, fun z => absurd rfl z, Or.inr (Or.inl ⟨Or.inr ⟨rfl, h5.1⟩, sD_eq⟩)⟩
  rw [if_neg h5, vM_go_93]
  simp only [mGF m488, hD, e31, e32]
  by_cases h6 : s < len
  rotate_left
  · rw [if_neg (by omega), vM_go_104, mGF m488, hwD, aLt]
    refine ⟨ρ, _, rfl, LX_rf, TX_tr tE (TX_sD (by decide)), ?_⟩
    have e5 : min 500 len = len := by omega
    rw [e5] at hk hs2
    have et : scn x len b = (258, len, 0, s) := by
      unfold scn scA
      rw [e5, ← hs0, if_pos (by omega), Nat.min_eq_right (by omega)]
    rw [et] at hp3 ⊢
    refine ⟨?_, hp3.2.1, fun z => absurd rfl z, Or.inl ⟨rfl, by omega, sD_eq⟩⟩
    rw [sD_nb (by decide), e33]
    show (s : Int) = (len : Int)
    omega
  have hS : skp x (min 500 len) (min 500 len - b) b = s := by
    refine (hk.1 (Classical.byContradiction fun z => ?_)).symm
    have := hk.2 (by omega)
    omega
  have hs5 : s < min 500 len := by omega
  have hxs := hX.2.2 s h6
  have exs : E 489 s = (x s : Int) := (hXE.2.2 s h6).1
  have et : scn x len b = if isL (x s) ∨ isG (x s) then rnT s (rnS x len (len - s) s 0 0 0 0) else ((if isSg (x s) then x s else 259), s, 0, s + 1) := by
    unfold scn scA
    rw [hS, if_neg (by omega), Nat.min_eq_left (by omega)]
  rw [if_pos (by omega), vM_go_110]
  simp only [mGF m488, mr1, hD, e32]
  rw [mIA m489, if_pos (by omega), Int.toNat_natCast, exs, misLetter, aVC, tlS, vM_go_124]
  have run : ∀ (l2 : Nat), (l2 = 0 ∨ l2 = 1) → isL (x s) ∨ isG (x s) → (l2 = 1 ↔ isL (x s)) → ∃ ρ' D', Vl (d + 2) 201 166 [some (.inr (.inr (some 488))), some (.inl (x s : Int)), none, none, none] [] (hp (1, ρ) E) = some ((0, none), hp (1, ρ') D') ∧ LX ρ ρ' ∧ TX D D' ∧ MTK ρ' D' len (scn x len b) := fun l2 hl2 hc hlc => by
    have hc0 : Vl (d + 2) 201 166 [some (.inr (.inr (some 488))), some (.inl (x s : Int)), none, none, none] [] (hp (1, ρ) E) = Vl (d + 2) 201 183 [some (.inr (.inr (some 488))), some (.inl (x s : Int)), some (.inl (l2 : Int)), some (.inl 1), none] [] (hp (1, sM ρ 488 39 0) (sD E 488 35 0)) := by
      rw [vM_go_166, misLetter, aVC, tlS, vM_go_170]
      simp only [mGF m488, mwL, hwD, aLt]
      by_cases hA : isL (x s)
      · rw [if_pos hA, hlc.mpr hA]; rfl
      · rw [if_neg hA, show l2 = 0 from hl2.resolve_right (fun z => hA (hlc.mp z))]; rfl
    obtain ⟨ρ', D', u', z1, z2, z3, z4, z5, z6, z7, z8⟩ := mrun_loop (d := d + 1) (x := x) (len := len) (p := s) hl2 (x s : Int) (len - s) s 0 0 0 0 (sD E 488 35 0) (sM ρ 488 39 0) none (by omega) (MX_TX hXE (TX_sD (by decide))) (by rw [sD_nb (by decide)]; exact e32) (by rw [sD_nb (by decide)]; exact e33) rfl (fun _ _ => ⟨by rw [sM_eq]; rfl, rfl⟩) (fun _ _ => ⟨by rw [sD_eq]; rfl, by decide⟩)
    rw [if_pos (show (l2 = 1 ∧ 0 = 0) ∨ (l2 = 0 ∧ 0 = 0) by omega)] at z1
    have hle := rnS_le x len (len - s) s 0 0 0 0
    have hrp := rnS_p (x := x) (len := len) (n := len - s) (b := s) (by omega) h6 hc
    have hfl : (l2 = 1 → 1 ≤ (rnS x len (len - s) s 0 0 0 0).2.1) ∧ (l2 = 0 → 1 ≤ (rnS x len (len - s) s 0 0 0 0).2.2.1) := by
      have mono : ∀ n b L G C N, L ≤ (rnS x len n b L G C N).2.1 ∧ G ≤ (rnS x len n b L G C N).2.2.1 := by
        intro n
        induction n with
        | zero => exact fun b L G C N => ⟨Nat.le_refl _, Nat.le_refl _⟩
        | succ n ih =>
          intro b L G C N
          unfold rnS
          split
          · split
            · have := ih (b + 1) (L + 1) G (C * 32 + x b % 32) N; omega
            · have := ih (b + 1) L (G + 1) C (N * 10 + x b - 48); omega
          · exact ⟨Nat.le_refl _, Nat.le_refl _⟩
      obtain ⟨m, hm⟩ : ∃ m, len - s = m + 1 := ⟨len - s - 1, by omega⟩
      rw [hm]
      unfold rnS
      rw [if_pos (show s < len ∧ (isL (x s) ∨ isG (x s)) from ⟨h6, hc⟩)]
      by_cases hA : isL (x s)
      · rw [if_pos hA]
        have := mono m (s + 1) (0 + 1) 0 (0 * 32 + x s % 32) 0
        have h1 := hlc.mpr hA
        exact ⟨fun _ => by omega, fun z => by omega⟩
      · rw [if_neg hA]
        have := mono m (s + 1) 0 (0 + 1) 0 (0 * 10 + x s - 48)
        exact ⟨fun z => absurd (hlc.mp z) hA, fun _ => by omega⟩
    have tp := rnT_p s (rnS x len (len - s) s 0 0 0 0)
    rw [hc0, z1, et, if_pos hc]
    rw [et, if_pos hc] at hp3
    clear z1 hc0 et
    generalize rnS x len (len - s) s 0 0 0 0 = r at z4 z5 z6 z7 z8 hle hrp hfl tp hp3 ⊢
    obtain ⟨e, L, G, C, N⟩ := r
    dsimp only at z4 z5 z6 z7 z8 hle hrp hfl ⊢
    have t2 : TX D D' := TX_tr tE (TX_tr (TX_sD (by decide)) z3)
    have fin : ∀ (k : Int), (MTK ρ' (sD D' 488 34 k) len (rnT s (e, L, G, C, N))) → ∃ ρ2 D'', Vl (d + 2) 201 358 [some (.inr (.inr (some 488))), some (.inl (x s : Int)), some (.inl (l2 : Int)), some (.inl (if (l2 = 1 ∧ G = 0) ∨ (l2 = 0 ∧ L = 0) then 1 else 0)), u'] [.inl k, .inr (.inr (some 488))] (hp (1, ρ') D') = some ((0, none), hp (1, ρ2) D'') ∧ LX ρ ρ2 ∧ TX D D'' ∧ MTK ρ2 D'' len (rnT s (e, L, G, C, N)) := fun k hk => by
      refine ⟨ρ', sD D' 488 34 k, ?_, LX_tr LX_sM z2, TX_tr t2 (TX_sD (by decide)), hk⟩
      rw [vM_go_358, mGF m488, hwD, aLt]
    have f0 : ∀ k : Int, sD D' 488 34 k 488 33 = (s : Int) ∧ sD D' 488 34 k 488 32 = (e : Int) ∧ sD D' 488 34 k 488 35 = D' 488 35 ∧ sD D' 488 34 k 488 34 = k := fun k => ⟨by rw [sD_nb (by decide)]; exact z4, by rw [sD_nb (by decide)]; exact z5, sD_nb (by decide), sD_eq⟩
    have bad : ((G ≠ 0 ∨ 6 < L) ∧ (L ≠ 0 ∨ 3 < G)) → MTK ρ' (sD D' 488 34 1) len (rnT s (e, L, G, C, N)) := fun hb => by
      have ee : rnT s (e, L, G, C, N) = (259, s, 0, e) := by
        unfold rnT
        rw [if_neg (show ¬ (G = 0 ∧ L ≤ 6) by omega), if_neg (show ¬ (L = 0 ∧ G ≤ 3) by omega)]
      rw [ee]
      exact ⟨(f0 1).1, by show e ≤ len; omega, fun _ => by show 1 ≤ e; omega, Or.inr (Or.inl ⟨Or.inl rfl, (f0 1).2.2.2⟩)⟩
    have e9 : w32 ((e : Int) - (s : Int)) = ((L + G : Nat) : Int) := by rw [w32_i (by omega) (by omega)]; omega
    rw [vM_go_318]
    by_cases hg : (l2 = 1 ∧ G = 0) ∨ (l2 = 0 ∧ L = 0)
    rotate_left
    · rw [if_neg hg, if_pos rfl, vM_go_345]
      have hh := fin 1 (bad (by rcases hl2 with z | z <;> omega))
      rw [if_neg hg] at hh
      exact hh
    rw [if_pos hg, if_neg j10, vM_go_323]
    simp only [mGF m488, hD, z4, z5, e9]
    rcases hl2 with z | z
    · subst z
      have hL0 : L = 0 := by omega
      rw [if_pos (show ((0 : Nat) : Int) = 0 from rfl), vM_go_341, vM_go_342]
      by_cases h3 : G ≤ 3
      · rw [if_neg (by omega), vM_go_349, if_pos (show ((0 : Nat) : Int) = 0 from rfl), vM_go_357]
        have hh := fin 3 (by
          have ee : rnT s (e, L, G, C, N) = (257, s, N, e) := by
            unfold rnT
            rw [if_neg (show ¬ (G = 0 ∧ L ≤ 6) by omega), if_pos (show (L = 0 ∧ G ≤ 3) from ⟨hL0, h3⟩)]
          rw [ee]
          exact ⟨(f0 3).1, by show e ≤ len; omega, fun _ => by show 1 ≤ e; omega, Or.inr (Or.inr (Or.inr (Or.inl ⟨rfl, (f0 3).2.2.2, (f0 3).2.1, by rw [(f0 3).2.2.1]; exact (z8 hL0 h3).1, (z8 hL0 h3).2⟩)))⟩)
        rw [if_pos hg] at hh
        exact hh
      · rw [if_pos (by omega), vM_go_345]
        have hh := fin 1 (bad (by omega))
        rw [if_pos hg] at hh
        exact hh
    · subst z
      have hG0 : G = 0 := by omega
      rw [if_neg (show ¬ ((1 : Nat) : Int) = 0 by decide), vM_go_336, vM_go_342]
      by_cases h3 : L ≤ 6
      · rw [if_neg (by omega), vM_go_349, if_neg (show ¬ ((1 : Nat) : Int) = 0 by decide), vM_go_353]
        have hh := fin 2 (by
          have ee : rnT s (e, L, G, C, N) = (256, s, C, e) := by
            unfold rnT
            rw [if_pos (show (G = 0 ∧ L ≤ 6) from ⟨hG0, h3⟩)]
          rw [ee]
          exact ⟨(f0 2).1, by show e ≤ len; omega, fun _ => by show 1 ≤ e; omega, Or.inr (Or.inr (Or.inl ⟨rfl, (f0 2).2.2.2, (f0 2).2.1, z7 hG0 h3⟩))⟩)
        rw [if_pos hg] at hh
        exact hh
      · rw [if_pos (by omega), vM_go_345]
        have hh := fin 1 (bad (by omega))
        rw [if_pos hg] at hh
        exact hh
  by_cases hA : isL (x s)
  · rw [if_pos hA, if_neg j10]
    exact run 1 (Or.inr rfl) (Or.inl hA) ⟨fun _ => hA, fun _ => rfl⟩
  rw [if_neg hA, if_pos rfl, vM_go_127, misDigit, aVC, tlS, vM_go_131]
  by_cases hB : isG (x s)
  · rw [if_pos hB, if_neg j10]
    exact run 0 (Or.inl rfl) (Or.inr hB) ⟨fun z => absurd z (by decide), fun z => absurd z hA⟩
  rw [if_neg hB, if_pos rfl, vM_go_134, misMark hxs.2, aVC, tlS, vM_go_139]
  rw [et, if_neg (show ¬ (isL (x s) ∨ isG (x s)) from fun z => z.elim hA hB)] at hp3 ⊢
  have last : ∀ k : Int, ∃ D'', Vl (d + 2) 201 147 [some (.inr (.inr (some 488))), some (.inl (x s : Int)), none, none, none] [.inl k, .inr (.inr (some 488))] (hp (1, ρ) E) = some ((0, none), hp (1, ρ) D'') ∧ TX D D'' ∧ D'' 488 33 = (s : Int) ∧ D'' 488 34 = k ∧ D'' 488 36 = (x s : Int) ∧ D'' 488 32 = ((s + 1 : Nat) : Int) := fun k => by
    refine ⟨sD (sD (sD E 488 34 k) 488 36 (x s : Int)) 488 32 ((s + 1 : Nat) : Int), ?_, TX_tr tE (TX_tr (TX_sD (by decide)) (TX_tr (TX_sD (by decide)) (TX_sD (by decide)))), ?_, ?_, ?_, sD_eq⟩
    · rw [vM_go_147]
      simp only [mGF m488, hwD, aLt, hD]
      rw [sD_nb (by decide), sD_nb (by decide), e32, w32_s (by omega)]
    · rw [sD_nb (by decide), sD_nb (by decide), sD_nb (by decide)]; exact e33
    · rw [sD_nb (by decide), sD_nb (by decide)]; exact sD_eq
    · rw [sD_nb (by decide)]; exact sD_eq
  by_cases hC : isSg (x s)
  · rw [if_pos hC, if_neg j10, vM_go_142]
    obtain ⟨D2, l1, l2, l3, l4, l5, l6⟩ := last 4
    refine ⟨ρ, D2, l1, LX_rf, l2, ?_⟩
    rw [if_pos hC]
    have := (sg_fact _ hxs.2).mp hC
    exact ⟨l3, by show s + 1 ≤ len; omega, fun _ => by show 1 ≤ s + 1; omega, Or.inr (Or.inr (Or.inr (Or.inr ⟨hxs.2, hC, l4, l6, l5⟩)))⟩
  · rw [if_neg hC, if_pos rfl, vM_go_146]
    obtain ⟨D2, l1, l2, l3, l4, l5, l6⟩ := last 1
    refine ⟨ρ, D2, l1, LX_rf, l2, ?_⟩
    rw [if_neg hC]
    exact ⟨l3, by show s + 1 ≤ len; omega, fun _ => by show 1 ≤ s + 1; omega, Or.inr (Or.inl ⟨Or.inl rfl, l4⟩)⟩
end MGO
