/-! POINTS, ACTS, the tape */ -/
def tPts (T : aT) (n : Nat) (q : Nat → Nat) : aT := (tF T, tN T, tn T, n, q, tU T, tu T, tv T)
def tRem (T : aT) (i : Nat) : aT := if 16 ≤ tU T then (tF T, tN T, tn T, tP T, tp T, 16, (fun q => if q = 15 then tn T i else tu T (q + 1)), (fun q => if q = 15 then i else tv T (q + 1))) else (tF T, tN T, tn T, tP T, tp T, tU T + 1, (fun q => if q = tU T then tn T i else tu T q), (fun q => if q = tU T then i else tv T q))
def tUnd (T : aT) : aT := tPut (tF T, tN T, tn T, tP T, tp T, tU T - 1, tu T, tv T) (tv T (tU T - 1)) (tu T (tU T - 1))
theorem tPts_OK {T : aT} (hO : TOK T) {n : Nat} (hn : n ≤ 8) {q : Nat → Nat} (hq : ∀ i, i < n → q i < 2 ^ (tF T).1) : TOK (tPts T n q) := ⟨hO.1, hO.2.1, hn, hO.2.2.2.1, hO.2.2.2.2.1, hq, hO.2.2.2.2.2.2⟩
theorem tRem_OK {T : aT} (hO : TOK T) {i : Nat} (hi : i < tN T) : TOK (tRem T i) := by
  unfold tRem
  obtain ⟨a1, a2, a3, a4, a5, a6, a7⟩ := hO
  split
  · rename_i h
    refine ⟨a1, a2, a3, Nat.le_refl 16, a5, a6, fun q hq => ?_⟩
    have hq2 : q < 16 := hq
    dsimp only [tu, tv, tF, tN]
    by_cases h15 : q = 15
    · rw [if_pos h15, if_pos h15]; exact ⟨a5 i hi, hi⟩
    · rw [if_neg h15, if_neg h15]; exact a7 (q + 1) (by omega)
  · rename_i h
    refine ⟨a1, a2, a3, by show tU T + 1 ≤ 16; omega, a5, a6, fun q hq => ?_⟩
    have hq2 : q < tU T + 1 := hq
    dsimp only [tu, tv, tF, tN]
    by_cases h15 : q = tU T
    · rw [if_pos h15, if_pos h15]; exact ⟨a5 i hi, hi⟩
    · rw [if_neg h15, if_neg h15]; exact a7 q (by omega)
theorem tUnd_OK {T : aT} (hO : TOK T) (h : tU T ≠ 0) : TOK (tUnd T) := by
  obtain ⟨a1, a2, a3, a4, a5, a6, a7⟩ := hO
  have h1 := a7 (tU T - 1) (by omega)
  refine tPut_OK (T := (tF T, tN T, tn T, tP T, tp T, tU T - 1, tu T, tv T)) ⟨a1, a2, a3, by show tU T - 1 ≤ 16; omega, a5, a6, fun q hq => a7 q ?_⟩ (Nat.le_of_lt h1.2) (by omega) h1.1
  have : q < tU T - 1 := hq
  omega
section STATE2
variable {ω : jw} {D : jD} {b d : Nat} {T : aT}
theorem putPoints_spec (hb : isT b) (hO : TOK T) (h : TS D b T) {c L n : Nat} (hc : KL0[c]? = some (1, L)) (hcb : c < b ∨ b + 61 ≤ c) (hL : n ≤ L) (hn : n ≤ 8) (hL4 : L ≤ 4096) {q : Nat → Nat} (hq : ∀ i, i < n → D c i = (q i : Int)) : ∃ D', Vl d 158 0 [some (.inr (.inr (some b))), some (.inr (.inr (some c))), some (.inl (n : Int)), none] [] (hp ω D) = some ((0, none), hp ω D') ∧ TS D' b (tPts T n q) ∧ ∀ a, a ≠ b → a ≠ b + 26 → D' a = D a := by
  have e5 : sD D b 5 (n : Int) b 5 = (n : Int) := sD_eq
  have ch := chain (fun j => Vl d 158 17 [some (.inr (.inr (some b))), some (.inr (.inr (some c))), some (.inl (n : Int)), some (.inl (j : Int))] [] (hp ω (pDn (sD D b 5 (n : Int)) (b + 26) j (rI q)))) n (fun j hj => by
    have e1 : pDn (sD D b 5 (n : Int)) (b + 26) j (rI q) b 5 = (n : Int) := by rw [pDn_ne (by omega)]; exact e5
    have e2 : pDn (sD D b 5 (n : Int)) (b + 26) j (rI q) c j = (q j : Int) := by rw [pDn_ne (by omega), sD_ne (by omega)]; exact hq j hj
    rw [vT_putPoints_17, aGF (kT hb), hD, e1, if_pos (by omega), vT_putPoints_25, aGF (kT hb), aIA hc, if_pos (by omega), Int.toNat_natCast, e2, rT_8 hb, aIS (kT_26 hb), if_pos (by omega), Int.toNat_natCast, w32_s (by omega), show sD (pDn (sD D b 5 (n : Int)) (b + 26) j (rI q)) (b + 26) j (q j : Int) = pDn (sD D b 5 (n : Int)) (b + 26) (j + 1) (rI q) from pDn_s rfl])
  rw [pDn_0, show ((0 : Nat) : Int) = 0 from rfl] at ch
  have e6 : pDn (sD D b 5 (n : Int)) (b + 26) n (rI q) b 5 = (n : Int) := by rw [pDn_ne (by omega)]; exact e5
  have em : (if (if (L : Int) < (8 : Int) then (L : Int) else (8 : Int)) < (n : Int) then (if (L : Int) < (8 : Int) then (L : Int) else (8 : Int)) else (n : Int)) = (n : Int) := by
    have h1 : (n : Int) ≤ (if (L : Int) < (8 : Int) then (L : Int) else (8 : Int)) := by split <;> omega
    rw [if_neg (by omega)]
  obtain ⟨⟨a0, a1, a2, a3⟩, h4, h5, h6, h7, h8, h9⟩ := h
  have hbj : ∀ j, j ≠ 5 → pDn (sD D b 5 (n : Int)) (b + 26) n (rI q) b j = D b j := fun j hj => by rw [pDn_ne (by omega), sD_nb hj]
  refine ⟨pDn (sD D b 5 (n : Int)) (b + 26) n (rI q), ?_, ⟨⟨by rw [hbj 0 (by decide)]; exact a0, by rw [hbj 1 (by decide)]; exact a1, by rw [hbj 2 (by decide)]; exact a2, by rw [hbj 3 (by decide)]; exact a3⟩, by rw [hbj 4 (by decide)]; exact h4, e6, by rw [hbj 6 (by decide)]; exact h6, fun i hi => PR_ne (by have : i < tN T := hi; have := hO.2.1; rw [pDn_ne (by omega), sD_ne (by omega)]) (h7 i hi), fun i hi => pDn_lt hi, fun i hi => ⟨PR_ne (by have : i < tU T := hi; have := hO.2.2.2.1; rw [pDn_ne (by omega), sD_ne (by omega)]) (h9 i hi).1, by rw [pDn_ne (by omega), sD_ne (by omega)]; exact (h9 i hi).2⟩⟩, fun a ha ha2 => by rw [pDn_ne ha2, sD_ne ha]⟩
  rw [vT_putPoints_0, aLN hc, aGF (kT hb), aLt, em, hwD, ch, vT_putPoints_17, aGF (kT hb), hD, e6, if_neg (by omega), vT_putPoints_40]
theorem remember_shift (hb : isT b) (x1 : Int) : ∀ (n k : Nat) (Dk : jD), k + n = 16 → 1 ≤ k → (∀ q, q + 1 < k → (∀ c, c < 17 → Dk (b + 29 + 2 * q) c = D (b + 31 + 2 * q) c) ∧ Dk (b + 60) q = D (b + 60) (q + 1)) → (∀ q, k ≤ q + 1 → Dk (b + 29 + 2 * q) = D (b + 29 + 2 * q) ∧ Dk (b + 60) q = D (b + 60) q) → (∀ c, (c < b + 29 ∨ b + 61 ≤ c) → Dk c = D c) →
    ∃ D', Vl (d + 1) 99 22 [some (.inr (.inr (some b))), some (.inl x1), some (.inl (k : Int))] [] (hp ω Dk) = Vl (d + 1) 99 71 [some (.inr (.inr (some b))), some (.inl x1), some (.inl 16)] [] (hp ω (sD D' b 6 15)) ∧ (∀ q, q < 15 → (∀ c, c < 17 → D' (b + 29 + 2 * q) c = D (b + 31 + 2 * q) c) ∧ D' (b + 60) q = D (b + 60) (q + 1)) ∧ ∀ c, (c < b + 29 ∨ b + 61 ≤ c) → D' c = D c
  | 0, k, Dk, hk, hk1, h1, h2, hf => by
    refine ⟨Dk, ?_, fun q hq => h1 q (by omega), hf⟩
    rw [vT_remember_22, if_neg (by omega), vT_remember_65, aGF (kT hb), aLt, hwD, show k = 16 by omega]
    rfl
  | n + 1, k, Dk, hk, hk1, h1, h2, hf => by
    have hk16 : k < 16 := by omega
    obtain ⟨j, rfl⟩ : ∃ j, k = j + 1 := ⟨k - 1, by omega⟩
    have q1 := copy_spec (ω := ω) (D := Dk) (d := d) (pT_27 hb (show j < 16 by omega)) (pT_27 hb hk16)
    obtain ⟨D', a1, a2, a3⟩ := remember_shift hb x1 n (j + 1 + 1) (sD (pD Dk (b + 28 + 2 * j + 1) (Dk (b + 28 + 2 * (j + 1) + 1))) (b + 60) j (pD Dk (b + 28 + 2 * j + 1) (Dk (b + 28 + 2 * (j + 1) + 1)) (b + 60) (j + 1))) (by omega) (by omega) (fun q h => by
      by_cases hqi : q = j
      · subst hqi
        have e := h2 (q + 1) (by omega)
        refine ⟨fun c hc => ?_, ?_⟩
        · rw [sD_ne (by omega), show b + 29 + 2 * q = b + 28 + 2 * q + 1 by omega, pD_lt hc, show b + 28 + 2 * (q + 1) + 1 = b + 29 + 2 * (q + 1) by omega, e.1, show b + 29 + 2 * (q + 1) = b + 31 + 2 * q by omega]
        · rw [sD_eq, pD_ne (by omega), e.2]
      · refine ⟨fun c hc => ?_, ?_⟩
        · rw [sD_ne (by omega), pD_ne (by omega)]; exact (h1 q (by omega)).1 c hc
        · rw [sD_nb (by omega), pD_ne (by omega)]; exact (h1 q (by omega)).2) (fun q h => ⟨by rw [sD_ne (by omega), pD_ne (by omega)]; exact (h2 q (by omega)).1, by rw [sD_nb (by omega), pD_ne (by omega)]; exact (h2 q (by omega)).2⟩) (fun c hc => by
        by_cases q : b + 28 + 2 * j + 1 < b + 61
        · rw [sD_ne (by omega), pD_ne (by omega)]; exact hf c hc
        · omega)
    refine ⟨D', ?_, a2, a3⟩
    rw [vT_remember_22, if_pos (by omega), vT_remember_28, aGF (kT hb), rT_9 hb, show w32 (((j + 1 : Nat) : Int) - 1) = (j : Int) by unfold w32; omega, aAA (kT_27 hb), if_pos (by omega), Int.toNat_natCast, rT_1027 hb (show j < 16 by omega), aGF (kT hb), rT_9 hb, aAA (kT_27 hb), if_pos (by omega), Int.toNat_natCast, rT_1027 hb hk16, aGF (kP (pT_27 hb (show j < 16 by omega))), q1, aVC]
    show Vl (d + 1) 99 45 _ [] _ = _
    rw [vT_remember_45, aGF (kT hb), aGF (kT hb), rT_10 hb, aIA (kT_60 hb), if_pos (by omega), show w32 (((j + 1 : Nat) : Int) - 1) = (j : Int) by unfold w32; omega, aIS (kT_60 hb), if_pos (by omega), Int.toNat_natCast, Int.toNat_natCast, w32_s (by omega), a1]
/-- the latest act is laid down -/
theorem remember_put (hb : isT b) {i u : Nat} (hi : i < 12) (hu : u < 16) (h6 : D b 6 = (u : Int)) (u2 : Option jv) : Vl (d + 1) 99 71 [some (.inr (.inr (some b))), some (.inl (i : Int)), u2] [] (hp ω D) = some ((0, none), hp ω (sD (sD (pD D (b + 28 + 2 * u + 1) (D (b + 2 + 2 * i + 1))) (b + 60) u (i : Int)) b 6 ((u + 1 : Nat) : Int))) := by
  have q1 := copy_spec (ω := ω) (D := D) (d := d) (pT_27 hb hu) (pT_1 hb hi)
  have e1 : pD D (b + 28 + 2 * u + 1) (D (b + 2 + 2 * i + 1)) b 6 = (u : Int) := by rw [pD_ne (by omega)]; exact h6
  have e2 : sD (pD D (b + 28 + 2 * u + 1) (D (b + 2 + 2 * i + 1))) (b + 60) u (i : Int) b 6 = (u : Int) := by rw [sD_ne (by omega)]; exact e1
  rw [vT_remember_71, aGF (kT hb), hD, h6, if_neg (by omega), vT_remember_78, aGF (kT hb), aGF (kT hb), hD, h6, rT_9 hb, aAA (kT_27 hb), if_pos (by omega), Int.toNat_natCast, rT_1027 hb hu, aGF (kT hb), rT_7 hb, aAA (kT_1 hb), if_pos (by omega), Int.toNat_natCast, rT_1001 hb hi, aGF (kP (pT_27 hb hu)), q1, aVC]
  show Vl (d + 1) 99 96 _ [] _ = _
  rw [vT_remember_96, aGF (kT hb), aGF (kT hb), hD, e1, rT_10 hb, aIS (kT_60 hb), if_pos (by omega), Int.toNat_natCast, aGF (kT hb), aGF (kT hb), hD, e2, aLt, hwD, w32_s (by omega), vT_remember_116]
theorem remember_spec (hb : isT b) (hO : TOK T) (h : TS D b T) {i : Nat} (hi : i < tN T) : ∃ D', Vl (d + 1) 99 0 [some (.inr (.inr (some b))), some (.inl (i : Int)), none] [] (hp ω D) = some ((0, none), hp ω D') ∧ TS D' b (tRem T i) ∧ ∀ c, (c < b ∨ b + 61 ≤ c) → D' c = D c := by
  have h12 := hO.2.1
  have h16 := hO.2.2.2.1
  have hTS := h
  obtain ⟨⟨a0, a1, a2, a3⟩, h4, h5, h6, h7, h8, h9⟩ := h
  have hnm := h7 i hi
  rw [vT_remember_0, if_neg (by omega), vT_remember_4, if_pos (by omega), vT_remember_11, aGF (kT hb), hD, h6]
  unfold tRem
  by_cases hu : 16 ≤ tU T
  · have hu16 : tU T = 16 := by omega
    rw [if_neg (by omega), vT_remember_20, if_pos hu]
    obtain ⟨D1, q1, r1, f1⟩ := remember_shift (ω := ω) (D := D) (d := d) hb (i : Int) 15 1 D (by omega) (by omega) (fun q hq => absurd hq (by omega)) (fun q hq => ⟨rfl, rfl⟩) (fun _ _ => rfl)
    rw [show ((1 : Nat) : Int) = 1 from rfl] at q1
    have e15 : sD D1 b 6 15 b 6 = ((15 : Nat) : Int) := sD_eq
    have q2 := remember_put (ω := ω) (d := d) hb (show i < 12 by omega) (show 15 < 16 by decide) e15 (some (.inl 16))
    rw [q1, q2]
    refine ⟨_, rfl, TS_num hO hTS (fun j hj => ?_) ?_ ?_ sD_eq rfl (fun q hq => ?_) (fun q hq => ?_) (fun q hq => ?_), fun c hc => ?_⟩
    · rw [sD_nb (by omega), sD_ne (by omega), pD_ne (by omega), sD_nb (by omega), f1 _ (by omega)]
    · rw [sD_nb (by omega), sD_ne (by omega), pD_ne (by omega), sD_nb (by omega), f1 _ (by omega)]; exact h4
    · rw [sD_nb (by omega), sD_ne (by omega), pD_ne (by omega), sD_nb (by omega), f1 _ (by omega)]; exact h5
    · have hq2 : q < tN T := hq
      exact PR_ne (by rw [sD_ne (by omega), sD_ne (by omega), pD_ne (by omega), sD_ne (by omega), f1 _ (by omega)]) (h7 q hq)
    · have hq2 : q < tP T := hq
      rw [sD_ne (by omega), sD_ne (by omega), pD_ne (by omega), sD_ne (by omega), f1 _ (by omega)]; exact h8 q hq
    · have hq2 : q < 16 := hq
      dsimp only [tu, tv]
      by_cases h15 : q = 15
      · subst h15
        refine ⟨fun c hc => ?_, ?_⟩
        · rw [sD_ne (by omega), sD_ne (by omega), show b + 29 + 2 * 15 = b + 28 + 2 * 15 + 1 by omega, pD_lt hc, sD_ne (by omega), f1 _ (by omega), show b + 2 + 2 * i + 1 = b + 3 + 2 * i by omega, if_pos rfl]
          exact hnm c hc
        · rw [sD_ne (by omega), sD_eq, if_pos rfl]
      · have r := r1 q (by omega)
        have o := h9 (q + 1) (by omega)
        refine ⟨fun c hc => ?_, ?_⟩
        · rw [sD_ne (by omega), sD_ne (by omega), pD_ne (by omega), sD_ne (by omega), r.1 c hc, if_neg h15, show b + 31 + 2 * q = b + 29 + 2 * (q + 1) by omega]
          exact o.1 c hc
        · rw [sD_ne (by omega), sD_nb h15, pD_ne (by omega), sD_ne (by omega), r.2, if_neg h15]
          exact o.2
    · rw [sD_ne (by omega), sD_ne (by omega), pD_ne (by omega), sD_ne (by omega), f1 _ (by omega)]
  · rw [if_pos (by omega), if_neg hu]
    have q2 := remember_put (ω := ω) (d := d) hb (show i < 12 by omega) (show tU T < 16 by omega) h6 none
    rw [q2]
    refine ⟨_, rfl, TS_num hO hTS (fun j hj => ?_) ?_ ?_ sD_eq rfl (fun q hq => ?_) (fun q hq => ?_) (fun q hq => ?_), fun c hc => ?_⟩
    · rw [sD_nb (by omega), sD_ne (by omega), pD_ne (by omega)]
    · rw [sD_nb (by omega), sD_ne (by omega), pD_ne (by omega)]; exact h4
    · rw [sD_nb (by omega), sD_ne (by omega), pD_ne (by omega)]; exact h5
    · have hq2 : q < tN T := hq
      exact PR_ne (by rw [sD_ne (by omega), sD_ne (by omega), pD_ne (by omega)]) (h7 q hq)
    · have hq2 : q < tP T := hq
      rw [sD_ne (by omega), sD_ne (by omega), pD_ne (by omega)]; exact h8 q hq
    · have hq2 : q < tU T + 1 := hq
      dsimp only [tu, tv]
      by_cases h15 : q = tU T
      · subst h15
        refine ⟨fun c hc => ?_, ?_⟩
        · rw [sD_ne (by omega), sD_ne (by omega), show b + 29 + 2 * tU T = b + 28 + 2 * tU T + 1 by omega, pD_lt hc, show b + 2 + 2 * i + 1 = b + 3 + 2 * i by omega, if_pos rfl]
          exact hnm c hc
        · rw [sD_ne (by omega), sD_eq, if_pos rfl]
      · have o := h9 q (by omega)
        refine ⟨fun c hc => ?_, ?_⟩
        · rw [sD_ne (by omega), sD_ne (by omega), pD_ne (by omega), if_neg h15]
          exact o.1 c hc
        · rw [sD_ne (by omega), sD_nb h15, pD_ne (by omega), if_neg h15]
          exact o.2
    · rw [sD_ne (by omega), sD_ne (by omega), pD_ne (by omega)]
theorem undoLatest_spec (hb : isT b) (hO : TOK T) (h : TS D b T) : ∃ D', Vl (d + 2) 101 0 [some (.inr (.inr (some b)))] [] (hp ω D) = some ((0, some (.inl (if tU T = 0 then -1 else ((tU T - 1 : Nat) : Int)))), hp ω D') ∧ TS D' b (if tU T = 0 then T else tUnd T) ∧ ∀ c, (c < b ∨ b + 61 ≤ c) → D' c = D c := by
  have h16 := hO.2.2.2.1
  have hTS := h
  obtain ⟨⟨a0, a1, a2, a3⟩, h4, h5, h6, h7, h8, h9⟩ := h
  rw [vT_undoLatest_0, aGF (kT hb), hD, h6]
  by_cases h0 : tU T = 0
  · rw [if_pos (by omega), vT_undoLatest_17, if_pos h0, if_pos h0]
    exact ⟨D, rfl, hTS, fun _ _ => rfl⟩
  rw [if_neg (by omega), vT_undoLatest_8, aGF (kT hb), hD, h6, if_neg (by omega), if_neg h0, if_neg h0]
  have hv := hO.2.2.2.2.2.2 (tU T - 1) (by omega)
  have h12 := hO.2.1
  obtain ⟨D1, hD1⟩ : ∃ D1, D1 = sD D b 6 ((tU T - 1 : Nat) : Int) := ⟨_, rfl⟩
  have e6 : D1 b 6 = ((tU T - 1 : Nat) : Int) := by rw [hD1, sD_eq]
  have T1 : TS D1 b (tF T, tN T, tn T, tP T, tp T, tU T - 1, tu T, tv T) := TS_num hO hTS (fun j hj => by rw [hD1, sD_nb (by omega)]) (by rw [hD1, sD_nb (by omega)]; exact h4) (by rw [hD1, sD_nb (by omega)]; exact h5) e6 rfl (fun i hi => PR_ne (by rw [hD1, sD_ne (by omega)]) (h7 i hi)) (fun i hi => by rw [hD1, sD_ne (by omega)]; exact h8 i hi) (fun i hi => by
    have hi2 : i < tU T - 1 := hi
    exact ⟨PR_ne (by rw [hD1, sD_ne (by omega)]) (h9 i (by omega)).1, by rw [hD1, sD_ne (by omega)]; exact (h9 i (by omega)).2⟩)
  have O1 : TOK (tF T, tN T, tn T, tP T, tp T, tU T - 1, tu T, tv T) := ⟨hO.1, hO.2.1, hO.2.2.1, by show tU T - 1 ≤ 16; omega, hO.2.2.2.2.1, hO.2.2.2.2.2.1, fun i hi => hO.2.2.2.2.2.2 i (by have hi2 : i < tU T - 1 := hi; omega)⟩
  have RU : PR D1 (b + 28 + 2 * (tU T - 1) + 1) (tu T (tU T - 1)) := by
    rw [show b + 28 + 2 * (tU T - 1) + 1 = b + 29 + 2 * (tU T - 1) by omega]
    exact PR_ne (by rw [hD1, sD_ne (by omega)]) (h9 (tU T - 1) (by omega)).1
  have eV : D1 (b + 60) (tU T - 1) = (tv T (tU T - 1) : Int) := by rw [hD1, sD_ne (by omega)]; exact (h9 (tU T - 1) (by omega)).2
  obtain ⟨D2, q2, r2, f2⟩ := putName_spec (ω := ω) (d := d) hb O1 T1 (i := tv T (tU T - 1)) (Nat.le_of_lt hv.2) (by omega) (pT_27 hb (show tU T - 1 < 16 by omega)) RU
  have e62 : D2 b 6 = ((tU T - 1 : Nat) : Int) := r2.2.2.2.1
  refine ⟨D2, ?_, r2, fun c hc => by rw [f2 c (by omega) (by omega), hD1, sD_ne (by omega)]⟩
  rw [vT_undoLatest_19, aGF (kT hb), aGF (kT hb), hD, h6, aLt, hwD, show w32 ((tU T : Int) - 1) = ((tU T - 1 : Nat) : Int) by unfold w32; omega, ← hD1, aGF (kT hb), aGF (kT hb), hD, e6, rT_10 hb, aIA (kT_60 hb), if_pos (by omega), Int.toNat_natCast, eV, aGF (kT hb), aGF (kT hb), hD, e6, rT_9 hb, aAA (kT_27 hb), if_pos (by omega), Int.toNat_natCast, rT_1027 hb (show tU T - 1 < 16 by omega), aGF (kT hb), q2, aVC]
  show Vl (d + 2) 101 51 _ [] _ = _
  rw [vT_undoLatest_51, aGF (kT hb), hD, e62]
end STATE2
/-- the tape: so many bytes -/
def TA (D : jD) (n : Nat) (t : Nat → Nat) : Prop := D 1 1 = (n : Int) ∧ n ≤ 540 ∧ ∀ i, i < n → D 2 i = (t i : Int) ∧ t i < 256
def byo (x : Int) (s : Nat) : Nat := u32 x / 2 ^ s % 256
theorem byo_lt (x : Int) (s : Nat) : byo x s < 256 := Nat.mod_lt _ (by decide)
theorem byo_eq (x : Int) {s : Nat} (hs : s < 32) : jand (jush x (s : Int)) 255 = (byo x s : Int) := by
  have h1 := u32_lt x
  have h2 : u32 x / 2 ^ s < 4294967296 := Nat.lt_of_le_of_lt (Nat.div_le_self _ _) h1
  unfold jand jush
  rw [s32_n hs, u32_w, u32_n h2, show u32 255 = 2 ^ 8 - 1 from rfl, Nat.and_two_pow_sub_one_eq_mod]
  exact w32_n (Nat.lt_of_lt_of_le (Nat.mod_lt _ (by decide)) (by decide))
def tbn (x : Int) : Nat → (Nat → Nat) → Nat → (Nat → Nat)
  | 0, t, _ => t
  | n + 1, t, l => tbn x n (fun q => if q = l then byo x (8 * n) else t q) (l + 1)
section TAPE
variable {ω : jw} {D : jD} {d : Nat}
theorem putNumber_loop (x : Int) : ∀ (n l : Nat) (t : Nat → Nat) (D : jD), n ≤ 4 → TA D l t → l + n ≤ 540 → ∃ D', Vl d 21 3 [some (.inr (.inr (some 1))), some (.inl x), some (.inl (8 * (n : Int) - 8))] [] (hp ω D) = some ((0, none), hp ω D') ∧ TA D' (l + n) (tbn x n t l) ∧ ∀ c, c ≠ 1 → c ≠ 2 → D' c = D c
  | 0, l, t, D, _, h, hl => ⟨D, by rw [vA_putNumber_3, if_pos (by omega), vA_putNumber_56], h, fun _ _ _ => rfl⟩
  | n + 1, l, t, D, hn, h, hl => by
    have e1 : (sD D 2 l (byo x (8 * n) : Int)) 1 1 = (l : Int) := by rw [sD_ne (by decide)]; exact h.1
    obtain ⟨D', q, r, f⟩ := putNumber_loop x n (l + 1) (fun q => if q = l then byo x (8 * n) else t q) (sD (sD D 2 l (byo x (8 * n) : Int)) 1 1 ((l + 1 : Nat) : Int)) (by omega) ⟨sD_eq, by omega, fun i hi => by
      dsimp only
      by_cases hil : i = l
      · subst hil
        rw [sD_ne (by decide), sD_eq, if_pos rfl]; exact ⟨rfl, byo_lt _ _⟩
      · rw [sD_ne (by decide), sD_nb hil, if_neg hil]; exact h.2.2 i (by omega)⟩ (by omega)
    refine ⟨D', ?_, by rw [show l + (n + 1) = l + 1 + n by omega]; exact r, fun c h1 h2 => by rw [f c h1 h2, sD_ne h1, sD_ne h2]⟩
    rw [vA_putNumber_3, if_neg (by omega), vA_putNumber_7, aGF kA, hD, h.1, if_neg (by omega), vA_putNumber_14, aGF kA, hD, h.1, if_pos (by omega), vA_putNumber_24, aGF kA, aGF kA, hD, h.1, rA_0, aIS kA_0, if_pos (by omega), Int.toNat_natCast, show (8 * ((n + 1 : Nat) : Int) - 8) = ((8 * n : Nat) : Int) by omega, byo_eq x (show 8 * n < 32 by omega), aGF kA, aGF kA, hD, e1, aLt, hwD, w32_s (by omega), vA_putNumber_50, show w32 (((8 * n : Nat) : Int) + (-8)) = 8 * (n : Int) - 8 by unfold w32; omega, q]
theorem putNumber_spec (x : Int) {l : Nat} {t : Nat → Nat} (h : TA D l t) (hl : l + 4 ≤ 540) : ∃ D', Vl d 21 0 [some (.inr (.inr (some 1))), some (.inl x), none] [] (hp ω D) = some ((0, none), hp ω D') ∧ TA D' (l + 4) (tbn x 4 t l) ∧ ∀ c, c ≠ 1 → c ≠ 2 → D' c = D c := by
  have := putNumber_loop (ω := ω) (d := d) x 4 l t D (by decide) h hl
  rw [vA_putNumber_0]
  exact this
theorem byteAt_spec {l : Nat} {t : Nat → Nat} (h : TA D l t) {p : Nat} (hp1 : p < l) : Vl d 25 0 [some (.inr (.inr (some 1))), some (.inl (p : Int))] [] (hp ω D) = some ((0, some (.inl (t p : Int))), hp ω D) := by
  have := h.2.1
  rw [vA_byteAt_0, if_neg (by omega), vA_byteAt_4, if_pos (by omega), vA_byteAt_11, aGF kA, rA_0, aIA kA_0, if_pos (by omega), vA_byteAt_21, Int.toNat_natCast, (h.2.2 p hp1).1]
theorem byteAt_any {p : Nat} (hp1 : p < 540) : Vl d 25 0 [some (.inr (.inr (some 1))), some (.inl (p : Int))] [] (hp ω D) = some ((0, some (.inl (D 2 p))), hp ω D) := by
  rw [vA_byteAt_0, if_neg (by omega), vA_byteAt_4, if_pos (by omega), vA_byteAt_11, aGF kA, rA_0, aIA kA_0, if_pos (by omega), vA_byteAt_21, Int.toNat_natCast]
end TAPE
