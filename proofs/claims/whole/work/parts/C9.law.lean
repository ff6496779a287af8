/-! THE LAW: a call of the class and one of the reference -/
def SC (D0 D : jD) : Prop := D 1000000 = D0 1000000 ∧ D 1000001 = D0 1000001
/-- what holds at the law's head, k exceptions made at most -/
def LI (D0 : jD) (k : Nat) (ω : jw) (D : jD) (A : aA) : Prop := (ω.1 = 1 ∧ wP ω ∧ ω.2.2.1 ≤ k ∧ k ≤ 1000) ∧ CS D A ∧ MS D A ∧ SC D0 D
/-- a run of the class's method -/
def CO (ω : jw) (D : jD) (A' : aA) (x : Int) (run : Option jr) : Prop := ∃ ω' D', run = some ((0, some (.inl x)), hp ω' D') ∧ CS D' A' ∧ (∀ q, 488 ≤ q → D' q = D q) ∧ ω'.1 = ω.1 ∧ ω'.2.2.1 = ω.2.2.1 ∧ (wP ω → wP ω')
def lwL (x4 : Int) (u5 u6 : Option jv) : List (Option jv) := [some (.inr (.inr (some jSCR))), some (.inr (.inr (some 0))), some (.inr (.inr (some 488))), some (.inr (.inr (some 539))), some (.inl x4), u5, u6]
section LAW1
variable {D0 D D' : jD} {k : Nat} {ω : jw} {ρ : jr2} {A A' : aA} {x : Int} {run : Option jr} {d : Nat} {α : Type}
theorem CO_p (h : CS D A) (hr : run = some ((0, some (.inl x)), hp ω D)) : CO ω D A x run := ⟨ω, D, hr, h, fun _ _ => rfl, rfl, rfl, fun z => z⟩
theorem CO_d (h : ∃ D', run = some ((0, some (.inl x)), hp ω D') ∧ CS D' A' ∧ ∀ q, 488 ≤ q → D' q = D q) : CO ω D A' x run := by
  obtain ⟨D', a, b, c⟩ := h
  exact ⟨ω, D', a, b, c, rfl, rfl, fun z => z⟩
theorem CO_e (h : ∃ ω' D', run = some ((0, some (.inl x)), hp ω' D') ∧ CS D' A' ∧ wEq ω ω' ∧ ∀ q, 488 ≤ q → D' q = D q) : CO ω D A' x run := by
  obtain ⟨ω', D', a, b, c, e⟩ := h
  exact ⟨ω', D', a, b, e, c.1, c.2.2.1, fun z => by unfold wP at z ⊢; rw [c.2.1]; exact z⟩
theorem CO_g (h : ∃ ω' D', run = some ((0, some (.inl x)), hp ω' D') ∧ CS D' A' ∧ wG ω ω' ∧ ∀ q, 488 ≤ q → D' q = D q) : CO ω D A' x run := by
  obtain ⟨ω', D', a, b, c, e⟩ := h
  exact ⟨ω', D', a, b, e, c.1, by rw [c.2.1], c.2.2⟩
theorem CS_fr (h : CS D A) (hf : ∀ q, q < 488 → D' q = D q) : CS D' A := CS_same h (fun c hc => hf c (by unfold kept at hc; omega))
theorem MS_fr (h : MS D A) (hf : ∀ q, 488 ≤ q → q < 540 → D' q = D q) : MS D' A := MS_sc h (fun c hc => hf c (by unfold mK at hc; omega) (by unfold mK at hc; omega))
theorem hp_len (h1 : ω.1 = 1) : (hp ω D).1.length = 540 + ω.2.2.1 := by
  show (KQ ω.1 ω.2.2.1).length = _
  have h2 : KL0.length + KLm.length = 540 := by rw [← List.length_append]; exact KLx_len
  unfold KQ
  rw [h1, if_neg (by decide), List.length_append, List.length_append, List.length_replicate]
  omega
theorem hp_no (h1 : ω.1 = 1) (h2 : ω.2.2.1 ≤ 1000) {c : Nat} (hc : 1000000 ≤ c) : gK (hp ω D) c = none := by
  show (hp ω D).1[c]? = none
  rw [List.getElem?_eq_none]
  rw [hp_len h1]; omega
theorem sIA0 (hL : ω.1 = 1) (h2 : ω.2.2.1 ≤ 1000) (hS : SC D0 D) {i N : Nat} (hN : D0 1000001 0 = (N : Int)) (hi : i < N) (K : Int → Option α) : vIA (hp ω D) (some jSCR) (i : Int) K = K (D0 1000000 i) := by
  unfold vIA
  have hg : gK (hp ω D) jSCR = none := hp_no hL h2 (Nat.le_refl _)
  have e1 : gD (hp ω D) jLEN 0 = (N : Int) := by
    show D 1000001 0 = _
    rw [hS.2]; exact hN
  have e2 : ∀ j, gD (hp ω D) jSCR j = D0 1000000 j := fun j => by
    show D 1000000 j = _
    rw [hS.1]
  simp only [hg, e1, e2]
  rw [if_pos trivial, if_pos (show 0 ≤ (i : Int) ∧ (i : Int) < (N : Int) by omega), Int.toNat_natCast]
theorem sIA (hL : ω.1 = 1) (h2 : ω.2.2.1 ≤ 1000) (hS : SC D0 D) {i N : Nat} (hN : D0 1000001 0 = (N : Int)) (hN2 : N ≤ 3072) {c : Nat} {z : Int} (hz : z = (c : Int)) (hi : i + c < N) (K : Int → Option α) : vIA (hp ω D) (some jSCR) (w32 ((i : Int) + z)) K = K (D0 1000000 (i + c)) := by
  rw [hz, w32_ad (by omega)]
  exact sIA0 hL h2 hS hN hi K
theorem sLN (hL : ω.1 = 1) (h2 : ω.2.2.1 ≤ 1000) (hS : SC D0 D) (K : Int → Option α) : vLN (hp ω D) (some jSCR) K = K (D0 1000001 0) := by
  unfold vLN
  have hg : gK (hp ω D) jSCR = none := hp_no hL h2 (Nat.le_refl _)
  have e1 : gD (hp ω D) jLEN 0 = D0 1000001 0 := by
    show D 1000001 0 = _
    rw [hS.2]
  simp only [hg, e1]
  rw [if_pos trivial]
/-- the class, the reference: the same answer, the same state -/
theorem law_op {dd yy : Nat} {av : List (Option jv)} {K1 K2 : Option jv → jh → Option jr} {NEXT : jh → Option jr} (hL : LI D0 k ω D A) (hC : CO ω D A' x run) (hM : ∀ (ρ : jr2) (D' : jD), MS D' A → MOl ρ D' A' x (Vl dd yy 0 av [] (hp (1, ρ) D'))) (hK1 : ∀ (ρ : jr2) (D' : jD), SC D0 D' → ρ.2.1 ≤ 1000 → K1 (some (.inl x)) (hp (1, ρ) D') = vC (Vl dd yy 0 av [] (hp (1, ρ) D')) K2) (hK2 : ∀ (ρ : jr2) (D' : jD), SC D0 D' → ρ.2.1 ≤ 1000 → K2 (some (.inl x)) (hp (1, ρ) D') = NEXT (hp (1, ρ) D')) : ∃ ω2 D2, vC run K1 = NEXT (hp ω2 D2) ∧ LI D0 k ω2 D2 A' := by
  obtain ⟨⟨w1, w2, w3, w4⟩, hcs, hms, hs⟩ := hL
  obtain ⟨ω1, D1, a1, a2, a3, a4, a5, a6⟩ := hC
  obtain ⟨q, ρ1⟩ := ω1
  obtain rfl : q = 1 := a4.trans w1
  have s1 : SC D0 D1 := ⟨by rw [a3 _ (by decide)]; exact hs.1, by rw [a3 _ (by decide)]; exact hs.2⟩
  have r1 : ρ1.2.1 ≤ k := by
    have : ρ1.2.1 = ω.2.2.1 := a5
    omega
  obtain ⟨ρ2, D2, b1, b2, -, b4, b5, b6, -⟩ := hM ρ1 D1 (MS_fr hms (fun q h _ => a3 q h))
  have r2 : ρ2.2.1 ≤ k := by omega
  have hfar := fun c hc => Vl_far (c := c) b1 (by rw [hp_len rfl]; show 540 + ρ2.2.1 ≤ 1000000; omega) hc
  have s2 : SC D0 D2 := ⟨by rw [hfar _ (by decide)]; exact s1.1, by rw [hfar _ (by decide)]; exact s1.2⟩
  refine ⟨(1, ρ2), D2, ?_, ⟨rfl, ?_, r2, w4⟩, CS_fr a2 b4, b2, s2⟩
  · rw [a1, aVC, hK1 ρ1 D1 s1 (by omega), b1, aVC, hK2 ρ2 D2 s2 (by omega)]
  · have := a6 w2
    unfold wP at this ⊢
    rw [show ((1, ρ2) : jw).2.1 = ρ2.1 from rfl, b5]
    exact this
theorem LI_up (h : LI D0 k ω D A) (hk : k + 1 ≤ 1000) : LI D0 (k + 1) ω D A := ⟨⟨h.1.1, h.1.2.1, by have := h.1.2.2.1; omega, hk⟩, h.2⟩
end LAW1
