/-! THE REFERENCE'S METHODS: the shortest register, the act -/
section MREG3
variable {ρ : jr2} {D D' : jD} {d : Nat} {Φ : gF} {A : aA} {T : aT}
theorem mregs {N t : Nat} (hN : N ≤ 16) (ht : t ≤ N) {row : Nat → Nat} (hrow : ∀ i, row i < 2 ^ Φ.1) (hF : MF Φ D) (h2 : ∀ q, q < N → D 520 q = (row q : Int)) : ∃ D', Vl (d + 2) 292 0 [some (.inr (.inr (some 488))), some (.inl (N : Int)), some (.inl (t : Int)), some (.inr (.inr (some 538))), none, none, none, none, none, none, none, none] [] (hp (1, ρ) D) = some ((0, some (.inl (if rgOK Φ row N t = true then 1 else 0))), hp (1, ρ) D') ∧ (rgOK Φ row N t = true → ∀ b, 1 ≤ b → b ≤ t → D' 538 b = (rgT Φ row N t b : Int)) ∧ ∀ q, q ≠ 536 → q ≠ 538 → D' q = D q := by
  obtain ⟨D1, u1, q1, W1, f1⟩ := mgFill (d := d) (ρ := ρ) hN hrow (N - t) t D none (by omega) (Nat.le_refl t) hF h2 (fun r hr => absurd hr (by omega))
  have c0 := chain (fun k => Vl (d + 2) 292 95 [some (.inr (.inr (some 488))), some (.inl (N : Int)), some (.inl (t : Int)), some (.inr (.inr (some 538))), some (.inl (((N - t : Nat) : Int))), some (.inl (0)), some (.inl ((k : Int))), none, none, none, none, none] [] (hp (1, ρ) (pDn D1 538 k (fun _ => 0)))) (t + 1) (fun k hk => by

    rw [vM_registers_95, if_neg (by omega), vM_registers_101, mIS m538, if_pos (by omega), Int.toNat_natCast, w32_s (by omega), pDn_s rfl])

  rw [pDn_0, show ((0 : Nat) : Int) = 0 from rfl] at c0
  obtain ⟨D2, v7, v8, v9, v10, v11, q2, W2, d2, s2, b2, f2⟩ := mgSolve (d := d) (ρ := ρ) (Φ := Φ) (N := N) (cnt := N - t) (t := t) (by omega) (by omega) t (flR Φ row t) 0 (fun _ => -1) (pDn D1 538 (t + 1) (fun _ => 0)) none none none none none (Nat.le_refl t) (MF_cg hF (by rw [pDn_ne (by decide), f1 488 (by decide)])) (fun r hr k hk => by rw [pDn_ne (by decide)]; exact W1 r hr k hk) (flR_in hF.1 hrow t) (Nat.zero_le _) (fun _ _ => rfl) (fun b h1 h2 => by rw [pDn_lt (by omega)]; rfl) (fun b => by
    show -1 ≤ (-1 : Int) ∧ (-1 : Int) < _
    omega)
  have f3 : ∀ q, q ≠ 536 → q ≠ 538 → D2 q = D q := fun q a b => by rw [f2 q a b, pDn_ne b, f1 q a]
  have q3 := mgZer (d := d + 2) (ρ := ρ) (N := N) (show N - t ≤ 16 by omega) (show t ≤ 16 by omega) W2 ((slv Φ (N - t) t (flR Φ row t) 0 (fun _ => -1)).2.1 : Int) v7 v8 v9 v10 v11 (N - t - (slv Φ (N - t) t (flR Φ row t) 0 (fun _ => -1)).2.1) (slv Φ (N - t) t (flR Φ row t) 0 (fun _ => -1)).2.1 (by omega)
  obtain ⟨D4, q4, a4, -, f4⟩ := mgTo (d := d + 2) (ρ := ρ) (N := N) (show N - t ≤ 16 by omega) (show t ≤ 16 by omega) b2 ((N - t : Nat) : Int) ((slv Φ (N - t) t (flR Φ row t) 0 (fun _ => -1)).2.1 : Int) v7 v8 v9 v10 v11 t 1 D2 (by omega) W2 (fun y h1 h2 => s2 y h1 h2)
  rw [show ((0 : Nat) : Int) = 0 from rfl] at q2
  rw [show ((1 : Nat) : Int) = 1 from rfl] at q4
  have e0 : Vl (d + 2) 292 0 [some (.inr (.inr (some 488))), some (.inl (N : Int)), some (.inl (t : Int)), some (.inr (.inr (some 538))), none, none, none, none, none, none, none, none] [] (hp (1, ρ) D) = if zer (slv Φ (N - t) t (flR Φ row t) 0 (fun _ => -1)).1 (N - t - (slv Φ (N - t) t (flR Φ row t) 0 (fun _ => -1)).2.1) (slv Φ (N - t) t (flR Φ row t) 0 (fun _ => -1)).2.1 = true then some ((0, some (.inl 1)), hp (1, ρ) D4) else some ((0, some (.inl 0)), hp (1, ρ) D2) := by
    rw [vM_registers_0, q1, vM_registers_84, show w32 ((N : Int) - (t : Int)) = ((N - t : Nat) : Int) from by unfold w32; omega, c0, vM_registers_95, if_pos (by omega), vM_registers_112, show w32 ((t : Int) - 1) = (t : Int) - 1 from by unfold w32; omega, q2, vM_registers_417, q3, vM_registers_451, q4]
  rw [e0]
  by_cases hk : rgOK Φ row N t = true
  · have hk' : zer (slv Φ (N - t) t (flR Φ row t) 0 (fun _ => -1)).1 (N - t - (slv Φ (N - t) t (flR Φ row t) 0 (fun _ => -1)).2.1) (slv Φ (N - t) t (flR Φ row t) 0 (fun _ => -1)).2.1 = true := hk
    rw [if_pos hk', if_pos hk]
    exact ⟨D4, rfl, fun _ b h1 h2 => a4 b h1 h2, fun q a b => by rw [f4 q b, f3 q a b]⟩
  · have hk' : ¬ zer (slv Φ (N - t) t (flR Φ row t) 0 (fun _ => -1)).1 (N - t - (slv Φ (N - t) t (flR Φ row t) 0 (fun _ => -1)).2.1) (slv Φ (N - t) t (flR Φ row t) 0 (fun _ => -1)).2.1 = true := hk
    rw [if_neg hk', if_neg hk]
    exact ⟨D2, rfl, fun z => absurd z hk, f3⟩
theorem mregF {N : Nat} (hN : N ≤ 16) {row : Nat → Nat} (hrow : ∀ i, row i < 2 ^ Φ.1) : ∀ (m t : Nat) (D : jD), t + m = N → MF Φ D → (∀ q, q < N → D 520 q = (row q : Int)) → ∃ D', Vl (d + 3) 291 24 [some (.inr (.inr (some 488))), some (.inl (N : Int)), some (.inl (t : Int)), none] [] (hp (1, ρ) D) = Vl (d + 3) 291 43 [some (.inr (.inr (some 488))), some (.inl (N : Int)), some (.inl (rgF Φ row N m t : Int)), none] [] (hp (1, ρ) D') ∧ (∀ b, 1 ≤ b → b ≤ rgF Φ row N m t → D' 538 b = (rgT Φ row N (rgF Φ row N m t) b : Int)) ∧ ∀ q, q ≠ 536 → q ≠ 538 → D' q = D q := by
  intro m
  induction m with
  | zero =>
    intro t D hmt hF h2
    obtain rfl : t = N := by omega
    obtain ⟨D1, q1, r1, f1⟩ := mregs (d := d) (ρ := ρ) hN (Nat.le_refl t) hrow hF h2
    rw [rgOK_end, if_pos rfl] at q1
    refine ⟨D1, ?_, r1 (rgOK_end Φ row t), f1⟩
    rw [vM_register_24]
    simp only [mGF m488, mr70]
    rw [q1, aVC, tlS, vM_register_34, if_neg j10]; rfl
  | succ m ih =>
    intro t D hmt hF h2
    obtain ⟨D1, q1, r1, f1⟩ := mregs (d := d) (ρ := ρ) hN (show t ≤ N by omega) hrow hF h2
    have st : Vl (d + 3) 291 24 [some (.inr (.inr (some 488))), some (.inl (N : Int)), some (.inl (t : Int)), none] [] (hp (1, ρ) D) = if rgOK Φ row N t = true then Vl (d + 3) 291 43 [some (.inr (.inr (some 488))), some (.inl (N : Int)), some (.inl (t : Int)), none] [] (hp (1, ρ) D1) else Vl (d + 3) 291 24 [some (.inr (.inr (some 488))), some (.inl (N : Int)), some (.inl ((t + 1 : Nat) : Int)), none] [] (hp (1, ρ) D1) := by
      rw [vM_register_24]
      simp only [mGF m488, mr70]
      rw [q1, aVC, tlS, vM_register_34]
      by_cases hk : rgOK Φ row N t = true
      · rw [if_pos hk, if_pos hk, if_neg j10]
      · rw [if_neg hk, if_neg hk, if_pos j00, vM_register_37, w32_s (by omega)]
    rw [st]
    unfold rgF
    by_cases hk : rgOK Φ row N t = true
    · rw [if_pos hk, if_pos hk]
      exact ⟨D1, rfl, r1 hk, f1⟩
    · obtain ⟨D2, q2, r2, f2⟩ := ih (t + 1) D1 (by omega) (MF_cg hF (f1 488 (by decide) (by decide))) (fun q hq => by rw [f1 520 (by decide) (by decide)]; exact h2 q hq)
      rw [if_neg hk, if_neg hk]
      exact ⟨D2, q2, r2, fun q a b => by rw [f2 q a b, f1 q a b]⟩
theorem mregister_op (h : MS D A) : MO ρ D (oRegister A).2 (oRegister A).1 (Vl (d + 3) 291 0 [some (.inr (.inr (some 488))), none, none, none] [] (hp (1, ρ) D)) := by
  have hB := mB_MS h
  have hF := mB_MF h
  obtain ⟨D1, q1, m1, t1, z1, F1, f1⟩ := mtakeN (d := d + 1) (ρ := ρ) hB hF m520 (most := 16) (by decide) (by decide) (by unfold mK; decide) (by decide)
  unfold oRegister
  rw [show ((16 : Nat) : Int) = 16 from rfl] at q1
  rw [vM_register_0, mGF m488, mbegin h, aVC, tlN, vM_register_4]
  simp only [mGF m488, mr49]
  rw [q1, aVC, tlS, vM_register_14]
  have g1 : ∀ q, q < 488 → D1 q = D q := fun q hq => by rw [f1 q (by omega) (by omega), mB_ne (by omega)]
  have zz : D1 488 0 = 0 := by rw [z1]; exact mB_0
  by_cases h1 : Al A ≤ 16 ∧ allN A 0 (Al A) = true
  rotate_left
  · rw [if_neg h1, if_pos (show (-1 : Int) < 1 by decide), vM_register_20, if_neg (show ¬ ((1 ≤ Al A ∧ Al A ≤ 16) ∧ allN A 0 (Al A) = true) from fun z => h1 ⟨z.1.2, z.2⟩)]
    exact ⟨D1, rfl, m1, zz, g1⟩
  rw [if_pos h1]
  by_cases h0 : Al A < 1
  · rw [if_neg (show ¬ ((1 ≤ Al A ∧ Al A ≤ 16) ∧ allN A 0 (Al A) = true) from fun z => by omega), if_pos (show (Al A : Int) < 1 by omega), vM_register_20]
    exact ⟨D1, rfl, m1, zz, g1⟩
  rw [if_pos (show (1 ≤ Al A ∧ Al A ≤ 16) ∧ allN A 0 (Al A) = true from ⟨⟨by omega, h1.1⟩, h1.2⟩), if_neg (show ¬ (Al A : Int) < 1 by omega), vM_register_22]
  have ht := hAll_t hB hF.1 h1.2
  obtain ⟨D2, q2, r2, f2⟩ := mregF (d := d) (ρ := ρ) (Φ := aF A) h1.1 (row := rgW A) (fun i => by
    unfold rgW
    split
    · exact (ht i (by omega)).1
    · exact Nat.two_pow_pos _) (Al A) 0 D1 (Nat.zero_add _) F1 (fun q hq => by
    rw [t1 h1 q hq]
    unfold rgW; rw [if_pos hq])
  rw [show ((0 : Nat) : Int) = 0 from rfl] at q2
  have hle := rgF_le (aF A) (rgW A) (Al A) (Al A) 0
  generalize hl : rgF (aF A) (rgW A) (Al A) (Al A) 0 = l at q2 r2 hle ⊢
  obtain ⟨E, hE⟩ : ∃ E, E = sD D2 488 69 (l : Int) := ⟨_, rfl⟩
  have c0 := chain (fun k => Vl (d + 3) 291 50 [some (.inr (.inr (some 488))), some (.inl (Al A : Int)), some (.inl (l : Int)), some (.inl ((k + 1 : Nat) : Int))] [] (hp (1, ρ) (pOn E 537 1 k (fun b => (rgT (aF A) (rgW A) (Al A) l (b + 1) : Int))))) l (fun k hk => by

    have e1 : pOn E 537 1 k (fun b => (rgT (aF A) (rgW A) (Al A) l (b + 1) : Int)) 538 (k + 1) = (rgT (aF A) (rgW A) (Al A) l (k + 1) : Int) := by
      rw [pOn_far (by decide), hE, sD_ne (by decide)]; exact r2 _ (by omega) (by omega)
    rw [vM_register_50, if_neg (show ¬ (l : Int) < ((k + 1 : Nat) : Int) by omega), vM_register_55]
    simp only [mGF m488, mr68, mr70]
    have e2 := pOn_s (D := E) (c := 537) (b := 1) (n := k) (r := fun b => (rgT (aF A) (rgW A) (Al A) l (b + 1) : Int)) (v := (rgT (aF A) (rgW A) (Al A) l (k + 1) : Int)) rfl
    rw [Nat.add_comm 1 k] at e2
    rw [mIA m538, if_pos (by omega), Int.toNat_natCast, e1, mIS m537, if_pos (by omega), Int.toNat_natCast, w32_s (by omega), e2])

  rw [pOn_0, show ((0 + 1 : Nat) : Int) = 1 from rfl] at c0
  rw [q2, vM_register_43, mGF m488, aLt, hwD, ← hE, c0, vM_register_50, if_pos (show (l : Int) < ((l + 1 : Nat) : Int) by omega), vM_register_73]
  have nE : ∀ q, q ≠ 488 → q ≠ 536 → q ≠ 537 → q ≠ 538 → pOn E 537 1 l (fun b => (rgT (aF A) (rgW A) (Al A) l (b + 1) : Int)) q = D1 q := fun q a b c e => by rw [pOn_far c, hE, sD_ne a, f2 q b e]
  have n8 : ∀ j, j ≠ 69 → pOn E 537 1 l (fun b => (rgT (aF A) (rgW A) (Al A) l (b + 1) : Int)) 488 j = D1 488 j := fun j hj => by rw [pOn_far (by decide), hE, sD_nb hj, f2 488 (by decide) (by decide)]
  obtain ⟨⟨a1, a2, a3⟩, b, c, e, f, g1', g2, g3, g4⟩ := m1
  have k518 := nE 518 (by decide) (by decide) (by decide) (by decide)
  refine ⟨_, rfl, ⟨⟨by rw [n8 2 (by decide)]; exact a1, a2, fun i hi => absurd hi (Nat.not_lt_zero _)⟩, b, MT_cg c (nE 490 (by decide) (by decide) (by decide) (by decide)), fun k hk2 => ⟨by rw [nE 496 (by decide) (by decide) (by decide) (by decide)]; exact (e k hk2).1, fun z => ⟨((e k hk2).2 z).1, MT_cg ((e k hk2).2 z).2 (nE 492 (by decide) (by decide) (by decide) (by decide))⟩⟩, fun k hk4 => ⟨(f k hk4).1, fun j hj => by rw [k518]; exact (f k hk4).2 j hj⟩, by rw [n8 37 (by decide)]; exact g1', ?_, ?_, fun i z1 z2 => ?_⟩, by rw [n8 0 (by decide)]; exact zz, fun q hq => by rw [nE q (by omega) (by omega) (by omega) (by omega), g1 q hq]⟩
  · show l ≤ 16
    omega
  · rw [pOn_far (by decide), hE]; exact sD_eq
  · have z3 : i ≤ l := z2
    obtain ⟨k, rfl⟩ : ∃ k, i = 1 + k := ⟨i - 1, by omega⟩
    rw [pOn_in (by omega), show k + 1 = 1 + k by omega]
end MREG3
