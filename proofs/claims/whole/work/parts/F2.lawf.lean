/-! THE LAW'S RUN, as the machine needs it: from an empty heap; how much it makes -/
theorem KL_sum : (KL0.map jks).sum + (KLm.map jks).sum ≤ 7000000 := by decide +kernel
theorem law_fin {D0 : jD} {N : Nat} (hs : ∀ j, -2147483648 ≤ D0 1000000 j ∧ D0 1000000 j < 2147483648) (hN : D0 1000001 0 = (N : Int)) (hN2 : N ≤ 3072) (hz : ∀ a, a < 1000000 → ∀ i, D0 a i = 0) :
    ∃ (n : Nat) (h0 hE : jh), h0.1 = [] ∧ (∀ c i, gD h0 c i = D0 c i) ∧ (∀ c i, gL h0 c i = 0) ∧ prun n 49 297 0 [some (.inr (.inr (some jSCR))), none, none, none, none, none, none] [] h0 = some ((0, some (.inl 1)), hE) ∧ hE.1.length ≤ 600000 ∧ jsz hE ≤ 7293034 := by
  obtain ⟨ω, D', h1, h2, h3⟩ := law_run (d := 0) hs hN hN2 hz
  obtain ⟨n, hn⟩ := Vl_run h1
  refine ⟨n, hx D0 0 1077 [], hp ω D', rfl, fun c i => rfl, fun c i => rfl, hn, ?_, ?_⟩
  · rw [hp_len h2]; omega
  · show ((KQ ω.1 ω.2.2.1).map jks).sum ≤ _
    unfold KQ
    have e : ((List.replicate ω.2.2.1 ((0, 14) : Nat × Nat)).map jks).sum = ω.2.2.1 * 6 := by
      rw [List.map_replicate, show jks (0, 14) = 6 from rfl]
      generalize ω.2.2.1 = r
      induction r with
      | zero => rfl
      | succ r ih => rw [List.replicate_succ, List.sum_cons, ih]; omega
    rw [h2, if_neg (by decide), List.map_append, List.sum_append, List.map_append, List.sum_append, e]
    have := KL_sum
    omega
