/-! THE REFERENCE'S DIVISION -/
def dCl (c : Nat) : Prop := KM c (1, 17) ∧ c ≠ 488 ∧ (c < 497 ∨ 501 < c)
section MDIV
variable {ρ : jr2} {D : jD} {d : Nat} {Φ : gF}
theorem fT_fi (h : FOK Φ) (k : Nat) {a : Nat} (ha : a < 2 ^ Φ.1) (h0 : a ≠ 0) : fi Φ (fT Φ k a) = fT Φ k (fi Φ a) := by
  have hz := fT_nz h k ha h0
  unfold fi
  rw [if_neg hz, if_neg h0]
  exact (gsn_i h.1 _ ha h0).symm
theorem mdiv_steps {n N : Nat} (hN : N + n < 17) {G : pl} (iG : inF Φ G) (o1 o2 o4 o5 : Option Nat) (x3 : Int) : ∀ (m k : Nat) (D : jD), k + m = N + 1 → MF Φ D → (k ≤ N → PR D 501 (pSi Φ k G)) → (∀ i, i < k → PRo D 500 (17 * i) (pSi Φ i G)) →
    ∃ D', Vl (d + 6) 229 51 [some (.inr (.inr (some 488))), some (.inr (.inr o1)), some (.inr (.inr o2)), some (.inl x3), some (.inr (.inr o4)), some (.inr (.inr o5)), some (.inl (n : Int)), some (.inl ((N + n : Nat) : Int)), some (.inl (k : Int)), none, none] [] (hp (1, ρ) D) = Vl (d + 6) 229 102 [some (.inr (.inr (some 488))), some (.inr (.inr o1)), some (.inr (.inr o2)), some (.inl x3), some (.inr (.inr o4)), some (.inr (.inr o5)), some (.inl (n : Int)), some (.inl ((N + n : Nat) : Int)), some (.inl ((N + 1 : Nat) : Int)), none, none] [] (hp (1, ρ) D') ∧ (∀ i, i ≤ N → PRo D' 500 (17 * i) (pSi Φ i G)) ∧ ∀ q, q ≠ 500 → q ≠ 501 → D' q = D q
  | 0, k, D, hk, hF, RP, RS => by
    obtain rfl : k = N + 1 := by omega
    refine ⟨D, ?_, fun i hi => RS i (by omega), fun _ _ _ => rfl⟩
    rw [vM_divide_51, show w32 (((N + n : Nat) : Int) - (n : Int)) = (N : Int) from by unfold w32; omega, if_pos (by omega)]
  | m + 1, k, D, hk, hF, RP, RS => by
    have RP' := RP (by omega)
    have iS := pSi_in hF.1 iG k
    have ew : w32 (((N + n : Nat) : Int) - (n : Int)) = (N : Int) := by unfold w32; omega
    have q1 := mcopy (d := d + 5) (ρ := ρ) (a := 0) (b := 17 * k) m501 m500 (by decide) (by omega) (by decide) (Or.inl (by decide)) (PRo_0 RP')
    have RS1 : ∀ i, i < k + 1 → PRo (pOn D 500 (17 * k) 17 (rI (pSi Φ k G))) 500 (17 * i) (pSi Φ i G) := fun i hi b hb => by
      by_cases e : i = k
      · rw [e, pOn_in hb]; rfl
      · rw [pOn_ne (Or.inr (by omega))]; exact RS i (by omega) b hb
    have RP1 : PR (pOn D 500 (17 * k) 17 (rI (pSi Φ k G))) 501 (pSi Φ k G) := PR_ne (pOn_far (by decide)) RP'
    have hF1 : MF Φ (pOn D 500 (17 * k) 17 (rI (pSi Φ k G))) := MF_cg hF (pOn_far (by decide))
    rw [vM_divide_51, ew, if_neg (by omega), vM_divide_61, mGF m488, mGF m488, mr18, mr17, show w32 (17 * (k : Int)) = ((17 * k : Nat) : Int) from by unfold w32; omega, show (0 : Int) = ((0 : Nat) : Int) from rfl, q1, aVC, tlN, vM_divide_78, ew]
    by_cases hkN : k < N
    · have q2 := mshift (d := d + 2) (ρ := ρ) hF1 m501 (by decide) (by decide) RP1 iS
      obtain ⟨D', r1, r2, r3⟩ := mdiv_steps hN iG o1 o2 o4 o5 x3 m (k + 1) (pD (pOn D 500 (17 * k) 17 (rI (pSi Φ k G))) 501 (rI (pS Φ (pSi Φ k G)))) (by omega) (MF_cg hF1 (pD_ne (by decide))) (fun _ => pD_PR) (fun i hi b hb => by rw [pD_ne (by decide)]; exact RS1 i hi b hb)
      refine ⟨D', ?_, r2, fun q a1 a2 => by rw [r3 q a1 a2, pD_ne a2, pOn_far a1]⟩
      rw [if_pos (by omega), vM_divide_88, mGF m488, mGF m488, mr18, q2, aVC, tlN, vM_divide_96, w32_s (by omega)]
      exact r1
    · obtain ⟨D', r1, r2, r3⟩ := mdiv_steps hN iG o1 o2 o4 o5 x3 m (k + 1) (pOn D 500 (17 * k) 17 (rI (pSi Φ k G))) (by omega) hF1 (fun z => absurd z (by omega)) RS1
      refine ⟨D', ?_, r2, fun q a1 a2 => by rw [r3 q a1 a2, pOn_far a1]⟩
      rw [if_neg (by omega), vM_divide_96, w32_s (by omega)]
      exact r1
/-- one step from the right: the row of the step is taken away -/
theorem mdiv_right (hF : MF Φ D) {cr : Nat} (hr : dCl cr) {n k v : Nat} (hk : k + n < 17) {L S : pl} (RL : PR D cr L) (iL : inF Φ L) (RS : PRo D 500 (17 * k) S) (iS : inF Φ S) (hv : v < 2 ^ Φ.1) (o1 o2 o4 : Option Nat) (x3 : Int) : Vl (d + 6) 229 248 [some (.inr (.inr (some 488))), some (.inr (.inr o1)), some (.inr (.inr o2)), some (.inl x3), some (.inr (.inr o4)), some (.inr (.inr (some cr))), some (.inl (n : Int)), some (.inl ((k + n : Nat) : Int)), some (.inl (k : Int)), some (.inl (v : Int)), some (.inl 0)] [] (hp (1, ρ) D) = Vl (d + 6) 229 288 [some (.inr (.inr (some 488))), some (.inr (.inr o1)), some (.inr (.inr o2)), some (.inl x3), some (.inr (.inr o4)), some (.inr (.inr (some cr))), some (.inl (n : Int)), some (.inl ((k + n : Nat) : Int)), some (.inl (k : Int)), some (.inl (v : Int)), some (.inl ((k + n + 1 : Nat) : Int))] [] (hp (1, ρ) (pDn D cr (k + n + 1) (rI (pA L (pM Φ v S))))) := by
  have h256 := F_256 hF.1
  obtain ⟨h1, h2, h3⟩ := hr
  have c0 := chain (fun j => Vl (d + 6) 229 248 [some (.inr (.inr (some 488))), some (.inr (.inr o1)), some (.inr (.inr o2)), some (.inl x3), some (.inr (.inr o4)), some (.inr (.inr (some cr))), some (.inl (n : Int)), some (.inl ((k + n : Nat) : Int)), some (.inl (k : Int)), some (.inl (v : Int)), some (.inl (j : Int))] [] (hp (1, ρ) (pDn D cr j (rI (pA L (pM Φ v S)))))) (k + n + 1) (fun j hj => by

    have hFj : MF Φ (pDn D cr j (rI (pA L (pM Φ v S)))) := MF_cg hF (pDn_ne (fun e => h2 e.symm))
    have e1 : pDn D cr j (rI (pA L (pM Φ v S))) cr j = (L j : Int) := by rw [pDn_ge (Nat.le_refl j)]; exact RL j (by omega)
    have e2 : pDn D cr j (rI (pA L (pM Φ v S))) 500 (17 * k + j) = (S j : Int) := by rw [pDn_ne (by omega)]; exact RS j (by omega)
    have q1 := mmul (d := d + 5) (ρ := ρ) hFj hv (iS j)
    have l1 := iL j
    have l2 := fm_lt (b := S j) hF.1 hv
    rw [vM_divide_248, if_neg (by omega), vM_divide_255, mIA h1, if_pos (by omega), Int.toNat_natCast, e1, mGF m488, mr17, show w32 (17 * (k : Int)) = ((17 * k : Nat) : Int) from by unfold w32; omega, w32_ad (by omega), mIA m500, if_pos (by omega), Int.toNat_natCast, e2, mGF m488, q1, aVC, tlS, vM_divide_280, mIS h1, if_pos (by omega), Int.toNat_natCast, jxor_n (by omega) (by omega), w32_s (by omega), pDn_s (show ((L j ^^^ fm Φ v (S j) : Nat) : Int) = rI (pA L (pM Φ v S)) j from rfl)])

  rw [pDn_0] at c0
  rw [show (0 : Int) = ((0 : Nat) : Int) from rfl, c0, vM_divide_248, if_pos (by omega)]
/-- one step from the left -/
theorem mdiv_left (hF : MF Φ D) {cr : Nat} (hr : dCl cr) {n k : Nat} (hk : k + n < 17) {L S : pl} (RL : PR D cr L) (iL : inF Φ L) (RS : PR D 501 S) (iS : inF Φ S) (o1 o2 o4 : Option Nat) (x3 x7 x9 : Int) : Vl (d + 6) 229 176 [some (.inr (.inr (some 488))), some (.inr (.inr o1)), some (.inr (.inr o2)), some (.inl x3), some (.inr (.inr o4)), some (.inr (.inr (some cr))), some (.inl (n : Int)), some (.inl x7), some (.inl (k : Int)), some (.inl x9), some (.inl 0)] [] (hp (1, ρ) D) = Vl (d + 6) 229 288 [some (.inr (.inr (some 488))), some (.inr (.inr o1)), some (.inr (.inr o2)), some (.inl x3), some (.inr (.inr o4)), some (.inr (.inr (some cr))), some (.inl (n : Int)), some (.inl x7), some (.inl (k : Int)), some (.inl x9), some (.inl ((n + 1 : Nat) : Int))] [] (hp (1, ρ) (pOn D cr k (n + 1) (fun j => ((L (k + j) ^^^ S j : Nat) : Int)))) := by
  have h256 := F_256 hF.1
  obtain ⟨h1, h2, h3⟩ := hr
  have c0 := chain (fun j => Vl (d + 6) 229 176 [some (.inr (.inr (some 488))), some (.inr (.inr o1)), some (.inr (.inr o2)), some (.inl x3), some (.inr (.inr o4)), some (.inr (.inr (some cr))), some (.inl (n : Int)), some (.inl x7), some (.inl (k : Int)), some (.inl x9), some (.inl (j : Int))] [] (hp (1, ρ) (pOn D cr k j (fun j => ((L (k + j) ^^^ S j : Nat) : Int))))) (n + 1) (fun j hj => by

    have e1 : pOn D cr k j (fun j => ((L (k + j) ^^^ S j : Nat) : Int)) cr (j + k) = (L (k + j) : Int) := by rw [pOn_ne (Or.inr (by omega)), Nat.add_comm j k]; exact RL (k + j) (by omega)
    have e2 : pOn D cr k j (fun j => ((L (k + j) ^^^ S j : Nat) : Int)) 501 j = (S j : Int) := by rw [pOn_far (by omega)]; exact RS j (by omega)
    have l1 := iL (k + j)
    have l2 := iS j
    rw [vM_divide_176, if_neg (by omega), vM_divide_183, w32_ad (by omega), mIA h1, if_pos (by omega), Int.toNat_natCast, e1, mGF m488, mr18, mIA m501, if_pos (by omega), Int.toNat_natCast, e2, mIS h1, if_pos (by omega), Int.toNat_natCast, jxor_n (by omega) (by omega), w32_s (by omega), Nat.add_comm j k, pOn_s (c := cr) (b := k) (n := j) (r := fun j => ((L (k + j) ^^^ S j : Nat) : Int)) rfl])

  rw [pOn_0] at c0
  rw [show (0 : Int) = ((0 : Nat) : Int) from rfl, c0, vM_divide_176, if_pos (by omega), vM_divide_207]
end MDIV
