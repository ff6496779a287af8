/-! The class's Reader: words with brackets, atoms -/
theorem j10 : ¬ ((1 : Int) = 0) := by decide
theorem j00 : (0 : Int) = 0 := rfl
section EX3
variable {d : Nat} {ω : jw} {D D' D2 : jD} {X : sx} {t : tk} {B B' : Nat} {Φ : gF}
theorem ps_in {w : Nat} {e : Nat × Nat} (h : psW X w t = .inl e) : e = (1, t.2.1) := by
  unfold psW at h
  split at h
  · cases h
  · cases h; rfl
theorem what_spec {dp : Nat} {sub : Option (tk → pr)} {k : Int} (hk : 4 ≤ k) (hs : SUBOK ω X (d + 4) dp sub) (hd : dp < 7) (hE : EV D X) (hT : TKD D t) : PO ω D (216 + 9 * dp + 5) (216 + 9 * dp + 6) (tF (sA X)) (whP X sub k t) (Vl (d + 5) 56 0 [some (.inr (.inr (some 111))), some (.inl k), some (.inl (dp : Int)), none, none, none] [] (hp ω D)) := by
  unfold whP
  cases sub with
  | none =>
    have h6 : dp = 6 := hs
    refine PO_bad (D' := D) EF_refl ?_
    rw [vR_what_0, aGF kR, hD, hT.2.1, if_neg (by omega), vR_what_11, aGF kR, refuse_spec, aVC, tlS, vR_what_17, aZ0]; rfl
  | some S =>
    obtain ⟨h6, hS⟩ := hs
    have v0 := isV6 hd
    have v1 := isV6 (show dp + 1 < 7 by omega)
    have e0 : EF D (sT D (nx X t)) (216 + 9 * (dp + 1)) := EF_sT
    have hE0 : EV (sT D (nx X t)) X := EV_EF hE e0
    have q0 := scanX (ω := ω) (d := d + 2) hE hT
    have q1 := passX (ω := ω) (d := d + 1) (w := 40) hE0 sT_TKD
    have st : Vl (d + 5) 56 0 [some (.inr (.inr (some 111))), some (.inl k), some (.inl (dp : Int)), none, none, none] [] (hp ω D) = vC (Vl (d + 4) 43 0 [some (.inr (.inr (some 111))), some (.inl ((40 : Nat) : Int))] [] (hp ω (sT D (nx X t)))) (fun r1 h2 => Vl (d + 5) 56 28 [some (.inr (.inr (some 111))), some (.inl k), some (.inl (dp : Int)), some (.inl (t.2.1 : Int)), none, none] (r1.toList ++ []) h2) := by
      rw [vR_what_0, aGF kR, hD, hT.2.1, if_pos (by omega), vR_what_18, aGF kR, q0, aVC, tlN, vR_what_22, aGF kR]; rfl
    rw [st, q1]
    dsimp only
    cases h1 : psW X 40 (nx X t) with
    | inl e =>
      refine PO_bad (f := e.1) (p := e.2) (EF_mono e0 (by omega)) ?_
      show vC (some ((0, some (.inl 0)), _)) _ = _
      rw [aVC, tlS, vR_what_28, if_pos j00, vR_what_50, aZ0]
    | inr t1 =>
      dsimp only
      rw [aVC, tlS, vR_what_28, if_neg j10, vR_what_31, aGF kR, w32_s (by omega)]
      have e1 : EF D (sT (sT D (nx X t)) t1) (216 + 9 * (dp + 1)) := EF_trans e0 EF_sT (Nat.le_refl _)
      have hE1 : EV (sT (sT D (nx X t)) t1) X := EV_EF hE e1
      have p1 := hS _ t1 hE1 sT_TKD
      cases h2 : S t1 with
      | inl e =>
        rw [h2] at p1
        refine PO_fr p1 e1 (by omega) (by omega) (fun D2 q => ?_)
        rw [q, aVC, tlS, vR_what_38, if_pos j00, vR_what_50, aZ0]
      | inr r =>
        rw [h2] at p1
        obtain ⟨F, t2⟩ := r
        obtain ⟨D2, a1, a2, a3, a4, a5⟩ := p1
        have e2 : EF D D2 (216 + 9 * (dp + 1)) := EF_trans e1 a5 (Nat.le_refl _)
        have hE2 : EV D2 X := EV_EF hE e2
        have q2 := passX (ω := ω) (d := d + 1) (w := 44) hE2 a4
        rw [a1, aVC, tlS, vR_what_38, if_neg j10, vR_what_41, aGF kR, show (44 : Int) = ((44 : Nat) : Int) from rfl, q2]
        dsimp only
        cases h3 : psW X 44 t2 with
        | inl e =>
          refine PO_bad (f := e.1) (p := e.2) (EF_mono e2 (by omega)) ?_
          show vC (some ((0, some (.inl 0)), _)) _ = _
          rw [aVC, tlS, vR_what_47, if_pos j00, vR_what_50, aZ0]
        | inr t3 =>
          dsimp only
          have q3 := copyF (ω := ω) (D := sT D2 t3) (d := d + 4) (pV_7 v0) (pV_1 v1) (PR_ne (sT_ne (by omega)) a2)
          have e3 : EF D (pD (sT D2 t3) (216 + 9 * dp + 7 + 1) (rI F)) (216 + 9 * dp + 5) := EF_trans (EF_mono e2 (by omega)) (EF_trans (EF_sT (B := 216 + 9 * dp + 5)) (EF_pD (by omega) (by omega) (by omega) (by omega) (by omega) (by omega) (by omega)) (Nat.le_refl _)) (Nat.le_refl _)
          have hE3 : EV (pD (sT D2 t3) (216 + 9 * dp + 7 + 1) (rI F)) X := EV_EF hE e3
          have p2 := hS _ t3 hE3 (TKD_pD sT_TKD (by omega))
          rw [aVC, tlS, vR_what_47, if_neg j10, vR_what_52, aGF kR, level_spec hd, aVC, tlS, vR_what_57, aGF (kV v0), aGF kR, w32_s (by omega), level_spec (by omega), rV_3 v0, aVC, tlS, vR_what_67, aGF (kV v1), rV_0 v1, aGF (kP (pV_7 v0)), q3, aVC, tlN, vR_what_73, aGF kR, w32_s (by omega)]
          cases h4 : S t3 with
          | inl e =>
            rw [h4] at p2
            refine PO_fr p2 e3 (Nat.le_refl _) (by omega) (fun D2 q => ?_)
            rw [q, aVC, tlS, vR_what_80, if_pos j00, vR_what_92, aZ0]
          | inr r =>
            rw [h4] at p2
            obtain ⟨G, t4⟩ := r
            obtain ⟨D4, b1, b2, b3, b4, b5⟩ := p2
            have e4 : EF D D4 (216 + 9 * dp + 5) := EF_trans e3 b5 (by omega)
            have hE4 : EV D4 X := EV_EF hE e4
            have q4 := passX (ω := ω) (d := d + 1) (w := 41) hE4 b4
            have R8 : PR D4 (216 + 9 * dp + 7 + 1) F := PR_ne (b5.1 _ (by omega) (by omega)) pD_PR
            rw [b1, aVC, tlS, vR_what_80, if_neg j10, vR_what_83, aGF kR, show (41 : Int) = ((41 : Nat) : Int) from rfl, q4]
            dsimp only
            cases h5 : psW X 41 t4 with
            | inl e =>
              refine PO_bad (f := e.1) (p := e.2) e4 ?_
              show vC (some ((0, some (.inl 0)), _)) _ = _
              rw [aVC, tlS, vR_what_89, if_pos j00, vR_what_92, aZ0]
            | inr t5 =>
              dsimp only
              have e5 : EF D (sT D4 t5) (216 + 9 * dp + 5) := EF_trans e4 EF_sT (Nat.le_refl _)
              have hE5 : EV (sT D4 t5) X := EV_EF hE e5
              have R8' : PR (sT D4 t5) (216 + 9 * dp + 7 + 1) F := PR_ne (sT_ne (by omega)) R8
              have R1' : PR (sT D4 t5) (216 + 9 * (dp + 1) + 1 + 1) G := PR_ne (sT_ne (by omega)) b2
              have TT : ∀ {E : jD}, E 111 = sT D4 t5 111 → TKD E t5 := fun {E} he => by
                have : TKD (sT D4 t5) t5 := sT_TKD
                unfold TKD at this ⊢
                rw [he]; exact this
              rw [aVC, tlS, vR_what_89, if_neg j10, vR_what_94, aGF kR, level_spec hd, aVC, tlS, vR_what_99, aGF (kV v0), aGF kR, w32_s (by omega), level_spec (by omega), rV_3 v0, aVC, tlS, vR_what_111, aGF (kV v1), rV_0 v1]
              by_cases h7 : k ≤ 7
              · have p3 := work_lo (ω := ω) (d := d + 1) (D := sT D4 t5) (B := 216 + 9 * dp + 5) hE5.2.2.2.1 (pV_7 v0) (pV_1 v1) (pV_5 v0) (by omega) (by omega) (by omega) R8' R1' a3 b3 hk h7
                rw [if_neg (show ¬ 7 < k by omega), vR_what_122, aGF kR, level_spec hd, aVC, tlS, vR_what_133, aGF (kV v0), aGF kR, rV_2 v0]
                cases h8 : wrk (tF (sA X)) k F G with
                | none =>
                  rw [h8] at p3
                  obtain ⟨D6, c1, c2, c3⟩ := p3
                  refine PO_bad (D' := D6) (EF_trans e5 c2 (Nat.le_refl _)) ?_
                  rw [c1, aVC, tlS, vR_what_139, if_pos j00, vR_what_142, aGF kR, refuse_spec, aVC, tlS, vR_what_148, if_pos j00, vR_what_155, vR_what_156, aZ0, if_pos h7]; rfl
                | some v =>
                  rw [h8] at p3
                  obtain ⟨D6, c1, c2, c3, c4, c5⟩ := p3
                  refine ⟨D6, ?_, c2, c3, TT c5, EF_trans e5 c4 (Nat.le_refl _)⟩
                  rw [c1, aVC, tlS, vR_what_139, if_neg j10, vR_what_151, vR_what_156, aZ1]
              · have p3 := work_hi (ω := ω) (d := d) (D := sT D4 t5) (B := 216 + 9 * dp + 5) hE5.2.2.2.1 (pV_7 v0) (pV_1 v1) (pV_5 v0) (by omega) (by omega) (by omega) (by omega) R8' R1' a3 b3 (show 7 < k by omega)
                rw [if_pos (show 7 < k by omega), vR_what_157, aGF kR, level_spec hd, aVC, tlS, vR_what_168, aGF (kV v0), aGF kR, rV_2 v0]
                cases h8 : wrk (tF (sA X)) k F G with
                | none =>
                  rw [h8] at p3
                  obtain ⟨D6, c1, c2, c3⟩ := p3
                  refine PO_bad (D' := D6) (EF_trans e5 c2 (Nat.le_refl _)) ?_
                  rw [c1, aVC, tlS, vR_what_174, if_pos j00, vR_what_177, aGF kR, refuse_spec, aVC, tlS, vR_what_183, if_pos j00, vR_what_190, vR_what_191, aZ0, if_neg h7]; rfl
                | some v =>
                  rw [h8] at p3
                  obtain ⟨D6, c1, c2, c3, c4, c5⟩ := p3
                  refine ⟨D6, ?_, c2, c3, TT c5, EF_trans e5 c4 (Nat.le_refl _)⟩
                  rw [c1, aVC, tlS, vR_what_174, if_neg j10, vR_what_186, vR_what_191, aZ1]
end EX3
