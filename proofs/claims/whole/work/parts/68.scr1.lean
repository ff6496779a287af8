/-! script(): begin, the loops -/
def NZ (P : tk → pr) : Prop := ∀ t e, P t = .inl e → e.1 ≠ 0
section SCR1
variable {d : Nat} {ω : jw} {D D' D2 : jD} {X : sx} {t : tk} {Φ : gF} {x : Nat → Nat} {len : Nat} {nm : Nat → Nat}
theorem psW_nz {w : Nat} {e : Nat × Nat} (h : psW X w t = .inl e) : e.1 ≠ 0 := by rw [ps_in h]; exact Nat.one_ne_zero
theorem brP_nz {sub : Option (tk → pr)} (hs : ∀ S, sub = some S → NZ S) : NZ (brP X sub) := fun t e h => by
  unfold brP at h
  cases sub with
  | none => cases h; exact Nat.succ_ne_zero _
  | some S =>
    dsimp only at h
    cases h1 : S (nx X t) with
    | inl e1 => rw [h1] at h; cases h; exact hs S rfl _ _ h1
    | inr r =>
      rw [h1] at h
      dsimp only at h
      cases h2 : psW X 41 r.2 with
      | inl e2 => rw [h2] at h; cases h; exact psW_nz h2
      | inr t2 => rw [h2] at h; cases h
theorem whP_nz {sub : Option (tk → pr)} (hs : ∀ S, sub = some S → NZ S) (k : Int) : NZ (whP X sub k) := fun t e h => by
  unfold whP at h
  cases sub with
  | none => cases h; exact Nat.succ_ne_zero _
  | some S =>
    dsimp only at h
    cases h1 : psW X 40 (nx X t) with
    | inl e1 => rw [h1] at h; cases h; exact psW_nz h1
    | inr t1 =>
      rw [h1] at h
      dsimp only at h
      cases h2 : S t1 with
      | inl e1 => rw [h2] at h; cases h; exact hs S rfl _ _ h2
      | inr r =>
        rw [h2] at h
        dsimp only at h
        cases h3 : psW X 44 r.2 with
        | inl e1 => rw [h3] at h; cases h; exact psW_nz h3
        | inr t3 =>
          rw [h3] at h
          dsimp only at h
          cases h4 : S t3 with
          | inl e1 => rw [h4] at h; cases h; exact hs S rfl _ _ h4
          | inr r4 =>
            rw [h4] at h
            dsimp only at h
            cases h5 : psW X 41 r4.2 with
            | inl e1 => rw [h5] at h; cases h; exact psW_nz h5
            | inr t5 =>
              rw [h5] at h
              dsimp only at h
              cases h6 : wrk (tF (sA X)) k r.1 r4.1 with
              | none =>
                rw [h6] at h
                cases h
                show (if k ≤ 7 then 5 else 4) ≠ 0
                split
                · exact Nat.succ_ne_zero _
                · exact Nat.succ_ne_zero _
              | some v => rw [h6] at h; cases h
theorem waP_nz {sub : Option (tk → pr)} (hs : ∀ S, sub = some S → NZ S) : NZ (waP X sub) := fun t e h => by
  unfold waP at h
  split at h
  · exact whP_nz hs _ _ _ h
  · split at h
    · cases h
    · split at h
      · split at h
        · cases h; exact Nat.succ_ne_zero _
        · cases h
      · cases h; exact Nat.succ_ne_zero _
theorem atP_nz {sub : Option (tk → pr)} (hs : ∀ S, sub = some S → NZ S) : NZ (atP X sub) := fun t e h => by
  unfold atP at h
  split at h
  · exact brP_nz hs _ _ h
  · split at h
    · exact waP_nz hs _ _ h
    · split at h
      · split at h
        · cases h
        · cases h; exact Nat.succ_ne_zero _
      · cases h; exact Nat.succ_ne_zero _
theorem pwP_nz {sub : Option (tk → pr)} (hs : ∀ S, sub = some S → NZ S) : NZ (pwP X sub) := fun t e h => by
  unfold pwP at h
  cases h1 : atP X sub t with
  | inl e1 => rw [h1] at h; cases h; exact atP_nz hs _ _ h1
  | inr r =>
    rw [h1] at h
    dsimp only at h
    split at h
    · split at h
      · split at h
        · split at h
          · cases h
          · cases h; exact Nat.succ_ne_zero _
        · cases h; exact Nat.succ_ne_zero _
      · cases h; exact Nat.succ_ne_zero _
    · cases h
theorem tmL_nz {sub : Option (tk → pr)} (hs : ∀ S, sub = some S → NZ S) : ∀ n v, NZ (tmL X sub n v)
  | 0, v => fun t e h => by cases h
  | n + 1, v => fun t e h => by
    unfold tmL at h
    split at h
    · cases h1 : pwP X sub (nx X t) with
      | inl e1 => rw [h1] at h; cases h; exact pwP_nz hs _ _ h1
      | inr r =>
        rw [h1] at h
        dsimp only at h
        split at h
        · exact tmL_nz hs n _ _ _ h
        · cases h; exact Nat.succ_ne_zero _
    · cases h
theorem tmP_nz {sub : Option (tk → pr)} (hs : ∀ S, sub = some S → NZ S) : NZ (tmP X sub) := fun t e h => by
  unfold tmP at h
  cases h1 : pwP X sub t with
  | inl e1 => rw [h1] at h; cases h; exact pwP_nz hs _ _ h1
  | inr r => rw [h1] at h; exact tmL_nz hs _ _ _ _ h
theorem smL_nz {sub : Option (tk → pr)} (hs : ∀ S, sub = some S → NZ S) : ∀ n a, NZ (smL X sub n a)
  | 0, a => fun t e h => by cases h; exact Nat.succ_ne_zero _
  | n + 1, a => fun t e h => by
    unfold smL at h
    cases h1 : tmP X sub t with
    | inl e1 => rw [h1] at h; cases h; exact tmP_nz hs _ _ h1
    | inr r =>
      rw [h1] at h
      dsimp only at h
      split at h
      · exact smL_nz hs n _ _ _ h
      · cases h
theorem smN_nz (X : sx) : ∀ n, NZ (smN X n)
  | 0 => smL_nz (fun S h => by cases h) 540 p0
  | n + 1 => smL_nz (sub := some (smN X n)) (fun S h => by cases h; exact smN_nz X n) 540 p0
theorem nmL_nz {e : Nat × Nat} (h : nmL X t = .inl e) : e.1 ≠ 0 := by
  unfold nmL at h
  split at h
  · split at h
    · cases h; exact Nat.succ_ne_zero _
    · cases h1 : psW X 61 (nx X t) with
      | inl e1 => rw [h1] at h; cases h; exact psW_nz h1
      | inr t1 =>
        rw [h1] at h
        dsimp only at h
        cases h2 : smN X 6 t1 with
        | inl e1 => rw [h2] at h; cases h; exact smN_nz X 6 _ _ h2
        | inr r =>
          rw [h2] at h
          dsimp only at h
          cases h3 : psW X 59 r.2 with
          | inl e1 => rw [h3] at h; cases h; exact psW_nz h3
          | inr t3 => rw [h3] at h; cases h
  · cases h
    show (if isHd t then 3 else 1) ≠ 0
    split
    · exact Nat.succ_ne_zero _
    · exact Nat.succ_ne_zero _
theorem isAtHead_spec {L nh : Nat} (hL : LSR D X t L nh) : Vl (d + 3) 32 0 [some (.inr (.inr (some 111)))] [] (hp ω D) = some ((0, some (.inl (if isHd t ∧ (nh : Int) ≤ kw t.2.2.1 then 1 else 0))), hp ω D) := by
  obtain ⟨hE, hT, e1, e11, e2⟩ := hL
  have no : Vl (d + 3) 32 32 [some (.inr (.inr (some 111)))] [] (hp ω D) = some ((0, some (.inl 0)), hp ω D) := by rw [vR_isAtHead_32, vR_isAtHead_33, aZ0]
  rw [vR_isAtHead_0, aGF kR, hD, e2, if_pos j00, vR_isAtHead_7, aGF kR, isHead_spec (d := d) hT, aVC, tlS, vR_isAtHead_11]
  by_cases h1 : isHd t
  · rw [if_pos h1, if_neg j10, vR_isAtHead_14, aGF kR, hD, hT.2.2.1, keyword_spec, aVC, tlS, vR_isAtHead_21, aGF kR, hD, e11]
    by_cases h2 : (nh : Int) ≤ kw t.2.2.1
    · rw [if_neg (show ¬ kw t.2.2.1 < (nh : Int) by omega), vR_isAtHead_28, vR_isAtHead_33, aZ1, if_pos ⟨h1, h2⟩]
    · rw [if_pos (show kw t.2.2.1 < (nh : Int) by omega), no, if_neg (fun z => h2 z.2)]
  · rw [if_neg h1, if_pos j00, no, if_neg (fun z => h1 z.1)]
theorem isAtHead_no (h : D 111 2 ≠ 0) : Vl (d + 3) 32 0 [some (.inr (.inr (some 111)))] [] (hp ω D) = some ((0, some (.inl 0)), hp ω D) := by
  rw [vR_isAtHead_0, aGF kR, hD, if_neg h, vR_isAtHead_32, vR_isAtHead_33, aZ0]
theorem goesOn_spec {L nh : Nat} (hL : LSR D X t L nh) : Vl d 44 0 [some (.inr (.inr (some 111)))] [] (hp ω D) = some ((0, some (.inl (if t.1 = 258 ∧ sN X ≤ 500 then 0 else 1))), hp ω D) := by
  obtain ⟨hE, hT, e1, e11, e2⟩ := hL
  have yes : Vl d 44 27 [some (.inr (.inr (some 111)))] [] (hp ω D) = some ((0, some (.inl 1)), hp ω D) := by rw [vR_goesOn_27, vR_goesOn_32, aZ1]
  rw [vR_goesOn_0, aGF kR, hD, e2, if_pos j00, vR_goesOn_7, aGF kR, hD, hT.1]
  by_cases h1 : t.1 = 258
  · rw [if_pos (show (t.1 : Int) = 258 by omega), vR_goesOn_17, aGF kR, hD, hE.1.1]
    by_cases h2 : sN X ≤ 500
    · rw [if_neg (show ¬ 500 < (sN X : Int) by omega), vR_goesOn_31, vR_goesOn_32, aZ0, if_pos ⟨h1, h2⟩]
    · rw [if_pos (show 500 < (sN X : Int) by omega), yes, if_neg (fun z => h2 z.2)]
  · rw [if_neg (show ¬ (t.1 : Int) = 258 by omega), yes, if_neg (fun z => h1 z.1)]
theorem goesOn_no (h : D 111 2 ≠ 0) : Vl d 44 0 [some (.inr (.inr (some 111)))] [] (hp ω D) = some ((0, some (.inl 0)), hp ω D) := by
  rw [vR_goesOn_0, aGF kR, hD, if_neg h, vR_goesOn_31, vR_goesOn_32, aZ0]
/-- begin of a script -/
theorem begin_spec (hT : TA D len x) : ∃ D', Vl (d + 4) 24 0 [some (.inr (.inr (some 111))), some (.inr (.inr (some 1))), none] [] (hp ω D) = some ((0, none), hp ω D') ∧ GF D D' ∧ LSR D' (sx0 x len (1, 3, 0, 0) (fun _ => 0)) (scn x len 0) 0 0 := by
  obtain ⟨hl1, hl2, hl3⟩ := hT
  obtain ⟨E, hE⟩ : ∃ E, E = sD D 111 10 (len : Int) := ⟨_, rfl⟩
  have c0 := chain (fun k => Vl (d + 4) 24 16 [some (.inr (.inr (some 111))), some (.inr (.inr (some 1))), some (.inl (k : Int))] [] (hp ω (pDn E 215 k (rI x)))) len (fun k hk => by

    have a1 : pDn E 215 k (rI x) 111 10 = (len : Int) := by rw [pDn_ne (by decide), hE]; exact sD_eq
    have a2 : pDn E 215 k (rI x) 2 k = (x k : Int) := by rw [pDn_ne (by decide), hE, sD_ne (by decide)]; exact (hl3 k hk).1
    have q1 := byteAt_any (d := d + 3) (ω := ω) (D := pDn E 215 k (rI x)) (p := k) (by omega)
    rw [a2] at q1
    rw [vR_begin_16, aGF kR, hD, a1, if_pos (by omega), vR_begin_24, aGF kR, rR_9, aGF kA, q1, aVC, tlS, vR_begin_34, aIS kR_9, if_pos (by omega), Int.toNat_natCast, w32_s (by omega), pDn_s (show (x k : Int) = rI x k from rfl)])

  rw [pDn_0] at c0
  have a1 : pDn E 215 len (rI x) 111 10 = (len : Int) := by rw [pDn_ne (by decide), hE]; exact sD_eq
  obtain ⟨D2, q2, T2, f2⟩ := beginT_spec (ω := ω) (D := pDn E 215 len (rI x)) (d := d + 3) tT_112
  obtain ⟨D3, q3, F3, f3⟩ := tellTo_spec (ω := ω) (D := D2) (d := d) (T := aT0) tT_112 tF_174 aT0_OK.1 T2.1.1 T2.1.2.1 T2.1.2.2.1 T2.1.2.2.2
  obtain ⟨D4, hD4⟩ : ∃ D4, D4 = sD (sD (sD (sD (sD D3 111 1 0) 111 2 0) 111 3 0) 111 11 0) 111 15 0 := ⟨_, rfl⟩
  have n4 : ∀ q, q ≠ 111 → D4 q = D3 q := fun q hq => by rw [hD4, sD_ne hq, sD_ne hq, sD_ne hq, sD_ne hq, sD_ne hq]
  have g3 : ∀ q, q ≠ 112 → (q < 174 ∨ 179 ≤ q) → q ≠ 215 → q ≠ 111 → D3 q = D q := fun q h1 h2 h3 h4 => by rw [f3 q (by omega), f2 q h1, pDn_ne h3, hE, sD_ne h4]
  have b10 : D4 111 10 = (len : Int) := by
    rw [hD4]; unfold sD; rw [if_neg (by omega), if_neg (by omega), if_neg (by omega), if_neg (by omega), if_neg (by omega), f3 111 (by omega), f2 111 (by omega)]; exact a1
  have hX4 : RX D4 x len := ⟨b10, hl2, fun i hi => by
    rw [n4 215 (by omega), f3 215 (by omega), f2 215 (by omega), pDn_lt hi]; exact ⟨rfl, (hl3 i hi).2⟩⟩
  have hE4 : EV D4 (sx0 x len (1, 3, 0, 0) (fun _ => 0)) := ⟨hX4, TS_fr aT0_OK T2 (fun c z b => by rw [n4 c (by omega), f3 c (by omega)]), aT0_OK, FT_congr (fun c z b => n4 c (by omega)) F3, fun i hi => absurd hi (Nat.not_lt_zero _)⟩
  have e15 : D4 111 15 = ((0 : Nat) : Int) := by rw [hD4]; exact sD_eq
  have q5 := scan_spec (ω := ω) (d := d + 1) hX4 e15
  have e5 : EF D4 (sT D4 (scn x len 0)) 216 := EF_sT
  refine ⟨sT D4 (scn x len 0), ?_, fun q hq => by rw [sT_ne (by omega), n4 q (by omega), g3 q (by omega) (by omega) (by omega) (by omega)], EV_EF hE4 e5, sT_TKD, ?_, ?_, ?_⟩
  · have elen : (if (540 : Int) < (len : Int) then (540 : Int) else (len : Int)) = (len : Int) := if_neg (by omega)
    rw [vR_begin_0, aGF kA, aGF kR, hD, hl1, elen, aLt, hwD, ← hE, show (0 : Int) = ((0 : Nat) : Int) from rfl, c0, vR_begin_16, aGF kR, hD, a1, if_neg (by omega), vR_begin_41, aGF kR, rR_0, aGF kR_0, q2, aVC, tlN, vR_begin_48, aGF kR, aGF kR, rR_0, rR_4, aGF kR_4, rK_0 tK_173, aGF kR_0, q3, aVC, tlN, vR_begin_62]
    rw [aGF kR, aLt, hwD, aGF kR, aLt, hwD, aGF kR, aLt, hwD, aGF kR, aLt, hwD, aGF kR, aLt, hwD, ← hD4, aGF kR, q5, aVC, tlN, vR_begin_91]
  · rw [sT_far (by omega), hD4]; unfold sD; rw [if_neg (by omega), if_neg (by omega), if_neg (by omega), if_neg (by omega), if_pos ⟨rfl, rfl⟩]; rfl
  · rw [sT_far (by omega), hD4]; unfold sD; rw [if_neg (by omega), if_pos ⟨rfl, rfl⟩]; rfl
  · rw [sT_far (by omega), hD4]; unfold sD; rw [if_neg (by omega), if_neg (by omega), if_neg (by omega), if_pos ⟨rfl, rfl⟩]
end SCR1
