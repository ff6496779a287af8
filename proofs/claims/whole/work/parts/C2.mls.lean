/-! THE REFERENCE'S READER: a LINE whole, all LINES -/
section MLNS
variable {ρ ρ1 ρ' : jr2} {D D1 D' D2 : jD} {d : Nat} {X : sx} {t : tk} {l : Nat} {Φ : gF} {x : Nat → Nat} {len : Nat} {nm : Nat → Nat}
def MLZ (ρ : jr2) (D : jD) (X : sx) (t : tk) (l P : Nat) (run : Option jr) : Prop := ∃ ρ' D', run = some ((0, some (.inl 1)), hp (1, ρ') D') ∧ LG ρ ρ' ∧ XG D D' ∧ MLS ρ' D' X t l ∧ P ≤ t.2.2.2
/-- the end of a LINE behind what it read -/
theorem mfin {t2 : tk} {P : Nat} {run : Option jr} {x1 : Int} {K : Option jv → jh → Option jr} (hK : ∀ (s : Int) (h : jh), K (some (.inl s)) h = Vl (d + 3) 206 46 [some (.inr (.inr (some 488))), some (.inl x1), none] [.inl s] h) (hY : MLY ρ D X t2 l run) (hP : P ≤ t2.2.2.2) : match psW X 59 t2 with
    | .inl e => MLE ρ D e (vC run K)
    | .inr t3 => MLZ ρ D X t3 l P (vC run K) := by
  obtain ⟨ρ1, D1, a1, a2, a3, a4⟩ := hY
  have q := mtail (d := d) a4 x1 1
  rw [a1, aVC, hK, vM_readLine_46, if_neg j10]
  cases hp4 : psW X 59 t2 with
  | inl e =>
    rw [hp4] at q
    exact MLE_fr q a2 a3
  | inr t3 =>
    rw [hp4] at q
    obtain ⟨ρ2, D2, b1, b2, b3, b4, b5⟩ := q
    exact ⟨ρ2, D2, b1, LG_tr a2 b2, XG_tr a3 b3, b4, by omega⟩
theorem mfin_e {e : Nat × Nat} {run : Option jr} {x1 : Int} {K : Option jv → jh → Option jr} (hK : ∀ (s : Int) (h : jh), K (some (.inl s)) h = Vl (d + 3) 206 46 [some (.inr (.inr (some 488))), some (.inl x1), none] [.inl s] h) (hE : MLE ρ D e run) : MLE ρ D e (vC run K) := by
  obtain ⟨ρ1, D1, a1, a2⟩ := hE
  rw [a1, aVC, hK, vM_readLine_46, if_pos rfl, vM_readLine_51, aZ0]
  exact ⟨ρ1, D1, rfl, a2⟩
/-- a first LINE -/
theorem mlineH {h : Nat} (hS : MLS ρ D (sx0 x len Φ nm) t l) (ht : t.1 = 256) (hk : kw t.2.2.1 = (h : Int)) (hh : h < 3) (hl : l ≤ h) (hz : l = 0 → Φ.2.2.1 = 0 ∧ Φ.2.2.2 = 0) : match hdL (sx0 x len Φ nm) Φ h t with
    | .inl e => MLE ρ D e (Vl (d + 5) 206 0 [some (.inr (.inr (some 488))), none, none] [] (hp (1, ρ) D))
    | .inr q => MLZ ρ D (sx0 x len q.1 nm) q.2 (h + 1) t.2.2.2 (Vl (d + 5) 206 0 [some (.inr (.inr (some 488))), none, none] [] (hp (1, ρ) D)) := by
  have hT : MTK ρ D len t := hS.1.2.2.1
  rw [vM_readLine_0, mGF m488, mwah (d := d + 2) hT, aVC, tlS, vM_readLine_4, if_pos ht, hk]
  unfold hdL
  by_cases h0 : h = 0
  · subst h0
    obtain rfl : l = 0 := by omega
    have r := mfieldL (d := d) hS (by omega) (hz rfl)
    rw [if_pos (show ((0 : Nat) : Int) = 0 from rfl), vM_readLine_9, mGF m488]
    unfold hdN
    rw [if_pos (show (0 : Nat) = 0 from rfl)]
    have hK : ∀ (s : Int) (h : jh), (fun (r1 : Option jv) (h2 : jh) => Vl (d + 4 + 1) 206 13 [some (.inr (.inr (some 488))), some (.inl ((0 : Nat) : Int)), none] (r1.toList ++ []) h2) (some (.inl s)) h = Vl (d + 2 + 3) 206 46 [some (.inr (.inr (some 488))), some (.inl ((0 : Nat) : Int)), none] [.inl s] h := fun s h => by
      show Vl (d + 4 + 1) 206 13 _ [.inl s] h = _
      rw [vM_readLine_13]
    cases hr : hdF (sx0 x len Φ nm) (nx (sx0 x len Φ nm) t) with
    | inl e =>
      rw [hr] at r
      exact mfin_e hK r
    | inr q =>
      rw [hr] at r
      have q3 := mfin (d := d + 2) (x1 := ((0 : Nat) : Int)) (K := fun r1 h2 => Vl (d + 4 + 1) 206 13 [some (.inr (.inr (some 488))), some (.inl ((0 : Nat) : Int)), none] (r1.toList ++ []) h2) hK r.2 r.1
      rw [show psW (sx0 x len (q.1.1, q.1.2, Φ.2.2.1, Φ.2.2.2) nm) 59 (nx (sx0 x len Φ nm) q.2) = psW (sx0 x len Φ nm) 59 (nx (sx0 x len Φ nm) q.2) from rfl] at q3
      dsimp only
      cases hp4 : psW (sx0 x len Φ nm) 59 (nx (sx0 x len Φ nm) q.2) with
      | inl e => rw [hp4] at q3; exact q3
      | inr t3 => rw [hp4] at q3; exact q3
  rw [if_neg (show ¬ (h : Int) = 0 by omega), vM_readLine_16]
  have hlaw := mlawL (d := d) (h := h) (by omega) hS hl (by omega)
  by_cases h1 : h = 1
  · subst h1
    rw [if_pos (show ((1 : Nat) : Int) = 1 from rfl), vM_readLine_21, mGF m488]
    rw [if_pos (show (1 : Nat) = 1 from rfl)] at hlaw
    have hK : ∀ (s : Int) (h : jh), (fun (r1 : Option jv) (h2 : jh) => Vl (d + 4 + 1) 206 26 [some (.inr (.inr (some 488))), some (.inl ((1 : Nat) : Int)), none] (r1.toList ++ []) h2) (some (.inl s)) h = Vl (d + 2 + 3) 206 46 [some (.inr (.inr (some 488))), some (.inl ((1 : Nat) : Int)), none] [.inl s] h := fun s h => by
      show Vl (d + 4 + 1) 206 26 _ [.inl s] h = _
      rw [vM_readLine_26]
    cases hr : hdN (sx0 x len Φ nm) Φ 1 (nx (sx0 x len Φ nm) t) with
    | inl e =>
      rw [hr] at hlaw
      exact mfin_e hK hlaw
    | inr q =>
      rw [hr] at hlaw
      have q3 := mfin (d := d + 2) (x1 := ((1 : Nat) : Int)) (K := fun r1 h2 => Vl (d + 4 + 1) 206 26 [some (.inr (.inr (some 488))), some (.inl ((1 : Nat) : Int)), none] (r1.toList ++ []) h2) hK hlaw.2 hlaw.1
      rw [show psW (sx0 x len q.1 nm) 59 (nx (sx0 x len Φ nm) q.2) = psW (sx0 x len Φ nm) 59 (nx (sx0 x len Φ nm) q.2) from rfl] at q3
      dsimp only
      cases hp4 : psW (sx0 x len Φ nm) 59 (nx (sx0 x len Φ nm) q.2) with
      | inl e => rw [hp4] at q3; exact q3
      | inr t3 => rw [hp4] at q3; exact q3
  obtain rfl : h = 2 := by omega
  rw [if_neg (show ¬ ((2 : Nat) : Int) = 1 by decide), vM_readLine_29, if_pos (show ((2 : Nat) : Int) = 2 from rfl), vM_readLine_34, mGF m488]
  rw [if_neg (show ¬ (2 : Nat) = 1 by decide)] at hlaw
  have hK : ∀ (s : Int) (h : jh), (fun (r1 : Option jv) (h2 : jh) => Vl (d + 4 + 1) 206 39 [some (.inr (.inr (some 488))), some (.inl ((2 : Nat) : Int)), none] (r1.toList ++ []) h2) (some (.inl s)) h = Vl (d + 2 + 3) 206 46 [some (.inr (.inr (some 488))), some (.inl ((2 : Nat) : Int)), none] [.inl s] h := fun s h => by
    show Vl (d + 4 + 1) 206 39 _ [.inl s] h = _
    rw [vM_readLine_39]
  cases hr : hdN (sx0 x len Φ nm) Φ 2 (nx (sx0 x len Φ nm) t) with
  | inl e =>
    rw [hr] at hlaw
    exact mfin_e hK hlaw
  | inr q =>
    rw [hr] at hlaw
    have q3 := mfin (d := d + 2) (x1 := ((2 : Nat) : Int)) (K := fun r1 h2 => Vl (d + 4 + 1) 206 39 [some (.inr (.inr (some 488))), some (.inl ((2 : Nat) : Int)), none] (r1.toList ++ []) h2) hK hlaw.2 hlaw.1
    rw [show psW (sx0 x len q.1 nm) 59 (nx (sx0 x len Φ nm) q.2) = psW (sx0 x len Φ nm) 59 (nx (sx0 x len Φ nm) q.2) from rfl] at q3
    dsimp only
    cases hp4 : psW (sx0 x len Φ nm) 59 (nx (sx0 x len Φ nm) q.2) with
    | inl e => rw [hp4] at q3; exact q3
    | inr t3 => rw [hp4] at q3; exact q3
/-- any LINE that is no first one, or comes too late for one -/
theorem mlineN (hS : MLS ρ D X t l) (hl : isHd t → kw t.2.2.1 < (l : Int)) : match nmL X t with
    | .inl e => MLE ρ D e (Vl (d + 47) 206 0 [some (.inr (.inr (some 488))), none, none] [] (hp (1, ρ) D))
    | .inr q => MLZ ρ D (nmX X t.2.2.1 q.1 q.2.1) q.2.2 4 (t.2.2.2 + 1) (Vl (d + 47) 206 0 [some (.inr (.inr (some 488))), none, none] [] (hp (1, ρ) D)) := by
  have hT := hS.1.2.2.1
  have e46 : D 488 46 = (l : Int) := hS.1.2.2.2.1
  rw [vM_readLine_0, mGF m488, mwah (d := d + 44) hT, aVC, tlS, vM_readLine_4]
  by_cases hh : isHd t
  · have hkl := hl hh
    have e : nmL X t = .inl (3, t.2.1) := by
      unfold nmL
      rw [if_neg (show ¬ (t.1 = 256 ∧ kw t.2.2.1 = -1) from fun z => by have := hh.2.1; omega), if_pos hh]
    rw [e, if_pos hh.1]
    have h258 : t.1 < 258 := by rw [hh.1]; decide
    have b3 : MLE ρ D (3, t.2.1) (some ((0, some (.inl 0)), hp (1, ρ) (mFt D 3 (t.2.1 : Int)))) := MLE_bad (f' := 3) rfl LG_rf XG_rf rfl
    by_cases k0 : kw t.2.2.1 = 0
    · rw [if_pos k0, k0, vM_readLine_9, mGF m488, vM_readField_0, mGF m488, hD, e46, if_pos (by omega), vM_readField_7, mGF m488, mbad3 hT h258, aVC, tlS, vM_readField_12, aZ0]
      refine mfin_e (d := d + 44) (x1 := 0) (fun s h => ?_) b3
      show Vl (d + 46 + 1) 206 13 _ [.inl s] h = _
      rw [vM_readLine_13]
    rw [if_neg k0, vM_readLine_16]
    by_cases k1 : kw t.2.2.1 = 1
    · rw [if_pos k1, k1, vM_readLine_21, mGF m488, vM_readLaw_0, mGF m488, if_neg j10, hD, e46, vM_readLaw_8, vM_readLaw_13, if_pos (by omega), vM_readLaw_16, mGF m488, mbad3 hT h258, aVC, tlS, vM_readLaw_21, aZ0]
      refine mfin_e (d := d + 44) (x1 := 1) (fun s h => ?_) b3
      show Vl (d + 46 + 1) 206 26 _ [.inl s] h = _
      rw [vM_readLine_26]
    have k2 : kw t.2.2.1 = 2 := by have := hh.2; omega
    rw [if_neg k1, vM_readLine_29, if_pos k2, k2, vM_readLine_34, mGF m488, vM_readLaw_0, mGF m488, if_pos j00, hD, e46, vM_readLaw_12, vM_readLaw_13, if_pos (by omega), vM_readLaw_16, mGF m488, mbad3 hT h258, aVC, tlS, vM_readLaw_21, aZ0]
    refine mfin_e (d := d + 44) (x1 := 2) (fun s h => ?_) b3
    show Vl (d + 46 + 1) 206 39 _ [.inl s] h = _
    rw [vM_readLine_39]
  have hn : ∀ k : Int, 0 ≤ k → k ≤ 2 → ¬ (if t.1 = 256 then kw t.2.2.1 else -1) = k := fun k k0 k2 z => by
    by_cases h1 : t.1 = 256
    · rw [if_pos h1] at z
      exact hh ⟨h1, by omega, by omega⟩
    · rw [if_neg h1] at z; omega
  have r := mnamed (d := d) hS hh
  rw [if_neg (hn 0 (by decide) (by decide)), vM_readLine_16, if_neg (hn 1 (by decide) (by decide)), vM_readLine_29, if_neg (hn 2 (by decide) (by decide)), vM_readLine_42, mGF m488]
  cases hr : nmL X t with
  | inl e =>
    rw [hr] at r
    exact mfin_e (d := d + 44) (fun s h => rfl) r
  | inr q =>
    rw [hr] at r
    obtain ⟨t2, r1, r2, r3, r4⟩ := r
    have q3 := mfin (d := d + 44) (x1 := (if t.1 = 256 then kw t.2.2.1 else -1)) (K := fun r1 h2 => Vl (d + 46 + 1) 206 46 [some (.inr (.inr (some 488))), some (.inl (if t.1 = 256 then kw t.2.2.1 else -1)), none] (r1.toList ++ []) h2) (fun s h => rfl) r4 r3
    rw [psW_y r1, nx_nm, r2] at q3
    exact q3
end MLNS
