/-! THE REFERENCE'S READER: atoms -/
section MEX3
variable {ρ ρ1 ρ' : jr2} {D D1 D' D2 : jD} {d : Nat} {X : sx} {t : tk} {s w : Nat} {Φ : gF}
theorem mkind {len : Nat} (hT : MTK ρ D len t) : (D 488 34 = 3 ↔ t.1 = 257) ∧ (D 488 34 = 2 ↔ t.1 = 256) ∧ (D 488 34 = 0 ↔ (t.1 = 258 ∧ len ≤ 500)) ∧ (t.1 = 257 → D 488 35 = (t.2.2.1 : Int) ∧ t.2.2.1 < 1000) := by
  obtain ⟨-, -, -, hT⟩ := hT
  rcases hT with ⟨a, b, e⟩ | ⟨a, e⟩ | ⟨a, e, -⟩ | ⟨a, e, -, f, g⟩ | ⟨a, -, e, -⟩
  · exact ⟨by omega, by omega, by omega, by omega⟩
  · exact ⟨by omega, by omega, by omega, by omega⟩
  · exact ⟨by omega, by omega, by omega, by omega⟩
  · exact ⟨by omega, by omega, by omega, fun _ => ⟨f, g⟩⟩
  · exact ⟨by omega, by omega, by omega, by omega⟩
theorem kwN_r (c : Nat) : ∀ n k, kwN c n k = -1 ∨ ((k : Int) ≤ kwN c n k ∧ kwN c n k < ((k + n : Nat) : Int))
  | 0, _ => Or.inl rfl
  | n + 1, k => by
    show (if kwC k = c then (k : Int) else kwN c n (k + 1)) = -1 ∨ ((k : Int) ≤ (if kwC k = c then (k : Int) else kwN c n (k + 1)) ∧ (if kwC k = c then (k : Int) else kwN c n (k + 1)) < ((k + (n + 1) : Nat) : Int))
    by_cases h : kwC k = c
    · rw [if_pos h]; right; omega
    · rw [if_neg h]
      have := kwN_r c n (k + 1)
      omega
theorem kw_r (c : Nat) : kw c = -1 ∨ (0 ≤ kw c ∧ kw c ≤ 11) := by
  have := kwN_r c 12 0
  rw [← kw_N] at this
  omega
theorem MST_sc (hS : MST ρ D X t s w) (h : ∀ q, (q ≤ 496 ∨ 518 ≤ q) → D' q = D q) : MST ρ D' X t s w := MST_cg hS (XF_sc h) (fun j _ _ => by rw [h 488 (by decide)]) (by rw [h 488 (by decide)]; exact hS.2.2.1) (by rw [h 488 (by decide)]; exact hS.2.2.2)
/-- a row on the stack, the TOKEN passed -/
theorem mpg (hS : MST ρ D X t s w) (ht : t.1 < 258) (hs : s < 48) {c : Nat} (kc : KM c (1, 17)) (hc : c ≠ 514) {F : pl} (RF : PR D c F) : ∃ Dp ρ' D', Vl (d + 2) 222 0 [some (.inr (.inr (some 488))), some (.inr (.inr (some c)))] [] (hp (1, ρ) D) = some ((0, none), hp (1, ρ) Dp) ∧ Vl (d + 2) 201 0 [some (.inr (.inr (some 488))), none, none, none, none] [] (hp (1, ρ) Dp) = some ((0, none), hp (1, ρ') D') ∧ LX ρ ρ' ∧ XF D D' ∧ D' 488 37 = D 488 37 ∧ MST ρ' D' X (nx X t) (s + 1) w ∧ PRo D' 514 (17 * s) F ∧ (∀ b, b < 17 * s → D' 514 b = D 514 b) ∧ t.2.2.2 ≤ (nx X t).2.2.2 ∧ ((nx X t).1 ≠ 258 → t.2.2.2 + 1 ≤ (nx X t).2.2.2) := by
  have q1 := mpush (d := d + 1) (ρ := ρ) kc hc RF hS.2.2.1 hs
  have xp : XF D (sD (pOn D 514 (17 * s) 17 (rI F)) 488 44 ((s + 1 : Nat) : Int)) := ⟨fun q a => by rw [sD_ne (by omega), pOn_far (by omega)], fun j _ a _ => by rw [sD_nb a, pOn_far (by decide)]⟩
  have fj : ∀ j, j ≠ 44 → sD (pOn D 514 (17 * s) 17 (rI F)) 488 44 ((s + 1 : Nat) : Int) 488 j = D 488 j := fun j a => by rw [sD_nb a, pOn_far (by decide)]
  have hSp : MST ρ (sD (pOn D 514 (17 * s) 17 (rI F)) 488 44 ((s + 1 : Nat) : Int)) X t (s + 1) w := MST_cg hS xp (fun j a b => fj j (by omega)) sD_eq (by rw [fj 45 (by decide)]; exact hS.2.2.2)
  obtain ⟨ρ', D', p1, p2, p3, p4, p5, p6⟩ := mgoX (d := d) hSp ht
  refine ⟨_, ρ', D', q1, p1, p2, XF_tr xp (XF_TX p3), by rw [p3.2 37 (by decide), fj 37 (by decide)], p4, ?_, fun b hb => ?_, p5, p6⟩
  · unfold PRo; rw [p3.1 514 (by decide), sD_ne (by decide)]; exact fun b hb => pOn_in hb
  · rw [p3.1 514 (by decide), sD_ne (by decide), pOn_ne (Or.inr (by omega))]
theorem matom {k n : Nat} {sub : Option (tk → pr)} (hs : MSUB X (k + 10) n sub) (hS : MST ρ D X t s w) (hw : w + n = 6) (hs3 : s ≤ 3 * w + 2) : MPO ρ D X s w t.2.2.2 (atP X sub t) (Vl (k + 12) 220 0 [some (.inr (.inr (some 488))), none, none] [] (hp (1, ρ) D)) := by
  have hO := hS.1.2.2.1.1
  have q1 := mclear (d := k + 11) (ρ := ρ) (D := D) m515 (by decide) (by decide)
  have hS1 : MST ρ (pD D 515 (rI p0)) X t s w := MST_sc hS (fun q a => pD_ne (by omega))
  have x1 : XF D (pD D 515 (rI p0)) := XF_sc (fun q a => pD_ne (by omega))
  have R0 : PR (pD D 515 (rI p0)) 515 p0 := pD_PR
  have f514 : ∀ b, pD D 515 (rI p0) 514 b = D 514 b := fun b => by rw [pD_ne (by decide)]
  have f37 : pD D 515 (rI p0) 488 37 = D 488 37 := by rw [pD_ne (by decide)]
  rw [vM_readAtom_0, mGF m488, mr41, q1, aVC, tlN, vM_readAtom_7, mGF m488, hD]
  generalize pD D 515 (rI p0) = D1 at hS1 x1 R0 f514 f37 ⊢
  obtain ⟨kd3, kd2, -, kd5⟩ := mkind hS1.2.1
  -- a row told
  have tell : ∀ (D2 : jD) (F : pl) (run : Option jr), t.1 < 258 → MST ρ D2 X t s w → XF D D2 → PR D2 515 F → pOK (tF (sA X)) F → (∀ b, D2 514 b = D 514 b) → D2 488 37 = D 488 37 → (∀ Dp ρ' D', Vl (k + 11) 222 0 [some (.inr (.inr (some 488))), some (.inr (.inr (some 515)))] [] (hp (1, ρ) D2) = some ((0, none), hp (1, ρ) Dp) → Vl (k + 11) 201 0 [some (.inr (.inr (some 488))), none, none, none, none] [] (hp (1, ρ) Dp) = some ((0, none), hp (1, ρ') D') → run = some ((0, some (.inl 1)), hp (1, ρ') D')) → MPO ρ D X s w t.2.2.2 (.inr (F, nx X t)) run := fun D2 F run ht h2 hx RF oF g514 g37 hr => by
    obtain ⟨Dp, ρ', D', p1, p2, p3, p4, p5, p6, p7, p8, p9, p10⟩ := mpg (d := k + 9) h2 ht (by omega) m515 (by decide) RF
    exact ⟨ρ', D', hr Dp ρ' D' p1 p2, p3, XF_tr hx p4, by rw [p5, g37], p6, p7, oF, fun b hb => by rw [p8 b hb, g514], p9, p10⟩
  unfold atP
  by_cases h257 : t.1 = 257
  · obtain ⟨k35, k9⟩ := kd5 h257
    rw [if_pos (kd3.mpr h257), if_neg (show ¬ t.1 = 40 by omega), if_neg (show ¬ t.1 = 256 by omega), if_pos h257, vM_readAtom_15]
    simp only [mGF m488, hD, k35]
    rw [misNum hS1.1.2.2.1, aVC, tlS, vM_readAtom_23]
    by_cases hn : t.2.2.1 < 2 ^ (tF (sA X)).1
    rotate_left
    · rw [if_neg hn, if_neg (show ¬ (0 ≤ (t.2.2.1 : Int) ∧ (t.2.2.1 : Int) < ((2 ^ (tF (sA X)).1 : Nat) : Int)) by omega), if_pos rfl, vM_readAtom_26, mGF m488, mbad2 hS1.2.1 (by omega), aVC, tlS, vM_readAtom_31, aZ0]
      exact MPO_bad (f' := 2) rfl LX_rf x1 rfl
    rw [if_pos hn, if_pos (show 0 ≤ (t.2.2.1 : Int) ∧ (t.2.2.1 : Int) < ((2 ^ (tF (sA X)).1 : Nat) : Int) by omega), if_neg j10, vM_readAtom_32]
    simp only [mGF m488, hD, k35, mr41]
    rw [mIS m515, if_pos (by decide), show (0 : Int).toNat = 0 from rfl]
    refine tell (sD D1 515 0 (t.2.2.1 : Int)) (mono t.2.2.1 0) _ (by omega) (MST_sc hS1 (fun q a => sD_ne (by omega))) (XF_tr x1 (XF_sc (fun q a => sD_ne (by omega)))) (fun b hb => ?_) ⟨mono_in hn 0, dle_mono (mono_dle _ 0) (by decide)⟩ (fun b => by rw [sD_ne (by decide), f514]) (by rw [sD_ne (by decide), f37]) (fun Dp ρ' D' a1 a2 => ?_)
    · show (if 515 = 515 ∧ b = 0 then ((t.2.2.1 : Nat) : Int) else D1 515 b) = ((if b = 0 then t.2.2.1 else 0 : Nat) : Int)
      by_cases e : b = 0
      · rw [if_pos ⟨rfl, e⟩, if_pos e]
      · rw [if_neg (fun z => e z.2), if_neg e, R0 b hb]; rfl
    · simp only [mGF m488, mr41]
      rw [a1, aVC, tlN, vM_readAtom_50, mGF m488, a2, aVC, tlN, vM_readAtom_54, aZ1]
  rw [if_neg (fun z => h257 (kd3.mp z)), vM_readAtom_56, mGF m488, mwah hS1.2.1, aVC, tlS, vM_readAtom_60]
  by_cases h256 : t.1 = 256
  rotate_left
  · rw [if_neg h256, if_neg h256, if_neg h257, if_neg (show ¬ ((-1 : Int) = 3) by decide), vM_readAtom_87, mGF m488, msn40 hS1.2.1, aVC, tlS, vM_readAtom_93]
    by_cases h40 : t.1 = 40
    · rw [if_pos h40, if_pos h40, if_neg j10, vM_readAtom_101, mGF m488]
      have r := mbr1 hs hS1 hw (by omega) hs3
      cases hr : brP X sub t with
      | inl e =>
        rw [hr] at r
        refine MPO_er r LX_rf x1 (fun ρ2 D2 q => ?_)
        rw [q, aVC, tlS, vM_readAtom_106, aZ0]
      | inr rr =>
        rw [hr] at r
        obtain ⟨ρ2, D2, r1, r2, r3, r4, r5, r6, r7, r8, r9⟩ := r
        refine ⟨ρ2, D2, ?_, r2, XF_tr x1 r3, by rw [r4, f37], r5, r6, r7, fun b hb => by rw [r8 b hb, f514], r9⟩
        rw [r1, aVC, tlS, vM_readAtom_106, aZ1]
    · rw [if_neg h40, if_neg h40, if_pos rfl, vM_readAtom_96, if_pos (by decide), vM_readAtom_107, mGF m488, hD, if_neg (fun z => h256 (kd2.mp z)), vM_readAtom_120, mGF m488, mbad1 hS1.2.1, aVC, tlS, vM_readAtom_125, aZ0]
      exact MPO_bad (f' := 1) rfl LX_rf x1 rfl
  rw [if_pos h256, if_neg (show ¬ t.1 = 40 by omega), if_pos h256]
  have hk := kw_r t.2.2.1
  unfold waP
  by_cases k3 : kw t.2.2.1 = 3
  · rw [if_pos k3, if_neg (show ¬ 4 ≤ kw t.2.2.1 by omega), if_pos k3, vM_readAtom_66]
    simp only [mGF m488, mr41]
    rw [mIS m515, if_pos (by decide), show (1 : Int).toNat = 1 from rfl]
    refine tell (sD D1 515 1 1) (mono 1 1) _ (by omega) (MST_sc hS1 (fun q a => sD_ne (by omega))) (XF_tr x1 (XF_sc (fun q a => sD_ne (by omega)))) (fun b hb => ?_) ⟨mono_in (one_lt hO) 1, dle_mono (mono_dle _ 1) (by decide)⟩ (fun b => by rw [sD_ne (by decide), f514]) (by rw [sD_ne (by decide), f37]) (fun Dp ρ' D' a1 a2 => ?_)
    · show (if 515 = 515 ∧ b = 1 then (1 : Int) else D1 515 b) = ((if b = 1 then 1 else 0 : Nat) : Int)
      by_cases e : b = 1
      · rw [if_pos ⟨rfl, e⟩, if_pos e]; rfl
      · rw [if_neg (fun z => e z.2), if_neg e, R0 b hb]; rfl
    · simp only [mGF m488, mr41]
      rw [a1, aVC, tlN, vM_readAtom_81, mGF m488, a2, aVC, tlN, vM_readAtom_85, aZ1]
  rw [if_neg k3, if_neg k3, vM_readAtom_87, mGF m488, msn40 hS1.2.1, aVC, tlS, vM_readAtom_93, if_neg (show ¬ t.1 = 40 by omega), if_pos rfl, vM_readAtom_96]
  by_cases k4 : 4 ≤ kw t.2.2.1
  · rw [if_neg (show ¬ kw t.2.2.1 < 4 by omega), if_pos k4, vM_readAtom_101, mGF m488]
    have r := mbr2 hs hS1 hw (by omega) hs3 k4 (by omega)
    cases hr : whP X sub (kw t.2.2.1) t with
    | inl e =>
      rw [hr] at r
      refine MPO_er r LX_rf x1 (fun ρ2 D2 q => ?_)
      rw [q, aVC, tlS, vM_readAtom_106, aZ0]
    | inr rr =>
      rw [hr] at r
      obtain ⟨ρ2, D2, r1, r2, r3, r4, r5, r6, r7, r8, r9⟩ := r
      refine ⟨ρ2, D2, ?_, r2, XF_tr x1 r3, by rw [r4, f37], r5, r6, r7, fun b hb => by rw [r8 b hb, f514], r9⟩
      rw [r1, aVC, tlS, vM_readAtom_106, aZ1]
  rw [if_pos (show kw t.2.2.1 < 4 by omega), if_neg k4, vM_readAtom_107, mGF m488, hD, if_pos (kd2.mpr h256), vM_readAtom_115]
  by_cases km : kw t.2.2.1 = -1
  rotate_left
  · rw [if_neg km, if_neg km, vM_readAtom_120, mGF m488, mbad1 hS1.2.1, aVC, tlS, vM_readAtom_125, aZ0]
    exact MPO_bad (f' := 1) rfl LX_rf x1 rfl
  rw [if_pos km, if_pos km, vM_readAtom_126, mGF m488, mfind hS1.1.2.2.2.1 hS1.2.1 h256, aVC, tlS, vM_readAtom_130]
  by_cases ki : nix (sC X) t.2.2.1 (tN (sA X)) 0 = -1
  · rw [if_pos ki, if_pos ki, vM_readAtom_136, mGF m488, mbad3 hS1.2.1 (by omega), aVC, tlS, vM_readAtom_141, aZ0]
    exact MPO_bad (f' := 3) rfl LX_rf x1 rfl
  rw [if_neg ki, if_neg ki]
  obtain ⟨i, -, hi2, hi3⟩ := (nix_rng (sC X) t.2.2.1 (tN (sA X)) 0).resolve_left ki
  rw [hi3, Int.toNat_natCast]
  have h12 := hS1.1.2.2.2.1.1
  have hPo := hS1.1.2.2.2.2 i (by omega)
  have q := mcopy (d := k + 11) (ρ := ρ) (D := D1) (a := 16 + 17 * i) (b := 0) m491 m515 (by omega) (by decide) (by decide) (Or.inl (by decide)) hPo
  rw [pOn_pD] at q
  rw [vM_readAtom_142]
  simp only [mGF m488, mr4, mr41]
  rw [show w32 (16 + w32 (17 * (i : Int))) = ((16 + 17 * i : Nat) : Int) from by rw [w32_i (x := 17 * (i : Int)) (by omega) (by omega), w32_i (by omega) (by omega)]; omega, show (0 : Int) = ((0 : Nat) : Int) from rfl, q, aVC, tlN, vM_readAtom_161]
  simp only [mGF m488, mr41]
  refine tell (pD D1 515 (rI (tn (sA X) i))) (tn (sA X) i) _ (by omega) (MST_sc hS1 (fun q a => pD_ne (by omega))) (XF_tr x1 (XF_sc (fun q a => pD_ne (by omega)))) pD_PR (hS1.1.2.1.2.2.2.2.1 i (by omega)) (fun b => by rw [pD_ne (by decide), f514]) (by rw [pD_ne (by decide), f37]) (fun Dp ρ' D' a1 a2 => ?_)
  rw [a1, aVC, tlN, vM_readAtom_169, mGF m488, a2, aVC, tlN, vM_readAtom_173, aZ1]
end MEX3
