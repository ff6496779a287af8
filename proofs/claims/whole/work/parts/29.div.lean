/-! DIVISIONS in the class -/
def dq (Φ : gF) (side n hd k : Nat) (L : Nat → Nat) : Nat := if side = 1 then fB Φ n (fm Φ (L (k + n)) hd) else fm Φ (L (k + n)) (fT Φ k hd)
def dvl (Φ : gF) (side n hd : Nat) (G : Nat → Nat) : Nat → (Nat → Nat) → (Nat → Nat) → (Nat → Nat) × (Nat → Nat)
  | 0, L, Q => (Q, L)
  | k + 1, L, Q => dvl Φ side n hd G k (pA L (pJ Φ side (mono (dq Φ side n hd k L) k) G)) (fun b => if b = k then dq Φ side n hd k L else Q b)
/-- quotient and rest -/
def dvd (Φ : gF) (side : Nat) (F G : Nat → Nat) : (Nat → Nat) × (Nat → Nat) := dvl Φ side (sz G - 1) (fi Φ (G (sz G - 1))) G (sz F - (sz G - 1)) F p0
theorem pD_congr {D : jD} {c : Nat} {r r' : Nat → Int} (h : ∀ b, b < 17 → r b = r' b) : pD D c r = pD D c r' := by
  funext a b
  unfold pD pDn
  split
  · rename_i q; exact h b q.2
  · rfl
theorem pJ_in {Φ : gF} (h : FOK Φ) {side : Nat} {A B : Nat → Nat} (hA : inF Φ A) (hB : inF Φ B) : inF Φ (pJ Φ side A B) := by
  unfold pJ; split
  · exact pP_in h hB _
  · exact pP_in h hA _
theorem sz_mono (c k : Nat) : sz (mono c k) ≤ k + 1 := sz_dle_le (mono_dle c k)
theorem pJ_dle {Φ : gF} {side : Nat} {A B : Nat → Nat} (hA : dle A 17) (hB : dle B 17) (n : Nat) (h : sz A + sz B ≤ n + 1) : dle (pJ Φ side A B) n := by
  unfold pJ; split
  · exact dle_mono (pP_dle (sz_dle hA) (sz B)) (by omega)
  · exact dle_mono (pP_dle (sz_dle hB) (sz A)) (by omega)
section DIV
variable {ω : jw} {D : jD} {b d : Nat} {Φ : gF}
theorem addF (h : FOK Φ) {o o2 : Nat} (hP : isP o) (hP2 : isP o2) {A B : Nat → Nat} (hA : PR D (o + 1) A) (hB : PR D (o2 + 1) B) (iA : inF Φ A) (iB : inF Φ B) : Vl d 69 0 [some (.inr (.inr (some o))), some (.inr (.inr (some o2))), none] [] (hp ω D) = some ((0, none), hp ω (pD D (o + 1) (rI (pA A B)))) := by
  have e : pD D (o + 1) (fun b => jxor (D (o + 1) b) (D (o2 + 1) b)) = pD D (o + 1) (rI (pA A B)) := pD_congr fun c hc => by
    have h256 := F_256 h
    have h1 := iA c
    have h2 := iB c
    rw [hA c hc, hB c hc, jxor_n (by omega) (by omega)]
    rfl
  rw [add_spec hP hP2, e]
theorem copyF {o o2 : Nat} (hP : isP o) (hP2 : isP o2) {B : Nat → Nat} (hB : PR D (o2 + 1) B) : Vl d 54 0 [some (.inr (.inr (some o))), some (.inr (.inr (some o2))), none] [] (hp ω D) = some ((0, none), hp ω (pD D (o + 1) (rI B))) := by
  rw [copy_spec hP hP2]
  congr 3
  exact pD_congr fun c hc => hB c hc
theorem clearF {o : Nat} (hP : isP o) : Vl d 49 0 [some (.inr (.inr (some o))), none] [] (hp ω D) = some ((0, none), hp ω (pD D (o + 1) (rI p0))) := clear_spec hP
theorem constantF {o v : Nat} (hP : isP o) : Vl (d + 1) 72 0 [some (.inr (.inr (some o))), some (.inl (v : Int))] [] (hp ω D) = some ((0, none), hp ω (pD D (o + 1) (rI (mono v 0)))) := by
  rw [constant_spec hP]
  congr 3
  refine pD_congr fun c hc => ?_
  unfold rI mono
  split <;> rfl
theorem letterF {o : Nat} (hP : isP o) : Vl (d + 1) 79 0 [some (.inr (.inr (some o)))] [] (hp ω D) = some ((0, none), hp ω (pD D (o + 1) (rI (mono 1 1)))) := by
  rw [letter_spec hP]
  congr 3
  refine pD_congr fun c hc => ?_
  unfold rI mono
  split <;> rfl
theorem putF {o j v : Nat} (hP : isP o) {A : Nat → Nat} (hA : PR D (o + 1) A) (hj : j < 17) : Vl d 65 0 [some (.inr (.inr (some o))), some (.inl (j : Int)), some (.inl (v : Int))] [] (hp ω D) = some ((0, none), hp ω (pD D (o + 1) (rI (fun c => if c = j then v else A c)))) := by
  rw [put_spec hP hj]
  congr 3
  funext a c
  unfold sD pD pDn
  by_cases h1 : a = o + 1
  · subst h1
    by_cases h2 : c = j
    · rw [if_pos ⟨rfl, h2⟩, if_pos (by omega)]; dsimp only [rI]; rw [if_pos h2]
    · rw [if_neg (by omega)]
      by_cases h3 : c < 17
      · rw [if_pos ⟨rfl, h3⟩, hA c h3]; dsimp only [rI]; rw [if_neg h2]
      · rw [if_neg (by omega)]
  · rw [if_neg (by omega), if_neg (by omega)]
theorem quotientNumber_spec (hb : isK b) (hF : FT Φ D (b + 1)) {L : Nat → Nat} (RL : PR D (b + 23) L) (iL : inF Φ L) (dL : dle L 17) {side n hd k : Nat} (hs : side < 2) (hd2 : hd < 2 ^ Φ.1) (hkn : k + n < 17) : Vl (d + 1) 62 0 [some (.inr (.inr (some b))), some (.inl (side : Int)), some (.inl (hd : Int)), some (.inl (n : Int)), some (.inl (k : Int)), none] [] (hp ω D) = some ((0, some (.inl (dq Φ side n hd k L : Int))), hp ω D) := by
  simp only [vK_quotientNumber_0, aGF (kK hb), rK_0 hb, aGF (kF (fK hb)), rK_1 hb, rK_2 hb, rK_3 hb, rK_4 hb, rK_6 hb, rK_7 hb, rK_8 hb, rK_9 hb, rK_10 hb, rK_11 hb, rK_12 hb, rK_13 hb, rK_14 hb, rK_15 hb, rK_16 hb, aGF (kP (pK_6 hb)), aGF (kP (pK_8 hb)), aGF (kP (pK_10 hb)), aGF (kP (pK_12 hb)), aGF (kP (pK_14 hb)), aGF (kP (pK_16 hb)), aGF (kP (pK_18 hb)), aGF (kP (pK_20 hb)), aGF (kP (pK_22 hb)), aGF (kP (pK_24 hb)), aGF (kP (pK_26 hb)), aGF (kP (pK_28 hb)), aGF (kP (pK_30 hb)), aGF (kP (pK_32 hb)), aGF (kP (pK_34 hb)), rP (pK_6 hb), rP (pK_8 hb), rP (pK_10 hb), rP (pK_12 hb), rP (pK_14 hb), rP (pK_16 hb), rP (pK_18 hb), rP (pK_20 hb), rP (pK_22 hb), rP (pK_24 hb), rP (pK_26 hb), rP (pK_28 hb), rP (pK_30 hb), rP (pK_32 hb), rP (pK_34 hb), w32_ad (show k + n < 2147483648 by omega), getF (pK_22 hb) RL dL (show k + n < 2147483648 by omega), aVC, tlS, tlN, aLt, hD, hwD]
  rw [vK_quotientNumber_11]
  unfold dq
  by_cases h : side = 1
  · subst h
    rw [if_neg (by decide), if_pos rfl]
    simp only [vK_quotientNumber_37, aGF (kK hb), rK_0 hb, aGF (kF (fK hb)), rK_1 hb, rK_2 hb, rK_3 hb, rK_4 hb, rK_6 hb, rK_7 hb, rK_8 hb, rK_9 hb, rK_10 hb, rK_11 hb, rK_12 hb, rK_13 hb, rK_14 hb, rK_15 hb, rK_16 hb, aGF (kP (pK_6 hb)), aGF (kP (pK_8 hb)), aGF (kP (pK_10 hb)), aGF (kP (pK_12 hb)), aGF (kP (pK_14 hb)), aGF (kP (pK_16 hb)), aGF (kP (pK_18 hb)), aGF (kP (pK_20 hb)), aGF (kP (pK_22 hb)), aGF (kP (pK_24 hb)), aGF (kP (pK_26 hb)), aGF (kP (pK_28 hb)), aGF (kP (pK_30 hb)), aGF (kP (pK_32 hb)), aGF (kP (pK_34 hb)), rP (pK_6 hb), rP (pK_8 hb), rP (pK_10 hb), rP (pK_12 hb), rP (pK_14 hb), rP (pK_16 hb), rP (pK_18 hb), rP (pK_20 hb), rP (pK_22 hb), rP (pK_24 hb), rP (pK_26 hb), rP (pK_28 hb), rP (pK_30 hb), rP (pK_32 hb), rP (pK_34 hb), product_spec (fK hb) hF (iL (k + n)) hd2, aVC, tlS, tlN, aLt, hD, hwD, vK_quotientNumber_51, aGF (kF (fK hb)), turnBack_spec (fK hb) hF (fm_lt hF.1 (b := hd) (iL (k + n))) (show n < 18 by omega), vK_quotientNumber_55]
  · rw [if_pos (by omega), if_neg h]
    simp only [vK_quotientNumber_17, aGF (kK hb), rK_0 hb, aGF (kF (fK hb)), rK_1 hb, rK_2 hb, rK_3 hb, rK_4 hb, rK_6 hb, rK_7 hb, rK_8 hb, rK_9 hb, rK_10 hb, rK_11 hb, rK_12 hb, rK_13 hb, rK_14 hb, rK_15 hb, rK_16 hb, aGF (kP (pK_6 hb)), aGF (kP (pK_8 hb)), aGF (kP (pK_10 hb)), aGF (kP (pK_12 hb)), aGF (kP (pK_14 hb)), aGF (kP (pK_16 hb)), aGF (kP (pK_18 hb)), aGF (kP (pK_20 hb)), aGF (kP (pK_22 hb)), aGF (kP (pK_24 hb)), aGF (kP (pK_26 hb)), aGF (kP (pK_28 hb)), aGF (kP (pK_30 hb)), aGF (kP (pK_32 hb)), aGF (kP (pK_34 hb)), rP (pK_6 hb), rP (pK_8 hb), rP (pK_10 hb), rP (pK_12 hb), rP (pK_14 hb), rP (pK_16 hb), rP (pK_18 hb), rP (pK_20 hb), rP (pK_22 hb), rP (pK_24 hb), rP (pK_26 hb), rP (pK_28 hb), rP (pK_30 hb), rP (pK_32 hb), rP (pK_34 hb), turn_spec (fK hb) hF hd2 (show k < 100 by omega), aVC, tlS, tlN, aLt, hD, hwD, vK_quotientNumber_33, product_spec (fK hb) hF (iL (k + n)) (fT_lt hF.1 hd2 k), vK_quotientNumber_36]
theorem divide_loop (hb : isK b) (hF : FT Φ D (b + 1)) {g qo ro : Nat} (hg : isP g) (hq : isP qo) (hr : isP ro) (g1 : g ≠ b + 16) (g2 : g ≠ b + 18) (g3 : g ≠ b + 20) (g4 : g ≠ b + 22) (g5 : g ≠ b + 24) (hql : qo ≠ b + 22) (hqr : qo ≠ ro) {G : Nat → Nat} (RG : PR D (g + 1) G) (iG : inF Φ G) (dG : dle G 17) {side n hd : Nat} (hsd : side < 2) (hn : sz G = n + 1) (hhd : hd < 2 ^ Φ.1) (o2 : Option Nat) :
    ∀ (k : Nat) (L Q : Nat → Nat) (Dk : jD) (u9 : Option jv), k + n ≤ 17 → PR Dk (b + 23) L → PR Dk (b + 25) Q → inF Φ L → dle L 17 → (∀ c, c ≠ b + 17 → c ≠ b + 19 → c ≠ b + 21 → c ≠ b + 23 → c ≠ b + 25 → Dk c = D c) →
    ∃ D', Vl (d + 2) 58 55 [some (.inr (.inr (some b))), some (.inl (side : Int)), some (.inr (.inr o2)), some (.inr (.inr (some g))), some (.inr (.inr (some qo))), some (.inr (.inr (some ro))), some (.inl (n : Int)), some (.inl (hd : Int)), some (.inl ((k : Int) - 1)), u9] [] (hp ω Dk) = some ((0, some (.inl 1)), hp ω D') ∧ PR D' (qo + 1) (dvl Φ side n hd G k L Q).1 ∧ PR D' (ro + 1) (dvl Φ side n hd G k L Q).2 ∧ ∀ c, c ≠ b + 17 → c ≠ b + 19 → c ≠ b + 21 → c ≠ b + 23 → c ≠ b + 25 → c ≠ qo + 1 → c ≠ ro + 1 → D' c = D c
  | 0, L, Q, Dk, u9, hk, RL, RQ, iL, dL, hfr => by
    have e1 : PR (pD Dk (qo + 1) (rI Q)) (b + 23) L := PR_ne (pD_ne (by omega)) RL
    refine ⟨pD (pD Dk (qo + 1) (rI Q)) (ro + 1) (rI L), ?_, ?_, ?_, ?_⟩
    · rw [vK_divide_55, if_pos (by omega)]
      simp only [vK_divide_134, aGF (kK hb), rK_0 hb, aGF (kF (fK hb)), rK_1 hb, rK_2 hb, rK_3 hb, rK_4 hb, rK_6 hb, rK_7 hb, rK_8 hb, rK_9 hb, rK_10 hb, rK_11 hb, rK_12 hb, rK_13 hb, rK_14 hb, rK_15 hb, rK_16 hb, aGF (kP (pK_6 hb)), aGF (kP (pK_8 hb)), aGF (kP (pK_10 hb)), aGF (kP (pK_12 hb)), aGF (kP (pK_14 hb)), aGF (kP (pK_16 hb)), aGF (kP (pK_18 hb)), aGF (kP (pK_20 hb)), aGF (kP (pK_22 hb)), aGF (kP (pK_24 hb)), aGF (kP (pK_26 hb)), aGF (kP (pK_28 hb)), aGF (kP (pK_30 hb)), aGF (kP (pK_32 hb)), aGF (kP (pK_34 hb)), rP (pK_6 hb), rP (pK_8 hb), rP (pK_10 hb), rP (pK_12 hb), rP (pK_14 hb), rP (pK_16 hb), rP (pK_18 hb), rP (pK_20 hb), rP (pK_22 hb), rP (pK_24 hb), rP (pK_26 hb), rP (pK_28 hb), rP (pK_30 hb), rP (pK_32 hb), rP (pK_34 hb), aGF (kP hq), rP hq, aGF (kP hr), rP hr, copyF hq (pK_24 hb) RQ, aVC, tlS, tlN, aLt, hD, hwD, vK_divide_143, copyF hr (pK_22 hb) e1, vK_divide_152, aZ1]
    · exact PR_ne (pD_ne (by omega)) pD_PR
    · exact pD_PR
    · intro c h1 h2 h3 h4 h5 h6 h7
      rw [pD_ne (by omega), pD_ne (by omega), hfr c h1 h2 h3 h4 h5]
  | k + 1, L, Q, Dk, u9, hk, RL, RQ, iL, dL, hfr => by
    have hn17 := sz_le G
    have hFk : FT Φ Dk (b + 1) := FT_fr hF (fun c h1 h2 => hfr c (by omega) (by omega) (by omega) (by omega) (by omega))
    have hc : dq Φ side n hd k L < 2 ^ Φ.1 := by
      unfold dq; split
      · exact fB_lt hF.1 (fm_lt hF.1 (iL _)) _
      · exact fm_lt hF.1 (iL _)
    have q1 := quotientNumber_spec (ω := ω) (d := d) hb hFk RL iL dL (side := side) (n := n) (hd := hd) (k := k) hsd hhd (by omega)
    have q2 := putF (ω := ω) (d := d + 1) (pK_24 hb) RQ (j := k) (v := dq Φ side n hd k L) (by omega)
    have q3 := clearF (ω := ω) (d := d + 1) (D := pD Dk (b + 24 + 1) (rI (fun c => if c = k then dq Φ side n hd k L else Q c))) (pK_20 hb)
    have R3 : PR (pD (pD Dk (b + 24 + 1) (rI (fun c => if c = k then dq Φ side n hd k L else Q c))) (b + 20 + 1) (rI p0)) (b + 20 + 1) p0 := pD_PR
    have q4 := putF (ω := ω) (d := d + 1) (pK_20 hb) R3 (j := k) (v := dq Φ side n hd k L) (by omega)
    obtain ⟨D4, hD4⟩ : ∃ D4, D4 = pD (pD (pD Dk (b + 24 + 1) (rI (fun c => if c = k then dq Φ side n hd k L else Q c))) (b + 20 + 1) (rI p0)) (b + 20 + 1) (rI (fun c => if c = k then dq Φ side n hd k L else p0 c)) := ⟨_, rfl⟩
    rw [← hD4] at q4
    have f4 : ∀ c, c ≠ b + 21 → c ≠ b + 25 → D4 c = Dk c := fun c h1 h2 => by rw [hD4, pD_ne (by omega), pD_ne (by omega), pD_ne (by omega)]
    have S4 : PR D4 (b + 20 + 1) (mono (dq Φ side n hd k L) k) := by rw [hD4]; exact pD_PR
    have Q4 : PR D4 (b + 25) (fun c => if c = k then dq Φ side n hd k L else Q c) := by
      rw [hD4]; exact PR_ne (pD_ne (by omega)) (PR_ne (pD_ne (by omega)) pD_PR)
    have F4 : FT Φ D4 (b + 1) := FT_fr hFk (fun c h1 h2 => f4 c (by omega) (by omega))
    have G4 : PR D4 (g + 1) G := PR_ne (by rw [f4 _ (by omega) (by omega), hfr _ (by omega) (by omega) (by omega) (by omega) (by omega)]) RG
    have hsm := sz_mono (dq Φ side n hd k L) k
    obtain ⟨D5, q5, R5, f5⟩ := join_spec (ω := ω) (d := d) hb F4 (pK_20 hb) hg (pK_20 hb) (by omega) (by omega) g1 g2 S4 G4 (mono_in hc k) iG (dle_mono (mono_dle _ _) (by omega)) dG (by omega) hsd
    have L5 : PR D5 (b + 22 + 1) L := PR_ne (by rw [f5 _ (by omega) (by omega) (by omega), f4 _ (by omega) (by omega)]) RL
    have hJ := pJ_in hF.1 (side := side) (mono_in hc k) iG
    have q6 := addF (ω := ω) (d := d + 1) hF.1 (pK_22 hb) (pK_20 hb) L5 R5 iL hJ
    rw [vK_divide_55, if_neg (by omega), show ((k + 1 : Nat) : Int) - 1 = (k : Int) by omega]
    simp only [vK_divide_60, aGF (kK hb), rK_0 hb, aGF (kF (fK hb)), rK_1 hb, rK_2 hb, rK_3 hb, rK_4 hb, rK_6 hb, rK_7 hb, rK_8 hb, rK_9 hb, rK_10 hb, rK_11 hb, rK_12 hb, rK_13 hb, rK_14 hb, rK_15 hb, rK_16 hb, aGF (kP (pK_6 hb)), aGF (kP (pK_8 hb)), aGF (kP (pK_10 hb)), aGF (kP (pK_12 hb)), aGF (kP (pK_14 hb)), aGF (kP (pK_16 hb)), aGF (kP (pK_18 hb)), aGF (kP (pK_20 hb)), aGF (kP (pK_22 hb)), aGF (kP (pK_24 hb)), aGF (kP (pK_26 hb)), aGF (kP (pK_28 hb)), aGF (kP (pK_30 hb)), aGF (kP (pK_32 hb)), aGF (kP (pK_34 hb)), rP (pK_6 hb), rP (pK_8 hb), rP (pK_10 hb), rP (pK_12 hb), rP (pK_14 hb), rP (pK_16 hb), rP (pK_18 hb), rP (pK_20 hb), rP (pK_22 hb), rP (pK_24 hb), rP (pK_26 hb), rP (pK_28 hb), rP (pK_30 hb), rP (pK_32 hb), rP (pK_34 hb), q1, aVC, tlS, tlN, aLt, hD, hwD, vK_divide_71, q2, vK_divide_84, q3, vK_divide_91, q4, vK_divide_102, q5, vK_divide_116, q6, vK_divide_128]
    rw [show w32 ((k : Int) + (-1)) = (k : Int) - 1 by unfold w32; omega]
    have hdJ : dle (pJ Φ side (mono (dq Φ side n hd k L) k) G) 17 := pJ_dle (dle_mono (mono_dle _ _) (by omega)) dG 17 (by omega)
    obtain ⟨D', a1, a2, a3, a4⟩ := divide_loop hb hF hg hq hr g1 g2 g3 g4 g5 hql hqr RG iG dG hsd hn hhd o2 k (pA L (pJ Φ side (mono (dq Φ side n hd k L) k) G)) (fun c => if c = k then dq Φ side n hd k L else Q c) (pD D5 (b + 22 + 1) (rI (pA L (pJ Φ side (mono (dq Φ side n hd k L) k) G)))) (some (.inl (dq Φ side n hd k L : Int))) (by omega) pD_PR (PR_ne (by rw [pD_ne (by omega), f5 _ (by omega) (by omega) (by omega)]) Q4) (pA_in iL hJ) (pA_dle dL hdJ) (fun c h1 h2 h3 h4 h5 => by rw [pD_ne (by omega), f5 _ (by omega) (by omega) (by omega), f4 _ (by omega) (by omega), hfr c h1 h2 h3 h4 h5])
    exact ⟨D', a1, a2, a3, a4⟩
theorem divide_spec (hb : isK b) (hF : FT Φ D (b + 1)) {f g qo ro : Nat} (hf : isP f) (hg : isP g) (hq : isP qo) (hr : isP ro) (g1 : g ≠ b + 16) (g2 : g ≠ b + 18) (g3 : g ≠ b + 20) (g4 : g ≠ b + 22) (g5 : g ≠ b + 24) (hql : qo ≠ b + 22) (hqr : qo ≠ ro) {F G : Nat → Nat} (RF : PR D (f + 1) F) (RG : PR D (g + 1) G) (iF : inF Φ F) (iG : inF Φ G) (dF : dle F 17) (dG : dle G 17) {side : Nat} (hsd : side < 2) (hn : sz G ≠ 0) :
    ∃ D', Vl (d + 2) 58 0 [some (.inr (.inr (some b))), some (.inl (side : Int)), some (.inr (.inr (some f))), some (.inr (.inr (some g))), some (.inr (.inr (some qo))), some (.inr (.inr (some ro))), none, none, none, none] [] (hp ω D) = some ((0, some (.inl 1)), hp ω D') ∧ PR D' (qo + 1) (dvd Φ side F G).1 ∧ PR D' (ro + 1) (dvd Φ side F G).2 ∧ ∀ c, c ≠ b + 17 → c ≠ b + 19 → c ≠ b + 21 → c ≠ b + 23 → c ≠ b + 25 → c ≠ qo + 1 → c ≠ ro + 1 → D' c = D c := by
  obtain ⟨n, hn⟩ : ∃ n, sz G = n + 1 := ⟨sz G - 1, by omega⟩
  have hn17 := sz_le G
  have hf17 := sz_le F
  have q1 := copyF (ω := ω) (d := d + 1) (pK_22 hb) hf RF
  have q2 := clearF (ω := ω) (d := d + 1) (D := pD D (b + 22 + 1) (rI F)) (pK_24 hb)
  have L2 : PR (pD (pD D (b + 22 + 1) (rI F)) (b + 24 + 1) (rI p0)) (b + 22 + 1) F := PR_ne (pD_ne (by omega)) pD_PR
  simp only [vK_divide_0, aGF (kP hg), rP hg, topF hg RG, aVC, tlS, tlN, aLt, hD, hwD]
  rw [vK_divide_4, if_neg (by omega), hn, show ((n + 1 : Nat) : Int) - 1 = (n : Int) by omega]
  simp only [vK_divide_13, aGF (kK hb), rK_0 hb, aGF (kF (fK hb)), rK_1 hb, rK_2 hb, rK_3 hb, rK_4 hb, rK_6 hb, rK_7 hb, rK_8 hb, rK_9 hb, rK_10 hb, rK_11 hb, rK_12 hb, rK_13 hb, rK_14 hb, rK_15 hb, rK_16 hb, aGF (kP (pK_6 hb)), aGF (kP (pK_8 hb)), aGF (kP (pK_10 hb)), aGF (kP (pK_12 hb)), aGF (kP (pK_14 hb)), aGF (kP (pK_16 hb)), aGF (kP (pK_18 hb)), aGF (kP (pK_20 hb)), aGF (kP (pK_22 hb)), aGF (kP (pK_24 hb)), aGF (kP (pK_26 hb)), aGF (kP (pK_28 hb)), aGF (kP (pK_30 hb)), aGF (kP (pK_32 hb)), aGF (kP (pK_34 hb)), rP (pK_6 hb), rP (pK_8 hb), rP (pK_10 hb), rP (pK_12 hb), rP (pK_14 hb), rP (pK_16 hb), rP (pK_18 hb), rP (pK_20 hb), rP (pK_22 hb), rP (pK_24 hb), rP (pK_26 hb), rP (pK_28 hb), rP (pK_30 hb), rP (pK_32 hb), rP (pK_34 hb), aGF (kP hg), rP hg, getF hg RG dG (show n < 2147483648 by omega), aVC, tlS, tlN, aLt, hD, hwD, vK_divide_23, aGF (kF (fK hb)), inverse_spec (fK hb) hF (iG n), vK_divide_26, q1, vK_divide_36, q2, vK_divide_43, topF (pK_22 hb) L2, vK_divide_50]
  have hdv : dvd Φ side F G = dvl Φ side n (fi Φ (G n)) G (sz F - n) F p0 := by
    unfold dvd; rw [hn, Nat.add_sub_cancel]
  rw [hdv]
  have hfr : ∀ c, c ≠ b + 17 → c ≠ b + 19 → c ≠ b + 21 → c ≠ b + 23 → c ≠ b + 25 → pD (pD D (b + 22 + 1) (rI F)) (b + 24 + 1) (rI p0) c = D c := fun c h1 h2 h3 h4 h5 => by rw [pD_ne (by omega), pD_ne (by omega)]
  by_cases hk : n ≤ sz F
  · rw [show w32 ((sz F : Int) - 1 - (n : Int)) = ((sz F - n : Nat) : Int) - 1 by unfold w32; omega]
    exact divide_loop hb hF hg hq hr g1 g2 g3 g4 g5 hql hqr RG iG dG hsd hn (fi_lt hF.1 (iG n)) (some f) (sz F - n) F p0 _ _ (by omega) L2 pD_PR iF dF hfr
  · rw [show sz F - n = 0 by omega]
    have e0 : Vl (d + 2) 58 55 [some (.inr (.inr (some b))), some (.inl (side : Int)), some (.inr (.inr (some f))), some (.inr (.inr (some g))), some (.inr (.inr (some qo))), some (.inr (.inr (some ro))), some (.inl (n : Int)), some (.inl (fi Φ (G n) : Int)), some (.inl (w32 ((sz F : Int) - 1 - (n : Int)))), none] [] (hp ω (pD (pD D (b + 22 + 1) (rI F)) (b + 24 + 1) (rI p0))) = Vl (d + 2) 58 134 [some (.inr (.inr (some b))), some (.inl (side : Int)), some (.inr (.inr (some f))), some (.inr (.inr (some g))), some (.inr (.inr (some qo))), some (.inr (.inr (some ro))), some (.inl (n : Int)), some (.inl (fi Φ (G n) : Int)), some (.inl (w32 ((sz F : Int) - 1 - (n : Int)))), none] [] (hp ω (pD (pD D (b + 22 + 1) (rI F)) (b + 24 + 1) (rI p0))) := by
      rw [vK_divide_55, if_pos (by unfold w32; omega)]
    rw [e0]
    refine ⟨pD (pD (pD (pD D (b + 22 + 1) (rI F)) (b + 24 + 1) (rI p0)) (qo + 1) (rI p0)) (ro + 1) (rI F), ?_, ?_, ?_, ?_⟩
    · have e1 : PR (pD (pD (pD D (b + 22 + 1) (rI F)) (b + 24 + 1) (rI p0)) (qo + 1) (rI p0)) (b + 22 + 1) F := PR_ne (pD_ne (by omega)) L2
      have e2 : PR (pD (pD D (b + 22 + 1) (rI F)) (b + 24 + 1) (rI p0)) (b + 24 + 1) p0 := pD_PR
      simp only [vK_divide_134, aGF (kK hb), rK_0 hb, aGF (kF (fK hb)), rK_1 hb, rK_2 hb, rK_3 hb, rK_4 hb, rK_6 hb, rK_7 hb, rK_8 hb, rK_9 hb, rK_10 hb, rK_11 hb, rK_12 hb, rK_13 hb, rK_14 hb, rK_15 hb, rK_16 hb, aGF (kP (pK_6 hb)), aGF (kP (pK_8 hb)), aGF (kP (pK_10 hb)), aGF (kP (pK_12 hb)), aGF (kP (pK_14 hb)), aGF (kP (pK_16 hb)), aGF (kP (pK_18 hb)), aGF (kP (pK_20 hb)), aGF (kP (pK_22 hb)), aGF (kP (pK_24 hb)), aGF (kP (pK_26 hb)), aGF (kP (pK_28 hb)), aGF (kP (pK_30 hb)), aGF (kP (pK_32 hb)), aGF (kP (pK_34 hb)), rP (pK_6 hb), rP (pK_8 hb), rP (pK_10 hb), rP (pK_12 hb), rP (pK_14 hb), rP (pK_16 hb), rP (pK_18 hb), rP (pK_20 hb), rP (pK_22 hb), rP (pK_24 hb), rP (pK_26 hb), rP (pK_28 hb), rP (pK_30 hb), rP (pK_32 hb), rP (pK_34 hb), aGF (kP hq), rP hq, aGF (kP hr), rP hr, copyF hq (pK_24 hb) e2, aVC, tlS, tlN, aLt, hD, hwD, vK_divide_143, copyF hr (pK_22 hb) e1, vK_divide_152, aZ1]
    · exact PR_ne (pD_ne (by omega)) pD_PR
    · exact pD_PR
    · intro c h1 h2 h3 h4 h5 h6 h7
      rw [pD_ne (by omega), pD_ne (by omega), hfr c h1 h2 h3 h4 h5]
theorem divide_no {f g qo ro : Nat} (hg : isP g) {G : Nat → Nat} (RG : PR D (g + 1) G) (hn : sz G = 0) (x : Int) : Vl (d + 1) 58 0 [some (.inr (.inr (some b))), some (.inl x), some (.inr (.inr (some f))), some (.inr (.inr (some g))), some (.inr (.inr (some qo))), some (.inr (.inr (some ro))), none, none, none, none] [] (hp ω D) = some ((0, some (.inl 0)), hp ω D) := by
  simp only [vK_divide_0, aGF (kP hg), rP hg, topF hg RG, aVC, tlS, tlN, aLt, hD, hwD]
  rw [vK_divide_4, if_pos (by omega), vK_divide_11]; rfl
end DIV
