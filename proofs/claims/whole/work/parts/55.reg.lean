/-! REGISTER in the class: equations, elimination, taps -/
def wP (ω : jw) : Prop := (∀ i, i < 16 → ω.2.1 i < 16) ∧ ∀ i j, i < 16 → j < 16 → ω.2.1 i = ω.2.1 j → i = j
def wG (ω ω' : jw) : Prop := ω'.1 = ω.1 ∧ ω'.2.2 = ω.2.2 ∧ (wP ω → wP ω')
def wSw (ω : jw) (i x : Nat) : jw := (ω.1, fun j => if j = i then x else ω.2.1 j, ω.2.2)
def flR (Φ : gF) (row : Nat → Nat) (t i : Nat) : pl := fun b => if b = 0 then row (i + t) else fT Φ b (row (i + t - b))
def rwf (R : Nat → pl) (i : Nat) : Nat → Nat → Option Nat
  | 0, _ => none
  | n + 1, r => if R r i = 0 then rwf R i n (r + 1) else some r
def rwI : Option Nat → Int
  | none => -1
  | some f => (f : Int)
def swM (R : Nat → pl) (a b : Nat) : Nat → pl := fun r => if r = b then R a else if r = a then R b else R r
def clM (Φ : gF) (R : Nat → pl) (i s : Nat) : Nat → pl := fun r => if r = s then (fun b => fm Φ (R s b) (fi Φ (R s i))) else fun b => R r b ^^^ fm Φ (R r i) (fm Φ (R s b) (fi Φ (R s i)))
def mdM (Φ : gF) (R : Nat → pl) (i s r : Nat) : Nat → pl := fun q => if q = s ∨ q < r then clM Φ R i s q else R q
def slv (Φ : gF) (cnt : Nat) : Nat → (Nat → pl) → Nat → (Nat → Int) → (Nat → pl) × Nat × (Nat → Int)
  | 0, R, dn, sb => (R, dn, sb)
  | i + 1, R, dn, sb => match rwf R (i + 1) (cnt - dn) dn with
    | none => slv Φ cnt i R dn (fun b => if b = i + 1 then -1 else sb b)
    | some f => slv Φ cnt i (clM Φ (swM R f dn) (i + 1) dn) (dn + 1) (fun b => if b = i + 1 then (dn : Int) else sb b)
def zer (R : Nat → pl) : Nat → Nat → Bool
  | 0, _ => true
  | n + 1, r => if R r 0 = 0 then zer R n (r + 1) else false
def rgS (Φ : gF) (row : Nat → Nat) (most t : Nat) : (Nat → pl) × Nat × (Nat → Int) := slv Φ (most - t) t (flR Φ row t) 0 (fun _ => -1)
def rgOK (Φ : gF) (row : Nat → Nat) (most t : Nat) : Bool := zer (rgS Φ row most t).1 (most - t - (rgS Φ row most t).2.1) (rgS Φ row most t).2.1
def rgF (Φ : gF) (row : Nat → Nat) (most : Nat) : Nat → Nat → Nat
  | 0, t => t
  | n + 1, t => if rgOK Φ row most t = true then t else rgF Φ row most n (t + 1)
def rgT (Φ : gF) (row : Nat → Nat) (most t i : Nat) : Nat := if 0 ≤ (rgS Φ row most t).2.2 i then (rgS Φ row most t).1 ((rgS Φ row most t).2.2 i).toNat 0 else 0
def RW (ω : jw) (D : jD) (cnt t : Nat) (R : Nat → pl) : Prop := ∀ i, i < cnt → ∀ b, b ≤ t → D (346 + ω.2.1 i) b = (R i b : Int)
section REG
variable {d : Nat} {ω : jw} {D : jD} {Φ : gF} {A : aA} {α : Type}
theorem kRw : ∀ x, x < 16 → KL0[346 + x]? = some (1, 17) := by decide +kernel
theorem aGr {i : Nat} (hi : i < 16) (k : Option Nat → Option α) : vAA (hp ω D) (some 345) (i : Int) k = k (some (346 + ω.2.1 i)) := by
  rw [aAA (t := 100) kG_2, if_pos (by omega), Int.toNat_natCast, hR345 hi]
theorem aRs {i x : Nat} (hi : i < 16) (hx : x < 16) (k : jh → Option α) : vAS (hp ω D) (some 345) (i : Int) (some (346 + x)) k = k (hp (wSw ω i x) D) := by
  unfold vAS
  dsimp only
  rw [hK kG_2]
  dsimp only
  rw [hK (kRw x hx)]
  show (if 0 ≤ (i : Int) ∧ (i : Int) < ((16 : Nat) : Int) then (if 100 = 100 then k (wR (hp ω D) 345 (i : Int).toNat (some (346 + x))) else none) else none) = _
  rw [if_pos (by omega), if_pos rfl, Int.toNat_natCast]
  refine congrArg k (Prod.ext rfl (Prod.ext (funext fun a => funext fun b => ?_) rfl))
  show (if a = 345 ∧ b = i then some (346 + x) else if a = 345 ∧ b < 16 then some (346 + ω.2.1 b) else RQ ω.1 a b) = if a = 345 ∧ b < 16 then some (346 + (if b = i then x else ω.2.1 b)) else RQ ω.1 a b
  by_cases h1 : a = 345 ∧ b = i
  · rw [if_pos h1, if_pos ⟨h1.1, by omega⟩, if_pos h1.2]
  · rw [if_neg h1]
    by_cases h2 : a = 345 ∧ b < 16
    · rw [if_pos h2, if_pos h2, if_neg (fun e => h1 ⟨h2.1, e⟩)]
    · rw [if_neg h2, if_neg h2]
theorem rwf_rng (R : Nat → pl) (i : Nat) : ∀ n r f, rwf R i n r = some f → r ≤ f ∧ f < r + n
  | 0, _, _, h => by cases h
  | n + 1, r, f, h => by
    unfold rwf at h
    split at h
    · have := rwf_rng R i n (r + 1) f h; omega
    · cases h; omega
theorem rowWith_loop {cnt t i : Nat} (hc : cnt ≤ 16) (hi : i ≤ t) (ht : t ≤ 16) (w : wP ω) (h4 : D 343 4 = (cnt : Int)) {R : Nat → pl} (hR : RW ω D cnt t R) (x2 : Int) : ∀ n r : Nat, r + n = cnt → Vl d 172 2 [some (.inr (.inr (some 343))), some (.inl (i : Int)), some (.inl x2), some (.inl (r : Int))] [] (hp ω D) = some ((0, some (.inl (rwI (rwf R i n r)))), hp ω D)
  | 0, r, h => by rw [vG_rowWith_2, aGF kG, hD, h4, if_neg (by omega), vG_rowWith_35]; rfl
  | n + 1, r, h => by
    have hr := w.1 r (by omega)
    have e1 := hR r (by omega) i hi
    rw [vG_rowWith_2, aGF kG, hD, h4, if_pos (by omega), vG_rowWith_10, if_pos (by omega), vG_rowWith_16, aGF kG, rG_2, aGr (by omega), aIA (kRw _ hr), if_pos (by omega), Int.toNat_natCast, e1]
    unfold rwf
    by_cases h0 : R r i = 0
    · rw [if_pos (by omega), if_pos h0, vG_rowWith_29, w32_s (by omega)]
      exact rowWith_loop hc hi ht w h4 hR x2 n (r + 1) (by omega)
    · rw [if_neg (by omega), if_neg h0, vG_rowWith_27]; rfl
theorem swapRows_spec {a b : Nat} (w : wP ω) (ha : a < 16) (hb : b < 16) : Vl d 173 0 [some (.inr (.inr (some 343))), some (.inl (a : Int)), some (.inl (b : Int)), none] [] (hp ω D) = some ((0, none), hp (wSw (wSw ω a (ω.2.1 b)) b (ω.2.1 a)) D) := by
  simp only [vG_swapRows_0, aGF kG, rG_2, aGr ha, aGr hb, aRs ha (w.1 b hb), aRs hb (w.1 a ha)]
theorem wP_sw {a b : Nat} (w : wP ω) (ha : a < 16) (hb : b < 16) : wP (wSw (wSw ω a (ω.2.1 b)) b (ω.2.1 a)) := by
  refine ⟨fun i hi => ?_, fun i j hi hj h => ?_⟩
  · show (if i = b then ω.2.1 a else if i = a then ω.2.1 b else ω.2.1 i) < 16
    split
    · exact w.1 a ha
    · split
      · exact w.1 b hb
      · exact w.1 i hi
  · have h' : (if i = b then ω.2.1 a else if i = a then ω.2.1 b else ω.2.1 i) = (if j = b then ω.2.1 a else if j = a then ω.2.1 b else ω.2.1 j) := h
    have p1 := w.2 i j hi hj
    have p2 := w.2 a j ha hj
    have p3 := w.2 b j hb hj
    have p4 := w.2 i a hi ha
    have p5 := w.2 i b hi hb
    have p6 := w.2 a b ha hb
    have p7 := w.2 b a hb ha
    by_cases q1 : i = b
    · rw [if_pos q1] at h'
      by_cases q2 : j = b
      · omega
      · rw [if_neg q2] at h'
        by_cases q3 : j = a
        · rw [if_pos q3] at h'; omega
        · rw [if_neg q3] at h'; omega
    · rw [if_neg q1] at h'
      by_cases q4 : i = a
      · rw [if_pos q4] at h'
        by_cases q2 : j = b
        · rw [if_pos q2] at h'; omega
        · rw [if_neg q2] at h'
          by_cases q3 : j = a
          · omega
          · rw [if_neg q3] at h'; omega
      · rw [if_neg q4] at h'
        by_cases q2 : j = b
        · rw [if_pos q2] at h'; omega
        · rw [if_neg q2] at h'
          by_cases q3 : j = a
          · rw [if_pos q3] at h'; omega
          · rw [if_neg q3] at h'; omega
theorem RW_sw {cnt t a b : Nat} {R : Nat → pl} (ha : a < cnt) (hb : b < cnt) (hR : RW ω D cnt t R) : RW (wSw (wSw ω a (ω.2.1 b)) b (ω.2.1 a)) D cnt t (swM R a b) := fun i hi c hc => by
  show D (346 + (if i = b then ω.2.1 a else if i = a then ω.2.1 b else ω.2.1 i)) c = (((if i = b then R a else if i = a then R b else R i) c : Nat) : Int)
  by_cases q1 : i = b
  · rw [if_pos q1, if_pos q1]; exact hR a ha c hc
  · rw [if_neg q1, if_neg q1]
    by_cases q2 : i = a
    · rw [if_pos q2, if_pos q2]; exact hR b hb c hc
    · rw [if_neg q2, if_neg q2]; exact hR i hi c hc
theorem clM_in (h : FOK Φ) {R : Nat → pl} (hin : ∀ r, inF Φ (R r)) (i s : Nat) : ∀ r, inF Φ (clM Φ R i s r) := fun r b => by
  unfold clM
  split
  · exact fm_lt h (hin s b)
  · exact x_lt (hin r b) (fm_lt h (hin r i))
theorem swM_in {R : Nat → pl} (hin : ∀ r, inF Φ (R r)) (a b : Nat) : ∀ r, inF Φ (swM R a b r) := fun r c => by
  unfold swM
  split
  · exact hin a c
  · split
    · exact hin b c
    · exact hin r c
theorem clr_rows {cnt t i s : Nat} (hc : cnt ≤ 16) (ht : t ≤ 16) (hi : i ≤ t) (hs : s < cnt) (w : wP ω) {R : Nat → pl} (hin : ∀ r, inF Φ (R r)) (x5 : Int) : ∀ (m r : Nat) (D : jD), r + m = cnt → FT Φ D 76 → D 343 4 = (cnt : Int) → RW ω D cnt t (mdM Φ R i s r) →
    ∃ D', Vl (d + 1) 174 64 [some (.inr (.inr (some 343))), some (.inr (.inr (some 76))), some (.inl (i : Int)), some (.inl (s : Int)), some (.inl (t : Int)), some (.inl x5), some (.inl (r : Int))] [] (hp ω D) = some ((0, none), hp ω D') ∧ RW ω D' cnt t (clM Φ R i s) ∧ ∀ q, (q < 346 ∨ 361 < q) → D' q = D q
  | 0, r, D, hr, hF, h4, hR => by
    refine ⟨D, by rw [vG_clearColumn_64, aGF kG, hD, h4, if_neg (by omega), vG_clearColumn_120], fun q hq b hb => ?_, fun _ _ => rfl⟩
    rw [hR q hq b hb]
    unfold mdM; rw [if_pos (Or.inr (by omega))]
  | m + 1, r, D, hr, hF, h4, hR => by
    by_cases hrs : r = s
    · obtain ⟨D2, q3, r3, f3⟩ := clr_rows hc ht hi hs w hin x5 m (r + 1) D (by omega) hF h4 (fun q hq b hb => by
        rw [hR q hq b hb]
        unfold mdM
        by_cases e : q = s ∨ q < r
        · rw [if_pos e, if_pos (by omega)]
        · rw [if_neg e, if_neg (by omega)])
      refine ⟨D2, ?_, r3, f3⟩
      rw [vG_clearColumn_64, aGF kG, hD, h4, if_pos (by omega), vG_clearColumn_73, if_pos (by omega), vG_clearColumn_80, if_pos (by omega), vG_clearColumn_114, w32_s (by omega)]
      exact q3
    have pr := w.1 r (by omega)
    have ps := w.1 s (by omega)
    have pn : ω.2.1 r ≠ ω.2.1 s := fun e => hrs (w.2 r s (by omega) (by omega) e)
    have eR : mdM Φ R i s r r = R r := by unfold mdM; rw [if_neg (by omega)]
    have eS : mdM Φ R i s r s = clM Φ R i s s := by unfold mdM; rw [if_pos (Or.inl rfl)]
    have a1 : ∀ b, b ≤ t → D (346 + ω.2.1 r) b = (R r b : Int) := fun b hb => by rw [← eR]; exact hR r (by omega) b hb
    have a2 : ∀ b, b ≤ t → D (346 + ω.2.1 s) b = (clM Φ R i s s b : Int) := fun b hb => by rw [← eS]; exact hR s hs b hb
    have q1 := addTimes_n (ω := ω) (d := d) tF_76 hF (kRw _ pr) (kRw _ ps) (by omega) (by omega) (T := t) (n := t + 1) (by omega) (by omega) (fun b hb => a1 b (by omega)) (fun b hb => a2 b (by omega)) (hin r) (clM_in hF.1 hin i s s) (hin r i)
    have eC : (fun b => R r b ^^^ fm Φ (R r i) (clM Φ R i s s b)) = clM Φ R i s r := by
      unfold clM; rw [if_pos rfl, if_neg hrs]
    rw [eC] at q1
    obtain ⟨D2, q3, r3, f3⟩ := clr_rows hc ht hi hs w hin x5 m (r + 1) (pDn D (346 + ω.2.1 r) (t + 1) (rI (clM Φ R i s r))) (by omega) (FT_342 hF (fun c h1 h2 => pDn_ne (by omega))) (by rw [pDn_ne (by omega)]; exact h4) (fun q hq b hb => by
      by_cases e : q = r
      · rw [e, pDn_lt (by omega)]
        unfold mdM; rw [if_pos (Or.inr (by omega))]; rfl
      · have := w.2 q r (by omega) (by omega)
        rw [pDn_ne (by omega), hR q hq b hb]
        unfold mdM
        by_cases e2 : q = s ∨ q < r
        · rw [if_pos e2, if_pos (by omega)]
        · rw [if_neg e2, if_neg (by omega)])
    refine ⟨D2, ?_, r3, fun q hq => by rw [f3 q hq, pDn_ne (by omega)]⟩
    rw [vG_clearColumn_64, aGF kG, hD, h4, if_pos (by omega), vG_clearColumn_73, if_pos (by omega), vG_clearColumn_80, if_neg (by omega)]
    have e5 : D (346 + ω.2.1 r) i = (R r i : Int) := a1 i hi
    simp only [vG_clearColumn_86, aGF kG, rG_2, aGr (show r < 16 by omega), aGr (show s < 16 by omega), aIA (kRw _ pr), Int.toNat_natCast, e5]
    rw [if_pos (by omega), aGF (kF tF_76), q1, aVC, tlN, vG_clearColumn_114, w32_s (by omega)]
    exact q3
theorem clearColumn_spec {cnt t i s : Nat} (hc : cnt ≤ 16) (ht : t ≤ 16) (hi : i ≤ t) (hs : s < cnt) (w : wP ω) (hF : FT Φ D 76) (h4 : D 343 4 = (cnt : Int)) {R : Nat → pl} (hR : RW ω D cnt t R) (hin : ∀ r, inF Φ (R r)) :
    ∃ D', Vl (d + 1) 174 0 [some (.inr (.inr (some 343))), some (.inr (.inr (some 76))), some (.inl (i : Int)), some (.inl (s : Int)), some (.inl (t : Int)), none, none] [] (hp ω D) = some ((0, none), hp ω D') ∧ RW ω D' cnt t (clM Φ R i s) ∧ ∀ q, (q < 346 ∨ 361 < q) → D' q = D q := by
  have ps := w.1 s (by omega)
  have hs16 : s < 16 := by omega
  have e1 := hR s hs i hi
  have q1 := inverse_spec (ω := ω) (d := d) tF_76 hF (hin s i)
  have c0 := chain (fun k => Vl (d + 1) 174 17 [some (.inr (.inr (some 343))), some (.inr (.inr (some 76))), some (.inl (i : Int)), some (.inl (s : Int)), some (.inl (t : Int)), some (.inl (fi Φ (R s i) : Int)), some (.inl (k : Int))] [] (hp ω (pDn D (346 + ω.2.1 s) k (rI (fun b => fm Φ (R s b) (fi Φ (R s i))))))) (t + 1) (fun k hk => by

    have hFk : FT Φ (pDn D (346 + ω.2.1 s) k (rI (fun b => fm Φ (R s b) (fi Φ (R s i))))) 76 := FT_342 hF (fun c h1 h2 => pDn_ne (by omega))
    have q2 := product_spec (ω := ω) (d := d) tF_76 hFk (hin s k) (fi_lt hF.1 (hin s i))
    have e2 : pDn D (346 + ω.2.1 s) k (rI (fun b => fm Φ (R s b) (fi Φ (R s i)))) (346 + ω.2.1 s) k = (R s k : Int) := by rw [pDn_ge (Nat.le_refl k)]; exact hR s hs k (by omega)
    rw [vG_clearColumn_17, if_neg (by omega), vG_clearColumn_24, if_neg (by omega)]
    simp only [vG_clearColumn_31, aGF kG, rG_2, aGr hs16]
    rw [aIA (kRw _ ps), if_pos (by omega), Int.toNat_natCast, e2, aGF (kF tF_76), q2, aVC, tlS, vG_clearColumn_54, aIS (kRw _ ps), if_pos (by omega), Int.toNat_natCast, w32_s (by omega), pDn_s (show ((fm Φ (R s k) (fi Φ (R s i)) : Nat) : Int) = rI (fun b => fm Φ (R s b) (fi Φ (R s i))) k from rfl)])

  rw [pDn_0] at c0
  obtain ⟨D2, q3, r3, f3⟩ := clr_rows (d := d) hc ht hi hs w hin (fi Φ (R s i) : Int) cnt 0 (pDn D (346 + ω.2.1 s) (t + 1) (rI (fun b => fm Φ (R s b) (fi Φ (R s i))))) (Nat.zero_add _) (FT_342 hF (fun c h1 h2 => pDn_ne (by omega))) (by rw [pDn_ne (by omega)]; exact h4) (fun q hq b hb => by
    unfold mdM
    by_cases e : q = s
    · rw [e, pDn_lt (by omega), if_pos (Or.inl rfl)]
      unfold clM; rw [if_pos rfl]; rfl
    · have := w.2 q s (by omega) (by omega)
      rw [pDn_ne (by omega), hR q hq b hb, if_neg (by omega)])
  refine ⟨D2, ?_, r3, fun q hq => by rw [f3 q hq, pDn_ne (by omega)]⟩
  rw [vG_clearColumn_0, aGF kG, rG_2, aGr hs16, aIA (kRw _ ps), if_pos (by omega), Int.toNat_natCast, e1, aGF (kF tF_76), q1, aVC, tlS, vG_clearColumn_12, show (0 : Int) = ((0 : Nat) : Int) from rfl, c0, vG_clearColumn_17]
  have fin : ∀ x : Int, Vl (d + 1) 174 61 [some (.inr (.inr (some 343))), some (.inr (.inr (some 76))), some (.inl (i : Int)), some (.inl (s : Int)), some (.inl (t : Int)), some (.inl (fi Φ (R s i) : Int)), some (.inl x)] [] (hp ω (pDn D (346 + ω.2.1 s) (t + 1) (rI (fun b => fm Φ (R s b) (fi Φ (R s i)))))) = some ((0, none), hp ω D2) := fun x => by
    rw [vG_clearColumn_61]; exact q3
  rw [if_pos (by omega), fin]
end REG
