/-! A RUN LEAVES WHAT LIES BEYOND ITS CELLS -/
def jfar (h h' : jh) : Prop := h.1.length ≤ h'.1.length ∧ ∀ c, h'.1.length ≤ c → h'.2.2.1 c = h.2.2.1 c
section JFAR
variable {y pc : Nat} {ls : List (Option jv)} {st : List jv} {h : jh} {pc' : Nat} {ls' : List (Option jv)} {st' : List jv} {h' : jh}
theorem jfar_rfl (h : jh) : jfar h h := ⟨Nat.le_refl _, fun _ _ => rfl⟩
theorem jfar_tr {a b e : jh} (q : jfar a b) (r : jfar b e) : jfar a e := ⟨Nat.le_trans q.1 r.1, fun c hc => by rw [r.2 c hc, q.2 c (Nat.le_trans r.1 hc)]⟩
theorem jfar_nC (h : jh) (k : Nat × Nat) : jfar h (nC h k) := by
  refine ⟨by rw [jlen_n]; omega, fun c hc => ?_⟩
  rw [jlen_n] at hc
  show (fun b => if c = h.1.length then (0 : Int) else h.2.2.1 c b) = h.2.2.1 c
  funext b
  rw [if_neg (by omega)]
theorem jfar_wR {c i : Nat} {x : Option Nat} : jfar h (wR h c i x) := ⟨Nat.le_refl _, fun _ _ => rfl⟩
theorem jfar_wL {c i : Nat} {x : Int} : jfar h (wL h c i x) := ⟨Nat.le_refl _, fun _ _ => rfl⟩
theorem jfar_wD {c i : Nat} {x : Int} {k : Nat × Nat} (hk : gK h c = some k) : jfar h (wD h c i x) := by
  have h1 : c < h.1.length := (List.getElem?_eq_some_iff.mp hk).1
  refine ⟨Nat.le_refl _, fun q hq => ?_⟩
  have hq' : h.1.length ≤ q := hq
  show (fun b => if q = c ∧ b = i then x else h.2.2.1 q b) = h.2.2.1 q
  funext b
  rw [if_neg (by omega)]
theorem jfar_rows : ∀ (k o i n : Nat) (h : jh), jfar h (nRows k o i n h)
  | 0, _, _, _, h => jfar_rfl h
  | k + 1, o, i, n, h => jfar_tr (jfar_tr (jfar_nC h (1, n)) jfar_wR) (jfar_rows k o (i + 1) n _)
theorem jgo_far {h0 : jh} {a : Nat} {b : List (Option jv)} {d : List jv} {f : jh} (hx : jgo a b d f = some (.inl (pc', ls', st', h'))) (q : jfar h0 f) : jfar h0 h' := by
  obtain ⟨-, -, -, rfl⟩ := jgo_inv hx; exact q
theorem jload1_far {n k : Nat} (hx : jload1 ls n pc k st h = some (.inl (pc', ls', st', h'))) : jfar h h' := by
  obtain ⟨_, _, -, -, -, rfl⟩ := jload1_inv hx; exact jfar_rfl _
theorem jload2_far {n k : Nat} (hx : jload2 ls n pc k st h = some (.inl (pc', ls', st', h'))) : jfar h h' := by
  obtain ⟨_, _, -, -, -, rfl⟩ := jload2_inv hx; exact jfar_rfl _
theorem jload3_far {n k : Nat} (hx : jload3 ls n pc k st h = some (.inl (pc', ls', st', h'))) : jfar h h' := by
  obtain ⟨_, _, -, -, -, rfl⟩ := jload3_inv hx; exact jfar_rfl _
theorem jstor1_far {n k : Nat} (hx : jstor1 ls n pc k st h = some (.inl (pc', ls', st', h'))) : jfar h h' := by
  obtain ⟨_, _, _, _, -, -, -, rfl⟩ := jstor1_inv hx; exact jfar_rfl _
theorem jstor2_far {n k : Nat} (hx : jstor2 ls n pc k st h = some (.inl (pc', ls', st', h'))) : jfar h h' := by
  obtain ⟨_, _, _, _, -, -, -, rfl⟩ := jstor2_inv hx; exact jfar_rfl _
theorem jstor3_far {n k : Nat} (hx : jstor3 ls n pc k st h = some (.inl (pc', ls', st', h'))) : jfar h h' := by
  obtain ⟨_, _, _, _, -, -, -, rfl⟩ := jstor3_inv hx; exact jfar_rfl _
theorem jbin_far {f : Int → Int → Int} (hx : jbin f pc ls st h = some (.inl (pc', ls', st', h'))) : jfar h h' := by
  obtain ⟨_, _, _, _, -, -, -, rfl⟩ := jbin_inv hx; exact jfar_rfl _
theorem jbin2_far {f : Int → Int → Int} (hx : jbin2 f pc ls st h = some (.inl (pc', ls', st', h'))) : jfar h h' := by
  obtain ⟨_, _, _, _, -, -, -, rfl⟩ := jbin2_inv hx; exact jfar_rfl _
theorem jcall_far {kd y2 : Nat} (hx : jcall kd y2 pc ls st h = some (.inl (pc', ls', st', h'))) : jfar h h' := by
  unfold jcall at hx
  (repeat' split at hx) <;> first | (cases hx; done) | exact jgo_far hx (jfar_rfl _) | exact jcl_no hx | exact jclt_no hx
set_option maxHeartbeats 4000000 in
theorem pjx_far {i : Instr} (hx : pjx y i pc ls st h = some (.inl (pc', ls', st', h'))) : jfar h h' := by
  unfold pjx at hx
  (repeat' split at hx) <;> first | (cases hx; done) | exact jgo_far hx (jfar_rfl _) | exact jload1_far hx | exact jload2_far hx | exact jload3_far hx | exact jstor1_far hx | exact jstor2_far hx | exact jstor3_far hx | exact jbin_far hx | exact jbin2_far hx | exact jcall_far hx | exact jgo_far hx jfar_wR | exact jgo_far hx jfar_wL | exact jgo_far hx (jfar_nC _ _) | exact jgo_far hx (jfar_tr (jfar_nC _ _) (jfar_rows _ _ _ _ _)) | exact jgo_far hx (jfar_wD (by assumption))
theorem prun_far : ∀ (n d y pc : Nat) (ls : List (Option jv)) (st : List jv) (h : jh) (o : Nat × Option jv) (h' : jh), prun n d y pc ls st h = some (o, h') → jfar h h'
  | 0, _, _, _, _, _, _, _, _, hx => by cases hx
  | n + 1, d, y, pc, ls, st, h, o, h', hx => by
    have ih := prun_far n
    unfold prun at hx
    split at hx
    · split at hx
      · cases hx
      split at hx
      · rename_i q; exact jfar_tr (pjx_far q) (ih _ _ _ _ _ _ _ _ hx)
      · split at hx
        · cases hx
        · split at hx
          · rename_i q; exact jfar_tr (ih _ _ _ _ _ _ _ _ q) (ih _ _ _ _ _ _ _ _ hx)
          · cases hx
      · split at hx
        · split at hx
          · rename_i q; split at hx
            · exact jfar_tr (ih _ _ _ _ _ _ _ _ q) (jfar_tr jfar_wL (ih _ _ _ _ _ _ _ _ hx))
            · cases hx
          · rename_i q; exact jfar_tr (ih _ _ _ _ _ _ _ _ q) (jfar_tr (jfar_nC _ _) (ih _ _ _ _ _ _ _ _ hx))
          · cases hx
        · cases hx
      · cases hx; exact jfar_rfl _
      · cases hx
    · cases hx
/-- a run between heaps of the law leaves what lies far -/
theorem Vl_far {d y pc : Nat} {ls : List (Option jv)} {st : List jv} {w w' : jw} {D D' : jD} {o : Nat × Option jv} (hv : Vl d y pc ls st (hp w D) = some (o, hp w' D')) (hx : (hp w' D').1.length ≤ 1000000) {c : Nat} (hc : 1000000 ≤ c) : D' c = D c := by
  obtain ⟨n, hn⟩ := Vl_run hv
  exact (prun_far n _ _ _ _ _ _ _ _ hn).2 c (by omega)
end JFAR
