/-! THE SMALL MACHINE'S HEAP IN THE MACHINE'S -/
abbrev jg : Type := va_G × (Nat → ClassId) × (Nat → Nat) × Nat
def jad (G : jg) (c : Nat) : Nat := if c < 1000000 then G.2.2.2 + c else G.2.2.1 c
def jsv (G : jg) : jv → Value
  | .inl x => .int (Int32.ofInt x)
  | .inr (.inl x) => .long (Int64.ofInt x)
  | .inr (.inr r) => va_rf (r.map (jad G))
def jE (G : jg) (h : jh) (c : Nat) (k : Nat × Nat) : va_E := match k with
  | (0, ci) => .inr (ci, (List.range (pj_N ci)).map fun j => jsv G (jfv h ci c j))
  | (1, n) => .inl (G.2.1 1, n, .inl fun i => Int32.ofInt (gD h c i))
  | (2, n) => .inl (G.2.1 2, n, .inl fun i => Int32.ofInt (gD h c i))
  | (3, n) => .inl (G.2.1 3, n, .inr (.inl fun i => Int64.ofInt (gL h c i)))
  | (t + 4, n) => .inl (G.2.1 (t + 4), n, .inr (.inr (.inr (.inr fun i => (gR h c i).map (jad G)))))
def jkok (k : Nat × Nat) : Prop := (k.1 = 0 ∧ (k.2 < 13 ∨ k.2 = 14)) ∨ ((k.1 = 1 ∨ k.1 = 2 ∨ k.1 = 3 ∨ k.1 = 5 ∨ k.1 = 7 ∨ k.1 = 13 ∨ k.1 = 104) ∧ k.2 ≤ 4096)
def jtys (G : jg) : List (ClassId × FieldType) := [(G.2.1 1, .int), (G.2.1 2, .boolean), (G.2.1 3, .long), (G.2.1 5, .object (pj_C 1)), (G.2.1 7, .object (pj_C 3)), (G.2.1 13, .object (pj_C 9)), (G.2.1 104, .array .int)]
/-- what is said of the texts, and of what the JDK's statics hold -/
def jZL (C n d : String) (A : Nat → Prop) (U : State) (H : Heap) : Prop := ∃ (c : ClassId) (k : Class) (i : Nat) (f : Field) (a : Nat) (cell : Cell), U.vm.findClass C = some c ∧ U.fieldFound? C n d = some (c, k, i, f) ∧ f.isStatic = true ∧ k.statics = some a ∧ H[a]? = some cell ∧ cell.vm.isStatics = true ∧ cell.cls = c ∧ f.slot < cell.slots.size ∧ k.staticTypes[f.slot]? = some f.type ∧ ¬ A a
theorem jZL_moved {C n d : String} {A : Nat → Prop} {u U : State} {H : Heap} (hvm : u.vm.Alike U.vm) (h : jZL C n d A u H) : jZL C n d A U H := by
  obtain ⟨c, k, i, f, a, cell, h1, h2, h3, h4, h5, h6, h7, h8, h9, h10⟩ := h
  obtain ⟨k', hi', he⟩ := State.fieldFound?_setVm hvm h2
  exact ⟨c, k', i, f, a, cell, by rw [hvm.findClass]; exact h1, hi', h3, by rw [he]; exact h4, h5, h6, h7, h8, by rw [he]; exact h9, h10⟩
theorem jZL_kept {C n d : String} {A : Nat → Prop} {U : State} {H H1 : Heap} (h : jZL C n d A U H) (hq : ∀ a : Nat, a < H.size → ¬ A a → H1[a]? = H[a]?) : jZL C n d A U H1 := by
  obtain ⟨c, k, i, f, a, cell, h1, h2, h3, h4, h5, h6, h7, h8, h9, h10⟩ := h
  exact ⟨c, k, i, f, a, cell, h1, h2, h3, h4, by rw [hq a (Array.getElem?_eq_some_iff.mp h5).1 h10]; exact h5, h6, h7, h8, h9, h10⟩
def jTn (G : jg) (q : Nat) : Prop := G.2.2.2 ≤ q
def jTbl : List Nat := [55, 8]
def jTbb : List (List Int32) := [jKEYt.map Int32.ofInt, jSIGt.map Int32.ofInt]
def jT (G : jg) (H : Heap) (s : State) : Prop := (∃ adV : Nat → Nat, vk_S 2 jTbl jTbb (fun i => G.2.2.1 (jKEY + i)) adV (jTn G) s H) ∧ va_Z "java/lang/String" "COMPACT_STRINGS" "Z" (.int 1) (jTn G) s H ∧ va_Zq "jdk/internal/util/Preconditions" "SIOOBE_FORMATTER" "Ljava/util/function/BiFunction;" (jTn G) s H ∧
  (va_Zq "java/lang/Throwable" "UNASSIGNED_STACK" "[Ljava/lang/StackTraceElement;" (jTn G) s H ∧ jZL "java/lang/Throwable" "UNASSIGNED_STACK" "[Ljava/lang/StackTraceElement;" (jTn G) s H) ∧ va_Zq "java/lang/Throwable" "SUPPRESSED_SENTINEL" "Ljava/util/List;" (jTn G) s H ∧ jZL "java/lang/Throwable" "SUPPRESSED_SENTINEL" "Ljava/util/List;" (jTn G) s H
theorem jT_kept {G : jg} {H H' : Heap} {s : State} (h : jT G H s) (hq : ∀ q, q < G.2.2.2 → H'[q]? = H[q]?) : jT G H' s := by
  obtain ⟨⟨adV, h1⟩, h2, h3, ⟨h4, h5⟩, h6, h7⟩ := h
  have hk : ∀ a : Nat, a < H.size → ¬ jTn G a → H'[a]? = H[a]? := fun a _ ha => hq a (Nat.lt_of_not_le ha)
  exact ⟨⟨adV, h1.kept hk⟩, h2.kept hk, h3.kept hk, ⟨h4.kept hk, jZL_kept h5 hk⟩, h6.kept hk, jZL_kept h7 hk⟩
theorem jT_moved {G : jg} {H : Heap} {s U : State} (hvm : s.vm.Alike U.vm) (h : jT G H s) : jT G H U := by
  obtain ⟨⟨adV, h1⟩, h2, h3, ⟨h4, h5⟩, h6, h7⟩ := h
  exact ⟨⟨adV, vk_S.moved hvm h1⟩, va_Z.moved hvm h2, va_Zq.moved hvm h3, ⟨va_Zq.moved hvm h4, jZL_moved hvm h5⟩, va_Zq.moved hvm h6, jZL_moved hvm h7⟩
def jW (G : jg) (h : jh) (H : Heap) (s : State) : Prop :=
  (H.size = G.2.2.2 + h.1.length ∧ h.1.length ≤ 1000000 ∧ G.2.2.1 jSCR < G.2.2.2) ∧ (∀ (c : Nat) (k : Nat × Nat), h.1[c]? = some k → jkok k ∧ va_at G.1 pj_cl (G.2.2.2 + c, jE G h c k) H) ∧ (∀ c i, r32 (gD h c i)) ∧ (∀ c i, r64 (gL h c i)) ∧
    (va_X (G.2.2.1 jSCR) (gD h jLEN 0).toNat (fun j => Int32.ofInt (gD h jSCR j)) s H ∧ 0 ≤ gD h jLEN 0) ∧ jT G H s
theorem jW_moved {G : jg} {h : jh} {H : Heap} {s U : State} (hvm : s.vm.Alike U.vm) (w : jW G h H s) : jW G h H U :=
  ⟨w.1, w.2.1, w.2.2.1, w.2.2.2.1, ⟨va_X.moved hvm w.2.2.2.2.1.1, w.2.2.2.2.1.2⟩, jT_moved hvm w.2.2.2.2.2⟩
theorem jad_lt {G : jg} {h : jh} {H : Heap} {s : State} (w : jW G h H s) {c : Nat} {k : Nat × Nat} (hk : gK h c = some k) : jad G c = G.2.2.2 + c := by
  have h1 : c < h.1.length := (List.getElem?_eq_some_iff.mp hk).1
  have := w.1.2.1
  unfold jad
  rw [if_pos (by omega)]
theorem jlt {G : jg} {h : jh} {H : Heap} {s : State} (w : jW G h H s) {c : Nat} {k : Nat × Nat} (hk : gK h c = some k) : c < 1000000 := by
  have h1 : c < h.1.length := (List.getElem?_eq_some_iff.mp hk).1
  have := w.1.2.1
  omega
/-- a cell is written -/
theorem jW_upd {G : jg} {h h' : jh} {H H' : Heap} {s : State} (w : jW G h H s) {c : Nat} {k : Nat × Nat} (hk : gK h c = some k) (h1 : h'.1 = h.1)
    (ho : ∀ c', c' ≠ c → (∀ i, gR h' c' i = gR h c' i) ∧ (∀ i, gD h' c' i = gD h c' i) ∧ (∀ i, gL h' c' i = gL h c' i))
    (hz : H'.size = H.size) (hq : ∀ q, q ≠ G.2.2.2 + c → H'[q]? = H[q]?) (hd : ∀ i, r32 (gD h' c i)) (hl : ∀ i, r64 (gL h' c i))
    (hat : va_at G.1 pj_cl (G.2.2.2 + c, jE G h' c k) H') : jW G h' H' s := by
  obtain ⟨⟨a1, a2, a3⟩, b, d, l, ⟨x1, x2⟩, t⟩ := w
  have hc : c < h.1.length := (List.getElem?_eq_some_iff.mp hk).1
  have hlen : gD h' jLEN 0 = gD h jLEN 0 := (ho jLEN (by unfold jLEN; omega)).2.1 0
  have hscr : ∀ j, gD h' jSCR j = gD h jSCR j := fun j => (ho jSCR (by unfold jSCR; omega)).2.1 j
  refine ⟨⟨by rw [hz, h1]; exact a1, by rw [h1]; exact a2, a3⟩, fun c' k' hk' => ?_, fun c' i => ?_, fun c' i => ?_, ⟨?_, by rw [hlen]; exact x2⟩, jT_kept t fun q hq' => hq q (by omega)⟩
  · rw [h1] at hk'
    by_cases e : c' = c
    · subst e
      rw [show k' = k from Option.some.inj (hk'.symm.trans hk)]
      exact ⟨(b c' k hk).1, hat⟩
    · obtain ⟨o1, o2, o3⟩ := ho c' e
      obtain ⟨g1, g2⟩ := b c' k' hk'
      refine ⟨g1, ?_⟩
      have he : jE G h' c' k' = jE G h c' k' := by
        obtain ⟨t, n⟩ := k'
        match t with
        | 0 => simp only [jE, jfv, o1, o2, o3]
        | 1 => simp only [jE, o2]
        | 2 => simp only [jE, o2]
        | 3 => simp only [jE, o3]
        | t + 4 => simp only [jE, o1]
      rw [he]
      exact g2.kept (hq _ (by show G.2.2.2 + c' ≠ _; omega))
  · by_cases e : c' = c
    · subst e; exact hd i
    · rw [(ho c' e).2.1]; exact d c' i
  · by_cases e : c' = c
    · subst e; exact hl i
    · rw [(ho c' e).2.2]; exact l c' i
  · simp only [hlen, hscr]
    exact x1.kept (hq _ (by omega))
/-- a cell comes -/
theorem jW_push {G : jg} {h : jh} {H H' : Heap} {s : State} (w : jW G h H s) (k : Nat × Nat) (hk : jkok k) (hlen : h.1.length < 1000000)
    (hz : H'.size = H.size + 1) (hq : ∀ q, q < H.size → H'[q]? = H[q]?) (hat : va_at G.1 pj_cl (G.2.2.2 + h.1.length, jE G (nC h k) h.1.length k) H') : jW G (nC h k) H' s := by
  obtain ⟨⟨a1, a2, a3⟩, b, d, l, ⟨x1, x2⟩, t⟩ := w
  have e1 : (nC h k).1 = h.1 ++ [k] := rfl
  have eR : ∀ c' i, c' ≠ h.1.length → gR (nC h k) c' i = gR h c' i := fun c' i hc => if_neg hc
  have eD : ∀ c' i, c' ≠ h.1.length → gD (nC h k) c' i = gD h c' i := fun c' i hc => if_neg hc
  have eL : ∀ c' i, c' ≠ h.1.length → gL (nC h k) c' i = gL h c' i := fun c' i hc => if_neg hc
  have hll : gD (nC h k) jLEN 0 = gD h jLEN 0 := eD _ _ (by unfold jLEN; omega)
  have hscr : ∀ j, gD (nC h k) jSCR j = gD h jSCR j := fun j => eD _ _ (by unfold jSCR; omega)
  refine ⟨⟨by rw [hz, a1, e1, List.length_append]; rfl, by rw [e1, List.length_append]; exact hlen, a3⟩, fun c' k' hk' => ?_, fun c' i => ?_, fun c' i => ?_, ⟨?_, by rw [hll]; exact x2⟩, jT_kept t fun q hq' => hq q (by omega)⟩
  · rw [e1] at hk'
    by_cases hl : c' < h.1.length
    · rw [List.getElem?_append_left hl] at hk'
      obtain ⟨g1, g2⟩ := b c' k' hk'
      refine ⟨g1, ?_⟩
      have hne : c' ≠ h.1.length := by omega
      have he : jE G (nC h k) c' k' = jE G h c' k' := by
        obtain ⟨t, n⟩ := k'
        match t with
        | 0 => simp only [jE, jfv, eR c' _ hne, eD c' _ hne, eL c' _ hne]
        | 1 => simp only [jE, eD c' _ hne]
        | 2 => simp only [jE, eD c' _ hne]
        | 3 => simp only [jE, eL c' _ hne]
        | t + 4 => simp only [jE, eR c' _ hne]
      rw [he]
      exact g2.kept (hq _ (by show G.2.2.2 + c' < _; omega))
    · have h0 : c' - h.1.length < 1 := by
        rw [List.getElem?_append_right (by omega)] at hk'
        exact (List.getElem?_eq_some_iff.mp hk').1
      have hc : c' = h.1.length := by omega
      subst hc
      rw [List.getElem?_append_right (by omega), Nat.sub_self] at hk'
      cases hk'
      exact ⟨hk, hat⟩
  · by_cases e : c' = h.1.length
    · subst e
      have : gD (nC h k) h.1.length i = 0 := if_pos rfl
      rw [this]; exact r32_0
    · rw [eD _ _ e]; exact d c' i
  · by_cases e : c' = h.1.length
    · subst e
      have : gL (nC h k) h.1.length i = 0 := if_pos rfl
      rw [this]; unfold r64; omega
    · rw [eL _ _ e]; exact l c' i
  · simp only [hll, hscr]
    exact x1.kept (hq _ (by omega))
/-! locals -/
def jla (G : jg) (ls : List (Option jv)) : List (Nat × Value) := (List.range ls.length).filterMap fun i => (ls.getD i none).map fun v => (i, jsv G v)
theorem mem_jla {G : jg} {ls : List (Option jv)} {q : Nat × Value} : q ∈ jla G ls ↔ ∃ v, ls.getD q.1 none = some v ∧ jsv G v = q.2 := by
  unfold jla
  rw [List.mem_filterMap]
  constructor
  · rintro ⟨i, -, hi⟩
    cases hv : ls.getD i none with
    | none => rw [hv] at hi; cases hi
    | some v => rw [hv] at hi; cases hi; exact ⟨v, hv, rfl⟩
  · rintro ⟨v, hv, e⟩
    refine ⟨q.1, List.mem_range.mpr ?_, by rw [hv]; show some (q.1, jsv G v) = some q; rw [e]⟩
    by_cases hl : q.1 < ls.length
    · exact hl
    · rw [List.getD_eq_getElem?_getD, List.getElem?_eq_none (by omega)] at hv
      cases hv
theorem jsv_cat (G : jg) (v : jv) : (jsv G v).category = match v with | .inr (.inl _) => 2 | _ => 1 := by
  match v with
  | .inl x => rfl
  | .inr (.inl x) => rfl
  | .inr (.inr none) => rfl
  | .inr (.inr (some c)) => rfl
theorem getD_set {α : Type} (ls : List (Option α)) (i k : Nat) (v : Option α) (h : i < ls.length) : (ls.set i v).getD k none = if k = i then v else ls.getD k none := by
  rw [List.getD_eq_getElem?_getD, List.getD_eq_getElem?_getD, List.getElem?_set]
  by_cases e : i = k
  · subst e; simp [h]
  · rw [if_neg e, if_neg (Ne.symm e)]
theorem jcut_len (ls : List (Option jv)) (n : Nat) : (jcut ls n).length = ls.length := by
  unfold jcut
  split
  · rfl
  · split
    · exact List.length_set
    · rfl
theorem jcut_get (ls : List (Option jv)) (n k : Nat) (w : jv) (h : (jcut ls n).getD k none = some w) : ls.getD k none = some w ∧ ¬ (k + 1 = n ∧ ∃ x, w = .inr (.inl x)) := by
  unfold jcut at h
  split at h
  · exact ⟨h, fun q => by omega⟩
  · rename_i k0
    split at h
    · rename_i x hx
      have hl : k0 < ls.length := by
        by_cases hl : k0 < ls.length
        · exact hl
        · rw [List.getD_eq_getElem?_getD, List.getElem?_eq_none (by omega)] at hx; cases hx
      rw [getD_set _ _ _ _ hl] at h
      by_cases e : k = k0
      · rw [if_pos e] at h; cases h
      · rw [if_neg e] at h; exact ⟨h, fun q => by omega⟩
    · rename_i hno
      refine ⟨h, fun q => ?_⟩
      obtain ⟨e, x, rfl⟩ := q
      have e : k = k0 := by omega
      subst e
      exact hno x h
theorem jla_st1 {G : jg} {ls : List (Option jv)} {lsr : Array Slot} {nL n : Nat} {v : jv} (hn : n < ls.length)
    (h : lv_has lsr nL ((n, jsv G v) :: (jla G ls).filter (fun q => !(q.1 == n) && !(q.1 + 1 == n && q.2.category == 2)))) : lv_has lsr nL (jla G (jst1 ls n v)) := by
  refine ⟨h.1, h.2.1, fun q hq => h.2.2 q ?_⟩
  obtain ⟨w, hw, e⟩ := mem_jla.mp hq
  unfold jst1 at hw
  rw [getD_set _ _ _ _ (by rw [jcut_len]; exact hn)] at hw
  by_cases hk : q.1 = n
  · rw [if_pos hk] at hw
    cases hw
    exact List.mem_cons.mpr (Or.inl (by rw [e, ← hk]))
  · rw [if_neg hk] at hw
    obtain ⟨g1, g2⟩ := jcut_get ls n q.1 w hw
    refine List.mem_cons_of_mem _ (List.mem_filter.mpr ⟨mem_jla.mpr ⟨w, g1, e⟩, ?_⟩)
    have hb : (q.1 == n) = false := by simpa using hk
    rw [hb]
    by_cases h1 : q.1 + 1 = n
    · have hcat : q.2.category = 1 := by
        rw [← e, jsv_cat]
        match w with
        | .inl x => rfl
        | .inr (.inl x) => exact absurd ⟨h1, x, rfl⟩ g2
        | .inr (.inr x) => rfl
      simp [hcat]
    · simp [h1]
theorem jla_st2 {G : jg} {ls : List (Option jv)} {lsr : Array Slot} {nL n : Nat} {v : jv} (hn : n + 1 < ls.length)
    (h : lv_has lsr nL ((n, jsv G v) :: (jla G ls).filter (fun q => !(q.1 == n) && (!(q.1 == n + 1) && !(q.1 + 1 == n && q.2.category == 2))))) : lv_has lsr nL (jla G (jst2 ls n v)) := by
  refine ⟨h.1, h.2.1, fun q hq => h.2.2 q ?_⟩
  obtain ⟨w, hw, e⟩ := mem_jla.mp hq
  unfold jst2 at hw
  rw [getD_set _ _ _ _ (by rw [List.length_set, jcut_len]; exact hn)] at hw
  by_cases hk1 : q.1 = n + 1
  · rw [if_pos hk1] at hw; cases hw
  rw [if_neg hk1, getD_set _ _ _ _ (by rw [jcut_len]; omega)] at hw
  by_cases hk : q.1 = n
  · rw [if_pos hk] at hw
    cases hw
    exact List.mem_cons.mpr (Or.inl (by rw [e, ← hk]))
  · rw [if_neg hk] at hw
    obtain ⟨g1, g2⟩ := jcut_get ls n q.1 w hw
    refine List.mem_cons_of_mem _ (List.mem_filter.mpr ⟨mem_jla.mpr ⟨w, g1, e⟩, ?_⟩)
    have hb : (q.1 == n) = false := by simpa using hk
    have hb1 : (q.1 == n + 1) = false := by simpa using hk1
    rw [hb, hb1]
    by_cases h1 : q.1 + 1 = n
    · have hcat : q.2.category = 1 := by
        rw [← e, jsv_cat]
        match w with
        | .inl x => rfl
        | .inr (.inl x) => exact absurd ⟨h1, x, rfl⟩ g2
        | .inr (.inr x) => rfl
      simp [hcat]
    · simp [h1]
theorem jst1_len (ls : List (Option jv)) (n : Nat) (v : jv) : (jst1 ls n v).length = ls.length := by unfold jst1; rw [List.length_set, jcut_len]
theorem jst2_len (ls : List (Option jv)) (n : Nat) (v : jv) : (jst2 ls n v).length = ls.length := by unfold jst2; rw [List.length_set, List.length_set, jcut_len]
theorem jla_get {G : jg} {ls : List (Option jv)} {lsr : Array Slot} {nL n : Nat} {v : jv} (h : lv_has lsr nL (jla G ls)) (hv : ls.getD n none = some v) : lsr[n]? = some (.val (jsv G v)) := h.2.2 (n, jsv G v) (mem_jla.mpr ⟨v, hv, rfl⟩)
