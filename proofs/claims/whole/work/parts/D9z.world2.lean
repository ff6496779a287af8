/-! THE WORLD ONCE MORE, over class rows without one for the law itself (wip/whole/gen_d9.py) -/
def pj_clZ : List vw_C := (List.range 15).map (fun ci => if ci = 13 then (pj_C 12, pj_T 12, pj_N 12) else (pj_C ci, pj_T ci, pj_N ci))
theorem pj_cl_atZ {ci : Nat} (hc : ci < 15 ∧ ci ≠ 13) : pj_clZ[ci]? = some (pj_C ci, pj_T ci, pj_N ci) := by
  unfold pj_clZ
  rw [List.getElem?_map, List.getElem?_range hc.1]
  show some (if ci = 13 then (pj_C 12, pj_T 12, pj_N 12) else (pj_C ci, pj_T ci, pj_N ci)) = _
  rw [if_neg hc.2]
/-! THE SMALL MACHINE'S HEAP IN THE MACHINE'S -/
def jWZ (G : jg) (h : jh) (H : Heap) (s : State) : Prop :=
  (H.size = G.2.2.2 + h.1.length ∧ h.1.length ≤ 1000000 ∧ G.2.2.1 jSCR < G.2.2.2) ∧ (∀ (c : Nat) (k : Nat × Nat), h.1[c]? = some k → jkok k ∧ va_at G.1 pj_clZ (G.2.2.2 + c, jE G h c k) H) ∧ (∀ c i, r32 (gD h c i)) ∧ (∀ c i, r64 (gL h c i)) ∧
    (va_X (G.2.2.1 jSCR) (gD h jLEN 0).toNat (fun j => Int32.ofInt (gD h jSCR j)) s H ∧ 0 ≤ gD h jLEN 0) ∧ jT G H s
theorem jW_movedZ {G : jg} {h : jh} {H : Heap} {s U : State} (hvm : s.vm.Alike U.vm) (w : jWZ G h H s) : jWZ G h H U :=
  ⟨w.1, w.2.1, w.2.2.1, w.2.2.2.1, ⟨va_X.moved hvm w.2.2.2.2.1.1, w.2.2.2.2.1.2⟩, jT_moved hvm w.2.2.2.2.2⟩
theorem jad_ltZ {G : jg} {h : jh} {H : Heap} {s : State} (w : jWZ G h H s) {c : Nat} {k : Nat × Nat} (hk : gK h c = some k) : jad G c = G.2.2.2 + c := by
  have h1 : c < h.1.length := (List.getElem?_eq_some_iff.mp hk).1
  have := w.1.2.1
  unfold jad
  rw [if_pos (by omega)]
theorem jltZ {G : jg} {h : jh} {H : Heap} {s : State} (w : jWZ G h H s) {c : Nat} {k : Nat × Nat} (hk : gK h c = some k) : c < 1000000 := by
  have h1 : c < h.1.length := (List.getElem?_eq_some_iff.mp hk).1
  have := w.1.2.1
  omega
/-- a cell is written -/
theorem jW_updZ {G : jg} {h h' : jh} {H H' : Heap} {s : State} (w : jWZ G h H s) {c : Nat} {k : Nat × Nat} (hk : gK h c = some k) (h1 : h'.1 = h.1)
    (ho : ∀ c', c' ≠ c → (∀ i, gR h' c' i = gR h c' i) ∧ (∀ i, gD h' c' i = gD h c' i) ∧ (∀ i, gL h' c' i = gL h c' i))
    (hz : H'.size = H.size) (hq : ∀ q, q ≠ G.2.2.2 + c → H'[q]? = H[q]?) (hd : ∀ i, r32 (gD h' c i)) (hl : ∀ i, r64 (gL h' c i))
    (hat : va_at G.1 pj_clZ (G.2.2.2 + c, jE G h' c k) H') : jWZ G h' H' s := by
  obtain ⟨⟨a1, a2, a3⟩, b, d, l, ⟨x1, x2⟩, t⟩ := w
  have hc : c < h.1.length := (List.getElem?_eq_some_iff.mp hk).1
  have hlen : gD h' jLEN 0 = gD h jLEN 0 := (ho jLEN (by unfold jLEN; omega)).2.1 0
  have hscr : ∀ j, gD h' jSCR j = gD h jSCR j := fun j => (ho jSCR (by unfold jSCR; omega)).2.1 j
  refine ⟨⟨by rw [hz, h1]; exact a1, by rw [h1]; exact a2, a3⟩, fun c' k' hk' => ?_, fun c' i => ?_, fun c' i => ?_, ⟨?_, by rw [hlen]; exact x2⟩, jT_kept t fun q hq' => hq q (by omega)⟩
  · rw [h1] at hk'
    by_cases e : c' = c
    · subst e
      rw [show k' = k from Option.some.inj (hk'.symm.trans hk)]
      exact ⟨(b c' k hk).1, hat⟩
    · obtain ⟨o1, o2, o3⟩ := ho c' e
      obtain ⟨g1, g2⟩ := b c' k' hk'
      refine ⟨g1, ?_⟩
      have he : jE G h' c' k' = jE G h c' k' := by
        obtain ⟨t, n⟩ := k'
        match t with
        | 0 => simp only [jE, jfv, o1, o2, o3]
        | 1 => simp only [jE, o2]
        | 2 => simp only [jE, o2]
        | 3 => simp only [jE, o3]
        | t + 4 => simp only [jE, o1]
      rw [he]
      exact g2.kept (hq _ (by show G.2.2.2 + c' ≠ _; omega))
  · by_cases e : c' = c
    · subst e; exact hd i
    · rw [(ho c' e).2.1]; exact d c' i
  · by_cases e : c' = c
    · subst e; exact hl i
    · rw [(ho c' e).2.2]; exact l c' i
  · simp only [hlen, hscr]
    exact x1.kept (hq _ (by omega))
/-- a cell comes -/
theorem jW_pushZ {G : jg} {h : jh} {H H' : Heap} {s : State} (w : jWZ G h H s) (k : Nat × Nat) (hk : jkok k) (hlen : h.1.length < 1000000)
    (hz : H'.size = H.size + 1) (hq : ∀ q, q < H.size → H'[q]? = H[q]?) (hat : va_at G.1 pj_clZ (G.2.2.2 + h.1.length, jE G (nC h k) h.1.length k) H') : jWZ G (nC h k) H' s := by
  obtain ⟨⟨a1, a2, a3⟩, b, d, l, ⟨x1, x2⟩, t⟩ := w
  have e1 : (nC h k).1 = h.1 ++ [k] := rfl
  have eR : ∀ c' i, c' ≠ h.1.length → gR (nC h k) c' i = gR h c' i := fun c' i hc => if_neg hc
  have eD : ∀ c' i, c' ≠ h.1.length → gD (nC h k) c' i = gD h c' i := fun c' i hc => if_neg hc
  have eL : ∀ c' i, c' ≠ h.1.length → gL (nC h k) c' i = gL h c' i := fun c' i hc => if_neg hc
  have hll : gD (nC h k) jLEN 0 = gD h jLEN 0 := eD _ _ (by unfold jLEN; omega)
  have hscr : ∀ j, gD (nC h k) jSCR j = gD h jSCR j := fun j => eD _ _ (by unfold jSCR; omega)
  refine ⟨⟨by rw [hz, a1, e1, List.length_append]; rfl, by rw [e1, List.length_append]; exact hlen, a3⟩, fun c' k' hk' => ?_, fun c' i => ?_, fun c' i => ?_, ⟨?_, by rw [hll]; exact x2⟩, jT_kept t fun q hq' => hq q (by omega)⟩
  · rw [e1] at hk'
    by_cases hl : c' < h.1.length
    · rw [List.getElem?_append_left hl] at hk'
      obtain ⟨g1, g2⟩ := b c' k' hk'
      refine ⟨g1, ?_⟩
      have hne : c' ≠ h.1.length := by omega
      have he : jE G (nC h k) c' k' = jE G h c' k' := by
        obtain ⟨t, n⟩ := k'
        match t with
        | 0 => simp only [jE, jfv, eR c' _ hne, eD c' _ hne, eL c' _ hne]
        | 1 => simp only [jE, eD c' _ hne]
        | 2 => simp only [jE, eD c' _ hne]
        | 3 => simp only [jE, eL c' _ hne]
        | t + 4 => simp only [jE, eR c' _ hne]
      rw [he]
      exact g2.kept (hq _ (by show G.2.2.2 + c' < _; omega))
    · have h0 : c' - h.1.length < 1 := by
        rw [List.getElem?_append_right (by omega)] at hk'
        exact (List.getElem?_eq_some_iff.mp hk').1
      have hc : c' = h.1.length := by omega
      subst hc
      rw [List.getElem?_append_right (by omega), Nat.sub_self] at hk'
      cases hk'
      exact ⟨hk, hat⟩
  · by_cases e : c' = h.1.length
    · subst e
      have : gD (nC h k) h.1.length i = 0 := if_pos rfl
      rw [this]; exact r32_0
    · rw [eD _ _ e]; exact d c' i
  · by_cases e : c' = h.1.length
    · subst e
      have : gL (nC h k) h.1.length i = 0 := if_pos rfl
      rw [this]; unfold r64; omega
    · rw [eL _ _ e]; exact l c' i
  · simp only [hll, hscr]
    exact x1.kept (hq _ (by omega))
/-! locals -/
/-! ONE STEP OF THE SMALL MACHINE IS ONE OF THE MACHINE -/
/-- what the tables say, at a method's start -/
def jXZ (G : jg) (s : State) : Prop := ((∀ oc, oc < 14 → ∀ t ∈ pj_ml oc, pj_plain t = false → va_Nw (pj_mw oc t) s) ∧ vk_R (pj_C 4) 254 "field turn slope x quo rem lquo lrem gcd lgcd lcm llcm " (G.2.2.1 jKEY) s ∧ vk_R (pj_C 4) 280 ";=+*^(),"  (G.2.2.1 jSIG) s) ∧ (va_AO (pj_C 3) s ∧ va_AO (pj_C 9) s ∧ va_AO (pj_C 1) s ∧ (Cond.arrayOver (.array .int)).before #[] s = true) ∧ va_K G.1 pj_clZ (jtys G) s
def jFZ (G : jg) (y : Nat) (p : Program) (s : State) (m : MethodId) (args : Array Value) (meth : Method) (c : Code) : Prop :=
  (p.tables.exec = Jvm.exec ∧ c.code = pby y) ∧ s.vm.findClass (pj_C (poc y)) = some m.cls ∧ c.maxLocals = pmL y ∧ meth.sig.returnType = prt y ∧ meth.locks = false ∧ (pin y = 1 → meth.name = "<init>") ∧ (∀ w ∈ pj_W, w.before args s = true) ∧ jXZ G s
/-- the goal at a place: from any heap that holds the small one, the machine comes to Q, with cE cells and sE slots made when the small heap is hE -/
def jGZ (G : jg) (y : Nat) (p : Program) (l : Launch) (e : Env) (R : Room) (s : State) (m : MethodId) (args : Array Value) (below : List Frame) (meth : Method) (c : Code) (Q : State → Prop) (hE : jh) (cE sE : Nat) (pc : Nat) (ls : List (Option jv)) (st : List jv) (h : jh) : Prop :=
  ∀ (H : Heap) (locs : List Loc) (cells slots : Nat) (lsr : Array Slot), jWZ G h H s → va_S (fun q => G.2.2.2 ≤ q) s.heap H locs → G.2.2.2 ≤ s.heap.size → lv_has lsr (pmL y) (jla G ls) → ls.length = pmL y → jok ls st → cells + hE.1.length = cE + h.1.length → slots + jsz hE = sE + jsz h →
    W p l e R s m args below meth c H locs cells slots Q (F0 m pc lsr (st.map (jsv G)))
section JS
variable {G : jg} {y : Nat} {p : Program} {l : Launch} {e : Env} {R : Room} {s : State} {m : MethodId} {args : Array Value} {below : List Frame} {meth : Method} {c : Code} {Q : State → Prop} {hE : jh} {cE sE : Nat} {pc : Nat} {ls : List (Option jv)} {st : List jv} {h : jh}
/-- constants -/
theorem js_iconstZ (F : jFZ G y p s m args meth c) {n : Int} (hn : -128 ≤ n ∧ n < 128) (hd : decode (pby y) pc = .ok (.iconst n, 1))
    (k : jGZ G y p l e R s m args below meth c Q hE cE sE (pc + 1) ls (.inl n :: st) h) : jGZ G y p l e R s m args below meth c Q hE cE sE pc ls st h := fun H locs cells slots lsr hW hS hz hl hn2 ho hc hs =>
  lv_iconst F.1.1 F.1.2 hd rfl (k H locs cells slots lsr hW hS hz hl hn2 (jok_push ho (by unfold jvok r32; omega)) hc hs)
theorem js_bipushZ (F : jFZ G y p s m args meth c) {n : Int} (hn : -128 ≤ n ∧ n < 128) (hd : decode (pby y) pc = .ok (.bipush n, 2))
    (k : jGZ G y p l e R s m args below meth c Q hE cE sE (pc + 2) ls (.inl n :: st) h) : jGZ G y p l e R s m args below meth c Q hE cE sE pc ls st h := fun H locs cells slots lsr hW hS hz hl hn2 ho hc hs =>
  lv_bipush F.1.1 F.1.2 hd (by
    apply Int32.toInt_inj.mp
    rw [Int8.toInt_toInt32, Int8.toInt_ofInt, o32_i (by unfold r32; omega)]
    unfold Int.bmod; dsimp only [Int8.size]; split <;> omega) (k H locs cells slots lsr hW hS hz hl hn2 (jok_push ho (by unfold jvok r32; omega)) hc hs)
theorem js_sipushZ (F : jFZ G y p s m args meth c) {n : Int} (hn : -32768 ≤ n ∧ n < 32768) (hd : decode (pby y) pc = .ok (.sipush n, 3))
    (k : jGZ G y p l e R s m args below meth c Q hE cE sE (pc + 3) ls (.inl n :: st) h) : jGZ G y p l e R s m args below meth c Q hE cE sE pc ls st h := fun H locs cells slots lsr hW hS hz hl hn2 ho hc hs =>
  lv_sipush F.1.1 F.1.2 hd (by
    apply Int32.toInt_inj.mp
    rw [Int16.toInt_toInt32, Int16.toInt_ofInt, o32_i (by unfold r32; omega)]
    unfold Int.bmod; dsimp only [Int16.size]; split <;> omega) (k H locs cells slots lsr hW hS hz hl hn2 (jok_push ho (by unfold jvok r32; omega)) hc hs)
theorem js_lconstZ (F : jFZ G y p s m args meth c) {n : Fin 2} (hd : decode (pby y) pc = .ok (.lconst n, 1))
    (k : jGZ G y p l e R s m args below meth c Q hE cE sE (pc + 1) ls (.inr (.inl (n.val : Int)) :: st) h) : jGZ G y p l e R s m args below meth c Q hE cE sE pc ls st h := fun H locs cells slots lsr hW hS hz hl hn2 ho hc hs =>
  lv_lconst F.1.1 F.1.2 hd rfl (k H locs cells slots lsr hW hS hz hl hn2 (jok_push ho (by have := n.isLt; unfold jvok r64; omega)) hc hs)
theorem js_nullZ (F : jFZ G y p s m args meth c) (hd : decode (pby y) pc = .ok (.aconst_null, 1))
    (k : jGZ G y p l e R s m args below meth c Q hE cE sE (pc + 1) ls (.inr (.inr none) :: st) h) : jGZ G y p l e R s m args below meth c Q hE cE sE pc ls st h := fun H locs cells slots lsr hW hS hz hl hn2 ho hc hs =>
  lv_null F.1.1 F.1.2 hd (k H locs cells slots lsr hW hS hz hl hn2 (jok_push ho trivial) hc hs)
/-- loads -/
theorem js_loadZ (F : jFZ G y p s m args meth c) {n len : Nat} {v : jv} (hv : ls.getD n none = some v)
    (row : ∀ (H : Heap) (locs : List Loc) (cells slots : Nat) (lsr : Array Slot), lsr[n]? = some (.val (jsv G v)) → W p l e R s m args below meth c H locs cells slots Q (F0 m (pc + len) lsr (jsv G v :: st.map (jsv G))) → W p l e R s m args below meth c H locs cells slots Q (F0 m pc lsr (st.map (jsv G))))
    (k : jGZ G y p l e R s m args below meth c Q hE cE sE (pc + len) ls (v :: st) h) : jGZ G y p l e R s m args below meth c Q hE cE sE pc ls st h := fun H locs cells slots lsr hW hS hz hl hn2 ho hc hs =>
  row H locs cells slots lsr (jla_get hl hv) (k H locs cells slots lsr hW hS hz hl hn2 (jok_push ho (ho.1 n v hv)) hc hs)
/-- stores of one slot -/
theorem js_storeZ (F : jFZ G y p s m args meth c) {n len : Nat} {v : jv} (hn : n < ls.length)
    (row : ∀ (H : Heap) (locs : List Loc) (cells slots : Nat) (lsr : Array Slot), lv_has lsr (pmL y) (jla G ls) → n < pmL y → (∀ lsr', lv_has lsr' (pmL y) ((n, jsv G v) :: (jla G ls).filter (fun q => !(q.1 == n) && !(q.1 + 1 == n && q.2.category == 2))) → W p l e R s m args below meth c H locs cells slots Q (F0 m (pc + len) lsr' (st.map (jsv G)))) → W p l e R s m args below meth c H locs cells slots Q (F0 m pc lsr (jsv G v :: st.map (jsv G))))
    (k : jGZ G y p l e R s m args below meth c Q hE cE sE (pc + len) (jst1 ls n v) st h) : jGZ G y p l e R s m args below meth c Q hE cE sE pc ls (v :: st) h := fun H locs cells slots lsr hW hS hz hl hn2 ho hc hs =>
  row H locs cells slots lsr hl (by omega) fun lsr' h' => k H locs cells slots lsr' hW hS hz (jla_st1 hn h') (by rw [jst1_len]; exact hn2) (jok_st1 hn (jok_pop ho) (jok_top ho)) hc hs
theorem js_store2Z (F : jFZ G y p s m args meth c) {n len : Nat} {v : jv} (hn : n + 1 < ls.length)
    (row : ∀ (H : Heap) (locs : List Loc) (cells slots : Nat) (lsr : Array Slot), lv_has lsr (pmL y) (jla G ls) → n + 1 < pmL y → (∀ lsr', lv_has lsr' (pmL y) ((n, jsv G v) :: (jla G ls).filter (fun q => !(q.1 == n) && (!(q.1 == n + 1) && !(q.1 + 1 == n && q.2.category == 2)))) → W p l e R s m args below meth c H locs cells slots Q (F0 m (pc + len) lsr' (st.map (jsv G)))) → W p l e R s m args below meth c H locs cells slots Q (F0 m pc lsr (jsv G v :: st.map (jsv G))))
    (k : jGZ G y p l e R s m args below meth c Q hE cE sE (pc + len) (jst2 ls n v) st h) : jGZ G y p l e R s m args below meth c Q hE cE sE pc ls (v :: st) h := fun H locs cells slots lsr hW hS hz hl hn2 ho hc hs =>
  row H locs cells slots lsr hl (by omega) fun lsr' h' => k H locs cells slots lsr' hW hS hz (jla_st2 hn h') (by rw [jst2_len]; exact hn2) (jok_st2 hn (jok_pop ho) (jok_top ho)) hc hs
/-- arithmetic: a row of the kit over two ints -/
theorem js_binZ (F : jFZ G y p s m args meth c) {f : Int → Int → Int} {g : Int32 → Int32 → Int32} {a b : Int} (hf : r32 a → r32 b → Int32.ofInt (f a b) = g (Int32.ofInt a) (Int32.ofInt b) ∧ r32 (f a b))
    (row : ∀ (H : Heap) (locs : List Loc) (cells slots : Nat) (lsr : Array Slot), W p l e R s m args below meth c H locs cells slots Q (F0 m (pc + 1) lsr (.int (g (Int32.ofInt a) (Int32.ofInt b)) :: st.map (jsv G))) → W p l e R s m args below meth c H locs cells slots Q (F0 m pc lsr (.int (Int32.ofInt b) :: .int (Int32.ofInt a) :: st.map (jsv G))))
    (k : jGZ G y p l e R s m args below meth c Q hE cE sE (pc + 1) ls (.inl (f a b) :: st) h) : jGZ G y p l e R s m args below meth c Q hE cE sE pc ls (.inl b :: .inl a :: st) h := fun H locs cells slots lsr hW hS hz hl hn2 ho hc hs => by
  obtain ⟨e1, e2⟩ := hf (jok_top (jok_pop ho)) (jok_top ho)
  have h9 := k H locs cells slots lsr hW hS hz hl hn2 (jok_push (jok_pop (jok_pop ho)) e2) hc hs
  refine row H locs cells slots lsr ?_
  rw [← e1]
  exact h9
theorem js_bin2Z (F : jFZ G y p s m args meth c) {f : Int → Int → Int} {g : Int64 → Int64 → Int64} {a b : Int} (hf : r64 a → r64 b → Int64.ofInt (f a b) = g (Int64.ofInt a) (Int64.ofInt b) ∧ r64 (f a b))
    (row : ∀ (H : Heap) (locs : List Loc) (cells slots : Nat) (lsr : Array Slot), W p l e R s m args below meth c H locs cells slots Q (F0 m (pc + 1) lsr (.long (g (Int64.ofInt a) (Int64.ofInt b)) :: st.map (jsv G))) → W p l e R s m args below meth c H locs cells slots Q (F0 m pc lsr (.long (Int64.ofInt b) :: .long (Int64.ofInt a) :: st.map (jsv G))))
    (k : jGZ G y p l e R s m args below meth c Q hE cE sE (pc + 1) ls (.inr (.inl (f a b)) :: st) h) : jGZ G y p l e R s m args below meth c Q hE cE sE pc ls (.inr (.inl b) :: .inr (.inl a) :: st) h := fun H locs cells slots lsr hW hS hz hl hn2 ho hc hs => by
  obtain ⟨e1, e2⟩ := hf (jok_top (jok_pop ho)) (jok_top ho)
  have h9 := k H locs cells slots lsr hW hS hz hl hn2 (jok_push (jok_pop (jok_pop ho)) e2) hc hs
  refine row H locs cells slots lsr ?_
  rw [← e1]
  exact h9
/-- the stack alone changes -/
theorem js_stkZ {st' : List jv} {pc' : Nat} (row : ∀ (H : Heap) (locs : List Loc) (cells slots : Nat) (lsr : Array Slot), jok ls st → W p l e R s m args below meth c H locs cells slots Q (F0 m pc' lsr (st'.map (jsv G))) → W p l e R s m args below meth c H locs cells slots Q (F0 m pc lsr (st.map (jsv G)))) (hv : jok ls st → jok ls st')
    (k : jGZ G y p l e R s m args below meth c Q hE cE sE pc' ls st' h) : jGZ G y p l e R s m args below meth c Q hE cE sE pc ls st h := fun H locs cells slots lsr hW hS hz hl hn2 ho hc hs =>
  row H locs cells slots lsr ho (k H locs cells slots lsr hW hS hz hl hn2 (hv ho) hc hs)
/-- branches -/
theorem js_brZ {st' : List jv} {C : Prop} [Decidable C] {t f : Nat} (row : ∀ (H : Heap) (locs : List Loc) (cells slots : Nat) (lsr : Array Slot), jok ls st → (C → W p l e R s m args below meth c H locs cells slots Q (F0 m t lsr (st'.map (jsv G)))) → (¬ C → W p l e R s m args below meth c H locs cells slots Q (F0 m f lsr (st'.map (jsv G)))) → W p l e R s m args below meth c H locs cells slots Q (F0 m pc lsr (st.map (jsv G)))) (hv : jok ls st → jok ls st')
    (k : jGZ G y p l e R s m args below meth c Q hE cE sE (if C then t else f) ls st' h) : jGZ G y p l e R s m args below meth c Q hE cE sE pc ls st h := fun H locs cells slots lsr hW hS hz hl hn2 ho hc hs => by
  have h9 := k H locs cells slots lsr hW hS hz hl hn2 (hv ho) hc hs
  exact row H locs cells slots lsr ho (fun hC => by rw [if_pos hC] at h9; exact h9) (fun hC => by rw [if_neg hC] at h9; exact h9)
end JS

/-! STEPS OVER THE HEAP -/
section JR
variable {G : jg} {y : Nat} {p : Program} {l : Launch} {e : Env} {R : Room} {s : State} {m : MethodId} {args : Array Value} {below : List Frame} {meth : Method} {c : Code} {Q : State → Prop} {hE : jh} {cE sE : Nat} {pc : Nat} {ls : List (Option jv)} {st : List jv} {h : jh}
theorem jfv_okZ {H : Heap} (w : jWZ G h H s) (ci cc j : Nat) : jvok (jfv h ci cc j) := by
  unfold jfv
  split
  · exact w.2.2.1 cc j
  · exact w.2.2.1 cc j
  · exact w.2.2.2.1 cc j
  · trivial
theorem js_getfieldZ (F : jFZ G y p s m args meth c) {k ci j cc : Nat} (hk : gK h cc = some (0, ci)) (hf : pfl (poc y) k = some (ci, j)) (hd : decode (pby y) pc = .ok (.getfield k, 3))
    (kk : jGZ G y p l e R s m args below meth c Q hE cE sE (pc + 3) ls (jfv h ci cc j :: st) h) : jGZ G y p l e R s m args below meth c Q hE cE sE pc ls (.inr (.inr (some cc)) :: st) h := fun H locs cells slots lsr hW hS hz hl hn2 ho hc hs => by
  obtain ⟨f1, f2, f3⟩ := pfl_ok hf
  obtain ⟨⟨hx, hb⟩, hown, hml, hret, hlk, hin, hts, hX⟩ := F
  have hat := (hW.2.1 cc _ hk).2
  have e1 : jsv G (.inr (.inr (some cc))) = .ref (G.2.2.2 + cc) := by
    rw [jsv_r, Option.map_some, jad_ltZ hW hk]; rfl
  show W p l e R s m args below meth c H locs cells slots Q (F0 m pc lsr (jsv G (.inr (.inr (some cc))) :: st.map (jsv G)))
  rw [e1]
  exact va_get (D := G.1) (ci := ci) (C := pj_C ci) (T := pj_T ci) (N := pj_N ci) hx hb hts (pj_lay f2) hown hX.2.2 (va_P1 hat) 0 rfl (pj_cl_atZ (by omega)) j f3 (hts _ f1) (fun x hx => by rw [pj_T1 f2 f3] at hx; exact hx) (jE_get f3) hd
    (kk H locs cells slots lsr hW hS hz hl hn2 (jok_push (jok_pop ho) (jfv_okZ hW ci cc j)) hc hs)
/-- a field is put: the heap behind it, exactly -/
theorem jr_putZ {cc0 : ByteArray} {D : va_G} {tys : List (ClassId × FieldType)} {own C : String} {T : u_T} {N ci index a : Nat} {Ts : List Cond} {H : Heap} {locs : List Loc} {cells slots : Nat} {lsr : Array Slot} {rest : List Value} (hexec : p.tables.exec = Jvm.exec) (hb : c.code = cc0) (hts : ∀ w ∈ Ts, w.before args s = true) (hin : ∀ w ∈ u_ws C T N, w ∈ Ts) (ty0 : Nat → FieldType) (hty : ∀ k, k < N → parseFieldDescriptor (T k).2.2.1 = some (ty0 k)) (hnm : ∀ a, a < N → ∀ b, b < N → a ≠ b → (T a).2.1 ≠ (T b).2.1)
    (hown : s.vm.findClass own = some m.cls) (hK : va_K D pj_clZ tys s) {fs : List Value} (hat : va_at D pj_clZ (a, .inr (ci, fs)) H) (hc : pj_clZ[ci]? = some (C, T, N)) {k : Nat} (hk : k < N) (hlink : (Cond.fieldLink own index C (T k).2.1 (T k).2.2.1).before args s = true) (hT1 : (T k).1 = C) (hfin : (T k).2.2.2 = false ∨ ((T k).2.2.2 = true ∧ meth.name = "<init>" ∧ C = own))
    {ty : FieldType} {v : Value} (hd : parseFieldDescriptor (T k).2.2.1 = some ty) (hn : narrow ty v = v) (hfit : fits ty v = true) (hl : k < fs.length) (hdg : decode cc0 pc = .ok (.putfield index, 3))
    (kk : ∀ (H1 : Heap) (i : Nat), va_at D pj_clZ (a, .inr (ci, fs.set k v)) H1 → H1.size = H.size → (∀ q, q ≠ a → H1[q]? = H[q]?) → W p l e R s m args below meth c H1 (locs ++ [⟨a, i⟩]) cells slots Q (F0 m (pc + 3) lsr rest)) : W p l e R s m args below meth c H locs cells slots Q (F0 m pc lsr (v :: .ref a :: rest)) := by
  have hap := va_apart (own := own) hts hin ty0 hty hnm hK hc
  obtain ⟨r, h1, cell, q1, q2, q3, q4⟩ := hat
  have hr : r = (C, T, N) := Option.some.inj (h1.symm.trans hc)
  subst hr
  obtain ⟨hS, hfc, kC, hkC, hkind⟩ := hK.1 ci _ hc
  obtain ⟨cf, kf, fi, f, hi, hsl⟩ := hS k hk
  have hi' : s.fieldFound? C (T k).2.1 (T k).2.2.1 = some (cf, kf, fi, f) := by rw [← hT1]; exact hi
  have hlay := hts _ (hin _ (u_in_lay hk))
  have hst := (u_facts hfc hkC (u_lays hts hin hk) hi).1
  have fin : ∀ H1 : Heap, H1[a]? = some (cell.setSlot f.slot v) → H1.size = H.size → (∀ q, q ≠ a → H1[q]? = H[q]?) → W p l e R s m args below meth c H1 (locs ++ [⟨a, f.slot⟩]) cells slots Q (F0 m (pc + 3) lsr rest) := by
    intro H1 e1 e2 e3
    rw [hsl] at e1
    exact kk H1 f.slot ⟨_, hc, t_OB.to (V := updV (vp_V fs) k v) ⟨_, e1, q2, q3, t_set q4 hap hk v⟩ (fun j _ => vp_updV_set hl v j)⟩ e2 e3
  have hsz : f.slot < cell.slots.size := by rw [hsl]; exact k2_hasslot (q4 k hk)
  unfold u_lay at hlay
  rcases hfin with hf0 | ⟨hf1, hini, hdecl⟩
  · rw [if_neg (by rw [hf0]; decide)] at hlay
    have h6 := u_store hfc hkC hkind hlay hi hd hn hfit
    exact W.putK hexec hb (f := f) ⟨hown, hlink, ⟨_, _, _, hi'⟩, hst⟩ (by rw [q2]; exact h6) q1 q3 hsz rfl rfl hdg fin
  · rw [if_pos hf1] at hlay
    have hcf : m.cls = cf := by
      obtain ⟨_, _, c', _, _, _, -, -, hf', -, -, -, hown2, -⟩ := Cond.laysFinal_spec hlay
      have e1 : c' = cf := by have := hi.symm.trans hf'; simp at this; exact this.1.symm
      rw [hT1, hdecl] at hown2
      rw [← e1]; exact Option.some.inj (hown.symm.trans hown2)
    have h6 := u_fits hfc hkC hkind (Or.inr hlay) hi hd hn hfit
    exact W.putFinK hexec hb hown hlink hi' hst hcf hini (by rw [q2]; exact h6) q1 q3 hsz rfl rfl hdg fin
/-- putfield, given what it stores -/
theorem js_putfieldZ (F : jFZ G y p s m args meth c) {k ci j cc : Nat} {v : jv} {h' : jh} (hk : gK h cc = some (0, ci)) (hf : pfl (poc y) k = some (ci, j)) (hfin : ¬ (pfin ci j = true ∧ ¬ (pin y = 1 ∧ poc y = ci)))
    (hn : narrow (pj_ty ci j) (jsv G v) = jsv G v) (hfit : fits (pj_ty ci j) (jsv G v) = true) (h1 : h'.1 = h.1) (ho : ∀ c', c' ≠ cc → (∀ i, gR h' c' i = gR h c' i) ∧ (∀ i, gD h' c' i = gD h c' i) ∧ (∀ i, gL h' c' i = gL h c' i))
    (hv : jfv h' ci cc j = v) (hj : ∀ i, i ≠ j → jfv h' ci cc i = jfv h ci cc i) (hrd : jvok v → (∀ i, r32 (gD h cc i)) → ∀ i, r32 (gD h' cc i)) (hrl : jvok v → (∀ i, r64 (gL h cc i)) → ∀ i, r64 (gL h' cc i)) (hd : decode (pby y) pc = .ok (.putfield k, 3))
    (kk : jGZ G y p l e R s m args below meth c Q hE cE sE (pc + 3) ls st h') : jGZ G y p l e R s m args below meth c Q hE cE sE pc ls (v :: .inr (.inr (some cc)) :: st) h := fun H locs cells slots lsr hW hS hz hl hn2 hok hc hs => by
  obtain ⟨f1, f2, f3⟩ := pfl_ok hf
  obtain ⟨⟨hx, hb⟩, hown, hml, hret, hlk, hin, hts, hX⟩ := F
  have hat := (hW.2.1 cc _ hk).2
  have e1 : jsv G (.inr (.inr (some cc))) = .ref (G.2.2.2 + cc) := by
    rw [jsv_r, Option.map_some, jad_ltZ hW hk]; rfl
  show W p l e R s m args below meth c H locs cells slots Q (F0 m pc lsr (jsv G v :: jsv G (.inr (.inr (some cc))) :: st.map (jsv G)))
  rw [e1]
  have hfin' : (pj_T ci j).2.2.2 = false ∨ ((pj_T ci j).2.2.2 = true ∧ meth.name = "<init>" ∧ pj_C ci = pj_C (poc y)) := by
    rw [pfin_eq]
    by_cases q : pfin ci j = true
    · refine Or.inr ⟨q, ?_⟩
      by_cases q2 : pin y = 1 ∧ poc y = ci
      · exact ⟨hin q2.1, by rw [q2.2]⟩
      · exact absurd ⟨q, q2⟩ hfin
    · exact Or.inl (by simpa using q)
  refine jr_putZ (D := G.1) (C := pj_C ci) (T := pj_T ci) (N := pj_N ci) hx hb hts (pj_lay f2) (pj_ty ci) (fun k hk => pj_Tp f2 hk) (fun a ha b hb hne => pj_Tn f2 ha hb hne) hown hX.2.2 hat (pj_cl_atZ (by omega)) f3 (hts _ f1) (pj_T1 f2 f3) hfin' (pj_Tp f2 f3) hn hfit (by rw [List.length_map, List.length_range]; exact f3) hd fun H1 i g1 g2 g3 => ?_
  have hvk : jvok v := jok_top hok
  refine kk H1 _ cells slots lsr (jW_updZ hW hk h1 ho g2 g3 (hrd hvk (hW.2.2.1 cc)) (hrl hvk (hW.2.2.2.1 cc)) ?_) (hS.put g2 g3 (by show G.2.2.2 ≤ _; omega)) hz hl hn2 (jok_pop (jok_pop hok)) (by rw [h1]; exact hc) (by unfold jsz at hs ⊢; rw [h1]; exact hs)
  have := g1
  rw [jE_put f3 hv hj] at this
  exact this
theorem js_putIZ (F : jFZ G y p s m args meth c) {k ci j cc : Nat} {x : Int} (hk : gK h cc = some (0, ci)) (hf : pfl (poc y) k = some (ci, j)) (hfin : ¬ (pfin ci j = true ∧ ¬ (pin y = 1 ∧ poc y = ci))) (ht : pj_ft ci j = 0 ∨ (pj_ft ci j = 1 ∧ (x = 0 ∨ x = 1))) (hd : decode (pby y) pc = .ok (.putfield k, 3))
    (kk : jGZ G y p l e R s m args below meth c Q hE cE sE (pc + 3) ls st (wD h cc j x)) : jGZ G y p l e R s m args below meth c Q hE cE sE pc ls (.inl x :: .inr (.inr (some cc)) :: st) h := by
  obtain ⟨f1, f2, f3⟩ := pfl_ok hf
  have hty : pj_ft ci j = 0 ∧ pj_ty ci j = .int ∨ pj_ft ci j = 1 ∧ pj_ty ci j = .boolean ∧ (x = 0 ∨ x = 1) := by
    rcases pj_Ty f2 f3 with ⟨a, b⟩ | ⟨a, b⟩ | ⟨a, b⟩ | ⟨a, b⟩ <;> rcases ht with q | ⟨q, q2⟩
    · exact Or.inl ⟨q, b⟩
    · omega
    · omega
    · exact Or.inr ⟨q, b, q2⟩
    all_goals omega
  refine js_putfieldZ (h' := wD h cc j x) F hk hf hfin ?_ ?_ rfl (fun c' hc => ⟨fun _ => rfl, fun i => by rw [gD_w, if_neg (fun q => hc q.1)], fun _ => rfl⟩) ?_ (fun i hi => ?_) (fun hv ho i => ?_) (fun _ ho => ho) hd kk
  · rcases hty with ⟨-, b⟩ | ⟨-, b, q | q⟩
    · rw [b]; rfl
    · rw [b, q]; rfl
    · rw [b, q]; rfl
  · rcases hty with ⟨-, b⟩ | ⟨-, b, q | q⟩
    · rw [b]; rfl
    · rw [b, q]; show fits .boolean (.int (Int32.ofInt 0)) = true; decide
    · rw [b, q]; show fits .boolean (.int (Int32.ofInt 1)) = true; decide
  · unfold jfv
    rcases hty with ⟨a, -⟩ | ⟨a, -⟩ <;> rw [a] <;> simp only [gD_w, and_self, if_true]
  · unfold jfv
    simp only [gD_w, hi, and_false, if_false]
    rfl
  · rw [gD_w]; split
    · exact hv
    · exact ho i
theorem js_putLZ (F : jFZ G y p s m args meth c) {k ci j cc : Nat} {x : Int} (hk : gK h cc = some (0, ci)) (hf : pfl (poc y) k = some (ci, j)) (hfin : ¬ (pfin ci j = true ∧ ¬ (pin y = 1 ∧ poc y = ci))) (ht : pj_ft ci j = 2) (hd : decode (pby y) pc = .ok (.putfield k, 3))
    (kk : jGZ G y p l e R s m args below meth c Q hE cE sE (pc + 3) ls st (wL h cc j x)) : jGZ G y p l e R s m args below meth c Q hE cE sE pc ls (.inr (.inl x) :: .inr (.inr (some cc)) :: st) h := by
  obtain ⟨f1, f2, f3⟩ := pfl_ok hf
  have hty : pj_ty ci j = .long := by
    rcases pj_Ty f2 f3 with ⟨a, b⟩ | ⟨a, b⟩ | ⟨a, b⟩ | ⟨a, b⟩
    · omega
    · omega
    · exact b
    · omega
  refine js_putfieldZ (h' := wL h cc j x) F hk hf hfin ?_ ?_ rfl (fun c' hc => ⟨fun _ => rfl, fun _ => rfl, fun i => by rw [gL_w, if_neg (fun q => hc q.1)]⟩) ?_ (fun i hi => ?_) (fun _ ho => ho) (fun hv ho i => ?_) hd kk
  · rw [hty]; rfl
  · rw [hty]; rfl
  · unfold jfv
    rw [ht]; simp only [gL_w, and_self, if_true]
  · unfold jfv
    simp only [gL_w, hi, and_false, if_false]
    rfl
  · rw [gL_w]; split
    · exact hv
    · exact ho i
theorem js_putRZ (F : jFZ G y p s m args meth c) {k ci j cc : Nat} {x : Option Nat} (hk : gK h cc = some (0, ci)) (hf : pfl (poc y) k = some (ci, j)) (hfin : ¬ (pfin ci j = true ∧ ¬ (pin y = 1 ∧ poc y = ci))) (ht : pj_ft ci j = 3) (hd : decode (pby y) pc = .ok (.putfield k, 3))
    (kk : jGZ G y p l e R s m args below meth c Q hE cE sE (pc + 3) ls st (wR h cc j x)) : jGZ G y p l e R s m args below meth c Q hE cE sE pc ls (.inr (.inr x) :: .inr (.inr (some cc)) :: st) h := by
  obtain ⟨f1, f2, f3⟩ := pfl_ok hf
  have hty : pj_isR (pj_ty ci j) = true := by
    rcases pj_Ty f2 f3 with ⟨a, b⟩ | ⟨a, b⟩ | ⟨a, b⟩ | ⟨a, b⟩
    · omega
    · omega
    · omega
    · exact b
  refine js_putfieldZ (h' := wR h cc j x) F hk hf hfin (jfit_ref _ hty _).1 (jfit_ref _ hty _).2 rfl (fun c' hc => ⟨fun i => by rw [gR_w, if_neg (fun q => hc q.1)], fun _ => rfl, fun _ => rfl⟩) ?_ (fun i hi => ?_) (fun _ ho => ho) (fun _ ho => ho) hd kk
  · unfold jfv
    rw [ht]; simp only [gR_w, and_self, if_true]
  · unfold jfv
    simp only [gR_w, hi, and_false, if_false]
    rfl
/-! arrays -/
theorem jrefZ {H : Heap} (hW : jWZ G h H s) {cc : Nat} {k : Nat × Nat} (hk : gK h cc = some k) : jsv G (.inr (.inr (some cc))) = .ref (G.2.2.2 + cc) := by
  rw [jsv_r, Option.map_some, jad_ltZ hW hk]; rfl
theorem js_ialdZ (F : jFZ G y p s m args meth c) {cc n : Nat} {i : Int} (hk : gK h cc = some (1, n)) (hi : 0 ≤ i ∧ i < n) (hd : decode (pby y) pc = .ok (.iaload, 1))
    (kk : jGZ G y p l e R s m args below meth c Q hE cE sE (pc + 1) ls (.inl (gD h cc i.toNat) :: st) h) : jGZ G y p l e R s m args below meth c Q hE cE sE pc ls (.inl i :: .inr (.inr (some cc)) :: st) h := fun H locs cells slots lsr hW hS hz hl hn2 ho hc hs => by
  obtain ⟨⟨hx, hb⟩, hown, hml, hret, hlk, hin, hts, hX⟩ := F
  obtain ⟨hko, hat⟩ := hW.2.1 cc _ hk
  obtain ⟨t0, ty, g1, g2, -⟩ := jty_at G hko (by omega)
  have hri : r32 i := jok_top ho
  show W p l e R s m args below meth c H locs cells slots Q (F0 m pc lsr (jsv G (.inl i) :: jsv G (.inr (.inr (some cc))) :: st.map (jsv G)))
  rw [jrefZ hW hk]
  refine va_iald (D := G.1) hx hb hX.2.2 (va_P1 hat) 0 t0 (f := fun i => Int32.ofInt (gD h cc i)) rfl (by rw [g1, g2 rfl]) (o32_in hi.1 hi.2 hri) hd ?_
  rw [o32_cl hi.1 hi.2 hri]
  exact kk H locs cells slots lsr hW hS hz hl hn2 (jok_push (jok_pop (jok_pop ho)) (hW.2.2.1 cc _)) hc hs
theorem js_baldZ (F : jFZ G y p s m args meth c) {cc n : Nat} {i : Int} (hk : gK h cc = some (2, n)) (hi : 0 ≤ i ∧ i < n) (hd : decode (pby y) pc = .ok (.baload, 1))
    (kk : jGZ G y p l e R s m args below meth c Q hE cE sE (pc + 1) ls (.inl (gD h cc i.toNat) :: st) h) : jGZ G y p l e R s m args below meth c Q hE cE sE pc ls (.inl i :: .inr (.inr (some cc)) :: st) h := fun H locs cells slots lsr hW hS hz hl hn2 ho hc hs => by
  obtain ⟨⟨hx, hb⟩, hown, hml, hret, hlk, hin, hts, hX⟩ := F
  obtain ⟨hko, hat⟩ := hW.2.1 cc _ hk
  obtain ⟨t0, ty, g1, -, g2, -⟩ := jty_at G hko (by omega)
  have hri : r32 i := jok_top ho
  show W p l e R s m args below meth c H locs cells slots Q (F0 m pc lsr (jsv G (.inl i) :: jsv G (.inr (.inr (some cc))) :: st.map (jsv G)))
  rw [jrefZ hW hk]
  refine va_zald (D := G.1) hx hb hX.2.2 (va_P1 hat) 0 t0 (f := fun i => Int32.ofInt (gD h cc i)) rfl (by rw [g1, g2 rfl]) (o32_in hi.1 hi.2 hri) hd ?_
  rw [o32_cl hi.1 hi.2 hri]
  exact kk H locs cells slots lsr hW hS hz hl hn2 (jok_push (jok_pop (jok_pop ho)) (hW.2.2.1 cc _)) hc hs
theorem js_laldZ (F : jFZ G y p s m args meth c) {cc n : Nat} {i : Int} (hk : gK h cc = some (3, n)) (hi : 0 ≤ i ∧ i < n) (hd : decode (pby y) pc = .ok (.laload, 1))
    (kk : jGZ G y p l e R s m args below meth c Q hE cE sE (pc + 1) ls (.inr (.inl (gL h cc i.toNat)) :: st) h) : jGZ G y p l e R s m args below meth c Q hE cE sE pc ls (.inl i :: .inr (.inr (some cc)) :: st) h := fun H locs cells slots lsr hW hS hz hl hn2 ho hc hs => by
  obtain ⟨⟨hx, hb⟩, hown, hml, hret, hlk, hin, hts, hX⟩ := F
  obtain ⟨hko, hat⟩ := hW.2.1 cc _ hk
  obtain ⟨t0, ty, g1, -, -, g2, -⟩ := jty_at G hko (by omega)
  have hri : r32 i := jok_top ho
  show W p l e R s m args below meth c H locs cells slots Q (F0 m pc lsr (jsv G (.inl i) :: jsv G (.inr (.inr (some cc))) :: st.map (jsv G)))
  rw [jrefZ hW hk]
  refine va_lald (D := G.1) hx hb hX.2.2 (va_P1 hat) 0 t0 (f := fun i => Int64.ofInt (gL h cc i)) rfl (by rw [g1, g2 rfl]) (o32_in hi.1 hi.2 hri) hd ?_
  rw [o32_cl hi.1 hi.2 hri]
  exact kk H locs cells slots lsr hW hS hz hl hn2 (jok_push (jok_pop (jok_pop ho)) (hW.2.2.2.1 cc _)) hc hs
theorem js_aaldZ (F : jFZ G y p s m args meth c) {cc n k : Nat} {i : Int} (hk : gK h cc = some (k + 4, n)) (hi : 0 ≤ i ∧ i < n) (hd : decode (pby y) pc = .ok (.aaload, 1))
    (kk : jGZ G y p l e R s m args below meth c Q hE cE sE (pc + 1) ls (.inr (.inr (gR h cc i.toNat)) :: st) h) : jGZ G y p l e R s m args below meth c Q hE cE sE pc ls (.inl i :: .inr (.inr (some cc)) :: st) h := fun H locs cells slots lsr hW hS hz hl hn2 ho hc hs => by
  obtain ⟨⟨hx, hb⟩, hown, hml, hret, hlk, hin, hts, hX⟩ := F
  obtain ⟨hko, hat⟩ := hW.2.1 cc _ hk
  obtain ⟨t0, ty, g1, -, -, -, g2, g3⟩ := jty_at G hko (by omega)
  have hri : r32 i := jok_top ho
  have hlt : (Int32.ofInt i).toNatClampNeg < n := by rw [o32_cl hi.1 hi.2 hri]; omega
  have hin' : vp_in (Int32.ofInt i) n := o32_in hi.1 hi.2 hri
  show W p l e R s m args below meth c H locs cells slots Q (F0 m pc lsr (jsv G (.inl i) :: jsv G (.inr (.inr (some cc))) :: st.map (jsv G)))
  rw [jrefZ hW hk]
  have href : ty.isReference = true := by
    by_cases q : k = 100
    · rw [g2 (by omega)]; rfl
    · rw [(g3 k rfl q).1]; rfl
  refine W.aald (v := va_rf ((gR h cc (Int32.ofInt i).toNatClampNeg).map (jad G))) (ty := ty) hx hb (show H[G.2.2.2 + cc]? = some (vp_cell (G.2.1 (k + 4)) (n, .inr (.inr (.inr (.inr fun i => (gR h cc i).map (jad G)))))) from hat) ((hX.2.2.2 t0 _ g1).1 n (fun j => va_rf ((gR h cc j).map (jad G)))) href (fun q => by cases q) (by show ¬ (_ < 0 ∨ (arrV _ _ _).slots.size ≤ _); rw [arrV_size]; exact hin') (by show (arrV _ _ _).slots[_]? = _; rw [arrV_read _ _ hlt]) rfl rfl hd ?_
  rw [o32_cl hi.1 hi.2 hri]
  exact kk H locs cells slots lsr hW hS hz hl hn2 (jok_push (jok_pop (jok_pop ho)) trivial) hc hs
theorem js_iastZ (F : jFZ G y p s m args meth c) {cc n : Nat} {i x : Int} (hk : gK h cc = some (1, n)) (hi : 0 ≤ i ∧ i < n) (hd : decode (pby y) pc = .ok (.iastore, 1))
    (kk : jGZ G y p l e R s m args below meth c Q hE cE sE (pc + 1) ls st (wD h cc i.toNat x)) : jGZ G y p l e R s m args below meth c Q hE cE sE pc ls (.inl x :: .inl i :: .inr (.inr (some cc)) :: st) h := fun H locs cells slots lsr hW hS hz hl hn2 ho hc hs => by
  obtain ⟨⟨hx, hb⟩, hown, hml, hret, hlk, hin, hts, hX⟩ := F
  obtain ⟨hko, hat⟩ := hW.2.1 cc _ hk
  obtain ⟨t0, ty, g1, g2, -⟩ := jty_at G hko (by omega)
  have hri : r32 i := jok_top (jok_pop ho)
  have hrx : r32 x := jok_top ho
  show W p l e R s m args below meth c H locs cells slots Q (F0 m pc lsr (jsv G (.inl x) :: jsv G (.inl i) :: jsv G (.inr (.inr (some cc))) :: st.map (jsv G)))
  rw [jrefZ hW hk]
  have hA := (hX.2.2.2 t0 _ g1).1 n (fun j => .int (Int32.ofInt (gD h cc j)))
  rw [g2 rfl] at hA
  refine W.iast hx hb (show H[G.2.2.2 + cc]? = some (vp_cell (G.2.1 1) (n, .inl fun i => Int32.ofInt (gD h cc i))) from hat) hA (fun q => by cases q) (by show ¬ (_ < 0 ∨ (arrV _ _ _).slots.size ≤ _); rw [arrV_size]; exact o32_in hi.1 hi.2 hri) rfl rfl hd fun H1 e1 z oq => ?_
  refine kk H1 _ cells slots lsr (jW_updZ hW hk rfl (fun c' hc' => ⟨fun _ => rfl, fun i => by rw [gD_w, if_neg (fun q => hc' q.1)], fun _ => rfl⟩) z oq (fun j => ?_) (hW.2.2.2.1 cc) ?_) (hS.put z oq (by show G.2.2.2 ≤ _; omega)) hz hl hn2 (jok_pop (jok_pop (jok_pop ho))) hc hs
  · rw [gD_w]; split
    · exact hrx
    · exact hW.2.2.1 cc j
  · show H1[_]? = some (vp_cell _ _)
    rw [e1, vp_cell_i, vp_cell_i, arrV_store]
    congr 2
    funext q
    rw [o32_cl hi.1 hi.2 hri]
    by_cases hq : q = i.toNat
    · subst hq; simp [updV, gD_w]
    · simp [updV, gD_w, hq]
theorem js_bastZ (F : jFZ G y p s m args meth c) {cc n : Nat} {i x : Int} (hk : gK h cc = some (2, n)) (hi : 0 ≤ i ∧ i < n) (hx01 : x = 0 ∨ x = 1) (hd : decode (pby y) pc = .ok (.bastore, 1))
    (kk : jGZ G y p l e R s m args below meth c Q hE cE sE (pc + 1) ls st (wD h cc i.toNat x)) : jGZ G y p l e R s m args below meth c Q hE cE sE pc ls (.inl x :: .inl i :: .inr (.inr (some cc)) :: st) h := fun H locs cells slots lsr hW hS hz hl hn2 ho hc hs => by
  obtain ⟨⟨hx, hb⟩, hown, hml, hret, hlk, hin, hts, hX⟩ := F
  obtain ⟨hko, hat⟩ := hW.2.1 cc _ hk
  obtain ⟨t0, ty, g1, -, g2, -⟩ := jty_at G hko (by omega)
  have hri : r32 i := jok_top (jok_pop ho)
  have hrx : r32 x := jok_top ho
  have hnar : narrow .boolean (.int (Int32.ofInt x)) = .int (Int32.ofInt x) := by rcases hx01 with q | q <;> rw [q] <;> rfl
  show W p l e R s m args below meth c H locs cells slots Q (F0 m pc lsr (jsv G (.inl x) :: jsv G (.inl i) :: jsv G (.inr (.inr (some cc))) :: st.map (jsv G)))
  rw [jrefZ hW hk]
  have hA := (hX.2.2.2 t0 _ g1).1 n (fun j => .int (Int32.ofInt (gD h cc j)))
  rw [g2 rfl] at hA
  refine W.zast hx hb (show H[G.2.2.2 + cc]? = some (vp_cell (G.2.1 2) (n, .inl fun i => Int32.ofInt (gD h cc i))) from hat) hA (fun q => by cases q) (by show ¬ (_ < 0 ∨ (arrV _ _ _).slots.size ≤ _); rw [arrV_size]; exact o32_in hi.1 hi.2 hri) rfl rfl hd fun H1 e1 z oq => ?_
  refine kk H1 _ cells slots lsr (jW_updZ hW hk rfl (fun c' hc' => ⟨fun _ => rfl, fun i => by rw [gD_w, if_neg (fun q => hc' q.1)], fun _ => rfl⟩) z oq (fun j => ?_) (hW.2.2.2.1 cc) ?_) (hS.put z oq (by show G.2.2.2 ≤ _; omega)) hz hl hn2 (jok_pop (jok_pop (jok_pop ho))) hc hs
  · rw [gD_w]; split
    · exact hrx
    · exact hW.2.2.1 cc j
  · show H1[_]? = some (vp_cell _ _)
    rw [e1, hnar, vp_cell_i, vp_cell_i, arrV_store]
    congr 2
    funext q
    rw [o32_cl hi.1 hi.2 hri]
    by_cases hq : q = i.toNat
    · subst hq; simp [updV, gD_w]
    · simp [updV, gD_w, hq]
theorem js_lastZ (F : jFZ G y p s m args meth c) {cc n : Nat} {i x : Int} (hk : gK h cc = some (3, n)) (hi : 0 ≤ i ∧ i < n) (hd : decode (pby y) pc = .ok (.lastore, 1))
    (kk : jGZ G y p l e R s m args below meth c Q hE cE sE (pc + 1) ls st (wL h cc i.toNat x)) : jGZ G y p l e R s m args below meth c Q hE cE sE pc ls (.inr (.inl x) :: .inl i :: .inr (.inr (some cc)) :: st) h := fun H locs cells slots lsr hW hS hz hl hn2 ho hc hs => by
  obtain ⟨⟨hx, hb⟩, hown, hml, hret, hlk, hin, hts, hX⟩ := F
  obtain ⟨hko, hat⟩ := hW.2.1 cc _ hk
  obtain ⟨t0, ty, g1, -, -, g2, -⟩ := jty_at G hko (by omega)
  have hri : r32 i := jok_top (jok_pop ho)
  have hrx : r64 x := jok_top ho
  show W p l e R s m args below meth c H locs cells slots Q (F0 m pc lsr (jsv G (.inr (.inl x)) :: jsv G (.inl i) :: jsv G (.inr (.inr (some cc))) :: st.map (jsv G)))
  rw [jrefZ hW hk]
  have hA := (hX.2.2.2 t0 _ g1).1 n (fun j => .long (Int64.ofInt (gL h cc j)))
  rw [g2 rfl] at hA
  refine W.last hx hb (show H[G.2.2.2 + cc]? = some (vp_cell (G.2.1 3) (n, .inr (.inl fun i => Int64.ofInt (gL h cc i)))) from hat) hA (fun q => by cases q) (by show ¬ (_ < 0 ∨ (arrV _ _ _).slots.size ≤ _); rw [arrV_size]; exact o32_in hi.1 hi.2 hri) rfl rfl hd fun H1 e1 z oq => ?_
  refine kk H1 _ cells slots lsr (jW_updZ hW hk rfl (fun c' hc' => ⟨fun _ => rfl, fun _ => rfl, fun i => by rw [gL_w, if_neg (fun q => hc' q.1)]⟩) z oq (hW.2.2.1 cc) (fun j => ?_) ?_) (hS.put z oq (by show G.2.2.2 ≤ _; omega)) hz hl hn2 (jok_pop (jok_pop (jok_pop ho))) hc hs
  · rw [gL_w]; split
    · exact hrx
    · exact hW.2.2.2.1 cc j
  · show H1[_]? = some (vp_cell _ _)
    rw [e1, vp_cell_l, vp_cell_l, arrV_store]
    congr 2
    funext q
    rw [o32_cl hi.1 hi.2 hri]
    by_cases hq : q = i.toNat
    · subst hq; simp [updV, gL_w]
    · simp [updV, gL_w, hq]
theorem js_alenZ (F : jFZ G y p s m args meth c) {cc n k : Nat} (hk : gK h cc = some (k + 1, n)) (hd : decode (pby y) pc = .ok (.arraylength, 1))
    (kk : jGZ G y p l e R s m args below meth c Q hE cE sE (pc + 1) ls (.inl (n : Int) :: st) h) : jGZ G y p l e R s m args below meth c Q hE cE sE pc ls (.inr (.inr (some cc)) :: st) h := fun H locs cells slots lsr hW hS hz hl hn2 ho hc hs => by
  obtain ⟨⟨hx, hb⟩, hown, hml, hret, hlk, hin, hts, hX⟩ := F
  obtain ⟨hko, hat⟩ := hW.2.1 cc _ hk
  obtain ⟨t0, ty, g1, -⟩ := jty_at G hko (by omega)
  show W p l e R s m args below meth c H locs cells slots Q (F0 m pc lsr (jsv G (.inr (.inr (some cc))) :: st.map (jsv G)))
  rw [jrefZ hW hk]
  have hn4 : n ≤ 4096 := by
    rcases hko with ⟨a, -⟩ | ⟨-, b⟩
    · simp only at a; omega
    · exact b
  have hcell : ∃ z, jE G h cc (k + 1, n) = .inl (G.2.1 (k + 1), n, z) := by
    match k with
    | 0 => exact ⟨_, rfl⟩
    | 1 => exact ⟨_, rfl⟩
    | 2 => exact ⟨_, rfl⟩
    | k + 3 => exact ⟨_, rfl⟩
  obtain ⟨z, hz2⟩ := hcell
  rw [hz2] at hat
  refine va_alen (D := G.1) hx hb hX.2.2 (va_P1 hat) 0 t0 rfl g1 (v := Int32.ofInt (n : Int)) rfl hd ?_
  exact kk H locs cells slots lsr hW hS hz hl hn2 (jok_push (jok_pop ho) (by unfold jvok r32; omega)) hc hs
/-- the script -/
theorem js_saldZ (F : jFZ G y p s m args meth c) {i : Int} (hi : 0 ≤ i ∧ i < gD h jLEN 0) (hd : decode (pby y) pc = .ok (.iaload, 1))
    (kk : jGZ G y p l e R s m args below meth c Q hE cE sE (pc + 1) ls (.inl (gD h jSCR i.toNat) :: st) h) : jGZ G y p l e R s m args below meth c Q hE cE sE pc ls (.inl i :: .inr (.inr (some jSCR)) :: st) h := fun H locs cells slots lsr hW hS hz hl hn2 ho hc hs => by
  obtain ⟨⟨hx, hb⟩, hown, hml, hret, hlk, hin, hts, hX⟩ := F
  have hri : r32 i := jok_top ho
  obtain ⟨⟨scr, h1, h2, h3, h4, h5⟩, h6⟩ := hW.2.2.2.2.1
  have hin' : vp_in (Int32.ofInt i) (gD h jLEN 0).toNat := o32_in hi.1 (by omega) hri
  have hcl : (Int32.ofInt i).toNatClampNeg = i.toNat := o32_cl (n := (gD h jLEN 0).toNat) hi.1 (by omega) hri
  have hlt : i.toNat < (gD h jLEN 0).toNat := by omega
  show W p l e R s m args below meth c H locs cells slots Q (F0 m pc lsr (.int (Int32.ofInt i) :: .ref (jad G jSCR) :: st.map (jsv G)))
  have ea : jad G jSCR = G.2.2.1 jSCR := if_neg (by unfold jSCR; omega)
  rw [ea]
  refine W.iald (v := .int (Int32.ofInt (gD h jSCR i.toNat))) hx hb h1 h2 h3 (by rw [h4]; exact hin') (by rw [hcl]; exact h5 _ hlt) rfl rfl hd ?_
  exact kk H locs cells slots lsr hW hS hz hl hn2 (jok_push (jok_pop (jok_pop ho)) (hW.2.2.1 _ _)) hc hs
theorem js_slenZ (F : jFZ G y p s m args meth c) (hd : decode (pby y) pc = .ok (.arraylength, 1))
    (kk : jGZ G y p l e R s m args below meth c Q hE cE sE (pc + 1) ls (.inl (gD h jLEN 0) :: st) h) : jGZ G y p l e R s m args below meth c Q hE cE sE pc ls (.inr (.inr (some jSCR)) :: st) h := fun H locs cells slots lsr hW hS hz hl hn2 ho hc hs => by
  obtain ⟨⟨hx, hb⟩, hown, hml, hret, hlk, hin, hts, hX⟩ := F
  obtain ⟨⟨scr, h1, h2, h3, h4, h5⟩, h6⟩ := hW.2.2.2.2.1
  show W p l e R s m args below meth c H locs cells slots Q (F0 m pc lsr (.ref (jad G jSCR) :: st.map (jsv G)))
  have ea : jad G jSCR = G.2.2.1 jSCR := if_neg (by unfold jSCR; omega)
  rw [ea]
  refine W.alen (n := Int32.ofInt (gD h jLEN 0)) hx hb h1 h2 (by
    rw [h4]
    show Int32.ofInt (((gD h jLEN 0).toNat : Nat) : Int) = _
    rw [Int.toNat_of_nonneg h6]) rfl rfl hd ?_
  exact kk H locs cells slots lsr hW hS hz hl hn2 (jok_push (jok_pop ho) (hW.2.2.1 _ _)) hc hs
end JR

/-! STEPS THAT MAKE CELLS, references into arrays, the small calls of the JDK -/
section JA
variable {G : jg} {y : Nat} {p : Program} {l : Launch} {e : Env} {R : Room} {s : State} {m : MethodId} {args : Array Value} {below : List Frame} {meth : Method} {c : Code} {Q : State → Prop} {hE : jh} {cE sE : Nat} {pc : Nat} {ls : List (Option jv)} {st : List jv} {h : jh}
theorem js_newqZ (F : jFZ G y p s m args meth c) {k ci : Nat} (hk : pkl (poc y) k = some ci) (hci : ci < 13) (hd : decode (pby y) pc = .ok (.new k, 3)) (hR : jroom R hE cE sE) (hp : jpre (nC h (0, ci)) hE)
    (kk : jGZ G y p l e R s m args below meth c Q hE cE sE (pc + 3) ls (.inr (.inr (some h.1.length)) :: st) (nC h (0, ci))) : jGZ G y p l e R s m args below meth c Q hE cE sE pc ls st h := fun H locs cells slots lsr hW hS hz hl hn2 ho hc hs => by
  obtain ⟨⟨hx, hb⟩, hown, hml, hret, hlk, hin, hts, hX⟩ := F
  have f1 := pkl_ok hk
  rw [if_neg (by omega)] at f1
  have p1 := jpre_len hp
  have p2 := jpre_sz hp
  rw [jlen_n] at p1
  rw [jsz_n] at p2
  have hjk : jks (0, ci) = pj_N ci := if_neg (by omega)
  rw [hjk] at p2
  have hKn := hX.2.2.1 ci _ (pj_cl_atZ (by omega))
  refine W.newcK hx hb hown (hts _ f1) (hts _ (pj_new hci)) (hts _ (pj_ini (by omega))) rfl hd (by have := hR.1; omega) (by have := hR.2.1; omega) hKn.2.1 rfl fun H1 kC hkC e1 z1 o1 => ?_
  have hlen : h.1.length < 1000000 := by have := hR.2.2; omega
  have hsz := hW.1.1
  have hj : jad G h.1.length = H.size := by unfold jad; rw [if_pos hlen, hsz]
  have hat : va_at G.1 pj_clZ (G.2.2.2 + h.1.length, jE G (nC h (0, ci)) h.1.length (0, ci)) H1 := by
    refine ⟨_, pj_cl_atZ (by omega), ?_⟩
    have hb2 := u_born (o := H.size) (pj_ty ci) hts (pj_lay hci) hKn hkC e1 (fun k hk => pj_Tp hci hk)
    rw [← hsz]
    refine hb2.to fun j hj => ?_
    unfold vp_V
    rw [List.getD_eq_getElem?_getD, jE_get hj, jdef ci h.1.length j hci hj rfl]
    rfl
  have hfin := kk H1 locs (cells + 1) (slots + pj_N ci) lsr (jW_pushZ hW (0, ci) (Or.inl ⟨rfl, Or.inl hci⟩) hlen z1 o1 hat) ⟨by have := hS.1; omega, fun q h1 h2 => (o1 q (Nat.lt_of_lt_of_le h1 hS.1)).trans (hS.2.1 q h1 h2), hS.2.2⟩ hz hl hn2 (jok_push ho trivial) (by rw [jlen_n]; omega) (by rw [jsz_n, hjk]; omega)
  rw [List.map_cons, jsv_r, Option.map_some, hj] at hfin
  exact hfin
theorem js_newa0Z (F : jFZ G y p s m args meth c) {at_ : ArrayType} {t n : Nat} {x : Int} (ht : t = 1 ∨ t = 2 ∨ t = 3) (hx : 0 ≤ x ∧ x ≤ 4096) (hn : x.toNat = n) (hd : decode (pby y) pc = .ok (.newarray at_, 2)) (hR : jroom R hE cE sE) (hp : jpre (nC h (t, n)) hE)
    (hw : Cond.arrayClass (newarray.typeOf at_) ∈ pj_W) (hcb : componentBytes (newarray.typeOf at_) ≤ 8) (hty : ∃ t0 : Nat, (jtys G)[t0]? = some (G.2.1 t, newarray.typeOf at_)) (hra : ∀ cA, va_RA s cA (newarray.typeOf at_) → s.vm.findClass ("[" ++ (newarray.typeOf at_).toString) = some cA)
    (hcell : ∀ cA, vp_cell cA (match jE G (nC h (t, n)) h.1.length (t, n) with | .inl a => a.2 | .inr _ => (0, .inl fun _ => 0)) = arrV cA n (fun _ => defaultValue (newarray.typeOf at_))) (hsh : ∃ z, jE G (nC h (t, n)) h.1.length (t, n) = .inl (G.2.1 t, z))
    (kk : jGZ G y p l e R s m args below meth c Q hE cE sE (pc + 2) ls (.inr (.inr (some h.1.length)) :: st) (nC h (t, n))) : jGZ G y p l e R s m args below meth c Q hE cE sE pc ls (.inl x :: st) h := fun H locs cells slots lsr hW hS hz hl hn2 ho hc hs => by
  obtain ⟨⟨hx0, hb⟩, hown, hml, hret, hlk, hin, hts, hX⟩ := F
  have p1 := jpre_len hp
  have p2 := jpre_sz hp
  rw [jlen_n] at p1
  rw [jsz_n] at p2
  have hjk : jks (t, n) = n := by rcases ht with rfl | rfl | rfl <;> rfl
  rw [hjk] at p2
  have hrx : r32 x := jok_top ho
  have hcl : (Int32.ofInt x).toNatClampNeg = n := by rw [Int32.toNatClampNeg, o32_i hrx]; exact hn
  have hlen : h.1.length < 1000000 := by have := hR.2.2; omega
  have hsz := hW.1.1
  have hj : jad G h.1.length = H.size := by unfold jad; rw [if_pos hlen, hsz]
  obtain ⟨t0, hty⟩ := hty
  have hbyt : n * componentBytes (newarray.typeOf at_) ≤ 536870912 := Nat.le_trans (Nat.mul_le_mul (show n ≤ 4096 by omega) hcb) (by omega)
  refine va_newaK (g := F0 m pc lsr (.int (Int32.ofInt x) :: st.map (jsv G))) hx0 hb (hts _ hw) rfl hd rfl (by rw [← o32_0, o32_lt hrx r32_0]; omega) hcl hbyt (by have := hR.1; omega) (by have := hR.2.1; omega) rfl fun H1 cA e1 z1 o1 hAr hNm => ?_
  have hcA : cA = G.2.1 t := Option.some.inj (hNm.symm.trans (hra _ (hX.2.2.2 t0 _ hty).2))
  obtain ⟨z, hsh⟩ := hsh
  have hat : va_at G.1 pj_clZ (G.2.2.2 + h.1.length, jE G (nC h (t, n)) h.1.length (t, n)) H1 := by
    rw [hsh]
    rw [hsh] at hcell
    show H1[_]? = some (vp_cell _ _)
    rw [← hsz, e1, hcA]
    exact congrArg some (hcell (G.2.1 t)).symm
  have hfin := kk H1 locs (cells + 1) (slots + n) lsr (jW_pushZ hW (t, n) (Or.inr ⟨by simp only; omega, by simp only; omega⟩) hlen z1 o1 hat) ⟨by have := hS.1; omega, fun q h1 h2 => (o1 q (Nat.lt_of_lt_of_le h1 hS.1)).trans (hS.2.1 q h1 h2), hS.2.2⟩ hz hl hn2 (jok_push (jok_pop ho) trivial) (by rw [jlen_n]; omega) (by rw [jsz_n, hjk]; omega)
  rw [List.map_cons, jsv_r, Option.map_some, hj] at hfin
  exact hfin
theorem js_newIZ (F : jFZ G y p s m args meth c) {x : Int} (hx : 0 ≤ x ∧ x ≤ 4096) (hd : decode (pby y) pc = .ok (.newarray .int, 2)) (hR : jroom R hE cE sE) (hp : jpre (nC h (1, x.toNat)) hE)
    (kk : jGZ G y p l e R s m args below meth c Q hE cE sE (pc + 2) ls (.inr (.inr (some h.1.length)) :: st) (nC h (1, x.toNat))) : jGZ G y p l e R s m args below meth c Q hE cE sE pc ls (.inl x :: st) h :=
  js_newa0Z F (Or.inl rfl) hx rfl hd hR hp pj_arrs.1.1 (by decide) ⟨0, rfl⟩ (fun _ q => q) (fun cA => by show vp_cell cA (x.toNat, .inl fun i => Int32.ofInt (gD (nC h (1, x.toNat)) h.1.length i)) = _; rw [jnew_D]; rfl) ⟨_, rfl⟩ kk
theorem js_newZZ (F : jFZ G y p s m args meth c) {x : Int} (hx : 0 ≤ x ∧ x ≤ 4096) (hd : decode (pby y) pc = .ok (.newarray .boolean, 2)) (hR : jroom R hE cE sE) (hp : jpre (nC h (2, x.toNat)) hE)
    (kk : jGZ G y p l e R s m args below meth c Q hE cE sE (pc + 2) ls (.inr (.inr (some h.1.length)) :: st) (nC h (2, x.toNat))) : jGZ G y p l e R s m args below meth c Q hE cE sE pc ls (.inl x :: st) h :=
  js_newa0Z F (Or.inr (Or.inl rfl)) hx rfl hd hR hp pj_arrs.1.2.1 (by decide) ⟨1, rfl⟩ (fun _ q => q) (fun cA => by show vp_cell cA (x.toNat, .inl fun i => Int32.ofInt (gD (nC h (2, x.toNat)) h.1.length i)) = _; rw [jnew_D]; rfl) ⟨_, rfl⟩ kk
theorem js_newLZ (F : jFZ G y p s m args meth c) {x : Int} (hx : 0 ≤ x ∧ x ≤ 4096) (hd : decode (pby y) pc = .ok (.newarray .long, 2)) (hR : jroom R hE cE sE) (hp : jpre (nC h (3, x.toNat)) hE)
    (kk : jGZ G y p l e R s m args below meth c Q hE cE sE (pc + 2) ls (.inr (.inr (some h.1.length)) :: st) (nC h (3, x.toNat))) : jGZ G y p l e R s m args below meth c Q hE cE sE pc ls (.inl x :: st) h :=
  js_newa0Z F (Or.inr (Or.inr rfl)) hx rfl hd hR hp pj_arrs.1.2.2 (by decide) ⟨2, rfl⟩ (fun _ q => q) (fun cA => by show vp_cell cA (x.toNat, .inr (.inl fun i => Int64.ofInt (gL (nC h (3, x.toNat)) h.1.length i))) = _; rw [jnew_L]; rfl) ⟨_, rfl⟩ kk
theorem js_anewZ (F : jFZ G y p s m args meth c) {k ci : Nat} {x : Int} (hk : pkl (poc y) k = some ci) (hci : ci = 3 ∨ ci = 9 ∨ ci = 1) (hx : 0 ≤ x ∧ x ≤ 4096) (hd : decode (pby y) pc = .ok (.anewarray k, 3)) (hR : jroom R hE cE sE) (hp : jpre (nC h (4 + ci, x.toNat)) hE)
    (kk : jGZ G y p l e R s m args below meth c Q hE cE sE (pc + 3) ls (.inr (.inr (some h.1.length)) :: st) (nC h (4 + ci, x.toNat))) : jGZ G y p l e R s m args below meth c Q hE cE sE pc ls (.inl x :: st) h := fun H locs cells slots lsr hW hS hz hl hn2 ho hc hs => by
  obtain ⟨⟨hx0, hb⟩, hown, hml, hret, hlk, hin, hts, hX⟩ := F
  have f1 := pkl_ok hk
  rw [if_neg (by omega)] at f1
  have p1 := jpre_len hp
  have p2 := jpre_sz hp
  rw [jlen_n] at p1
  rw [jsz_n] at p2
  have hjk : jks (4 + ci, x.toNat) = x.toNat := by rcases hci with rfl | rfl | rfl <;> rfl
  rw [hjk] at p2
  have hrx : r32 x := jok_top ho
  have hcl : (Int32.ofInt x).toNatClampNeg = x.toNat := by rw [Int32.toNatClampNeg, o32_i hrx]
  have hlen : h.1.length < 1000000 := by have := hR.2.2; omega
  have hsz := hW.1.1
  have hj : jad G h.1.length = H.size := by unfold jad; rw [if_pos hlen, hsz]
  have hao : va_AO (pj_C ci) s := by
    rcases hci with rfl | rfl | rfl
    · exact hX.2.1.1
    · exact hX.2.1.2.1
    · exact hX.2.1.2.2.1
  have hko : jkok (4 + ci, x.toNat) := Or.inr ⟨by simp only; omega, by simp only; omega⟩
  obtain ⟨t0, ty, g1, -, -, -, -, g3⟩ := jty_at G hko (by omega)
  have hty := (g3 ci (by omega) (by omega)).1
  refine W.anew (g := F0 m pc lsr (.int (Int32.ofInt x) :: st.map (jsv G))) hx0 hb hown (hts _ f1) (va_AO.use hao) rfl hd rfl (by rw [← o32_0, o32_lt hrx r32_0]; omega) (by rw [hcl]; omega) (by have := hR.1; omega) (by rw [hcl]; have := hR.2.1; omega) fun cA kA comp q1 q2 q3 q4 => ?_
  have hcA : cA = G.2.1 (4 + ci) := by
    have hra := (hX.2.2.2 t0 _ g1).2
    simp only [hty] at hra
    obtain ⟨_, _, -, -, -, r4⟩ := hra
    exact Option.some.inj (q1.symm.trans r4)
  rw [hcl]
  generalize hH1 : H.push ({ cls := cA, slots := Array.replicate x.toNat .null, vm := .none } : Cell) = H1
  have z1 : H1.size = H.size + 1 := by rw [← hH1, Array.size_push]
  have e1 : H1[H.size]? = some (arrV cA x.toNat (fun _ => .null)) := by rw [← hH1, Array.getElem?_push_size, ← arrV_new]
  have o1 : ∀ q : Nat, q < H.size → H1[q]? = H[q]? := fun q hq => by rw [← hH1, Array.getElem?_push, if_neg (Nat.ne_of_lt hq)]
  have hje : jE G (nC h (4 + ci, x.toNat)) h.1.length (4 + ci, x.toNat) = .inl (G.2.1 (4 + ci), x.toNat, .inr (.inr (.inr (.inr fun i => none)))) := by
    rw [show 4 + ci = ci + 4 by omega]
    show Sum.inl _ = _
    have : (fun i => (gR (nC h (ci + 4, x.toNat)) h.1.length i).map (jad G)) = fun _ => none := by
      funext i
      have : gR (nC h (ci + 4, x.toNat)) h.1.length i = none := if_pos rfl
      rw [this]; rfl
    rw [this]
  have hat : va_at G.1 pj_clZ (G.2.2.2 + h.1.length, jE G (nC h (4 + ci, x.toNat)) h.1.length (4 + ci, x.toNat)) H1 := by
    rw [hje]
    show H1[_]? = some (vp_cell _ _)
    rw [← hsz, e1, hcA, vp_cell_q]; rfl
  have hfin := kk H1 locs (cells + 1) (slots + x.toNat) lsr (jW_pushZ hW _ hko hlen z1 o1 hat) ⟨by have := hS.1; omega, fun q h1 h2 => (o1 q (Nat.lt_of_lt_of_le h1 hS.1)).trans (hS.2.1 q h1 h2), hS.2.2⟩ hz hl hn2 (jok_push (jok_pop ho) trivial) (by rw [jlen_n]; omega) (by rw [jsz_n, hjk]; omega)
  rw [List.map_cons, jsv_r, Option.map_some, hj] at hfin
  exact hfin
end JA

/-! references into arrays, rows of rows, constants, the small calls of the JDK -/
section JM
variable {G : jg} {y : Nat} {p : Program} {l : Launch} {e : Env} {R : Room} {s : State} {m : MethodId} {args : Array Value} {below : List Frame} {meth : Method} {c : Code} {Q : State → Prop} {hE : jh} {cE sE : Nat} {pc : Nat} {ls : List (Option jv)} {st : List jv} {h : jh}
theorem js_aast0Z (F : jFZ G y p s m args meth c) {cc n k v : Nat} {i : Int} {kc : Class} {comp : ClassId} {ty : FieldType} (hk : gK h cc = some (k + 4, n)) (hi : 0 ≤ i ∧ i < n) (hv : ∃ q, gK h v = some q) (hd : decode (pby y) pc = .ok (.aastore, 1))
    (h1 : s.vm.classes[G.2.1 (k + 4)]? = some kc) (h2 : kc.kind = .array comp ty) (h3 : ty.isReference = true) (h4 : ∃ kq, s.vm.classes[comp]? = some kq) (h5 : ∀ H : Heap, jWZ G h H s → ∃ cv : Cell, H[G.2.2.2 + v]? = some cv ∧ cv.vm = .none ∧ (∃ kv, s.vm.classes[cv.cls]? = some kv) ∧ s.vm.assignable cv.cls comp = true)
    (kk : jGZ G y p l e R s m args below meth c Q hE cE sE (pc + 1) ls st (wR h cc i.toNat (some v))) : jGZ G y p l e R s m args below meth c Q hE cE sE pc ls (.inr (.inr (some v)) :: .inl i :: .inr (.inr (some cc)) :: st) h := fun H locs cells slots lsr hW hS hz hl hn2 ho hc hs => by
  obtain ⟨⟨hx, hb⟩, hown, hml, hret, hlk, hin, hts, hX⟩ := F
  obtain ⟨hko, hat⟩ := hW.2.1 cc _ hk
  have hri : r32 i := jok_top (jok_pop ho)
  obtain ⟨qv, hv⟩ := hv
  obtain ⟨cv, c1, c2, ⟨kv, c3⟩, c4⟩ := h5 H hW
  obtain ⟨kq, h4⟩ := h4
  have hcl : (Int32.ofInt i).toNatClampNeg = i.toNat := o32_cl hi.1 hi.2 hri
  show W p l e R s m args below meth c H locs cells slots Q (F0 m pc lsr (jsv G (.inr (.inr (some v))) :: jsv G (.inl i) :: jsv G (.inr (.inr (some cc))) :: st.map (jsv G)))
  rw [jrefZ hW hk, jrefZ hW hv]
  refine W.aast hx hb (show H[G.2.2.2 + cc]? = some (vp_cell (G.2.1 (k + 4)) (n, .inr (.inr (.inr (.inr fun i => (gR h cc i).map (jad G)))))) from hat) (fun q h => by cases h) (fun h => by cases h) h1 h2 h3 h4 ⟨by rw [← o32_0, o32_lt hri r32_0]; omega, by show _ < (arrV _ _ _).slots.size; rw [arrV_size, hcl]; omega⟩ c1 (fun q h => by rw [c2] at h; cases h) c3 c4 rfl rfl hd fun H1 e1 z oq => ?_
  refine kk H1 _ cells slots lsr (jW_updZ hW hk rfl (fun c' hc' => ⟨fun i => by rw [gR_w, if_neg (fun q => hc' q.1)], fun _ => rfl, fun _ => rfl⟩) z oq (hW.2.2.1 cc) (hW.2.2.2.1 cc) ?_) (hS.put z oq (by show G.2.2.2 ≤ _; omega)) hz hl hn2 (jok_pop (jok_pop (jok_pop ho))) hc hs
  show H1[_]? = some (vp_cell _ _)
  rw [e1, vp_cell_q, vp_cell_q, arrV_store]
  congr 2
  funext q
  rw [hcl]
  by_cases hq : q = i.toNat
  · subst hq
    simp only [updV, gR_w, and_self, if_true, Option.map_some, va_rf, jad_ltZ hW hv]
  · simp [updV, gR_w, hq]
theorem js_aastZ (F : jFZ G y p s m args meth c) {cc n k v : Nat} {i : Int} (hk : gK h cc = some (k + 4, n)) (hi : 0 ≤ i ∧ i < n) (hv : gK h v = some (0, k)) (hd : decode (pby y) pc = .ok (.aastore, 1))
    (kk : jGZ G y p l e R s m args below meth c Q hE cE sE (pc + 1) ls st (wR h cc i.toNat (some v))) : jGZ G y p l e R s m args below meth c Q hE cE sE pc ls (.inr (.inr (some v)) :: .inl i :: .inr (.inr (some cc)) :: st) h := fun H locs cells slots lsr hW hS hz hl hn2 ho hc hs => by
  have hX := F.2.2.2.2.2.2.2
  have hko := (hW.2.1 cc _ hk).1
  have hkv := (hW.2.1 v _ hv).1
  have hk13 : k ≠ 100 := by
    rcases hkv with ⟨-, a⟩ | ⟨a, -⟩
    · simp only at a; omega
    · simp at a
  obtain ⟨t0, ty, g1, -, -, -, -, g3⟩ := jty_at G hko (by omega)
  obtain ⟨hty, hk3⟩ := g3 k rfl hk13
  have hra := (hX.2.2.2 t0 _ g1).2
  simp only [hty] at hra
  obtain ⟨kA, comp, k1, k2, k3, -⟩ := hra
  have hcls := (hX.2.2.1 k _ (pj_cl_atZ (by omega))).2
  have hcomp : comp = G.1.1 k := Option.some.inj (k3.symm.trans hcls.1)
  subst hcomp
  obtain ⟨kC, hkC, -⟩ := hcls.2
  exact js_aast0Z F hk hi ⟨_, hv⟩ hd k1 k2 rfl ⟨_, hkC⟩ (fun H' hW' => by
    obtain ⟨r, q1, cell, q2, q3, q4, -⟩ := (hW'.2.1 v _ hv).2
    exact ⟨cell, q2, q4, ⟨kC, by rw [q3]; exact hkC⟩, by rw [q3]; exact va_assign hcls⟩) kk H locs cells slots lsr hW hS hz hl hn2 ho hc hs
/-- a row of ints into rows -/
theorem js_aastIZ (F : jFZ G y p s m args meth c) {cc n n2 v : Nat} {i : Int} (hk : gK h cc = some (104, n)) (hi : 0 ≤ i ∧ i < n) (hv : gK h v = some (1, n2)) (hd : decode (pby y) pc = .ok (.aastore, 1))
    (kk : jGZ G y p l e R s m args below meth c Q hE cE sE (pc + 1) ls st (wR h cc i.toNat (some v))) : jGZ G y p l e R s m args below meth c Q hE cE sE pc ls (.inr (.inr (some v)) :: .inl i :: .inr (.inr (some cc)) :: st) h := fun H locs cells slots lsr hW hS hz hl hn2 ho hc hs => by
  have hX := F.2.2.2.2.2.2.2
  have ra1 : s.vm.findClass ("[" ++ (FieldType.int).toString) = some (G.2.1 1) := (hX.2.2.2 0 _ rfl).2
  have ra2 : s.vm.findClass ("[" ++ (FieldType.array .int).toString) = some (G.2.1 104) := (hX.2.2.2 6 _ rfl).2
  have hA1 := (hX.2.2.2 0 _ rfl).1
  have hA2 := (hX.2.2.2 6 _ rfl).1
  obtain ⟨-, k1, hk1, c1, hkind1⟩ := hA1 0 (fun _ => .null)
  obtain ⟨-, k2, hk2, c2, hkind2⟩ := hA2 0 (fun _ => .null)
  have hao := hX.2.1.2.2.2
  have hcomp : c2 = G.2.1 1 := by
    obtain ⟨comp, cc2, kA, a1, a3, a4, a5⟩ := jover hao
    have e1 : comp = G.2.1 1 := Option.some.inj (a1.symm.trans ra1)
    have e2 : cc2 = G.2.1 104 := Option.some.inj (a5.symm.trans ra2)
    subst e2
    have e3 : kA = k2 := Option.some.inj (a3.symm.trans hk2)
    subst e3
    rw [hkind2] at a4
    cases a4
    exact e1
  subst hcomp
  refine js_aast0Z F (k := 100) hk hi ⟨_, hv⟩ hd hk2 hkind2 rfl ⟨_, hk1⟩ (fun H' hW' => ?_) kk H locs cells slots lsr hW hS hz hl hn2 ho hc hs
  refine ⟨_, (show H'[G.2.2.2 + v]? = some (vp_cell (G.2.1 1) (n2, .inl fun i => Int32.ofInt (gD h v i))) from (hW'.2.1 v _ hv).2), rfl, ⟨_, hk1⟩, ?_⟩
  show s.vm.assignable (G.2.1 1) (G.2.1 1) = true
  show s.vm.assignableAux (255 + 1) _ _ = true
  rw [Vm.assignableAux]
  simp only [beq_self_eq_true, Bool.true_or]
theorem js_ldcwZ (F : jFZ G y p s m args meth c) {k : Nat} {x : Int} (hx : r32 x) (hw : Cond.constant (pj_C (poc y)) k (Int32.ofInt x) ∈ pj_W) (hd : decode (pby y) pc = .ok (.ldc_w k, 3))
    (kk : jGZ G y p l e R s m args below meth c Q hE cE sE (pc + 3) ls (.inl x :: st) h) : jGZ G y p l e R s m args below meth c Q hE cE sE pc ls st h := fun H locs cells slots lsr hW hS hz hl hn2 ho hc hs =>
  lv_ldcw F.1.1 F.1.2 F.2.1 (F.2.2.2.2.2.2.1 _ hw) hd (kk H locs cells slots lsr hW hS hz hl hn2 (jok_push ho hx) hc hs)
theorem js_ldc2Z (F : jFZ G y p s m args meth c) {k : Nat} {x : Int} (hx : r64 x) (hw : Cond.constantLong (pj_C (poc y)) k (Int64.ofInt x) ∈ pj_W) (hd : decode (pby y) pc = .ok (.ldc2_w k, 3))
    (kk : jGZ G y p l e R s m args below meth c Q hE cE sE (pc + 3) ls (.inr (.inl x) :: st) h) : jGZ G y p l e R s m args below meth c Q hE cE sE pc ls st h := fun H locs cells slots lsr hW hS hz hl hn2 ho hc hs =>
  lv_ldc2 F.1.1 F.1.2 F.2.1 (F.2.2.2.2.2.2.1 _ hw) hd (kk H locs cells slots lsr hW hS hz hl hn2 (jok_push ho hx) hc hs)
theorem js_maxZ (F : jFZ G y p s m args meth c) {k y2 : Nat} {a b : Int} (hk : pml (poc y) k = some (10, y2)) (hw : jwt st ≤ 8) (hroom : 1 ≤ R.frames ∧ 100 ≤ R.locals) (hd : decode (pby y) pc = .ok (.invokestatic k, 3)) (hR : jroom R hE cE sE) (hp : jpre h hE)
    (kk : jGZ G y p l e R s m args below meth c Q hE cE sE (pc + 3) ls (.inl (if a < b then b else a) :: st) h) : jGZ G y p l e R s m args below meth c Q hE cE sE pc ls (.inl b :: .inl a :: st) h := fun H locs cells slots lsr hW hS hz hl hn2 ho hc hs => by
  obtain ⟨⟨hx, hb⟩, hown, hml, hret, hlk, hin, hts, hX⟩ := F
  have ra : r32 a := jok_top (jok_pop ho)
  have rb : r32 b := jok_top ho
  have p1 := jpre_len hp
  have p2 := jpre_sz hp
  refine va_mmax hx hb (by rw [hml]; exact hl.1.symm) hown (hts _ (pml_w hk rfl)) (hts _ pj_maths.1) (hts _ pj_maths.2.2.1) (hts _ pj_cmax) hroom.1 (by rw [jwt_sum]; omega) (by have := hR.1; omega) (by have := hR.2.1; omega) hd ?_
  have h9 := kk H locs cells slots lsr hW hS hz hl hn2 (jok_push (jok_pop (jok_pop ho)) (show r32 _ by split <;> assumption)) hc hs
  have e : (if Int32.ofInt a < Int32.ofInt b then Int32.ofInt b else Int32.ofInt a) = Int32.ofInt (if a < b then b else a) := by
    by_cases q : a < b
    · rw [if_pos q, if_pos ((o32_lt ra rb).mpr q)]
    · rw [if_neg q, if_neg (fun z => q ((o32_lt ra rb).mp z))]
  rw [e]
  exact h9
theorem js_minZ (F : jFZ G y p s m args meth c) {k y2 : Nat} {a b : Int} (hk : pml (poc y) k = some (11, y2)) (hw : jwt st ≤ 8) (hroom : 1 ≤ R.frames ∧ 100 ≤ R.locals) (hd : decode (pby y) pc = .ok (.invokestatic k, 3)) (hR : jroom R hE cE sE) (hp : jpre h hE)
    (kk : jGZ G y p l e R s m args below meth c Q hE cE sE (pc + 3) ls (.inl (if b < a then b else a) :: st) h) : jGZ G y p l e R s m args below meth c Q hE cE sE pc ls (.inl b :: .inl a :: st) h := fun H locs cells slots lsr hW hS hz hl hn2 ho hc hs => by
  obtain ⟨⟨hx, hb⟩, hown, hml, hret, hlk, hin, hts, hX⟩ := F
  have ra : r32 a := jok_top (jok_pop ho)
  have rb : r32 b := jok_top ho
  have p1 := jpre_len hp
  have p2 := jpre_sz hp
  refine va_mmin hx hb (by rw [hml]; exact hl.1.symm) hown (hts _ (pml_w hk rfl)) (hts _ pj_maths.2.1) (hts _ pj_maths.2.2.1) (hts _ pj_cmin) hroom.1 (by rw [jwt_sum]; omega) (by have := hR.1; omega) (by have := hR.2.1; omega) hd ?_
  have h9 := kk H locs cells slots lsr hW hS hz hl hn2 (jok_push (jok_pop (jok_pop ho)) (show r32 _ by split <;> assumption)) hc hs
  have e : (if Int32.ofInt b < Int32.ofInt a then Int32.ofInt b else Int32.ofInt a) = Int32.ofInt (if b < a then b else a) := by
    by_cases q : b < a
    · rw [if_pos q, if_pos ((o32_lt rb ra).mpr q)]
    · rw [if_neg q, if_neg (fun z => q ((o32_lt rb ra).mp z))]
  rw [e]
  exact h9
theorem js_objZ (F : jFZ G y p s m args meth c) {k y2 o : Nat} (hk : pml (poc y) k = some (15, y2)) (hw : jwt st ≤ 8) (hroom : 1 ≤ R.frames ∧ 100 ≤ R.locals) (hd : decode (pby y) pc = .ok (.invokespecial k, 3))
    (kk : jGZ G y p l e R s m args below meth c Q hE cE sE (pc + 3) ls st h) : jGZ G y p l e R s m args below meth c Q hE cE sE pc ls (.inr (.inr (some o)) :: st) h := fun H locs cells slots lsr hW hS hz hl hn2 ho hc hs => by
  obtain ⟨⟨hx, hb⟩, hown, hml, hret, hlk, hin, hts, hX⟩ := F
  refine W.objInit (g := F0 m pc lsr (.ref (jad G o) :: st.map (jsv G))) hx hb hown (hts _ (pml_w hk rfl)) (hts _ pj_maths.2.2.2) (hts _ pj_cobj) rfl (by rw [hml]; exact hl.1) rfl hd hroom.1 ?_ ?_
  · rw [jwt_sum]
    have : (F0 m pc lsr (.ref (jad G o) :: st.map (jsv G))).monitorRoom = 0 := rfl
    rw [this]; omega
  · exact kk H locs cells slots lsr hW hS hz hl hn2 (jok_pop ho) hc hs
end JM

/-! EVERY STEP -/
def jHmulZ (G : jg) : Prop := ∀ (y : Nat) (p : Program) (l : Launch) (e : Env) (R : Room) (s : State) (m : MethodId) (args : Array Value) (below : List Frame) (meth : Method) (c : Code) (Q : State → Prop) (hE : jh) (cE sE pc : Nat) (ls : List (Option jv)) (st : List jv) (h : jh) (a b : Int), jFZ G y p s m args meth c → poc y = 5 → (0 ≤ a ∧ a ≤ 4096 ∧ 0 ≤ b ∧ b ≤ 4096) → decode (pby y) pc = .ok (.multianewarray 19 2, 4) → jroom R hE cE sE →
  jpre (nRows a.toNat h.1.length 0 b.toNat (nC h (104, a.toNat))) hE → jGZ G y p l e R s m args below meth c Q hE cE sE (pc + 4) ls (.inr (.inr (some h.1.length)) :: st) (nRows a.toNat h.1.length 0 b.toNat (nC h (104, a.toNat))) → jGZ G y p l e R s m args below meth c Q hE cE sE pc ls (.inl b :: .inl a :: st) h
/-- the texts' steps: ldc, length, charAt, indexOf -/
def jHstrZ (G : jg) : Prop := ∀ (y : Nat) (p : Program) (l : Launch) (e : Env) (R : Room) (s : State) (m : MethodId) (args : Array Value) (below : List Frame) (meth : Method) (c : Code) (Q : State → Prop) (hE : jh) (cE sE pc : Nat) (ls : List (Option jv)) (st st' : List jv) (h : jh), jFZ G y p s m args meth c → (20 ≤ R.frames ∧ 5000 ≤ R.locals) → jroom R hE cE sE → jpre h hE →
  ((poc y = 4 ∧ st' = st ∧ decode (pby y) pc = .ok (.ldc 254, 2) ∧ jGZ G y p l e R s m args below meth c Q hE cE sE (pc + 2) ls (.inr (.inr (some jKEY)) :: st) h)
  ∨ (poc y = 4 ∧ st' = st ∧ decode (pby y) pc = .ok (.ldc_w 280, 3) ∧ jGZ G y p l e R s m args below meth c Q hE cE sE (pc + 3) ls (.inr (.inr (some jSIG)) :: st) h)
  ∨ (∃ k y2, jwt st ≤ 8 ∧ pml (poc y) k = some (12, y2) ∧ st' = .inr (.inr (some jKEY)) :: st ∧ decode (pby y) pc = .ok (.invokevirtual k, 3) ∧ jGZ G y p l e R s m args below meth c Q hE cE sE (pc + 3) ls (.inl 55 :: st) h)
  ∨ (∃ k y2 i, jwt st ≤ 8 ∧ pml (poc y) k = some (13, y2) ∧ st' = .inl i :: .inr (.inr (some jKEY)) :: st ∧ (0 ≤ i ∧ i < 55) ∧ decode (pby y) pc = .ok (.invokevirtual k, 3) ∧ jGZ G y p l e R s m args below meth c Q hE cE sE (pc + 3) ls (.inl (jKEYt.getD i.toNat 0) :: st) h)
  ∨ (∃ k y2 i, jwt st ≤ 8 ∧ pml (poc y) k = some (14, y2) ∧ st' = .inl i :: .inr (.inr (some jSIG)) :: st ∧ (0 ≤ i ∧ i < 65536) ∧ decode (pby y) pc = .ok (.invokevirtual k, 3) ∧ jGZ G y p l e R s m args below meth c Q hE cE sE (pc + 3) ls (.inl (if jSIGt.idxOf i < 8 then (jSIGt.idxOf i : Int) else -1) :: st) h)) →
  jGZ G y p l e R s m args below meth c Q hE cE sE pc ls st' h
section JT
variable {G : jg} {y : Nat} {p : Program} {l : Launch} {e : Env} {R : Room} {s : State} {m : MethodId} {args : Array Value} {below : List Frame} {meth : Method} {c : Code} {Q : State → Prop} {hE : jh} {cE sE : Nat} {pc len : Nat} {ls : List (Option jv)} {st : List jv} {h : jh}
variable {pc' : Nat} {ls' : List (Option jv)} {st' : List jv} {h' : jh}

theorem jt_iconstZ (F : jFZ G y p s m args meth c) {n : Int} (hx : pjx y (.iconst n) pc ls st h = some (.inl (pc', ls', st', h'))) (hd : decode (pby y) pc = .ok (.iconst n, 1)) (k : jGZ G y p l e R s m args below meth c Q hE cE sE pc' ls' st' h') : jGZ G y p l e R s m args below meth c Q hE cE sE pc ls st h := by
  replace hx : (if -128 ≤ n ∧ n < 128 then jgo (pc + 1) ls (.inl n :: st) h else none) = some (.inl (pc', ls', st', h')) := hx
  split at hx
  · rename_i hn; obtain ⟨rfl, rfl, rfl, rfl⟩ := jgo_inv hx; exact js_iconstZ F hn hd k
  · cases hx
theorem jt_bipushZ (F : jFZ G y p s m args meth c) {n : Int} (hx : pjx y (.bipush n) pc ls st h = some (.inl (pc', ls', st', h'))) (hd : decode (pby y) pc = .ok (.bipush n, 2)) (k : jGZ G y p l e R s m args below meth c Q hE cE sE pc' ls' st' h') : jGZ G y p l e R s m args below meth c Q hE cE sE pc ls st h := by
  replace hx : (if -128 ≤ n ∧ n < 128 then jgo (pc + 2) ls (.inl n :: st) h else none) = some (.inl (pc', ls', st', h')) := hx
  split at hx
  · rename_i hn; obtain ⟨rfl, rfl, rfl, rfl⟩ := jgo_inv hx; exact js_bipushZ F hn hd k
  · cases hx
theorem jt_sipushZ (F : jFZ G y p s m args meth c) {n : Int} (hx : pjx y (.sipush n) pc ls st h = some (.inl (pc', ls', st', h'))) (hd : decode (pby y) pc = .ok (.sipush n, 3)) (k : jGZ G y p l e R s m args below meth c Q hE cE sE pc' ls' st' h') : jGZ G y p l e R s m args below meth c Q hE cE sE pc ls st h := by
  replace hx : (if -32768 ≤ n ∧ n < 32768 then jgo (pc + 3) ls (.inl n :: st) h else none) = some (.inl (pc', ls', st', h')) := hx
  split at hx
  · rename_i hn; obtain ⟨rfl, rfl, rfl, rfl⟩ := jgo_inv hx; exact js_sipushZ F hn hd k
  · cases hx
theorem jt_lconstZ (F : jFZ G y p s m args meth c) {n : Fin 2} (hx : pjx y (.lconst n) pc ls st h = some (.inl (pc', ls', st', h'))) (hd : decode (pby y) pc = .ok (.lconst n, 1)) (k : jGZ G y p l e R s m args below meth c Q hE cE sE pc' ls' st' h') : jGZ G y p l e R s m args below meth c Q hE cE sE pc ls st h := by
  obtain ⟨rfl, rfl, rfl, rfl⟩ := jgo_inv (a := pc + 1) (b := ls) (d := .inr (.inl (n.val : Int)) :: st) (f := h) hx
  exact js_lconstZ F hd k
theorem jt_nullZ (F : jFZ G y p s m args meth c) (hx : pjx y (.aconst_null) pc ls st h = some (.inl (pc', ls', st', h'))) (hd : decode (pby y) pc = .ok (.aconst_null, 1)) (k : jGZ G y p l e R s m args below meth c Q hE cE sE pc' ls' st' h') : jGZ G y p l e R s m args below meth c Q hE cE sE pc ls st h := by
  obtain ⟨rfl, rfl, rfl, rfl⟩ := jgo_inv (a := pc + 1) (b := ls) (d := .inr (.inr none) :: st) (f := h) hx
  exact js_nullZ F hd k
theorem jt_iload_nZ (F : jFZ G y p s m args meth c) {n : Fin 4} (hx : pjx y (.iload_n n) pc ls st h = some (.inl (pc', ls', st', h'))) (hd : decode (pby y) pc = .ok (.iload_n n, 1)) (k : jGZ G y p l e R s m args below meth c Q hE cE sE pc' ls' st' h') : jGZ G y p l e R s m args below meth c Q hE cE sE pc ls st h := by
  obtain ⟨x, hv, rfl, rfl, rfl, rfl⟩ := jload1_inv (n := n.val) (k := 1) hx
  exact js_loadZ F (n := n.val) (len := 1) hv (fun H locs cells slots lsr hl kk => lv_iload_n F.1.1 F.1.2 hd rfl hl kk) k
theorem jt_iloadZ (F : jFZ G y p s m args meth c) {n : Nat} (hx : pjx y (.iload n) pc ls st h = some (.inl (pc', ls', st', h'))) (hd : decode (pby y) pc = .ok (.iload n, 2)) (k : jGZ G y p l e R s m args below meth c Q hE cE sE pc' ls' st' h') : jGZ G y p l e R s m args below meth c Q hE cE sE pc ls st h := by
  obtain ⟨x, hv, rfl, rfl, rfl, rfl⟩ := jload1_inv (n := n) (k := 2) hx
  exact js_loadZ F (n := n) (len := 2) hv (fun H locs cells slots lsr hl kk => lv_iload F.1.1 F.1.2 hd hl kk) k
theorem jt_lload_nZ (F : jFZ G y p s m args meth c) {n : Fin 4} (hx : pjx y (.lload_n n) pc ls st h = some (.inl (pc', ls', st', h'))) (hd : decode (pby y) pc = .ok (.lload_n n, 1)) (k : jGZ G y p l e R s m args below meth c Q hE cE sE pc' ls' st' h') : jGZ G y p l e R s m args below meth c Q hE cE sE pc ls st h := by
  obtain ⟨x, hv, rfl, rfl, rfl, rfl⟩ := jload2_inv (n := n.val) (k := 1) hx
  exact js_loadZ F (n := n.val) (len := 1) hv (fun H locs cells slots lsr hl kk => lv_lload_n F.1.1 F.1.2 hd rfl hl kk) k
theorem jt_lloadZ (F : jFZ G y p s m args meth c) {n : Nat} (hx : pjx y (.lload n) pc ls st h = some (.inl (pc', ls', st', h'))) (hd : decode (pby y) pc = .ok (.lload n, 2)) (k : jGZ G y p l e R s m args below meth c Q hE cE sE pc' ls' st' h') : jGZ G y p l e R s m args below meth c Q hE cE sE pc ls st h := by
  obtain ⟨x, hv, rfl, rfl, rfl, rfl⟩ := jload2_inv (n := n) (k := 2) hx
  exact js_loadZ F (n := n) (len := 2) hv (fun H locs cells slots lsr hl kk => lv_lload F.1.1 F.1.2 hd hl kk) k
theorem jt_aload_nZ (F : jFZ G y p s m args meth c) {n : Fin 4} (hx : pjx y (.aload_n n) pc ls st h = some (.inl (pc', ls', st', h'))) (hd : decode (pby y) pc = .ok (.aload_n n, 1)) (k : jGZ G y p l e R s m args below meth c Q hE cE sE pc' ls' st' h') : jGZ G y p l e R s m args below meth c Q hE cE sE pc ls st h := by
  obtain ⟨x, hv, rfl, rfl, rfl, rfl⟩ := jload3_inv (n := n.val) (k := 1) hx
  refine js_loadZ F (n := n.val) (len := 1) hv (fun H locs cells slots lsr hl kk => ?_) k
  cases x with
  | none => exact lv_aload_nN F.1.1 F.1.2 hd rfl hl kk
  | some x => exact lv_aload_n F.1.1 F.1.2 hd rfl hl kk
theorem jt_aloadZ (F : jFZ G y p s m args meth c) {n : Nat} (hx : pjx y (.aload n) pc ls st h = some (.inl (pc', ls', st', h'))) (hd : decode (pby y) pc = .ok (.aload n, 2)) (k : jGZ G y p l e R s m args below meth c Q hE cE sE pc' ls' st' h') : jGZ G y p l e R s m args below meth c Q hE cE sE pc ls st h := by
  obtain ⟨x, hv, rfl, rfl, rfl, rfl⟩ := jload3_inv (n := n) (k := 2) hx
  refine js_loadZ F (n := n) (len := 2) hv (fun H locs cells slots lsr hl kk => ?_) k
  cases x with
  | none => exact lv_aloadN F.1.1 F.1.2 hd hl kk
  | some x => exact lv_aload F.1.1 F.1.2 hd hl kk
theorem jt_istore_nZ (F : jFZ G y p s m args meth c) {n : Fin 4} (hx : pjx y (.istore_n n) pc ls st h = some (.inl (pc', ls', st', h'))) (hd : decode (pby y) pc = .ok (.istore_n n, 1)) (k : jGZ G y p l e R s m args below meth c Q hE cE sE pc' ls' st' h') : jGZ G y p l e R s m args below meth c Q hE cE sE pc ls st h := by
  obtain ⟨x, r, rfl, hn, rfl, rfl, rfl, rfl⟩ := jstor1_inv (n := n.val) (k := 1) hx
  exact js_storeZ F (n := n.val) (len := 1) hn (fun H locs cells slots lsr hl hn2 kk => lv_istore_n F.1.1 F.1.2 hd rfl hl hn2 rfl (fun lsr' h' => kk lsr' h')) k
theorem jt_lstore_nZ (F : jFZ G y p s m args meth c) {n : Fin 4} (hx : pjx y (.lstore_n n) pc ls st h = some (.inl (pc', ls', st', h'))) (hd : decode (pby y) pc = .ok (.lstore_n n, 1)) (k : jGZ G y p l e R s m args below meth c Q hE cE sE pc' ls' st' h') : jGZ G y p l e R s m args below meth c Q hE cE sE pc ls st h := by
  obtain ⟨x, r, rfl, hn, rfl, rfl, rfl, rfl⟩ := jstor2_inv (n := n.val) (k := 1) hx
  exact js_store2Z F (n := n.val) (len := 1) hn (fun H locs cells slots lsr hl hn2 kk => lv_lstore_n F.1.1 F.1.2 hd rfl hl hn2 rfl (fun lsr' h' => kk lsr' h')) k
theorem jt_astore_nZ (F : jFZ G y p s m args meth c) {n : Fin 4} (hx : pjx y (.astore_n n) pc ls st h = some (.inl (pc', ls', st', h'))) (hd : decode (pby y) pc = .ok (.astore_n n, 1)) (k : jGZ G y p l e R s m args below meth c Q hE cE sE pc' ls' st' h') : jGZ G y p l e R s m args below meth c Q hE cE sE pc ls st h := by
  obtain ⟨x, r, rfl, hn, rfl, rfl, rfl, rfl⟩ := jstor3_inv (n := n.val) (k := 1) hx
  refine js_storeZ F (n := n.val) (len := 1) hn (fun H locs cells slots lsr hl hn2 kk => ?_) k
  cases x with
  | none => exact lv_astore_nN F.1.1 F.1.2 hd rfl hl hn2 rfl (fun lsr' h' => kk lsr' h')
  | some x => exact lv_astore_n F.1.1 F.1.2 hd rfl hl hn2 rfl (fun lsr' h' => kk lsr' h')
theorem jt_istoreZ (F : jFZ G y p s m args meth c) {n : Nat} (hx : pjx y (.istore n) pc ls st h = some (.inl (pc', ls', st', h'))) (hd : decode (pby y) pc = .ok (.istore n, 2)) (k : jGZ G y p l e R s m args below meth c Q hE cE sE pc' ls' st' h') : jGZ G y p l e R s m args below meth c Q hE cE sE pc ls st h := by
  obtain ⟨x, r, rfl, hn, rfl, rfl, rfl, rfl⟩ := jstor1_inv (n := n) (k := 2) hx
  exact js_storeZ F (n := n) (len := 2) hn (fun H locs cells slots lsr hl hn2 kk => lv_istore F.1.1 F.1.2 hd hl hn2 rfl (fun lsr' h' => kk lsr' h')) k
theorem jt_lstoreZ (F : jFZ G y p s m args meth c) {n : Nat} (hx : pjx y (.lstore n) pc ls st h = some (.inl (pc', ls', st', h'))) (hd : decode (pby y) pc = .ok (.lstore n, 2)) (k : jGZ G y p l e R s m args below meth c Q hE cE sE pc' ls' st' h') : jGZ G y p l e R s m args below meth c Q hE cE sE pc ls st h := by
  obtain ⟨x, r, rfl, hn, rfl, rfl, rfl, rfl⟩ := jstor2_inv (n := n) (k := 2) hx
  exact js_store2Z F (n := n) (len := 2) hn (fun H locs cells slots lsr hl hn2 kk => lv_lstore F.1.1 F.1.2 hd hl hn2 rfl (fun lsr' h' => kk lsr' h')) k
theorem jt_astoreZ (F : jFZ G y p s m args meth c) {n : Nat} (hx : pjx y (.astore n) pc ls st h = some (.inl (pc', ls', st', h'))) (hd : decode (pby y) pc = .ok (.astore n, 2)) (k : jGZ G y p l e R s m args below meth c Q hE cE sE pc' ls' st' h') : jGZ G y p l e R s m args below meth c Q hE cE sE pc ls st h := by
  obtain ⟨x, r, rfl, hn, rfl, rfl, rfl, rfl⟩ := jstor3_inv (n := n) (k := 2) hx
  refine js_storeZ F (n := n) (len := 2) hn (fun H locs cells slots lsr hl hn2 kk => ?_) k
  cases x with
  | none => exact lv_astoreN F.1.1 F.1.2 hd hl hn2 rfl (fun lsr' h' => kk lsr' h')
  | some x => exact lv_astore F.1.1 F.1.2 hd hl hn2 rfl (fun lsr' h' => kk lsr' h')
theorem jt_iincZ (F : jFZ G y p s m args meth c) {n : Nat} {d : Int} (hx : pjx y (.iinc n d) pc ls st h = some (.inl (pc', ls', st', h'))) (hd : decode (pby y) pc = .ok (.iinc n d, 3)) (k : jGZ G y p l e R s m args below meth c Q hE cE sE pc' ls' st' h') : jGZ G y p l e R s m args below meth c Q hE cE sE pc ls st h := by
  replace hx : (match ls.getD n none with | some (.inl x) => jgo (pc + 3) (jst1 ls n (.inl (w32 (x + d)))) st h | _ => none) = some (.inl (pc', ls', st', h')) := hx
  split at hx
  · rename_i x hv
    obtain ⟨rfl, rfl, rfl, rfl⟩ := jgo_inv hx
    have hn : n < ls.length := by
      by_cases q : n < ls.length
      · exact q
      · rw [List.getD_eq_getElem?_getD, List.getElem?_eq_none (by omega)] at hv; cases hv
    intro H locs cells slots lsr hW hS hz hl hn2 ho hc hs
    obtain ⟨q0, hq0, hq1⟩ := List.getElem_of_mem (mem_jla.mpr ⟨_, hv, rfl⟩ : (n, jsv G (.inl x)) ∈ jla G ls)
    refine lv_iinc F.1.1 F.1.2 hd hl (k := q0) (v := Int32.ofInt (w32 (x + d))) (by rw [List.getElem?_eq_getElem hq0, hq1]; rfl) (by rw [o32_add]) (by omega) rfl (fun lsr' h' => ?_)
    exact k H locs cells slots lsr' hW hS hz (jla_st1 hn h') (by rw [jst1_len]; exact hn2) (jok_st1 hn ho (r32_w _)) hc hs
  · cases hx
theorem jt_iaddZ (F : jFZ G y p s m args meth c) (hx : pjx y (.iadd) pc ls st h = some (.inl (pc', ls', st', h'))) (hd : decode (pby y) pc = .ok (.iadd, 1)) (k : jGZ G y p l e R s m args below meth c Q hE cE sE pc' ls' st' h') : jGZ G y p l e R s m args below meth c Q hE cE sE pc ls st h := by
  obtain ⟨a, b, r, rfl, rfl, rfl, rfl, rfl⟩ := jbin_inv (f := fun a b => w32 (a + b)) hx
  exact js_binZ F (f := fun a b => w32 (a + b)) (g := fun u v => u + v) (fun ha hb => ⟨o32_add a b, r32_w _⟩) (fun H locs cells slots lsr kk => lv_iadd F.1.1 F.1.2 hd kk) k
theorem jt_isubZ (F : jFZ G y p s m args meth c) (hx : pjx y (.isub) pc ls st h = some (.inl (pc', ls', st', h'))) (hd : decode (pby y) pc = .ok (.isub, 1)) (k : jGZ G y p l e R s m args below meth c Q hE cE sE pc' ls' st' h') : jGZ G y p l e R s m args below meth c Q hE cE sE pc ls st h := by
  obtain ⟨a, b, r, rfl, rfl, rfl, rfl, rfl⟩ := jbin_inv (f := fun a b => w32 (a - b)) hx
  exact js_binZ F (f := fun a b => w32 (a - b)) (g := fun u v => u - v) (fun ha hb => ⟨o32_sub a b, r32_w _⟩) (fun H locs cells slots lsr kk => lv_isub F.1.1 F.1.2 hd kk) k
theorem jt_imulZ (F : jFZ G y p s m args meth c) (hx : pjx y (.imul) pc ls st h = some (.inl (pc', ls', st', h'))) (hd : decode (pby y) pc = .ok (.imul, 1)) (k : jGZ G y p l e R s m args below meth c Q hE cE sE pc' ls' st' h') : jGZ G y p l e R s m args below meth c Q hE cE sE pc ls st h := by
  obtain ⟨a, b, r, rfl, rfl, rfl, rfl, rfl⟩ := jbin_inv (f := fun a b => w32 (a * b)) hx
  exact js_binZ F (f := fun a b => w32 (a * b)) (g := fun u v => u * v) (fun ha hb => ⟨o32_mul a b, r32_w _⟩) (fun H locs cells slots lsr kk => lv_imul F.1.1 F.1.2 hd kk) k
theorem jt_iandZ (F : jFZ G y p s m args meth c) (hx : pjx y (.iand) pc ls st h = some (.inl (pc', ls', st', h'))) (hd : decode (pby y) pc = .ok (.iand, 1)) (k : jGZ G y p l e R s m args below meth c Q hE cE sE pc' ls' st' h') : jGZ G y p l e R s m args below meth c Q hE cE sE pc ls st h := by
  obtain ⟨a, b, r, rfl, rfl, rfl, rfl, rfl⟩ := jbin_inv (f := jand) hx
  exact js_binZ F (f := jand) (g := fun u v => u &&& v) (fun ha hb => ⟨o32_and a b, r32_w _⟩) (fun H locs cells slots lsr kk => lv_iand F.1.1 F.1.2 hd kk) k
theorem jt_iorZ (F : jFZ G y p s m args meth c) (hx : pjx y (.ior) pc ls st h = some (.inl (pc', ls', st', h'))) (hd : decode (pby y) pc = .ok (.ior, 1)) (k : jGZ G y p l e R s m args below meth c Q hE cE sE pc' ls' st' h') : jGZ G y p l e R s m args below meth c Q hE cE sE pc ls st h := by
  obtain ⟨a, b, r, rfl, rfl, rfl, rfl, rfl⟩ := jbin_inv (f := jor) hx
  exact js_binZ F (f := jor) (g := fun u v => u ||| v) (fun ha hb => ⟨o32_or a b, r32_w _⟩) (fun H locs cells slots lsr kk => lv_ior F.1.1 F.1.2 hd kk) k
theorem jt_ixorZ (F : jFZ G y p s m args meth c) (hx : pjx y (.ixor) pc ls st h = some (.inl (pc', ls', st', h'))) (hd : decode (pby y) pc = .ok (.ixor, 1)) (k : jGZ G y p l e R s m args below meth c Q hE cE sE pc' ls' st' h') : jGZ G y p l e R s m args below meth c Q hE cE sE pc ls st h := by
  obtain ⟨a, b, r, rfl, rfl, rfl, rfl, rfl⟩ := jbin_inv (f := jxor) hx
  exact js_binZ F (f := jxor) (g := fun u v => u ^^^ v) (fun ha hb => ⟨o32_xor a b, r32_w _⟩) (fun H locs cells slots lsr kk => lv_ixor F.1.1 F.1.2 hd kk) k
theorem jt_ishlZ (F : jFZ G y p s m args meth c) (hx : pjx y (.ishl) pc ls st h = some (.inl (pc', ls', st', h'))) (hd : decode (pby y) pc = .ok (.ishl, 1)) (k : jGZ G y p l e R s m args below meth c Q hE cE sE pc' ls' st' h') : jGZ G y p l e R s m args below meth c Q hE cE sE pc ls st h := by
  obtain ⟨a, b, r, rfl, rfl, rfl, rfl, rfl⟩ := jbin_inv (f := jshl) hx
  exact js_binZ F (f := jshl) (g := fun u v => u <<< (v &&& 31)) (fun ha hb => ⟨o32_shl a b, r32_w _⟩) (fun H locs cells slots lsr kk => lv_ishl F.1.1 F.1.2 hd kk) k
theorem jt_ishrZ (F : jFZ G y p s m args meth c) (hx : pjx y (.ishr) pc ls st h = some (.inl (pc', ls', st', h'))) (hd : decode (pby y) pc = .ok (.ishr, 1)) (k : jGZ G y p l e R s m args below meth c Q hE cE sE pc' ls' st' h') : jGZ G y p l e R s m args below meth c Q hE cE sE pc ls st h := by
  obtain ⟨a, b, r, rfl, rfl, rfl, rfl, rfl⟩ := jbin_inv (f := jshr) hx
  exact js_binZ F (f := jshr) (g := fun u v => u >>> (v &&& 31)) (fun ha hb => ⟨o32_shr ha b, r32_shr ha b⟩) (fun H locs cells slots lsr kk => lv_ishr F.1.1 F.1.2 hd kk) k
theorem jt_iushrZ (F : jFZ G y p s m args meth c) (hx : pjx y (.iushr) pc ls st h = some (.inl (pc', ls', st', h'))) (hd : decode (pby y) pc = .ok (.iushr, 1)) (k : jGZ G y p l e R s m args below meth c Q hE cE sE pc' ls' st' h') : jGZ G y p l e R s m args below meth c Q hE cE sE pc ls st h := by
  obtain ⟨a, b, r, rfl, rfl, rfl, rfl, rfl⟩ := jbin_inv (f := jush) hx
  exact js_binZ F (f := jush) (g := fun u v => (u.toUInt32 >>> (v.toUInt32 &&& Int32.toUInt32 31)).toInt32) (fun ha hb => ⟨(o32_ush a b).symm, r32_w _⟩) (fun H locs cells slots lsr kk => lv_iushr F.1.1 F.1.2 hd rfl kk) k
theorem jt_laddZ (F : jFZ G y p s m args meth c) (hx : pjx y (.ladd) pc ls st h = some (.inl (pc', ls', st', h'))) (hd : decode (pby y) pc = .ok (.ladd, 1)) (k : jGZ G y p l e R s m args below meth c Q hE cE sE pc' ls' st' h') : jGZ G y p l e R s m args below meth c Q hE cE sE pc ls st h := by
  obtain ⟨a, b, r, rfl, rfl, rfl, rfl, rfl⟩ := jbin2_inv (f := fun a b => w64 (a + b)) hx
  exact js_bin2Z F (f := fun a b => w64 (a + b)) (g := fun u v => u + v) (fun ha hb => ⟨o64_add a b, r64_w _⟩) (fun H locs cells slots lsr kk => lv_ladd F.1.1 F.1.2 hd kk) k
theorem jt_lsubZ (F : jFZ G y p s m args meth c) (hx : pjx y (.lsub) pc ls st h = some (.inl (pc', ls', st', h'))) (hd : decode (pby y) pc = .ok (.lsub, 1)) (k : jGZ G y p l e R s m args below meth c Q hE cE sE pc' ls' st' h') : jGZ G y p l e R s m args below meth c Q hE cE sE pc ls st h := by
  obtain ⟨a, b, r, rfl, rfl, rfl, rfl, rfl⟩ := jbin2_inv (f := fun a b => w64 (a - b)) hx
  exact js_bin2Z F (f := fun a b => w64 (a - b)) (g := fun u v => u - v) (fun ha hb => ⟨o64_sub a b, r64_w _⟩) (fun H locs cells slots lsr kk => lv_lsub F.1.1 F.1.2 hd kk) k
theorem jt_lmulZ (F : jFZ G y p s m args meth c) (hx : pjx y (.lmul) pc ls st h = some (.inl (pc', ls', st', h'))) (hd : decode (pby y) pc = .ok (.lmul, 1)) (k : jGZ G y p l e R s m args below meth c Q hE cE sE pc' ls' st' h') : jGZ G y p l e R s m args below meth c Q hE cE sE pc ls st h := by
  obtain ⟨a, b, r, rfl, rfl, rfl, rfl, rfl⟩ := jbin2_inv (f := fun a b => w64 (a * b)) hx
  exact js_bin2Z F (f := fun a b => w64 (a * b)) (g := fun u v => u * v) (fun ha hb => ⟨o64_mul a b, r64_w _⟩) (fun H locs cells slots lsr kk => lv_lmul F.1.1 F.1.2 hd kk) k
theorem jt_lorZ (F : jFZ G y p s m args meth c) (hx : pjx y (.lor) pc ls st h = some (.inl (pc', ls', st', h'))) (hd : decode (pby y) pc = .ok (.lor, 1)) (k : jGZ G y p l e R s m args below meth c Q hE cE sE pc' ls' st' h') : jGZ G y p l e R s m args below meth c Q hE cE sE pc ls st h := by
  obtain ⟨a, b, r, rfl, rfl, rfl, rfl, rfl⟩ := jbin2_inv (f := jlor) hx
  exact js_bin2Z F (f := jlor) (g := fun u v => u ||| v) (fun ha hb => ⟨o64_or a b, r64_w _⟩) (fun H locs cells slots lsr kk => lv_lor F.1.1 F.1.2 hd kk) k
theorem jt_lxorZ (F : jFZ G y p s m args meth c) (hx : pjx y (.lxor) pc ls st h = some (.inl (pc', ls', st', h'))) (hd : decode (pby y) pc = .ok (.lxor, 1)) (k : jGZ G y p l e R s m args below meth c Q hE cE sE pc' ls' st' h') : jGZ G y p l e R s m args below meth c Q hE cE sE pc ls st h := by
  obtain ⟨a, b, r, rfl, rfl, rfl, rfl, rfl⟩ := jbin2_inv (f := jlxor) hx
  exact js_bin2Z F (f := jlxor) (g := fun u v => u ^^^ v) (fun ha hb => ⟨o64_xor a b, r64_w _⟩) (fun H locs cells slots lsr kk => lv_lxor F.1.1 F.1.2 hd kk) k
theorem jt_inegZ (F : jFZ G y p s m args meth c) (hx : pjx y (.ineg) pc ls st h = some (.inl (pc', ls', st', h'))) (hd : decode (pby y) pc = .ok (.ineg, 1)) (k : jGZ G y p l e R s m args below meth c Q hE cE sE pc' ls' st' h') : jGZ G y p l e R s m args below meth c Q hE cE sE pc ls st h := by
  replace hx : (match st with | .inl a :: r => jgo (pc + 1) ls (.inl (w32 (-a)) :: r) h | _ => none) = some (.inl (pc', ls', st', h')) := hx
  split at hx
  · rename_i a r
    obtain ⟨rfl, rfl, rfl, rfl⟩ := jgo_inv hx
    refine js_stkZ (pc' := pc + 1) (st' := .inl (w32 (-a)) :: r) (fun H locs cells slots lsr ho kk => ?_) (fun ho => jok_push (jok_pop ho) (r32_w _)) k
    refine lv_ineg F.1.1 F.1.2 hd ?_
    rw [← o32_neg]
    exact kk
  · cases hx
theorem jt_idivZ (F : jFZ G y p s m args meth c) (hx : pjx y (.idiv) pc ls st h = some (.inl (pc', ls', st', h'))) (hd : decode (pby y) pc = .ok (.idiv, 1)) (k : jGZ G y p l e R s m args below meth c Q hE cE sE pc' ls' st' h') : jGZ G y p l e R s m args below meth c Q hE cE sE pc ls st h := by
  replace hx : (match st with | .inl b :: .inl a :: r => if b = 0 then none else jgo (pc + 1) ls (.inl (w32 (a.tdiv b)) :: r) h | _ => none) = some (.inl (pc', ls', st', h')) := hx
  split at hx
  · rename_i b a r
    split at hx
    · cases hx
    · rename_i hg
      obtain ⟨rfl, rfl, rfl, rfl⟩ := jgo_inv hx
      refine js_stkZ (pc' := pc + 1) (st' := .inl (w32 (a.tdiv b)) :: r) (fun H locs cells slots lsr ho kk => ?_) (fun ho => jok_push (jok_pop (jok_pop ho)) (r32_w _)) k
      refine lv_idiv F.1.1 F.1.2 hd (by rw [← o32_0, o32_eq (jok_top ho) r32_0]; exact hg) ?_
      rw [← o32_div (jok_top (jok_pop ho)) (jok_top ho)]
      exact kk
  · cases hx
theorem jt_iremZ (F : jFZ G y p s m args meth c) (hx : pjx y (.irem) pc ls st h = some (.inl (pc', ls', st', h'))) (hd : decode (pby y) pc = .ok (.irem, 1)) (k : jGZ G y p l e R s m args below meth c Q hE cE sE pc' ls' st' h') : jGZ G y p l e R s m args below meth c Q hE cE sE pc ls st h := by
  replace hx : (match st with | .inl b :: .inl a :: r => if b = 0 then none else jgo (pc + 1) ls (.inl (a.tmod b) :: r) h | _ => none) = some (.inl (pc', ls', st', h')) := hx
  split at hx
  · rename_i b a r
    split at hx
    · cases hx
    · rename_i hg
      obtain ⟨rfl, rfl, rfl, rfl⟩ := jgo_inv hx
      refine js_stkZ (pc' := pc + 1) (st' := .inl (a.tmod b) :: r) (fun H locs cells slots lsr ho kk => ?_) (fun ho => jok_push (jok_pop (jok_pop ho)) (r32_tmod (jok_top (jok_pop ho)))) k
      refine lv_irem F.1.1 F.1.2 hd (by rw [← o32_0, o32_eq (jok_top ho) r32_0]; exact hg) ?_
      rw [← o32_rem (jok_top (jok_pop ho)) (jok_top ho)]
      exact kk
  · cases hx
theorem jt_lshlZ (F : jFZ G y p s m args meth c) (hx : pjx y (.lshl) pc ls st h = some (.inl (pc', ls', st', h'))) (hd : decode (pby y) pc = .ok (.lshl, 1)) (k : jGZ G y p l e R s m args below meth c Q hE cE sE pc' ls' st' h') : jGZ G y p l e R s m args below meth c Q hE cE sE pc ls st h := by
  replace hx : (match st with | .inl b :: .inr (.inl a) :: r => jgo (pc + 1) ls (.inr (.inl (jlshl a b)) :: r) h | _ => none) = some (.inl (pc', ls', st', h')) := hx
  split at hx
  · rename_i b a r
    obtain ⟨rfl, rfl, rfl, rfl⟩ := jgo_inv hx
    refine js_stkZ (pc' := pc + 1) (st' := .inr (.inl (jlshl a b)) :: r) (fun H locs cells slots lsr ho kk => ?_) (fun ho => jok_push (jok_pop (jok_pop ho)) (r64_w _)) k
    exact lv_lshl F.1.1 F.1.2 hd (o64_shl a (jok_top ho)) kk
  · cases hx
theorem jt_lushrZ (F : jFZ G y p s m args meth c) (hx : pjx y (.lushr) pc ls st h = some (.inl (pc', ls', st', h'))) (hd : decode (pby y) pc = .ok (.lushr, 1)) (k : jGZ G y p l e R s m args below meth c Q hE cE sE pc' ls' st' h') : jGZ G y p l e R s m args below meth c Q hE cE sE pc ls st h := by
  replace hx : (match st with | .inl b :: .inr (.inl a) :: r => jgo (pc + 1) ls (.inr (.inl (jlush a b)) :: r) h | _ => none) = some (.inl (pc', ls', st', h')) := hx
  split at hx
  · rename_i b a r
    obtain ⟨rfl, rfl, rfl, rfl⟩ := jgo_inv hx
    refine js_stkZ (pc' := pc + 1) (st' := .inr (.inl (jlush a b)) :: r) (fun H locs cells slots lsr ho kk => ?_) (fun ho => jok_push (jok_pop (jok_pop ho)) (r64_w _)) k
    exact lv_lushr F.1.1 F.1.2 hd (o64_ush a (jok_top ho)) kk
  · cases hx
theorem jt_lcmpZ (F : jFZ G y p s m args meth c) (hx : pjx y (.lcmp) pc ls st h = some (.inl (pc', ls', st', h'))) (hd : decode (pby y) pc = .ok (.lcmp, 1)) (k : jGZ G y p l e R s m args below meth c Q hE cE sE pc' ls' st' h') : jGZ G y p l e R s m args below meth c Q hE cE sE pc ls st h := by
  replace hx : (match st with | .inr (.inl b) :: .inr (.inl a) :: r => jgo (pc + 1) ls (.inl (jlcmp a b) :: r) h | _ => none) = some (.inl (pc', ls', st', h')) := hx
  split at hx
  · rename_i b a r
    obtain ⟨rfl, rfl, rfl, rfl⟩ := jgo_inv hx
    refine js_stkZ (pc' := pc + 1) (st' := .inl (jlcmp a b) :: r) (fun H locs cells slots lsr ho kk => ?_) (fun ho => jok_push (jok_pop (jok_pop ho)) (show r32 _ by unfold jlcmp r32; split <;> (try split) <;> omega)) k
    refine W.lcmp F.1.1 F.1.2 hd ?_
    rw [o64_cmp (jok_top (jok_pop ho)) (jok_top ho)]
    exact kk
  · cases hx
theorem jt_i2lZ (F : jFZ G y p s m args meth c) (hx : pjx y (.i2l) pc ls st h = some (.inl (pc', ls', st', h'))) (hd : decode (pby y) pc = .ok (.i2l, 1)) (k : jGZ G y p l e R s m args below meth c Q hE cE sE pc' ls' st' h') : jGZ G y p l e R s m args below meth c Q hE cE sE pc ls st h := by
  replace hx : (match st with | .inl a :: r => jgo (pc + 1) ls (.inr (.inl a) :: r) h | _ => none) = some (.inl (pc', ls', st', h')) := hx
  split at hx
  · rename_i a r
    obtain ⟨rfl, rfl, rfl, rfl⟩ := jgo_inv hx
    refine js_stkZ (pc' := pc + 1) (st' := .inr (.inl a) :: r) (fun H locs cells slots lsr ho kk => ?_) (fun ho => jok_push (jok_pop ho) (show r64 a by have h9 : r32 a := jok_top ho; unfold r32 at h9; unfold r64; omega)) k
    exact lv_i2l F.1.1 F.1.2 hd (i2l_o (jok_top ho)) kk
  · cases hx
theorem jt_l2iZ (F : jFZ G y p s m args meth c) (hx : pjx y (.l2i) pc ls st h = some (.inl (pc', ls', st', h'))) (hd : decode (pby y) pc = .ok (.l2i, 1)) (k : jGZ G y p l e R s m args below meth c Q hE cE sE pc' ls' st' h') : jGZ G y p l e R s m args below meth c Q hE cE sE pc ls st h := by
  replace hx : (match st with | .inr (.inl a) :: r => jgo (pc + 1) ls (.inl (w32 a) :: r) h | _ => none) = some (.inl (pc', ls', st', h')) := hx
  split at hx
  · rename_i a r
    obtain ⟨rfl, rfl, rfl, rfl⟩ := jgo_inv hx
    refine js_stkZ (pc' := pc + 1) (st' := .inl (w32 a) :: r) (fun H locs cells slots lsr ho kk => ?_) (fun ho => jok_push (jok_pop ho) (r32_w _)) k
    exact lv_l2i F.1.1 F.1.2 hd (l2i_o (jok_top ho)) kk
  · cases hx
theorem jt_i2cZ (F : jFZ G y p s m args meth c) (hx : pjx y (.i2c) pc ls st h = some (.inl (pc', ls', st', h'))) (hd : decode (pby y) pc = .ok (.i2c, 1)) (k : jGZ G y p l e R s m args below meth c Q hE cE sE pc' ls' st' h') : jGZ G y p l e R s m args below meth c Q hE cE sE pc ls st h := by
  replace hx : (match st with | .inl a :: r => jgo (pc + 1) ls (.inl (a % 65536) :: r) h | _ => none) = some (.inl (pc', ls', st', h')) := hx
  split at hx
  · rename_i a r
    obtain ⟨rfl, rfl, rfl, rfl⟩ := jgo_inv hx
    refine js_stkZ (pc' := pc + 1) (st' := .inl (a % 65536) :: r) (fun H locs cells slots lsr ho kk => ?_) (fun ho => jok_push (jok_pop ho) (show r32 _ by unfold r32; omega)) k
    exact lv_i2c F.1.1 F.1.2 hd (i2c_o a) kk
  · cases hx
theorem jt_popZ (F : jFZ G y p s m args meth c) (hx : pjx y (.pop) pc ls st h = some (.inl (pc', ls', st', h'))) (hd : decode (pby y) pc = .ok (.pop, 1)) (k : jGZ G y p l e R s m args below meth c Q hE cE sE pc' ls' st' h') : jGZ G y p l e R s m args below meth c Q hE cE sE pc ls st h := by
  replace hx : (match st with | .inl _ :: r => jgo (pc + 1) ls r h | .inr (.inr _) :: r => jgo (pc + 1) ls r h | _ => none) = some (.inl (pc', ls', st', h')) := hx
  split at hx
  · rename_i a r; obtain ⟨rfl, rfl, rfl, rfl⟩ := jgo_inv hx; exact js_stkZ (pc' := pc + 1) (fun H locs cells slots lsr ho kk => lv_pop F.1.1 F.1.2 hd (va := jsv G (.inl a)) (jsv_cat G _) kk) (fun ho => jok_pop ho) k
  · rename_i a r; obtain ⟨rfl, rfl, rfl, rfl⟩ := jgo_inv hx; exact js_stkZ (pc' := pc + 1) (fun H locs cells slots lsr ho kk => lv_pop F.1.1 F.1.2 hd (va := jsv G (.inr (.inr a))) (jsv_cat G _) kk) (fun ho => jok_pop ho) k
  · cases hx
theorem jt_dupZ (F : jFZ G y p s m args meth c) (hx : pjx y (.dup) pc ls st h = some (.inl (pc', ls', st', h'))) (hd : decode (pby y) pc = .ok (.dup, 1)) (k : jGZ G y p l e R s m args below meth c Q hE cE sE pc' ls' st' h') : jGZ G y p l e R s m args below meth c Q hE cE sE pc ls st h := by
  replace hx : (match st with | .inl a :: r => jgo (pc + 1) ls (.inl a :: .inl a :: r) h | .inr (.inr a) :: r => jgo (pc + 1) ls (.inr (.inr a) :: .inr (.inr a) :: r) h | _ => none) = some (.inl (pc', ls', st', h')) := hx
  split at hx
  · rename_i a r; obtain ⟨rfl, rfl, rfl, rfl⟩ := jgo_inv hx; exact js_stkZ (pc' := pc + 1) (st' := .inl a :: .inl a :: r) (fun H locs cells slots lsr ho kk => lv_dup F.1.1 F.1.2 hd (va := jsv G (.inl a)) (jsv_cat G _) kk) (fun ho => jok_push ho (jok_top ho)) k
  · rename_i a r; obtain ⟨rfl, rfl, rfl, rfl⟩ := jgo_inv hx; exact js_stkZ (pc' := pc + 1) (st' := .inr (.inr a) :: .inr (.inr a) :: r) (fun H locs cells slots lsr ho kk => lv_dup F.1.1 F.1.2 hd (va := jsv G (.inr (.inr a))) (jsv_cat G _) kk) (fun ho => jok_push ho trivial) k
  · cases hx
theorem jt_dup2Z (F : jFZ G y p s m args meth c) (hx : pjx y (.dup2) pc ls st h = some (.inl (pc', ls', st', h'))) (hd : decode (pby y) pc = .ok (.dup2, 1)) (k : jGZ G y p l e R s m args below meth c Q hE cE sE pc' ls' st' h') : jGZ G y p l e R s m args below meth c Q hE cE sE pc ls st h := by
  replace hx : (match st with | .inl a :: .inr (.inr b) :: r => jgo (pc + 1) ls (.inl a :: .inr (.inr b) :: .inl a :: .inr (.inr b) :: r) h | _ => none) = some (.inl (pc', ls', st', h')) := hx
  split at hx
  · rename_i a b r
    obtain ⟨rfl, rfl, rfl, rfl⟩ := jgo_inv hx
    refine js_stkZ (pc' := pc + 1) (st' := .inl a :: .inr (.inr b) :: .inl a :: .inr (.inr b) :: r) (fun H locs cells slots lsr ho kk => ?_) (fun ho => jok_push (jok_push ho (jok_top (jok_pop ho))) (jok_top ho)) k
    exact lv_dup2_11 F.1.1 F.1.2 hd (va := jsv G (.inl a)) (vb := jsv G (.inr (.inr b))) (jsv_cat G _) (jsv_cat G _) kk
  · cases hx
theorem jt_if_eqZ (F : jFZ G y p s m args meth c) {off : Int} (hx : pjx y (.ifCond .eq off) pc ls st h = some (.inl (pc', ls', st', h'))) (hd : decode (pby y) pc = .ok (.ifCond .eq off, 3)) (k : jGZ G y p l e R s m args below meth c Q hE cE sE pc' ls' st' h') : jGZ G y p l e R s m args below meth c Q hE cE sE pc ls st h := by
  replace hx : (match st with | .inl a :: r => if (pc : Int) + off < 0 then none else jgo (if a = 0 then (jtgt pc off) else (pc + 3)) ls r h | _ => none) = some (.inl (pc', ls', st', h')) := hx
  split at hx
  · rename_i a r
    split at hx
    · cases hx
    · rename_i hg
      obtain ⟨rfl, rfl, rfl, rfl⟩ := jgo_inv hx
      refine js_brZ (st' := st') (fun H locs cells slots lsr ho kt kf => ?_) (fun ho => jok_pop ho) k
      exact lv_if_eq F.1.1 F.1.2 hd (jtgt_ok hg) (fun q => kt ((o32_eq (jok_top ho) r32_0).mp q)) (fun q => kf (fun z => q ((o32_eq (jok_top ho) r32_0).mpr z)))
  · cases hx
theorem jt_icmp_eqZ (F : jFZ G y p s m args meth c) {off : Int} (hx : pjx y (.if_icmp .eq off) pc ls st h = some (.inl (pc', ls', st', h'))) (hd : decode (pby y) pc = .ok (.if_icmp .eq off, 3)) (k : jGZ G y p l e R s m args below meth c Q hE cE sE pc' ls' st' h') : jGZ G y p l e R s m args below meth c Q hE cE sE pc ls st h := by
  replace hx : (match st with | .inl b :: .inl a :: r => if (pc : Int) + off < 0 then none else jgo (if a = b then (jtgt pc off) else (pc + 3)) ls r h | _ => none) = some (.inl (pc', ls', st', h')) := hx
  split at hx
  · rename_i b a r
    split at hx
    · cases hx
    · rename_i hg
      obtain ⟨rfl, rfl, rfl, rfl⟩ := jgo_inv hx
      refine js_brZ (st' := st') (fun H locs cells slots lsr ho kt kf => ?_) (fun ho => jok_pop (jok_pop ho)) k
      exact lv_icmp_eq F.1.1 F.1.2 hd (jtgt_ok hg) (fun q => kt ((o32_eq (jok_top (jok_pop ho)) (jok_top ho)).mp q)) (fun q => kf (fun z => q ((o32_eq (jok_top (jok_pop ho)) (jok_top ho)).mpr z)))
  · cases hx
theorem jt_if_neZ (F : jFZ G y p s m args meth c) {off : Int} (hx : pjx y (.ifCond .ne off) pc ls st h = some (.inl (pc', ls', st', h'))) (hd : decode (pby y) pc = .ok (.ifCond .ne off, 3)) (k : jGZ G y p l e R s m args below meth c Q hE cE sE pc' ls' st' h') : jGZ G y p l e R s m args below meth c Q hE cE sE pc ls st h := by
  replace hx : (match st with | .inl a :: r => if (pc : Int) + off < 0 then none else jgo (if a = 0 then (pc + 3) else (jtgt pc off)) ls r h | _ => none) = some (.inl (pc', ls', st', h')) := hx
  split at hx
  · rename_i a r
    split at hx
    · cases hx
    · rename_i hg
      obtain ⟨rfl, rfl, rfl, rfl⟩ := jgo_inv hx
      refine js_brZ (st' := st') (fun H locs cells slots lsr ho kt kf => ?_) (fun ho => jok_pop ho) k
      exact lv_if_ne F.1.1 F.1.2 hd (jtgt_ok hg) (fun q => kf (fun z => q ((o32_eq (jok_top ho) r32_0).mpr z))) (fun q => kt ((o32_eq (jok_top ho) r32_0).mp q))
  · cases hx
theorem jt_icmp_neZ (F : jFZ G y p s m args meth c) {off : Int} (hx : pjx y (.if_icmp .ne off) pc ls st h = some (.inl (pc', ls', st', h'))) (hd : decode (pby y) pc = .ok (.if_icmp .ne off, 3)) (k : jGZ G y p l e R s m args below meth c Q hE cE sE pc' ls' st' h') : jGZ G y p l e R s m args below meth c Q hE cE sE pc ls st h := by
  replace hx : (match st with | .inl b :: .inl a :: r => if (pc : Int) + off < 0 then none else jgo (if a = b then (pc + 3) else (jtgt pc off)) ls r h | _ => none) = some (.inl (pc', ls', st', h')) := hx
  split at hx
  · rename_i b a r
    split at hx
    · cases hx
    · rename_i hg
      obtain ⟨rfl, rfl, rfl, rfl⟩ := jgo_inv hx
      refine js_brZ (st' := st') (fun H locs cells slots lsr ho kt kf => ?_) (fun ho => jok_pop (jok_pop ho)) k
      exact lv_icmp_ne F.1.1 F.1.2 hd (jtgt_ok hg) (fun q => kf (fun z => q ((o32_eq (jok_top (jok_pop ho)) (jok_top ho)).mpr z))) (fun q => kt ((o32_eq (jok_top (jok_pop ho)) (jok_top ho)).mp q))
  · cases hx
theorem jt_if_ltZ (F : jFZ G y p s m args meth c) {off : Int} (hx : pjx y (.ifCond .lt off) pc ls st h = some (.inl (pc', ls', st', h'))) (hd : decode (pby y) pc = .ok (.ifCond .lt off, 3)) (k : jGZ G y p l e R s m args below meth c Q hE cE sE pc' ls' st' h') : jGZ G y p l e R s m args below meth c Q hE cE sE pc ls st h := by
  replace hx : (match st with | .inl a :: r => if (pc : Int) + off < 0 then none else jgo (if a < 0 then (jtgt pc off) else (pc + 3)) ls r h | _ => none) = some (.inl (pc', ls', st', h')) := hx
  split at hx
  · rename_i a r
    split at hx
    · cases hx
    · rename_i hg
      obtain ⟨rfl, rfl, rfl, rfl⟩ := jgo_inv hx
      refine js_brZ (st' := st') (fun H locs cells slots lsr ho kt kf => ?_) (fun ho => jok_pop ho) k
      exact lv_if_lt F.1.1 F.1.2 hd (jtgt_ok hg) (fun q => kt ((o32_lt (jok_top ho) r32_0).mp q)) (fun q => kf (fun z => q ((o32_lt (jok_top ho) r32_0).mpr z)))
  · cases hx
theorem jt_icmp_ltZ (F : jFZ G y p s m args meth c) {off : Int} (hx : pjx y (.if_icmp .lt off) pc ls st h = some (.inl (pc', ls', st', h'))) (hd : decode (pby y) pc = .ok (.if_icmp .lt off, 3)) (k : jGZ G y p l e R s m args below meth c Q hE cE sE pc' ls' st' h') : jGZ G y p l e R s m args below meth c Q hE cE sE pc ls st h := by
  replace hx : (match st with | .inl b :: .inl a :: r => if (pc : Int) + off < 0 then none else jgo (if a < b then (jtgt pc off) else (pc + 3)) ls r h | _ => none) = some (.inl (pc', ls', st', h')) := hx
  split at hx
  · rename_i b a r
    split at hx
    · cases hx
    · rename_i hg
      obtain ⟨rfl, rfl, rfl, rfl⟩ := jgo_inv hx
      refine js_brZ (st' := st') (fun H locs cells slots lsr ho kt kf => ?_) (fun ho => jok_pop (jok_pop ho)) k
      exact lv_icmp_lt F.1.1 F.1.2 hd (jtgt_ok hg) (fun q => kt ((o32_lt (jok_top (jok_pop ho)) (jok_top ho)).mp q)) (fun q => kf (fun z => q ((o32_lt (jok_top (jok_pop ho)) (jok_top ho)).mpr z)))
  · cases hx
theorem jt_if_geZ (F : jFZ G y p s m args meth c) {off : Int} (hx : pjx y (.ifCond .ge off) pc ls st h = some (.inl (pc', ls', st', h'))) (hd : decode (pby y) pc = .ok (.ifCond .ge off, 3)) (k : jGZ G y p l e R s m args below meth c Q hE cE sE pc' ls' st' h') : jGZ G y p l e R s m args below meth c Q hE cE sE pc ls st h := by
  replace hx : (match st with | .inl a :: r => if (pc : Int) + off < 0 then none else jgo (if a < 0 then (pc + 3) else (jtgt pc off)) ls r h | _ => none) = some (.inl (pc', ls', st', h')) := hx
  split at hx
  · rename_i a r
    split at hx
    · cases hx
    · rename_i hg
      obtain ⟨rfl, rfl, rfl, rfl⟩ := jgo_inv hx
      refine js_brZ (st' := st') (fun H locs cells slots lsr ho kt kf => ?_) (fun ho => jok_pop ho) k
      exact lv_if_ge F.1.1 F.1.2 hd (jtgt_ok hg) (fun q => kf (by have := (o32_le r32_0 (jok_top ho)).mp q; omega)) (fun q => kt (Classical.byContradiction fun z => q ((o32_le r32_0 (jok_top ho)).mpr (by omega))))
  · cases hx
theorem jt_icmp_geZ (F : jFZ G y p s m args meth c) {off : Int} (hx : pjx y (.if_icmp .ge off) pc ls st h = some (.inl (pc', ls', st', h'))) (hd : decode (pby y) pc = .ok (.if_icmp .ge off, 3)) (k : jGZ G y p l e R s m args below meth c Q hE cE sE pc' ls' st' h') : jGZ G y p l e R s m args below meth c Q hE cE sE pc ls st h := by
  replace hx : (match st with | .inl b :: .inl a :: r => if (pc : Int) + off < 0 then none else jgo (if a < b then (pc + 3) else (jtgt pc off)) ls r h | _ => none) = some (.inl (pc', ls', st', h')) := hx
  split at hx
  · rename_i b a r
    split at hx
    · cases hx
    · rename_i hg
      obtain ⟨rfl, rfl, rfl, rfl⟩ := jgo_inv hx
      refine js_brZ (st' := st') (fun H locs cells slots lsr ho kt kf => ?_) (fun ho => jok_pop (jok_pop ho)) k
      exact lv_icmp_ge F.1.1 F.1.2 hd (jtgt_ok hg) (fun q => kf (by have := (o32_le (jok_top ho) (jok_top (jok_pop ho))).mp q; omega)) (fun q => kt (Classical.byContradiction fun z => q ((o32_le (jok_top ho) (jok_top (jok_pop ho))).mpr (by omega))))
  · cases hx
theorem jt_if_gtZ (F : jFZ G y p s m args meth c) {off : Int} (hx : pjx y (.ifCond .gt off) pc ls st h = some (.inl (pc', ls', st', h'))) (hd : decode (pby y) pc = .ok (.ifCond .gt off, 3)) (k : jGZ G y p l e R s m args below meth c Q hE cE sE pc' ls' st' h') : jGZ G y p l e R s m args below meth c Q hE cE sE pc ls st h := by
  replace hx : (match st with | .inl a :: r => if (pc : Int) + off < 0 then none else jgo (if 0 < a then (jtgt pc off) else (pc + 3)) ls r h | _ => none) = some (.inl (pc', ls', st', h')) := hx
  split at hx
  · rename_i a r
    split at hx
    · cases hx
    · rename_i hg
      obtain ⟨rfl, rfl, rfl, rfl⟩ := jgo_inv hx
      refine js_brZ (st' := st') (fun H locs cells slots lsr ho kt kf => ?_) (fun ho => jok_pop ho) k
      exact lv_if_gt F.1.1 F.1.2 hd (jtgt_ok hg) (fun q => kt ((o32_lt r32_0 (jok_top ho)).mp q)) (fun q => kf (fun z => q ((o32_lt r32_0 (jok_top ho)).mpr z)))
  · cases hx
theorem jt_icmp_gtZ (F : jFZ G y p s m args meth c) {off : Int} (hx : pjx y (.if_icmp .gt off) pc ls st h = some (.inl (pc', ls', st', h'))) (hd : decode (pby y) pc = .ok (.if_icmp .gt off, 3)) (k : jGZ G y p l e R s m args below meth c Q hE cE sE pc' ls' st' h') : jGZ G y p l e R s m args below meth c Q hE cE sE pc ls st h := by
  replace hx : (match st with | .inl b :: .inl a :: r => if (pc : Int) + off < 0 then none else jgo (if b < a then (jtgt pc off) else (pc + 3)) ls r h | _ => none) = some (.inl (pc', ls', st', h')) := hx
  split at hx
  · rename_i b a r
    split at hx
    · cases hx
    · rename_i hg
      obtain ⟨rfl, rfl, rfl, rfl⟩ := jgo_inv hx
      refine js_brZ (st' := st') (fun H locs cells slots lsr ho kt kf => ?_) (fun ho => jok_pop (jok_pop ho)) k
      exact lv_icmp_gt F.1.1 F.1.2 hd (jtgt_ok hg) (fun q => kt ((o32_lt (jok_top ho) (jok_top (jok_pop ho))).mp q)) (fun q => kf (fun z => q ((o32_lt (jok_top ho) (jok_top (jok_pop ho))).mpr z)))
  · cases hx
theorem jt_if_leZ (F : jFZ G y p s m args meth c) {off : Int} (hx : pjx y (.ifCond .le off) pc ls st h = some (.inl (pc', ls', st', h'))) (hd : decode (pby y) pc = .ok (.ifCond .le off, 3)) (k : jGZ G y p l e R s m args below meth c Q hE cE sE pc' ls' st' h') : jGZ G y p l e R s m args below meth c Q hE cE sE pc ls st h := by
  replace hx : (match st with | .inl a :: r => if (pc : Int) + off < 0 then none else jgo (if 0 < a then (pc + 3) else (jtgt pc off)) ls r h | _ => none) = some (.inl (pc', ls', st', h')) := hx
  split at hx
  · rename_i a r
    split at hx
    · cases hx
    · rename_i hg
      obtain ⟨rfl, rfl, rfl, rfl⟩ := jgo_inv hx
      refine js_brZ (st' := st') (fun H locs cells slots lsr ho kt kf => ?_) (fun ho => jok_pop ho) k
      exact lv_if_le F.1.1 F.1.2 hd (jtgt_ok hg) (fun q => kf (by have := (o32_le (jok_top ho) r32_0).mp q; omega)) (fun q => kt (Classical.byContradiction fun z => q ((o32_le (jok_top ho) r32_0).mpr (by omega))))
  · cases hx
theorem jt_icmp_leZ (F : jFZ G y p s m args meth c) {off : Int} (hx : pjx y (.if_icmp .le off) pc ls st h = some (.inl (pc', ls', st', h'))) (hd : decode (pby y) pc = .ok (.if_icmp .le off, 3)) (k : jGZ G y p l e R s m args below meth c Q hE cE sE pc' ls' st' h') : jGZ G y p l e R s m args below meth c Q hE cE sE pc ls st h := by
  replace hx : (match st with | .inl b :: .inl a :: r => if (pc : Int) + off < 0 then none else jgo (if b < a then (pc + 3) else (jtgt pc off)) ls r h | _ => none) = some (.inl (pc', ls', st', h')) := hx
  split at hx
  · rename_i b a r
    split at hx
    · cases hx
    · rename_i hg
      obtain ⟨rfl, rfl, rfl, rfl⟩ := jgo_inv hx
      refine js_brZ (st' := st') (fun H locs cells slots lsr ho kt kf => ?_) (fun ho => jok_pop (jok_pop ho)) k
      exact lv_icmp_le F.1.1 F.1.2 hd (jtgt_ok hg) (fun q => kf (by have := (o32_le (jok_top (jok_pop ho)) (jok_top ho)).mp q; omega)) (fun q => kt (Classical.byContradiction fun z => q ((o32_le (jok_top (jok_pop ho)) (jok_top ho)).mpr (by omega))))
  · cases hx
theorem jt_ifnullZ (F : jFZ G y p s m args meth c) {off : Int} (hx : pjx y (.ifnull off) pc ls st h = some (.inl (pc', ls', st', h'))) (hd : decode (pby y) pc = .ok (.ifnull off, 3)) (k : jGZ G y p l e R s m args below meth c Q hE cE sE pc' ls' st' h') : jGZ G y p l e R s m args below meth c Q hE cE sE pc ls st h := by
  replace hx : (match st with | .inr (.inr none) :: r => if (pc : Int) + off < 0 then none else jgo (jtgt pc off) ls r h | .inr (.inr (some _)) :: r => jgo (pc + 3) ls r h | _ => none) = some (.inl (pc', ls', st', h')) := hx
  split at hx
  · rename_i r; split at hx
    · cases hx
    · rename_i hg; obtain ⟨rfl, rfl, rfl, rfl⟩ := jgo_inv hx; exact js_stkZ (pc' := jtgt pc off) (fun H locs cells slots lsr ho kk => lv_ifnullN F.1.1 F.1.2 hd (jtgt_ok hg) kk) (fun ho => jok_pop ho) k
  · rename_i v r; obtain ⟨rfl, rfl, rfl, rfl⟩ := jgo_inv hx; exact js_stkZ (pc' := pc + 3) (fun H locs cells slots lsr ho kk => lv_ifnull F.1.1 F.1.2 hd kk) (fun ho => jok_pop ho) k
  · cases hx
theorem jt_ifnonnullZ (F : jFZ G y p s m args meth c) {off : Int} (hx : pjx y (.ifnonnull off) pc ls st h = some (.inl (pc', ls', st', h'))) (hd : decode (pby y) pc = .ok (.ifnonnull off, 3)) (k : jGZ G y p l e R s m args below meth c Q hE cE sE pc' ls' st' h') : jGZ G y p l e R s m args below meth c Q hE cE sE pc ls st h := by
  replace hx : (match st with | .inr (.inr none) :: r => jgo (pc + 3) ls r h | .inr (.inr (some _)) :: r => if (pc : Int) + off < 0 then none else jgo (jtgt pc off) ls r h | _ => none) = some (.inl (pc', ls', st', h')) := hx
  split at hx
  · rename_i r; obtain ⟨rfl, rfl, rfl, rfl⟩ := jgo_inv hx; exact js_stkZ (pc' := pc + 3) (fun H locs cells slots lsr ho kk => lv_ifnonnullN F.1.1 F.1.2 hd kk) (fun ho => jok_pop ho) k
  · rename_i v r; split at hx
    · cases hx
    · rename_i hg; obtain ⟨rfl, rfl, rfl, rfl⟩ := jgo_inv hx; exact js_stkZ (pc' := jtgt pc off) (fun H locs cells slots lsr ho kk => lv_ifnonnull F.1.1 F.1.2 hd (jtgt_ok hg) kk) (fun ho => jok_pop ho) k
  · cases hx
theorem jt_gotoZ (F : jFZ G y p s m args meth c) {off : Int} (hx : pjx y (.goto off) pc ls st h = some (.inl (pc', ls', st', h'))) (hd : decode (pby y) pc = .ok (.goto off, 3)) (k : jGZ G y p l e R s m args below meth c Q hE cE sE pc' ls' st' h') : jGZ G y p l e R s m args below meth c Q hE cE sE pc ls st h := by
  replace hx : (if (pc : Int) + off < 0 then none else jgo (jtgt pc off) ls st h) = some (.inl (pc', ls', st', h')) := hx
  split at hx
  · cases hx
  · rename_i hg; obtain ⟨rfl, rfl, rfl, rfl⟩ := jgo_inv hx; exact js_stkZ (pc' := jtgt pc off) (fun H locs cells slots lsr ho kk => lv_goto F.1.1 F.1.2 hd (jtgt_ok hg) kk) (fun ho => ho) k
end JT

/-! EVERY STEP, the heap's -/
section JT
variable {G : jg} {y : Nat} {p : Program} {l : Launch} {e : Env} {R : Room} {s : State} {m : MethodId} {args : Array Value} {below : List Frame} {meth : Method} {c : Code} {Q : State → Prop} {hE : jh} {cE sE : Nat} {pc len : Nat} {ls : List (Option jv)} {st : List jv} {h : jh}
variable {pc' : Nat} {ls' : List (Option jv)} {st' : List jv} {h' : jh}

theorem jt_tableZ (F : jFZ G y p s m args meth c) {d lo hi : Int} {offs : Array Int} (hx : pjx y (.tableswitch d lo hi offs) pc ls st h = some (.inl (pc', ls', st', h'))) (hd : decode (pby y) pc = .ok (.tableswitch d lo hi offs, len)) (k : jGZ G y p l e R s m args below meth c Q hE cE sE pc' ls' st' h') : jGZ G y p l e R s m args below meth c Q hE cE sE pc ls st h := by
  replace hx : (match st with | .inl x :: r => if (pc : Int) + d < 0 then none else if x < lo then jgo (jtgt pc d) ls r h else if hi < x then jgo (jtgt pc d) ls r h else (match offs.toList[(x - lo).toNat]? with | some off => if (pc : Int) + off < 0 then none else jgo (jtgt pc off) ls r h | none => none) | _ => none) = some (.inl (pc', ls', st', h')) := hx
  split at hx
  · rename_i x r
    split at hx
    · cases hx
    rename_i hg
    split at hx
    · rename_i hlo
      obtain ⟨rfl, rfl, rfl, rfl⟩ := jgo_inv hx
      exact js_stkZ (pc' := jtgt pc d) (fun H locs cells slots lsr ho kk => lv_tableOut F.1.1 F.1.2 hd (Or.inl (by rw [o32_i (jok_top ho)]; exact hlo)) (jtgt_ok hg) kk) (fun ho => jok_pop ho) k
    rename_i hlo
    split at hx
    · rename_i hhi
      obtain ⟨rfl, rfl, rfl, rfl⟩ := jgo_inv hx
      exact js_stkZ (pc' := jtgt pc d) (fun H locs cells slots lsr ho kk => lv_tableOut F.1.1 F.1.2 hd (Or.inr (by rw [o32_i (jok_top ho)]; exact hhi)) (jtgt_ok hg) kk) (fun ho => jok_pop ho) k
    rename_i hhi
    split at hx
    · rename_i off ho2
      split at hx
      · cases hx
      rename_i hg2
      obtain ⟨rfl, rfl, rfl, rfl⟩ := jgo_inv hx
      exact js_stkZ (pc' := jtgt pc off) (fun H locs cells slots lsr ho kk => lv_tableIn F.1.1 F.1.2 hd (by rw [o32_i (jok_top ho)]; exact hlo) (by rw [o32_i (jok_top ho)]; exact hhi) (by rw [o32_i (jok_top ho), ← Array.getElem?_toList]; exact ho2) (jtgt_ok hg2) kk) (fun ho => jok_pop ho) k
    · cases hx
  · cases hx
theorem jt_getfieldZ (F : jFZ G y p s m args meth c) {n : Nat} (hx : pjx y (.getfield n) pc ls st h = some (.inl (pc', ls', st', h'))) (hd : decode (pby y) pc = .ok (.getfield n, 3)) (k : jGZ G y p l e R s m args below meth c Q hE cE sE pc' ls' st' h') : jGZ G y p l e R s m args below meth c Q hE cE sE pc ls st h := by
  replace hx : (match st with | .inr (.inr (some cc)) :: r => (match pfl (poc y) n with | some (ci, j) => if gK h cc = some (0, ci) then jgo (pc + 3) ls (jfv h ci cc j :: r) h else none | none => none) | _ => none) = some (.inl (pc', ls', st', h')) := hx
  split at hx
  · rename_i cc r; split at hx
    · rename_i ci j hf; split at hx
      · rename_i hk; obtain ⟨rfl, rfl, rfl, rfl⟩ := jgo_inv hx; exact js_getfieldZ F hk hf hd k
      · cases hx
    · cases hx
  · cases hx
theorem jt_putfieldZ (F : jFZ G y p s m args meth c) {n : Nat} (hx : pjx y (.putfield n) pc ls st h = some (.inl (pc', ls', st', h'))) (hd : decode (pby y) pc = .ok (.putfield n, 3)) (k : jGZ G y p l e R s m args below meth c Q hE cE sE pc' ls' st' h') : jGZ G y p l e R s m args below meth c Q hE cE sE pc ls st h := by
  replace hx : (match pfl (poc y) n with
    | some (ci, j) => if pfin ci j = true ∧ ¬ (pin y = 1 ∧ poc y = ci) then none else match st with
      | .inl x :: .inr (.inr (some c)) :: r => if gK h c = some (0, ci) then (match pj_ft ci j with
        | 0 => jgo (pc + 3) ls r (wD h c j x)
        | 1 => if x = 0 ∨ x = 1 then jgo (pc + 3) ls r (wD h c j x) else none
        | _ => none) else none
      | .inr (.inl x) :: .inr (.inr (some c)) :: r => if gK h c = some (0, ci) then (if pj_ft ci j = 2 then jgo (pc + 3) ls r (wL h c j x) else none) else none
      | .inr (.inr x) :: .inr (.inr (some c)) :: r => if gK h c = some (0, ci) then (if pj_ft ci j = 3 then jgo (pc + 3) ls r (wR h c j x) else none) else none
      | _ => none
    | none => none) = some (.inl (pc', ls', st', h')) := hx
  split at hx
  · rename_i ci j hf
    split at hx
    · cases hx
    rename_i hfin
    split at hx
    · rename_i x cc r; split at hx
      · rename_i hk; split at hx
        · rename_i ht; obtain ⟨rfl, rfl, rfl, rfl⟩ := jgo_inv hx; exact js_putIZ F hk hf hfin (Or.inl ht) hd k
        · rename_i ht; split at hx
          · rename_i hx1; obtain ⟨rfl, rfl, rfl, rfl⟩ := jgo_inv hx; exact js_putIZ F hk hf hfin (Or.inr ⟨ht, hx1⟩) hd k
          · cases hx
        · cases hx
      · cases hx
    · rename_i x cc r; split at hx
      · rename_i hk; split at hx
        · rename_i ht; obtain ⟨rfl, rfl, rfl, rfl⟩ := jgo_inv hx; exact js_putLZ F hk hf hfin ht hd k
        · cases hx
      · cases hx
    · rename_i x cc r; split at hx
      · rename_i hk; split at hx
        · rename_i ht; obtain ⟨rfl, rfl, rfl, rfl⟩ := jgo_inv hx; exact js_putRZ F hk hf hfin ht hd k
        · cases hx
      · cases hx
    · cases hx
  · cases hx
theorem jt_ialoadZ (F : jFZ G y p s m args meth c) (hx : pjx y (.iaload) pc ls st h = some (.inl (pc', ls', st', h'))) (hd : decode (pby y) pc = .ok (.iaload, 1)) (k : jGZ G y p l e R s m args below meth c Q hE cE sE pc' ls' st' h') : jGZ G y p l e R s m args below meth c Q hE cE sE pc ls st h := by
  replace hx : (match st with | .inl i :: .inr (.inr (some c)) :: r => (match gK h c with | some (1, n) => if 0 ≤ i ∧ i < n then jgo (pc + 1) ls (.inl (gD h c i.toNat) :: r) h else none | some _ => none | none => if c = jSCR then (if 0 ≤ i ∧ i < gD h jLEN 0 then jgo (pc + 1) ls (.inl (gD h jSCR i.toNat) :: r) h else none) else none) | _ => none) = some (.inl (pc', ls', st', h')) := hx
  split at hx
  · rename_i i cc r
    split at hx
    · rename_i n hk; split at hx
      · rename_i hi; obtain ⟨rfl, rfl, rfl, rfl⟩ := jgo_inv hx; exact js_ialdZ F hk hi hd k
      · cases hx
    · cases hx
    · split at hx
      · rename_i hcc; subst hcc; split at hx
        · rename_i hi; obtain ⟨rfl, rfl, rfl, rfl⟩ := jgo_inv hx; exact js_saldZ F hi hd k
        · cases hx
      · cases hx
  · cases hx
theorem jt_baloadZ (F : jFZ G y p s m args meth c) (hx : pjx y (.baload) pc ls st h = some (.inl (pc', ls', st', h'))) (hd : decode (pby y) pc = .ok (.baload, 1)) (k : jGZ G y p l e R s m args below meth c Q hE cE sE pc' ls' st' h') : jGZ G y p l e R s m args below meth c Q hE cE sE pc ls st h := by
  replace hx : (match st with | .inl i :: .inr (.inr (some c)) :: r => (match gK h c with | some (2, n) => if 0 ≤ i ∧ i < n then jgo (pc + 1) ls (.inl (gD h c i.toNat) :: r) h else none | _ => none) | _ => none) = some (.inl (pc', ls', st', h')) := hx
  split at hx
  · rename_i i cc r; split at hx
    · rename_i n hk; split at hx
      · rename_i hi; obtain ⟨rfl, rfl, rfl, rfl⟩ := jgo_inv hx; exact js_baldZ F hk hi hd k
      · cases hx
    · cases hx
  · cases hx
theorem jt_laloadZ (F : jFZ G y p s m args meth c) (hx : pjx y (.laload) pc ls st h = some (.inl (pc', ls', st', h'))) (hd : decode (pby y) pc = .ok (.laload, 1)) (k : jGZ G y p l e R s m args below meth c Q hE cE sE pc' ls' st' h') : jGZ G y p l e R s m args below meth c Q hE cE sE pc ls st h := by
  replace hx : (match st with | .inl i :: .inr (.inr (some c)) :: r => (match gK h c with | some (3, n) => if 0 ≤ i ∧ i < n then jgo (pc + 1) ls (.inr (.inl (gL h c i.toNat)) :: r) h else none | _ => none) | _ => none) = some (.inl (pc', ls', st', h')) := hx
  split at hx
  · rename_i i cc r; split at hx
    · rename_i n hk; split at hx
      · rename_i hi; obtain ⟨rfl, rfl, rfl, rfl⟩ := jgo_inv hx; exact js_laldZ F hk hi hd k
      · cases hx
    · cases hx
  · cases hx
theorem jt_aaloadZ (F : jFZ G y p s m args meth c) (hx : pjx y (.aaload) pc ls st h = some (.inl (pc', ls', st', h'))) (hd : decode (pby y) pc = .ok (.aaload, 1)) (k : jGZ G y p l e R s m args below meth c Q hE cE sE pc' ls' st' h') : jGZ G y p l e R s m args below meth c Q hE cE sE pc ls st h := by
  replace hx : (match st with | .inl i :: .inr (.inr (some c)) :: r => (match gK h c with | some (k + 4, n) => if 0 ≤ i ∧ i < n then jgo (pc + 1) ls (.inr (.inr (gR h c i.toNat)) :: r) h else none | _ => none) | _ => none) = some (.inl (pc', ls', st', h')) := hx
  split at hx
  · rename_i i cc r; split at hx
    · rename_i kk n hk; split at hx
      · rename_i hi; obtain ⟨rfl, rfl, rfl, rfl⟩ := jgo_inv hx; exact js_aaldZ F hk hi hd k
      · cases hx
    · cases hx
  · cases hx
theorem jt_iastoreZ (F : jFZ G y p s m args meth c) (hx : pjx y (.iastore) pc ls st h = some (.inl (pc', ls', st', h'))) (hd : decode (pby y) pc = .ok (.iastore, 1)) (k : jGZ G y p l e R s m args below meth c Q hE cE sE pc' ls' st' h') : jGZ G y p l e R s m args below meth c Q hE cE sE pc ls st h := by
  replace hx : (match st with | .inl x :: .inl i :: .inr (.inr (some c)) :: r => (match gK h c with | some (1, n) => if 0 ≤ i ∧ i < n then jgo (pc + 1) ls r (wD h c i.toNat x) else none | _ => none) | _ => none) = some (.inl (pc', ls', st', h')) := hx
  split at hx
  · rename_i x i cc r; split at hx
    · rename_i n hk; split at hx
      · rename_i hi; obtain ⟨rfl, rfl, rfl, rfl⟩ := jgo_inv hx; exact js_iastZ F hk hi hd k
      · cases hx
    · cases hx
  · cases hx
theorem jt_bastoreZ (F : jFZ G y p s m args meth c) (hx : pjx y (.bastore) pc ls st h = some (.inl (pc', ls', st', h'))) (hd : decode (pby y) pc = .ok (.bastore, 1)) (k : jGZ G y p l e R s m args below meth c Q hE cE sE pc' ls' st' h') : jGZ G y p l e R s m args below meth c Q hE cE sE pc ls st h := by
  replace hx : (match st with | .inl x :: .inl i :: .inr (.inr (some c)) :: r => (match gK h c with | some (2, n) => if 0 ≤ i ∧ i < n then (if x = 0 ∨ x = 1 then jgo (pc + 1) ls r (wD h c i.toNat x) else none) else none | _ => none) | _ => none) = some (.inl (pc', ls', st', h')) := hx
  split at hx
  · rename_i x i cc r; split at hx
    · rename_i n hk; split at hx
      · rename_i hi; split at hx
        · rename_i h01; obtain ⟨rfl, rfl, rfl, rfl⟩ := jgo_inv hx; exact js_bastZ F hk hi h01 hd k
        · cases hx
      · cases hx
    · cases hx
  · cases hx
theorem jt_lastoreZ (F : jFZ G y p s m args meth c) (hx : pjx y (.lastore) pc ls st h = some (.inl (pc', ls', st', h'))) (hd : decode (pby y) pc = .ok (.lastore, 1)) (k : jGZ G y p l e R s m args below meth c Q hE cE sE pc' ls' st' h') : jGZ G y p l e R s m args below meth c Q hE cE sE pc ls st h := by
  replace hx : (match st with | .inr (.inl x) :: .inl i :: .inr (.inr (some c)) :: r => (match gK h c with | some (3, n) => if 0 ≤ i ∧ i < n then jgo (pc + 1) ls r (wL h c i.toNat x) else none | _ => none) | _ => none) = some (.inl (pc', ls', st', h')) := hx
  split at hx
  · rename_i x i cc r; split at hx
    · rename_i n hk; split at hx
      · rename_i hi; obtain ⟨rfl, rfl, rfl, rfl⟩ := jgo_inv hx; exact js_lastZ F hk hi hd k
      · cases hx
    · cases hx
  · cases hx
theorem jt_aastoreZ (F : jFZ G y p s m args meth c) (hx : pjx y (.aastore) pc ls st h = some (.inl (pc', ls', st', h'))) (hd : decode (pby y) pc = .ok (.aastore, 1)) (k : jGZ G y p l e R s m args below meth c Q hE cE sE pc' ls' st' h') : jGZ G y p l e R s m args below meth c Q hE cE sE pc ls st h := by
  replace hx : (match st with | .inr (.inr (some v)) :: .inl i :: .inr (.inr (some c)) :: r => (match gK h c with | some (k + 4, n) => if 0 ≤ i ∧ i < n then (match gK h v with | some (0, ci) => if ci = k then jgo (pc + 1) ls r (wR h c i.toNat (some v)) else none | some (1, _) => if k = 100 then jgo (pc + 1) ls r (wR h c i.toNat (some v)) else none | _ => none) else none | _ => none) | _ => none) = some (.inl (pc', ls', st', h')) := hx
  split at hx
  · rename_i v i cc r; split at hx
    · rename_i k0 n hk; split at hx
      · rename_i hi; split at hx
        · rename_i ci hv; split at hx
          · rename_i e1; subst e1; obtain ⟨rfl, rfl, rfl, rfl⟩ := jgo_inv hx; exact js_aastZ F hk hi hv hd k
          · cases hx
        · rename_i n2 hv; split at hx
          · rename_i e1; subst e1; obtain ⟨rfl, rfl, rfl, rfl⟩ := jgo_inv hx; exact js_aastIZ F hk hi hv hd k
          · cases hx
        · cases hx
      · cases hx
    · cases hx
  · cases hx
theorem jt_alenZ (F : jFZ G y p s m args meth c) (hx : pjx y (.arraylength) pc ls st h = some (.inl (pc', ls', st', h'))) (hd : decode (pby y) pc = .ok (.arraylength, 1)) (k : jGZ G y p l e R s m args below meth c Q hE cE sE pc' ls' st' h') : jGZ G y p l e R s m args below meth c Q hE cE sE pc ls st h := by
  replace hx : (match st with | .inr (.inr (some c)) :: r => (match gK h c with | some (k + 1, n) => jgo (pc + 1) ls (.inl (n : Int) :: r) h | some _ => none | none => if c = jSCR then jgo (pc + 1) ls (.inl (gD h jLEN 0) :: r) h else none) | _ => none) = some (.inl (pc', ls', st', h')) := hx
  split at hx
  · rename_i cc r; split at hx
    · rename_i k0 n hk; obtain ⟨rfl, rfl, rfl, rfl⟩ := jgo_inv hx; exact js_alenZ F hk hd k
    · cases hx
    · split at hx
      · rename_i hcc; subst hcc; obtain ⟨rfl, rfl, rfl, rfl⟩ := jgo_inv hx; exact js_slenZ F hd k
      · cases hx
  · cases hx
theorem jt_newarrayZ (F : jFZ G y p s m args meth c) {t : ArrayType} (hR : jroom R hE cE sE) (hp : jpre h' hE) (hx : pjx y (.newarray t) pc ls st h = some (.inl (pc', ls', st', h'))) (hd : decode (pby y) pc = .ok (.newarray t, 2)) (k : jGZ G y p l e R s m args below meth c Q hE cE sE pc' ls' st' h') : jGZ G y p l e R s m args below meth c Q hE cE sE pc ls st h := by
  replace hx : (match st with | .inl n :: r => if 0 ≤ n ∧ n ≤ 4096 then (match t with | .int => jgo (pc + 2) ls (.inr (.inr (some h.1.length)) :: r) (nC h (1, n.toNat)) | .boolean => jgo (pc + 2) ls (.inr (.inr (some h.1.length)) :: r) (nC h (2, n.toNat)) | .long => jgo (pc + 2) ls (.inr (.inr (some h.1.length)) :: r) (nC h (3, n.toNat)) | _ => none) else none | _ => none) = some (.inl (pc', ls', st', h')) := hx
  split at hx
  · rename_i n r; split at hx
    · rename_i hn; split at hx
      · obtain ⟨rfl, rfl, rfl, rfl⟩ := jgo_inv hx; exact js_newIZ F hn hd hR hp k
      · obtain ⟨rfl, rfl, rfl, rfl⟩ := jgo_inv hx; exact js_newZZ F hn hd hR hp k
      · obtain ⟨rfl, rfl, rfl, rfl⟩ := jgo_inv hx; exact js_newLZ F hn hd hR hp k
      · cases hx
    · cases hx
  · cases hx
theorem jt_anewarrayZ (F : jFZ G y p s m args meth c) {n : Nat} (hR : jroom R hE cE sE) (hp : jpre h' hE) (hx : pjx y (.anewarray n) pc ls st h = some (.inl (pc', ls', st', h'))) (hd : decode (pby y) pc = .ok (.anewarray n, 3)) (k : jGZ G y p l e R s m args below meth c Q hE cE sE pc' ls' st' h') : jGZ G y p l e R s m args below meth c Q hE cE sE pc ls st h := by
  replace hx : (match pkl (poc y) n with
    | some ci => match st with
      | .inl n :: r => if 0 ≤ n ∧ n ≤ 4096 ∧ (ci = 3 ∨ ci = 9 ∨ ci = 1) then jgo (pc + 3) ls (.inr (.inr (some h.1.length)) :: r) (nC h (4 + ci, n.toNat)) else none
      | _ => none
    | none => none) = some (.inl (pc', ls', st', h')) := hx
  split at hx
  · rename_i ci hk; split at hx
    · rename_i n r; split at hx
      · rename_i hn; obtain ⟨rfl, rfl, rfl, rfl⟩ := jgo_inv hx; exact js_anewZ F hk hn.2.2 ⟨hn.1, hn.2.1⟩ hd hR hp k
      · cases hx
    · cases hx
  · cases hx
theorem jt_multiZ (F : jFZ G y p s m args meth c) (hM : jHmulZ G) {n : Nat} {d : Nat} (hR : jroom R hE cE sE) (hp : jpre h' hE) (hx : pjx y (.multianewarray n d) pc ls st h = some (.inl (pc', ls', st', h'))) (hd : decode (pby y) pc = .ok (.multianewarray n d, 4)) (k : jGZ G y p l e R s m args below meth c Q hE cE sE pc' ls' st' h') : jGZ G y p l e R s m args below meth c Q hE cE sE pc ls st h := by
  replace hx : (if poc y = 5 ∧ n = 19 ∧ d = 2 then (match st with
      | .inl b :: .inl a :: r => if 0 ≤ a ∧ a ≤ 4096 ∧ 0 ≤ b ∧ b ≤ 4096 then jgo (pc + 4) ls (.inr (.inr (some h.1.length)) :: r) (nRows a.toNat h.1.length 0 b.toNat (nC h (104, a.toNat))) else none
      | _ => none) else none) = some (.inl (pc', ls', st', h')) := hx
  split at hx
  · rename_i hq; obtain ⟨q1, rfl, rfl⟩ := hq; split at hx
    · rename_i b a r; split at hx
      · rename_i hn; obtain ⟨rfl, rfl, rfl, rfl⟩ := jgo_inv hx; exact hM _ _ _ _ _ _ _ _ _ _ _ _ _ _ _ _ _ _ _ _ _ F q1 hn hd hR hp k
      · cases hx
    · cases hx
  · cases hx
theorem jt_newZ (F : jFZ G y p s m args meth c) {n : Nat} (hR : jroom R hE cE sE) (hp : jpre h' hE) (hx : pjx y (.new n) pc ls st h = some (.inl (pc', ls', st', h'))) (hd : decode (pby y) pc = .ok (.new n, 3)) (k : jGZ G y p l e R s m args below meth c Q hE cE sE pc' ls' st' h') : jGZ G y p l e R s m args below meth c Q hE cE sE pc ls st h := by
  replace hx : (match pkl (poc y) n with
    | some ci => if ci < 13 then jgo (pc + 3) ls (.inr (.inr (some h.1.length)) :: st) (nC h (0, ci)) else if ci = 14 then some (.inr (.inr (1, none))) else none
    | none => none) = some (.inl (pc', ls', st', h')) := hx
  split at hx
  · rename_i ci hk; split at hx
    · rename_i hci; obtain ⟨rfl, rfl, rfl, rfl⟩ := jgo_inv hx; exact js_newqZ F hk hci hd hR hp k
    · split at hx <;> cases hx
  · cases hx
theorem jt_ldcwZ (F : jFZ G y p s m args meth c) (hT : jHstrZ G) (hroom : 20 ≤ R.frames ∧ 5000 ≤ R.locals) {n : Nat} (hR : jroom R hE cE sE) (hp : jpre h' hE) (hx : pjx y (.ldc_w n) pc ls st h = some (.inl (pc', ls', st', h'))) (hd : decode (pby y) pc = .ok (.ldc_w n, 3)) (k : jGZ G y p l e R s m args below meth c Q hE cE sE pc' ls' st' h') : jGZ G y p l e R s m args below meth c Q hE cE sE pc ls st h := by
  replace hx : (if poc y = 4 ∧ n = 280 then jgo (pc + 3) ls (.inr (.inr (some jSIG)) :: st) h
      else if poc y = 12 ∧ n = 446 then jgo (pc + 3) ls (.inl 1073741824 :: st) h
      else if poc y = 15 ∧ n = 265 then jgo (pc + 3) ls (.inl 1431655765 :: st) h
      else if poc y = 15 ∧ n = 266 then jgo (pc + 3) ls (.inl 858993459 :: st) h
      else if poc y = 15 ∧ n = 267 then jgo (pc + 3) ls (.inl 252645135 :: st) h else none) = some (.inl (pc', ls', st', h')) := hx
  split at hx
  · rename_i q; obtain ⟨q1, rfl⟩ := q; obtain ⟨rfl, rfl, rfl, rfl⟩ := jgo_inv hx
    exact hT _ _ _ _ _ _ _ _ _ _ _ _ _ _ _ _ _ _ _ _ F hroom hR hp (Or.inr (Or.inl ⟨q1, rfl, hd, k⟩))
  split at hx
  · rename_i q; obtain ⟨q1, rfl⟩ := q; obtain ⟨rfl, rfl, rfl, rfl⟩ := jgo_inv hx; exact js_ldcwZ F (by unfold r32; omega) (by rw [q1]; exact pj_cons.1.1) hd k
  split at hx
  · rename_i q; obtain ⟨q1, rfl⟩ := q; obtain ⟨rfl, rfl, rfl, rfl⟩ := jgo_inv hx; exact js_ldcwZ F (by unfold r32; omega) (by rw [q1]; exact pj_cons.1.2.1) hd k
  split at hx
  · rename_i q; obtain ⟨q1, rfl⟩ := q; obtain ⟨rfl, rfl, rfl, rfl⟩ := jgo_inv hx; exact js_ldcwZ F (by unfold r32; omega) (by rw [q1]; exact pj_cons.1.2.2.1) hd k
  split at hx
  · rename_i q; obtain ⟨q1, rfl⟩ := q; obtain ⟨rfl, rfl, rfl, rfl⟩ := jgo_inv hx; exact js_ldcwZ F (by unfold r32; omega) (by rw [q1]; exact pj_cons.1.2.2.2) hd k
  cases hx
theorem jt_ldcZ (F : jFZ G y p s m args meth c) (hT : jHstrZ G) (hroom : 20 ≤ R.frames ∧ 5000 ≤ R.locals) {n : Nat} (hR : jroom R hE cE sE) (hp : jpre h' hE) (hx : pjx y (.ldc n) pc ls st h = some (.inl (pc', ls', st', h'))) (hd : decode (pby y) pc = .ok (.ldc n, 2)) (k : jGZ G y p l e R s m args below meth c Q hE cE sE pc' ls' st' h') : jGZ G y p l e R s m args below meth c Q hE cE sE pc ls st h := by
  replace hx : (if poc y = 4 ∧ n = 254 then jgo (pc + 2) ls (.inr (.inr (some jKEY)) :: st) h else none) = some (.inl (pc', ls', st', h')) := hx
  split at hx
  · rename_i q; obtain ⟨q1, rfl⟩ := q; obtain ⟨rfl, rfl, rfl, rfl⟩ := jgo_inv hx
    exact hT _ _ _ _ _ _ _ _ _ _ _ _ _ _ _ _ _ _ _ _ F hroom hR hp (Or.inl ⟨q1, rfl, hd, k⟩)
  · cases hx
theorem jt_ldc2Z (F : jFZ G y p s m args meth c) {n : Nat} (hx : pjx y (.ldc2_w n) pc ls st h = some (.inl (pc', ls', st', h'))) (hd : decode (pby y) pc = .ok (.ldc2_w n, 3)) (k : jGZ G y p l e R s m args below meth c Q hE cE sE pc' ls' st' h') : jGZ G y p l e R s m args below meth c Q hE cE sE pc ls st h := by
  replace hx : (if poc y = 12 ∧ n = 293 then jgo (pc + 3) ls (.inr (.inl 27) :: st) h else if poc y = 12 ∧ n = 295 then jgo (pc + 3) ls (.inr (.inl 96) :: st) h else none) = some (.inl (pc', ls', st', h')) := hx
  split at hx
  · rename_i q; obtain ⟨q1, rfl⟩ := q; obtain ⟨rfl, rfl, rfl, rfl⟩ := jgo_inv hx; exact js_ldc2Z F (by unfold r64; omega) (by rw [q1]; exact pj_cons.2.1) hd k
  split at hx
  · rename_i q; obtain ⟨q1, rfl⟩ := q; obtain ⟨rfl, rfl, rfl, rfl⟩ := jgo_inv hx; exact js_ldc2Z F (by unfold r64; omega) (by rw [q1]; exact pj_cons.2.2) hd k
  cases hx
end JT

/-! A STEP, WHICHEVER; the small heap grows alone -/
section JU
variable {G : jg} {y : Nat} {p : Program} {l : Launch} {e : Env} {R : Room} {s : State} {m : MethodId} {args : Array Value} {below : List Frame} {meth : Method} {c : Code} {Q : State → Prop} {hE : jh} {cE sE : Nat} {pc len : Nat} {ls : List (Option jv)} {st : List jv} {h : jh}
variable {pc' : Nat} {ls' : List (Option jv)} {st' : List jv} {h' : jh}
theorem jnatZ (F : jFZ G y p s m args meth c) (hT : jHstrZ G) (hroom : 20 ≤ R.frames ∧ 5000 ≤ R.locals) (hR : jroom R hE cE sE) {n kd y2 : Nat} (hk : pml (poc y) n = some (kd, y2)) (hp : jpre h' hE)
    (hi : (jkV kd = true ∧ decode (pby y) pc = .ok (.invokevirtual n, 3)) ∨ (jkS kd = true ∧ decode (pby y) pc = .ok (.invokestatic n, 3)) ∨ (jkI kd = true ∧ decode (pby y) pc = .ok (.invokespecial n, 3)))
    (hx : jcall kd y2 pc ls st h = some (.inl (pc', ls', st', h'))) (k : jGZ G y p l e R s m args below meth c Q hE cE sE pc' ls' st' h') : jGZ G y p l e R s m args below meth c Q hE cE sE pc ls st h := by
  have hV : kd = 12 ∨ kd = 13 ∨ kd = 14 → decode (pby y) pc = .ok (.invokevirtual n, 3) := fun q => by
    rcases hi with ⟨-, a⟩ | ⟨a, -⟩ | ⟨a, -⟩
    · exact a
    · rcases q with rfl | rfl | rfl <;> cases a
    · rcases q with rfl | rfl | rfl <;> cases a
  have hS : kd = 10 ∨ kd = 11 → decode (pby y) pc = .ok (.invokestatic n, 3) := fun q => by
    rcases hi with ⟨a, -⟩ | ⟨-, a⟩ | ⟨a, -⟩
    · rcases q with rfl | rfl <;> cases a
    · exact a
    · rcases q with rfl | rfl <;> cases a
  have hI : kd = 15 → decode (pby y) pc = .ok (.invokespecial n, 3) := fun q => by
    rcases hi with ⟨a, -⟩ | ⟨a, -⟩ | ⟨-, a⟩
    · subst q; cases a
    · subst q; cases a
    · exact a
  unfold jcall at hx
  split at hx
  · split at hx
    · split at hx
      · rename_i hw; obtain ⟨rfl, rfl, rfl, rfl⟩ := jgo_inv hx; exact js_maxZ F hk hw ⟨by omega, by omega⟩ (hS (Or.inl rfl)) hR hp k
      · cases hx
    · cases hx
  · split at hx
    · split at hx
      · rename_i hw; obtain ⟨rfl, rfl, rfl, rfl⟩ := jgo_inv hx; exact js_minZ F hk hw ⟨by omega, by omega⟩ (hS (Or.inr rfl)) hR hp k
      · cases hx
    · cases hx
  · split at hx
    · split at hx
      · rename_i hw; obtain ⟨rfl, hw⟩ := hw; obtain ⟨rfl, rfl, rfl, rfl⟩ := jgo_inv hx
        exact hT _ _ _ _ _ _ _ _ _ _ _ _ _ _ _ _ _ _ _ _ F hroom hR hp (Or.inr (Or.inr (Or.inl ⟨_, _, hw, hk, rfl, hV (Or.inl rfl), k⟩)))
      · cases hx
    · cases hx
  · split at hx
    · split at hx
      · rename_i hw; obtain ⟨⟨rfl, hw⟩, hi0⟩ := hw; obtain ⟨rfl, rfl, rfl, rfl⟩ := jgo_inv hx
        exact hT _ _ _ _ _ _ _ _ _ _ _ _ _ _ _ _ _ _ _ _ F hroom hR hp (Or.inr (Or.inr (Or.inr (Or.inl ⟨_, _, _, hw, hk, rfl, hi0, hV (Or.inr (Or.inl rfl)), k⟩))))
      · cases hx
    · cases hx
  · split at hx
    · split at hx
      · rename_i hw; obtain ⟨⟨rfl, hw⟩, hi0⟩ := hw; obtain ⟨rfl, rfl, rfl, rfl⟩ := jgo_inv hx
        exact hT _ _ _ _ _ _ _ _ _ _ _ _ _ _ _ _ _ _ _ _ F hroom hR hp (Or.inr (Or.inr (Or.inr (Or.inr ⟨_, _, _, hw, hk, rfl, hi0, hV (Or.inr (Or.inr rfl)), k⟩))))
      · cases hx
    · cases hx
  · split at hx
    · split at hx
      · rename_i hw; obtain ⟨rfl, rfl, rfl, rfl⟩ := jgo_inv hx; exact js_objZ F hk hw ⟨by omega, by omega⟩ (hI rfl) k
      · cases hx
    · cases hx
  all_goals (repeat' split at hx) <;> first | (cases hx; done) | exact jcl_no hx | exact jclt_no hx
set_option maxHeartbeats 4000000 in
theorem jstepZ (hM : jHmulZ G) (hT : jHstrZ G) (F : jFZ G y p s m args meth c) (hroom : 20 ≤ R.frames ∧ 5000 ≤ R.locals) (hR : jroom R hE cE sE) (i : Instr) (hd : decode (pby y) pc = .ok (i, len)) (hl : jlen i len = true) (hx : pjx y i pc ls st h = some (.inl (pc', ls', st', h'))) (hp : jpre h' hE)
    (k : jGZ G y p l e R s m args below meth c Q hE cE sE pc' ls' st' h') : jGZ G y p l e R s m args below meth c Q hE cE sE pc ls st h := by
  cases i with
  | iconst n => obtain rfl := jone (n := 1) hl (fun _ => rfl); exact jt_iconstZ F hx hd k
  | bipush n => obtain rfl := jone (n := 2) hl (fun _ => rfl); exact jt_bipushZ F hx hd k
  | sipush n => obtain rfl := jone (n := 3) hl (fun _ => rfl); exact jt_sipushZ F hx hd k
  | lconst n => obtain rfl := jone (n := 1) hl (fun _ => rfl); exact jt_lconstZ F hx hd k
  | aconst_null => obtain rfl := jone (n := 1) hl (fun _ => rfl); exact jt_nullZ F hx hd k
  | iload_n n => obtain rfl := jone (n := 1) hl (fun _ => rfl); exact jt_iload_nZ F hx hd k
  | iload n => obtain rfl := jone (n := 2) hl (fun _ => rfl); exact jt_iloadZ F hx hd k
  | lload_n n => obtain rfl := jone (n := 1) hl (fun _ => rfl); exact jt_lload_nZ F hx hd k
  | lload n => obtain rfl := jone (n := 2) hl (fun _ => rfl); exact jt_lloadZ F hx hd k
  | aload_n n => obtain rfl := jone (n := 1) hl (fun _ => rfl); exact jt_aload_nZ F hx hd k
  | aload n => obtain rfl := jone (n := 2) hl (fun _ => rfl); exact jt_aloadZ F hx hd k
  | istore_n n => obtain rfl := jone (n := 1) hl (fun _ => rfl); exact jt_istore_nZ F hx hd k
  | lstore_n n => obtain rfl := jone (n := 1) hl (fun _ => rfl); exact jt_lstore_nZ F hx hd k
  | astore_n n => obtain rfl := jone (n := 1) hl (fun _ => rfl); exact jt_astore_nZ F hx hd k
  | istore n => obtain rfl := jone (n := 2) hl (fun _ => rfl); exact jt_istoreZ F hx hd k
  | lstore n => obtain rfl := jone (n := 2) hl (fun _ => rfl); exact jt_lstoreZ F hx hd k
  | astore n => obtain rfl := jone (n := 2) hl (fun _ => rfl); exact jt_astoreZ F hx hd k
  | iinc n d => obtain rfl := jone (n := 3) hl (fun _ => rfl); exact jt_iincZ F hx hd k
  | iadd => obtain rfl := jone (n := 1) hl (fun _ => rfl); exact jt_iaddZ F hx hd k
  | isub => obtain rfl := jone (n := 1) hl (fun _ => rfl); exact jt_isubZ F hx hd k
  | imul => obtain rfl := jone (n := 1) hl (fun _ => rfl); exact jt_imulZ F hx hd k
  | iand => obtain rfl := jone (n := 1) hl (fun _ => rfl); exact jt_iandZ F hx hd k
  | ior => obtain rfl := jone (n := 1) hl (fun _ => rfl); exact jt_iorZ F hx hd k
  | ixor => obtain rfl := jone (n := 1) hl (fun _ => rfl); exact jt_ixorZ F hx hd k
  | ishl => obtain rfl := jone (n := 1) hl (fun _ => rfl); exact jt_ishlZ F hx hd k
  | ishr => obtain rfl := jone (n := 1) hl (fun _ => rfl); exact jt_ishrZ F hx hd k
  | iushr => obtain rfl := jone (n := 1) hl (fun _ => rfl); exact jt_iushrZ F hx hd k
  | ladd => obtain rfl := jone (n := 1) hl (fun _ => rfl); exact jt_laddZ F hx hd k
  | lsub => obtain rfl := jone (n := 1) hl (fun _ => rfl); exact jt_lsubZ F hx hd k
  | lmul => obtain rfl := jone (n := 1) hl (fun _ => rfl); exact jt_lmulZ F hx hd k
  | lor => obtain rfl := jone (n := 1) hl (fun _ => rfl); exact jt_lorZ F hx hd k
  | lxor => obtain rfl := jone (n := 1) hl (fun _ => rfl); exact jt_lxorZ F hx hd k
  | ineg => obtain rfl := jone (n := 1) hl (fun _ => rfl); exact jt_inegZ F hx hd k
  | idiv => obtain rfl := jone (n := 1) hl (fun _ => rfl); exact jt_idivZ F hx hd k
  | irem => obtain rfl := jone (n := 1) hl (fun _ => rfl); exact jt_iremZ F hx hd k
  | lshl => obtain rfl := jone (n := 1) hl (fun _ => rfl); exact jt_lshlZ F hx hd k
  | lushr => obtain rfl := jone (n := 1) hl (fun _ => rfl); exact jt_lushrZ F hx hd k
  | lcmp => obtain rfl := jone (n := 1) hl (fun _ => rfl); exact jt_lcmpZ F hx hd k
  | i2l => obtain rfl := jone (n := 1) hl (fun _ => rfl); exact jt_i2lZ F hx hd k
  | l2i => obtain rfl := jone (n := 1) hl (fun _ => rfl); exact jt_l2iZ F hx hd k
  | i2c => obtain rfl := jone (n := 1) hl (fun _ => rfl); exact jt_i2cZ F hx hd k
  | pop => obtain rfl := jone (n := 1) hl (fun _ => rfl); exact jt_popZ F hx hd k
  | dup => obtain rfl := jone (n := 1) hl (fun _ => rfl); exact jt_dupZ F hx hd k
  | dup2 => obtain rfl := jone (n := 1) hl (fun _ => rfl); exact jt_dup2Z F hx hd k
  | ifnull off => obtain rfl := jone (n := 3) hl (fun _ => rfl); exact jt_ifnullZ F hx hd k
  | ifnonnull off => obtain rfl := jone (n := 3) hl (fun _ => rfl); exact jt_ifnonnullZ F hx hd k
  | goto off => obtain rfl := jone (n := 3) hl (fun _ => rfl); exact jt_gotoZ F hx hd k
  | getfield n => obtain rfl := jone (n := 3) hl (fun _ => rfl); exact jt_getfieldZ F hx hd k
  | putfield n => obtain rfl := jone (n := 3) hl (fun _ => rfl); exact jt_putfieldZ F hx hd k
  | iaload => obtain rfl := jone (n := 1) hl (fun _ => rfl); exact jt_ialoadZ F hx hd k
  | baload => obtain rfl := jone (n := 1) hl (fun _ => rfl); exact jt_baloadZ F hx hd k
  | laload => obtain rfl := jone (n := 1) hl (fun _ => rfl); exact jt_laloadZ F hx hd k
  | aaload => obtain rfl := jone (n := 1) hl (fun _ => rfl); exact jt_aaloadZ F hx hd k
  | iastore => obtain rfl := jone (n := 1) hl (fun _ => rfl); exact jt_iastoreZ F hx hd k
  | bastore => obtain rfl := jone (n := 1) hl (fun _ => rfl); exact jt_bastoreZ F hx hd k
  | lastore => obtain rfl := jone (n := 1) hl (fun _ => rfl); exact jt_lastoreZ F hx hd k
  | aastore => obtain rfl := jone (n := 1) hl (fun _ => rfl); exact jt_aastoreZ F hx hd k
  | arraylength => obtain rfl := jone (n := 1) hl (fun _ => rfl); exact jt_alenZ F hx hd k
  | newarray t => obtain rfl := jone (n := 2) hl (fun _ => rfl); exact jt_newarrayZ F hR hp hx hd k
  | anewarray n => obtain rfl := jone (n := 3) hl (fun _ => rfl); exact jt_anewarrayZ F hR hp hx hd k
  | multianewarray n d => obtain rfl := jone (n := 4) hl (fun _ => rfl); exact jt_multiZ F hM hR hp hx hd k
  | new n => obtain rfl := jone (n := 3) hl (fun _ => rfl); exact jt_newZ F hR hp hx hd k
  | ldc_w n => obtain rfl := jone (n := 3) hl (fun _ => rfl); exact jt_ldcwZ F hT hroom hR hp hx hd k
  | ldc n => obtain rfl := jone (n := 2) hl (fun _ => rfl); exact jt_ldcZ F hT hroom hR hp hx hd k
  | ldc2_w n => obtain rfl := jone (n := 3) hl (fun _ => rfl); exact jt_ldc2Z F hx hd k
  | ifCond cc off =>
    cases cc with
    | eq => obtain rfl := jone (n := 3) hl (fun _ => rfl); exact jt_if_eqZ F hx hd k
    | ne => obtain rfl := jone (n := 3) hl (fun _ => rfl); exact jt_if_neZ F hx hd k
    | lt => obtain rfl := jone (n := 3) hl (fun _ => rfl); exact jt_if_ltZ F hx hd k
    | ge => obtain rfl := jone (n := 3) hl (fun _ => rfl); exact jt_if_geZ F hx hd k
    | gt => obtain rfl := jone (n := 3) hl (fun _ => rfl); exact jt_if_gtZ F hx hd k
    | le => obtain rfl := jone (n := 3) hl (fun _ => rfl); exact jt_if_leZ F hx hd k
  | if_icmp cc off =>
    cases cc with
    | eq => obtain rfl := jone (n := 3) hl (fun _ => rfl); exact jt_icmp_eqZ F hx hd k
    | ne => obtain rfl := jone (n := 3) hl (fun _ => rfl); exact jt_icmp_neZ F hx hd k
    | lt => obtain rfl := jone (n := 3) hl (fun _ => rfl); exact jt_icmp_ltZ F hx hd k
    | ge => obtain rfl := jone (n := 3) hl (fun _ => rfl); exact jt_icmp_geZ F hx hd k
    | gt => obtain rfl := jone (n := 3) hl (fun _ => rfl); exact jt_icmp_gtZ F hx hd k
    | le => obtain rfl := jone (n := 3) hl (fun _ => rfl); exact jt_icmp_leZ F hx hd k
  | tableswitch d lo hi offs => exact jt_tableZ F hx hd k
  | invokevirtual n =>
    obtain rfl := jone (n := 3) hl (fun _ => rfl)
    replace hx : (match pml (poc y) n with | some (kd, y2) => if jkV kd = true then jcall kd y2 pc ls st h else none | none => none) = some (.inl (pc', ls', st', h')) := hx
    split at hx
    · rename_i kd y2 hk; split at hx
      · rename_i hk2; exact jnatZ F hT hroom hR hk hp (Or.inl ⟨hk2, hd⟩) hx k
      · cases hx
    · cases hx
  | invokestatic n =>
    obtain rfl := jone (n := 3) hl (fun _ => rfl)
    replace hx : (match pml (poc y) n with | some (kd, y2) => if jkS kd = true then jcall kd y2 pc ls st h else none | none => none) = some (.inl (pc', ls', st', h')) := hx
    split at hx
    · rename_i kd y2 hk; split at hx
      · rename_i hk2; exact jnatZ F hT hroom hR hk hp (Or.inr (Or.inl ⟨hk2, hd⟩)) hx k
      · cases hx
    · cases hx
  | invokespecial n =>
    obtain rfl := jone (n := 3) hl (fun _ => rfl)
    replace hx : (match pml (poc y) n with | some (kd, y2) => if jkI kd = true then jcall kd y2 pc ls st h else none | none => none) = some (.inl (pc', ls', st', h')) := hx
    split at hx
    · rename_i kd y2 hk; split at hx
      · rename_i hk2; exact jnatZ F hT hroom hR hk hp (Or.inr (Or.inr ⟨hk2, hd⟩)) hx k
      · cases hx
    · cases hx
  | ireturn => exact absurd hx (by unfold pjx; dsimp only; (repeat' split) <;> exact fun q => by cases q)
  | lreturn => exact absurd hx (by unfold pjx; dsimp only; (repeat' split) <;> exact fun q => by cases q)
  | areturn => exact absurd hx (by unfold pjx; dsimp only; (repeat' split) <;> exact fun q => by cases q)
  | return_ => exact absurd hx (by unfold pjx; dsimp only; (repeat' split) <;> exact fun q => by cases q)
  | _ => exact absurd (show (none : Option jn) = some _ from hx) (fun q => by cases q)
end JU

/-! A METHOD'S RUN IN THE SMALL MACHINE IS ITS CONTRACT -/
theorem jX_warmZ {G : jg} {s U : State} (hW : s.WarmedH U.vm) (h : jXZ G s) : jXZ G U := by
  obtain ⟨⟨h1, h7, h8⟩, ⟨h2, h3, h4, h5⟩, h6⟩ := h
  refine ⟨⟨fun oc ho t ht hp => ?_, h7.warm hW, h8.warm hW⟩, ⟨h2.moved hW.alike, h3.moved hW.alike, h4.moved hW.alike, jover_moved hW.alike h5⟩, va_K.moved hW.alike h6⟩
  have h9 := h1 oc ho t ht hp
  unfold pj_plain at hp
  simp only [Bool.not_eq_false', Bool.or_eq_true, beq_iff_eq] at hp
  rcases hp with (e | e) | e <;> unfold pj_mw at h9 ⊢ <;> rw [e] at h9 ⊢ <;> exact va_Nw.warmM hW h9
/-! the entry -/
/-! the contract of a run that returns -/
def jPcZ (G : jg) (av : List jv) (h : jh) : Array Value → State → Prop := va_Pc (av.map (jsv G)) (fun U => jWZ G h U.heap U ∧ G.2.2.2 ≤ U.heap.size ∧ jXZ G U)
def jQcZ (G : jg) (r : Option jv) (h' : jh) : Array Value → State → Outcome → State → Prop := fun _ st oc t => oc = .returned (r.map (jsv G)) ∧ (∀ v, r = some v → jvok v) ∧ jWZ G h' t.heap t ∧ va_F (fun q => G.2.2.2 ≤ q) st t
theorem jPc_blindZ {G : jg} {av : List jv} {h : jh} : FrameBlind (jPcZ G av h) := by
  intro a U g mk q
  obtain ⟨q0, q1, q2, q3⟩ := q
  exact ⟨q0, jW_movedZ (s := U) (U := U.calling g mk a) (Vm.Alike.refl U.vm) q1, q2, jX_warmZ (s := U) (U := U.calling g mk a) (State.WarmedH.refl U) q3⟩
/-- what a run of n steps says -/
def jSimZ (G : jg) (n : Nat) : Prop := ∀ (d y pc : Nat) (ls : List (Option jv)) (st : List jv) (h : jh) (o : Nat × Option jv) (hE : jh), prun n d y pc ls st h = some (o, hE) →
  ∀ (p : Program) (l : Launch) (e : Env) (R : Room) (s : State) (m : MethodId) (args : Array Value) (below : List Frame) (meth : Method) (c : Code) (Q : State → Prop) (cE sE : Nat), jFZ G y p s m args meth c → jok2 d R → jroom R hE cE sE → l.stackTraces = false →
    (∀ pcE lsE stE, jend y o pcE lsE stE hE → jGZ G y p l e R s m args below meth c Q hE cE sE pcE lsE stE hE) → jGZ G y p l e R s m args below meth c Q hE cE sE pc ls st h
/-! THE SIMULATION -/
section JS2
variable {G : jg}
variable {y : Nat} {p : Program} {l : Launch} {e : Env} {R : Room} {s : State} {m : MethodId} {args : Array Value} {below : List Frame} {meth : Method} {c : Code} {Q : State → Prop} {hE : jh} {cE sE : Nat} {pc : Nat} {ls : List (Option jv)} {st : List jv} {h : jh}
/-- behind a call -/
theorem jrun_goZ {H : Heap} {locs : List Loc} {cells slots mc ms : Nat} {lsr : Array Slot} {st0 : List Value} {rs : List jv} {r : Option jv} {h1 : jh} {a : Array Value} (hr : va_Run p l e R s m args below meth c H locs cells slots mc ms (F0 m pc lsr st0) (rs.map (jsv G)) (jQcZ G r h1 a) (fun q => G.2.2.2 ≤ q))
    (hS : va_S (fun q => G.2.2.2 ≤ q) s.heap H locs) (hz : G.2.2.2 ≤ s.heap.size) (hl : lv_has lsr (pmL y) (jla G ls)) (hn : ls.length = pmL y) (ho : jok ls rs) (hc : cells + mc + hE.1.length = cE + h1.1.length) (hs : slots + ms + jsz hE = sE + jsz h1)
    (kk : jGZ G y p l e R s m args below meth c Q hE cE sE (pc + 3) ls (r.toList ++ rs) h1) : W p l e R s m args below meth c H locs cells slots Q (F0 m pc lsr st0) := by
  intro T hT X
  obtain ⟨v, st₀, t, T', L, h0, X', hL, e1, e2, ⟨hv, hok, hW1, hz1, hk1⟩, st⟩ := hr T hT X
  cases hv
  rw [h0] at hz1 hk1
  have hal : s.vm.Alike t.vm := by rw [← e2]; exact X'.warmed.alike
  have hW2 : jWZ G h1 T'.heap s := by rw [e1]; exact jW_movedZ hal.symm hW1
  have hS2 : va_S (fun q => G.2.2.2 ≤ q) s.heap T'.heap (locs ++ L) := ⟨Nat.le_trans hS.1 (by rw [e1]; exact hz1), fun q h2 h3 => by rw [e1, hk1 q (Nat.lt_of_lt_of_le h2 hS.1) h3]; exact hS.2.1 q h2 h3, fun q hq => by
    rcases List.mem_append.mp hq with h9 | h9
    · exact hS.2.2 q h9
    · exact hL q h9⟩
  have ho2 : jok ls (r.toList ++ rs) := ⟨ho.1, fun w hw => by
    rcases List.mem_append.mp hw with h9 | h9
    · cases r with
      | none => cases h9
      | some x =>
        have hwx : w = x := by simpa using h9
        rw [hwx]; exact hok x rfl
    · exact ho.2 w h9⟩
  obtain ⟨t2, a1, b1⟩ := kk T'.heap (locs ++ L) (cells + mc) (slots + ms) lsr hW2 hS2 hz hl hn ho2 hc hs T' rfl X'
  have est : (r.toList ++ rs).map (jsv G) = (r.map (jsv G)).toList ++ rs.map (jsv G) := by cases r <;> rfl
  rw [est] at a1
  exact ⟨t2, st t2 a1, b1⟩
end JS2

