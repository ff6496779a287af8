/-! ROWS OF ROWS: from what the library says of 'multianewarray' (a hypothesis here, given in the last part) -/
def jMna : Prop := ∀ (p : Program) (l : Launch) (e : Env) (R : Room) (s : State) (m : MethodId) (args : Array Value) (below : List Frame) (meth : Method) (c : Code) (T : State) (locs : List Loc) (cells slots : Nat), Stand p l e R s m args below meth c T locs cells slots → p.tables.exec = Jvm.exec → ∀ (own : String) (index : Nat), s.vm.findClass own = some m.cls →
  (Cond.classLink own index ("[" ++ (FieldType.array .int).toString)).before args s = true → (Cond.arrayOver (.array .int)).before args s = true → (Cond.arrayClass .int).before args s = true → ∀ (g : JFrame), g.method = m → decode c.code g.pc = .ok (.multianewarray index 2, 4) → ∀ (n k : Int32) (rest : List Value), g.stack = .int k :: .int n :: rest → ¬ n < 0 → ¬ k < 0 → n.toNatClampNeg ≤ 4096 → k.toNatClampNeg ≤ 4096 →
  cells + (1 + n.toNatClampNeg) ≤ R.cells → slots + (n.toNatClampNeg + n.toNatClampNeg * k.toNatClampNeg) ≤ R.slots →
  ∃ (cA comp : ClassId) (F : State) (oc : Cell), s.vm.findClass ("[" ++ (FieldType.array .int).toString) = some cA ∧ s.vm.findClass (FieldType.array .int).toString = some comp ∧
    (F.heap.size = T.heap.size + 1 + n.toNatClampNeg ∧ (∀ x : Nat, x < T.heap.size → F.heap[x]? = T.heap[x]?) ∧ (F.heap[T.heap.size]? = some oc ∧ oc = { cls := cA, slots := oc.slots, vm := .none } ∧ oc.slots.size = n.toNatClampNeg ∧ ∀ j : Nat, j < n.toNatClampNeg → oc.slots[j]? = some (.ref (T.heap.size + 1 + j))) ∧ ∀ j : Nat, j < n.toNatClampNeg → F.heap[T.heap.size + 1 + j]? = some { cls := comp, slots := Array.replicate k.toNatClampNeg (.int 0), vm := .none }) ∧
    Stand p l e R s m args below meth c F locs (cells + 1 + n.toNatClampNeg) (slots + n.toNatClampNeg + n.toNatClampNeg * k.toNatClampNeg) ∧
    ∀ target, Steps p.tables e below (F.setTop { g with pc := g.pc + 4, stack := .ref T.heap.size :: rest }) target → Steps p.tables e below (T.setTop g) target
theorem nRows_facts (o n : Nat) : ∀ (k i : Nat) (h : jh), o < h.1.length → (nRows k o i n h).1 = h.1 ++ List.replicate k (1, n) ∧ (∀ c j, gR (nRows k o i n h) c j = if c = o ∧ i ≤ j ∧ j < i + k then some (h.1.length + (j - i)) else if h.1.length ≤ c ∧ c < h.1.length + k then none else gR h c j) ∧
    (∀ c j, gD (nRows k o i n h) c j = if h.1.length ≤ c ∧ c < h.1.length + k then 0 else gD h c j) ∧ (∀ c j, gL (nRows k o i n h) c j = if h.1.length ≤ c ∧ c < h.1.length + k then 0 else gL h c j)
  | 0, i, h, ho => ⟨by simp [nRows], fun c j => by rw [if_neg (by omega), if_neg (by omega)]; rfl, fun c j => by rw [if_neg (by omega)]; rfl, fun c j => by rw [if_neg (by omega)]; rfl⟩
  | k + 1, i, h, ho => by
    have hl : (wR (nC h (1, n)) o i (some h.1.length)).1 = h.1 ++ [(1, n)] := rfl
    have hll : (wR (nC h (1, n)) o i (some h.1.length)).1.length = h.1.length + 1 := by rw [hl, List.length_append]; rfl
    obtain ⟨f1, f2, f3, f4⟩ := nRows_facts o n k (i + 1) (wR (nC h (1, n)) o i (some h.1.length)) (by rw [hll]; omega)
    rw [hll] at f2 f3 f4
    refine ⟨?_, fun c j => ?_, fun c j => ?_, fun c j => ?_⟩
    · show (nRows k o (i + 1) n (wR (nC h (1, n)) o i (some h.1.length))).1 = _
      rw [f1, hl, List.append_assoc]; rfl
    · show gR (nRows k o (i + 1) n (wR (nC h (1, n)) o i (some h.1.length))) c j = _
      rw [f2]
      have e : gR (wR (nC h (1, n)) o i (some h.1.length)) c j = if c = o ∧ j = i then some h.1.length else if c = h.1.length then none else gR h c j := rfl
      rw [e]
      by_cases h1 : c = o ∧ i + 1 ≤ j ∧ j < i + 1 + k
      · rw [if_pos h1, if_pos (by omega)]; congr 1; omega
      · rw [if_neg h1]
        by_cases h2 : c = o ∧ j = i
        · rw [if_neg (by omega), if_pos h2, if_pos (by omega), h2.2, Nat.sub_self]; rfl
        · rw [if_neg (show ¬ (c = o ∧ i ≤ j ∧ j < i + (k + 1)) by omega)]
          by_cases h3 : h.1.length ≤ c ∧ c < h.1.length + (k + 1)
          · rw [if_pos h3]
            by_cases h4 : h.1.length + 1 ≤ c ∧ c < h.1.length + 1 + k
            · rw [if_pos h4]
            · rw [if_neg h4, if_neg h2, if_pos (by omega)]
          · rw [if_neg h3, if_neg (by omega), if_neg h2, if_neg (by omega)]
    · show gD (nRows k o (i + 1) n (wR (nC h (1, n)) o i (some h.1.length))) c j = _
      rw [f3]
      have e : gD (wR (nC h (1, n)) o i (some h.1.length)) c j = if c = h.1.length then 0 else gD h c j := rfl
      rw [e]
      by_cases h3 : h.1.length ≤ c ∧ c < h.1.length + (k + 1)
      · rw [if_pos h3]
        by_cases h4 : h.1.length + 1 ≤ c ∧ c < h.1.length + 1 + k
        · rw [if_pos h4]
        · rw [if_neg h4, if_pos (by omega)]
      · rw [if_neg h3, if_neg (by omega), if_neg (by omega)]
    · show gL (nRows k o (i + 1) n (wR (nC h (1, n)) o i (some h.1.length))) c j = _
      rw [f4]
      have e : gL (wR (nC h (1, n)) o i (some h.1.length)) c j = if c = h.1.length then 0 else gL h c j := rfl
      rw [e]
      by_cases h3 : h.1.length ≤ c ∧ c < h.1.length + (k + 1)
      · rw [if_pos h3]
        by_cases h4 : h.1.length + 1 ≤ c ∧ c < h.1.length + 1 + k
        · rw [if_pos h4]
        · rw [if_neg h4, if_pos (by omega)]
      · rw [if_neg h3, if_neg (by omega), if_neg (by omega)]
theorem jouter {oc : Cell} {cA : ClassId} {N : Nat} {f : Nat → Option Nat} (h1 : oc = { cls := cA, slots := oc.slots, vm := .none }) (h3 : oc.slots.size = N) (h4 : ∀ j : Nat, j < N → oc.slots[j]? = some (va_rf (f j))) : oc = vp_cell cA (N, .inr (.inr (.inr (.inr f)))) := by
  rw [vp_cell_q, h1]
  unfold arrV
  congr 1
  refine Array.ext (by rw [h3, Array.size_ofFn]) fun j hj hj2 => ?_
  have hjN : j < N := by rw [← h3]; exact hj
  have q1 := h4 j hjN
  rw [Array.getElem?_eq_getElem hj] at q1
  rw [Array.getElem_ofFn]
  exact Option.some.inj q1
set_option maxRecDepth 100000 in
theorem pj_mna : (pj_W.contains (Cond.classLink (pj_C 5) 19 ("[" ++ (FieldType.array .int).toString))) = true := by decide +kernel
theorem nRows_sz (o n : Nat) (k i : Nat) (h : jh) (ho : o < h.1.length) : jsz (nRows k o i n h) = jsz h + k * n := by
  unfold jsz
  rw [(nRows_facts o n k i h ho).1, List.map_append, List.sum_append, List.map_replicate, show jks (1, n) = n from rfl]
  congr 1
  induction k with
  | zero => simp
  | succ k ih => rw [List.replicate_succ, List.sum_cons, ih, Nat.succ_mul]; omega
theorem jW_rows {G : jg} {h : jh} {H H' : Heap} {s : State} (w : jWZ G h H s) {a b : Nat} (ha : a ≤ 4096) (hb : b ≤ 4096) (hlen : h.1.length + 1 + a ≤ 1000000)
    (hz : H'.size = H.size + 1 + a) (hq : ∀ q, q < H.size → H'[q]? = H[q]?) (h1 : H'[H.size]? = some (vp_cell (G.2.1 104) (a, .inr (.inr (.inr (.inr fun j => if j < a then some (H.size + 1 + j) else none))))))
    (h2 : ∀ j : Nat, j < a → H'[H.size + 1 + j]? = some (arrV (G.2.1 1) b (fun _ => .int 0))) : jWZ G (nRows a h.1.length 0 b (nC h (104, a))) H' s := by
  obtain ⟨⟨a1, a2, a3⟩, bb, d, l, ⟨x1, x2⟩, t⟩ := w
  have hn : (nC h (104, a)).1.length = h.1.length + 1 := jlen_n h _
  obtain ⟨f1, f2, f3, f4⟩ := nRows_facts h.1.length b a 0 (nC h (104, a)) (by rw [hn]; omega)
  rw [hn] at f2 f3 f4
  have e1 : (nC h (104, a)).1 = h.1 ++ [(104, a)] := rfl
  generalize hN : nRows a h.1.length 0 b (nC h (104, a)) = h' at f1 f2 f3 f4 ⊢
  have eR : ∀ c i, c < h.1.length ∨ h.1.length + 1 + a ≤ c → gR h' c i = gR h c i := fun c i hc => by
    rw [f2, if_neg (by omega), if_neg (by omega)]; exact if_neg (by omega)
  have eD : ∀ c i, c < h.1.length ∨ h.1.length + 1 + a ≤ c → gD h' c i = gD h c i := fun c i hc => by
    rw [f3, if_neg (by omega)]; exact if_neg (by omega)
  have eL : ∀ c i, c < h.1.length ∨ h.1.length + 1 + a ≤ c → gL h' c i = gL h c i := fun c i hc => by
    rw [f4, if_neg (by omega)]; exact if_neg (by omega)
  have zD : ∀ c i, h.1.length ≤ c → c < h.1.length + 1 + a → gD h' c i = 0 := fun c i h1 h2 => by
    rw [f3]
    by_cases h3 : h.1.length + 1 ≤ c ∧ c < h.1.length + 1 + a
    · rw [if_pos h3]
    · rw [if_neg h3]; exact if_pos (by omega)
  have zL : ∀ c i, h.1.length ≤ c → c < h.1.length + 1 + a → gL h' c i = 0 := fun c i h1 h2 => by
    rw [f4]
    by_cases h3 : h.1.length + 1 ≤ c ∧ c < h.1.length + 1 + a
    · rw [if_pos h3]
    · rw [if_neg h3]; exact if_pos (by omega)
  have hl : gD h' jLEN 0 = gD h jLEN 0 := eD _ _ (by unfold jLEN; omega)
  have hscr : ∀ j, gD h' jSCR j = gD h jSCR j := fun j => eD _ _ (by unfold jSCR; omega)
  have hl1 : h'.1.length = h.1.length + 1 + a := by rw [f1, e1, List.length_append, List.length_append, List.length_replicate]; rfl
  refine ⟨⟨by rw [hz, hl1, a1]; omega, by rw [hl1]; exact hlen, a3⟩, fun c' k' hk' => ?_, fun c' i => ?_, fun c' i => ?_, ⟨?_, by rw [hl]; exact x2⟩, jT_kept t fun q hq' => hq q (by omega)⟩
  · rw [f1, e1, List.append_assoc] at hk'
    by_cases hlt : c' < h.1.length
    · rw [List.getElem?_append_left hlt] at hk'
      obtain ⟨g1, g2⟩ := bb c' k' hk'
      refine ⟨g1, ?_⟩
      have he : jE G h' c' k' = jE G h c' k' := by
        obtain ⟨t, n⟩ := k'
        match t with
        | 0 => simp only [jE, jfv, eR c' _ (Or.inl hlt), eD c' _ (Or.inl hlt), eL c' _ (Or.inl hlt)]
        | 1 => simp only [jE, eD c' _ (Or.inl hlt)]
        | 2 => simp only [jE, eD c' _ (Or.inl hlt)]
        | 3 => simp only [jE, eL c' _ (Or.inl hlt)]
        | t + 4 => simp only [jE, eR c' _ (Or.inl hlt)]
      rw [he]
      exact g2.kept (hq _ (by show G.2.2.2 + c' < _; omega))
    · rw [List.getElem?_append_right (by omega)] at hk'
      by_cases h0 : c' = h.1.length
      · subst h0
        rw [Nat.sub_self] at hk'
        cases hk'
        refine ⟨Or.inr ⟨by simp, ha⟩, ?_⟩
        show H'[G.2.2.2 + h.1.length]? = some (vp_cell (G.2.1 104) (a, .inr (.inr (.inr (.inr fun i => (gR h' h.1.length i).map (jad G))))))
        rw [← a1, h1]
        refine congrArg (fun f => some (vp_cell (G.2.1 104) (a, .inr (.inr (.inr (.inr f)))))) (funext fun j => ?_)
        rw [f2]
        by_cases hj : j < a
        · rw [if_pos hj, if_pos (by omega), Option.map_some]
          unfold jad
          rw [if_pos (by omega)]
          congr 1; omega
        · rw [if_neg hj, if_neg (by omega), if_neg (by omega)]
          rw [show gR (nC h (104, a)) h.1.length j = none from if_pos rfl]; rfl
      · have hlt2 : c' - h.1.length - 1 < a := by
          have := (List.getElem?_eq_some_iff.mp hk').1
          simp only [List.length_cons, List.length_append, List.length_replicate, List.length_nil] at this
          omega
        have hk2 : k' = (1, b) := by
          rw [show c' - h.1.length = (c' - h.1.length - 1) + 1 by omega] at hk'
          have hk3 : (List.replicate a ((1, b) : Nat × Nat))[c' - h.1.length - 1]? = some k' := hk'
          rw [List.getElem?_replicate, if_pos hlt2] at hk3
          exact (Option.some.inj hk3).symm
        subst hk2
        refine ⟨Or.inr ⟨by simp, hb⟩, ?_⟩
        show H'[G.2.2.2 + c']? = some (vp_cell (G.2.1 1) (b, .inl fun i => Int32.ofInt (gD h' c' i)))
        have hh := h2 (c' - h.1.length - 1) hlt2
        rw [show H.size + 1 + (c' - h.1.length - 1) = G.2.2.2 + c' by omega] at hh
        rw [hh]
        have : (fun i => Int32.ofInt (gD h' c' i)) = fun _ => 0 := funext fun i => by rw [zD c' i (by omega) (by omega)]; rfl
        rw [this]; rfl
  · by_cases e : h.1.length ≤ c' ∧ c' < h.1.length + 1 + a
    · rw [zD c' i e.1 e.2]; exact r32_0
    · rw [eD c' i (by omega)]; exact d c' i
  · by_cases e : h.1.length ≤ c' ∧ c' < h.1.length + 1 + a
    · rw [zL c' i e.1 e.2]; unfold r64; omega
    · rw [eL c' i (by omega)]; exact l c' i
  · simp only [hl, hscr]
    exact x1.kept (hq _ (by omega))
theorem jHmul_of {G : jg} (hyp : jMna) : jHmulZ G := fun y p l e R s m args below meth c Q hE cE sE pc ls st h a b F hy hab hd hR hp kk H locs cells slots lsr hW hS hz hl hn2 ho hc hs => by
  obtain ⟨⟨hx, hb⟩, hown, hml, hret, hlk, hin, hts, hX⟩ := F
  have hn : (nC h (104, a.toNat)).1.length = h.1.length + 1 := jlen_n h _
  have hf := nRows_facts h.1.length b.toNat a.toNat 0 (nC h (104, a.toNat)) (by rw [hn]; omega)
  have hsz := nRows_sz h.1.length b.toNat a.toNat 0 (nC h (104, a.toNat)) (by rw [hn]; omega)
  rw [jsz_n, show jks (104, a.toNat) = a.toNat from rfl] at hsz
  have hl1 : (nRows a.toNat h.1.length 0 b.toNat (nC h (104, a.toNat))).1.length = h.1.length + 1 + a.toNat := by rw [hf.1, List.length_append, hn, List.length_replicate]
  have p1 := jpre_len hp
  have p2 := jpre_sz hp
  rw [hl1] at p1
  rw [hsz] at p2
  have hrb : r32 b := jok_top ho
  have hra : r32 a := jok_top (jok_pop ho)
  have ca : (Int32.ofInt a).toNatClampNeg = a.toNat := by rw [Int32.toNatClampNeg, o32_i hra]
  have cb : (Int32.ofInt b).toNatClampNeg = b.toNat := by rw [Int32.toNatClampNeg, o32_i hrb]
  have hlen : h.1.length + 1 + a.toNat ≤ 1000000 := by have := hR.2.2; omega
  have hlw := hts _ (List.contains_iff_mem.mp pj_mna)
  have hsz2 := hW.1.1
  intro T hT X
  obtain ⟨cA, comp, F, oc, fA, fC, ⟨g1, g2, ⟨g3, g4, g6, g7⟩, g8⟩, X', step⟩ := hyp p l e R s m args below meth c T locs cells slots X hx (pj_C (poc y)) 19 hown (by rw [hy]; exact hlw) hX.2.1.2.2.2 (hts _ pj_arrs.1.1)
    (F0 m pc lsr (.int (Int32.ofInt b) :: .int (Int32.ofInt a) :: st.map (jsv G))) rfl (by rw [hb]; exact hd) (Int32.ofInt a) (Int32.ofInt b) (st.map (jsv G)) rfl (by rw [← o32_0, o32_lt hra r32_0]; omega) (by rw [← o32_0, o32_lt hrb r32_0]; omega) (by rw [ca]; omega) (by rw [cb]; omega) (by rw [ca]; have := hR.1; omega) (by rw [ca, cb]; have := hR.2.1; omega)
  rw [ca] at g1 g6 g7 g8 X'
  rw [cb] at g8 X'
  rw [hT] at g1 g2 g3 g7 g8
  have ra1 : s.vm.findClass (FieldType.array .int).toString = some (G.2.1 1) := (hX.2.2.2 0 _ rfl).2
  have ra2 : s.vm.findClass ("[" ++ (FieldType.array .int).toString) = some (G.2.1 104) := (hX.2.2.2 6 _ rfl).2
  have eA : cA = G.2.1 104 := Option.some.inj (fA.symm.trans ra2)
  have eC : comp = G.2.1 1 := Option.some.inj (fC.symm.trans ra1)
  subst eA; subst eC
  have hoc := jouter (f := fun j => if j < a.toNat then some (H.size + 1 + j) else none) g4 g6 (fun j hj => by rw [g7 j hj, if_pos hj]; rfl)
  rw [hoc] at g3
  have hj : jad G h.1.length = H.size := by unfold jad; rw [if_pos (by omega), hsz2]
  have hfin := kk F.heap locs (cells + 1 + a.toNat) (slots + a.toNat + a.toNat * b.toNat) lsr (jW_rows hW (a := a.toNat) (b := b.toNat) (by omega) (by omega) hlen g1 g2 g3 (fun j hj => by rw [g8 j hj, arrV_new])) ⟨by have := hS.1; omega, fun q h1 h2 => (g2 q (Nat.lt_of_lt_of_le h1 hS.1)).trans (hS.2.1 q h1 h2), hS.2.2⟩ hz hl hn2 (jok_push (jok_pop (jok_pop ho)) trivial) (by rw [hl1]; omega) (by rw [hsz]; omega)
  rw [List.map_cons, jsv_r, Option.map_some, hj] at hfin
  obtain ⟨t, a1, b1⟩ := hfin F rfl X'
  refine ⟨t, step t ?_, b1⟩
  rw [hT]
  exact a1
