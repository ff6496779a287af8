/-! ONE STEP OF THE SMALL MACHINE IS ONE OF THE MACHINE -/
/-- what the tables say, at a method's start -/
def jX (G : jg) (s : State) : Prop := ((∀ oc, oc < 14 → ∀ t ∈ pj_ml oc, pj_plain t = false → va_Nw (pj_mw oc t) s) ∧ vk_R (pj_C 4) 254 "field turn slope x quo rem lquo lrem gcd lgcd lcm llcm " (G.2.2.1 jKEY) s ∧ vk_R (pj_C 4) 280 ";=+*^(),"  (G.2.2.1 jSIG) s) ∧ (va_AO (pj_C 3) s ∧ va_AO (pj_C 9) s ∧ va_AO (pj_C 1) s ∧ (Cond.arrayOver (.array .int)).before #[] s = true) ∧ va_K G.1 pj_cl (jtys G) s
def jF (G : jg) (y : Nat) (p : Program) (s : State) (m : MethodId) (args : Array Value) (meth : Method) (c : Code) : Prop :=
  (p.tables.exec = Jvm.exec ∧ c.code = pby y) ∧ s.vm.findClass (pj_C (poc y)) = some m.cls ∧ c.maxLocals = pmL y ∧ meth.sig.returnType = prt y ∧ meth.locks = false ∧ (pin y = 1 → meth.name = "<init>") ∧ (∀ w ∈ pj_W, w.before args s = true) ∧ jX G s
def jvok : jv → Prop
  | .inl x => r32 x
  | .inr (.inl x) => r64 x
  | .inr (.inr _) => True
def jok (ls : List (Option jv)) (st : List jv) : Prop := (∀ i v, ls.getD i none = some v → jvok v) ∧ ∀ v ∈ st, jvok v
def jks : Nat × Nat → Nat
  | (0, ci) => if ci = 14 then 6 else pj_N ci
  | (_, n) => n
def jsz (h : jh) : Nat := (h.1.map jks).sum
/-- the goal at a place: from any heap that holds the small one, the machine comes to Q, with cE cells and sE slots made when the small heap is hE -/
def jG (G : jg) (y : Nat) (p : Program) (l : Launch) (e : Env) (R : Room) (s : State) (m : MethodId) (args : Array Value) (below : List Frame) (meth : Method) (c : Code) (Q : State → Prop) (hE : jh) (cE sE : Nat) (pc : Nat) (ls : List (Option jv)) (st : List jv) (h : jh) : Prop :=
  ∀ (H : Heap) (locs : List Loc) (cells slots : Nat) (lsr : Array Slot), jW G h H s → va_S (fun q => G.2.2.2 ≤ q) s.heap H locs → G.2.2.2 ≤ s.heap.size → lv_has lsr (pmL y) (jla G ls) → ls.length = pmL y → jok ls st → cells + hE.1.length = cE + h.1.length → slots + jsz hE = sE + jsz h →
    W p l e R s m args below meth c H locs cells slots Q (F0 m pc lsr (st.map (jsv G)))
section JS
variable {G : jg} {y : Nat} {p : Program} {l : Launch} {e : Env} {R : Room} {s : State} {m : MethodId} {args : Array Value} {below : List Frame} {meth : Method} {c : Code} {Q : State → Prop} {hE : jh} {cE sE : Nat} {pc : Nat} {ls : List (Option jv)} {st : List jv} {h : jh}
theorem jok_push {v : jv} (h1 : jok ls st) (h2 : jvok v) : jok ls (v :: st) := ⟨h1.1, fun w hw => (List.mem_cons.mp hw).elim (fun q => q ▸ h2) (h1.2 w)⟩
theorem jok_pop {v : jv} (h1 : jok ls (v :: st)) : jok ls st := ⟨h1.1, fun w hw => h1.2 w (List.mem_cons_of_mem _ hw)⟩
theorem jok_top {v : jv} (h1 : jok ls (v :: st)) : jvok v := h1.2 v List.mem_cons_self
theorem jok_st1 {n : Nat} {v : jv} (hn : n < ls.length) (h1 : jok ls st) (h2 : jvok v) : jok (jst1 ls n v) st := by
  refine ⟨fun i w hw => ?_, h1.2⟩
  unfold jst1 at hw
  rw [getD_set _ _ _ _ (by rw [jcut_len]; exact hn)] at hw
  by_cases e : i = n
  · rw [if_pos e] at hw; cases hw; exact h2
  · rw [if_neg e] at hw; exact h1.1 i w (jcut_get ls n i w hw).1
theorem jok_st2 {n : Nat} {v : jv} (hn : n + 1 < ls.length) (h1 : jok ls st) (h2 : jvok v) : jok (jst2 ls n v) st := by
  refine ⟨fun i w hw => ?_, h1.2⟩
  unfold jst2 at hw
  rw [getD_set _ _ _ _ (by rw [List.length_set, jcut_len]; exact hn)] at hw
  by_cases e1 : i = n + 1
  · rw [if_pos e1] at hw; cases hw
  rw [if_neg e1, getD_set _ _ _ _ (by rw [jcut_len]; omega)] at hw
  by_cases e : i = n
  · rw [if_pos e] at hw; cases hw; exact h2
  · rw [if_neg e] at hw; exact h1.1 i w (jcut_get ls n i w hw).1
/-- constants -/
theorem js_iconst (F : jF G y p s m args meth c) {n : Int} (hn : -128 ≤ n ∧ n < 128) (hd : decode (pby y) pc = .ok (.iconst n, 1))
    (k : jG G y p l e R s m args below meth c Q hE cE sE (pc + 1) ls (.inl n :: st) h) : jG G y p l e R s m args below meth c Q hE cE sE pc ls st h := fun H locs cells slots lsr hW hS hz hl hn2 ho hc hs =>
  lv_iconst F.1.1 F.1.2 hd rfl (k H locs cells slots lsr hW hS hz hl hn2 (jok_push ho (by unfold jvok r32; omega)) hc hs)
theorem js_bipush (F : jF G y p s m args meth c) {n : Int} (hn : -128 ≤ n ∧ n < 128) (hd : decode (pby y) pc = .ok (.bipush n, 2))
    (k : jG G y p l e R s m args below meth c Q hE cE sE (pc + 2) ls (.inl n :: st) h) : jG G y p l e R s m args below meth c Q hE cE sE pc ls st h := fun H locs cells slots lsr hW hS hz hl hn2 ho hc hs =>
  lv_bipush F.1.1 F.1.2 hd (by
    apply Int32.toInt_inj.mp
    rw [Int8.toInt_toInt32, Int8.toInt_ofInt, o32_i (by unfold r32; omega)]
    unfold Int.bmod; dsimp only [Int8.size]; split <;> omega) (k H locs cells slots lsr hW hS hz hl hn2 (jok_push ho (by unfold jvok r32; omega)) hc hs)
theorem js_sipush (F : jF G y p s m args meth c) {n : Int} (hn : -32768 ≤ n ∧ n < 32768) (hd : decode (pby y) pc = .ok (.sipush n, 3))
    (k : jG G y p l e R s m args below meth c Q hE cE sE (pc + 3) ls (.inl n :: st) h) : jG G y p l e R s m args below meth c Q hE cE sE pc ls st h := fun H locs cells slots lsr hW hS hz hl hn2 ho hc hs =>
  lv_sipush F.1.1 F.1.2 hd (by
    apply Int32.toInt_inj.mp
    rw [Int16.toInt_toInt32, Int16.toInt_ofInt, o32_i (by unfold r32; omega)]
    unfold Int.bmod; dsimp only [Int16.size]; split <;> omega) (k H locs cells slots lsr hW hS hz hl hn2 (jok_push ho (by unfold jvok r32; omega)) hc hs)
theorem js_lconst (F : jF G y p s m args meth c) {n : Fin 2} (hd : decode (pby y) pc = .ok (.lconst n, 1))
    (k : jG G y p l e R s m args below meth c Q hE cE sE (pc + 1) ls (.inr (.inl (n.val : Int)) :: st) h) : jG G y p l e R s m args below meth c Q hE cE sE pc ls st h := fun H locs cells slots lsr hW hS hz hl hn2 ho hc hs =>
  lv_lconst F.1.1 F.1.2 hd rfl (k H locs cells slots lsr hW hS hz hl hn2 (jok_push ho (by have := n.isLt; unfold jvok r64; omega)) hc hs)
theorem js_null (F : jF G y p s m args meth c) (hd : decode (pby y) pc = .ok (.aconst_null, 1))
    (k : jG G y p l e R s m args below meth c Q hE cE sE (pc + 1) ls (.inr (.inr none) :: st) h) : jG G y p l e R s m args below meth c Q hE cE sE pc ls st h := fun H locs cells slots lsr hW hS hz hl hn2 ho hc hs =>
  lv_null F.1.1 F.1.2 hd (k H locs cells slots lsr hW hS hz hl hn2 (jok_push ho trivial) hc hs)
/-- loads -/
theorem js_load (F : jF G y p s m args meth c) {n len : Nat} {v : jv} (hv : ls.getD n none = some v)
    (row : ∀ (H : Heap) (locs : List Loc) (cells slots : Nat) (lsr : Array Slot), lsr[n]? = some (.val (jsv G v)) → W p l e R s m args below meth c H locs cells slots Q (F0 m (pc + len) lsr (jsv G v :: st.map (jsv G))) → W p l e R s m args below meth c H locs cells slots Q (F0 m pc lsr (st.map (jsv G))))
    (k : jG G y p l e R s m args below meth c Q hE cE sE (pc + len) ls (v :: st) h) : jG G y p l e R s m args below meth c Q hE cE sE pc ls st h := fun H locs cells slots lsr hW hS hz hl hn2 ho hc hs =>
  row H locs cells slots lsr (jla_get hl hv) (k H locs cells slots lsr hW hS hz hl hn2 (jok_push ho (ho.1 n v hv)) hc hs)
/-- stores of one slot -/
theorem js_store (F : jF G y p s m args meth c) {n len : Nat} {v : jv} (hn : n < ls.length)
    (row : ∀ (H : Heap) (locs : List Loc) (cells slots : Nat) (lsr : Array Slot), lv_has lsr (pmL y) (jla G ls) → n < pmL y → (∀ lsr', lv_has lsr' (pmL y) ((n, jsv G v) :: (jla G ls).filter (fun q => !(q.1 == n) && !(q.1 + 1 == n && q.2.category == 2))) → W p l e R s m args below meth c H locs cells slots Q (F0 m (pc + len) lsr' (st.map (jsv G)))) → W p l e R s m args below meth c H locs cells slots Q (F0 m pc lsr (jsv G v :: st.map (jsv G))))
    (k : jG G y p l e R s m args below meth c Q hE cE sE (pc + len) (jst1 ls n v) st h) : jG G y p l e R s m args below meth c Q hE cE sE pc ls (v :: st) h := fun H locs cells slots lsr hW hS hz hl hn2 ho hc hs =>
  row H locs cells slots lsr hl (by omega) fun lsr' h' => k H locs cells slots lsr' hW hS hz (jla_st1 hn h') (by rw [jst1_len]; exact hn2) (jok_st1 hn (jok_pop ho) (jok_top ho)) hc hs
theorem js_store2 (F : jF G y p s m args meth c) {n len : Nat} {v : jv} (hn : n + 1 < ls.length)
    (row : ∀ (H : Heap) (locs : List Loc) (cells slots : Nat) (lsr : Array Slot), lv_has lsr (pmL y) (jla G ls) → n + 1 < pmL y → (∀ lsr', lv_has lsr' (pmL y) ((n, jsv G v) :: (jla G ls).filter (fun q => !(q.1 == n) && (!(q.1 == n + 1) && !(q.1 + 1 == n && q.2.category == 2)))) → W p l e R s m args below meth c H locs cells slots Q (F0 m (pc + len) lsr' (st.map (jsv G)))) → W p l e R s m args below meth c H locs cells slots Q (F0 m pc lsr (jsv G v :: st.map (jsv G))))
    (k : jG G y p l e R s m args below meth c Q hE cE sE (pc + len) (jst2 ls n v) st h) : jG G y p l e R s m args below meth c Q hE cE sE pc ls (v :: st) h := fun H locs cells slots lsr hW hS hz hl hn2 ho hc hs =>
  row H locs cells slots lsr hl (by omega) fun lsr' h' => k H locs cells slots lsr' hW hS hz (jla_st2 hn h') (by rw [jst2_len]; exact hn2) (jok_st2 hn (jok_pop ho) (jok_top ho)) hc hs
/-- arithmetic: a row of the kit over two ints -/
theorem js_bin (F : jF G y p s m args meth c) {f : Int → Int → Int} {g : Int32 → Int32 → Int32} {a b : Int} (hf : r32 a → r32 b → Int32.ofInt (f a b) = g (Int32.ofInt a) (Int32.ofInt b) ∧ r32 (f a b))
    (row : ∀ (H : Heap) (locs : List Loc) (cells slots : Nat) (lsr : Array Slot), W p l e R s m args below meth c H locs cells slots Q (F0 m (pc + 1) lsr (.int (g (Int32.ofInt a) (Int32.ofInt b)) :: st.map (jsv G))) → W p l e R s m args below meth c H locs cells slots Q (F0 m pc lsr (.int (Int32.ofInt b) :: .int (Int32.ofInt a) :: st.map (jsv G))))
    (k : jG G y p l e R s m args below meth c Q hE cE sE (pc + 1) ls (.inl (f a b) :: st) h) : jG G y p l e R s m args below meth c Q hE cE sE pc ls (.inl b :: .inl a :: st) h := fun H locs cells slots lsr hW hS hz hl hn2 ho hc hs => by
  obtain ⟨e1, e2⟩ := hf (jok_top (jok_pop ho)) (jok_top ho)
  have h9 := k H locs cells slots lsr hW hS hz hl hn2 (jok_push (jok_pop (jok_pop ho)) e2) hc hs
  refine row H locs cells slots lsr ?_
  rw [← e1]
  exact h9
theorem js_bin2 (F : jF G y p s m args meth c) {f : Int → Int → Int} {g : Int64 → Int64 → Int64} {a b : Int} (hf : r64 a → r64 b → Int64.ofInt (f a b) = g (Int64.ofInt a) (Int64.ofInt b) ∧ r64 (f a b))
    (row : ∀ (H : Heap) (locs : List Loc) (cells slots : Nat) (lsr : Array Slot), W p l e R s m args below meth c H locs cells slots Q (F0 m (pc + 1) lsr (.long (g (Int64.ofInt a) (Int64.ofInt b)) :: st.map (jsv G))) → W p l e R s m args below meth c H locs cells slots Q (F0 m pc lsr (.long (Int64.ofInt b) :: .long (Int64.ofInt a) :: st.map (jsv G))))
    (k : jG G y p l e R s m args below meth c Q hE cE sE (pc + 1) ls (.inr (.inl (f a b)) :: st) h) : jG G y p l e R s m args below meth c Q hE cE sE pc ls (.inr (.inl b) :: .inr (.inl a) :: st) h := fun H locs cells slots lsr hW hS hz hl hn2 ho hc hs => by
  obtain ⟨e1, e2⟩ := hf (jok_top (jok_pop ho)) (jok_top ho)
  have h9 := k H locs cells slots lsr hW hS hz hl hn2 (jok_push (jok_pop (jok_pop ho)) e2) hc hs
  refine row H locs cells slots lsr ?_
  rw [← e1]
  exact h9
/-- the stack alone changes -/
theorem js_stk {st' : List jv} {pc' : Nat} (row : ∀ (H : Heap) (locs : List Loc) (cells slots : Nat) (lsr : Array Slot), jok ls st → W p l e R s m args below meth c H locs cells slots Q (F0 m pc' lsr (st'.map (jsv G))) → W p l e R s m args below meth c H locs cells slots Q (F0 m pc lsr (st.map (jsv G)))) (hv : jok ls st → jok ls st')
    (k : jG G y p l e R s m args below meth c Q hE cE sE pc' ls st' h) : jG G y p l e R s m args below meth c Q hE cE sE pc ls st h := fun H locs cells slots lsr hW hS hz hl hn2 ho hc hs =>
  row H locs cells slots lsr ho (k H locs cells slots lsr hW hS hz hl hn2 (hv ho) hc hs)
/-- branches -/
theorem js_br {st' : List jv} {C : Prop} [Decidable C] {t f : Nat} (row : ∀ (H : Heap) (locs : List Loc) (cells slots : Nat) (lsr : Array Slot), jok ls st → (C → W p l e R s m args below meth c H locs cells slots Q (F0 m t lsr (st'.map (jsv G)))) → (¬ C → W p l e R s m args below meth c H locs cells slots Q (F0 m f lsr (st'.map (jsv G)))) → W p l e R s m args below meth c H locs cells slots Q (F0 m pc lsr (st.map (jsv G)))) (hv : jok ls st → jok ls st')
    (k : jG G y p l e R s m args below meth c Q hE cE sE (if C then t else f) ls st' h) : jG G y p l e R s m args below meth c Q hE cE sE pc ls st h := fun H locs cells slots lsr hW hS hz hl hn2 ho hc hs => by
  have h9 := k H locs cells slots lsr hW hS hz hl hn2 (hv ho) hc hs
  exact row H locs cells slots lsr ho (fun hC => by rw [if_pos hC] at h9; exact h9) (fun hC => by rw [if_neg hC] at h9; exact h9)
end JS
