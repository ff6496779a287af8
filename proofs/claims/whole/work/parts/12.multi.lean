/-! references into arrays, rows of rows, constants, the small calls of the JDK -/
section JM
variable {G : jg} {y : Nat} {p : Program} {l : Launch} {e : Env} {R : Room} {s : State} {m : MethodId} {args : Array Value} {below : List Frame} {meth : Method} {c : Code} {Q : State → Prop} {hE : jh} {cE sE : Nat} {pc : Nat} {ls : List (Option jv)} {st : List jv} {h : jh}
theorem jover {s : State} {t : FieldType} (h : (Cond.arrayOver (.array t)).before #[] s = true) : ∃ comp c k, s.vm.findClass (FieldType.array t).toString = some comp ∧ s.vm.classes[c]? = some k ∧ k.kind = .array comp (.array t) ∧ s.vm.findClass ("[" ++ (FieldType.array t).toString) = some c := by
  simp only [Cond.before, Cond.holds, Cond.value, beq_iff_eq] at h
  cases hc : s.vm.findClass (FieldType.array t).toString with
  | none => simp [hc] at h
  | some comp =>
    simp only [hc, Option.bind_some, Option.bind_eq_some_iff, Option.map_eq_some_iff] at h
    obtain ⟨c, hi, k, hk, hb⟩ := h
    obtain ⟨hlt, hp, -⟩ := Array.findIdx?_eq_some_iff_getElem.mp hi
    have hkk : s.vm.classes[c] = k := (Array.getElem?_eq_some_iff.mp hk).2
    rw [hkk] at hp
    cases hkind : k.kind with
    | array component ty =>
      rw [hkind] at hb hp
      simp at hb hp
      exact ⟨comp, c, k, rfl, hk, by rw [hkind, hp, hb.1], hb.2⟩
    | _ => rw [hkind] at hb; simp at hb
theorem js_aast0 (F : jF G y p s m args meth c) {cc n k v : Nat} {i : Int} {kc : Class} {comp : ClassId} {ty : FieldType} (hk : gK h cc = some (k + 4, n)) (hi : 0 ≤ i ∧ i < n) (hv : ∃ q, gK h v = some q) (hd : decode (pby y) pc = .ok (.aastore, 1))
    (h1 : s.vm.classes[G.2.1 (k + 4)]? = some kc) (h2 : kc.kind = .array comp ty) (h3 : ty.isReference = true) (h4 : ∃ kq, s.vm.classes[comp]? = some kq) (h5 : ∀ H : Heap, jW G h H s → ∃ cv : Cell, H[G.2.2.2 + v]? = some cv ∧ cv.vm = .none ∧ (∃ kv, s.vm.classes[cv.cls]? = some kv) ∧ s.vm.assignable cv.cls comp = true)
    (kk : jG G y p l e R s m args below meth c Q hE cE sE (pc + 1) ls st (wR h cc i.toNat (some v))) : jG G y p l e R s m args below meth c Q hE cE sE pc ls (.inr (.inr (some v)) :: .inl i :: .inr (.inr (some cc)) :: st) h := fun H locs cells slots lsr hW hS hz hl hn2 ho hc hs => by
  obtain ⟨⟨hx, hb⟩, hown, hml, hret, hlk, hin, hts, hX⟩ := F
  obtain ⟨hko, hat⟩ := hW.2.1 cc _ hk
  have hri : r32 i := jok_top (jok_pop ho)
  obtain ⟨qv, hv⟩ := hv
  obtain ⟨cv, c1, c2, ⟨kv, c3⟩, c4⟩ := h5 H hW
  obtain ⟨kq, h4⟩ := h4
  have hcl : (Int32.ofInt i).toNatClampNeg = i.toNat := o32_cl hi.1 hi.2 hri
  show W p l e R s m args below meth c H locs cells slots Q (F0 m pc lsr (jsv G (.inr (.inr (some v))) :: jsv G (.inl i) :: jsv G (.inr (.inr (some cc))) :: st.map (jsv G)))
  rw [jref hW hk, jref hW hv]
  refine W.aast hx hb (show H[G.2.2.2 + cc]? = some (vp_cell (G.2.1 (k + 4)) (n, .inr (.inr (.inr (.inr fun i => (gR h cc i).map (jad G)))))) from hat) (fun q h => by cases h) (fun h => by cases h) h1 h2 h3 h4 ⟨by rw [← o32_0, o32_lt hri r32_0]; omega, by show _ < (arrV _ _ _).slots.size; rw [arrV_size, hcl]; omega⟩ c1 (fun q h => by rw [c2] at h; cases h) c3 c4 rfl rfl hd fun H1 e1 z oq => ?_
  refine kk H1 _ cells slots lsr (jW_upd hW hk rfl (fun c' hc' => ⟨fun i => by rw [gR_w, if_neg (fun q => hc' q.1)], fun _ => rfl, fun _ => rfl⟩) z oq (hW.2.2.1 cc) (hW.2.2.2.1 cc) ?_) (hS.put z oq (by show G.2.2.2 ≤ _; omega)) hz hl hn2 (jok_pop (jok_pop (jok_pop ho))) hc hs
  show H1[_]? = some (vp_cell _ _)
  rw [e1, vp_cell_q, vp_cell_q, arrV_store]
  congr 2
  funext q
  rw [hcl]
  by_cases hq : q = i.toNat
  · subst hq
    simp only [updV, gR_w, and_self, if_true, Option.map_some, va_rf, jad_lt hW hv]
  · simp [updV, gR_w, hq]
theorem js_aast (F : jF G y p s m args meth c) {cc n k v : Nat} {i : Int} (hk : gK h cc = some (k + 4, n)) (hi : 0 ≤ i ∧ i < n) (hv : gK h v = some (0, k)) (hd : decode (pby y) pc = .ok (.aastore, 1))
    (kk : jG G y p l e R s m args below meth c Q hE cE sE (pc + 1) ls st (wR h cc i.toNat (some v))) : jG G y p l e R s m args below meth c Q hE cE sE pc ls (.inr (.inr (some v)) :: .inl i :: .inr (.inr (some cc)) :: st) h := fun H locs cells slots lsr hW hS hz hl hn2 ho hc hs => by
  have hX := F.2.2.2.2.2.2.2
  have hko := (hW.2.1 cc _ hk).1
  have hkv := (hW.2.1 v _ hv).1
  have hk13 : k ≠ 100 := by
    rcases hkv with ⟨-, a⟩ | ⟨a, -⟩
    · simp only at a; omega
    · simp at a
  obtain ⟨t0, ty, g1, -, -, -, -, g3⟩ := jty_at G hko (by omega)
  obtain ⟨hty, hk3⟩ := g3 k rfl hk13
  have hra := (hX.2.2.2 t0 _ g1).2
  simp only [hty] at hra
  obtain ⟨kA, comp, k1, k2, k3, -⟩ := hra
  have hcls := (hX.2.2.1 k _ (pj_cl_at (by omega))).2
  have hcomp : comp = G.1.1 k := Option.some.inj (k3.symm.trans hcls.1)
  subst hcomp
  obtain ⟨kC, hkC, -⟩ := hcls.2
  exact js_aast0 F hk hi ⟨_, hv⟩ hd k1 k2 rfl ⟨_, hkC⟩ (fun H' hW' => by
    obtain ⟨r, q1, cell, q2, q3, q4, -⟩ := (hW'.2.1 v _ hv).2
    exact ⟨cell, q2, q4, ⟨kC, by rw [q3]; exact hkC⟩, by rw [q3]; exact va_assign hcls⟩) kk H locs cells slots lsr hW hS hz hl hn2 ho hc hs
/-- a row of ints into rows -/
theorem js_aastI (F : jF G y p s m args meth c) {cc n n2 v : Nat} {i : Int} (hk : gK h cc = some (104, n)) (hi : 0 ≤ i ∧ i < n) (hv : gK h v = some (1, n2)) (hd : decode (pby y) pc = .ok (.aastore, 1))
    (kk : jG G y p l e R s m args below meth c Q hE cE sE (pc + 1) ls st (wR h cc i.toNat (some v))) : jG G y p l e R s m args below meth c Q hE cE sE pc ls (.inr (.inr (some v)) :: .inl i :: .inr (.inr (some cc)) :: st) h := fun H locs cells slots lsr hW hS hz hl hn2 ho hc hs => by
  have hX := F.2.2.2.2.2.2.2
  have ra1 : s.vm.findClass ("[" ++ (FieldType.int).toString) = some (G.2.1 1) := (hX.2.2.2 0 _ rfl).2
  have ra2 : s.vm.findClass ("[" ++ (FieldType.array .int).toString) = some (G.2.1 104) := (hX.2.2.2 6 _ rfl).2
  have hA1 := (hX.2.2.2 0 _ rfl).1
  have hA2 := (hX.2.2.2 6 _ rfl).1
  obtain ⟨-, k1, hk1, c1, hkind1⟩ := hA1 0 (fun _ => .null)
  obtain ⟨-, k2, hk2, c2, hkind2⟩ := hA2 0 (fun _ => .null)
  have hao := hX.2.1.2.2.2
  have hcomp : c2 = G.2.1 1 := by
    obtain ⟨comp, cc2, kA, a1, a3, a4, a5⟩ := jover hao
    have e1 : comp = G.2.1 1 := Option.some.inj (a1.symm.trans ra1)
    have e2 : cc2 = G.2.1 104 := Option.some.inj (a5.symm.trans ra2)
    subst e2
    have e3 : kA = k2 := Option.some.inj (a3.symm.trans hk2)
    subst e3
    rw [hkind2] at a4
    cases a4
    exact e1
  subst hcomp
  refine js_aast0 F (k := 100) hk hi ⟨_, hv⟩ hd hk2 hkind2 rfl ⟨_, hk1⟩ (fun H' hW' => ?_) kk H locs cells slots lsr hW hS hz hl hn2 ho hc hs
  refine ⟨_, (show H'[G.2.2.2 + v]? = some (vp_cell (G.2.1 1) (n2, .inl fun i => Int32.ofInt (gD h v i))) from (hW'.2.1 v _ hv).2), rfl, ⟨_, hk1⟩, ?_⟩
  show s.vm.assignable (G.2.1 1) (G.2.1 1) = true
  show s.vm.assignableAux (255 + 1) _ _ = true
  rw [Vm.assignableAux]
  simp only [beq_self_eq_true, Bool.true_or]
/-- constants of the pool -/
theorem pj_cons : (Cond.constant (pj_C 12) 446 1073741824 ∈ pj_W ∧ Cond.constant (pj_C 15) 265 1431655765 ∈ pj_W ∧ Cond.constant (pj_C 15) 266 858993459 ∈ pj_W ∧ Cond.constant (pj_C 15) 267 252645135 ∈ pj_W) ∧ Cond.constantLong (pj_C 12) 293 27 ∈ pj_W ∧ Cond.constantLong (pj_C 12) 295 96 ∈ pj_W := by
  have h := pj_con_ok
  simp only [Bool.and_eq_true, List.contains_iff_mem] at h
  exact ⟨⟨h.1.1.1.1.1, h.1.1.1.1.2, h.1.1.1.2, h.1.1.2⟩, h.1.2, h.2⟩
theorem js_ldcw (F : jF G y p s m args meth c) {k : Nat} {x : Int} (hx : r32 x) (hw : Cond.constant (pj_C (poc y)) k (Int32.ofInt x) ∈ pj_W) (hd : decode (pby y) pc = .ok (.ldc_w k, 3))
    (kk : jG G y p l e R s m args below meth c Q hE cE sE (pc + 3) ls (.inl x :: st) h) : jG G y p l e R s m args below meth c Q hE cE sE pc ls st h := fun H locs cells slots lsr hW hS hz hl hn2 ho hc hs =>
  lv_ldcw F.1.1 F.1.2 F.2.1 (F.2.2.2.2.2.2.1 _ hw) hd (kk H locs cells slots lsr hW hS hz hl hn2 (jok_push ho hx) hc hs)
theorem js_ldc2 (F : jF G y p s m args meth c) {k : Nat} {x : Int} (hx : r64 x) (hw : Cond.constantLong (pj_C (poc y)) k (Int64.ofInt x) ∈ pj_W) (hd : decode (pby y) pc = .ok (.ldc2_w k, 3))
    (kk : jG G y p l e R s m args below meth c Q hE cE sE (pc + 3) ls (.inr (.inl x) :: st) h) : jG G y p l e R s m args below meth c Q hE cE sE pc ls st h := fun H locs cells slots lsr hW hS hz hl hn2 ho hc hs =>
  lv_ldc2 F.1.1 F.1.2 F.2.1 (F.2.2.2.2.2.2.1 _ hw) hd (kk H locs cells slots lsr hW hS hz hl hn2 (jok_push ho hx) hc hs)
theorem jwt_sum (G : jg) : ∀ st : List jv, ((st.map (jsv G)).map fun v => v.category).sum = jwt st
  | [] => rfl
  | v :: st => by
    have ih := jwt_sum G st
    rw [List.map_cons, List.map_cons, List.sum_cons, ih, jsv_cat]
    match v with
    | .inl x => rfl
    | .inr (.inl x) => rfl
    | .inr (.inr x) => rfl
set_option maxRecDepth 100000 in
theorem pj_math : (pj_W.contains (Cond.static Lib.Math.max.name) && pj_W.contains (Cond.static Lib.Math.min.name) && pj_W.contains (Cond.initialized "java/lang/Math") && pj_W.contains (Cond.instanceMethod objectInit)) = true := by decide +kernel
theorem pj_maths : Cond.static Lib.Math.max.name ∈ pj_W ∧ Cond.static Lib.Math.min.name ∈ pj_W ∧ Cond.initialized "java/lang/Math" ∈ pj_W ∧ Cond.instanceMethod objectInit ∈ pj_W := by
  have h := pj_math
  simp only [Bool.and_eq_true, List.contains_iff_mem] at h
  exact ⟨h.1.1.1, h.1.1.2, h.1.2, h.2⟩
set_option maxRecDepth 100000 in
theorem pj_cmax : Cond.code Lib.Math.max.name Lib.Math.max.code 2 (some .int) ∈ pj_W := List.mem_filter.mpr ⟨List.mem_of_getElem? (i := 176) rfl, rfl⟩
set_option maxRecDepth 100000 in
theorem pj_cmin : Cond.code Lib.Math.min.name Lib.Math.min.code 2 (some .int) ∈ pj_W := List.mem_filter.mpr ⟨List.mem_of_getElem? (i := 641) rfl, rfl⟩
set_option maxRecDepth 100000 in
theorem pj_cobj : Cond.code objectInit ⟨#[0xb1]⟩ 1 none ∈ pj_W := List.mem_filter.mpr ⟨List.mem_of_getElem? (i := 147) rfl, rfl⟩
/-- a method link's word, by its kind -/
theorem pml_w {oc k kd y2 : Nat} (h : pml oc k = some (kd, y2)) (hk : pj_plain (k, kd, y2) = true) : pj_mw oc (k, kd, y2) ∈ pj_W := by
  obtain ⟨-, hm⟩ := pml_ok h
  exact pj_mws oc _ (List.mem_map.mpr ⟨_, List.mem_filter.mpr ⟨hm, hk⟩, rfl⟩)
theorem js_max (F : jF G y p s m args meth c) {k y2 : Nat} {a b : Int} (hk : pml (poc y) k = some (10, y2)) (hw : jwt st ≤ 8) (hroom : 1 ≤ R.frames ∧ 100 ≤ R.locals) (hd : decode (pby y) pc = .ok (.invokestatic k, 3)) (hR : jroom R hE cE sE) (hp : jpre h hE)
    (kk : jG G y p l e R s m args below meth c Q hE cE sE (pc + 3) ls (.inl (if a < b then b else a) :: st) h) : jG G y p l e R s m args below meth c Q hE cE sE pc ls (.inl b :: .inl a :: st) h := fun H locs cells slots lsr hW hS hz hl hn2 ho hc hs => by
  obtain ⟨⟨hx, hb⟩, hown, hml, hret, hlk, hin, hts, hX⟩ := F
  have ra : r32 a := jok_top (jok_pop ho)
  have rb : r32 b := jok_top ho
  have p1 := jpre_len hp
  have p2 := jpre_sz hp
  refine va_mmax hx hb (by rw [hml]; exact hl.1.symm) hown (hts _ (pml_w hk rfl)) (hts _ pj_maths.1) (hts _ pj_maths.2.2.1) (hts _ pj_cmax) hroom.1 (by rw [jwt_sum]; omega) (by have := hR.1; omega) (by have := hR.2.1; omega) hd ?_
  have h9 := kk H locs cells slots lsr hW hS hz hl hn2 (jok_push (jok_pop (jok_pop ho)) (show r32 _ by split <;> assumption)) hc hs
  have e : (if Int32.ofInt a < Int32.ofInt b then Int32.ofInt b else Int32.ofInt a) = Int32.ofInt (if a < b then b else a) := by
    by_cases q : a < b
    · rw [if_pos q, if_pos ((o32_lt ra rb).mpr q)]
    · rw [if_neg q, if_neg (fun z => q ((o32_lt ra rb).mp z))]
  rw [e]
  exact h9
theorem js_min (F : jF G y p s m args meth c) {k y2 : Nat} {a b : Int} (hk : pml (poc y) k = some (11, y2)) (hw : jwt st ≤ 8) (hroom : 1 ≤ R.frames ∧ 100 ≤ R.locals) (hd : decode (pby y) pc = .ok (.invokestatic k, 3)) (hR : jroom R hE cE sE) (hp : jpre h hE)
    (kk : jG G y p l e R s m args below meth c Q hE cE sE (pc + 3) ls (.inl (if b < a then b else a) :: st) h) : jG G y p l e R s m args below meth c Q hE cE sE pc ls (.inl b :: .inl a :: st) h := fun H locs cells slots lsr hW hS hz hl hn2 ho hc hs => by
  obtain ⟨⟨hx, hb⟩, hown, hml, hret, hlk, hin, hts, hX⟩ := F
  have ra : r32 a := jok_top (jok_pop ho)
  have rb : r32 b := jok_top ho
  have p1 := jpre_len hp
  have p2 := jpre_sz hp
  refine va_mmin hx hb (by rw [hml]; exact hl.1.symm) hown (hts _ (pml_w hk rfl)) (hts _ pj_maths.2.1) (hts _ pj_maths.2.2.1) (hts _ pj_cmin) hroom.1 (by rw [jwt_sum]; omega) (by have := hR.1; omega) (by have := hR.2.1; omega) hd ?_
  have h9 := kk H locs cells slots lsr hW hS hz hl hn2 (jok_push (jok_pop (jok_pop ho)) (show r32 _ by split <;> assumption)) hc hs
  have e : (if Int32.ofInt b < Int32.ofInt a then Int32.ofInt b else Int32.ofInt a) = Int32.ofInt (if b < a then b else a) := by
    by_cases q : b < a
    · rw [if_pos q, if_pos ((o32_lt rb ra).mpr q)]
    · rw [if_neg q, if_neg (fun z => q ((o32_lt rb ra).mp z))]
  rw [e]
  exact h9
theorem js_obj (F : jF G y p s m args meth c) {k y2 o : Nat} (hk : pml (poc y) k = some (15, y2)) (hw : jwt st ≤ 8) (hroom : 1 ≤ R.frames ∧ 100 ≤ R.locals) (hd : decode (pby y) pc = .ok (.invokespecial k, 3))
    (kk : jG G y p l e R s m args below meth c Q hE cE sE (pc + 3) ls st h) : jG G y p l e R s m args below meth c Q hE cE sE pc ls (.inr (.inr (some o)) :: st) h := fun H locs cells slots lsr hW hS hz hl hn2 ho hc hs => by
  obtain ⟨⟨hx, hb⟩, hown, hml, hret, hlk, hin, hts, hX⟩ := F
  refine W.objInit (g := F0 m pc lsr (.ref (jad G o) :: st.map (jsv G))) hx hb hown (hts _ (pml_w hk rfl)) (hts _ pj_maths.2.2.2) (hts _ pj_cobj) rfl (by rw [hml]; exact hl.1) rfl hd hroom.1 ?_ ?_
  · rw [jwt_sum]
    have : (F0 m pc lsr (.ref (jad G o) :: st.map (jsv G))).monitorRoom = 0 := rfl
    rw [this]; omega
  · exact kk H locs cells slots lsr hW hS hz hl hn2 (jok_pop ho) hc hs
end JM
