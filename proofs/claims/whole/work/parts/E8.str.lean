/-! THE TWO TEXTS: the JDK's methods of them, by contract (wip/whole/gen_e8.py) -/
def jnCod : MethodName := ⟨"java/lang/String", "coder", "()B"⟩
def jnLen : MethodName := ⟨"java/lang/String", "length", "()I"⟩
def jnLat : MethodName := ⟨"java/lang/String", "isLatin1", "()Z"⟩
def jnPck : MethodName := ⟨"jdk/internal/util/Preconditions", "checkIndex", "(IILjava/util/function/BiFunction;)I"⟩
def jnSck : MethodName := ⟨"java/lang/String", "checkIndex", "(II)V"⟩
def jnLch : MethodName := ⟨"java/lang/StringLatin1", "charAt", "([BI)C"⟩
def jnCha : MethodName := ⟨"java/lang/String", "charAt", "(I)C"⟩
def jnCan : MethodName := ⟨"java/lang/StringLatin1", "canEncode", "(I)Z"⟩
def jnIch : MethodName := ⟨"java/lang/StringLatin1", "indexOfChar", "([BIII)I"⟩
def jnLix : MethodName := ⟨"java/lang/StringLatin1", "indexOf", "([BIII)I"⟩
def jnIx2 : MethodName := ⟨"java/lang/String", "indexOf", "(II)I"⟩
def jnIx1 : MethodName := ⟨"java/lang/String", "indexOf", "(I)I"⟩
def jsWL : List Cond := [Cond.code jnCod prog_23_method_152_code 1 (some .byte),
  Cond.code jnLen prog_23_method_54_code 1 (some .int),
  Cond.code jnLat prog_23_method_154_code 1 (some .boolean),
  Cond.code jnPck prog_30_method_11_code 3 (some .int),
  Cond.code jnSck prog_23_method_155_code 2 none,
  Cond.code jnLch prog_24_method_2_code 2 (some .char),
  Cond.code jnCha prog_23_method_56_code 2 (some .char),
  Cond.code jnCan prog_24_method_4_code 1 (some .boolean),
  Cond.code jnIch prog_24_method_23_code 6 (some .int),
  Cond.code jnLix prog_24_method_22_code 4 (some .int),
  Cond.code jnIx2 prog_23_method_80_code 3 (some .int),
  Cond.code jnIx1 prog_23_method_79_code 2 (some .int),
  Cond.initialized "java/lang/String",
  Cond.initialized "java/lang/StringLatin1",
  Cond.initialized "jdk/internal/util/Preconditions",
  Cond.instanceMethod jnCod,
  Cond.selects "java/lang/String" jnCod jnCod,
  Cond.instanceMethod jnLen,
  Cond.selects "java/lang/String" jnLen jnLen,
  Cond.instanceMethod jnLat,
  Cond.selects "java/lang/String" jnLat jnLat,
  Cond.instanceMethod jnCha,
  Cond.selects "java/lang/String" jnCha jnCha,
  Cond.instanceMethod jnIx2,
  Cond.selects "java/lang/String" jnIx2 jnIx2,
  Cond.instanceMethod jnIx1,
  Cond.selects "java/lang/String" jnIx1 jnIx1,
  Cond.static jnPck,
  Cond.static jnSck,
  Cond.static jnLch,
  Cond.static jnCan,
  Cond.static jnIch,
  Cond.static jnLix,
  Cond.methodLink "java/lang/String" 335 jnCod,
  Cond.methodLink "java/lang/String" 492 jnLat,
  Cond.methodLink "java/lang/String" 495 jnLch,
  Cond.methodLink "java/lang/String" 505 jnLen,
  Cond.methodLink "java/lang/String" 633 jnIx2,
  Cond.methodLink "java/lang/String" 637 jnLix,
  Cond.methodLink "java/lang/String" 1059 jnPck,
  Cond.methodLink "java/lang/StringLatin1" 9 jnSck,
  Cond.methodLink "java/lang/StringLatin1" 88 jnCan,
  Cond.methodLink "java/lang/StringLatin1" 95 jnIch,
  Cond.methodLink "java/lang/StringLatin1" 92 Lib.Math.max.name,
  Cond.methodLink "java/lang/StringLatin1" 38 Lib.Math.min.name,
  Cond.fieldLink "java/lang/String" 38 "java/lang/String" "COMPACT_STRINGS" "Z",
  Cond.fieldLink "java/lang/String" 15 "java/lang/String" "coder" "B",
  Cond.fieldLink "java/lang/String" 9 "java/lang/String" "value" "[B",
  Cond.fieldLink "java/lang/String" 1053 "jdk/internal/util/Preconditions" "SIOOBE_FORMATTER" "Ljava/util/function/BiFunction;"]
set_option maxRecDepth 100000 in
theorem jsWL_ok : (jsWL.all fun w => pj_W.contains w) = true := by decide +kernel
theorem jsW {k : Nat} {w : Cond} (h : jsWL[k]? = some w) : w ∈ pj_W := List.contains_iff_mem.mp (List.all_eq_true.mp jsWL_ok w (List.mem_of_getElem? h))
section STR
variable {G : jg}
/-- a text's bytes, at the cell that x names -/
def jXx (G : jg) (x : Option (Nat × Nat)) (U : State) (H : Heap) : Prop := ∀ t i, x = some (t, i) → i < 2 ∧ va_T .byte t (jTbl.getD i 0) (fun j => .int ((jTbb.getD i []).getD j 0)) (jTn G) U H
theorem jXx_moved {x : Option (Nat × Nat)} {u U : State} {H : Heap} (hvm : u.vm.Alike U.vm) (h : jXx G x u H) : jXx G x U H := fun t i e => ⟨(h t i e).1, va_T.moved hvm (h t i e).2⟩
theorem jXx_no {U : State} {H : Heap} : jXx G none U H := fun t i e => by cases e
def jSW (G : jg) (x : Option (Nat × Nat)) (U : State) : Prop := jT G U.heap U ∧ G.2.2.2 ≤ U.heap.size ∧ jXx G x U U.heap
def jSQ (v : Option Value) : Array Value → State → Outcome → State → Prop := fun _ st oc t => oc = .returned v ∧ t.heap = st.heap
def jSws (y : MethodName) (bytes : ByteArray) (maxL : Nat) (ret : Option FieldType) : List Cond := Cond.code y bytes maxL ret :: pj_W
def jSm (G : jg) (l : Launch) (y : MethodName) (bytes : ByteArray) (maxL : Nat) (ret : Option FieldType) (fr lo : Nat) (x : Option (Nat × Nat)) (av : List Value) (v : Option Value) : Prop :=
  Met l y (jSws y bytes maxL ret) { frames := fr, cells := 0, slots := 0, locals := lo } (va_Pc av (jSW G x)) (jSQ v) 0 0 (fun _ => False)
theorem jSblind {x : Option (Nat × Nat)} {av : List Value} : FrameBlind (va_Pc av (jSW G x)) := by
  intro a U g mk q
  obtain ⟨q0, q1, q2, q3⟩ := q
  exact ⟨q0, jT_moved (s := U) (U := U.calling g mk a) (Vm.Alike.refl U.vm) q1, q2, jXx_moved (u := U) (U := U.calling g mk a) (Vm.Alike.refl U.vm) q3⟩
theorem jSgood {w : Cond} (h : w ∈ pj_W) : w ∈ pj_W ∧ ((w.onTables && w.keeps) = true ∨ ∃ ty, w = .arrayClass ty) := ⟨h, good_of_word (pj_Wgood h).2⟩
theorem jS_ne : (("java/lang/String" : String) ≠ "java/lang/invoke/MethodHandle" ∧ ("java/lang/String" : String) ≠ "java/lang/invoke/VarHandle") ∧ (("java/lang/StringLatin1" : String) ≠ "java/lang/invoke/MethodHandle" ∧ ("java/lang/StringLatin1" : String) ≠ "java/lang/invoke/VarHandle") ∧ (("jdk/internal/util/Preconditions" : String) ≠ "java/lang/invoke/MethodHandle" ∧ ("jdk/internal/util/Preconditions" : String) ≠ "java/lang/invoke/VarHandle") := by decide
section
variable {p : Program} {l : Launch} {e : Env} {R : Room} {s : State} {m : MethodId} {args : Array Value} {below : List Frame} {meth : Method} {c : Code} {H : Heap} {locs : List Loc} {cells slots : Nat} {Q : State → Prop}
variable {cc : ByteArray} {nL index fr lo maxL pc : Nat} {own : String} {y : MethodName} {bytes : ByteArray} {ret : Option FieldType} {As rest : List Value} {b : Addr} {v : Option Value} {lsr : Array Slot} {x : Option (Nat × Nat)}
theorem jscall_go {g : JFrame} {a : Array Value} (hr : va_Run p l e R s m args below meth c H locs cells slots 0 0 g rest (jSQ v a) (fun _ => False)) (kk : W p l e R s m args below meth c H locs cells slots Q { g with pc := g.pc + 3, stack := v.toList ++ rest }) : W p l e R s m args below meth c H locs cells slots Q g := by
  intro T hT X
  obtain ⟨v', st₀, t, T', L, h0, X', hL, e1, e2, ⟨hv, hh⟩, st⟩ := hr T hT X
  cases hv
  have hL0 : L = [] := by
    cases L with
    | nil => rfl
    | cons x _ => exact (hL x List.mem_cons_self).elim
  subst hL0
  rw [List.append_nil, Nat.add_zero, Nat.add_zero] at X'
  obtain ⟨t2, a1, b1⟩ := kk T' (by rw [e1, hh, h0]) X'
  exact ⟨t2, st t2 a1, b1⟩
theorem jscV (hx : p.tables.exec = Jvm.exec) (hb : c.code = cc) (hml : c.maxLocals = nL) (hown : s.vm.findClass own = some m.cls) (hts : ∀ w ∈ pj_W, w.before args s = true) (hM : jSm G l y bytes maxL ret fr lo x (.ref b :: As) v) (hcode : Cond.code y bytes maxL ret ∈ pj_W) (hlink : Cond.methodLink own index y ∈ pj_W) (hinst : Cond.instanceMethod y ∈ pj_W) (hsel : Cond.selects "java/lang/String" y y ∈ pj_W) (hyc : y.cls = "java/lang/String")
    (hnp : (parseMethodDescriptor y.desc).map (fun d => d.parameters.length) = some As.length) (hrec : ∃ cell : Cell, H[b]? = some cell ∧ cell.vm.isStatics = false ∧ s.vm.findClass "java/lang/String" = some cell.cls) (hJ : jT G H s) (hz : G.2.2.2 ≤ H.size) (hxx : jXx G x s H) (hls : lsr.size = nL) (hwt : (rest.map fun v => v.category).sum ≤ 8) (hd : decode cc pc = .ok (.invokevirtual index, 3))
    (hroom : fr + 1 ≤ R.frames ∧ 8 + (maxL + 11) + lo ≤ R.locals) (hcs : cells ≤ R.cells ∧ slots ≤ R.slots) (kk : W p l e R s m args below meth c H locs cells slots Q (F0 m (pc + 3) lsr (v.toList ++ rest))) : W p l e R s m args below meth c H locs cells slots Q (F0 m pc lsr (As.reverse ++ .ref b :: rest)) := by
  have hG : GoodIn pj_W (wsV own index "java/lang/String" y (jSws y bytes maxL ret)) := by
    intro w hw9
    refine jSgood ?_
    unfold wsV jSws at hw9
    rcases List.mem_append.mp hw9 with q | q
    · simp only [List.mem_cons, List.not_mem_nil, or_false] at q
      rcases q with rfl | rfl | rfl | rfl
      · exact hlink
      · exact hinst
      · exact hsel
      · exact jsW (k := 12) rfl
    · rcases List.mem_cons.mp q with rfl | q
      · exact hcode
      · exact q
  have hpre : PreV s H "java/lang/String" b (va_Pc (.ref b :: As) (jSW G x)) As := ⟨jSblind, hrec, fun U hU hw => ⟨rfl, by rw [hU]; exact jT_moved hw.alike hJ, by rw [hU]; exact hz, by rw [hU]; exact jXx_moved hw.alike hxx⟩⟩
  have hr := va_runV (R := R) (locs := locs) (cells := cells) (slots := slots) (below := below) (meth := meth) (e := e) (nL := nL) (g := F0 m pc lsr (As.reverse ++ .ref b :: rest)) (rest := rest) ⟨hx, hb, hml, hown, hts⟩ hM (cwV (R := R) (s := s) (args := args) (own := own) (index := index) (C := "java/lang/String") As.length hts hG rfl rfl rfl ⟨hyc, by rw [hyc]; exact jS_ne.1.1, by rw [hyc]; exact jS_ne.1.2, hnp⟩ hroom) hpre rfl rfl hls rfl (by show 2 * 0 + _ ≤ 8; omega) hd ⟨by omega, by omega⟩
  exact jscall_go hr kk
theorem jscS (hx : p.tables.exec = Jvm.exec) (hb : c.code = cc) (hml : c.maxLocals = nL) (hown : s.vm.findClass own = some m.cls) (hts : ∀ w ∈ pj_W, w.before args s = true) (hM : jSm G l y bytes maxL ret fr lo x As v) (hcode : Cond.code y bytes maxL ret ∈ pj_W) (hlink : Cond.methodLink own index y ∈ pj_W) (hstat : Cond.static y ∈ pj_W) (hini : Cond.initialized y.cls ∈ pj_W) (hne : y.cls ≠ "java/lang/invoke/MethodHandle" ∧ y.cls ≠ "java/lang/invoke/VarHandle")
    (hnp : (parseMethodDescriptor y.desc).map (fun d => d.parameters.length) = some As.length) (hJ : jT G H s) (hz : G.2.2.2 ≤ H.size) (hxx : jXx G x s H) (hls : lsr.size = nL) (hwt : (rest.map fun v => v.category).sum ≤ 8) (hd : decode cc pc = .ok (.invokestatic index, 3))
    (hroom : fr + 1 ≤ R.frames ∧ 8 + (maxL + 11) + lo ≤ R.locals) (hcs : cells ≤ R.cells ∧ slots ≤ R.slots) (kk : W p l e R s m args below meth c H locs cells slots Q (F0 m (pc + 3) lsr (v.toList ++ rest))) : W p l e R s m args below meth c H locs cells slots Q (F0 m pc lsr (As.reverse ++ rest)) := by
  have hG : GoodIn pj_W (jSws y bytes maxL ret) := by
    intro w hw9
    refine jSgood ?_
    rcases List.mem_cons.mp hw9 with rfl | q
    · exact hcode
    · exact q
  have hpre : PreS s H (va_Pc As (jSW G x)) As := ⟨jSblind, fun U hU hw => ⟨rfl, by rw [hU]; exact jT_moved hw.alike hJ, by rw [hU]; exact hz, by rw [hU]; exact jXx_moved hw.alike hxx⟩⟩
  have hr := va_runS (R := R) (locs := locs) (cells := cells) (slots := slots) (below := below) (meth := meth) (e := e) (nL := nL) (g := F0 m pc lsr (As.reverse ++ rest)) (rest := rest) ⟨hx, hb, hml, hown, hts⟩ hM ⟨callB_of (R := R) (s := s) (args := args) (own := own) (index := index) As.length hts hG rfl rfl rfl (hts _ hini) (hts _ hlink) ⟨hne.1, hne.2, hnp⟩ hroom, hts _ hstat⟩ hpre rfl rfl hls rfl (by show 2 * 0 + _ ≤ 8; omega) hd ⟨by omega, by omega⟩
  exact jscall_go hr kk
end
/-- a body's start -/
theorem jSof {l : Launch} {y : MethodName} {bytes : ByteArray} {maxL : Nat} {ret : Option FieldType} {fr lo : Nat} {xx : Option (Nat × Nat)} {av : List Value} {v : Option Value} (hp : plainName y.cls = true) (hn : (lg_sl av).length ≤ maxL)
    (body : ∀ (p : Program) (e : Env) (s : State) (m : MethodId) (below : List Frame) (meth : Method) (c : Code) (lsr : Array Slot), p.tables.exec = Jvm.exec → c.code = bytes → c.maxLocals = maxL → s.vm.findClass y.cls = some m.cls → (∀ w ∈ pj_W, w.before av.toArray s = true) → meth.sig.returnType = ret → meth.locks = false → jT G s.heap s → G.2.2.2 ≤ s.heap.size → jXx G xx s s.heap → va_S (jTn G) s.heap s.heap [] → lv_has lsr maxL (lv_args 0 av) →
      (∀ (ty : FieldType) (x : Int32) (pc : Nat) (ls : Array Slot), ret = some ty → narrow ty (.int x) = .int x → v = some (.int x) → decode bytes pc = .ok (.ireturn, 1) → W p l e { frames := fr, cells := 0, slots := 0, locals := lo } s m av.toArray below meth c s.heap [] 0 0 (MQ below (jSQ v) av.toArray s 0 0 (fun _ => False)) (F0 m pc ls [.int x])) →
      W p l e { frames := fr, cells := 0, slots := 0, locals := lo } s m av.toArray below meth c s.heap [] 0 0 (MQ below (jSQ v) av.toArray s 0 0 (fun _ => False)) (F0 m 0 lsr [])) : jSm G l y bytes maxL ret fr lo xx av v := by
  refine Met.ofW hp rfl ?_
  intro p e s m args below meth c s₁ B hml hP
  obtain ⟨rfl, hJ, hz, hxx⟩ := hP
  rw [lg_entry_eq]
  have hts := atoms_spec (ws := jSws y bytes maxL ret) B.pre
  exact body p e s m below meth c _ B.exec B.bytes hml (findClass_of_methodNamed B.named) (fun w hw => hts w (List.mem_cons_of_mem _ hw)) B.returns B.notSynchronized hJ hz hxx va_S.rf (lv_entry av hn) (fun ty x pc ls hr hnr hv hd => by
    subst hv
    exact W.zret B.exec B.bytes (by rw [B.returns]; exact hr) hnr (fun t ht _ => ⟨rfl, ht⟩) (fun q hq => nomatch hq) hd B.notSynchronized)
end STR
