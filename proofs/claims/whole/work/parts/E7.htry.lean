/-! THE LAW'S THREE HELPERS: their contracts; a try call -/
section HELP2
variable {G : jg}
def jhR (d a b : Nat) : Room := { frames := 2 * d + 21, cells := a, slots := b, locals := 100 * d + 5030 }
def jhS (yh : MethodName) (bytes : ByteArray) (maxL : Nat) (hh : List (Nat × Nat × Nat × Nat)) : List Cond := Cond.codeWith yh bytes maxL (some .int) hh :: pj_W
def jhD : MethodName := ⟨"TurnedRingLaw", "degree", "(LTurnedRing;I[J)I"⟩
def jhA : MethodName := ⟨"TurnedRingLaw", "at", "(LTurnedRing;II[J)I"⟩
def jhQ : MethodName := ⟨"TurnedRingLaw", "result", "(LTurnedRing;II[J)I"⟩
set_option maxRecDepth 100000 in
theorem jh_words : (([Cond.codeWith jhD method_3_code 4 (some .int) [(0, 9, 12, 13)], Cond.static jhD, Cond.codeWith jhA method_4_code 5 (some .int) [(0, 10, 13, 13)], Cond.static jhA, Cond.codeWith jhQ method_5_code 5 (some .int) [(0, 10, 13, 13)], Cond.static jhQ,
    Cond.classLink "TurnedRingLaw" 13 jXN, Cond.methodLink "TurnedRingLaw" 7 (pj_n 181), Cond.methodLink "TurnedRingLaw" 15 (pj_n 182), Cond.methodLink "TurnedRingLaw" 19 (pj_n 183)] : List Cond).all fun w => pj_W.contains w) = true := by decide +kernel
theorem jh_w {w : Cond} (h : w ∈ ([Cond.codeWith jhD method_3_code 4 (some .int) [(0, 9, 12, 13)], Cond.static jhD, Cond.codeWith jhA method_4_code 5 (some .int) [(0, 10, 13, 13)], Cond.static jhA, Cond.codeWith jhQ method_5_code 5 (some .int) [(0, 10, 13, 13)], Cond.static jhQ,
    Cond.classLink "TurnedRingLaw" 13 jXN, Cond.methodLink "TurnedRingLaw" 7 (pj_n 181), Cond.methodLink "TurnedRingLaw" 15 (pj_n 182), Cond.methodLink "TurnedRingLaw" 19 (pj_n 183)] : List Cond)) : w ∈ pj_W := List.contains_iff_mem.mp (List.all_eq_true.mp jh_words w h)
theorem jh_npD : (parseMethodDescriptor jhD.desc).map (fun d => d.parameters.length) = some 3 := by decide +kernel
theorem jh_npA : (parseMethodDescriptor jhA.desc).map (fun d => d.parameters.length) = some 4 := by decide +kernel
theorem jh_npQ : (parseMethodDescriptor jhQ.desc).map (fun d => d.parameters.length) = some 4 := by decide +kernel
theorem jh_n1 : (parseMethodDescriptor (pj_n 181).desc).map (fun d => d.parameters.length) = some 1 ∧ 2 ≤ pmL 181 := by decide +kernel
theorem jh_n2 : (parseMethodDescriptor (pj_n 182).desc).map (fun d => d.parameters.length) = some 2 ∧ 3 ≤ pmL 182 := by decide +kernel
theorem jh_n3 : (parseMethodDescriptor (pj_n 183).desc).map (fun d => d.parameters.length) = some 2 ∧ 3 ≤ pmL 183 := by decide +kernel
theorem jh_ne : ("TurnedRingLaw" : String) ≠ "java/lang/invoke/MethodHandle" ∧ ("TurnedRingLaw" : String) ≠ "java/lang/invoke/VarHandle" := by decide
set_option maxRecDepth 100000 in
/-- a try call, given the helper's contract -/
theorem jcallH {p : Program} {l : Launch} {e : Env} {R : Room} {s : State} {m : MethodId} {args : Array Value} {below : List Frame} {meth : Method} {c : Code} {Q : State → Prop} {hE : jh} {cE sE pc : Nat} {ls : List (Option jv)} {st : List jv} {h h2 : jh} {z : Int} {d k maxL : Nat} {yh : MethodName} {bytes : ByteArray} {hh : List (Nat × Nat × Nat × Nat)} {av rs : List jv}
    (F : jFZ G 297 p s m args meth c) (hok : jok3 (d + 1) R) (hR : jroom R hE cE sE) (hM' : Met l yh (jhS yh bytes maxL hh) (jhR d (h2.1.length - h.1.length) (jsz h2 - jsz h)) (jPcZ G av h) (jQcZ G (some (.inl z)) h2) (h2.1.length - h.1.length) (jsz h2 - jsz h) (fun q => G.2.2.2 ≤ q))
    (hcw : Cond.codeWith yh bytes maxL (some .int) hh ∈ pj_W) (hlink : Cond.methodLink "TurnedRingLaw" k yh ∈ pj_W) (hstat : Cond.static yh ∈ pj_W) (hyc : yh.cls = "TurnedRingLaw") (hpn : (parseMethodDescriptor yh.desc).map (fun d => d.parameters.length) = some av.length) (hmx : maxL ≤ 5)
    (hd : decode (pby 297) pc = .ok (.invokestatic k, 3)) (hst : st = av.reverse ++ rs) (hw : jwt rs ≤ 8) (hpr : jpre h h2) (hpE : jpre h2 hE)
    (kk : jGZ G 297 p l e R s m args below meth c Q hE cE sE (pc + 3) ls (.inl z :: rs) h2) : jGZ G 297 p l e R s m args below meth c Q hE cE sE pc ls st h := fun H locs cells slots lsr hW hS hz hl hn2 ho hc hs => by
  have eo : poc 297 = 13 := jL_0.2.2.2.2.2.2.2.2
  obtain ⟨⟨hx0, hb⟩, hown, hml, hret, hlk, hin, hts, hX⟩ := F
  rw [eo] at hown
  have p1 := jpre_len hpr
  have p2 := jpre_sz hpr
  have p3 := jpre_len hpE
  have p4 := jpre_sz hpE
  have hcR : cells + (h2.1.length - h.1.length) ≤ R.cells := by have := hR.1; omega
  have hsR : slots + (jsz h2 - jsz h) ≤ R.slots := by have := hR.2.1; omega
  have hors : jok ls rs := ⟨ho.1, fun v hv => ho.2 v (by rw [hst]; exact List.mem_append_right _ hv)⟩
  have hblind : ∀ U : State, U.heap = H → s.WarmedH U.vm → jPcZ G av h (av.map (jsv G)).toArray U := fun U hU hw => ⟨rfl, by rw [hU]; exact jW_movedZ hw.alike hW, by rw [hU]; have := hS.1; omega, jX_warmZ hw hX⟩
  have hpre : PreS s H (jPcZ G av h) (av.map (jsv G)) := ⟨jPc_blindZ, hblind⟩
  have hstk : (F0 m pc lsr (st.map (jsv G))).stack = (av.map (jsv G)).reverse ++ rs.map (jsv G) := by
    show st.map (jsv G) = _
    rw [hst, List.map_append, List.map_reverse]
  have hwt : 2 * (F0 m pc lsr (st.map (jsv G))).monitorRoom + ((rs.map (jsv G)).map fun v => v.category).sum ≤ 8 := by
    show 2 * 0 + _ ≤ 8
    rw [jwt_sum]; omega
  have hG : GoodIn pj_W (va_wsS "TurnedRingLaw" k yh (jhS yh bytes maxL hh)) := by
    intro w hw9
    have hmw : w ∈ pj_W := by
      unfold va_wsS jhS at hw9
      rcases List.mem_append.mp hw9 with q | q
      · simp only [List.mem_cons, List.not_mem_nil, or_false] at q
        rcases q with rfl | rfl | rfl
        · exact hlink
        · exact hstat
        · rw [hyc]; exact pj_ini (oc := 13) (by omega)
      · rcases List.mem_cons.mp q with rfl | q
        · exact hcw
        · exact q
    exact ⟨hmw, good_of_word (pj_Wgood hmw).2⟩
  have hrn := vx_runSW (R := R) (locs := locs) (cells := cells) (slots := slots) (below := below) (meth := meth) (e := e) (nL := pmL 297) (g := F0 m pc lsr (st.map (jsv G))) (rest := rs.map (jsv G)) ⟨hx0, hb, hml, hown, hts⟩ hM' (vx_cwSW (av.map (jsv G)).length hts hG rfl rfl rfl ⟨by rw [hyc]; exact jh_ne.1, by rw [hyc]; exact jh_ne.2, by rw [hpn, List.length_map]⟩ ⟨by show 2 * d + 21 + 1 ≤ R.frames; have := hok.1; omega, by show 8 + (maxL + 11) + (100 * d + 5030) ≤ R.locals; have := hok.2; omega⟩) hpre rfl rfl hl.1 hstk hwt hd ⟨hcR, hsR⟩
  exact jrun_goZ hrn hS hz hl hn2 hors (by omega) (by omega) kk
set_option maxHeartbeats 2000000 in
theorem jmetD (hM : jHmulZ G) (hT : jHstrZ G) {l : Launch} (hlt : l.stackTraces = false) {n : Nat} (S : jSim3 G n) {d o b : Nat} {i : Int} {h h1 h2 : jh} {z : Int} (hgb : gK h b = some (0, 11)) (hi : r32 i) (hlen2 : h2.1.length ≤ 1000000)
    (ho : (∃ x, prun n d 181 0 (jent (pmL 181) [.inr (.inr (some b)), .inl i]) [] h = some ((0, some (.inl x)), h1) ∧ gK h1 o = some (3, 1) ∧ z = 0 ∧ h2 = wL h1 o 0 x) ∨ (∃ r, prun n d 181 0 (jent (pmL 181) [.inr (.inr (some b)), .inl i]) [] h = some ((1, r), h1) ∧ z = 1 ∧ h2 = nC h1 (0, 14))) :
    Met l jhD (jhS jhD method_3_code 4 [(0, 9, 12, 13)]) (jhR d (h2.1.length - h.1.length) (jsz h2 - jsz h)) (jPcZ G [.inr (.inr (some b)), .inl i, .inr (.inr (some o))] h) (jQcZ G (some (.inl z)) h2) (h2.1.length - h.1.length) (jsz h2 - jsz h) (fun q => G.2.2.2 ≤ q) := by
  refine va_MetW (by decide) rfl ?_
  intro p e s m args below meth c s₁ B hml hP
  obtain ⟨rfl, hW, hz, hX⟩ := hP
  rw [lg_entry_eq]
  have hts := atoms_spec (ws := jhS jhD method_3_code 4 [(0, 9, 12, 13)]) B.pre
  have htw : ∀ w ∈ pj_W, w.before _ s = true := fun w hw => hts w (List.mem_cons_of_mem _ hw)
  have hown : s.vm.findClass "TurnedRingLaw" = some m.cls := findClass_of_methodNamed B.named
  have htab := vx_table (x := jhD) B (hts _ List.mem_cons_self)
  have hl := jentry (G := G) (n := 4) (av := [.inr (.inr (some b)), .inl i, .inr (.inr (some o))]) (show 3 ≤ 4 by decide)
  have hx := B.exec
  have hb := B.bytes
  refine lv_aload_n (k := 2) (i := 2) (x := jad G o) hx hb (by decide +kernel) rfl (jla_get hl (v := .inr (.inr (some o))) rfl) ?_
  refine lv_iconst (n := 0) hx hb (by decide +kernel) rfl ?_
  refine lv_aload_n (k := 0) (i := 0) (x := jad G b) hx hb (by decide +kernel) rfl (jla_get hl (v := .inr (.inr (some b))) rfl) ?_
  refine lv_iload_n (k := 1) (i := 1) (x := Int32.ofInt i) hx hb (by decide +kernel) rfl (jla_get hl (v := .inl i) rfl) ?_
  exact jhelp (p := p) (cc := method_3_code) (nL := 4) (pc := 4) (idx := 7) (E := 15) (Hd := 12) (pI := 13) (pe := 9) (off := 6) (y2 := 181) (d := d) (o := o) (b := b) (cav := [.inr (.inr (some b)), .inl i]) (cav' := [.inl i]) hM hT hlt S hx hb hml hown htw B.returns B.notSynchronized htab (by decide) hX hW hz (Or.inl rfl) rfl hgb jh_n1.2 (fun v hv => by
      simp only [List.mem_cons, List.not_mem_nil, or_false] at hv
      rcases hv with rfl | rfl
      · trivial
      · exact hi) jh_n1.1 (jh_w (by simp)) (jh_w (by simp))
    (by decide +kernel) (by decide +kernel) (by decide +kernel) (by decide +kernel) (by decide) (by decide +kernel) (by decide +kernel) (by decide +kernel) (by decide +kernel)
    (fun q H locs cells slots Q lsr hls kk => lv_astore_n (k := 3) (i := 3) hx hb (by decide +kernel) rfl hls (by omega) rfl (fun ls' h' => kk ls' ⟨h'.1, h'.2.1, fun q hq => nomatch hq⟩))
    ⟨Nat.le_refl _, Nat.le_refl _⟩ ⟨Nat.le_refl _, Nat.le_refl _⟩ hlen2 ho ⟨hl.1, hl.2.1, fun q hq => nomatch hq⟩
set_option maxHeartbeats 2000000 in
theorem jmetA (hM : jHmulZ G) (hT : jHstrZ G) {l : Launch} (hlt : l.stackTraces = false) {n : Nat} (S : jSim3 G n) {d o b : Nat} {i j : Int} {h h1 h2 : jh} {z : Int} (hgb : gK h b = some (0, 11)) (hi : r32 i) (hj : r32 j) (hlen2 : h2.1.length ≤ 1000000)
    (ho : (∃ x, prun n d 182 0 (jent (pmL 182) [.inr (.inr (some b)), .inl i, .inl j]) [] h = some ((0, some (.inl x)), h1) ∧ gK h1 o = some (3, 1) ∧ z = 0 ∧ h2 = wL h1 o 0 x) ∨ (∃ r, prun n d 182 0 (jent (pmL 182) [.inr (.inr (some b)), .inl i, .inl j]) [] h = some ((1, r), h1) ∧ z = 1 ∧ h2 = nC h1 (0, 14))) :
    Met l jhA (jhS jhA method_4_code 5 [(0, 10, 13, 13)]) (jhR d (h2.1.length - h.1.length) (jsz h2 - jsz h)) (jPcZ G [.inr (.inr (some b)), .inl i, .inl j, .inr (.inr (some o))] h) (jQcZ G (some (.inl z)) h2) (h2.1.length - h.1.length) (jsz h2 - jsz h) (fun q => G.2.2.2 ≤ q) := by
  refine va_MetW (by decide) rfl ?_
  intro p e s m args below meth c s₁ B hml hP
  obtain ⟨rfl, hW, hz, hX⟩ := hP
  rw [lg_entry_eq]
  have hts := atoms_spec (ws := jhS jhA method_4_code 5 [(0, 10, 13, 13)]) B.pre
  have htw : ∀ w ∈ pj_W, w.before _ s = true := fun w hw => hts w (List.mem_cons_of_mem _ hw)
  have hown : s.vm.findClass "TurnedRingLaw" = some m.cls := findClass_of_methodNamed B.named
  have htab := vx_table (x := jhD) B (hts _ List.mem_cons_self)
  have hl := jentry (G := G) (n := 5) (av := [.inr (.inr (some b)), .inl i, .inl j, .inr (.inr (some o))]) (show 4 ≤ 5 by decide)
  have hx := B.exec
  have hb := B.bytes
  refine lv_aload_n (k := 3) (i := 3) (x := jad G o) hx hb (by decide +kernel) rfl (jla_get hl (v := .inr (.inr (some o))) rfl) ?_
  refine lv_iconst (n := 0) hx hb (by decide +kernel) rfl ?_
  refine lv_aload_n (k := 0) (i := 0) (x := jad G b) hx hb (by decide +kernel) rfl (jla_get hl (v := .inr (.inr (some b))) rfl) ?_
  refine lv_iload_n (k := 1) (i := 1) (x := Int32.ofInt i) hx hb (by decide +kernel) rfl (jla_get hl (v := .inl i) rfl) ?_
  refine lv_iload_n (k := 2) (i := 2) (x := Int32.ofInt j) hx hb (by decide +kernel) rfl (jla_get hl (v := .inl j) rfl) ?_
  exact jhelp (p := p) (cc := method_4_code) (nL := 5) (pc := 5) (idx := 15) (E := 17) (Hd := 13) (pI := 15) (pe := 10) (off := 7) (y2 := 182) (d := d) (o := o) (b := b) (cav := [.inr (.inr (some b)), .inl i, .inl j]) (cav' := [.inl i, .inl j]) hM hT hlt S hx hb hml hown htw B.returns B.notSynchronized htab (by decide) hX hW hz (Or.inr (Or.inl rfl)) rfl hgb jh_n2.2 (fun v hv => by
      simp only [List.mem_cons, List.not_mem_nil, or_false] at hv
      rcases hv with rfl | rfl | rfl
      · trivial
      · exact hi
      · exact hj) jh_n2.1 (jh_w (by simp)) (jh_w (by simp))
    (by decide +kernel) (by decide +kernel) (by decide +kernel) (by decide +kernel) (by decide) (by decide +kernel) (by decide +kernel) (by decide +kernel) (by decide +kernel)
    (fun q H locs cells slots Q lsr hls kk => lv_astore (i := 4) hx hb (by decide +kernel) hls (by omega) rfl (fun ls' h' => kk ls' ⟨h'.1, h'.2.1, fun q hq => nomatch hq⟩))
    ⟨Nat.le_refl _, Nat.le_refl _⟩ ⟨Nat.le_refl _, Nat.le_refl _⟩ hlen2 ho ⟨hl.1, hl.2.1, fun q hq => nomatch hq⟩
set_option maxHeartbeats 2000000 in
theorem jmetQ (hM : jHmulZ G) (hT : jHstrZ G) {l : Launch} (hlt : l.stackTraces = false) {n : Nat} (S : jSim3 G n) {d o b : Nat} {i j : Int} {h h1 h2 : jh} {z : Int} (hgb : gK h b = some (0, 11)) (hi : r32 i) (hj : r32 j) (hlen2 : h2.1.length ≤ 1000000)
    (ho : (∃ x, prun n d 183 0 (jent (pmL 183) [.inr (.inr (some b)), .inl i, .inl j]) [] h = some ((0, some (.inl x)), h1) ∧ gK h1 o = some (3, 1) ∧ z = 0 ∧ h2 = wL h1 o 0 x) ∨ (∃ r, prun n d 183 0 (jent (pmL 183) [.inr (.inr (some b)), .inl i, .inl j]) [] h = some ((1, r), h1) ∧ z = 1 ∧ h2 = nC h1 (0, 14))) :
    Met l jhQ (jhS jhQ method_5_code 5 [(0, 10, 13, 13)]) (jhR d (h2.1.length - h.1.length) (jsz h2 - jsz h)) (jPcZ G [.inr (.inr (some b)), .inl i, .inl j, .inr (.inr (some o))] h) (jQcZ G (some (.inl z)) h2) (h2.1.length - h.1.length) (jsz h2 - jsz h) (fun q => G.2.2.2 ≤ q) := by
  refine va_MetW (by decide) rfl ?_
  intro p e s m args below meth c s₁ B hml hP
  obtain ⟨rfl, hW, hz, hX⟩ := hP
  rw [lg_entry_eq]
  have hts := atoms_spec (ws := jhS jhQ method_5_code 5 [(0, 10, 13, 13)]) B.pre
  have htw : ∀ w ∈ pj_W, w.before _ s = true := fun w hw => hts w (List.mem_cons_of_mem _ hw)
  have hown : s.vm.findClass "TurnedRingLaw" = some m.cls := findClass_of_methodNamed B.named
  have htab := vx_table (x := jhD) B (hts _ List.mem_cons_self)
  have hl := jentry (G := G) (n := 5) (av := [.inr (.inr (some b)), .inl i, .inl j, .inr (.inr (some o))]) (show 4 ≤ 5 by decide)
  have hx := B.exec
  have hb := B.bytes
  refine lv_aload_n (k := 3) (i := 3) (x := jad G o) hx hb (by decide +kernel) rfl (jla_get hl (v := .inr (.inr (some o))) rfl) ?_
  refine lv_iconst (n := 0) hx hb (by decide +kernel) rfl ?_
  refine lv_aload_n (k := 0) (i := 0) (x := jad G b) hx hb (by decide +kernel) rfl (jla_get hl (v := .inr (.inr (some b))) rfl) ?_
  refine lv_iload_n (k := 1) (i := 1) (x := Int32.ofInt i) hx hb (by decide +kernel) rfl (jla_get hl (v := .inl i) rfl) ?_
  refine lv_iload_n (k := 2) (i := 2) (x := Int32.ofInt j) hx hb (by decide +kernel) rfl (jla_get hl (v := .inl j) rfl) ?_
  exact jhelp (p := p) (cc := method_5_code) (nL := 5) (pc := 5) (idx := 19) (E := 17) (Hd := 13) (pI := 15) (pe := 10) (off := 7) (y2 := 183) (d := d) (o := o) (b := b) (cav := [.inr (.inr (some b)), .inl i, .inl j]) (cav' := [.inl i, .inl j]) hM hT hlt S hx hb hml hown htw B.returns B.notSynchronized htab (by decide) hX hW hz (Or.inr (Or.inr rfl)) rfl hgb jh_n3.2 (fun v hv => by
      simp only [List.mem_cons, List.not_mem_nil, or_false] at hv
      rcases hv with rfl | rfl | rfl
      · trivial
      · exact hi
      · exact hj) jh_n3.1 (jh_w (by simp)) (jh_w (by simp))
    (by decide +kernel) (by decide +kernel) (by decide +kernel) (by decide +kernel) (by decide) (by decide +kernel) (by decide +kernel) (by decide +kernel) (by decide +kernel)
    (fun q H locs cells slots Q lsr hls kk => lv_astore (i := 4) hx hb (by decide +kernel) hls (by omega) rfl (fun ls' h' => kk ls' ⟨h'.1, h'.2.1, fun q hq => nomatch hq⟩))
    ⟨Nat.le_refl _, Nat.le_refl _⟩ ⟨Nat.le_refl _, Nat.le_refl _⟩ hlen2 ho ⟨hl.1, hl.2.1, fun q hq => nomatch hq⟩
set_option maxRecDepth 100000 in
theorem jh_ml : ((pj_ml 13).all fun t => (!(t.2.1 == 20) || t.2.2 == 181) && (!(t.2.1 == 21) || t.2.2 == 182) && (!(t.2.1 == 22) || t.2.2 == 183)) = true := by decide +kernel
theorem jHtryR_ok (hM : jHmulZ G) (hT : jHstrZ G) (l : Launch) (hlt : l.stackTraces = false) : jHtryR G l := fun n S p e R s m args below meth c Q hE cE sE pc d k kd y2 o b ls st av rs h h1 h2 z F hok hR hk hkd hd hst hal hw hla hlast hav hgb ho hpE kk => by
  have hlE := hR.2.2
  have p3 := jpre_len hpE
  have hpr : jpre h h2 := by
    rcases ho with ⟨x, hq, -, -, rfl⟩ | ⟨r, hq, -, rfl⟩
    · exact jpre_tr (prun_pre _ _ _ _ _ _ _ _ _ hq) (jpre_of rfl)
    · exact jpre_tr (prun_pre _ _ _ _ _ _ _ _ _ hq) (jpre_nC _ _)
  have hlw : pj_mw 13 (k, kd, y2) ∈ pj_W := pml_w hk (by rcases hkd with rfl | rfl | rfl <;> rfl)
  have hy : (kd = 20 → y2 = 181) ∧ (kd = 21 → y2 = 182) ∧ (kd = 22 → y2 = 183) := by
    obtain ⟨-, hmm⟩ := pml_ok hk
    have h9 := List.all_eq_true.mp jh_ml _ hmm
    simp only [Bool.and_eq_true, Bool.or_eq_true, Bool.not_eq_true', beq_eq_false_iff_ne, beq_iff_eq] at h9
    exact ⟨fun q => h9.1.1.resolve_left (fun r => r q), fun q => h9.1.2.resolve_left (fun r => r q), fun q => h9.2.resolve_left (fun r => r q)⟩
  intro H locs cells slots lsr hW hS hz hl hn2 hoj hc hs
  have hjv : ∀ v ∈ av, jvok v := fun v hv => hoj.2 v (by rw [hst]; exact List.mem_append_left _ (List.mem_reverse.mpr hv))
  rcases hav with ⟨i, w, rfl⟩ | ⟨i, j, w, rfl⟩
  · have hk20 : kd = 20 := by
      by_cases q : kd = 20
      · exact q
      · rw [if_neg q] at hal; cases hal
    subst hk20
    obtain rfl := hy.1 rfl
    have ew : w = .inr (.inr (some o)) := by simpa using hlast
    subst ew
    exact jcallH F hok hR (jmetD hM hT hlt S hgb (show r32 i from hjv (.inl i) (by simp)) (by omega) ho) (jh_w (by simp)) hlw (jh_w (by simp)) rfl jh_npD (by omega) hd hst hw hpr hpE kk H locs cells slots lsr hW hS hz hl hn2 hoj hc hs
  · have hk20 : kd ≠ 20 := by
      intro q
      rw [if_pos q] at hal; cases hal
    have ew : w = .inr (.inr (some o)) := by simpa using hlast
    subst ew
    rcases hkd with rfl | rfl | rfl
    · exact absurd rfl hk20
    · obtain rfl := hy.2.1 rfl
      exact jcallH F hok hR (jmetA hM hT hlt S hgb (show r32 i from hjv (.inl i) (by simp)) (show r32 j from hjv (.inl j) (by simp)) (by omega) ho) (jh_w (by simp)) hlw (jh_w (by simp)) rfl jh_npA (by omega) hd hst hw hpr hpE kk H locs cells slots lsr hW hS hz hl hn2 hoj hc hs
    · obtain rfl := hy.2.2 rfl
      exact jcallH F hok hR (jmetQ hM hT hlt S hgb (show r32 i from hjv (.inl i) (by simp)) (show r32 j from hjv (.inl j) (by simp)) (by omega) ho) (jh_w (by simp)) hlw (jh_w (by simp)) rfl jh_npQ (by omega) hd hst hw hpr hpE kk H locs cells slots lsr hW hS hz hl hn2 hoj hc hs
end HELP2
