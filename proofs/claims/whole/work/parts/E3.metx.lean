/-! 'throw new E()' AND WHAT COMES OUT; the contract of the three methods where they throw (wip/whole/gen_e3.py) -/
section THR2
variable {p : Program} {l : Launch} {e : Env} {R : Room} {s : State} {m : MethodId} {args : Array Value} {below : List Frame} {meth : Method} {c : Code} {H : Heap} {locs : List Loc} {cells slots : Nat} {Q : State → Prop}
variable {mc ms : Nat} {free : Addr → Prop} {a : Array Value} {ls : Array Slot} {rest : List Value}
variable {Qc : Array Value → State → Outcome → State → Prop} {XC : String → State → State → Prop}
theorem jthrow0 {cc : ByteArray} {pc : Nat} (hexec : p.tables.exec = Jvm.exec) (hb : c.code = cc) (hl : l.stackTraces = false) {own cls : String} {names : List String} {ik ic mc ms : Nat} {A : Nat → Prop}
    (hown : s.vm.findClass own = some m.cls) (hcls : Bundle.fit cls = true) (hnames : ∀ n ∈ names, Bundle.fit n = true)
    (hk : (Cond.classLink own ik cls).before args s = true) (hini : (Cond.initialized cls).before args s = true) (hat : ∀ w ∈ vx_at0 own ic cls names, w.before args s = true)
    (hgood : ∀ w ∈ Cond.classLink own ik cls :: Cond.initialized cls :: vx_at0 own ic cls names, vx_ot w = true)
    (hU : vx_Zq Bundle.tN "UNASSIGNED_STACK" Bundle.steD A s s.heap) (hN : vx_Zq Bundle.tN "SUPPRESSED_SENTINEL" Bundle.listD A s s.heap) (hS : va_S A s.heap H locs) (hsize : ls.size = c.maxLocals)
    (d0 : decode cc pc = .ok (.new ik, 3)) (d3 : decode cc (pc + 3) = .ok (.dup, 1)) (d4 : decode cc (pc + 4) = .ok (.invokespecial ic, 3)) (d7 : decode cc (pc + 7) = .ok (.athrow, 1))
    (hout : ∀ x ∈ c.exceptionTable.toList, covers x (pc + 7) = false)
    (hRframes : names.length + 3 < R.frames) (hRlocals : (rest.map fun v => v.category).sum + (13 * (names.length + 1) + 42) ≤ R.locals) (hRcells : cells + 1 ≤ R.cells) (hRslots : slots + 6 ≤ R.slots) (hlocks : meth.locks = false)
    (hx : ∀ (t : State) (ce : Cell), s.vm.Alike t.vm → t.heap.size = H.size + 1 → (∀ q : Nat, q < H.size → t.heap[q]? = H[q]?) → t.heap[H.size]? = some ce → ce.vm = .none → s.vm.findClass cls = some ce.cls → XC cls s t)
    (hf : ∀ z ∈ locs, free z.base) (hc : cells + 1 ≤ mc) (hs : slots + 6 ≤ ms) :
    W p l e R s m args below meth c H locs cells slots (vx_MQ below Qc XC args s mc ms free) (F0 m pc ls rest) := by
  intro T hT X
  have htr : e.platform.stackTraces = false := (show e.platform.stackTraces = l.stackTraces by rw [X.admits.platform]).trans hl
  have Y := vx_rebase X (R' := { frames := R.frames, locals := R.locals, cells := 1, slots := 6 }) (Nat.le_refl _) (Nat.le_refl _) hRcells hRslots
  obtain ⟨s', hA⟩ : ∃ z, z = (T.setVm s.vm).setFrames (.invoking m args :: below) := ⟨_, rfl⟩
  rw [← hA] at Y
  have hvm : s'.vm = s.vm := by rw [hA]; rfl
  have hhp : s'.heap = H := by rw [hA]; exact hT
  have hW0 : s.WarmedH s'.vm := by rw [hvm]; exact State.WarmedH.refl s
  have hat' : ∀ w ∈ vx_at0 own ic cls names, w.before args s' = true := fun w hw => vx_ot_at hW0 hvm.symm (hgood w (List.mem_cons_of_mem _ (List.mem_cons_of_mem _ hw))) (hat w hw)
  have hk' : (Cond.classLink own ik cls).before args s' = true := vx_ot_at hW0 hvm.symm (hgood _ List.mem_cons_self) hk
  have hini' : (Cond.initialized cls).before args s' = true := vx_ot_at hW0 hvm.symm (hgood _ (List.mem_cons_of_mem _ List.mem_cons_self)) hini
  have hU' : vx_Zq Bundle.tN "UNASSIGNED_STACK" Bundle.steD A s' s'.heap := by rw [hhp]; exact vx_Zq.moved hW0.alike (hU.kept hS.2.1)
  have hN' : vx_Zq Bundle.tN "SUPPRESSED_SENTINEL" Bundle.listD A s' s'.heap := by rw [hhp]; exact vx_Zq.moved hW0.alike (hN.kept hS.2.1)
  have h : ∀ w ∈ Bundle.ownAtoms0 own ic cls names, w.before args s' = true := vx_own hat' (vx_isRefq hU'.1) (vx_isRefq hN'.1) hU'.2.word hN'.2.word
  have hown' : s'.vm.findClass own = some m.cls := by rw [hvm]; exact hown
  have hins : (Cond.instantiable cls 6).before args s' = true := h _ (by simp [Bundle.ownAtoms0])
  obtain ⟨vm₁, cX, kX, hfX, hkX, -, -, X₁, st1⟩ := Y.newCold hexec (own := own) (C := cls) (index := ik) (n := 6) hown' hk' hins hini'
    (g := F0 m pc ls rest) rfl (by rw [hb]; exact d0) (Nat.le_refl _) (Nat.le_refl _)
  generalize hT1 : (T.setVm vm₁).pushCell { cls := cX, slots := kX.instanceTypes.map defaultValue, vm := .none } = T1 at X₁ st1
  have hcat : (Value.ref T.heap.size).category = 1 := rfl
  have hcellA : T1.heap[T.heap.size]? = some (freshCell cX kX) := by rw [← hT1]; exact State.heap_pushCell_size _ _
  have d3' : decode c.code (pc + 3) = .ok (.dup, 1) := by rw [hb]; exact d3
  obtain ⟨U, hsteps, hrun, hend, hW, hsame, ce, hce, hO⟩ := X₁.ctorThrow0 hexec htr (own := own) (cls := cls) (names := names) (ic := ic) hown' hcls hnames h (fun x hx => nomatch hx) hfX hkX hcellA (by rw [hhp, hT]; exact Nat.le_refl _)
    (g := { method := m, pc := pc + 4, locals := ls, stack := .ref T.heap.size :: .ref T.heap.size :: rest, locked := none }) rfl hsize rfl rfl (rest := rest) rfl
    (by rw [hb]; exact d4) (by rw [hb]; exact d7) hout hRframes (by simp only [List.map_cons, List.sum_cons, hcat]; omega) hlocks
  obtain ⟨f1, f2⟩ := vx_frame hsame
  rw [hhp] at f1 f2
  have f3 : U.heap.size ≤ s'.heap.size + (0 + 1) := hsame.2.2.1
  rw [hhp] at f3
  have f4 : T.heap.size < U.heap.size := (Array.getElem?_eq_some_iff.mp hce).1
  have hsz9 : U.heap.size = H.size + 1 := by rw [hT] at f4; omega
  have hWs : s.WarmedH U.vm := State.WarmedH.trans hW0 hW
  have hcl : s.vm.findClass cls = some ce.cls := by
    have h9 := hO.cls
    rw [hvm] at h9
    exact h9
  have hall : s.sameButNew ({ U with vm := s.vm } : State) locs mc ms := by
    subst hA
    obtain ⟨e1, e2⟩ := hsame
    rw [State.setFrames_setFrames] at e1
    have h2 : (T.setVm s.vm).sameButNew ({ U with vm := s.vm } : State) [] (0 + 1) (0 + 6) := ⟨e1, e2⟩
    have h3 := X.same.trans h2
    rw [List.append_nil] at h3
    exact h3.mono hc hs
  refine ⟨U, ?_, .threw T.heap.size, hrun, hend, Or.inr ⟨T.heap.size, rfl, cls, ce, locs, hx U ce hWs.alike hsz9 (fun q hq => f2 q hq (fun z hz => nomatch hz)) (by rw [← hT]; exact hce) hO.vm hcl, hce, hO.vm, hcl, hWs, hall, hf⟩⟩
  refine st1 _ ?_
  show Steps p.tables e below (T1.setTop { method := m, pc := pc + 3, locals := ls, stack := .ref T.heap.size :: rest, locked := none }) _
  jvm_step X₁.here [X₁.here.top, hexec, d3', Value.category]
  exact hsteps
end THR2
section THR3
variable {G : jg}
/-- what comes out where one of the three throws: one cell more -/
def jXC (G : jg) (h1 : jh) : String → State → State → Prop := fun E st t => E = jXN ∧ jWZ G (nC h1 (0, 14)) t.heap t ∧ va_F (fun q => G.2.2.2 ≤ q) st t
theorem jX14 : pj_clZ[14]? = some (jXN, pj_T 14, 0) := rfl
theorem jXcast {args : Array Value} {s : State} (hX : jXZ G s) : (Cond.castable jXN jXN).before args s = true := by
  have hK := (hX.2.2.1 14 _ jX14).2
  obtain ⟨h1, -⟩ := hK
  simp only [Cond.before, Cond.holds, Cond.value]
  simp only at h1
  rw [h1]
  have e : s.vm.assignable (G.1.1 14) (G.1.1 14) = true := by
    show s.vm.assignableAux (255 + 1) _ _ = true
    rw [Vm.assignableAux]
    simp only [beq_self_eq_true, Bool.true_or]
  simp [e]
theorem jXot : ((Cond.classLink "TurnedRing" 162 jXN :: Cond.initialized jXN :: vx_at0 "TurnedRing" 164 jXN jXS).all vx_ot) = true := by decide +kernel
def jXB : List Cond := [Cond.declares (Bundle.init0 "java/lang/RuntimeException"), Cond.declares (Bundle.init0 "java/lang/Exception"), Cond.declares (Bundle.init0 "java/lang/Throwable"), Cond.castable jXN jXN]
set_option maxRecDepth 100000 in
theorem jXbad : ((vx_at0 "TurnedRing" 164 jXN jXS).filter (fun w => !goodWord w)).all (fun w => jXB.contains w) = true := by decide +kernel
set_option maxRecDepth 100000 in
theorem jXin : ((Cond.classLink "TurnedRing" 162 jXN :: Cond.initialized jXN :: (vx_at0 "TurnedRing" 164 jXN jXS).filter goodWord).all fun w => pj_W.contains w) = true := by decide +kernel
set_option maxRecDepth 100000 in
theorem jXdw : (pj_W.contains (Cond.instanceMethod (Bundle.init0 "java/lang/RuntimeException")) && pj_W.contains (Cond.code (Bundle.init0 "java/lang/RuntimeException") Bundle.five 1 none) && pj_W.contains (Cond.instanceMethod (Bundle.init0 "java/lang/Exception")) && pj_W.contains (Cond.code (Bundle.init0 "java/lang/Exception") Bundle.five 1 none)
  && pj_W.contains (Cond.instanceMethod (Bundle.init0 "java/lang/Throwable")) && pj_W.contains (Cond.code (Bundle.init0 "java/lang/Throwable") LibCode.Throwable.Init0.code 1 none)) = true := by decide +kernel
theorem jXdec {args : Array Value} {s : State} {x : MethodName} {bytes : ByteArray} {n : Nat} {r : Option FieldType} (h1 : (Cond.instanceMethod x).before args s = true) (h2 : (Cond.code x bytes n r).before args s = true) : (Cond.declares x).before args s = true := by
  obtain ⟨m, meth, hn, hm, hst, -⟩ := Cond.instanceMethod_spec h1
  obtain ⟨meth', c, hm', -, -, -, -, -, -, hsig⟩ := Cond.code_spec hn h2
  cases hm.symm.trans hm'
  simp [Cond.before, Cond.holds, Cond.value, hn, hm, hst, hsig]
theorem jXBs {args : Array Value} {s : State} (hX : jXZ G s) (htw : ∀ w ∈ pj_W, w.before args s = true) : ∀ w ∈ jXB, w.before args s = true := by
  have h := jXdw
  simp only [Bool.and_eq_true, List.contains_iff_mem] at h
  obtain ⟨⟨⟨⟨⟨a1, a2⟩, a3⟩, a4⟩, a5⟩, a6⟩ := h
  exact vx_c (jXdec (htw _ a1) (htw _ a2)) (vx_c (jXdec (htw _ a3) (htw _ a4)) (vx_c (jXdec (htw _ a5) (htw _ a6)) (vx_c (jXcast hX) vx_n)))
theorem jX_nC {h1 : jh} {H H' : Heap} {s : State} (hX : jXZ G s) (w : jWZ G h1 H s) (hlen : h1.1.length < 1000000) (hz : H'.size = H.size + 1) (hq : ∀ q : Nat, q < H.size → H'[q]? = H[q]?) {ce : Cell} (hc : H'[H.size]? = some ce) (hv : ce.vm = .none) (hcl : s.vm.findClass jXN = some ce.cls) : jWZ G (nC h1 (0, 14)) H' s := by
  refine jW_pushZ w (0, 14) (Or.inl ⟨rfl, Or.inr rfl⟩) hlen hz hq ?_
  refine ⟨_, jX14, ce, ?_, ?_, hv, fun k hk => absurd hk (Nat.not_lt_zero _)⟩
  · show H'[G.2.2.2 + h1.1.length]? = _
    rw [← w.1.1]; exact hc
  · have h1 := (hX.2.2.1 14 _ jX14).2.1
    exact (Option.some.inj (h1.symm.trans hcl)).symm
theorem jmetX (hM : jHmulZ G) (hT : jHstrZ G) {n : Nat} (S : jSim3 G n) {d y : Nat} {av : List jv} {h h' : jh} {r : Option jv} (hy : y = 181 ∨ y = 182 ∨ y = 183) (hrun : prun n d y 0 (jent (pmL y) av) [] h = some ((1, r), h')) (hl : (jlay av).length ≤ pmL y) (hav : ∀ v ∈ av, jvok v) (hlen : h'.1.length < 1000000) (l : Launch) (hlt : l.stackTraces = false) :
    vx_Met l (pj_n y) (pj_ws y) { frames := 2 * d + 20, cells := h'.1.length - h.1.length + 1, slots := jsz h' - jsz h + 6, locals := 100 * d + 5000 } (jPcZ G av h) (fun _ _ _ _ => False) (jXC G h') (h'.1.length - h.1.length + 1) (jsz h' - jsz h + 6) (fun q => G.2.2.2 ≤ q) := by
  obtain ⟨hy297, hy11⟩ := jX_oc hy
  obtain ⟨y1, y2, y3, y4, -⟩ := pj_yckd hy297
  refine vx_ofW (cc := pby y) (maxL := pmL y) (ret := prt y) y4 rfl ?_
  intro p e s m args below meth c s₁ B hml htab hP
  obtain ⟨rfl, hW, hz, hX⟩ := hP
  rw [lg_entry_eq]
  have hpre := prun_pre _ _ _ _ _ _ _ _ _ hrun
  have p1 := jpre_len hpre
  have p2 := jpre_sz hpre
  have hts := atoms_spec (ws := pj_ws y) B.pre
  have htw : ∀ w ∈ pj_W, w.before (av.map (jsv G)).toArray s = true := fun w hw => hts w (List.mem_cons_of_mem _ hw)
  have F : jFZ G y p s m (av.map (jsv G)).toArray meth c := ⟨⟨B.exec, B.bytes⟩, by rw [← y1]; exact findClass_of_methodNamed B.named, hml, B.returns, B.notSynchronized, fun q => by rw [(name_of_methodNamed B.named B.method).1]; exact y3.mpr q, htw, hX⟩
  have h0 : jXP y 0 ([] : List jv) := ⟨by rcases hy with rfl | rfl | rfl <;> decide, Nat.le_refl _⟩
  refine jsimX hM hT hy S n (Nat.le_refl _) d 0 _ [] h (1, r) h' hrun h0 p l e _ s m _ below meth c _ (h'.1.length - h.1.length) (jsz h' - jsz h) F ⟨Nat.le_refl _, Nat.le_refl _⟩ ⟨Nat.le_succ _, Nat.le_add_right _ _, Nat.le_of_lt hlen⟩ hlt ?_ s.heap [] 0 0 _ hW va_S.rf hz (jentry hl) (jent_len hl) ⟨fun i v hv => jlay_ok av hav i v (jent_get hv), fun v hv => by cases hv⟩ (by omega) (by omega)
  intro pcE lsE stE hPE hE H locs cells slots lsr hW' hS hz' hl' hn' ho hc hs
  obtain ⟨i, len, hd, hjl, hx⟩ := hE
  have hc' : cells = h'.1.length - h.1.length := by omega
  have hs' : slots = jsz h' - jsz h := by omega
  subst hc'; subst hs'
  have hi : ∃ k, i = .new k := by
    rcases pjx_ret hx with ⟨-, x, -, e, -⟩ | ⟨-, x, -, e, -⟩ | ⟨-, x, -, e, -⟩ | ⟨-, -, e, -⟩ | ⟨k, e, -⟩
    · cases e
    · cases e
    · cases e
    · cases e
    · exact ⟨k, e⟩
  obtain ⟨k, rfl⟩ := hi
  obtain rfl := jone (n := 3) hjl (fun _ => rfl)
  have hd4 : k = 162 ∧ decode (pby y) (pcE + 3) = .ok (.dup, 1) ∧ decode (pby y) (pcE + 4) = .ok (.invokespecial 164, 3) ∧ decode (pby y) (pcE + 7) = .ok (.athrow, 1) := by
    have h0 := List.all_eq_true.mp (List.all_eq_true.mp pj_thn y (by simpa using hy)) pcE hPE.1
    rw [hd] at h0
    simp only [Bool.and_eq_true, beq_iff_eq] at h0
    obtain ⟨⟨⟨q1, q2⟩, q3⟩, q4⟩ := h0
    refine ⟨q1, ?_, ?_, ?_⟩
    · split at q2
      · assumption
      · cases q2
    · split at q3
      · assumption
      · cases q3
    · split at q4
      · assumption
      · cases q4
  obtain ⟨rfl, d3, d4, d7⟩ := hd4
  have hpc40 := (jX_tg hy hPE.1 hd).1
  have hwt : ((stE.map (jsv G)).map fun v => v.category).sum ≤ 80 := by
    rw [jwt_sum]
    have : ∀ st : List jv, jwt st ≤ 2 * st.length := by
      intro st
      induction st with
      | nil => exact Nat.le_refl _
      | cons v st ih =>
        match v with
        | .inl x => show 1 + jwt st ≤ 2 * (st.length + 1); omega
        | .inr (.inl x) => show 2 + jwt st ≤ 2 * (st.length + 1); omega
        | .inr (.inr x) => show 1 + jwt st ≤ 2 * (st.length + 1); omega
    have h9 := this stE
    have h8 := hPE.2
    omega
  have hin : ∀ w ∈ Cond.classLink "TurnedRing" 162 jXN :: Cond.initialized jXN :: (vx_at0 "TurnedRing" 164 jXN jXS).filter goodWord, w ∈ pj_W := fun w hw => List.contains_iff_mem.mp (List.all_eq_true.mp jXin w hw)
  have hat : ∀ w ∈ vx_at0 "TurnedRing" 164 jXN jXS, w.before (av.map (jsv G)).toArray s = true := vx_hat (B := jXB) (fun w hw => htw w (hin w (List.mem_cons_of_mem _ (List.mem_cons_of_mem _ hw)))) (fun w hw => by
      exact List.contains_iff_mem.mp (List.all_eq_true.mp jXbad w hw)) (jXBs hX htw)
  have hJT := hW.2.2.2.2.2
  obtain ⟨-, -, -, hU, hN1, hN2⟩ := hJT
  refine jthrow0 (own := "TurnedRing") (cls := jXN) (names := jXS) (ik := 162) (ic := 164) (A := fun q => G.2.2.2 ≤ q) F.1.1 F.1.2 hlt (by have := F.2.1; rw [hy11] at this; exact this) (by decide) (by decide)
    (htw _ (hin _ List.mem_cons_self)) (htw _ (hin _ (List.mem_cons_of_mem _ List.mem_cons_self))) hat (fun w hw => List.all_eq_true.mp jXot w hw) ⟨hU.1, hU.2⟩ ⟨hN1, hN2⟩ hS (by rw [F.2.2.1]; exact hl'.1) hd d3 d4 d7 (fun x hx => (htab x hx).elim)
    (by show 2 + 3 < 2 * d + 20; omega) (by show _ + (13 * (2 + 1) + 42) ≤ 100 * d + 5000; omega) (Nat.le_refl _) (Nat.le_refl _) F.2.2.2.2.1 (fun t ce hal hsz hfr hce hcv hcl => ?_) hS.2.2 (Nat.le_refl _) (Nat.le_refl _)
  refine ⟨rfl, jW_movedZ hal (jX_nC hX hW' hlen hsz hfr hce hcv hcl), ?_, fun q hq hnq => ?_⟩
  · have := hS.1; omega
  · rw [hfr q (Nat.lt_of_lt_of_le hq hS.1)]; exact hS.2.1 q hq hnq
end THR3
