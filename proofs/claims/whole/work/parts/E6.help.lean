/-! THE LAW'S THREE HELPERS THAT CATCH: the part behind the loads -/
section HELP
variable {G : jg}
theorem jX_fact : ([181, 182, 183] : List Nat).all (fun y => !(pj_staY.contains y) && !(pin y == 1) && decide (poc y < 13) && decide (pmL y ≤ 4)) = true := by decide +kernel
theorem jX_f {y : Nat} (hy : y = 181 ∨ y = 182 ∨ y = 183) : pj_staY.contains y = false ∧ pin y ≠ 1 ∧ pmL y ≤ 4 := by
  have h := List.all_eq_true.mp jX_fact y (by simpa using hy)
  simp only [Bool.and_eq_true, Bool.not_eq_true', decide_eq_true_eq, beq_eq_false_iff_ne] at h
  exact ⟨h.1.1.1, h.1.1.2, h.2⟩
set_option maxHeartbeats 2000000 in
theorem jhelp (hM : jHmulZ G) (hT : jHstrZ G) {l : Launch} (hlt : l.stackTraces = false) {n : Nat} (S : jSim3 G n) {p : Program} {e : Env} {R : Room} {s : State} {m : MethodId} {args : Array Value} {below : List Frame} {meth : Method} {c : Code} {cc : ByteArray} {nL pc idx E Hd pI pe : Nat} {off : Int} {y2 d o b : Nat} {cav cav' : List jv} {h h1 h2 : jh} {z : Int}
    (hx : p.tables.exec = Jvm.exec) (hb : c.code = cc) (hml : c.maxLocals = nL) (hown : s.vm.findClass "TurnedRingLaw" = some m.cls) (hts : ∀ w ∈ pj_W, w.before args s = true) (hret : meth.sig.returnType = some .int) (hlk : meth.locks = false) (htab : c.exceptionTable.toList = [⟨0, pe, Hd, 13⟩]) (hcov : covers (⟨0, pe, Hd, 13⟩ : ExceptionTableEntry) pc = true)
    (hX : jXZ G s) (hW : jWZ G h s.heap s) (hz : G.2.2.2 ≤ s.heap.size) (hy2 : y2 = 181 ∨ y2 = 182 ∨ y2 = 183) (hcav : cav = .inr (.inr (some b)) :: cav') (hgb : gK h b = some (0, 11)) (hlay : (jlay cav).length ≤ pmL y2) (hok : ∀ v ∈ cav, jvok v) (hnp : (parseMethodDescriptor (pj_n y2).desc).map (fun d => d.parameters.length) = some cav'.length)
    (hlink : Cond.methodLink "TurnedRingLaw" idx (pj_n y2) ∈ pj_W) (hcl : Cond.classLink "TurnedRingLaw" 13 jXN ∈ pj_W)
    (d1 : decode cc pc = .ok (.invokevirtual idx, 3)) (d2 : decode cc (pc + 3) = .ok (.i2l, 1)) (d3 : decode cc (pc + 3 + 1) = .ok (.lastore, 1)) (d4 : decode cc (pc + 3 + 1 + 1) = .ok (.goto off, 3)) (h4 : ((pc + 3 + 1 + 1 : Nat) : Int) + off = (E : Int)) (d5 : decode cc E = .ok (.iconst 0, 1)) (d6 : decode cc (E + 1) = .ok (.ireturn, 1)) (d7 : decode cc pI = .ok (.iconst 1, 1)) (d8 : decode cc (pI + 1) = .ok (.ireturn, 1))
    (hst : ∀ (q : Nat) (H : Heap) (locs : List Loc) (cells slots : Nat) (Q : State → Prop) (lsr : Array Slot), lv_has lsr nL [] → (∀ lsr' : Array Slot, lv_has lsr' nL [] → W p l e R s m args below meth c H locs cells slots Q (F0 m pI lsr' [])) → W p l e R s m args below meth c H locs cells slots Q (F0 m Hd lsr [.ref q]))
    (hroom : 2 * d + 21 ≤ R.frames ∧ 100 * d + 5030 ≤ R.locals) (hRc : h2.1.length - h.1.length ≤ R.cells ∧ jsz h2 - jsz h ≤ R.slots) (hlen2 : h2.1.length ≤ 1000000)
    (ho : (∃ x, prun n d y2 0 (jent (pmL y2) cav) [] h = some ((0, some (.inl x)), h1) ∧ gK h1 o = some (3, 1) ∧ z = 0 ∧ h2 = wL h1 o 0 x) ∨ (∃ r, prun n d y2 0 (jent (pmL y2) cav) [] h = some ((1, r), h1) ∧ z = 1 ∧ h2 = nC h1 (0, 14)))
    {lsr : Array Slot} (hls : lv_has lsr nL []) : W p l e R s m args below meth c s.heap [] 0 0 (MQ below (jQcZ G (some (.inl z)) h2) args s (h2.1.length - h.1.length) (jsz h2 - jsz h) (fun q => G.2.2.2 ≤ q)) (F0 m pc lsr ((cav.map (jsv G)).reverse ++ [.int 0, jsv G (.inr (.inr (some o)))])) := by
  obtain ⟨hy297, hy11⟩ := jX_oc hy2
  obtain ⟨hsta, hpin, hmL4⟩ := jX_f hy2
  obtain ⟨z1, z2, z3, z4, z5, z6, z7⟩ := pj_yckd hy297
  obtain ⟨w1, w2, w3⟩ := z7 hsta
  have w3 : pj_selY.contains y2 = true := w3.resolve_left hpin
  have hcls : (pj_n y2).cls = pj_C 11 := by rw [z1, hy11]
  have hat := (hW.2.1 b _ hgb).2
  have hrec := va_recv hX.2.2 (va_P1 hat) (pj_cl_atZ (ci := 11) (by omega)) (q0 := 0) rfl
  have hrf : jsv G (.inr (.inr (some b))) = .ref (G.2.2.2 + b) := jrefZ hW hgb
  have hargs : (Value.ref (G.2.2.2 + b) :: cav'.map (jsv G)).toArray = (cav.map (jsv G)).toArray := by rw [hcav, List.map_cons, hrf]
  have hpn : (parseMethodDescriptor (pj_n y2).desc).map (fun d => d.parameters.length) = some (cav'.map (jsv G)).length := by rw [hnp, List.length_map]
  have hblind : ∀ U : State, U.heap = s.heap → s.WarmedH U.vm → jPcZ G cav h (cav.map (jsv G)).toArray U := fun U hU hw => ⟨rfl, by rw [hU]; exact jW_movedZ hw.alike hW, by rw [hU]; exact hz, jX_warmZ hw hX⟩
  have hpre : PreV s s.heap (pj_n y2).cls (G.2.2.2 + b) (jPcZ G cav h) (cav'.map (jsv G)) := by
    refine ⟨jPc_blindZ, by rw [hcls]; exact hrec, fun U hU hw => ?_⟩
    rw [hargs]
    exact hblind U hU hw
  have hstk : (F0 m pc lsr ((cav.map (jsv G)).reverse ++ [.int 0, jsv G (.inr (.inr (some o)))])).stack = (cav'.map (jsv G)).reverse ++ .ref (G.2.2.2 + b) :: [.int 0, jsv G (.inr (.inr (some o)))] := by
    show (cav.map (jsv G)).reverse ++ _ = _
    rw [hcav, List.map_cons, hrf, List.reverse_cons, List.append_assoc]; rfl
  have hwt : 2 * (F0 m pc lsr ((cav.map (jsv G)).reverse ++ [.int 0, jsv G (.inr (.inr (some o)))])).monitorRoom + (([.int 0, jsv G (.inr (.inr (some o)))] : List Value).map fun v => v.category).sum ≤ 8 := by
    show 2 * 0 + (1 + ((jsv G (.inr (.inr (some o)))).category + 0)) ≤ 8
    have e : (jsv G (.inr (.inr (some o)))).category = 1 := rfl
    rw [e]; decide
  have hin : ∀ w ∈ wsV "TurnedRingLaw" idx (pj_n y2).cls (pj_n y2) (pj_ws y2), w ∈ pj_W ∧ ((w.onTables && w.keeps) = true ∨ ∃ ty, w = .arrayClass ty) := by
    intro w hw9
    have hmw : w ∈ pj_W := by
      unfold wsV at hw9
      rcases List.mem_append.mp hw9 with q | q
      · simp only [List.mem_cons, List.not_mem_nil, or_false] at q
        rcases q with rfl | rfl | rfl | rfl
        · exact hlink
        · exact pj_insW w2
        · exact pj_selW w3
        · rw [z1]; exact pj_ini (by omega)
      · exact (pj_wsg hy297 w q).1
    exact ⟨hmw, good_of_word (pj_Wgood hmw).2⟩
  rcases ho with ⟨x, hq, hgo, rfl, rfl⟩ | ⟨r, hq, rfl, rfl⟩
  · have hpr := prun_pre _ _ _ _ _ _ _ _ _ hq
    have p1 := jpre_len hpr
    have p2 := jpre_sz hpr
    have hM' := jmet3 S hy297 hq hlay hok hlen2 l hlt
    have hr := va_runV (nL := nL) (g := F0 m pc lsr ((cav.map (jsv G)).reverse ++ [.int 0, jsv G (.inr (.inr (some o)))])) (rest := [.int 0, jsv G (.inr (.inr (some o)))]) (locs := []) (cells := 0) (slots := 0) ⟨hx, hb, hml, hown, hts⟩ hM' (cwV (R := R) (s := s) (args := args) (own := "TurnedRingLaw") (index := idx) (C := (pj_n y2).cls) (cav'.map (jsv G)).length hts hin rfl rfl rfl ⟨rfl, z5.1, z5.2, hpn⟩ ⟨by show 2 * d + 20 + 1 ≤ R.frames; omega, by show 8 + (pmL y2 + 11) + (100 * d + 5000) ≤ R.locals; omega⟩) hpre rfl rfl hls.1 hstk hwt d1 ⟨by rw [Nat.zero_add]; exact hRc.1, by rw [Nat.zero_add]; exact hRc.2⟩ (below := below) (meth := meth) (e := e)
    intro T hT X
    obtain ⟨v, st₀, t, T', L, h0, X', hL, e1, e2, ⟨hv, hok1, hW1, hz1, hk1⟩, st⟩ := hr T hT X
    cases hv
    have hal : s.vm.Alike t.vm := by rw [← e2]; exact X'.warmed.alike
    have hW2 : jWZ G h1 T'.heap s := by rw [e1]; exact jW_movedZ hal.symm hW1
    have hxok : r32 x := hok1 _ rfl
    have hS2 : va_S (fun q => G.2.2.2 ≤ q) s.heap T'.heap ([] ++ L) := ⟨by rw [e1, ← h0]; exact hz1, fun q h2 h3 => by rw [e1]; exact (hk1 q (by rw [h0]; exact h2) h3).trans (by rw [h0]), fun q hq => hL q (by simpa using hq)⟩
    have K : W p l e R s m args below meth c T'.heap ([] ++ L) (0 + (h1.1.length - h.1.length)) (0 + (jsz h1 - jsz h)) (MQ below (jQcZ G (some (.inl 0)) (wL h1 o 0 x)) args s ((wL h1 o 0 x).1.length - h.1.length) (jsz (wL h1 o 0 x) - jsz h) (fun q => G.2.2.2 ≤ q)) (F0 m (pc + 3) lsr (.int (Int32.ofInt x) :: [.int 0, jsv G (.inr (.inr (some o)))])) := by
      refine lv_i2l hx hb d2 (i2l_o hxok) ?_
      obtain ⟨hko, hato⟩ := hW2.2.1 o _ hgo
      obtain ⟨t0, ty, g1, -, -, g2, -⟩ := jty_at G hko (by omega)
      have hA := (hX.2.2.2 t0 _ g1).1 1 (fun j => .long (Int64.ofInt (gL h1 o j)))
      rw [g2 rfl] at hA
      rw [jrefZ hW2 hgo]
      refine W.last hx hb (show T'.heap[G.2.2.2 + o]? = some (vp_cell (G.2.1 3) (1, .inr (.inl fun i => Int64.ofInt (gL h1 o i)))) from hato) hA (fun q => by cases q) (by show ¬ (_ < 0 ∨ (arrV _ _ _).slots.size ≤ _); rw [arrV_size]; show ¬ ((0 : Int32) < 0 ∨ 1 ≤ (0 : Int32).toNatClampNeg); decide) rfl rfl d3 fun H1 f1 zz oq => ?_
      have hri0 : (0 : Int32).toNatClampNeg = 0 := rfl
      have hW3 : jWZ G (wL h1 o 0 x) H1 s := jW_updZ hW2 hgo rfl (fun c' hc' => ⟨fun _ => rfl, fun _ => rfl, fun i => by rw [gL_w, if_neg (fun q => hc' q.1)]⟩) zz oq (hW2.2.2.1 o) (fun j => by
        rw [gL_w]; split
        · unfold r32 at hxok; unfold r64; omega
        · exact hW2.2.2.2.1 o j) (by
        show H1[_]? = some (vp_cell _ _)
        rw [f1, vp_cell_l, vp_cell_l, arrV_store]
        congr 2
        funext q
        rw [hri0]
        by_cases hq : q = 0
        · subst hq; simp [updV, gL_w]
        · simp [updV, gL_w, hq])
      have hS3 := hS2.put zz oq (show G.2.2.2 ≤ G.2.2.2 + o by omega) (k := (0 : Int32).toNatClampNeg)
      refine lv_goto hx hb d4 h4 (lv_iconst hx hb d5 rfl ?_)
      have e0 : h1.1.length - h.1.length = (wL h1 o 0 x).1.length - h.1.length := rfl
      have e9 : jsz h1 - jsz h = jsz (wL h1 o 0 x) - jsz h := rfl
      rw [Nat.zero_add, Nat.zero_add, e0, e9]
      exact W.iret (v := 0) hx hb hret (fun t ht hw => ⟨rfl, fun v hv => by cases hv; exact r32_0, by rw [ht]; exact jW_movedZ hw.alike hW3, hS3.F ht⟩) hS3.2.2 d6 hlk
    obtain ⟨t2, a1, b1⟩ := K T' rfl X'
    exact ⟨t2, st t2 a1, b1⟩
  · have hpr := prun_pre _ _ _ _ _ _ _ _ _ hq
    have p1 := jpre_len hpr
    have p2 := jpre_sz hpr
    have hl9 : (nC h1 (0, 14)).1.length = h1.1.length + 1 := jlen_n h1 _
    have hs9 : jsz (nC h1 (0, 14)) = jsz h1 + 6 := jsz_n h1 _
    rw [hl9] at hlen2 hRc
    rw [hs9] at hRc
    have hM' := jmetX hM hT S hy2 hq hlay hok (by omega) l hlt
    have hr := vx_runV (nL := nL) (g := F0 m pc lsr ((cav.map (jsv G)).reverse ++ [.int 0, jsv G (.inr (.inr (some o)))])) (rest := [.int 0, jsv G (.inr (.inr (some o)))]) (locs := []) (cells := 0) (slots := 0) ⟨hx, hb, hml, hown, hts⟩ hM' (cwV (R := R) (s := s) (args := args) (own := "TurnedRingLaw") (index := idx) (C := (pj_n y2).cls) (cav'.map (jsv G)).length hts hin rfl rfl rfl ⟨rfl, z5.1, z5.2, hpn⟩ ⟨by show 2 * d + 20 + 1 ≤ R.frames; omega, by show 8 + (pmL y2 + 11) + (100 * d + 5000) ≤ R.locals; omega⟩) hpre rfl rfl hls.1 hstk hwt d1 ⟨by rw [Nat.zero_add]; omega, by rw [Nat.zero_add]; omega⟩ (below := below) (meth := meth) (e := e)
    intro T hT X
    rcases hr T hT X with ⟨v, st₀, t, T', L, h0, X', hL, e1, e2, hF, st⟩ | ⟨q, st₀, t, T', L, E', ce, h0, X', hL, e1, e2, ⟨rfl, hW1, hz1, hk1⟩, hce, hcv, hclE, st⟩
    · exact hF.elim
    · have hal : s.vm.Alike t.vm := by rw [← e2]; exact X'.warmed.alike
      have hW2 : jWZ G (nC h1 (0, 14)) T'.heap s := by rw [e1]; exact jW_movedZ hal.symm hW1
      have hS2 : va_S (fun q => G.2.2.2 ≤ q) s.heap T'.heap ([] ++ L) := ⟨by rw [e1, ← h0]; exact hz1, fun q h2 h3 => by rw [e1]; exact (hk1 q (by rw [h0]; exact h2) h3).trans (by rw [h0]), fun q hq => hL q (by simpa using hq)⟩
      have K : W p l e R s m args below meth c T'.heap ([] ++ L) (0 + (h1.1.length - h.1.length + 1)) (0 + (jsz h1 - jsz h + 6)) (MQ below (jQcZ G (some (.inl 1)) (nC h1 (0, 14))) args s ((nC h1 (0, 14)).1.length - h.1.length) (jsz (nC h1 (0, 14)) - jsz h) (fun q => G.2.2.2 ≤ q)) (F0 m Hd lsr [.ref q]) := by
        refine hst q _ _ _ _ _ lsr hls fun lsr' hls' => lv_iconst hx hb d7 rfl ?_
        have e0 : 0 + (h1.1.length - h.1.length + 1) = (nC h1 (0, 14)).1.length - h.1.length := by rw [hl9]; omega
        have e9 : 0 + (jsz h1 - jsz h + 6) = jsz (nC h1 (0, 14)) - jsz h := by rw [hs9]; omega
        rw [e0, e9]
        exact W.iret (v := 1) hx hb hret (fun t ht hw => ⟨rfl, fun v hv => by cases hv; unfold jvok r32; omega, by rw [ht]; exact jW_movedZ hw.alike hW2, hS2.F ht⟩) hS2.2.2 d8 hlk
      obtain ⟨t2, a1, b1⟩ := vx_catch (name := jXN) (E := jXN) (ce := ce) (q := q) hown [] (⟨0, pe, Hd, 13⟩ : ExceptionTableEntry) [] htab (fun z hz => by cases hz) hcov (by show (13 : Nat) ≠ 0; omega) (hts _ hcl) (jXcast hX) (by rw [e1]; exact hce) hcv hclE K T' rfl X'
      exact ⟨t2, st.trans a1, b1⟩
end HELP
