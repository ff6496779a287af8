/-! THE SIMULATION ONCE MORE, two frames a call (wip/whole/gen_e1m.py) -/
theorem pj_t13 : ((List.range 14).all fun oc => (pj_ml oc).all fun t => oc == 13 || decide (t.2.1 < 20)) = true := by decide +kernel
set_option maxRecDepth 100000 in
theorem pj_p13s : ((List.range 297).all fun y => !(poc y == 13)) = true := by decide +kernel
theorem pj_p13 {y : Nat} (h : y < 297) : poc y ≠ 13 := by
  have h1 := List.all_eq_true.mp pj_p13s y (List.mem_range.mpr h)
  simpa using h1
def jok3 (d : Nat) (R : Room) : Prop := 2 * d + 20 ≤ R.frames ∧ 100 * d + 5000 ≤ R.locals
/-- what a run of n steps says -/
def jSim3 (G : jg) (n : Nat) : Prop := ∀ (d y pc : Nat) (ls : List (Option jv)) (st : List jv) (h : jh) (o : Nat × Option jv) (hE : jh), prun n d y pc ls st h = some (o, hE) → poc y ≠ 13 →
  ∀ (p : Program) (l : Launch) (e : Env) (R : Room) (s : State) (m : MethodId) (args : Array Value) (below : List Frame) (meth : Method) (c : Code) (Q : State → Prop) (cE sE : Nat), jFZ G y p s m args meth c → jok3 d R → jroom R hE cE sE → l.stackTraces = false →
    (∀ pcE lsE stE, jend y o pcE lsE stE hE → jGZ G y p l e R s m args below meth c Q hE cE sE pcE lsE stE hE) → jGZ G y p l e R s m args below meth c Q hE cE sE pc ls st h
section JS2
variable {G : jg}
theorem jmet3 {n : Nat} (S : jSim3 G n) {d y : Nat} {av : List jv} {h h' : jh} {r : Option jv} (hy : y < 297) (hrun : prun n d y 0 (jent (pmL y) av) [] h = some ((0, r), h')) (hl : (jlay av).length ≤ pmL y) (hav : ∀ v ∈ av, jvok v) (hlen : h'.1.length ≤ 1000000) (l : Launch) (hlt : l.stackTraces = false) :
    Met l (pj_n y) (pj_ws y) { frames := 2 * d + 20, cells := h'.1.length - h.1.length, slots := jsz h' - jsz h, locals := 100 * d + 5000 } (jPcZ G av h) (jQcZ G r h') (h'.1.length - h.1.length) (jsz h' - jsz h) (fun q => G.2.2.2 ≤ q) := by
  obtain ⟨y1, y2, y3, y4, -⟩ := pj_yckd hy
  refine Met.ofW (cc := pby y) (maxL := pmL y) (ret := prt y) y4 rfl ?_
  intro p e s m args below meth c s₁ B hml hP
  obtain ⟨rfl, hW, hz, hX⟩ := hP
  rw [lg_entry_eq]
  have hpre := prun_pre _ _ _ _ _ _ _ _ _ hrun
  have p1 := jpre_len hpre
  have p2 := jpre_sz hpre
  have hts := atoms_spec (ws := pj_ws y) B.pre
  have F : jFZ G y p s m (av.map (jsv G)).toArray meth c := ⟨⟨B.exec, B.bytes⟩, by rw [← y1]; exact findClass_of_methodNamed B.named, hml, B.returns, B.notSynchronized, fun q => by rw [(name_of_methodNamed B.named B.method).1]; exact y3.mpr q, fun w hw => hts w (List.mem_cons_of_mem _ hw), hX⟩
  refine S d y 0 _ [] h (0, r) h' hrun (pj_p13 hy) p l e _ s m _ below meth c _ (h'.1.length - h.1.length) (jsz h' - jsz h) F ⟨Nat.le_refl _, Nat.le_refl _⟩ ⟨Nat.le_refl _, Nat.le_refl _, hlen⟩ hlt ?_ s.heap [] 0 0 _ hW va_S.rf hz (jentry hl) (jent_len hl) ⟨fun i v hv => jlay_ok av hav i v (jent_get hv), fun v hv => by cases hv⟩ (by omega) (by omega)
  intro pcE lsE stE hE H locs cells slots lsr hW' hS hz' hl' hn' ho hc hs
  obtain ⟨i, len, hd, hjl, hx⟩ := hE
  have hc' : cells = h'.1.length - h.1.length := by omega
  have hs' : slots = jsz h' - jsz h := by omega
  subst hc'; subst hs'
  have hq : ∀ v, (∀ w, r = some w → jvok w) → v = r.map (jsv G) → ∀ t : State, t.heap = H → s.WarmedH t.vm → jQcZ G r h' (av.map (jsv G)).toArray s (.returned v) t := fun v hv hr t ht hw => ⟨by rw [hr], hv, by rw [ht]; exact jW_movedZ hw.alike hW', hS.F ht⟩
  have hf : ∀ q ∈ locs, (fun q => G.2.2.2 ≤ q) q.base := hS.2.2
  rcases pjx_ret hx with ⟨rfl, x, rfl, e, hr⟩ | ⟨rfl, x, rfl, e, hr⟩ | ⟨rfl, x, rfl, e, hr⟩ | ⟨rfl, rfl, e, hr⟩ | ⟨k, rfl, e⟩
  · obtain rfl := jone (n := 1) hjl (fun _ => rfl)
    cases e
    have hv : ∀ w, (some (Sum.inl x) : Option jv) = some w → jvok w := fun w hw => by cases hw; exact jok_top ho
    rcases hr with hr | ⟨hr, h01⟩
    · exact W.iret (v := Int32.ofInt x) F.1.1 F.1.2 (by rw [F.2.2.2.1]; exact hr) (hq _ hv rfl) hf hd
    · exact W.zret (v := Int32.ofInt x) F.1.1 F.1.2 (by rw [F.2.2.2.1]; exact hr) (by rcases h01 with q | q <;> rw [q] <;> rfl) (hq _ hv rfl) hf hd
  · obtain rfl := jone (n := 1) hjl (fun _ => rfl)
    cases e
    exact W.lret (v := Int64.ofInt x) F.1.1 F.1.2 (by rw [F.2.2.2.1]; exact hr) (hq _ (fun w hw => by cases hw; exact jok_top ho) rfl) hf hd
  · obtain rfl := jone (n := 1) hjl (fun _ => rfl)
    cases e
    have hvr : jsv G (.inr (.inr x)) = .null ∨ ∃ a, jsv G (.inr (.inr x)) = .ref a := by
      cases x with
      | none => exact Or.inl rfl
      | some q => exact Or.inr ⟨_, rfl⟩
    rcases hr with ⟨nm, hr⟩ | ⟨ty, hr⟩
    · exact W.aret F.1.1 F.1.2 (by rw [F.2.2.2.1]; exact hr) (Or.inl ⟨_, rfl⟩) hvr (hq _ (fun w hw => by cases hw; trivial) rfl) hf hd
    · exact W.aret F.1.1 F.1.2 (by rw [F.2.2.2.1]; exact hr) (Or.inr ⟨_, rfl⟩) hvr (hq _ (fun w hw => by cases hw; trivial) rfl) hf hd
  · obtain rfl := jone (n := 1) hjl (fun _ => rfl)
    cases e
    exact W.vret F.1.1 F.1.2 (by rw [F.2.2.2.1]; exact hr) (hq _ (fun w hw => by cases hw) rfl) hf hd
  · cases e
variable {y : Nat} {p : Program} {l : Launch} {e : Env} {R : Room} {s : State} {m : MethodId} {args : Array Value} {below : List Frame} {meth : Method} {c : Code} {Q : State → Prop} {hE : jh} {cE sE : Nat} {pc : Nat} {ls : List (Option jv)} {st : List jv} {h : jh}
theorem jcall3 (hlt : l.stackTraces = false) (F : jFZ G y p s m args meth c) {d : Nat} (hok : jok3 (d + 1) R) (hR : jroom R hE cE sE) {n k kd yy y2 : Nat} {av rs : List jv} {h1 : jh} {r : Option jv} (S : jSim3 G n) (hk : pml (poc y) k = some (kd, yy)) (hx : jcall kd yy pc ls st h = some (.inr (.inl (0, y2, av, rs))))
    (hi : (jkV kd = true ∧ decode (pby y) pc = .ok (.invokevirtual k, 3)) ∨ (jkS kd = true ∧ decode (pby y) pc = .ok (.invokestatic k, 3)) ∨ (jkI kd = true ∧ decode (pby y) pc = .ok (.invokespecial k, 3)))
    (hrun : prun n d y2 0 (jent (pmL y2) av) [] h = some ((0, r), h1)) (hpE : jpre h1 hE)
    (kk : jGZ G y p l e R s m args below meth c Q hE cE sE (pc + 3) ls (r.toList ++ rs) h1) : jGZ G y p l e R s m args below meth c Q hE cE sE pc ls st h := fun H locs cells slots lsr hW hS hz hl hn2 ho hc hs => by
  obtain ⟨⟨hx0, hb⟩, hown, hml, hret, hlk, hin, hts, hX⟩ := F
  obtain ⟨ho14, hmem⟩ := pml_ok hk
  have hck := List.all_eq_true.mp (List.all_eq_true.mp pj_mck_ok (poc y) (List.mem_range.mpr ho14)) _ hmem
  have hp1 := prun_pre _ _ _ _ _ _ _ _ _ hrun
  have p1 := jpre_len hp1
  have p2 := jpre_sz hp1
  have p3 := jpre_len hpE
  have p4 := jpre_sz hpE
  have hlen1 : h1.1.length ≤ 1000000 := by have := hR.2.2; omega
  have hcl : ∀ {t : Nat} {av' rs' : List jv}, jcl t yy av' rs' = some (.inr (.inl (0, y2, av, rs))) → yy = y2 ∧ av' = av ∧ rs' = rs ∧ (jlay av).length ≤ pmL y2 ∧ jwt rs ≤ 8 := by
    intro t av' rs' hq
    unfold jcl at hq
    split at hq
    · rename_i hq2; cases hq; exact ⟨rfl, rfl, rfl, hq2.1, hq2.2⟩
    · cases hq
  have hst : ∀ {z : Nat}, (st.take z).reverse = av → st.drop z = rs → st = av.reverse ++ rs := by
    intro z e1 e2
    rw [← e1, ← e2, List.reverse_reverse, List.take_append_drop]
  have fin : ∀ {q : Nat}, q + (h1.1.length - h.1.length) ≤ R.cells → True := fun _ => trivial
  have hcR : cells + (h1.1.length - h.1.length) ≤ R.cells := by have := hR.1; omega
  have hsR : slots + (jsz h1 - jsz h) ≤ R.slots := by have := hR.2.1; omega
  -- the rest, given the run
  have goOn : (jok ls rs) → va_Run p l e R s m args below meth c H locs cells slots (h1.1.length - h.1.length) (jsz h1 - jsz h) (F0 m pc lsr (st.map (jsv G))) (rs.map (jsv G)) (jQcZ G r h1 (av.map (jsv G)).toArray) (fun q => G.2.2.2 ≤ q) → W p l e R s m args below meth c H locs cells slots Q (F0 m pc lsr (st.map (jsv G))) := fun hors hrn => jrun_goZ hrn hS hz hl hn2 hors (by omega) (by omega) kk
  have hblind : ∀ U : State, U.heap = H → s.WarmedH U.vm → jPcZ G av h (av.map (jsv G)).toArray U := fun U hU hw => ⟨rfl, by rw [hU]; exact jW_movedZ hw.alike hW, by rw [hU]; have := hS.1; omega, jX_warmZ hw hX⟩
  have hlow : y2 < 297 → 2 * d + 20 + 1 ≤ R.frames ∧ 8 + (pmL y2 + 11) + (100 * d + 5000) ≤ R.locals := fun q => by
    have h7 := pj_mL q
    have h8 := hok.1
    have h9 := hok.2
    omega
  have hmon : (F0 m pc lsr (st.map (jsv G))).monitorRoom = 0 := rfl
  have hvalid : st = av.reverse ++ rs → (∀ v ∈ av, jvok v) ∧ jok ls rs := fun e => ⟨fun v hv => ho.2 v (by rw [e]; exact List.mem_append_left _ (List.mem_reverse.mpr hv)), ho.1, fun v hv => ho.2 v (by rw [e]; exact List.mem_append_right _ hv)⟩
  -- virtual calls
  have hvirt : ∀ {o : Nat} {av' : List jv}, av = .inr (.inr (some o)) :: av' → gK h o = some (0, poc y2) → st = av.reverse ++ rs → (jlay av).length ≤ pmL y2 → jwt rs ≤ 8 → y2 < 297 → pj_staY.contains y2 = false → pin y2 ≠ 1 → poc y2 < 13 → av.length = pna y2 → decode (pby y) pc = .ok (.invokevirtual k, 3) →
      (pj_mw (poc y) (k, kd, y2) = .methodLink (pj_C (poc y)) k (pj_n y2) ∧ pj_plain (k, kd, y2) = true) ∨ (pj_mw (poc y) (k, kd, y2) = .methodLinkNest (pj_C (poc y)) k (pj_n y2) "TurnedRing" ∧ pj_plain (k, kd, y2) = false) → yy = y2 → W p l e R s m args below meth c H locs cells slots Q (F0 m pc lsr (st.map (jsv G))) := by
    intro o av' e0 hko est hlay hw hy hsta hpin hpo hnl hd hlink eyy
    subst eyy
    obtain ⟨z1, z2, z3, z4, z5, z6, z7⟩ := pj_yckd hy
    obtain ⟨w1, w2, w3⟩ := z7 hsta
    have w3 : pj_selY.contains yy = true := w3.resolve_left hpin
    obtain ⟨hva, hors⟩ := hvalid est
    have hM := jmet3 S hy hrun hlay hva hlen1 l hlt
    have hat := (hW.2.1 o _ hko).2
    have hrec := va_recv hX.2.2 (va_P1 hat) (pj_cl_atZ (by omega)) (q0 := 0) rfl
    have hpn : (parseMethodDescriptor (pj_n yy).desc).map (fun d => d.parameters.length) = some (av'.map (jsv G)).length := by
      rw [z6, if_neg (by rw [hsta]; decide), List.length_map]
      rw [e0] at hnl
      simp only [List.length_cons] at hnl
      congr 1; omega
    have hpre : PreV s H (pj_n yy).cls (G.2.2.2 + o) (jPcZ G av h) (av'.map (jsv G)) := by
      refine ⟨jPc_blindZ, by rw [z1]; exact hrec, fun U hU hw => ?_⟩
      have h9 := hblind U hU hw
      rw [e0, List.map_cons, jrefZ hW hko] at h9
      rw [e0]
      exact h9
    have hstk : (F0 m pc lsr (st.map (jsv G))).stack = (av'.map (jsv G)).reverse ++ .ref (G.2.2.2 + o) :: rs.map (jsv G) := by
      show st.map (jsv G) = _
      rw [est, e0, List.reverse_cons, List.map_append, List.map_append, List.map_reverse, List.map_singleton, jrefZ hW hko, List.append_assoc]; rfl
    have hwt : 2 * (F0 m pc lsr (st.map (jsv G))).monitorRoom + ((rs.map (jsv G)).map fun v => v.category).sum ≤ 8 := by rw [hmon, jwt_sum]; omega
    have hargs : (Value.ref (G.2.2.2 + o) :: av'.map (jsv G)).toArray = (av.map (jsv G)).toArray := by rw [e0, List.map_cons, jrefZ hW hko]
    have hroomy := hlow hy
    refine goOn hors ?_
    rw [← hargs]
    rcases hlink with ⟨hl1, hl2⟩ | ⟨hl1, hl2⟩
    · have hlw : Cond.methodLink (pj_C (poc y)) k (pj_n yy) ∈ pj_W := by rw [← hl1]; exact pml_w hk hl2
      refine va_runV ⟨hx0, hb, hml, hown, hts⟩ hM (cwV (C := (pj_n yy).cls) (av'.map (jsv G)).length hts ?_ rfl rfl rfl ⟨rfl, z5.1, z5.2, hpn⟩ hroomy) hpre rfl rfl hl.1 hstk hwt hd ⟨hcR, hsR⟩
      intro w hw9
      have hmw : w ∈ pj_W := by
        unfold wsV at hw9
        rcases List.mem_append.mp hw9 with q | q
        · simp only [List.mem_cons, List.not_mem_nil, or_false] at q
          rcases q with rfl | rfl | rfl | rfl
          · exact hlw
          · exact pj_insW w2
          · exact pj_selW w3
          · rw [z1]; exact pj_ini (by omega)
        · exact (pj_wsg hy w q).1
      exact ⟨hmw, good_of_word (pj_Wgood hmw).2⟩
    · have hnw : va_Nw (.methodLinkNest (pj_C (poc y)) k (pj_n yy) "TurnedRing") s := by
        have := hX.1.1 (poc y) ho14 _ hmem hl2
        rw [hl1] at this; exact this
      exact va_runVN (C := (pj_n yy).cls) ⟨hx0, hb, hml, hown, hts⟩ hM ⟨va_cnB (av'.map (jsv G)).length hts (pj_wsg hy) rfl rfl rfl hnw (hts _ (by rw [z1]; exact pj_ini (by omega))) ⟨z5.1, z5.2, hpn⟩ hroomy, hts _ (pj_insW w2), hts _ (pj_selW w3)⟩ hpre rfl rfl hl.1 hstk hwt hd ⟨hcR, hsR⟩
  -- constructors
  have hspec : ∀ {o : Nat} {av' : List jv}, av = .inr (.inr (some o)) :: av' → st = av.reverse ++ rs → (jlay av).length ≤ pmL y2 → jwt rs ≤ 8 → y2 < 297 → pj_staY.contains y2 = false → pin y2 = 1 → poc y2 < 13 → av.length = pna y2 → prt y2 = none → decode (pby y) pc = .ok (.invokespecial k, 3) →
      (pj_mw (poc y) (k, kd, y2) = .methodLink (pj_C (poc y)) k (pj_n y2) ∧ pj_plain (k, kd, y2) = true) ∨ (pj_mw (poc y) (k, kd, y2) = .methodLinkNest (pj_C (poc y)) k (pj_n y2) "TurnedRing" ∧ pj_plain (k, kd, y2) = false) → yy = y2 → W p l e R s m args below meth c H locs cells slots Q (F0 m pc lsr (st.map (jsv G))) := by
    intro o av' e0 est hlay hw hy hsta hpin hpo hnl hpr hd hlink eyy
    subst eyy
    obtain ⟨z1, z2, z3, z4, z5, z6, z7⟩ := pj_yckd hy
    obtain ⟨w1, w2, -⟩ := z7 hsta
    obtain ⟨hva, hors⟩ := hvalid est
    have hM := jmet3 S hy hrun hlay hva hlen1 l hlt
    have hrf : jsv G (.inr (.inr (some o))) = .ref (jad G o) := rfl
    have hpn : (parseMethodDescriptor (pj_n yy).desc).map (fun d => d.parameters.length) = some (av'.map (jsv G)).length := by
      rw [z6, if_neg (by rw [hsta]; decide), List.length_map]
      rw [e0] at hnl
      simp only [List.length_cons] at hnl
      congr 1; omega
    have hargs : (Value.ref (jad G o) :: av'.map (jsv G)).toArray = (av.map (jsv G)).toArray := by rw [e0, List.map_cons, hrf]
    have hpre : PreS s H (jPcZ G av h) (.ref (jad G o) :: av'.map (jsv G)) := by
      refine ⟨jPc_blindZ, fun U hU hw => ?_⟩
      rw [hargs]
      exact hblind U hU hw
    have hstk : (F0 m pc lsr (st.map (jsv G))).stack = (av'.map (jsv G)).reverse ++ .ref (jad G o) :: rs.map (jsv G) := by
      show st.map (jsv G) = _
      rw [est, e0, List.reverse_cons, List.map_append, List.map_append, List.map_reverse, List.map_singleton, hrf, List.append_assoc]; rfl
    have hwt : 2 * (F0 m pc lsr (st.map (jsv G))).monitorRoom + ((rs.map (jsv G)).map fun v => v.category).sum ≤ 8 := by rw [hmon, jwt_sum]; omega
    have hroomy := hlow hy
    have hwseq : pj_ws yy = Cond.code (pj_n yy) (pby yy) (pmL yy) none :: pj_W := by unfold pj_ws; rw [hpr]
    refine goOn hors ?_
    rw [← hargs]
    rcases hlink with ⟨hl1, hl2⟩ | ⟨hl1, hl2⟩
    · have hlw : Cond.methodLink (pj_C (poc y)) k (pj_n yy) ∈ pj_W := by rw [← hl1]; exact pml_w hk hl2
      exact va_runI ⟨hx0, hb, hml, hown, hts⟩ hM (cwI (av'.map (jsv G)).length hts (pj_wsg hy) hwseq rfl rfl (hts _ (by rw [z1]; exact pj_ini (by omega))) (hts _ hlw) (hts _ (pj_insW w2)) (z3.mpr hpin) ⟨z5.1, z5.2, hpn⟩ hroomy) hpre rfl rfl hl.1 hstk hwt hd ⟨hcR, hsR⟩
    · have hnw : va_Nw (.methodLinkNest (pj_C (poc y)) k (pj_n yy) "TurnedRing") s := by
        have := hX.1.1 (poc y) ho14 _ hmem hl2
        rw [hl1] at this; exact this
      exact va_runIN ⟨hx0, hb, hml, hown, hts⟩ hM ⟨va_cnB (av'.map (jsv G)).length hts (pj_wsg hy) hwseq rfl rfl hnw (hts _ (by rw [z1]; exact pj_ini (by omega))) ⟨z5.1, z5.2, hpn⟩ hroomy, z3.mpr hpin, hts _ (pj_insW w2)⟩ hpre rfl rfl hl.1 hstk hwt hd ⟨hcR, hsR⟩
  -- static calls
  have hstat : st = av.reverse ++ rs → (jlay av).length ≤ pmL y2 → jwt rs ≤ 8 → y2 < 297 → pj_staY.contains y2 = true → poc y2 < 16 → av.length = pna y2 → decode (pby y) pc = .ok (.invokestatic k, 3) →
      (pj_mw (poc y) (k, kd, y2) = .methodLink (pj_C (poc y)) k (pj_n y2) ∧ pj_plain (k, kd, y2) = true) ∨ (pj_mw (poc y) (k, kd, y2) = .methodLinkNest (pj_C (poc y)) k (pj_n y2) "TurnedRing" ∧ pj_plain (k, kd, y2) = false) → yy = y2 → W p l e R s m args below meth c H locs cells slots Q (F0 m pc lsr (st.map (jsv G))) := by
    intro est hlay hw hy hsta hpo hnl hd hlink eyy
    subst eyy
    obtain ⟨z1, z2, z3, z4, z5, z6, z7⟩ := pj_yckd hy
    obtain ⟨hva, hors⟩ := hvalid est
    have hM := jmet3 S hy hrun hlay hva hlen1 l hlt
    have hpn : (parseMethodDescriptor (pj_n yy).desc).map (fun d => d.parameters.length) = some (av.map (jsv G)).length := by
      rw [z6, if_pos hsta, List.length_map, hnl]
    have hpre : PreS s H (jPcZ G av h) (av.map (jsv G)) := ⟨jPc_blindZ, hblind⟩
    have hstk : (F0 m pc lsr (st.map (jsv G))).stack = (av.map (jsv G)).reverse ++ rs.map (jsv G) := by
      show st.map (jsv G) = _
      rw [est, List.map_append, List.map_reverse]
    have hwt : 2 * (F0 m pc lsr (st.map (jsv G))).monitorRoom + ((rs.map (jsv G)).map fun v => v.category).sum ≤ 8 := by rw [hmon, jwt_sum]; omega
    have hroomy := hlow hy
    refine goOn hors ?_
    rcases hlink with ⟨hl1, hl2⟩ | ⟨hl1, hl2⟩
    · have hlw : Cond.methodLink (pj_C (poc y)) k (pj_n yy) ∈ pj_W := by rw [← hl1]; exact pml_w hk hl2
      exact va_runS ⟨hx0, hb, hml, hown, hts⟩ hM ⟨callB_of (av.map (jsv G)).length hts (pj_wsg hy) rfl rfl rfl (hts _ (by rw [z1]; exact pj_ini (by omega))) (hts _ hlw) ⟨z5.1, z5.2, hpn⟩ hroomy, hts _ (pj_staW hsta)⟩ hpre rfl rfl hl.1 hstk hwt hd ⟨hcR, hsR⟩
    · have hnw : va_Nw (.methodLinkNest (pj_C (poc y)) k (pj_n yy) "TurnedRing") s := by
        have := hX.1.1 (poc y) ho14 _ hmem hl2
        rw [hl1] at this; exact this
      exact va_runSN ⟨hx0, hb, hml, hown, hts⟩ hM ⟨va_cnB (av.map (jsv G)).length hts (pj_wsg hy) rfl rfl rfl hnw (hts _ (by rw [z1]; exact pj_ini (by omega))) ⟨z5.1, z5.2, hpn⟩ hroomy, hts _ (pj_staW hsta), trivial⟩ hpre rfl rfl hl.1 hstk hwt hd ⟨hcR, hsR⟩
  have hnl : ∀ {z : Nat} {q : List jv}, z ≤ st.length → (st.take z).reverse = q → q.length = z := by
    intro z q h1 h2
    rw [← h2, List.length_reverse, List.length_take]; omega
  unfold jcall at hx
  split at hx
  -- the small calls of the JDK: no calls here
  iterate 6 ((repeat' split at hx) <;> first | (cases hx; done) | (unfold jgo at hx; cases hx; done))
  iterate 3 ((split at hx) <;> first | (cases hx; done) | (unfold jclt at hx; split at hx <;> cases hx))
  iterate 2 (
    · split at hx
      · rename_i hle
        split at hx
        · rename_i o av' heq
          split at hx
          · rename_i hko
            obtain ⟨rfl, e1, e2, h3, h4⟩ := hcl hx
            simp only [pj_mck, Bool.and_eq_true, Bool.not_eq_true', decide_eq_true_eq, beq_eq_false_iff_ne] at hck
            obtain ⟨⟨⟨c1, c2⟩, c3⟩, c4⟩ := hck
            have hd9 : decode (pby y) pc = .ok (.invokevirtual k, 3) := by
              rcases hi with ⟨-, a⟩ | ⟨a, -⟩ | ⟨a, -⟩
              · exact a
              · cases a
              · cases a
            first | exact hvirt e1.symm hko (hst (heq.trans e1) e2) h3 h4 c1 c2 c3 c4 (hnl hle (heq.trans e1)) hd9 (Or.inl ⟨rfl, rfl⟩) rfl | exact hvirt e1.symm hko (hst (heq.trans e1) e2) h3 h4 c1 c2 c3 c4 (hnl hle (heq.trans e1)) hd9 (Or.inr ⟨rfl, rfl⟩) rfl
          · cases hx
        · cases hx
      · cases hx)
  iterate 2 (
    · split at hx
      · rename_i hle
        split at hx
        · rename_i o av' heq
          obtain ⟨rfl, e1, e2, h3, h4⟩ := hcl hx
          simp only [pj_mck, Bool.and_eq_true, Bool.not_eq_true', decide_eq_true_eq, beq_iff_eq] at hck
          obtain ⟨⟨⟨c1, c2⟩, c3⟩, c4⟩ := hck
          have hd9 : decode (pby y) pc = .ok (.invokespecial k, 3) := by
            rcases hi with ⟨a, -⟩ | ⟨a, -⟩ | ⟨-, a⟩
            · cases a
            · cases a
            · exact a
          first | exact hspec e1.symm (hst (heq.trans e1) e2) h3 h4 c1 c2 c3 c4 (hnl hle (heq.trans e1)) (pj_init c1 c3) hd9 (Or.inl ⟨rfl, rfl⟩) rfl | exact hspec e1.symm (hst (heq.trans e1) e2) h3 h4 c1 c2 c3 c4 (hnl hle (heq.trans e1)) (pj_init c1 c3) hd9 (Or.inr ⟨rfl, rfl⟩) rfl
        · cases hx
      · cases hx)
  iterate 2 (
    · split at hx
      · rename_i hle
        obtain ⟨rfl, e1, e2, h3, h4⟩ := hcl hx
        simp only [pj_mck, Bool.and_eq_true, Bool.or_eq_true, decide_eq_true_eq] at hck
        obtain ⟨⟨c1, c2⟩, -⟩ := hck
        have hd9 : decode (pby y) pc = .ok (.invokestatic k, 3) := by
          rcases hi with ⟨a, -⟩ | ⟨-, a⟩ | ⟨a, -⟩
          · cases a
          · exact a
          · cases a
        first | exact hstat (hst e1 e2) h3 h4 c1 c2 (pj_yckd c1).2.1 (hnl hle e1) hd9 (Or.inl ⟨rfl, rfl⟩) rfl | exact hstat (hst e1 e2) h3 h4 c1 c2 (pj_yckd c1).2.1 (hnl hle e1) hd9 (Or.inr ⟨rfl, rfl⟩) rfl
      · cases hx)
  cases hx
/-- every run of the small machine is one of the machine -/
theorem jsim3 (hM : jHmulZ G) (hT : jHstrZ G) : ∀ n : Nat, jSim3 G n
  | 0 => fun d y pc ls st h o hE hr => by cases hr
  | n + 1 => fun d y pc ls st h o hE hr h13 p l e R s m args below meth c Q cE sE F hok hR hlt hend => by
    have ih := jsim3 hM hT n
    have hroom : 20 ≤ R.frames ∧ 5000 ≤ R.locals := ⟨by have := hok.1; omega, by have := hok.2; omega⟩
    unfold prun at hr
    split at hr
    · rename_i i len hd
      split at hr
      · cases hr
      rename_i hlen
      have hl : jlen i len = true := by simpa using hlen
      split at hr
      · rename_i pc' ls' st' h' hx
        exact jstepZ hM hT F hroom hR i hd hl hx (prun_pre _ _ _ _ _ _ _ _ _ hr) (ih d y pc' ls' st' h' o hE hr h13 p l e R s m args below meth c Q cE sE F hok hR hlt hend)
      · rename_i y2 av rs hx
        split at hr
        · cases hr
        · rename_i d'
          split at hr
          · rename_i r h1 hq
            obtain ⟨k, kd, yy, hk, hc, hi⟩ := pjx_call hx
            have hl3 : len = 3 := by
              rcases hi with ⟨-, rfl⟩ | ⟨-, rfl⟩ | ⟨-, rfl⟩ <;> exact jone hl (fun _ => rfl)
            subst hl3
            exact jcall3 hlt F hok hR ih hk hc (by
              rcases hi with ⟨a, rfl⟩ | ⟨a, rfl⟩ | ⟨a, rfl⟩
              · exact Or.inl ⟨a, hd⟩
              · exact Or.inr (Or.inl ⟨a, hd⟩)
              · exact Or.inr (Or.inr ⟨a, hd⟩)) hq (prun_pre _ _ _ _ _ _ _ _ _ hr) (ih (d' + 1) y (pc + 3) ls (r.toList ++ rs) h1 o hE hr h13 p l e R s m args below meth c Q cE sE F hok hR hlt hend)
          · cases hr
      · rename_i t y2 av rs ht hx
        have ht0 : t ≠ 0 := fun q => ht q
        obtain ⟨k, kd, yy, hk, hc, hi⟩ := pjx_call hx
        obtain ⟨-, hkd, -⟩ := jcall_try ht0 hc
        obtain ⟨ho14, hmm⟩ := pml_ok hk
        have h9 := List.all_eq_true.mp (List.all_eq_true.mp pj_t13 (poc y) (List.mem_range.mpr ho14)) _ hmm
        simp only [Bool.or_eq_true, decide_eq_true_eq, beq_iff_eq] at h9
        rcases h9 with h9 | h9
        · exact absurd h9 h13
        · replace h9 : kd < 20 := h9; omega
      · rename_i r hx
        cases hr
        exact hend pc ls st ⟨i, len, hd, hl, hx⟩
      · cases hr
    · cases hr
end JS2
