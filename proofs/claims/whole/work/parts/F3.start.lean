/-! THE START: the machine's heap at the law's entry holds the empty small heap -/
def jgn : Cond := Jvm.Cond.and given_1 narrow_1
def jtm (i : Nat) : Term := .string "TurnedRing$Reader" (if i = 0 then 254 else 280)
set_option maxRecDepth 100000 in
theorem jtx_ok : ((List.range 2).all fun i => (flatC jgn).contains (Cond.exactly (jtm i) "java/lang/String") && (flatC jgn).contains (Cond.eq (.field (jtm i) "java/lang/String" "coder" "B") (.int 0)) && (flatC jgn).contains (Cond.arrayOf (.field (jtm i) "java/lang/String" "value" "[B") .byte) && (flatC jgn).contains (Cond.eq (.length (.field (jtm i) "java/lang/String" "value" "[B")) (.int (Int32.ofNat (jTbl.getD i 0)))) &&
    (List.range (jTbl.getD i 0)).all fun j => (flatC jgn).contains (Cond.eq (.elem (.field (jtm i) "java/lang/String" "value" "[B") (.int (Int32.ofNat j))) (.int ((jTbb.getD i []).getD j 0)))) = true := by decide +kernel
set_option maxRecDepth 100000 in
theorem jtx_ne : ((flatC jgn).contains (Cond.not (.eq (jtm 0) (jtm 1))) || (flatC jgn).contains (Cond.not (.eq (jtm 1) (jtm 0)))) = true := by decide +kernel
set_option maxRecDepth 100000 in
theorem jtx_st : ((flatC jgn).contains (Cond.eq (.static "java/lang/String" "COMPACT_STRINGS" "Z") (.int 1)) && (flatC jgn).contains (Cond.isRef (.static "jdk/internal/util/Preconditions" "SIOOBE_FORMATTER" "Ljava/util/function/BiFunction;")) && (flatC jgn).contains (Cond.isRef (.static "java/lang/Throwable" "UNASSIGNED_STACK" "[Ljava/lang/StackTraceElement;")) && (flatC jgn).contains (Cond.isRef (.static "java/lang/Throwable" "SUPPRESSED_SENTINEL" "Ljava/util/List;"))) = true := by decide +kernel
def jtw : List Cond := [Cond.laysStatic "java/lang/String" "COMPACT_STRINGS" "Z", Cond.laysStatic "jdk/internal/util/Preconditions" "SIOOBE_FORMATTER" "Ljava/util/function/BiFunction;", Cond.laysStatic "java/lang/Throwable" "UNASSIGNED_STACK" "[Ljava/lang/StackTraceElement;", Cond.laysStatic "java/lang/Throwable" "SUPPRESSED_SENTINEL" "Ljava/util/List;",
  Cond.initialized "java/lang/String", Cond.initialized "jdk/internal/util/Preconditions", Cond.initialized "java/lang/Throwable", Cond.stringRef "TurnedRing$Reader" 254 "field turn slope x quo rem lquo lrem gcd lgcd lcm llcm ", Cond.stringRef "TurnedRing$Reader" 280 ";=+*^(),", Cond.instantiable jXN 6,
  Cond.arrayClass .int, Cond.arrayClass .boolean, Cond.arrayClass .long, Cond.arrayOver (.object (pj_C 3)), Cond.arrayOver (.object (pj_C 9)), Cond.arrayOver (.object (pj_C 1)), Cond.arrayOver (.array .int)]
set_option maxRecDepth 100000 in
theorem jtw_ok : (jtw.all fun w => lw_tbl.contains w) = true := by decide +kernel
theorem jtW {k : Nat} {w : Cond} (h : jtw[k]? = some w) : w ∈ lw_tbl := List.contains_iff_mem.mp (List.all_eq_true.mp jtw_ok w (List.mem_of_getElem? h))
section START
variable {s : State} {args : Array Value}
theorem jK_all (hts : ∀ w ∈ lw_tbl, w.before args s = true) : ∀ (c : Nat) (q : vw_C), pj_clZ[c]? = some q → ∃ (cC : ClassId) (iS : Nat → Nat), u_Kn s q.1 q.2.1 q.2.2 cC iS := by
  have htw : ∀ w ∈ pj_W, w.before args s = true := fun w hw => hts w (List.mem_filter.mp hw).1
  have h13 : ∀ ci, ci < 13 → ∃ (cC : ClassId) (iS : Nat → Nat), u_Kn s (pj_C ci) (pj_T ci) (pj_N ci) cC iS := fun ci hci => u_known htw (pj_lay hci) (htw _ (pj_new hci))
  intro c q h
  have hc : c < 15 := (List.getElem?_eq_some_iff.mp h).1
  by_cases h1 : c < 13
  · have e := pj_cl_atZ (ci := c) (by omega)
    cases h.symm.trans e
    exact h13 c h1
  · by_cases h2 : c = 14
    · subst h2
      cases h.symm.trans jX14
      exact u_known (N := 0) htw (fun w hw => by cases hw) (hts _ (jtW (k := 9) rfl))
    · have h3 : c = 13 := by omega
      subst h3
      cases h.symm.trans (show pj_clZ[13]? = some (pj_C 12, pj_T 12, pj_N 12) from rfl)
      exact h13 12 (by omega)
/-- an array's class -/
theorem jArr (hts : ∀ w ∈ lw_tbl, w.before args s = true) : (∀ ty, ty = .int ∨ ty = .boolean ∨ ty = .long → ∃ cA, ArrOfT s cA ty ∧ va_RA s cA ty) ∧ (∀ C, C = pj_C 3 ∨ C = pj_C 9 ∨ C = pj_C 1 → ∃ cA, ArrOfT s cA (.object C) ∧ va_RA s cA (.object C)) ∧ ∃ cA, ArrOfT s cA (.array .int) ∧ va_RA s cA (.array .int) := by
  refine ⟨fun ty hty => ?_, fun C hC => ?_, ?_⟩
  · have hw : Cond.arrayClass ty ∈ lw_tbl := by
      rcases hty with rfl | rfl | rfl
      · exact jtW (k := 10) rfl
      · exact jtW (k := 11) rfl
      · exact jtW (k := 12) rfl
    obtain ⟨c, k, comp, h1, h2, h3⟩ := Cond.arrayClass_spec (args := args) (first := s) (o := none) (s := s) (idx := []) (hts _ hw)
    refine ⟨c, fun n z => ⟨(fun q hq => by cases hq), k, h2, comp, h3⟩, ?_⟩
    rcases hty with rfl | rfl | rfl <;> exact h1
  · have hw : Cond.arrayOver (.object C) ∈ lw_tbl := by
      rcases hC with rfl | rfl | rfl
      · exact jtW (k := 13) rfl
      · exact jtW (k := 14) rfl
      · exact jtW (k := 15) rfl
    obtain ⟨comp, c, k, h1, -, h3, h4, h5⟩ := Cond.arrayOver_spec (args := args) (first := s) (o := none) (s := s) (idx := []) (hts _ hw)
    exact ⟨c, fun n z => ⟨(fun q hq => by cases hq), k, h3, comp, h4⟩, k, comp, h3, h4, h1, h5⟩
  · obtain ⟨comp, c, k, h1, h2, h3, h4⟩ := jover (s := s) (t := .int) (show (Cond.arrayOver (.array .int)).before #[] s = true from hts _ (jtW (k := 16) rfl))
    exact ⟨c, fun n z => ⟨(fun q hq => by cases hq), k, h2, comp, h3⟩, h4⟩
end START
def R_law : String := "TurnedRingLaw"
def lw_P (b : Addr) (xs : List Int32) (args : Array Value) (s : State) : Prop := args = #[.ref b] ∧ s.IntsAt b xs ∧ xs.length ≤ 3072 ∧ (Jvm.Cond.and given_1 narrow_1).before args s = true
def lw_Q (_ : Array Value) (s : State) (o : Outcome) (t : State) : Prop := o = .returned (some (.int 1)) ∧ Framed s o t [] 601024 7293034
def lw_Z (below : List Frame) (a : Array Value) (s : State) : State → Prop := fun t => ∃ o, t.status = .running ∧ Ended t below o ∧ lw_Q a s o t
/-- the law's own end, with 1 on the stack, nothing written that was there before, its room as the claim has it -/
theorem lw_ret {p : Program} {l : Launch} {e : Env} {s : State} {m : MethodId} {below : List Frame} {meth : Method} {c : Code} {b : Nat} (hx : p.tables.exec = Jvm.exec) (hb : c.code = code) (hr : meth.sig.returnType = ret) (hlocks : meth.locks = false) {pc : Nat} {H : Heap} {ls : Array Slot} (hdg : decode code pc = .ok (.ireturn, 1)) : W p l e room_1 s m #[Value.ref b] below meth c H [] 601024 7293034 (lw_Z below #[Value.ref b] s) (F0 m pc ls [.int 1]) := by
  intro T hT X
  obtain ⟨fs, hret, hrun, hended, hW, hframe⟩ := X.leave (v := some (.int 1)) (hlocks := hlocks) (fun h => by rw [hr] at h; cases h)
  have hmeth' : T.vm.method? m = some meth := X.method'
  refine ⟨T.setFrames fs, ?_, .returned (some (.int 1)), hrun, hended, rfl, ⟨_, rfl⟩, hW, hframe⟩
  jvm_step X.here [X.here.top, hx, hb, hdg, hmeth', hr, ret, narrow_b1]
  (try refine ⟨rfl, ?_⟩); (try refine ⟨rfl, ?_⟩)
  first | (intro acts; rw [hret _ acts rfl rfl rfl]) | rw [hret _ _ rfl rfl rfl]
  exact Steps.refl _
/-- what holds at the law's entry -/
def lw_At (p : Program) (s : State) (m : MethodId) (meth : Method) (c : Code) (b L : Nat) (xs : Nat → Int32) : Prop :=
  p.tables.exec = Jvm.exec ∧ c.code = code ∧ meth.sig.returnType = ret ∧ c.maxLocals = 7 ∧ s.vm.findClass R_law = some m.cls ∧ (∀ w ∈ lw_tbl, w.before #[Value.ref b] s = true) ∧ va_X b L xs s s.heap ∧ b < s.heap.size ∧ meth.locks = false ∧ (Jvm.Cond.and given_1 narrow_1).before #[Value.ref b] s = true
theorem pj_297 : pby 297 = code ∧ prt 297 = ret ∧ pmL 297 = 7 ∧ poc 297 = 13 ∧ pin 297 ≠ 1 ∧ pj_C 13 = "TurnedRingLaw" := ⟨rfl, rfl, rfl, rfl, by decide, rfl⟩
theorem jnl : ∀ l : Launch, l.flags = flags0 → l.stackTraces = false := fun l h => by
  unfold Launch.stackTraces
  rw [h]; decide +kernel
theorem whole_start0 (hMul : ∀ G, jHmulZ G) {p : Program} {e : Env} {s : State} {m : MethodId} {below : List Frame} {meth : Method} {c : Code} (l : Launch) (hflags : l.flags = flags0) {b L : Nat} {xs : Nat → Int32} (hL : L ≤ 3072) (C0 : lw_At p s m meth c b L xs) : W p l e room_1 s m #[Value.ref b] below meth c s.heap [] 0 0 (lw_Z below #[Value.ref b] s) (entryFrame m ([Value.ref b] : List Value).toArray 7) := by
  obtain ⟨hx, hb, hret, hml, hown, hts, hXs, hbl, hlk, hgv⟩ := C0
  have hlt := jnl l hflags
  have htw : ∀ w ∈ pj_W, w.before #[Value.ref b] s = true := fun w hw => hts w (List.mem_filter.mp hw).1
  have hfl : ∀ w ∈ flatC jgn, w.before #[Value.ref b] s = true := flat_of_before _ hgv
  have hfc : ∀ {w : Cond}, (flatC jgn).contains w = true → w.before #[Value.ref b] s = true := fun h => hfl _ (List.contains_iff_mem.mp h)
  have hA : ∀ a : Nat, a < s.heap.size → ¬ (fun q => s.heap.size ≤ q) a := fun a ha => Nat.not_le.mpr ha
  obtain ⟨e1, e2, e3, e4, e5, e6⟩ := pj_297
  -- the two texts
  have htx : ∀ i, i < 2 → _ := fun i hi => by
    have h := List.all_eq_true.mp jtx_ok i (List.mem_range.mpr hi)
    simp only [Bool.and_eq_true] at h
    exact h
  obtain ⟨adK, adV, hV, hadK⟩ := vk_Sof (args := #[Value.ref b]) (s := s) (N := 2) (tm := jtm) (len := jTbl) (byt := jTbb) (A := fun q => s.heap.size ≤ q) (by decide) (fun i hi => hfc (htx i hi).1.1.1.1) (fun i hi => hfc (htx i hi).1.1.1.2) (fun i hi => hfc (htx i hi).1.1.2) (fun i hi => hfc (htx i hi).1.2)
    (fun i hi j hj => hfc (List.all_eq_true.mp (htx i hi).2 j (List.mem_range.mpr hj))) (fun i j hi hj hij => by
      have h := jtx_ne
      simp only [Bool.or_eq_true] at h
      have hc : (i = 0 ∧ j = 1) ∨ (i = 1 ∧ j = 0) := by omega
      rcases hc with ⟨rfl, rfl⟩ | ⟨rfl, rfl⟩
      · exact h.imp hfc hfc
      · exact h.symm.imp hfc hfc) hA
  -- the classes
  obtain ⟨cC, hcC⟩ := Classical.axiomOfChoice (r := fun (c : Nat) (z : ClassId × (Nat → Nat)) => ∀ q, pj_clZ[c]? = some q → u_Kn s q.1 q.2.1 q.2.2 z.1 z.2) (fun c => by
    cases h : pj_clZ[c]? with
    | none => exact ⟨(0, fun _ => 0), fun q hq => by cases hq⟩
    | some q =>
      obtain ⟨a, i, hk⟩ := jK_all hts c q h
      exact ⟨(a, i), fun q' hq => by cases hq; exact hk⟩)
  obtain ⟨a1, a2, a3⟩ := jArr hts
  obtain ⟨t1, ht1⟩ := a1 .int (Or.inl rfl)
  obtain ⟨t2, ht2⟩ := a1 .boolean (Or.inr (Or.inl rfl))
  obtain ⟨t3, ht3⟩ := a1 .long (Or.inr (Or.inr rfl))
  obtain ⟨t5, ht5⟩ := a2 (pj_C 1) (Or.inr (Or.inr rfl))
  obtain ⟨t7, ht7⟩ := a2 (pj_C 3) (Or.inl rfl)
  obtain ⟨t13, ht13⟩ := a2 (pj_C 9) (Or.inr (Or.inl rfl))
  obtain ⟨t104, ht104⟩ := a3
  obtain ⟨G, hG⟩ : ∃ G : jg, G = (((fun c => (cC c).1), fun c => (cC c).2), (fun t => if t = 1 then t1 else if t = 2 then t2 else if t = 3 then t3 else if t = 5 then t5 else if t = 7 then t7 else if t = 13 then t13 else t104), (fun q => if q < jKEY then b else adK (q - jKEY)), s.heap.size) := ⟨_, rfl⟩
  have g2 : G.2.2.2 = s.heap.size := by rw [hG]
  have gS : G.2.2.1 jSCR = b := by
    rw [hG]
    show (if jSCR < jKEY then b else adK (jSCR - jKEY)) = b
    exact if_pos (by decide)
  have gK : ∀ i, G.2.2.1 (jKEY + i) = adK i := fun i => by
    rw [hG]
    show (if jKEY + i < jKEY then b else adK (jKEY + i - jKEY)) = adK i
    rw [if_neg (by omega), Nat.add_sub_cancel_left]
  have hKK : va_K G.1 pj_clZ (jtys G) s := by
    refine ⟨fun c q hq => by rw [hG]; exact hcC c q hq, fun k q hq => ?_⟩
    rw [hG] at hq
    have hk : k < 7 := (List.getElem?_eq_some_iff.mp hq).1
    have h7 : k = 0 ∨ k = 1 ∨ k = 2 ∨ k = 3 ∨ k = 4 ∨ k = 5 ∨ k = 6 := by omega
    rcases h7 with rfl | rfl | rfl | rfl | rfl | rfl | rfl
    · cases hq; exact ht1
    · cases hq; exact ht2
    · cases hq; exact ht3
    · cases hq; exact ht5
    · cases hq; exact ht7
    · cases hq; exact ht13
    · cases hq; exact ht104
  have hst := jtx_st
  simp only [Bool.and_eq_true] at hst
  obtain ⟨⟨⟨s1, s2⟩, s3⟩, s4⟩ := hst
  have hA2 : ∀ a : Nat, a < s.heap.size → ¬ jTn G a := fun a ha h => by unfold jTn at h; omega
  have hJ : jT G s.heap s := by
    have x3 := vx_Zqof (A := jTn G) (hts _ (jtW (k := 2) rfl)) (hts _ (jtW (k := 6) rfl)) (hfc s3) hA2
    have x4 := vx_Zqof (A := jTn G) (hts _ (jtW (k := 3) rfl)) (hts _ (jtW (k := 6) rfl)) (hfc s4) hA2
    refine ⟨⟨adV, ?_⟩, va_Zof (hts _ (jtW (k := 0) rfl)) (hts _ (jtW (k := 4) rfl)) (va_eqt (hfc s1)) hA2, va_Zqof (hts _ (jtW (k := 1) rfl)) (hts _ (jtW (k := 5) rfl)) (hfc s2) hA2, ⟨x3.1, x3.2⟩, x4.1, x4.2⟩
    have ef : (fun i => G.2.2.1 (jKEY + i)) = adK := funext gK
    rw [ef]
    have eA : jTn G = fun q => s.heap.size ≤ q := by funext q; unfold jTn; rw [g2]
    rw [eA]; exact hV
  have hX : jXZ G s := by
    refine ⟨⟨fun oc ho t ht hp => ?_, ?_, ?_⟩, ⟨va_AO.of (hts _ (jtW (k := 13) rfl)), va_AO.of (hts _ (jtW (k := 14) rfl)), va_AO.of (hts _ (jtW (k := 15) rfl)), hts _ (jtW (k := 16) rfl)⟩, hKK⟩
    · have hm := pj_nws oc _ (List.mem_map.mpr ⟨t, List.mem_filter.mpr ⟨ht, by rw [hp]; rfl⟩, rfl⟩)
      refine va_Nw.of ?_ (hts _ hm)
      unfold pj_plain at hp
      simp only [Bool.not_eq_false', Bool.or_eq_true, beq_iff_eq] at hp
      rcases hp with (e | e) | e <;> unfold pj_mw <;> rw [e] <;> rfl
    · have := hadK 0 (by omega)
      have h9 : G.2.2.1 jKEY = adK 0 := gK 0
      rw [h9]
      exact vk_R.of (hts _ (jtW (k := 7) rfl)) this
    · have := hadK 1 (by omega)
      have h9 : G.2.2.1 jSIG = adK 1 := gK 1
      rw [h9]
      exact vk_R.of (hts _ (jtW (k := 8) rfl)) this
  -- the run
  obtain ⟨n, h0, hE, r1, r2, r3, r4, r5, r6⟩ := law_fin (D0 := fun a i => if a = 1000000 then (xs i).toInt else if a = 1000001 then (L : Int) else 0) (N := L) (fun j => ⟨Int32.le_toInt (xs j), Int32.toInt_lt (xs j)⟩) rfl hL (fun a ha i => by
    show (if a = 1000000 then (xs i).toInt else if a = 1000001 then (L : Int) else 0) = 0
    rw [if_neg (by omega), if_neg (by omega)])
  have hD : ∀ c i, r32 (gD h0 c i) := fun c i => by
    rw [r2]
    show r32 (if c = 1000000 then (xs i).toInt else if c = 1000001 then (L : Int) else 0)
    by_cases h1 : c = 1000000
    · rw [if_pos h1]; have h1 := Int32.le_toInt (xs i); have h2 := Int32.toInt_lt (xs i); unfold r32; omega
    · rw [if_neg h1]
      by_cases h2 : c = 1000001
      · rw [if_pos h2]; unfold r32; omega
      · rw [if_neg h2]; unfold r32; omega
  have hW : jWZ G h0 s.heap s := by
    refine ⟨⟨by rw [r1, g2]; rfl, by rw [r1]; exact Nat.zero_le _, by rw [gS, g2]; exact hbl⟩, fun c k hk => (by rw [r1] at hk; cases hk), hD, fun c i => (by rw [r3]; unfold r64; omega), ⟨?_, ?_⟩, hJ⟩
    · have eL : (gD h0 jLEN 0).toNat = L := by
        rw [r2]
        show ((L : Int)).toNat = L
        omega
      have ex : (fun j => Int32.ofInt (gD h0 jSCR j)) = xs := funext fun j => by
        rw [r2]
        show Int32.ofInt (xs j).toInt = xs j
        exact Int32.ofInt_toInt (xs j)
      rw [gS, eL, ex]; exact hXs
    · rw [r2]
      show (0 : Int) ≤ (L : Int)
      omega
  have hM := hMul G
  have hT : jHstrZ G := jHstr_ok
  have S := jsim3 hM hT n
  have hY := jHtryR_ok hM hT l hlt
  have F : jFZ G 297 p s m #[Value.ref b] meth c := ⟨⟨hx, by rw [e1]; exact hb⟩, by rw [e4, e6]; exact hown, by rw [e3]; exact hml, by rw [e2]; exact hret, hlk, fun q => absurd q e5, htw, hX⟩
  have hsv : jsv G (.inr (.inr (some jSCR))) = .ref b := by
    rw [jsv_r, Option.map_some]
    have : jad G jSCR = b := by unfold jad; rw [if_neg (by decide)]; exact gS
    rw [this]; rfl
  have hl := jentry (G := G) (n := 7) (av := [.inr (.inr (some jSCR))]) (show 1 ≤ 7 by omega)
  rw [List.map_cons, List.map_nil, hsv] at hl
  rw [lg_entry_eq]
  refine jsimL hM hT hY S n (Nat.le_refl _) 49 0 (jent 7 [.inr (.inr (some jSCR))]) [] h0 (0, some (.inl 1)) hE r4 ⟨by decide, Or.inl rfl⟩ p e room_1 s m #[Value.ref b] below meth c (lw_Z below #[Value.ref b] s) hE.1.length (jsz hE) F ⟨by decide, by decide⟩ ⟨by show _ ≤ 601024; omega, by show _ ≤ 7293034; exact r6, by omega⟩ hlt ?_ s.heap [] 0 0 _ hW va_S.rf (by rw [g2]; exact Nat.le_refl _) (by rw [e3]; exact hl) (by rw [e3]; rfl) ⟨fun i v hv => ?_, fun v hv => by cases hv⟩ (by rw [r1]; exact Nat.add_comm _ _) (by unfold jsz; rw [r1]; exact Nat.add_comm _ _)
  · intro pcE lsE stE hend H locs cells slots lsr hW' hS' hz' hl' hn' ho' hc' hs'
    obtain ⟨i, len, hd, hjl, hxx⟩ := hend
    rcases pjx_ret hxx with ⟨rfl, x, rfl, eo, -⟩ | ⟨-, x, -, eo, -⟩ | ⟨-, x, -, eo, -⟩ | ⟨-, -, eo, -⟩ | ⟨k, -, eo⟩
    · obtain rfl := jone (n := 1) hjl (fun _ => rfl)
      cases eo
      rw [e1] at hd
      have hfin := lw_ret (p := p) (l := l) (e := e) (s := s) (m := m) (below := below) (meth := meth) (c := c) (b := b) hx hb hret hlk (pc := pcE) (H := H) (ls := lsr) hd
      intro T hT X
      have X2 : Stand p l e room_1 s m #[Value.ref b] below meth c T ([] ++ locs) cells slots := X
      have X3 := X2.dropFresh (fun z hz => by have := hS'.2.2 z hz; have h9 : G.2.2.2 ≤ z.base := this; omega)
      exact hfin T hT (stand_widen X3 (by omega) (by omega))
    · cases eo
    · cases eo
    · cases eo
    · cases eo
  · have := jent_get hv
    exact jlay_ok [.inr (.inr (some jSCR))] (fun w hw => by
      rcases List.mem_singleton.mp hw with rfl
      trivial) i v this
