/-! STEPS OVER THE HEAP -/
section JR
variable {G : jg} {y : Nat} {p : Program} {l : Launch} {e : Env} {R : Room} {s : State} {m : MethodId} {args : Array Value} {below : List Frame} {meth : Method} {c : Code} {Q : State → Prop} {hE : jh} {cE sE : Nat} {pc : Nat} {ls : List (Option jv)} {st : List jv} {h : jh}
theorem jsv_r (G : jg) (r : Option Nat) : jsv G (.inr (.inr r)) = va_rf (r.map (jad G)) := rfl
theorem va_P1 {D : va_G} {cl : List vw_C} {x : Nat × va_E} {H : Heap} (hx : va_at D cl x H) : va_P D cl [x] H := by
  intro k q hk
  have h0 : k < 1 := (List.getElem?_eq_some_iff.mp hk).1
  rw [show k = 0 by omega] at hk
  cases hk
  exact hx
theorem jE_get {ci cc j : Nat} (hj : j < pj_N ci) : ((List.range (pj_N ci)).map fun j => jsv G (jfv h ci cc j))[j]? = some (jsv G (jfv h ci cc j)) := by
  rw [List.getElem?_map, List.getElem?_range hj]; rfl
theorem jfv_ok {H : Heap} (w : jW G h H s) (ci cc j : Nat) : jvok (jfv h ci cc j) := by
  unfold jfv
  split
  · exact w.2.2.1 cc j
  · exact w.2.2.1 cc j
  · exact w.2.2.2.1 cc j
  · trivial
theorem js_getfield (F : jF G y p s m args meth c) {k ci j cc : Nat} (hk : gK h cc = some (0, ci)) (hf : pfl (poc y) k = some (ci, j)) (hd : decode (pby y) pc = .ok (.getfield k, 3))
    (kk : jG G y p l e R s m args below meth c Q hE cE sE (pc + 3) ls (jfv h ci cc j :: st) h) : jG G y p l e R s m args below meth c Q hE cE sE pc ls (.inr (.inr (some cc)) :: st) h := fun H locs cells slots lsr hW hS hz hl hn2 ho hc hs => by
  obtain ⟨f1, f2, f3⟩ := pfl_ok hf
  obtain ⟨⟨hx, hb⟩, hown, hml, hret, hlk, hin, hts, hX⟩ := F
  have hat := (hW.2.1 cc _ hk).2
  have e1 : jsv G (.inr (.inr (some cc))) = .ref (G.2.2.2 + cc) := by
    rw [jsv_r, Option.map_some, jad_lt hW hk]; rfl
  show W p l e R s m args below meth c H locs cells slots Q (F0 m pc lsr (jsv G (.inr (.inr (some cc))) :: st.map (jsv G)))
  rw [e1]
  exact va_get (D := G.1) (ci := ci) (C := pj_C ci) (T := pj_T ci) (N := pj_N ci) hx hb hts (pj_lay f2) hown hX.2.2 (va_P1 hat) 0 rfl (pj_cl_at (by omega)) j f3 (hts _ f1) (fun x hx => by rw [pj_T1 f2 f3] at hx; exact hx) (jE_get f3) hd
    (kk H locs cells slots lsr hW hS hz hl hn2 (jok_push (jok_pop ho) (jfv_ok hW ci cc j)) hc hs)
/-- a field is put: the heap behind it, exactly -/
theorem jr_put {cc0 : ByteArray} {D : va_G} {tys : List (ClassId × FieldType)} {own C : String} {T : u_T} {N ci index a : Nat} {Ts : List Cond} {H : Heap} {locs : List Loc} {cells slots : Nat} {lsr : Array Slot} {rest : List Value} (hexec : p.tables.exec = Jvm.exec) (hb : c.code = cc0) (hts : ∀ w ∈ Ts, w.before args s = true) (hin : ∀ w ∈ u_ws C T N, w ∈ Ts) (ty0 : Nat → FieldType) (hty : ∀ k, k < N → parseFieldDescriptor (T k).2.2.1 = some (ty0 k)) (hnm : ∀ a, a < N → ∀ b, b < N → a ≠ b → (T a).2.1 ≠ (T b).2.1)
    (hown : s.vm.findClass own = some m.cls) (hK : va_K D pj_cl tys s) {fs : List Value} (hat : va_at D pj_cl (a, .inr (ci, fs)) H) (hc : pj_cl[ci]? = some (C, T, N)) {k : Nat} (hk : k < N) (hlink : (Cond.fieldLink own index C (T k).2.1 (T k).2.2.1).before args s = true) (hT1 : (T k).1 = C) (hfin : (T k).2.2.2 = false ∨ ((T k).2.2.2 = true ∧ meth.name = "<init>" ∧ C = own))
    {ty : FieldType} {v : Value} (hd : parseFieldDescriptor (T k).2.2.1 = some ty) (hn : narrow ty v = v) (hfit : fits ty v = true) (hl : k < fs.length) (hdg : decode cc0 pc = .ok (.putfield index, 3))
    (kk : ∀ (H1 : Heap) (i : Nat), va_at D pj_cl (a, .inr (ci, fs.set k v)) H1 → H1.size = H.size → (∀ q, q ≠ a → H1[q]? = H[q]?) → W p l e R s m args below meth c H1 (locs ++ [⟨a, i⟩]) cells slots Q (F0 m (pc + 3) lsr rest)) : W p l e R s m args below meth c H locs cells slots Q (F0 m pc lsr (v :: .ref a :: rest)) := by
  have hap := va_apart (own := own) hts hin ty0 hty hnm hK hc
  obtain ⟨r, h1, cell, q1, q2, q3, q4⟩ := hat
  have hr : r = (C, T, N) := Option.some.inj (h1.symm.trans hc)
  subst hr
  obtain ⟨hS, hfc, kC, hkC, hkind⟩ := hK.1 ci _ hc
  obtain ⟨cf, kf, fi, f, hi, hsl⟩ := hS k hk
  have hi' : s.fieldFound? C (T k).2.1 (T k).2.2.1 = some (cf, kf, fi, f) := by rw [← hT1]; exact hi
  have hlay := hts _ (hin _ (u_in_lay hk))
  have hst := (u_facts hfc hkC (u_lays hts hin hk) hi).1
  have fin : ∀ H1 : Heap, H1[a]? = some (cell.setSlot f.slot v) → H1.size = H.size → (∀ q, q ≠ a → H1[q]? = H[q]?) → W p l e R s m args below meth c H1 (locs ++ [⟨a, f.slot⟩]) cells slots Q (F0 m (pc + 3) lsr rest) := by
    intro H1 e1 e2 e3
    rw [hsl] at e1
    exact kk H1 f.slot ⟨_, hc, t_OB.to (V := updV (vp_V fs) k v) ⟨_, e1, q2, q3, t_set q4 hap hk v⟩ (fun j _ => vp_updV_set hl v j)⟩ e2 e3
  have hsz : f.slot < cell.slots.size := by rw [hsl]; exact k2_hasslot (q4 k hk)
  unfold u_lay at hlay
  rcases hfin with hf0 | ⟨hf1, hini, hdecl⟩
  · rw [if_neg (by rw [hf0]; decide)] at hlay
    have h6 := u_store hfc hkC hkind hlay hi hd hn hfit
    exact W.putK hexec hb (f := f) ⟨hown, hlink, ⟨_, _, _, hi'⟩, hst⟩ (by rw [q2]; exact h6) q1 q3 hsz rfl rfl hdg fin
  · rw [if_pos hf1] at hlay
    have hcf : m.cls = cf := by
      obtain ⟨_, _, c', _, _, _, -, -, hf', -, -, -, hown2, -⟩ := Cond.laysFinal_spec hlay
      have e1 : c' = cf := by have := hi.symm.trans hf'; simp at this; exact this.1.symm
      rw [hT1, hdecl] at hown2
      rw [← e1]; exact Option.some.inj (hown.symm.trans hown2)
    have h6 := u_fits hfc hkC hkind (Or.inr hlay) hi hd hn hfit
    exact W.putFinK hexec hb hown hlink hi' hst hcf hini (by rw [q2]; exact h6) q1 q3 hsz rfl rfl hdg fin
theorem jE_put {h' : jh} {ci cc j : Nat} {v : jv} (hj : j < pj_N ci) (hv : jfv h' ci cc j = v) (ho : ∀ i, i ≠ j → jfv h' ci cc i = jfv h ci cc i) : ((List.range (pj_N ci)).map fun j => jsv G (jfv h ci cc j)).set j (jsv G v) = (List.range (pj_N ci)).map fun j => jsv G (jfv h' ci cc j) := by
  apply List.ext_getElem?
  intro i
  rw [List.getElem?_set]
  by_cases e : j = i
  · subst e
    rw [if_pos rfl, if_pos (by rw [List.length_map, List.length_range]; exact hj), jE_get hj, hv]
  · rw [if_neg e, List.getElem?_map, List.getElem?_map]
    by_cases hi : i < pj_N ci
    · rw [List.getElem?_range hi, Option.map_some, Option.map_some, ho i (Ne.symm e)]
    · rw [List.getElem?_eq_none (by rw [List.length_range]; omega)]; rfl
theorem pfin_eq (ci j : Nat) : (pj_T ci j).2.2.2 = pfin ci j := rfl
/-- putfield, given what it stores -/
theorem js_putfield (F : jF G y p s m args meth c) {k ci j cc : Nat} {v : jv} {h' : jh} (hk : gK h cc = some (0, ci)) (hf : pfl (poc y) k = some (ci, j)) (hfin : ¬ (pfin ci j = true ∧ ¬ (pin y = 1 ∧ poc y = ci)))
    (hn : narrow (pj_ty ci j) (jsv G v) = jsv G v) (hfit : fits (pj_ty ci j) (jsv G v) = true) (h1 : h'.1 = h.1) (ho : ∀ c', c' ≠ cc → (∀ i, gR h' c' i = gR h c' i) ∧ (∀ i, gD h' c' i = gD h c' i) ∧ (∀ i, gL h' c' i = gL h c' i))
    (hv : jfv h' ci cc j = v) (hj : ∀ i, i ≠ j → jfv h' ci cc i = jfv h ci cc i) (hrd : jvok v → (∀ i, r32 (gD h cc i)) → ∀ i, r32 (gD h' cc i)) (hrl : jvok v → (∀ i, r64 (gL h cc i)) → ∀ i, r64 (gL h' cc i)) (hd : decode (pby y) pc = .ok (.putfield k, 3))
    (kk : jG G y p l e R s m args below meth c Q hE cE sE (pc + 3) ls st h') : jG G y p l e R s m args below meth c Q hE cE sE pc ls (v :: .inr (.inr (some cc)) :: st) h := fun H locs cells slots lsr hW hS hz hl hn2 hok hc hs => by
  obtain ⟨f1, f2, f3⟩ := pfl_ok hf
  obtain ⟨⟨hx, hb⟩, hown, hml, hret, hlk, hin, hts, hX⟩ := F
  have hat := (hW.2.1 cc _ hk).2
  have e1 : jsv G (.inr (.inr (some cc))) = .ref (G.2.2.2 + cc) := by
    rw [jsv_r, Option.map_some, jad_lt hW hk]; rfl
  show W p l e R s m args below meth c H locs cells slots Q (F0 m pc lsr (jsv G v :: jsv G (.inr (.inr (some cc))) :: st.map (jsv G)))
  rw [e1]
  have hfin' : (pj_T ci j).2.2.2 = false ∨ ((pj_T ci j).2.2.2 = true ∧ meth.name = "<init>" ∧ pj_C ci = pj_C (poc y)) := by
    rw [pfin_eq]
    by_cases q : pfin ci j = true
    · refine Or.inr ⟨q, ?_⟩
      by_cases q2 : pin y = 1 ∧ poc y = ci
      · exact ⟨hin q2.1, by rw [q2.2]⟩
      · exact absurd ⟨q, q2⟩ hfin
    · exact Or.inl (by simpa using q)
  refine jr_put (D := G.1) (C := pj_C ci) (T := pj_T ci) (N := pj_N ci) hx hb hts (pj_lay f2) (pj_ty ci) (fun k hk => pj_Tp f2 hk) (fun a ha b hb hne => pj_Tn f2 ha hb hne) hown hX.2.2 hat (pj_cl_at (by omega)) f3 (hts _ f1) (pj_T1 f2 f3) hfin' (pj_Tp f2 f3) hn hfit (by rw [List.length_map, List.length_range]; exact f3) hd fun H1 i g1 g2 g3 => ?_
  have hvk : jvok v := jok_top hok
  refine kk H1 _ cells slots lsr (jW_upd hW hk h1 ho g2 g3 (hrd hvk (hW.2.2.1 cc)) (hrl hvk (hW.2.2.2.1 cc)) ?_) (hS.put g2 g3 (by show G.2.2.2 ≤ _; omega)) hz hl hn2 (jok_pop (jok_pop hok)) (by rw [h1]; exact hc) (by unfold jsz at hs ⊢; rw [h1]; exact hs)
  have := g1
  rw [jE_put f3 hv hj] at this
  exact this
theorem gD_w (h : jh) (c i : Nat) (x : Int) (a b : Nat) : gD (wD h c i x) a b = if a = c ∧ b = i then x else gD h a b := rfl
theorem gL_w (h : jh) (c i : Nat) (x : Int) (a b : Nat) : gL (wL h c i x) a b = if a = c ∧ b = i then x else gL h a b := rfl
theorem gR_w (h : jh) (c i : Nat) (x : Option Nat) (a b : Nat) : gR (wR h c i x) a b = if a = c ∧ b = i then x else gR h a b := rfl
theorem js_putI (F : jF G y p s m args meth c) {k ci j cc : Nat} {x : Int} (hk : gK h cc = some (0, ci)) (hf : pfl (poc y) k = some (ci, j)) (hfin : ¬ (pfin ci j = true ∧ ¬ (pin y = 1 ∧ poc y = ci))) (ht : pj_ft ci j = 0 ∨ (pj_ft ci j = 1 ∧ (x = 0 ∨ x = 1))) (hd : decode (pby y) pc = .ok (.putfield k, 3))
    (kk : jG G y p l e R s m args below meth c Q hE cE sE (pc + 3) ls st (wD h cc j x)) : jG G y p l e R s m args below meth c Q hE cE sE pc ls (.inl x :: .inr (.inr (some cc)) :: st) h := by
  obtain ⟨f1, f2, f3⟩ := pfl_ok hf
  have hty : pj_ft ci j = 0 ∧ pj_ty ci j = .int ∨ pj_ft ci j = 1 ∧ pj_ty ci j = .boolean ∧ (x = 0 ∨ x = 1) := by
    rcases pj_Ty f2 f3 with ⟨a, b⟩ | ⟨a, b⟩ | ⟨a, b⟩ | ⟨a, b⟩ <;> rcases ht with q | ⟨q, q2⟩
    · exact Or.inl ⟨q, b⟩
    · omega
    · omega
    · exact Or.inr ⟨q, b, q2⟩
    all_goals omega
  refine js_putfield (h' := wD h cc j x) F hk hf hfin ?_ ?_ rfl (fun c' hc => ⟨fun _ => rfl, fun i => by rw [gD_w, if_neg (fun q => hc q.1)], fun _ => rfl⟩) ?_ (fun i hi => ?_) (fun hv ho i => ?_) (fun _ ho => ho) hd kk
  · rcases hty with ⟨-, b⟩ | ⟨-, b, q | q⟩
    · rw [b]; rfl
    · rw [b, q]; rfl
    · rw [b, q]; rfl
  · rcases hty with ⟨-, b⟩ | ⟨-, b, q | q⟩
    · rw [b]; rfl
    · rw [b, q]; show fits .boolean (.int (Int32.ofInt 0)) = true; decide
    · rw [b, q]; show fits .boolean (.int (Int32.ofInt 1)) = true; decide
  · unfold jfv
    rcases hty with ⟨a, -⟩ | ⟨a, -⟩ <;> rw [a] <;> simp only [gD_w, and_self, if_true]
  · unfold jfv
    simp only [gD_w, hi, and_false, if_false]
    rfl
  · rw [gD_w]; split
    · exact hv
    · exact ho i
theorem js_putL (F : jF G y p s m args meth c) {k ci j cc : Nat} {x : Int} (hk : gK h cc = some (0, ci)) (hf : pfl (poc y) k = some (ci, j)) (hfin : ¬ (pfin ci j = true ∧ ¬ (pin y = 1 ∧ poc y = ci))) (ht : pj_ft ci j = 2) (hd : decode (pby y) pc = .ok (.putfield k, 3))
    (kk : jG G y p l e R s m args below meth c Q hE cE sE (pc + 3) ls st (wL h cc j x)) : jG G y p l e R s m args below meth c Q hE cE sE pc ls (.inr (.inl x) :: .inr (.inr (some cc)) :: st) h := by
  obtain ⟨f1, f2, f3⟩ := pfl_ok hf
  have hty : pj_ty ci j = .long := by
    rcases pj_Ty f2 f3 with ⟨a, b⟩ | ⟨a, b⟩ | ⟨a, b⟩ | ⟨a, b⟩
    · omega
    · omega
    · exact b
    · omega
  refine js_putfield (h' := wL h cc j x) F hk hf hfin ?_ ?_ rfl (fun c' hc => ⟨fun _ => rfl, fun _ => rfl, fun i => by rw [gL_w, if_neg (fun q => hc q.1)]⟩) ?_ (fun i hi => ?_) (fun _ ho => ho) (fun hv ho i => ?_) hd kk
  · rw [hty]; rfl
  · rw [hty]; rfl
  · unfold jfv
    rw [ht]; simp only [gL_w, and_self, if_true]
  · unfold jfv
    simp only [gL_w, hi, and_false, if_false]
    rfl
  · rw [gL_w]; split
    · exact hv
    · exact ho i
theorem jfit_ref (ty : FieldType) (ht : pj_isR ty = true) (r : Option Nat) : narrow ty (va_rf r) = va_rf r ∧ fits ty (va_rf r) = true := by
  cases ty <;> first | exact absurd ht (by decide) | (cases r <;> exact ⟨rfl, rfl⟩)
theorem js_putR (F : jF G y p s m args meth c) {k ci j cc : Nat} {x : Option Nat} (hk : gK h cc = some (0, ci)) (hf : pfl (poc y) k = some (ci, j)) (hfin : ¬ (pfin ci j = true ∧ ¬ (pin y = 1 ∧ poc y = ci))) (ht : pj_ft ci j = 3) (hd : decode (pby y) pc = .ok (.putfield k, 3))
    (kk : jG G y p l e R s m args below meth c Q hE cE sE (pc + 3) ls st (wR h cc j x)) : jG G y p l e R s m args below meth c Q hE cE sE pc ls (.inr (.inr x) :: .inr (.inr (some cc)) :: st) h := by
  obtain ⟨f1, f2, f3⟩ := pfl_ok hf
  have hty : pj_isR (pj_ty ci j) = true := by
    rcases pj_Ty f2 f3 with ⟨a, b⟩ | ⟨a, b⟩ | ⟨a, b⟩ | ⟨a, b⟩
    · omega
    · omega
    · omega
    · exact b
  refine js_putfield (h' := wR h cc j x) F hk hf hfin (jfit_ref _ hty _).1 (jfit_ref _ hty _).2 rfl (fun c' hc => ⟨fun i => by rw [gR_w, if_neg (fun q => hc q.1)], fun _ => rfl, fun _ => rfl⟩) ?_ (fun i hi => ?_) (fun _ ho => ho) (fun _ ho => ho) hd kk
  · unfold jfv
    rw [ht]; simp only [gR_w, and_self, if_true]
  · unfold jfv
    simp only [gR_w, hi, and_false, if_false]
    rfl
/-! arrays -/
theorem jty_at (G : jg) {t n : Nat} (h1 : jkok (t, n)) (h0 : t ≠ 0) : ∃ (t0 : Nat) (ty : FieldType), (jtys G)[t0]? = some (G.2.1 t, ty) ∧ (t = 1 → ty = .int) ∧ (t = 2 → ty = .boolean) ∧ (t = 3 → ty = .long) ∧ (t = 104 → ty = .array .int) ∧ (∀ k, t = k + 4 → k ≠ 100 → ty = .object (pj_C k) ∧ k < 13) := by
  rcases h1 with ⟨a, -⟩ | ⟨a, -⟩
  · exact absurd a h0
  · simp only at a
    rcases a with rfl | rfl | rfl | rfl | rfl | rfl | rfl
    · exact ⟨0, _, rfl, fun _ => rfl, by omega, by omega, by omega, fun k hk _ => by omega⟩
    · exact ⟨1, _, rfl, by omega, fun _ => rfl, by omega, by omega, fun k hk _ => by omega⟩
    · exact ⟨2, _, rfl, by omega, by omega, fun _ => rfl, by omega, fun k hk _ => by omega⟩
    · exact ⟨3, _, rfl, by omega, by omega, by omega, by omega, fun k hk _ => by
      have hk2 : k = 1 := by omega
      subst hk2
      exact ⟨rfl, by omega⟩⟩
    · exact ⟨4, _, rfl, by omega, by omega, by omega, by omega, fun k hk _ => by
      have hk2 : k = 3 := by omega
      subst hk2
      exact ⟨rfl, by omega⟩⟩
    · exact ⟨5, _, rfl, by omega, by omega, by omega, by omega, fun k hk _ => by
      have hk2 : k = 9 := by omega
      subst hk2
      exact ⟨rfl, by omega⟩⟩
    · exact ⟨6, _, rfl, by omega, by omega, by omega, fun _ => rfl, fun k hk h9 => by omega⟩
theorem jref {H : Heap} (hW : jW G h H s) {cc : Nat} {k : Nat × Nat} (hk : gK h cc = some k) : jsv G (.inr (.inr (some cc))) = .ref (G.2.2.2 + cc) := by
  rw [jsv_r, Option.map_some, jad_lt hW hk]; rfl
theorem js_iald (F : jF G y p s m args meth c) {cc n : Nat} {i : Int} (hk : gK h cc = some (1, n)) (hi : 0 ≤ i ∧ i < n) (hd : decode (pby y) pc = .ok (.iaload, 1))
    (kk : jG G y p l e R s m args below meth c Q hE cE sE (pc + 1) ls (.inl (gD h cc i.toNat) :: st) h) : jG G y p l e R s m args below meth c Q hE cE sE pc ls (.inl i :: .inr (.inr (some cc)) :: st) h := fun H locs cells slots lsr hW hS hz hl hn2 ho hc hs => by
  obtain ⟨⟨hx, hb⟩, hown, hml, hret, hlk, hin, hts, hX⟩ := F
  obtain ⟨hko, hat⟩ := hW.2.1 cc _ hk
  obtain ⟨t0, ty, g1, g2, -⟩ := jty_at G hko (by omega)
  have hri : r32 i := jok_top ho
  show W p l e R s m args below meth c H locs cells slots Q (F0 m pc lsr (jsv G (.inl i) :: jsv G (.inr (.inr (some cc))) :: st.map (jsv G)))
  rw [jref hW hk]
  refine va_iald (D := G.1) hx hb hX.2.2 (va_P1 hat) 0 t0 (f := fun i => Int32.ofInt (gD h cc i)) rfl (by rw [g1, g2 rfl]) (o32_in hi.1 hi.2 hri) hd ?_
  rw [o32_cl hi.1 hi.2 hri]
  exact kk H locs cells slots lsr hW hS hz hl hn2 (jok_push (jok_pop (jok_pop ho)) (hW.2.2.1 cc _)) hc hs
theorem js_bald (F : jF G y p s m args meth c) {cc n : Nat} {i : Int} (hk : gK h cc = some (2, n)) (hi : 0 ≤ i ∧ i < n) (hd : decode (pby y) pc = .ok (.baload, 1))
    (kk : jG G y p l e R s m args below meth c Q hE cE sE (pc + 1) ls (.inl (gD h cc i.toNat) :: st) h) : jG G y p l e R s m args below meth c Q hE cE sE pc ls (.inl i :: .inr (.inr (some cc)) :: st) h := fun H locs cells slots lsr hW hS hz hl hn2 ho hc hs => by
  obtain ⟨⟨hx, hb⟩, hown, hml, hret, hlk, hin, hts, hX⟩ := F
  obtain ⟨hko, hat⟩ := hW.2.1 cc _ hk
  obtain ⟨t0, ty, g1, -, g2, -⟩ := jty_at G hko (by omega)
  have hri : r32 i := jok_top ho
  show W p l e R s m args below meth c H locs cells slots Q (F0 m pc lsr (jsv G (.inl i) :: jsv G (.inr (.inr (some cc))) :: st.map (jsv G)))
  rw [jref hW hk]
  refine va_zald (D := G.1) hx hb hX.2.2 (va_P1 hat) 0 t0 (f := fun i => Int32.ofInt (gD h cc i)) rfl (by rw [g1, g2 rfl]) (o32_in hi.1 hi.2 hri) hd ?_
  rw [o32_cl hi.1 hi.2 hri]
  exact kk H locs cells slots lsr hW hS hz hl hn2 (jok_push (jok_pop (jok_pop ho)) (hW.2.2.1 cc _)) hc hs
theorem js_lald (F : jF G y p s m args meth c) {cc n : Nat} {i : Int} (hk : gK h cc = some (3, n)) (hi : 0 ≤ i ∧ i < n) (hd : decode (pby y) pc = .ok (.laload, 1))
    (kk : jG G y p l e R s m args below meth c Q hE cE sE (pc + 1) ls (.inr (.inl (gL h cc i.toNat)) :: st) h) : jG G y p l e R s m args below meth c Q hE cE sE pc ls (.inl i :: .inr (.inr (some cc)) :: st) h := fun H locs cells slots lsr hW hS hz hl hn2 ho hc hs => by
  obtain ⟨⟨hx, hb⟩, hown, hml, hret, hlk, hin, hts, hX⟩ := F
  obtain ⟨hko, hat⟩ := hW.2.1 cc _ hk
  obtain ⟨t0, ty, g1, -, -, g2, -⟩ := jty_at G hko (by omega)
  have hri : r32 i := jok_top ho
  show W p l e R s m args below meth c H locs cells slots Q (F0 m pc lsr (jsv G (.inl i) :: jsv G (.inr (.inr (some cc))) :: st.map (jsv G)))
  rw [jref hW hk]
  refine va_lald (D := G.1) hx hb hX.2.2 (va_P1 hat) 0 t0 (f := fun i => Int64.ofInt (gL h cc i)) rfl (by rw [g1, g2 rfl]) (o32_in hi.1 hi.2 hri) hd ?_
  rw [o32_cl hi.1 hi.2 hri]
  exact kk H locs cells slots lsr hW hS hz hl hn2 (jok_push (jok_pop (jok_pop ho)) (hW.2.2.2.1 cc _)) hc hs
theorem js_aald (F : jF G y p s m args meth c) {cc n k : Nat} {i : Int} (hk : gK h cc = some (k + 4, n)) (hi : 0 ≤ i ∧ i < n) (hd : decode (pby y) pc = .ok (.aaload, 1))
    (kk : jG G y p l e R s m args below meth c Q hE cE sE (pc + 1) ls (.inr (.inr (gR h cc i.toNat)) :: st) h) : jG G y p l e R s m args below meth c Q hE cE sE pc ls (.inl i :: .inr (.inr (some cc)) :: st) h := fun H locs cells slots lsr hW hS hz hl hn2 ho hc hs => by
  obtain ⟨⟨hx, hb⟩, hown, hml, hret, hlk, hin, hts, hX⟩ := F
  obtain ⟨hko, hat⟩ := hW.2.1 cc _ hk
  obtain ⟨t0, ty, g1, -, -, -, g2, g3⟩ := jty_at G hko (by omega)
  have hri : r32 i := jok_top ho
  have hlt : (Int32.ofInt i).toNatClampNeg < n := by rw [o32_cl hi.1 hi.2 hri]; omega
  have hin' : vp_in (Int32.ofInt i) n := o32_in hi.1 hi.2 hri
  show W p l e R s m args below meth c H locs cells slots Q (F0 m pc lsr (jsv G (.inl i) :: jsv G (.inr (.inr (some cc))) :: st.map (jsv G)))
  rw [jref hW hk]
  have href : ty.isReference = true := by
    by_cases q : k = 100
    · rw [g2 (by omega)]; rfl
    · rw [(g3 k rfl q).1]; rfl
  refine W.aald (v := va_rf ((gR h cc (Int32.ofInt i).toNatClampNeg).map (jad G))) (ty := ty) hx hb (show H[G.2.2.2 + cc]? = some (vp_cell (G.2.1 (k + 4)) (n, .inr (.inr (.inr (.inr fun i => (gR h cc i).map (jad G)))))) from hat) ((hX.2.2.2 t0 _ g1).1 n (fun j => va_rf ((gR h cc j).map (jad G)))) href (fun q => by cases q) (by show ¬ (_ < 0 ∨ (arrV _ _ _).slots.size ≤ _); rw [arrV_size]; exact hin') (by show (arrV _ _ _).slots[_]? = _; rw [arrV_read _ _ hlt]) rfl rfl hd ?_
  rw [o32_cl hi.1 hi.2 hri]
  exact kk H locs cells slots lsr hW hS hz hl hn2 (jok_push (jok_pop (jok_pop ho)) trivial) hc hs
theorem js_iast (F : jF G y p s m args meth c) {cc n : Nat} {i x : Int} (hk : gK h cc = some (1, n)) (hi : 0 ≤ i ∧ i < n) (hd : decode (pby y) pc = .ok (.iastore, 1))
    (kk : jG G y p l e R s m args below meth c Q hE cE sE (pc + 1) ls st (wD h cc i.toNat x)) : jG G y p l e R s m args below meth c Q hE cE sE pc ls (.inl x :: .inl i :: .inr (.inr (some cc)) :: st) h := fun H locs cells slots lsr hW hS hz hl hn2 ho hc hs => by
  obtain ⟨⟨hx, hb⟩, hown, hml, hret, hlk, hin, hts, hX⟩ := F
  obtain ⟨hko, hat⟩ := hW.2.1 cc _ hk
  obtain ⟨t0, ty, g1, g2, -⟩ := jty_at G hko (by omega)
  have hri : r32 i := jok_top (jok_pop ho)
  have hrx : r32 x := jok_top ho
  show W p l e R s m args below meth c H locs cells slots Q (F0 m pc lsr (jsv G (.inl x) :: jsv G (.inl i) :: jsv G (.inr (.inr (some cc))) :: st.map (jsv G)))
  rw [jref hW hk]
  have hA := (hX.2.2.2 t0 _ g1).1 n (fun j => .int (Int32.ofInt (gD h cc j)))
  rw [g2 rfl] at hA
  refine W.iast hx hb (show H[G.2.2.2 + cc]? = some (vp_cell (G.2.1 1) (n, .inl fun i => Int32.ofInt (gD h cc i))) from hat) hA (fun q => by cases q) (by show ¬ (_ < 0 ∨ (arrV _ _ _).slots.size ≤ _); rw [arrV_size]; exact o32_in hi.1 hi.2 hri) rfl rfl hd fun H1 e1 z oq => ?_
  refine kk H1 _ cells slots lsr (jW_upd hW hk rfl (fun c' hc' => ⟨fun _ => rfl, fun i => by rw [gD_w, if_neg (fun q => hc' q.1)], fun _ => rfl⟩) z oq (fun j => ?_) (hW.2.2.2.1 cc) ?_) (hS.put z oq (by show G.2.2.2 ≤ _; omega)) hz hl hn2 (jok_pop (jok_pop (jok_pop ho))) hc hs
  · rw [gD_w]; split
    · exact hrx
    · exact hW.2.2.1 cc j
  · show H1[_]? = some (vp_cell _ _)
    rw [e1, vp_cell_i, vp_cell_i, arrV_store]
    congr 2
    funext q
    rw [o32_cl hi.1 hi.2 hri]
    by_cases hq : q = i.toNat
    · subst hq; simp [updV, gD_w]
    · simp [updV, gD_w, hq]
theorem js_bast (F : jF G y p s m args meth c) {cc n : Nat} {i x : Int} (hk : gK h cc = some (2, n)) (hi : 0 ≤ i ∧ i < n) (hx01 : x = 0 ∨ x = 1) (hd : decode (pby y) pc = .ok (.bastore, 1))
    (kk : jG G y p l e R s m args below meth c Q hE cE sE (pc + 1) ls st (wD h cc i.toNat x)) : jG G y p l e R s m args below meth c Q hE cE sE pc ls (.inl x :: .inl i :: .inr (.inr (some cc)) :: st) h := fun H locs cells slots lsr hW hS hz hl hn2 ho hc hs => by
  obtain ⟨⟨hx, hb⟩, hown, hml, hret, hlk, hin, hts, hX⟩ := F
  obtain ⟨hko, hat⟩ := hW.2.1 cc _ hk
  obtain ⟨t0, ty, g1, -, g2, -⟩ := jty_at G hko (by omega)
  have hri : r32 i := jok_top (jok_pop ho)
  have hrx : r32 x := jok_top ho
  have hnar : narrow .boolean (.int (Int32.ofInt x)) = .int (Int32.ofInt x) := by rcases hx01 with q | q <;> rw [q] <;> rfl
  show W p l e R s m args below meth c H locs cells slots Q (F0 m pc lsr (jsv G (.inl x) :: jsv G (.inl i) :: jsv G (.inr (.inr (some cc))) :: st.map (jsv G)))
  rw [jref hW hk]
  have hA := (hX.2.2.2 t0 _ g1).1 n (fun j => .int (Int32.ofInt (gD h cc j)))
  rw [g2 rfl] at hA
  refine W.zast hx hb (show H[G.2.2.2 + cc]? = some (vp_cell (G.2.1 2) (n, .inl fun i => Int32.ofInt (gD h cc i))) from hat) hA (fun q => by cases q) (by show ¬ (_ < 0 ∨ (arrV _ _ _).slots.size ≤ _); rw [arrV_size]; exact o32_in hi.1 hi.2 hri) rfl rfl hd fun H1 e1 z oq => ?_
  refine kk H1 _ cells slots lsr (jW_upd hW hk rfl (fun c' hc' => ⟨fun _ => rfl, fun i => by rw [gD_w, if_neg (fun q => hc' q.1)], fun _ => rfl⟩) z oq (fun j => ?_) (hW.2.2.2.1 cc) ?_) (hS.put z oq (by show G.2.2.2 ≤ _; omega)) hz hl hn2 (jok_pop (jok_pop (jok_pop ho))) hc hs
  · rw [gD_w]; split
    · exact hrx
    · exact hW.2.2.1 cc j
  · show H1[_]? = some (vp_cell _ _)
    rw [e1, hnar, vp_cell_i, vp_cell_i, arrV_store]
    congr 2
    funext q
    rw [o32_cl hi.1 hi.2 hri]
    by_cases hq : q = i.toNat
    · subst hq; simp [updV, gD_w]
    · simp [updV, gD_w, hq]
theorem js_last (F : jF G y p s m args meth c) {cc n : Nat} {i x : Int} (hk : gK h cc = some (3, n)) (hi : 0 ≤ i ∧ i < n) (hd : decode (pby y) pc = .ok (.lastore, 1))
    (kk : jG G y p l e R s m args below meth c Q hE cE sE (pc + 1) ls st (wL h cc i.toNat x)) : jG G y p l e R s m args below meth c Q hE cE sE pc ls (.inr (.inl x) :: .inl i :: .inr (.inr (some cc)) :: st) h := fun H locs cells slots lsr hW hS hz hl hn2 ho hc hs => by
  obtain ⟨⟨hx, hb⟩, hown, hml, hret, hlk, hin, hts, hX⟩ := F
  obtain ⟨hko, hat⟩ := hW.2.1 cc _ hk
  obtain ⟨t0, ty, g1, -, -, g2, -⟩ := jty_at G hko (by omega)
  have hri : r32 i := jok_top (jok_pop ho)
  have hrx : r64 x := jok_top ho
  show W p l e R s m args below meth c H locs cells slots Q (F0 m pc lsr (jsv G (.inr (.inl x)) :: jsv G (.inl i) :: jsv G (.inr (.inr (some cc))) :: st.map (jsv G)))
  rw [jref hW hk]
  have hA := (hX.2.2.2 t0 _ g1).1 n (fun j => .long (Int64.ofInt (gL h cc j)))
  rw [g2 rfl] at hA
  refine W.last hx hb (show H[G.2.2.2 + cc]? = some (vp_cell (G.2.1 3) (n, .inr (.inl fun i => Int64.ofInt (gL h cc i)))) from hat) hA (fun q => by cases q) (by show ¬ (_ < 0 ∨ (arrV _ _ _).slots.size ≤ _); rw [arrV_size]; exact o32_in hi.1 hi.2 hri) rfl rfl hd fun H1 e1 z oq => ?_
  refine kk H1 _ cells slots lsr (jW_upd hW hk rfl (fun c' hc' => ⟨fun _ => rfl, fun _ => rfl, fun i => by rw [gL_w, if_neg (fun q => hc' q.1)]⟩) z oq (hW.2.2.1 cc) (fun j => ?_) ?_) (hS.put z oq (by show G.2.2.2 ≤ _; omega)) hz hl hn2 (jok_pop (jok_pop (jok_pop ho))) hc hs
  · rw [gL_w]; split
    · exact hrx
    · exact hW.2.2.2.1 cc j
  · show H1[_]? = some (vp_cell _ _)
    rw [e1, vp_cell_l, vp_cell_l, arrV_store]
    congr 2
    funext q
    rw [o32_cl hi.1 hi.2 hri]
    by_cases hq : q = i.toNat
    · subst hq; simp [updV, gL_w]
    · simp [updV, gL_w, hq]
theorem js_alen (F : jF G y p s m args meth c) {cc n k : Nat} (hk : gK h cc = some (k + 1, n)) (hd : decode (pby y) pc = .ok (.arraylength, 1))
    (kk : jG G y p l e R s m args below meth c Q hE cE sE (pc + 1) ls (.inl (n : Int) :: st) h) : jG G y p l e R s m args below meth c Q hE cE sE pc ls (.inr (.inr (some cc)) :: st) h := fun H locs cells slots lsr hW hS hz hl hn2 ho hc hs => by
  obtain ⟨⟨hx, hb⟩, hown, hml, hret, hlk, hin, hts, hX⟩ := F
  obtain ⟨hko, hat⟩ := hW.2.1 cc _ hk
  obtain ⟨t0, ty, g1, -⟩ := jty_at G hko (by omega)
  show W p l e R s m args below meth c H locs cells slots Q (F0 m pc lsr (jsv G (.inr (.inr (some cc))) :: st.map (jsv G)))
  rw [jref hW hk]
  have hn4 : n ≤ 4096 := by
    rcases hko with ⟨a, -⟩ | ⟨-, b⟩
    · simp only at a; omega
    · exact b
  have hcell : ∃ z, jE G h cc (k + 1, n) = .inl (G.2.1 (k + 1), n, z) := by
    match k with
    | 0 => exact ⟨_, rfl⟩
    | 1 => exact ⟨_, rfl⟩
    | 2 => exact ⟨_, rfl⟩
    | k + 3 => exact ⟨_, rfl⟩
  obtain ⟨z, hz2⟩ := hcell
  rw [hz2] at hat
  refine va_alen (D := G.1) hx hb hX.2.2 (va_P1 hat) 0 t0 rfl g1 (v := Int32.ofInt (n : Int)) rfl hd ?_
  exact kk H locs cells slots lsr hW hS hz hl hn2 (jok_push (jok_pop ho) (by unfold jvok r32; omega)) hc hs
/-- the script -/
theorem js_sald (F : jF G y p s m args meth c) {i : Int} (hi : 0 ≤ i ∧ i < gD h jLEN 0) (hd : decode (pby y) pc = .ok (.iaload, 1))
    (kk : jG G y p l e R s m args below meth c Q hE cE sE (pc + 1) ls (.inl (gD h jSCR i.toNat) :: st) h) : jG G y p l e R s m args below meth c Q hE cE sE pc ls (.inl i :: .inr (.inr (some jSCR)) :: st) h := fun H locs cells slots lsr hW hS hz hl hn2 ho hc hs => by
  obtain ⟨⟨hx, hb⟩, hown, hml, hret, hlk, hin, hts, hX⟩ := F
  have hri : r32 i := jok_top ho
  obtain ⟨⟨scr, h1, h2, h3, h4, h5⟩, h6⟩ := hW.2.2.2.2.1
  have hin' : vp_in (Int32.ofInt i) (gD h jLEN 0).toNat := o32_in hi.1 (by omega) hri
  have hcl : (Int32.ofInt i).toNatClampNeg = i.toNat := o32_cl (n := (gD h jLEN 0).toNat) hi.1 (by omega) hri
  have hlt : i.toNat < (gD h jLEN 0).toNat := by omega
  show W p l e R s m args below meth c H locs cells slots Q (F0 m pc lsr (.int (Int32.ofInt i) :: .ref (jad G jSCR) :: st.map (jsv G)))
  have ea : jad G jSCR = G.2.2.1 jSCR := if_neg (by unfold jSCR; omega)
  rw [ea]
  refine W.iald (v := .int (Int32.ofInt (gD h jSCR i.toNat))) hx hb h1 h2 h3 (by rw [h4]; exact hin') (by rw [hcl]; exact h5 _ hlt) rfl rfl hd ?_
  exact kk H locs cells slots lsr hW hS hz hl hn2 (jok_push (jok_pop (jok_pop ho)) (hW.2.2.1 _ _)) hc hs
theorem js_slen (F : jF G y p s m args meth c) (hd : decode (pby y) pc = .ok (.arraylength, 1))
    (kk : jG G y p l e R s m args below meth c Q hE cE sE (pc + 1) ls (.inl (gD h jLEN 0) :: st) h) : jG G y p l e R s m args below meth c Q hE cE sE pc ls (.inr (.inr (some jSCR)) :: st) h := fun H locs cells slots lsr hW hS hz hl hn2 ho hc hs => by
  obtain ⟨⟨hx, hb⟩, hown, hml, hret, hlk, hin, hts, hX⟩ := F
  obtain ⟨⟨scr, h1, h2, h3, h4, h5⟩, h6⟩ := hW.2.2.2.2.1
  show W p l e R s m args below meth c H locs cells slots Q (F0 m pc lsr (.ref (jad G jSCR) :: st.map (jsv G)))
  have ea : jad G jSCR = G.2.2.1 jSCR := if_neg (by unfold jSCR; omega)
  rw [ea]
  refine W.alen (n := Int32.ofInt (gD h jLEN 0)) hx hb h1 h2 (by
    rw [h4]
    show Int32.ofInt (((gD h jLEN 0).toNat : Nat) : Int) = _
    rw [Int.toNat_of_nonneg h6]) rfl rfl hd ?_
  exact kk H locs cells slots lsr hW hS hz hl hn2 (jok_push (jok_pop ho) (hW.2.2.1 _ _)) hc hs
end JR
