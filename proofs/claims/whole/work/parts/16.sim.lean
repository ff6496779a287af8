/-! A METHOD'S RUN IN THE SMALL MACHINE IS ITS CONTRACT -/
theorem jidx (vm : Vm) (g : Kind → Bool) : (vm.bare.classes.findIdx? fun (x : Class) => g x.kind) = (vm.classes.findIdx? fun (x : Class) => g x.kind) := by
  simp only [Vm.bare, Array.findIdx?_map]
  rfl
theorem jover_moved {t : FieldType} {u U : State} (hvm : u.vm.Alike U.vm) (h : (Cond.arrayOver (.array t)).before #[] u = true) : (Cond.arrayOver (.array t)).before #[] U = true := by
  have h0 := h
  obtain ⟨comp', c', k1, a1, a2, a3, a4⟩ := jover h0
  simp only [Cond.before, Cond.holds, Cond.value, beq_iff_eq] at h
  rw [a1] at h
  simp only [Option.bind_some, Option.bind_eq_some_iff, Option.map_eq_some_iff] at h
  obtain ⟨c, hi, k, hk, hb⟩ := h
  obtain ⟨k', hk', he⟩ := hvm.2.2 _ _ hk
  have hi2 : (U.vm.classes.findIdx? fun (x : Class) => match x.kind with | .array component _ => component == comp' | _ => false) = some c := by
    refine Eq.trans (jidx U.vm (fun q => match q with | .array component _ => component == comp' | _ => false)).symm ?_
    have hbe : U.vm.bare = u.vm.bare := by first | exact hvm.bare_eq | exact hvm.bare_eq.symm
    rw [hbe]
    exact (jidx u.vm (fun q => match q with | .array component _ => component == comp' | _ => false)).trans hi
  obtain ⟨hlt, hp, -⟩ := Array.findIdx?_eq_some_iff_getElem.mp hi
  have hkk : u.vm.classes[c] = k := (Array.getElem?_eq_some_iff.mp hk).2
  rw [hkk] at hp
  have f1 : U.vm.findClass (FieldType.array t).toString = some comp' := (hvm.findClass _ _).trans a1
  have f2 : ∀ n, U.vm.findClass n = u.vm.findClass n := fun n => hvm.findClass n _
  have hkind : ∃ z, k.kind = .array comp' z ∧ z = .array t ∧ u.vm.findClass ("[" ++ (FieldType.array t).toString) = some c := by
    cases hkd : k.kind with
    | array component ty =>
      rw [hkd] at hb hp
      simp at hb hp
      exact ⟨ty, by rw [hp], hb.1, hb.2⟩
    | _ => rw [hkd] at hb; simp at hb
  obtain ⟨z, q1, q2, q3⟩ := hkind
  have hk2 : k'.kind = .array comp' (.array t) := by rw [he]; show k.kind = _; rw [q1, q2]
  have f3 : U.vm.findClass ("[" ++ (FieldType.array t).toString) = some c := (f2 _).trans q3
  simp only [Cond.before, Cond.holds, Cond.value, beq_iff_eq]
  rw [f1, Option.bind_some]
  refine (congrArg (fun o : Option Nat => (o.bind (fun c => (U.vm.classes[c]?).map fun (k : Class) => match k.kind with | .array _ ty => decide (ty = FieldType.array t) && decide (U.vm.findClass ("[" ++ (FieldType.array t).toString) = some c) | _ => false))) hi2).trans ?_
  simp [hk', hk2, f3]
theorem jX_warm {G : jg} {s U : State} (hW : s.WarmedH U.vm) (h : jX G s) : jX G U := by
  obtain ⟨⟨h1, h7, h8⟩, ⟨h2, h3, h4, h5⟩, h6⟩ := h
  refine ⟨⟨fun oc ho t ht hp => ?_, h7.warm hW, h8.warm hW⟩, ⟨h2.moved hW.alike, h3.moved hW.alike, h4.moved hW.alike, jover_moved hW.alike h5⟩, va_K.moved hW.alike h6⟩
  have h9 := h1 oc ho t ht hp
  unfold pj_plain at hp
  simp only [Bool.not_eq_false', Bool.or_eq_true, beq_iff_eq] at hp
  rcases hp with (e | e) | e <;> unfold pj_mw at h9 ⊢ <;> rw [e] at h9 ⊢ <;> exact va_Nw.warmM hW h9
def pj_ws (y : Nat) : List Cond := Cond.code (pj_n y) (pby y) (pmL y) (prt y) :: pj_W
theorem pj_wsg {y : Nat} (h : y < 297) : GoodIn pj_W (pj_ws y) := by
  intro w hw
  have hm : w ∈ pj_W := by
    rcases List.mem_cons.mp hw with e | e
    · rw [e]; exact pj_codesW h
    · exact e
  exact ⟨hm, good_of_word (pj_Wgood hm).2⟩
theorem pj_yckd {y : Nat} (h : y < 297) : (pj_n y).cls = pj_C (poc y) ∧ poc y < 16 ∧ ((pj_n y).name = "<init>" ↔ pin y = 1) ∧ plainName (pj_n y).cls = true ∧ ((pj_n y).cls ≠ "java/lang/invoke/MethodHandle" ∧ (pj_n y).cls ≠ "java/lang/invoke/VarHandle") ∧
    (parseMethodDescriptor (pj_n y).desc).map (fun d => d.parameters.length) = some (if pj_staY.contains y then pna y else pna y - 1) ∧ (pj_staY.contains y = false → 0 < pna y ∧ pj_insY.contains y = true ∧ (pin y = 1 ∨ pj_selY.contains y = true)) := by
  have h1 := List.all_eq_true.mp pj_yck_ok y (List.mem_range.mpr h)
  unfold pj_yck at h1
  simp only [Bool.and_eq_true, decide_eq_true_eq, beq_iff_eq, Bool.or_eq_true] at h1
  obtain ⟨⟨⟨⟨⟨⟨a, b⟩, d⟩, e⟩, f⟩, g⟩, i⟩ := h1
  refine ⟨a, b, ?_, e, f, g, fun q => ?_⟩
  · constructor
    · intro q
      have : ((pj_n y).name == "<init>") = true := by simpa using q
      rw [this] at d
      simpa using d.symm
    · intro q
      have : (pin y == 1) = true := by simpa using q
      rw [this] at d
      simpa using d
  · rcases i with i | ⟨⟨i1, i2⟩, i3⟩
    · rw [q] at i; cases i
    · exact ⟨i1, i2, i3⟩
set_option maxRecDepth 100000 in
theorem pj_mLs : ((List.range 297).all fun y => decide (pmL y ≤ 60)) = true := by decide +kernel
theorem pj_mL {y : Nat} (h : y < 297) : pmL y ≤ 60 := by
  have := List.all_eq_true.mp pj_mLs y (List.mem_range.mpr h)
  simpa using this
theorem pj_insW {y : Nat} (h : pj_insY.contains y = true) : Cond.instanceMethod (pj_n y) ∈ pj_W := pj_sub_mem _ _ pj_ins_ok _ (List.mem_map.mpr ⟨y, by simpa using h, rfl⟩)
theorem pj_selW {y : Nat} (h : pj_selY.contains y = true) : Cond.selects (pj_n y).cls (pj_n y) (pj_n y) ∈ pj_W := pj_sub_mem _ _ pj_sel_ok _ (List.mem_map.mpr ⟨y, by simpa using h, rfl⟩)
theorem pj_staW {y : Nat} (h : pj_staY.contains y = true) : Cond.static (pj_n y) ∈ pj_W := pj_sub_mem _ _ pj_sta_ok _ (List.mem_map.mpr ⟨y, by simpa using h, rfl⟩)
/-! the entry -/
theorem jlay_args (G : jg) : ∀ (av : List jv) (off i : Nat) (v : jv), (jlay av).getD i none = some v → (off + i, jsv G v) ∈ lv_args off (av.map (jsv G))
  | [], _, i, v, h => by simp [jlay] at h
  | .inl x :: r, off, i, v, h => by
    have e : lv_args off ((.inl x :: r).map (jsv G)) = (off, jsv G (.inl x)) :: lv_args (off + 1) (r.map (jsv G)) := rfl
    rw [e]
    cases i with
    | zero => simp only [jlay, List.getD_cons_zero] at h; cases h; exact List.mem_cons_self
    | succ i =>
      simp only [jlay, List.getD_cons_succ] at h
      have := jlay_args G r (off + 1) i v h
      rw [show off + (i + 1) = off + 1 + i by omega]
      exact List.mem_cons_of_mem _ this
  | .inr (.inl x) :: r, off, i, v, h => by
    have e : lv_args off ((.inr (.inl x) :: r).map (jsv G)) = (off, jsv G (.inr (.inl x))) :: lv_args (off + 2) (r.map (jsv G)) := rfl
    rw [e]
    cases i with
    | zero => simp only [jlay, List.getD_cons_zero] at h; cases h; exact List.mem_cons_self
    | succ i =>
      cases i with
      | zero => simp [jlay] at h
      | succ i =>
        simp only [jlay, List.getD_cons_succ] at h
        have := jlay_args G r (off + 2) i v h
        rw [show off + (i + 1 + 1) = off + 2 + i by omega]
        exact List.mem_cons_of_mem _ this
  | .inr (.inr x) :: r, off, i, v, h => by
    have e : lv_args off ((.inr (.inr x) :: r).map (jsv G)) = (off, jsv G (.inr (.inr x))) :: lv_args (off + 1) (r.map (jsv G)) := by
      cases x <;> rfl
    rw [e]
    cases i with
    | zero => simp only [jlay, List.getD_cons_zero] at h; cases h; exact List.mem_cons_self
    | succ i =>
      simp only [jlay, List.getD_cons_succ] at h
      have := jlay_args G r (off + 1) i v h
      rw [show off + (i + 1) = off + 1 + i by omega]
      exact List.mem_cons_of_mem _ this
theorem jlay_len (G : jg) : ∀ av : List jv, (lg_sl (av.map (jsv G))).length = (jlay av).length
  | [] => rfl
  | .inl x :: r => by
    have e : lg_sl ((.inl x :: r).map (jsv G)) = .val (jsv G (.inl x)) :: lg_sl (r.map (jsv G)) := rfl
    rw [e, List.length_cons, jlay_len G r]; rfl
  | .inr (.inl x) :: r => by
    have e : lg_sl ((.inr (.inl x) :: r).map (jsv G)) = .val (jsv G (.inr (.inl x))) :: .second :: lg_sl (r.map (jsv G)) := rfl
    rw [e, List.length_cons, List.length_cons, jlay_len G r]; rfl
  | .inr (.inr x) :: r => by
    have e : lg_sl ((.inr (.inr x) :: r).map (jsv G)) = .val (jsv G (.inr (.inr x))) :: lg_sl (r.map (jsv G)) := by cases x <;> rfl
    rw [e, List.length_cons, jlay_len G r]; rfl
theorem jlay_ok : ∀ (av : List jv), (∀ v ∈ av, jvok v) → ∀ i v, (jlay av).getD i none = some v → jvok v
  | [], _, i, v, h => by simp [jlay] at h
  | .inl x :: r, ho, i, v, h => by
    cases i with
    | zero => simp only [jlay, List.getD_cons_zero] at h; cases h; exact ho _ List.mem_cons_self
    | succ i => simp only [jlay, List.getD_cons_succ] at h; exact jlay_ok r (fun w hw => ho w (List.mem_cons_of_mem _ hw)) i v h
  | .inr (.inl x) :: r, ho, i, v, h => by
    cases i with
    | zero => simp only [jlay, List.getD_cons_zero] at h; cases h; exact ho _ List.mem_cons_self
    | succ i =>
      cases i with
      | zero => simp [jlay] at h
      | succ i => simp only [jlay, List.getD_cons_succ] at h; exact jlay_ok r (fun w hw => ho w (List.mem_cons_of_mem _ hw)) i v h
  | .inr (.inr x) :: r, ho, i, v, h => by
    cases i with
    | zero => simp only [jlay, List.getD_cons_zero] at h; cases h; exact ho _ List.mem_cons_self
    | succ i => simp only [jlay, List.getD_cons_succ] at h; exact jlay_ok r (fun w hw => ho w (List.mem_cons_of_mem _ hw)) i v h
theorem jent_get {n : Nat} {av : List jv} {i : Nat} {v : jv} (h : (jent n av).getD i none = some v) : (jlay av).getD i none = some v := by
  unfold jent at h
  rw [List.getD_eq_getElem?_getD] at h ⊢
  by_cases q : i < (jlay av).length
  · rw [List.getElem?_append_left q] at h; exact h
  · rw [List.getElem?_append_right (by omega), List.getElem?_replicate] at h
    split at h <;> cases h
theorem jent_len {n : Nat} {av : List jv} (h : (jlay av).length ≤ n) : (jent n av).length = n := by
  unfold jent
  rw [List.length_append, List.length_replicate]; omega
theorem jentry {G : jg} {n : Nat} {av : List jv} (h : (jlay av).length ≤ n) : lv_has ((lg_sl (av.map (jsv G)) ++ List.replicate (n - (lg_sl (av.map (jsv G))).length) Slot.unset).toArray) n (jla G (jent n av)) := by
  have h1 := lv_entry (av.map (jsv G)) (n := n) (by rw [jlay_len]; exact h)
  refine ⟨h1.1, h1.2.1, fun q hq => h1.2.2 q ?_⟩
  obtain ⟨v, hv, e⟩ := mem_jla.mp hq
  have := jlay_args G av 0 q.1 v (jent_get hv)
  rw [Nat.zero_add, e] at this
  exact this
/-! the contract of a run that returns -/
def jPc (G : jg) (av : List jv) (h : jh) : Array Value → State → Prop := va_Pc (av.map (jsv G)) (fun U => jW G h U.heap U ∧ G.2.2.2 ≤ U.heap.size ∧ jX G U)
def jQc (G : jg) (r : Option jv) (h' : jh) : Array Value → State → Outcome → State → Prop := fun _ st oc t => oc = .returned (r.map (jsv G)) ∧ (∀ v, r = some v → jvok v) ∧ jW G h' t.heap t ∧ va_F (fun q => G.2.2.2 ≤ q) st t
theorem jPc_blind {G : jg} {av : List jv} {h : jh} : FrameBlind (jPc G av h) := by
  intro a U g mk q
  obtain ⟨q0, q1, q2, q3⟩ := q
  exact ⟨q0, jW_moved (s := U) (U := U.calling g mk a) (Vm.Alike.refl U.vm) q1, q2, jX_warm (s := U) (U := U.calling g mk a) (State.WarmedH.refl U) q3⟩
/-- where a run ends: an instruction that ends the method, with this outcome -/
def jend (y : Nat) (o : Nat × Option jv) (pc : Nat) (ls : List (Option jv)) (st : List jv) (h : jh) : Prop := ∃ (i : Instr) (len : Nat), decode (pby y) pc = .ok (i, len) ∧ jlen i len = true ∧ pjx y i pc ls st h = some (.inr (.inr o))
def jok2 (d : Nat) (R : Room) : Prop := d + 20 ≤ R.frames ∧ 100 * d + 5000 ≤ R.locals
/-- what a run of n steps says -/
def jSim (G : jg) (n : Nat) : Prop := ∀ (d y pc : Nat) (ls : List (Option jv)) (st : List jv) (h : jh) (o : Nat × Option jv) (hE : jh), prun n d y pc ls st h = some (o, hE) →
  ∀ (p : Program) (l : Launch) (e : Env) (R : Room) (s : State) (m : MethodId) (args : Array Value) (below : List Frame) (meth : Method) (c : Code) (Q : State → Prop) (cE sE : Nat), jF G y p s m args meth c → jok2 d R → jroom R hE cE sE → l.stackTraces = false →
    (∀ pcE lsE stE, jend y o pcE lsE stE hE → jG G y p l e R s m args below meth c Q hE cE sE pcE lsE stE hE) → jG G y p l e R s m args below meth c Q hE cE sE pc ls st h
theorem pjx_ret {y : Nat} {i : Instr} {pc : Nat} {ls : List (Option jv)} {st : List jv} {h : jh} {o : Nat × Option jv} (hx : pjx y i pc ls st h = some (.inr (.inr o))) :
    (i = .ireturn ∧ ∃ x, st = [.inl x] ∧ o = (0, some (.inl x)) ∧ (prt y = some .int ∨ (prt y = some .boolean ∧ (x = 0 ∨ x = 1)))) ∨ (i = .lreturn ∧ ∃ x, st = [.inr (.inl x)] ∧ o = (0, some (.inr (.inl x))) ∧ prt y = some .long)
    ∨ (i = .areturn ∧ ∃ x, st = [.inr (.inr x)] ∧ o = (0, some (.inr (.inr x))) ∧ ((∃ n, prt y = some (.object n)) ∨ ∃ t, prt y = some (.array t))) ∨ (i = .return_ ∧ st = [] ∧ o = (0, none) ∧ prt y = none) ∨ (∃ k, i = .new k ∧ o = (1, none)) := by
  have no : ∀ {kd y2 : Nat} {P : Prop}, jcall kd y2 pc ls st h = some (.inr (.inr o)) → P := by
    intro kd y2 P hx
    unfold jcall jcl jclt jgo at hx
    (repeat' split at hx) <;> cases hx
  unfold pjx at hx
  split at hx
  all_goals try (first | (unfold jgo at hx; cases hx; done) | (unfold jload1 jgo at hx; (repeat' split at hx) <;> cases hx; done) | (unfold jload2 jgo at hx; (repeat' split at hx) <;> cases hx; done) | (unfold jload3 jgo at hx; (repeat' split at hx) <;> cases hx; done) | (unfold jstor1 jgo at hx; (repeat' split at hx) <;> cases hx; done) | (unfold jstor2 jgo at hx; (repeat' split at hx) <;> cases hx; done) | (unfold jstor3 jgo at hx; (repeat' split at hx) <;> cases hx; done) | (unfold jbin jgo at hx; (repeat' split at hx) <;> cases hx; done) | (unfold jbin2 jgo at hx; (repeat' split at hx) <;> cases hx; done))
  all_goals try (unfold jgo at hx; (repeat' split at hx) <;> cases hx; done)
  all_goals try ((repeat' split at hx) <;> first | (cases hx; done) | exact no hx)
  all_goals ((repeat' split at hx) <;> first | (cases hx; done) | (unfold jgo at hx; cases hx; done) | (cases hx; exact Or.inr (Or.inr (Or.inr (Or.inr ⟨_, rfl, rfl⟩)))) | (rename_i q; cases hx; exact Or.inl ⟨rfl, _, rfl, rfl, Or.inl q⟩) | (rename_i q q2; cases hx; exact Or.inl ⟨rfl, _, rfl, rfl, Or.inr ⟨q, q2⟩⟩) | (rename_i q; cases hx; exact Or.inr (Or.inl ⟨rfl, _, rfl, rfl, q⟩)) | (rename_i q; cases hx; exact Or.inr (Or.inr (Or.inl ⟨rfl, _, rfl, rfl, Or.inl ⟨_, q⟩⟩))) | (rename_i q; cases hx; exact Or.inr (Or.inr (Or.inl ⟨rfl, _, rfl, rfl, Or.inr ⟨_, q⟩⟩))) | (rename_i q; cases hx; exact Or.inr (Or.inr (Or.inr (Or.inl ⟨rfl, rfl, rfl, q⟩)))))
