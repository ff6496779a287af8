/-! THE CALLS THAT THROW: a place ahead of the code's end; what the stack bears at a place of code without loops; the run to a throw -/
theorem jdec_lt {c : ByteArray} {pc len : Nat} {i : Instr} (h : decode c pc = .ok (i, len)) : pc < c.size := by
  by_cases hp : pc < c.size
  · exact hp
  · exfalso
    have hu1 : (Reader.u1 : Decoder Nat) c pc = .error (.truncated pc) := by
      have e : (Reader.u1 : Decoder Nat) c pc = ((if h : pc < c.size then (do set (pc + 1); pure c[pc].toNat) else throw (HasTruncated.truncated pc)) : Decoder Nat) c pc := rfl
      rw [e, dif_neg hp]; rfl
    have e : decode c pc = .error (.truncated pc) := by
      unfold decode Decoder.instr
      show Except.bind (Except.bind ((Reader.u1 : Decoder Nat) c pc) _) _ = _
      rw [hu1]; rfl
    rw [e] at h; cases h
def jXN : String := "java/util/NoSuchElementException"
def jXS : List String := ["java/lang/RuntimeException", "java/lang/Exception"]
/-- the places where instructions of the three methods start -/
def jXst : Nat → List Nat
  | 181 => [0, 1, 4, 5, 8, 9, 10, 13, 21, 22, 25]
  | 182 => [0, 1, 4, 5, 8, 9, 10, 13, 14, 17, 25, 26, 27, 30]
  | 183 => [0, 1, 4, 5, 6, 9, 10, 13, 21, 22, 25, 26, 27, 28, 31]
  | _ => []
def jtg (y : Nat) (i : Instr) (pc : Nat) : List Nat := match i with
  | .iconst _ => [pc + 1]
  | .iload_n _ => [pc + 1]
  | .aload_n _ => [pc + 1]
  | .astore_n _ => [pc + 1]
  | .aaload => [pc + 1]
  | .getfield _ => [pc + 3]
  | .ifnull off => [pc + 3, jtgt pc off]
  | .ifnonnull off => [pc + 3, jtgt pc off]
  | .ifCond _ off => [pc + 3, jtgt pc off]
  | .if_icmp _ off => [pc + 3, jtgt pc off]
  | .invokevirtual _ => [pc + 3]
  | .ireturn => []
  | .new k => if pkl (poc y) k = some 14 then [] else [0]
  | _ => [0]
set_option maxRecDepth 100000 in
theorem pj_thr : (([181, 182, 183] : List Nat).all fun y => decide (y < 297) && (poc y == 11) && (jXst y).all fun pc => decide (pc ≤ 40) && match decode (pby y) pc with
  | .ok (i, _) => (jtg y i pc).all (fun q => decide (pc < q) && (jXst y).contains q)
  | _ => true) = true := by decide +kernel
set_option maxRecDepth 100000 in
theorem pj_thn : (([181, 182, 183] : List Nat).all fun y => (jXst y).all fun pc => match decode (pby y) pc with
  | .ok (.new k, _) => k == 162 && (match decode (pby y) (pc + 3) with | .ok (.dup, 1) => true | _ => false) && (match decode (pby y) (pc + 4) with | .ok (.invokespecial 164, 3) => true | _ => false) && (match decode (pby y) (pc + 7) with | .ok (.athrow, 1) => true | _ => false)
  | _ => true) = true := by decide +kernel
theorem pj_thk : ((pj_ml 11).all fun t => decide (t.2.1 < 20)) = true := by decide +kernel
section THR
variable {G : jg} {y : Nat} {p : Program} {l : Launch} {e : Env} {R : Room} {s : State} {m : MethodId} {args : Array Value} {below : List Frame} {meth : Method} {c : Code} {Q : State → Prop} {hE : jh} {cE sE : Nat} {pc : Nat} {ls : List (Option jv)} {st : List jv} {h : jh}
variable {pc' : Nat} {ls' : List (Option jv)} {st' : List jv} {h' : jh}
theorem jcall_rs {kd yy t y2 : Nat} {av rs : List jv} (hx : jcall kd yy pc ls st h = some (.inr (.inl (t, y2, av, rs)))) : rs.length ≤ st.length := by
  unfold jcall jcl jclt jgo at hx
  (repeat' split at hx) <;> first | (cases hx; done) | (cases hx; rw [List.length_drop]; omega)
theorem jbr_mem (cc : ClassFile.Cond) (a b : Int) (t f : Nat) : jbr cc a b t f ∈ [f, t] := by
  unfold jbr
  cases cc <;> dsimp only <;> split <;> simp
theorem jtg_step {i : Instr} (hx : pjx y i pc ls st h = some (.inl (pc', ls', st', h'))) (hg : ∀ q ∈ jtg y i pc, pc < q) : pc' ∈ jtg y i pc ∧ st'.length ≤ st.length + 1 := by
  cases i with
  | iconst n =>
    replace hx : (if -128 ≤ n ∧ n < 128 then jgo (pc + 1) ls (.inl n :: st) h else none) = some (.inl (pc', ls', st', h')) := hx
    split at hx
    · obtain ⟨rfl, rfl, rfl, rfl⟩ := jgo_inv hx; exact ⟨List.mem_singleton.mpr rfl, Nat.le_refl _⟩
    · cases hx
  | iload_n n => obtain ⟨x, -, rfl, rfl, rfl, rfl⟩ := jload1_inv (show jload1 ls n.val pc 1 st h = _ from hx); exact ⟨List.mem_singleton.mpr rfl, Nat.le_refl _⟩
  | aload_n n => obtain ⟨x, -, rfl, rfl, rfl, rfl⟩ := jload3_inv (show jload3 ls n.val pc 1 st h = _ from hx); exact ⟨List.mem_singleton.mpr rfl, Nat.le_refl _⟩
  | astore_n n => obtain ⟨x, r, rfl, -, rfl, rfl, rfl, rfl⟩ := jstor3_inv (show jstor3 ls n.val pc 1 st h = _ from hx); exact ⟨List.mem_singleton.mpr rfl, by simp only [List.length_cons]; omega⟩
  | aaload =>
    replace hx : (match st with | .inl i :: .inr (.inr (some c)) :: r => (match gK h c with | some (k + 4, n) => if 0 ≤ i ∧ i < n then jgo (pc + 1) ls (.inr (.inr (gR h c i.toNat)) :: r) h else none | _ => none) | _ => none) = some (.inl (pc', ls', st', h')) := hx
    (repeat' split at hx) <;> first | (cases hx; done) | (obtain ⟨rfl, rfl, rfl, rfl⟩ := jgo_inv hx; exact ⟨List.mem_singleton.mpr rfl, by simp only [List.length_cons]; omega⟩)
  | getfield n =>
    replace hx : (match st with | .inr (.inr (some cc)) :: r => (match pfl (poc y) n with | some (ci, j) => if gK h cc = some (0, ci) then jgo (pc + 3) ls (jfv h ci cc j :: r) h else none | none => none) | _ => none) = some (.inl (pc', ls', st', h')) := hx
    (repeat' split at hx) <;> first | (cases hx; done) | (obtain ⟨rfl, rfl, rfl, rfl⟩ := jgo_inv hx; exact ⟨List.mem_singleton.mpr rfl, by simp only [List.length_cons]; omega⟩)
  | ifnull off =>
    unfold pjx at hx; dsimp only at hx
    (repeat' split at hx) <;> first | (cases hx; done) | (obtain ⟨rfl, rfl, rfl, rfl⟩ := jgo_inv hx; exact ⟨by simp [jtg], by simp only [List.length_cons]; omega⟩)
  | ifnonnull off =>
    unfold pjx at hx; dsimp only at hx
    (repeat' split at hx) <;> first | (cases hx; done) | (obtain ⟨rfl, rfl, rfl, rfl⟩ := jgo_inv hx; exact ⟨by simp [jtg], by simp only [List.length_cons]; omega⟩)
  | ifCond cc off =>
    unfold pjx at hx; dsimp only at hx
    (repeat' split at hx) <;> first | (cases hx; done) | (obtain ⟨rfl, rfl, rfl, rfl⟩ := jgo_inv hx; exact ⟨jbr_mem _ _ _ _ _, by simp only [List.length_cons]; omega⟩)
  | if_icmp cc off =>
    unfold pjx at hx; dsimp only at hx
    (repeat' split at hx) <;> first | (cases hx; done) | (obtain ⟨rfl, rfl, rfl, rfl⟩ := jgo_inv hx; exact ⟨jbr_mem _ _ _ _ _, by simp only [List.length_cons]; omega⟩)
  | invokevirtual n =>
    replace hx : (match pml (poc y) n with | some (kd, y2) => if jkV kd = true then jcall kd y2 pc ls st h else none | none => none) = some (.inl (pc', ls', st', h')) := hx
    split at hx
    · split at hx
      · unfold jcall jcl jclt jgo at hx
        (repeat' split at hx) <;> first | (cases hx; done) | (cases hx; refine ⟨List.mem_singleton.mpr rfl, ?_⟩; simp only [List.length_cons]; omega)
      · cases hx
    · cases hx
  | ireturn =>
    unfold pjx at hx; dsimp only at hx
    (repeat' split at hx) <;> cases hx
  | new n =>
    replace hx : (match pkl (poc y) n with | some ci => if ci < 13 then jgo (pc + 3) ls (.inr (.inr (some h.1.length)) :: st) (nC h (0, ci)) else if ci = 14 then some (.inr (.inr (1, none))) else none | none => none) = some (.inl (pc', ls', st', h')) := hx
    by_cases hk : pkl (poc y) n = some 14
    · rw [hk] at hx; cases hx
    · exact absurd (hg 0 (by show 0 ∈ (if pkl (poc y) n = some 14 then ([] : List Nat) else [0]); rw [if_neg hk]; exact List.mem_singleton.mpr rfl)) (Nat.not_lt_zero _)
  | _ => exact absurd (hg 0 (List.mem_singleton.mpr rfl)) (Nat.not_lt_zero _)
/-- a place of the three methods, with no more on the stack than the place's number -/
def jXP (y pc : Nat) (st : List jv) : Prop := pc ∈ jXst y ∧ st.length ≤ pc
theorem jX_tg {y pc len : Nat} {i : Instr} (hy : y = 181 ∨ y = 182 ∨ y = 183) (hp : pc ∈ jXst y) (hd : decode (pby y) pc = .ok (i, len)) : pc ≤ 40 ∧ ∀ q ∈ jtg y i pc, pc < q ∧ q ∈ jXst y := by
  have h0 := List.all_eq_true.mp pj_thr y (by simpa using hy)
  simp only [Bool.and_eq_true] at h0
  have h1 := List.all_eq_true.mp h0.2 pc hp
  rw [hd] at h1
  simp only [Bool.and_eq_true, decide_eq_true_eq] at h1
  refine ⟨h1.1, fun q hq => ?_⟩
  have h2 := List.all_eq_true.mp h1.2 q hq
  simp only [Bool.and_eq_true, decide_eq_true_eq, List.contains_iff_mem] at h2
  exact h2
theorem jX_oc {y : Nat} (hy : y = 181 ∨ y = 182 ∨ y = 183) : y < 297 ∧ poc y = 11 := by
  have h0 := List.all_eq_true.mp pj_thr y (by simpa using hy)
  simp only [Bool.and_eq_true, decide_eq_true_eq, beq_iff_eq] at h0
  exact h0.1
theorem jSim3_le {n k : Nat} (hk : k ≤ n) (S : jSim3 G n) : jSim3 G k := fun d y pc ls st h o hE hr => S d y pc ls st h o hE (prun_le hk _ _ _ _ _ _ _ hr)
/-- the run of one of the three, its end at a place with little on the stack -/
theorem jsimX (hM : jHmulZ G) (hT : jHstrZ G) (hy : y = 181 ∨ y = 182 ∨ y = 183) {N : Nat} (S : jSim3 G N) : ∀ n : Nat, n ≤ N → ∀ (d pc : Nat) (ls : List (Option jv)) (st : List jv) (h : jh) (o : Nat × Option jv) (hE : jh), prun n d y pc ls st h = some (o, hE) → jXP y pc st →
    ∀ (p : Program) (l : Launch) (e : Env) (R : Room) (s : State) (m : MethodId) (args : Array Value) (below : List Frame) (meth : Method) (c : Code) (Q : State → Prop) (cE sE : Nat), jFZ G y p s m args meth c → jok3 d R → jroom R hE cE sE → l.stackTraces = false →
    (∀ pcE lsE stE, jXP y pcE stE → jend y o pcE lsE stE hE → jGZ G y p l e R s m args below meth c Q hE cE sE pcE lsE stE hE) → jGZ G y p l e R s m args below meth c Q hE cE sE pc ls st h
  | 0 => fun hn d pc ls st h o hE hr => by cases hr
  | n + 1 => fun hn d pc ls st h o hE hr hP p l e R s m args below meth c Q cE sE F hok hR hlt hend => by
    have ih := jsimX hM hT hy S n (by omega)
    have hroom : 20 ≤ R.frames ∧ 5000 ≤ R.locals := ⟨by have := hok.1; omega, by have := hok.2; omega⟩
    unfold prun at hr
    split at hr
    · rename_i i len hd
      obtain ⟨-, htg⟩ := jX_tg hy hP.1 hd
      split at hr
      · cases hr
      rename_i hlen
      have hl : jlen i len = true := by simpa using hlen
      split at hr
      · rename_i pc' ls' st' h' hx
        obtain ⟨g1, g2⟩ := jtg_step hx (fun q hq => (htg q hq).1)
        have g3 := htg _ g1
        have g4 := hP.2
        exact jstepZ hM hT F hroom hR i hd hl hx (prun_pre _ _ _ _ _ _ _ _ _ hr) (ih d pc' ls' st' h' o hE hr ⟨g3.2, by omega⟩ p l e R s m args below meth c Q cE sE F hok hR hlt hend)
      · rename_i y2 av rs hx
        split at hr
        · cases hr
        · rename_i d'
          split at hr
          · rename_i r h1 hq
            obtain ⟨k, kd, yy, hk, hc, hi⟩ := pjx_call hx
            have hl3 : len = 3 := by
              rcases hi with ⟨-, rfl⟩ | ⟨-, rfl⟩ | ⟨-, rfl⟩ <;> exact jone hl (fun _ => rfl)
            subst hl3
            have hpc : pc + 3 ∈ jXst y ∧ pc < pc + 3 := by
              rcases hi with ⟨-, rfl⟩ | ⟨-, rfl⟩ | ⟨-, rfl⟩
              · have := htg (pc + 3) (List.mem_singleton.mpr rfl); exact ⟨this.2, this.1⟩
              · exact absurd (htg 0 (List.mem_singleton.mpr rfl)).1 (Nat.not_lt_zero _)
              · exact absurd (htg 0 (List.mem_singleton.mpr rfl)).1 (Nat.not_lt_zero _)
            have hrs := jcall_rs hc
            have g4 := hP.2
            have hrl : r.toList.length ≤ 1 := by cases r <;> simp
            exact jcall3 hlt F hok hR (jSim3_le (by omega) S) hk hc (by
              rcases hi with ⟨a, rfl⟩ | ⟨a, rfl⟩ | ⟨a, rfl⟩
              · exact Or.inl ⟨a, hd⟩
              · exact Or.inr (Or.inl ⟨a, hd⟩)
              · exact Or.inr (Or.inr ⟨a, hd⟩)) hq (prun_pre _ _ _ _ _ _ _ _ _ hr) (ih (d' + 1) (pc + 3) ls (r.toList ++ rs) h1 o hE hr ⟨hpc.1, by rw [List.length_append]; omega⟩ p l e R s m args below meth c Q cE sE F hok hR hlt hend)
          · cases hr
      · rename_i t y2 av rs ht hx
        have ht0 : t ≠ 0 := fun q => ht q
        obtain ⟨k, kd, yy, hk, hc, hi⟩ := pjx_call hx
        obtain ⟨rfl, hkd, -⟩ := jcall_try ht0 hc
        obtain ⟨-, hmm⟩ := pml_ok hk
        rw [(jX_oc hy).2] at hmm
        have := List.all_eq_true.mp pj_thk _ hmm
        simp only [decide_eq_true_eq] at this
        omega
      · rename_i r hx
        cases hr
        exact hend pc ls st hP ⟨i, len, hd, hl, hx⟩
      · cases hr
    · cases hr
end THR
