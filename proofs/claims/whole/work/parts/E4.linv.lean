/-! THE LAW: what its second local and its stack hold at its places (wip/whole/gen_e4.py) -/
def jLm : Nat := 3984376141806014554642344843977866663709383197714670983441492533075408060629687470650725762611852812510540684978779927837038866423810993724763144641960286286464497227312511702044962598111279885631064505010394461381634478460127443598969875432943143295777724383952160759235176950098750080909824565035700221880560421835023433113821799590312853680935693222223762674151210506632796017944356676068497515458676156362557699686280450477117732931784229189034114270337477669263769
def jLc (q : Nat) : Bool := decide (q < 1557) && jLm.testBit q
def jlk : Nat → List Nat
  | 3 => [0]
  | 4 => [0, 1]
  | 7 => [0]
  | 440 => [0]
  | 441 => [1]
  | 443 => [2]
  | 444 => [3]
  | 445 => [2]
  | 446 => [1]
  | 447 => [2]
  | 496 => [0]
  | 497 => [1]
  | 499 => [2]
  | 500 => [3]
  | 501 => [2]
  | 502 => [1]
  | 503 => [2]
  | 505 => [3]
  | 506 => [4]
  | 507 => [3]
  | 508 => [2]
  | 509 => [3]
  | 760 => [0]
  | 761 => [1]
  | 763 => [2]
  | 764 => [3]
  | 765 => [2]
  | 766 => [1]
  | 767 => [2]
  | 769 => [3]
  | 770 => [4]
  | 771 => [3]
  | 772 => [2]
  | 773 => [3]
  | _ => []
def jli : Nat → List Nat
  | 446 => [0]
  | 447 => [1]
  | 502 => [0]
  | 503 => [1]
  | 505 => [2]
  | 506 => [3]
  | 507 => [2]
  | 508 => [0, 1]
  | 509 => [1, 2]
  | 766 => [0]
  | 767 => [1]
  | 769 => [2]
  | 770 => [3]
  | 771 => [2]
  | 772 => [0, 1]
  | 773 => [1, 2]
  | _ => []
/-- how many are taken from the stack, how many are laid -/
def jeff : Instr → Option (Nat × Nat)
  | .iconst _ => some (0, 1)
  | .bipush _ => some (0, 1)
  | .iload _ => some (0, 1)
  | .aload_n _ => some (0, 1)
  | .istore _ => some (1, 0)
  | .astore_n _ => some (1, 0)
  | .iadd => some (2, 1)
  | .isub => some (2, 1)
  | .iand => some (2, 1)
  | .lcmp => some (2, 1)
  | .i2l => some (1, 1)
  | .iaload => some (2, 1)
  | .laload => some (2, 1)
  | .arraylength => some (1, 1)
  | .newarray _ => some (1, 1)
  | .new _ => some (0, 1)
  | .dup => some (0, 1)
  | .ifCond _ _ => some (1, 0)
  | .if_icmp _ _ => some (2, 0)
  | .goto _ => some (0, 0)
  | .tableswitch _ _ _ _ => some (1, 0)
  | .iinc _ _ => some (0, 0)
  | .ireturn => some (0, 0)
  | _ => none
def jtl (i : Instr) (pc : Nat) : List Nat := match i with
  | .bipush _ => [pc + 2]
  | .iload _ => [pc + 2]
  | .istore _ => [pc + 2]
  | .newarray _ => [pc + 2]
  | .new _ => [pc + 3]
  | .iinc _ _ => [pc + 3]
  | .ifCond _ off => [pc + 3, jtgt pc off]
  | .if_icmp _ off => [pc + 3, jtgt pc off]
  | .goto off => [jtgt pc off]
  | .tableswitch d _ _ offs => jtgt pc d :: offs.toList.map (jtgt pc)
  | .ireturn => []
  | _ => [pc + 1]
/-- it leaves the second local as it is, if that is a reference -/
def jkp : Instr → Bool
  | .istore n => decide (3 ≤ n)
  | .astore_n n => decide (2 ≤ n.val)
  | .iinc n _ => decide (3 ≤ n)
  | _ => true
theorem jst1_1 {ls : List (Option jv)} {n : Nat} {v : jv} {b : Nat} (hn : 2 ≤ n) (h1 : ls.getD 1 none = some (.inr (.inr (some b)))) : (jst1 ls n v).getD 1 none = some (.inr (.inr (some b))) := by
  have hc : (jcut ls n).getD 1 none = some (.inr (.inr (some b))) := by
    unfold jcut
    split
    · exact h1
    · rename_i k0
      split
      · rename_i x hx
        by_cases e : k0 = 1
        · subst e; rw [h1] at hx; cases hx
        · rw [List.getD_eq_getElem?_getD, List.getElem?_set, if_neg e, ← List.getD_eq_getElem?_getD]; exact h1
      · exact h1
  unfold jst1
  rw [List.getD_eq_getElem?_getD, List.getElem?_set, if_neg (by omega), ← List.getD_eq_getElem?_getD]; exact hc
section LINV
variable {y : Nat} {pc : Nat} {ls : List (Option jv)} {st : List jv} {h : jh} {pc' : Nat} {ls' : List (Option jv)} {st' : List jv} {h' : jh}
theorem jbr_mem2 (cc : ClassFile.Cond) (a b : Int) (t f : Nat) : jbr cc a b t f ∈ [f, t] := jbr_mem cc a b t f
theorem jeff_step {i : Instr} {a b : Nat} (hx : pjx y i pc ls st h = some (.inl (pc', ls', st', h'))) (he : jeff i = some (a, b)) : pc' ∈ jtl i pc ∧ (∃ l : List jv, l.length = b ∧ st' = l ++ st.drop a) ∧ (jkp i = true → ∀ q, ls.getD 1 none = some (.inr (.inr (some q))) → ls'.getD 1 none = some (.inr (.inr (some q)))) := by
  cases i with
  | iconst n =>
    cases he
    unfold pjx at hx; dsimp only at hx
    (repeat' split at hx) <;> first | (cases hx; done) | (obtain ⟨rfl, rfl, rfl, rfl⟩ := jgo_inv hx; exact ⟨List.mem_singleton.mpr rfl, ⟨[_], rfl, rfl⟩, fun _ _ q => q⟩)
  | bipush n =>
    cases he
    unfold pjx at hx; dsimp only at hx
    (repeat' split at hx) <;> first | (cases hx; done) | (obtain ⟨rfl, rfl, rfl, rfl⟩ := jgo_inv hx; exact ⟨List.mem_singleton.mpr rfl, ⟨[_], rfl, rfl⟩, fun _ _ q => q⟩)
  | iload n => cases he; obtain ⟨x, -, rfl, rfl, rfl, rfl⟩ := jload1_inv (show jload1 ls n pc 2 st h = _ from hx); exact ⟨List.mem_singleton.mpr rfl, ⟨[_], rfl, rfl⟩, fun _ _ q => q⟩
  | aload_n n => cases he; obtain ⟨x, -, rfl, rfl, rfl, rfl⟩ := jload3_inv (show jload3 ls n.val pc 1 st h = _ from hx); exact ⟨List.mem_singleton.mpr rfl, ⟨[_], rfl, rfl⟩, fun _ _ q => q⟩
  | istore n => cases he; obtain ⟨x, r, rfl, -, rfl, rfl, rfl, rfl⟩ := jstor1_inv (show jstor1 ls n pc 2 st h = _ from hx); exact ⟨List.mem_singleton.mpr rfl, ⟨[], rfl, rfl⟩, fun hk q hq => jst1_1 (by have := of_decide_eq_true hk; omega) hq⟩
  | astore_n n => cases he; obtain ⟨x, r, rfl, -, rfl, rfl, rfl, rfl⟩ := jstor3_inv (show jstor3 ls n.val pc 1 st h = _ from hx); exact ⟨List.mem_singleton.mpr rfl, ⟨[], rfl, rfl⟩, fun hk q hq => jst1_1 (of_decide_eq_true hk) hq⟩
  | iadd => cases he; obtain ⟨_, _, _, rfl, rfl, rfl, rfl, rfl⟩ := jbin_inv hx; exact ⟨List.mem_singleton.mpr rfl, ⟨[_], rfl, rfl⟩, fun _ _ q => q⟩
  | isub => cases he; obtain ⟨_, _, _, rfl, rfl, rfl, rfl, rfl⟩ := jbin_inv hx; exact ⟨List.mem_singleton.mpr rfl, ⟨[_], rfl, rfl⟩, fun _ _ q => q⟩
  | iand => cases he; obtain ⟨_, _, _, rfl, rfl, rfl, rfl, rfl⟩ := jbin_inv hx; exact ⟨List.mem_singleton.mpr rfl, ⟨[_], rfl, rfl⟩, fun _ _ q => q⟩
  | lcmp =>
    cases he
    unfold pjx at hx; dsimp only at hx
    (repeat' split at hx) <;> first | (cases hx; done) | (obtain ⟨rfl, rfl, rfl, rfl⟩ := jgo_inv hx; exact ⟨List.mem_singleton.mpr rfl, ⟨[_], rfl, rfl⟩, fun _ _ q => q⟩)
  | i2l =>
    cases he
    unfold pjx at hx; dsimp only at hx
    (repeat' split at hx) <;> first | (cases hx; done) | (obtain ⟨rfl, rfl, rfl, rfl⟩ := jgo_inv hx; exact ⟨List.mem_singleton.mpr rfl, ⟨[_], rfl, rfl⟩, fun _ _ q => q⟩)
  | iaload =>
    cases he
    unfold pjx at hx; dsimp only at hx
    (repeat' split at hx) <;> first | (cases hx; done) | (obtain ⟨rfl, rfl, rfl, rfl⟩ := jgo_inv hx; exact ⟨List.mem_singleton.mpr rfl, ⟨[_], rfl, rfl⟩, fun _ _ q => q⟩)
  | laload =>
    cases he
    unfold pjx at hx; dsimp only at hx
    (repeat' split at hx) <;> first | (cases hx; done) | (obtain ⟨rfl, rfl, rfl, rfl⟩ := jgo_inv hx; exact ⟨List.mem_singleton.mpr rfl, ⟨[_], rfl, rfl⟩, fun _ _ q => q⟩)
  | arraylength =>
    cases he
    unfold pjx at hx; dsimp only at hx
    (repeat' split at hx) <;> first | (cases hx; done) | (obtain ⟨rfl, rfl, rfl, rfl⟩ := jgo_inv hx; exact ⟨List.mem_singleton.mpr rfl, ⟨[_], rfl, rfl⟩, fun _ _ q => q⟩)
  | newarray t =>
    cases he
    unfold pjx at hx; dsimp only at hx
    (repeat' split at hx) <;> first | (cases hx; done) | (obtain ⟨rfl, rfl, rfl, rfl⟩ := jgo_inv hx; exact ⟨List.mem_singleton.mpr rfl, ⟨[_], rfl, rfl⟩, fun _ _ q => q⟩)
  | new n =>
    cases he
    unfold pjx at hx; dsimp only at hx
    (repeat' split at hx) <;> first | (cases hx; done) | (obtain ⟨rfl, rfl, rfl, rfl⟩ := jgo_inv hx; exact ⟨List.mem_singleton.mpr rfl, ⟨[_], rfl, rfl⟩, fun _ _ q => q⟩)
  | dup =>
    cases he
    unfold pjx at hx; dsimp only at hx
    (repeat' split at hx) <;> first | (cases hx; done) | (obtain ⟨rfl, rfl, rfl, rfl⟩ := jgo_inv hx; exact ⟨List.mem_singleton.mpr rfl, ⟨[_], rfl, rfl⟩, fun _ _ q => q⟩)
  | ifCond cc off =>
    cases he
    unfold pjx at hx; dsimp only at hx
    (repeat' split at hx) <;> first | (cases hx; done) | (obtain ⟨rfl, rfl, rfl, rfl⟩ := jgo_inv hx; exact ⟨jbr_mem _ _ _ _ _, ⟨[], rfl, rfl⟩, fun _ _ q => q⟩)
  | if_icmp cc off =>
    cases he
    unfold pjx at hx; dsimp only at hx
    (repeat' split at hx) <;> first | (cases hx; done) | (obtain ⟨rfl, rfl, rfl, rfl⟩ := jgo_inv hx; exact ⟨jbr_mem _ _ _ _ _, ⟨[], rfl, rfl⟩, fun _ _ q => q⟩)
  | goto off =>
    cases he
    unfold pjx at hx; dsimp only at hx
    (repeat' split at hx) <;> first | (cases hx; done) | (obtain ⟨rfl, rfl, rfl, rfl⟩ := jgo_inv hx; exact ⟨List.mem_singleton.mpr rfl, ⟨[], rfl, rfl⟩, fun _ _ q => q⟩)
  | tableswitch d lo hi offs =>
    cases he
    unfold pjx at hx; dsimp only at hx
    split at hx
    · split at hx
      · cases hx
      · split at hx
        · obtain ⟨rfl, rfl, rfl, rfl⟩ := jgo_inv hx; exact ⟨List.mem_cons_self, ⟨[], rfl, rfl⟩, fun _ _ q => q⟩
        · split at hx
          · obtain ⟨rfl, rfl, rfl, rfl⟩ := jgo_inv hx; exact ⟨List.mem_cons_self, ⟨[], rfl, rfl⟩, fun _ _ q => q⟩
          · split at hx
            · rename_i off ho
              split at hx
              · cases hx
              · obtain ⟨rfl, rfl, rfl, rfl⟩ := jgo_inv hx
                exact ⟨List.mem_cons_of_mem _ (List.mem_map.mpr ⟨off, List.mem_of_getElem? ho, rfl⟩), ⟨[], rfl, rfl⟩, fun _ _ q => q⟩
            · cases hx
    · cases hx
  | iinc n d =>
    cases he
    unfold pjx at hx; dsimp only at hx
    (repeat' split at hx) <;> first | (cases hx; done) | (obtain ⟨rfl, rfl, rfl, rfl⟩ := jgo_inv hx; exact ⟨List.mem_singleton.mpr rfl, ⟨[], rfl, rfl⟩, fun hk q hq => jst1_1 (by have := of_decide_eq_true hk; omega) hq⟩)
  | ireturn =>
    unfold pjx at hx; dsimp only at hx
    (repeat' split at hx) <;> cases hx
  | _ => cases he
/-- the places but 0, 3, 7 and the calls -/
def jLg (pc : Nat) (i : Instr) : Bool := decide (8 ≤ pc) && jkp i && match jeff i with
  | some (a, b) => (jtl i pc).all fun q => jLc q && decide (8 ≤ q) && ((jlk q).all fun k => (decide (b ≤ k) && (jlk pc).contains (k + a - b)) || (decide (k = 0) && match i with | .aload_n n => decide (n.val = 1) | _ => false)) && (jli q).all fun k => (decide (b ≤ k) && (jli pc).contains (k + a - b)) || (decide (k = 0) && match i with | .iaload => true | _ => false)
  | none => false
def jLcall (pc : Nat) : Instr → Bool
  | .invokevirtual _ => decide (8 ≤ pc) && jLc (pc + 3) && (jlk (pc + 3)).isEmpty && (jli (pc + 3)).isEmpty
  | .invokestatic n => decide (8 ≤ pc) && jLc (pc + 3) && (jlk (pc + 3)).isEmpty && (jli (pc + 3)).isEmpty && (match jlk pc, pml 13 n with | [k], some (kd, _) => decide (k = if kd = 20 then 2 else 3) && (jli pc).contains 1 && (decide (kd = 20) || (jli pc).contains 2) | _, _ => false)
  | .invokespecial _ => (decide (pc = 12)) && jLc (pc + 3) && (jlk (pc + 3)).isEmpty && (jli (pc + 3)).isEmpty
  | _ => false
def jLf (pc : Nat) : Bool := !(jLc pc) || (pc == 0 || pc == 3 || pc == 4 || pc == 7 || match decode (pby 297) pc with | .ok (i, _) => jLg pc i || jLcall pc i | _ => true)
set_option maxRecDepth 100000 in
theorem jL_ok0 : ((List.range' 0 100).all jLf) = true := by decide +kernel
set_option maxRecDepth 100000 in
theorem jL_ok1 : ((List.range' 100 100).all jLf) = true := by decide +kernel
set_option maxRecDepth 100000 in
theorem jL_ok2 : ((List.range' 200 100).all jLf) = true := by decide +kernel
set_option maxRecDepth 100000 in
theorem jL_ok3 : ((List.range' 300 100).all jLf) = true := by decide +kernel
set_option maxRecDepth 100000 in
theorem jL_ok4 : ((List.range' 400 100).all jLf) = true := by decide +kernel
set_option maxRecDepth 100000 in
theorem jL_ok5 : ((List.range' 500 100).all jLf) = true := by decide +kernel
set_option maxRecDepth 100000 in
theorem jL_ok6 : ((List.range' 600 100).all jLf) = true := by decide +kernel
set_option maxRecDepth 100000 in
theorem jL_ok7 : ((List.range' 700 100).all jLf) = true := by decide +kernel
set_option maxRecDepth 100000 in
theorem jL_ok8 : ((List.range' 800 100).all jLf) = true := by decide +kernel
set_option maxRecDepth 100000 in
theorem jL_ok9 : ((List.range' 900 100).all jLf) = true := by decide +kernel
set_option maxRecDepth 100000 in
theorem jL_ok10 : ((List.range' 1000 100).all jLf) = true := by decide +kernel
set_option maxRecDepth 100000 in
theorem jL_ok11 : ((List.range' 1100 100).all jLf) = true := by decide +kernel
set_option maxRecDepth 100000 in
theorem jL_ok12 : ((List.range' 1200 100).all jLf) = true := by decide +kernel
set_option maxRecDepth 100000 in
theorem jL_ok13 : ((List.range' 1300 100).all jLf) = true := by decide +kernel
set_option maxRecDepth 100000 in
theorem jL_ok14 : ((List.range' 1400 100).all jLf) = true := by decide +kernel
set_option maxRecDepth 100000 in
theorem jL_ok15 : ((List.range' 1500 100).all jLf) = true := by decide +kernel
theorem jL_ok {pc : Nat} (h : jLc pc = true) : (pc == 0 || pc == 3 || pc == 4 || pc == 7 || match decode (pby 297) pc with | .ok (i, _) => jLg pc i || jLcall pc i | _ => true) = true := by
  have hl : pc < 1557 := by
    unfold jLc at h
    simp only [Bool.and_eq_true, decide_eq_true_eq] at h
    exact h.1
  have hf : jLf pc = true := by
    have go : ∀ s : Nat, ((List.range' s 100).all jLf) = true → s ≤ pc → pc < s + 100 → jLf pc = true := fun s hs h1 h2 => List.all_eq_true.mp hs pc (List.mem_range'_1.mpr ⟨h1, h2⟩)
    by_cases h0 : pc < 100
    · exact go 0 jL_ok0 (by omega) (by omega)
    by_cases h1 : pc < 200
    · exact go 100 jL_ok1 (by omega) (by omega)
    by_cases h2 : pc < 300
    · exact go 200 jL_ok2 (by omega) (by omega)
    by_cases h3 : pc < 400
    · exact go 300 jL_ok3 (by omega) (by omega)
    by_cases h4 : pc < 500
    · exact go 400 jL_ok4 (by omega) (by omega)
    by_cases h5 : pc < 600
    · exact go 500 jL_ok5 (by omega) (by omega)
    by_cases h6 : pc < 700
    · exact go 600 jL_ok6 (by omega) (by omega)
    by_cases h7 : pc < 800
    · exact go 700 jL_ok7 (by omega) (by omega)
    by_cases h8 : pc < 900
    · exact go 800 jL_ok8 (by omega) (by omega)
    by_cases h9 : pc < 1000
    · exact go 900 jL_ok9 (by omega) (by omega)
    by_cases h10 : pc < 1100
    · exact go 1000 jL_ok10 (by omega) (by omega)
    by_cases h11 : pc < 1200
    · exact go 1100 jL_ok11 (by omega) (by omega)
    by_cases h12 : pc < 1300
    · exact go 1200 jL_ok12 (by omega) (by omega)
    by_cases h13 : pc < 1400
    · exact go 1300 jL_ok13 (by omega) (by omega)
    by_cases h14 : pc < 1500
    · exact go 1400 jL_ok14 (by omega) (by omega)
    by_cases h15 : pc < 1600
    · exact go 1500 jL_ok15 (by omega) (by omega)
    omega
  unfold jLf at hf
  rw [h] at hf
  simpa using hf
set_option maxRecDepth 100000 in
theorem jL_ml : ((pj_ml 13).all fun t => t.2.1 == 0 || t.2.1 == 2 || t.2.1 == 20 || t.2.1 == 21 || t.2.1 == 22) = true := by decide +kernel
theorem jL_0 : decode (pby 297) 0 = .ok (.new 8, 3) ∧ decode (pby 297) 3 = .ok (.dup, 1) ∧ decode (pby 297) 4 = .ok (.invokespecial 22, 3) ∧ decode (pby 297) 7 = .ok (.astore_n 1, 1) ∧ pkl 13 8 = some 11 ∧ pml 13 22 = some (2, 0) ∧ pna 0 = 1 ∧ prt 0 = none ∧ poc 297 = 13 := by decide +kernel
def jLP (pc : Nat) (ls : List (Option jv)) (st : List jv) (h : jh) : Prop := jLc pc = true ∧ (pc = 0 ∨ ∃ b, gK h b = some (0, 11) ∧ (8 ≤ pc → ls.getD 1 none = some (.inr (.inr (some b)))) ∧ (∀ k ∈ jlk pc, st[k]? = some (.inr (.inr (some b)))) ∧ ∀ k ∈ jli pc, ∃ x, st[k]? = some (.inl x))
theorem jcall_small {kd y2 : Nat} (hx : jcall kd y2 pc ls st h = some (.inl (pc', ls', st', h'))) : 10 ≤ kd ∧ kd ≤ 15 := by
  unfold jcall at hx
  split at hx
  all_goals first | exact ⟨by decide, by decide⟩ | ((repeat' split at hx) <;> first | (cases hx; done) | exact jcl_no hx | exact jclt_no hx)
theorem jcall_2 {t yy y2 : Nat} {av rs : List jv} (hx : jcall 2 yy pc ls st h = some (.inr (.inl (t, y2, av, rs)))) : t = 0 ∧ y2 = yy ∧ rs = st.drop (pna yy) := by
  replace hx : (if pna yy ≤ st.length then (match (st.take (pna yy)).reverse with
    | .inr (.inr (some c)) :: av => jcl 0 yy (.inr (.inr (some c)) :: av) (st.drop (pna yy))
    | _ => none) else none) = some (.inr (.inl (t, y2, av, rs))) := hx
  split at hx
  · split at hx
    · unfold jcl at hx
      split at hx
      · cases hx; exact ⟨rfl, rfl, rfl⟩
      · cases hx
    · cases hx
  · cases hx
theorem gK_pre {h h' : jh} {b : Nat} {q : Nat × Nat} (p : jpre h h') (hk : gK h b = some q) : gK h' b = some q := by
  obtain ⟨t, e⟩ := p
  unfold gK at hk ⊢
  rw [e, List.getElem?_append_left (List.getElem?_eq_some_iff.mp hk).1]; exact hk
theorem jL_step {i : Instr} {len : Nat} (hP : jLP pc ls st h) (hd : decode (pby 297) pc = .ok (i, len)) (hx : pjx 297 i pc ls st h = some (.inl (pc', ls', st', h'))) : jLP pc' ls' st' h' := by
  obtain ⟨e0, e3, e4, e7, ek, em, en, er, eo⟩ := jL_0
  have hpre := pjx_pre hx
  obtain ⟨hm, hP⟩ := hP
  have h1 := jL_ok hm
  simp only [Bool.or_eq_true, beq_iff_eq] at h1
  rcases h1 with (((h1 | h1) | h1) | h1) | h1
  · subst h1
    rw [e0] at hd; cases hd
    replace hx : (match pkl (poc 297) 8 with | some ci => if ci < 13 then jgo (0 + 3) ls (.inr (.inr (some h.1.length)) :: st) (nC h (0, ci)) else if ci = 14 then some (.inr (.inr (1, none))) else none | none => none) = some (.inl (pc', ls', st', h')) := hx
    rw [eo, ek] at hx
    obtain ⟨rfl, rfl, rfl, rfl⟩ := jgo_inv (show jgo (0 + 3) ls (.inr (.inr (some h.1.length)) :: st) (nC h (0, 11)) = _ from hx)
    refine ⟨by decide, Or.inr ⟨h.1.length, ?_, fun q => absurd q (by decide), fun k hk => ?_, fun k hk => absurd hk List.not_mem_nil⟩⟩
    · show (h.1 ++ [(0, 11)])[h.1.length]? = _
      rw [List.getElem?_append_right (Nat.le_refl _), Nat.sub_self]; rfl
    · obtain rfl := List.mem_singleton.mp hk; rfl
  · subst h1
    rw [e3] at hd; cases hd
    obtain ⟨b, g1, -, g3, -⟩ := hP.resolve_left (by decide)
    have g4 := g3 0 (List.mem_singleton.mpr rfl)
    unfold pjx at hx; dsimp only at hx
    (repeat' split at hx) <;> first | (cases hx; done) | (
      obtain ⟨rfl, rfl, rfl, rfl⟩ := jgo_inv hx
      refine ⟨by decide, Or.inr ⟨b, gK_pre hpre g1, fun q => absurd q (by decide), fun k hk => ?_, fun k hk => absurd hk List.not_mem_nil⟩⟩
      have hk2 : k = 0 ∨ k = 1 := by
        rcases List.mem_cons.mp hk with e | e
        · exact Or.inl e
        · exact Or.inr (List.mem_singleton.mp e)
      rcases hk2 with rfl | rfl <;> exact g4)
  · subst h1
    rw [e4] at hd; cases hd
    replace hx : (match pml (poc 297) 22 with | some (kd, y2) => if jkI kd = true then jcall kd y2 4 ls st h else none | none => none) = some (.inl (pc', ls', st', h')) := hx
    rw [eo, em] at hx
    replace hx : jcall 2 0 4 ls st h = some (.inl (pc', ls', st', h')) := hx
    have := jcall_small hx
    omega
  · subst h1
    rw [e7] at hd; cases hd
    obtain ⟨b, g1, -, g3, -⟩ := hP.resolve_left (by decide)
    have g4 := g3 0 (List.mem_singleton.mpr rfl)
    obtain ⟨x, r, rfl, hn, rfl, rfl, rfl, rfl⟩ := jstor3_inv (show jstor3 ls 1 7 1 st h = _ from hx)
    refine ⟨by decide, Or.inr ⟨b, g1, fun _ => ?_, fun k hk => absurd hk List.not_mem_nil, fun k hk => absurd hk List.not_mem_nil⟩⟩
    have e : x = some b := by simpa using g4
    subst e
    unfold jst1
    rw [getD_set _ _ _ _ (by rw [jcut_len]; exact hn), if_pos rfl]
  · rw [hd] at h1
    simp only [Bool.or_eq_true] at h1
    rcases h1 with h1 | h1
    · unfold jLg at h1
      simp only [Bool.and_eq_true, decide_eq_true_eq] at h1
      obtain ⟨⟨h8, hkp⟩, h1⟩ := h1
      obtain ⟨b, g1, g2, g3, g9⟩ := hP.resolve_left (by omega)
      split at h1
      · rename_i a c he
        obtain ⟨k1, ⟨l, k2, k3⟩, k4⟩ := jeff_step hx he
        have h2 := List.all_eq_true.mp h1 _ k1
        simp only [Bool.and_eq_true, decide_eq_true_eq, List.contains_iff_mem] at h2
        obtain ⟨⟨⟨m1, m2⟩, m3⟩, m4⟩ := h2
        refine ⟨m1, Or.inr ⟨b, gK_pre hpre g1, fun _ => k4 hkp b (g2 h8), fun k hk => ?_, fun k hk => ?_⟩⟩
        · have h3 := List.all_eq_true.mp m3 k hk
          simp only [Bool.or_eq_true, Bool.and_eq_true, decide_eq_true_eq, List.contains_iff_mem] at h3
          rcases h3 with ⟨n1, n2⟩ | ⟨n1, n2⟩
          · have h4 := g3 _ n2
            rw [k3, List.getElem?_append_right (by omega), List.getElem?_drop, k2, show a + (k - c) = k + a - c by omega]
            exact h4
          · subst n1
            split at n2
            · rename_i n
              have hn : n.val = 1 := of_decide_eq_true n2
              obtain ⟨x, hv, rfl, rfl, rfl, rfl⟩ := jload3_inv (show jload3 ls n.val pc 1 st h = _ from hx)
              rw [hn, g2 h8] at hv
              have e : x = some b := by
                have := Option.some.inj hv
                cases this; rfl
              subst e; rfl
            · cases n2
        · have h3 := List.all_eq_true.mp m4 k hk
          simp only [Bool.or_eq_true, Bool.and_eq_true, decide_eq_true_eq, List.contains_iff_mem] at h3
          rcases h3 with ⟨n1, n2⟩ | ⟨n1, n2⟩
          · obtain ⟨x, h4⟩ := g9 _ n2
            refine ⟨x, ?_⟩
            rw [k3, List.getElem?_append_right (by omega), List.getElem?_drop, k2, show a + (k - c) = k + a - c by omega]
            exact h4
          · subst n1
            split at n2
            · unfold pjx at hx; dsimp only at hx
              (repeat' split at hx) <;> first | (cases hx; done) | (obtain ⟨-, -, hst', -⟩ := jgo_inv hx; exact ⟨_, by rw [hst']; rfl⟩)
            · cases n2
      · cases h1
    · obtain ⟨k, kd, yy, hk, hc⟩ : ∃ k kd yy, pml (poc 297) k = some (kd, yy) ∧ jcall kd yy pc ls st h = some (.inl (pc', ls', st', h')) := by
        unfold jLcall at h1
        split at h1
        · rename_i k
          replace hx : (match pml (poc 297) k with | some (kd, y2) => if jkV kd = true then jcall kd y2 pc ls st h else none | none => none) = some (.inl (pc', ls', st', h')) := hx
          split at hx
          · rename_i kd y2 hk; split at hx
            · exact ⟨k, kd, y2, hk, hx⟩
            · cases hx
          · cases hx
        · rename_i k
          replace hx : (match pml (poc 297) k with | some (kd, y2) => if jkS kd = true then jcall kd y2 pc ls st h else none | none => none) = some (.inl (pc', ls', st', h')) := hx
          split at hx
          · rename_i kd y2 hk; split at hx
            · exact ⟨k, kd, y2, hk, hx⟩
            · cases hx
          · cases hx
        · rename_i k
          replace hx : (match pml (poc 297) k with | some (kd, y2) => if jkI kd = true then jcall kd y2 pc ls st h else none | none => none) = some (.inl (pc', ls', st', h')) := hx
          split at hx
          · rename_i kd y2 hk; split at hx
            · exact ⟨k, kd, y2, hk, hx⟩
            · cases hx
          · cases hx
        · cases h1
      obtain ⟨-, hmm⟩ := pml_ok hk
      rw [eo] at hmm
      have h9 := List.all_eq_true.mp jL_ml _ hmm
      simp only [Bool.or_eq_true, beq_iff_eq] at h9
      have h8 := jcall_small hc
      omega
theorem prun_end : ∀ (n d y pc : Nat) (ls : List (Option jv)) (st : List jv) (h : jh) (o : Nat × Option jv) (h' : jh), prun n d y pc ls st h = some (o, h') → ∃ pcE lsE stE, jend y o pcE lsE stE h'
  | 0, _, _, _, _, _, _, _, _, hx => by cases hx
  | n + 1, d, y, pc, ls, st, h, o, h', hx => by
    have ih := prun_end n
    unfold prun at hx
    split at hx
    · rename_i i len hd
      split at hx
      · cases hx
      rename_i hl
      split at hx
      · exact ih _ _ _ _ _ _ _ _ hx
      · split at hx
        · cases hx
        · split at hx
          · exact ih _ _ _ _ _ _ _ _ hx
          · cases hx
      · split at hx
        · split at hx
          · split at hx
            · exact ih _ _ _ _ _ _ _ _ hx
            · cases hx
          · exact ih _ _ _ _ _ _ _ _ hx
          · cases hx
        · cases hx
      · rename_i r hr
        cases hx
        exact ⟨pc, ls, st, i, len, hd, by simpa using hl, hr⟩
      · cases hx
    · cases hx
theorem prun_void {n d y pc : Nat} {r : Option jv} (hp : prt y = none) (hx : prun n d y pc ls st h = some ((0, r), h')) : r = none := by
  obtain ⟨pcE, lsE, stE, i, len, -, -, hr⟩ := prun_end _ _ _ _ _ _ _ _ _ hx
  rcases pjx_ret hr with ⟨-, x, -, e, q⟩ | ⟨-, x, -, e, q⟩ | ⟨-, x, -, e, q⟩ | ⟨-, -, e, -⟩ | ⟨k, -, e⟩
  · rw [hp] at q; rcases q with q | ⟨q, -⟩ <;> cases q
  · rw [hp] at q; cases q
  · rw [hp] at q; rcases q with ⟨_, q⟩ | ⟨_, q⟩ <;> cases q
  · cases e; rfl
  · cases e
/-- behind a call; where a try call stands -/
theorem jL_call {i : Instr} {len t y2 n d : Nat} {av rs : List jv} {h1 : jh} (hP : jLP pc ls st h) (hd : decode (pby 297) pc = .ok (i, len)) (hx : pjx 297 i pc ls st h = some (.inr (.inl (t, y2, av, rs)))) (hpre : jpre h h1) :
    (∀ r : Option jv, (t = 0 → prun n d y2 0 (jent (pmL y2) av) [] h = some ((0, r), h1)) → (t ≠ 0 → True) → jLP (pc + 3) ls (r.toList ++ rs) h1) ∧ (t ≠ 0 → ∃ b, gK h b = some (0, 11) ∧ ((∃ i w, av = [.inr (.inr (some b)), .inl i, w]) ∨ ∃ i j w, av = [.inr (.inr (some b)), .inl i, .inl j, w])) := by
  obtain ⟨e0, e3, e4, e7, ek, em, en, er, eo⟩ := jL_0
  obtain ⟨hm, hP⟩ := hP
  have h1' := jL_ok hm
  simp only [Bool.or_eq_true, beq_iff_eq] at h1'
  have main : ∀ (_ : 8 ≤ pc) (_ : jLc (pc + 3) = true) (_ : jlk (pc + 3) = []) (_ : jli (pc + 3) = []), ∀ r : Option jv, jLP (pc + 3) ls (r.toList ++ rs) h1 := fun h8 q1 q2 q3 r => by
    obtain ⟨b, g1, g2, -, -⟩ := hP.resolve_left (by omega)
    exact ⟨q1, Or.inr ⟨b, gK_pre hpre g1, fun _ => g2 h8, fun k hk => by (rw [q2] at hk; exact absurd hk List.not_mem_nil), fun k hk => by (rw [q3] at hk; exact absurd hk List.not_mem_nil)⟩⟩
  obtain ⟨k0, kd, yy, hk, hc, hi⟩ := pjx_call hx
  rw [eo] at hk
  rcases h1' with (((h1' | h1') | h1') | h1') | h1'
  · subst h1'
    rw [e0] at hd; cases hd
    rcases hi with ⟨-, q⟩ | ⟨-, q⟩ | ⟨-, q⟩ <;> cases q
  · subst h1'
    rw [e3] at hd; cases hd
    rcases hi with ⟨-, q⟩ | ⟨-, q⟩ | ⟨-, q⟩ <;> cases q
  · subst h1'
    rw [e4] at hd; cases hd
    rcases hi with ⟨-, q⟩ | ⟨-, q⟩ | ⟨-, q⟩ <;> cases q
    rw [em] at hk; cases hk
    obtain ⟨b, g1, -, g3, -⟩ := hP.resolve_left (by decide)
    have g5 := g3 1 (List.mem_cons_of_mem _ (List.mem_singleton.mpr rfl))
    have ht : t = 0 ∧ y2 = 0 ∧ rs = st.drop 1 := by
      have h9 := jcall_2 hc
      rw [en] at h9
      exact h9
    obtain ⟨rfl, rfl, rfl⟩ := ht
    refine ⟨fun r hr _ => ?_, fun q => absurd rfl q⟩
    obtain rfl := prun_void er (hr rfl)
    refine ⟨by decide, Or.inr ⟨b, gK_pre hpre g1, fun q => absurd q (by decide), fun k hk => ?_, fun k hk => absurd hk List.not_mem_nil⟩⟩
    obtain rfl := List.mem_singleton.mp hk
    show (st.drop 1)[0]? = _
    rw [List.getElem?_drop]; exact g5
  · subst h1'
    rw [e7] at hd; cases hd
    rcases hi with ⟨-, q⟩ | ⟨-, q⟩ | ⟨-, q⟩ <;> cases q
  · rw [hd] at h1'
    simp only [Bool.or_eq_true] at h1'
    have hcall : jLcall pc i = true := by
      rcases h1' with h2 | h2
      · exfalso
        unfold jLg at h2
        rcases hi with ⟨-, rfl⟩ | ⟨-, rfl⟩ | ⟨-, rfl⟩ <;> simp [jeff] at h2
      · exact h2
    rcases hi with ⟨hv, rfl⟩ | ⟨hv, rfl⟩ | ⟨hv, rfl⟩
    · simp only [jLcall, Bool.and_eq_true, decide_eq_true_eq, List.contains_iff_mem, List.isEmpty_iff] at hcall
      refine ⟨fun r _ _ => main hcall.1.1.1 hcall.1.1.2 hcall.1.2 hcall.2 r, fun ht => ?_⟩
      obtain ⟨-, hkd, -⟩ := jcall_try ht hc
      rcases hkd with rfl | rfl | rfl <;> cases hv
    · simp only [jLcall, Bool.and_eq_true, decide_eq_true_eq, List.contains_iff_mem, List.isEmpty_iff] at hcall
      obtain ⟨⟨⟨⟨c1, c2⟩, c3⟩, c3b⟩, c4⟩ := hcall
      refine ⟨fun r _ _ => main c1 c2 c3 c3b r, fun ht => ?_⟩
      obtain ⟨-, hkd, hst, hal, -⟩ := jcall_try ht hc
      obtain ⟨b, g1, -, g3, g9⟩ := hP.resolve_left (by omega)
      split at c4
      · rename_i k kd2 yy2 hke hk2
        have g4 := g3 k (by rw [hke]; exact List.mem_singleton.mpr rfl)
        have ek2 : kd2 = kd := by
          rw [hk] at hk2; cases hk2; rfl
        subst ek2
        simp only [Bool.and_eq_true, Bool.or_eq_true, decide_eq_true_eq, List.contains_iff_mem] at c4
        obtain ⟨⟨c5, c6⟩, c7⟩ := c4
        refine ⟨b, g1, ?_⟩
        obtain ⟨x, hx1⟩ := g9 1 c6
        by_cases h20 : kd2 = 20
        · rw [if_pos h20] at c5 hal
          subst c5
          match av, hal, hst with
          | [u0, u1, u2], _, hst =>
            subst hst
            cases g4; cases hx1
            exact Or.inl ⟨x, u2, rfl⟩
        · rw [if_neg h20] at c5 hal
          subst c5
          obtain ⟨x2, hx2⟩ := g9 2 (c7.resolve_left h20)
          match av, hal, hst with
          | [u0, u1, u2, u3], _, hst =>
            subst hst
            cases g4; cases hx1; cases hx2
            exact Or.inr ⟨x2, x, u3, rfl⟩
      · cases c4
    · simp only [jLcall, Bool.and_eq_true, decide_eq_true_eq, List.contains_iff_mem, List.isEmpty_iff] at hcall
      refine ⟨fun r _ _ => main (by omega) hcall.1.1.2 hcall.1.2 hcall.2 r, fun ht => ?_⟩
      obtain ⟨-, hkd, -⟩ := jcall_try ht hc
      rcases hkd with rfl | rfl | rfl <;> cases hv
end LINV
