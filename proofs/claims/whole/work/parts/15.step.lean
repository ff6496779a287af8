/-! A STEP, WHICHEVER; the small heap grows alone -/
section JU
variable {G : jg} {y : Nat} {p : Program} {l : Launch} {e : Env} {R : Room} {s : State} {m : MethodId} {args : Array Value} {below : List Frame} {meth : Method} {c : Code} {Q : State → Prop} {hE : jh} {cE sE : Nat} {pc len : Nat} {ls : List (Option jv)} {st : List jv} {h : jh}
variable {pc' : Nat} {ls' : List (Option jv)} {st' : List jv} {h' : jh}
theorem jpre_rfl (h : jh) : jpre h h := ⟨[], by rw [List.append_nil]⟩
theorem jpre_of {h h' : jh} (q : h'.1 = h.1) : jpre h h' := ⟨[], by rw [List.append_nil]; exact q⟩
theorem jpre_nC (h : jh) (k : Nat × Nat) : jpre h (nC h k) := ⟨[k], rfl⟩
theorem jpre_tr {a b d : jh} (q : jpre a b) (r : jpre b d) : jpre a d := by
  obtain ⟨t, e⟩ := q; obtain ⟨u, f⟩ := r
  exact ⟨t ++ u, by rw [f, e, List.append_assoc]⟩
theorem jpre_rows : ∀ (k o i n : Nat) (h : jh), jpre h (nRows k o i n h)
  | 0, _, _, _, h => jpre_rfl h
  | k + 1, o, i, n, h => jpre_tr (jpre_tr (jpre_nC h (1, n)) (jpre_of rfl)) (jpre_rows k o (i + 1) n _)
theorem jgo_pre {h0 : jh} {a : Nat} {b : List (Option jv)} {d : List jv} {f : jh} (hx : jgo a b d f = some (.inl (pc', ls', st', h'))) (q : jpre h0 f) : jpre h0 h' := by
  obtain ⟨-, -, -, rfl⟩ := jgo_inv hx; exact q
theorem jload1_pre {n k : Nat} (hx : jload1 ls n pc k st h = some (.inl (pc', ls', st', h'))) : jpre h h' := by
  obtain ⟨_, _, -, -, -, rfl⟩ := jload1_inv hx; exact jpre_rfl _
theorem jload2_pre {n k : Nat} (hx : jload2 ls n pc k st h = some (.inl (pc', ls', st', h'))) : jpre h h' := by
  obtain ⟨_, _, -, -, -, rfl⟩ := jload2_inv hx; exact jpre_rfl _
theorem jload3_pre {n k : Nat} (hx : jload3 ls n pc k st h = some (.inl (pc', ls', st', h'))) : jpre h h' := by
  obtain ⟨_, _, -, -, -, rfl⟩ := jload3_inv hx; exact jpre_rfl _
theorem jstor1_pre {n k : Nat} (hx : jstor1 ls n pc k st h = some (.inl (pc', ls', st', h'))) : jpre h h' := by
  obtain ⟨_, _, _, _, -, -, -, rfl⟩ := jstor1_inv hx; exact jpre_rfl _
theorem jstor2_pre {n k : Nat} (hx : jstor2 ls n pc k st h = some (.inl (pc', ls', st', h'))) : jpre h h' := by
  obtain ⟨_, _, _, _, -, -, -, rfl⟩ := jstor2_inv hx; exact jpre_rfl _
theorem jstor3_pre {n k : Nat} (hx : jstor3 ls n pc k st h = some (.inl (pc', ls', st', h'))) : jpre h h' := by
  obtain ⟨_, _, _, _, -, -, -, rfl⟩ := jstor3_inv hx; exact jpre_rfl _
theorem jbin_pre {f : Int → Int → Int} (hx : jbin f pc ls st h = some (.inl (pc', ls', st', h'))) : jpre h h' := by
  obtain ⟨_, _, _, _, -, -, -, rfl⟩ := jbin_inv hx; exact jpre_rfl _
theorem jbin2_pre {f : Int → Int → Int} (hx : jbin2 f pc ls st h = some (.inl (pc', ls', st', h'))) : jpre h h' := by
  obtain ⟨_, _, _, _, -, -, -, rfl⟩ := jbin2_inv hx; exact jpre_rfl _
theorem jcl_no {t y2 : Nat} {av rs : List jv} {P : Prop} (hx : jcl t y2 av rs = some (.inl (pc', ls', st', h'))) : P := by
  unfold jcl at hx; split at hx <;> cases hx
theorem jclt_no {y2 : Nat} {av rs : List jv} {P : Prop} (hx : jclt y2 av rs = some (.inl (pc', ls', st', h'))) : P := by
  unfold jclt at hx; split at hx <;> cases hx
theorem jcall_pre {kd y2 : Nat} (hx : jcall kd y2 pc ls st h = some (.inl (pc', ls', st', h'))) : jpre h h' := by
  unfold jcall at hx
  (repeat' split at hx) <;> first | (cases hx; done) | exact jgo_pre hx (jpre_rfl _) | exact jcl_no hx | exact jclt_no hx
set_option maxHeartbeats 4000000 in
theorem pjx_pre {i : Instr} (hx : pjx y i pc ls st h = some (.inl (pc', ls', st', h'))) : jpre h h' := by
  unfold pjx at hx
  (repeat' split at hx) <;> first | (cases hx; done) | exact jgo_pre hx (jpre_rfl _) | exact jload1_pre hx | exact jload2_pre hx | exact jload3_pre hx | exact jstor1_pre hx | exact jstor2_pre hx | exact jstor3_pre hx | exact jbin_pre hx | exact jbin2_pre hx | exact jcall_pre hx | exact jgo_pre hx (jpre_of rfl) | exact jgo_pre hx (jpre_nC _ _) | exact jgo_pre hx (jpre_tr (jpre_nC _ _) (jpre_rows _ _ _ _ _))
theorem prun_pre : ∀ (n d y pc : Nat) (ls : List (Option jv)) (st : List jv) (h : jh) (o : Nat × Option jv) (h' : jh), prun n d y pc ls st h = some (o, h') → jpre h h'
  | 0, _, _, _, _, _, _, _, _, hx => by cases hx
  | n + 1, d, y, pc, ls, st, h, o, h', hx => by
    have ih := prun_pre n
    unfold prun at hx
    split at hx
    · split at hx
      · cases hx
      split at hx
      · rename_i q; exact jpre_tr (pjx_pre q) (ih _ _ _ _ _ _ _ _ hx)
      · split at hx
        · cases hx
        · split at hx
          · rename_i q; exact jpre_tr (ih _ _ _ _ _ _ _ _ q) (ih _ _ _ _ _ _ _ _ hx)
          · cases hx
      · split at hx
        · split at hx
          · rename_i q; split at hx
            · exact jpre_tr (ih _ _ _ _ _ _ _ _ q) (jpre_tr (jpre_of (h := _) (h' := wL _ _ _ _) rfl) (ih _ _ _ _ _ _ _ _ hx))
            · cases hx
          · rename_i q; exact jpre_tr (ih _ _ _ _ _ _ _ _ q) (jpre_tr (jpre_nC _ _) (ih _ _ _ _ _ _ _ _ hx))
          · cases hx
        · cases hx
      · cases hx; exact jpre_rfl _
      · cases hx
    · cases hx
theorem jnat (F : jF G y p s m args meth c) (hT : jHstr G) (hroom : 20 ≤ R.frames ∧ 5000 ≤ R.locals) (hR : jroom R hE cE sE) {n kd y2 : Nat} (hk : pml (poc y) n = some (kd, y2)) (hp : jpre h' hE)
    (hi : (jkV kd = true ∧ decode (pby y) pc = .ok (.invokevirtual n, 3)) ∨ (jkS kd = true ∧ decode (pby y) pc = .ok (.invokestatic n, 3)) ∨ (jkI kd = true ∧ decode (pby y) pc = .ok (.invokespecial n, 3)))
    (hx : jcall kd y2 pc ls st h = some (.inl (pc', ls', st', h'))) (k : jG G y p l e R s m args below meth c Q hE cE sE pc' ls' st' h') : jG G y p l e R s m args below meth c Q hE cE sE pc ls st h := by
  have hV : kd = 12 ∨ kd = 13 ∨ kd = 14 → decode (pby y) pc = .ok (.invokevirtual n, 3) := fun q => by
    rcases hi with ⟨-, a⟩ | ⟨a, -⟩ | ⟨a, -⟩
    · exact a
    · rcases q with rfl | rfl | rfl <;> cases a
    · rcases q with rfl | rfl | rfl <;> cases a
  have hS : kd = 10 ∨ kd = 11 → decode (pby y) pc = .ok (.invokestatic n, 3) := fun q => by
    rcases hi with ⟨a, -⟩ | ⟨-, a⟩ | ⟨a, -⟩
    · rcases q with rfl | rfl <;> cases a
    · exact a
    · rcases q with rfl | rfl <;> cases a
  have hI : kd = 15 → decode (pby y) pc = .ok (.invokespecial n, 3) := fun q => by
    rcases hi with ⟨a, -⟩ | ⟨a, -⟩ | ⟨-, a⟩
    · subst q; cases a
    · subst q; cases a
    · exact a
  unfold jcall at hx
  split at hx
  · split at hx
    · split at hx
      · rename_i hw; obtain ⟨rfl, rfl, rfl, rfl⟩ := jgo_inv hx; exact js_max F hk hw ⟨by omega, by omega⟩ (hS (Or.inl rfl)) hR hp k
      · cases hx
    · cases hx
  · split at hx
    · split at hx
      · rename_i hw; obtain ⟨rfl, rfl, rfl, rfl⟩ := jgo_inv hx; exact js_min F hk hw ⟨by omega, by omega⟩ (hS (Or.inr rfl)) hR hp k
      · cases hx
    · cases hx
  · split at hx
    · split at hx
      · rename_i hw; obtain ⟨rfl, hw⟩ := hw; obtain ⟨rfl, rfl, rfl, rfl⟩ := jgo_inv hx
        exact hT _ _ _ _ _ _ _ _ _ _ _ _ _ _ _ _ _ _ _ _ F hroom hR hp (Or.inr (Or.inr (Or.inl ⟨_, _, hw, hk, rfl, hV (Or.inl rfl), k⟩)))
      · cases hx
    · cases hx
  · split at hx
    · split at hx
      · rename_i hw; obtain ⟨⟨rfl, hw⟩, hi0⟩ := hw; obtain ⟨rfl, rfl, rfl, rfl⟩ := jgo_inv hx
        exact hT _ _ _ _ _ _ _ _ _ _ _ _ _ _ _ _ _ _ _ _ F hroom hR hp (Or.inr (Or.inr (Or.inr (Or.inl ⟨_, _, _, hw, hk, rfl, hi0, hV (Or.inr (Or.inl rfl)), k⟩))))
      · cases hx
    · cases hx
  · split at hx
    · split at hx
      · rename_i hw; obtain ⟨⟨rfl, hw⟩, hi0⟩ := hw; obtain ⟨rfl, rfl, rfl, rfl⟩ := jgo_inv hx
        exact hT _ _ _ _ _ _ _ _ _ _ _ _ _ _ _ _ _ _ _ _ F hroom hR hp (Or.inr (Or.inr (Or.inr (Or.inr ⟨_, _, _, hw, hk, rfl, hi0, hV (Or.inr (Or.inr rfl)), k⟩))))
      · cases hx
    · cases hx
  · split at hx
    · split at hx
      · rename_i hw; obtain ⟨rfl, rfl, rfl, rfl⟩ := jgo_inv hx; exact js_obj F hk hw ⟨by omega, by omega⟩ (hI rfl) k
      · cases hx
    · cases hx
  all_goals (repeat' split at hx) <;> first | (cases hx; done) | exact jcl_no hx | exact jclt_no hx
theorem jone {n : Nat} {i : Instr} (h1 : jlen i len = true) (h2 : ∀ q, jlen i q = (q == n)) : len = n := by
  rw [h2] at h1; simpa using h1
set_option maxHeartbeats 4000000 in
theorem jstep (hM : jHmul G) (hT : jHstr G) (F : jF G y p s m args meth c) (hroom : 20 ≤ R.frames ∧ 5000 ≤ R.locals) (hR : jroom R hE cE sE) (i : Instr) (hd : decode (pby y) pc = .ok (i, len)) (hl : jlen i len = true) (hx : pjx y i pc ls st h = some (.inl (pc', ls', st', h'))) (hp : jpre h' hE)
    (k : jG G y p l e R s m args below meth c Q hE cE sE pc' ls' st' h') : jG G y p l e R s m args below meth c Q hE cE sE pc ls st h := by
  cases i with
  | iconst n => obtain rfl := jone (n := 1) hl (fun _ => rfl); exact jt_iconst F hx hd k
  | bipush n => obtain rfl := jone (n := 2) hl (fun _ => rfl); exact jt_bipush F hx hd k
  | sipush n => obtain rfl := jone (n := 3) hl (fun _ => rfl); exact jt_sipush F hx hd k
  | lconst n => obtain rfl := jone (n := 1) hl (fun _ => rfl); exact jt_lconst F hx hd k
  | aconst_null => obtain rfl := jone (n := 1) hl (fun _ => rfl); exact jt_null F hx hd k
  | iload_n n => obtain rfl := jone (n := 1) hl (fun _ => rfl); exact jt_iload_n F hx hd k
  | iload n => obtain rfl := jone (n := 2) hl (fun _ => rfl); exact jt_iload F hx hd k
  | lload_n n => obtain rfl := jone (n := 1) hl (fun _ => rfl); exact jt_lload_n F hx hd k
  | lload n => obtain rfl := jone (n := 2) hl (fun _ => rfl); exact jt_lload F hx hd k
  | aload_n n => obtain rfl := jone (n := 1) hl (fun _ => rfl); exact jt_aload_n F hx hd k
  | aload n => obtain rfl := jone (n := 2) hl (fun _ => rfl); exact jt_aload F hx hd k
  | istore_n n => obtain rfl := jone (n := 1) hl (fun _ => rfl); exact jt_istore_n F hx hd k
  | lstore_n n => obtain rfl := jone (n := 1) hl (fun _ => rfl); exact jt_lstore_n F hx hd k
  | astore_n n => obtain rfl := jone (n := 1) hl (fun _ => rfl); exact jt_astore_n F hx hd k
  | istore n => obtain rfl := jone (n := 2) hl (fun _ => rfl); exact jt_istore F hx hd k
  | lstore n => obtain rfl := jone (n := 2) hl (fun _ => rfl); exact jt_lstore F hx hd k
  | astore n => obtain rfl := jone (n := 2) hl (fun _ => rfl); exact jt_astore F hx hd k
  | iinc n d => obtain rfl := jone (n := 3) hl (fun _ => rfl); exact jt_iinc F hx hd k
  | iadd => obtain rfl := jone (n := 1) hl (fun _ => rfl); exact jt_iadd F hx hd k
  | isub => obtain rfl := jone (n := 1) hl (fun _ => rfl); exact jt_isub F hx hd k
  | imul => obtain rfl := jone (n := 1) hl (fun _ => rfl); exact jt_imul F hx hd k
  | iand => obtain rfl := jone (n := 1) hl (fun _ => rfl); exact jt_iand F hx hd k
  | ior => obtain rfl := jone (n := 1) hl (fun _ => rfl); exact jt_ior F hx hd k
  | ixor => obtain rfl := jone (n := 1) hl (fun _ => rfl); exact jt_ixor F hx hd k
  | ishl => obtain rfl := jone (n := 1) hl (fun _ => rfl); exact jt_ishl F hx hd k
  | ishr => obtain rfl := jone (n := 1) hl (fun _ => rfl); exact jt_ishr F hx hd k
  | iushr => obtain rfl := jone (n := 1) hl (fun _ => rfl); exact jt_iushr F hx hd k
  | ladd => obtain rfl := jone (n := 1) hl (fun _ => rfl); exact jt_ladd F hx hd k
  | lsub => obtain rfl := jone (n := 1) hl (fun _ => rfl); exact jt_lsub F hx hd k
  | lmul => obtain rfl := jone (n := 1) hl (fun _ => rfl); exact jt_lmul F hx hd k
  | lor => obtain rfl := jone (n := 1) hl (fun _ => rfl); exact jt_lor F hx hd k
  | lxor => obtain rfl := jone (n := 1) hl (fun _ => rfl); exact jt_lxor F hx hd k
  | ineg => obtain rfl := jone (n := 1) hl (fun _ => rfl); exact jt_ineg F hx hd k
  | idiv => obtain rfl := jone (n := 1) hl (fun _ => rfl); exact jt_idiv F hx hd k
  | irem => obtain rfl := jone (n := 1) hl (fun _ => rfl); exact jt_irem F hx hd k
  | lshl => obtain rfl := jone (n := 1) hl (fun _ => rfl); exact jt_lshl F hx hd k
  | lushr => obtain rfl := jone (n := 1) hl (fun _ => rfl); exact jt_lushr F hx hd k
  | lcmp => obtain rfl := jone (n := 1) hl (fun _ => rfl); exact jt_lcmp F hx hd k
  | i2l => obtain rfl := jone (n := 1) hl (fun _ => rfl); exact jt_i2l F hx hd k
  | l2i => obtain rfl := jone (n := 1) hl (fun _ => rfl); exact jt_l2i F hx hd k
  | i2c => obtain rfl := jone (n := 1) hl (fun _ => rfl); exact jt_i2c F hx hd k
  | pop => obtain rfl := jone (n := 1) hl (fun _ => rfl); exact jt_pop F hx hd k
  | dup => obtain rfl := jone (n := 1) hl (fun _ => rfl); exact jt_dup F hx hd k
  | dup2 => obtain rfl := jone (n := 1) hl (fun _ => rfl); exact jt_dup2 F hx hd k
  | ifnull off => obtain rfl := jone (n := 3) hl (fun _ => rfl); exact jt_ifnull F hx hd k
  | ifnonnull off => obtain rfl := jone (n := 3) hl (fun _ => rfl); exact jt_ifnonnull F hx hd k
  | goto off => obtain rfl := jone (n := 3) hl (fun _ => rfl); exact jt_goto F hx hd k
  | getfield n => obtain rfl := jone (n := 3) hl (fun _ => rfl); exact jt_getfield F hx hd k
  | putfield n => obtain rfl := jone (n := 3) hl (fun _ => rfl); exact jt_putfield F hx hd k
  | iaload => obtain rfl := jone (n := 1) hl (fun _ => rfl); exact jt_iaload F hx hd k
  | baload => obtain rfl := jone (n := 1) hl (fun _ => rfl); exact jt_baload F hx hd k
  | laload => obtain rfl := jone (n := 1) hl (fun _ => rfl); exact jt_laload F hx hd k
  | aaload => obtain rfl := jone (n := 1) hl (fun _ => rfl); exact jt_aaload F hx hd k
  | iastore => obtain rfl := jone (n := 1) hl (fun _ => rfl); exact jt_iastore F hx hd k
  | bastore => obtain rfl := jone (n := 1) hl (fun _ => rfl); exact jt_bastore F hx hd k
  | lastore => obtain rfl := jone (n := 1) hl (fun _ => rfl); exact jt_lastore F hx hd k
  | aastore => obtain rfl := jone (n := 1) hl (fun _ => rfl); exact jt_aastore F hx hd k
  | arraylength => obtain rfl := jone (n := 1) hl (fun _ => rfl); exact jt_alen F hx hd k
  | newarray t => obtain rfl := jone (n := 2) hl (fun _ => rfl); exact jt_newarray F hR hp hx hd k
  | anewarray n => obtain rfl := jone (n := 3) hl (fun _ => rfl); exact jt_anewarray F hR hp hx hd k
  | multianewarray n d => obtain rfl := jone (n := 4) hl (fun _ => rfl); exact jt_multi F hM hR hp hx hd k
  | new n => obtain rfl := jone (n := 3) hl (fun _ => rfl); exact jt_new F hR hp hx hd k
  | ldc_w n => obtain rfl := jone (n := 3) hl (fun _ => rfl); exact jt_ldcw F hT hroom hR hp hx hd k
  | ldc n => obtain rfl := jone (n := 2) hl (fun _ => rfl); exact jt_ldc F hT hroom hR hp hx hd k
  | ldc2_w n => obtain rfl := jone (n := 3) hl (fun _ => rfl); exact jt_ldc2 F hx hd k
  | ifCond cc off =>
    cases cc with
    | eq => obtain rfl := jone (n := 3) hl (fun _ => rfl); exact jt_if_eq F hx hd k
    | ne => obtain rfl := jone (n := 3) hl (fun _ => rfl); exact jt_if_ne F hx hd k
    | lt => obtain rfl := jone (n := 3) hl (fun _ => rfl); exact jt_if_lt F hx hd k
    | ge => obtain rfl := jone (n := 3) hl (fun _ => rfl); exact jt_if_ge F hx hd k
    | gt => obtain rfl := jone (n := 3) hl (fun _ => rfl); exact jt_if_gt F hx hd k
    | le => obtain rfl := jone (n := 3) hl (fun _ => rfl); exact jt_if_le F hx hd k
  | if_icmp cc off =>
    cases cc with
    | eq => obtain rfl := jone (n := 3) hl (fun _ => rfl); exact jt_icmp_eq F hx hd k
    | ne => obtain rfl := jone (n := 3) hl (fun _ => rfl); exact jt_icmp_ne F hx hd k
    | lt => obtain rfl := jone (n := 3) hl (fun _ => rfl); exact jt_icmp_lt F hx hd k
    | ge => obtain rfl := jone (n := 3) hl (fun _ => rfl); exact jt_icmp_ge F hx hd k
    | gt => obtain rfl := jone (n := 3) hl (fun _ => rfl); exact jt_icmp_gt F hx hd k
    | le => obtain rfl := jone (n := 3) hl (fun _ => rfl); exact jt_icmp_le F hx hd k
  | tableswitch d lo hi offs => exact jt_table F hx hd k
  | invokevirtual n =>
    obtain rfl := jone (n := 3) hl (fun _ => rfl)
    replace hx : (match pml (poc y) n with | some (kd, y2) => if jkV kd = true then jcall kd y2 pc ls st h else none | none => none) = some (.inl (pc', ls', st', h')) := hx
    split at hx
    · rename_i kd y2 hk; split at hx
      · rename_i hk2; exact jnat F hT hroom hR hk hp (Or.inl ⟨hk2, hd⟩) hx k
      · cases hx
    · cases hx
  | invokestatic n =>
    obtain rfl := jone (n := 3) hl (fun _ => rfl)
    replace hx : (match pml (poc y) n with | some (kd, y2) => if jkS kd = true then jcall kd y2 pc ls st h else none | none => none) = some (.inl (pc', ls', st', h')) := hx
    split at hx
    · rename_i kd y2 hk; split at hx
      · rename_i hk2; exact jnat F hT hroom hR hk hp (Or.inr (Or.inl ⟨hk2, hd⟩)) hx k
      · cases hx
    · cases hx
  | invokespecial n =>
    obtain rfl := jone (n := 3) hl (fun _ => rfl)
    replace hx : (match pml (poc y) n with | some (kd, y2) => if jkI kd = true then jcall kd y2 pc ls st h else none | none => none) = some (.inl (pc', ls', st', h')) := hx
    split at hx
    · rename_i kd y2 hk; split at hx
      · rename_i hk2; exact jnat F hT hroom hR hk hp (Or.inr (Or.inr ⟨hk2, hd⟩)) hx k
      · cases hx
    · cases hx
  | ireturn => exact absurd hx (by unfold pjx; dsimp only; (repeat' split) <;> exact fun q => by cases q)
  | lreturn => exact absurd hx (by unfold pjx; dsimp only; (repeat' split) <;> exact fun q => by cases q)
  | areturn => exact absurd hx (by unfold pjx; dsimp only; (repeat' split) <;> exact fun q => by cases q)
  | return_ => exact absurd hx (by unfold pjx; dsimp only; (repeat' split) <;> exact fun q => by cases q)
  | _ => exact absurd (show (none : Option jn) = some _ from hx) (fun q => by cases q)
end JU
