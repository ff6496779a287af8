/-! EVERY STEP, the heap's -/
section JT
variable {G : jg} {y : Nat} {p : Program} {l : Launch} {e : Env} {R : Room} {s : State} {m : MethodId} {args : Array Value} {below : List Frame} {meth : Method} {c : Code} {Q : State → Prop} {hE : jh} {cE sE : Nat} {pc len : Nat} {ls : List (Option jv)} {st : List jv} {h : jh}
variable {pc' : Nat} {ls' : List (Option jv)} {st' : List jv} {h' : jh}

theorem jt_table (F : jF G y p s m args meth c) {d lo hi : Int} {offs : Array Int} (hx : pjx y (.tableswitch d lo hi offs) pc ls st h = some (.inl (pc', ls', st', h'))) (hd : decode (pby y) pc = .ok (.tableswitch d lo hi offs, len)) (k : jG G y p l e R s m args below meth c Q hE cE sE pc' ls' st' h') : jG G y p l e R s m args below meth c Q hE cE sE pc ls st h := by
  replace hx : (match st with | .inl x :: r => if (pc : Int) + d < 0 then none else if x < lo then jgo (jtgt pc d) ls r h else if hi < x then jgo (jtgt pc d) ls r h else (match offs.toList[(x - lo).toNat]? with | some off => if (pc : Int) + off < 0 then none else jgo (jtgt pc off) ls r h | none => none) | _ => none) = some (.inl (pc', ls', st', h')) := hx
  split at hx
  · rename_i x r
    split at hx
    · cases hx
    rename_i hg
    split at hx
    · rename_i hlo
      obtain ⟨rfl, rfl, rfl, rfl⟩ := jgo_inv hx
      exact js_stk (pc' := jtgt pc d) (fun H locs cells slots lsr ho kk => lv_tableOut F.1.1 F.1.2 hd (Or.inl (by rw [o32_i (jok_top ho)]; exact hlo)) (jtgt_ok hg) kk) (fun ho => jok_pop ho) k
    rename_i hlo
    split at hx
    · rename_i hhi
      obtain ⟨rfl, rfl, rfl, rfl⟩ := jgo_inv hx
      exact js_stk (pc' := jtgt pc d) (fun H locs cells slots lsr ho kk => lv_tableOut F.1.1 F.1.2 hd (Or.inr (by rw [o32_i (jok_top ho)]; exact hhi)) (jtgt_ok hg) kk) (fun ho => jok_pop ho) k
    rename_i hhi
    split at hx
    · rename_i off ho2
      split at hx
      · cases hx
      rename_i hg2
      obtain ⟨rfl, rfl, rfl, rfl⟩ := jgo_inv hx
      exact js_stk (pc' := jtgt pc off) (fun H locs cells slots lsr ho kk => lv_tableIn F.1.1 F.1.2 hd (by rw [o32_i (jok_top ho)]; exact hlo) (by rw [o32_i (jok_top ho)]; exact hhi) (by rw [o32_i (jok_top ho), ← Array.getElem?_toList]; exact ho2) (jtgt_ok hg2) kk) (fun ho => jok_pop ho) k
    · cases hx
  · cases hx
theorem jt_getfield (F : jF G y p s m args meth c) {n : Nat} (hx : pjx y (.getfield n) pc ls st h = some (.inl (pc', ls', st', h'))) (hd : decode (pby y) pc = .ok (.getfield n, 3)) (k : jG G y p l e R s m args below meth c Q hE cE sE pc' ls' st' h') : jG G y p l e R s m args below meth c Q hE cE sE pc ls st h := by
  replace hx : (match st with | .inr (.inr (some cc)) :: r => (match pfl (poc y) n with | some (ci, j) => if gK h cc = some (0, ci) then jgo (pc + 3) ls (jfv h ci cc j :: r) h else none | none => none) | _ => none) = some (.inl (pc', ls', st', h')) := hx
  split at hx
  · rename_i cc r; split at hx
    · rename_i ci j hf; split at hx
      · rename_i hk; obtain ⟨rfl, rfl, rfl, rfl⟩ := jgo_inv hx; exact js_getfield F hk hf hd k
      · cases hx
    · cases hx
  · cases hx
theorem jt_putfield (F : jF G y p s m args meth c) {n : Nat} (hx : pjx y (.putfield n) pc ls st h = some (.inl (pc', ls', st', h'))) (hd : decode (pby y) pc = .ok (.putfield n, 3)) (k : jG G y p l e R s m args below meth c Q hE cE sE pc' ls' st' h') : jG G y p l e R s m args below meth c Q hE cE sE pc ls st h := by
  replace hx : (match pfl (poc y) n with
    | some (ci, j) => if pfin ci j = true ∧ ¬ (pin y = 1 ∧ poc y = ci) then none else match st with
      | .inl x :: .inr (.inr (some c)) :: r => if gK h c = some (0, ci) then (match pj_ft ci j with
        | 0 => jgo (pc + 3) ls r (wD h c j x)
        | 1 => if x = 0 ∨ x = 1 then jgo (pc + 3) ls r (wD h c j x) else none
        | _ => none) else none
      | .inr (.inl x) :: .inr (.inr (some c)) :: r => if gK h c = some (0, ci) then (if pj_ft ci j = 2 then jgo (pc + 3) ls r (wL h c j x) else none) else none
      | .inr (.inr x) :: .inr (.inr (some c)) :: r => if gK h c = some (0, ci) then (if pj_ft ci j = 3 then jgo (pc + 3) ls r (wR h c j x) else none) else none
      | _ => none
    | none => none) = some (.inl (pc', ls', st', h')) := hx
  split at hx
  · rename_i ci j hf
    split at hx
    · cases hx
    rename_i hfin
    split at hx
    · rename_i x cc r; split at hx
      · rename_i hk; split at hx
        · rename_i ht; obtain ⟨rfl, rfl, rfl, rfl⟩ := jgo_inv hx; exact js_putI F hk hf hfin (Or.inl ht) hd k
        · rename_i ht; split at hx
          · rename_i hx1; obtain ⟨rfl, rfl, rfl, rfl⟩ := jgo_inv hx; exact js_putI F hk hf hfin (Or.inr ⟨ht, hx1⟩) hd k
          · cases hx
        · cases hx
      · cases hx
    · rename_i x cc r; split at hx
      · rename_i hk; split at hx
        · rename_i ht; obtain ⟨rfl, rfl, rfl, rfl⟩ := jgo_inv hx; exact js_putL F hk hf hfin ht hd k
        · cases hx
      · cases hx
    · rename_i x cc r; split at hx
      · rename_i hk; split at hx
        · rename_i ht; obtain ⟨rfl, rfl, rfl, rfl⟩ := jgo_inv hx; exact js_putR F hk hf hfin ht hd k
        · cases hx
      · cases hx
    · cases hx
  · cases hx
theorem jt_iaload (F : jF G y p s m args meth c) (hx : pjx y (.iaload) pc ls st h = some (.inl (pc', ls', st', h'))) (hd : decode (pby y) pc = .ok (.iaload, 1)) (k : jG G y p l e R s m args below meth c Q hE cE sE pc' ls' st' h') : jG G y p l e R s m args below meth c Q hE cE sE pc ls st h := by
  replace hx : (match st with | .inl i :: .inr (.inr (some c)) :: r => (match gK h c with | some (1, n) => if 0 ≤ i ∧ i < n then jgo (pc + 1) ls (.inl (gD h c i.toNat) :: r) h else none | some _ => none | none => if c = jSCR then (if 0 ≤ i ∧ i < gD h jLEN 0 then jgo (pc + 1) ls (.inl (gD h jSCR i.toNat) :: r) h else none) else none) | _ => none) = some (.inl (pc', ls', st', h')) := hx
  split at hx
  · rename_i i cc r
    split at hx
    · rename_i n hk; split at hx
      · rename_i hi; obtain ⟨rfl, rfl, rfl, rfl⟩ := jgo_inv hx; exact js_iald F hk hi hd k
      · cases hx
    · cases hx
    · split at hx
      · rename_i hcc; subst hcc; split at hx
        · rename_i hi; obtain ⟨rfl, rfl, rfl, rfl⟩ := jgo_inv hx; exact js_sald F hi hd k
        · cases hx
      · cases hx
  · cases hx
theorem jt_baload (F : jF G y p s m args meth c) (hx : pjx y (.baload) pc ls st h = some (.inl (pc', ls', st', h'))) (hd : decode (pby y) pc = .ok (.baload, 1)) (k : jG G y p l e R s m args below meth c Q hE cE sE pc' ls' st' h') : jG G y p l e R s m args below meth c Q hE cE sE pc ls st h := by
  replace hx : (match st with | .inl i :: .inr (.inr (some c)) :: r => (match gK h c with | some (2, n) => if 0 ≤ i ∧ i < n then jgo (pc + 1) ls (.inl (gD h c i.toNat) :: r) h else none | _ => none) | _ => none) = some (.inl (pc', ls', st', h')) := hx
  split at hx
  · rename_i i cc r; split at hx
    · rename_i n hk; split at hx
      · rename_i hi; obtain ⟨rfl, rfl, rfl, rfl⟩ := jgo_inv hx; exact js_bald F hk hi hd k
      · cases hx
    · cases hx
  · cases hx
theorem jt_laload (F : jF G y p s m args meth c) (hx : pjx y (.laload) pc ls st h = some (.inl (pc', ls', st', h'))) (hd : decode (pby y) pc = .ok (.laload, 1)) (k : jG G y p l e R s m args below meth c Q hE cE sE pc' ls' st' h') : jG G y p l e R s m args below meth c Q hE cE sE pc ls st h := by
  replace hx : (match st with | .inl i :: .inr (.inr (some c)) :: r => (match gK h c with | some (3, n) => if 0 ≤ i ∧ i < n then jgo (pc + 1) ls (.inr (.inl (gL h c i.toNat)) :: r) h else none | _ => none) | _ => none) = some (.inl (pc', ls', st', h')) := hx
  split at hx
  · rename_i i cc r; split at hx
    · rename_i n hk; split at hx
      · rename_i hi; obtain ⟨rfl, rfl, rfl, rfl⟩ := jgo_inv hx; exact js_lald F hk hi hd k
      · cases hx
    · cases hx
  · cases hx
theorem jt_aaload (F : jF G y p s m args meth c) (hx : pjx y (.aaload) pc ls st h = some (.inl (pc', ls', st', h'))) (hd : decode (pby y) pc = .ok (.aaload, 1)) (k : jG G y p l e R s m args below meth c Q hE cE sE pc' ls' st' h') : jG G y p l e R s m args below meth c Q hE cE sE pc ls st h := by
  replace hx : (match st with | .inl i :: .inr (.inr (some c)) :: r => (match gK h c with | some (k + 4, n) => if 0 ≤ i ∧ i < n then jgo (pc + 1) ls (.inr (.inr (gR h c i.toNat)) :: r) h else none | _ => none) | _ => none) = some (.inl (pc', ls', st', h')) := hx
  split at hx
  · rename_i i cc r; split at hx
    · rename_i kk n hk; split at hx
      · rename_i hi; obtain ⟨rfl, rfl, rfl, rfl⟩ := jgo_inv hx; exact js_aald F hk hi hd k
      · cases hx
    · cases hx
  · cases hx
theorem jt_iastore (F : jF G y p s m args meth c) (hx : pjx y (.iastore) pc ls st h = some (.inl (pc', ls', st', h'))) (hd : decode (pby y) pc = .ok (.iastore, 1)) (k : jG G y p l e R s m args below meth c Q hE cE sE pc' ls' st' h') : jG G y p l e R s m args below meth c Q hE cE sE pc ls st h := by
  replace hx : (match st with | .inl x :: .inl i :: .inr (.inr (some c)) :: r => (match gK h c with | some (1, n) => if 0 ≤ i ∧ i < n then jgo (pc + 1) ls r (wD h c i.toNat x) else none | _ => none) | _ => none) = some (.inl (pc', ls', st', h')) := hx
  split at hx
  · rename_i x i cc r; split at hx
    · rename_i n hk; split at hx
      · rename_i hi; obtain ⟨rfl, rfl, rfl, rfl⟩ := jgo_inv hx; exact js_iast F hk hi hd k
      · cases hx
    · cases hx
  · cases hx
theorem jt_bastore (F : jF G y p s m args meth c) (hx : pjx y (.bastore) pc ls st h = some (.inl (pc', ls', st', h'))) (hd : decode (pby y) pc = .ok (.bastore, 1)) (k : jG G y p l e R s m args below meth c Q hE cE sE pc' ls' st' h') : jG G y p l e R s m args below meth c Q hE cE sE pc ls st h := by
  replace hx : (match st with | .inl x :: .inl i :: .inr (.inr (some c)) :: r => (match gK h c with | some (2, n) => if 0 ≤ i ∧ i < n then (if x = 0 ∨ x = 1 then jgo (pc + 1) ls r (wD h c i.toNat x) else none) else none | _ => none) | _ => none) = some (.inl (pc', ls', st', h')) := hx
  split at hx
  · rename_i x i cc r; split at hx
    · rename_i n hk; split at hx
      · rename_i hi; split at hx
        · rename_i h01; obtain ⟨rfl, rfl, rfl, rfl⟩ := jgo_inv hx; exact js_bast F hk hi h01 hd k
        · cases hx
      · cases hx
    · cases hx
  · cases hx
theorem jt_lastore (F : jF G y p s m args meth c) (hx : pjx y (.lastore) pc ls st h = some (.inl (pc', ls', st', h'))) (hd : decode (pby y) pc = .ok (.lastore, 1)) (k : jG G y p l e R s m args below meth c Q hE cE sE pc' ls' st' h') : jG G y p l e R s m args below meth c Q hE cE sE pc ls st h := by
  replace hx : (match st with | .inr (.inl x) :: .inl i :: .inr (.inr (some c)) :: r => (match gK h c with | some (3, n) => if 0 ≤ i ∧ i < n then jgo (pc + 1) ls r (wL h c i.toNat x) else none | _ => none) | _ => none) = some (.inl (pc', ls', st', h')) := hx
  split at hx
  · rename_i x i cc r; split at hx
    · rename_i n hk; split at hx
      · rename_i hi; obtain ⟨rfl, rfl, rfl, rfl⟩ := jgo_inv hx; exact js_last F hk hi hd k
      · cases hx
    · cases hx
  · cases hx
theorem jt_aastore (F : jF G y p s m args meth c) (hx : pjx y (.aastore) pc ls st h = some (.inl (pc', ls', st', h'))) (hd : decode (pby y) pc = .ok (.aastore, 1)) (k : jG G y p l e R s m args below meth c Q hE cE sE pc' ls' st' h') : jG G y p l e R s m args below meth c Q hE cE sE pc ls st h := by
  replace hx : (match st with | .inr (.inr (some v)) :: .inl i :: .inr (.inr (some c)) :: r => (match gK h c with | some (k + 4, n) => if 0 ≤ i ∧ i < n then (match gK h v with | some (0, ci) => if ci = k then jgo (pc + 1) ls r (wR h c i.toNat (some v)) else none | some (1, _) => if k = 100 then jgo (pc + 1) ls r (wR h c i.toNat (some v)) else none | _ => none) else none | _ => none) | _ => none) = some (.inl (pc', ls', st', h')) := hx
  split at hx
  · rename_i v i cc r; split at hx
    · rename_i k0 n hk; split at hx
      · rename_i hi; split at hx
        · rename_i ci hv; split at hx
          · rename_i e1; subst e1; obtain ⟨rfl, rfl, rfl, rfl⟩ := jgo_inv hx; exact js_aast F hk hi hv hd k
          · cases hx
        · rename_i n2 hv; split at hx
          · rename_i e1; subst e1; obtain ⟨rfl, rfl, rfl, rfl⟩ := jgo_inv hx; exact js_aastI F hk hi hv hd k
          · cases hx
        · cases hx
      · cases hx
    · cases hx
  · cases hx
theorem jt_alen (F : jF G y p s m args meth c) (hx : pjx y (.arraylength) pc ls st h = some (.inl (pc', ls', st', h'))) (hd : decode (pby y) pc = .ok (.arraylength, 1)) (k : jG G y p l e R s m args below meth c Q hE cE sE pc' ls' st' h') : jG G y p l e R s m args below meth c Q hE cE sE pc ls st h := by
  replace hx : (match st with | .inr (.inr (some c)) :: r => (match gK h c with | some (k + 1, n) => jgo (pc + 1) ls (.inl (n : Int) :: r) h | some _ => none | none => if c = jSCR then jgo (pc + 1) ls (.inl (gD h jLEN 0) :: r) h else none) | _ => none) = some (.inl (pc', ls', st', h')) := hx
  split at hx
  · rename_i cc r; split at hx
    · rename_i k0 n hk; obtain ⟨rfl, rfl, rfl, rfl⟩ := jgo_inv hx; exact js_alen F hk hd k
    · cases hx
    · split at hx
      · rename_i hcc; subst hcc; obtain ⟨rfl, rfl, rfl, rfl⟩ := jgo_inv hx; exact js_slen F hd k
      · cases hx
  · cases hx
theorem jt_newarray (F : jF G y p s m args meth c) {t : ArrayType} (hR : jroom R hE cE sE) (hp : jpre h' hE) (hx : pjx y (.newarray t) pc ls st h = some (.inl (pc', ls', st', h'))) (hd : decode (pby y) pc = .ok (.newarray t, 2)) (k : jG G y p l e R s m args below meth c Q hE cE sE pc' ls' st' h') : jG G y p l e R s m args below meth c Q hE cE sE pc ls st h := by
  replace hx : (match st with | .inl n :: r => if 0 ≤ n ∧ n ≤ 4096 then (match t with | .int => jgo (pc + 2) ls (.inr (.inr (some h.1.length)) :: r) (nC h (1, n.toNat)) | .boolean => jgo (pc + 2) ls (.inr (.inr (some h.1.length)) :: r) (nC h (2, n.toNat)) | .long => jgo (pc + 2) ls (.inr (.inr (some h.1.length)) :: r) (nC h (3, n.toNat)) | _ => none) else none | _ => none) = some (.inl (pc', ls', st', h')) := hx
  split at hx
  · rename_i n r; split at hx
    · rename_i hn; split at hx
      · obtain ⟨rfl, rfl, rfl, rfl⟩ := jgo_inv hx; exact js_newI F hn hd hR hp k
      · obtain ⟨rfl, rfl, rfl, rfl⟩ := jgo_inv hx; exact js_newZ F hn hd hR hp k
      · obtain ⟨rfl, rfl, rfl, rfl⟩ := jgo_inv hx; exact js_newL F hn hd hR hp k
      · cases hx
    · cases hx
  · cases hx
theorem jt_anewarray (F : jF G y p s m args meth c) {n : Nat} (hR : jroom R hE cE sE) (hp : jpre h' hE) (hx : pjx y (.anewarray n) pc ls st h = some (.inl (pc', ls', st', h'))) (hd : decode (pby y) pc = .ok (.anewarray n, 3)) (k : jG G y p l e R s m args below meth c Q hE cE sE pc' ls' st' h') : jG G y p l e R s m args below meth c Q hE cE sE pc ls st h := by
  replace hx : (match pkl (poc y) n with
    | some ci => match st with
      | .inl n :: r => if 0 ≤ n ∧ n ≤ 4096 ∧ (ci = 3 ∨ ci = 9 ∨ ci = 1) then jgo (pc + 3) ls (.inr (.inr (some h.1.length)) :: r) (nC h (4 + ci, n.toNat)) else none
      | _ => none
    | none => none) = some (.inl (pc', ls', st', h')) := hx
  split at hx
  · rename_i ci hk; split at hx
    · rename_i n r; split at hx
      · rename_i hn; obtain ⟨rfl, rfl, rfl, rfl⟩ := jgo_inv hx; exact js_anew F hk hn.2.2 ⟨hn.1, hn.2.1⟩ hd hR hp k
      · cases hx
    · cases hx
  · cases hx
theorem jt_multi (F : jF G y p s m args meth c) (hM : jHmul G) {n : Nat} {d : Nat} (hR : jroom R hE cE sE) (hp : jpre h' hE) (hx : pjx y (.multianewarray n d) pc ls st h = some (.inl (pc', ls', st', h'))) (hd : decode (pby y) pc = .ok (.multianewarray n d, 4)) (k : jG G y p l e R s m args below meth c Q hE cE sE pc' ls' st' h') : jG G y p l e R s m args below meth c Q hE cE sE pc ls st h := by
  replace hx : (if poc y = 5 ∧ n = 19 ∧ d = 2 then (match st with
      | .inl b :: .inl a :: r => if 0 ≤ a ∧ a ≤ 4096 ∧ 0 ≤ b ∧ b ≤ 4096 then jgo (pc + 4) ls (.inr (.inr (some h.1.length)) :: r) (nRows a.toNat h.1.length 0 b.toNat (nC h (104, a.toNat))) else none
      | _ => none) else none) = some (.inl (pc', ls', st', h')) := hx
  split at hx
  · rename_i hq; obtain ⟨q1, rfl, rfl⟩ := hq; split at hx
    · rename_i b a r; split at hx
      · rename_i hn; obtain ⟨rfl, rfl, rfl, rfl⟩ := jgo_inv hx; exact hM _ _ _ _ _ _ _ _ _ _ _ _ _ _ _ _ _ _ _ _ _ F q1 hn hd hR hp k
      · cases hx
    · cases hx
  · cases hx
theorem jt_new (F : jF G y p s m args meth c) {n : Nat} (hR : jroom R hE cE sE) (hp : jpre h' hE) (hx : pjx y (.new n) pc ls st h = some (.inl (pc', ls', st', h'))) (hd : decode (pby y) pc = .ok (.new n, 3)) (k : jG G y p l e R s m args below meth c Q hE cE sE pc' ls' st' h') : jG G y p l e R s m args below meth c Q hE cE sE pc ls st h := by
  replace hx : (match pkl (poc y) n with
    | some ci => if ci < 13 then jgo (pc + 3) ls (.inr (.inr (some h.1.length)) :: st) (nC h (0, ci)) else if ci = 14 then some (.inr (.inr (1, none))) else none
    | none => none) = some (.inl (pc', ls', st', h')) := hx
  split at hx
  · rename_i ci hk; split at hx
    · rename_i hci; obtain ⟨rfl, rfl, rfl, rfl⟩ := jgo_inv hx; exact js_new F hk hci hd hR hp k
    · split at hx <;> cases hx
  · cases hx
theorem jt_ldcw (F : jF G y p s m args meth c) (hT : jHstr G) (hroom : 20 ≤ R.frames ∧ 5000 ≤ R.locals) {n : Nat} (hR : jroom R hE cE sE) (hp : jpre h' hE) (hx : pjx y (.ldc_w n) pc ls st h = some (.inl (pc', ls', st', h'))) (hd : decode (pby y) pc = .ok (.ldc_w n, 3)) (k : jG G y p l e R s m args below meth c Q hE cE sE pc' ls' st' h') : jG G y p l e R s m args below meth c Q hE cE sE pc ls st h := by
  replace hx : (if poc y = 4 ∧ n = 280 then jgo (pc + 3) ls (.inr (.inr (some jSIG)) :: st) h
      else if poc y = 12 ∧ n = 446 then jgo (pc + 3) ls (.inl 1073741824 :: st) h
      else if poc y = 15 ∧ n = 265 then jgo (pc + 3) ls (.inl 1431655765 :: st) h
      else if poc y = 15 ∧ n = 266 then jgo (pc + 3) ls (.inl 858993459 :: st) h
      else if poc y = 15 ∧ n = 267 then jgo (pc + 3) ls (.inl 252645135 :: st) h else none) = some (.inl (pc', ls', st', h')) := hx
  split at hx
  · rename_i q; obtain ⟨q1, rfl⟩ := q; obtain ⟨rfl, rfl, rfl, rfl⟩ := jgo_inv hx
    exact hT _ _ _ _ _ _ _ _ _ _ _ _ _ _ _ _ _ _ _ _ F hroom hR hp (Or.inr (Or.inl ⟨q1, rfl, hd, k⟩))
  split at hx
  · rename_i q; obtain ⟨q1, rfl⟩ := q; obtain ⟨rfl, rfl, rfl, rfl⟩ := jgo_inv hx; exact js_ldcw F (by unfold r32; omega) (by rw [q1]; exact pj_cons.1.1) hd k
  split at hx
  · rename_i q; obtain ⟨q1, rfl⟩ := q; obtain ⟨rfl, rfl, rfl, rfl⟩ := jgo_inv hx; exact js_ldcw F (by unfold r32; omega) (by rw [q1]; exact pj_cons.1.2.1) hd k
  split at hx
  · rename_i q; obtain ⟨q1, rfl⟩ := q; obtain ⟨rfl, rfl, rfl, rfl⟩ := jgo_inv hx; exact js_ldcw F (by unfold r32; omega) (by rw [q1]; exact pj_cons.1.2.2.1) hd k
  split at hx
  · rename_i q; obtain ⟨q1, rfl⟩ := q; obtain ⟨rfl, rfl, rfl, rfl⟩ := jgo_inv hx; exact js_ldcw F (by unfold r32; omega) (by rw [q1]; exact pj_cons.1.2.2.2) hd k
  cases hx
theorem jt_ldc (F : jF G y p s m args meth c) (hT : jHstr G) (hroom : 20 ≤ R.frames ∧ 5000 ≤ R.locals) {n : Nat} (hR : jroom R hE cE sE) (hp : jpre h' hE) (hx : pjx y (.ldc n) pc ls st h = some (.inl (pc', ls', st', h'))) (hd : decode (pby y) pc = .ok (.ldc n, 2)) (k : jG G y p l e R s m args below meth c Q hE cE sE pc' ls' st' h') : jG G y p l e R s m args below meth c Q hE cE sE pc ls st h := by
  replace hx : (if poc y = 4 ∧ n = 254 then jgo (pc + 2) ls (.inr (.inr (some jKEY)) :: st) h else none) = some (.inl (pc', ls', st', h')) := hx
  split at hx
  · rename_i q; obtain ⟨q1, rfl⟩ := q; obtain ⟨rfl, rfl, rfl, rfl⟩ := jgo_inv hx
    exact hT _ _ _ _ _ _ _ _ _ _ _ _ _ _ _ _ _ _ _ _ F hroom hR hp (Or.inl ⟨q1, rfl, hd, k⟩)
  · cases hx
theorem jt_ldc2 (F : jF G y p s m args meth c) {n : Nat} (hx : pjx y (.ldc2_w n) pc ls st h = some (.inl (pc', ls', st', h'))) (hd : decode (pby y) pc = .ok (.ldc2_w n, 3)) (k : jG G y p l e R s m args below meth c Q hE cE sE pc' ls' st' h') : jG G y p l e R s m args below meth c Q hE cE sE pc ls st h := by
  replace hx : (if poc y = 12 ∧ n = 293 then jgo (pc + 3) ls (.inr (.inl 27) :: st) h else if poc y = 12 ∧ n = 295 then jgo (pc + 3) ls (.inr (.inl 96) :: st) h else none) = some (.inl (pc', ls', st', h')) := hx
  split at hx
  · rename_i q; obtain ⟨q1, rfl⟩ := q; obtain ⟨rfl, rfl, rfl, rfl⟩ := jgo_inv hx; exact js_ldc2 F (by unfold r64; omega) (by rw [q1]; exact pj_cons.2.1) hd k
  split at hx
  · rename_i q; obtain ⟨q1, rfl⟩ := q; obtain ⟨rfl, rfl, rfl, rfl⟩ := jgo_inv hx; exact js_ldc2 F (by unfold r64; omega) (by rw [q1]; exact pj_cons.2.2) hd k
  cases hx
end JT
