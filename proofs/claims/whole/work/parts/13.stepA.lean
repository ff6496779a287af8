/-! EVERY STEP -/
def jHmul (G : jg) : Prop := ∀ (y : Nat) (p : Program) (l : Launch) (e : Env) (R : Room) (s : State) (m : MethodId) (args : Array Value) (below : List Frame) (meth : Method) (c : Code) (Q : State → Prop) (hE : jh) (cE sE pc : Nat) (ls : List (Option jv)) (st : List jv) (h : jh) (a b : Int), jF G y p s m args meth c → poc y = 5 → (0 ≤ a ∧ a ≤ 4096 ∧ 0 ≤ b ∧ b ≤ 4096) → decode (pby y) pc = .ok (.multianewarray 19 2, 4) → jroom R hE cE sE →
  jpre (nRows a.toNat h.1.length 0 b.toNat (nC h (104, a.toNat))) hE → jG G y p l e R s m args below meth c Q hE cE sE (pc + 4) ls (.inr (.inr (some h.1.length)) :: st) (nRows a.toNat h.1.length 0 b.toNat (nC h (104, a.toNat))) → jG G y p l e R s m args below meth c Q hE cE sE pc ls (.inl b :: .inl a :: st) h
/-- the texts' steps: ldc, length, charAt, indexOf -/
def jHstr (G : jg) : Prop := ∀ (y : Nat) (p : Program) (l : Launch) (e : Env) (R : Room) (s : State) (m : MethodId) (args : Array Value) (below : List Frame) (meth : Method) (c : Code) (Q : State → Prop) (hE : jh) (cE sE pc : Nat) (ls : List (Option jv)) (st st' : List jv) (h : jh), jF G y p s m args meth c → (20 ≤ R.frames ∧ 5000 ≤ R.locals) → jroom R hE cE sE → jpre h hE →
  ((poc y = 4 ∧ st' = st ∧ decode (pby y) pc = .ok (.ldc 254, 2) ∧ jG G y p l e R s m args below meth c Q hE cE sE (pc + 2) ls (.inr (.inr (some jKEY)) :: st) h)
  ∨ (poc y = 4 ∧ st' = st ∧ decode (pby y) pc = .ok (.ldc_w 280, 3) ∧ jG G y p l e R s m args below meth c Q hE cE sE (pc + 3) ls (.inr (.inr (some jSIG)) :: st) h)
  ∨ (∃ k y2, jwt st ≤ 8 ∧ pml (poc y) k = some (12, y2) ∧ st' = .inr (.inr (some jKEY)) :: st ∧ decode (pby y) pc = .ok (.invokevirtual k, 3) ∧ jG G y p l e R s m args below meth c Q hE cE sE (pc + 3) ls (.inl 55 :: st) h)
  ∨ (∃ k y2 i, jwt st ≤ 8 ∧ pml (poc y) k = some (13, y2) ∧ st' = .inl i :: .inr (.inr (some jKEY)) :: st ∧ (0 ≤ i ∧ i < 55) ∧ decode (pby y) pc = .ok (.invokevirtual k, 3) ∧ jG G y p l e R s m args below meth c Q hE cE sE (pc + 3) ls (.inl (jKEYt.getD i.toNat 0) :: st) h)
  ∨ (∃ k y2 i, jwt st ≤ 8 ∧ pml (poc y) k = some (14, y2) ∧ st' = .inl i :: .inr (.inr (some jSIG)) :: st ∧ (0 ≤ i ∧ i < 65536) ∧ decode (pby y) pc = .ok (.invokevirtual k, 3) ∧ jG G y p l e R s m args below meth c Q hE cE sE (pc + 3) ls (.inl (if jSIGt.idxOf i < 8 then (jSIGt.idxOf i : Int) else -1) :: st) h)) →
  jG G y p l e R s m args below meth c Q hE cE sE pc ls st' h
section JT
variable {G : jg} {y : Nat} {p : Program} {l : Launch} {e : Env} {R : Room} {s : State} {m : MethodId} {args : Array Value} {below : List Frame} {meth : Method} {c : Code} {Q : State → Prop} {hE : jh} {cE sE : Nat} {pc len : Nat} {ls : List (Option jv)} {st : List jv} {h : jh}
variable {pc' : Nat} {ls' : List (Option jv)} {st' : List jv} {h' : jh}

theorem jgo_inv {a : Nat} {b : List (Option jv)} {d : List jv} {f : jh} (hx : jgo a b d f = some (.inl (pc', ls', st', h'))) : pc' = a ∧ ls' = b ∧ st' = d ∧ h' = f := by
  unfold jgo at hx; cases hx; exact ⟨rfl, rfl, rfl, rfl⟩
theorem jload1_inv {n k : Nat} (hx : jload1 ls n pc k st h = some (.inl (pc', ls', st', h'))) : ∃ x, ls.getD n none = some (.inl x) ∧ pc' = pc + k ∧ ls' = ls ∧ st' = .inl x :: st ∧ h' = h := by
  unfold jload1 at hx; split at hx
  · rename_i x hv; exact ⟨x, hv, jgo_inv hx⟩
  · cases hx
theorem jload2_inv {n k : Nat} (hx : jload2 ls n pc k st h = some (.inl (pc', ls', st', h'))) : ∃ x, ls.getD n none = some (.inr (.inl x)) ∧ pc' = pc + k ∧ ls' = ls ∧ st' = .inr (.inl x) :: st ∧ h' = h := by
  unfold jload2 at hx; split at hx
  · rename_i x hv; exact ⟨x, hv, jgo_inv hx⟩
  · cases hx
theorem jload3_inv {n k : Nat} (hx : jload3 ls n pc k st h = some (.inl (pc', ls', st', h'))) : ∃ x, ls.getD n none = some (.inr (.inr x)) ∧ pc' = pc + k ∧ ls' = ls ∧ st' = .inr (.inr x) :: st ∧ h' = h := by
  unfold jload3 at hx; split at hx
  · rename_i x hv; exact ⟨x, hv, jgo_inv hx⟩
  · cases hx
theorem jstor1_inv {n k : Nat} (hx : jstor1 ls n pc k st h = some (.inl (pc', ls', st', h'))) : ∃ x r, st = .inl x :: r ∧ n < ls.length ∧ pc' = pc + k ∧ ls' = jst1 ls n (.inl x) ∧ st' = r ∧ h' = h := by
  unfold jstor1 at hx; split at hx
  · rename_i x r; split at hx
    · rename_i hn; exact ⟨x, r, rfl, hn, jgo_inv hx⟩
    · cases hx
  · cases hx
theorem jstor2_inv {n k : Nat} (hx : jstor2 ls n pc k st h = some (.inl (pc', ls', st', h'))) : ∃ x r, st = .inr (.inl x) :: r ∧ n + 1 < ls.length ∧ pc' = pc + k ∧ ls' = jst2 ls n (.inr (.inl x)) ∧ st' = r ∧ h' = h := by
  unfold jstor2 at hx; split at hx
  · rename_i x r; split at hx
    · rename_i hn; exact ⟨x, r, rfl, hn, jgo_inv hx⟩
    · cases hx
  · cases hx
theorem jstor3_inv {n k : Nat} (hx : jstor3 ls n pc k st h = some (.inl (pc', ls', st', h'))) : ∃ x r, st = .inr (.inr x) :: r ∧ n < ls.length ∧ pc' = pc + k ∧ ls' = jst1 ls n (.inr (.inr x)) ∧ st' = r ∧ h' = h := by
  unfold jstor3 at hx; split at hx
  · rename_i x r; split at hx
    · rename_i hn; exact ⟨x, r, rfl, hn, jgo_inv hx⟩
    · cases hx
  · cases hx
theorem jbin_inv {f : Int → Int → Int} (hx : jbin f pc ls st h = some (.inl (pc', ls', st', h'))) : ∃ a b r, st = .inl b :: .inl a :: r ∧ pc' = pc + 1 ∧ ls' = ls ∧ st' = .inl (f a b) :: r ∧ h' = h := by
  unfold jbin at hx; split at hx
  · rename_i b a r; exact ⟨a, b, r, rfl, jgo_inv hx⟩
  · cases hx
theorem jbin2_inv {f : Int → Int → Int} (hx : jbin2 f pc ls st h = some (.inl (pc', ls', st', h'))) : ∃ a b r, st = .inr (.inl b) :: .inr (.inl a) :: r ∧ pc' = pc + 1 ∧ ls' = ls ∧ st' = .inr (.inl (f a b)) :: r ∧ h' = h := by
  unfold jbin2 at hx; split at hx
  · rename_i b a r; exact ⟨a, b, r, rfl, jgo_inv hx⟩
  · cases hx
theorem jtgt_ok {pc : Nat} {off : Int} (h : ¬ (pc : Int) + off < 0) : (pc : Int) + off = (jtgt pc off : Int) := by unfold jtgt; omega
theorem jst_sub {r : List jv} {a : jv} (q : jok ls (a :: r)) : jok ls r := jok_pop q
theorem jt_iconst (F : jF G y p s m args meth c) {n : Int} (hx : pjx y (.iconst n) pc ls st h = some (.inl (pc', ls', st', h'))) (hd : decode (pby y) pc = .ok (.iconst n, 1)) (k : jG G y p l e R s m args below meth c Q hE cE sE pc' ls' st' h') : jG G y p l e R s m args below meth c Q hE cE sE pc ls st h := by
  replace hx : (if -128 ≤ n ∧ n < 128 then jgo (pc + 1) ls (.inl n :: st) h else none) = some (.inl (pc', ls', st', h')) := hx
  split at hx
  · rename_i hn; obtain ⟨rfl, rfl, rfl, rfl⟩ := jgo_inv hx; exact js_iconst F hn hd k
  · cases hx
theorem jt_bipush (F : jF G y p s m args meth c) {n : Int} (hx : pjx y (.bipush n) pc ls st h = some (.inl (pc', ls', st', h'))) (hd : decode (pby y) pc = .ok (.bipush n, 2)) (k : jG G y p l e R s m args below meth c Q hE cE sE pc' ls' st' h') : jG G y p l e R s m args below meth c Q hE cE sE pc ls st h := by
  replace hx : (if -128 ≤ n ∧ n < 128 then jgo (pc + 2) ls (.inl n :: st) h else none) = some (.inl (pc', ls', st', h')) := hx
  split at hx
  · rename_i hn; obtain ⟨rfl, rfl, rfl, rfl⟩ := jgo_inv hx; exact js_bipush F hn hd k
  · cases hx
theorem jt_sipush (F : jF G y p s m args meth c) {n : Int} (hx : pjx y (.sipush n) pc ls st h = some (.inl (pc', ls', st', h'))) (hd : decode (pby y) pc = .ok (.sipush n, 3)) (k : jG G y p l e R s m args below meth c Q hE cE sE pc' ls' st' h') : jG G y p l e R s m args below meth c Q hE cE sE pc ls st h := by
  replace hx : (if -32768 ≤ n ∧ n < 32768 then jgo (pc + 3) ls (.inl n :: st) h else none) = some (.inl (pc', ls', st', h')) := hx
  split at hx
  · rename_i hn; obtain ⟨rfl, rfl, rfl, rfl⟩ := jgo_inv hx; exact js_sipush F hn hd k
  · cases hx
theorem jt_lconst (F : jF G y p s m args meth c) {n : Fin 2} (hx : pjx y (.lconst n) pc ls st h = some (.inl (pc', ls', st', h'))) (hd : decode (pby y) pc = .ok (.lconst n, 1)) (k : jG G y p l e R s m args below meth c Q hE cE sE pc' ls' st' h') : jG G y p l e R s m args below meth c Q hE cE sE pc ls st h := by
  obtain ⟨rfl, rfl, rfl, rfl⟩ := jgo_inv (a := pc + 1) (b := ls) (d := .inr (.inl (n.val : Int)) :: st) (f := h) hx
  exact js_lconst F hd k
theorem jt_null (F : jF G y p s m args meth c) (hx : pjx y (.aconst_null) pc ls st h = some (.inl (pc', ls', st', h'))) (hd : decode (pby y) pc = .ok (.aconst_null, 1)) (k : jG G y p l e R s m args below meth c Q hE cE sE pc' ls' st' h') : jG G y p l e R s m args below meth c Q hE cE sE pc ls st h := by
  obtain ⟨rfl, rfl, rfl, rfl⟩ := jgo_inv (a := pc + 1) (b := ls) (d := .inr (.inr none) :: st) (f := h) hx
  exact js_null F hd k
theorem jt_iload_n (F : jF G y p s m args meth c) {n : Fin 4} (hx : pjx y (.iload_n n) pc ls st h = some (.inl (pc', ls', st', h'))) (hd : decode (pby y) pc = .ok (.iload_n n, 1)) (k : jG G y p l e R s m args below meth c Q hE cE sE pc' ls' st' h') : jG G y p l e R s m args below meth c Q hE cE sE pc ls st h := by
  obtain ⟨x, hv, rfl, rfl, rfl, rfl⟩ := jload1_inv (n := n.val) (k := 1) hx
  exact js_load F (n := n.val) (len := 1) hv (fun H locs cells slots lsr hl kk => lv_iload_n F.1.1 F.1.2 hd rfl hl kk) k
theorem jt_iload (F : jF G y p s m args meth c) {n : Nat} (hx : pjx y (.iload n) pc ls st h = some (.inl (pc', ls', st', h'))) (hd : decode (pby y) pc = .ok (.iload n, 2)) (k : jG G y p l e R s m args below meth c Q hE cE sE pc' ls' st' h') : jG G y p l e R s m args below meth c Q hE cE sE pc ls st h := by
  obtain ⟨x, hv, rfl, rfl, rfl, rfl⟩ := jload1_inv (n := n) (k := 2) hx
  exact js_load F (n := n) (len := 2) hv (fun H locs cells slots lsr hl kk => lv_iload F.1.1 F.1.2 hd hl kk) k
theorem jt_lload_n (F : jF G y p s m args meth c) {n : Fin 4} (hx : pjx y (.lload_n n) pc ls st h = some (.inl (pc', ls', st', h'))) (hd : decode (pby y) pc = .ok (.lload_n n, 1)) (k : jG G y p l e R s m args below meth c Q hE cE sE pc' ls' st' h') : jG G y p l e R s m args below meth c Q hE cE sE pc ls st h := by
  obtain ⟨x, hv, rfl, rfl, rfl, rfl⟩ := jload2_inv (n := n.val) (k := 1) hx
  exact js_load F (n := n.val) (len := 1) hv (fun H locs cells slots lsr hl kk => lv_lload_n F.1.1 F.1.2 hd rfl hl kk) k
theorem jt_lload (F : jF G y p s m args meth c) {n : Nat} (hx : pjx y (.lload n) pc ls st h = some (.inl (pc', ls', st', h'))) (hd : decode (pby y) pc = .ok (.lload n, 2)) (k : jG G y p l e R s m args below meth c Q hE cE sE pc' ls' st' h') : jG G y p l e R s m args below meth c Q hE cE sE pc ls st h := by
  obtain ⟨x, hv, rfl, rfl, rfl, rfl⟩ := jload2_inv (n := n) (k := 2) hx
  exact js_load F (n := n) (len := 2) hv (fun H locs cells slots lsr hl kk => lv_lload F.1.1 F.1.2 hd hl kk) k
theorem jt_aload_n (F : jF G y p s m args meth c) {n : Fin 4} (hx : pjx y (.aload_n n) pc ls st h = some (.inl (pc', ls', st', h'))) (hd : decode (pby y) pc = .ok (.aload_n n, 1)) (k : jG G y p l e R s m args below meth c Q hE cE sE pc' ls' st' h') : jG G y p l e R s m args below meth c Q hE cE sE pc ls st h := by
  obtain ⟨x, hv, rfl, rfl, rfl, rfl⟩ := jload3_inv (n := n.val) (k := 1) hx
  refine js_load F (n := n.val) (len := 1) hv (fun H locs cells slots lsr hl kk => ?_) k
  cases x with
  | none => exact lv_aload_nN F.1.1 F.1.2 hd rfl hl kk
  | some x => exact lv_aload_n F.1.1 F.1.2 hd rfl hl kk
theorem jt_aload (F : jF G y p s m args meth c) {n : Nat} (hx : pjx y (.aload n) pc ls st h = some (.inl (pc', ls', st', h'))) (hd : decode (pby y) pc = .ok (.aload n, 2)) (k : jG G y p l e R s m args below meth c Q hE cE sE pc' ls' st' h') : jG G y p l e R s m args below meth c Q hE cE sE pc ls st h := by
  obtain ⟨x, hv, rfl, rfl, rfl, rfl⟩ := jload3_inv (n := n) (k := 2) hx
  refine js_load F (n := n) (len := 2) hv (fun H locs cells slots lsr hl kk => ?_) k
  cases x with
  | none => exact lv_aloadN F.1.1 F.1.2 hd hl kk
  | some x => exact lv_aload F.1.1 F.1.2 hd hl kk
theorem jt_istore_n (F : jF G y p s m args meth c) {n : Fin 4} (hx : pjx y (.istore_n n) pc ls st h = some (.inl (pc', ls', st', h'))) (hd : decode (pby y) pc = .ok (.istore_n n, 1)) (k : jG G y p l e R s m args below meth c Q hE cE sE pc' ls' st' h') : jG G y p l e R s m args below meth c Q hE cE sE pc ls st h := by
  obtain ⟨x, r, rfl, hn, rfl, rfl, rfl, rfl⟩ := jstor1_inv (n := n.val) (k := 1) hx
  exact js_store F (n := n.val) (len := 1) hn (fun H locs cells slots lsr hl hn2 kk => lv_istore_n F.1.1 F.1.2 hd rfl hl hn2 rfl (fun lsr' h' => kk lsr' h')) k
theorem jt_lstore_n (F : jF G y p s m args meth c) {n : Fin 4} (hx : pjx y (.lstore_n n) pc ls st h = some (.inl (pc', ls', st', h'))) (hd : decode (pby y) pc = .ok (.lstore_n n, 1)) (k : jG G y p l e R s m args below meth c Q hE cE sE pc' ls' st' h') : jG G y p l e R s m args below meth c Q hE cE sE pc ls st h := by
  obtain ⟨x, r, rfl, hn, rfl, rfl, rfl, rfl⟩ := jstor2_inv (n := n.val) (k := 1) hx
  exact js_store2 F (n := n.val) (len := 1) hn (fun H locs cells slots lsr hl hn2 kk => lv_lstore_n F.1.1 F.1.2 hd rfl hl hn2 rfl (fun lsr' h' => kk lsr' h')) k
theorem jt_astore_n (F : jF G y p s m args meth c) {n : Fin 4} (hx : pjx y (.astore_n n) pc ls st h = some (.inl (pc', ls', st', h'))) (hd : decode (pby y) pc = .ok (.astore_n n, 1)) (k : jG G y p l e R s m args below meth c Q hE cE sE pc' ls' st' h') : jG G y p l e R s m args below meth c Q hE cE sE pc ls st h := by
  obtain ⟨x, r, rfl, hn, rfl, rfl, rfl, rfl⟩ := jstor3_inv (n := n.val) (k := 1) hx
  refine js_store F (n := n.val) (len := 1) hn (fun H locs cells slots lsr hl hn2 kk => ?_) k
  cases x with
  | none => exact lv_astore_nN F.1.1 F.1.2 hd rfl hl hn2 rfl (fun lsr' h' => kk lsr' h')
  | some x => exact lv_astore_n F.1.1 F.1.2 hd rfl hl hn2 rfl (fun lsr' h' => kk lsr' h')
theorem jt_istore (F : jF G y p s m args meth c) {n : Nat} (hx : pjx y (.istore n) pc ls st h = some (.inl (pc', ls', st', h'))) (hd : decode (pby y) pc = .ok (.istore n, 2)) (k : jG G y p l e R s m args below meth c Q hE cE sE pc' ls' st' h') : jG G y p l e R s m args below meth c Q hE cE sE pc ls st h := by
  obtain ⟨x, r, rfl, hn, rfl, rfl, rfl, rfl⟩ := jstor1_inv (n := n) (k := 2) hx
  exact js_store F (n := n) (len := 2) hn (fun H locs cells slots lsr hl hn2 kk => lv_istore F.1.1 F.1.2 hd hl hn2 rfl (fun lsr' h' => kk lsr' h')) k
theorem jt_lstore (F : jF G y p s m args meth c) {n : Nat} (hx : pjx y (.lstore n) pc ls st h = some (.inl (pc', ls', st', h'))) (hd : decode (pby y) pc = .ok (.lstore n, 2)) (k : jG G y p l e R s m args below meth c Q hE cE sE pc' ls' st' h') : jG G y p l e R s m args below meth c Q hE cE sE pc ls st h := by
  obtain ⟨x, r, rfl, hn, rfl, rfl, rfl, rfl⟩ := jstor2_inv (n := n) (k := 2) hx
  exact js_store2 F (n := n) (len := 2) hn (fun H locs cells slots lsr hl hn2 kk => lv_lstore F.1.1 F.1.2 hd hl hn2 rfl (fun lsr' h' => kk lsr' h')) k
theorem jt_astore (F : jF G y p s m args meth c) {n : Nat} (hx : pjx y (.astore n) pc ls st h = some (.inl (pc', ls', st', h'))) (hd : decode (pby y) pc = .ok (.astore n, 2)) (k : jG G y p l e R s m args below meth c Q hE cE sE pc' ls' st' h') : jG G y p l e R s m args below meth c Q hE cE sE pc ls st h := by
  obtain ⟨x, r, rfl, hn, rfl, rfl, rfl, rfl⟩ := jstor3_inv (n := n) (k := 2) hx
  refine js_store F (n := n) (len := 2) hn (fun H locs cells slots lsr hl hn2 kk => ?_) k
  cases x with
  | none => exact lv_astoreN F.1.1 F.1.2 hd hl hn2 rfl (fun lsr' h' => kk lsr' h')
  | some x => exact lv_astore F.1.1 F.1.2 hd hl hn2 rfl (fun lsr' h' => kk lsr' h')
theorem jt_iinc (F : jF G y p s m args meth c) {n : Nat} {d : Int} (hx : pjx y (.iinc n d) pc ls st h = some (.inl (pc', ls', st', h'))) (hd : decode (pby y) pc = .ok (.iinc n d, 3)) (k : jG G y p l e R s m args below meth c Q hE cE sE pc' ls' st' h') : jG G y p l e R s m args below meth c Q hE cE sE pc ls st h := by
  replace hx : (match ls.getD n none with | some (.inl x) => jgo (pc + 3) (jst1 ls n (.inl (w32 (x + d)))) st h | _ => none) = some (.inl (pc', ls', st', h')) := hx
  split at hx
  · rename_i x hv
    obtain ⟨rfl, rfl, rfl, rfl⟩ := jgo_inv hx
    have hn : n < ls.length := by
      by_cases q : n < ls.length
      · exact q
      · rw [List.getD_eq_getElem?_getD, List.getElem?_eq_none (by omega)] at hv; cases hv
    intro H locs cells slots lsr hW hS hz hl hn2 ho hc hs
    obtain ⟨q0, hq0, hq1⟩ := List.getElem_of_mem (mem_jla.mpr ⟨_, hv, rfl⟩ : (n, jsv G (.inl x)) ∈ jla G ls)
    refine lv_iinc F.1.1 F.1.2 hd hl (k := q0) (v := Int32.ofInt (w32 (x + d))) (by rw [List.getElem?_eq_getElem hq0, hq1]; rfl) (by rw [o32_add]) (by omega) rfl (fun lsr' h' => ?_)
    exact k H locs cells slots lsr' hW hS hz (jla_st1 hn h') (by rw [jst1_len]; exact hn2) (jok_st1 hn ho (r32_w _)) hc hs
  · cases hx
theorem jt_iadd (F : jF G y p s m args meth c) (hx : pjx y (.iadd) pc ls st h = some (.inl (pc', ls', st', h'))) (hd : decode (pby y) pc = .ok (.iadd, 1)) (k : jG G y p l e R s m args below meth c Q hE cE sE pc' ls' st' h') : jG G y p l e R s m args below meth c Q hE cE sE pc ls st h := by
  obtain ⟨a, b, r, rfl, rfl, rfl, rfl, rfl⟩ := jbin_inv (f := fun a b => w32 (a + b)) hx
  exact js_bin F (f := fun a b => w32 (a + b)) (g := fun u v => u + v) (fun ha hb => ⟨o32_add a b, r32_w _⟩) (fun H locs cells slots lsr kk => lv_iadd F.1.1 F.1.2 hd kk) k
theorem jt_isub (F : jF G y p s m args meth c) (hx : pjx y (.isub) pc ls st h = some (.inl (pc', ls', st', h'))) (hd : decode (pby y) pc = .ok (.isub, 1)) (k : jG G y p l e R s m args below meth c Q hE cE sE pc' ls' st' h') : jG G y p l e R s m args below meth c Q hE cE sE pc ls st h := by
  obtain ⟨a, b, r, rfl, rfl, rfl, rfl, rfl⟩ := jbin_inv (f := fun a b => w32 (a - b)) hx
  exact js_bin F (f := fun a b => w32 (a - b)) (g := fun u v => u - v) (fun ha hb => ⟨o32_sub a b, r32_w _⟩) (fun H locs cells slots lsr kk => lv_isub F.1.1 F.1.2 hd kk) k
theorem jt_imul (F : jF G y p s m args meth c) (hx : pjx y (.imul) pc ls st h = some (.inl (pc', ls', st', h'))) (hd : decode (pby y) pc = .ok (.imul, 1)) (k : jG G y p l e R s m args below meth c Q hE cE sE pc' ls' st' h') : jG G y p l e R s m args below meth c Q hE cE sE pc ls st h := by
  obtain ⟨a, b, r, rfl, rfl, rfl, rfl, rfl⟩ := jbin_inv (f := fun a b => w32 (a * b)) hx
  exact js_bin F (f := fun a b => w32 (a * b)) (g := fun u v => u * v) (fun ha hb => ⟨o32_mul a b, r32_w _⟩) (fun H locs cells slots lsr kk => lv_imul F.1.1 F.1.2 hd kk) k
theorem jt_iand (F : jF G y p s m args meth c) (hx : pjx y (.iand) pc ls st h = some (.inl (pc', ls', st', h'))) (hd : decode (pby y) pc = .ok (.iand, 1)) (k : jG G y p l e R s m args below meth c Q hE cE sE pc' ls' st' h') : jG G y p l e R s m args below meth c Q hE cE sE pc ls st h := by
  obtain ⟨a, b, r, rfl, rfl, rfl, rfl, rfl⟩ := jbin_inv (f := jand) hx
  exact js_bin F (f := jand) (g := fun u v => u &&& v) (fun ha hb => ⟨o32_and a b, r32_w _⟩) (fun H locs cells slots lsr kk => lv_iand F.1.1 F.1.2 hd kk) k
theorem jt_ior (F : jF G y p s m args meth c) (hx : pjx y (.ior) pc ls st h = some (.inl (pc', ls', st', h'))) (hd : decode (pby y) pc = .ok (.ior, 1)) (k : jG G y p l e R s m args below meth c Q hE cE sE pc' ls' st' h') : jG G y p l e R s m args below meth c Q hE cE sE pc ls st h := by
  obtain ⟨a, b, r, rfl, rfl, rfl, rfl, rfl⟩ := jbin_inv (f := jor) hx
  exact js_bin F (f := jor) (g := fun u v => u ||| v) (fun ha hb => ⟨o32_or a b, r32_w _⟩) (fun H locs cells slots lsr kk => lv_ior F.1.1 F.1.2 hd kk) k
theorem jt_ixor (F : jF G y p s m args meth c) (hx : pjx y (.ixor) pc ls st h = some (.inl (pc', ls', st', h'))) (hd : decode (pby y) pc = .ok (.ixor, 1)) (k : jG G y p l e R s m args below meth c Q hE cE sE pc' ls' st' h') : jG G y p l e R s m args below meth c Q hE cE sE pc ls st h := by
  obtain ⟨a, b, r, rfl, rfl, rfl, rfl, rfl⟩ := jbin_inv (f := jxor) hx
  exact js_bin F (f := jxor) (g := fun u v => u ^^^ v) (fun ha hb => ⟨o32_xor a b, r32_w _⟩) (fun H locs cells slots lsr kk => lv_ixor F.1.1 F.1.2 hd kk) k
theorem jt_ishl (F : jF G y p s m args meth c) (hx : pjx y (.ishl) pc ls st h = some (.inl (pc', ls', st', h'))) (hd : decode (pby y) pc = .ok (.ishl, 1)) (k : jG G y p l e R s m args below meth c Q hE cE sE pc' ls' st' h') : jG G y p l e R s m args below meth c Q hE cE sE pc ls st h := by
  obtain ⟨a, b, r, rfl, rfl, rfl, rfl, rfl⟩ := jbin_inv (f := jshl) hx
  exact js_bin F (f := jshl) (g := fun u v => u <<< (v &&& 31)) (fun ha hb => ⟨o32_shl a b, r32_w _⟩) (fun H locs cells slots lsr kk => lv_ishl F.1.1 F.1.2 hd kk) k
theorem jt_ishr (F : jF G y p s m args meth c) (hx : pjx y (.ishr) pc ls st h = some (.inl (pc', ls', st', h'))) (hd : decode (pby y) pc = .ok (.ishr, 1)) (k : jG G y p l e R s m args below meth c Q hE cE sE pc' ls' st' h') : jG G y p l e R s m args below meth c Q hE cE sE pc ls st h := by
  obtain ⟨a, b, r, rfl, rfl, rfl, rfl, rfl⟩ := jbin_inv (f := jshr) hx
  exact js_bin F (f := jshr) (g := fun u v => u >>> (v &&& 31)) (fun ha hb => ⟨o32_shr ha b, r32_shr ha b⟩) (fun H locs cells slots lsr kk => lv_ishr F.1.1 F.1.2 hd kk) k
theorem jt_iushr (F : jF G y p s m args meth c) (hx : pjx y (.iushr) pc ls st h = some (.inl (pc', ls', st', h'))) (hd : decode (pby y) pc = .ok (.iushr, 1)) (k : jG G y p l e R s m args below meth c Q hE cE sE pc' ls' st' h') : jG G y p l e R s m args below meth c Q hE cE sE pc ls st h := by
  obtain ⟨a, b, r, rfl, rfl, rfl, rfl, rfl⟩ := jbin_inv (f := jush) hx
  exact js_bin F (f := jush) (g := fun u v => (u.toUInt32 >>> (v.toUInt32 &&& Int32.toUInt32 31)).toInt32) (fun ha hb => ⟨(o32_ush a b).symm, r32_w _⟩) (fun H locs cells slots lsr kk => lv_iushr F.1.1 F.1.2 hd rfl kk) k
theorem jt_ladd (F : jF G y p s m args meth c) (hx : pjx y (.ladd) pc ls st h = some (.inl (pc', ls', st', h'))) (hd : decode (pby y) pc = .ok (.ladd, 1)) (k : jG G y p l e R s m args below meth c Q hE cE sE pc' ls' st' h') : jG G y p l e R s m args below meth c Q hE cE sE pc ls st h := by
  obtain ⟨a, b, r, rfl, rfl, rfl, rfl, rfl⟩ := jbin2_inv (f := fun a b => w64 (a + b)) hx
  exact js_bin2 F (f := fun a b => w64 (a + b)) (g := fun u v => u + v) (fun ha hb => ⟨o64_add a b, r64_w _⟩) (fun H locs cells slots lsr kk => lv_ladd F.1.1 F.1.2 hd kk) k
theorem jt_lsub (F : jF G y p s m args meth c) (hx : pjx y (.lsub) pc ls st h = some (.inl (pc', ls', st', h'))) (hd : decode (pby y) pc = .ok (.lsub, 1)) (k : jG G y p l e R s m args below meth c Q hE cE sE pc' ls' st' h') : jG G y p l e R s m args below meth c Q hE cE sE pc ls st h := by
  obtain ⟨a, b, r, rfl, rfl, rfl, rfl, rfl⟩ := jbin2_inv (f := fun a b => w64 (a - b)) hx
  exact js_bin2 F (f := fun a b => w64 (a - b)) (g := fun u v => u - v) (fun ha hb => ⟨o64_sub a b, r64_w _⟩) (fun H locs cells slots lsr kk => lv_lsub F.1.1 F.1.2 hd kk) k
theorem jt_lmul (F : jF G y p s m args meth c) (hx : pjx y (.lmul) pc ls st h = some (.inl (pc', ls', st', h'))) (hd : decode (pby y) pc = .ok (.lmul, 1)) (k : jG G y p l e R s m args below meth c Q hE cE sE pc' ls' st' h') : jG G y p l e R s m args below meth c Q hE cE sE pc ls st h := by
  obtain ⟨a, b, r, rfl, rfl, rfl, rfl, rfl⟩ := jbin2_inv (f := fun a b => w64 (a * b)) hx
  exact js_bin2 F (f := fun a b => w64 (a * b)) (g := fun u v => u * v) (fun ha hb => ⟨o64_mul a b, r64_w _⟩) (fun H locs cells slots lsr kk => lv_lmul F.1.1 F.1.2 hd kk) k
theorem jt_lor (F : jF G y p s m args meth c) (hx : pjx y (.lor) pc ls st h = some (.inl (pc', ls', st', h'))) (hd : decode (pby y) pc = .ok (.lor, 1)) (k : jG G y p l e R s m args below meth c Q hE cE sE pc' ls' st' h') : jG G y p l e R s m args below meth c Q hE cE sE pc ls st h := by
  obtain ⟨a, b, r, rfl, rfl, rfl, rfl, rfl⟩ := jbin2_inv (f := jlor) hx
  exact js_bin2 F (f := jlor) (g := fun u v => u ||| v) (fun ha hb => ⟨o64_or a b, r64_w _⟩) (fun H locs cells slots lsr kk => lv_lor F.1.1 F.1.2 hd kk) k
theorem jt_lxor (F : jF G y p s m args meth c) (hx : pjx y (.lxor) pc ls st h = some (.inl (pc', ls', st', h'))) (hd : decode (pby y) pc = .ok (.lxor, 1)) (k : jG G y p l e R s m args below meth c Q hE cE sE pc' ls' st' h') : jG G y p l e R s m args below meth c Q hE cE sE pc ls st h := by
  obtain ⟨a, b, r, rfl, rfl, rfl, rfl, rfl⟩ := jbin2_inv (f := jlxor) hx
  exact js_bin2 F (f := jlxor) (g := fun u v => u ^^^ v) (fun ha hb => ⟨o64_xor a b, r64_w _⟩) (fun H locs cells slots lsr kk => lv_lxor F.1.1 F.1.2 hd kk) k
theorem jt_ineg (F : jF G y p s m args meth c) (hx : pjx y (.ineg) pc ls st h = some (.inl (pc', ls', st', h'))) (hd : decode (pby y) pc = .ok (.ineg, 1)) (k : jG G y p l e R s m args below meth c Q hE cE sE pc' ls' st' h') : jG G y p l e R s m args below meth c Q hE cE sE pc ls st h := by
  replace hx : (match st with | .inl a :: r => jgo (pc + 1) ls (.inl (w32 (-a)) :: r) h | _ => none) = some (.inl (pc', ls', st', h')) := hx
  split at hx
  · rename_i a r
    obtain ⟨rfl, rfl, rfl, rfl⟩ := jgo_inv hx
    refine js_stk (pc' := pc + 1) (st' := .inl (w32 (-a)) :: r) (fun H locs cells slots lsr ho kk => ?_) (fun ho => jok_push (jok_pop ho) (r32_w _)) k
    refine lv_ineg F.1.1 F.1.2 hd ?_
    rw [← o32_neg]
    exact kk
  · cases hx
theorem jt_idiv (F : jF G y p s m args meth c) (hx : pjx y (.idiv) pc ls st h = some (.inl (pc', ls', st', h'))) (hd : decode (pby y) pc = .ok (.idiv, 1)) (k : jG G y p l e R s m args below meth c Q hE cE sE pc' ls' st' h') : jG G y p l e R s m args below meth c Q hE cE sE pc ls st h := by
  replace hx : (match st with | .inl b :: .inl a :: r => if b = 0 then none else jgo (pc + 1) ls (.inl (w32 (a.tdiv b)) :: r) h | _ => none) = some (.inl (pc', ls', st', h')) := hx
  split at hx
  · rename_i b a r
    split at hx
    · cases hx
    · rename_i hg
      obtain ⟨rfl, rfl, rfl, rfl⟩ := jgo_inv hx
      refine js_stk (pc' := pc + 1) (st' := .inl (w32 (a.tdiv b)) :: r) (fun H locs cells slots lsr ho kk => ?_) (fun ho => jok_push (jok_pop (jok_pop ho)) (r32_w _)) k
      refine lv_idiv F.1.1 F.1.2 hd (by rw [← o32_0, o32_eq (jok_top ho) r32_0]; exact hg) ?_
      rw [← o32_div (jok_top (jok_pop ho)) (jok_top ho)]
      exact kk
  · cases hx
theorem jt_irem (F : jF G y p s m args meth c) (hx : pjx y (.irem) pc ls st h = some (.inl (pc', ls', st', h'))) (hd : decode (pby y) pc = .ok (.irem, 1)) (k : jG G y p l e R s m args below meth c Q hE cE sE pc' ls' st' h') : jG G y p l e R s m args below meth c Q hE cE sE pc ls st h := by
  replace hx : (match st with | .inl b :: .inl a :: r => if b = 0 then none else jgo (pc + 1) ls (.inl (a.tmod b) :: r) h | _ => none) = some (.inl (pc', ls', st', h')) := hx
  split at hx
  · rename_i b a r
    split at hx
    · cases hx
    · rename_i hg
      obtain ⟨rfl, rfl, rfl, rfl⟩ := jgo_inv hx
      refine js_stk (pc' := pc + 1) (st' := .inl (a.tmod b) :: r) (fun H locs cells slots lsr ho kk => ?_) (fun ho => jok_push (jok_pop (jok_pop ho)) (r32_tmod (jok_top (jok_pop ho)))) k
      refine lv_irem F.1.1 F.1.2 hd (by rw [← o32_0, o32_eq (jok_top ho) r32_0]; exact hg) ?_
      rw [← o32_rem (jok_top (jok_pop ho)) (jok_top ho)]
      exact kk
  · cases hx
theorem jt_lshl (F : jF G y p s m args meth c) (hx : pjx y (.lshl) pc ls st h = some (.inl (pc', ls', st', h'))) (hd : decode (pby y) pc = .ok (.lshl, 1)) (k : jG G y p l e R s m args below meth c Q hE cE sE pc' ls' st' h') : jG G y p l e R s m args below meth c Q hE cE sE pc ls st h := by
  replace hx : (match st with | .inl b :: .inr (.inl a) :: r => jgo (pc + 1) ls (.inr (.inl (jlshl a b)) :: r) h | _ => none) = some (.inl (pc', ls', st', h')) := hx
  split at hx
  · rename_i b a r
    obtain ⟨rfl, rfl, rfl, rfl⟩ := jgo_inv hx
    refine js_stk (pc' := pc + 1) (st' := .inr (.inl (jlshl a b)) :: r) (fun H locs cells slots lsr ho kk => ?_) (fun ho => jok_push (jok_pop (jok_pop ho)) (r64_w _)) k
    exact lv_lshl F.1.1 F.1.2 hd (o64_shl a (jok_top ho)) kk
  · cases hx
theorem jt_lushr (F : jF G y p s m args meth c) (hx : pjx y (.lushr) pc ls st h = some (.inl (pc', ls', st', h'))) (hd : decode (pby y) pc = .ok (.lushr, 1)) (k : jG G y p l e R s m args below meth c Q hE cE sE pc' ls' st' h') : jG G y p l e R s m args below meth c Q hE cE sE pc ls st h := by
  replace hx : (match st with | .inl b :: .inr (.inl a) :: r => jgo (pc + 1) ls (.inr (.inl (jlush a b)) :: r) h | _ => none) = some (.inl (pc', ls', st', h')) := hx
  split at hx
  · rename_i b a r
    obtain ⟨rfl, rfl, rfl, rfl⟩ := jgo_inv hx
    refine js_stk (pc' := pc + 1) (st' := .inr (.inl (jlush a b)) :: r) (fun H locs cells slots lsr ho kk => ?_) (fun ho => jok_push (jok_pop (jok_pop ho)) (r64_w _)) k
    exact lv_lushr F.1.1 F.1.2 hd (o64_ush a (jok_top ho)) kk
  · cases hx
theorem jt_lcmp (F : jF G y p s m args meth c) (hx : pjx y (.lcmp) pc ls st h = some (.inl (pc', ls', st', h'))) (hd : decode (pby y) pc = .ok (.lcmp, 1)) (k : jG G y p l e R s m args below meth c Q hE cE sE pc' ls' st' h') : jG G y p l e R s m args below meth c Q hE cE sE pc ls st h := by
  replace hx : (match st with | .inr (.inl b) :: .inr (.inl a) :: r => jgo (pc + 1) ls (.inl (jlcmp a b) :: r) h | _ => none) = some (.inl (pc', ls', st', h')) := hx
  split at hx
  · rename_i b a r
    obtain ⟨rfl, rfl, rfl, rfl⟩ := jgo_inv hx
    refine js_stk (pc' := pc + 1) (st' := .inl (jlcmp a b) :: r) (fun H locs cells slots lsr ho kk => ?_) (fun ho => jok_push (jok_pop (jok_pop ho)) (show r32 _ by unfold jlcmp r32; split <;> (try split) <;> omega)) k
    refine W.lcmp F.1.1 F.1.2 hd ?_
    rw [o64_cmp (jok_top (jok_pop ho)) (jok_top ho)]
    exact kk
  · cases hx
theorem jt_i2l (F : jF G y p s m args meth c) (hx : pjx y (.i2l) pc ls st h = some (.inl (pc', ls', st', h'))) (hd : decode (pby y) pc = .ok (.i2l, 1)) (k : jG G y p l e R s m args below meth c Q hE cE sE pc' ls' st' h') : jG G y p l e R s m args below meth c Q hE cE sE pc ls st h := by
  replace hx : (match st with | .inl a :: r => jgo (pc + 1) ls (.inr (.inl a) :: r) h | _ => none) = some (.inl (pc', ls', st', h')) := hx
  split at hx
  · rename_i a r
    obtain ⟨rfl, rfl, rfl, rfl⟩ := jgo_inv hx
    refine js_stk (pc' := pc + 1) (st' := .inr (.inl a) :: r) (fun H locs cells slots lsr ho kk => ?_) (fun ho => jok_push (jok_pop ho) (show r64 a by have h9 : r32 a := jok_top ho; unfold r32 at h9; unfold r64; omega)) k
    exact lv_i2l F.1.1 F.1.2 hd (i2l_o (jok_top ho)) kk
  · cases hx
theorem jt_l2i (F : jF G y p s m args meth c) (hx : pjx y (.l2i) pc ls st h = some (.inl (pc', ls', st', h'))) (hd : decode (pby y) pc = .ok (.l2i, 1)) (k : jG G y p l e R s m args below meth c Q hE cE sE pc' ls' st' h') : jG G y p l e R s m args below meth c Q hE cE sE pc ls st h := by
  replace hx : (match st with | .inr (.inl a) :: r => jgo (pc + 1) ls (.inl (w32 a) :: r) h | _ => none) = some (.inl (pc', ls', st', h')) := hx
  split at hx
  · rename_i a r
    obtain ⟨rfl, rfl, rfl, rfl⟩ := jgo_inv hx
    refine js_stk (pc' := pc + 1) (st' := .inl (w32 a) :: r) (fun H locs cells slots lsr ho kk => ?_) (fun ho => jok_push (jok_pop ho) (r32_w _)) k
    exact lv_l2i F.1.1 F.1.2 hd (l2i_o (jok_top ho)) kk
  · cases hx
theorem jt_i2c (F : jF G y p s m args meth c) (hx : pjx y (.i2c) pc ls st h = some (.inl (pc', ls', st', h'))) (hd : decode (pby y) pc = .ok (.i2c, 1)) (k : jG G y p l e R s m args below meth c Q hE cE sE pc' ls' st' h') : jG G y p l e R s m args below meth c Q hE cE sE pc ls st h := by
  replace hx : (match st with | .inl a :: r => jgo (pc + 1) ls (.inl (a % 65536) :: r) h | _ => none) = some (.inl (pc', ls', st', h')) := hx
  split at hx
  · rename_i a r
    obtain ⟨rfl, rfl, rfl, rfl⟩ := jgo_inv hx
    refine js_stk (pc' := pc + 1) (st' := .inl (a % 65536) :: r) (fun H locs cells slots lsr ho kk => ?_) (fun ho => jok_push (jok_pop ho) (show r32 _ by unfold r32; omega)) k
    exact lv_i2c F.1.1 F.1.2 hd (i2c_o a) kk
  · cases hx
theorem jt_pop (F : jF G y p s m args meth c) (hx : pjx y (.pop) pc ls st h = some (.inl (pc', ls', st', h'))) (hd : decode (pby y) pc = .ok (.pop, 1)) (k : jG G y p l e R s m args below meth c Q hE cE sE pc' ls' st' h') : jG G y p l e R s m args below meth c Q hE cE sE pc ls st h := by
  replace hx : (match st with | .inl _ :: r => jgo (pc + 1) ls r h | .inr (.inr _) :: r => jgo (pc + 1) ls r h | _ => none) = some (.inl (pc', ls', st', h')) := hx
  split at hx
  · rename_i a r; obtain ⟨rfl, rfl, rfl, rfl⟩ := jgo_inv hx; exact js_stk (pc' := pc + 1) (fun H locs cells slots lsr ho kk => lv_pop F.1.1 F.1.2 hd (va := jsv G (.inl a)) (jsv_cat G _) kk) (fun ho => jok_pop ho) k
  · rename_i a r; obtain ⟨rfl, rfl, rfl, rfl⟩ := jgo_inv hx; exact js_stk (pc' := pc + 1) (fun H locs cells slots lsr ho kk => lv_pop F.1.1 F.1.2 hd (va := jsv G (.inr (.inr a))) (jsv_cat G _) kk) (fun ho => jok_pop ho) k
  · cases hx
theorem jt_dup (F : jF G y p s m args meth c) (hx : pjx y (.dup) pc ls st h = some (.inl (pc', ls', st', h'))) (hd : decode (pby y) pc = .ok (.dup, 1)) (k : jG G y p l e R s m args below meth c Q hE cE sE pc' ls' st' h') : jG G y p l e R s m args below meth c Q hE cE sE pc ls st h := by
  replace hx : (match st with | .inl a :: r => jgo (pc + 1) ls (.inl a :: .inl a :: r) h | .inr (.inr a) :: r => jgo (pc + 1) ls (.inr (.inr a) :: .inr (.inr a) :: r) h | _ => none) = some (.inl (pc', ls', st', h')) := hx
  split at hx
  · rename_i a r; obtain ⟨rfl, rfl, rfl, rfl⟩ := jgo_inv hx; exact js_stk (pc' := pc + 1) (st' := .inl a :: .inl a :: r) (fun H locs cells slots lsr ho kk => lv_dup F.1.1 F.1.2 hd (va := jsv G (.inl a)) (jsv_cat G _) kk) (fun ho => jok_push ho (jok_top ho)) k
  · rename_i a r; obtain ⟨rfl, rfl, rfl, rfl⟩ := jgo_inv hx; exact js_stk (pc' := pc + 1) (st' := .inr (.inr a) :: .inr (.inr a) :: r) (fun H locs cells slots lsr ho kk => lv_dup F.1.1 F.1.2 hd (va := jsv G (.inr (.inr a))) (jsv_cat G _) kk) (fun ho => jok_push ho trivial) k
  · cases hx
theorem jt_dup2 (F : jF G y p s m args meth c) (hx : pjx y (.dup2) pc ls st h = some (.inl (pc', ls', st', h'))) (hd : decode (pby y) pc = .ok (.dup2, 1)) (k : jG G y p l e R s m args below meth c Q hE cE sE pc' ls' st' h') : jG G y p l e R s m args below meth c Q hE cE sE pc ls st h := by
  replace hx : (match st with | .inl a :: .inr (.inr b) :: r => jgo (pc + 1) ls (.inl a :: .inr (.inr b) :: .inl a :: .inr (.inr b) :: r) h | _ => none) = some (.inl (pc', ls', st', h')) := hx
  split at hx
  · rename_i a b r
    obtain ⟨rfl, rfl, rfl, rfl⟩ := jgo_inv hx
    refine js_stk (pc' := pc + 1) (st' := .inl a :: .inr (.inr b) :: .inl a :: .inr (.inr b) :: r) (fun H locs cells slots lsr ho kk => ?_) (fun ho => jok_push (jok_push ho (jok_top (jok_pop ho))) (jok_top ho)) k
    exact lv_dup2_11 F.1.1 F.1.2 hd (va := jsv G (.inl a)) (vb := jsv G (.inr (.inr b))) (jsv_cat G _) (jsv_cat G _) kk
  · cases hx
theorem jt_if_eq (F : jF G y p s m args meth c) {off : Int} (hx : pjx y (.ifCond .eq off) pc ls st h = some (.inl (pc', ls', st', h'))) (hd : decode (pby y) pc = .ok (.ifCond .eq off, 3)) (k : jG G y p l e R s m args below meth c Q hE cE sE pc' ls' st' h') : jG G y p l e R s m args below meth c Q hE cE sE pc ls st h := by
  replace hx : (match st with | .inl a :: r => if (pc : Int) + off < 0 then none else jgo (if a = 0 then (jtgt pc off) else (pc + 3)) ls r h | _ => none) = some (.inl (pc', ls', st', h')) := hx
  split at hx
  · rename_i a r
    split at hx
    · cases hx
    · rename_i hg
      obtain ⟨rfl, rfl, rfl, rfl⟩ := jgo_inv hx
      refine js_br (st' := st') (fun H locs cells slots lsr ho kt kf => ?_) (fun ho => jok_pop ho) k
      exact lv_if_eq F.1.1 F.1.2 hd (jtgt_ok hg) (fun q => kt ((o32_eq (jok_top ho) r32_0).mp q)) (fun q => kf (fun z => q ((o32_eq (jok_top ho) r32_0).mpr z)))
  · cases hx
theorem jt_icmp_eq (F : jF G y p s m args meth c) {off : Int} (hx : pjx y (.if_icmp .eq off) pc ls st h = some (.inl (pc', ls', st', h'))) (hd : decode (pby y) pc = .ok (.if_icmp .eq off, 3)) (k : jG G y p l e R s m args below meth c Q hE cE sE pc' ls' st' h') : jG G y p l e R s m args below meth c Q hE cE sE pc ls st h := by
  replace hx : (match st with | .inl b :: .inl a :: r => if (pc : Int) + off < 0 then none else jgo (if a = b then (jtgt pc off) else (pc + 3)) ls r h | _ => none) = some (.inl (pc', ls', st', h')) := hx
  split at hx
  · rename_i b a r
    split at hx
    · cases hx
    · rename_i hg
      obtain ⟨rfl, rfl, rfl, rfl⟩ := jgo_inv hx
      refine js_br (st' := st') (fun H locs cells slots lsr ho kt kf => ?_) (fun ho => jok_pop (jok_pop ho)) k
      exact lv_icmp_eq F.1.1 F.1.2 hd (jtgt_ok hg) (fun q => kt ((o32_eq (jok_top (jok_pop ho)) (jok_top ho)).mp q)) (fun q => kf (fun z => q ((o32_eq (jok_top (jok_pop ho)) (jok_top ho)).mpr z)))
  · cases hx
theorem jt_if_ne (F : jF G y p s m args meth c) {off : Int} (hx : pjx y (.ifCond .ne off) pc ls st h = some (.inl (pc', ls', st', h'))) (hd : decode (pby y) pc = .ok (.ifCond .ne off, 3)) (k : jG G y p l e R s m args below meth c Q hE cE sE pc' ls' st' h') : jG G y p l e R s m args below meth c Q hE cE sE pc ls st h := by
  replace hx : (match st with | .inl a :: r => if (pc : Int) + off < 0 then none else jgo (if a = 0 then (pc + 3) else (jtgt pc off)) ls r h | _ => none) = some (.inl (pc', ls', st', h')) := hx
  split at hx
  · rename_i a r
    split at hx
    · cases hx
    · rename_i hg
      obtain ⟨rfl, rfl, rfl, rfl⟩ := jgo_inv hx
      refine js_br (st' := st') (fun H locs cells slots lsr ho kt kf => ?_) (fun ho => jok_pop ho) k
      exact lv_if_ne F.1.1 F.1.2 hd (jtgt_ok hg) (fun q => kf (fun z => q ((o32_eq (jok_top ho) r32_0).mpr z))) (fun q => kt ((o32_eq (jok_top ho) r32_0).mp q))
  · cases hx
theorem jt_icmp_ne (F : jF G y p s m args meth c) {off : Int} (hx : pjx y (.if_icmp .ne off) pc ls st h = some (.inl (pc', ls', st', h'))) (hd : decode (pby y) pc = .ok (.if_icmp .ne off, 3)) (k : jG G y p l e R s m args below meth c Q hE cE sE pc' ls' st' h') : jG G y p l e R s m args below meth c Q hE cE sE pc ls st h := by
  replace hx : (match st with | .inl b :: .inl a :: r => if (pc : Int) + off < 0 then none else jgo (if a = b then (pc + 3) else (jtgt pc off)) ls r h | _ => none) = some (.inl (pc', ls', st', h')) := hx
  split at hx
  · rename_i b a r
    split at hx
    · cases hx
    · rename_i hg
      obtain ⟨rfl, rfl, rfl, rfl⟩ := jgo_inv hx
      refine js_br (st' := st') (fun H locs cells slots lsr ho kt kf => ?_) (fun ho => jok_pop (jok_pop ho)) k
      exact lv_icmp_ne F.1.1 F.1.2 hd (jtgt_ok hg) (fun q => kf (fun z => q ((o32_eq (jok_top (jok_pop ho)) (jok_top ho)).mpr z))) (fun q => kt ((o32_eq (jok_top (jok_pop ho)) (jok_top ho)).mp q))
  · cases hx
theorem jt_if_lt (F : jF G y p s m args meth c) {off : Int} (hx : pjx y (.ifCond .lt off) pc ls st h = some (.inl (pc', ls', st', h'))) (hd : decode (pby y) pc = .ok (.ifCond .lt off, 3)) (k : jG G y p l e R s m args below meth c Q hE cE sE pc' ls' st' h') : jG G y p l e R s m args below meth c Q hE cE sE pc ls st h := by
  replace hx : (match st with | .inl a :: r => if (pc : Int) + off < 0 then none else jgo (if a < 0 then (jtgt pc off) else (pc + 3)) ls r h | _ => none) = some (.inl (pc', ls', st', h')) := hx
  split at hx
  · rename_i a r
    split at hx
    · cases hx
    · rename_i hg
      obtain ⟨rfl, rfl, rfl, rfl⟩ := jgo_inv hx
      refine js_br (st' := st') (fun H locs cells slots lsr ho kt kf => ?_) (fun ho => jok_pop ho) k
      exact lv_if_lt F.1.1 F.1.2 hd (jtgt_ok hg) (fun q => kt ((o32_lt (jok_top ho) r32_0).mp q)) (fun q => kf (fun z => q ((o32_lt (jok_top ho) r32_0).mpr z)))
  · cases hx
theorem jt_icmp_lt (F : jF G y p s m args meth c) {off : Int} (hx : pjx y (.if_icmp .lt off) pc ls st h = some (.inl (pc', ls', st', h'))) (hd : decode (pby y) pc = .ok (.if_icmp .lt off, 3)) (k : jG G y p l e R s m args below meth c Q hE cE sE pc' ls' st' h') : jG G y p l e R s m args below meth c Q hE cE sE pc ls st h := by
  replace hx : (match st with | .inl b :: .inl a :: r => if (pc : Int) + off < 0 then none else jgo (if a < b then (jtgt pc off) else (pc + 3)) ls r h | _ => none) = some (.inl (pc', ls', st', h')) := hx
  split at hx
  · rename_i b a r
    split at hx
    · cases hx
    · rename_i hg
      obtain ⟨rfl, rfl, rfl, rfl⟩ := jgo_inv hx
      refine js_br (st' := st') (fun H locs cells slots lsr ho kt kf => ?_) (fun ho => jok_pop (jok_pop ho)) k
      exact lv_icmp_lt F.1.1 F.1.2 hd (jtgt_ok hg) (fun q => kt ((o32_lt (jok_top (jok_pop ho)) (jok_top ho)).mp q)) (fun q => kf (fun z => q ((o32_lt (jok_top (jok_pop ho)) (jok_top ho)).mpr z)))
  · cases hx
theorem jt_if_ge (F : jF G y p s m args meth c) {off : Int} (hx : pjx y (.ifCond .ge off) pc ls st h = some (.inl (pc', ls', st', h'))) (hd : decode (pby y) pc = .ok (.ifCond .ge off, 3)) (k : jG G y p l e R s m args below meth c Q hE cE sE pc' ls' st' h') : jG G y p l e R s m args below meth c Q hE cE sE pc ls st h := by
  replace hx : (match st with | .inl a :: r => if (pc : Int) + off < 0 then none else jgo (if a < 0 then (pc + 3) else (jtgt pc off)) ls r h | _ => none) = some (.inl (pc', ls', st', h')) := hx
  split at hx
  · rename_i a r
    split at hx
    · cases hx
    · rename_i hg
      obtain ⟨rfl, rfl, rfl, rfl⟩ := jgo_inv hx
      refine js_br (st' := st') (fun H locs cells slots lsr ho kt kf => ?_) (fun ho => jok_pop ho) k
      exact lv_if_ge F.1.1 F.1.2 hd (jtgt_ok hg) (fun q => kf (by have := (o32_le r32_0 (jok_top ho)).mp q; omega)) (fun q => kt (Classical.byContradiction fun z => q ((o32_le r32_0 (jok_top ho)).mpr (by omega))))
  · cases hx
theorem jt_icmp_ge (F : jF G y p s m args meth c) {off : Int} (hx : pjx y (.if_icmp .ge off) pc ls st h = some (.inl (pc', ls', st', h'))) (hd : decode (pby y) pc = .ok (.if_icmp .ge off, 3)) (k : jG G y p l e R s m args below meth c Q hE cE sE pc' ls' st' h') : jG G y p l e R s m args below meth c Q hE cE sE pc ls st h := by
  replace hx : (match st with | .inl b :: .inl a :: r => if (pc : Int) + off < 0 then none else jgo (if a < b then (pc + 3) else (jtgt pc off)) ls r h | _ => none) = some (.inl (pc', ls', st', h')) := hx
  split at hx
  · rename_i b a r
    split at hx
    · cases hx
    · rename_i hg
      obtain ⟨rfl, rfl, rfl, rfl⟩ := jgo_inv hx
      refine js_br (st' := st') (fun H locs cells slots lsr ho kt kf => ?_) (fun ho => jok_pop (jok_pop ho)) k
      exact lv_icmp_ge F.1.1 F.1.2 hd (jtgt_ok hg) (fun q => kf (by have := (o32_le (jok_top ho) (jok_top (jok_pop ho))).mp q; omega)) (fun q => kt (Classical.byContradiction fun z => q ((o32_le (jok_top ho) (jok_top (jok_pop ho))).mpr (by omega))))
  · cases hx
theorem jt_if_gt (F : jF G y p s m args meth c) {off : Int} (hx : pjx y (.ifCond .gt off) pc ls st h = some (.inl (pc', ls', st', h'))) (hd : decode (pby y) pc = .ok (.ifCond .gt off, 3)) (k : jG G y p l e R s m args below meth c Q hE cE sE pc' ls' st' h') : jG G y p l e R s m args below meth c Q hE cE sE pc ls st h := by
  replace hx : (match st with | .inl a :: r => if (pc : Int) + off < 0 then none else jgo (if 0 < a then (jtgt pc off) else (pc + 3)) ls r h | _ => none) = some (.inl (pc', ls', st', h')) := hx
  split at hx
  · rename_i a r
    split at hx
    · cases hx
    · rename_i hg
      obtain ⟨rfl, rfl, rfl, rfl⟩ := jgo_inv hx
      refine js_br (st' := st') (fun H locs cells slots lsr ho kt kf => ?_) (fun ho => jok_pop ho) k
      exact lv_if_gt F.1.1 F.1.2 hd (jtgt_ok hg) (fun q => kt ((o32_lt r32_0 (jok_top ho)).mp q)) (fun q => kf (fun z => q ((o32_lt r32_0 (jok_top ho)).mpr z)))
  · cases hx
theorem jt_icmp_gt (F : jF G y p s m args meth c) {off : Int} (hx : pjx y (.if_icmp .gt off) pc ls st h = some (.inl (pc', ls', st', h'))) (hd : decode (pby y) pc = .ok (.if_icmp .gt off, 3)) (k : jG G y p l e R s m args below meth c Q hE cE sE pc' ls' st' h') : jG G y p l e R s m args below meth c Q hE cE sE pc ls st h := by
  replace hx : (match st with | .inl b :: .inl a :: r => if (pc : Int) + off < 0 then none else jgo (if b < a then (jtgt pc off) else (pc + 3)) ls r h | _ => none) = some (.inl (pc', ls', st', h')) := hx
  split at hx
  · rename_i b a r
    split at hx
    · cases hx
    · rename_i hg
      obtain ⟨rfl, rfl, rfl, rfl⟩ := jgo_inv hx
      refine js_br (st' := st') (fun H locs cells slots lsr ho kt kf => ?_) (fun ho => jok_pop (jok_pop ho)) k
      exact lv_icmp_gt F.1.1 F.1.2 hd (jtgt_ok hg) (fun q => kt ((o32_lt (jok_top ho) (jok_top (jok_pop ho))).mp q)) (fun q => kf (fun z => q ((o32_lt (jok_top ho) (jok_top (jok_pop ho))).mpr z)))
  · cases hx
theorem jt_if_le (F : jF G y p s m args meth c) {off : Int} (hx : pjx y (.ifCond .le off) pc ls st h = some (.inl (pc', ls', st', h'))) (hd : decode (pby y) pc = .ok (.ifCond .le off, 3)) (k : jG G y p l e R s m args below meth c Q hE cE sE pc' ls' st' h') : jG G y p l e R s m args below meth c Q hE cE sE pc ls st h := by
  replace hx : (match st with | .inl a :: r => if (pc : Int) + off < 0 then none else jgo (if 0 < a then (pc + 3) else (jtgt pc off)) ls r h | _ => none) = some (.inl (pc', ls', st', h')) := hx
  split at hx
  · rename_i a r
    split at hx
    · cases hx
    · rename_i hg
      obtain ⟨rfl, rfl, rfl, rfl⟩ := jgo_inv hx
      refine js_br (st' := st') (fun H locs cells slots lsr ho kt kf => ?_) (fun ho => jok_pop ho) k
      exact lv_if_le F.1.1 F.1.2 hd (jtgt_ok hg) (fun q => kf (by have := (o32_le (jok_top ho) r32_0).mp q; omega)) (fun q => kt (Classical.byContradiction fun z => q ((o32_le (jok_top ho) r32_0).mpr (by omega))))
  · cases hx
theorem jt_icmp_le (F : jF G y p s m args meth c) {off : Int} (hx : pjx y (.if_icmp .le off) pc ls st h = some (.inl (pc', ls', st', h'))) (hd : decode (pby y) pc = .ok (.if_icmp .le off, 3)) (k : jG G y p l e R s m args below meth c Q hE cE sE pc' ls' st' h') : jG G y p l e R s m args below meth c Q hE cE sE pc ls st h := by
  replace hx : (match st with | .inl b :: .inl a :: r => if (pc : Int) + off < 0 then none else jgo (if b < a then (pc + 3) else (jtgt pc off)) ls r h | _ => none) = some (.inl (pc', ls', st', h')) := hx
  split at hx
  · rename_i b a r
    split at hx
    · cases hx
    · rename_i hg
      obtain ⟨rfl, rfl, rfl, rfl⟩ := jgo_inv hx
      refine js_br (st' := st') (fun H locs cells slots lsr ho kt kf => ?_) (fun ho => jok_pop (jok_pop ho)) k
      exact lv_icmp_le F.1.1 F.1.2 hd (jtgt_ok hg) (fun q => kf (by have := (o32_le (jok_top (jok_pop ho)) (jok_top ho)).mp q; omega)) (fun q => kt (Classical.byContradiction fun z => q ((o32_le (jok_top (jok_pop ho)) (jok_top ho)).mpr (by omega))))
  · cases hx
theorem jt_ifnull (F : jF G y p s m args meth c) {off : Int} (hx : pjx y (.ifnull off) pc ls st h = some (.inl (pc', ls', st', h'))) (hd : decode (pby y) pc = .ok (.ifnull off, 3)) (k : jG G y p l e R s m args below meth c Q hE cE sE pc' ls' st' h') : jG G y p l e R s m args below meth c Q hE cE sE pc ls st h := by
  replace hx : (match st with | .inr (.inr none) :: r => if (pc : Int) + off < 0 then none else jgo (jtgt pc off) ls r h | .inr (.inr (some _)) :: r => jgo (pc + 3) ls r h | _ => none) = some (.inl (pc', ls', st', h')) := hx
  split at hx
  · rename_i r; split at hx
    · cases hx
    · rename_i hg; obtain ⟨rfl, rfl, rfl, rfl⟩ := jgo_inv hx; exact js_stk (pc' := jtgt pc off) (fun H locs cells slots lsr ho kk => lv_ifnullN F.1.1 F.1.2 hd (jtgt_ok hg) kk) (fun ho => jok_pop ho) k
  · rename_i v r; obtain ⟨rfl, rfl, rfl, rfl⟩ := jgo_inv hx; exact js_stk (pc' := pc + 3) (fun H locs cells slots lsr ho kk => lv_ifnull F.1.1 F.1.2 hd kk) (fun ho => jok_pop ho) k
  · cases hx
theorem jt_ifnonnull (F : jF G y p s m args meth c) {off : Int} (hx : pjx y (.ifnonnull off) pc ls st h = some (.inl (pc', ls', st', h'))) (hd : decode (pby y) pc = .ok (.ifnonnull off, 3)) (k : jG G y p l e R s m args below meth c Q hE cE sE pc' ls' st' h') : jG G y p l e R s m args below meth c Q hE cE sE pc ls st h := by
  replace hx : (match st with | .inr (.inr none) :: r => jgo (pc + 3) ls r h | .inr (.inr (some _)) :: r => if (pc : Int) + off < 0 then none else jgo (jtgt pc off) ls r h | _ => none) = some (.inl (pc', ls', st', h')) := hx
  split at hx
  · rename_i r; obtain ⟨rfl, rfl, rfl, rfl⟩ := jgo_inv hx; exact js_stk (pc' := pc + 3) (fun H locs cells slots lsr ho kk => lv_ifnonnullN F.1.1 F.1.2 hd kk) (fun ho => jok_pop ho) k
  · rename_i v r; split at hx
    · cases hx
    · rename_i hg; obtain ⟨rfl, rfl, rfl, rfl⟩ := jgo_inv hx; exact js_stk (pc' := jtgt pc off) (fun H locs cells slots lsr ho kk => lv_ifnonnull F.1.1 F.1.2 hd (jtgt_ok hg) kk) (fun ho => jok_pop ho) k
  · cases hx
theorem jt_goto (F : jF G y p s m args meth c) {off : Int} (hx : pjx y (.goto off) pc ls st h = some (.inl (pc', ls', st', h'))) (hd : decode (pby y) pc = .ok (.goto off, 3)) (k : jG G y p l e R s m args below meth c Q hE cE sE pc' ls' st' h') : jG G y p l e R s m args below meth c Q hE cE sE pc ls st h := by
  replace hx : (if (pc : Int) + off < 0 then none else jgo (jtgt pc off) ls st h) = some (.inl (pc', ls', st', h')) := hx
  split at hx
  · cases hx
  · rename_i hg; obtain ⟨rfl, rfl, rfl, rfl⟩ := jgo_inv hx; exact js_stk (pc' := jtgt pc off) (fun H locs cells slots lsr ho kk => lv_goto F.1.1 F.1.2 hd (jtgt_ok hg) kk) (fun ho => ho) k
end JT
