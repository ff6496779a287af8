/-! STEPS THAT MAKE CELLS, references into arrays, the small calls of the JDK -/
section JA
variable {G : jg} {y : Nat} {p : Program} {l : Launch} {e : Env} {R : Room} {s : State} {m : MethodId} {args : Array Value} {below : List Frame} {meth : Method} {c : Code} {Q : State → Prop} {hE : jh} {cE sE : Nat} {pc : Nat} {ls : List (Option jv)} {st : List jv} {h : jh}
theorem jsz_n (h : jh) (k : Nat × Nat) : jsz (nC h k) = jsz h + jks k := by
  show ((h.1 ++ [k]).map jks).sum = _
  rw [List.map_append, List.sum_append]
  simp [jsz]
theorem jlen_n (h : jh) (k : Nat × Nat) : (nC h k).1.length = h.1.length + 1 := by
  show (h.1 ++ [k]).length = _
  rw [List.length_append]; rfl
/-- the small heap still grows to hE -/
def jpre (h hE : jh) : Prop := ∃ t, hE.1 = h.1 ++ t
theorem jpre_len {h : jh} (q : jpre h hE) : h.1.length ≤ hE.1.length := by
  obtain ⟨t, e⟩ := q; rw [e, List.length_append]; omega
theorem jpre_sz {h : jh} (q : jpre h hE) : jsz h ≤ jsz hE := by
  obtain ⟨t, e⟩ := q; unfold jsz; rw [e, List.map_append, List.sum_append]; omega
theorem jpre_n {h : jh} {k : Nat × Nat} (q : jpre (nC h k) hE) : jpre h hE := by
  obtain ⟨t, e⟩ := q
  exact ⟨k :: t, by rw [e]; show (h.1 ++ [k]) ++ t = _; rw [List.append_assoc]; rfl⟩
/-- the room: where the end is known -/
def jroom (R : Room) (hE : jh) (cE sE : Nat) : Prop := cE ≤ R.cells ∧ sE ≤ R.slots ∧ hE.1.length ≤ 1000000
theorem jdef (ci cc j : Nat) (hc : ci < 13) (hj : j < pj_N ci) (hcc : cc = h.1.length) : defaultValue (pj_ty ci j) = jsv G (jfv (nC h (0, ci)) ci cc j) := by
  subst hcc
  have eR : gR (nC h (0, ci)) h.1.length j = none := if_pos rfl
  have eD : gD (nC h (0, ci)) h.1.length j = 0 := if_pos rfl
  have eL : gL (nC h (0, ci)) h.1.length j = 0 := if_pos rfl
  unfold jfv
  rcases pj_Ty hc hj with ⟨a, b⟩ | ⟨a, b⟩ | ⟨a, b⟩ | ⟨a, b⟩
  · rw [a, b, eD]; rfl
  · rw [a, b, eD]; rfl
  · rw [a, b, eL]; rfl
  · rw [a, eR]
    cases hty : pj_ty ci j <;> rw [hty] at b <;> first | exact absurd b (by decide) | rfl
theorem js_new (F : jF G y p s m args meth c) {k ci : Nat} (hk : pkl (poc y) k = some ci) (hci : ci < 13) (hd : decode (pby y) pc = .ok (.new k, 3)) (hR : jroom R hE cE sE) (hp : jpre (nC h (0, ci)) hE)
    (kk : jG G y p l e R s m args below meth c Q hE cE sE (pc + 3) ls (.inr (.inr (some h.1.length)) :: st) (nC h (0, ci))) : jG G y p l e R s m args below meth c Q hE cE sE pc ls st h := fun H locs cells slots lsr hW hS hz hl hn2 ho hc hs => by
  obtain ⟨⟨hx, hb⟩, hown, hml, hret, hlk, hin, hts, hX⟩ := F
  have f1 := pkl_ok hk
  rw [if_neg (by omega)] at f1
  have p1 := jpre_len hp
  have p2 := jpre_sz hp
  rw [jlen_n] at p1
  rw [jsz_n] at p2
  have hjk : jks (0, ci) = pj_N ci := if_neg (by omega)
  rw [hjk] at p2
  have hKn := hX.2.2.1 ci _ (pj_cl_at (by omega))
  refine W.newcK hx hb hown (hts _ f1) (hts _ (pj_new hci)) (hts _ (pj_ini (by omega))) rfl hd (by have := hR.1; omega) (by have := hR.2.1; omega) hKn.2.1 rfl fun H1 kC hkC e1 z1 o1 => ?_
  have hlen : h.1.length < 1000000 := by have := hR.2.2; omega
  have hsz := hW.1.1
  have hj : jad G h.1.length = H.size := by unfold jad; rw [if_pos hlen, hsz]
  have hat : va_at G.1 pj_cl (G.2.2.2 + h.1.length, jE G (nC h (0, ci)) h.1.length (0, ci)) H1 := by
    refine ⟨_, pj_cl_at (by omega), ?_⟩
    have hb2 := u_born (o := H.size) (pj_ty ci) hts (pj_lay hci) hKn hkC e1 (fun k hk => pj_Tp hci hk)
    rw [← hsz]
    refine hb2.to fun j hj => ?_
    unfold vp_V
    rw [List.getD_eq_getElem?_getD, jE_get hj, jdef ci h.1.length j hci hj rfl]
    rfl
  have hfin := kk H1 locs (cells + 1) (slots + pj_N ci) lsr (jW_push hW (0, ci) (Or.inl ⟨rfl, Or.inl hci⟩) hlen z1 o1 hat) ⟨by have := hS.1; omega, fun q h1 h2 => (o1 q (Nat.lt_of_lt_of_le h1 hS.1)).trans (hS.2.1 q h1 h2), hS.2.2⟩ hz hl hn2 (jok_push ho trivial) (by rw [jlen_n]; omega) (by rw [jsz_n, hjk]; omega)
  rw [List.map_cons, jsv_r, Option.map_some, hj] at hfin
  exact hfin
theorem js_newa0 (F : jF G y p s m args meth c) {at_ : ArrayType} {t n : Nat} {x : Int} (ht : t = 1 ∨ t = 2 ∨ t = 3) (hx : 0 ≤ x ∧ x ≤ 4096) (hn : x.toNat = n) (hd : decode (pby y) pc = .ok (.newarray at_, 2)) (hR : jroom R hE cE sE) (hp : jpre (nC h (t, n)) hE)
    (hw : Cond.arrayClass (newarray.typeOf at_) ∈ pj_W) (hcb : componentBytes (newarray.typeOf at_) ≤ 8) (hty : ∃ t0 : Nat, (jtys G)[t0]? = some (G.2.1 t, newarray.typeOf at_)) (hra : ∀ cA, va_RA s cA (newarray.typeOf at_) → s.vm.findClass ("[" ++ (newarray.typeOf at_).toString) = some cA)
    (hcell : ∀ cA, vp_cell cA (match jE G (nC h (t, n)) h.1.length (t, n) with | .inl a => a.2 | .inr _ => (0, .inl fun _ => 0)) = arrV cA n (fun _ => defaultValue (newarray.typeOf at_))) (hsh : ∃ z, jE G (nC h (t, n)) h.1.length (t, n) = .inl (G.2.1 t, z))
    (kk : jG G y p l e R s m args below meth c Q hE cE sE (pc + 2) ls (.inr (.inr (some h.1.length)) :: st) (nC h (t, n))) : jG G y p l e R s m args below meth c Q hE cE sE pc ls (.inl x :: st) h := fun H locs cells slots lsr hW hS hz hl hn2 ho hc hs => by
  obtain ⟨⟨hx0, hb⟩, hown, hml, hret, hlk, hin, hts, hX⟩ := F
  have p1 := jpre_len hp
  have p2 := jpre_sz hp
  rw [jlen_n] at p1
  rw [jsz_n] at p2
  have hjk : jks (t, n) = n := by rcases ht with rfl | rfl | rfl <;> rfl
  rw [hjk] at p2
  have hrx : r32 x := jok_top ho
  have hcl : (Int32.ofInt x).toNatClampNeg = n := by rw [Int32.toNatClampNeg, o32_i hrx]; exact hn
  have hlen : h.1.length < 1000000 := by have := hR.2.2; omega
  have hsz := hW.1.1
  have hj : jad G h.1.length = H.size := by unfold jad; rw [if_pos hlen, hsz]
  obtain ⟨t0, hty⟩ := hty
  have hbyt : n * componentBytes (newarray.typeOf at_) ≤ 536870912 := Nat.le_trans (Nat.mul_le_mul (show n ≤ 4096 by omega) hcb) (by omega)
  refine va_newaK (g := F0 m pc lsr (.int (Int32.ofInt x) :: st.map (jsv G))) hx0 hb (hts _ hw) rfl hd rfl (by rw [← o32_0, o32_lt hrx r32_0]; omega) hcl hbyt (by have := hR.1; omega) (by have := hR.2.1; omega) rfl fun H1 cA e1 z1 o1 hAr hNm => ?_
  have hcA : cA = G.2.1 t := Option.some.inj (hNm.symm.trans (hra _ (hX.2.2.2 t0 _ hty).2))
  obtain ⟨z, hsh⟩ := hsh
  have hat : va_at G.1 pj_cl (G.2.2.2 + h.1.length, jE G (nC h (t, n)) h.1.length (t, n)) H1 := by
    rw [hsh]
    rw [hsh] at hcell
    show H1[_]? = some (vp_cell _ _)
    rw [← hsz, e1, hcA]
    exact congrArg some (hcell (G.2.1 t)).symm
  have hfin := kk H1 locs (cells + 1) (slots + n) lsr (jW_push hW (t, n) (Or.inr ⟨by simp only; omega, by simp only; omega⟩) hlen z1 o1 hat) ⟨by have := hS.1; omega, fun q h1 h2 => (o1 q (Nat.lt_of_lt_of_le h1 hS.1)).trans (hS.2.1 q h1 h2), hS.2.2⟩ hz hl hn2 (jok_push (jok_pop ho) trivial) (by rw [jlen_n]; omega) (by rw [jsz_n, hjk]; omega)
  rw [List.map_cons, jsv_r, Option.map_some, hj] at hfin
  exact hfin
theorem pj_arrs : (Cond.arrayClass .int ∈ pj_W ∧ Cond.arrayClass .boolean ∈ pj_W ∧ Cond.arrayClass .long ∈ pj_W) ∧ Cond.arrayOver (.object (pj_C 3)) ∈ lw_tbl ∧ Cond.arrayOver (.object (pj_C 9)) ∈ lw_tbl ∧ Cond.arrayOver (.object (pj_C 1)) ∈ lw_tbl ∧ Cond.arrayOver (.array .int) ∈ lw_tbl := by
  have h := pj_arr_ok
  simp only [Bool.and_eq_true, List.contains_iff_mem] at h
  exact ⟨⟨h.1.1.1.1.1.1, h.1.1.1.1.1.2, h.1.1.1.1.2⟩, h.1.1.1.2, h.1.1.2, h.1.2, h.2⟩
theorem jnew_D (h : jh) (k : Nat × Nat) : (fun i => Int32.ofInt (gD (nC h k) h.1.length i)) = fun _ => 0 := by
  funext i
  have : gD (nC h k) h.1.length i = 0 := if_pos rfl
  rw [this]; rfl
theorem jnew_L (h : jh) (k : Nat × Nat) : (fun i => Int64.ofInt (gL (nC h k) h.1.length i)) = fun _ => 0 := by
  funext i
  have : gL (nC h k) h.1.length i = 0 := if_pos rfl
  rw [this]; rfl
theorem js_newI (F : jF G y p s m args meth c) {x : Int} (hx : 0 ≤ x ∧ x ≤ 4096) (hd : decode (pby y) pc = .ok (.newarray .int, 2)) (hR : jroom R hE cE sE) (hp : jpre (nC h (1, x.toNat)) hE)
    (kk : jG G y p l e R s m args below meth c Q hE cE sE (pc + 2) ls (.inr (.inr (some h.1.length)) :: st) (nC h (1, x.toNat))) : jG G y p l e R s m args below meth c Q hE cE sE pc ls (.inl x :: st) h :=
  js_newa0 F (Or.inl rfl) hx rfl hd hR hp pj_arrs.1.1 (by decide) ⟨0, rfl⟩ (fun _ q => q) (fun cA => by show vp_cell cA (x.toNat, .inl fun i => Int32.ofInt (gD (nC h (1, x.toNat)) h.1.length i)) = _; rw [jnew_D]; rfl) ⟨_, rfl⟩ kk
theorem js_newZ (F : jF G y p s m args meth c) {x : Int} (hx : 0 ≤ x ∧ x ≤ 4096) (hd : decode (pby y) pc = .ok (.newarray .boolean, 2)) (hR : jroom R hE cE sE) (hp : jpre (nC h (2, x.toNat)) hE)
    (kk : jG G y p l e R s m args below meth c Q hE cE sE (pc + 2) ls (.inr (.inr (some h.1.length)) :: st) (nC h (2, x.toNat))) : jG G y p l e R s m args below meth c Q hE cE sE pc ls (.inl x :: st) h :=
  js_newa0 F (Or.inr (Or.inl rfl)) hx rfl hd hR hp pj_arrs.1.2.1 (by decide) ⟨1, rfl⟩ (fun _ q => q) (fun cA => by show vp_cell cA (x.toNat, .inl fun i => Int32.ofInt (gD (nC h (2, x.toNat)) h.1.length i)) = _; rw [jnew_D]; rfl) ⟨_, rfl⟩ kk
theorem js_newL (F : jF G y p s m args meth c) {x : Int} (hx : 0 ≤ x ∧ x ≤ 4096) (hd : decode (pby y) pc = .ok (.newarray .long, 2)) (hR : jroom R hE cE sE) (hp : jpre (nC h (3, x.toNat)) hE)
    (kk : jG G y p l e R s m args below meth c Q hE cE sE (pc + 2) ls (.inr (.inr (some h.1.length)) :: st) (nC h (3, x.toNat))) : jG G y p l e R s m args below meth c Q hE cE sE pc ls (.inl x :: st) h :=
  js_newa0 F (Or.inr (Or.inr rfl)) hx rfl hd hR hp pj_arrs.1.2.2 (by decide) ⟨2, rfl⟩ (fun _ q => q) (fun cA => by show vp_cell cA (x.toNat, .inr (.inl fun i => Int64.ofInt (gL (nC h (3, x.toNat)) h.1.length i))) = _; rw [jnew_L]; rfl) ⟨_, rfl⟩ kk
theorem js_anew (F : jF G y p s m args meth c) {k ci : Nat} {x : Int} (hk : pkl (poc y) k = some ci) (hci : ci = 3 ∨ ci = 9 ∨ ci = 1) (hx : 0 ≤ x ∧ x ≤ 4096) (hd : decode (pby y) pc = .ok (.anewarray k, 3)) (hR : jroom R hE cE sE) (hp : jpre (nC h (4 + ci, x.toNat)) hE)
    (kk : jG G y p l e R s m args below meth c Q hE cE sE (pc + 3) ls (.inr (.inr (some h.1.length)) :: st) (nC h (4 + ci, x.toNat))) : jG G y p l e R s m args below meth c Q hE cE sE pc ls (.inl x :: st) h := fun H locs cells slots lsr hW hS hz hl hn2 ho hc hs => by
  obtain ⟨⟨hx0, hb⟩, hown, hml, hret, hlk, hin, hts, hX⟩ := F
  have f1 := pkl_ok hk
  rw [if_neg (by omega)] at f1
  have p1 := jpre_len hp
  have p2 := jpre_sz hp
  rw [jlen_n] at p1
  rw [jsz_n] at p2
  have hjk : jks (4 + ci, x.toNat) = x.toNat := by rcases hci with rfl | rfl | rfl <;> rfl
  rw [hjk] at p2
  have hrx : r32 x := jok_top ho
  have hcl : (Int32.ofInt x).toNatClampNeg = x.toNat := by rw [Int32.toNatClampNeg, o32_i hrx]
  have hlen : h.1.length < 1000000 := by have := hR.2.2; omega
  have hsz := hW.1.1
  have hj : jad G h.1.length = H.size := by unfold jad; rw [if_pos hlen, hsz]
  have hao : va_AO (pj_C ci) s := by
    rcases hci with rfl | rfl | rfl
    · exact hX.2.1.1
    · exact hX.2.1.2.1
    · exact hX.2.1.2.2.1
  have hko : jkok (4 + ci, x.toNat) := Or.inr ⟨by simp only; omega, by simp only; omega⟩
  obtain ⟨t0, ty, g1, -, -, -, -, g3⟩ := jty_at G hko (by omega)
  have hty := (g3 ci (by omega) (by omega)).1
  refine W.anew (g := F0 m pc lsr (.int (Int32.ofInt x) :: st.map (jsv G))) hx0 hb hown (hts _ f1) (va_AO.use hao) rfl hd rfl (by rw [← o32_0, o32_lt hrx r32_0]; omega) (by rw [hcl]; omega) (by have := hR.1; omega) (by rw [hcl]; have := hR.2.1; omega) fun cA kA comp q1 q2 q3 q4 => ?_
  have hcA : cA = G.2.1 (4 + ci) := by
    have hra := (hX.2.2.2 t0 _ g1).2
    simp only [hty] at hra
    obtain ⟨_, _, -, -, -, r4⟩ := hra
    exact Option.some.inj (q1.symm.trans r4)
  rw [hcl]
  generalize hH1 : H.push ({ cls := cA, slots := Array.replicate x.toNat .null, vm := .none } : Cell) = H1
  have z1 : H1.size = H.size + 1 := by rw [← hH1, Array.size_push]
  have e1 : H1[H.size]? = some (arrV cA x.toNat (fun _ => .null)) := by rw [← hH1, Array.getElem?_push_size, ← arrV_new]
  have o1 : ∀ q : Nat, q < H.size → H1[q]? = H[q]? := fun q hq => by rw [← hH1, Array.getElem?_push, if_neg (Nat.ne_of_lt hq)]
  have hje : jE G (nC h (4 + ci, x.toNat)) h.1.length (4 + ci, x.toNat) = .inl (G.2.1 (4 + ci), x.toNat, .inr (.inr (.inr (.inr fun i => none)))) := by
    rw [show 4 + ci = ci + 4 by omega]
    show Sum.inl _ = _
    have : (fun i => (gR (nC h (ci + 4, x.toNat)) h.1.length i).map (jad G)) = fun _ => none := by
      funext i
      have : gR (nC h (ci + 4, x.toNat)) h.1.length i = none := if_pos rfl
      rw [this]; rfl
    rw [this]
  have hat : va_at G.1 pj_cl (G.2.2.2 + h.1.length, jE G (nC h (4 + ci, x.toNat)) h.1.length (4 + ci, x.toNat)) H1 := by
    rw [hje]
    show H1[_]? = some (vp_cell _ _)
    rw [← hsz, e1, hcA, vp_cell_q]; rfl
  have hfin := kk H1 locs (cells + 1) (slots + x.toNat) lsr (jW_push hW _ hko hlen z1 o1 hat) ⟨by have := hS.1; omega, fun q h1 h2 => (o1 q (Nat.lt_of_lt_of_le h1 hS.1)).trans (hS.2.1 q h1 h2), hS.2.2⟩ hz hl hn2 (jok_push (jok_pop ho) trivial) (by rw [jlen_n]; omega) (by rw [jsz_n, hjk]; omega)
  rw [List.map_cons, jsv_r, Option.map_some, hj] at hfin
  exact hfin
end JA
