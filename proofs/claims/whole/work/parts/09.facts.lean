/-! facts of the tables, as the steps use them -/
def pj_ty (ci j : Nat) : FieldType := (parseFieldDescriptor (pj_T ci j).2.2.1).getD .int
def pj_isR : FieldType → Bool
  | .object _ => true
  | .array _ => true
  | _ => false
def pj_fck (ci j : Nat) : Bool := (parseFieldDescriptor (pj_T ci j).2.2.1).isSome && ((pj_T ci j).1 == pj_C ci) && (match pj_ft ci j with
  | 0 => decide (pj_ty ci j = .int)
  | 1 => decide (pj_ty ci j = .boolean)
  | 2 => decide (pj_ty ci j = .long)
  | 3 => pj_isR (pj_ty ci j)
  | _ => false) && ((List.range (pj_N ci)).all fun b => b == j || (pj_T ci j).2.1 != (pj_T ci b).2.1)
set_option maxRecDepth 100000 in
theorem pj_fck_ok : ((List.range 13).all fun ci => (List.range (pj_N ci)).all fun j => pj_fck ci j) = true := by decide +kernel
theorem pj_fck_at {ci j : Nat} (hc : ci < 13) (hj : j < pj_N ci) : pj_fck ci j = true := by
  have h := List.all_eq_true.mp pj_fck_ok ci (List.mem_range.mpr hc)
  exact List.all_eq_true.mp h j (List.mem_range.mpr hj)
theorem pj_T1 {ci j : Nat} (hc : ci < 13) (hj : j < pj_N ci) : (pj_T ci j).1 = pj_C ci := by
  have h := pj_fck_at hc hj
  unfold pj_fck at h
  simp only [Bool.and_eq_true, beq_iff_eq] at h
  exact h.1.1.2
theorem pj_Tp {ci j : Nat} (hc : ci < 13) (hj : j < pj_N ci) : parseFieldDescriptor (pj_T ci j).2.2.1 = some (pj_ty ci j) := by
  have h := pj_fck_at hc hj
  unfold pj_fck at h
  simp only [Bool.and_eq_true] at h
  have h1 := h.1.1.1
  unfold pj_ty
  cases hp : parseFieldDescriptor (pj_T ci j).2.2.1 with
  | none => rw [hp] at h1; cases h1
  | some t => rfl
theorem pj_Ty {ci j : Nat} (hc : ci < 13) (hj : j < pj_N ci) : (pj_ft ci j = 0 ∧ pj_ty ci j = .int) ∨ (pj_ft ci j = 1 ∧ pj_ty ci j = .boolean) ∨ (pj_ft ci j = 2 ∧ pj_ty ci j = .long) ∨ (pj_ft ci j = 3 ∧ pj_isR (pj_ty ci j) = true) := by
  have h := pj_fck_at hc hj
  unfold pj_fck at h
  simp only [Bool.and_eq_true] at h
  have h1 := h.1.2
  split at h1
  · rename_i e; exact Or.inl ⟨e, of_decide_eq_true h1⟩
  · rename_i e; exact Or.inr (Or.inl ⟨e, of_decide_eq_true h1⟩)
  · rename_i e; exact Or.inr (Or.inr (Or.inl ⟨e, of_decide_eq_true h1⟩))
  · rename_i e; exact Or.inr (Or.inr (Or.inr ⟨e, h1⟩))
  · cases h1
theorem pj_Tn {ci a b : Nat} (hc : ci < 13) (ha : a < pj_N ci) (hb : b < pj_N ci) (hne : a ≠ b) : (pj_T ci a).2.1 ≠ (pj_T ci b).2.1 := by
  have h := pj_fck_at hc ha
  unfold pj_fck at h
  simp only [Bool.and_eq_true] at h
  have h1 := List.all_eq_true.mp h.2 b (List.mem_range.mpr hb)
  simp only [Bool.or_eq_true, beq_iff_eq, bne_iff_ne] at h1
  rcases h1 with e | e
  · exact absurd e.symm hne
  · exact e
theorem pj_cl_at {ci : Nat} (hc : ci < 15) : pj_cl[ci]? = some (pj_C ci, pj_T ci, pj_N ci) := by
  unfold pj_cl
  rw [List.getElem?_map, List.getElem?_range hc]
  rfl
theorem pj_all13 (P : Nat → Prop) (h : ∀ n, n < 13 → P n) (hn : ∀ n, P (n + 13)) (n : Nat) : P n := by
  by_cases q : n < 13
  · exact h n q
  · have := hn (n - 13)
    rwa [show n - 13 + 13 = n by omega] at this
theorem pj_fl13 (n : Nat) : pj_fl (n + 13) = [] := rfl
theorem pj_lay {ci : Nat} (hc : ci < 13) : ∀ w ∈ u_ws (pj_C ci) (pj_T ci) (pj_N ci), w ∈ pj_W := by
  match ci, hc with
  | 0, _ => exact pj_sub_mem _ _ pj_lw_0
  | 1, _ => exact pj_sub_mem _ _ pj_lw_1
  | 2, _ => exact pj_sub_mem _ _ pj_lw_2
  | 3, _ => exact pj_sub_mem _ _ pj_lw_3
  | 4, _ => exact pj_sub_mem _ _ pj_lw_4
  | 5, _ => exact pj_sub_mem _ _ pj_lw_5
  | 6, _ => exact pj_sub_mem _ _ pj_lw_6
  | 7, _ => exact pj_sub_mem _ _ pj_lw_7
  | 8, _ => exact pj_sub_mem _ _ pj_lw_8
  | 9, _ => exact pj_sub_mem _ _ pj_lw_9
  | 10, _ => exact pj_sub_mem _ _ pj_lw_10
  | 11, _ => exact pj_sub_mem _ _ pj_lw_11
  | 12, _ => exact pj_sub_mem _ _ pj_lw_12
  | n + 13, h => exact absurd h (by omega)
theorem pj_fws (oc : Nat) : ∀ w ∈ (pj_fl oc).map (pj_fw oc), w ∈ pj_W := by
  match oc with
  | 0 => exact pj_sub_mem _ _ pj_fw_0
  | 1 => exact pj_sub_mem _ _ pj_fw_1
  | 2 => exact pj_sub_mem _ _ pj_fw_2
  | 3 => exact pj_sub_mem _ _ pj_fw_3
  | 4 => exact pj_sub_mem _ _ pj_fw_4
  | 5 => exact pj_sub_mem _ _ pj_fw_5
  | 6 => exact pj_sub_mem _ _ pj_fw_6
  | 7 => exact pj_sub_mem _ _ pj_fw_7
  | 8 => exact pj_sub_mem _ _ pj_fw_8
  | 9 => exact pj_sub_mem _ _ pj_fw_9
  | 10 => exact pj_sub_mem _ _ pj_fw_10
  | 11 => exact pj_sub_mem _ _ pj_fw_11
  | 12 => exact pj_sub_mem _ _ pj_fw_12
  | n + 13 => intro w hw; cases hw
set_option maxRecDepth 100000 in
theorem pj_flb : ((List.range 13).all fun oc => (pj_fl oc).all fun t => decide (t.2.1 < 13) && decide (t.2.2 < pj_N t.2.1)) = true := by decide +kernel
theorem pfl_ok {oc k ci j : Nat} (h : pfl oc k = some (ci, j)) : (Cond.fieldLink (pj_C oc) k (pj_C ci) (pj_T ci j).2.1 (pj_T ci j).2.2.1 ∈ pj_W) ∧ ci < 13 ∧ j < pj_N ci := by
  unfold pfl at h
  cases hf : (pj_fl oc).find? (fun t => t.1 == k) with
  | none => rw [hf] at h; cases h
  | some t =>
    rw [hf] at h
    have e : t.2 = (ci, j) := Option.some.inj h
    have hm := List.mem_of_find?_eq_some hf
    have hk : t.1 = k := by simpa using List.find?_some hf
    have ho : oc < 13 := by
      by_cases q : oc < 13
      · exact q
      · exfalso
        have hz : pj_fl oc = [] := by
          have := pj_fl13 (oc - 13)
          rwa [show oc - 13 + 13 = oc by omega] at this
        rw [hz] at hm; cases hm
    have hb := List.all_eq_true.mp (List.all_eq_true.mp pj_flb oc (List.mem_range.mpr ho)) t hm
    simp only [Bool.and_eq_true, decide_eq_true_eq] at hb
    rw [e] at hb
    refine ⟨?_, hb.1, hb.2⟩
    have hw := pj_fws oc (pj_fw oc t) (List.mem_map.mpr ⟨t, hm, rfl⟩)
    have e2 : pj_fw oc t = Cond.fieldLink (pj_C oc) k (pj_C ci) (pj_T ci j).2.1 (pj_T ci j).2.2.1 := by
      unfold pj_fw; rw [e, hk]
    rw [← e2]; exact hw
theorem pj_kws (oc : Nat) : ∀ w ∈ (pj_kl oc).map (pj_kw oc), w ∈ pj_W := by
  match oc with
  | 0 => exact pj_sub_mem _ _ pj_kw_0
  | 1 => exact pj_sub_mem _ _ pj_kw_1
  | 2 => exact pj_sub_mem _ _ pj_kw_2
  | 3 => exact pj_sub_mem _ _ pj_kw_3
  | 4 => exact pj_sub_mem _ _ pj_kw_4
  | 5 => exact pj_sub_mem _ _ pj_kw_5
  | 6 => exact pj_sub_mem _ _ pj_kw_6
  | 7 => exact pj_sub_mem _ _ pj_kw_7
  | 8 => exact pj_sub_mem _ _ pj_kw_8
  | 9 => exact pj_sub_mem _ _ pj_kw_9
  | 10 => exact pj_sub_mem _ _ pj_kw_10
  | 11 => exact pj_sub_mem _ _ pj_kw_11
  | 12 => exact pj_sub_mem _ _ pj_kw_12
  | 13 => exact pj_sub_mem _ _ pj_kw_13
  | n + 14 => intro w hw; cases hw
theorem pkl_ok {oc k ci : Nat} (h : pkl oc k = some ci) : Cond.classLink (pj_C oc) k (if ci = 100 then "[[I" else pj_C ci) ∈ pj_W := by
  unfold pkl at h
  cases hf : (pj_kl oc).find? (fun t => t.1 == k) with
  | none => rw [hf] at h; cases h
  | some t =>
    rw [hf] at h
    have e : t.2 = ci := Option.some.inj h
    have hm := List.mem_of_find?_eq_some hf
    have hk : t.1 = k := by simpa using List.find?_some hf
    have hw := pj_kws oc (pj_kw oc t) (List.mem_map.mpr ⟨t, hm, rfl⟩)
    have e2 : pj_kw oc t = Cond.classLink (pj_C oc) k (if ci = 100 then "[[I" else pj_C ci) := by
      unfold pj_kw; rw [e, hk]
    rw [← e2]; exact hw
theorem pj_mws (oc : Nat) : ∀ w ∈ ((pj_ml oc).filter pj_plain).map (pj_mw oc), w ∈ pj_W := by
  match oc with
  | 0 => exact pj_sub_mem _ _ pj_mw_0
  | 1 => exact pj_sub_mem _ _ pj_mw_1
  | 2 => exact pj_sub_mem _ _ pj_mw_2
  | 3 => exact pj_sub_mem _ _ pj_mw_3
  | 4 => exact pj_sub_mem _ _ pj_mw_4
  | 5 => exact pj_sub_mem _ _ pj_mw_5
  | 6 => exact pj_sub_mem _ _ pj_mw_6
  | 7 => exact pj_sub_mem _ _ pj_mw_7
  | 8 => exact pj_sub_mem _ _ pj_mw_8
  | 9 => exact pj_sub_mem _ _ pj_mw_9
  | 10 => exact pj_sub_mem _ _ pj_mw_10
  | 11 => exact pj_sub_mem _ _ pj_mw_11
  | 12 => exact pj_sub_mem _ _ pj_mw_12
  | 13 => exact pj_sub_mem _ _ pj_mw_13
  | n + 14 => intro w hw; cases hw
theorem pj_nws (oc : Nat) : ∀ w ∈ ((pj_ml oc).filter (fun t => !pj_plain t)).map (pj_mw oc), w ∈ lw_tbl := by
  match oc with
  | 0 => exact pj_sub_mem _ _ pj_nw_0
  | 1 => exact pj_sub_mem _ _ pj_nw_1
  | 2 => exact pj_sub_mem _ _ pj_nw_2
  | 3 => exact pj_sub_mem _ _ pj_nw_3
  | 4 => exact pj_sub_mem _ _ pj_nw_4
  | 5 => exact pj_sub_mem _ _ pj_nw_5
  | 6 => exact pj_sub_mem _ _ pj_nw_6
  | 7 => exact pj_sub_mem _ _ pj_nw_7
  | 8 => exact pj_sub_mem _ _ pj_nw_8
  | 9 => exact pj_sub_mem _ _ pj_nw_9
  | 10 => exact pj_sub_mem _ _ pj_nw_10
  | 11 => exact pj_sub_mem _ _ pj_nw_11
  | 12 => exact pj_sub_mem _ _ pj_nw_12
  | 13 => exact pj_sub_mem _ _ pj_nw_13
  | n + 14 => intro w hw; cases hw
theorem pml_ok {oc k kd y2 : Nat} (h : pml oc k = some (kd, y2)) : oc < 14 ∧ (k, kd, y2) ∈ pj_ml oc := by
  unfold pml at h
  cases hf : (pj_ml oc).find? (fun t => t.1 == k) with
  | none => rw [hf] at h; cases h
  | some t =>
    rw [hf] at h
    have e : t.2 = (kd, y2) := Option.some.inj h
    have hm := List.mem_of_find?_eq_some hf
    have hk : t.1 = k := by simpa using List.find?_some hf
    have et : t = (k, kd, y2) := by rw [← hk, ← e]
    rw [et] at hm
    refine ⟨?_, hm⟩
    by_cases q : oc < 14
    · exact q
    · exfalso
      have hz : pj_ml oc = [] := by
        have : ∀ n, pj_ml (n + 14) = [] := fun _ => rfl
        have := this (oc - 14)
        rwa [show oc - 14 + 14 = oc by omega] at this
      rw [hz] at hm; cases hm
theorem pj_ini {oc : Nat} (h : oc < 16) : Cond.initialized (pj_C oc) ∈ pj_W := by
  have := List.all_eq_true.mp pj_ini_ok oc (List.mem_range.mpr h)
  simpa using this
theorem pj_new {ci : Nat} (h : ci < 13) : Cond.instantiable (pj_C ci) (pj_N ci) ∈ pj_W := by
  have := List.all_eq_true.mp pj_new_ok ci (List.mem_range.mpr h)
  simpa using this
theorem pj_Wgood {w : Cond} (h : w ∈ pj_W) : w ∈ lw_tbl ∧ goodWord w = true := List.mem_filter.mp h
set_option maxRecDepth 100000 in
theorem pj_arr_ok : (pj_W.contains (Cond.arrayClass .int) && pj_W.contains (Cond.arrayClass .boolean) && pj_W.contains (Cond.arrayClass .long) && lw_tbl.contains (Cond.arrayOver (.object (pj_C 3))) && lw_tbl.contains (Cond.arrayOver (.object (pj_C 9))) && lw_tbl.contains (Cond.arrayOver (.object (pj_C 1))) && lw_tbl.contains (Cond.arrayOver (.array .int))) = true := by decide +kernel
set_option maxRecDepth 100000 in
theorem pj_con_ok : (pj_W.contains (Cond.constant (pj_C 12) 446 1073741824) && pj_W.contains (Cond.constant (pj_C 15) 265 1431655765) && pj_W.contains (Cond.constant (pj_C 15) 266 858993459) && pj_W.contains (Cond.constant (pj_C 15) 267 252645135) && pj_W.contains (Cond.constantLong (pj_C 12) 293 27) && pj_W.contains (Cond.constantLong (pj_C 12) 295 96)) = true := by decide +kernel

theorem pj_codes {y : Nat} (h : y < 297) : Cond.code (pj_n y) (pby y) (pmL y) (prt y) ∈ lw_tbl := by
  have key : ∀ (k n : Nat) (is : List Nat), (List.range' k n).map (fun y => Cond.code (pj_n y) (pby y) (pmL y) (prt y)) = is.filterMap (fun i => lw_tbl[i]?) → k ≤ y → y < k + n → Cond.code (pj_n y) (pby y) (pmL y) (prt y) ∈ lw_tbl := by
    intro k n is e h1 h2
    have hm : Cond.code (pj_n y) (pby y) (pmL y) (prt y) ∈ (List.range' k n).map (fun y => Cond.code (pj_n y) (pby y) (pmL y) (prt y)) := List.mem_map.mpr ⟨y, List.mem_range'_1.mpr ⟨h1, h2⟩, rfl⟩
    rw [e] at hm
    obtain ⟨i, -, hi⟩ := List.mem_filterMap.mp hm
    exact List.mem_of_getElem? hi
  by_cases q0 : y < 10
  · exact key 0 10 _ pj_cw_0 (by omega) (by omega)
  by_cases q1 : y < 20
  · exact key 10 10 _ pj_cw_1 (by omega) (by omega)
  by_cases q2 : y < 30
  · exact key 20 10 _ pj_cw_2 (by omega) (by omega)
  by_cases q3 : y < 40
  · exact key 30 10 _ pj_cw_3 (by omega) (by omega)
  by_cases q4 : y < 50
  · exact key 40 10 _ pj_cw_4 (by omega) (by omega)
  by_cases q5 : y < 60
  · exact key 50 10 _ pj_cw_5 (by omega) (by omega)
  by_cases q6 : y < 70
  · exact key 60 10 _ pj_cw_6 (by omega) (by omega)
  by_cases q7 : y < 80
  · exact key 70 10 _ pj_cw_7 (by omega) (by omega)
  by_cases q8 : y < 90
  · exact key 80 10 _ pj_cw_8 (by omega) (by omega)
  by_cases q9 : y < 100
  · exact key 90 10 _ pj_cw_9 (by omega) (by omega)
  by_cases q10 : y < 110
  · exact key 100 10 _ pj_cw_10 (by omega) (by omega)
  by_cases q11 : y < 120
  · exact key 110 10 _ pj_cw_11 (by omega) (by omega)
  by_cases q12 : y < 130
  · exact key 120 10 _ pj_cw_12 (by omega) (by omega)
  by_cases q13 : y < 140
  · exact key 130 10 _ pj_cw_13 (by omega) (by omega)
  by_cases q14 : y < 150
  · exact key 140 10 _ pj_cw_14 (by omega) (by omega)
  by_cases q15 : y < 160
  · exact key 150 10 _ pj_cw_15 (by omega) (by omega)
  by_cases q16 : y < 170
  · exact key 160 10 _ pj_cw_16 (by omega) (by omega)
  by_cases q17 : y < 180
  · exact key 170 10 _ pj_cw_17 (by omega) (by omega)
  by_cases q18 : y < 190
  · exact key 180 10 _ pj_cw_18 (by omega) (by omega)
  by_cases q19 : y < 200
  · exact key 190 10 _ pj_cw_19 (by omega) (by omega)
  by_cases q20 : y < 210
  · exact key 200 10 _ pj_cw_20 (by omega) (by omega)
  by_cases q21 : y < 220
  · exact key 210 10 _ pj_cw_21 (by omega) (by omega)
  by_cases q22 : y < 230
  · exact key 220 10 _ pj_cw_22 (by omega) (by omega)
  by_cases q23 : y < 240
  · exact key 230 10 _ pj_cw_23 (by omega) (by omega)
  by_cases q24 : y < 250
  · exact key 240 10 _ pj_cw_24 (by omega) (by omega)
  by_cases q25 : y < 260
  · exact key 250 10 _ pj_cw_25 (by omega) (by omega)
  by_cases q26 : y < 270
  · exact key 260 10 _ pj_cw_26 (by omega) (by omega)
  by_cases q27 : y < 280
  · exact key 270 10 _ pj_cw_27 (by omega) (by omega)
  by_cases q28 : y < 290
  · exact key 280 10 _ pj_cw_28 (by omega) (by omega)
  by_cases q29 : y < 297
  · exact key 290 7 _ pj_cw_29 (by omega) (by omega)
  omega
theorem pj_codesW {y : Nat} (h : y < 297) : Cond.code (pj_n y) (pby y) (pmL y) (prt y) ∈ pj_W := List.mem_filter.mpr ⟨pj_codes h, rfl⟩
def pj_yck (y : Nat) : Bool := decide ((pj_n y).cls = pj_C (poc y)) && decide (poc y < 16) && ((pj_n y).name == "<init>") == (pin y == 1) && plainName (pj_n y).cls
    && decide ((pj_n y).cls ≠ "java/lang/invoke/MethodHandle" ∧ (pj_n y).cls ≠ "java/lang/invoke/VarHandle")
    && decide ((parseMethodDescriptor (pj_n y).desc).map (fun d => d.parameters.length) = some (if pj_staY.contains y then pna y else pna y - 1)) && (pj_staY.contains y || decide (0 < pna y) && pj_insY.contains y && (pin y == 1 || pj_selY.contains y))
set_option maxRecDepth 100000 in
theorem pj_yck_ok : ((List.range 297).all pj_yck) = true := by decide +kernel
/-- a call's kind fits its method -/
def pj_mck (oc : Nat) (t : Nat × Nat × Nat) : Bool := match t.2.1 with
  | 0 => decide (t.2.2 < 297) && !pj_staY.contains t.2.2 && !(pin t.2.2 == 1) && decide (poc t.2.2 < 13)
  | 4 => decide (t.2.2 < 297) && !pj_staY.contains t.2.2 && !(pin t.2.2 == 1) && decide (poc t.2.2 < 13)
  | 2 => decide (t.2.2 < 297) && !pj_staY.contains t.2.2 && (pin t.2.2 == 1) && decide (poc t.2.2 < 13)
  | 6 => decide (t.2.2 < 297) && !pj_staY.contains t.2.2 && (pin t.2.2 == 1) && decide (poc t.2.2 < 13)
  | 1 => decide (t.2.2 < 297) && pj_staY.contains t.2.2 && (decide (poc t.2.2 = oc) || decide (poc t.2.2 < 16))
  | 5 => decide (t.2.2 < 297) && pj_staY.contains t.2.2 && decide (poc t.2.2 < 13)
  | _ => true
set_option maxRecDepth 100000 in
theorem pj_mck_ok : ((List.range 14).all fun oc => (pj_ml oc).all (pj_mck oc)) = true := by decide +kernel
