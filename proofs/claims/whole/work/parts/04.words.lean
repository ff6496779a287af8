/-! THE TABLES' WORDS: every link that the small machine follows stands in them -/
def pj_W : List Cond := lw_tbl.filter goodWord
def pj_sub : List Cond → List Cond → Bool
  | [], _ => true
  | _ :: _, [] => false
  | a :: l, b :: r => if a = b then pj_sub l r else pj_sub (a :: l) r
theorem pj_sub_mem : ∀ (r l : List Cond), pj_sub l r = true → ∀ w ∈ l, w ∈ r
  | [], [], _, w, hw => by cases hw
  | [], a :: l, h, _, _ => by simp [pj_sub] at h
  | b :: r, [], _, w, hw => by cases hw
  | b :: r, a :: l, h, w, hw => by
    unfold pj_sub at h
    by_cases hab : a = b
    · rw [if_pos hab] at h
      rcases List.mem_cons.mp hw with e | e
      · rw [e, hab]; exact List.mem_cons_self
      · exact List.mem_cons_of_mem _ (pj_sub_mem r l h w e)
    · rw [if_neg hab] at h
      exact List.mem_cons_of_mem _ (pj_sub_mem r (a :: l) h w hw)
def pj_n (y : Nat) : MethodName := (pj_m y).1
/-- a field link's word -/
def pj_fw (oc : Nat) (t : Nat × Nat × Nat) : Cond := .fieldLink (pj_C oc) t.1 (pj_C t.2.1) (pj_T t.2.1 t.2.2).2.1 (pj_T t.2.1 t.2.2).2.2.1
/-- a method link's word -/
def pj_mw (oc : Nat) (t : Nat × Nat × Nat) : Cond := match t.2.1 with
  | 4 => .methodLinkNest (pj_C oc) t.1 (pj_n t.2.2) "TurnedRing"
  | 5 => .methodLinkNest (pj_C oc) t.1 (pj_n t.2.2) "TurnedRing"
  | 6 => .methodLinkNest (pj_C oc) t.1 (pj_n t.2.2) "TurnedRing"
  | 10 => .methodLink (pj_C oc) t.1 Lib.Math.max.name
  | 11 => .methodLink (pj_C oc) t.1 Lib.Math.min.name
  | 12 => .methodLink (pj_C oc) t.1 ⟨"java/lang/String", "length", "()I"⟩
  | 13 => .methodLink (pj_C oc) t.1 ⟨"java/lang/String", "charAt", "(I)C"⟩
  | 14 => .methodLink (pj_C oc) t.1 ⟨"java/lang/String", "indexOf", "(I)I"⟩
  | 15 => .methodLink (pj_C oc) t.1 objectInit
  | 20 => .methodLink (pj_C oc) t.1 ⟨"TurnedRingLaw", "degree", "(LTurnedRing;I[J)I"⟩
  | 21 => .methodLink (pj_C oc) t.1 ⟨"TurnedRingLaw", "at", "(LTurnedRing;II[J)I"⟩
  | 22 => .methodLink (pj_C oc) t.1 ⟨"TurnedRingLaw", "result", "(LTurnedRing;II[J)I"⟩
  | _ => .methodLink (pj_C oc) t.1 (pj_n t.2.2)
/-- not by a nest mate -/
def pj_plain (t : Nat × Nat × Nat) : Bool := !(t.2.1 == 4 || t.2.1 == 5 || t.2.1 == 6)
def pj_kw (oc : Nat) (t : Nat × Nat) : Cond := .classLink (pj_C oc) t.1 (if t.2 = 100 then "[[I" else pj_C t.2)
set_option maxRecDepth 100000 in
theorem pj_fw_0 : pj_sub ((pj_fl 0).map (pj_fw 0)) pj_W = true := by decide +kernel
set_option maxRecDepth 100000 in
theorem pj_fw_1 : pj_sub ((pj_fl 1).map (pj_fw 1)) pj_W = true := by decide +kernel
set_option maxRecDepth 100000 in
theorem pj_fw_2 : pj_sub ((pj_fl 2).map (pj_fw 2)) pj_W = true := by decide +kernel
set_option maxRecDepth 100000 in
theorem pj_fw_3 : pj_sub ((pj_fl 3).map (pj_fw 3)) pj_W = true := by decide +kernel
set_option maxRecDepth 100000 in
theorem pj_fw_4 : pj_sub ((pj_fl 4).map (pj_fw 4)) pj_W = true := by decide +kernel
set_option maxRecDepth 100000 in
theorem pj_fw_5 : pj_sub ((pj_fl 5).map (pj_fw 5)) pj_W = true := by decide +kernel
set_option maxRecDepth 100000 in
theorem pj_fw_6 : pj_sub ((pj_fl 6).map (pj_fw 6)) pj_W = true := by decide +kernel
set_option maxRecDepth 100000 in
theorem pj_fw_7 : pj_sub ((pj_fl 7).map (pj_fw 7)) pj_W = true := by decide +kernel
set_option maxRecDepth 100000 in
theorem pj_fw_8 : pj_sub ((pj_fl 8).map (pj_fw 8)) pj_W = true := by decide +kernel
set_option maxRecDepth 100000 in
theorem pj_fw_9 : pj_sub ((pj_fl 9).map (pj_fw 9)) pj_W = true := by decide +kernel
set_option maxRecDepth 100000 in
theorem pj_fw_10 : pj_sub ((pj_fl 10).map (pj_fw 10)) pj_W = true := by decide +kernel
set_option maxRecDepth 100000 in
theorem pj_fw_11 : pj_sub ((pj_fl 11).map (pj_fw 11)) pj_W = true := by decide +kernel
set_option maxRecDepth 100000 in
theorem pj_fw_12 : pj_sub ((pj_fl 12).map (pj_fw 12)) pj_W = true := by decide +kernel
set_option maxRecDepth 100000 in
theorem pj_mw_0 : pj_sub (((pj_ml 0).filter pj_plain).map (pj_mw 0)) pj_W = true := by decide +kernel
set_option maxRecDepth 100000 in
theorem pj_nw_0 : pj_sub (((pj_ml 0).filter (fun t => !pj_plain t)).map (pj_mw 0)) lw_tbl = true := by decide +kernel
set_option maxRecDepth 100000 in
theorem pj_mw_1 : pj_sub (((pj_ml 1).filter pj_plain).map (pj_mw 1)) pj_W = true := by decide +kernel
set_option maxRecDepth 100000 in
theorem pj_nw_1 : pj_sub (((pj_ml 1).filter (fun t => !pj_plain t)).map (pj_mw 1)) lw_tbl = true := by decide +kernel
set_option maxRecDepth 100000 in
theorem pj_mw_2 : pj_sub (((pj_ml 2).filter pj_plain).map (pj_mw 2)) pj_W = true := by decide +kernel
set_option maxRecDepth 100000 in
theorem pj_nw_2 : pj_sub (((pj_ml 2).filter (fun t => !pj_plain t)).map (pj_mw 2)) lw_tbl = true := by decide +kernel
set_option maxRecDepth 100000 in
theorem pj_mw_3 : pj_sub (((pj_ml 3).filter pj_plain).map (pj_mw 3)) pj_W = true := by decide +kernel
set_option maxRecDepth 100000 in
theorem pj_nw_3 : pj_sub (((pj_ml 3).filter (fun t => !pj_plain t)).map (pj_mw 3)) lw_tbl = true := by decide +kernel
set_option maxRecDepth 100000 in
theorem pj_mw_4 : pj_sub (((pj_ml 4).filter pj_plain).map (pj_mw 4)) pj_W = true := by decide +kernel
set_option maxRecDepth 100000 in
theorem pj_nw_4 : pj_sub (((pj_ml 4).filter (fun t => !pj_plain t)).map (pj_mw 4)) lw_tbl = true := by decide +kernel
set_option maxRecDepth 100000 in
theorem pj_mw_5 : pj_sub (((pj_ml 5).filter pj_plain).map (pj_mw 5)) pj_W = true := by decide +kernel
set_option maxRecDepth 100000 in
theorem pj_nw_5 : pj_sub (((pj_ml 5).filter (fun t => !pj_plain t)).map (pj_mw 5)) lw_tbl = true := by decide +kernel
set_option maxRecDepth 100000 in
theorem pj_mw_6 : pj_sub (((pj_ml 6).filter pj_plain).map (pj_mw 6)) pj_W = true := by decide +kernel
set_option maxRecDepth 100000 in
theorem pj_nw_6 : pj_sub (((pj_ml 6).filter (fun t => !pj_plain t)).map (pj_mw 6)) lw_tbl = true := by decide +kernel
set_option maxRecDepth 100000 in
theorem pj_mw_7 : pj_sub (((pj_ml 7).filter pj_plain).map (pj_mw 7)) pj_W = true := by decide +kernel
set_option maxRecDepth 100000 in
theorem pj_nw_7 : pj_sub (((pj_ml 7).filter (fun t => !pj_plain t)).map (pj_mw 7)) lw_tbl = true := by decide +kernel
set_option maxRecDepth 100000 in
theorem pj_mw_8 : pj_sub (((pj_ml 8).filter pj_plain).map (pj_mw 8)) pj_W = true := by decide +kernel
set_option maxRecDepth 100000 in
theorem pj_nw_8 : pj_sub (((pj_ml 8).filter (fun t => !pj_plain t)).map (pj_mw 8)) lw_tbl = true := by decide +kernel
set_option maxRecDepth 100000 in
theorem pj_mw_9 : pj_sub (((pj_ml 9).filter pj_plain).map (pj_mw 9)) pj_W = true := by decide +kernel
set_option maxRecDepth 100000 in
theorem pj_nw_9 : pj_sub (((pj_ml 9).filter (fun t => !pj_plain t)).map (pj_mw 9)) lw_tbl = true := by decide +kernel
set_option maxRecDepth 100000 in
theorem pj_mw_10 : pj_sub (((pj_ml 10).filter pj_plain).map (pj_mw 10)) pj_W = true := by decide +kernel
set_option maxRecDepth 100000 in
theorem pj_nw_10 : pj_sub (((pj_ml 10).filter (fun t => !pj_plain t)).map (pj_mw 10)) lw_tbl = true := by decide +kernel
set_option maxRecDepth 100000 in
theorem pj_mw_11 : pj_sub (((pj_ml 11).filter pj_plain).map (pj_mw 11)) pj_W = true := by decide +kernel
set_option maxRecDepth 100000 in
theorem pj_nw_11 : pj_sub (((pj_ml 11).filter (fun t => !pj_plain t)).map (pj_mw 11)) lw_tbl = true := by decide +kernel
set_option maxRecDepth 100000 in
theorem pj_mw_12 : pj_sub (((pj_ml 12).filter pj_plain).map (pj_mw 12)) pj_W = true := by decide +kernel
set_option maxRecDepth 100000 in
theorem pj_nw_12 : pj_sub (((pj_ml 12).filter (fun t => !pj_plain t)).map (pj_mw 12)) lw_tbl = true := by decide +kernel
set_option maxRecDepth 100000 in
theorem pj_mw_13 : pj_sub (((pj_ml 13).filter pj_plain).map (pj_mw 13)) pj_W = true := by decide +kernel
set_option maxRecDepth 100000 in
theorem pj_nw_13 : pj_sub (((pj_ml 13).filter (fun t => !pj_plain t)).map (pj_mw 13)) lw_tbl = true := by decide +kernel
set_option maxRecDepth 100000 in
theorem pj_kw_0 : pj_sub ((pj_kl 0).map (pj_kw 0)) pj_W = true := by decide +kernel
set_option maxRecDepth 100000 in
theorem pj_kw_1 : pj_sub ((pj_kl 1).map (pj_kw 1)) pj_W = true := by decide +kernel
set_option maxRecDepth 100000 in
theorem pj_kw_2 : pj_sub ((pj_kl 2).map (pj_kw 2)) pj_W = true := by decide +kernel
set_option maxRecDepth 100000 in
theorem pj_kw_3 : pj_sub ((pj_kl 3).map (pj_kw 3)) pj_W = true := by decide +kernel
set_option maxRecDepth 100000 in
theorem pj_kw_4 : pj_sub ((pj_kl 4).map (pj_kw 4)) pj_W = true := by decide +kernel
set_option maxRecDepth 100000 in
theorem pj_kw_5 : pj_sub ((pj_kl 5).map (pj_kw 5)) pj_W = true := by decide +kernel
set_option maxRecDepth 100000 in
theorem pj_kw_6 : pj_sub ((pj_kl 6).map (pj_kw 6)) pj_W = true := by decide +kernel
set_option maxRecDepth 100000 in
theorem pj_kw_7 : pj_sub ((pj_kl 7).map (pj_kw 7)) pj_W = true := by decide +kernel
set_option maxRecDepth 100000 in
theorem pj_kw_8 : pj_sub ((pj_kl 8).map (pj_kw 8)) pj_W = true := by decide +kernel
set_option maxRecDepth 100000 in
theorem pj_kw_9 : pj_sub ((pj_kl 9).map (pj_kw 9)) pj_W = true := by decide +kernel
set_option maxRecDepth 100000 in
theorem pj_kw_10 : pj_sub ((pj_kl 10).map (pj_kw 10)) pj_W = true := by decide +kernel
set_option maxRecDepth 100000 in
theorem pj_kw_11 : pj_sub ((pj_kl 11).map (pj_kw 11)) pj_W = true := by decide +kernel
set_option maxRecDepth 100000 in
theorem pj_kw_12 : pj_sub ((pj_kl 12).map (pj_kw 12)) pj_W = true := by decide +kernel
set_option maxRecDepth 100000 in
theorem pj_kw_13 : pj_sub ((pj_kl 13).map (pj_kw 13)) pj_W = true := by decide +kernel
set_option maxRecDepth 100000 in
theorem pj_lw_0 : pj_sub (u_ws (pj_C 0) (pj_T 0) (pj_N 0)) pj_W = true := by decide +kernel
set_option maxRecDepth 100000 in
theorem pj_lw_1 : pj_sub (u_ws (pj_C 1) (pj_T 1) (pj_N 1)) pj_W = true := by decide +kernel
set_option maxRecDepth 100000 in
theorem pj_lw_2 : pj_sub (u_ws (pj_C 2) (pj_T 2) (pj_N 2)) pj_W = true := by decide +kernel
set_option maxRecDepth 100000 in
theorem pj_lw_3 : pj_sub (u_ws (pj_C 3) (pj_T 3) (pj_N 3)) pj_W = true := by decide +kernel
set_option maxRecDepth 100000 in
theorem pj_lw_4 : pj_sub (u_ws (pj_C 4) (pj_T 4) (pj_N 4)) pj_W = true := by decide +kernel
set_option maxRecDepth 100000 in
theorem pj_lw_5 : pj_sub (u_ws (pj_C 5) (pj_T 5) (pj_N 5)) pj_W = true := by decide +kernel
set_option maxRecDepth 100000 in
theorem pj_lw_6 : pj_sub (u_ws (pj_C 6) (pj_T 6) (pj_N 6)) pj_W = true := by decide +kernel
set_option maxRecDepth 100000 in
theorem pj_lw_7 : pj_sub (u_ws (pj_C 7) (pj_T 7) (pj_N 7)) pj_W = true := by decide +kernel
set_option maxRecDepth 100000 in
theorem pj_lw_8 : pj_sub (u_ws (pj_C 8) (pj_T 8) (pj_N 8)) pj_W = true := by decide +kernel
set_option maxRecDepth 100000 in
theorem pj_lw_9 : pj_sub (u_ws (pj_C 9) (pj_T 9) (pj_N 9)) pj_W = true := by decide +kernel
set_option maxRecDepth 100000 in
theorem pj_lw_10 : pj_sub (u_ws (pj_C 10) (pj_T 10) (pj_N 10)) pj_W = true := by decide +kernel
set_option maxRecDepth 100000 in
theorem pj_lw_11 : pj_sub (u_ws (pj_C 11) (pj_T 11) (pj_N 11)) pj_W = true := by decide +kernel
set_option maxRecDepth 100000 in
theorem pj_lw_12 : pj_sub (u_ws (pj_C 12) (pj_T 12) (pj_N 12)) pj_W = true := by decide +kernel
set_option maxRecDepth 100000 in
theorem pj_sel_ok : pj_sub (pj_selY.map fun y => Cond.selects (pj_n y).cls (pj_n y) (pj_n y)) pj_W = true := by decide +kernel
set_option maxRecDepth 100000 in
theorem pj_ins_ok : pj_sub (pj_insY.map fun y => Cond.instanceMethod (pj_n y)) pj_W = true := by decide +kernel
set_option maxRecDepth 100000 in
theorem pj_sta_ok : pj_sub (pj_staY.map fun y => Cond.static (pj_n y)) pj_W = true := by decide +kernel
set_option maxRecDepth 100000 in
theorem pj_ini_ok : ((List.range 16).all fun oc => pj_W.contains (Cond.initialized (pj_C oc))) = true := by decide +kernel
set_option maxRecDepth 100000 in
theorem pj_new_ok : ((List.range 13).all fun ci => pj_W.contains (Cond.instantiable (pj_C ci) (pj_N ci))) = true := by decide +kernel
