/-! THE TWO TEXTS: indexOf; the steps that hold texts -/
section STR3
variable {G : jg} {l : Launch}
/-- the first place of cb -/
def jix (cb : Int32) : List Int32 → Nat → Int32
  | [], _ => -1
  | b :: r, k => if b = cb then Int32.ofNat k else jix cb r (k + 1)
def jB1 : List Int32 := jTbb.getD 1 []
theorem jm_xf : ∀ k : Nat, k < 8 → (¬ (8 : Int32) ≤ Int32.ofNat k ∧ ¬ Int32.ofNat k < 0) ∧ (Int32.ofNat k).toNatClampNeg = k ∧ Int32.ofNat k + Int32.ofInt 1 = Int32.ofNat (k + 1) ∧ jB1.drop k = jB1.getD k 0 :: jB1.drop (k + 1) := by decide +kernel
theorem jm_xin {k : Nat} (hk : k < 8) : vp_in (Int32.ofNat k) 8 := by
  obtain ⟨⟨-, h1⟩, h3, -⟩ := jm_xf k hk
  rintro (q | q)
  · exact h1 q
  · rw [h3] at q; omega
theorem jm_ich {t : Nat} {c : Int32} : jSm G l jnIch prog_24_method_23_code 6 (some .int) 0 100 (some (t, 1)) [.ref t, .int c, .int 0, .int 8] (some (.int (jix c.toInt8.toInt32 jB1 0))) := by
  refine jSof jS_plain.2.1 (show 4 ≤ 6 by omega) ?_
  intro p e s m below meth cd lsr hx hb hml hown hts hr hlk hJ hz hxx hS hl hret
  have hT := (hxx t 1 rfl).2
  have loop : ∀ (j k : Nat), j + k = 8 → jix c.toInt8.toInt32 (jB1.drop k) k = jix c.toInt8.toInt32 jB1 0 → ∀ ls : Array Slot, lv_has ls 6 [(5, .int (Int32.ofNat k)), (4, .int c.toInt8.toInt32), (0, .ref t), (1, .int c), (2, .int 0), (3, .int 8)] →
      W p l e { frames := 0, cells := 0, slots := 0, locals := 100 } s m ([.ref t, .int c, .int 0, .int 8] : List Value).toArray below meth cd s.heap [] 0 0 (MQ below (jSQ (some (.int (jix c.toInt8.toInt32 jB1 0)))) ([.ref t, .int c, .int 0, .int 8] : List Value).toArray s 0 0 (fun _ => False)) (F0 m 7 ls []) := by
    intro j
    induction j with
    | zero =>
      intro k hk hv ls hl
      obtain rfl : k = 8 := by omega
      refine lv_iload (i := 5) hx hb (by decide +kernel) (lv_at hl 0 rfl) ?_
      refine lv_iload_n (k := 3) (i := 3) hx hb (by decide +kernel) rfl (lv_at hl 5 rfl) ?_
      refine lv_icmp_ge (off := 21) (tgt := 31) hx hb (by decide +kernel) (by decide) (fun _ => ?_) (fun q => absurd (by decide) q)
      refine lv_iconst (n := -1) hx hb (by decide +kernel) rfl ?_
      exact hret .int _ _ _ rfl rfl (by rw [← hv]; rfl) (by decide +kernel)
    | succ j ih =>
      intro k hk hv ls hl
      obtain ⟨⟨f1, -⟩, f2, f3, f4⟩ := jm_xf k (by omega)
      refine lv_iload (i := 5) hx hb (by decide +kernel) (lv_at hl 0 rfl) ?_
      refine lv_iload_n (k := 3) (i := 3) hx hb (by decide +kernel) rfl (lv_at hl 5 rfl) ?_
      refine lv_icmp_ge (off := 21) (tgt := 31) hx hb (by decide +kernel) (by decide) (fun q => absurd q f1) (fun _ => ?_)
      refine lv_aload_n (k := 0) (i := 0) hx hb (by decide +kernel) rfl (lv_at hl 2 rfl) ?_
      refine lv_iload (i := 5) hx hb (by decide +kernel) (lv_at hl 0 rfl) ?_
      refine va_tb (v := .int (jB1.getD k 0)) hx hb hT hS (jm_xin (by omega)) (by show Value.int (jB1.getD (Int32.ofNat k).toNatClampNeg 0) = _; rw [f2]) (by decide +kernel) ?_
      refine lv_iload (i := 4) hx hb (by decide +kernel) (lv_at hl 1 rfl) ?_
      rw [f4] at hv
      unfold jix at hv
      refine lv_icmp_ne (off := 6) (tgt := 25) hx hb (by decide +kernel) (by decide) (fun q => ?_) (fun q => ?_)
      · rw [if_neg q] at hv
        refine lv_iinc (i := 5) (n := 1) hx hb (by decide +kernel) hl (k := 0) rfl f3 (by omega) rfl fun ls' hl' => ?_
        refine lv_goto (off := -21) (tgt := 7) hx hb (by decide +kernel) (by decide) ?_
        exact ih (k + 1) (by omega) hv ls' hl'
      · rw [if_pos q] at hv
        refine lv_iload (i := 5) hx hb (by decide +kernel) (lv_at hl 0 rfl) ?_
        exact hret .int _ _ _ rfl rfl (congrArg (fun z => some (Value.int z)) (show jix c.toInt8.toInt32 jB1 0 = Int32.ofNat k from hv.symm)) (by decide +kernel)
  refine lv_iload_n (k := 1) (i := 1) hx hb (by decide +kernel) rfl (lv_at hl 1 rfl) ?_
  refine lv_i2b hx hb (by decide +kernel) rfl ?_
  refine lv_istore (i := 4) hx hb (by decide +kernel) hl (by omega) rfl fun ls1 hl1 => ?_
  refine lv_iload_n (k := 2) (i := 2) hx hb (by decide +kernel) rfl (lv_at hl1 3 rfl) ?_
  refine lv_istore (i := 5) hx hb (by decide +kernel) hl1 (by omega) rfl fun ls2 hl2 => ?_
  exact loop 8 0 rfl rfl ls2 hl2
theorem jm_can {c : Int32} (h0 : ¬ c < 0) : jSm G l jnCan prog_24_method_4_code 1 (some .boolean) 0 100 none [.int c] (some (.int (if 255 < c then 0 else 1))) := by
  refine jSof jS_plain.2.1 (Nat.le_refl _) ?_
  intro p e s m below meth cd lsr hx hb hml hown hts hr hlk hJ hz hxx hS hl hret
  refine lv_iload_n (k := 0) (i := 0) hx hb (by decide +kernel) rfl (lv_at hl 0 rfl) ?_
  refine lv_if_lt (off := 14) (tgt := 15) hx hb (by decide +kernel) (by decide) (fun q => absurd q h0) fun _ => ?_
  refine lv_iload_n (k := 0) (i := 0) hx hb (by decide +kernel) rfl (lv_at hl 0 rfl) ?_
  refine lv_sipush (n := 255) (v := 255) hx hb (by decide +kernel) (by decide) ?_
  refine lv_icmp_gt (off := 7) (tgt := 15) hx hb (by decide +kernel) (by decide) (fun q => ?_) (fun q => ?_)
  · refine lv_iconst (n := 0) hx hb (by decide +kernel) rfl ?_
    exact hret .boolean _ _ _ rfl rfl (by rw [if_pos q]; rfl) (by decide +kernel)
  · refine lv_iconst (n := 1) hx hb (by decide +kernel) rfl ?_
    refine lv_goto (off := 4) (tgt := 16) hx hb (by decide +kernel) (by decide) ?_
    exact hret .boolean _ _ _ rfl rfl (by rw [if_neg q]; rfl) (by decide +kernel)
theorem jm_np4 {α : Type} {a b c d : α} : (parseMethodDescriptor jnIch.desc).map (fun d => d.parameters.length) = some [a, b, c, d].length := by
  show _ = some 4
  decide +kernel
theorem jm_np5 {α : Type} {a b c d : α} : (parseMethodDescriptor jnLix.desc).map (fun d => d.parameters.length) = some [a, b, c, d].length := by
  show _ = some 4
  decide +kernel
theorem jm_np6 {α : Type} {a : α} : (parseMethodDescriptor jnCan.desc).map (fun d => d.parameters.length) = some [a].length := by
  show _ = some 1
  decide +kernel
theorem jm_np7 {α : Type} {a b : α} : (parseMethodDescriptor jnIx2.desc).map (fun d => d.parameters.length) = some [a, b].length := by
  show _ = some 2
  decide +kernel
theorem jm_np8 {α : Type} {a : α} : (parseMethodDescriptor jnIx1.desc).map (fun d => d.parameters.length) = some [a].length := by
  show _ = some 1
  decide +kernel
theorem jm_np9 {α : Type} {a : α} : (parseMethodDescriptor jnCha.desc).map (fun d => d.parameters.length) = some [a].length := by
  show _ = some 1
  decide +kernel
def jxr (c : Int32) : Int32 := if 255 < c then -1 else jix c.toInt8.toInt32 jB1 0
theorem jm_lix {t : Nat} {c : Int32} (h0 : ¬ c < 0) : jSm G l jnLix prog_24_method_22_code 4 (some .int) 2 300 (some (t, 1)) [.ref t, .int c, .int 0, .int 8] (some (.int (jxr c))) := by
  refine jSof jS_plain.2.1 (show 4 ≤ 4 by omega) ?_
  intro p e s m below meth cd lsr hx hb hml hown hts hr hlk hJ hz hxx hS hl hret
  have hT := (hxx t 1 rfl).2
  refine lv_iload_n (k := 1) (i := 1) hx hb (by decide +kernel) rfl (lv_at hl 1 rfl) ?_
  refine jscS (As := [.int c]) (rest := []) hx hb hml hown hts (jm_can h0) (jsW (k := 7) rfl) (jsW (k := 41) rfl) (jsW (k := 30) rfl) (jsW (k := 13) rfl) jS_ne.2.1 jm_np6 hJ hz jXx_no hl.1 (by show 0 ≤ 8; omega) (by decide +kernel) ⟨by show 0 + 1 ≤ 2; omega, by show 8 + (1 + 11) + 100 ≤ 300; omega⟩ ⟨Nat.le_refl _, Nat.le_refl _⟩ ?_
  refine lv_if_ne (off := 5) (tgt := 9) hx hb (by decide +kernel) (by decide) (fun q => ?_) (fun q => ?_)
  · have hc : ¬ 255 < c := fun z => q (by rw [if_pos z])
    refine lv_iload_n (k := 2) (i := 2) hx hb (by decide +kernel) rfl (lv_at hl 2 rfl) ?_
    refine lv_iconst (n := 0) hx hb (by decide +kernel) rfl ?_
    refine va_mmax hx hb (by rw [hml]; exact hl.1.symm) hown (hts _ (jsW (k := 43) rfl)) (hts _ pj_maths.1) (hts _ pj_maths.2.2.1) (hts _ pj_cmax) (by show 1 ≤ 2; omega) (by show _ + _ ≤ 300; decide) (Nat.le_refl _) (Nat.le_refl _) (by decide +kernel) ?_
    refine lv_istore_n (k := 2) (i := 2) hx hb (by decide +kernel) rfl hl (by omega) rfl fun ls1 hl1 => ?_
    refine lv_iload_n (k := 3) (i := 3) hx hb (by decide +kernel) rfl (lv_at hl1 3 rfl) ?_
    refine lv_aload_n (k := 0) (i := 0) hx hb (by decide +kernel) rfl (lv_at hl1 1 rfl) ?_
    refine va_tlen (v := 8) hx hb hT hS rfl (by decide +kernel) ?_
    refine va_mmin hx hb (by rw [hml]; exact hl1.1.symm) hown (hts _ (jsW (k := 44) rfl)) (hts _ pj_maths.2.1) (hts _ pj_maths.2.2.1) (hts _ pj_cmin) (by show 1 ≤ 2; omega) (by show _ + _ ≤ 300; decide) (Nat.le_refl _) (Nat.le_refl _) (by decide +kernel) ?_
    refine lv_istore_n (k := 3) (i := 3) hx hb (by decide +kernel) rfl hl1 (by omega) rfl fun ls2 hl2 => ?_
    refine lv_iload_n (k := 2) (i := 2) hx hb (by decide +kernel) rfl (lv_at hl2 1 rfl) ?_
    refine lv_iload_n (k := 3) (i := 3) hx hb (by decide +kernel) rfl (lv_at hl2 0 rfl) ?_
    refine lv_icmp_lt (off := 5) (tgt := 29) hx hb (by decide +kernel) (by decide) (fun _ => ?_) (fun q => absurd (by decide) q)
    refine lv_aload_n (k := 0) (i := 0) hx hb (by decide +kernel) rfl (lv_at hl2 2 rfl) ?_
    refine lv_iload_n (k := 1) (i := 1) hx hb (by decide +kernel) rfl (lv_at hl2 3 rfl) ?_
    refine lv_iload_n (k := 2) (i := 2) hx hb (by decide +kernel) rfl (lv_at hl2 1 rfl) ?_
    refine lv_iload_n (k := 3) (i := 3) hx hb (by decide +kernel) rfl (lv_at hl2 0 rfl) ?_
    refine jscS (x := some (t, 1)) (As := [.ref t, .int c, .int 0, .int 8]) (rest := []) hx hb hml hown hts jm_ich (jsW (k := 8) rfl) (jsW (k := 42) rfl) (jsW (k := 31) rfl) (jsW (k := 13) rfl) jS_ne.2.1 jm_np4 hJ hz hxx hl2.1 (by show 0 ≤ 8; omega) (by decide +kernel) ⟨by show 0 + 1 ≤ 2; omega, by show 8 + (6 + 11) + 100 ≤ 300; omega⟩ ⟨Nat.le_refl _, Nat.le_refl _⟩ ?_
    exact hret .int _ _ _ rfl rfl (by unfold jxr; rw [if_neg hc]) (by decide +kernel)
  · have hc : 255 < c := by
      by_cases z : 255 < c
      · exact z
      · rw [if_neg z] at q; exact absurd q (by decide)
    refine lv_iconst (n := -1) hx hb (by decide +kernel) rfl ?_
    exact hret .int _ _ _ rfl rfl (by unfold jxr; rw [if_pos hc]; rfl) (by decide +kernel)
theorem jm_ix2 {c : Int32} (h0 : ¬ c < 0) : jSm G l jnIx2 prog_23_method_80_code 3 (some .int) 3 400 none [.ref (G.2.2.1 (jKEY + 1)), .int c, .int 0] (some (.int (jxr c))) := by
  refine jSof jS_plain.1 (show 3 ≤ 3 by omega) ?_
  intro p e s m below meth cd lsr hx hb hml hown hts hr hlk hJ hz hxx hS hl hret
  have hJ' := hJ
  obtain ⟨⟨adV, hV⟩, hC, -⟩ := hJ'
  refine lv_aload_n (k := 0) (i := 0) hx hb (by decide +kernel) rfl (lv_at hl 0 rfl) ?_
  refine jscV (As := []) (rest := []) hx hb hml hown hts (jm_latin (by omega)) (jsW (k := 2) rfl) (jsW (k := 34) rfl) (jsW (k := 19) rfl) (jsW (k := 20) rfl) rfl (by decide +kernel) (jS_rec hJ (by omega)) hJ hz jXx_no hl.1 (by show 0 ≤ 8; omega) (by decide +kernel) ⟨by show 0 + 1 ≤ 3; omega, by show 8 + (1 + 11) + 100 ≤ 400; omega⟩ ⟨Nat.le_refl _, Nat.le_refl _⟩ ?_
  refine lv_if_eq (off := 19) (tgt := 23) hx hb (by decide +kernel) (by decide) (fun q => absurd q (by decide)) fun _ => ?_
  refine lv_aload_n (k := 0) (i := 0) hx hb (by decide +kernel) rfl (lv_at hl 0 rfl) ?_
  refine vk_getf hx hb (hV.1 1 (by omega)).2.2.1 hS hown (hts _ (jsW (k := 47) rfl)) (fun x h => h) (by decide +kernel) ?_
  refine lv_iload_n (k := 1) (i := 1) hx hb (by decide +kernel) rfl (lv_at hl 1 rfl) ?_
  refine lv_iload_n (k := 2) (i := 2) hx hb (by decide +kernel) rfl (lv_at hl 2 rfl) ?_
  refine lv_aload_n (k := 0) (i := 0) hx hb (by decide +kernel) rfl (lv_at hl 0 rfl) ?_
  refine jscV (As := []) (rest := [.int 0, .int c, .ref (adV 1)]) hx hb hml hown hts (jm_length (i := 1) (by omega)) (jsW (k := 1) rfl) (jsW (k := 36) rfl) (jsW (k := 17) rfl) (jsW (k := 18) rfl) rfl (by decide +kernel) (jS_rec hJ (by omega)) hJ hz jXx_no hl.1 (by show 1 + (1 + (1 + 0)) ≤ 8; omega) (by decide +kernel) ⟨by show 1 + 1 ≤ 3; omega, by show 8 + (1 + 11) + 200 ≤ 400; omega⟩ ⟨Nat.le_refl _, Nat.le_refl _⟩ ?_
  refine jscS (x := some (adV 1, 1)) (As := [.ref (adV 1), .int c, .int 0, .int 8]) (rest := []) hx hb hml hown hts (jm_lix h0) (jsW (k := 9) rfl) (jsW (k := 38) rfl) (jsW (k := 32) rfl) (jsW (k := 13) rfl) jS_ne.2.1 jm_np5 hJ hz (fun t i q => by cases q; exact ⟨by omega, (hV.1 1 (by omega)).2.2.2⟩) hl.1 (by show 0 ≤ 8; omega) (by decide +kernel) ⟨by show 2 + 1 ≤ 3; omega, by show 8 + (4 + 11) + 300 ≤ 400; omega⟩ ⟨Nat.le_refl _, Nat.le_refl _⟩ ?_
  refine lv_goto (off := 16) (tgt := 36) hx hb (by decide +kernel) (by decide) ?_
  exact hret .int _ _ _ rfl rfl rfl (by decide +kernel)
theorem jm_ix1 {c : Int32} (h0 : ¬ c < 0) : jSm G l jnIx1 prog_23_method_79_code 2 (some .int) 4 500 none [.ref (G.2.2.1 (jKEY + 1)), .int c] (some (.int (jxr c))) := by
  refine jSof jS_plain.1 (show 2 ≤ 2 by omega) ?_
  intro p e s m below meth cd lsr hx hb hml hown hts hr hlk hJ hz hxx hS hl hret
  refine lv_aload_n (k := 0) (i := 0) hx hb (by decide +kernel) rfl (lv_at hl 0 rfl) ?_
  refine lv_iload_n (k := 1) (i := 1) hx hb (by decide +kernel) rfl (lv_at hl 1 rfl) ?_
  refine lv_iconst (n := 0) hx hb (by decide +kernel) rfl ?_
  refine jscV (As := [.int c, .int 0]) (rest := []) hx hb hml hown hts (jm_ix2 h0) (jsW (k := 10) rfl) (jsW (k := 37) rfl) (jsW (k := 23) rfl) (jsW (k := 24) rfl) rfl jm_np7 (jS_rec hJ (by omega)) hJ hz jXx_no hl.1 (by show 0 ≤ 8; omega) (by decide +kernel) ⟨by show 3 + 1 ≤ 4; omega, by show 8 + (3 + 11) + 400 ≤ 500; omega⟩ ⟨Nat.le_refl _, Nat.le_refl _⟩ ?_
  exact hret .int _ _ _ rfl rfl rfl (by decide +kernel)
set_option maxRecDepth 100000 in
theorem jxr_small : ∀ n : Nat, n < 256 → jxr (Int32.ofInt (n : Int)) = Int32.ofInt (if jSIGt.idxOf (n : Int) < 8 then (jSIGt.idxOf (n : Int) : Int) else -1) := by decide +kernel
theorem jSIG_lt : ∀ x ∈ jSIGt, x < 256 := by decide
theorem jxr_eq {i : Int} (hi : 0 ≤ i ∧ i < 65536) : jxr (Int32.ofInt i) = Int32.ofInt (if jSIGt.idxOf i < 8 then (jSIGt.idxOf i : Int) else -1) := by
  by_cases h : i < 256
  · obtain ⟨n, rfl⟩ := Int.eq_ofNat_of_zero_le hi.1
    exact jxr_small n (by omega)
  · have h1 : ¬ jSIGt.idxOf i < 8 := by
      intro q
      have hm : i ∈ jSIGt := List.idxOf_lt_length_iff.mp (show jSIGt.idxOf i < jSIGt.length from q)
      exact h (jSIG_lt i hm)
    have h2 : (255 : Int32) < Int32.ofInt i := (o32_lt (a := 255) (by unfold r32; omega) (by unfold r32; omega)).mpr (by omega)
    rw [if_neg h1]
    unfold jxr
    rw [if_pos h2]; rfl
end STR3
