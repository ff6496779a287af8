/-! THE TWO TEXTS: length, charAt, indexOf -/
section STR2
variable {G : jg} {l : Launch}
theorem jS_rec {H : Heap} {s : State} (hJ : jT G H s) {i : Nat} (hi : i < 2) : ∃ cell : Cell, H[G.2.2.1 (jKEY + i)]? = some cell ∧ cell.vm.isStatics = false ∧ s.vm.findClass "java/lang/String" = some cell.cls := by
  obtain ⟨⟨adV, h1⟩, -⟩ := hJ
  obtain ⟨cell, h1, h2, h3, -⟩ := (h1.1 i hi).1
  exact ⟨cell, h1, h2, h3⟩
theorem jS_plain : plainName "java/lang/String" = true ∧ plainName "java/lang/StringLatin1" = true ∧ plainName "jdk/internal/util/Preconditions" = true := by decide
theorem jm_coder {i : Nat} (hi : i < 2) : jSm G l jnCod prog_23_method_152_code 1 (some .byte) 0 100 none [.ref (G.2.2.1 (jKEY + i))] (some (.int 0)) := by
  refine jSof jS_plain.1 (Nat.le_refl _) ?_
  intro p e s m below meth c lsr hx hb hml hown hts hr hlk hJ hz hxx hS hl hret
  have hJ' := hJ
  obtain ⟨⟨adV, hV⟩, hC, -⟩ := hJ'
  refine va_gets hx hb hC hS hown (hts _ (jsW (k := 45) rfl)) (fun x h => h) (by decide +kernel) ?_
  refine lv_if_eq (off := 10) (tgt := 13) hx hb (by decide +kernel) (by decide) (fun q => absurd q (by decide)) fun _ => ?_
  refine lv_aload_n (k := 0) (i := 0) hx hb (by decide +kernel) rfl (lv_at hl 0 rfl) ?_
  refine vk_getf hx hb (hV.1 i hi).2.1 hS hown (hts _ (jsW (k := 46) rfl)) (fun x h => h) (by decide +kernel) ?_
  refine lv_goto (off := 4) (tgt := 14) hx hb (by decide +kernel) (by decide) ?_
  exact hret .byte 0 _ _ rfl rfl rfl (by decide +kernel)
theorem jm_latin {i : Nat} (hi : i < 2) : jSm G l jnLat prog_23_method_154_code 1 (some .boolean) 0 100 none [.ref (G.2.2.1 (jKEY + i))] (some (.int 1)) := by
  refine jSof jS_plain.1 (Nat.le_refl _) ?_
  intro p e s m below meth c lsr hx hb hml hown hts hr hlk hJ hz hxx hS hl hret
  have hJ' := hJ
  obtain ⟨⟨adV, hV⟩, hC, -⟩ := hJ'
  refine va_gets hx hb hC hS hown (hts _ (jsW (k := 45) rfl)) (fun x h => h) (by decide +kernel) ?_
  refine lv_if_eq (off := 14) (tgt := 17) hx hb (by decide +kernel) (by decide) (fun q => absurd q (by decide)) fun _ => ?_
  refine lv_aload_n (k := 0) (i := 0) hx hb (by decide +kernel) rfl (lv_at hl 0 rfl) ?_
  refine vk_getf hx hb (hV.1 i hi).2.1 hS hown (hts _ (jsW (k := 46) rfl)) (fun x h => h) (by decide +kernel) ?_
  refine lv_if_ne (off := 7) (tgt := 17) hx hb (by decide +kernel) (by decide) (fun q => absurd rfl q) fun _ => ?_
  refine lv_iconst (n := 1) hx hb (by decide +kernel) rfl ?_
  refine lv_goto (off := 4) (tgt := 18) hx hb (by decide +kernel) (by decide) ?_
  exact hret .boolean 1 _ _ rfl rfl rfl (by decide +kernel)
theorem jm_shr : ∀ i : Nat, i < 2 → Int32.ofNat (jTbl.getD i 0) >>> ((0 : Int32) &&& 31) = Int32.ofNat (jTbl.getD i 0) := by decide +kernel
theorem jm_length {i : Nat} (hi : i < 2) : jSm G l jnLen prog_23_method_54_code 1 (some .int) 1 200 none [.ref (G.2.2.1 (jKEY + i))] (some (.int (Int32.ofNat (jTbl.getD i 0)))) := by
  refine jSof jS_plain.1 (Nat.le_refl _) ?_
  intro p e s m below meth c lsr hx hb hml hown hts hr hlk hJ hz hxx hS hl hret
  have hJ' := hJ
  obtain ⟨⟨adV, hV⟩, hC, -⟩ := hJ'
  refine lv_aload_n (k := 0) (i := 0) hx hb (by decide +kernel) rfl (lv_at hl 0 rfl) ?_
  refine vk_getf hx hb (hV.1 i hi).2.2.1 hS hown (hts _ (jsW (k := 47) rfl)) (fun x h => h) (by decide +kernel) ?_
  refine va_tlen hx hb (hV.1 i hi).2.2.2 hS rfl (by decide +kernel) ?_
  refine lv_aload_n (k := 0) (i := 0) hx hb (by decide +kernel) rfl (lv_at hl 0 rfl) ?_
  refine jscV (As := []) (rest := [.int _]) hx hb hml hown hts (jm_coder hi) (jsW (k := 0) rfl) (jsW (k := 33) rfl) (jsW (k := 15) rfl) (jsW (k := 16) rfl) rfl (by decide +kernel) (jS_rec hJ hi) hJ hz jXx_no hl.1 (by show 1 + 0 ≤ 8; omega) (by decide +kernel) ⟨Nat.le_refl _, by show 8 + (1 + 11) + 100 ≤ 200; omega⟩ ⟨Nat.le_refl _, Nat.le_refl _⟩ ?_
  refine lv_ishr hx hb (by decide +kernel) ?_
  rw [jm_shr i hi]
  exact hret .int _ _ _ rfl rfl rfl (by decide +kernel)
theorem jm_np {α : Type} {a b c : α} : (parseMethodDescriptor jnPck.desc).map (fun d => d.parameters.length) = some [a, b, c].length := by
  show _ = some 3
  decide +kernel
theorem jm_np2 {α : Type} {a b : α} : (parseMethodDescriptor jnSck.desc).map (fun d => d.parameters.length) = some [a, b].length := by
  show _ = some 2
  decide +kernel
theorem jm_np3 {α : Type} {a b : α} : (parseMethodDescriptor jnLch.desc).map (fun d => d.parameters.length) = some [a, b].length := by
  show _ = some 2
  decide +kernel
theorem jm_pck {a b : Int32} {f : Value} (hf : f = .null ∨ ∃ t, f = .ref t) (h0 : ¬ a < 0) (hab : a < b) : jSm G l jnPck prog_30_method_11_code 3 (some .int) 0 100 none [.int a, .int b, f] (some (.int a)) := by
  refine jSof jS_plain.2.2 (by rcases hf with rfl | ⟨t, rfl⟩ <;> exact Nat.le_refl 3) ?_
  intro p e s m below meth c lsr hx hb hml hown hts hr hlk hJ hz hxx hS hl hret
  refine lv_iload_n (k := 0) (i := 0) hx hb (by decide +kernel) rfl (lv_at hl 0 rfl) ?_
  refine lv_if_lt (off := 8) (tgt := 9) hx hb (by decide +kernel) (by decide) (fun q => absurd q h0) fun _ => ?_
  refine lv_iload_n (k := 0) (i := 0) hx hb (by decide +kernel) rfl (lv_at hl 0 rfl) ?_
  refine lv_iload_n (k := 1) (i := 1) hx hb (by decide +kernel) rfl (lv_at hl 1 rfl) ?_
  refine lv_icmp_lt (off := 10) (tgt := 16) hx hb (by decide +kernel) (by decide) (fun _ => ?_) (fun q => absurd hab q)
  refine lv_iload_n (k := 0) (i := 0) hx hb (by decide +kernel) rfl (lv_at hl 0 rfl) ?_
  exact hret .int _ _ _ rfl rfl rfl (by decide +kernel)
theorem jm_sck {a b : Int32} (h0 : ¬ a < 0) (hab : a < b) : jSm G l jnSck prog_23_method_155_code 2 none 1 200 none [.int a, .int b] none := by
  refine jSof jS_plain.1 (Nat.le_refl _) ?_
  intro p e s m below meth c lsr hx hb hml hown hts hr hlk hJ hz hxx hS hl hret
  have hJ' := hJ
  obtain ⟨-, -, hF, -⟩ := hJ'
  refine lv_iload_n (k := 0) (i := 0) hx hb (by decide +kernel) rfl (lv_at hl 0 rfl) ?_
  refine lv_iload_n (k := 1) (i := 1) hx hb (by decide +kernel) rfl (lv_at hl 1 rfl) ?_
  have go : ∀ f : Value, (f = .null ∨ ∃ t, f = .ref t) → va_Z "jdk/internal/util/Preconditions" "SIOOBE_FORMATTER" "Ljava/util/function/BiFunction;" f (jTn G) s s.heap → W p l e { frames := 1, cells := 0, slots := 0, locals := 200 } s m ([.int a, .int b] : List Value).toArray below meth c s.heap [] 0 0 (MQ below (jSQ none) ([.int a, .int b] : List Value).toArray s 0 0 (fun _ => False)) (F0 m 2 lsr [.int b, .int a]) := fun f hf hZ => by
    refine va_gets hx hb hZ hS hown (hts _ (jsW (k := 48) rfl)) (fun x h => h) (by decide +kernel) ?_
    refine jscS (As := [.int a, .int b, f]) (rest := []) hx hb hml hown hts (jm_pck hf h0 hab) (jsW (k := 3) rfl) (jsW (k := 39) rfl) (jsW (k := 27) rfl) (jsW (k := 14) rfl) jS_ne.2.2 jm_np hJ hz jXx_no hl.1 (by show 0 ≤ 8; omega) (by decide +kernel) ⟨Nat.le_refl _, by show 8 + (3 + 11) + 100 ≤ 200; omega⟩ ⟨Nat.le_refl _, Nat.le_refl _⟩ ?_
    refine lv_pop hx hb (by decide +kernel) rfl ?_
    exact W.vret hx hb hr (fun t ht _ => ⟨rfl, ht⟩) (fun q hq => nomatch hq) (by decide +kernel) hlk
  rcases hF with hF | ⟨t, hF⟩
  · exact go _ (Or.inl rfl) hF
  · exact go _ (Or.inr ⟨t, rfl⟩) hF
theorem jm_kf : ∀ k : Nat, k < 55 → ¬ Int32.ofNat k < 0 ∧ Int32.ofNat k < Int32.ofNat 55 ∧ (Int32.ofNat k).toNatClampNeg = k ∧ ((((jTbb.getD 0 []).getD k 0) &&& 255).toUInt32 % 65536).toInt32 = Int32.ofInt (jKEYt.getD k 0) ∧ narrow .char (.int (Int32.ofInt (jKEYt.getD k 0))) = .int (Int32.ofInt (jKEYt.getD k 0)) := by decide +kernel
theorem jm_in {k : Nat} (hk : k < 55) : vp_in (Int32.ofNat k) 55 := by
  obtain ⟨h1, -, h3, -⟩ := jm_kf k hk
  rintro (q | q)
  · exact h1 q
  · rw [h3] at q; omega
theorem jm_lch {t k : Nat} (hk : k < 55) : jSm G l jnLch prog_24_method_2_code 2 (some .char) 2 300 (some (t, 0)) [.ref t, .int (Int32.ofNat k)] (some (.int (Int32.ofInt (jKEYt.getD k 0)))) := by
  obtain ⟨k1, k2, k3, k4, k5⟩ := jm_kf k hk
  refine jSof jS_plain.2.1 (Nat.le_refl _) ?_
  intro p e s m below meth c lsr hx hb hml hown hts hr hlk hJ hz hxx hS hl hret
  have hT := (hxx t 0 rfl).2
  refine lv_iload_n (k := 1) (i := 1) hx hb (by decide +kernel) rfl (lv_at hl 1 rfl) ?_
  refine lv_aload_n (k := 0) (i := 0) hx hb (by decide +kernel) rfl (lv_at hl 0 rfl) ?_
  refine va_tlen (v := Int32.ofNat 55) hx hb hT hS rfl (by decide +kernel) ?_
  refine jscS (As := [.int (Int32.ofNat k), .int (Int32.ofNat 55)]) (rest := []) hx hb hml hown hts (jm_sck k1 k2) (jsW (k := 4) rfl) (jsW (k := 40) rfl) (jsW (k := 28) rfl) (jsW (k := 12) rfl) jS_ne.1 jm_np2 hJ hz jXx_no hl.1 (by show 0 ≤ 8; omega) (by decide +kernel) ⟨Nat.le_refl _, by show 8 + (2 + 11) + 200 ≤ 300; omega⟩ ⟨Nat.le_refl _, Nat.le_refl _⟩ ?_
  refine lv_aload_n (k := 0) (i := 0) hx hb (by decide +kernel) rfl (lv_at hl 0 rfl) ?_
  refine lv_iload_n (k := 1) (i := 1) hx hb (by decide +kernel) rfl (lv_at hl 1 rfl) ?_
  refine va_tb (v := .int ((jTbb.getD 0 []).getD k 0)) hx hb hT hS (jm_in hk) (by show Value.int ((jTbb.getD 0 []).getD (Int32.ofNat k).toNatClampNeg 0) = _; rw [k3]) (by decide +kernel) ?_
  refine lv_sipush (n := 255) (v := 255) hx hb (by decide +kernel) (by decide) ?_
  refine lv_iand hx hb (by decide +kernel) ?_
  refine lv_i2c hx hb (by decide +kernel) k4 ?_
  exact hret .char _ _ _ rfl k5 rfl (by decide +kernel)
theorem jm_cha {k : Nat} (hk : k < 55) : jSm G l jnCha prog_23_method_56_code 2 (some .char) 3 400 none [.ref (G.2.2.1 (jKEY + 0)), .int (Int32.ofNat k)] (some (.int (Int32.ofInt (jKEYt.getD k 0)))) := by
  obtain ⟨k1, k2, k3, k4, k5⟩ := jm_kf k hk
  refine jSof jS_plain.1 (Nat.le_refl _) ?_
  intro p e s m below meth c lsr hx hb hml hown hts hr hlk hJ hz hxx hS hl hret
  have hJ' := hJ
  obtain ⟨⟨adV, hV⟩, hC, -⟩ := hJ'
  refine lv_aload_n (k := 0) (i := 0) hx hb (by decide +kernel) rfl (lv_at hl 0 rfl) ?_
  refine jscV (As := []) (rest := []) hx hb hml hown hts (jm_latin (by omega)) (jsW (k := 2) rfl) (jsW (k := 34) rfl) (jsW (k := 19) rfl) (jsW (k := 20) rfl) rfl (by decide +kernel) (jS_rec hJ (by omega)) hJ hz jXx_no hl.1 (by show 0 ≤ 8; omega) (by decide +kernel) ⟨by show 0 + 1 ≤ 3; omega, by show 8 + (1 + 11) + 100 ≤ 400; omega⟩ ⟨Nat.le_refl _, Nat.le_refl _⟩ ?_
  refine lv_if_eq (off := 12) (tgt := 16) hx hb (by decide +kernel) (by decide) (fun q => absurd q (by decide)) fun _ => ?_
  refine lv_aload_n (k := 0) (i := 0) hx hb (by decide +kernel) rfl (lv_at hl 0 rfl) ?_
  refine vk_getf hx hb (hV.1 0 (by omega)).2.2.1 hS hown (hts _ (jsW (k := 47) rfl)) (fun x h => h) (by decide +kernel) ?_
  refine lv_iload_n (k := 1) (i := 1) hx hb (by decide +kernel) rfl (lv_at hl 1 rfl) ?_
  refine jscS (x := some (adV 0, 0)) (As := [.ref (adV 0), .int (Int32.ofNat k)]) (rest := []) hx hb hml hown hts (jm_lch hk) (jsW (k := 5) rfl) (jsW (k := 35) rfl) (jsW (k := 29) rfl) (jsW (k := 13) rfl) jS_ne.2.1 jm_np3 hJ hz (fun t i q => by cases q; exact ⟨by omega, (hV.1 0 (by omega)).2.2.2⟩) hl.1 (by show 0 ≤ 8; omega) (by decide +kernel) ⟨Nat.le_refl _, by show 8 + (2 + 11) + 300 ≤ 400; omega⟩ ⟨Nat.le_refl _, Nat.le_refl _⟩ ?_
  exact hret .char _ _ _ rfl k5 rfl (by decide +kernel)
end STR2
