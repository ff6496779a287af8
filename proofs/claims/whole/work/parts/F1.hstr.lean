/-! THE TWO TEXTS: the steps -/
section STR4
variable {G : jg}
theorem jad_KEY : jad G jKEY = G.2.2.1 (jKEY + 0) := if_neg (by decide)
theorem jad_SIG : jad G jSIG = G.2.2.1 (jKEY + 1) := if_neg (by decide)
theorem jKf : ∀ k : Nat, k < 55 → Int32.ofInt (k : Int) = Int32.ofNat k := by decide +kernel
theorem jKEY_rs : ∀ k : Nat, k < 55 → (0 ≤ jKEYt.getD k 0 ∧ jKEYt.getD k 0 < 256) := by decide +kernel
theorem jKEY_r (k : Nat) (hk : k < 55) : jvok (.inl (jKEYt.getD ((k : Int)).toNat 0)) := by
  have := jKEY_rs k hk
  unfold jvok r32
  rw [Int.toNat_natCast]; omega
theorem jSIG_r (i : Int) : jvok (.inl (if jSIGt.idxOf i < 8 then (jSIGt.idxOf i : Int) else -1)) := by
  show r32 _
  by_cases q : jSIGt.idxOf i < 8
  · rw [if_pos q]; unfold r32; omega
  · rw [if_neg q]; unfold r32; omega
theorem jHstr_ok : jHstrZ G := fun y p l e R s m args below meth c Q hE cE sE pc ls st st' h F hroom hR hp hc H locs cells slots lsr hW hS hz hl hn2 ho hcl hsl => by
  obtain ⟨⟨hx, hb⟩, hown, hml, hret, hlk, hin, hts, hX⟩ := F
  have p1 := jpre_len hp
  have p2 := jpre_sz hp
  have hcs : cells ≤ R.cells ∧ slots ≤ R.slots := ⟨by have := hR.1; omega, by have := hR.2.1; omega⟩
  have hJ := hW.2.2.2.2.2
  have hzH : G.2.2.2 ≤ H.size := by have := hS.1; omega
  have hj0 : jsv G (.inr (.inr (some jKEY))) = .ref (G.2.2.1 (jKEY + 0)) := by rw [jsv_r, Option.map_some, jad_KEY]; rfl
  have hj1 : jsv G (.inr (.inr (some jSIG))) = .ref (G.2.2.1 (jKEY + 1)) := by rw [jsv_r, Option.map_some, jad_SIG]; rfl
  rcases hc with ⟨hy, rfl, hd, k⟩ | ⟨hy, rfl, hd, k⟩ | ⟨k0, y2, hw, hk, rfl, hd, k⟩ | ⟨k0, y2, i, hw, hk, rfl, hi, hd, k⟩ | ⟨k0, y2, i, hw, hk, rfl, hi, hd, k⟩
  · rw [hy] at hown
    have hfin := k H locs cells slots lsr hW hS hz hl hn2 (jok_push ho trivial) hcl hsl
    rw [List.map_cons, hj0] at hfin
    exact va_ldcS hx hb hown hX.1.2.1 hd hfin
  · rw [hy] at hown
    have hfin := k H locs cells slots lsr hW hS hz hl hn2 (jok_push ho trivial) hcl hsl
    rw [List.map_cons, hj1] at hfin
    intro T hT X
    obtain ⟨t, a1, b1⟩ := hfin T hT X
    exact ⟨t, X.ldcStringW hx hown (text := ";=+*^(),") (a := G.2.2.1 jSIG) hX.1.2.2.1 hX.1.2.2.2 (g := F0 m pc lsr (st'.map (jsv G))) rfl (by rw [hb]; exact hd) t a1, b1⟩
  · have hfin := k H locs cells slots lsr hW hS hz hl hn2 (jok_push (jok_pop ho) (by unfold jvok r32; omega)) hcl hsl
    show W p l e R s m args below meth c H locs cells slots Q (F0 m pc lsr (jsv G (.inr (.inr (some jKEY))) :: st.map (jsv G)))
    rw [hj0]
    exact jscV (As := []) (rest := st.map (jsv G)) (G := G) hx hb hml hown hts (jm_length (i := 0) (by omega)) (jsW (k := 1) rfl) (pml_w hk rfl) (jsW (k := 17) rfl) (jsW (k := 18) rfl) rfl (by decide +kernel) (jS_rec hJ (by omega)) hJ hzH jXx_no hl.1 (by rw [jwt_sum]; exact hw) hd ⟨by omega, by omega⟩ hcs hfin
  · obtain ⟨n, rfl⟩ := Int.eq_ofNat_of_zero_le hi.1
    have hn : n < 55 := by omega
    have hfin := k H locs cells slots lsr hW hS hz hl hn2 (jok_push (jok_pop (jok_pop ho)) (jKEY_r n hn)) hcl hsl
    show W p l e R s m args below meth c H locs cells slots Q (F0 m pc lsr (.int (Int32.ofInt (n : Int)) :: jsv G (.inr (.inr (some jKEY))) :: st.map (jsv G)))
    rw [hj0, jKf n hn]
    exact jscV (As := [.int (Int32.ofNat n)]) (rest := st.map (jsv G)) (G := G) hx hb hml hown hts (jm_cha hn) (jsW (k := 6) rfl) (pml_w hk rfl) (jsW (k := 21) rfl) (jsW (k := 22) rfl) rfl jm_np9 (jS_rec hJ (by omega)) hJ hzH jXx_no hl.1 (by rw [jwt_sum]; exact hw) hd ⟨by omega, by omega⟩ hcs hfin
  · have hri : r32 i := jok_top ho
    have h0 : ¬ Int32.ofInt i < 0 := by rw [← o32_0, o32_lt hri r32_0]; omega
    have hfin := k H locs cells slots lsr hW hS hz hl hn2 (jok_push (jok_pop (jok_pop ho)) (jSIG_r i)) hcl hsl
    show W p l e R s m args below meth c H locs cells slots Q (F0 m pc lsr (.int (Int32.ofInt i) :: jsv G (.inr (.inr (some jSIG))) :: st.map (jsv G)))
    rw [hj1]
    have hM := jm_ix1 (G := G) (l := l) h0
    rw [jxr_eq hi] at hM
    exact jscV (As := [.int (Int32.ofInt i)]) (rest := st.map (jsv G)) (G := G) hx hb hml hown hts hM (jsW (k := 11) rfl) (pml_w hk rfl) (jsW (k := 25) rfl) (jsW (k := 26) rfl) rfl jm_np8 (jS_rec hJ (by omega)) hJ hzH jXx_no hl.1 (by rw [jwt_sum]; exact hw) hd ⟨by omega, by omega⟩ hcs hfin
end STR4
