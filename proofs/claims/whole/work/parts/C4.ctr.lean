/-! THE CONSTRUCTORS: a heap that is being built -/
def KLx : List (Nat × Nat) := KL0 ++ KLm
def ULx : List jev := ULm ++ UL0
def lkD : List (Nat × Nat × Int) → jD → jD
  | [], D => D
  | q :: l, D => sD (lkD l D) q.1 q.2.1 q.2.2
/-- the first n cells; all but the last m acts; numbers written -/
def hx (D0 : jD) (n m : Nat) (l : List (Nat × Nat × Int)) : jh := (KLx.take n, lkR (ULx.drop m), lkD l D0, fun _ _ => 0)
def DZ (D0 : jD) (n : Nat) (l : List (Nat × Nat × Int)) : Prop := (∀ a, n ≤ a → a < 1000000 → ∀ i, D0 a i = 0) ∧ ∀ q, q ∈ l → q.1 < n
def xfK (o ci n : Nat) : Bool := decide (KLx[o]? = some (0, ci)) && decide (o < n)
def xfC (n m : Nat) (k : Nat × Nat) : Bool := decide (KLx[n]? = some k) && decide (ULx[m]? = some (n, none))
def xfR (m c i v : Nat) : Bool := decide (ULx[m]? = some (c, some (i, some v)))
def xfP (n m : Nat) : Bool := xfC n (m + 2) (0, 3) && xfC (n + 1) (m + 1) (1, 17) && xfR m n 0 (n + 1)
def xfPs (n m N : Nat) : Bool := xfC n (m + 4 * N) (7, N) && (List.range N).all fun k => xfP (n + 1 + 2 * k) (m + 4 * (N - 1 - k) + 1) && xfR (m + 4 * (N - 1 - k)) n k (n + 1 + 2 * k)
section CTR
variable {D0 : jD} {n m : Nat} {l : List (Nat × Nat × Int)} {d : Nat} {α : Type}
theorem KLx_len : KLx.length = 540 := by decide +kernel
theorem lkD_z {a : Nat} : ∀ l : List (Nat × Nat × Int), (∀ q, q ∈ l → q.1 ≠ a) → lkD l D0 a = D0 a
  | [], _ => rfl
  | q :: l, h => by
    show sD (lkD l D0) q.1 q.2.1 q.2.2 a = D0 a
    rw [sD_ne (fun e => h q List.mem_cons_self e.symm)]
    exact lkD_z l (fun q' hq => h q' (List.mem_cons_of_mem _ hq))
theorem xfC_d {k : Nat × Nat} (h : xfC n m k = true) : KLx[n]? = some k ∧ ULx[m]? = some (n, none) := by
  unfold xfC at h
  rw [Bool.and_eq_true, decide_eq_true_eq, decide_eq_true_eq] at h
  exact h
theorem xfR_d {c i v : Nat} (h : xfR m c i v = true) : ULx[m]? = some (c, some (i, some v)) := by
  unfold xfR at h
  rw [decide_eq_true_eq] at h
  exact h
theorem xfK_d {o ci : Nat} (h : xfK o ci n = true) : KLx[o]? = some (0, ci) ∧ o < n := by
  unfold xfK at h
  rw [Bool.and_eq_true, decide_eq_true_eq, decide_eq_true_eq] at h
  exact h
theorem UL_drop {q : jev} (h : ULx[m]? = some q) : ULx.drop m = q :: ULx.drop (m + 1) := by
  obtain ⟨h1, h2⟩ := List.getElem?_eq_some_iff.mp h
  rw [List.drop_eq_getElem_cons h1, h2]
theorem hx_len (h : n ≤ 540) : (hx D0 n m l).1.length = n := by
  show (KLx.take n).length = n
  rw [List.length_take, KLx_len]; omega
theorem DZ_up (h : DZ D0 n l) (k : Nat) : DZ D0 (n + k) l := ⟨fun a ha => h.1 a (by omega), fun q hq => by have := h.2 q hq; omega⟩
theorem DZ_w (h : DZ D0 n l) {c i : Nat} {x : Int} (hc : c < n) : DZ D0 n ((c, i, x) :: l) := ⟨h.1, fun q hq => by
  rcases List.mem_cons.mp hq with e | e
  · rw [e]; exact hc
  · exact h.2 q e⟩
theorem xC {k : Nat × Nat} (hf : xfC n m k = true) (hz : DZ D0 n l) : nC (hx D0 n (m + 1) l) k = hx D0 (n + 1) m l := by
  obtain ⟨h1, h2⟩ := xfC_d hf
  have hn : n < 540 := by
    have := (List.getElem?_eq_some_iff.mp h1).1
    rw [KLx_len] at this; exact this
  have hl : (KLx.take n).length = n := hx_len (D0 := D0) (m := 0) (l := []) (by omega)
  unfold nC hx
  dsimp only
  rw [hl]
  refine Prod.ext ?_ (Prod.ext ?_ (Prod.ext ?_ ?_))
  · show KLx.take n ++ [k] = KLx.take (n + 1)
    rw [List.take_succ, h1]; rfl
  · show (fun a b => if a = n then none else lkR (ULx.drop (m + 1)) a b) = lkR (ULx.drop m)
    rw [UL_drop h2]; rfl
  · show (fun a b => if a = n then 0 else lkD l D0 a b) = lkD l D0
    funext a b
    by_cases e : a = n
    · rw [if_pos e, e, lkD_z l (fun q hq => by have := hz.2 q hq; omega), hz.1 n (Nat.le_refl n) (by omega)]
    · rw [if_neg e]
  · show (fun a b => if a = n then (0 : Int) else 0) = fun _ _ => 0
    funext a b
    split <;> rfl
theorem xN {k : Nat × Nat} (hf : xfC n m k = true) (hz : DZ D0 n l) (K : Nat → jh → Option α) : vNw (hx D0 n (m + 1) l) (nC (hx D0 n (m + 1) l) k) K = K n (hx D0 (n + 1) m l) := by
  have hn : n < 540 := by
    have := (List.getElem?_eq_some_iff.mp (xfC_d hf).1).1
    rw [KLx_len] at this; exact this
  unfold vNw
  rw [hx_len (by omega), xC hf hz]
theorem xR {c i v : Nat} (hf : xfR m c i v = true) (K : jh → Option α) : vLt (wR (hx D0 n (m + 1) l) c i (some v)) K = K (hx D0 n m l) := by
  have h2 := xfR_d hf
  unfold vLt wR hx
  dsimp only
  rw [UL_drop h2]; rfl
theorem xD {c i : Nat} {x : Int} (K : jh → Option α) : vLt (wD (hx D0 n m l) c i x) K = K (hx D0 n m ((c, i, x) :: l)) := rfl
theorem hx_K {c : Nat} {k : Nat × Nat} (h : KLx[c]? = some k) (hc : c < n) : gK (hx D0 n m l) c = some k := by
  show (KLx.take n)[c]? = some k
  rw [List.getElem?_take, if_pos hc, h]
theorem xG {o ci : Nat} (h : xfK o ci n = true) (K : Nat → Option α) : vGF (hx D0 n m l) (some o) ci K = K o := by
  obtain ⟨h1, h2⟩ := xfK_d h
  exact if_pos (hx_K h1 h2)
theorem xA {c t N i v : Nat} (h1 : KLx[c]? = some (t + 4, N)) (h2 : c < n) (h3 : xfK v t n = true) (hi : i < N) (hf : xfR m c i v = true) (K : jh → Option α) : vAS (hx D0 n (m + 1) l) (some c) (i : Int) (some v) K = K (hx D0 n m l) := by
  obtain ⟨h4, h5⟩ := xfK_d h3
  unfold vAS
  simp only [hx_K h1 h2, hx_K h4 h5]
  rw [if_pos (by omega), if_pos trivial, Int.toNat_natCast]
  exact xR hf K
theorem xP {o : Nat} (hf : xfC n (m + 1) (1, 17) = true) (hr : xfR m o 0 n = true) (ho : xfK o 3 (n + 1) = true) (hz : DZ D0 n l) : Vl d 4 0 [some (.inr (.inr (some o)))] [] (hx D0 n (m + 2) l) = some ((0, none), hx D0 (n + 1) m l) := by
  rw [vP_init_0, xN hf hz, xG ho, xR hr]
theorem xfK_mk {o ci : Nat} (h : KLx[o]? = some (0, ci)) (hn : o < n) : xfK o ci n = true := by
  unfold xfK
  rw [Bool.and_eq_true, decide_eq_true_eq, decide_eq_true_eq]
  exact ⟨h, hn⟩
theorem xNP (hf : xfP n m = true) (hz : DZ D0 n l) (K : Nat → Option jv → jh → Option jr) : vNw (hx D0 n (m + 3) l) (nC (hx D0 n (m + 3) l) (0, 3)) (fun c1 h2 => vC (Vl d 4 0 [some (.inr (.inr (some c1)))] [] h2) (K c1)) = K n none (hx D0 (n + 2) m l) := by
  unfold xfP at hf
  rw [Bool.and_eq_true, Bool.and_eq_true] at hf
  obtain ⟨⟨h1, h2⟩, h3⟩ := hf
  rw [xN h1 hz, xP h2 h3 (xfK_mk (xfC_d h1).1 (by omega)) (DZ_up hz 1)]
  rfl
theorem xPs_loop {N : Nat} (hN : N ≤ 100) (h1 : xfC n (m + 4 * N) (7, N) = true) (hz : DZ D0 n l) : ∀ (j k : Nat), k + j = N → (∀ k', k ≤ k' → k' < N → xfP (n + 1 + 2 * k') (m + 4 * (N - 1 - k') + 1) = true ∧ xfR (m + 4 * (N - 1 - k')) n k' (n + 1 + 2 * k') = true) → Vl (d + 1) 3 11 [some (.inl (N : Int)), some (.inr (.inr (some n))), some (.inl (k : Int))] [] (hx D0 (n + 1 + 2 * k) (m + 4 * j) l) = some ((0, some (.inr (.inr (some n)))), hx D0 (n + 1 + 2 * N) m l)
  | 0, k, hk, hf => by
    obtain rfl : k = N := by omega
    have hg := hx_K (D0 := D0) (m := m + 4 * 0) (l := l) (xfC_d h1).1 (show n < n + 1 + 2 * k by omega)
    rw [vC_polynomials_11]
    unfold vLN
    simp only [hg]
    rw [if_neg (by omega), vC_polynomials_33]; rfl
  | j + 1, k, hk, hf => by
    obtain ⟨f1, f2⟩ := hf k (Nat.le_refl k) (by omega)
    have hg := hx_K (D0 := D0) (m := m + 4 * (j + 1)) (l := l) (xfC_d h1).1 (show n < n + 1 + 2 * k by omega)
    have e1 : N - 1 - k = j := by omega
    rw [e1] at f1 f2
    have ih := xPs_loop hN h1 hz j (k + 1) (by omega) (fun k' a b => hf k' (by omega) b)
    have hP := xNP (d := d) f1 (DZ_up (DZ_up hz 1) (2 * k)) (fun c1 r3 h4 => Vl (d + 1) 3 26 [some (.inl (N : Int)), some (.inr (.inr (some n))), some (.inl (k : Int))] (r3.toList ++ [.inr (.inr (some c1)), .inl (k : Int), .inr (.inr (some n))]) h4)
    rw [show m + 4 * j + 1 + 3 = m + 4 * (j + 1) by omega] at hP
    have hkv : xfK (n + 1 + 2 * k) 3 (n + 1 + 2 * k + 2) = true := by
      unfold xfP at f1
      rw [Bool.and_eq_true, Bool.and_eq_true] at f1
      exact xfK_mk (xfC_d f1.1.1).1 (by omega)
    rw [vC_polynomials_11]
    unfold vLN
    simp only [hg]
    rw [if_pos (by omega), vC_polynomials_17, hP]
    show Vl (d + 1) 3 26 _ [.inr (.inr (some (n + 1 + 2 * k))), .inl (k : Int), .inr (.inr (some n))] _ = _
    rw [vC_polynomials_26, xA (t := 3) (N := N) (xfC_d h1).1 (by omega) hkv (by omega) f2, w32_s (by omega)]
    exact ih
theorem xPs {N : Nat} (hN : N ≤ 100) (hf : xfPs n m N = true) (hz : DZ D0 n l) : Vl (d + 1) 3 0 [some (.inl (N : Int)), none, none] [] (hx D0 n (m + 4 * N + 1) l) = some ((0, some (.inr (.inr (some n)))), hx D0 (n + 1 + 2 * N) m l) := by
  unfold xfPs at hf
  rw [Bool.and_eq_true, List.all_eq_true] at hf
  obtain ⟨h1, h2⟩ := hf
  have q := xPs_loop (d := d) hN h1 hz N 0 (Nat.zero_add N) (fun k' _ b => by
    have := h2 k' (List.mem_range.mpr b)
    rw [Bool.and_eq_true] at this
    exact this)
  rw [vC_polynomials_0, if_neg (by omega), Int.toNat_natCast, show (4 + 3, N) = ((7, N) : Nat × Nat) from rfl]
  unfold vG
  rw [if_pos (by omega), xN h1 hz]
  exact q
theorem xfK_up {o ci : Nat} (h : xfK o ci n = true) (k : Nat) : xfK o ci (n + k) = true := by
  obtain ⟨h1, h2⟩ := xfK_d h
  exact xfK_mk h1 (by omega)
end CTR
