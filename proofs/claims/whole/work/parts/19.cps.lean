/-! WHAT A PIECE OF CODE ASKS OF THE HEAP, instruction by instruction -/
def vGF (h : jh) (o : Option Nat) (ci : Nat) (k : Nat → Option jr) : Option jr := match o with
  | some c => if gK h c = some (0, ci) then k c else none
  | none => none
def vIA (h : jh) (o : Option Nat) (i : Int) (k : Int → Option jr) : Option jr := match o with
  | some c => (match gK h c with
    | some (1, n) => if 0 ≤ i ∧ i < n then k (gD h c i.toNat) else none
    | some _ => none
    | none => if c = jSCR then (if 0 ≤ i ∧ i < gD h jLEN 0 then k (gD h jSCR i.toNat) else none) else none)
  | none => none
def vBA (h : jh) (o : Option Nat) (i : Int) (k : Int → Option jr) : Option jr := match o with
  | some c => (match gK h c with
    | some (2, n) => if 0 ≤ i ∧ i < n then k (gD h c i.toNat) else none
    | _ => none)
  | none => none
def vLA (h : jh) (o : Option Nat) (i : Int) (k : Int → Option jr) : Option jr := match o with
  | some c => (match gK h c with
    | some (3, n) => if 0 ≤ i ∧ i < n then k (gL h c i.toNat) else none
    | _ => none)
  | none => none
def vAA (h : jh) (o : Option Nat) (i : Int) (k : Option Nat → Option jr) : Option jr := match o with
  | some c => (match gK h c with
    | some (_ + 4, n) => if 0 ≤ i ∧ i < n then k (gR h c i.toNat) else none
    | _ => none)
  | none => none
def vIS (h : jh) (o : Option Nat) (i x : Int) (k : jh → Option jr) : Option jr := match o with
  | some c => (match gK h c with
    | some (1, n) => if 0 ≤ i ∧ i < n then k (wD h c i.toNat x) else none
    | _ => none)
  | none => none
def vBS (h : jh) (o : Option Nat) (i x : Int) (k : jh → Option jr) : Option jr := match o with
  | some c => (match gK h c with
    | some (2, n) => if 0 ≤ i ∧ i < n then (if x = 0 ∨ x = 1 then k (wD h c i.toNat x) else none) else none
    | _ => none)
  | none => none
def vLS (h : jh) (o : Option Nat) (i x : Int) (k : jh → Option jr) : Option jr := match o with
  | some c => (match gK h c with
    | some (3, n) => if 0 ≤ i ∧ i < n then k (wL h c i.toNat x) else none
    | _ => none)
  | none => none
def vAS (h : jh) (o : Option Nat) (i : Int) (x : Option Nat) (k : jh → Option jr) : Option jr := match x, o with
  | some v, some c => (match gK h c with
    | some (t + 4, n) => if 0 ≤ i ∧ i < n then (match gK h v with
      | some (0, ci) => if ci = t then k (wR h c i.toNat (some v)) else none
      | some (1, _) => if t = 100 then k (wR h c i.toNat (some v)) else none
      | _ => none) else none
    | _ => none)
  | _, _ => none
def vLN (h : jh) (o : Option Nat) (k : Int → Option jr) : Option jr := match o with
  | some c => (match gK h c with
    | some (_ + 1, n) => k (n : Int)
    | some _ => none
    | none => if c = jSCR then k (gD h jLEN 0) else none)
  | none => none
def vZ (x : Int) (k : Option jr) : Option jr := if x = 0 ∨ x = 1 then k else none
def vG (P : Prop) [Decidable P] (k : Option jr) : Option jr := if P then k else none
def vNl (o : Option Nat) (a b : Option jr) : Option jr := match o with
  | none => a
  | some _ => b
def vC (x : Option jr) (k : Option jv → jh → Option jr) : Option jr := match x with
  | some ((0, r), h) => k r h
  | _ => none
def jsw (ts : List Nat) (d : Nat) (lo hi x : Int) : Nat := if x < lo then d else if hi < x then d else ts.getD (x - lo).toNat 0
section CPS
variable {d y q k ci j t : Nat} {r : List (Nat × Instr)} {ls : List (Option jv)} {st : List jv} {h : jh} {i : Instr}
theorem jex_c : jex y ((q, i) :: r) q ls st h = (match pjx y i q ls st h with
    | some (.inl (pc', ls', st', h')) => jex y r pc' ls' st' h'
    | x => (q, ls, h, x)) := if_pos rfl
theorem jq {q' : Nat} {ls' : List (Option jv)} {st' : List jv} {h' : jh} (hp : pjx y i q ls st h = jgo q' ls' st' h') {K : Option jr} (hK : jcc d y (jex y r q' ls' st' h') = K) : jcc d y (jex y ((q, i) :: r) q ls st h) = K := by
  rw [jex_c, hp]; exact hK
theorem jq_none (hp : pjx y i q ls st h = none) : jcc d y (jex y ((q, i) :: r) q ls st h) = none := by
  rw [jex_c, hp]; rfl
theorem jq_out {o : Nat × Option jv} (hp : pjx y i q ls st h = some (.inr (.inr o))) : jcc d y (jex y ((q, i) :: r) q ls st h) = some (o, h) := by
  rw [jex_c, hp]; rfl
theorem jq_end : jcc d y (jex y [] q ls st h) = Vl d y q ls st h := rfl
theorem jq_gf {v : Nat → jv} (o : Option Nat) (hf : pfl (poc y) k = some (ci, j)) (hv : ∀ c, jfv h ci c j = v c) {K : Nat → Option jr} (hK : ∀ c, jcc d y (jex y r (q + 3) ls (v c :: st) h) = K c) : jcc d y (jex y ((q, .getfield k) :: r) q ls (.inr (.inr o) :: st) h) = vGF h o ci K := by
  cases o with
  | none => exact jq_none rfl
  | some c =>
    show _ = if gK h c = some (0, ci) then K c else none
    have e : pjx y (.getfield k) q ls (.inr (.inr (some c)) :: st) h = if gK h c = some (0, ci) then jgo (q + 3) ls (v c :: st) h else none := by
      show (match pfl (poc y) k with | some (ci, j) => if gK h c = some (0, ci) then jgo (q + 3) ls (jfv h ci c j :: st) h else none | none => none) = _
      rw [hf]; simp only [hv]
    by_cases hg : gK h c = some (0, ci)
    · rw [if_pos hg] at e ⊢; exact jq e (hK c)
    · rw [if_neg hg] at e ⊢; exact jq_none e
theorem jq_pfI (o : Option Nat) (x : Int) (hf : pfl (poc y) k = some (ci, j)) (hfin : ¬ (pfin ci j = true ∧ ¬ (pin y = 1 ∧ poc y = ci))) (ht : pj_ft ci j = 0) {K : Nat → Option jr} (hK : ∀ c, jcc d y (jex y r (q + 3) ls st (wD h c j x)) = K c) : jcc d y (jex y ((q, .putfield k) :: r) q ls (.inl x :: .inr (.inr o) :: st) h) = vGF h o ci K := by
  cases o with
  | none => exact jq_none (by show (match pfl (poc y) k with | some (ci, j) => _ | none => none) = none; rw [hf]; show (if _ then none else _) = none; rw [if_neg hfin])
  | some c =>
    show _ = if gK h c = some (0, ci) then K c else none
    have e : pjx y (.putfield k) q ls (.inl x :: .inr (.inr (some c)) :: st) h = if gK h c = some (0, ci) then jgo (q + 3) ls st (wD h c j x) else none := by
      show (match pfl (poc y) k with | some (ci, j) => _ | none => none) = _
      rw [hf]; show (if _ then none else _) = _; rw [if_neg hfin]
      show (if gK h c = some (0, ci) then (match pj_ft ci j with | 0 => _ | 1 => _ | _ => none) else none) = _
      rw [ht]
    by_cases hg : gK h c = some (0, ci)
    · rw [if_pos hg] at e ⊢; exact jq e (hK c)
    · rw [if_neg hg] at e ⊢; exact jq_none e
theorem jq_pfZ (o : Option Nat) (x : Int) (hf : pfl (poc y) k = some (ci, j)) (hfin : ¬ (pfin ci j = true ∧ ¬ (pin y = 1 ∧ poc y = ci))) (ht : pj_ft ci j = 1) {K : Nat → Option jr} (hK : ∀ c, jcc d y (jex y r (q + 3) ls st (wD h c j x)) = K c) : jcc d y (jex y ((q, .putfield k) :: r) q ls (.inl x :: .inr (.inr o) :: st) h) = vGF h o ci (fun c => vZ x (K c)) := by
  cases o with
  | none => exact jq_none (by show (match pfl (poc y) k with | some (ci, j) => _ | none => none) = none; rw [hf]; show (if _ then none else _) = none; rw [if_neg hfin])
  | some c =>
    show _ = if gK h c = some (0, ci) then vZ x (K c) else none
    have e : pjx y (.putfield k) q ls (.inl x :: .inr (.inr (some c)) :: st) h = if gK h c = some (0, ci) then (if x = 0 ∨ x = 1 then jgo (q + 3) ls st (wD h c j x) else none) else none := by
      show (match pfl (poc y) k with | some (ci, j) => _ | none => none) = _
      rw [hf]; show (if _ then none else _) = _; rw [if_neg hfin]
      show (if gK h c = some (0, ci) then (match pj_ft ci j with | 0 => _ | 1 => _ | _ => none) else none) = _
      rw [ht]
    by_cases hg : gK h c = some (0, ci)
    · rw [if_pos hg] at e ⊢
      by_cases hx : x = 0 ∨ x = 1
      · rw [if_pos hx] at e; unfold vZ; rw [if_pos hx]; exact jq e (hK c)
      · rw [if_neg hx] at e; unfold vZ; rw [if_neg hx]; exact jq_none e
    · rw [if_neg hg] at e ⊢; exact jq_none e
theorem jq_pfL (o : Option Nat) (x : Int) (hf : pfl (poc y) k = some (ci, j)) (hfin : ¬ (pfin ci j = true ∧ ¬ (pin y = 1 ∧ poc y = ci))) (ht : pj_ft ci j = 2) {K : Nat → Option jr} (hK : ∀ c, jcc d y (jex y r (q + 3) ls st (wL h c j x)) = K c) : jcc d y (jex y ((q, .putfield k) :: r) q ls (.inr (.inl x) :: .inr (.inr o) :: st) h) = vGF h o ci K := by
  cases o with
  | none => exact jq_none (by show (match pfl (poc y) k with | some (ci, j) => _ | none => none) = none; rw [hf]; show (if _ then none else _) = none; rw [if_neg hfin])
  | some c =>
    show _ = if gK h c = some (0, ci) then K c else none
    have e : pjx y (.putfield k) q ls (.inr (.inl x) :: .inr (.inr (some c)) :: st) h = if gK h c = some (0, ci) then jgo (q + 3) ls st (wL h c j x) else none := by
      show (match pfl (poc y) k with | some (ci, j) => _ | none => none) = _
      rw [hf]; show (if _ then none else _) = _; rw [if_neg hfin]
      show (if gK h c = some (0, ci) then (if pj_ft ci j = 2 then _ else none) else none) = _
      rw [if_pos ht]
    by_cases hg : gK h c = some (0, ci)
    · rw [if_pos hg] at e ⊢; exact jq e (hK c)
    · rw [if_neg hg] at e ⊢; exact jq_none e
theorem jq_pfR (o : Option Nat) (x : Option Nat) (hf : pfl (poc y) k = some (ci, j)) (hfin : ¬ (pfin ci j = true ∧ ¬ (pin y = 1 ∧ poc y = ci))) (ht : pj_ft ci j = 3) {K : Nat → Option jr} (hK : ∀ c, jcc d y (jex y r (q + 3) ls st (wR h c j x)) = K c) : jcc d y (jex y ((q, .putfield k) :: r) q ls (.inr (.inr x) :: .inr (.inr o) :: st) h) = vGF h o ci K := by
  cases o with
  | none => exact jq_none (by show (match pfl (poc y) k with | some (ci, j) => _ | none => none) = none; rw [hf]; show (if _ then none else _) = none; rw [if_neg hfin])
  | some c =>
    show _ = if gK h c = some (0, ci) then K c else none
    have e : pjx y (.putfield k) q ls (.inr (.inr x) :: .inr (.inr (some c)) :: st) h = if gK h c = some (0, ci) then jgo (q + 3) ls st (wR h c j x) else none := by
      show (match pfl (poc y) k with | some (ci, j) => _ | none => none) = _
      rw [hf]; show (if _ then none else _) = _; rw [if_neg hfin]
      show (if gK h c = some (0, ci) then (if pj_ft ci j = 3 then _ else none) else none) = _
      rw [if_pos ht]
    by_cases hg : gK h c = some (0, ci)
    · rw [if_pos hg] at e ⊢; exact jq e (hK c)
    · rw [if_neg hg] at e ⊢; exact jq_none e
theorem jq_ia (o : Option Nat) (i : Int) {K : Int → Option jr} (hK : ∀ v, jcc d y (jex y r (q + 1) ls (.inl v :: st) h) = K v) : jcc d y (jex y ((q, .iaload) :: r) q ls (.inl i :: .inr (.inr o) :: st) h) = vIA h o i K := by
  cases o with
  | none => exact jq_none rfl
  | some c =>
    unfold vIA
    cases hg : gK h c with
    | none =>
      by_cases hc : c = jSCR
      · rw [if_pos hc]
        by_cases hi : 0 ≤ i ∧ i < gD h jLEN 0
        · rw [if_pos hi]; exact jq (by unfold pjx; simp only [hg, if_pos hc, if_pos hi]; rfl) (hK _)
        · rw [if_neg hi]; exact jq_none (by unfold pjx; simp only [hg, if_pos hc, if_neg hi])
      · rw [if_neg hc]; exact jq_none (by unfold pjx; simp only [hg, if_neg hc])
    | some w =>
      obtain ⟨t, n⟩ := w
      by_cases ht : t = 1
      · subst ht
        by_cases hi : 0 ≤ i ∧ i < n
        · rw [if_pos hi]; exact jq (by unfold pjx; simp only [hg, if_pos hi]; rfl) (hK _)
        · rw [if_neg hi]; exact jq_none (by unfold pjx; simp only [hg, if_neg hi])
      · split
        · rename_i e; cases e; exact absurd rfl ht
        · exact jq_none (by unfold pjx; simp only [hg]; split <;> first | rfl | (rename_i e; cases e; exact absurd rfl ht))
        · rename_i e; cases e
theorem jq_ba (o : Option Nat) (i : Int) {K : Int → Option jr} (hK : ∀ v, jcc d y (jex y r (q + 1) ls (.inl v :: st) h) = K v) : jcc d y (jex y ((q, .baload) :: r) q ls (.inl i :: .inr (.inr o) :: st) h) = vBA h o i K := by
  cases o with
  | none => exact jq_none rfl
  | some c =>
    unfold vBA
    dsimp only
    split
    · rename_i n hg
      by_cases hi : 0 ≤ i ∧ i < n
      · rw [if_pos hi]; exact jq (by unfold pjx; simp only [hg, if_pos hi]; rfl) (hK _)
      · rw [if_neg hi]; exact jq_none (by unfold pjx; simp only [hg, if_neg hi])
    · rename_i hno
      exact jq_none (by unfold pjx; dsimp only; split <;> first | rfl | (rename_i n e; exact absurd e (hno n)))
theorem jq_la (o : Option Nat) (i : Int) {K : Int → Option jr} (hK : ∀ v, jcc d y (jex y r (q + 1) ls (.inr (.inl v) :: st) h) = K v) : jcc d y (jex y ((q, .laload) :: r) q ls (.inl i :: .inr (.inr o) :: st) h) = vLA h o i K := by
  cases o with
  | none => exact jq_none rfl
  | some c =>
    unfold vLA
    dsimp only
    split
    · rename_i n hg
      by_cases hi : 0 ≤ i ∧ i < n
      · rw [if_pos hi]; exact jq (by unfold pjx; simp only [hg, if_pos hi]; rfl) (hK _)
      · rw [if_neg hi]; exact jq_none (by unfold pjx; simp only [hg, if_neg hi])
    · rename_i hno
      exact jq_none (by unfold pjx; dsimp only; split <;> first | rfl | (rename_i n e; exact absurd e (hno n)))
theorem jq_aa (o : Option Nat) (i : Int) {K : Option Nat → Option jr} (hK : ∀ v, jcc d y (jex y r (q + 1) ls (.inr (.inr v) :: st) h) = K v) : jcc d y (jex y ((q, .aaload) :: r) q ls (.inl i :: .inr (.inr o) :: st) h) = vAA h o i K := by
  cases o with
  | none => exact jq_none rfl
  | some c =>
    unfold vAA
    dsimp only
    split
    · rename_i t n hg
      by_cases hi : 0 ≤ i ∧ i < n
      · rw [if_pos hi]; exact jq (by unfold pjx; simp only [hg, if_pos hi]; rfl) (hK _)
      · rw [if_neg hi]; exact jq_none (by unfold pjx; simp only [hg, if_neg hi])
    · rename_i hno
      exact jq_none (by unfold pjx; dsimp only; split <;> first | rfl | (rename_i t n e; exact absurd e (hno t n)))
theorem jq_is (o : Option Nat) (i x : Int) {K : jh → Option jr} (hK : ∀ h', jcc d y (jex y r (q + 1) ls st h') = K h') : jcc d y (jex y ((q, .iastore) :: r) q ls (.inl x :: .inl i :: .inr (.inr o) :: st) h) = vIS h o i x K := by
  cases o with
  | none => exact jq_none rfl
  | some c =>
    unfold vIS
    dsimp only
    split
    · rename_i n hg
      by_cases hi : 0 ≤ i ∧ i < n
      · rw [if_pos hi]; exact jq (by unfold pjx; simp only [hg, if_pos hi]; rfl) (hK _)
      · rw [if_neg hi]; exact jq_none (by unfold pjx; simp only [hg, if_neg hi])
    · rename_i hno
      exact jq_none (by unfold pjx; dsimp only; split <;> first | rfl | (rename_i n e; exact absurd e (hno n)))
theorem jq_bs (o : Option Nat) (i x : Int) {K : jh → Option jr} (hK : ∀ h', jcc d y (jex y r (q + 1) ls st h') = K h') : jcc d y (jex y ((q, .bastore) :: r) q ls (.inl x :: .inl i :: .inr (.inr o) :: st) h) = vBS h o i x K := by
  cases o with
  | none => exact jq_none rfl
  | some c =>
    unfold vBS
    dsimp only
    split
    · rename_i n hg
      by_cases hi : 0 ≤ i ∧ i < n
      · rw [if_pos hi]
        by_cases hx : x = 0 ∨ x = 1
        · rw [if_pos hx]; exact jq (by unfold pjx; simp only [hg, if_pos hi, if_pos hx]; rfl) (hK _)
        · rw [if_neg hx]; exact jq_none (by unfold pjx; simp only [hg, if_pos hi, if_neg hx])
      · rw [if_neg hi]; exact jq_none (by unfold pjx; simp only [hg, if_neg hi])
    · rename_i hno
      exact jq_none (by unfold pjx; dsimp only; split <;> first | rfl | (rename_i n e; exact absurd e (hno n)))
theorem jq_ls (o : Option Nat) (i x : Int) {K : jh → Option jr} (hK : ∀ h', jcc d y (jex y r (q + 1) ls st h') = K h') : jcc d y (jex y ((q, .lastore) :: r) q ls (.inr (.inl x) :: .inl i :: .inr (.inr o) :: st) h) = vLS h o i x K := by
  cases o with
  | none => exact jq_none rfl
  | some c =>
    unfold vLS
    dsimp only
    split
    · rename_i n hg
      by_cases hi : 0 ≤ i ∧ i < n
      · rw [if_pos hi]; exact jq (by unfold pjx; simp only [hg, if_pos hi]; rfl) (hK _)
      · rw [if_neg hi]; exact jq_none (by unfold pjx; simp only [hg, if_neg hi])
    · rename_i hno
      exact jq_none (by unfold pjx; dsimp only; split <;> first | rfl | (rename_i n e; exact absurd e (hno n)))
theorem jq_as (o : Option Nat) (i : Int) (x : Option Nat) {K : jh → Option jr} (hK : ∀ h', jcc d y (jex y r (q + 1) ls st h') = K h') : jcc d y (jex y ((q, .aastore) :: r) q ls (.inr (.inr x) :: .inl i :: .inr (.inr o) :: st) h) = vAS h o i x K := by
  cases x with
  | none => exact jq_none rfl
  | some v =>
  cases o with
  | none => exact jq_none rfl
  | some c =>
    have e : pjx y .aastore q ls (.inr (.inr (some v)) :: .inl i :: .inr (.inr (some c)) :: st) h = (match gK h c with
      | some (k + 4, n) => if 0 ≤ i ∧ i < n then (match gK h v with
        | some (0, ci) => if ci = k then jgo (q + 1) ls st (wR h c i.toNat (some v)) else none
        | some (1, _) => if k = 100 then jgo (q + 1) ls st (wR h c i.toNat (some v)) else none
        | _ => none) else none
      | _ => none) := rfl
    unfold vAS
    dsimp only
    split
    · rename_i t n hg
      rw [hg] at e
      by_cases hi : 0 ≤ i ∧ i < n
      · simp only [if_pos hi] at e
        rw [if_pos hi]
        split
        · rename_i ci hv
          simp only [hv] at e
          by_cases hc : ci = t
          · rw [if_pos hc] at e ⊢; exact jq e (hK _)
          · rw [if_neg hc] at e ⊢; exact jq_none e
        · rename_i n2 hv
          simp only [hv] at e
          by_cases hc : t = 100
          · rw [if_pos hc] at e ⊢; exact jq e (hK _)
          · rw [if_neg hc] at e ⊢; exact jq_none e
        · rename_i h1 h2
          refine jq_none (e.trans ?_)
          split <;> first | rfl | (rename_i e1; exact absurd e1 (h1 _)) | (rename_i e1; exact absurd e1 (h2 _))
      · simp only [if_neg hi] at e
        rw [if_neg hi]
        exact jq_none e
    · rename_i hno
      refine jq_none (e.trans ?_)
      split <;> first | rfl | (rename_i t n e1; exact absurd e1 (hno t n))
theorem jq_ln (o : Option Nat) {K : Int → Option jr} (hK : ∀ v, jcc d y (jex y r (q + 1) ls (.inl v :: st) h) = K v) : jcc d y (jex y ((q, .arraylength) :: r) q ls (.inr (.inr o) :: st) h) = vLN h o K := by
  cases o with
  | none => exact jq_none rfl
  | some c =>
    unfold vLN
    dsimp only
    split
    · rename_i t n hg; exact jq (by unfold pjx; simp only [hg]; rfl) (hK _)
    · rename_i w hno hg
      exact jq_none (by unfold pjx; simp only [hg]; split <;> first | rfl | (rename_i t n e; cases e; exact absurd hg (hno _ _)))
    · rename_i hg
      by_cases hc : c = jSCR
      · rw [if_pos hc]; exact jq (by unfold pjx; simp only [hg, if_pos hc]; rfl) (hK _)
      · rw [if_neg hc]; exact jq_none (by unfold pjx; simp only [hg, if_neg hc])
end CPS
def vRf (o : Option Nat) (k : Option jr) : Option jr := match o with
  | some _ => k
  | none => none
section CPS2
variable {d y q k ci j t : Nat} {r : List (Nat × Instr)} {ls : List (Option jv)} {st : List jv} {h : jh} {i : Instr}
theorem Vl_jbr {c : ClassFile.Cond} {a b : Int} {t f : Nat} : Vl d y (jbr c a b t f) ls st h = jbr c a b (Vl d y t ls st h) (Vl d y f ls st h) := by
  cases c <;> unfold jbr <;> dsimp only <;> split <;> rfl
theorem jq_if (c : ClassFile.Cond) (a : Int) {off : Int} (hn : ¬ ((q : Int) + off < 0)) (ht : jtgt q off = t) : jcc d y (jex y [(q, .ifCond c off)] q ls (.inl a :: st) h) = jbr c a 0 (Vl d y t ls st h) (Vl d y (q + 3) ls st h) := by
  refine jq (q' := jbr c a 0 (jtgt q off) (q + 3)) (ls' := ls) (st' := st) (h' := h) ?_ ?_
  · show (if (q : Int) + off < 0 then none else _) = _
    rw [if_neg hn]
  · rw [jq_end, Vl_jbr, ht]
theorem jq_ic (c : ClassFile.Cond) (a b : Int) {off : Int} (hn : ¬ ((q : Int) + off < 0)) (ht : jtgt q off = t) : jcc d y (jex y [(q, .if_icmp c off)] q ls (.inl b :: .inl a :: st) h) = jbr c a b (Vl d y t ls st h) (Vl d y (q + 3) ls st h) := by
  refine jq (q' := jbr c a b (jtgt q off) (q + 3)) (ls' := ls) (st' := st) (h' := h) ?_ ?_
  · show (if (q : Int) + off < 0 then none else _) = _
    rw [if_neg hn]
  · rw [jq_end, Vl_jbr, ht]
theorem jq_nl (o : Option Nat) {off : Int} (hn : ¬ ((q : Int) + off < 0)) (ht : jtgt q off = t) : jcc d y (jex y [(q, .ifnull off)] q ls (.inr (.inr o) :: st) h) = vNl o (Vl d y t ls st h) (Vl d y (q + 3) ls st h) := by
  cases o with
  | none =>
    refine jq (q' := jtgt q off) (ls' := ls) (st' := st) (h' := h) ?_ ?_
    · show (if (q : Int) + off < 0 then none else _) = _
      rw [if_neg hn]
    · rw [jq_end, ht]; rfl
  | some c => exact jq (q' := q + 3) (ls' := ls) (st' := st) (h' := h) rfl rfl
theorem jq_nn (o : Option Nat) {off : Int} (hn : ¬ ((q : Int) + off < 0)) (ht : jtgt q off = t) : jcc d y (jex y [(q, .ifnonnull off)] q ls (.inr (.inr o) :: st) h) = vNl o (Vl d y (q + 3) ls st h) (Vl d y t ls st h) := by
  cases o with
  | none => exact jq (q' := q + 3) (ls' := ls) (st' := st) (h' := h) rfl rfl
  | some c =>
    refine jq (q' := jtgt q off) (ls' := ls) (st' := st) (h' := h) ?_ ?_
    · show (if (q : Int) + off < 0 then none else _) = _
      rw [if_neg hn]
    · rw [jq_end, ht]; rfl
theorem jq_go {off : Int} (hn : ¬ ((q : Int) + off < 0)) (ht : jtgt q off = t) : jcc d y (jex y [(q, .goto off)] q ls st h) = Vl d y t ls st h := by
  refine jq (q' := jtgt q off) (ls' := ls) (st' := st) (h' := h) ?_ ?_
  · show (if (q : Int) + off < 0 then none else _) = _
    rw [if_neg hn]
  · rw [jq_end, ht]
theorem jq_dv (a b : Int) {K : Option jr} (hK : jcc d y (jex y r (q + 1) ls (.inl (w32 (a.tdiv b)) :: st) h) = K) : jcc d y (jex y ((q, .idiv) :: r) q ls (.inl b :: .inl a :: st) h) = if b = 0 then none else K := by
  by_cases hb : b = 0
  · rw [if_pos hb]; exact jq_none (if_pos hb)
  · rw [if_neg hb]; exact jq (if_neg hb) hK
theorem jq_rm (a b : Int) {K : Option jr} (hK : jcc d y (jex y r (q + 1) ls (.inl (a.tmod b) :: st) h) = K) : jcc d y (jex y ((q, .irem) :: r) q ls (.inl b :: .inl a :: st) h) = if b = 0 then none else K := by
  by_cases hb : b = 0
  · rw [if_pos hb]; exact jq_none (if_pos hb)
  · rw [if_neg hb]; exact jq (if_neg hb) hK
theorem jq_rI (x : Int) (hr : prt y = some .int) : jcc d y (jex y [(q, .ireturn)] q ls [.inl x] h) = some ((0, some (.inl x)), h) := jq_out (by unfold pjx; dsimp only; rw [hr])
theorem jq_rZ (x : Int) (hr : prt y = some .boolean) : jcc d y (jex y [(q, .ireturn)] q ls [.inl x] h) = vZ x (some ((0, some (.inl x)), h)) := by
  unfold vZ
  by_cases hx : x = 0 ∨ x = 1
  · rw [if_pos hx]; exact jq_out (by unfold pjx; dsimp only; rw [hr]; exact if_pos hx)
  · rw [if_neg hx]; exact jq_none (by unfold pjx; dsimp only; rw [hr]; exact if_neg hx)
theorem jq_rL (x : Int) (hr : prt y = some .long) : jcc d y (jex y [(q, .lreturn)] q ls [.inr (.inl x)] h) = some ((0, some (.inr (.inl x))), h) := jq_out (by unfold pjx; dsimp only; rw [if_pos hr])
theorem jq_rO (x : Option Nat) {n : String} (hr : prt y = some (.object n)) : jcc d y (jex y [(q, .areturn)] q ls [.inr (.inr x)] h) = some ((0, some (.inr (.inr x))), h) := jq_out (by unfold pjx; dsimp only; rw [hr])
theorem jq_rA (x : Option Nat) {n : FieldType} (hr : prt y = some (.array n)) : jcc d y (jex y [(q, .areturn)] q ls [.inr (.inr x)] h) = some ((0, some (.inr (.inr x))), h) := jq_out (by unfold pjx; dsimp only; rw [hr])
theorem jq_rV (hr : prt y = none) : jcc d y (jex y [(q, .return_)] q ls [] h) = some ((0, none), h) := jq_out (by unfold pjx; dsimp only; rw [if_pos hr])
theorem jq_thr (hk : pkl (poc y) k = some 14) : jcc d y (jex y ((q, .new k) :: r) q ls st h) = some ((1, none), h) := jq_out (by unfold pjx; dsimp only; rw [hk]; rfl)
theorem jq_an (n : Int) (hk : pkl (poc y) k = some ci) (hc : ci = 3 ∨ ci = 9 ∨ ci = 1) {K : Option jr} (hK : jcc d y (jex y r (q + 3) ls (.inr (.inr (some h.1.length)) :: st) (nC h (4 + ci, n.toNat))) = K) : jcc d y (jex y ((q, .anewarray k) :: r) q ls (.inl n :: st) h) = vG (0 ≤ n ∧ n ≤ 4096) K := by
  unfold vG
  by_cases hn : 0 ≤ n ∧ n ≤ 4096
  · rw [if_pos hn]; exact jq (by unfold pjx; dsimp only; rw [hk]; exact if_pos ⟨hn.1, hn.2, hc⟩) hK
  · rw [if_neg hn]; exact jq_none (by unfold pjx; dsimp only; rw [hk]; exact if_neg fun z => hn ⟨z.1, z.2.1⟩)
theorem jq_ch (i : Int) {y2 : Nat} (hk : pml (poc y) k = some (13, y2)) (hw : jwt st ≤ 8) {K : Option jr} (hK : jcc d y (jex y r (q + 3) ls (.inl (jKEYt.getD i.toNat 0) :: st) h) = K) : jcc d y (jex y ((q, .invokevirtual k) :: r) q ls (.inl i :: .inr (.inr (some jKEY)) :: st) h) = vG (0 ≤ i ∧ i < 57) K := by
  unfold vG
  by_cases hn : 0 ≤ i ∧ i < 57
  · rw [if_pos hn]; exact jq (by unfold pjx; dsimp only; rw [hk]; exact if_pos ⟨⟨rfl, hw⟩, hn⟩) hK
  · rw [if_neg hn]; exact jq_none (by unfold pjx; dsimp only; rw [hk]; exact if_neg fun z => hn z.2)
theorem jq_ix (i : Int) {y2 : Nat} (hk : pml (poc y) k = some (14, y2)) (hw : jwt st ≤ 8) {K : Option jr} (hK : jcc d y (jex y r (q + 3) ls (.inl (if jSIGt.idxOf i < 8 then (jSIGt.idxOf i : Int) else -1) :: st) h) = K) : jcc d y (jex y ((q, .invokevirtual k) :: r) q ls (.inl i :: .inr (.inr (some jSIG)) :: st) h) = vG (0 ≤ i ∧ i < 65536) K := by
  unfold vG
  by_cases hn : 0 ≤ i ∧ i < 65536
  · rw [if_pos hn]; exact jq (by unfold pjx; dsimp only; rw [hk]; exact if_pos ⟨⟨rfl, hw⟩, hn⟩) hK
  · rw [if_neg hn]; exact jq_none (by unfold pjx; dsimp only; rw [hk]; exact if_neg fun z => hn z.2)
theorem vC_co {y2 pc : Nat} {av rs : List jv} : jco Vl (d + 1) y pc ls h (some (.inr (.inl (0, y2, av, rs)))) = vC (Vl d y2 0 (jent (pmL y2) av) [] h) (fun r h' => Vl (d + 1) y (pc + 3) ls (r.toList ++ rs) h') := by
  show (match Vl d y2 0 (jent (pmL y2) av) [] h with | some ((0, r), h') => Vl (d + 1) y (pc + 3) ls (r.toList ++ rs) h' | _ => none) = _
  unfold vC
  rfl
theorem jq_virt {kd y2 n : Nat} (o : Option Nat) {av rs : List jv} {E : Nat → List (Option jv)} (hk : pml (poc y) k = some (kd, y2)) (hkd : kd = 0 ∨ kd = 4) (hna : pna y2 = n) (hn : n ≤ st.length) (ht : (st.take n).reverse = .inr (.inr o) :: av) (hd : st.drop n = rs) (hc : poc y2 = ci) (hl : (jlay av).length + 1 ≤ pmL y2 ∧ jwt rs ≤ 8) (hE : ∀ c, jent (pmL y2) (.inr (.inr (some c)) :: av) = E c) :
    jcc (d + 1) y (jex y [(q, .invokevirtual k)] q ls st h) = vGF h o ci (fun c => vC (Vl d y2 0 (E c) [] h) (fun r h' => Vl (d + 1) y (q + 3) ls (r.toList ++ rs) h')) := by
  have e : pjx y (.invokevirtual k) q ls st h = match (.inr (.inr o) :: av : List jv) with
    | .inr (.inr (some c)) :: av => if gK h c = some (0, poc y2) then jcl 0 y2 (.inr (.inr (some c)) :: av) rs else none
    | _ => none := by
    unfold pjx
    dsimp only
    rw [hk]
    dsimp only
    have hV : jkV kd = true := by rcases hkd with rfl | rfl <;> rfl
    rw [if_pos hV]
    rcases hkd with rfl | rfl <;> (unfold jcall; dsimp only; rw [hna, if_pos hn, ht, hd])
  cases o with
  | none => exact jq_none e
  | some c =>
    have e2 : pjx y (.invokevirtual k) q ls st h = if gK h c = some (0, ci) then some (.inr (.inl (0, y2, .inr (.inr (some c)) :: av, rs))) else none := by
      rw [e, ← hc]
      show (if gK h c = some (0, poc y2) then jcl 0 y2 (.inr (.inr (some c)) :: av) rs else none) = _
      unfold jcl
      rw [if_pos (show (jlay (.inr (.inr (some c)) :: av)).length ≤ pmL y2 ∧ jwt rs ≤ 8 from ⟨by show (jlay av).length + 1 ≤ _; exact hl.1, hl.2⟩)]
    show _ = if gK h c = some (0, ci) then _ else none
    by_cases hg : gK h c = some (0, ci)
    · rw [if_pos hg] at e2 ⊢
      rw [jex_c, e2]
      show jco Vl (d + 1) y q ls h (some (.inr (.inl (0, y2, .inr (.inr (some c)) :: av, rs)))) = _
      rw [vC_co, hE]
    · rw [if_neg hg] at e2 ⊢; exact jq_none e2
theorem jq_spec {kd y2 n c : Nat} {av rs : List jv} {E : List (Option jv)} (hk : pml (poc y) k = some (kd, y2)) (hkd : kd = 2 ∨ kd = 6) (hna : pna y2 = n) (hn : n ≤ st.length) (ht : (st.take n).reverse = .inr (.inr (some c)) :: av) (hd : st.drop n = rs) (hl : (jlay av).length + 1 ≤ pmL y2 ∧ jwt rs ≤ 8) (hE : jent (pmL y2) (.inr (.inr (some c)) :: av) = E) :
    jcc (d + 1) y (jex y [(q, .invokespecial k)] q ls st h) = vC (Vl d y2 0 E [] h) (fun r h' => Vl (d + 1) y (q + 3) ls (r.toList ++ rs) h') := by
  have e : pjx y (.invokespecial k) q ls st h = some (.inr (.inl (0, y2, .inr (.inr (some c)) :: av, rs))) := by
    unfold pjx
    dsimp only
    rw [hk]
    dsimp only
    have hV : jkI kd = true := by rcases hkd with rfl | rfl <;> rfl
    rw [if_pos hV]
    rcases hkd with rfl | rfl <;> (unfold jcall; dsimp only; rw [hna, if_pos hn, ht, hd]; dsimp only; unfold jcl; rw [if_pos (show (jlay (.inr (.inr (some c)) :: av)).length ≤ pmL y2 ∧ jwt rs ≤ 8 from ⟨by show (jlay av).length + 1 ≤ _; exact hl.1, hl.2⟩)])
  rw [jex_c, e]
  show jco Vl (d + 1) y q ls h (some (.inr (.inl (0, y2, .inr (.inr (some c)) :: av, rs)))) = _
  rw [vC_co, hE]
theorem jq_stat {kd y2 n : Nat} {av rs : List jv} {E : List (Option jv)} (hk : pml (poc y) k = some (kd, y2)) (hkd : kd = 1 ∨ kd = 5) (hna : pna y2 = n) (hn : n ≤ st.length) (ht : (st.take n).reverse = av) (hd : st.drop n = rs) (hl : (jlay av).length ≤ pmL y2 ∧ jwt rs ≤ 8) (hE : jent (pmL y2) av = E) :
    jcc (d + 1) y (jex y [(q, .invokestatic k)] q ls st h) = vC (Vl d y2 0 E [] h) (fun r h' => Vl (d + 1) y (q + 3) ls (r.toList ++ rs) h') := by
  have e : pjx y (.invokestatic k) q ls st h = some (.inr (.inl (0, y2, av, rs))) := by
    unfold pjx
    dsimp only
    rw [hk]
    dsimp only
    have hV : jkS kd = true := by rcases hkd with rfl | rfl <;> rfl
    rw [if_pos hV]
    rcases hkd with rfl | rfl <;> (unfold jcall; dsimp only; rw [hna, if_pos hn, ht, hd]; unfold jcl; rw [if_pos hl])
  rw [jex_c, e]
  show jco Vl (d + 1) y q ls h (some (.inr (.inl (0, y2, av, rs)))) = _
  rw [vC_co, hE]
theorem jq_sw (x : Int) {df lo hi : Int} {offs : Array Int} {ts : List Nat} {td : Nat} (hd : ¬ ((q : Int) + df < 0)) (h1 : jtgt q df = td) (h2 : offs.toList.map (jtgt q) = ts) (h3 : offs.toList.all (fun o => decide (¬ ((q : Int) + o < 0))) = true) (h4 : (offs.toList.length : Int) = hi - lo + 1) : jcc d y (jex y [(q, .tableswitch df lo hi offs)] q ls (.inl x :: st) h) = Vl d y (jsw ts td lo hi x) ls st h := by
  have e : pjx y (.tableswitch df lo hi offs) q ls (.inl x :: st) h = if (q : Int) + df < 0 then none else if x < lo then jgo (jtgt q df) ls st h else if hi < x then jgo (jtgt q df) ls st h else (match offs.toList[(x - lo).toNat]? with
      | some off => if (q : Int) + off < 0 then none else jgo (jtgt q off) ls st h
      | none => none) := rfl
  rw [if_neg hd] at e
  unfold jsw
  by_cases a1 : x < lo
  · rw [if_pos a1] at e ⊢; exact jq e (by rw [jq_end, h1])
  rw [if_neg a1] at e ⊢
  by_cases a2 : hi < x
  · rw [if_pos a2] at e ⊢; exact jq e (by rw [jq_end, h1])
  rw [if_neg a2] at e ⊢
  have hlt : (x - lo).toNat < offs.toList.length := by omega
  rw [List.getElem?_eq_getElem hlt] at e
  have h5 := List.all_eq_true.mp h3 _ (List.getElem_mem hlt)
  have h5 := of_decide_eq_true h5
  simp only [if_neg h5] at e
  refine jq e ?_
  rw [jq_end, ← h2, List.getD_eq_getElem?_getD, List.getElem?_map, List.getElem?_eq_getElem hlt]
  rfl
end CPS2
