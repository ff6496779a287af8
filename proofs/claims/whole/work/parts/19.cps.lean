/-! WHAT A PIECE OF CODE ASKS OF THE HEAP, instruction by instruction -/
section CPD
variable {α : Type}
def vGF (h : jh) (o : Option Nat) (ci : Nat) (k : Nat → Option α) : Option α := match o with
  | some c => if gK h c = some (0, ci) then k c else none
  | none => none
def vIA (h : jh) (o : Option Nat) (i : Int) (k : Int → Option α) : Option α := match o with
  | some c => (match gK h c with
    | some (1, n) => if 0 ≤ i ∧ i < n then k (gD h c i.toNat) else none
    | some _ => none
    | none => if c = jSCR then (if 0 ≤ i ∧ i < gD h jLEN 0 then k (gD h jSCR i.toNat) else none) else none)
  | none => none
def vBA (h : jh) (o : Option Nat) (i : Int) (k : Int → Option α) : Option α := match o with
  | some c => (match gK h c with
    | some (2, n) => if 0 ≤ i ∧ i < n then k (gD h c i.toNat) else none
    | _ => none)
  | none => none
def vLA (h : jh) (o : Option Nat) (i : Int) (k : Int → Option α) : Option α := match o with
  | some c => (match gK h c with
    | some (3, n) => if 0 ≤ i ∧ i < n then k (gL h c i.toNat) else none
    | _ => none)
  | none => none
def vAA (h : jh) (o : Option Nat) (i : Int) (k : Option Nat → Option α) : Option α := match o with
  | some c => (match gK h c with
    | some (_ + 4, n) => if 0 ≤ i ∧ i < n then k (gR h c i.toNat) else none
    | _ => none)
  | none => none
def vIS (h : jh) (o : Option Nat) (i x : Int) (k : jh → Option α) : Option α := match o with
  | some c => (match gK h c with
    | some (1, n) => if 0 ≤ i ∧ i < n then k (wD h c i.toNat x) else none
    | _ => none)
  | none => none
def vBS (h : jh) (o : Option Nat) (i x : Int) (k : jh → Option α) : Option α := match o with
  | some c => (match gK h c with
    | some (2, n) => if 0 ≤ i ∧ i < n then (if x = 0 ∨ x = 1 then k (wD h c i.toNat x) else none) else none
    | _ => none)
  | none => none
def vLS (h : jh) (o : Option Nat) (i x : Int) (k : jh → Option α) : Option α := match o with
  | some c => (match gK h c with
    | some (3, n) => if 0 ≤ i ∧ i < n then k (wL h c i.toNat x) else none
    | _ => none)
  | none => none
def vAS (h : jh) (o : Option Nat) (i : Int) (x : Option Nat) (k : jh → Option α) : Option α := match x with
  | some v => (match o with
    | some c => (match gK h c with
      | some (t + 4, n) => if 0 ≤ i ∧ i < n then (match gK h v with
        | some (0, ci) => if ci = t then k (wR h c i.toNat (some v)) else none
        | some (1, _) => if t = 100 then k (wR h c i.toNat (some v)) else none
        | _ => none) else none
      | _ => none)
    | none => none)
  | none => none
def vLN (h : jh) (o : Option Nat) (k : Int → Option α) : Option α := match o with
  | some c => (match gK h c with
    | some (_ + 1, n) => k (n : Int)
    | some _ => none
    | none => if c = jSCR then k (gD h jLEN 0) else none)
  | none => none
end CPD
/-- a question to the heap: nothing, or one answer -/
def vQ {β : Type} (f : (α : Type) → (β → Option α) → Option α) : Prop := (∀ (α : Type) (k : β → Option α), f α k = none) ∨ ∃ v, ∀ (α : Type) (k : β → Option α), f α k = k v
theorem vGF_c (h : jh) (o : Option Nat) (ci : Nat) : vQ (fun α (k : Nat → Option α) => vGF h o ci k) := by
  cases o with
  | none => exact Or.inl fun _ _ => rfl
  | some c =>
    by_cases hg : gK h c = some (0, ci)
    · exact Or.inr ⟨c, fun _ _ => if_pos hg⟩
    · exact Or.inl fun _ _ => if_neg hg
theorem vIA_c (h : jh) (o : Option Nat) (i : Int) : vQ (fun α (k : Int → Option α) => vIA h o i k) := by
  cases o with
  | none => exact Or.inl fun _ _ => rfl
  | some c =>
    cases hg : gK h c with
    | none =>
      by_cases hc : c = jSCR
      · by_cases hi : 0 ≤ i ∧ i < gD h jLEN 0
        · exact Or.inr ⟨_, fun _ _ => by simp only [vIA, hg, if_pos hc, if_pos hi]; rfl⟩
        · exact Or.inl fun _ _ => by simp only [vIA, hg, if_pos hc, if_neg hi]
      · exact Or.inl fun _ _ => by simp only [vIA, hg, if_neg hc]
    | some w =>
      match w, hg with
      | (0, n), hg => exact Or.inl fun _ _ => by simp only [vIA, hg]
      | (1, n), hg =>
        by_cases hi : 0 ≤ i ∧ i < n
        · exact Or.inr ⟨_, fun _ _ => by simp only [vIA, hg, if_pos hi]; rfl⟩
        · exact Or.inl fun _ _ => by simp only [vIA, hg, if_neg hi]
      | (t + 2, n), hg => exact Or.inl fun _ _ => by simp only [vIA, hg]
theorem vBA_c (h : jh) (o : Option Nat) (i : Int) : vQ (fun α (k : Int → Option α) => vBA h o i k) := by
  cases o with
  | none => exact Or.inl fun _ _ => rfl
  | some c =>
    cases hg : gK h c with
    | none => exact Or.inl fun _ _ => by simp only [vBA, hg]
    | some w =>
      match w, hg with
      | (0, n), hg => exact Or.inl fun _ _ => by simp only [vBA, hg]
      | (1, n), hg => exact Or.inl fun _ _ => by simp only [vBA, hg]
      | (2, n), hg =>
        by_cases hi : 0 ≤ i ∧ i < n
        · exact Or.inr ⟨_, fun _ _ => by simp only [vBA, hg, if_pos hi]; rfl⟩
        · exact Or.inl fun _ _ => by simp only [vBA, hg, if_neg hi]
      | (t + 3, n), hg => exact Or.inl fun _ _ => by simp only [vBA, hg]
theorem vLA_c (h : jh) (o : Option Nat) (i : Int) : vQ (fun α (k : Int → Option α) => vLA h o i k) := by
  cases o with
  | none => exact Or.inl fun _ _ => rfl
  | some c =>
    cases hg : gK h c with
    | none => exact Or.inl fun _ _ => by simp only [vLA, hg]
    | some w =>
      match w, hg with
      | (0, n), hg => exact Or.inl fun _ _ => by simp only [vLA, hg]
      | (1, n), hg => exact Or.inl fun _ _ => by simp only [vLA, hg]
      | (2, n), hg => exact Or.inl fun _ _ => by simp only [vLA, hg]
      | (3, n), hg =>
        by_cases hi : 0 ≤ i ∧ i < n
        · exact Or.inr ⟨_, fun _ _ => by simp only [vLA, hg, if_pos hi]; rfl⟩
        · exact Or.inl fun _ _ => by simp only [vLA, hg, if_neg hi]
      | (t + 4, n), hg => exact Or.inl fun _ _ => by simp only [vLA, hg]
theorem vAA_c (h : jh) (o : Option Nat) (i : Int) : vQ (fun α (k : Option Nat → Option α) => vAA h o i k) := by
  cases o with
  | none => exact Or.inl fun _ _ => rfl
  | some c =>
    cases hg : gK h c with
    | none => exact Or.inl fun _ _ => by simp only [vAA, hg]
    | some w =>
      match w, hg with
      | (0, n), hg => exact Or.inl fun _ _ => by simp only [vAA, hg]
      | (1, n), hg => exact Or.inl fun _ _ => by simp only [vAA, hg]
      | (2, n), hg => exact Or.inl fun _ _ => by simp only [vAA, hg]
      | (3, n), hg => exact Or.inl fun _ _ => by simp only [vAA, hg]
      | (t + 4, n), hg =>
        by_cases hi : 0 ≤ i ∧ i < n
        · exact Or.inr ⟨_, fun _ _ => by simp only [vAA, hg, if_pos hi]; rfl⟩
        · exact Or.inl fun _ _ => by simp only [vAA, hg, if_neg hi]
theorem vIS_c (h : jh) (o : Option Nat) (i x : Int) : vQ (fun α (k : jh → Option α) => vIS h o i x k) := by
  cases o with
  | none => exact Or.inl fun _ _ => rfl
  | some c =>
    cases hg : gK h c with
    | none => exact Or.inl fun _ _ => by simp only [vIS, hg]
    | some w =>
      match w, hg with
      | (0, n), hg => exact Or.inl fun _ _ => by simp only [vIS, hg]
      | (1, n), hg =>
        by_cases hi : 0 ≤ i ∧ i < n
        · exact Or.inr ⟨_, fun _ _ => by simp only [vIS, hg, if_pos hi]; rfl⟩
        · exact Or.inl fun _ _ => by simp only [vIS, hg, if_neg hi]
      | (t + 2, n), hg => exact Or.inl fun _ _ => by simp only [vIS, hg]
theorem vBS_c (h : jh) (o : Option Nat) (i x : Int) : vQ (fun α (k : jh → Option α) => vBS h o i x k) := by
  cases o with
  | none => exact Or.inl fun _ _ => rfl
  | some c =>
    cases hg : gK h c with
    | none => exact Or.inl fun _ _ => by simp only [vBS, hg]
    | some w =>
      match w, hg with
      | (0, n), hg => exact Or.inl fun _ _ => by simp only [vBS, hg]
      | (1, n), hg => exact Or.inl fun _ _ => by simp only [vBS, hg]
      | (2, n), hg =>
        by_cases hi : 0 ≤ i ∧ i < n
        · by_cases hx : x = 0 ∨ x = 1
          · exact Or.inr ⟨_, fun _ _ => by simp only [vBS, hg, if_pos hi, if_pos hx]; rfl⟩
          · exact Or.inl fun _ _ => by simp only [vBS, hg, if_pos hi, if_neg hx]
        · exact Or.inl fun _ _ => by simp only [vBS, hg, if_neg hi]
      | (t + 3, n), hg => exact Or.inl fun _ _ => by simp only [vBS, hg]
theorem vLS_c (h : jh) (o : Option Nat) (i x : Int) : vQ (fun α (k : jh → Option α) => vLS h o i x k) := by
  cases o with
  | none => exact Or.inl fun _ _ => rfl
  | some c =>
    cases hg : gK h c with
    | none => exact Or.inl fun _ _ => by simp only [vLS, hg]
    | some w =>
      match w, hg with
      | (0, n), hg => exact Or.inl fun _ _ => by simp only [vLS, hg]
      | (1, n), hg => exact Or.inl fun _ _ => by simp only [vLS, hg]
      | (2, n), hg => exact Or.inl fun _ _ => by simp only [vLS, hg]
      | (3, n), hg =>
        by_cases hi : 0 ≤ i ∧ i < n
        · exact Or.inr ⟨_, fun _ _ => by simp only [vLS, hg, if_pos hi]; rfl⟩
        · exact Or.inl fun _ _ => by simp only [vLS, hg, if_neg hi]
      | (t + 4, n), hg => exact Or.inl fun _ _ => by simp only [vLS, hg]
theorem vAS_c (h : jh) (o : Option Nat) (i : Int) (x : Option Nat) : vQ (fun α (k : jh → Option α) => vAS h o i x k) := by
  cases x with
  | none => exact Or.inl fun _ _ => rfl
  | some v =>
  cases o with
  | none => exact Or.inl fun _ _ => rfl
  | some c =>
    cases hg : gK h c with
    | none => exact Or.inl fun _ _ => by simp only [vAS, hg]
    | some w =>
      match w, hg with
      | (0, n), hg => exact Or.inl fun _ _ => by simp only [vAS, hg]
      | (1, n), hg => exact Or.inl fun _ _ => by simp only [vAS, hg]
      | (2, n), hg => exact Or.inl fun _ _ => by simp only [vAS, hg]
      | (3, n), hg => exact Or.inl fun _ _ => by simp only [vAS, hg]
      | (t + 4, n), hg =>
        by_cases hi : 0 ≤ i ∧ i < n
        · cases hv : gK h v with
          | none => exact Or.inl fun _ _ => by simp only [vAS, hg, if_pos hi, hv]
          | some u =>
            match u, hv with
            | (0, ci), hv =>
              by_cases hc : ci = t
              · exact Or.inr ⟨_, fun _ _ => by simp only [vAS, hg, if_pos hi, hv, if_pos hc]; rfl⟩
              · exact Or.inl fun _ _ => by simp only [vAS, hg, if_pos hi, hv, if_neg hc]
            | (1, n2), hv =>
              by_cases hc : t = 100
              · exact Or.inr ⟨_, fun _ _ => by simp only [vAS, hg, if_pos hi, hv, if_pos hc]; rfl⟩
              · exact Or.inl fun _ _ => by simp only [vAS, hg, if_pos hi, hv, if_neg hc]
            | (u + 2, n2), hv => exact Or.inl fun _ _ => by simp only [vAS, hg, if_pos hi, hv]
        · exact Or.inl fun _ _ => by simp only [vAS, hg, if_neg hi]
theorem vLN_c (h : jh) (o : Option Nat) : vQ (fun α (k : Int → Option α) => vLN h o k) := by
  cases o with
  | none => exact Or.inl fun _ _ => rfl
  | some c =>
    cases hg : gK h c with
    | none =>
      by_cases hc : c = jSCR
      · exact Or.inr ⟨_, fun _ _ => by simp only [vLN, hg, if_pos hc]; rfl⟩
      · exact Or.inl fun _ _ => by simp only [vLN, hg, if_neg hc]
    | some w =>
      match w, hg with
      | (0, n), hg => exact Or.inl fun _ _ => by simp only [vLN, hg]
      | (t + 1, n), hg => exact Or.inr ⟨_, fun _ _ => by simp only [vLN, hg]; rfl⟩
def vZ (x : Int) (k : Option jr) : Option jr := if x = 0 ∨ x = 1 then k else none
def vG (P : Prop) [Decidable P] (k : Option jr) : Option jr := if P then k else none
def vNl (o : Option Nat) (a b : Option jr) : Option jr := match o with
  | none => a
  | some _ => b
def vC (x : Option jr) (k : Option jv → jh → Option jr) : Option jr := match x with
  | some ((0, r), h) => k r h
  | _ => none
def jsw (ts : List Nat) (d : Nat) (lo hi x : Int) : Nat := if x < lo then d else if hi < x then d else ts.getD (x - lo).toNat 0
section CPS
variable {d y q k ci j t : Nat} {r : List (Nat × Instr)} {ls : List (Option jv)} {st : List jv} {h : jh} {i : Instr}
theorem jex_c : jex y ((q, i) :: r) q ls st h = (match pjx y i q ls st h with
    | some (.inl (pc', ls', st', h')) => jex y r pc' ls' st' h'
    | x => (q, ls, h, x)) := if_pos rfl
theorem jq {q' : Nat} {ls' : List (Option jv)} {st' : List jv} {h' : jh} (hp : pjx y i q ls st h = jgo q' ls' st' h') {K : Option jr} (hK : jcc d y (jex y r q' ls' st' h') = K) : jcc d y (jex y ((q, i) :: r) q ls st h) = K := by
  rw [jex_c, hp]; exact hK
theorem jq_none (hp : pjx y i q ls st h = none) : jcc d y (jex y ((q, i) :: r) q ls st h) = none := by
  rw [jex_c, hp]; rfl
theorem jq_out {o : Nat × Option jv} (hp : pjx y i q ls st h = some (.inr (.inr o))) : jcc d y (jex y ((q, i) :: r) q ls st h) = some (o, h) := by
  rw [jex_c, hp]; rfl
theorem jq_end : jcc d y (jex y [] q ls st h) = Vl d y q ls st h := rfl
/-- an instruction that asks the heap -/
theorem jq_q {β : Type} (f : (α : Type) → (β → Option α) → Option α) (hf : vQ f) {q' : Nat} {L : β → List (Option jv)} {S : β → List jv} {T : β → jh} (hp : pjx y i q ls st h = f _ (fun v => jgo q' (L v) (S v) (T v))) {K : β → Option jr} (hK : ∀ v, jcc d y (jex y r q' (L v) (S v) (T v)) = K v) : jcc d y (jex y ((q, i) :: r) q ls st h) = f _ K := by
  rcases hf with h1 | ⟨v, h1⟩
  · rw [h1] at hp ⊢; exact jq_none hp
  · rw [h1] at hp ⊢; exact jq hp (hK v)
theorem jq_gf {v : Nat → jv} (o : Option Nat) (hf : pfl (poc y) k = some (ci, j)) (hv : ∀ c, jfv h ci c j = v c) {K : Nat → Option jr} (hK : ∀ c, jcc d y (jex y r (q + 3) ls (v c :: st) h) = K c) : jcc d y (jex y ((q, .getfield k) :: r) q ls (.inr (.inr o) :: st) h) = vGF h o ci K := by
  refine jq_q (fun α (k : Nat → Option α) => vGF h o ci k) (vGF_c h o ci) (L := fun _ => ls) (S := fun c => v c :: st) (T := fun _ => h) ?_ hK
  cases o with
  | none => rfl
  | some c =>
    show (match pfl (poc y) k with | some (ci, j) => if gK h c = some (0, ci) then jgo (q + 3) ls (jfv h ci c j :: st) h else none | none => none) = _
    rw [hf]; simp only [hv]; rfl
theorem jpf {x : jv} {o : Option Nat} (hf : pfl (poc y) k = some (ci, j)) (hfin : ¬ (pfin ci j = true ∧ ¬ (pin y = 1 ∧ poc y = ci))) : pjx y (.putfield k) q ls (x :: .inr (.inr o) :: st) h = vGF h o ci (fun c => match x with
    | .inl x => (match pj_ft ci j with
      | 0 => jgo (q + 3) ls st (wD h c j x)
      | 1 => if x = 0 ∨ x = 1 then jgo (q + 3) ls st (wD h c j x) else none
      | _ => none)
    | .inr (.inl x) => if pj_ft ci j = 2 then jgo (q + 3) ls st (wL h c j x) else none
    | .inr (.inr x) => if pj_ft ci j = 3 then jgo (q + 3) ls st (wR h c j x) else none) := by
  unfold pjx
  dsimp only
  rw [hf]
  dsimp only
  rw [if_neg hfin]
  match x, o with
  | .inl x, none => rfl
  | .inr (.inl x), none => rfl
  | .inr (.inr x), none => rfl
  | .inl x, some c => rfl
  | .inr (.inl x), some c => rfl
  | .inr (.inr x), some c => rfl
theorem jq_pfI (o : Option Nat) (x : Int) (hf : pfl (poc y) k = some (ci, j)) (hfin : ¬ (pfin ci j = true ∧ ¬ (pin y = 1 ∧ poc y = ci))) (ht : pj_ft ci j = 0) {K : Nat → Option jr} (hK : ∀ c, jcc d y (jex y r (q + 3) ls st (wD h c j x)) = K c) : jcc d y (jex y ((q, .putfield k) :: r) q ls (.inl x :: .inr (.inr o) :: st) h) = vGF h o ci K := by
  refine jq_q (fun α (k : Nat → Option α) => vGF h o ci k) (vGF_c h o ci) (L := fun _ => ls) (S := fun _ => st) (T := fun c => wD h c j x) ?_ hK
  rw [jpf hf hfin]; dsimp only; rw [ht]; rfl
theorem jq_pfZ (o : Option Nat) (x : Int) (hf : pfl (poc y) k = some (ci, j)) (hfin : ¬ (pfin ci j = true ∧ ¬ (pin y = 1 ∧ poc y = ci))) (ht : pj_ft ci j = 1) {K : Nat → Option jr} (hK : ∀ c, jcc d y (jex y r (q + 3) ls st (wD h c j x)) = K c) : jcc d y (jex y ((q, .putfield k) :: r) q ls (.inl x :: .inr (.inr o) :: st) h) = vZ x (vGF h o ci K) := by
  unfold vZ
  by_cases hx : x = 0 ∨ x = 1
  · rw [if_pos hx]
    refine jq_q (fun α (k : Nat → Option α) => vGF h o ci k) (vGF_c h o ci) (L := fun _ => ls) (S := fun _ => st) (T := fun c => wD h c j x) ?_ hK
    rw [jpf hf hfin]; dsimp only; rw [ht]
    show vGF h o ci (fun c => if x = 0 ∨ x = 1 then jgo (q + 3) ls st (wD h c j x) else none) = _
    simp only [if_pos hx]
  · rw [if_neg hx]
    refine jq_none ?_
    rw [jpf hf hfin]; dsimp only; rw [ht]
    show vGF h o ci (fun c => if x = 0 ∨ x = 1 then jgo (q + 3) ls st (wD h c j x) else none) = _
    simp only [if_neg hx]
    cases o with
    | none => rfl
    | some c => unfold vGF; dsimp only; split <;> rfl
theorem jq_pfL (o : Option Nat) (x : Int) (hf : pfl (poc y) k = some (ci, j)) (hfin : ¬ (pfin ci j = true ∧ ¬ (pin y = 1 ∧ poc y = ci))) (ht : pj_ft ci j = 2) {K : Nat → Option jr} (hK : ∀ c, jcc d y (jex y r (q + 3) ls st (wL h c j x)) = K c) : jcc d y (jex y ((q, .putfield k) :: r) q ls (.inr (.inl x) :: .inr (.inr o) :: st) h) = vGF h o ci K := by
  refine jq_q (fun α (k : Nat → Option α) => vGF h o ci k) (vGF_c h o ci) (L := fun _ => ls) (S := fun _ => st) (T := fun c => wL h c j x) ?_ hK
  rw [jpf hf hfin]; dsimp only; simp only [if_pos ht]
theorem jq_pfR (o : Option Nat) (x : Option Nat) (hf : pfl (poc y) k = some (ci, j)) (hfin : ¬ (pfin ci j = true ∧ ¬ (pin y = 1 ∧ poc y = ci))) (ht : pj_ft ci j = 3) {K : Nat → Option jr} (hK : ∀ c, jcc d y (jex y r (q + 3) ls st (wR h c j x)) = K c) : jcc d y (jex y ((q, .putfield k) :: r) q ls (.inr (.inr x) :: .inr (.inr o) :: st) h) = vGF h o ci K := by
  refine jq_q (fun α (k : Nat → Option α) => vGF h o ci k) (vGF_c h o ci) (L := fun _ => ls) (S := fun _ => st) (T := fun c => wR h c j x) ?_ hK
  rw [jpf hf hfin]; dsimp only; simp only [if_pos ht]
theorem jq_ia (o : Option Nat) (i : Int) {K : Int → Option jr} (hK : ∀ v, jcc d y (jex y r (q + 1) ls (.inl v :: st) h) = K v) : jcc d y (jex y ((q, .iaload) :: r) q ls (.inl i :: .inr (.inr o) :: st) h) = vIA h o i K := by
  refine jq_q (fun α (k : Int → Option α) => vIA h o i k) (vIA_c h o i) (L := fun _ => ls) (S := fun v => (.inl v :: st)) (T := fun v => h) ?_ hK
  cases o <;> rfl
theorem jq_ba (o : Option Nat) (i : Int) {K : Int → Option jr} (hK : ∀ v, jcc d y (jex y r (q + 1) ls (.inl v :: st) h) = K v) : jcc d y (jex y ((q, .baload) :: r) q ls (.inl i :: .inr (.inr o) :: st) h) = vBA h o i K := by
  refine jq_q (fun α (k : Int → Option α) => vBA h o i k) (vBA_c h o i) (L := fun _ => ls) (S := fun v => (.inl v :: st)) (T := fun v => h) ?_ hK
  cases o <;> rfl
theorem jq_la (o : Option Nat) (i : Int) {K : Int → Option jr} (hK : ∀ v, jcc d y (jex y r (q + 1) ls (.inr (.inl v) :: st) h) = K v) : jcc d y (jex y ((q, .laload) :: r) q ls (.inl i :: .inr (.inr o) :: st) h) = vLA h o i K := by
  refine jq_q (fun α (k : Int → Option α) => vLA h o i k) (vLA_c h o i) (L := fun _ => ls) (S := fun v => (.inr (.inl v) :: st)) (T := fun v => h) ?_ hK
  cases o <;> rfl
theorem jq_aa (o : Option Nat) (i : Int) {K : Option Nat → Option jr} (hK : ∀ v, jcc d y (jex y r (q + 1) ls (.inr (.inr v) :: st) h) = K v) : jcc d y (jex y ((q, .aaload) :: r) q ls (.inl i :: .inr (.inr o) :: st) h) = vAA h o i K := by
  refine jq_q (fun α (k : Option Nat → Option α) => vAA h o i k) (vAA_c h o i) (L := fun _ => ls) (S := fun v => (.inr (.inr v) :: st)) (T := fun v => h) ?_ hK
  cases o <;> rfl
theorem jq_is (o : Option Nat) (i x : Int) {K : jh → Option jr} (hK : ∀ v, jcc d y (jex y r (q + 1) ls st v) = K v) : jcc d y (jex y ((q, .iastore) :: r) q ls (.inl x :: .inl i :: .inr (.inr o) :: st) h) = vIS h o i x K := by
  refine jq_q (fun α (k : jh → Option α) => vIS h o i x k) (vIS_c h o i x) (L := fun _ => ls) (S := fun v => st) (T := fun v => v) ?_ hK
  cases o <;> rfl
theorem jq_bs (o : Option Nat) (i x : Int) {K : jh → Option jr} (hK : ∀ v, jcc d y (jex y r (q + 1) ls st v) = K v) : jcc d y (jex y ((q, .bastore) :: r) q ls (.inl x :: .inl i :: .inr (.inr o) :: st) h) = vBS h o i x K := by
  refine jq_q (fun α (k : jh → Option α) => vBS h o i x k) (vBS_c h o i x) (L := fun _ => ls) (S := fun v => st) (T := fun v => v) ?_ hK
  cases o <;> rfl
theorem jq_ls (o : Option Nat) (i x : Int) {K : jh → Option jr} (hK : ∀ v, jcc d y (jex y r (q + 1) ls st v) = K v) : jcc d y (jex y ((q, .lastore) :: r) q ls (.inr (.inl x) :: .inl i :: .inr (.inr o) :: st) h) = vLS h o i x K := by
  refine jq_q (fun α (k : jh → Option α) => vLS h o i x k) (vLS_c h o i x) (L := fun _ => ls) (S := fun v => st) (T := fun v => v) ?_ hK
  cases o <;> rfl
theorem jq_as (o : Option Nat) (i : Int) (x : Option Nat) {K : jh → Option jr} (hK : ∀ v, jcc d y (jex y r (q + 1) ls st v) = K v) : jcc d y (jex y ((q, .aastore) :: r) q ls (.inr (.inr x) :: .inl i :: .inr (.inr o) :: st) h) = vAS h o i x K := by
  refine jq_q (fun α (k : jh → Option α) => vAS h o i x k) (vAS_c h o i x) (L := fun _ => ls) (S := fun v => st) (T := fun v => v) ?_ hK
  cases x <;> cases o <;> rfl
theorem jq_ln (o : Option Nat) {K : Int → Option jr} (hK : ∀ v, jcc d y (jex y r (q + 1) ls (.inl v :: st) h) = K v) : jcc d y (jex y ((q, .arraylength) :: r) q ls (.inr (.inr o) :: st) h) = vLN h o K := by
  refine jq_q (fun α (k : Int → Option α) => vLN h o k) (vLN_c h o) (L := fun _ => ls) (S := fun v => (.inl v :: st)) (T := fun v => h) ?_ hK
  cases o <;> rfl
end CPS
def vRf (o : Option Nat) (k : Option jr) : Option jr := match o with
  | some _ => k
  | none => none
section CPS2
variable {d y q k ci j t : Nat} {r : List (Nat × Instr)} {ls : List (Option jv)} {st : List jv} {h : jh} {i : Instr}
theorem Vl_jbr {c : ClassFile.Cond} {a b : Int} {t f : Nat} : Vl d y (jbr c a b t f) ls st h = jbr c a b (Vl d y t ls st h) (Vl d y f ls st h) := by
  cases c <;> unfold jbr <;> dsimp only <;> split <;> rfl
theorem jq_if (c : ClassFile.Cond) (a : Int) {off : Int} (hn : ¬ ((q : Int) + off < 0)) (ht : jtgt q off = t) : jcc d y (jex y [(q, .ifCond c off)] q ls (.inl a :: st) h) = jbr c a 0 (Vl d y t ls st h) (Vl d y (q + 3) ls st h) := by
  refine jq (q' := jbr c a 0 (jtgt q off) (q + 3)) (ls' := ls) (st' := st) (h' := h) ?_ ?_
  · show (if (q : Int) + off < 0 then none else _) = _
    rw [if_neg hn]
  · rw [jq_end, Vl_jbr, ht]
theorem jq_ic (c : ClassFile.Cond) (a b : Int) {off : Int} (hn : ¬ ((q : Int) + off < 0)) (ht : jtgt q off = t) : jcc d y (jex y [(q, .if_icmp c off)] q ls (.inl b :: .inl a :: st) h) = jbr c a b (Vl d y t ls st h) (Vl d y (q + 3) ls st h) := by
  refine jq (q' := jbr c a b (jtgt q off) (q + 3)) (ls' := ls) (st' := st) (h' := h) ?_ ?_
  · show (if (q : Int) + off < 0 then none else _) = _
    rw [if_neg hn]
  · rw [jq_end, Vl_jbr, ht]
theorem jq_nl (o : Option Nat) {off : Int} (hn : ¬ ((q : Int) + off < 0)) (ht : jtgt q off = t) : jcc d y (jex y [(q, .ifnull off)] q ls (.inr (.inr o) :: st) h) = vNl o (Vl d y t ls st h) (Vl d y (q + 3) ls st h) := by
  cases o with
  | none =>
    refine jq (q' := jtgt q off) (ls' := ls) (st' := st) (h' := h) ?_ ?_
    · show (if (q : Int) + off < 0 then none else _) = _
      rw [if_neg hn]
    · rw [jq_end, ht]; rfl
  | some c => exact jq (q' := q + 3) (ls' := ls) (st' := st) (h' := h) rfl rfl
theorem jq_nn (o : Option Nat) {off : Int} (hn : ¬ ((q : Int) + off < 0)) (ht : jtgt q off = t) : jcc d y (jex y [(q, .ifnonnull off)] q ls (.inr (.inr o) :: st) h) = vNl o (Vl d y (q + 3) ls st h) (Vl d y t ls st h) := by
  cases o with
  | none => exact jq (q' := q + 3) (ls' := ls) (st' := st) (h' := h) rfl rfl
  | some c =>
    refine jq (q' := jtgt q off) (ls' := ls) (st' := st) (h' := h) ?_ ?_
    · show (if (q : Int) + off < 0 then none else _) = _
      rw [if_neg hn]
    · rw [jq_end, ht]; rfl
theorem jq_go {off : Int} (hn : ¬ ((q : Int) + off < 0)) (ht : jtgt q off = t) : jcc d y (jex y [(q, .goto off)] q ls st h) = Vl d y t ls st h := by
  refine jq (q' := jtgt q off) (ls' := ls) (st' := st) (h' := h) ?_ ?_
  · show (if (q : Int) + off < 0 then none else _) = _
    rw [if_neg hn]
  · rw [jq_end, ht]
theorem jq_dv (a b : Int) {K : Option jr} (hK : jcc d y (jex y r (q + 1) ls (.inl (w32 (a.tdiv b)) :: st) h) = K) : jcc d y (jex y ((q, .idiv) :: r) q ls (.inl b :: .inl a :: st) h) = if b = 0 then none else K := by
  by_cases hb : b = 0
  · rw [if_pos hb]; exact jq_none (if_pos hb)
  · rw [if_neg hb]; refine jq (q' := q + 1) (ls' := ls) (st' := .inl (w32 (a.tdiv b)) :: st) (h' := h) ?_ hK; exact if_neg hb
theorem jq_rm (a b : Int) {K : Option jr} (hK : jcc d y (jex y r (q + 1) ls (.inl (a.tmod b) :: st) h) = K) : jcc d y (jex y ((q, .irem) :: r) q ls (.inl b :: .inl a :: st) h) = if b = 0 then none else K := by
  by_cases hb : b = 0
  · rw [if_pos hb]; exact jq_none (if_pos hb)
  · rw [if_neg hb]; refine jq (q' := q + 1) (ls' := ls) (st' := .inl (a.tmod b) :: st) (h' := h) ?_ hK; exact if_neg hb
theorem jq_rI (x : Int) (hr : prt y = some .int) : jcc d y (jex y [(q, .ireturn)] q ls [.inl x] h) = some ((0, some (.inl x)), h) := jq_out (by unfold pjx; dsimp only; rw [hr])
theorem jq_rZ (x : Int) (hr : prt y = some .boolean) : jcc d y (jex y [(q, .ireturn)] q ls [.inl x] h) = vZ x (some ((0, some (.inl x)), h)) := by
  unfold vZ
  by_cases hx : x = 0 ∨ x = 1
  · rw [if_pos hx]; exact jq_out (by unfold pjx; dsimp only; rw [hr]; exact if_pos hx)
  · rw [if_neg hx]; exact jq_none (by unfold pjx; dsimp only; rw [hr]; exact if_neg hx)
theorem jq_rL (x : Int) (hr : prt y = some .long) : jcc d y (jex y [(q, .lreturn)] q ls [.inr (.inl x)] h) = some ((0, some (.inr (.inl x))), h) := jq_out (by unfold pjx; dsimp only; rw [if_pos hr])
theorem jq_rO (x : Option Nat) {n : String} (hr : prt y = some (.object n)) : jcc d y (jex y [(q, .areturn)] q ls [.inr (.inr x)] h) = some ((0, some (.inr (.inr x))), h) := jq_out (by unfold pjx; dsimp only; rw [hr])
theorem jq_rA (x : Option Nat) {n : FieldType} (hr : prt y = some (.array n)) : jcc d y (jex y [(q, .areturn)] q ls [.inr (.inr x)] h) = some ((0, some (.inr (.inr x))), h) := jq_out (by unfold pjx; dsimp only; rw [hr])
theorem jq_rV (hr : prt y = none) : jcc d y (jex y [(q, .return_)] q ls [] h) = some ((0, none), h) := jq_out (by unfold pjx; dsimp only; rw [if_pos hr])
theorem jq_thr (hk : pkl (poc y) k = some 14) : jcc d y (jex y ((q, .new k) :: r) q ls st h) = some ((1, none), h) := jq_out (by unfold pjx; dsimp only; rw [hk]; rfl)
theorem jq_an (n : Int) (hk : pkl (poc y) k = some ci) (hc : ci = 3 ∨ ci = 9 ∨ ci = 1) {K : Option jr} (hK : jcc d y (jex y r (q + 3) ls (.inr (.inr (some h.1.length)) :: st) (nC h (4 + ci, n.toNat))) = K) : jcc d y (jex y ((q, .anewarray k) :: r) q ls (.inl n :: st) h) = vG (0 ≤ n ∧ n ≤ 4096) K := by
  unfold vG
  by_cases hn : 0 ≤ n ∧ n ≤ 4096
  · rw [if_pos hn]; exact jq (by unfold pjx; dsimp only; rw [hk]; exact if_pos ⟨hn.1, hn.2, hc⟩) hK
  · rw [if_neg hn]; exact jq_none (by unfold pjx; dsimp only; rw [hk]; exact if_neg fun z => hn ⟨z.1, z.2.1⟩)
theorem jq_ch (i : Int) {y2 : Nat} (hk : pml (poc y) k = some (13, y2)) (hw : jwt st ≤ 8) {K : Option jr} (hK : jcc d y (jex y r (q + 3) ls (.inl (jKEYt.getD i.toNat 0) :: st) h) = K) : jcc d y (jex y ((q, .invokevirtual k) :: r) q ls (.inl i :: .inr (.inr (some jKEY)) :: st) h) = vG (0 ≤ i ∧ i < 55) K := by
  unfold vG
  by_cases hn : 0 ≤ i ∧ i < 55
  · rw [if_pos hn]; exact jq (by unfold pjx; dsimp only; rw [hk]; dsimp only; rw [if_pos (show jkV 13 = true from rfl)]; exact if_pos ⟨⟨rfl, hw⟩, hn⟩) hK
  · rw [if_neg hn]; exact jq_none (by unfold pjx; dsimp only; rw [hk]; dsimp only; rw [if_pos (show jkV 13 = true from rfl)]; exact if_neg fun z => hn z.2)
theorem jq_ix (i : Int) {y2 : Nat} (hk : pml (poc y) k = some (14, y2)) (hw : jwt st ≤ 8) {K : Option jr} (hK : jcc d y (jex y r (q + 3) ls (.inl (if jSIGt.idxOf i < 8 then (jSIGt.idxOf i : Int) else -1) :: st) h) = K) : jcc d y (jex y ((q, .invokevirtual k) :: r) q ls (.inl i :: .inr (.inr (some jSIG)) :: st) h) = vG (0 ≤ i ∧ i < 65536) K := by
  unfold vG
  by_cases hn : 0 ≤ i ∧ i < 65536
  · rw [if_pos hn]; exact jq (by unfold pjx; dsimp only; rw [hk]; dsimp only; rw [if_pos (show jkV 14 = true from rfl)]; exact if_pos ⟨⟨rfl, hw⟩, hn⟩) hK
  · rw [if_neg hn]; exact jq_none (by unfold pjx; dsimp only; rw [hk]; dsimp only; rw [if_pos (show jkV 14 = true from rfl)]; exact if_neg fun z => hn z.2)
theorem vC_co {y2 pc : Nat} {av rs : List jv} : jco Vl (d + 1) y pc ls h (some (.inr (.inl (0, y2, av, rs)))) = vC (Vl d y2 0 (jent (pmL y2) av) [] h) (fun r h' => Vl (d + 1) y (pc + 3) ls (r.toList ++ rs) h') := by
  show (match Vl d y2 0 (jent (pmL y2) av) [] h with | some ((0, r), h') => Vl (d + 1) y (pc + 3) ls (r.toList ++ rs) h' | _ => none) = _
  unfold vC
  rfl
theorem jcall_v {kd y2 pc : Nat} (hkd : kd = 0 ∨ kd = 4) : jcall kd y2 pc ls st h = if pna y2 ≤ st.length then (match (st.take (pna y2)).reverse with
    | .inr (.inr (some c)) :: av => if gK h c = some (0, poc y2) then jcl 0 y2 (.inr (.inr (some c)) :: av) (st.drop (pna y2)) else none
    | _ => none) else none := by
  rcases hkd with rfl | rfl <;> rfl
theorem jcall_s {kd y2 pc : Nat} (hkd : kd = 2 ∨ kd = 6) : jcall kd y2 pc ls st h = if pna y2 ≤ st.length then (match (st.take (pna y2)).reverse with
    | .inr (.inr (some c)) :: av => jcl 0 y2 (.inr (.inr (some c)) :: av) (st.drop (pna y2))
    | _ => none) else none := by
  rcases hkd with rfl | rfl <;> rfl
theorem jcall_t {kd y2 pc : Nat} (hkd : kd = 1 ∨ kd = 5) : jcall kd y2 pc ls st h = if pna y2 ≤ st.length then jcl 0 y2 (st.take (pna y2)).reverse (st.drop (pna y2)) else none := by
  rcases hkd with rfl | rfl <;> rfl
theorem jq_virt {kd y2 n : Nat} (o : Option Nat) {av rs : List jv} {E : Nat → List (Option jv)} (hk : pml (poc y) k = some (kd, y2)) (hkd : kd = 0 ∨ kd = 4) (hna : pna y2 = n) (hn : n ≤ st.length) (ht : (st.take n).reverse = .inr (.inr o) :: av) (hd : st.drop n = rs) (hc : poc y2 = ci) (hl : (jlay av).length + 1 ≤ pmL y2 ∧ jwt rs ≤ 8) (hE : ∀ c, jent (pmL y2) (.inr (.inr (some c)) :: av) = E c) :
    jcc (d + 1) y (jex y [(q, .invokevirtual k)] q ls st h) = vGF h o ci (fun c => vC (Vl d y2 0 (E c) [] h) (fun r h' => Vl (d + 1) y (q + 3) ls (r.toList ++ rs) h')) := by
  have e : pjx y (.invokevirtual k) q ls st h = match (.inr (.inr o) :: av : List jv) with
    | .inr (.inr (some c)) :: av => if gK h c = some (0, poc y2) then jcl 0 y2 (.inr (.inr (some c)) :: av) rs else none
    | _ => none := by
    unfold pjx
    dsimp only
    rw [hk]
    dsimp only
    have hV : jkV kd = true := by rcases hkd with rfl | rfl <;> rfl
    rw [if_pos hV]
    rw [jcall_v hkd, hna, if_pos hn, ht, hd]
  cases o with
  | none => exact jq_none e
  | some c =>
    have e2 : pjx y (.invokevirtual k) q ls st h = if gK h c = some (0, ci) then some (.inr (.inl (0, y2, .inr (.inr (some c)) :: av, rs))) else none := by
      rw [e, ← hc]
      show (if gK h c = some (0, poc y2) then jcl 0 y2 (.inr (.inr (some c)) :: av) rs else none) = _
      unfold jcl
      rw [if_pos (show (jlay (.inr (.inr (some c)) :: av)).length ≤ pmL y2 ∧ jwt rs ≤ 8 from ⟨by show (jlay av).length + 1 ≤ _; exact hl.1, hl.2⟩)]
    show _ = if gK h c = some (0, ci) then _ else none
    by_cases hg : gK h c = some (0, ci)
    · rw [if_pos hg] at e2 ⊢
      rw [jex_c, e2]
      show jco Vl (d + 1) y q ls h (some (.inr (.inl (0, y2, .inr (.inr (some c)) :: av, rs)))) = _
      rw [vC_co, hE]
    · rw [if_neg hg] at e2 ⊢; exact jq_none e2
theorem jq_spec {kd y2 n c : Nat} {av rs : List jv} {E : List (Option jv)} (hk : pml (poc y) k = some (kd, y2)) (hkd : kd = 2 ∨ kd = 6) (hna : pna y2 = n) (hn : n ≤ st.length) (ht : (st.take n).reverse = .inr (.inr (some c)) :: av) (hd : st.drop n = rs) (hl : (jlay av).length + 1 ≤ pmL y2 ∧ jwt rs ≤ 8) (hE : jent (pmL y2) (.inr (.inr (some c)) :: av) = E) :
    jcc (d + 1) y (jex y [(q, .invokespecial k)] q ls st h) = vC (Vl d y2 0 E [] h) (fun r h' => Vl (d + 1) y (q + 3) ls (r.toList ++ rs) h') := by
  have e : pjx y (.invokespecial k) q ls st h = some (.inr (.inl (0, y2, .inr (.inr (some c)) :: av, rs))) := by
    unfold pjx
    dsimp only
    rw [hk]
    dsimp only
    have hV : jkI kd = true := by rcases hkd with rfl | rfl <;> rfl
    rw [if_pos hV]
    rw [jcall_s hkd, hna, if_pos hn, ht, hd]; dsimp only; unfold jcl; rw [if_pos (show (jlay (.inr (.inr (some c)) :: av)).length ≤ pmL y2 ∧ jwt rs ≤ 8 from ⟨by show (jlay av).length + 1 ≤ _; exact hl.1, hl.2⟩)]
  rw [jex_c, e]
  show jco Vl (d + 1) y q ls h (some (.inr (.inl (0, y2, .inr (.inr (some c)) :: av, rs)))) = _
  rw [vC_co, hE]
theorem jq_stat {kd y2 n : Nat} {av rs : List jv} {E : List (Option jv)} (hk : pml (poc y) k = some (kd, y2)) (hkd : kd = 1 ∨ kd = 5) (hna : pna y2 = n) (hn : n ≤ st.length) (ht : (st.take n).reverse = av) (hd : st.drop n = rs) (hl : (jlay av).length ≤ pmL y2 ∧ jwt rs ≤ 8) (hE : jent (pmL y2) av = E) :
    jcc (d + 1) y (jex y [(q, .invokestatic k)] q ls st h) = vC (Vl d y2 0 E [] h) (fun r h' => Vl (d + 1) y (q + 3) ls (r.toList ++ rs) h') := by
  have e : pjx y (.invokestatic k) q ls st h = some (.inr (.inl (0, y2, av, rs))) := by
    unfold pjx
    dsimp only
    rw [hk]
    dsimp only
    have hV : jkS kd = true := by rcases hkd with rfl | rfl <;> rfl
    rw [if_pos hV]
    rw [jcall_t hkd, hna, if_pos hn, ht, hd]; unfold jcl; rw [if_pos hl]
  rw [jex_c, e]
  show jco Vl (d + 1) y q ls h (some (.inr (.inl (0, y2, av, rs)))) = _
  rw [vC_co, hE]
theorem jq_sw (x : Int) {df lo hi : Int} {offs : Array Int} {ts : List Nat} {td : Nat} (hd : ¬ ((q : Int) + df < 0)) (h1 : jtgt q df = td) (h2 : offs.toList.map (jtgt q) = ts) (h3 : offs.toList.all (fun o => decide (¬ ((q : Int) + o < 0))) = true) (h4 : (offs.toList.length : Int) = hi - lo + 1) : jcc d y (jex y [(q, .tableswitch df lo hi offs)] q ls (.inl x :: st) h) = Vl d y (jsw ts td lo hi x) ls st h := by
  have e : pjx y (.tableswitch df lo hi offs) q ls (.inl x :: st) h = if (q : Int) + df < 0 then none else if x < lo then jgo (jtgt q df) ls st h else if hi < x then jgo (jtgt q df) ls st h else (match offs.toList[(x - lo).toNat]? with
      | some off => if (q : Int) + off < 0 then none else jgo (jtgt q off) ls st h
      | none => none) := rfl
  rw [if_neg hd] at e
  unfold jsw
  by_cases a1 : x < lo
  · rw [if_pos a1] at e ⊢; exact jq e (by rw [jq_end, h1])
  rw [if_neg a1] at e ⊢
  by_cases a2 : hi < x
  · rw [if_pos a2] at e ⊢; exact jq e (by rw [jq_end, h1])
  rw [if_neg a2] at e ⊢
  have hlt : (x - lo).toNat < offs.toList.length := by omega
  rw [List.getElem?_eq_getElem hlt] at e
  have h5 := List.all_eq_true.mp h3 _ (List.getElem_mem hlt)
  have h5 := of_decide_eq_true h5
  simp only [if_neg h5] at e
  refine jq e ?_
  rw [jq_end, ← h2, List.getD_eq_getElem?_getD, List.getElem?_map, List.getElem?_eq_getElem hlt]
  rfl
/-- a name for a heap, a cell -/
def vLt {α : Type} (x : jh) (k : jh → Option α) : Option α := k x
def vNw {α : Type} (h : jh) (x : jh) (k : Nat → jh → Option α) : Option α := k h.1.length x
theorem jq_nw {q' : Nat} {st' : List jv} {h' : jh} (hp : pjx y i q ls st h = jgo q' ls (.inr (.inr (some h.1.length)) :: st') h') {K : Nat → jh → Option jr} (hK : ∀ c h2, jcc d y (jex y r q' ls (.inr (.inr (some c)) :: st') h2) = K c h2) : jcc d y (jex y ((q, i) :: r) q ls st h) = vNw h h' K := jq hp (hK _ _)
theorem jq_pfI2 (o : Option Nat) (x : Int) (hf : pfl (poc y) k = some (ci, j)) (hfin : ¬ (pfin ci j = true ∧ ¬ (pin y = 1 ∧ poc y = ci))) (ht : pj_ft ci j = 0) {K : Nat → jh → Option jr} (hK : ∀ c h2, jcc d y (jex y r (q + 3) ls st h2) = K c h2) : jcc d y (jex y ((q, .putfield k) :: r) q ls (.inl x :: .inr (.inr o) :: st) h) = vGF h o ci (fun c => vLt (wD h c j x) (K c)) := jq_pfI o x hf hfin ht (fun c => hK c _)
theorem jq_pfZ2 (o : Option Nat) (x : Int) (hf : pfl (poc y) k = some (ci, j)) (hfin : ¬ (pfin ci j = true ∧ ¬ (pin y = 1 ∧ poc y = ci))) (ht : pj_ft ci j = 1) {K : Nat → jh → Option jr} (hK : ∀ c h2, jcc d y (jex y r (q + 3) ls st h2) = K c h2) : jcc d y (jex y ((q, .putfield k) :: r) q ls (.inl x :: .inr (.inr o) :: st) h) = vZ x (vGF h o ci (fun c => vLt (wD h c j x) (K c))) := jq_pfZ o x hf hfin ht (fun c => hK c _)
theorem jq_pfL2 (o : Option Nat) (x : Int) (hf : pfl (poc y) k = some (ci, j)) (hfin : ¬ (pfin ci j = true ∧ ¬ (pin y = 1 ∧ poc y = ci))) (ht : pj_ft ci j = 2) {K : Nat → jh → Option jr} (hK : ∀ c h2, jcc d y (jex y r (q + 3) ls st h2) = K c h2) : jcc d y (jex y ((q, .putfield k) :: r) q ls (.inr (.inl x) :: .inr (.inr o) :: st) h) = vGF h o ci (fun c => vLt (wL h c j x) (K c)) := jq_pfL o x hf hfin ht (fun c => hK c _)
theorem jq_pfR2 (o : Option Nat) (x : Option Nat) (hf : pfl (poc y) k = some (ci, j)) (hfin : ¬ (pfin ci j = true ∧ ¬ (pin y = 1 ∧ poc y = ci))) (ht : pj_ft ci j = 3) {K : Nat → jh → Option jr} (hK : ∀ c h2, jcc d y (jex y r (q + 3) ls st h2) = K c h2) : jcc d y (jex y ((q, .putfield k) :: r) q ls (.inr (.inr x) :: .inr (.inr o) :: st) h) = vGF h o ci (fun c => vLt (wR h c j x) (K c)) := jq_pfR o x hf hfin ht (fun c => hK c _)
theorem jq_an2 (n : Int) (hk : pkl (poc y) k = some ci) (hc : ci = 3 ∨ ci = 9 ∨ ci = 1) {K : Nat → jh → Option jr} (hK : ∀ c h2, jcc d y (jex y r (q + 3) ls (.inr (.inr (some c)) :: st) h2) = K c h2) : jcc d y (jex y ((q, .anewarray k) :: r) q ls (.inl n :: st) h) = vG (0 ≤ n ∧ n ≤ 4096) (vNw h (nC h (4 + ci, n.toNat)) K) := jq_an n hk hc (hK _ _)
theorem jq_ifeq (a : Int) {off : Int} (hn : ¬ ((q : Int) + off < 0)) (ht : jtgt q off = t) : jcc d y (jex y [(q, .ifCond .eq off)] q ls (.inl a :: st) h) = (if a = 0 then Vl d y t ls st h else Vl d y (q + 3) ls st h) := jq_if .eq a hn ht
theorem jq_iceq (a b : Int) {off : Int} (hn : ¬ ((q : Int) + off < 0)) (ht : jtgt q off = t) : jcc d y (jex y [(q, .if_icmp .eq off)] q ls (.inl b :: .inl a :: st) h) = (if a = b then Vl d y t ls st h else Vl d y (q + 3) ls st h) := jq_ic .eq a b hn ht
theorem jq_ifne (a : Int) {off : Int} (hn : ¬ ((q : Int) + off < 0)) (ht : jtgt q off = t) : jcc d y (jex y [(q, .ifCond .ne off)] q ls (.inl a :: st) h) = (if a = 0 then Vl d y (q + 3) ls st h else Vl d y t ls st h) := jq_if .ne a hn ht
theorem jq_icne (a b : Int) {off : Int} (hn : ¬ ((q : Int) + off < 0)) (ht : jtgt q off = t) : jcc d y (jex y [(q, .if_icmp .ne off)] q ls (.inl b :: .inl a :: st) h) = (if a = b then Vl d y (q + 3) ls st h else Vl d y t ls st h) := jq_ic .ne a b hn ht
theorem jq_iflt (a : Int) {off : Int} (hn : ¬ ((q : Int) + off < 0)) (ht : jtgt q off = t) : jcc d y (jex y [(q, .ifCond .lt off)] q ls (.inl a :: st) h) = (if a < 0 then Vl d y t ls st h else Vl d y (q + 3) ls st h) := jq_if .lt a hn ht
theorem jq_iclt (a b : Int) {off : Int} (hn : ¬ ((q : Int) + off < 0)) (ht : jtgt q off = t) : jcc d y (jex y [(q, .if_icmp .lt off)] q ls (.inl b :: .inl a :: st) h) = (if a < b then Vl d y t ls st h else Vl d y (q + 3) ls st h) := jq_ic .lt a b hn ht
theorem jq_ifge (a : Int) {off : Int} (hn : ¬ ((q : Int) + off < 0)) (ht : jtgt q off = t) : jcc d y (jex y [(q, .ifCond .ge off)] q ls (.inl a :: st) h) = (if a < 0 then Vl d y (q + 3) ls st h else Vl d y t ls st h) := jq_if .ge a hn ht
theorem jq_icge (a b : Int) {off : Int} (hn : ¬ ((q : Int) + off < 0)) (ht : jtgt q off = t) : jcc d y (jex y [(q, .if_icmp .ge off)] q ls (.inl b :: .inl a :: st) h) = (if a < b then Vl d y (q + 3) ls st h else Vl d y t ls st h) := jq_ic .ge a b hn ht
theorem jq_ifgt (a : Int) {off : Int} (hn : ¬ ((q : Int) + off < 0)) (ht : jtgt q off = t) : jcc d y (jex y [(q, .ifCond .gt off)] q ls (.inl a :: st) h) = (if 0 < a then Vl d y t ls st h else Vl d y (q + 3) ls st h) := jq_if .gt a hn ht
theorem jq_icgt (a b : Int) {off : Int} (hn : ¬ ((q : Int) + off < 0)) (ht : jtgt q off = t) : jcc d y (jex y [(q, .if_icmp .gt off)] q ls (.inl b :: .inl a :: st) h) = (if b < a then Vl d y t ls st h else Vl d y (q + 3) ls st h) := jq_ic .gt a b hn ht
theorem jq_ifle (a : Int) {off : Int} (hn : ¬ ((q : Int) + off < 0)) (ht : jtgt q off = t) : jcc d y (jex y [(q, .ifCond .le off)] q ls (.inl a :: st) h) = (if 0 < a then Vl d y (q + 3) ls st h else Vl d y t ls st h) := jq_if .le a hn ht
theorem jq_icle (a b : Int) {off : Int} (hn : ¬ ((q : Int) + off < 0)) (ht : jtgt q off = t) : jcc d y (jex y [(q, .if_icmp .le off)] q ls (.inl b :: .inl a :: st) h) = (if b < a then Vl d y (q + 3) ls st h else Vl d y t ls st h) := jq_ic .le a b hn ht
end CPS2
