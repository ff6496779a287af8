/-! RUNS WITHOUT FUEL -/
abbrev jfn : Type := Nat → Nat → Nat → List (Option jv) → List jv → jh → Option jr
/-- what follows an instruction's outcome -/
def jco (f : jfn) (d y pc : Nat) (ls : List (Option jv)) (h : jh) (x : Option jn) : Option jr := match x with
  | some (.inl (pc', ls', st', h')) => f d y pc' ls' st' h'
  | some (.inr (.inl (0, y2, av, rs))) => (match d with
    | 0 => none
    | d' + 1 => match f d' y2 0 (jent (pmL y2) av) [] h with
      | some ((0, r), h') => f (d' + 1) y (pc + 3) ls (r.toList ++ rs) h'
      | _ => none)
  | some (.inr (.inl (_, y2, av, rs))) => (match d, av.getLast? with
    | d' + 1, some (.inr (.inr (some o))) => match f d' y2 0 (jent (pmL y2) av.dropLast) [] h with
      | some ((0, some (.inl x)), h') => if gK h' o = some (3, 1) then f (d' + 1) y (pc + 3) ls (.inl 0 :: rs) (wL h' o 0 x) else none
      | some ((1, _), h') => f (d' + 1) y (pc + 3) ls (.inl 1 :: rs) (nC h' (0, 14))
      | _ => none
    | _, _ => none)
  | some (.inr (.inr r)) => some (r, h)
  | none => none
def jfe (y pc : Nat) : Option Instr := match decode (pby y) pc with
  | .ok (i, len) => if jlen i len = false then none else some i
  | .error _ => none
theorem prun_eq (n d y pc : Nat) (ls : List (Option jv)) (st : List jv) (h : jh) : prun (n + 1) d y pc ls st h = match jfe y pc with | some i => jco (prun n) d y pc ls h (pjx y i pc ls st h) | none => none := by
  rw [prun]
  unfold jfe
  cases hd : decode (pby y) pc with
  | error q => rfl
  | ok q =>
    obtain ⟨i, len⟩ := q
    by_cases hl : jlen i len = false
    · simp only [if_pos hl]
    · simp only [if_neg hl]
      rfl
def jle (f g : jfn) : Prop := ∀ d y pc ls st h r, f d y pc ls st h = some r → g d y pc ls st h = some r
theorem jco_le {f g : jfn} (hfg : jle f g) {d y pc : Nat} {ls : List (Option jv)} {h : jh} {x : Option jn} {r : jr} (hx : jco f d y pc ls h x = some r) : jco g d y pc ls h x = some r := by
  match x with
  | none => cases hx
  | some (.inl (pc', ls', st', h')) => exact hfg _ _ _ _ _ _ _ hx
  | some (.inr (.inr q)) => exact hx
  | some (.inr (.inl (0, y2, av, rs))) =>
    match d with
    | 0 => cases hx
    | d' + 1 =>
      have hx' : (match f d' y2 0 (jent (pmL y2) av) [] h with | some ((0, r), h') => f (d' + 1) y (pc + 3) ls (r.toList ++ rs) h' | _ => none) = some r := hx
      show (match g d' y2 0 (jent (pmL y2) av) [] h with | some ((0, r), h') => g (d' + 1) y (pc + 3) ls (r.toList ++ rs) h' | _ => none) = some r
      cases hq : f d' y2 0 (jent (pmL y2) av) [] h with
      | none => rw [hq] at hx'; cases hx'
      | some q =>
        rw [hq] at hx'
        rw [hfg _ _ _ _ _ _ _ hq]
        match q with
        | ((0, r1), h1) => exact hfg _ _ _ _ _ _ _ hx'
        | ((t + 1, r1), h1) => cases hx'
  | some (.inr (.inl (t + 1, y2, av, rs))) =>
    match d with
    | 0 => cases hx
    | d' + 1 =>
      cases hla : av.getLast? with
      | none =>
        simp only [jco, hla] at hx
        cases hx
      | some w =>
        match w, hla with
        | .inl _, hla => simp only [jco, hla] at hx; cases hx
        | .inr (.inl _), hla => simp only [jco, hla] at hx; cases hx
        | .inr (.inr none), hla => simp only [jco, hla] at hx; cases hx
        | .inr (.inr (some o)), hla =>
          simp only [jco, hla] at hx ⊢
          cases hq : f d' y2 0 (jent (pmL y2) av.dropLast) [] h with
          | none => rw [hq] at hx; cases hx
          | some q =>
            rw [hq] at hx
            rw [hfg _ _ _ _ _ _ _ hq]
            match q with
            | ((0, some (.inl x)), h1) =>
              replace hx : (if gK h1 o = some (3, 1) then f (d' + 1) y (pc + 3) ls (.inl 0 :: rs) (wL h1 o 0 x) else none) = some r := hx
              show (if gK h1 o = some (3, 1) then g (d' + 1) y (pc + 3) ls (.inl 0 :: rs) (wL h1 o 0 x) else none) = some r
              by_cases hg : gK h1 o = some (3, 1)
              · rw [if_pos hg] at hx ⊢
                exact hfg _ _ _ _ _ _ _ hx
              · rw [if_neg hg] at hx; cases hx
            | ((0, some (.inr _)), h1) => cases hx
            | ((0, none), h1) => cases hx
            | ((1, r1), h1) => exact hfg _ _ _ _ _ _ _ hx
            | ((t + 2, r1), h1) => cases hx
theorem prun_more : ∀ n : Nat, jle (prun n) (prun (n + 1))
  | 0, _, _, _, _, _, _, _, hx => by cases hx
  | n + 1, d, y, pc, ls, st, h, r, hx => by
    rw [prun_eq] at hx ⊢
    cases hf : jfe y pc with
    | none => rw [hf] at hx; cases hx
    | some i => rw [hf] at hx; exact jco_le (prun_more n) hx
theorem prun_le {n k : Nat} (h : n ≤ k) : jle (prun n) (prun k) := by
  induction h with
  | refl => exact fun _ _ _ _ _ _ _ q => q
  | step _ ih => exact fun d y pc ls st h r q => prun_more _ d y pc ls st h r (ih d y pc ls st h r q)
/-- the value of a run: its outcome, with any fuel that does -/
noncomputable def Vl : jfn := fun d y pc ls st h => by classical exact if hx : ∃ n r, prun n d y pc ls st h = some r then some (Classical.choose (Classical.choose_spec hx)) else none
theorem Vl_of {n d y pc : Nat} {ls : List (Option jv)} {st : List jv} {h : jh} {r : jr} (hr : prun n d y pc ls st h = some r) : Vl d y pc ls st h = some r := by
  unfold Vl
  have hx : ∃ n r, prun n d y pc ls st h = some r := ⟨n, r, hr⟩
  rw [dif_pos hx]
  have h1 := Classical.choose_spec (Classical.choose_spec hx)
  have h2 := prun_le (Nat.le_max_left n (Classical.choose hx)) _ _ _ _ _ _ _ hr
  have h3 := prun_le (Nat.le_max_right n (Classical.choose hx)) _ _ _ _ _ _ _ h1
  exact h3.symm.trans h2
theorem Vl_run {d y pc : Nat} {ls : List (Option jv)} {st : List jv} {h : jh} {r : jr} (hv : Vl d y pc ls st h = some r) : ∃ n, prun n d y pc ls st h = some r := by
  unfold Vl at hv
  by_cases hx : ∃ n r, prun n d y pc ls st h = some r
  · rw [dif_pos hx] at hv
    have h1 := Classical.choose_spec (Classical.choose_spec hx)
    rw [Option.some.inj hv] at h1
    exact ⟨_, h1⟩
  · rw [dif_neg hx] at hv; cases hv
/-- with fuel enough for what is asked of Vl, prun says the same: one step of Vl -/
theorem jco_fuel {d y pc : Nat} {ls : List (Option jv)} {h : jh} {x : Option jn} {r : jr} (hx : jco Vl d y pc ls h x = some r) : ∃ n, jco (prun n) d y pc ls h x = some r := by
  match x with
  | none => cases hx
  | some (.inl (pc', ls', st', h')) => exact Vl_run (d := d) (y := y) (pc := pc') (ls := ls') (st := st') (h := h') hx
  | some (.inr (.inr q)) => exact ⟨0, hx⟩
  | some (.inr (.inl (0, y2, av, rs))) =>
    match d with
    | 0 => cases hx
    | d' + 1 =>
      have hx' : (match Vl d' y2 0 (jent (pmL y2) av) [] h with | some ((0, r), h') => Vl (d' + 1) y (pc + 3) ls (r.toList ++ rs) h' | _ => none) = some r := hx
      cases hq : Vl d' y2 0 (jent (pmL y2) av) [] h with
      | none => rw [hq] at hx'; cases hx'
      | some q =>
        rw [hq] at hx'
        obtain ⟨n1, h1⟩ := Vl_run hq
        match q, h1, hx' with
        | ((0, r1), h2), h1, hx' =>
          obtain ⟨n2, h3⟩ := Vl_run (show Vl (d' + 1) y (pc + 3) ls (r1.toList ++ rs) h2 = some r from hx')
          refine ⟨max n1 n2, ?_⟩
          show (match prun (max n1 n2) d' y2 0 (jent (pmL y2) av) [] h with | some ((0, r), h') => prun (max n1 n2) (d' + 1) y (pc + 3) ls (r.toList ++ rs) h' | _ => none) = some r
          rw [prun_le (Nat.le_max_left n1 n2) _ _ _ _ _ _ _ h1]
          exact prun_le (Nat.le_max_right n1 n2) _ _ _ _ _ _ _ h3
        | ((t + 1, r1), h2), h1, hx' => cases hx'
  | some (.inr (.inl (t + 1, y2, av, rs))) =>
    match d with
    | 0 => cases hx
    | d' + 1 =>
      cases hla : av.getLast? with
      | none => simp only [jco, hla] at hx; cases hx
      | some w =>
        match w, hla with
        | .inl _, hla => simp only [jco, hla] at hx; cases hx
        | .inr (.inl _), hla => simp only [jco, hla] at hx; cases hx
        | .inr (.inr none), hla => simp only [jco, hla] at hx; cases hx
        | .inr (.inr (some o)), hla =>
          simp only [jco, hla] at hx ⊢
          cases hq : Vl d' y2 0 (jent (pmL y2) av.dropLast) [] h with
          | none => rw [hq] at hx; cases hx
          | some q =>
            rw [hq] at hx
            obtain ⟨n1, h1⟩ := Vl_run hq
            match q, h1, hx with
            | ((0, some (.inl x)), h2), h1, hx =>
              replace hx : (if gK h2 o = some (3, 1) then Vl (d' + 1) y (pc + 3) ls (.inl 0 :: rs) (wL h2 o 0 x) else none) = some r := hx
              by_cases hg : gK h2 o = some (3, 1)
              · rw [if_pos hg] at hx
                obtain ⟨n2, h3⟩ := Vl_run hx
                refine ⟨max n1 n2, ?_⟩
                rw [prun_le (Nat.le_max_left n1 n2) _ _ _ _ _ _ _ h1]
                show (if gK h2 o = some (3, 1) then prun (max n1 n2) (d' + 1) y (pc + 3) ls (.inl 0 :: rs) (wL h2 o 0 x) else none) = some r
                rw [if_pos hg]
                exact prun_le (Nat.le_max_right n1 n2) _ _ _ _ _ _ _ h3
              · rw [if_neg hg] at hx; cases hx
            | ((0, some (.inr _)), h2), h1, hx => cases hx
            | ((0, none), h2), h1, hx => cases hx
            | ((1, r1), h2), h1, hx =>
              obtain ⟨n2, h3⟩ := Vl_run (show Vl (d' + 1) y (pc + 3) ls (.inl 1 :: rs) (nC h2 (0, 14)) = some r from hx)
              refine ⟨max n1 n2, ?_⟩
              rw [prun_le (Nat.le_max_left n1 n2) _ _ _ _ _ _ _ h1]
              exact prun_le (Nat.le_max_right n1 n2) _ _ _ _ _ _ _ h3
            | ((t + 2, r1), h2), h1, hx => cases hx
theorem prun_Vl (n : Nat) : jle (prun n) Vl := fun _ _ _ _ _ _ _ hq => Vl_of hq
/-- one step -/
theorem Vl_step {d y pc : Nat} {ls : List (Option jv)} {st : List jv} {h : jh} {i : Instr} (hf : jfe y pc = some i) : Vl d y pc ls st h = jco Vl d y pc ls h (pjx y i pc ls st h) := by
  cases hq : jco Vl d y pc ls h (pjx y i pc ls st h) with
  | some r =>
    obtain ⟨n, hn⟩ := jco_fuel hq
    exact Vl_of (n := n + 1) (by rw [prun_eq, hf]; exact hn)
  | none =>
    cases hv : Vl d y pc ls st h with
    | none => rfl
    | some r =>
      obtain ⟨n, hn⟩ := Vl_run hv
      cases n with
      | zero => cases hn
      | succ n =>
        rw [prun_eq, hf] at hn
        have := jco_le (prun_Vl n) hn
        rw [hq] at this; cases this
/-- a straight piece of code: where it stops, and the outcome there -/
def jex (y : Nat) : List (Nat × Instr) → Nat → List (Option jv) → List jv → jh → Nat × List (Option jv) × jh × Option jn
  | [], pc, ls, st, h => (pc, ls, h, some (.inl (pc, ls, st, h)))
  | (q, i) :: r, pc, ls, st, h => if pc = q then (match pjx y i pc ls st h with
    | some (.inl (pc', ls', st', h')) => jex y r pc' ls' st' h'
    | x => (pc, ls, h, x)) else (pc, ls, h, some (.inl (pc, ls, st, h)))
def jck (y : Nat) (is : List (Nat × Instr)) : Bool := is.all fun q => decide (jfe y q.1 = some q.2)
noncomputable def jcc (d y : Nat) (x : Nat × List (Option jv) × jh × Option jn) : Option jr := jco Vl d y x.1 x.2.1 x.2.2.1 x.2.2.2
theorem Vl_ex {y : Nat} : ∀ (is : List (Nat × Instr)), jck y is = true → ∀ (d pc : Nat) (ls : List (Option jv)) (st : List jv) (h : jh), Vl d y pc ls st h = jcc d y (jex y is pc ls st h)
  | [], _, d, pc, ls, st, h => rfl
  | (q, i) :: r, hc, d, pc, ls, st, h => by
    unfold jck at hc
    simp only [List.all_cons, Bool.and_eq_true, decide_eq_true_eq] at hc
    unfold jex
    by_cases hq : pc = q
    · rw [if_pos hq]
      subst hq
      rw [Vl_step hc.1]
      cases hp : pjx y i pc ls st h with
      | none => rfl
      | some w =>
        match w with
        | .inl (pc1, ls1, st1, h1) => exact Vl_ex r hc.2 d pc1 ls1 st1 h1
        | .inr w => rfl
    · rw [if_neg hq]; rfl
