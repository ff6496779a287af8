/-! THE SMALL MACHINE: the steps of the bytecode over whole numbers; a heap is kinds, references, ints, longs, by cell and place -/
abbrev jv : Type := Int ⊕ (Int ⊕ Option Nat)
abbrev ji (x : Int) : jv := .inl x
abbrev jl (x : Int) : jv := .inr (.inl x)
abbrev jo (r : Option Nat) : jv := .inr (.inr r)
abbrev jh : Type := List (Nat × Nat) × (Nat → Nat → Option Nat) × (Nat → Nat → Int) × (Nat → Nat → Int)
/-- kinds: (0, class), (1, n) ints, (2, n) booleans, (3, n) longs, (4 + class, n) references -/
def gK (h : jh) (c : Nat) : Option (Nat × Nat) := h.1[c]?
def gR (h : jh) (c i : Nat) : Option Nat := h.2.1 c i
def gD (h : jh) (c i : Nat) : Int := h.2.2.1 c i
def gL (h : jh) (c i : Nat) : Int := h.2.2.2 c i
def wR (h : jh) (c i : Nat) (x : Option Nat) : jh := (h.1, fun a b => if a = c ∧ b = i then x else h.2.1 a b, h.2.2.1, h.2.2.2)
def wD (h : jh) (c i : Nat) (x : Int) : jh := (h.1, h.2.1, fun a b => if a = c ∧ b = i then x else h.2.2.1 a b, h.2.2.2)
def wL (h : jh) (c i : Nat) (x : Int) : jh := (h.1, h.2.1, h.2.2.1, fun a b => if a = c ∧ b = i then x else h.2.2.2 a b)
def nC (h : jh) (k : Nat × Nat) : jh := (h.1 ++ [k], fun a b => if a = h.1.length then none else h.2.1 a b, fun a b => if a = h.1.length then 0 else h.2.2.1 a b, fun a b => if a = h.1.length then 0 else h.2.2.2 a b)
/-- rows of n numbers, one after the other, and their places in the cell o -/
def nRows : Nat → Nat → Nat → Nat → jh → jh
  | 0, _, _, _, h => h
  | k + 1, o, i, n, h => nRows k o (i + 1) n (wR (nC h (1, n)) o i (some h.1.length))
/-- the script and the texts are cells of their own -/
def jSCR : Nat := 1000000
def jLEN : Nat := 1000001
def jKEY : Nat := 1000002
def jSIG : Nat := 1000003
def jKEYt : List Int := "field turn slope x quo rem lquo lrem gcd lgcd lcm llcm ".toList.map (fun c => (c.toNat : Int))
def jSIGt : List Int := ";=+*^(),".toList.map (fun c => (c.toNat : Int))
def w32 (x : Int) : Int := (x + 2147483648) % 4294967296 - 2147483648
def w64 (x : Int) : Int := (x + 9223372036854775808) % 18446744073709551616 - 9223372036854775808
def u32 (x : Int) : Nat := (x % 4294967296).toNat
def u64 (x : Int) : Nat := (x % 18446744073709551616).toNat
def s32 (x : Int) : Nat := (x % 32).toNat
def s64 (x : Int) : Nat := (x % 64).toNat
def jand (a b : Int) : Int := w32 ((u32 a &&& u32 b : Nat) : Int)
def jor (a b : Int) : Int := w32 ((u32 a ||| u32 b : Nat) : Int)
def jxor (a b : Int) : Int := w32 ((u32 a ^^^ u32 b : Nat) : Int)
def jshl (a s : Int) : Int := w32 (a * ((2 ^ s32 s : Nat) : Int))
def jshr (a s : Int) : Int := a / ((2 ^ s32 s : Nat) : Int)
def jush (a s : Int) : Int := w32 ((u32 a / 2 ^ s32 s : Nat) : Int)
def jlor (a b : Int) : Int := w64 ((u64 a ||| u64 b : Nat) : Int)
def jlxor (a b : Int) : Int := w64 ((u64 a ^^^ u64 b : Nat) : Int)
def jlshl (a s : Int) : Int := w64 (a * ((2 ^ s64 s : Nat) : Int))
def jlush (a s : Int) : Int := w64 ((u64 a / 2 ^ s64 s : Nat) : Int)
def jlcmp (a b : Int) : Int := if a < b then -1 else if a = b then 0 else 1
def jbr {α : Type} (c : ClassFile.Cond) (a b : Int) (x y : α) : α := match c with
  | .eq => if a = b then x else y
  | .ne => if a = b then y else x
  | .lt => if a < b then x else y
  | .ge => if a < b then y else x
  | .gt => if b < a then x else y
  | .le => if b < a then y else x
/-- a step's outcome: on; a call (try or not, method, arguments, rest of the stack); the end (0 an answer, 1 thrown) -/
abbrev jn : Type := (Nat × List (Option jv) × List jv × jh) ⊕ ((Nat × Nat × List jv × List jv) ⊕ (Nat × Option jv))
def jcut (ls : List (Option jv)) (n : Nat) : List (Option jv) := match n with
  | 0 => ls
  | k + 1 => match ls.getD k none with
    | some (.inr (.inl _)) => ls.set k none
    | _ => ls
def jst1 (ls : List (Option jv)) (n : Nat) (v : jv) : List (Option jv) := (jcut ls n).set n (some v)
def jst2 (ls : List (Option jv)) (n : Nat) (v : jv) : List (Option jv) := ((jcut ls n).set n (some v)).set (n + 1) none
def jtgt (pc : Nat) (off : Int) : Nat := ((pc : Int) + off).toNat
def jgo (pc : Nat) (ls : List (Option jv)) (st : List jv) (h : jh) : Option jn := some (.inl (pc, ls, st, h))
def pfl (oc idx : Nat) : Option (Nat × Nat) := ((pj_fl oc).find? (fun t => t.1 == idx)).map (fun t => t.2)
def pml (oc idx : Nat) : Option (Nat × Nat) := ((pj_ml oc).find? (fun t => t.1 == idx)).map (fun t => t.2)
def pkl (oc idx : Nat) : Option Nat := ((pj_kl oc).find? (fun t => t.1 == idx)).map (fun t => t.2)
def pby (y : Nat) : ByteArray := (pj_m y).2.1
def pmL (y : Nat) : Nat := (pj_m y).2.2.1
def prt (y : Nat) : Option FieldType := (pj_m y).2.2.2.1
def poc (y : Nat) : Nat := (pj_m y).2.2.2.2.1
def pna (y : Nat) : Nat := (pj_m y).2.2.2.2.2.1
def pin (y : Nat) : Nat := (pj_m y).2.2.2.2.2.2
def pfin (ci j : Nat) : Bool := ((pj_F ci).getD j ("", "", "", false)).2.2.2
/-- a field's value -/
def jfv (h : jh) (ci c j : Nat) : jv := match pj_ft ci j with
  | 0 => .inl (gD h c j)
  | 1 => .inl (gD h c j)
  | 2 => .inr (.inl (gL h c j))
  | _ => .inr (.inr (gR h c j))
def jload1 (ls : List (Option jv)) (n : Nat) (pc len : Nat) (st : List jv) (h : jh) : Option jn := match ls.getD n none with
  | some (.inl x) => jgo (pc + len) ls (.inl x :: st) h
  | _ => none
def jload2 (ls : List (Option jv)) (n : Nat) (pc len : Nat) (st : List jv) (h : jh) : Option jn := match ls.getD n none with
  | some (.inr (.inl x)) => jgo (pc + len) ls (.inr (.inl x) :: st) h
  | _ => none
def jload3 (ls : List (Option jv)) (n : Nat) (pc len : Nat) (st : List jv) (h : jh) : Option jn := match ls.getD n none with
  | some (.inr (.inr x)) => jgo (pc + len) ls (.inr (.inr x) :: st) h
  | _ => none
def jstor1 (ls : List (Option jv)) (n : Nat) (pc len : Nat) (st : List jv) (h : jh) : Option jn := match st with
  | .inl x :: r => if n < ls.length then jgo (pc + len) (jst1 ls n (.inl x)) r h else none
  | _ => none
def jstor2 (ls : List (Option jv)) (n : Nat) (pc len : Nat) (st : List jv) (h : jh) : Option jn := match st with
  | .inr (.inl x) :: r => if n + 1 < ls.length then jgo (pc + len) (jst2 ls n (.inr (.inl x))) r h else none
  | _ => none
def jstor3 (ls : List (Option jv)) (n : Nat) (pc len : Nat) (st : List jv) (h : jh) : Option jn := match st with
  | .inr (.inr x) :: r => if n < ls.length then jgo (pc + len) (jst1 ls n (.inr (.inr x))) r h else none
  | _ => none
def jbin (f : Int → Int → Int) (pc : Nat) (ls : List (Option jv)) (st : List jv) (h : jh) : Option jn := match st with
  | .inl b :: .inl a :: r => jgo (pc + 1) ls (.inl (f a b) :: r) h
  | _ => none
def jbin2 (f : Int → Int → Int) (pc : Nat) (ls : List (Option jv)) (st : List jv) (h : jh) : Option jn := match st with
  | .inr (.inl b) :: .inr (.inl a) :: r => jgo (pc + 1) ls (.inr (.inl (f a b)) :: r) h
  | _ => none
def jwt : List jv → Nat
  | [] => 0
  | .inr (.inl _) :: r => 2 + jwt r
  | _ :: r => 1 + jwt r
/-- a method's locals at its start -/
def jlay : List jv → List (Option jv)
  | [] => []
  | .inr (.inl x) :: r => some (.inr (.inl x)) :: none :: jlay r
  | v :: r => some v :: jlay r
def jent (n : Nat) (vs : List jv) : List (Option jv) := jlay vs ++ List.replicate (n - (jlay vs).length) none
/-- a call's outcome, if its arguments fit and what stays on the stack is little -/
def jcl (t y2 : Nat) (av rs : List jv) : Option jn := if (jlay av).length ≤ pmL y2 ∧ jwt rs ≤ 8 then some (.inr (.inl (t, y2, av, rs))) else none
def jclt (y2 : Nat) (av rs : List jv) : Option jn := if (jlay av.dropLast).length ≤ pmL y2 ∧ jwt rs ≤ 8 then some (.inr (.inl (1, y2, av, rs))) else none
def jcall (k y2 : Nat) (pc : Nat) (ls : List (Option jv)) (st : List jv) (h : jh) : Option jn := match k with
  | 10 => match st with
    | .inl b :: .inl a :: r => if jwt r ≤ 8 then jgo (pc + 3) ls (.inl (if a < b then b else a) :: r) h else none
    | _ => none
  | 11 => match st with
    | .inl b :: .inl a :: r => if jwt r ≤ 8 then jgo (pc + 3) ls (.inl (if b < a then b else a) :: r) h else none
    | _ => none
  | 12 => match st with
    | .inr (.inr (some c)) :: r => if c = jKEY ∧ jwt r ≤ 8 then jgo (pc + 3) ls (.inl 55 :: r) h else none
    | _ => none
  | 13 => match st with
    | .inl i :: .inr (.inr (some c)) :: r => if (c = jKEY ∧ jwt r ≤ 8) ∧ 0 ≤ i ∧ i < 55 then jgo (pc + 3) ls (.inl (jKEYt.getD i.toNat 0) :: r) h else none
    | _ => none
  | 14 => match st with
    | .inl i :: .inr (.inr (some c)) :: r => if (c = jSIG ∧ jwt r ≤ 8) ∧ 0 ≤ i ∧ i < 65536 then jgo (pc + 3) ls (.inl (if jSIGt.idxOf i < 8 then (jSIGt.idxOf i : Int) else -1) :: r) h else none
    | _ => none
  | 15 => match st with
    | .inr (.inr (some _)) :: r => if jwt r ≤ 8 then jgo (pc + 3) ls r h else none
    | _ => none
  | 20 => if 3 ≤ st.length then jclt y2 (st.take 3).reverse (st.drop 3) else none
  | 21 => if 4 ≤ st.length then jclt y2 (st.take 4).reverse (st.drop 4) else none
  | 22 => if 4 ≤ st.length then jclt y2 (st.take 4).reverse (st.drop 4) else none
  | 0 => if pna y2 ≤ st.length then (match (st.take (pna y2)).reverse with
    | .inr (.inr (some c)) :: av => if gK h c = some (0, poc y2) then jcl 0 y2 (.inr (.inr (some c)) :: av) (st.drop (pna y2)) else none
    | _ => none) else none
  | 4 => if pna y2 ≤ st.length then (match (st.take (pna y2)).reverse with
    | .inr (.inr (some c)) :: av => if gK h c = some (0, poc y2) then jcl 0 y2 (.inr (.inr (some c)) :: av) (st.drop (pna y2)) else none
    | _ => none) else none
  | 2 => if pna y2 ≤ st.length then (match (st.take (pna y2)).reverse with
    | .inr (.inr (some c)) :: av => jcl 0 y2 (.inr (.inr (some c)) :: av) (st.drop (pna y2))
    | _ => none) else none
  | 6 => if pna y2 ≤ st.length then (match (st.take (pna y2)).reverse with
    | .inr (.inr (some c)) :: av => jcl 0 y2 (.inr (.inr (some c)) :: av) (st.drop (pna y2))
    | _ => none) else none
  | 1 => if pna y2 ≤ st.length then jcl 0 y2 (st.take (pna y2)).reverse (st.drop (pna y2)) else none
  | 5 => if pna y2 ≤ st.length then jcl 0 y2 (st.take (pna y2)).reverse (st.drop (pna y2)) else none
  | _ => none
/-- which kinds go with which instruction -/
def jkV (kd : Nat) : Bool := kd == 0 || kd == 4 || kd == 12 || kd == 13 || kd == 14
def jkS (kd : Nat) : Bool := kd == 1 || kd == 5 || kd == 10 || kd == 11 || kd == 20 || kd == 21 || kd == 22
def jkI (kd : Nat) : Bool := kd == 2 || kd == 6 || kd == 15
/-- one instruction -/
def pjx (y : Nat) (i : Instr) (pc : Nat) (ls : List (Option jv)) (st : List jv) (h : jh) : Option jn := match i with
  | .iconst n => if -128 ≤ n ∧ n < 128 then jgo (pc + 1) ls (.inl n :: st) h else none
  | .bipush n => if -128 ≤ n ∧ n < 128 then jgo (pc + 2) ls (.inl n :: st) h else none
  | .sipush n => if -32768 ≤ n ∧ n < 32768 then jgo (pc + 3) ls (.inl n :: st) h else none
  | .lconst n => jgo (pc + 1) ls (.inr (.inl (n.val : Int)) :: st) h
  | .aconst_null => jgo (pc + 1) ls (.inr (.inr none) :: st) h
  | .ldc k => if poc y = 4 ∧ k = 254 then jgo (pc + 2) ls (.inr (.inr (some jKEY)) :: st) h else none
  | .ldc_w k => if poc y = 4 ∧ k = 280 then jgo (pc + 3) ls (.inr (.inr (some jSIG)) :: st) h
      else if poc y = 12 ∧ k = 446 then jgo (pc + 3) ls (.inl 1073741824 :: st) h
      else if poc y = 15 ∧ k = 265 then jgo (pc + 3) ls (.inl 1431655765 :: st) h
      else if poc y = 15 ∧ k = 266 then jgo (pc + 3) ls (.inl 858993459 :: st) h
      else if poc y = 15 ∧ k = 267 then jgo (pc + 3) ls (.inl 252645135 :: st) h else none
  | .ldc2_w k => if poc y = 12 ∧ k = 293 then jgo (pc + 3) ls (.inr (.inl 27) :: st) h else if poc y = 12 ∧ k = 295 then jgo (pc + 3) ls (.inr (.inl 96) :: st) h else none
  | .iload_n n => jload1 ls n.val pc 1 st h
  | .iload n => jload1 ls n pc 2 st h
  | .lload_n n => jload2 ls n.val pc 1 st h
  | .lload n => jload2 ls n pc 2 st h
  | .aload_n n => jload3 ls n.val pc 1 st h
  | .aload n => jload3 ls n pc 2 st h
  | .istore_n n => jstor1 ls n.val pc 1 st h
  | .istore n => jstor1 ls n pc 2 st h
  | .lstore_n n => jstor2 ls n.val pc 1 st h
  | .lstore n => jstor2 ls n pc 2 st h
  | .astore_n n => jstor3 ls n.val pc 1 st h
  | .astore n => jstor3 ls n pc 2 st h
  | .iinc n k => match ls.getD n none with
    | some (.inl x) => jgo (pc + 3) (jst1 ls n (.inl (w32 (x + k)))) st h
    | _ => none
  | .iadd => jbin (fun a b => w32 (a + b)) pc ls st h
  | .isub => jbin (fun a b => w32 (a - b)) pc ls st h
  | .imul => jbin (fun a b => w32 (a * b)) pc ls st h
  | .iand => jbin jand pc ls st h
  | .ior => jbin jor pc ls st h
  | .ixor => jbin jxor pc ls st h
  | .ishl => jbin jshl pc ls st h
  | .ishr => jbin jshr pc ls st h
  | .iushr => jbin jush pc ls st h
  | .ineg => match st with
    | .inl a :: r => jgo (pc + 1) ls (.inl (w32 (-a)) :: r) h
    | _ => none
  | .idiv => match st with
    | .inl b :: .inl a :: r => if b = 0 then none else jgo (pc + 1) ls (.inl (w32 (a.tdiv b)) :: r) h
    | _ => none
  | .irem => match st with
    | .inl b :: .inl a :: r => if b = 0 then none else jgo (pc + 1) ls (.inl (a.tmod b) :: r) h
    | _ => none
  | .ladd => jbin2 (fun a b => w64 (a + b)) pc ls st h
  | .lsub => jbin2 (fun a b => w64 (a - b)) pc ls st h
  | .lmul => jbin2 (fun a b => w64 (a * b)) pc ls st h
  | .lor => jbin2 jlor pc ls st h
  | .lxor => jbin2 jlxor pc ls st h
  | .lshl => match st with
    | .inl b :: .inr (.inl a) :: r => jgo (pc + 1) ls (.inr (.inl (jlshl a b)) :: r) h
    | _ => none
  | .lushr => match st with
    | .inl b :: .inr (.inl a) :: r => jgo (pc + 1) ls (.inr (.inl (jlush a b)) :: r) h
    | _ => none
  | .lcmp => match st with
    | .inr (.inl b) :: .inr (.inl a) :: r => jgo (pc + 1) ls (.inl (jlcmp a b) :: r) h
    | _ => none
  | .i2l => match st with
    | .inl a :: r => jgo (pc + 1) ls (.inr (.inl a) :: r) h
    | _ => none
  | .l2i => match st with
    | .inr (.inl a) :: r => jgo (pc + 1) ls (.inl (w32 a) :: r) h
    | _ => none
  | .i2c => match st with
    | .inl a :: r => jgo (pc + 1) ls (.inl (a % 65536) :: r) h
    | _ => none
  | .pop => match st with
    | .inl _ :: r => jgo (pc + 1) ls r h
    | .inr (.inr _) :: r => jgo (pc + 1) ls r h
    | _ => none
  | .dup => match st with
    | .inl a :: r => jgo (pc + 1) ls (.inl a :: .inl a :: r) h
    | .inr (.inr a) :: r => jgo (pc + 1) ls (.inr (.inr a) :: .inr (.inr a) :: r) h
    | _ => none
  | .dup2 => match st with
    | .inl a :: .inr (.inr b) :: r => jgo (pc + 1) ls (.inl a :: .inr (.inr b) :: .inl a :: .inr (.inr b) :: r) h
    | _ => none
  | .ifCond c off => match st with
    | .inl a :: r => if (pc : Int) + off < 0 then none else jgo (jbr c a 0 (jtgt pc off) (pc + 3)) ls r h
    | _ => none
  | .if_icmp c off => match st with
    | .inl b :: .inl a :: r => if (pc : Int) + off < 0 then none else jgo (jbr c a b (jtgt pc off) (pc + 3)) ls r h
    | _ => none
  | .ifnull off => match st with
    | .inr (.inr none) :: r => if (pc : Int) + off < 0 then none else jgo (jtgt pc off) ls r h
    | .inr (.inr (some _)) :: r => jgo (pc + 3) ls r h
    | _ => none
  | .ifnonnull off => match st with
    | .inr (.inr none) :: r => jgo (pc + 3) ls r h
    | .inr (.inr (some _)) :: r => if (pc : Int) + off < 0 then none else jgo (jtgt pc off) ls r h
    | _ => none
  | .goto off => if (pc : Int) + off < 0 then none else jgo (jtgt pc off) ls st h
  | .tableswitch d lo hi offs => match st with
    | .inl x :: r => if (pc : Int) + d < 0 then none else if x < lo then jgo (jtgt pc d) ls r h else if hi < x then jgo (jtgt pc d) ls r h else match offs.toList[(x - lo).toNat]? with
      | some off => if (pc : Int) + off < 0 then none else jgo (jtgt pc off) ls r h
      | none => none
    | _ => none
  | .getfield k => match st with
    | .inr (.inr (some c)) :: r => match pfl (poc y) k with
      | some (ci, j) => if gK h c = some (0, ci) then jgo (pc + 3) ls (jfv h ci c j :: r) h else none
      | none => none
    | _ => none
  | .putfield k => match pfl (poc y) k with
    | some (ci, j) => if pfin ci j = true ∧ ¬ (pin y = 1 ∧ poc y = ci) then none else match st with
      | .inl x :: .inr (.inr (some c)) :: r => if gK h c = some (0, ci) then (match pj_ft ci j with
        | 0 => jgo (pc + 3) ls r (wD h c j x)
        | 1 => if x = 0 ∨ x = 1 then jgo (pc + 3) ls r (wD h c j x) else none
        | _ => none) else none
      | .inr (.inl x) :: .inr (.inr (some c)) :: r => if gK h c = some (0, ci) then (if pj_ft ci j = 2 then jgo (pc + 3) ls r (wL h c j x) else none) else none
      | .inr (.inr x) :: .inr (.inr (some c)) :: r => if gK h c = some (0, ci) then (if pj_ft ci j = 3 then jgo (pc + 3) ls r (wR h c j x) else none) else none
      | _ => none
    | none => none
  | .iaload => match st with
    | .inl i :: .inr (.inr (some c)) :: r => match gK h c with
      | some (1, n) => if 0 ≤ i ∧ i < n then jgo (pc + 1) ls (.inl (gD h c i.toNat) :: r) h else none
      | some _ => none
      | none => if c = jSCR then (if 0 ≤ i ∧ i < gD h jLEN 0 then jgo (pc + 1) ls (.inl (gD h jSCR i.toNat) :: r) h else none) else none
    | _ => none
  | .baload => match st with
    | .inl i :: .inr (.inr (some c)) :: r => match gK h c with
      | some (2, n) => if 0 ≤ i ∧ i < n then jgo (pc + 1) ls (.inl (gD h c i.toNat) :: r) h else none
      | _ => none
    | _ => none
  | .laload => match st with
    | .inl i :: .inr (.inr (some c)) :: r => match gK h c with
      | some (3, n) => if 0 ≤ i ∧ i < n then jgo (pc + 1) ls (.inr (.inl (gL h c i.toNat)) :: r) h else none
      | _ => none
    | _ => none
  | .aaload => match st with
    | .inl i :: .inr (.inr (some c)) :: r => match gK h c with
      | some (k + 4, n) => if 0 ≤ i ∧ i < n then jgo (pc + 1) ls (.inr (.inr (gR h c i.toNat)) :: r) h else none
      | _ => none
    | _ => none
  | .iastore => match st with
    | .inl x :: .inl i :: .inr (.inr (some c)) :: r => match gK h c with
      | some (1, n) => if 0 ≤ i ∧ i < n then jgo (pc + 1) ls r (wD h c i.toNat x) else none
      | _ => none
    | _ => none
  | .bastore => match st with
    | .inl x :: .inl i :: .inr (.inr (some c)) :: r => match gK h c with
      | some (2, n) => if 0 ≤ i ∧ i < n then (if x = 0 ∨ x = 1 then jgo (pc + 1) ls r (wD h c i.toNat x) else none) else none
      | _ => none
    | _ => none
  | .lastore => match st with
    | .inr (.inl x) :: .inl i :: .inr (.inr (some c)) :: r => match gK h c with
      | some (3, n) => if 0 ≤ i ∧ i < n then jgo (pc + 1) ls r (wL h c i.toNat x) else none
      | _ => none
    | _ => none
  | .aastore => match st with
    | .inr (.inr (some v)) :: .inl i :: .inr (.inr (some c)) :: r => match gK h c with
      | some (k + 4, n) => if 0 ≤ i ∧ i < n then (match gK h v with
        | some (0, ci) => if ci = k then jgo (pc + 1) ls r (wR h c i.toNat (some v)) else none
        | some (1, _) => if k = 100 then jgo (pc + 1) ls r (wR h c i.toNat (some v)) else none
        | _ => none) else none
      | _ => none
    | _ => none
  | .arraylength => match st with
    | .inr (.inr (some c)) :: r => match gK h c with
      | some (k + 1, n) => jgo (pc + 1) ls (.inl (n : Int) :: r) h
      | some _ => none
      | none => if c = jSCR then jgo (pc + 1) ls (.inl (gD h jLEN 0) :: r) h else none
    | _ => none
  | .newarray t => match st with
    | .inl n :: r => if 0 ≤ n ∧ n ≤ 4096 then (match t with
      | .int => jgo (pc + 2) ls (.inr (.inr (some h.1.length)) :: r) (nC h (1, n.toNat))
      | .boolean => jgo (pc + 2) ls (.inr (.inr (some h.1.length)) :: r) (nC h (2, n.toNat))
      | .long => jgo (pc + 2) ls (.inr (.inr (some h.1.length)) :: r) (nC h (3, n.toNat))
      | _ => none) else none
    | _ => none
  | .anewarray k => match pkl (poc y) k with
    | some ci => match st with
      | .inl n :: r => if 0 ≤ n ∧ n ≤ 4096 ∧ (ci = 3 ∨ ci = 9 ∨ ci = 1) then jgo (pc + 3) ls (.inr (.inr (some h.1.length)) :: r) (nC h (4 + ci, n.toNat)) else none
      | _ => none
    | none => none
  | .multianewarray k d => if poc y = 5 ∧ k = 19 ∧ d = 2 then (match st with
      | .inl b :: .inl a :: r => if 0 ≤ a ∧ a ≤ 4096 ∧ 0 ≤ b ∧ b ≤ 4096 then jgo (pc + 4) ls (.inr (.inr (some h.1.length)) :: r) (nRows a.toNat h.1.length 0 b.toNat (nC h (104, a.toNat))) else none
      | _ => none) else none
  | .new k => match pkl (poc y) k with
    | some ci => if ci < 13 then jgo (pc + 3) ls (.inr (.inr (some h.1.length)) :: st) (nC h (0, ci)) else if ci = 14 then some (.inr (.inr (1, none))) else none
    | none => none
  | .invokevirtual k => match pml (poc y) k with
    | some (kd, y2) => if jkV kd = true then jcall kd y2 pc ls st h else none
    | none => none
  | .invokestatic k => match pml (poc y) k with
    | some (kd, y2) => if jkS kd = true then jcall kd y2 pc ls st h else none
    | none => none
  | .invokespecial k => match pml (poc y) k with
    | some (kd, y2) => if jkI kd = true then jcall kd y2 pc ls st h else none
    | none => none
  | .ireturn => match st with
    | [.inl x] => (match prt y with
      | some .int => some (.inr (.inr (0, some (.inl x))))
      | some .boolean => if x = 0 ∨ x = 1 then some (.inr (.inr (0, some (.inl x)))) else none
      | _ => none)
    | _ => none
  | .lreturn => match st with
    | [.inr (.inl x)] => if prt y = some .long then some (.inr (.inr (0, some (.inr (.inl x))))) else none
    | _ => none
  | .areturn => match st with
    | [.inr (.inr x)] => (match prt y with
      | some (.object _) => some (.inr (.inr (0, some (.inr (.inr x)))))
      | some (.array _) => some (.inr (.inr (0, some (.inr (.inr x)))))
      | _ => none)
    | _ => none
  | .return_ => match st with
    | [] => if prt y = none then some (.inr (.inr (0, none))) else none
    | _ => none
  | _ => none
abbrev jr : Type := (Nat × Option jv) × jh
/-- the lengths of the instructions that occur -/
def jlen (i : Instr) (len : Nat) : Bool := match i with
  | .tableswitch _ _ _ _ => true
  | .bipush _ => len == 2
  | .iload _ => len == 2
  | .lload _ => len == 2
  | .aload _ => len == 2
  | .istore _ => len == 2
  | .lstore _ => len == 2
  | .astore _ => len == 2
  | .newarray _ => len == 2
  | .ldc _ => len == 2
  | .sipush _ => len == 3
  | .iinc _ _ => len == 3
  | .ifCond _ _ => len == 3
  | .if_icmp _ _ => len == 3
  | .ifnull _ => len == 3
  | .ifnonnull _ => len == 3
  | .goto _ => len == 3
  | .getfield _ => len == 3
  | .putfield _ => len == 3
  | .new _ => len == 3
  | .anewarray _ => len == 3
  | .invokevirtual _ => len == 3
  | .invokestatic _ => len == 3
  | .invokespecial _ => len == 3
  | .ldc_w _ => len == 3
  | .ldc2_w _ => len == 3
  | .multianewarray _ _ => len == 4
  | _ => len == 1
/-- the run of a method from a place on, to its end; d calls deep at most -/
def prun : Nat → Nat → Nat → Nat → List (Option jv) → List jv → jh → Option jr
  | 0, _, _, _, _, _, _ => none
  | n + 1, d, y, pc, ls, st, h => match decode (pby y) pc with
    | .ok (i, len) => if jlen i len = false then none else match pjx y i pc ls st h with
      | some (.inl (pc', ls', st', h')) => prun n d y pc' ls' st' h'
      | some (.inr (.inl (0, y2, av, rs))) => (match d with
        | 0 => none
        | d' + 1 => match prun n d' y2 0 (jent (pmL y2) av) [] h with
          | some ((0, r), h') => prun n (d' + 1) y (pc + 3) ls (r.toList ++ rs) h'
          | _ => none)
      | some (.inr (.inl (_, y2, av, rs))) => (match d, av.getLast? with
        | d' + 1, some (.inr (.inr (some o))) => match prun n d' y2 0 (jent (pmL y2) av.dropLast) [] h with
          | some ((0, some (.inl x)), h') => if gK h' o = some (3, 1) then prun n (d' + 1) y (pc + 3) ls (.inl 0 :: rs) (wL h' o 0 x) else none
          | some ((1, _), h') => prun n (d' + 1) y (pc + 3) ls (.inl 1 :: rs) (nC h' (0, 14))
          | _ => none
        | _, _ => none)
      | some (.inr (.inr r)) => some (r, h)
      | none => none
    | .error _ => none
