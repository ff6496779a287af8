/-! THE REFERENCE'S OBJECT: cells 488 to 539 -/
abbrev jr2 : Type := (Nat → Nat) × Nat × (Nat → Nat → Int)
def KM (c : Nat) (k : Nat × Nat) : Prop := (KL0 ++ KLm)[c]? = some k
def sM (ρ : jr2) (c i : Nat) (x : Int) : jr2 := (ρ.1, ρ.2.1, fun a b => if a = c ∧ b = i then x else ρ.2.2 a b)
section HPM
variable {ρ : jr2} {D : jD} {α : Type} {o c n ci : Nat} {i x : Int} {d : Nat}
theorem hM {k : Nat × Nat} (h : KM c k) : gK (hp (1, ρ) D) c = some k := by
  show (KQ 1 ρ.2.1)[c]? = some k
  unfold KQ
  rw [if_neg (by decide), ← List.append_assoc, List.getElem?_append_left]
  · exact h
  · exact (List.getElem?_eq_some_iff.mp h).1
theorem mGF (h : KM o (0, ci)) (k : Nat → Option α) : vGF (hp (1, ρ) D) (some o) ci k = k o := if_pos (hM h)
theorem mIA (h : KM c (1, n)) (k : Int → Option α) : vIA (hp (1, ρ) D) (some c) i k = if 0 ≤ i ∧ i < n then k (D c i.toNat) else none := by
  unfold vIA; simp only [hM h]; rfl
theorem mBA (h : KM c (2, n)) (k : Int → Option α) : vBA (hp (1, ρ) D) (some c) i k = if 0 ≤ i ∧ i < n then k (D c i.toNat) else none := by
  unfold vBA; simp only [hM h]; rfl
theorem mLA (h : KM c (3, n)) (k : Int → Option α) : vLA (hp (1, ρ) D) (some c) i k = if 0 ≤ i ∧ i < n then k (ρ.2.2 c i.toNat) else none := by
  unfold vLA; simp only [hM h]; rfl
theorem mIS (h : KM c (1, n)) (k : jh → Option α) : vIS (hp (1, ρ) D) (some c) i x k = if 0 ≤ i ∧ i < n then k (hp (1, ρ) (sD D c i.toNat x)) else none := by
  unfold vIS; simp only [hM h]; rfl
theorem mBS (h : KM c (2, n)) (k : jh → Option α) : vBS (hp (1, ρ) D) (some c) i x k = if 0 ≤ i ∧ i < n then (if x = 0 ∨ x = 1 then k (hp (1, ρ) (sD D c i.toNat x)) else none) else none := by
  unfold vBS; simp only [hM h]; rfl
theorem mLS (h : KM c (3, n)) (k : jh → Option α) : vLS (hp (1, ρ) D) (some c) i x k = if 0 ≤ i ∧ i < n then k (hp (1, sM ρ c i.toNat x) D) else none := by
  unfold vLS; simp only [hM h]; rfl
theorem mwL {c i : Nat} {x : Int} : wL (hp (1, ρ) D) c i x = hp (1, sM ρ c i x) D := rfl
theorem mR {c i v : Nat} (h : c ≠ 345 ∧ lkR (ULm ++ UL0) c i = some v) : gR (hp (1, ρ) D) c i = some v := by
  show (if c = 345 ∧ i < 16 then some (346 + ρ.1 i) else RQ 1 c i) = some v
  rw [if_neg (fun q => h.1 q.1)]
  exact h.2
theorem m488 : KM 488 (0, 12) := by unfold KM; decide +kernel
theorem m489 : KM 489 (1, 540) := by unfold KM; decide +kernel
theorem m490 : KM 490 (1, 508) := by unfold KM; decide +kernel
theorem m491 : KM 491 (1, 220) := by unfold KM; decide +kernel
theorem m492 : KM 492 (1, 1016) := by unfold KM; decide +kernel
theorem m493 : KM 493 (3, 12) := by unfold KM; decide +kernel
theorem m494 : KM 494 (3, 12) := by unfold KM; decide +kernel
theorem m495 : KM 495 (3, 24) := by unfold KM; decide +kernel
theorem m496 : KM 496 (2, 2) := by unfold KM; decide +kernel
theorem m497 : KM 497 (1, 17) := by unfold KM; decide +kernel
theorem m498 : KM 498 (1, 17) := by unfold KM; decide +kernel
theorem m499 : KM 499 (1, 17) := by unfold KM; decide +kernel
theorem m500 : KM 500 (1, 289) := by unfold KM; decide +kernel
theorem m501 : KM 501 (1, 17) := by unfold KM; decide +kernel
theorem m502 : KM 502 (1, 17) := by unfold KM; decide +kernel
theorem m503 : KM 503 (1, 17) := by unfold KM; decide +kernel
theorem m504 : KM 504 (1, 17) := by unfold KM; decide +kernel
theorem m505 : KM 505 (1, 17) := by unfold KM; decide +kernel
theorem m506 : KM 506 (1, 17) := by unfold KM; decide +kernel
theorem m507 : KM 507 (1, 17) := by unfold KM; decide +kernel
theorem m508 : KM 508 (1, 17) := by unfold KM; decide +kernel
theorem m509 : KM 509 (1, 17) := by unfold KM; decide +kernel
theorem m510 : KM 510 (1, 17) := by unfold KM; decide +kernel
theorem m511 : KM 511 (1, 17) := by unfold KM; decide +kernel
theorem m512 : KM 512 (1, 17) := by unfold KM; decide +kernel
theorem m513 : KM 513 (1, 17) := by unfold KM; decide +kernel
theorem m514 : KM 514 (1, 816) := by unfold KM; decide +kernel
theorem m515 : KM 515 (1, 17) := by unfold KM; decide +kernel
theorem m516 : KM 516 (1, 17) := by unfold KM; decide +kernel
theorem m517 : KM 517 (1, 17) := by unfold KM; decide +kernel
theorem m518 : KM 518 (1, 68) := by unfold KM; decide +kernel
theorem m519 : KM 519 (2, 256) := by unfold KM; decide +kernel
theorem m520 : KM 520 (1, 32) := by unfold KM; decide +kernel
theorem m521 : KM 521 (1, 17) := by unfold KM; decide +kernel
theorem m522 : KM 522 (1, 136) := by unfold KM; decide +kernel
theorem m523 : KM 523 (1, 17) := by unfold KM; decide +kernel
theorem m524 : KM 524 (1, 8) := by unfold KM; decide +kernel
theorem m525 : KM 525 (1, 17) := by unfold KM; decide +kernel
theorem m526 : KM 526 (1, 17) := by unfold KM; decide +kernel
theorem m527 : KM 527 (1, 17) := by unfold KM; decide +kernel
theorem m528 : KM 528 (1, 17) := by unfold KM; decide +kernel
theorem m529 : KM 529 (1, 272) := by unfold KM; decide +kernel
theorem m530 : KM 530 (1, 17) := by unfold KM; decide +kernel
theorem m531 : KM 531 (1, 17) := by unfold KM; decide +kernel
theorem m532 : KM 532 (1, 17) := by unfold KM; decide +kernel
theorem m533 : KM 533 (1, 8) := by unfold KM; decide +kernel
theorem m534 : KM 534 (1, 8) := by unfold KM; decide +kernel
theorem m535 : KM 535 (1, 8) := by unfold KM; decide +kernel
theorem m536 : KM 536 (1, 272) := by unfold KM; decide +kernel
theorem m537 : KM 537 (1, 17) := by unfold KM; decide +kernel
theorem m538 : KM 538 (1, 17) := by unfold KM; decide +kernel
theorem m539 : KM 539 (3, 1) := by unfold KM; decide +kernel
theorem mr1 : gR (hp (1, ρ) D) 488 1 = some 489 := mR ⟨by decide, by decide +kernel⟩
theorem mr3 : gR (hp (1, ρ) D) 488 3 = some 490 := mR ⟨by decide, by decide +kernel⟩
theorem mr4 : gR (hp (1, ρ) D) 488 4 = some 491 := mR ⟨by decide, by decide +kernel⟩
theorem mr5 : gR (hp (1, ρ) D) 488 5 = some 492 := mR ⟨by decide, by decide +kernel⟩
theorem mr6 : gR (hp (1, ρ) D) 488 6 = some 493 := mR ⟨by decide, by decide +kernel⟩
theorem mr7 : gR (hp (1, ρ) D) 488 7 = some 494 := mR ⟨by decide, by decide +kernel⟩
theorem mr8 : gR (hp (1, ρ) D) 488 8 = some 495 := mR ⟨by decide, by decide +kernel⟩
theorem mr9 : gR (hp (1, ρ) D) 488 9 = some 496 := mR ⟨by decide, by decide +kernel⟩
theorem mr14 : gR (hp (1, ρ) D) 488 14 = some 497 := mR ⟨by decide, by decide +kernel⟩
theorem mr15 : gR (hp (1, ρ) D) 488 15 = some 498 := mR ⟨by decide, by decide +kernel⟩
theorem mr16 : gR (hp (1, ρ) D) 488 16 = some 499 := mR ⟨by decide, by decide +kernel⟩
theorem mr17 : gR (hp (1, ρ) D) 488 17 = some 500 := mR ⟨by decide, by decide +kernel⟩
theorem mr18 : gR (hp (1, ρ) D) 488 18 = some 501 := mR ⟨by decide, by decide +kernel⟩
theorem mr19 : gR (hp (1, ρ) D) 488 19 = some 502 := mR ⟨by decide, by decide +kernel⟩
theorem mr20 : gR (hp (1, ρ) D) 488 20 = some 503 := mR ⟨by decide, by decide +kernel⟩
theorem mr21 : gR (hp (1, ρ) D) 488 21 = some 504 := mR ⟨by decide, by decide +kernel⟩
theorem mr22 : gR (hp (1, ρ) D) 488 22 = some 505 := mR ⟨by decide, by decide +kernel⟩
theorem mr23 : gR (hp (1, ρ) D) 488 23 = some 506 := mR ⟨by decide, by decide +kernel⟩
theorem mr24 : gR (hp (1, ρ) D) 488 24 = some 507 := mR ⟨by decide, by decide +kernel⟩
theorem mr25 : gR (hp (1, ρ) D) 488 25 = some 508 := mR ⟨by decide, by decide +kernel⟩
theorem mr26 : gR (hp (1, ρ) D) 488 26 = some 509 := mR ⟨by decide, by decide +kernel⟩
theorem mr27 : gR (hp (1, ρ) D) 488 27 = some 510 := mR ⟨by decide, by decide +kernel⟩
theorem mr28 : gR (hp (1, ρ) D) 488 28 = some 511 := mR ⟨by decide, by decide +kernel⟩
theorem mr29 : gR (hp (1, ρ) D) 488 29 = some 512 := mR ⟨by decide, by decide +kernel⟩
theorem mr30 : gR (hp (1, ρ) D) 488 30 = some 513 := mR ⟨by decide, by decide +kernel⟩
theorem mr40 : gR (hp (1, ρ) D) 488 40 = some 514 := mR ⟨by decide, by decide +kernel⟩
theorem mr41 : gR (hp (1, ρ) D) 488 41 = some 515 := mR ⟨by decide, by decide +kernel⟩
theorem mr42 : gR (hp (1, ρ) D) 488 42 = some 516 := mR ⟨by decide, by decide +kernel⟩
theorem mr43 : gR (hp (1, ρ) D) 488 43 = some 517 := mR ⟨by decide, by decide +kernel⟩
theorem mr47 : gR (hp (1, ρ) D) 488 47 = some 518 := mR ⟨by decide, by decide +kernel⟩
theorem mr48 : gR (hp (1, ρ) D) 488 48 = some 519 := mR ⟨by decide, by decide +kernel⟩
theorem mr49 : gR (hp (1, ρ) D) 488 49 = some 520 := mR ⟨by decide, by decide +kernel⟩
theorem mr50 : gR (hp (1, ρ) D) 488 50 = some 521 := mR ⟨by decide, by decide +kernel⟩
theorem mr51 : gR (hp (1, ρ) D) 488 51 = some 522 := mR ⟨by decide, by decide +kernel⟩
theorem mr52 : gR (hp (1, ρ) D) 488 52 = some 523 := mR ⟨by decide, by decide +kernel⟩
theorem mr53 : gR (hp (1, ρ) D) 488 53 = some 524 := mR ⟨by decide, by decide +kernel⟩
theorem mr56 : gR (hp (1, ρ) D) 488 56 = some 525 := mR ⟨by decide, by decide +kernel⟩
theorem mr57 : gR (hp (1, ρ) D) 488 57 = some 526 := mR ⟨by decide, by decide +kernel⟩
theorem mr58 : gR (hp (1, ρ) D) 488 58 = some 527 := mR ⟨by decide, by decide +kernel⟩
theorem mr59 : gR (hp (1, ρ) D) 488 59 = some 528 := mR ⟨by decide, by decide +kernel⟩
theorem mr60 : gR (hp (1, ρ) D) 488 60 = some 529 := mR ⟨by decide, by decide +kernel⟩
theorem mr61 : gR (hp (1, ρ) D) 488 61 = some 530 := mR ⟨by decide, by decide +kernel⟩
theorem mr62 : gR (hp (1, ρ) D) 488 62 = some 531 := mR ⟨by decide, by decide +kernel⟩
theorem mr63 : gR (hp (1, ρ) D) 488 63 = some 532 := mR ⟨by decide, by decide +kernel⟩
theorem mr64 : gR (hp (1, ρ) D) 488 64 = some 533 := mR ⟨by decide, by decide +kernel⟩
theorem mr65 : gR (hp (1, ρ) D) 488 65 = some 534 := mR ⟨by decide, by decide +kernel⟩
theorem mr66 : gR (hp (1, ρ) D) 488 66 = some 535 := mR ⟨by decide, by decide +kernel⟩
theorem mr67 : gR (hp (1, ρ) D) 488 67 = some 536 := mR ⟨by decide, by decide +kernel⟩
theorem mr68 : gR (hp (1, ρ) D) 488 68 = some 537 := mR ⟨by decide, by decide +kernel⟩
theorem mr70 : gR (hp (1, ρ) D) 488 70 = some 538 := mR ⟨by decide, by decide +kernel⟩
end HPM
