/-! THE LAW'S RUN IS ONE OF THE MACHINE, given the three helpers that catch -/
section SIML
variable {G : jg}
/-- a try call of the law: the helper, its object at hand -/
def jHtryR (G : jg) (l : Launch) : Prop := ∀ (n : Nat), jSim3 G n → ∀ (p : Program) (e : Env) (R : Room) (s : State) (m : MethodId) (args : Array Value) (below : List Frame) (meth : Method) (c : Code) (Q : State → Prop) (hE : jh) (cE sE pc d k kd y2 o b : Nat) (ls : List (Option jv)) (st av rs : List jv) (h h1 h2 : jh) (z : Int),
  jFZ G 297 p s m args meth c → jok3 (d + 1) R → jroom R hE cE sE → pml 13 k = some (kd, y2) → (kd = 20 ∨ kd = 21 ∨ kd = 22) → decode (pby 297) pc = .ok (.invokestatic k, 3) → st = av.reverse ++ rs → av.length = (if kd = 20 then 3 else 4) → jwt rs ≤ 8 → (jlay av.dropLast).length ≤ pmL y2 → av.getLast? = some (.inr (.inr (some o))) → ((∃ i w, av = [.inr (.inr (some b)), .inl i, w]) ∨ ∃ i j w, av = [.inr (.inr (some b)), .inl i, .inl j, w]) → gK h b = some (0, 11) →
  ((∃ x, prun n d y2 0 (jent (pmL y2) av.dropLast) [] h = some ((0, some (.inl x)), h1) ∧ gK h1 o = some (3, 1) ∧ z = 0 ∧ h2 = wL h1 o 0 x) ∨ (∃ r, prun n d y2 0 (jent (pmL y2) av.dropLast) [] h = some ((1, r), h1) ∧ z = 1 ∧ h2 = nC h1 (0, 14))) → jpre h2 hE →
  jGZ G 297 p l e R s m args below meth c Q hE cE sE (pc + 3) ls (.inl z :: rs) h2 → jGZ G 297 p l e R s m args below meth c Q hE cE sE pc ls st h
theorem jsimL (hM : jHmulZ G) (hT : jHstrZ G) {l : Launch} (hY : jHtryR G l) {N : Nat} (S : jSim3 G N) : ∀ n : Nat, n ≤ N → ∀ (d pc : Nat) (ls : List (Option jv)) (st : List jv) (h : jh) (o : Nat × Option jv) (hE : jh), prun n d 297 pc ls st h = some (o, hE) → jLP pc ls st h →
    ∀ (p : Program) (e : Env) (R : Room) (s : State) (m : MethodId) (args : Array Value) (below : List Frame) (meth : Method) (c : Code) (Q : State → Prop) (cE sE : Nat), jFZ G 297 p s m args meth c → jok3 d R → jroom R hE cE sE → l.stackTraces = false →
    (∀ pcE lsE stE, jend 297 o pcE lsE stE hE → jGZ G 297 p l e R s m args below meth c Q hE cE sE pcE lsE stE hE) → jGZ G 297 p l e R s m args below meth c Q hE cE sE pc ls st h
  | 0 => fun hn d pc ls st h o hE hr => by cases hr
  | n + 1 => fun hn d pc ls st h o hE hr hP p e R s m args below meth c Q cE sE F hok hR hlt hend => by
    have ih := jsimL hM hT hY S n (by omega)
    have hroom : 20 ≤ R.frames ∧ 5000 ≤ R.locals := ⟨by have := hok.1; omega, by have := hok.2; omega⟩
    have eo : poc 297 = 13 := jL_0.2.2.2.2.2.2.2.2
    unfold prun at hr
    split at hr
    · rename_i i len hd
      split at hr
      · cases hr
      rename_i hlen
      have hl : jlen i len = true := by simpa using hlen
      split at hr
      · rename_i pc' ls' st' h' hx
        exact jstepZ hM hT F hroom hR i hd hl hx (prun_pre _ _ _ _ _ _ _ _ _ hr) (ih d pc' ls' st' h' o hE hr (jL_step hP hd hx) p e R s m args below meth c Q cE sE F hok hR hlt hend)
      · rename_i y2 av rs hx
        split at hr
        · cases hr
        · rename_i d'
          split at hr
          · rename_i r h1 hq
            obtain ⟨k, kd, yy, hk, hc, hi⟩ := pjx_call hx
            have hl3 : len = 3 := by
              rcases hi with ⟨-, rfl⟩ | ⟨-, rfl⟩ | ⟨-, rfl⟩ <;> exact jone hl (fun _ => rfl)
            subst hl3
            have hP2 := (jL_call (n := n) (d := d') hP hd hx (prun_pre _ _ _ _ _ _ _ _ _ hq)).1 r (fun _ => hq) (fun _ => trivial)
            exact jcall3 hlt F hok hR (jSim3_le (by omega) S) hk hc (by
              rcases hi with ⟨a, rfl⟩ | ⟨a, rfl⟩ | ⟨a, rfl⟩
              · exact Or.inl ⟨a, hd⟩
              · exact Or.inr (Or.inl ⟨a, hd⟩)
              · exact Or.inr (Or.inr ⟨a, hd⟩)) hq (prun_pre _ _ _ _ _ _ _ _ _ hr) (ih (d' + 1) (pc + 3) ls (r.toList ++ rs) h1 o hE hr hP2 p e R s m args below meth c Q cE sE F hok hR hlt hend)
          · cases hr
      · rename_i t y2 av rs ht hx
        have ht0 : t ≠ 0 := fun q => ht q
        obtain ⟨k, kd, yy, hk, hc, hi⟩ := pjx_call hx
        rw [eo] at hk
        obtain ⟨rfl, hkd, hst, hal, hw, hla⟩ := jcall_try ht0 hc
        have hii : i = .invokestatic k := by
          rcases hi with ⟨a, -⟩ | ⟨-, a⟩ | ⟨a, -⟩
          · rcases hkd with rfl | rfl | rfl <;> cases a
          · exact a
          · rcases hkd with rfl | rfl | rfl <;> cases a
        subst hii
        obtain rfl := jone (n := 3) hl (fun _ => rfl)
        split at hr
        · rename_i d' o' hlast
          have hS := jSim3_le (G := G) (k := n) (by omega) S
          obtain ⟨b, hgb, hav⟩ := (jL_call (n := n) (d := d') hP hd hx (jpre_rfl h)).2 ht0
          split at hr
          · rename_i x h1 hq
            split at hr
            · rename_i hg
              have hp2 : jpre h (wL h1 o' 0 x) := jpre_tr (prun_pre _ _ _ _ _ _ _ _ _ hq) (jpre_of rfl)
              have hP2 := (jL_call (n := n) (d := d') hP hd hx hp2).1 (some (.inl 0)) (fun q => absurd q ht0) (fun _ => trivial)
              exact hY n hS p e R s m args below meth c Q hE cE sE pc d' k kd _ o' b ls st av rs h h1 _ 0 F hok hR hk hkd hd hst hal hw hla hlast hav hgb (Or.inl ⟨x, hq, hg, rfl, rfl⟩) (prun_pre _ _ _ _ _ _ _ _ _ hr) (ih (d' + 1) (pc + 3) ls _ _ o hE hr hP2 p e R s m args below meth c Q cE sE F hok hR hlt hend)
            · cases hr
          · rename_i r h1 hq
            have hp2 : jpre h (nC h1 (0, 14)) := jpre_tr (prun_pre _ _ _ _ _ _ _ _ _ hq) (jpre_nC _ _)
            have hP2 := (jL_call (n := n) (d := d') hP hd hx hp2).1 (some (.inl 1)) (fun q => absurd q ht0) (fun _ => trivial)
            exact hY n hS p e R s m args below meth c Q hE cE sE pc d' k kd _ o' b ls st av rs h h1 _ 1 F hok hR hk hkd hd hst hal hw hla hlast hav hgb (Or.inr ⟨_, hq, rfl, rfl⟩) (prun_pre _ _ _ _ _ _ _ _ _ hr) (ih (d' + 1) (pc + 3) ls _ _ o hE hr hP2 p e R s m args below meth c Q cE sE F hok hR hlt hend)
          · cases hr
        · cases hr
      · rename_i r hx
        cases hr
        exact hend pc ls st ⟨i, len, hd, hl, hx⟩
      · cases hr
    · cases hr
end SIML
