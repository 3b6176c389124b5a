/-! THE READER: signs, letters, carets; the class -/
variable {S : List mjD} {I : Nat → Nat → Int32} {L : Nat → Nat → Int64}
def rX (p b : Nat) : Prop := b = p ∨ b = p + 1 + 1
/-- another state, sign, amount, place -/
def rMk (r : rdS) (st : Nat) (ng : Bool) (am pl : Nat) : rdS := (st, ng, am, pl, rlm r, rrw r)
def rSign (r : rdS) (neg : Bool) : Option rdS :=
  if rst r = 3 ∨ rst r = 5 then some (rMk (rEnd r) 1 neg (ram r) (rpl r)) else if rst r = 0 ∧ neg = true then some (rMk r 1 neg (ram r) (rpl r)) else none
def rLetter (r : rdS) : Option rdS :=
  if 1 < rlm r then (if rst r = 0 ∨ rst r = 1 then some (rMk r 3 (rng r) 1 1) else if rst r = 2 ∧ ram r ≠ 1 then some (rMk r 3 (rng r) (ram r) 1) else none) else none
def rCaret (r : rdS) : Option rdS := if rst r = 3 ∧ 2 < rlm r then some (rMk r 4 (rng r) (ram r) (rpl r)) else none
def rOK (r : rdS) : Prop := rst r ≤ 5 ∧ ram r ≤ 999 ∧ rpl r < 6 ∧ rlm r ≤ 6
section
variable {p : Nat}
theorem c_caret {r : rdS} (hp : is_Reader S p) (h : rdR p r I L) (ho : rOK r) : ∃ I1 L1, CTi mr_X6_acceptCaret [.ref p] S I L (if (rCaret r).isSome then 1 else 0) I1 L1 ∧ rdR p ((rCaret r).getD r) I1 L1 ∧ fr (rX p) I L I1 L1 := by
  obtain ⟨o1, o2, o3, o4⟩ := ho
  have e3 : I p 1 = 3 ↔ rst r = 3 := by rw [h.1]; exact nI_eq (b := 3) (by omega) (by decide)
  have e5 : (2 : Int32) < I p 5 ↔ 2 < rlm r := by rw [h.2.2.2.2.1]; exact nI_ltI (a := 2) (by decide) (by omega)
  by_cases c : rst r = 3
  · by_cases c2 : 2 < rlm r
    · have e : rCaret r = some (rMk r 4 (rng r) (ram r) (rpl r)) := by unfold rCaret; rw [if_pos ⟨c, c2⟩]
      rw [e]
      obtain ⟨h1, h2, h3, h4, h5, h6⟩ := h
      exact ⟨mj_up I p 1 4, L, wp_X6_acceptCaret hp ⟨fun z => absurd (e3.mpr c) z, fun _ => ⟨fun _ => ⟨rfl, rfl⟩, fun z => absurd (e5.mpr c2) z⟩⟩, ⟨by rw [up_eq]; rfl, by rw [up_nk (by decide)]; exact h2, fun _ => by rw [up_nk (by decide)]; exact h3 (by omega), fun _ => by rw [up_nk (by decide)]; exact h4 (by omega), by rw [up_nk (by decide)]; exact h5, h6⟩, fun b hb => ⟨up_ne (fun e => hb (Or.inl e)), rfl⟩⟩
    · have e : rCaret r = none := by unfold rCaret; rw [if_neg (fun z => c2 z.2)]
      rw [e]
      exact ⟨I, L, wp_X6_acceptCaret hp ⟨fun z => absurd (e3.mpr c) z, fun _ => ⟨fun z => absurd (e5.mp z) c2, fun _ => ⟨rfl, rfl⟩⟩⟩, h, fr_rf⟩
  · have e : rCaret r = none := by unfold rCaret; rw [if_neg (fun z => c z.1)]
    rw [e]
    exact ⟨I, L, wp_X6_acceptCaret hp ⟨fun _ => ⟨rfl, rfl⟩, fun z => absurd (e3.mp z) c⟩, h, fr_rf⟩
end
