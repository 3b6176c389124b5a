/-! THE READER: letters and signs; the class -/
variable {S : List mjD} {I : Nat → Nat → Int32} {L : Nat → Nat → Int64}
section
variable {p : Nat}
theorem c_xletter {r : rdS} (hp : is_Reader S p) (h : rdR p r I L) (ho : rOK r) : ∃ I1 L1, CTi mr_X6_acceptLetter [.ref p] S I L (if (rLetter r).isSome then 1 else 0) I1 L1 ∧ rdR p ((rLetter r).getD r) I1 L1 ∧ fr (rX p) I L I1 L1 := by
  obtain ⟨o1, o2, o3, o4⟩ := ho
  have e0 : I p 1 = 0 ↔ rst r = 0 := by rw [h.1]; exact nI_eq (b := 0) (by omega) (by decide)
  have e1 : I p 1 = 1 ↔ rst r = 1 := by rw [h.1]; exact nI_eq (b := 1) (by omega) (by decide)
  have e2 : I p 1 = 2 ↔ rst r = 2 := by rw [h.1]; exact nI_eq (b := 2) (by omega) (by decide)
  have ea : rst r = 2 → (I p 3 = 1 ↔ ram r = 1) := fun hs => by rw [h.2.2.1 (by omega)]; exact nI_eq (b := 1) (by omega) (by decide)
  have e5 : (1 : Int32) < I p 5 ↔ 1 < rlm r := by rw [h.2.2.2.2.1]; exact nI_ltI (a := 1) (by decide) (by omega)
  by_cases c : 1 < rlm r
  · by_cases c1 : rst r = 0 ∨ rst r = 1
    · have e : rLetter r = some (rMk r 3 (rng r) 1 1) := by unfold rLetter; rw [if_pos c, if_pos c1]
      rw [e]
      obtain ⟨h1, h2, h3, h4, h5, h6⟩ := h
      refine ⟨mj_up (mj_up (mj_up I p 3 1) p 4 1) p 1 3, L, wp_X6_acceptLetter hp ⟨fun _ => ⟨fun _ => ⟨rfl, rfl⟩, fun z => ⟨fun w => absurd (c1.elim (fun q => absurd (e0.mpr q) z) (fun q => e1.mpr q)) w, fun _ => ⟨rfl, rfl⟩⟩⟩, fun z => absurd (e5.mpr c) z⟩, ⟨by rw [up_eq]; rfl, by rw [up_nk (by decide), up_nk (by decide), up_nk (by decide)]; exact h2, fun _ => by rw [up_nk (by decide), up_nk (by decide), up_eq]; rfl, fun _ => by rw [up_nk (by decide), up_eq]; rfl, by rw [up_nk (by decide), up_nk (by decide), up_nk (by decide)]; exact h5, h6⟩, fun b hb => ⟨by rw [up_ne (fun e => hb (Or.inl e)), up_ne (fun e => hb (Or.inl e)), up_ne (fun e => hb (Or.inl e))], rfl⟩⟩
    · have z0 : ¬ I p 1 = 0 := fun q => c1 (Or.inl (e0.mp q))
      have z1 : ¬ I p 1 = 1 := fun q => c1 (Or.inr (e1.mp q))
      by_cases c2 : rst r = 2
      · by_cases c3 : ram r = 1
        · have e : rLetter r = none := by unfold rLetter; rw [if_pos c, if_neg c1, if_neg (fun z => z.2 c3)]
          rw [e]
          exact ⟨I, L, wp_X6_acceptLetter hp ⟨fun _ => ⟨fun q => absurd q z0, fun _ => ⟨fun _ => ⟨fun q => absurd (e2.mpr c2) q, fun _ => ⟨fun q => absurd ((ea c2).mpr c3) q, fun _ => ⟨rfl, rfl⟩⟩⟩, fun q => absurd q z1⟩⟩, fun z => absurd (e5.mpr c) z⟩, h, fr_rf⟩
        · have e : rLetter r = some (rMk r 3 (rng r) (ram r) 1) := by unfold rLetter; rw [if_pos c, if_neg c1, if_pos ⟨c2, c3⟩]
          rw [e]
          obtain ⟨h1, h2, h3, h4, h5, h6⟩ := h
          exact ⟨mj_up (mj_up I p 4 1) p 1 3, L, wp_X6_acceptLetter hp ⟨fun _ => ⟨fun q => absurd q z0, fun _ => ⟨fun _ => ⟨fun q => absurd (e2.mpr c2) q, fun _ => ⟨fun _ => ⟨rfl, rfl⟩, fun q => absurd ((ea c2).mp q) c3⟩⟩, fun q => absurd q z1⟩⟩, fun z => absurd (e5.mpr c) z⟩, ⟨by rw [up_eq]; rfl, by rw [up_nk (by decide), up_nk (by decide)]; exact h2, fun _ => by rw [up_nk (by decide), up_nk (by decide)]; exact h3 (by omega), fun _ => by rw [up_nk (by decide), up_eq]; rfl, by rw [up_nk (by decide), up_nk (by decide)]; exact h5, h6⟩, fun b hb => ⟨by rw [up_ne (fun e => hb (Or.inl e)), up_ne (fun e => hb (Or.inl e))], rfl⟩⟩
      · have e : rLetter r = none := by unfold rLetter; rw [if_pos c, if_neg c1, if_neg (fun z => c2 z.1)]
        rw [e]
        exact ⟨I, L, wp_X6_acceptLetter hp ⟨fun _ => ⟨fun q => absurd q z0, fun _ => ⟨fun _ => ⟨fun _ => ⟨rfl, rfl⟩, fun q => absurd (e2.mp q) c2⟩, fun q => absurd q z1⟩⟩, fun z => absurd (e5.mpr c) z⟩, h, fr_rf⟩
  · have e : rLetter r = none := by unfold rLetter; rw [if_neg c]
    rw [e]
    exact ⟨I, L, wp_X6_acceptLetter hp ⟨fun z => absurd (e5.mp z) c, fun _ => ⟨rfl, rfl⟩⟩, h, fr_rf⟩
end
