/-! THE READER: figures; the class -/
variable {S : List mjD} {I : Nat → Nat → Int32} {L : Nat → Nat → Int64}
def rDigit (r : rdS) (d : Nat) : Option rdS :=
  if rst r = 4 then (if 2 ≤ d ∧ d < rlm r then some (rMk r 5 (rng r) (ram r) d) else none)
  else if rst r = 0 ∨ rst r = 1 then (if 1 ≤ d then some (rMk r 2 (rng r) d 0) else none)
  else if rst r = 2 ∧ 10 * ram r + d ≤ 999 then some (rMk r 2 (rng r) (10 * ram r + d) (rpl r)) else none
section
variable {p : Nat}
theorem c_digit {r : rdS} {d : Nat} (hd : d < 10) (hp : is_Reader S p) (h : rdR p r I L) (ho : rOK r) : ∃ I1 L1, CTi mr_X6_acceptDigit [.ref p, .int (nI d)] S I L (if (rDigit r d).isSome then 1 else 0) I1 L1 ∧ rdR p ((rDigit r d).getD r) I1 L1 ∧ fr (rX p) I L I1 L1 := by
  obtain ⟨o1, o2, o3, o4⟩ := ho
  have e0 : I p 1 = 0 ↔ rst r = 0 := by rw [h.1]; exact nI_eq (b := 0) (by omega) (by decide)
  have e1 : I p 1 = 1 ↔ rst r = 1 := by rw [h.1]; exact nI_eq (b := 1) (by omega) (by decide)
  have e2 : I p 1 = 2 ↔ rst r = 2 := by rw [h.1]; exact nI_eq (b := 2) (by omega) (by decide)
  have e4 : I p 1 = 4 ↔ rst r = 4 := by rw [h.1]; exact nI_eq (b := 4) (by omega) (by decide)
  have d0 : nI d ≤ (0 : Int32) ↔ d ≤ 0 := nI_leI (b := 0) (by omega) (by decide)
  have d2 : nI d < (2 : Int32) ↔ d < 2 := nI_ltI (b := 2) (by omega) (by decide)
  have dl : I p 5 ≤ nI d ↔ rlm r ≤ d := by rw [h.2.2.2.2.1]; exact nI_leI (by omega) (by omega)
  have ea : rst r = 2 → ((10 : Int32) * (I p 3)) + nI d = nI (10 * ram r + d) := fun hs => by rw [h.2.2.1 (by omega), ← nI_add, ← pk_mul]; rfl
  have e9 : rst r = 2 → ((999 : Int32) < ((10 : Int32) * (I p 3)) + nI d ↔ 999 < 10 * ram r + d) := fun hs => by rw [ea hs]; exact nI_ltI (a := 999) (by decide) (by omega)
  have frp : ∀ (x : Int32) (k : Nat) (J : Nat → Nat → Int32) (b : Nat), ¬ rX p b → mj_up J p k x b = J b := fun x k J b hb => up_ne (fun e => hb (Or.inl e))
  by_cases c4 : rst r = 4
  · have z0 : ¬ I p 1 = 0 := fun q => by have := e0.mp q; omega
    have z1 : ¬ I p 1 = 1 := fun q => by have := e1.mp q; omega
    have z2 : ¬ I p 1 = 2 := fun q => by have := e2.mp q; omega
    by_cases c : 2 ≤ d ∧ d < rlm r
    · have e : rDigit r d = some (rMk r 5 (rng r) (ram r) d) := by unfold rDigit; rw [if_pos c4, if_pos c]
      rw [e]
      obtain ⟨h1, h2, h3, h4, h5, h6⟩ := h
      exact ⟨mj_up (mj_up I p 4 (nI d)) p 1 5, L, wp_X6_acceptDigit hp ⟨fun q => absurd (e4.mpr c4) q, fun _ => ⟨fun q => absurd (d2.mp q) (by omega), fun _ => ⟨fun q => absurd (dl.mp q) (by omega), fun _ => ⟨rfl, rfl⟩⟩⟩⟩, ⟨by rw [up_eq]; rfl, by rw [up_nk (by decide), up_nk (by decide)]; exact h2, fun _ => by rw [up_nk (by decide), up_nk (by decide)]; exact h3 (by omega), fun _ => by rw [up_nk (by decide), up_eq]; rfl, by rw [up_nk (by decide), up_nk (by decide)]; exact h5, h6⟩, fun b hb => ⟨by rw [frp _ _ _ b hb, frp _ _ _ b hb], rfl⟩⟩
    · have e : rDigit r d = none := by unfold rDigit; rw [if_pos c4, if_neg c]
      rw [e]
      exact ⟨I, L, wp_X6_acceptDigit hp ⟨fun q => absurd (e4.mpr c4) q, fun _ => ⟨fun _ => ⟨fun q => absurd q z0, fun _ => ⟨fun _ => ⟨fun _ => ⟨rfl, rfl⟩, fun q => absurd q z2⟩, fun q => absurd q z1⟩⟩, fun q1 => ⟨fun _ => ⟨fun q => absurd q z0, fun _ => ⟨fun _ => ⟨fun _ => ⟨rfl, rfl⟩, fun q => absurd q z2⟩, fun q => absurd q z1⟩⟩, fun q2 => absurd ⟨by have : ¬ d < 2 := fun w => q1 (d2.mpr w); omega, by have : ¬ rlm r ≤ d := fun w => q2 (dl.mpr w); omega⟩ c⟩⟩⟩, h, fr_rf⟩
  · have z4 : ¬ I p 1 = 4 := fun q => c4 (e4.mp q)
    by_cases c01 : rst r = 0 ∨ rst r = 1
    · have z2 : ¬ I p 1 = 2 := fun q => by have := e2.mp q; omega
      by_cases c : 1 ≤ d
      · have e : rDigit r d = some (rMk r 2 (rng r) d 0) := by unfold rDigit; rw [if_neg c4, if_pos c01, if_pos c]
        rw [e]
        have zd : ¬ nI d ≤ (0 : Int32) := fun q => by have := d0.mp q; omega
        obtain ⟨h1, h2, h3, h4, h5, h6⟩ := h
        exact ⟨mj_up (mj_up (mj_up I p 3 (nI d)) p 4 0) p 1 2, L, wp_X6_acceptDigit hp ⟨fun _ => ⟨fun _ => ⟨fun q => absurd q zd, fun _ => ⟨rfl, rfl⟩⟩, fun q => ⟨fun w => absurd (c01.elim (fun v => absurd (e0.mpr v) q) (fun v => e1.mpr v)) w, fun _ => ⟨fun q => absurd q zd, fun _ => ⟨rfl, rfl⟩⟩⟩⟩, fun q => absurd q z4⟩, ⟨by rw [up_eq]; rfl, by rw [up_nk (by decide), up_nk (by decide), up_nk (by decide)]; exact h2, fun _ => by rw [up_nk (by decide), up_nk (by decide), up_eq]; rfl, fun _ => by rw [up_nk (by decide), up_eq]; rfl, by rw [up_nk (by decide), up_nk (by decide), up_nk (by decide)]; exact h5, h6⟩, fun b hb => ⟨by rw [frp _ _ _ b hb, frp _ _ _ b hb, frp _ _ _ b hb], rfl⟩⟩
      · have e : rDigit r d = none := by unfold rDigit; rw [if_neg c4, if_pos c01, if_neg c]
        rw [e]
        have zd : nI d ≤ (0 : Int32) := d0.mpr (by omega)
        exact ⟨I, L, wp_X6_acceptDigit hp ⟨fun _ => ⟨fun _ => ⟨fun _ => ⟨fun _ => ⟨rfl, rfl⟩, fun q => absurd q z2⟩, fun q => absurd zd q⟩, fun q => ⟨fun _ => ⟨fun _ => ⟨rfl, rfl⟩, fun q => absurd q z2⟩, fun _ => ⟨fun _ => ⟨fun _ => ⟨rfl, rfl⟩, fun q => absurd q z2⟩, fun q => absurd zd q⟩⟩⟩, fun q => absurd q z4⟩, h, fr_rf⟩
    · have z0 : ¬ I p 1 = 0 := fun q => c01 (Or.inl (e0.mp q))
      have z1 : ¬ I p 1 = 1 := fun q => c01 (Or.inr (e1.mp q))
      by_cases c2 : rst r = 2
      · by_cases c : 10 * ram r + d ≤ 999
        · have e : rDigit r d = some (rMk r 2 (rng r) (10 * ram r + d) (rpl r)) := by unfold rDigit; rw [if_neg c4, if_neg c01, if_pos ⟨c2, c⟩]
          rw [e]
          obtain ⟨h1, h2, h3, h4, h5, h6⟩ := h
          exact ⟨mj_up I p 3 (((10 : Int32) * (I p 3)) + nI d), L, wp_X6_acceptDigit hp ⟨fun _ => ⟨fun q => absurd q z0, fun _ => ⟨fun _ => ⟨fun q => absurd (e2.mpr c2) q, fun _ => ⟨fun q => absurd ((e9 c2).mp q) (by omega), fun _ => ⟨rfl, rfl⟩⟩⟩, fun q => absurd q z1⟩⟩, fun q => absurd q z4⟩, ⟨by rw [up_nk (by decide), h1, c2]; rfl, by rw [up_nk (by decide)]; exact h2, fun _ => by rw [up_eq, ea c2]; rfl, fun _ => by rw [up_nk (by decide)]; exact h4 (by omega), by rw [up_nk (by decide)]; exact h5, h6⟩, fun b hb => ⟨frp _ _ _ b hb, rfl⟩⟩
        · have e : rDigit r d = none := by unfold rDigit; rw [if_neg c4, if_neg c01, if_neg (fun z => c z.2)]
          rw [e]
          exact ⟨I, L, wp_X6_acceptDigit hp ⟨fun _ => ⟨fun q => absurd q z0, fun _ => ⟨fun _ => ⟨fun q => absurd (e2.mpr c2) q, fun _ => ⟨fun _ => ⟨rfl, rfl⟩, fun q => absurd ((e9 c2).mpr (by omega)) q⟩⟩, fun q => absurd q z1⟩⟩, fun q => absurd q z4⟩, h, fr_rf⟩
      · have e : rDigit r d = none := by unfold rDigit; rw [if_neg c4, if_neg c01, if_neg (fun z => c2 z.1)]
        rw [e]
        exact ⟨I, L, wp_X6_acceptDigit hp ⟨fun _ => ⟨fun q => absurd q z0, fun _ => ⟨fun _ => ⟨fun _ => ⟨rfl, rfl⟩, fun q => absurd (e2.mp q) c2⟩, fun q => absurd q z1⟩⟩, fun q => absurd q z4⟩, h, fr_rf⟩
end
