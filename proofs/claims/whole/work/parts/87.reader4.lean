/-! THE READER: signs; the class -/
variable {S : List mjD} {I : Nat → Nat → Int32} {L : Nat → Nat → Int64}
section
variable {p : Nat}
theorem rd_sign {r : rdS} {I1 : Nat → Nat → Int32} {L1 : Nat → Nat → Int64} (h : rdR p r I1 L1) (ng : Bool) {x : Int32} (hx : x = if ng then -1 else 1) : rdR p (rMk r 1 ng (ram r) (rpl r)) (mj_up (mj_up I1 p 2 x) p 1 1) L1 := by
  obtain ⟨h1, h2, h3, h4, h5, h6⟩ := h
  exact ⟨by rw [up_eq]; rfl, by rw [up_nk (by decide), up_eq]; exact hx, fun z => absurd z (by show ¬ 2 ≤ 1; decide), fun z => absurd z (by show ¬ 2 ≤ 1; decide), by rw [up_nk (by decide), up_nk (by decide)]; exact h5, h6⟩
theorem c_sign {r : rdS} {a : Int32} (ha : a = 43 ∨ a = 45) (hp : is_Reader S p) (h : rdR p r I L) (ho : rOK r) : ∃ I1 L1, CTi mr_X6_acceptSign [.ref p, .int a] S I L (if (rSign r (decide (a = 45))).isSome then 1 else 0) I1 L1 ∧ rdR p ((rSign r (decide (a = 45))).getD r) I1 L1 ∧ fr (rX p) I L I1 L1 := by
  obtain ⟨o1, o2, o3, o4⟩ := ho
  have e0 : I p 1 = 0 ↔ rst r = 0 := by rw [h.1]; exact nI_eq (b := 0) (by omega) (by decide)
  have e3 : I p 1 = 3 ↔ rst r = 3 := by rw [h.1]; exact nI_eq (b := 3) (by omega) (by decide)
  have e5 : I p 1 = 5 ↔ rst r = 5 := by rw [h.1]; exact nI_eq (b := 5) (by omega) (by decide)
  have frp : ∀ (J : Nat → Nat → Int32) (x : Int32) (b : Nat), ¬ rX p b → mj_up (mj_up J p 2 x) p 1 1 b = J b := fun J x b hb => by rw [up_ne (fun e => hb (Or.inl e)), up_ne (fun e => hb (Or.inl e))]
  by_cases c : rst r = 3 ∨ rst r = 5
  · have e : ∀ n, rSign r n = some (rMk (rEnd r) 1 n (ram r) (rpl r)) := fun n => by unfold rSign; rw [if_pos c]
    rw [e]
    obtain ⟨I1, L1, t1, t2, t3, t4⟩ := c_endTerm (S := S) hp h o3 o2 (by omega)
    have z0 : ¬ I p 1 = 0 := fun q => by have := e0.mp q; omega
    rcases ha with rfl | rfl
    · refine ⟨mj_up (mj_up I1 p 2 1) p 1 1, L1, wp_X6_acceptSign hp ⟨fun _ => ⟨_, _, t1, fun _ => ⟨rfl, rfl⟩, fun q => absurd q (by decide)⟩, fun q => ⟨fun q2 => absurd c (fun w => w.elim (fun w => q (e3.mpr w)) (fun w => q2 (e5.mpr w))), fun _ => ⟨_, _, t1, fun _ => ⟨rfl, rfl⟩, fun q => absurd q (by decide)⟩⟩⟩, rd_sign t2 _ (by decide), fun b hb => ⟨by rw [frp _ _ b hb]; exact t3 b (fun e => hb (Or.inl e)), t4 b (fun e => hb (Or.inr e))⟩⟩
    · refine ⟨mj_up (mj_up I1 p 2 (-1)) p 1 1, L1, wp_X6_acceptSign hp ⟨fun _ => ⟨_, _, t1, fun q => absurd rfl q, fun _ => ⟨rfl, rfl⟩⟩, fun q => ⟨fun q2 => absurd c (fun w => w.elim (fun w => q (e3.mpr w)) (fun w => q2 (e5.mpr w))), fun _ => ⟨_, _, t1, fun q => absurd rfl q, fun _ => ⟨rfl, rfl⟩⟩⟩⟩, rd_sign t2 _ (by decide), fun b hb => ⟨by rw [frp _ _ b hb]; exact t3 b (fun e => hb (Or.inl e)), t4 b (fun e => hb (Or.inr e))⟩⟩
  · have z3 : ¬ I p 1 = 3 := fun q => c (Or.inl (e3.mp q))
    have z5 : ¬ I p 1 = 5 := fun q => c (Or.inr (e5.mp q))
    by_cases c0 : rst r = 0
    · rcases ha with rfl | rfl
      · have e : rSign r (decide ((43 : Int32) = 45)) = none := by unfold rSign; rw [if_neg c, if_neg (fun z => absurd z.2 (by decide))]
        rw [e]
        exact ⟨I, L, wp_X6_acceptSign hp ⟨fun q => absurd q z3, fun _ => ⟨fun _ => ⟨fun q => absurd (e0.mpr c0) q, fun _ => ⟨fun q => absurd rfl q, fun _ => ⟨rfl, rfl⟩⟩⟩, fun q => absurd q z5⟩⟩, h, fr_rf⟩
      · have e : rSign r (decide ((45 : Int32) = 45)) = some (rMk r 1 true (ram r) (rpl r)) := by unfold rSign; rw [if_neg c, if_pos ⟨c0, by decide⟩]; rfl
        rw [e]
        exact ⟨mj_up (mj_up I p 2 (-1)) p 1 1, L, wp_X6_acceptSign hp ⟨fun q => absurd q z3, fun _ => ⟨fun _ => ⟨fun q => absurd (e0.mpr c0) q, fun _ => ⟨fun _ => ⟨fun q => absurd rfl q, fun _ => ⟨rfl, rfl⟩⟩, fun q => absurd q (by decide)⟩⟩, fun q => absurd q z5⟩⟩, rd_sign h true rfl, fun b hb => ⟨frp _ _ b hb, rfl⟩⟩
    · have e : ∀ n, rSign r n = none := fun n => by unfold rSign; rw [if_neg c, if_neg (fun z => c0 z.1)]
      rw [e]
      exact ⟨I, L, wp_X6_acceptSign hp ⟨fun q => absurd q z3, fun _ => ⟨fun _ => ⟨fun _ => ⟨rfl, rfl⟩, fun q => absurd (e0.mp q) c0⟩, fun q => absurd q z5⟩⟩, h, fr_rf⟩
end
