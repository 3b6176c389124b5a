/-! THE READER: one code; the class -/
variable {S : List mjD} {I : Nat → Nat → Int32} {L : Nat → Nat → Int64}
def rAcc (r : rdS) (n : Nat) : Option rdS :=
  if n = 43 then rSign r false else if n = 45 then rSign r true else if n = 120 then rLetter r else if n = 94 then rCaret r else if n < 48 then none else if 57 < n then none else rDigit r (n - 48)
theorem i01 {b : Bool} : (if b = true then (1 : Int32) else 0) = 0 ∨ (if b = true then (1 : Int32) else 0) = 1 := by cases b <;> simp
section
variable {p : Nat}
theorem c_accept {r : rdS} {n : Nat} (hn : n < 128) (hp : is_Reader S p) (h : rdR p r I L) (ho : rOK r) : ∃ I1 L1, CTi mr_X6_accept [.ref p, .int (nI n)] S I L (if (rAcc r n).isSome then 1 else 0) I1 L1 ∧ rdR p ((rAcc r n).getD r) I1 L1 ∧ fr (rX p) I L I1 L1 := by
  have eq : ∀ k, k < 128 → (nI n = nI k ↔ n = k) := fun k hk => nI_eq (by omega) (by omega)
  have q43 : nI n = 43 ↔ n = 43 := eq 43 (by decide)
  have q45 : nI n = 45 ↔ n = 45 := eq 45 (by decide)
  have q120 : nI n = 120 ↔ n = 120 := eq 120 (by decide)
  have q94 : nI n = 94 ↔ n = 94 := eq 94 (by decide)
  by_cases c1 : n = 43
  · subst c1
    have e : rAcc r 43 = rSign r (decide ((nI 43 : Int32) = 45)) := by unfold rAcc; rw [if_pos rfl]; rfl
    obtain ⟨I1, L1, a1, a2, a3⟩ := c_sign (S := S) (a := nI 43) (Or.inl rfl) hp h ho
    rw [e]
    exact ⟨I1, L1, wp_X6_accept hp ⟨fun _ => ⟨_, _, _, a1, i01, rfl, rfl⟩, fun q => absurd rfl q⟩, a2, a3⟩
  · have z43 : ¬ nI n = 43 := fun q => c1 (q43.mp q)
    by_cases c2 : n = 45
    · subst c2
      have e : rAcc r 45 = rSign r (decide ((nI 45 : Int32) = 45)) := by unfold rAcc; rw [if_neg c1, if_pos rfl]; rfl
      obtain ⟨I1, L1, a1, a2, a3⟩ := c_sign (S := S) (a := nI 45) (Or.inr rfl) hp h ho
      rw [e]
      exact ⟨I1, L1, wp_X6_accept hp ⟨fun q => absurd q z43, fun _ => ⟨fun q => absurd rfl q, fun _ => ⟨_, _, _, a1, i01, rfl, rfl⟩⟩⟩, a2, a3⟩
    · have z45 : ¬ nI n = 45 := fun q => c2 (q45.mp q)
      by_cases c3 : n = 120
      · have e : rAcc r n = rLetter r := by unfold rAcc; rw [if_neg c1, if_neg c2, if_pos c3]
        obtain ⟨I1, L1, a1, a2, a3⟩ := c_xletter (S := S) hp h ho
        rw [e]
        exact ⟨I1, L1, wp_X6_accept hp ⟨fun q => absurd q z43, fun _ => ⟨fun _ => ⟨fun q => absurd (q120.mpr c3) q, fun _ => ⟨_, _, _, a1, i01, rfl, rfl⟩⟩, fun q => absurd q z45⟩⟩, a2, a3⟩
      · have z120 : ¬ nI n = 120 := fun q => c3 (q120.mp q)
        by_cases c4 : n = 94
        · have e : rAcc r n = rCaret r := by unfold rAcc; rw [if_neg c1, if_neg c2, if_neg c3, if_pos c4]
          obtain ⟨I1, L1, a1, a2, a3⟩ := c_caret (S := S) hp h ho
          rw [e]
          exact ⟨I1, L1, wp_X6_accept hp ⟨fun q => absurd q z43, fun _ => ⟨fun _ => ⟨fun _ => ⟨fun q => absurd (q94.mpr c4) q, fun _ => ⟨_, _, _, a1, i01, rfl, rfl⟩⟩, fun q => absurd q z120⟩, fun q => absurd q z45⟩⟩, a2, a3⟩
        · have z94 : ¬ nI n = 94 := fun q => c4 (q94.mp q)
          have l48 : nI n < (48 : Int32) ↔ n < 48 := nI_ltI (b := 48) (by omega) (by decide)
          have l57 : (57 : Int32) < nI n ↔ 57 < n := nI_ltI (a := 57) (by decide) (by omega)
          by_cases c5 : n < 48
          · have e : rAcc r n = none := by unfold rAcc; rw [if_neg c1, if_neg c2, if_neg c3, if_neg c4, if_pos c5]
            rw [e]
            exact ⟨I, L, wp_X6_accept hp ⟨fun q => absurd q z43, fun _ => ⟨fun _ => ⟨fun _ => ⟨fun _ => ⟨fun _ => ⟨rfl, rfl⟩, fun q => absurd (l48.mpr c5) q⟩, fun q => absurd q z94⟩, fun q => absurd q z120⟩, fun q => absurd q z45⟩⟩, h, fr_rf⟩
          · by_cases c6 : 57 < n
            · have e : rAcc r n = none := by unfold rAcc; rw [if_neg c1, if_neg c2, if_neg c3, if_neg c4, if_neg c5, if_pos c6]
              rw [e]
              exact ⟨I, L, wp_X6_accept hp ⟨fun q => absurd q z43, fun _ => ⟨fun _ => ⟨fun _ => ⟨fun _ => ⟨fun q => absurd (l48.mp q) c5, fun _ => ⟨fun _ => ⟨rfl, rfl⟩, fun q => absurd (l57.mpr c6) q⟩⟩, fun q => absurd q z94⟩, fun q => absurd q z120⟩, fun q => absurd q z45⟩⟩, h, fr_rf⟩
            · have e : rAcc r n = rDigit r (n - 48) := by unfold rAcc; rw [if_neg c1, if_neg c2, if_neg c3, if_neg c4, if_neg c5, if_neg c6]
              obtain ⟨I1, L1, a1, a2, a3⟩ := c_digit (S := S) (d := n - 48) (by omega) hp h ho
              have es : nI n - (48 : Int32) = nI (n - 48) := pk_sub (a := n) (b := 48) (by omega)
              rw [e]
              refine ⟨I1, L1, wp_X6_accept hp ⟨fun q => absurd q z43, fun _ => ⟨fun _ => ⟨fun _ => ⟨fun _ => ⟨fun q => absurd (l48.mp q) c5, fun _ => ⟨fun q => absurd (l57.mp q) c6, fun _ => ⟨_, _, _, by rw [es]; exact a1, fun q => ?_, fun q => ?_⟩⟩⟩, fun q => absurd q z94⟩, fun q => absurd q z120⟩, fun q => absurd q z45⟩⟩, a2, a3⟩
              · exact ⟨by rw [q], rfl⟩
              · exact ⟨by rw [(i01 (b := (rDigit r (n - 48)).isSome)).resolve_left q], rfl⟩
end
