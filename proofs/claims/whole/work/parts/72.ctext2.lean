/-! TEXTS: the class spells -/
variable {S : List mjD} {I : Nat → Nat → Int32} {L : Nat → Nat → Int64}
section
variable {q p : Nat} {A : aS}
theorem s_digit {l : List Int32} {n k w w' : Nat} (hq : is_Line S q) (h : lnR q l I) (hl : l.length + 1 ≤ 40) (hn : n ≤ 999) (hw : (w = 100 ∧ w' = 10) ∨ (w = 10 ∧ w' = 1) ∨ (w = 1 ∧ w' = 0)) : ∃ I1, lnR q (l ++ tdw n w) I1 ∧ fr (lX q) I L I1 L ∧ ∀ RET : Option Value → mjH → Prop, hd_X5_spellTerm_59 S RET q (nI k) (lN n) 0 (nI w') I1 L → hd_X5_spellTerm_59 S RET q (nI k) (lN n) 0 (nI w) I L := by
  have w0 : 1 ≤ w ∧ w ≤ 100 := by omega
  have ew : nI w / (10 : Int32) = nI w' := by rcases hw with ⟨rfl, rfl⟩ | ⟨rfl, rfl⟩ | ⟨rfl, rfl⟩ <;> decide
  have np : ¬ nI w ≤ 0 := fun z => absurd ((nI_leI (b := 0) (by omega) (by decide)).mp z) (by omega)
  have el : (nI w).toInt64 = lN w := nI_l (by omega)
  unfold tdw
  by_cases c : n < w
  · rw [if_pos c]
    refine ⟨I, by simpa using h, fr_rf, fun RET hr => it_X5_spellTerm_59 hq ⟨fun z => absurd z np, fun _ => ⟨fun z => absurd rfl z, fun _ => ⟨fun _ y hy => by rw [hy, ew]; exact hr, fun z => absurd ?_ z⟩⟩⟩⟩
    rw [el]; exact (pk_lLT (by omega) (by omega)).mpr c
  · rw [if_neg c]
    obtain ⟨I1, a1, a2, a3⟩ := s_append (S := S) (L := L) hq h (by omega) (nI (48 + n / w % 10))
    have e : (48 : Int32) + ((lN n / lN w) - (lN n / lN w) / (10 : Int64) * (10 : Int64)).toInt32 = nI (48 + n / w % 10) := by
      have d1 : n / w ≤ n := Nat.div_le_self _ _
      rw [show (10 : Int64) = lN 10 from rfl, pk_lDiv (by omega) (by omega) (by omega), pk_lRem (by omega) (by decide) (by decide)]
      have : ∀ a, a < 10 → (48 : Int32) + (lN a).toInt32 = nI (48 + a) := by decide
      exact this _ (Nat.mod_lt _ (by decide))
    refine ⟨I1, a2, a3, fun RET hr => it_X5_spellTerm_59 hq ⟨fun z => absurd z np, fun _ => ⟨fun z => absurd rfl z, fun _ => ⟨fun z => ?_, fun _ => ?_⟩⟩⟩⟩
    · rw [el] at z
      exact absurd ((pk_lLT (by omega) (by omega)).mp z) c
    · rw [el]
      refine ⟨fun z => absurd ((pk_lEQ (b := 0) (by omega) (by decide)).mp z) (by omega), _, _, _, by rw [e]; exact a1, fun y hy => by rw [hy, ew]; exact hr⟩
theorem s_mag {l : List Int32} {n k : Nat} (hq : is_Line S q) (h : lnR q l I) (hl : l.length + 6 ≤ 40) (hn : n ≤ 999) (hk : k < 6) : ∃ I1, lnR q (l ++ (tmn n k ++ tpw k)) I1 ∧ fr (lX q) I L I1 L ∧ ∀ RET : Option Value → mjH → Prop, RET none (S, I1, L) → ((¬ lN n = (1 : Int64) → hd_X5_spellTerm_59 S RET q (nI k) (lN n) 0 100 I L) ∧ (lN n = (1 : Int64) → ((nI k < (1 : Int32) → hd_X5_spellTerm_59 S RET q (nI k) (lN n) 0 100 I L) ∧ (¬ nI k < (1 : Int32) → hd_X5_spellTerm_59 S RET q (nI k) (lN n) 1 100 I L)))) := by
  have e1 : lN n = (1 : Int64) ↔ n = 1 := pk_lEQ (b := 1) (by omega) (by decide)
  have e2 : nI k < (1 : Int32) ↔ k < 1 := nI_ltI (b := 1) (by omega) (by decide)
  have hp : (tpw k).length ≤ 3 := by
    match k with
    | 0 => rw [tpw_0]; decide
    | 1 => rw [tpw_1]; decide
    | k + 2 => rw [tpw_2]; exact Nat.le_refl _
  by_cases c : n = 1 ∧ 1 ≤ k
  · have e : tmn n k = [] := by unfold tmn; rw [if_pos c]
    rw [e]
    obtain ⟨I1, a1, a2, a3⟩ := s_power (S := S) (L := L) hq h (by omega) hk
    refine ⟨I1, by simpa using a1, a2, fun RET hr => ⟨fun z => absurd (e1.mpr c.1) z, fun _ => ⟨fun z => absurd (e2.mp z) (by omega), fun _ => it_X5_spellTerm_59 hq ⟨fun z => absurd z (by decide), fun _ => ⟨fun _ => a3 RET hr, fun z => absurd z (by decide)⟩⟩⟩⟩⟩
  · have e : tmn n k = tdg n := by unfold tmn; rw [if_neg c]
    rw [e]
    unfold tdg
    obtain ⟨I1, a1, a2, a3⟩ := s_digit (S := S) (L := L) (n := n) (k := k) (w := 100) (w' := 10) hq h (by omega) hn (by decide)
    have l1 := @tdw_l n 100
    obtain ⟨I2, b1, b2, b3⟩ := s_digit (S := S) (L := L) (n := n) (k := k) (w := 10) (w' := 1) hq a1 (by rw [List.length_append]; omega) hn (by decide)
    have l2 := @tdw_l n 10
    obtain ⟨I3, d1, d2, d3⟩ := s_digit (S := S) (L := L) (n := n) (k := k) (w := 1) (w' := 0) hq b1 (by rw [List.length_append, List.length_append]; omega) hn (by decide)
    have l3 := @tdw_l n 1
    obtain ⟨I4, f1, f2, f3⟩ := s_power (S := S) (L := L) (k := k) hq d1 (by rw [List.length_append, List.length_append, List.length_append]; omega) hk
    have main : ∀ RET : Option Value → mjH → Prop, RET none (S, I4, L) → hd_X5_spellTerm_59 S RET q (nI k) (lN n) 0 100 I L := fun RET hr => a3 RET (b3 RET (d3 RET (it_X5_spellTerm_59 hq ⟨fun _ => f3 RET hr, fun z => absurd (by decide) z⟩)))
    exact ⟨I4, by simpa [List.append_assoc] using f1, lX_tr (lX_tr (lX_tr a2 b2) d2) f2, fun RET hr => ⟨fun _ => main RET hr, fun z => ⟨fun _ => main RET hr, fun z2 => absurd ⟨e1.mp z, by have : ¬ k < 1 := fun w => z2 (e2.mpr w); omega⟩ c⟩⟩⟩
theorem s_spellTerm {l : List Int32} {c : Int64} {k : Nat} (hq : is_Line S q) (h : lnR q l I) (hl : l.length + 7 ≤ 40) (hc : c.toInt.natAbs ≤ 999) (hk : k < 6) : ∃ I1, CTv mr_X5_spellTerm [.ref q, .long c, .int (nI k)] S I L I1 L ∧ lnR q (l ++ term c k l.isEmpty) I1 ∧ fr (lX q) I L I1 L := by
  have ha : ∀ J, CTl mr_J9_abs_067f4 [.long c] S J L (lN c.toInt.natAbs) J L := fun J => by
    have := s_abs (S := S) (I := J) (L := L) c
    rwa [t_abs (by omega)] at this
  have ei : I q 1 ≤ 0 ↔ l.isEmpty = true := by
    rw [h.1]
    refine (nI_leI (b := 0) (by omega) (by decide)).trans ?_
    cases l <;> simp
  unfold term
  rw [List.append_assoc, ← List.append_assoc]
  unfold tsg
  by_cases c0 : 0 ≤ c
  · rw [if_pos c0]
    cases he : l.isEmpty with
    | true =>
      obtain ⟨I1, a1, a2, a3⟩ := s_mag (S := S) (L := L) (n := c.toInt.natAbs) hq h (by omega) hc hk
      exact ⟨I1, wp_X5_spellTerm hq ⟨fun _ => ⟨fun _ => ⟨_, _, _, ha _, a3 _ ⟨rfl, rfl⟩⟩, fun z => absurd (ei.mpr he) z⟩, fun z => absurd c0 z⟩, by simpa using a1, a2⟩
    | false =>
      obtain ⟨I0, z1, z2, z3⟩ := s_append (S := S) (L := L) hq h (by omega) 43
      obtain ⟨I1, a1, a2, a3⟩ := s_mag (S := S) (L := L) (n := c.toInt.natAbs) hq z2 (by rw [List.length_append, List.length_singleton]; omega) hc hk
      exact ⟨I1, wp_X5_spellTerm hq ⟨fun _ => ⟨fun z => absurd (ei.mp z) (by rw [he]; decide), fun _ => ⟨_, _, _, z1, _, _, _, ha _, a3 _ ⟨rfl, rfl⟩⟩⟩, fun z => absurd c0 z⟩, by simpa using a1, lX_tr z3 a2⟩
  · rw [if_neg c0]
    obtain ⟨I0, z1, z2, z3⟩ := s_append (S := S) (L := L) hq h (by omega) 45
    obtain ⟨I1, a1, a2, a3⟩ := s_mag (S := S) (L := L) (n := c.toInt.natAbs) hq z2 (by rw [List.length_append, List.length_singleton]; omega) hc hk
    exact ⟨I1, wp_X5_spellTerm hq ⟨fun z => absurd z c0, fun _ => ⟨_, _, _, z1, _, _, _, ha _, a3 _ ⟨rfl, rfl⟩⟩⟩, a1, lX_tr z3 a2⟩
end
