/-! THE REFERENCE: texts -/
variable {S : List mjD} {I : Nat → Nat → Int32} {L : Nat → Nat → Int64}
section
variable {m : Nat} {A : aS}
/-- the reference's text so far -/
def mtR (m : Nat) (l : List Int32) (I : Nat → Nat → Int32) : Prop := I m 36 = nI l.length ∧ ∀ k, k < l.length → I (m + 22) k = l.getD k 0
def tfr (m : Nat) (I I1 : Nat → Nat → Int32) : Prop := (∀ b, b ≠ m → b ≠ m + 22 → I1 b = I b) ∧ ∀ k, k ≠ 36 → I1 m k = I m k
theorem tfr_rf : tfr m I I := ⟨fun _ _ _ => rfl, fun _ _ => rfl⟩
theorem tfr_tr {I1 I2 : Nat → Nat → Int32} (h : tfr m I I1) (h2 : tfr m I1 I2) : tfr m I I2 := ⟨fun b b0 b1 => (h2.1 b b0 b1).trans (h.1 b b0 b1), fun k hk => (h2.2 k hk).trans (h.2 k hk)⟩
theorem tfr_S {I1 : Nat → Nat → Int32} (h : tfr m I I1) : frS m I L I1 L := ⟨fun b hb => ⟨h.1 b (by omega) (by omega), rfl⟩, fun k hk => h.2 k (by omega)⟩
theorem tfr_IM {I1 : Nat → Nat → Int32} (h : IM m A I L) (hf : tfr m I I1) : IM m A I1 L := IM_sc h (tfr_S hf) (cache_eq h.2.2.2.2.2.2 (hf.2 15 (by decide)) (hf.2 19 (by decide)) (hf.1 _ (by omega) (by omega)) (hf.1 _ (by omega) (by omega)) rfl rfl)
theorem m_addSign {l : List Int32} (hm : is_Model S m) (h : mtR m l I) (hl : l.length < 64) (a : Int32) : ∃ I1, CTv mr_X9_addSign [.ref m, .int a] S I L I1 L ∧ mtR m (l ++ [a]) I1 ∧ tfr m I I1 := by
  obtain ⟨h1, h2⟩ := h
  have n1 : m ≠ m + 22 := by omega
  refine ⟨mj_up (mj_up I (m + 22) l.length a) m 36 (nI (l.length + 1)), wp_X9_addSign hm ?_, ⟨?_, fun k hk => ?_⟩, fun b b0 b1 => by rw [up_ne b0, up_ne b1], fun k hk => by rw [up_nk hk, up_ne n1]⟩
  · rw [h1, nI_clamp (by omega), up_ne n1, h1, nI_1]
    exact ⟨vp_in_nI hl (by decide), rfl, rfl⟩
  · rw [up_eq, List.length_append]; rfl
  · rw [List.length_append, List.length_singleton] at hk
    rw [get_app hk, up_ne (by omega)]
    by_cases c : k = l.length
    · rw [if_pos c, c, up_eq]
    · rw [if_neg c, up_nk c]; exact h2 k (by omega)
theorem m_tail {l : List Int32} {k : Nat} (hm : is_Model S m) (h : mtR m l I) (hl : l.length + 3 ≤ 64) (hk : k < 6) : ∃ I1, mtR m (l ++ tpw k) I1 ∧ tfr m I I1 ∧ ∀ RET : Option Value → mjH → Prop, RET none (S, I1, L) → hd_X9_addTerm_110 S RET m (nI k) I L := by
  have e0 : nI k ≤ (0 : Int32) ↔ k ≤ 0 := nI_leI (b := 0) (by omega) (by decide)
  have e1 : nI k ≤ (1 : Int32) ↔ k ≤ 1 := nI_leI (b := 1) (by omega) (by decide)
  have e48 : nI k + (48 : Int32) = nI (48 + k) := by rw [Int32.add_comm]; exact nI_add 48 k
  unfold tpw
  by_cases c1 : k < 1
  · rw [if_pos c1, if_pos (show k < 2 by omega)]
    exact ⟨I, by simpa using h, tfr_rf, fun RET hr => it_X9_addTerm_110 hm ⟨fun _ => it_X9_addTerm_120 hm ⟨fun _ => hr, fun z => absurd (e1.mpr (by omega)) z⟩, fun z => absurd (e0.mpr (by omega)) z⟩⟩
  · rw [if_neg c1]
    obtain ⟨I1, a1, a2, a3⟩ := m_addSign (S := S) (L := L) hm h (by omega) 120
    by_cases c2 : k < 2
    · rw [if_pos c2]
      exact ⟨I1, by simpa using a2, a3, fun RET hr => it_X9_addTerm_110 hm ⟨fun z => absurd (e0.mp z) (by omega), fun _ => ⟨_, _, a1, it_X9_addTerm_120 hm ⟨fun _ => hr, fun z => absurd (e1.mpr (by omega)) z⟩⟩⟩⟩
    · rw [if_neg c2]
      obtain ⟨I2, b1, b2, b3⟩ := m_addSign (S := S) (L := L) hm a2 (by rw [List.length_append, List.length_singleton]; omega) 94
      obtain ⟨I3, d1, d2, d3⟩ := m_addSign (S := S) (L := L) hm b2 (by rw [List.length_append, List.length_append, List.length_singleton, List.length_singleton]; omega) (nI (48 + k))
      exact ⟨I3, by simpa using d2, tfr_tr (tfr_tr a3 b3) d3, fun RET hr => it_X9_addTerm_110 hm ⟨fun z => absurd (e0.mp z) (by omega), fun _ => ⟨_, _, a1, it_X9_addTerm_120 hm ⟨fun z => absurd (e1.mp z) (by omega), fun _ => ⟨_, _, b1, _, _, by rw [e48]; exact d1, hr⟩⟩⟩⟩⟩
theorem dig_eq : ∀ a, a < 10 → (lN a + (48 : Int64)).toInt32 = nI (48 + a) := by decide
theorem m_ones {l : List Int32} {n k : Nat} (hm : is_Model S m) (h : mtR m l I) (hl : l.length + 4 ≤ 64) (hn : n ≤ 999) (hn1 : 1 ≤ n) (hk : k < 6) : ∃ I1, mtR m (l ++ (tdw n 1 ++ tpw k)) I1 ∧ tfr m I I1 ∧ ∀ RET : Option Value → mjH → Prop, RET none (S, I1, L) → hd_X9_addTerm_95 S RET m (nI k) (lN n) I L := by
  have e : ((lN n - lN n / (10 : Int64) * (10 : Int64)) + (48 : Int64)).toInt32 = nI (48 + n % 10) := by
    rw [show (10 : Int64) = lN 10 from rfl, pk_lRem (by omega) (by decide) (by decide)]
    exact dig_eq _ (Nat.mod_lt _ (by decide))
  have et : tdw n 1 = [nI (48 + n % 10)] := by unfold tdw; rw [if_neg (by omega), Nat.div_one]
  obtain ⟨I1, a1, a2, a3⟩ := m_addSign (S := S) (L := L) hm h (by omega) (nI (48 + n % 10))
  obtain ⟨I2, b1, b2, b3⟩ := m_tail (S := S) (L := L) (k := k) hm a2 (by rw [List.length_append, List.length_singleton]; omega) hk
  rw [et]
  exact ⟨I2, by simpa using b1, tfr_tr a3 b2, fun RET hr => it_X9_addTerm_95 hm ⟨_, _, by rw [e]; exact a1, b3 RET hr⟩⟩
theorem m_tens {l : List Int32} {n k : Nat} (hm : is_Model S m) (h : mtR m l I) (hl : l.length + 5 ≤ 64) (hn : n ≤ 999) (hn1 : 1 ≤ n) (hk : k < 6) : ∃ I1, mtR m (l ++ (tdw n 10 ++ (tdw n 1 ++ tpw k))) I1 ∧ tfr m I I1 ∧ ∀ RET : Option Value → mjH → Prop, RET none (S, I1, L) → hd_X9_addTerm_67 S RET m (nI k) (lN n) I L := by
  have e9 : lN n ≤ (9 : Int64) ↔ n ≤ 9 := pk_lLE (b := 9) (by omega) (by decide)
  by_cases c : n ≤ 9
  · have et : tdw n 10 = [] := by unfold tdw; rw [if_pos (by omega)]
    obtain ⟨I2, b1, b2, b3⟩ := m_ones (S := S) (L := L) (k := k) hm h (by omega) hn hn1 hk
    rw [et]
    exact ⟨I2, by simpa using b1, b2, fun RET hr => it_X9_addTerm_67 hm ⟨fun _ => b3 RET hr, fun z => absurd (e9.mpr c) z⟩⟩
  · have e : (((lN n / (10 : Int64)) - (lN n / (10 : Int64)) / (10 : Int64) * (10 : Int64)) + (48 : Int64)).toInt32 = nI (48 + n / 10 % 10) := by
      rw [show (10 : Int64) = lN 10 from rfl, pk_lDiv (by omega) (by decide) (by decide), pk_lRem (by omega) (by decide) (by decide)]
      exact dig_eq _ (Nat.mod_lt _ (by decide))
    have et : tdw n 10 = [nI (48 + n / 10 % 10)] := by unfold tdw; rw [if_neg (by omega)]
    obtain ⟨I1, a1, a2, a3⟩ := m_addSign (S := S) (L := L) hm h (by omega) (nI (48 + n / 10 % 10))
    obtain ⟨I2, b1, b2, b3⟩ := m_ones (S := S) (L := L) (k := k) hm a2 (by rw [List.length_append, List.length_singleton]; omega) hn hn1 hk
    rw [et]
    exact ⟨I2, by simpa using b1, tfr_tr a3 b2, fun RET hr => it_X9_addTerm_67 hm ⟨fun z => absurd (e9.mp z) c, fun _ => ⟨_, _, by rw [e]; exact a1, b3 RET hr⟩⟩⟩
theorem m_mag {l : List Int32} {c : Int64} {k : Nat} (hm : is_Model S m) (h : mtR m l I) (hl : l.length + 6 ≤ 64) (hc : c.toInt.natAbs ≤ 999) (hc0 : c ≠ 0) (hk : k < 6) : ∃ I1, mtR m (l ++ (tmn c.toInt.natAbs k ++ tpw k)) I1 ∧ tfr m I I1 ∧ ∀ RET : Option Value → mjH → Prop, RET none (S, I1, L) → hd_X9_addTerm_26 S RET m (nI k) c I L := by
  have ha := m_aboveN (S := S) (I := I) (L := L) (a := c) (by omega)
  have hn1 : 1 ≤ c.toInt.natAbs := by have := t_ne0 hc0; omega
  generalize c.toInt.natAbs = n at *
  have e1 : (1 : Int64) < lN n ↔ 1 < n := pk_lLT (a := 1) (by decide) (by omega)
  have e99 : lN n ≤ (99 : Int64) ↔ n ≤ 99 := pk_lLE (b := 99) (by omega) (by decide)
  have e0 : nI k = 0 ↔ k = 0 := nI_eq (b := 0) (by omega) (by decide)
  by_cases c1 : n = 1 ∧ 1 ≤ k
  · have et : tmn n k = [] := by unfold tmn; rw [if_pos c1]
    obtain ⟨I1, a1, a2, a3⟩ := m_tail (S := S) (L := L) (k := k) hm h (by omega) hk
    rw [et]
    exact ⟨I1, by simpa using a1, a2, fun RET hr => it_X9_addTerm_26 hm ⟨_, _, _, ha, fun z => absurd (e1.mp z) (by omega), fun _ => ⟨fun _ => a3 RET hr, fun z => absurd (e0.mp z) (by omega)⟩⟩⟩
  · have et : tmn n k = tdg n := by unfold tmn; rw [if_neg c1]
    rw [et]
    unfold tdg
    have two : ∃ I1, mtR m (l ++ ((tdw n 100 ++ tdw n 10 ++ tdw n 1) ++ tpw k)) I1 ∧ tfr m I I1 ∧ ∀ RET : Option Value → mjH → Prop, RET none (S, I1, L) → ((lN n ≤ (99 : Int64) → hd_X9_addTerm_67 S RET m (nI k) (lN n) I L) ∧ (¬ lN n ≤ (99 : Int64) → ∃ I28 L29, CTv mr_X9_addSign [.ref m, .int (((lN n / (100 : Int64)) + (48 : Int64)).toInt32)] S I L I28 L29 ∧ hd_X9_addTerm_67 S RET m (nI k) (lN n) I28 L29)) := by
      by_cases c : n ≤ 99
      · have ew : tdw n 100 = [] := by unfold tdw; rw [if_pos (by omega)]
        obtain ⟨I2, b1, b2, b3⟩ := m_tens (S := S) (L := L) (k := k) hm h (by omega) hc hn1 hk
        rw [ew]
        exact ⟨I2, by simpa using b1, b2, fun RET hr => ⟨fun _ => b3 RET hr, fun z => absurd (e99.mpr c) z⟩⟩
      · have e : ((lN n / (100 : Int64)) + (48 : Int64)).toInt32 = nI (48 + n / 100 % 10) := by
          rw [show (100 : Int64) = lN 100 from rfl, pk_lDiv (by omega) (by decide) (by decide), Nat.mod_eq_of_lt (by omega)]
          exact dig_eq _ (by omega)
        have ew : tdw n 100 = [nI (48 + n / 100 % 10)] := by unfold tdw; rw [if_neg (by omega)]
        obtain ⟨I1, a1, a2, a3⟩ := m_addSign (S := S) (L := L) hm h (by omega) (nI (48 + n / 100 % 10))
        obtain ⟨I2, b1, b2, b3⟩ := m_tens (S := S) (L := L) (k := k) hm a2 (by rw [List.length_append, List.length_singleton]; omega) hc hn1 hk
        rw [ew]
        exact ⟨I2, by simpa using b1, tfr_tr a3 b2, fun RET hr => ⟨fun z => absurd (e99.mp z) c, fun _ => ⟨_, _, by rw [e]; exact a1, b3 RET hr⟩⟩⟩
    obtain ⟨I1, a1, a2, a3⟩ := two
    refine ⟨I1, a1, a2, fun RET hr => it_X9_addTerm_26 hm ⟨_, _, _, ha, fun _ => a3 RET hr, fun z => ⟨fun z2 => absurd ?_ c1, fun _ => a3 RET hr⟩⟩⟩
    have h1 : ¬ 1 < n := fun w => z (e1.mpr w)
    have h2 : k ≠ 0 := fun w => z2 (e0.mpr w)
    omega
theorem m_addTerm {l : List Int32} {c : Int64} {k : Nat} {fs : Bool} (hm : is_Model S m) (h : mtR m l I) (hl : l.length + 7 ≤ 64) (hc : c.toInt.natAbs ≤ 999) (hc0 : c ≠ 0) (hk : k < 6) : ∃ I1, CTv mr_X9_addTerm [.ref m, .int (nI k), .long c, .int (if fs then 1 else 0)] S I L I1 L ∧ mtR m (l ++ term c k fs) I1 ∧ tfr m I I1 := by
  unfold term
  rw [List.append_assoc, ← List.append_assoc]
  unfold tsg
  by_cases c0 : 0 ≤ c
  · rw [if_pos c0]
    cases fs with
    | true =>
      obtain ⟨I1, a1, a2, a3⟩ := m_mag (S := S) (L := L) hm h (by omega) hc hc0 hk
      exact ⟨I1, wp_X9_addTerm hm ⟨fun _ => ⟨fun _ => a3 _ ⟨rfl, rfl⟩, fun z => absurd z (by decide)⟩, fun z => absurd c0 z⟩, by simpa using a1, a2⟩
    | false =>
      obtain ⟨I0, z1, z2, z3⟩ := m_addSign (S := S) (L := L) hm h (by omega) 43
      obtain ⟨I1, a1, a2, a3⟩ := m_mag (S := S) (L := L) hm z2 (by rw [List.length_append, List.length_singleton]; omega) hc hc0 hk
      exact ⟨I1, wp_X9_addTerm hm ⟨fun _ => ⟨fun z => absurd rfl z, fun _ => ⟨_, _, z1, a3 _ ⟨rfl, rfl⟩⟩⟩, fun z => absurd c0 z⟩, by simpa using a1, tfr_tr z3 a2⟩
  · rw [if_neg c0]
    obtain ⟨I0, z1, z2, z3⟩ := m_addSign (S := S) (L := L) hm h (by omega) 45
    obtain ⟨I1, a1, a2, a3⟩ := m_mag (S := S) (L := L) hm z2 (by rw [List.length_append, List.length_singleton]; omega) hc hc0 hk
    exact ⟨I1, wp_X9_addTerm hm ⟨fun z => absurd z c0, fun _ => ⟨_, _, z1, a3 _ ⟨rfl, rfl⟩⟩⟩, a1, tfr_tr z3 a2⟩
end
