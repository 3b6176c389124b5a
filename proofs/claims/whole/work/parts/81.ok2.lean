/-! THE STATE STAYS SOUND: the simple calls -/
section
variable {A : aS}
theorem ok_letter (hA : aOK A) (a : Int32) : aOK (sp_letter A a).2 := by
  unfold sp_letter
  have l1 := lt_i (a := a) (k := 32) (n := 32) rfl
  have l2 := ge_i (a := a) (k := 126) (n := 126) rfl
  by_cases c1 : a < 32
  · rw [if_pos c1]; exact hA
  · rw [if_neg c1]
    by_cases c2 : a ≤ 126
    · rw [if_pos c2]
      by_cases c3 : apn A < 40
      · rw [if_pos c3]
        obtain ⟨h1, h2, h3⟩ := hA
        refine ⟨by show apn A + 1 ≤ 40; omega, fun k hk => ?_, h3⟩
        show ∃ n, 32 ≤ n ∧ n ≤ 126 ∧ (if k = apn A then a else apc A k) = nI n
        by_cases e : k = apn A
        · rw [if_pos e]
          have h0 : ¬ a < 0 := fun q => c1 (by rw [Int32.lt_iff_toInt_lt] at q ⊢; have : (0 : Int32).toInt = 0 := rfl; have : (32 : Int32).toInt = 32 := rfl; omega)
          obtain ⟨n, hn, rfl⟩ := nI_of (x := a) h0
          have q2 := l2.mp c2
          have q1 : ¬ (nI n).toInt < 32 := fun q => c1 (l1.mpr q)
          rw [nI_toInt hn] at q1 q2
          exact ⟨n, by omega, by omega, rfl⟩
        · rw [if_neg e]
          have hk2 : k < apn A + 1 := hk
          exact h2 k (by omega)
      · rw [if_neg c3]; exact hA
    · rw [if_neg c2]; exact hA
theorem ok_blank (hA : aOK A) : aOK (sp_blank A).2 := ⟨Nat.zero_le _, fun k hk => absurd hk (Nat.not_lt_zero _), hA.2.2⟩
theorem ok_forget (hA : aOK A) : aOK (sp_forget A).2 := ok_core hA ⟨hA.2.2.2.2.1.1, Nat.zero_le _, fun i hi => absurd hi (Nat.not_lt_zero _)⟩
theorem ok_be (hA : aOK A) (a b : Int32) : aOK (sp_be A a b).2 := by
  unfold sp_be
  cases hx : sIdx A a with
  | none => exact hA
  | some j =>
    simp only
    by_cases b1 : b < 0
    · rw [if_pos b1]; exact hA
    · rw [if_neg b1]
      by_cases b2 : 5 ≤ b
      · rw [if_pos b2]; exact hA
      · rw [if_neg b2]
        obtain ⟨n, hn, rfl⟩ := vp_in_of (in_of (n := 5) (by decide) b1 b2) (by decide)
        rw [nI_clamp (by omega)]
        refine ok_core hA ⟨fun i hi => ?_, hA.2.2.2.2.1.2⟩
        show (if i = j then n else ck (ac A) i) < 5 ∧ (cf (ac A) i = true → okp (cp (ac A) i))
        have h := hA.2.2.2.2.1.1 i hi
        by_cases e : i = j
        · rw [if_pos e]; exact ⟨hn, h.2⟩
        · rw [if_neg e]; exact h
theorem ok_see (hA : aOK A) (a b c : Int32) : aOK (sp_see A a b c).2 := by
  unfold sp_see
  cases hx : sIdx A a with
  | none => exact hA
  | some j =>
    obtain ⟨-, -, j4⟩ := sIdx_some hA hx
    simp only
    by_cases b1 : b < 0
    · rw [if_pos b1]; exact hA
    · rw [if_neg b1]
      by_cases b2 : b < 4
      · rw [if_pos b2]
        by_cases c6 : cn (ac A) < 6
        · rw [if_pos c6]
          obtain ⟨n, hn, rfl⟩ := nI_of (x := b) b1
          have hn4 : n < 4 := (nI_ltI (b := 4) hn (by decide)).mp b2
          rw [nI_clamp hn]
          refine ok_core hA ⟨hA.2.2.2.2.1.1, by show cn (ac A) + 1 ≤ 6; omega, fun i hi => ?_⟩
          show (if i = cn (ac A) then j else cs (ac A) i) < 4 ∧ (if i = cn (ac A) then n else cw (ac A) i) < 4
          have hi2 : i < cn (ac A) + 1 := hi
          by_cases e : i = cn (ac A)
          · rw [if_pos e, if_pos e]; exact ⟨j4, hn4⟩
          · rw [if_neg e, if_neg e]; exact hA.2.2.2.2.1.2.2 i (by omega)
        · rw [if_neg c6]; exact hA
      · rw [if_neg b2]; exact hA
theorem ok_image (hA : aOK A) : aOK (sp_image A).2 := by
  unfold sp_image
  by_cases c : asc A = 0
  · rw [if_pos c]; exact hA
  · rw [if_neg c]; exact ok_img hA
theorem ok_restore (hA : aOK A) : aOK (sp_restore A).2 := by
  unfold sp_restore
  by_cases c : asd A = 0
  · rw [if_pos c]; exact hA
  · rw [if_neg c]
    by_cases c2 : asd A = adk A
    · rw [if_pos c2]; exact ok_core hA (hA.2.2.2.2.2.1 c)
    · rw [if_neg c2]; exact hA
theorem ok_desk (hA : aOK A) (h30 : adk A + 1 < 2 ^ 30) : aOK (sp_desk A).2 := by
  unfold sp_desk
  by_cases c : 1 ≤ apn A ∧ apn A ≤ 4 ∧ dkB A (apn A) = true
  · rw [if_pos c]; exact ok_dk hA c.1 c.2.1 ((dkB_iff _).mp c.2.2) h30
  · rw [if_neg c]; exact hA
end
