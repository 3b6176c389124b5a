/-! THE PAGE INTO A SLOT: the class -/
variable {S : List mjD} {I : Nat → Nat → Int32} {L : Nat → Nat → Int64}
def rO2 (r : rdS) : Prop := 2 ≤ rst r → 1 ≤ ram r
theorem o2_acc {r r' : rdS} {n : Nat} (ho : rO2 r) (h : rAcc r n = some r') : rO2 r' := by
  have sg : ∀ b, rSign r b = some r' → rO2 r' := fun b h => by
    unfold rSign at h
    by_cases c : rst r = 3 ∨ rst r = 5
    · rw [if_pos c] at h
      cases h
      exact fun z => absurd z (by show ¬ 2 ≤ 1; decide)
    · rw [if_neg c] at h
      by_cases c2 : rst r = 0 ∧ b = true
      · rw [if_pos c2] at h
        cases h
        exact fun z => absurd z (by show ¬ 2 ≤ 1; decide)
      · rw [if_neg c2] at h; cases h
  unfold rAcc at h
  by_cases c1 : n = 43
  · rw [if_pos c1] at h; exact sg _ h
  · rw [if_neg c1] at h
    by_cases c2 : n = 45
    · rw [if_pos c2] at h; exact sg _ h
    · rw [if_neg c2] at h
      by_cases c3 : n = 120
      · rw [if_pos c3] at h
        unfold rLetter at h
        by_cases d1 : 1 < rlm r
        · rw [if_pos d1] at h
          by_cases d2 : rst r = 0 ∨ rst r = 1
          · rw [if_pos d2] at h
            cases h
            exact fun _ => Nat.le_refl 1
          · rw [if_neg d2] at h
            by_cases d3 : rst r = 2 ∧ ram r ≠ 1
            · rw [if_pos d3] at h
              cases h
              exact fun _ => ho (by omega)
            · rw [if_neg d3] at h; cases h
        · rw [if_neg d1] at h; cases h
      · rw [if_neg c3] at h
        by_cases c4 : n = 94
        · rw [if_pos c4] at h
          unfold rCaret at h
          by_cases d1 : rst r = 3 ∧ 2 < rlm r
          · rw [if_pos d1] at h
            cases h
            exact fun _ => ho (by omega)
          · rw [if_neg d1] at h; cases h
        · rw [if_neg c4] at h
          by_cases c5 : n < 48
          · rw [if_pos c5] at h; cases h
          · rw [if_neg c5] at h
            by_cases c6 : 57 < n
            · rw [if_pos c6] at h; cases h
            · rw [if_neg c6] at h
              unfold rDigit at h
              by_cases d1 : rst r = 4
              · rw [if_pos d1] at h
                by_cases d2 : 2 ≤ n - 48 ∧ n - 48 < rlm r
                · rw [if_pos d2] at h
                  cases h
                  exact fun _ => ho (by omega)
                · rw [if_neg d2] at h; cases h
              · rw [if_neg d1] at h
                by_cases d2 : rst r = 0 ∨ rst r = 1
                · rw [if_pos d2] at h
                  by_cases d3 : 1 ≤ n - 48
                  · rw [if_pos d3] at h
                    cases h
                    exact fun _ => d3
                  · rw [if_neg d3] at h; cases h
                · rw [if_neg d2] at h
                  by_cases d3 : rst r = 2 ∧ 10 * ram r + (n - 48) ≤ 999
                  · rw [if_pos d3] at h
                    cases h
                    refine fun _ => ?_
                    have := ho (by omega)
                    show 1 ≤ 10 * ram r + (n - 48)
                    omega
                  · rw [if_neg d3] at h; cases h
theorem run_inv {f : Nat → Nat} : ∀ k i r, rOK r → rO2 r → rOK (rRun f i k r).2 ∧ rO2 (rRun f i k r).2
  | 0, _, _, h1, h2 => ⟨h1, h2⟩
  | k + 1, i, r, h1, h2 => by
    rw [rRun]
    cases e : rAcc r (f i) with
    | none => exact ⟨h1, h2⟩
    | some r' => exact run_inv k (i + 1) r' (ok_acc h1 e) (o2_acc h2 e)
theorem pg_ok (A : aS) : rOK (pgR A).2 ∧ rO2 (pgR A).2 := run_inv _ _ _ ini_ok (fun z => absurd z (by show ¬ 2 ≤ 0; decide))
theorem rEnd_nz {r : rdS} (h1 : rOK r) (h2 : rO2 r) (hd : rDone r = true) : ∃ t, t < 6 ∧ rrw (rEnd r) t ≠ 0 := by
  have hst : 2 ≤ rst r := by
    have := of_decide_eq_true hd
    omega
  have ha := h2 hst
  refine ⟨rpl r, h1.2.2.1, fun e => ?_⟩
  have e2 : rvl r = 0 := by
    have : rrw (rEnd r) (rpl r) = rvl r := by show (if rpl r = rpl r then rvl r else _) = _; rw [if_pos rfl]
    rw [← this]; exact e
  have h9 := h1.2.1
  have ht : (lN (ram r)).toInt = ram r := t_lN (by omega)
  unfold rvl at e2
  cases hg : rng r with
  | true =>
    rw [hg, if_pos rfl] at e2
    have := congrArg Int64.toInt e2
    rw [t_neg (by omega), ht] at this
    have z : (0 : Int64).toInt = 0 := rfl
    omega
  | false =>
    rw [hg, if_neg (by decide)] at e2
    have := congrArg Int64.toInt e2
    rw [ht] at this
    have z : (0 : Int64).toInt = 0 := rfl
    omega
noncomputable def sp_put (A : aS) (a : Int32) : Int32 × aS := match sIdx A a with
  | none => (-101, A)
  | some j => if (pgR A).1 = apn A then (if rDone (pgR A).2 = true then (if (sp_settle A j (rrw (rEnd (pgR A).2))).1 = -104 then sp_settle A j (rrw (rEnd (pgR A).2)) else ((sp_settle A j (rrw (rEnd (pgR A).2))).1, aPage (sp_settle A j (rrw (rEnd (pgR A).2))).2 0 (apc A))) else (-103, A)) else (-103, A)
