/-! THE READER: a whole line; the class -/
variable {S : List mjD} {I : Nat → Nat → Int32} {L : Nat → Nat → Int64}
theorem ok_acc {r r' : rdS} {n : Nat} (ho : rOK r) (h : rAcc r n = some r') : rOK r' := by
  obtain ⟨o1, o2, o3, o4⟩ := ho
  have sg : ∀ b, rSign r b = some r' → rOK r' := fun b h => by
    unfold rSign at h
    by_cases c : rst r = 3 ∨ rst r = 5
    · rw [if_pos c] at h
      cases h
      exact ⟨by show 1 ≤ 5; decide, o2, o3, by show rpl r ≤ 6; omega⟩
    · rw [if_neg c] at h
      by_cases c2 : rst r = 0 ∧ b = true
      · rw [if_pos c2] at h
        cases h
        exact ⟨by show 1 ≤ 5; decide, o2, o3, o4⟩
      · rw [if_neg c2] at h; cases h
  unfold rAcc at h
  by_cases c1 : n = 43
  · rw [if_pos c1] at h; exact sg _ h
  · rw [if_neg c1] at h
    by_cases c2 : n = 45
    · rw [if_pos c2] at h; exact sg _ h
    · rw [if_neg c2] at h
      by_cases c3 : n = 120
      · rw [if_pos c3] at h
        unfold rLetter at h
        by_cases d1 : 1 < rlm r
        · rw [if_pos d1] at h
          by_cases d2 : rst r = 0 ∨ rst r = 1
          · rw [if_pos d2] at h
            cases h
            exact ⟨by show 3 ≤ 5; decide, by show 1 ≤ 999; decide, by show 1 < 6; decide, o4⟩
          · rw [if_neg d2] at h
            by_cases d3 : rst r = 2 ∧ ram r ≠ 1
            · rw [if_pos d3] at h
              cases h
              exact ⟨by show 3 ≤ 5; decide, o2, by show 1 < 6; decide, o4⟩
            · rw [if_neg d3] at h; cases h
        · rw [if_neg d1] at h; cases h
      · rw [if_neg c3] at h
        by_cases c4 : n = 94
        · rw [if_pos c4] at h
          unfold rCaret at h
          by_cases d1 : rst r = 3 ∧ 2 < rlm r
          · rw [if_pos d1] at h
            cases h
            exact ⟨by show 4 ≤ 5; decide, o2, o3, o4⟩
          · rw [if_neg d1] at h; cases h
        · rw [if_neg c4] at h
          by_cases c5 : n < 48
          · rw [if_pos c5] at h; cases h
          · rw [if_neg c5] at h
            by_cases c6 : 57 < n
            · rw [if_pos c6] at h; cases h
            · rw [if_neg c6] at h
              unfold rDigit at h
              by_cases d1 : rst r = 4
              · rw [if_pos d1] at h
                by_cases d2 : 2 ≤ n - 48 ∧ n - 48 < rlm r
                · rw [if_pos d2] at h
                  cases h
                  exact ⟨by show 5 ≤ 5; decide, o2, by show n - 48 < 6; omega, o4⟩
                · rw [if_neg d2] at h; cases h
              · rw [if_neg d1] at h
                by_cases d2 : rst r = 0 ∨ rst r = 1
                · rw [if_pos d2] at h
                  by_cases d3 : 1 ≤ n - 48
                  · rw [if_pos d3] at h
                    cases h
                    exact ⟨by show 2 ≤ 5; decide, by show n - 48 ≤ 999; omega, by show 0 < 6; decide, o4⟩
                  · rw [if_neg d3] at h; cases h
                · rw [if_neg d2] at h
                  by_cases d3 : rst r = 2 ∧ 10 * ram r + (n - 48) ≤ 999
                  · rw [if_pos d3] at h
                    cases h
                    exact ⟨by show 2 ≤ 5; decide, d3.2, o3, o4⟩
                  · rw [if_neg d3] at h; cases h
/-- k codes from the place i on: where it stops, and how -/
def rRun (f : Nat → Nat) : Nat → Nat → rdS → Nat × rdS
  | i, 0, r => (i, r)
  | i, k + 1, r => match rAcc r (f i) with
    | none => (i, r)
    | some r' => rRun f (i + 1) k r'
def rIni : rdS := (0, false, 0, 0, 6, fun k => if k = 0 then 0 else 0)
theorem c_read {q n p : Nat} {f : Nat → Nat} (hp : is_Reader S p) (hq : is_Line S q) (hpq : q ≠ p ∧ q ≠ p + 1 + 1 ∧ q + 1 ≠ p ∧ q + 1 ≠ p + 1 + 1) (h1 : I q 1 = nI n) (h2 : ∀ k, k < n → I (q + 1) k = nI (f k) ∧ f k < 128) (hn : n ≤ 40) {r0 : rdS} (hr : rdR p r0 I L) (ho : rOK r0) : ∃ I1 L1, hd_X6_read_26 S (fun v h => v = some (.int (nI (rRun f 0 n r0).1)) ∧ h = (S, I1, L1)) p q 0 I L ∧ rdR p (rRun f 0 n r0).2 I1 L1 ∧ fr (rX p) I L I1 L1 := by
  have key : ∀ k i, i + k = n → ∀ r I' L', rRun f i k r = rRun f 0 n r0 → rdR p r I' L' → rOK r → fr (rX p) I L I' L' → ∃ I1 L1, hd_X6_read_26 S (fun v h => v = some (.int (nI (rRun f 0 n r0).1)) ∧ h = (S, I1, L1)) p q (nI i) I' L' ∧ rdR p (rRun f 0 n r0).2 I1 L1 ∧ fr (rX p) I L I1 L1 := by
    intro k
    induction k with
    | zero =>
      intro i hi r I' L' he h ho hf
      have eq1 : I' q = I q := (hf q (by unfold rX; omega)).1
      refine ⟨I', L', it_X6_read_26 hp hq ?_, by rw [← he]; exact h, hf⟩
      rw [eq1, h1]
      refine ge_t (by omega) (by omega) ⟨?_, rfl⟩
      rw [← he]
      show some (Value.int (nI n)) = some (Value.int (nI i))
      rw [show n = i by omega]
    | succ k ih =>
      intro i hi r I' L' he h ho hf
      have eq1 : I' q = I q := (hf q (by unfold rX; omega)).1
      have eq2 : I' (q + 1) = I (q + 1) := (hf (q + 1) (by unfold rX; omega)).1
      obtain ⟨g1, g2⟩ := h2 i (by omega)
      have hcd := c_codeAt (S := S) (I := I') (L := L') (n := n) (f := fun k => nI (f k)) (k := i) hq (by rw [eq1]; exact h1) (fun k hk => by rw [eq2]; exact (h2 k hk).1) hn (by omega)
      obtain ⟨I2, L2, a1, a2, a3⟩ := c_accept (S := S) g2 hp h ho
      have hf2 : fr (rX p) I L I2 L2 := fr_tr hf a3 (fun b hb => hb.elim id id)
      cases ea : rAcc r (f i) with
      | none =>
        have e : rRun f i (k + 1) r = (i, r) := by rw [rRun, ea]
        rw [ea] at a1 a2
        rw [e] at he
        refine ⟨I2, L2, it_X6_read_26 hp hq ?_, by rw [← he]; exact a2, hf2⟩
        rw [eq1, h1]
        refine ge_f (by omega) (by omega) ⟨_, _, _, hcd, _, _, _, a1, fun z => absurd rfl z, fun _ => ⟨by rw [← he], rfl⟩⟩
      | some r' =>
        have e : rRun f i (k + 1) r = rRun f (i + 1) k r' := by rw [rRun, ea]
        rw [ea] at a1 a2
        obtain ⟨I1, L1, k1, k2, k3⟩ := ih (i + 1) (by omega) r' I2 L2 (e.symm.trans he) a2 (ok_acc ho ea) hf2
        refine ⟨I1, L1, it_X6_read_26 hp hq ?_, k2, k3⟩
        rw [eq1, h1]
        refine ge_f (by omega) (by omega) ⟨_, _, _, hcd, _, _, _, a1, fun _ y hy => by rw [hy, nI_1]; exact k1, fun z => absurd (show (1 : Int32) = 0 from z) (by decide)⟩
  exact key n 0 (by omega) r0 I L rfl hr ho fr_rf
