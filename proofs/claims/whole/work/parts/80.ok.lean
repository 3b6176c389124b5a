/-! THE STATE STAYS SOUND -/
variable {S : List mjD}
section
variable {m : Nat} {A : aS}
theorem isF_ex (hm : is_Model S m) {W : Nat → Int64} (hW : okp W) : isF (rl (pp W)) (fN (rl (pp W))) (fP (rl (pp W))) (fM (rl (pp W))) := by
  obtain ⟨I1, L1, -, -, -, h⟩ := m_layFactors (S := S) (I := fun _ _ => 0) (L := fun _ => W) hm hW (Or.inl rfl)
  exact h.1
theorem ok_add (hm : is_Model S m) (hA : aOK A) (a b c : Int32) : aOK (sp_add A a b c).2 := by
  unfold sp_add
  cases ea : fIdx A a with
  | none => exact hA
  | some i =>
    cases eb : fIdx A b with
    | none => exact hA
    | some j =>
      cases ec : sIdx A c with
      | none => exact hA
      | some k =>
        simp only
        by_cases e : dg (pSum (cp (ac A) i) (cp (ac A) j)) = -1
        · rw [if_pos e]; exact hA
        · rw [if_neg e]; exact ok_settle hA (nz_dg e) (fun h => isF_ex hm h)
theorem ok_times (hm : is_Model S m) (hA : aOK A) (a b c : Int32) : aOK (sp_times A a b c).2 := by
  unfold sp_times
  cases ea : fIdx A a with
  | none => exact hA
  | some i =>
    cases eb : fIdx A b with
    | none => exact hA
    | some j =>
      cases ec : sIdx A c with
      | none => exact hA
      | some k =>
        obtain ⟨-, -, i4, if'⟩ := fIdx_some hA ea
        obtain ⟨-, -, j4, jf'⟩ := fIdx_some hA eb
        have oi := (hA.2.2.2.2.1.1 i i4).2 if'
        have oj := (hA.2.2.2.2.1.1 j j4).2 jf'
        obtain ⟨n, n6, hn, hdn⟩ := dg_pos oi
        obtain ⟨d, d6, hd, hdd⟩ := dg_pos oj
        simp only
        by_cases e : dg (cp (ac A) i) + dg (cp (ac A) j) ≤ 5
        · rw [if_pos e]
          rw [hn, hd, nI_add] at e
          exact ok_settle hA (nz_cv oi.1 oj.1 hdn hdd ((nI_leI (b := 5) (by omega) (by decide)).mp e)) (fun h => isF_ex hm h)
        · rw [if_neg e]; exact hA
theorem ok_slope (hm : is_Model S m) (hA : aOK A) (a b : Int32) : aOK (sp_slope A a b).2 := by
  unfold sp_slope
  cases ea : fIdx A a with
  | none => exact hA
  | some i =>
    cases eb : sIdx A b with
    | none => exact hA
    | some k =>
      obtain ⟨-, -, i4, if'⟩ := fIdx_some hA ea
      have oi := (hA.2.2.2.2.1.1 i i4).2 if'
      obtain ⟨n, n6, hn, hdn⟩ := dg_pos oi
      simp only
      by_cases e : 1 ≤ dg (cp (ac A) i)
      · rw [if_pos e]
        rw [hn] at e
        exact ok_settle hA (nz_der oi.1 hdn ((nI_leI (a := 1) (by decide) (by omega)).mp e)) (fun h => isF_ex hm h)
      · rw [if_neg e]; exact hA
theorem ok_move (hm : is_Model S m) (hA : aOK A) (a b c : Int32) : aOK (sp_move A a b c).2 := by
  unfold sp_move
  cases ea : fIdx A a with
  | none => exact hA
  | some i =>
    cases ec : sIdx A c with
    | none => exact hA
    | some k =>
      obtain ⟨-, -, i4, if'⟩ := fIdx_some hA ea
      have oi := (hA.2.2.2.2.1.1 i i4).2 if'
      obtain ⟨n, n6, hn, hdn⟩ := dg_pos oi
      simp only
      by_cases b1 : b < -9
      · rw [if_pos b1]; exact hA
      · rw [if_neg b1]
        by_cases b2 : b ≤ 9
        · rw [if_pos b2]; exact ok_settle hA (nz_sh hdn) (fun h => isF_ex hm h)
        · rw [if_neg b2]; exact hA
theorem ok_common (hm : is_Model S m) (hA : aOK A) (a b c : Int32) : aOK (sp_common A a b c).2 := by
  unfold sp_common
  cases ea : fIdx A a with
  | none => exact hA
  | some i =>
    cases eb : fIdx A b with
    | none => exact hA
    | some j =>
      cases ec : sIdx A c with
      | none => exact hA
      | some k =>
        obtain ⟨-, -, i4, if'⟩ := fIdx_some hA ea
        obtain ⟨-, -, j4, jf'⟩ := fIdx_some hA eb
        have oi := (hA.2.2.2.2.1.1 i i4).2 if'
        have oj := (hA.2.2.2.2.1.1 j j4).2 jf'
        exact ok_settle hA (nz_com oi oj (isF_ex hm oi)) (fun h => isF_ex hm h)
end
