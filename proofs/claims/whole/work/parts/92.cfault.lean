/-! WHERE THE PAGE IS BROKEN: the class -/
variable {S : List mjD} {I : Nat → Nat → Int32} {L : Nat → Nat → Int64}
/-- the page's codes -/
def fO (A : aS) : Nat → Nat := fun k => (apc A k).toNatClampNeg
def pgR (A : aS) : Nat × rdS := rRun (fO A) 0 (apn A) rIni
theorem fO_eq {A : aS} (hA : aOK A) {k : Nat} (hk : k < apn A) : apc A k = nI (fO A k) ∧ 32 ≤ fO A k ∧ fO A k ≤ 126 := by
  obtain ⟨n, h1, h2, h3⟩ := hA.2.1 k hk
  have e : fO A k = n := by unfold fO; rw [h3, nI_clamp (by omega)]
  rw [e]; exact ⟨h3, h1, h2⟩
section
variable {p : Nat} {A : aS}
theorem c_page (hd : is_Desk S p) (hA : aOK A) (h : IC p A I L) : ∃ I1 L1, CTi mr_X6_read [.ref (p + 5), .ref (p + 1)] S I L (nI (pgR A).1) I1 L1 ∧ rdR (p + 5) (pgR A).2 I1 L1 ∧ fr (scX p) I L I1 L1 := by
  obtain ⟨I1, L1, a1, a2, a3⟩ := c_readAll (S := S) (I := I) (L := L) (p := p + 5) (q := p + 1) (n := apn A) (f := fO A) hd.2.2.2.1 hd.2.1 ⟨by omega, by omega, by omega, by omega⟩ h.1.1 (fun k hk => by
    obtain ⟨e1, e2, e3⟩ := fO_eq hA hk
    exact ⟨by rw [h.1.2 k hk]; exact e1, by omega⟩) hA.1
  exact ⟨I1, L1, a1, a2, fun b hb => a3 b (fun z => hb (by unfold rX at z; unfold scX; omega))⟩
theorem c_fault (hd : is_Desk S p) (hA : aOK A) (h : IC p A I L) : ∃ I1 L1, CTi mr_X8_fault [.ref p] S I L (nI (pgR A).1) I1 L1 ∧ IC p A I1 L1 ∧ fr (dX p) I L I1 L1 := by
  obtain ⟨I1, L1, a1, -, a3⟩ := c_page hd hA h
  exact ⟨I1, L1, wp_X8_fault hd ⟨_, _, _, a1, rfl, rfl⟩, IC_sc h a3, fun b hb => a3 b (fun z => hb (by unfold scX at z; unfold dX; omega))⟩
end
