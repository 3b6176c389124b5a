/-! THE PAGE INTO A SLOT: the class's put -/
variable {S : List mjD} {I : Nat → Nat → Int32} {L : Nat → Nat → Int64}
section
variable {p : Nat} {A : aS}
theorem rrw_ext {r : rdS} {p : Nat} (h : rdR p r I L) (t : Nat) (ht : t < 6) : L (p + 1 + 1) t = rrw r t := h.2.2.2.2.2 t ht
theorem run_le {f : Nat → Nat} : ∀ k i r, (rRun f i k r).1 ≤ i + k
  | 0, _, _ => Nat.le_refl _
  | k + 1, i, r => by
    rw [rRun]
    cases e : rAcc r (f i) with
    | none => show i ≤ _; omega
    | some r' =>
      have := run_le (f := f) k (i + 1) r'
      show (rRun f (i + 1) k r').1 ≤ i + (k + 1)
      omega
theorem c_put (hd : is_Desk S p) (hA : aOK A) (h : IC p A I L) (a : Int32) : ∃ I1 L1, CTi mr_X8_put [.ref p, .int a] S I L (sp_put A a).1 I1 L1 ∧ IC p (sp_put A a).2 I1 L1 ∧ fr (dX p) I L I1 L1 := by
  have hc := c_anySlot hd hA h a
  have h40 := hA.1
  unfold sp_put
  cases hs : sIdx A a with
  | none =>
    rw [hs] at hc
    exact ⟨I, L, wp_X8_put hd ⟨_, _, _, hc, fun _ => ⟨rfl, rfl⟩, fun a6 h6 => (by cases h6)⟩, h, fr_rf⟩
  | some j =>
    obtain ⟨rfl, j1, j4⟩ := sIdx_some hA hs
    rw [hs] at hc
    obtain ⟨I1, L1, r1, r2, r3⟩ := c_page hd hA h
    have h1 := IC_sc h r3
    have hl : (pgR A).1 ≤ apn A := by have := run_le (f := fO A) (apn A) 0 rIni; unfold pgR; omega
    have eqn : nI (pgR A).1 = nI (apn A) ↔ (pgR A).1 = apn A := nI_eq (by omega) (by omega)
    have scd : ∀ {I2 : Nat → Nat → Int32} {L2 : Nat → Nat → Int64}, fr (scX p) I L I2 L2 → fr (dX p) I L I2 L2 := fun hf b hb => hf b (fun z => hb (by unfold scX at z; unfold dX; omega))
    simp only
    by_cases c : (pgR A).1 = apn A
    · rw [if_pos c]
      obtain ⟨pk1, pk2⟩ := pg_ok A
      obtain ⟨I2, L2, t1, t2, t3⟩ := c_isComplete (S := S) (p := p + 5) hd.2.2.2.1 r2 pk1
      have f3 : fr (scX p) I1 L1 I2 L2 := fun b hb => t3 b (fun z => hb (by unfold rX at z; unfold scX; omega))
      have f2 : fr (scX p) I L I2 L2 := fr_tr r3 f3 (fun b hb => hb.elim id id)
      have h2 := IC_sc h1 f3
      cases hdn : rDone (pgR A).2 with
      | false =>
        rw [hdn] at t1
        rw [if_neg (by decide)]
        exact ⟨I2, L2, wp_X8_put hd ⟨_, _, _, hc, fun h6 => (by cases h6), fun a6 h6 => (by cases h6; exact ⟨c_slotAt hd j4, _, _, _, r1, fun q => absurd (by rw [h1.1.1]; exact eqn.mpr c) q, fun _ => ⟨_, _, _, t1, fun q => absurd rfl q, fun _ => ⟨rfl, rfl⟩⟩⟩)⟩, h2, scd f2⟩
      | true =>
        rw [hdn] at t1
        rw [if_pos rfl]
        have rd := t2 hdn
        have hnz := rEnd_nz pk1 pk2 hdn
        generalize hW : rrw (rEnd (pgR A).2) = W at *
        have hrow : ∀ t, t < 6 → L2 (p + 5 + 1 + 1) t = W t := fun t ht => by rw [← hW]; exact rrw_ext rd t ht
        have cp1 := s_copy (S := S) (I := I2) (L := L2) (p := p + 8) (q := p + 5 + 1) hd.2.2.2.2.1 hd.2.2.2.1.2
        obtain ⟨L3, hL3⟩ : ∃ L3, L3 = mwn L2 (p + 8 + 1) 6 (L2 (p + 5 + 1 + 1)) := ⟨_, rfl⟩
        rw [← hL3] at cp1
        have f4 : fr (scX p) I2 L2 I2 L3 := by rw [hL3]; exact fr_L (by unfold scX; omega)
        obtain ⟨I5, L5, s1, s2, s3⟩ := c_settle (S := S) (I := I2) (L := L3) (W := W) hd hA (IC_sc h2 f4) j4 (fun t ht => by rw [hL3, mwn_at ht]; exact hrow t ht) hnz
        have f5 : fr (dX p) I L I5 L5 := fr_tr (scd (fr_tr f2 f4 (fun b hb => hb.elim id id))) s3 (fun b hb => by
          rcases hb with hb | hb
          · exact hb
          · exact coX_d hb)
        by_cases e : (sp_settle A j W).1 = -104
        · rw [if_pos e]
          exact ⟨I5, L5, wp_X8_put hd ⟨_, _, _, hc, fun h6 => (by cases h6), fun a6 h6 => (by cases h6; exact ⟨c_slotAt hd j4, _, _, _, r1, fun q => absurd (by rw [h1.1.1]; exact eqn.mpr c) q, fun _ => ⟨_, _, _, t1, fun _ => ⟨_, _, cp1, _, _, _, s1, fun _ => ⟨rfl, rfl⟩, fun q => absurd e q⟩, fun q => absurd q (by decide)⟩⟩)⟩, s2, f5⟩
        · rw [if_neg e]
          have hfr : fr (fun b => b = p + 1 ∨ b = p + 1 + 1) I5 L5 (mj_up I5 (p + 1) 1 (0 : Int32)) L5 := fr_I (Or.inl rfl)
          exact ⟨_, L5, wp_X8_put hd ⟨_, _, _, hc, fun h6 => (by cases h6), fun a6 h6 => (by cases h6; exact ⟨c_slotAt hd j4, _, _, _, r1, fun q => absurd (by rw [h1.1.1]; exact eqn.mpr c) q, fun _ => ⟨_, _, _, t1, fun _ => ⟨_, _, cp1, _, _, _, s1, fun q => absurd q e, fun _ => ⟨rfl, rfl⟩⟩, fun q => absurd q (by decide)⟩⟩)⟩, IC_pg s2 hfr (by rw [up_eq]; rfl) (fun k hk => by omega), fr_tr f5 hfr (fun b hb => by
            rcases hb with hb | hb
            · exact hb
            · unfold dX; omega)⟩
    · rw [if_neg c]
      exact ⟨I1, L1, wp_X8_put hd ⟨_, _, _, hc, fun h6 => (by cases h6), fun a6 h6 => (by cases h6; exact ⟨c_slotAt hd j4, _, _, _, r1, fun _ => ⟨rfl, rfl⟩, fun q => absurd (eqn.mp (by rw [h1.1.1] at q; exact q)) c⟩)⟩, h1, scd r3⟩
end
