/-! COUNTS: the class -/
variable {S : List mjD} {I : Nat → Nat → Int32} {L : Nat → Nat → Int64}
/-- a sum over the filled slots -/
def ssm (g : Nat → Int32) (c : aC) : Nat → Int32
  | 0 => 0
  | k + 1 => if cf c k = true then ssm g c k + g k else ssm g c k
noncomputable def whS (A : aS) (j : Nat) : Int32 := if cont (cp (ac A) j) = 1 ∧ nI (msum (fM (gl A j)) (fN (gl A j))) = 1 then 1 else 0
noncomputable def sp_count (A : aS) (a : Int32) : Int32 :=
  if a = 0 then nI (asc A) else if a = 1 then nI (fcn (ac A) (asc A)) else if a = 2 then ssm (whS A) (ac A) (asc A) else if a = 3 then ssm (fun j => dg (cp (ac A) j)) (ac A) (asc A)
  else if a = 4 then ssm (fun j => nI (tx (cp (ac A) j)).length) (ac A) (asc A) else if a = 5 then nI (cn (ac A)) else if a = 6 then nI (apn A) else if a = 7 then nI (adk A) else -102
section
variable {p m : Nat} {A : aS}
theorem c_degreeSum (hd : is_Desk S p) (hA : aOK A) (h : IC p A I L) : CTi mr_X8_degreeSum [.ref p] S I L (ssm (fun j => dg (cp (ac A) j)) (ac A) (asc A)) I L := by
  have h4 := hA.2.2.1
  have key := up_loop (P := fun i => hd_X8_degreeSum_4 S (fun v h => v = some (.int (ssm (fun j => dg (cp (ac A) j)) (ac A) (asc A))) ∧ h = (S, I, L)) p (ssm (fun j => dg (cp (ac A) j)) (ac A) i) (nI i) I L) (asc A)
    (it_X8_degreeSum_4 hd (by rw [h.2.1]; exact ge_t (Nat.le_refl _) (by omega) ⟨rfl, rfl⟩))
    (fun i hi ih => it_X8_degreeSum_4 hd (by
      rw [h.2.1]
      have hc := c_filledSlot hd hA h (nI i)
      have e : fIdx A (nI i) = if cf (ac A) i then some i else none := by unfold fIdx; rw [sIdx_nI hA hi]
      rw [e] at hc
      rw [ssm] at ih
      refine ge_f hi (by omega) ⟨_, _, _, hc, fun hn y hy z hz => ?_, fun a9 h9 => ?_⟩
      · cases hb : cf (ac A) i with
        | true => rw [hb] at hn; cases hn
        | false =>
          rw [hb, if_neg (by decide)] at ih
          rw [hy, hz, nI_1, Int32.add_zero]; exact ih
      · cases hb : cf (ac A) i with
        | false => rw [hb] at h9; cases h9
        | true =>
          rw [hb] at h9
          rw [hb, if_pos rfl] at ih
          cases h9
          obtain ⟨pi, -, -⟩ := c_filled h (by omega) hb
          have d1 := s_degree (S := S) (I := I) (L := L) (c_slotAt hd (show i < 4 by omega)).2.1
          rw [dg_ext pi] at d1
          refine ⟨c_slotAt hd (by omega), _, _, _, d1, fun y hy z hz => ?_⟩
          rw [hy, hz, nI_1]; exact ih))
  exact wp_X8_degreeSum hd (key 0 (Nat.zero_le _))
theorem c_irr (hd : is_Desk S p) (hA : aOK A) (h : IC p A I L) : CTi mr_X8_irreducibleSlots [.ref p] S I L (ssm (whS A) (ac A) (asc A)) I L := by
  have h4 := hA.2.2.1
  have key := up_loop (P := fun i => hd_X8_irreducibleSlots_4 S (fun v h => v = some (.int (ssm (whS A) (ac A) (asc A))) ∧ h = (S, I, L)) p (ssm (whS A) (ac A) i) (nI i) I L) (asc A)
    (it_X8_irreducibleSlots_4 hd (by rw [h.2.1]; exact ge_t (Nat.le_refl _) (by omega) ⟨rfl, rfl⟩))
    (fun i hi ih => it_X8_irreducibleSlots_4 hd (by
      rw [h.2.1]
      have hc := c_filledSlot hd hA h (nI i)
      have e : fIdx A (nI i) = if cf (ac A) i then some i else none := by unfold fIdx; rw [sIdx_nI hA hi]
      rw [e] at hc
      rw [ssm] at ih
      refine ge_f hi (by omega) ⟨_, _, _, hc, fun hn y hy => ?_, fun a9 h9 => ?_⟩
      · cases hb : cf (ac A) i with
        | true => rw [hb] at hn; cases hn
        | false =>
          rw [hb, if_neg (by decide)] at ih
          rw [hy, nI_1]; exact ih
      · cases hb : cf (ac A) i with
        | false => rw [hb] at h9; cases h9
        | true =>
          rw [hb] at h9
          rw [hb, if_pos rfl] at ih
          cases h9
          obtain ⟨pi, -, hR⟩ := c_filled h (show i < 4 by omega) hb
          have oi := (hA.2.2.2.2.1.1 i (by omega)).2 hb
          have d1 := s_content (S := S) (I := I) (L := L) (c_slotAt hd (show i < 4 by omega)).2.1 (fun k hk => by rw [pi k hk]; exact Nat.le_trans (oi.1 k hk) (by decide))
          rw [cont_ext pi] at d1
          have d2 := s_multSum (S := S) (c_slotAt hd (show i < 4 by omega)).2.2 hR
          unfold whS at ih
          refine ⟨c_slotAt hd (by omega), _, _, _, d1, fun q y hy => ?_, fun q => ⟨_, _, _, d2, fun q2 y hy => ?_, fun q2 y hy z hz => ?_⟩⟩
          · rw [if_neg (fun w => q w.1), Int32.add_zero] at ih
            rw [hy, nI_1]; exact ih
          · rw [if_neg (fun w => q2 w.2), Int32.add_zero] at ih
            rw [hy, nI_1]; exact ih
          · rw [if_pos ⟨q, q2⟩] at ih
            rw [hy, hz, nI_1]; exact ih))
  exact wp_X8_irreducibleSlots hd (key 0 (Nat.zero_le _))
theorem c_textSum (hd : is_Desk S p) (hA : aOK A) (h : IC p A I L) : ∃ I1, CTi mr_X8_textLengthSum [.ref p] S I L (ssm (fun j => nI (tx (cp (ac A) j)).length) (ac A) (asc A)) I1 L ∧ fr (scX p) I L I1 L := by
  have h4 := hA.2.2.1
  have key := up_loop (P := fun i => ∀ I', fr (scX p) I L I' L → ∃ I1, fr (scX p) I L I1 L ∧ hd_X8_textLengthSum_4 S (fun v h => v = some (.int (ssm (fun j => nI (tx (cp (ac A) j)).length) (ac A) (asc A))) ∧ h = (S, I1, L)) p (ssm (fun j => nI (tx (cp (ac A) j)).length) (ac A) i) (nI i) I' L) (asc A)
    (fun I' hf => ⟨I', hf, it_X8_textLengthSum_4 hd (by rw [(IC_sc h hf).2.1]; exact ge_t (Nat.le_refl _) (by omega) ⟨rfl, rfl⟩)⟩)
    (fun i hi ih I' hf => by
      have h' := IC_sc h hf
      have hc := c_filledSlot hd hA h' (nI i)
      have e : fIdx A (nI i) = if cf (ac A) i then some i else none := by unfold fIdx; rw [sIdx_nI hA hi]
      rw [e] at hc
      rw [ssm] at ih
      cases hb : cf (ac A) i with
      | false =>
        rw [hb] at hc
        rw [hb, if_neg (by decide)] at ih
        obtain ⟨I1, k1, k2⟩ := ih I' hf
        refine ⟨I1, k1, it_X8_textLengthSum_4 hd ?_⟩
        rw [h'.2.1]
        refine ge_f hi (by omega) ⟨_, _, _, hc, fun hn y hy z hz => ?_, fun a9 h9 => (by cases h9)⟩
        rw [hy, hz, nI_1, Int32.add_zero]; exact k2
      | true =>
        rw [hb] at hc
        rw [hb, if_pos rfl] at ih
        obtain ⟨I2, t1, t2⟩ := c_textLength hd hA h' (show i < 4 by omega)
        rw [hb, if_pos rfl] at t1
        obtain ⟨I1, k1, k2⟩ := ih I2 (fr_tr hf t2 (fun b hb => hb.elim id id))
        refine ⟨I1, k1, it_X8_textLengthSum_4 hd ?_⟩
        rw [h'.2.1]
        refine ge_f hi (by omega) ⟨_, _, _, hc, fun hn => (by cases hn), fun a9 h9 => ?_⟩
        cases h9
        refine ⟨c_slotAt hd (by omega), _, _, _, t1, fun y hy z hz => ?_⟩
        rw [hy, hz, nI_1]; exact k2)
  obtain ⟨I1, k1, k2⟩ := key 0 (Nat.zero_le _) I fr_rf
  exact ⟨I1, wp_X8_textLengthSum hd k2, k1⟩
theorem c_count (hd : is_Desk S p) (hA : aOK A) (h : IC p A I L) (a : Int32) : ∃ I1 L1, CTi mr_X8_count [.ref p, .int a] S I L (sp_count A a) I1 L1 ∧ fr (scX p) I L I1 L1 := by
  have st : ∀ r I1 L1, fr (scX p) I L I1 L1 → CTi mr_X8_count [.ref p, .int a] S I L r I1 L1 → r = sp_count A a → ∃ I1 L1, CTi mr_X8_count [.ref p, .int a] S I L (sp_count A a) I1 L1 ∧ fr (scX p) I L I1 L1 := fun r I1 L1 hf h e => ⟨I1, L1, e ▸ h, hf⟩
  have n : ∀ {k j : Int32} {P : Prop}, ¬ k = j → k = j → P := fun a b => absurd b a
  obtain ⟨I4, t1, t2⟩ := c_textSum hd hA h
  rcases mj_sw_0_7 a with rfl | rfl | rfl | rfl | rfl | rfl | rfl | rfl | hb
  · exact st (nI (asc A)) I L fr_rf (wp_X8_count hd ⟨fun _ => ⟨by rw [h.2.1], rfl⟩, n (by decide), n (by decide), n (by decide), n (by decide), n (by decide), n (by decide), n (by decide), fun q => absurd q (by decide)⟩) (by simp [sp_count])
  · exact st _ I L fr_rf (wp_X8_count hd ⟨n (by decide), fun _ => ⟨_, _, _, c_filledSlots hd hA h, rfl, rfl⟩, n (by decide), n (by decide), n (by decide), n (by decide), n (by decide), n (by decide), fun q => absurd q (by decide)⟩) (by simp [sp_count])
  · exact st _ I L fr_rf (wp_X8_count hd ⟨n (by decide), n (by decide), fun _ => ⟨_, _, _, c_irr hd hA h, rfl, rfl⟩, n (by decide), n (by decide), n (by decide), n (by decide), n (by decide), fun q => absurd q (by decide)⟩) (by simp [sp_count])
  · exact st _ I L fr_rf (wp_X8_count hd ⟨n (by decide), n (by decide), n (by decide), fun _ => ⟨_, _, _, c_degreeSum hd hA h, rfl, rfl⟩, n (by decide), n (by decide), n (by decide), n (by decide), fun q => absurd q (by decide)⟩) (by simp [sp_count])
  · exact st _ I4 L t2 (wp_X8_count hd ⟨n (by decide), n (by decide), n (by decide), n (by decide), fun _ => ⟨_, _, _, t1, rfl, rfl⟩, n (by decide), n (by decide), n (by decide), fun q => absurd q (by decide)⟩) (by simp [sp_count])
  · exact st (nI (cn (ac A))) I L fr_rf (wp_X8_count hd ⟨n (by decide), n (by decide), n (by decide), n (by decide), n (by decide), fun _ => ⟨by rw [h.2.2.2.1.2.1], rfl⟩, n (by decide), n (by decide), fun q => absurd q (by decide)⟩) (by simp [sp_count])
  · exact st (nI (apn A)) I L fr_rf (wp_X8_count hd ⟨n (by decide), n (by decide), n (by decide), n (by decide), n (by decide), n (by decide), fun _ => ⟨by rw [h.1.1], rfl⟩, n (by decide), fun q => absurd q (by decide)⟩) (by simp [sp_count])
  · exact st (nI (adk A)) I L fr_rf (wp_X8_count hd ⟨n (by decide), n (by decide), n (by decide), n (by decide), n (by decide), n (by decide), n (by decide), fun _ => ⟨by rw [h.2.2.1], rfl⟩, fun q => absurd q (by decide)⟩) (by simp [sp_count])
  · have nb : ∀ k : Int32, ¬ (k.toInt < 0 ∨ 7 < k.toInt) → ¬ a = k := fun k hk e => hk (e ▸ hb)
    have b0 := nb 0 (by decide); have b1 := nb 1 (by decide); have b2 := nb 2 (by decide); have b3 := nb 3 (by decide)
    have b4 := nb 4 (by decide); have b5 := nb 5 (by decide); have b6 := nb 6 (by decide); have b7 := nb 7 (by decide)
    exact st (-102) I L fr_rf (wp_X8_count hd ⟨n b0, n b1, n b2, n b3, n b4, n b5, n b6, n b7, fun _ => ⟨rfl, rfl⟩⟩) (by unfold sp_count; rw [if_neg b0, if_neg b1, if_neg b2, if_neg b3, if_neg b4, if_neg b5, if_neg b6, if_neg b7])
end
