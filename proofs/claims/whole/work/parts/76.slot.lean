/-! WHAT A SLOT TELLS: both -/
variable {S : List mjD} {I : Nat → Nat → Int32} {L : Nat → Nat → Int64}
noncomputable def slw (A : aS) (j : Nat) (b : Int32) : Int32 :=
  if b = 0 then nI (ck (ac A) j) else if b = 1 then (if cf (ac A) j then dg (cp (ac A) j) else -1) else if b = 2 then (if cf (ac A) j then 1000 + (cont (cp (ac A) j)).toInt32 else 0)
  else if b = 3 then (if cf (ac A) j then nI (tx (cp (ac A) j)).length else 0) else if b = 4 then (if cf (ac A) j then nI (fN (gl A j)) else 0) else if b = 5 then (if cf (ac A) j then nI (msum (fM (gl A j)) (fN (gl A j))) else 0)
  else if b = 6 then nI (cnd (ac A) j (cn (ac A))) else if b = 7 then nxq (cnd (ac A) j (cn (ac A))) else -102
noncomputable def sp_slot (A : aS) (a b : Int32) : Int32 := match sIdx A a with
  | none => -101
  | some j => slw A j b
section
variable {p m : Nat} {A : aS}
theorem c_slot (hd : is_Desk S p) (hA : aOK A) (h : IC p A I L) (a b : Int32) : ∃ I1 L1, CTi mr_X8_slot [.ref p, .int a, .int b] S I L (sp_slot A a b) I1 L1 ∧ fr (scX p) I L I1 L1 := by
  have hc := c_anySlot hd hA h a
  unfold sp_slot
  cases hs : sIdx A a with
  | none =>
    rw [hs] at hc
    exact ⟨I, L, wp_X8_slot hd ⟨_, _, _, hc, fun _ => ⟨rfl, rfl⟩, fun a6 h6 => (by cases h6)⟩, fr_rf⟩
  | some j =>
    obtain ⟨rfl, h1, h4⟩ := sIdx_some hA hs
    rw [hs] at hc
    have hsl := c_slotAt hd h4
    have hk := (h.2.2.2.1.1 j h4).1
    have h3 := (h.2.2.2.1.1 j h4).2.1
    have hn : ntR (p + 39) (ac A) I := h.2.2.2.1.2
    have hno : is_Notes S (p + 39) := hd.2.2.2.2.2.2.2.2.2.2.1
    have hcn := hA.2.2.2.2.1.2
    have cd := s_candidates (S := S) (L := L) hno hn hcn.1 hcn.2 h4
    simp only
    have fill : cf (ac A) j = true → ¬ I (p + 46 + 32 * j) 3 = 0 := fun q z => by
      rw [q] at h3
      exact absurd (h3.symm.trans z) (by decide)
    have empty : cf (ac A) j = false → I (p + 46 + 32 * j) 3 = 0 := fun q => by rw [h3, q]; rfl
    have st : ∀ r I1 L1, fr (scX p) I L I1 L1 → (CTi mr_X8_slot [.ref p, .int (nI j), .int b] S I L r I1 L1) → r = slw A j b → ∃ I1 L1, CTi mr_X8_slot [.ref p, .int (nI j), .int b] S I L (slw A j b) I1 L1 ∧ fr (scX p) I L I1 L1 := fun r I1 L1 hf h e => ⟨I1, L1, e ▸ h, hf⟩
    rcases mj_sw_0_7 b with rfl | rfl | rfl | rfl | rfl | rfl | rfl | rfl | hb
    · exact st (nI (ck (ac A) j)) I L fr_rf (wp_X8_slot hd ⟨_, _, _, hc, fun h6 => (by cases h6), fun a6 h6 => (by cases h6; exact ⟨hsl, fun _ => ⟨by rw [hk], rfl⟩, fun q => absurd q (by decide), fun q => absurd q (by decide), fun q => absurd q (by decide), fun q => absurd q (by decide), fun q => absurd q (by decide), fun q => absurd q (by decide), fun q => absurd q (by decide), fun q => absurd q (by decide)⟩)⟩) (by simp [slw, nxq])
    · cases hf : cf (ac A) j with
      | false => exact st (-1) I L fr_rf (wp_X8_slot hd ⟨_, _, _, hc, fun h6 => (by cases h6), fun a6 h6 => (by cases h6; exact ⟨hsl, fun q => absurd q (by decide), fun _ => ⟨fun _ => ⟨rfl, rfl⟩, fun z => absurd (empty hf) z⟩, fun q => absurd q (by decide), fun q => absurd q (by decide), fun q => absurd q (by decide), fun q => absurd q (by decide), fun q => absurd q (by decide), fun q => absurd q (by decide), fun q => absurd q (by decide)⟩)⟩) (by simp [slw, hf])
      | true =>
        obtain ⟨pi, -, -⟩ := c_filled h h4 hf
        have d1 := s_degree (S := S) (I := I) (L := L) hsl.2.1
        rw [dg_ext pi] at d1
        exact st (dg (cp (ac A) j)) I L fr_rf (wp_X8_slot hd ⟨_, _, _, hc, fun h6 => (by cases h6), fun a6 h6 => (by cases h6; exact ⟨hsl, fun q => absurd q (by decide), fun _ => ⟨fun z => absurd z (fill hf), fun _ => ⟨_, _, _, d1, rfl, rfl⟩⟩, fun q => absurd q (by decide), fun q => absurd q (by decide), fun q => absurd q (by decide), fun q => absurd q (by decide), fun q => absurd q (by decide), fun q => absurd q (by decide), fun q => absurd q (by decide)⟩)⟩) (by simp [slw, hf])
    · cases hf : cf (ac A) j with
      | false => exact st 0 I L fr_rf (wp_X8_slot hd ⟨_, _, _, hc, fun h6 => (by cases h6), fun a6 h6 => (by cases h6; exact ⟨hsl, fun q => absurd q (by decide), fun q => absurd q (by decide), fun _ => ⟨fun _ => ⟨rfl, rfl⟩, fun z => absurd (empty hf) z⟩, fun q => absurd q (by decide), fun q => absurd q (by decide), fun q => absurd q (by decide), fun q => absurd q (by decide), fun q => absurd q (by decide), fun q => absurd q (by decide)⟩)⟩) (by simp [slw, hf])
      | true =>
        obtain ⟨pi, -, -⟩ := c_filled h h4 hf
        have oi := (hA.2.2.2.2.1.1 j h4).2 hf
        have d1 := s_content (S := S) (I := I) (L := L) hsl.2.1 (fun k hk => by rw [pi k hk]; exact Nat.le_trans (oi.1 k hk) (by decide))
        rw [cont_ext pi] at d1
        exact st (1000 + (cont (cp (ac A) j)).toInt32) I L fr_rf (wp_X8_slot hd ⟨_, _, _, hc, fun h6 => (by cases h6), fun a6 h6 => (by cases h6; exact ⟨hsl, fun q => absurd q (by decide), fun q => absurd q (by decide), fun _ => ⟨fun z => absurd z (fill hf), fun _ => ⟨_, _, _, d1, rfl, rfl⟩⟩, fun q => absurd q (by decide), fun q => absurd q (by decide), fun q => absurd q (by decide), fun q => absurd q (by decide), fun q => absurd q (by decide), fun q => absurd q (by decide)⟩)⟩) (by simp [slw, hf])
    · obtain ⟨I1, t1, t2⟩ := c_textLength hd hA h h4
      exact st _ I1 L t2 (wp_X8_slot hd ⟨_, _, _, hc, fun h6 => (by cases h6), fun a6 h6 => (by cases h6; exact ⟨hsl, fun q => absurd q (by decide), fun q => absurd q (by decide), fun q => absurd q (by decide), fun _ => ⟨_, _, _, t1, rfl, rfl⟩, fun q => absurd q (by decide), fun q => absurd q (by decide), fun q => absurd q (by decide), fun q => absurd q (by decide), fun q => absurd q (by decide)⟩)⟩) (by simp [slw, nxq])
    · cases hf : cf (ac A) j with
      | false => exact st 0 I L fr_rf (wp_X8_slot hd ⟨_, _, _, hc, fun h6 => (by cases h6), fun a6 h6 => (by cases h6; exact ⟨hsl, fun q => absurd q (by decide), fun q => absurd q (by decide), fun q => absurd q (by decide), fun q => absurd q (by decide), fun _ => ⟨fun _ => ⟨rfl, rfl⟩, fun z => absurd (empty hf) z⟩, fun q => absurd q (by decide), fun q => absurd q (by decide), fun q => absurd q (by decide), fun q => absurd q (by decide)⟩)⟩) (by simp [slw, hf])
      | true =>
        obtain ⟨-, -, hR⟩ := c_filled h h4 hf
        exact st (nI (fN (gl A j))) I L fr_rf (wp_X8_slot hd ⟨_, _, _, hc, fun h6 => (by cases h6), fun a6 h6 => (by cases h6; exact ⟨hsl, fun q => absurd q (by decide), fun q => absurd q (by decide), fun q => absurd q (by decide), fun q => absurd q (by decide), fun _ => ⟨fun z => absurd z (fill hf), fun _ => ⟨by rw [hR.1]; rfl, rfl⟩⟩, fun q => absurd q (by decide), fun q => absurd q (by decide), fun q => absurd q (by decide), fun q => absurd q (by decide)⟩)⟩) (by simp [slw, hf])
    · cases hf : cf (ac A) j with
      | false => exact st 0 I L fr_rf (wp_X8_slot hd ⟨_, _, _, hc, fun h6 => (by cases h6), fun a6 h6 => (by cases h6; exact ⟨hsl, fun q => absurd q (by decide), fun q => absurd q (by decide), fun q => absurd q (by decide), fun q => absurd q (by decide), fun q => absurd q (by decide), fun _ => ⟨fun _ => ⟨rfl, rfl⟩, fun z => absurd (empty hf) z⟩, fun q => absurd q (by decide), fun q => absurd q (by decide), fun q => absurd q (by decide)⟩)⟩) (by simp [slw, hf])
      | true =>
        obtain ⟨-, -, hR⟩ := c_filled h h4 hf
        have d1 := s_multSum (S := S) hsl.2.2 hR
        exact st (nI (msum (fM (gl A j)) (fN (gl A j)))) I L fr_rf (wp_X8_slot hd ⟨_, _, _, hc, fun h6 => (by cases h6), fun a6 h6 => (by cases h6; exact ⟨hsl, fun q => absurd q (by decide), fun q => absurd q (by decide), fun q => absurd q (by decide), fun q => absurd q (by decide), fun q => absurd q (by decide), fun _ => ⟨fun z => absurd z (fill hf), fun _ => ⟨_, _, _, d1, rfl, rfl⟩⟩, fun q => absurd q (by decide), fun q => absurd q (by decide), fun q => absurd q (by decide)⟩)⟩) (by simp [slw, hf])
    · exact st _ I L fr_rf (wp_X8_slot hd ⟨_, _, _, hc, fun h6 => (by cases h6), fun a6 h6 => (by cases h6; exact ⟨hsl, fun q => absurd q (by decide), fun q => absurd q (by decide), fun q => absurd q (by decide), fun q => absurd q (by decide), fun q => absurd q (by decide), fun q => absurd q (by decide), fun _ => ⟨_, _, _, cd, rfl, rfl⟩, fun q => absurd q (by decide), fun q => absurd q (by decide)⟩)⟩) (by simp [slw, nxq])
    · exact st _ I L fr_rf (wp_X8_slot hd ⟨_, _, _, hc, fun h6 => (by cases h6), fun a6 h6 => (by cases h6; exact ⟨hsl, fun q => absurd q (by decide), fun q => absurd q (by decide), fun q => absurd q (by decide), fun q => absurd q (by decide), fun q => absurd q (by decide), fun q => absurd q (by decide), fun q => absurd q (by decide), fun _ => ⟨_, _, _, cd, _, _, _, s_nextQ _, rfl, rfl⟩, fun q => absurd q (by decide)⟩)⟩) (by simp [slw, nxq])
    · have nb : ∀ k : Int32, ¬ (k.toInt < 0 ∨ 7 < k.toInt) → ¬ b = k := fun k hk e => hk (e ▸ hb)
      have b0 := nb 0 (by decide); have b1 := nb 1 (by decide); have b2 := nb 2 (by decide); have b3 := nb 3 (by decide)
      have b4 := nb 4 (by decide); have b5 := nb 5 (by decide); have b6 := nb 6 (by decide); have b7 := nb 7 (by decide)
      exact st (-102) I L fr_rf (wp_X8_slot hd ⟨_, _, _, hc, fun h6 => (by cases h6), fun a6 h6 => (by cases h6; exact ⟨hsl, fun q => absurd q b0, fun q => absurd q b1, fun q => absurd q b2, fun q => absurd q b3, fun q => absurd q b4, fun q => absurd q b5, fun q => absurd q b6, fun q => absurd q b7, fun _ => ⟨rfl, rfl⟩⟩)⟩) (by unfold slw; rw [if_neg b0, if_neg b1, if_neg b2, if_neg b3, if_neg b4, if_neg b5, if_neg b6, if_neg b7])
end
