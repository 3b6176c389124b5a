/-! THE REFERENCE: what a slot tells -/
variable {S : List mjD} {I : Nat → Nat → Int32} {L : Nat → Nat → Int64}
section
variable {m : Nat} {A : aS}
theorem m_contentTold {j : Nat} (hm : is_Model S m) (hA : aOK A) (h : IM m A I L) (hj : j < 4) (hf : cf (ac A) j = true) : ∃ I1 L1, CTi mr_X9_contentTold [.ref m, .int (nI j)] S I L (1000 + (cont (cp (ac A) j)).toInt32) I1 L1 ∧ IM m A I1 L1 ∧ fr (moX m) I L I1 L1 := by
  have oj := (hA.2.2.2.2.1.1 j hj).2 hf
  have hL : ∀ t, t < 6 → mwn L (m + 10) 6 (cp (ac A) j) (m + 10) t = cp (ac A) j t := fun t ht => mwn_at ht
  obtain ⟨n, -, -, hn⟩ := dg_pos (okp_ext oj (fun t ht => (hL t ht).symm))
  have c1 := m_layContent (S := S) (I := I) (L := mwn L (m + 10) 6 (cp (ac A) j)) hm hn (fun k hk => by rw [hL k hk]; exact Nat.le_trans (oj.1 k hk) (by decide))
  rw [cont_ext hL] at c1
  have hfS : frS m I L I (mj_up (mwn L (m + 10) 6 (cp (ac A) j)) m 18 (cont (cp (ac A) j))) := ⟨fun b hb => ⟨rfl, by rw [up_ne (by omega), mwn_ne (by omega)]⟩, fun _ _ => rfl⟩
  exact ⟨_, _, wp_X9_contentTold hm ⟨_, _, m_laySlot hm h hj hf, _, _, c1, by rw [up_eq, Int32.add_comm], rfl⟩, IM_sc h hfS (cache_eq h.2.2.2.2.2.2 rfl rfl rfl rfl (by rw [up_ne (by omega), mwn_ne (by omega)]) (by rw [up_ne (by omega), mwn_ne (by omega)])), frS_mo hfS⟩
theorem m_factorsTold {j : Nat} (hm : is_Model S m) (hA : aOK A) (h : IM m A I L) (hj : j < 4) (hf : cf (ac A) j = true) : ∃ I1 L1, (∀ b : Int32, CTi mr_X9_factorsTold [.ref m, .int (nI j), .int b] S I L (if b = 4 then nI (fN (gl A j)) else nI (msum (fM (gl A j)) (fN (gl A j)))) I1 L1) ∧ IM m A I1 L1 ∧ fr (moX m) I L I1 L1 := by
  obtain ⟨I1, L1, a1, a2, a3, a4, a5, a6, -⟩ := m_layAll (S := S) hm hA h hj hf
  refine ⟨I1, L1, fun b => wp_X9_factorsTold hm ⟨_, _, a1, _, _, a2, fun z => ?_, fun z => ?_⟩, IM_sc (IM_w h) (frS_L a4) a5, frS_mo (frS_tr frS_w (frS_L a4))⟩
  · rw [if_neg z]
    exact ⟨_, _, _, m_allFactors hm a6.2, rfl, rfl⟩
  · rw [if_pos z, a6.2.1]
    exact ⟨rfl, rfl⟩
theorem m_slotNow {j : Nat} (hm : is_Model S m) (hA : aOK A) (h : IM m A I L) (hj : sIdx A (nI j) = some j) (j4 : j < 4) {b : Int32} (hb : ¬ (b.toInt < 0 ∨ 7 < b.toInt)) : ∃ I1 L1, CTi mr_X9_slotNow [.ref m, .int (nI j), .int b] S I L (slw A j b) I1 L1 ∧ IM m A I1 L1 ∧ fr (moX m) I L I1 L1 := by
  have ha := m_isFilled (S := S) (I := I) (L := L) hm hA h.2.1 h.2.2.2.1 (nI j)
  have ef : fIdx A (nI j) = if cf (ac A) j then some j else none := by unfold fIdx; rw [hj]
  have hr := h.2.2.2.1.1 j j4
  have hnt := h.2.2.2.1.2
  have hcn := hA.2.2.2.2.1.2
  have so := m_sortsOf (S := S) (L := L) hm hnt.1 hnt.2 hcn.1 hcn.2 j4
  have as := m_askOf (S := S) (L := L) hm hnt.1 hnt.2 hcn.1 hcn.2 j4
  have vj : vp_in (nI j) 4 := vp_in_nI j4 (by decide)
  have ek : (nI j).toNatClampNeg = j := nI_clamp (by omega)
  have st : ∀ r I1 L1, IM m A I1 L1 → fr (moX m) I L I1 L1 → (CTi mr_X9_slotNow [.ref m, .int (nI j), .int b] S I L r I1 L1) → r = slw A j b → ∃ I1 L1, CTi mr_X9_slotNow [.ref m, .int (nI j), .int b] S I L (slw A j b) I1 L1 ∧ IM m A I1 L1 ∧ fr (moX m) I L I1 L1 := fun r I1 L1 hi hf h e => ⟨I1, L1, e ▸ h, hi, hf⟩
  have ml := m_letters (S := S) hm hA h (nI j)
  cases hf : cf (ac A) j with
  | false =>
    rw [ef, hf] at ha ml
    have n0 : ∀ {P : Prop}, ¬ ((if (if false = true then some j else none : Option Nat).isSome = true then (1 : Int32) else 0) = 0) → P := fun z => absurd rfl z
    have r3 := hr.2.1 hf
    rcases mj_sw_0_7 b with rfl | rfl | rfl | rfl | rfl | rfl | rfl | rfl | hb'
    · exact st (nI (ck (ac A) j)) I L h fr_rf (wp_X9_slotNow hm ⟨_, _, _, ha, fun _ => ⟨vj, by rw [ek, hr.1], rfl⟩, fun q => absurd q (by decide), fun q => absurd q (by decide), fun q => absurd q (by decide), fun q => absurd q (by decide), fun q => absurd q (by decide), fun q => absurd q (by decide), fun q => absurd q (by decide), fun q => absurd q (by decide)⟩) (by simp [slw, hf])
    · exact st (-1) I L h fr_rf (wp_X9_slotNow hm ⟨_, _, _, ha, fun q => absurd q (by decide), fun _ => ⟨vj, by rw [ek, r3], rfl⟩, fun q => absurd q (by decide), fun q => absurd q (by decide), fun q => absurd q (by decide), fun q => absurd q (by decide), fun q => absurd q (by decide), fun q => absurd q (by decide), fun q => absurd q (by decide)⟩) (by simp [slw, hf])
    · exact st (0) I L h fr_rf (wp_X9_slotNow hm ⟨_, _, _, ha, fun q => absurd q (by decide), fun q => absurd q (by decide), fun _ => ⟨fun _ => ⟨rfl, rfl⟩, fun z => n0 z⟩, fun q => absurd q (by decide), fun q => absurd q (by decide), fun q => absurd q (by decide), fun q => absurd q (by decide), fun q => absurd q (by decide), fun q => absurd q (by decide)⟩) (by simp [slw, hf])
    · obtain ⟨I1, t1, t2⟩ := ml
      exact st (0) I1 L (tfr_IM h t2) (frS_mo (tfr_S t2)) (wp_X9_slotNow hm ⟨_, _, _, ha, fun q => absurd q (by decide), fun q => absurd q (by decide), fun q => absurd q (by decide), fun _ => ⟨_, _, _, t1, rfl, rfl⟩, fun q => absurd q (by decide), fun q => absurd q (by decide), fun q => absurd q (by decide), fun q => absurd q (by decide), fun q => absurd q (by decide)⟩) (by simp [slw, hf])
    · exact st (0) I L h fr_rf (wp_X9_slotNow hm ⟨_, _, _, ha, fun q => absurd q (by decide), fun q => absurd q (by decide), fun q => absurd q (by decide), fun q => absurd q (by decide), fun _ => ⟨fun _ => ⟨rfl, rfl⟩, fun z => n0 z⟩, fun q => absurd q (by decide), fun q => absurd q (by decide), fun q => absurd q (by decide), fun q => absurd q (by decide)⟩) (by simp [slw, hf])
    · exact st (0) I L h fr_rf (wp_X9_slotNow hm ⟨_, _, _, ha, fun q => absurd q (by decide), fun q => absurd q (by decide), fun q => absurd q (by decide), fun q => absurd q (by decide), fun q => absurd q (by decide), fun _ => ⟨fun _ => ⟨rfl, rfl⟩, fun z => n0 z⟩, fun q => absurd q (by decide), fun q => absurd q (by decide), fun q => absurd q (by decide)⟩) (by simp [slw, hf])
    · exact st (_) I L h fr_rf (wp_X9_slotNow hm ⟨_, _, _, ha, fun q => absurd q (by decide), fun q => absurd q (by decide), fun q => absurd q (by decide), fun q => absurd q (by decide), fun q => absurd q (by decide), fun q => absurd q (by decide), fun _ => ⟨_, _, _, so, rfl, rfl⟩, fun q => absurd q (by decide), fun q => absurd q (by decide)⟩) (by simp [slw])
    · exact st (_) I L h fr_rf (wp_X9_slotNow hm ⟨_, _, _, ha, fun q => absurd q (by decide), fun q => absurd q (by decide), fun q => absurd q (by decide), fun q => absurd q (by decide), fun q => absurd q (by decide), fun q => absurd q (by decide), fun q => absurd q (by decide), fun _ => ⟨_, _, _, as, rfl, rfl⟩, fun q => absurd q (by decide)⟩) (by simp [slw])
    · exact absurd hb' hb
  | true =>
    rw [ef, hf] at ha ml
    have n0 : ∀ {P : Prop}, ((if (if true = true then some j else none : Option Nat).isSome = true then (1 : Int32) else 0) = 0) → P := fun z => absurd (show (1 : Int32) = 0 from z) (by decide)
    have r3 := (hr.2.2 hf).1
    rcases mj_sw_0_7 b with rfl | rfl | rfl | rfl | rfl | rfl | rfl | rfl | hb'
    · exact st (nI (ck (ac A) j)) I L h fr_rf (wp_X9_slotNow hm ⟨_, _, _, ha, fun _ => ⟨vj, by rw [ek, hr.1], rfl⟩, fun q => absurd q (by decide), fun q => absurd q (by decide), fun q => absurd q (by decide), fun q => absurd q (by decide), fun q => absurd q (by decide), fun q => absurd q (by decide), fun q => absurd q (by decide), fun q => absurd q (by decide)⟩) (by simp [slw, hf])
    · exact st (dg (cp (ac A) j)) I L h fr_rf (wp_X9_slotNow hm ⟨_, _, _, ha, fun q => absurd q (by decide), fun _ => ⟨vj, by rw [ek, r3], rfl⟩, fun q => absurd q (by decide), fun q => absurd q (by decide), fun q => absurd q (by decide), fun q => absurd q (by decide), fun q => absurd q (by decide), fun q => absurd q (by decide), fun q => absurd q (by decide)⟩) (by simp [slw, hf])
    · obtain ⟨I1, L1, t1, t2, t3⟩ := m_contentTold (S := S) hm hA h j4 hf
      exact st (_) I1 L1 t2 t3 (wp_X9_slotNow hm ⟨_, _, _, ha, fun q => absurd q (by decide), fun q => absurd q (by decide), fun _ => ⟨fun z => n0 z, fun _ => ⟨_, _, _, t1, rfl, rfl⟩⟩, fun q => absurd q (by decide), fun q => absurd q (by decide), fun q => absurd q (by decide), fun q => absurd q (by decide), fun q => absurd q (by decide), fun q => absurd q (by decide)⟩) (by simp [slw, hf])
    · obtain ⟨I1, t1, t2⟩ := ml
      exact st (nI (tx (cp (ac A) j)).length) I1 L (tfr_IM h t2) (frS_mo (tfr_S t2)) (wp_X9_slotNow hm ⟨_, _, _, ha, fun q => absurd q (by decide), fun q => absurd q (by decide), fun q => absurd q (by decide), fun _ => ⟨_, _, _, t1, rfl, rfl⟩, fun q => absurd q (by decide), fun q => absurd q (by decide), fun q => absurd q (by decide), fun q => absurd q (by decide), fun q => absurd q (by decide)⟩) (by simp [slw, hf])
    · obtain ⟨I1, L1, t1, t2, t3⟩ := m_factorsTold (S := S) hm hA h j4 hf
      exact st (_) I1 L1 t2 t3 (wp_X9_slotNow hm ⟨_, _, _, ha, fun q => absurd q (by decide), fun q => absurd q (by decide), fun q => absurd q (by decide), fun q => absurd q (by decide), fun _ => ⟨fun z => n0 z, fun _ => ⟨_, _, _, t1 4, rfl, rfl⟩⟩, fun q => absurd q (by decide), fun q => absurd q (by decide), fun q => absurd q (by decide), fun q => absurd q (by decide)⟩) (by simp [slw, hf])
    · obtain ⟨I1, L1, t1, t2, t3⟩ := m_factorsTold (S := S) hm hA h j4 hf
      exact st (_) I1 L1 t2 t3 (wp_X9_slotNow hm ⟨_, _, _, ha, fun q => absurd q (by decide), fun q => absurd q (by decide), fun q => absurd q (by decide), fun q => absurd q (by decide), fun q => absurd q (by decide), fun _ => ⟨fun z => n0 z, fun _ => ⟨_, _, _, t1 5, rfl, rfl⟩⟩, fun q => absurd q (by decide), fun q => absurd q (by decide), fun q => absurd q (by decide)⟩) (by simp [slw, hf])
    · exact st (_) I L h fr_rf (wp_X9_slotNow hm ⟨_, _, _, ha, fun q => absurd q (by decide), fun q => absurd q (by decide), fun q => absurd q (by decide), fun q => absurd q (by decide), fun q => absurd q (by decide), fun q => absurd q (by decide), fun _ => ⟨_, _, _, so, rfl, rfl⟩, fun q => absurd q (by decide), fun q => absurd q (by decide)⟩) (by simp [slw])
    · exact st (_) I L h fr_rf (wp_X9_slotNow hm ⟨_, _, _, ha, fun q => absurd q (by decide), fun q => absurd q (by decide), fun q => absurd q (by decide), fun q => absurd q (by decide), fun q => absurd q (by decide), fun q => absurd q (by decide), fun q => absurd q (by decide), fun _ => ⟨_, _, _, as, rfl, rfl⟩, fun q => absurd q (by decide)⟩) (by simp [slw])
    · exact absurd hb' hb
theorem m_slot (hm : is_Model S m) (hA : aOK A) (h : IM m A I L) (a b : Int32) : ∃ I1 L1, CTi mr_X9_slot [.ref m, .int a, .int b] S I L (sp_slot A a b) I1 L1 ∧ IM m A I1 L1 ∧ fr (moX m) I L I1 L1 := by
  have hs := m_isSlot (S := S) (I := I) (L := L) hm hA h.2.1 a
  have hw := m_w (S := S) (I := I) (L := L) b (lo := 0) (hi := 7) 0 7 rfl rfl
  unfold sp_slot
  cases hx : sIdx A a with
  | none =>
    rw [hx] at hs
    exact ⟨I, L, wp_X9_slot hm ⟨_, _, _, hs, fun q => absurd rfl q, fun _ => ⟨rfl, rfl⟩⟩, h, fr_rf⟩
  | some j =>
    have hx' := hx
    obtain ⟨rfl, j1, j4⟩ := sIdx_some hA hx
    rw [hx, one_some] at hs
    simp only
    by_cases hb : b.toInt < 0 ∨ 7 < b.toInt
    · rw [if_pos hb] at hw
      have nb : ∀ k : Int32, ¬ (k.toInt < 0 ∨ 7 < k.toInt) → ¬ b = k := fun k hk e => hk (e ▸ hb)
      have e : slw A j b = -102 := by
        unfold slw
        rw [if_neg (nb 0 (by decide)), if_neg (nb 1 (by decide)), if_neg (nb 2 (by decide)), if_neg (nb 3 (by decide)), if_neg (nb 4 (by decide)), if_neg (nb 5 (by decide)), if_neg (nb 6 (by decide)), if_neg (nb 7 (by decide))]
      rw [e]
      exact ⟨I, L, wp_X9_slot hm ⟨_, _, _, hs, fun _ => ⟨_, _, _, hw, fun _ => ⟨rfl, rfl⟩, fun q => absurd rfl q⟩, fun q => absurd q (by decide)⟩, h, fr_rf⟩
    · rw [if_neg hb] at hw
      obtain ⟨I1, L1, k1, k2, k3⟩ := m_slotNow (S := S) hm hA h hx' j4 hb
      exact ⟨I1, L1, wp_X9_slot hm ⟨_, _, _, hs, fun _ => ⟨_, _, _, hw, fun q => absurd q (by decide), fun _ => ⟨_, _, _, k1, rfl, rfl⟩⟩, fun q => absurd q (by decide)⟩, k2, k3⟩
end
