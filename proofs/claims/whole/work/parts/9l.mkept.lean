/-! THE REFERENCE: what its calls leave of the digest under way -/
variable {S : List mjD} {I : Nat → Nat → Int32} {L : Nat → Nat → Int64}
def frH (m : Nat) (I : Nat → Nat → Int32) (L : Nat → Nat → Int64) (I1 : Nat → Nat → Int32) (L1 : Nat → Nat → Int64) : Prop := fr (moX m) I L I1 L1 ∧ L1 m 57 = L m 57
theorem frH_rf {m : Nat} : frH m I L I L := ⟨fr_rf, rfl⟩
def frSH (m : Nat) (I : Nat → Nat → Int32) (L : Nat → Nat → Int64) (I1 : Nat → Nat → Int32) (L1 : Nat → Nat → Int64) : Prop := frS m I L I1 L1 ∧ L1 m 57 = L m 57
theorem frSH_rf {m : Nat} : frSH m I L I L := ⟨frS_rf, rfl⟩
theorem frSH_tr {m : Nat} {I1 I2 : Nat → Nat → Int32} {L1 L2 : Nat → Nat → Int64} (h : frSH m I L I1 L1) (h2 : frSH m I1 L1 I2 L2) : frSH m I L I2 L2 := ⟨frS_tr h.1 h2.1, h2.2.trans h.2⟩
section
variable {m : Nat} {A : aS}
theorem mh_contentTold {j : Nat} (hm : is_Model S m) (hA : aOK A) (h : IM m A I L) (hj : j < 4) (hf : cf (ac A) j = true) : ∃ I1 L1, CTi mr_X9_contentTold [.ref m, .int (nI j)] S I L (1000 + (cont (cp (ac A) j)).toInt32) I1 L1 ∧ IM m A I1 L1 ∧ frH m I L I1 L1 := by
  have oj := (hA.2.2.2.2.1.1 j hj).2 hf
  have hL : ∀ t, t < 6 → mwn L (m + 10) 6 (cp (ac A) j) (m + 10) t = cp (ac A) j t := fun t ht => mwn_at ht
  obtain ⟨n, -, -, hn⟩ := dg_pos (okp_ext oj (fun t ht => (hL t ht).symm))
  have c1 := m_layContent (S := S) (I := I) (L := mwn L (m + 10) 6 (cp (ac A) j)) hm hn (fun k hk => by rw [hL k hk]; exact Nat.le_trans (oj.1 k hk) (by decide))
  rw [cont_ext hL] at c1
  have hfS : frS m I L I (mj_up (mwn L (m + 10) 6 (cp (ac A) j)) m 18 (cont (cp (ac A) j))) := ⟨fun b hb => ⟨rfl, by rw [up_ne (by omega), mwn_ne (by omega)]⟩, fun _ _ => rfl⟩
  exact ⟨_, _, wp_X9_contentTold hm ⟨_, _, m_laySlot hm h hj hf, _, _, c1, by rw [up_eq, Int32.add_comm], rfl⟩, IM_sc h hfS (cache_eq h.2.2.2.2.2.2 rfl rfl rfl rfl (by rw [up_ne (by omega), mwn_ne (by omega)]) (by rw [up_ne (by omega), mwn_ne (by omega)])), frS_mo hfS, by rw [up_nk (by decide), mwn_ne (by omega)]⟩
theorem mh_factorsTold {j : Nat} (hm : is_Model S m) (hA : aOK A) (h : IM m A I L) (hj : j < 4) (hf : cf (ac A) j = true) : ∃ I1 L1, (∀ b : Int32, CTi mr_X9_factorsTold [.ref m, .int (nI j), .int b] S I L (if b = 4 then nI (fN (gl A j)) else nI (msum (fM (gl A j)) (fN (gl A j)))) I1 L1) ∧ IM m A I1 L1 ∧ frH m I L I1 L1 := by
  obtain ⟨I1, L1, a1, a2, a3, a4, a5, a6, -⟩ := m_layAll (S := S) hm hA h hj hf
  refine ⟨I1, L1, fun b => wp_X9_factorsTold hm ⟨_, _, a1, _, _, a2, fun z => ?_, fun z => ?_⟩, IM_sc (IM_w h) (frS_L a4) a5, ⟨frS_mo (frS_tr frS_w (frS_L a4)), (a4.2.1 57 (by decide)).trans (by rw [mwn_ne (by omega)])⟩⟩
  · rw [if_neg z]
    exact ⟨_, _, _, m_allFactors hm a6.2, rfl, rfl⟩
  · rw [if_pos z, a6.2.1]
    exact ⟨rfl, rfl⟩
theorem mh_slotNow {j : Nat} (hm : is_Model S m) (hA : aOK A) (h : IM m A I L) (hj : sIdx A (nI j) = some j) (j4 : j < 4) {b : Int32} (hb : ¬ (b.toInt < 0 ∨ 7 < b.toInt)) : ∃ I1 L1, CTi mr_X9_slotNow [.ref m, .int (nI j), .int b] S I L (slw A j b) I1 L1 ∧ IM m A I1 L1 ∧ frH m I L I1 L1 := by
  have ha := m_isFilled (S := S) (I := I) (L := L) hm hA h.2.1 h.2.2.2.1 (nI j)
  have ef : fIdx A (nI j) = if cf (ac A) j then some j else none := by unfold fIdx; rw [hj]
  have hr := h.2.2.2.1.1 j j4
  have hnt := h.2.2.2.1.2
  have hcn := hA.2.2.2.2.1.2
  have so := m_sortsOf (S := S) (L := L) hm hnt.1 hnt.2 hcn.1 hcn.2 j4
  have as := m_askOf (S := S) (L := L) hm hnt.1 hnt.2 hcn.1 hcn.2 j4
  have vj : vp_in (nI j) 4 := vp_in_nI j4 (by decide)
  have ek : (nI j).toNatClampNeg = j := nI_clamp (by omega)
  have st : ∀ r I1 L1, IM m A I1 L1 → frH m I L I1 L1 → (CTi mr_X9_slotNow [.ref m, .int (nI j), .int b] S I L r I1 L1) → r = slw A j b → ∃ I1 L1, CTi mr_X9_slotNow [.ref m, .int (nI j), .int b] S I L (slw A j b) I1 L1 ∧ IM m A I1 L1 ∧ frH m I L I1 L1 := fun r I1 L1 hi hf h e => ⟨I1, L1, e ▸ h, hi, hf⟩
  have ml := m_letters (S := S) hm hA h (nI j)
  cases hf : cf (ac A) j with
  | false =>
    rw [ef, hf] at ha ml
    have n0 : ∀ {P : Prop}, ¬ ((if (if false = true then some j else none : Option Nat).isSome = true then (1 : Int32) else 0) = 0) → P := fun z => absurd rfl z
    have r3 := hr.2.1 hf
    rcases mj_sw_0_7 b with rfl | rfl | rfl | rfl | rfl | rfl | rfl | rfl | hb'
    · exact st (nI (ck (ac A) j)) I L h frH_rf (wp_X9_slotNow hm ⟨_, _, _, ha, fun _ => ⟨vj, by rw [ek, hr.1], rfl⟩, fun q => absurd q (by decide), fun q => absurd q (by decide), fun q => absurd q (by decide), fun q => absurd q (by decide), fun q => absurd q (by decide), fun q => absurd q (by decide), fun q => absurd q (by decide), fun q => absurd q (by decide)⟩) (by simp [slw, hf])
    · exact st (-1) I L h frH_rf (wp_X9_slotNow hm ⟨_, _, _, ha, fun q => absurd q (by decide), fun _ => ⟨vj, by rw [ek, r3], rfl⟩, fun q => absurd q (by decide), fun q => absurd q (by decide), fun q => absurd q (by decide), fun q => absurd q (by decide), fun q => absurd q (by decide), fun q => absurd q (by decide), fun q => absurd q (by decide)⟩) (by simp [slw, hf])
    · exact st (0) I L h frH_rf (wp_X9_slotNow hm ⟨_, _, _, ha, fun q => absurd q (by decide), fun q => absurd q (by decide), fun _ => ⟨fun _ => ⟨rfl, rfl⟩, fun z => n0 z⟩, fun q => absurd q (by decide), fun q => absurd q (by decide), fun q => absurd q (by decide), fun q => absurd q (by decide), fun q => absurd q (by decide), fun q => absurd q (by decide)⟩) (by simp [slw, hf])
    · obtain ⟨I1, t1, t2⟩ := ml
      exact st (0) I1 L (tfr_IM h t2) ⟨frS_mo (tfr_S t2), rfl⟩ (wp_X9_slotNow hm ⟨_, _, _, ha, fun q => absurd q (by decide), fun q => absurd q (by decide), fun q => absurd q (by decide), fun _ => ⟨_, _, _, t1, rfl, rfl⟩, fun q => absurd q (by decide), fun q => absurd q (by decide), fun q => absurd q (by decide), fun q => absurd q (by decide), fun q => absurd q (by decide)⟩) (by simp [slw, hf])
    · exact st (0) I L h frH_rf (wp_X9_slotNow hm ⟨_, _, _, ha, fun q => absurd q (by decide), fun q => absurd q (by decide), fun q => absurd q (by decide), fun q => absurd q (by decide), fun _ => ⟨fun _ => ⟨rfl, rfl⟩, fun z => n0 z⟩, fun q => absurd q (by decide), fun q => absurd q (by decide), fun q => absurd q (by decide), fun q => absurd q (by decide)⟩) (by simp [slw, hf])
    · exact st (0) I L h frH_rf (wp_X9_slotNow hm ⟨_, _, _, ha, fun q => absurd q (by decide), fun q => absurd q (by decide), fun q => absurd q (by decide), fun q => absurd q (by decide), fun q => absurd q (by decide), fun _ => ⟨fun _ => ⟨rfl, rfl⟩, fun z => n0 z⟩, fun q => absurd q (by decide), fun q => absurd q (by decide), fun q => absurd q (by decide)⟩) (by simp [slw, hf])
    · exact st (_) I L h frH_rf (wp_X9_slotNow hm ⟨_, _, _, ha, fun q => absurd q (by decide), fun q => absurd q (by decide), fun q => absurd q (by decide), fun q => absurd q (by decide), fun q => absurd q (by decide), fun q => absurd q (by decide), fun _ => ⟨_, _, _, so, rfl, rfl⟩, fun q => absurd q (by decide), fun q => absurd q (by decide)⟩) (by simp [slw])
    · exact st (_) I L h frH_rf (wp_X9_slotNow hm ⟨_, _, _, ha, fun q => absurd q (by decide), fun q => absurd q (by decide), fun q => absurd q (by decide), fun q => absurd q (by decide), fun q => absurd q (by decide), fun q => absurd q (by decide), fun q => absurd q (by decide), fun _ => ⟨_, _, _, as, rfl, rfl⟩, fun q => absurd q (by decide)⟩) (by simp [slw])
    · exact absurd hb' hb
  | true =>
    rw [ef, hf] at ha ml
    have n0 : ∀ {P : Prop}, ((if (if true = true then some j else none : Option Nat).isSome = true then (1 : Int32) else 0) = 0) → P := fun z => absurd (show (1 : Int32) = 0 from z) (by decide)
    have r3 := (hr.2.2 hf).1
    rcases mj_sw_0_7 b with rfl | rfl | rfl | rfl | rfl | rfl | rfl | rfl | hb'
    · exact st (nI (ck (ac A) j)) I L h frH_rf (wp_X9_slotNow hm ⟨_, _, _, ha, fun _ => ⟨vj, by rw [ek, hr.1], rfl⟩, fun q => absurd q (by decide), fun q => absurd q (by decide), fun q => absurd q (by decide), fun q => absurd q (by decide), fun q => absurd q (by decide), fun q => absurd q (by decide), fun q => absurd q (by decide), fun q => absurd q (by decide)⟩) (by simp [slw, hf])
    · exact st (dg (cp (ac A) j)) I L h frH_rf (wp_X9_slotNow hm ⟨_, _, _, ha, fun q => absurd q (by decide), fun _ => ⟨vj, by rw [ek, r3], rfl⟩, fun q => absurd q (by decide), fun q => absurd q (by decide), fun q => absurd q (by decide), fun q => absurd q (by decide), fun q => absurd q (by decide), fun q => absurd q (by decide), fun q => absurd q (by decide)⟩) (by simp [slw, hf])
    · obtain ⟨I1, L1, t1, t2, t3⟩ := mh_contentTold (S := S) hm hA h j4 hf
      exact st (_) I1 L1 t2 t3 (wp_X9_slotNow hm ⟨_, _, _, ha, fun q => absurd q (by decide), fun q => absurd q (by decide), fun _ => ⟨fun z => n0 z, fun _ => ⟨_, _, _, t1, rfl, rfl⟩⟩, fun q => absurd q (by decide), fun q => absurd q (by decide), fun q => absurd q (by decide), fun q => absurd q (by decide), fun q => absurd q (by decide), fun q => absurd q (by decide)⟩) (by simp [slw, hf])
    · obtain ⟨I1, t1, t2⟩ := ml
      exact st (nI (tx (cp (ac A) j)).length) I1 L (tfr_IM h t2) ⟨frS_mo (tfr_S t2), rfl⟩ (wp_X9_slotNow hm ⟨_, _, _, ha, fun q => absurd q (by decide), fun q => absurd q (by decide), fun q => absurd q (by decide), fun _ => ⟨_, _, _, t1, rfl, rfl⟩, fun q => absurd q (by decide), fun q => absurd q (by decide), fun q => absurd q (by decide), fun q => absurd q (by decide), fun q => absurd q (by decide)⟩) (by simp [slw, hf])
    · obtain ⟨I1, L1, t1, t2, t3⟩ := mh_factorsTold (S := S) hm hA h j4 hf
      exact st (_) I1 L1 t2 t3 (wp_X9_slotNow hm ⟨_, _, _, ha, fun q => absurd q (by decide), fun q => absurd q (by decide), fun q => absurd q (by decide), fun q => absurd q (by decide), fun _ => ⟨fun z => n0 z, fun _ => ⟨_, _, _, t1 4, rfl, rfl⟩⟩, fun q => absurd q (by decide), fun q => absurd q (by decide), fun q => absurd q (by decide), fun q => absurd q (by decide)⟩) (by simp [slw, hf])
    · obtain ⟨I1, L1, t1, t2, t3⟩ := mh_factorsTold (S := S) hm hA h j4 hf
      exact st (_) I1 L1 t2 t3 (wp_X9_slotNow hm ⟨_, _, _, ha, fun q => absurd q (by decide), fun q => absurd q (by decide), fun q => absurd q (by decide), fun q => absurd q (by decide), fun q => absurd q (by decide), fun _ => ⟨fun z => n0 z, fun _ => ⟨_, _, _, t1 5, rfl, rfl⟩⟩, fun q => absurd q (by decide), fun q => absurd q (by decide), fun q => absurd q (by decide)⟩) (by simp [slw, hf])
    · exact st (_) I L h frH_rf (wp_X9_slotNow hm ⟨_, _, _, ha, fun q => absurd q (by decide), fun q => absurd q (by decide), fun q => absurd q (by decide), fun q => absurd q (by decide), fun q => absurd q (by decide), fun q => absurd q (by decide), fun _ => ⟨_, _, _, so, rfl, rfl⟩, fun q => absurd q (by decide), fun q => absurd q (by decide)⟩) (by simp [slw])
    · exact st (_) I L h frH_rf (wp_X9_slotNow hm ⟨_, _, _, ha, fun q => absurd q (by decide), fun q => absurd q (by decide), fun q => absurd q (by decide), fun q => absurd q (by decide), fun q => absurd q (by decide), fun q => absurd q (by decide), fun q => absurd q (by decide), fun _ => ⟨_, _, _, as, rfl, rfl⟩, fun q => absurd q (by decide)⟩) (by simp [slw])
    · exact absurd hb' hb
theorem mh_whole {j : Nat} (hm : is_Model S m) (hA : aOK A) (h : IM m A I L) (hj : j < 4) (hf : cf (ac A) j = true) : ∃ I1 L1, CTi mr_X9_isWholeSlot [.ref m, .int (nI j)] S I L (whS A j) I1 L1 ∧ IM m A I1 L1 ∧ frS m I L I1 L1 ∧ L1 m 57 = L m 57 := by
  obtain ⟨I1, L1, a1, a2, a3, a4, a5, a6, -⟩ := m_layAll (S := S) hm hA h hj hf
  obtain ⟨L2, hL2⟩ : ∃ L2, L2 = mj_up L1 m 18 (cont (cp (ac A) j)) := ⟨_, rfl⟩
  have e18 : L2 m 18 = cont (cp (ac A) j) := by rw [hL2, up_eq]
  have r2 : ∀ b, b ≠ m → L2 b = L1 b := fun b hb => by rw [hL2, up_ne hb]
  have d1 := m_allFactors (S := S) hm (mRep_of (I1 := I1) (L1 := L2) a6.2 rfl (r2 _ (by omega)) rfl rfl)
  have f2 : frS m I1 L1 I1 L2 := ⟨fun b hb => ⟨rfl, r2 b (by omega)⟩, fun _ _ => rfl⟩
  have h1 : IM m A I1 L1 := IM_sc (IM_w h) (frS_L a4) a5
  rw [← hL2] at a3
  refine ⟨I1, L2, wp_X9_isWholeSlot hm ⟨_, _, a1, _, _, a2, _, _, a3, ?_⟩, IM_sc h1 f2 (cache_eq a5 rfl rfl rfl rfl (r2 _ (by omega)) (r2 _ (by omega))), frS_tr (frS_tr frS_w (frS_L a4)) f2, by rw [hL2, up_nk (by decide)]; exact (a4.2.1 57 (by decide)).trans (by rw [mwn_ne (by omega)])⟩
  rw [e18]
  unfold whS
  refine ⟨fun q => ⟨by rw [if_neg (fun w => q w.1)], rfl⟩, fun q => ⟨_, _, _, d1, fun q2 => ⟨by rw [if_neg (fun w => q2 w.2)], rfl⟩, fun q2 => ⟨by rw [if_pos ⟨q, q2⟩], rfl⟩⟩⟩
theorem mh_ofSlots (hm : is_Model S m) (hA : aOK A) (h : IM m A I L) (w : Int32) : ∃ I1 L1, CTi mr_X9_ofSlots [.ref m, .int w] S I L (ssm (gS A w) (ac A) (asc A)) I1 L1 ∧ IM m A I1 L1 ∧ frH m I L I1 L1 := by
  have h4 := hA.2.2.1
  have key := up_loop (P := fun i => ∀ I' L', frSH m I L I' L' → IM m A I' L' → ∃ I1 L1, frSH m I L I1 L1 ∧ IM m A I1 L1 ∧ hd_X9_ofSlots_4 S (fun v h => v = some (.int (ssm (gS A w) (ac A) (asc A))) ∧ h = (S, I1, L1)) m w (ssm (gS A w) (ac A) i) (nI i) I' L') (asc A)
    (fun I' L' hf h' => ⟨I', L', hf, h', it_X9_ofSlots_4 hm (by rw [h'.2.1]; exact ge_t (Nat.le_refl _) (by omega) ⟨rfl, rfl⟩)⟩)
    (fun i hi ih I' L' hf h' => by
      have vi : vp_in (nI i) 4 := vp_in_nI (by omega) (by decide)
      have ei : (nI i).toNatClampNeg = i := nI_clamp (by omega)
      have hr := h'.2.2.2.1.1 i (by omega)
      rw [ssm] at ih
      cases hb : cf (ac A) i with
      | false =>
        rw [hb, if_neg (by decide)] at ih
        obtain ⟨I1, L1, k1, k2, k3⟩ := ih I' L' hf h'
        refine ⟨I1, L1, k1, k2, it_X9_ofSlots_4 hm ?_⟩
        rw [h'.2.1]
        refine ge_f hi (by omega) ⟨vi, ?_⟩
        rw [ei, hr.2.1 hb]
        exact ⟨fun _ y hy => by rw [hy, nI_1]; exact k3, fun z => absurd (by decide) z⟩
      | true =>
        rw [hb, if_pos rfl] at ih
        have oi := (hA.2.2.2.2.1.1 i (by omega)).2 hb
        obtain ⟨n, n6, hn, -⟩ := dg_pos oi
        have hdg := (hr.2.2 hb).1
        have np : ¬ nI n < 0 := nI_pos (by omega)
        by_cases w3 : w = 3
        · have eg : gS A w i = nI n := by unfold gS; rw [if_pos w3]; exact hn
          rw [eg] at ih
          obtain ⟨I1, L1, k1, k2, k3⟩ := ih I' L' hf h'
          refine ⟨I1, L1, k1, k2, it_X9_ofSlots_4 hm ?_⟩
          rw [h'.2.1]
          refine ge_f hi (by omega) ⟨vi, ?_⟩
          rw [ei, hdg, hn]
          exact ⟨fun z => absurd z np, fun _ => ⟨fun z => absurd w3 z, fun _ => ⟨vi, fun y hy z hz => by rw [hy, hz, nI_1]; exact k3⟩⟩⟩
        · by_cases w4 : w = 4
          · have eg : gS A w i = nI (tx (cp (ac A) i)).length := by unfold gS; rw [if_neg w3, if_pos w4]
            rw [eg] at ih
            obtain ⟨I2, t1, t2⟩ := m_letters (S := S) hm hA h' (nI i)
            have e : fIdx A (nI i) = some i := by unfold fIdx; rw [sIdx_nI hA hi]; simp [hb]
            rw [e] at t1
            obtain ⟨I1, L1, k1, k2, k3⟩ := ih I2 L' (frSH_tr hf ⟨tfr_S t2, rfl⟩) (tfr_IM h' t2)
            refine ⟨I1, L1, k1, k2, it_X9_ofSlots_4 hm ?_⟩
            rw [h'.2.1]
            refine ge_f hi (by omega) ⟨vi, ?_⟩
            rw [ei, hdg, hn]
            exact ⟨fun z => absurd z np, fun _ => ⟨fun _ => ⟨fun z => absurd w4 z, fun _ => ⟨_, _, _, t1, fun y hy z hz => by rw [hy, hz, nI_1]; exact k3⟩⟩, fun z => absurd z w3⟩⟩
          · have eg : gS A w i = whS A i := by unfold gS; rw [if_neg w3, if_neg w4]
            rw [eg] at ih
            obtain ⟨I2, L2, t1, t2, t3⟩ := mh_whole (S := S) hm hA h' (show i < 4 by omega) hb
            obtain ⟨I1, L1, k1, k2, k3⟩ := ih I2 L2 (frSH_tr hf t3) t2
            refine ⟨I1, L1, k1, k2, it_X9_ofSlots_4 hm ?_⟩
            rw [h'.2.1]
            refine ge_f hi (by omega) ⟨vi, ?_⟩
            rw [ei, hdg, hn]
            have w01 : whS A i = 0 ∨ whS A i = 1 := by
              unfold whS
              by_cases c : cont (cp (ac A) i) = 1 ∧ nI (msum (fM (gl A i)) (fN (gl A i))) = 1
              · rw [if_pos c]; exact Or.inr rfl
              · rw [if_neg c]; exact Or.inl rfl
            refine ⟨fun z => absurd z np, fun _ => ⟨fun _ => ⟨fun _ => ⟨_, _, _, t1, fun q y hy z hz => ?_, fun q y hy z hz => ?_⟩, fun z => absurd z w4⟩, fun z => absurd z w3⟩⟩
            · rw [q] at k3
              rw [hy, hz, nI_1]; exact k3
            · rcases w01 with c | c
              · exact absurd c q
              · rw [c] at k3
                rw [hy, hz, nI_1]; exact k3)
  obtain ⟨I1, L1, k1, k2, k3⟩ := key 0 (Nat.zero_le _) I L frSH_rf h
  exact ⟨I1, L1, wp_X9_ofSlots hm k3, k2, frS_mo k1.1, k1.2⟩
theorem mh_howMany (hm : is_Model S m) (hA : aOK A) (h : IM m A I L) (a : Int32) : ∃ I1 L1, CTi mr_X9_howMany [.ref m, .int a] S I L (sp_count A a) I1 L1 ∧ IM m A I1 L1 ∧ frH m I L I1 L1 := by
  have st : ∀ r I1 L1, IM m A I1 L1 → frH m I L I1 L1 → CTi mr_X9_howMany [.ref m, .int a] S I L r I1 L1 → r = sp_count A a → ∃ I1 L1, CTi mr_X9_howMany [.ref m, .int a] S I L (sp_count A a) I1 L1 ∧ IM m A I1 L1 ∧ frH m I L I1 L1 := fun r I1 L1 hi hf h e => ⟨I1, L1, e ▸ h, hi, hf⟩
  have n : ∀ {k j : Int32} {P : Prop}, ¬ k = j → k = j → P := fun a b => absurd b a
  obtain ⟨I2, L2, s1, s2, s3⟩ := mh_ofSlots (S := S) hm hA h a
  rcases mj_sw_0_7 a with rfl | rfl | rfl | rfl | rfl | rfl | rfl | rfl | hb
  · exact st (nI (asc A)) I L h frH_rf (wp_X9_howMany hm ⟨fun _ => ⟨by rw [h.2.1], rfl⟩, n (by decide), n (by decide), n (by decide), n (by decide), n (by decide), n (by decide), n (by decide), fun q => absurd q (by decide)⟩) (by simp [sp_count])
  · exact st _ I L h frH_rf (wp_X9_howMany hm ⟨n (by decide), fun _ => ⟨_, _, _, m_filled hm hA h, rfl, rfl⟩, n (by decide), n (by decide), n (by decide), n (by decide), n (by decide), n (by decide), fun q => absurd q (by decide)⟩) (by simp [sp_count])
  · exact st _ I2 L2 s2 s3 (wp_X9_howMany hm ⟨n (by decide), n (by decide), fun _ => ⟨_, _, _, s1, rfl, rfl⟩, n (by decide), n (by decide), n (by decide), n (by decide), n (by decide), fun q => absurd q (by decide)⟩) (by simp [sp_count, gS])
  · exact st _ I2 L2 s2 s3 (wp_X9_howMany hm ⟨n (by decide), n (by decide), n (by decide), fun _ => ⟨_, _, _, s1, rfl, rfl⟩, n (by decide), n (by decide), n (by decide), n (by decide), fun q => absurd q (by decide)⟩) (by simp [sp_count, gS])
  · exact st _ I2 L2 s2 s3 (wp_X9_howMany hm ⟨n (by decide), n (by decide), n (by decide), n (by decide), fun _ => ⟨_, _, _, s1, rfl, rfl⟩, n (by decide), n (by decide), n (by decide), fun q => absurd q (by decide)⟩) (by simp [sp_count, gS])
  · exact st (nI (cn (ac A))) I L h frH_rf (wp_X9_howMany hm ⟨n (by decide), n (by decide), n (by decide), n (by decide), n (by decide), fun _ => ⟨by rw [h.2.2.2.1.2.1], rfl⟩, n (by decide), n (by decide), fun q => absurd q (by decide)⟩) (by simp [sp_count])
  · exact st (nI (apn A)) I L h frH_rf (wp_X9_howMany hm ⟨n (by decide), n (by decide), n (by decide), n (by decide), n (by decide), n (by decide), fun _ => ⟨by rw [h.1.1], rfl⟩, n (by decide), fun q => absurd q (by decide)⟩) (by simp [sp_count])
  · exact st (nI (adk A)) I L h frH_rf (wp_X9_howMany hm ⟨n (by decide), n (by decide), n (by decide), n (by decide), n (by decide), n (by decide), n (by decide), fun _ => ⟨by rw [h.2.2.1], rfl⟩, fun q => absurd q (by decide)⟩) (by simp [sp_count])
  · have nb : ∀ k : Int32, ¬ (k.toInt < 0 ∨ 7 < k.toInt) → ¬ a = k := fun k hk e => hk (e ▸ hb)
    have b0 := nb 0 (by decide); have b1 := nb 1 (by decide); have b2 := nb 2 (by decide); have b3 := nb 3 (by decide)
    have b4 := nb 4 (by decide); have b5 := nb 5 (by decide); have b6 := nb 6 (by decide); have b7 := nb 7 (by decide)
    exact st (-102) I L h frH_rf (wp_X9_howMany hm ⟨n b0, n b1, n b2, n b3, n b4, n b5, n b6, n b7, fun _ => ⟨rfl, rfl⟩⟩) (by unfold sp_count; rw [if_neg b0, if_neg b1, if_neg b2, if_neg b3, if_neg b4, if_neg b5, if_neg b6, if_neg b7])
end
