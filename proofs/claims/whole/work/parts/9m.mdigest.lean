/-! DIGESTS: the reference -/
variable {S : List mjD} {I : Nat → Nat → Int32} {L : Nat → Nat → Int64}
section
variable {m : Nat} {A : aS}
theorem fr_57 {s : Int64} : fr (moX m) I L I (mj_up L m 57 s) := fun b hb => ⟨rfl, up_ne (fun e => hb (by unfold moX; omega))⟩
theorem fmo {I1 I2 : Nat → Nat → Int32} {L1 L2 : Nat → Nat → Int64} (h : fr (moX m) I L I1 L1) (h2 : fr (moX m) I1 L1 I2 L2) : fr (moX m) I L I2 L2 := fr_tr h h2 (fun b z => z.elim id id)
theorem fIdx_nI {i : Nat} (hA : aOK A) (hi : i < asc A) (hf : cf (ac A) i = true) : fIdx A (nI i) = some i := by unfold fIdx; rw [sIdx_nI hA hi]; simp [hf]
theorem m_dNum {i : Nat} (hm : is_Model S m) (hA : aOK A) (hi : i < asc A) (hf : cf (ac A) i = true) : ∀ w k s (L : Nat → Nat → Int64), k + w = 6 → IM m A I L → L m 57 = s → ∃ L1, IM m A I L1 ∧ L1 m 57 = mixN (fun k => sp_number A (nI i) (nI k)) k w s ∧ fr (moX m) I L I L1 ∧ ∀ RET : Option Value → mjH → Prop, hd_X9_mixFilled_2 S RET m (nI i) (nI 6) I L1 → hd_X9_mixFilled_2 S RET m (nI i) (nI k) I L := by
  have i4 : i < 4 := by have := hA.2.2.1; omega
  intro w
  induction w with
  | zero =>
    intro k s L hk h hs
    exact ⟨L, h, hs, fr_rf, fun RET hr => by rw [show k = 6 by omega]; exact hr⟩
  | succ w ih =>
    intro k s L hk h hs
    have k6 : k < 6 := by omega
    have e : (L (m + 2) (6 * i + k)).toInt32 + 1000 = sp_number A (nI i) (nI k) := by
      unfold sp_number
      rw [fIdx_nI hA hi hf]
      simp only
      rw [if_neg (nI_pos (by omega)), if_pos (show nI k ≤ (5 : Int32) from (nI_leI (b := 5) (by omega) (by decide)).mpr (by omega)), pat_n k6, ((h.2.2.2.1.1 i i4).2.2 hf).2 k k6, Int32.add_comm]
    have n1 := m_numberNow (S := S) (I := I) (L := L) (j := i) (k := k) hm i4 k6
    rw [e] at n1
    obtain ⟨L1, b1, b2, b3, b4⟩ := ih (k + 1) (((31 : Int64) * s) + (sp_number A (nI i) (nI k)).toInt64) _ (by omega) (IM_57 (s := ((31 : Int64) * s) + (sp_number A (nI i) (nI k)).toInt64) h) up_eq
    exact ⟨L1, b1, b2, fmo fr_57 b3, fun RET hr => it_X9_mixFilled_2 hm (ge_f (k := 6) (by omega) (by omega) ⟨_, _, _, n1, _, _, m_mix hm hs _, fun y hy => by rw [hy, nI_1]; exact b4 RET hr⟩)⟩
theorem m_facNow {i k t : Nat} (hm : is_Model S m) (hA : aOK A) (hi : i < asc A) (hf : cf (ac A) i = true) (hR : mRep m (fN (gl A i)) (fP (gl A i)) (fM (gl A i)) I L) (hk : k < fN (gl A i)) (ht8 : t < 8) : CTi mr_X9_factorNow [.ref m, .int (nI k), .int (nI t)] S I L (sp_factor A (nI i) (nI k) (nI t)) I L := by
  unfold sp_factor
  rw [fIdx_nI hA hi hf]
  simp only
  have hn5 := hR.2.1
  obtain ⟨r13, r12, r11⟩ := m_deg hR hk
  rw [if_neg (nI_pos (n := k) (by omega)), if_neg (fun q => by have := (nI_leI (by omega) (by omega)).mp q; omega), if_neg (nI_pos (n := t) (by omega)), if_pos (show nI t < (8 : Int32) from (nI_ltI (b := 8) (by omega) (by decide)).mpr ht8), nI_clamp (show k < 2 ^ 31 by omega)]
  have vk : vp_in (nI k) 6 := vp_in_nI (by omega) (by decide)
  have z0 : nI t = 0 ↔ t = 0 := nI_eq (b := 0) (by omega) (by decide)
  have z1 : nI t = 1 ↔ t = 1 := nI_eq (b := 1) (by omega) (by decide)
  by_cases t0 : t = 0
  · rw [if_pos (z0.mpr t0)]
    refine wp_X9_factorNow hm ⟨fun q => absurd (z0.mpr t0) q, fun _ => ⟨vk, ?_, rfl⟩⟩
    rw [nI_clamp (show k < 2 ^ 31 by omega), r13]
  · rw [if_neg (fun q => t0 (z0.mp q))]
    by_cases t1 : t = 1
    · rw [if_pos (z1.mpr t1)]
      refine wp_X9_factorNow hm ⟨fun _ => ⟨fun q => absurd (z1.mpr t1) q, fun _ => ⟨vk, ?_, rfl⟩⟩, fun q => absurd (z0.mp q) t0⟩
      rw [nI_clamp (show k < 2 ^ 31 by omega), r12]
    · rw [if_neg (fun q => t1 (z1.mp q))]
      obtain ⟨s, rfl⟩ : ∃ s, t = s + 2 := ⟨t - 2, by omega⟩
      have e1 : (((6 : Int32) * nI k) + nI (s + 2)) - (2 : Int32) = nI (6 * k + s) := by
        rw [nI_6]
        exact pk_sub (a := 6 * k + s + 2) (b := 2) (by omega)
      have e2 : nI (s + 2) - (2 : Int32) = nI s := pk_sub (a := s + 2) (b := 2) (by omega)
      refine wp_X9_factorNow hm ⟨fun _ => ⟨fun _ => ?_, fun q => absurd (z1.mp q) t1⟩, fun q => absurd (z0.mp q) t0⟩
      rw [e1, e2, nI_clamp (show 6 * k + s < 2 ^ 31 by omega), r11 s (by omega), pat_n (by omega), Int32.add_comm]
      exact ⟨vp_in_nI (by omega) (by decide), rfl, rfl⟩
theorem rep_57 {n : Nat} {P : Nat → List Int} {M : Nat → Nat} {s : Int64} (h : mRep m n P M I L) : mRep m n P M I (mj_up L m 57 s) := mRep_of h rfl (up_ne (by omega)) rfl rfl
theorem m_dFac {i f : Nat} (hm : is_Model S m) (hA : aOK A) (hi : i < asc A) (hf : cf (ac A) i = true) (hfN : f < fN (gl A i)) : ∀ w k s (L : Nat → Nat → Int64), k + w = 8 → IM m A I L → mRep m (fN (gl A i)) (fP (gl A i)) (fM (gl A i)) I L → L m 57 = s → ∃ L1, IM m A I L1 ∧ mRep m (fN (gl A i)) (fP (gl A i)) (fM (gl A i)) I L1 ∧ L1 m 57 = mixN (fun w => sp_factor A (nI i) (nI f) (nI w)) k w s ∧ fr (moX m) I L I L1 ∧ ∀ RET : Option Value → mjH → Prop, hd_X9_mixFilled_36 S RET m (nI i) (nI (f + 1)) I L1 → hd_X9_mixFilled_46 S RET m (nI i) (nI f) (nI k) I L := by
  intro w
  induction w with
  | zero =>
    intro k s L hk h hR hs
    exact ⟨L, h, hR, hs, fr_rf, fun RET hr => it_X9_mixFilled_46 hm (ge_t (k := 8) (by omega) (by omega) (fun y hy => by rw [hy, nI_1]; exact hr))⟩
  | succ w ih =>
    intro k s L hk h hR hs
    have n1 := m_facNow (S := S) (i := i) (k := f) (t := k) hm hA hi hf hR hfN (by omega)
    obtain ⟨L1, b1, b2, b3, b4, b5⟩ := ih (k + 1) (((31 : Int64) * s) + (sp_factor A (nI i) (nI f) (nI k)).toInt64) _ (by omega) (IM_57 (s := ((31 : Int64) * s) + (sp_factor A (nI i) (nI f) (nI k)).toInt64) h) (rep_57 hR) up_eq
    exact ⟨L1, b1, b2, b3, fmo fr_57 b4, fun RET hr => it_X9_mixFilled_46 hm (ge_f (k := 8) (by omega) (by omega) ⟨_, _, _, n1, _, _, m_mix hm hs _, fun y hy => by rw [hy, nI_1]; exact b5 RET hr⟩)⟩
theorem m_dFacs {i : Nat} (hm : is_Model S m) (hA : aOK A) (hi : i < asc A) (hf : cf (ac A) i = true) : ∀ n f s (L : Nat → Nat → Int64), f + n = fN (gl A i) → IM m A I L → mRep m (fN (gl A i)) (fP (gl A i)) (fM (gl A i)) I L → L m 57 = s → ∃ L1, IM m A I L1 ∧ mRep m (fN (gl A i)) (fP (gl A i)) (fM (gl A i)) I L1 ∧ L1 m 57 = hdF A i f n s ∧ fr (moX m) I L I L1 ∧ ∀ RET : Option Value → mjH → Prop, hd_X9_mixFilled_36 S RET m (nI i) (nI (fN (gl A i))) I L1 → hd_X9_mixFilled_36 S RET m (nI i) (nI f) I L := by
  intro n
  induction n with
  | zero =>
    intro f s L hn h hR hs
    exact ⟨L, h, hR, hs, fr_rf, fun RET hr => by rw [show f = fN (gl A i) by omega]; exact hr⟩
  | succ n ih =>
    intro f s L hn h hR hs
    have hn5 := hR.2.1
    obtain ⟨L2, a1, a2, a3, a4, a5⟩ := m_dFac (S := S) (f := f) hm hA hi hf (by omega) 8 0 s L rfl h hR hs
    obtain ⟨L1, b1, b2, b3, b4, b5⟩ := ih (f + 1) _ L2 (by omega) a1 a2 a3
    refine ⟨L1, b1, b2, b3, fmo a4 b4, fun RET hr => it_X9_mixFilled_36 hm ?_⟩
    rw [hR.1]
    exact ge_f (by omega) (by omega) (a5 RET (b5 RET hr))
theorem m_mixFilled {i : Nat} {s : Int64} (hm : is_Model S m) (hA : aOK A) (h : IM m A I L) (hi : i < asc A) (hf : cf (ac A) i = true) (hs : L m 57 = s) : ∃ I1 L1, CTv mr_X9_mixFilled [.ref m, .int (nI i)] S I L I1 L1 ∧ IM m A I1 L1 ∧ fr (moX m) I L I1 L1 ∧ L1 m 57 = hdD A i s := by
  have i4 : i < 4 := by have := hA.2.2.1; omega
  obtain ⟨L1, a1, a2, a3, a4⟩ := m_dNum (S := S) hm hA hi hf 6 0 s L rfl h hs
  obtain ⟨I2, L2, b1, b2, b3, b4, b5, b6, b7⟩ := m_layAll (S := S) hm hA a1 i4 hf
  have h2 : IM m A I2 L2 := IM_sc (IM_w a1) (frS_L b4) b5
  have f2 : fr (moX m) I L1 I2 L2 := frS_mo (frS_tr frS_w (frS_L b4))
  have s2 : L2 m 57 = mixN (fun k => sp_number A (nI i) (nI k)) 0 6 s := ((b4.2.1 57 (by decide)).trans (by rw [mwn_ne (by omega)])).trans a2
  obtain ⟨L3, c1, c2, c3, c4, c5⟩ := m_dFacs (S := S) hm hA hi hf (fN (gl A i)) 0 _ L2 (Nat.zero_add _) h2 b6.2 s2
  obtain ⟨I4, d1, d2⟩ := m_degreesNow (S := S) hm hA c1 i4 hf
  have ed : degsI (cp (ac A) i) = sp_degrees A (nI i) := by unfold sp_degrees; rw [fIdx_nI hA hi hf]
  rw [ed] at d1
  have h4 := qfr_IM c1 d2
  obtain ⟨v1, hv1⟩ : ∃ v1, v1 = ((31 : Int64) * hdF A i 0 (fN (gl A i)) (mixN (fun k => sp_number A (nI i) (nI k)) 0 6 s)) + (sp_degrees A (nI i)).toInt64 := ⟨_, rfl⟩
  have e1 := m_mix (S := S) (I := I4) (L := L3) hm c3 (sp_degrees A (nI i)).toInt64
  rw [← hv1] at e1
  have h5 := IM_57 (s := v1) h4
  have g1 := m_valueNow (S := S) (I := I4) (L := mj_up L3 m 57 v1) (j := i) hm i4 3
  have eg : hvF (fun k => mj_up L3 m 57 v1 (m + 2) (6 * i + k)) (3 : Int32).toInt64 6 0 = sp_value A (nI i) 3 := by
    unfold sp_value
    rw [fIdx_nI hA hi hf]
    simp only
    rw [if_neg (by decide), if_pos (by decide)]
    exact hvF_ext (fun k hk => ((h5.2.2.2.1.1 i i4).2.2 hf).2 k hk) 6 (Nat.le_refl _) 0
  rw [eg] at g1
  obtain ⟨v2, hv2⟩ : ∃ v2, v2 = ((31 : Int64) * v1) + sp_value A (nI i) 3 := ⟨_, rfl⟩
  have e2 := m_mix (S := S) (I := I4) (L := mj_up L3 m 57 v1) (s := v1) hm up_eq (sp_value A (nI i) 3)
  rw [← hv2] at e2
  have h6 := IM_57 (s := v2) h5
  obtain ⟨I5, t1, t2, t3⟩ := m_layText (S := S) hm hA h6 i4 hf
  have h7 := tfr_IM h6 t3
  obtain ⟨L7, hL7⟩ : ∃ L7, L7 = mj_up (mj_up (mj_up L3 m 57 v1) m 57 v2) m 57 (mixN (fun k => (tx (cp (ac A) i)).getD k 0) 0 (tx (cp (ac A) i)).length v2) := ⟨_, rfl⟩
  have fT : fr (moX m) I L I5 L7 := fmo a3 (fmo f2 (fmo c4 (fmo (frS_mo (qfr_S d2)) (fmo fr_57 (fmo fr_57 (fmo (frS_mo (tfr_S t3)) (by rw [hL7]; exact fr_57)))))))
  refine ⟨I5, L7, wp_X9_mixFilled hm (a4 _ (it_X9_mixFilled_2 hm (ge_t (k := 6) (i := 6) (by decide) (by decide) ⟨_, _, b1, _, _, b2, c5 _ (it_X9_mixFilled_36 hm ?_)⟩))), by rw [hL7]; exact IM_57 h7, fT, ?_⟩
  · rw [c2.1]
    exact ge_t (Nat.le_refl _) (by have := c2.2.1; omega) ⟨_, _, _, d1, _, _, e1, _, _, _, g1, _, _, e2, _, _, t1, m_mixText hm t2.1 t2.2 (by have := tx_l (cp (ac A) i); omega) up_eq ⟨rfl, by rw [hL7]⟩⟩
  · rw [hL7, up_eq, hv2, hv1]; rfl
theorem m_dSlot {i : Nat} (hm : is_Model S m) (hA : aOK A) (hi : i < asc A) : ∀ w k s (I : Nat → Nat → Int32) (L : Nat → Nat → Int64), k + w = 8 → IM m A I L → L m 57 = s → ∃ I1 L1, IM m A I1 L1 ∧ L1 m 57 = mixN (fun w => sp_slot A (nI i) (nI w)) k w s ∧ fr (moX m) I L I1 L1 ∧ ∀ RET : Option Value → mjH → Prop, hd_X9_digest_19 S RET m (nI i) (nI 8) I1 L1 → hd_X9_digest_19 S RET m (nI i) (nI k) I L := by
  have i4 : i < 4 := by have := hA.2.2.1; omega
  intro w
  induction w with
  | zero =>
    intro k s I L hk h hs
    exact ⟨I, L, h, hs, fr_rf, fun RET hr => by rw [show k = 8 by omega]; exact hr⟩
  | succ w ih =>
    intro k s I L hk h hs
    obtain ⟨I2, L2, a1, a2, a3⟩ := mh_slotNow (S := S) (b := nI k) hm hA h (sIdx_nI hA hi) i4 (by rw [nI_toInt (by omega)]; omega)
    have e : slw A i (nI k) = sp_slot A (nI i) (nI k) := by unfold sp_slot; rw [sIdx_nI hA hi]
    rw [e] at a1
    obtain ⟨I1, L1, b1, b2, b3, b4⟩ := ih (k + 1) (((31 : Int64) * s) + (sp_slot A (nI i) (nI k)).toInt64) I2 _ (by omega) (IM_57 (s := ((31 : Int64) * s) + (sp_slot A (nI i) (nI k)).toInt64) a2) up_eq
    exact ⟨I1, L1, b1, b2, fmo a3.1 (fmo fr_57 b3), fun RET hr => it_X9_digest_19 hm (ge_f (k := 8) (by omega) (by omega) ⟨_, _, _, a1, _, _, m_mix hm (a3.2.trans hs) _, fun y hy => by rw [hy, nI_1]; exact b4 RET hr⟩)⟩
theorem m_dSlots (hm : is_Model S m) (hA : aOK A) : ∀ n i s (I : Nat → Nat → Int32) (L : Nat → Nat → Int64), i + n = asc A → IM m A I L → L m 57 = s → ∃ I1 L1, IM m A I1 L1 ∧ L1 m 57 = hdS A i n s ∧ fr (moX m) I L I1 L1 ∧ ∀ RET : Option Value → mjH → Prop, hd_X9_digest_9 S RET m (nI (asc A)) I1 L1 → hd_X9_digest_9 S RET m (nI i) I L := by
  have h4 := hA.2.2.1
  intro n
  induction n with
  | zero =>
    intro i s I L hi h hs
    exact ⟨I, L, h, hs, fr_rf, fun RET hr => by rw [show i = asc A by omega]; exact hr⟩
  | succ n ih =>
    intro i s I L hi h hs
    have i4 : i < 4 := by omega
    obtain ⟨I2, L2, a1, a2, a3, a4⟩ := m_dSlot (S := S) (i := i) hm hA (by omega) 8 0 s I L rfl h hs
    have hr2 := a1.2.2.2.1.1 i i4
    have vi : vp_in (nI i) 4 := vp_in_nI i4 (by decide)
    have ei : (nI i).toNatClampNeg = i := nI_clamp (by omega)
    cases hf : cf (ac A) i with
    | false =>
      have ew : hdW A i s = mixN (fun w => sp_slot A (nI i) (nI w)) 0 8 s := by unfold hdW; rw [hf, if_neg (by decide)]
      obtain ⟨I1, L1, b1, b2, b3, b4⟩ := ih (i + 1) (hdW A i s) I2 L2 (by omega) a1 (by rw [ew]; exact a2)
      refine ⟨I1, L1, b1, b2, fmo a3 b3, fun RET hr => it_X9_digest_9 hm ?_⟩
      rw [h.2.1]
      refine ge_f (by omega) (by omega) (a4 RET (it_X9_digest_19 hm (ge_t (k := 8) (i := 8) (by omega) (by omega) ⟨vi, ?_⟩)))
      rw [ei, hr2.2.1 hf]
      exact ⟨fun _ y hy => by rw [hy, nI_1]; exact b4 RET hr, fun z => absurd (by decide) z⟩
    | true =>
      have ew : hdW A i s = hdD A i (mixN (fun w => sp_slot A (nI i) (nI w)) 0 8 s) := by unfold hdW; rw [hf, if_pos rfl]
      obtain ⟨I3, L3, d1, d2, d3, d4⟩ := m_mixFilled (S := S) hm hA a1 (by omega) hf a2
      obtain ⟨I1, L1, b1, b2, b3, b4⟩ := ih (i + 1) (hdW A i s) I3 L3 (by omega) d2 (by rw [ew]; exact d4)
      obtain ⟨n9, n6, hn, -⟩ := dg_pos ((hA.2.2.2.2.1.1 i i4).2 hf)
      refine ⟨I1, L1, b1, b2, fmo a3 (fmo d3 b3), fun RET hr => it_X9_digest_9 hm ?_⟩
      rw [h.2.1]
      refine ge_f (by omega) (by omega) (a4 RET (it_X9_digest_19 hm (ge_t (k := 8) (i := 8) (by omega) (by omega) ⟨vi, ?_⟩)))
      rw [ei, (hr2.2.2 hf).1, hn]
      exact ng_f (by omega) ⟨_, _, d1, fun y hy => by rw [hy, nI_1]; exact b4 RET hr⟩
theorem m_dCounts (hm : is_Model S m) (hA : aOK A) : ∀ w k s (I : Nat → Nat → Int32) (L : Nat → Nat → Int64), k + w = 8 → IM m A I L → L m 57 = s → ∃ I1 L1, IM m A I1 L1 ∧ fr (moX m) I L I1 L1 ∧ ∀ RET : Option Value → mjH → Prop, RET (some (.long (mixN (fun w => sp_count A (nI w)) k w s))) (S, I1, L1) → hd_X9_digest_91 S RET m (nI k) I L := by
  intro w
  induction w with
  | zero =>
    intro k s I L hk h hs
    exact ⟨I, L, h, fr_rf, fun RET hr => it_X9_digest_91 hm (ge_t (k := 8) (by omega) (by omega) (by rw [hs]; exact hr))⟩
  | succ w ih =>
    intro k s I L hk h hs
    obtain ⟨I2, L2, a1, a2, a3⟩ := mh_howMany (S := S) hm hA h (nI k)
    obtain ⟨I1, L1, b1, b2, b3⟩ := ih (k + 1) (((31 : Int64) * s) + (sp_count A (nI k)).toInt64) I2 _ (by omega) (IM_57 (s := ((31 : Int64) * s) + (sp_count A (nI k)).toInt64) a2) up_eq
    exact ⟨I1, L1, b1, fmo a3.1 (fmo fr_57 b2), fun RET hr => it_X9_digest_91 hm (ge_f (k := 8) (by omega) (by omega) ⟨_, _, _, a1, _, _, m_mix hm (a3.2.trans hs) _, fun y hy => by rw [hy, nI_1]; exact b3 RET hr⟩)⟩
theorem m_digest (hm : is_Model S m) (hA : aOK A) (h : IM m A I L) : ∃ I1 L1, CTl mr_X9_digest [.ref m] S I L (sp_digest A) I1 L1 ∧ IM m A I1 L1 ∧ fr (moX m) I L I1 L1 := by
  have h4 := hA.2.2.1
  obtain ⟨I2, L2, a1, a2, a3, a4⟩ := m_dSlots (S := S) hm hA (asc A) 0 1409 I (mj_up L m 57 1409) (Nat.zero_add _) (IM_57 h) up_eq
  obtain ⟨I1, L1, b1, b2, b3⟩ := m_dCounts (S := S) hm hA 8 0 (mixN (apc A) 0 (apn A) (hdS A 0 (asc A) 1409)) I2 _ rfl (IM_57 (s := mixN (apc A) 0 (apn A) (hdS A 0 (asc A) 1409)) a1) up_eq
  refine ⟨I1, L1, wp_X9_digest hm (a4 _ (it_X9_digest_9 hm ?_)), b1, fmo fr_57 (fmo a3 (fmo fr_57 b2))⟩
  rw [a1.2.1]
  exact ge_t (Nat.le_refl _) (by omega) (m_mixLine hm a1.1.1 a1.1.2 hA.1 a2 (b3 _ ⟨rfl, rfl⟩))
end
