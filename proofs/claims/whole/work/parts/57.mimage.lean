/-! THE REFERENCE: observations, images, reading a desk -/
variable {S : List mjD} {I : Nat → Nat → Int32} {L : Nat → Nat → Int64}
theorem mR_copy {n1 n2 n3 n4 n5 n6 k1 k2 k3 k4 k5 k6 : Nat} {sn sn1 : Int32} {c : aC} {I1 : Nat → Nat → Int32} {L1 : Nat → Nat → Int64} (h : mR n1 n2 n3 n4 n5 n6 sn c I L) (hc : cn c ≤ 6) (e1 : ∀ j, j < 4 → I1 k1 j = I n1 j) (e2 : ∀ t, t < 24 → L1 k2 t = L n2 t) (e3 : ∀ j, j < 4 → I1 k3 j = I n3 j) (e4 : ∀ j, j < 6 → I1 k4 j = I n4 j) (e5 : ∀ j, j < 6 → I1 k5 j = I n5 j) (e6 : ∀ j, j < 6 → I1 k6 j = I n6 j) (es : sn1 = sn) : mR k1 k2 k3 k4 k5 k6 sn1 c I1 L1 := by
  obtain ⟨h1, h2, h3⟩ := h
  refine ⟨fun j hj => ?_, by rw [es]; exact h2, fun i hi => ?_⟩
  · obtain ⟨a1, a2, a3⟩ := h1 j hj
    exact ⟨by rw [e1 j hj]; exact a1, fun q => by rw [e3 j hj]; exact a2 q, fun q => ⟨by rw [e3 j hj]; exact (a3 q).1, fun t ht => by rw [e2 _ (by omega)]; exact (a3 q).2 t ht⟩⟩
  · rw [e4 i (by omega), e5 i (by omega), e6 i (by omega)]; exact h3 i hi
section
variable {m : Nat} {A : aS}
theorem m_see (hm : is_Model S m) (hA : aOK A) (h : IM m A I L) (a b c : Int32) : ∃ I1 L1, CTi mr_X9_see [.ref m, .int a, .int b, .int c] S I L (sp_see A a b c).1 I1 L1 ∧ IM m (sp_see A a b c).2 I1 L1 ∧ fr (moX m) I L I1 L1 := by
  have hs := m_isSlot (S := S) (I := I) (L := L) hm hA h.2.1 a
  have hw := m_w (S := S) (I := I) (L := L) b (lo := 0) (hi := 3) 0 3 rfl rfl
  have l1 := lt_i (a := b) (k := 0) (n := 0) rfl
  have l2 := lt_i (a := b) (k := 4) (n := 4) rfl
  have hr := h.2.2.2.1
  have h6 := hA.2.2.2.2.1.2.1
  have hsn := hr.2.1
  unfold sp_see
  cases hx : sIdx A a with
  | none =>
    rw [hx] at hs
    exact ⟨I, L, wp_X9_see hm ⟨_, _, _, hs, fun q => absurd rfl q, fun _ => ⟨rfl, rfl⟩⟩, h, fr_rf⟩
  | some j =>
    obtain ⟨rfl, j1, j2⟩ := sIdx_some hA hx
    rw [hx] at hs
    rw [show (if (some j).isSome = true then (1 : Int32) else 0) = 1 from rfl] at hs
    by_cases b1 : b < 0
    · rw [if_pos (Or.inl (l1.mp b1))] at hw
      simp only [if_pos b1]
      exact ⟨I, L, wp_X9_see hm ⟨_, _, _, hs, fun _ => ⟨_, _, _, hw, fun q => absurd rfl q, fun _ => ⟨rfl, rfl⟩⟩, fun q => absurd q (by decide)⟩, h, fr_rf⟩
    · by_cases b2 : b < 4
      · rw [if_neg (fun z => z.elim (fun z => b1 (l1.mpr z)) (fun z => by have := l2.mp b2; omega))] at hw
        obtain ⟨w, hw31, rfl⟩ := nI_of (x := b) b1
        have hw4 : w < 4 := (nI_ltI (b := 4) hw31 (by decide)).mp b2
        by_cases c6 : cn (ac A) < 6
        · simp only [if_neg b1, if_pos b2, if_pos c6]
          obtain ⟨I1, hI1⟩ : ∃ I1, I1 = mj_up (mj_up (mj_up (mj_up I (m + 4) (cn (ac A)) (nI j)) (m + 5) (cn (ac A)) (nI w)) (m + 6) (cn (ac A)) (bI (decide (c ≠ 0)))) m 5 (nI (cn (ac A) + 1)) := ⟨_, rfl⟩
          have n4 : m ≠ m + 4 := by omega
          have n5 : m ≠ m + 5 := by omega
          have n6 : m ≠ m + 6 := by omega
          have hne : ¬ nI (cn (ac A)) = (6 : Int32) := fun q => absurd ((nI_eq (b := 6) (by omega) (by decide)).mp q) (by omega)
          have hv : vp_in (nI (cn (ac A))) 6 := vp_in_nI c6 (by decide)
          have r : ∀ b, b ≠ m → b ≠ m + 4 → b ≠ m + 5 → b ≠ m + 6 → I1 b = I b := fun b b0 b1 b2 b3 => by rw [hI1, up_ne b0, up_ne b3, up_ne b2, up_ne b1]
          have f : ∀ k, k ≠ 5 → I1 m k = I m k := fun k hk => by rw [hI1, up_nk hk, up_ne n6, up_ne n5, up_ne n4]
          refine ⟨I1, L, wp_X9_see hm ⟨_, _, _, hs, fun _ => ⟨_, _, _, hw, fun _ => ?_, fun q => absurd q (by decide)⟩, fun q => absurd q (by decide)⟩, IM_co h (fun b hb => ⟨r b (by omega) (by omega) (by omega) (by omega), rfl⟩) (fun k hk => f k (by omega)) ⟨fun i hi => ?_, by rw [hI1, up_eq]; rfl, fun i hi => ?_⟩ (cache_eq h.2.2.2.2.2.2 (f 15 (by decide)) (f 19 (by decide)) (r _ (by omega) (by omega) (by omega) (by omega)) (r _ (by omega) (by omega) (by omega) (by omega)) rfl rfl), fun b hb => ⟨r b (fun e => hb (by unfold moX; omega)) (fun e => hb (by unfold moX; omega)) (fun e => hb (by unfold moX; omega)) (fun e => hb (by unfold moX; omega)), rfl⟩⟩
          · simp only [up_ne n4, up_ne n5, up_ne n6, hsn, nI_clamp (show cn (ac A) < 2 ^ 31 by omega), nI_1, up_eq]
            refine ⟨fun _ => ⟨hv, hv, fun hc => ⟨hv, trivial, ?_⟩, fun hc => ⟨hv, trivial, ?_⟩⟩, fun q => absurd q hne⟩
            · rw [hI1]; simp [hc, bI]
            · rw [hI1]; simp [hc, bI]
          · rw [r (m + 1) (by omega) (by omega) (by omega) (by omega), r (m + 3) (by omega) (by omega) (by omega) (by omega)]
            exact hr.1 i hi
          · have hi2 : i < cn (ac A) + 1 := hi
            show I1 (m + 4) i = nI (if i = cn (ac A) then j else cs (ac A) i) ∧ I1 (m + 5) i = nI (if i = cn (ac A) then (nI w).toNatClampNeg else cw (ac A) i) ∧ I1 (m + 6) i = bI (if i = cn (ac A) then decide (c ≠ 0) else cb (ac A) i)
            rw [nI_clamp (by omega), hI1]
            by_cases e : i = cn (ac A)
            · rw [if_pos e, if_pos e, if_pos e, e]
              exact ⟨by rw [up_ne (by omega), up_ne (by omega), up_ne (by omega), up_eq], by rw [up_ne (by omega), up_ne (by omega), up_eq], by rw [up_ne (by omega), up_eq]⟩
            · rw [if_neg e, if_neg e, if_neg e]
              obtain ⟨x1, x2, x3⟩ := hr.2.2 i (by omega)
              exact ⟨by rw [up_ne (by omega), up_ne (by omega), up_ne (by omega), up_nk e]; exact x1, by rw [up_ne (by omega), up_ne (by omega), up_nk e, up_ne (by omega)]; exact x2, by rw [up_ne (by omega), up_nk e, up_ne (by omega), up_ne (by omega)]; exact x3⟩
        · simp only [if_neg b1, if_pos b2, if_neg c6]
          have e6 : cn (ac A) = 6 := by omega
          refine ⟨I, L, wp_X9_see hm ⟨_, _, _, hs, fun _ => ⟨_, _, _, hw, fun _ => ?_, fun q => absurd q (by decide)⟩, fun q => absurd q (by decide)⟩, h, fr_rf⟩
          rw [hsn, e6]
          exact ⟨fun q => absurd rfl q, fun _ => ⟨rfl, rfl⟩⟩
      · rw [if_pos (Or.inr (by
          have h9 : ¬ b.toInt < 4 := fun q => b2 (l2.mpr q)
          omega))] at hw
        simp only [if_neg b1, if_neg b2]
        exact ⟨I, L, wp_X9_see hm ⟨_, _, _, hs, fun _ => ⟨_, _, _, hw, fun q => absurd rfl q, fun _ => ⟨rfl, rfl⟩⟩, fun q => absurd q (by decide)⟩, h, fr_rf⟩
theorem m_image (hm : is_Model S m) (hA : aOK A) (h : IM m A I L) : ∃ I1 L1, CTi mr_X9_image [.ref m] S I L (sp_image A).1 I1 L1 ∧ IM m (sp_image A).2 I1 L1 ∧ fr (moX m) I L I1 L1 := by
  have h4 := hA.2.2.1
  unfold sp_image
  by_cases h0 : asc A = 0
  · rw [if_pos h0]
    refine ⟨I, L, wp_X9_image hm ?_, h, fr_rf⟩
    rw [h.2.1, h0]
    exact ⟨fun q => absurd rfl q, fun _ => ⟨rfl, rfl⟩⟩
  · rw [if_neg h0]
    have hn0 : ¬ nI (asc A) = 0 := fun q => h0 ((nI_eq (b := 0) (by omega) (by decide)).mp q)
    obtain ⟨I0, hI0⟩ : ∃ I0, I0 = mj_up (mj_up (mj_up I m 48 (1 : Int32)) m 49 (I m 0)) m 50 (I m 5) := ⟨_, rfl⟩
    have i0 : ∀ b, b ≠ m → I0 b = I b := fun b hb => by rw [hI0, up_ne hb, up_ne hb, up_ne hb]
    have f0 : ∀ k, k ≠ 48 → k ≠ 49 → k ≠ 50 → I0 m k = I m k := fun k a b c => by rw [hI0, up_nk c, up_nk b, up_nk a]
    obtain ⟨I2, hI2⟩ : ∃ I2, I2 = mwn (mwn I0 (m + 27) 4 (I (m + 1))) (m + 28) 4 (I (m + 3)) := ⟨_, rfl⟩
    obtain ⟨L2, hL2⟩ : ∃ L2, L2 = mwn L (m + 29) 24 (L (m + 2)) := ⟨_, rfl⟩
    obtain ⟨I3, hI3⟩ : ∃ I3, I3 = mwn (mwn (mwn I2 (m + 30) 6 (I (m + 4))) (m + 31) 6 (I (m + 5))) (m + 32) 6 (I (m + 6)) := ⟨_, rfl⟩
    have r : ∀ b, b ≠ m → b < m + 27 ∨ m + 32 < b → I3 b = I b := fun b b0 b1 => by rw [hI3, mwn_ne (by omega), mwn_ne (by omega), mwn_ne (by omega), hI2, mwn_ne (by omega), mwn_ne (by omega), i0 b b0]
    have fm : I3 m = I0 m := by rw [hI3, mwn_ne (by omega), mwn_ne (by omega), mwn_ne (by omega), hI2, mwn_ne (by omega), mwn_ne (by omega)]
    have f : ∀ k, k ≠ 48 → k ≠ 49 → k ≠ 50 → I3 m k = I m k := fun k a b c => by rw [fm, f0 k a b c]
    have rl2 : ∀ b, b ≠ m + 29 → L2 b = L b := fun b hb => by rw [hL2, mwn_ne hb]
    have hIM : IM m (aImg A) I3 L2 := by
      obtain ⟨⟨a1, a2⟩, a3, a4, a5, a6, a7, a8⟩ := h
      have hdk := hA.2.2.2.1 h0
      refine ⟨⟨by rw [f 9 (by decide) (by decide) (by decide)]; exact a1, fun k hk => by rw [r (m + 7) (by omega) (by omega)]; exact a2 k hk⟩, by rw [f 1 (by decide) (by decide) (by decide)]; exact a3, by rw [f 0 (by decide) (by decide) (by decide)]; exact a4, mR_eq a5 (r _ (by omega) (by omega)) (rl2 _ (by omega)) (r _ (by omega) (by omega)) (r _ (by omega) (by omega)) (r _ (by omega) (by omega)) (r _ (by omega) (by omega)) (f 5 (by decide) (by decide) (by decide)), ?_, fun _ => ⟨?_, ?_⟩, cache_eq a8 (f 15 (by decide) (by decide) (by decide)) (f 19 (by decide) (by decide) (by decide)) (r _ (by omega) (by omega)) (r _ (by omega) (by omega)) (rl2 _ (by omega)) (rl2 _ (by omega))⟩
      · show _ = bI (decide (adk A ≠ 0))
        rw [fm, hI0, up_nk (by decide), up_nk (by decide), up_eq]; simp [hdk, bI]
      · show _ = nI (adk A)
        rw [fm, hI0, up_nk (by decide), up_eq]; exact a4
      · refine mR_copy a5 hA.2.2.2.2.1.2.1 (fun j hj => ?_) (fun t ht => by rw [hL2, mwn_at ht]) (fun j hj => ?_) (fun j hj => ?_) (fun j hj => ?_) (fun j hj => by rw [hI3, mwn_at hj]) (by rw [fm, hI0, up_eq])
        · rw [hI3, mwn_ne (by omega), mwn_ne (by omega), mwn_ne (by omega), hI2, mwn_ne (by omega), mwn_at hj]
        · rw [hI3, mwn_ne (by omega), mwn_ne (by omega), mwn_ne (by omega), hI2, mwn_at hj]
        · rw [hI3, mwn_ne (by omega), mwn_ne (by omega), mwn_at hj]
        · rw [hI3, mwn_ne (by omega), mwn_at hj]
    have hfil := m_filled (S := S) (A := aImg A) hm (ok_img hA) hIM
    have l96 := up_loop (P := fun i => hd_X9_image_96 S (fun v h => v = some (.int (nI (fcn (ac A) (asc A)))) ∧ h = (S, I3, L2)) m (nI i) (mwn (mwn (mwn I2 (m + 30) i (I (m + 4))) (m + 31) i (I (m + 5))) (m + 32) i (I (m + 6))) L2) 6
      (it_X9_image_96 hm (ge_t (k := 6) (Nat.le_refl _) (by decide) ⟨_, _, _, by rw [← hI3]; exact hfil, rfl, rfl⟩))
      (fun i hi ih => it_X9_image_96 hm (by
        have hv : vp_in (nI i) 6 := vp_in_nI hi (by decide)
        have q4 : mwn (mwn (mwn I2 (m + 30) i (I (m + 4))) (m + 31) i (I (m + 5))) (m + 32) i (I (m + 6)) (m + 4) i = I (m + 4) i := by rw [mwn_ne (by omega), mwn_ne (by omega), mwn_ne (by omega), hI2, mwn_ne (by omega), mwn_ne (by omega), i0 _ (by omega)]
        have q5 : mwn (mwn (mwn I2 (m + 30) i (I (m + 4))) (m + 31) i (I (m + 5))) (m + 32) i (I (m + 6)) (m + 5) = I (m + 5) := by rw [mwn_ne (by omega), mwn_ne (by omega), mwn_ne (by omega), hI2, mwn_ne (by omega), mwn_ne (by omega), i0 _ (by omega)]
        have q6 : mwn (mwn (mwn I2 (m + 30) i (I (m + 4))) (m + 31) i (I (m + 5))) (m + 32) i (I (m + 6)) (m + 6) = I (m + 6) := by rw [mwn_ne (by omega), mwn_ne (by omega), mwn_ne (by omega), hI2, mwn_ne (by omega), mwn_ne (by omega), i0 _ (by omega)]
        refine ge_f (k := 6) hi (by decide) ⟨hv, hv, hv, hv, hv, hv, fun y hy => ?_⟩
        rw [hy, nI_1, nI_clamp (by omega)]
        rw [up_ne (I := mwn (mwn (mwn I2 (m + 30) i (I (m + 4))) (m + 31) i (I (m + 5))) (m + 32) i (I (m + 6))) (b := m + 5) (by omega), q4, q5]
        rw [up_ne (b := m + 6) (a := m + 31) (by omega), up_ne (b := m + 6) (a := m + 30) (by omega), q6]
        rw [up_mwn (by omega), up_mwn (by omega), mwn_s _ _ _ _ _ rfl, up_mwn (by omega), mwn_s _ _ _ _ _ rfl, mwn_s _ _ _ _ _ rfl]
        exact ih))
    have l70 := up_loop (P := fun i => hd_X9_image_70 S (fun v h => v = some (.int (nI (fcn (ac A) (asc A)))) ∧ h = (S, I3, L2)) m (nI i) I2 (mwn L (m + 29) i (L (m + 2)))) 24
      (it_X9_image_70 hm (ge_t (k := 24) (Nat.le_refl _) (by decide) (by
        have := l96 0 (by decide)
        rw [mwn_0, mwn_0, mwn_0] at this
        rw [← hL2]; exact this)))
      (fun i hi ih => it_X9_image_70 hm (ge_f (k := 24) hi (by decide) ⟨vp_in_nI hi (by decide), vp_in_nI hi (by decide), fun y hy => by
        rw [hy, nI_1, nI_clamp (by omega), mwn_ne (b := m + 2) (by omega), mwn_s _ _ _ _ _ rfl]; exact ih⟩))
    have l33 := up_loop (P := fun i => hd_X9_image_33 S (fun v h => v = some (.int (nI (fcn (ac A) (asc A)))) ∧ h = (S, I3, L2)) m (nI i) (mwn (mwn I0 (m + 27) i (I (m + 1))) (m + 28) i (I (m + 3))) L) 4
      (it_X9_image_33 hm (ge_t (k := 4) (Nat.le_refl _) (by decide) (by
        have := l70 0 (by decide)
        rw [mwn_0] at this
        rw [← hI2]; exact this)))
      (fun i hi ih => it_X9_image_33 hm (by
        have hv : vp_in (nI i) 4 := vp_in_nI hi (by decide)
        have q1 : mwn (mwn I0 (m + 27) i (I (m + 1))) (m + 28) i (I (m + 3)) (m + 1) i = I (m + 1) i := by rw [mwn_ne (by omega), mwn_ne (by omega), i0 _ (by omega)]
        have q3 : mwn (mwn I0 (m + 27) i (I (m + 1))) (m + 28) i (I (m + 3)) (m + 3) = I (m + 3) := by rw [mwn_ne (by omega), mwn_ne (by omega), i0 _ (by omega)]
        refine ge_f (k := 4) hi (by decide) ⟨hv, hv, hv, hv, fun y hy => ?_⟩
        rw [hy, nI_1, nI_clamp (by omega), up_ne (b := m + 3) (by omega), q1, q3, up_mwn (by omega), mwn_s _ _ _ _ _ rfl, mwn_s _ _ _ _ _ rfl]
        exact ih))
    have e0 := l33 0 (by decide)
    rw [mwn_0, mwn_0] at e0
    refine ⟨I3, L2, wp_X9_image hm ?_, hIM, fun b hb => ⟨r b (fun e => hb (by unfold moX; omega)) (by unfold moX at hb; omega), rl2 b (fun e => hb (by unfold moX; omega))⟩⟩
    rw [h.2.1]
    refine ⟨fun _ => ?_, fun q => absurd q hn0⟩
    rw [up_nk (show (5 : Nat) ≠ 49 by decide), up_nk (show (5 : Nat) ≠ 48 by decide), up_nk (show (0 : Nat) ≠ 48 by decide), ← hI0]
    exact e0
theorem m_restore (hm : is_Model S m) (hA : aOK A) (h : IM m A I L) : ∃ I1 L1, CTi mr_X9_restore [.ref m] S I L (sp_restore A).1 I1 L1 ∧ IM m (sp_restore A).2 I1 L1 ∧ fr (moX m) I L I1 L1 := by
  have h30 := hA.2.2.2.2.2.2
  unfold sp_restore
  by_cases h0 : asd A = 0
  · rw [if_pos h0]
    refine ⟨I, L, wp_X9_restore hm ?_, h, fr_rf⟩
    rw [h.2.2.2.2.1]
    have e : bI (decide (asd A ≠ 0)) = 0 := by simp [h0, bI]
    rw [e]
    exact ⟨fun _ => ⟨rfl, rfl⟩, fun q => absurd rfl q⟩
  · rw [if_neg h0]
    have h48 : I m 48 = 1 := by rw [h.2.2.2.2.1]; simp [h0, bI]
    obtain ⟨h49, hsv⟩ := h.2.2.2.2.2.1 h0
    have hcs := hA.2.2.2.2.2.1 h0
    by_cases h1 : asd A = adk A
    · rw [if_pos h1]
      obtain ⟨I0, hI0⟩ : ∃ I0, I0 = mj_up I m 5 (I m 50) := ⟨_, rfl⟩
      have i0 : ∀ b, b ≠ m → I0 b = I b := fun b hb => by rw [hI0, up_ne hb]
      have f0 : ∀ k, k ≠ 5 → I0 m k = I m k := fun k a => by rw [hI0, up_nk a]
      obtain ⟨I2, hI2⟩ : ∃ I2, I2 = mwn (mwn I0 (m + 1) 4 (I (m + 27))) (m + 3) 4 (I (m + 28)) := ⟨_, rfl⟩
      obtain ⟨L2, hL2⟩ : ∃ L2, L2 = mwn L (m + 2) 24 (L (m + 29)) := ⟨_, rfl⟩
      obtain ⟨I3, hI3⟩ : ∃ I3, I3 = mwn (mwn (mwn I2 (m + 4) 6 (I (m + 30))) (m + 5) 6 (I (m + 31))) (m + 6) 6 (I (m + 32)) := ⟨_, rfl⟩
      have r : ∀ b, b ≠ m → b < m + 1 ∨ m + 6 < b → I3 b = I b := fun b b0 b1 => by rw [hI3, mwn_ne (by omega), mwn_ne (by omega), mwn_ne (by omega), hI2, mwn_ne (by omega), mwn_ne (by omega), i0 b b0]
      have fm : I3 m = I0 m := by rw [hI3, mwn_ne (by omega), mwn_ne (by omega), mwn_ne (by omega), hI2, mwn_ne (by omega), mwn_ne (by omega)]
      have f : ∀ k, k ≠ 5 → I3 m k = I m k := fun k a => by rw [fm, f0 k a]
      have rl2 : ∀ b, b ≠ m + 2 → L2 b = L b := fun b hb => by rw [hL2, mwn_ne hb]
      have hIM : IM m (aCore A (asv A)) I3 L2 := by
        refine IM_co h (fun b hb => ⟨r b (by omega) (by omega), rl2 b (by omega)⟩) (fun k hk => f k (by omega)) ?_ (cache_eq h.2.2.2.2.2.2 (f 15 (by decide)) (f 19 (by decide)) (r _ (by omega) (by omega)) (r _ (by omega) (by omega)) (rl2 _ (by omega)) (rl2 _ (by omega)))
        refine mR_copy hsv hcs.2.1 (fun j hj => ?_) (fun t ht => by rw [hL2, mwn_at ht]) (fun j hj => ?_) (fun j hj => ?_) (fun j hj => ?_) (fun j hj => by rw [hI3, mwn_at hj]) (by rw [fm, hI0, up_eq])
        · rw [hI3, mwn_ne (by omega), mwn_ne (by omega), mwn_ne (by omega), hI2, mwn_ne (by omega), mwn_at hj]
        · rw [hI3, mwn_ne (by omega), mwn_ne (by omega), mwn_ne (by omega), hI2, mwn_at hj]
        · rw [hI3, mwn_ne (by omega), mwn_ne (by omega), mwn_at hj]
        · rw [hI3, mwn_ne (by omega), mwn_at hj]
      have hfil := m_filled (S := S) (A := aCore A (asv A)) hm (ok_core hA hcs) hIM
      have l94 := up_loop (P := fun i => hd_X9_restore_94 S (fun v h => v = some (.int (nI (fcn (asv A) (asc A)))) ∧ h = (S, I3, L2)) m (nI i) (mwn (mwn (mwn I2 (m + 4) i (I (m + 30))) (m + 5) i (I (m + 31))) (m + 6) i (I (m + 32))) L2) 6
        (it_X9_restore_94 hm (ge_t (k := 6) (Nat.le_refl _) (by decide) ⟨_, _, _, by rw [← hI3]; exact hfil, rfl, rfl⟩))
        (fun i hi ih => it_X9_restore_94 hm (by
          have hv : vp_in (nI i) 6 := vp_in_nI hi (by decide)
          have q4 : mwn (mwn (mwn I2 (m + 4) i (I (m + 30))) (m + 5) i (I (m + 31))) (m + 6) i (I (m + 32)) (m + 30) i = I (m + 30) i := by rw [mwn_ne (by omega), mwn_ne (by omega), mwn_ne (by omega), hI2, mwn_ne (by omega), mwn_ne (by omega), i0 _ (by omega)]
          have q5 : mwn (mwn (mwn I2 (m + 4) i (I (m + 30))) (m + 5) i (I (m + 31))) (m + 6) i (I (m + 32)) (m + 31) = I (m + 31) := by rw [mwn_ne (by omega), mwn_ne (by omega), mwn_ne (by omega), hI2, mwn_ne (by omega), mwn_ne (by omega), i0 _ (by omega)]
          have q6 : mwn (mwn (mwn I2 (m + 4) i (I (m + 30))) (m + 5) i (I (m + 31))) (m + 6) i (I (m + 32)) (m + 32) = I (m + 32) := by rw [mwn_ne (by omega), mwn_ne (by omega), mwn_ne (by omega), hI2, mwn_ne (by omega), mwn_ne (by omega), i0 _ (by omega)]
          refine ge_f (k := 6) hi (by decide) ⟨hv, hv, hv, hv, hv, hv, fun y hy => ?_⟩
          rw [hy, nI_1, nI_clamp (by omega)]
          rw [up_ne (I := mwn (mwn (mwn I2 (m + 4) i (I (m + 30))) (m + 5) i (I (m + 31))) (m + 6) i (I (m + 32))) (b := m + 31) (by omega), q4, q5]
          rw [up_ne (b := m + 32) (a := m + 5) (by omega), up_ne (b := m + 32) (a := m + 4) (by omega), q6]
          rw [up_mwn (by omega), up_mwn (by omega), mwn_s _ _ _ _ _ rfl, up_mwn (by omega), mwn_s _ _ _ _ _ rfl, mwn_s _ _ _ _ _ rfl]
          exact ih))
      have l68 := up_loop (P := fun i => hd_X9_restore_68 S (fun v h => v = some (.int (nI (fcn (asv A) (asc A)))) ∧ h = (S, I3, L2)) m (nI i) I2 (mwn L (m + 2) i (L (m + 29)))) 24
        (it_X9_restore_68 hm (ge_t (k := 24) (Nat.le_refl _) (by decide) (by
          have := l94 0 (by decide)
          rw [mwn_0, mwn_0, mwn_0] at this
          rw [← hL2]; exact this)))
        (fun i hi ih => it_X9_restore_68 hm (ge_f (k := 24) hi (by decide) ⟨vp_in_nI hi (by decide), vp_in_nI hi (by decide), fun y hy => by
          rw [hy, nI_1, nI_clamp (by omega), mwn_ne (b := m + 29) (by omega), mwn_s _ _ _ _ _ rfl]; exact ih⟩))
      have l31 := up_loop (P := fun i => hd_X9_restore_31 S (fun v h => v = some (.int (nI (fcn (asv A) (asc A)))) ∧ h = (S, I3, L2)) m (nI i) (mwn (mwn I0 (m + 1) i (I (m + 27))) (m + 3) i (I (m + 28))) L) 4
        (it_X9_restore_31 hm (ge_t (k := 4) (Nat.le_refl _) (by decide) (by
          have := l68 0 (by decide)
          rw [mwn_0] at this
          rw [← hI2]; exact this)))
        (fun i hi ih => it_X9_restore_31 hm (by
          have hv : vp_in (nI i) 4 := vp_in_nI hi (by decide)
          have q1 : mwn (mwn I0 (m + 1) i (I (m + 27))) (m + 3) i (I (m + 28)) (m + 27) i = I (m + 27) i := by rw [mwn_ne (by omega), mwn_ne (by omega), i0 _ (by omega)]
          have q3 : mwn (mwn I0 (m + 1) i (I (m + 27))) (m + 3) i (I (m + 28)) (m + 28) = I (m + 28) := by rw [mwn_ne (by omega), mwn_ne (by omega), i0 _ (by omega)]
          refine ge_f (k := 4) hi (by decide) ⟨hv, hv, hv, hv, fun y hy => ?_⟩
          rw [hy, nI_1, nI_clamp (by omega), up_ne (b := m + 28) (by omega), q1, q3, up_mwn (by omega), mwn_s _ _ _ _ _ rfl, mwn_s _ _ _ _ _ rfl]
          exact ih))
      have e0 := l31 0 (by decide)
      rw [mwn_0, mwn_0] at e0
      refine ⟨I3, L2, wp_X9_restore hm ?_, hIM, fun b hb => ⟨r b (fun e => hb (by unfold moX; omega)) (by unfold moX at hb; omega), rl2 b (fun e => hb (by unfold moX; omega))⟩⟩
      rw [h48, h49, h.2.2.1, h1]
      refine ⟨fun q => absurd q (by decide), fun _ => ⟨fun _ => ?_, fun q => absurd rfl q⟩⟩
      rw [← hI0]; exact e0
    · rw [if_neg h1]
      refine ⟨I, L, wp_X9_restore hm ?_, h, fr_rf⟩
      rw [h48, h49, h.2.2.1]
      exact ⟨fun q => absurd q (by decide), fun _ => ⟨fun q => absurd ((nI_eq (by omega) (by omega)).mp q) h1, fun _ => ⟨rfl, rfl⟩⟩⟩
end
