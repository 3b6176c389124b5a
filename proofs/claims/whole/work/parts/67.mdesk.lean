/-! THE REFERENCE: a desk is read; factors are told -/
variable {S : List mjD} {I : Nat → Nat → Int32} {L : Nat → Nat → Int64}
section
variable {m : Nat} {A : aS}
theorem m_kb {k : Nat} (hA : aOK A) (hk : k < apn A) : CTi mr_X9_kindBy [.int (apc A k)] S I L (kl (apc A k)) I L := by
  obtain ⟨n, h1, h2, h3⟩ := hA.2.1 k hk
  rw [h3]
  exact m_kindBy (by omega)
theorem m_desk (hm : is_Model S m) (hA : aOK A) (h : IM m A I L) : ∃ I1 L1, CTi mr_X9_desk [.ref m] S I L (sp_desk A).1 I1 L1 ∧ IM m (sp_desk A).2 I1 L1 ∧ fr (moX m) I L I1 L1 := by
  have h40 := hA.1
  have e9 := h.1.1
  have hw := m_w (S := S) (I := I) (L := L) (I m 9) (lo := 1) (hi := 4) 1 4 rfl rfl
  have et : (I m 9).toInt = apn A := by rw [e9]; exact nI_toInt (by omega)
  unfold sp_desk
  have no : ∀ {RET : Option Value → mjH → Prop}, RET (some (.int (-103))) (S, I, L) → ∀ y : Int32, hd_X9_desk_15 S RET m 0 y I L := fun hR y => it_X9_desk_15 hm ⟨fun _ => ⟨fun q => absurd rfl q, fun _ => hR⟩, fun _ => ⟨fun _ => ⟨fun q => absurd rfl q, fun _ => hR⟩, fun q => absurd rfl q⟩⟩
  by_cases hr : 1 ≤ apn A ∧ apn A ≤ 4
  · obtain ⟨r1, r4⟩ := hr
    rw [if_neg (by rw [et]; omega)] at hw
    have check : ∀ i, i ≤ apn A → ∀ {RET : Option Value → mjH → Prop}, ((∀ k, i ≤ k → k < apn A → kl (apc A k) ≠ -1) → hd_X9_desk_69 S RET m 0 (mj_up I m 1 (I m 9)) L) → (¬ (∀ k, i ≤ k → k < apn A → kl (apc A k) ≠ -1) → RET (some (.int (-103))) (S, I, L)) → hd_X9_desk_15 S RET m 1 (nI i) I L := up_loop (apn A)
      (fun h1 _ => it_X9_desk_15 hm (by
        rw [e9]
        refine ge_t (Nat.le_refl _) (by omega) ⟨fun _ => ?_, fun q => absurd q (by decide)⟩
        rw [← e9]; exact h1 (fun k a b => by omega)))
      (fun i hi ih {RET} h1 h0 => it_X9_desk_15 hm (by
        rw [e9]
        refine ge_f hi (by omega) ⟨fun q => absurd q (by decide), fun _ => ⟨vp_in_nI (by omega) (by decide), ?_⟩⟩
        rw [nI_clamp (by omega), h.1.2 i hi]
        refine ⟨_, _, _, m_kb hA hi, fun q y hy => ?_, fun q y hy => ?_⟩
        · exact no (h0 (fun hk => hk i (Nat.le_refl _) hi q)) y
        · rw [hy, nI_1]
          refine ih (fun hk => h1 (fun k a b => ?_)) (fun hk => h0 (fun hk2 => hk (fun k a b => hk2 k (by omega) b)))
          rcases Nat.eq_or_lt_of_le a with e | e
          · rw [← e]; exact q
          · exact hk k e b))
    by_cases hk : dkB A (apn A) = true
    · rw [if_pos ⟨r1, r4, hk⟩]
      rw [dkB_iff] at hk
      obtain ⟨Ib, hIb⟩ : ∃ Ib, Ib = mj_up I m 1 (nI (apn A)) := ⟨_, rfl⟩
      obtain ⟨I2, hI2⟩ : ∃ I2, I2 = mwn (mwn Ib (m + 1) (apn A) (fun k => kl (apc A k))) (m + 3) (apn A) (fun _ => (-1 : Int32)) := ⟨_, rfl⟩
      have f2 : I2 m = Ib m := by rw [hI2, mwn_ne (by omega), mwn_ne (by omega)]
      obtain ⟨I3, hI3⟩ : ∃ I3, I3 = mj_up (mj_up (mj_up I2 m 0 (I2 m 0 + (1 : Int32))) m 5 (0 : Int32)) m 9 (0 : Int32) := ⟨_, rfl⟩
      have r3 : ∀ b, b ≠ m → I3 b = I2 b := fun b hb => by rw [hI3, up_ne hb, up_ne hb, up_ne hb]
      have r : ∀ b, b ≠ m → b ≠ m + 1 → b ≠ m + 3 → I3 b = I b := fun b b0 b1 b2 => by rw [r3 b b0, hI2, mwn_ne b2, mwn_ne b1, hIb, up_ne b0]
      have f3 : ∀ k, k ≠ 0 → k ≠ 1 → k ≠ 5 → k ≠ 9 → I3 m k = I m k := fun k k0 k1 k5 k9 => by rw [hI3, up_nk k9, up_nk k5, up_nk k0, f2, hIb, up_nk k1]
      have b0 : I3 m 0 = nI (adk A + 1) := by rw [hI3, up_nk (by decide), up_nk (by decide), up_eq, f2, hIb, up_nk (by decide), h.2.2.1, nI_1]
      have b1 : I3 m 1 = nI (apn A) := by rw [hI3, up_nk (by decide), up_nk (by decide), up_nk (by decide), f2, hIb, up_eq]
      have b5 : I3 m 5 = 0 := by rw [hI3, up_nk (by decide), up_eq]
      have b9 : I3 m 9 = 0 := by rw [hI3, up_eq]
      have n1 : m ≠ m + 3 := by omega
      have n2 : m ≠ m + 1 := by omega
      have n3 : m + 7 ≠ m + 3 := by omega
      have n4 : m + 7 ≠ m + 1 := by omega
      have n5 : m + 3 ≠ m + 1 := by omega
      have key := up_loop (P := fun i => hd_X9_desk_69 S (fun v h => v = some (.int (nI (apn A))) ∧ h = (S, I3, L)) m (nI i) (mwn (mwn Ib (m + 1) i (fun k => kl (apc A k))) (m + 3) i (fun _ => (-1 : Int32))) L) (apn A)
        (it_X9_desk_69 hm (by
          rw [← hI2, f2, hIb, up_eq, ← hIb]
          refine ge_t (Nat.le_refl _) (by omega) ?_
          rw [← f2, ← hI3]
          exact ⟨by rw [b1], rfl⟩))
        (fun i hi ih => it_X9_desk_69 hm (by
          rw [mwn_ne n1, mwn_ne n2, hIb, up_eq, ← hIb]
          refine ge_f hi (by omega) ⟨vp_in_nI (by omega) (by decide), ?_⟩
          rw [nI_clamp (by omega), mwn_ne n3, mwn_ne n4, hIb, up_ne (show m + 7 ≠ m by omega), h.1.2 i hi, ← hIb]
          refine ⟨_, _, _, m_kb hA hi, vp_in_nI (by omega) (by decide), vp_in_nI (by omega) (by decide), fun y hy => ?_⟩
          rw [hy, nI_1, up_mwn n5, mwn_s _ _ _ (fun k => kl (apc A k)) _ rfl, mwn_s _ _ _ (fun _ => (-1 : Int32)) _ rfl]
          exact ih))
      have k0 := key 0 (Nat.zero_le _)
      rw [mwn_0, mwn_0, hIb] at k0
      obtain ⟨⟨a1, a2⟩, a3, a4, a5, a6, a7, a8⟩ := h
      have c1 := check 0 (Nat.zero_le _) (RET := fun v h => v = some (.int (nI (apn A))) ∧ h = (S, I3, L)) (fun _ => by rw [e9]; exact k0) (fun q => absurd (fun k _ hk2 => hk k hk2) q)
      refine ⟨I3, L, wp_X9_desk hm ⟨_, _, _, hw, c1⟩, ⟨⟨b9, fun k hk => by have : k < 0 := hk; omega⟩, b1, b0, ⟨fun j hj => ?_, b5, fun i hi => by have : i < 0 := hi; omega⟩, by rw [f3 48 (by decide) (by decide) (by decide) (by decide)]; exact a6, fun hh => ⟨by rw [f3 49 (by decide) (by decide) (by decide) (by decide)]; exact (a7 hh).1, mR_eq (a7 hh).2 (r _ (by omega) (by omega) (by omega)) rfl (r _ (by omega) (by omega) (by omega)) (r _ (by omega) (by omega) (by omega)) (r _ (by omega) (by omega) (by omega)) (r _ (by omega) (by omega) (by omega)) (f3 50 (by decide) (by decide) (by decide) (by decide))⟩, cache_eq a8 (f3 15 (by decide) (by decide) (by decide) (by decide)) (f3 19 (by decide) (by decide) (by decide) (by decide)) (r _ (by omega) (by omega) (by omega)) (r _ (by omega) (by omega) (by omega)) rfl rfl⟩, fun b hb => ⟨r b (fun e => hb (by unfold moX; omega)) (fun e => hb (by unfold moX; omega)) (fun e => hb (by unfold moX; omega)), rfl⟩⟩
      obtain ⟨c1, c2, c3⟩ := a5.1 j hj
      show I3 (m + 1) j = nI (if j < apn A then (kl (apc A j)).toNatClampNeg else ck (ac A) j) ∧ ((if j < apn A then false else cf (ac A) j) = false → I3 (m + 3) j = -1) ∧ ((if j < apn A then false else cf (ac A) j) = true → I3 (m + 3) j = dg (cp (ac A) j) ∧ ∀ t, t < 6 → L (m + 2) (6 * j + t) = cp (ac A) j t)
      rw [r3 _ (by omega), r3 _ (by omega), hI2, mwn_ne (by omega)]
      by_cases c : j < apn A
      · rw [if_pos c, if_pos c, mwn_at c, mwn_at c]
        exact ⟨kl_nI hA c (hk j c), fun _ => rfl, fun q => (by cases q)⟩
      · have ob : ∀ {f : Nat → Int32} {J : Nat → Nat → Int32} {q : Nat}, mwn J q (apn A) f q j = J q j := fun {f J q} => by simp [mwn, c]
        rw [if_neg c, if_neg c, ob, ob, mwn_ne (by omega), hIb, up_ne (by omega), up_ne (by omega)]
        exact ⟨c1, c2, c3⟩
    · rw [if_neg (fun z => hk z.2.2)]
      have c1 := check 0 (Nat.zero_le _) (RET := fun v h => v = some (.int (-103)) ∧ h = (S, I, L)) (fun q => absurd (dkB_iff _ |>.mpr (fun k hk2 => q k (Nat.zero_le _) hk2)) hk) (fun _ => ⟨rfl, rfl⟩)
      exact ⟨I, L, wp_X9_desk hm ⟨_, _, _, hw, c1⟩, h, fr_rf⟩
  · rw [if_neg (fun z => hr ⟨z.1, z.2.1⟩)]
    rw [if_pos (by rw [et]; omega)] at hw
    exact ⟨I, L, wp_X9_desk hm ⟨_, _, _, hw, no (RET := fun v h => v = some (.int (-103)) ∧ h = (S, I, L)) ⟨rfl, rfl⟩ _⟩, h, fr_rf⟩
end
