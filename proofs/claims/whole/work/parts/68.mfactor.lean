/-! THE REFERENCE: a factor is told; sums over factors -/
variable {S : List mjD} {I : Nat → Nat → Int32} {L : Nat → Nat → Int64}
section
variable {m : Nat} {A : aS}
theorem m_deg {n j : Nat} {P : Nat → List Int} {M : Nat → Nat} (hR : mRep m n P M I L) (hj : j < n) : I (m + 13) j = dg (il (P j)) ∧ I (m + 12) j = nI (M j) ∧ ∀ k, k < 6 → L (m + 11) (6 * j + k) = il (P j) k := by
  obtain ⟨h1, h2, d, hd6, h3, h4, h5⟩ := hR.2.2 j hj
  have hil : ∀ k, k < 6 → L (m + 11) (6 * j + k) = il (P j) k := fun k hk => il_of (f := fun k => L (m + 11) (6 * j + k)) h1 hk
  refine ⟨?_, h2, hil⟩
  have hd : deg6 (il (P j)) d := ⟨hd6, fun e => by
    have e1 := hil d hd6
    rw [e] at e1
    have e2 : zco (P j) d = (L (m + 11) (6 * j + d)).toInt := by rw [← h1]; exact rl_co (fun k => L (m + 11) (6 * j + k)) hd6
    rw [e1] at e2
    rw [e2] at h5
    exact absurd h5 (by decide), fun k h1 h2 => by
    show Int64.ofInt (zco (P j) k) = 0
    rw [h4 k (by omega)]; rfl⟩
  rw [h3, deg6_dg hd]
theorem m_factor (hm : is_Model S m) (hA : aOK A) (h : IM m A I L) (a b c : Int32) : ∃ I1 L1, CTi mr_X9_factor [.ref m, .int a, .int b, .int c] S I L (sp_factor A a b c) I1 L1 ∧ IM m A I1 L1 ∧ fr (moX m) I L I1 L1 := by
  have ha := m_isFilled (S := S) (I := I) (L := L) hm hA h.2.1 h.2.2.2.1 a
  unfold sp_factor
  cases ea : fIdx A a with
  | none =>
    rw [ea] at ha
    exact ⟨I, L, wp_X9_factor hm ⟨_, _, _, ha, fun q => absurd rfl q, fun _ => ⟨rfl, rfl⟩⟩, h, fr_rf⟩
  | some i =>
    obtain ⟨rfl, -, i4, if'⟩ := fIdx_some hA ea
    rw [ea, one_some] at ha
    obtain ⟨I1, L1, a1, a2, a3, a4, a5, a6, -⟩ := m_layAll (S := S) hm hA h i4 if'
    have h1 : IM m A I1 L1 := IM_sc (IM_w h) (frS_L a4) a5
    have f1 : fr (moX m) I L I1 L1 := frS_mo (frS_tr frS_w (frS_L a4))
    have hn5 := a6.2.2.1
    have h19 := a6.2.1
    simp only
    obtain ⟨N, hN⟩ : ∃ N, N = fN (gl A i) := ⟨_, rfl⟩
    have hR := a6.2
    rw [← hN] at hn5 h19 hR ⊢
    have hs : (nI N - (1 : Int32)).toInt = (N : Int) - 1 := pk_sub_toInt (b := 1) (by omega) (by decide)
    have hw := m_w (S := S) (I := I1) (L := L1) b (lo := 0) (hi := (nI N - (1 : Int32)).toInt64) 0 ((N : Int) - 1) rfl (by rw [Int32.toInt_toInt64]; exact hs)
    have hw2 := m_w (S := S) (I := I1) (L := L1) c (lo := 0) (hi := 7) 0 7 rfl rfl
    have l1 := lt_i (a := b) (k := 0) (n := 0) rfl
    have l2 := le_i (a := b) (k := nI N) (n := N) (nI_toInt (by omega))
    have l3 := lt_i (a := c) (k := 0) (n := 0) rfl
    have l4 := lt_i (a := c) (k := 8) (n := 8) rfl
    by_cases b1 : b < 0
    · rw [if_pos (Or.inl (l1.mp b1))] at hw
      rw [if_pos b1]
      exact ⟨I1, L1, wp_X9_factor hm ⟨_, _, _, ha, fun _ => ⟨_, _, a1, _, _, a2, _, _, _, by rw [h19]; exact hw, fun q => absurd rfl q, fun _ => ⟨rfl, rfl⟩⟩, fun q => absurd q (by decide)⟩, h1, f1⟩
    · rw [if_neg b1]
      by_cases b2 : nI N ≤ b
      · rw [if_pos (Or.inr (by have := l2.mp b2; omega))] at hw
        rw [if_pos b2]
        exact ⟨I1, L1, wp_X9_factor hm ⟨_, _, _, ha, fun _ => ⟨_, _, a1, _, _, a2, _, _, _, by rw [h19]; exact hw, fun q => absurd rfl q, fun _ => ⟨rfl, rfl⟩⟩, fun q => absurd q (by decide)⟩, h1, f1⟩
      · rw [if_neg b2]
        rw [if_neg (fun z => z.elim (fun z => b1 (l1.mpr z)) (fun z => b2 (l2.mpr (by omega))))] at hw
        obtain ⟨k, hk, rfl⟩ := vp_in_of (in_of (n := N) (by omega) b1 b2) (by omega)
        rw [nI_clamp (show k < 2 ^ 31 by omega)]
        obtain ⟨r13, r12, r11⟩ := m_deg hR hk
        by_cases c1 : c < 0
        · rw [if_pos (Or.inl (l3.mp c1))] at hw2
          rw [if_pos c1]
          exact ⟨I1, L1, wp_X9_factor hm ⟨_, _, _, ha, fun _ => ⟨_, _, a1, _, _, a2, _, _, _, by rw [h19]; exact hw, fun _ => ⟨_, _, _, hw2, fun _ => ⟨rfl, rfl⟩, fun q => absurd rfl q⟩, fun q => absurd q (by decide)⟩, fun q => absurd q (by decide)⟩, h1, f1⟩
        · rw [if_neg c1]
          by_cases c2 : c < 8
          · rw [if_neg (fun z => z.elim (fun z => c1 (l3.mpr z)) (fun z => by have := l4.mp c2; omega))] at hw2
            rw [if_pos c2]
            obtain ⟨t, ht31, rfl⟩ := nI_of (x := c) c1
            have ht8 : t < 8 := (nI_ltI (b := 8) ht31 (by decide)).mp c2
            have fin : ∀ r : Int32, CTi mr_X9_factorNow [.ref m, .int (nI k), .int (nI t)] S I1 L1 r I1 L1 → ∃ I1 L1, CTi mr_X9_factor [.ref m, .int (nI i), .int (nI k), .int (nI t)] S I L r I1 L1 ∧ IM m A I1 L1 ∧ fr (moX m) I L I1 L1 := fun r hr =>
              ⟨I1, L1, wp_X9_factor hm ⟨_, _, _, ha, fun _ => ⟨_, _, a1, _, _, a2, _, _, _, by rw [h19]; exact hw, fun _ => ⟨_, _, _, hw2, fun q => absurd q (by decide), fun _ => ⟨_, _, _, hr, rfl, rfl⟩⟩, fun q => absurd q (by decide)⟩, fun q => absurd q (by decide)⟩, h1, f1⟩
            have vk : vp_in (nI k) 6 := vp_in_nI (by omega) (by decide)
            have z0 : nI t = 0 ↔ t = 0 := nI_eq (b := 0) (by omega) (by decide)
            have z1 : nI t = 1 ↔ t = 1 := nI_eq (b := 1) (by omega) (by decide)
            refine fin _ ?_
            by_cases t0 : t = 0
            · rw [if_pos (z0.mpr t0)]
              refine wp_X9_factorNow hm ⟨fun q => absurd (z0.mpr t0) q, fun _ => ⟨vk, ?_, rfl⟩⟩
              rw [nI_clamp (show k < 2 ^ 31 by omega), r13]
            · rw [if_neg (fun q => t0 (z0.mp q))]
              by_cases t1 : t = 1
              · rw [if_pos (z1.mpr t1)]
                refine wp_X9_factorNow hm ⟨fun _ => ⟨fun q => absurd (z1.mpr t1) q, fun _ => ⟨vk, ?_, rfl⟩⟩, fun q => absurd (z0.mp q) t0⟩
                rw [nI_clamp (show k < 2 ^ 31 by omega), r12]
              · rw [if_neg (fun q => t1 (z1.mp q))]
                obtain ⟨s, rfl⟩ : ∃ s, t = s + 2 := ⟨t - 2, by omega⟩
                have e1 : (((6 : Int32) * nI k) + nI (s + 2)) - (2 : Int32) = nI (6 * k + s) := by
                  rw [nI_6]
                  exact pk_sub (a := 6 * k + s + 2) (b := 2) (by omega)
                have e2 : nI (s + 2) - (2 : Int32) = nI s := pk_sub (a := s + 2) (b := 2) (by omega)
                refine wp_X9_factorNow hm ⟨fun _ => ⟨fun _ => ?_, fun q => absurd (z1.mp q) t1⟩, fun q => absurd (z0.mp q) t0⟩
                rw [e1, e2, nI_clamp (show 6 * k + s < 2 ^ 31 by omega), r11 s (by omega), pat_n (by omega), Int32.add_comm]
                exact ⟨vp_in_nI (by omega) (by decide), rfl, rfl⟩
          · rw [if_pos (Or.inr (by
              have h9 : ¬ c.toInt < 8 := fun q => c2 (l4.mpr q)
              omega))] at hw2
            rw [if_neg c2]
            exact ⟨I1, L1, wp_X9_factor hm ⟨_, _, _, ha, fun _ => ⟨_, _, a1, _, _, a2, _, _, _, by rw [h19]; exact hw, fun _ => ⟨_, _, _, hw2, fun _ => ⟨rfl, rfl⟩, fun q => absurd rfl q⟩, fun q => absurd q (by decide)⟩, fun q => absurd q (by decide)⟩, h1, f1⟩
theorem m_allFactors {n : Nat} {P : Nat → List Int} {M : Nat → Nat} (hm : is_Model S m) (hR : mRep m n P M I L) : CTi mr_X9_allFactors [.ref m] S I L (nI (msum M n)) I L := by
  have h5 := hR.2.1
  have key := up_loop (P := fun i => hd_X9_allFactors_4 S (fun v h => v = some (.int (nI (msum M n))) ∧ h = (S, I, L)) m (nI (msum M i)) (nI i) I L) n
    (it_X9_allFactors_4 hm (by rw [hR.1]; exact ge_t (Nat.le_refl _) (by omega) ⟨rfl, rfl⟩))
    (fun i hi ih => it_X9_allFactors_4 hm (by
      rw [hR.1]
      refine ge_f hi (by omega) ⟨vp_in_nI (by omega) (by decide), fun y hy z hz => ?_⟩
      rw [hz, nI_1, hy, nI_clamp (by omega), (hR.2.2 i hi).2.1, nI_add]
      exact ih))
  exact wp_X9_allFactors hm (key 0 (Nat.zero_le _))
end
