/-! THE REFERENCE: its content, its factoring -/
variable {S : List mjD} {I : Nat → Nat → Int32} {L : Nat → Nat → Int64}
theorem up_up {α : Type} {L : Nat → Nat → α} {a k : Nat} {x y : α} : mj_up (mj_up L a k x) a k y = mj_up L a k y := by
  funext b j
  unfold mj_up
  by_cases h : b = a ∧ j = k <;> simp [h]
section
variable {m : Nat} {G : List Int} {r : Nat}
theorem m_layContent {n : Nat} (hm : is_Model S m) (hn : deg6 (L (m + 10)) n) (hb : bnd6 (L (m + 10)) (2 ^ 39)) : CTv mr_X9_layContent [.ref m] S I L I (mj_up L m 18 (cont (L (m + 10)))) := by
  refine wp_X9_layContent hm ?_
  have e10 : ∀ x : Int64, mj_up L m 18 x (m + 10) = L (m + 10) := fun x => up_ne (by omega)
  have key := up_loop (P := fun i => hd_X9_layContent_7 S (fun v h => v = none ∧ h = (S, I, mj_up L m 18 (cont (L (m + 10))))) m (nI i) I (mj_up L m 18 (lN (gN (L (m + 10)) i)))) 6
    (it_X9_layContent_7 hm (by
      have hd := m_degreeNow (S := S) (I := I) (L := mj_up L m 18 (lN (gN (L (m + 10)) 6))) hm
      rw [e10, deg6_dg hn] at hd
      refine ge_t (k := 6) (by decide) (by decide) ⟨_, _, _, hd, vp_in_nI hn.1 (by decide), fun h => ?_, fun h => ?_⟩
      · rw [e10, nI_clamp (by have := hn.1; omega)] at h
        refine ⟨rfl, ?_⟩
        rw [up_eq, up_up]
        have : cont (L (m + 10)) = lN (gN (L (m + 10)) 6) := by unfold cont; rw [deg6_dg hn, pat_n hn.1, if_pos h]
        rw [this]
      · rw [e10, nI_clamp (by have := hn.1; omega)] at h
        refine ⟨rfl, ?_⟩
        rw [up_eq, up_up]
        have : cont (L (m + 10)) = -(lN (gN (L (m + 10)) 6)) := by unfold cont; rw [deg6_dg hn, pat_n hn.1, if_neg h]
        rw [this]))
    (fun i hi ih => it_X9_layContent_7 hm (by
      have h1 := gN_le hb i (by omega)
      have h2 := hb i hi
      have e1 : (lN (gN (L (m + 10)) i)).toInt = gN (L (m + 10)) i := t_lN (by omega)
      have hg := m_divisor (S := S) (I := I) (L := mj_up L m 18 (lN (gN (L (m + 10)) i))) (a := lN (gN (L (m + 10)) i)) (b := L (m + 10) i) (by omega) (by omega)
      rw [e1] at hg
      refine ge_f (k := 6) hi (by decide) ⟨vp_in_nI hi (by decide), _, _, _, by rw [up_eq, e10, nI_clamp (by omega)]; exact hg, fun y hy => ?_⟩
      rw [hy, nI_1, up_up]
      exact ih))
  exact key 0 (by decide)
/-- the lines -/
theorem m_loop117 (hm : is_Model S m) (hG : gOK G) : ∀ r I' L', mcI okM m G r I' L' → ∃ I1 L1 r', mcI okM m G r' I1 L1 ∧ noLin (rl (L1 (m + 14))) ∧ frT m I' L' I1 L1 ∧ ∀ RET, hd_X9_layFactors_131 S RET m 1 I1 L1 → hd_X9_layFactors_117 S RET m 1 I' L' := by
  intro r
  induction r using Nat.strongRecOn with
  | ind r ih =>
    intro I' L' hmc
    obtain ⟨b, I1, L1, a1, a2, a3, a4⟩ := m_findLine (S := S) hm hG hmc
    cases b with
    | false =>
      refine ⟨I1, L1, r, (a4 rfl).1, (a4 rfl).2, a2, fun RET hk => it_X9_layFactors_117 hm ⟨fun h => absurd h (by decide), fun _ => ⟨_, _, _, a1, it_X9_layFactors_117 hm ⟨fun _ => hk, fun h => absurd rfl h⟩⟩⟩⟩
    | true =>
      obtain ⟨b1, b2⟩ := a3 rfl
      obtain ⟨I2, L2, r', c1, c2, c3, c4⟩ := ih (r - 1) (by omega) I1 L1 b2
      exact ⟨I2, L2, r', c1, c2, frT_tr a2 c3, fun RET hk => it_X9_layFactors_117 hm ⟨fun h => absurd h (by decide), fun _ => ⟨_, _, _, a1, c4 RET hk⟩⟩⟩
/-- the factors of degree 2 -/
theorem m_loop131 (hm : is_Model S m) (hG : gOK G) : ∀ r I' L', mcI okB m G r I' L' → noLin (rl (L' (m + 14))) → ∃ I1 L1 r', mcI okB m G r' I1 L1 ∧ noLin (rl (L1 (m + 14))) ∧ (noQuad (rl (L1 (m + 14))) ∨ r' ≤ 3) ∧ frF m I' L' I1 L1 ∧ ∀ RET, hd_X9_layFactors_131 S RET m 0 I1 L1 → hd_X9_layFactors_131 S RET m 1 I' L' := by
  intro r
  induction r using Nat.strongRecOn with
  | ind r ih =>
    intro I' L' hmc hlin
    obtain ⟨b, I1, L1, a1, a2, a3, a4, a5⟩ := m_findBow (S := S) hm hG hmc hlin
    cases b with
    | false => exact ⟨I1, L1, r, (a5 rfl).1, a3, (a5 rfl).2, a2, fun RET hk => it_X9_layFactors_131 hm ⟨fun h => absurd h (by decide), fun _ => ⟨_, _, _, a1, hk⟩⟩⟩
    | true =>
      obtain ⟨b1, b2⟩ := a4 rfl
      obtain ⟨I2, L2, r', c1, c2, c3, c4, c5⟩ := ih (r - 2) (by omega) I1 L1 b2 a3
      exact ⟨I2, L2, r', c1, c2, c3, frF_tr a2 c4, fun RET hk => it_X9_layFactors_131 hm ⟨fun h => absurd h (by decide), fun _ => ⟨_, _, _, a1, c5 RET hk⟩⟩⟩
/-- what is left is the last factor -/
theorem m_last (hm : is_Model S m) (hG : gOK G) (hmc : mcI okB m G r I L) (hlin : noLin (rl (L (m + 14)))) (hq : noQuad (rl (L (m + 14))) ∨ r ≤ 3) : ∃ I1 L1, hd_X9_layFactors_131 S (fun v h => v = none ∧ h = (S, I1, L1)) m 0 I L ∧ frF m I L I1 L1 ∧ ∃ n P M, mRep m n P M I1 L1 ∧ isF G n P M := by
  obtain ⟨n, P, M, f1, f2, f3, f4, f5, f6⟩ := hmc
  have hr6 := f4.1
  obtain ⟨hpr, d, k1, k2, k3, k4⟩ := gOK_rest hG f2.1 f3
  have hz := deg6_zlt f4
  have hdr : d = r := by
    rcases Nat.lt_trichotomy d r with z | z | z
    · exact absurd (k3 r z) hz.2
    · exact z
    · have := hz.1 d z; omega
  subst hdr
  rcases Nat.eq_zero_or_pos d with e | e
  · subst e
    refine ⟨I, L, it_X9_layFactors_131 hm ⟨fun _ => ?_, fun h => absurd rfl h⟩, frF_rf, n, P, M, f1, f2, fun x => ?_⟩
    · rw [f5]; exact ⟨fun _ => ⟨rfl, rfl⟩, fun h => absurd (by decide) h⟩
    · have h1 : zco (rl (L (m + 14))) 0 ∣ 1 := hpr _ (fun k => by
        cases k with
        | zero => exact Int.dvd_refl _
        | succ k => rw [k3 (k + 1) (by omega)]; exact Int.dvd_zero _)
      have h2 : zco (rl (L (m + 14))) 0 = 1 := by
        have := Int.le_of_dvd (by decide) h1
        omega
      rw [f3 x, zev_lt1 k3, h2, Int.mul_one]
  · obtain ⟨I2, hI2⟩ : ∃ I2, I2 = mj_up I m 26 (I m 24) := ⟨_, rfl⟩
    obtain ⟨L2, hL2⟩ : ∃ L2, L2 = mwn L (m + 15) 6 (L (m + 14)) := ⟨_, rfl⟩
    have hir := zirr_of hpr k3 hz.2 e (by omega) hlin hq
    have hR : mRep m n P M I2 L2 := ⟨by rw [hI2, up_nk (by decide)]; exact f1.1, f1.2.1, fun j hj => mHold_of (f1.2.2 j hj) (fun k _ => by rw [hL2, mwn_ne (by omega)]) (by rw [hI2, up_ne (by omega)]) (by rw [hI2, up_ne (by omega)])⟩
    obtain ⟨I3, L3, a1, a2, n', P', M', a3, a4, a5⟩ := m_addFactor (S := S) (I := I2) (L := L2) (T := L (m + 14)) (d := d) hm (fun k hk => by rw [hL2, mwn_at (by omega)]) f4 (by rw [← rl_co _ hr6]; exact k4) (by rw [hI2, up_eq]; exact f5) hR f2 (by omega) hir
    refine ⟨I3, L3, it_X9_layFactors_131 hm ⟨fun _ => ?_, fun h => absurd rfl h⟩, ⟨fun b b0 b1 => ?_, ?_, fun k c1 c2 c3 c4 c5 c6 => ?_⟩, n', P', M', a3, a4, fun x => by rw [a5 x, f3 x]⟩
    · refine ⟨fun h => absurd (by rw [f5] at h; exact h) (nI_nle e (by omega)), fun _ => ?_⟩
      rw [← hI2]
      have key := up_loop (P := fun i => hd_X9_layFactors_160 S (fun v h => v = none ∧ h = (S, I3, L3)) m (nI i) I2 (mwn L (m + 15) i (L (m + 14)))) 6
        (it_X9_layFactors_160 hm (ge_t (k := 6) (by decide) (by decide) ⟨_, _, by rw [← hL2]; exact a1, rfl, rfl⟩))
        (fun i hi ih => it_X9_layFactors_160 hm (ge_f (k := 6) hi (by decide) ⟨vp_in_nI hi (by decide), vp_in_nI hi (by decide), fun y hy => by
          rw [hy, nI_1, nI_clamp (by omega), mwn_ne (b := m + 14) (by omega), mwn_s _ _ _ _ _ rfl]; exact ih⟩))
      have := key 0 (by decide)
      rwa [mwn_0] at this
    · have h := a2.1 b b0 (by omega) (by omega) (by omega)
      exact ⟨by rw [h.1, hI2, up_ne b0], by rw [h.2, hL2, mwn_ne (by omega)]⟩
    · rw [a2.2.1, hL2, mwn_ne (by omega)]
    · rw [a2.2.2 k c1, hI2, up_nk c3]
theorem mRep_congr {n : Nat} {P P' : Nat → List Int} {M M' : Nat → Nat} (h : mRep m n P M I L) (he : ∀ j, j < n → P j = P' j ∧ M j = M' j) : mRep m n P' M' I L := ⟨h.1, h.2.1, fun j hj => by rw [← (he j hj).1, ← (he j hj).2]; exact h.2.2 j hj⟩
/-- the factors of G lie in the reference's row -/
def mFac (m : Nat) (G : List Int) (I : Nat → Nat → Int32) (L : Nat → Nat → Int64) : Prop := isF G (fN G) (fP G) (fM G) ∧ mRep m (fN G) (fP G) (fM G) I L
/-- what the reference keeps of the polynomial that it looked at last -/
def mCache (m : Nat) (I : Nat → Nat → Int32) (L : Nat → Nat → Int64) : Prop := I m 15 = 0 ∨ (I m 15 = 1 ∧ mFac m (rl (pp (L (m + 9)))) I L)
/-- what a factoring leaves as it was -/
def frL (m : Nat) (I : Nat → Nat → Int32) (L : Nat → Nat → Int64) (I1 : Nat → Nat → Int32) (L1 : Nat → Nat → Int64) : Prop :=
  (∀ b, b ≠ m → b ≠ m + 9 → (b < m + 11 ∨ m + 20 < b) → I1 b = I b ∧ L1 b = L b) ∧ (∀ k, k ≠ 18 → L1 m k = L m k) ∧ ∀ k, k ≠ 15 → k ≠ 19 → k ≠ 24 → k ≠ 26 → k ≠ 32 → k ≠ 33 → k ≠ 34 → I1 m k = I m k
theorem frL_rf : frL m I L I L := ⟨fun _ _ _ _ => ⟨rfl, rfl⟩, fun _ _ => rfl, fun _ _ _ _ _ _ _ _ => rfl⟩
theorem m_layFactors (hm : is_Model S m) (hok : okp (L (m + 10))) (hc : mCache m I L) : ∃ I1 L1, CTv mr_X9_layFactors [.ref m] S I L I1 L1 ∧ frL m I L I1 L1 ∧ mCache m I1 L1 ∧ mFac m (rl (pp (L (m + 10)))) I1 L1 := by
  obtain ⟨n, hn, hdp, hpos, hbp, hc0, hc9, -, -, hG⟩ := pp_ok hok
  have hn6 := hn.1
  have hc0' : cont (L (m + 10)) ≠ 0 := fun e => hc0 (by rw [e]; rfl)
  generalize hGG : rl (pp (L (m + 10))) = G at *
  -- what happens if it has to be done
  have work : ∃ I1 L1, frL m I L I1 L1 ∧ mCache m I1 L1 ∧ mFac m G I1 L1 ∧ (∃ I9 L10, CTv mr_X9_layContent [.ref m] S (mj_up I m 15 (1 : Int32)) L I9 L10 ∧ ∃ r13 I14 L15, CTi mr_X9_degreeNow [.ref m] S (mj_up I9 m 19 (0 : Int32)) L10 r13 I14 L15 ∧ hd_X9_layFactors_74 S (fun v h => v = none ∧ h = (S, I1, L1)) m (0 : Int32) (mj_up I14 m 24 r13) L15) := by
    have c1 := m_layContent (S := S) (I := mj_up I m 15 (1 : Int32)) (L := L) hm hn (fun k hk => Nat.le_trans (hok.1 k hk) (by decide))
    have c2 := m_degreeNow (S := S) (I := mj_up (mj_up I m 15 (1 : Int32)) m 19 (0 : Int32)) (L := mj_up L m 18 (cont (L (m + 10)))) hm
    rw [up_ne (b := m + 10) (by omega), deg6_dg hn] at c2
    obtain ⟨I2, hI2⟩ : ∃ I2, I2 = mj_up (mj_up (mj_up I m 15 (1 : Int32)) m 19 (0 : Int32)) m 24 (nI n) := ⟨_, rfl⟩
    obtain ⟨L2, hL2⟩ : ∃ L2, L2 = mj_up L m 18 (cont (L (m + 10))) := ⟨_, rfl⟩
    obtain ⟨L3, hL3⟩ : ∃ L3, L3 = mwn (mwn L2 (m + 9) 6 (L (m + 10))) (m + 14) 6 (pp (L (m + 10))) := ⟨_, rfl⟩
    have r14 : ∀ k, k < 6 → pp (L (m + 10)) k = L3 (m + 14) k := fun k hk => by rw [hL3, mwn_at hk]
    have r9 : ∀ k, k < 6 → L (m + 10) k = L3 (m + 9) k := fun k hk => by rw [hL3, mwn_ne (by omega), mwn_at hk]
    have hmc : mcI okM m G n I2 L3 := ⟨0, fun _ => [], fun _ => 0, ⟨by rw [hI2, up_nk (by decide), up_eq]; rfl, by decide, fun j hj => by omega⟩, fac_0, fun x => by rw [← rl_ext r14, hGG, fpr, Int.one_mul], deg6_ext hdp r14, by rw [hI2, up_eq], okM_ext hn6 (okM_of hbp hn6) (fun k hk => (r14 k hk).symm)⟩
    obtain ⟨I4, L4, r4, a1, a2, a3, a4⟩ := m_loop117 (S := S) hm hG n I2 L3 hmc
    have a1' : mcI okB m G r4 I4 L4 := by
      obtain ⟨n, P, M, f1, f2, f3, f4, f5, f6⟩ := a1
      exact ⟨n, P, M, f1, f2, f3, f4, f5, fun _ => f6⟩
    obtain ⟨I5, L5, r5, b1, b2, b3, b4, b5⟩ := m_loop131 (S := S) hm hG r4 I4 L4 a1' a2
    obtain ⟨I6, L6, d1, d2, n', P', M', d3, d4⟩ := m_last (S := S) hm hG b1 b2 b3
    have hF := frF_tr (frF_T a3) (frF_tr b4 d2)
    obtain ⟨e1, e2, e3⟩ := isF_the d4
    have hmf : mFac m G I6 L6 := ⟨e1, by rw [← e2]; exact mRep_congr d3 e3⟩
    have h9 : L6 (m + 9) = L3 (m + 9) := (hF.1 _ (by omega) (by omega)).2
    refine ⟨I6, L6, ⟨fun b b0 b9 b1 => ?_, fun k hk => ?_, fun k c1 c2 c3 c4 c5 c6 c7 => ?_⟩, Or.inr ⟨?_, ?_⟩, hmf, _, _, c1, _, _, _, c2, ?_⟩
    · have h := hF.1 b b0 (by omega)
      exact ⟨by rw [h.1, hI2, up_ne b0, up_ne b0, up_ne b0], by rw [h.2, hL3, mwn_ne (by omega), mwn_ne b9, hL2, up_ne b0]⟩
    · rw [hF.2.1, hL3, mwn_ne (by omega), mwn_ne (by omega), hL2, up_nk hk]
    · rw [hF.2.2 k c2 c3 c4 c5 c6 c7, hI2, up_nk c3, up_nk c2, up_nk c1]
    · rw [hF.2.2 15 (by decide) (by decide) (by decide) (by decide) (by decide) (by decide), hI2, up_nk (by decide), up_nk (by decide), up_eq]
    · rw [h9, ← rlpp_ext r9, hGG]; exact hmf
    · rw [← hI2, ← hL2]
      have key := up_loop (P := fun i => hd_X9_layFactors_74 S (fun v h => v = none ∧ h = (S, I6, L6)) m (nI i) I2 (mwn (mwn L2 (m + 9) i (L (m + 10))) (m + 14) i (pp (L (m + 10))))) 6
        (it_X9_layFactors_74 hm (ge_t (k := 6) (by decide) (by decide) (by rw [← hL3]; exact a4 _ (b5 _ d1))))
        (fun i hi ih => it_X9_layFactors_74 hm (ge_f (k := 6) hi (by decide) (by
          have hv : vp_in (nI i) 6 := vp_in_nI hi (by decide)
          have e10 : mwn (mwn L2 (m + 9) i (L (m + 10))) (m + 14) i (pp (L (m + 10))) (m + 10) i = L (m + 10) i := by rw [mwn_ne (by omega), mwn_ne (by omega), hL2, up_ne (by omega)]
          have e18 : mwn (mwn L2 (m + 9) i (L (m + 10))) (m + 14) i (pp (L (m + 10))) m 18 = cont (L (m + 10)) := by rw [mwn_ne (by omega), mwn_ne (by omega), hL2, up_eq]
          have e10' : ∀ x : Int64, mj_up (mwn (mwn L2 (m + 9) i (L (m + 10))) (m + 14) i (pp (L (m + 10)))) (m + 9) i x (m + 10) i = L (m + 10) i := fun x => by rw [up_ne (by omega)]; exact e10
          have e18' : ∀ x : Int64, mj_up (mwn (mwn L2 (m + 9) i (L (m + 10))) (m + 14) i (pp (L (m + 10)))) (m + 9) i x m 18 = cont (L (m + 10)) := fun x => by rw [up_ne (by omega)]; exact e18
          rw [nI_clamp (by omega), e10, e10', e18']
          refine ⟨hv, hv, hv, hc0', hv, fun y hy => ?_⟩
          rw [hy, nI_1, up_mwn (by omega), mwn_s _ _ _ _ _ rfl, mwn_s _ (m + 14) i (pp (L (m + 10))) (L (m + 10) i / cont (L (m + 10))) rfl]
          exact ih)))
      have := key 0 (by decide)
      rwa [mwn_0, mwn_0] at this
  obtain ⟨I1, L1, w1, w2, w3, w4⟩ := work
  -- comparing
  have cmp0 : ∀ i, i ≤ 6 → hd_X9_layFactors_7 S (fun v h => v = none ∧ h = (S, I1, L1)) m 0 (nI i) I L := up_loop 6
    (it_X9_layFactors_7 hm (ge_t (k := 6) (by decide) (by decide) ⟨fun _ => w4, fun h => absurd rfl h⟩))
    (fun i hi ih => it_X9_layFactors_7 hm (ge_f (k := 6) hi (by decide) ⟨fun _ y hy => by rw [hy, nI_1]; exact ih, fun h => absurd rfl h⟩))
  rcases hc with h15 | ⟨h15, hmf⟩
  · refine ⟨I1, L1, wp_X9_layFactors hm (fun y hy => ?_), w1, w2, w3⟩
    rw [hy, h15]; exact cmp0 0 (by decide)
  · by_cases hsame : ∀ k, k < 6 → L (m + 9) k = L (m + 10) k
    · have hgg : rl (pp (L (m + 9))) = G := by rw [rlpp_ext hsame, hGG]
      refine ⟨I, L, wp_X9_layFactors hm (fun y hy => ?_), frL_rf, Or.inr ⟨h15, hmf⟩, by rw [← hgg]; exact hmf⟩
      rw [hy, h15]
      have key := up_loop (P := fun i => hd_X9_layFactors_7 S (fun v h => v = none ∧ h = (S, I, L)) m 1 (nI i) I L) 6
        (it_X9_layFactors_7 hm (ge_t (k := 6) (by decide) (by decide) ⟨fun h => absurd h (by decide), fun _ => ⟨rfl, rfl⟩⟩))
        (fun i hi ih => it_X9_layFactors_7 hm (ge_f (k := 6) hi (by decide) ⟨fun h => absurd h (by decide), fun _ => ⟨vp_in_nI hi (by decide), vp_in_nI hi (by decide), fun h => absurd (by rw [nI_clamp (by omega)]; exact hsame i hi) h, fun _ y hy => by rw [hy, nI_1]; exact ih⟩⟩))
      exact key 0 (by decide)
    · refine ⟨I1, L1, wp_X9_layFactors hm (fun y hy => ?_), w1, w2, w3⟩
      rw [hy, h15]
      have key := up_loop (P := fun i => (∀ k, k < i → L (m + 9) k = L (m + 10) k) → hd_X9_layFactors_7 S (fun v h => v = none ∧ h = (S, I1, L1)) m 1 (nI i) I L) 6
        (fun h => absurd h hsame)
        (fun i hi ih hk => it_X9_layFactors_7 hm (ge_f (k := 6) hi (by decide) ⟨fun h => absurd h (by decide), fun _ => ⟨vp_in_nI hi (by decide), vp_in_nI hi (by decide), fun _ y hy => by rw [hy, nI_1]; exact cmp0 (i + 1) (by omega), fun h y hy => (by
          rw [nI_clamp (by omega)] at h
          rw [hy, nI_1]
          refine ih (fun k hk2 => ?_)
          rcases Nat.eq_or_lt_of_le (Nat.lt_succ_iff.mp hk2) with e | e
          · rw [e]; exact h
          · exact hk k e)⟩⟩))
      exact key 0 (by decide) (fun k hk => by omega)
end
