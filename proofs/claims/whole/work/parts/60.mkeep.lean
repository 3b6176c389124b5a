/-! THE REFERENCE: what a result becomes in a slot -/
variable {S : List mjD} {I : Nat → Nat → Int32} {L : Nat → Nat → Int64}
/-- a product, up to the first i places of f -/
def cvp (f g : Nat → Int64) : Nat → Nat → Int64
  | 0, _ => 0
  | i + 1, k => if i ≤ k ∧ k ≤ i + 5 then cvp f g i k + f i * g (k - i) else cvp f g i k
theorem cvp_cv (f g : Nat → Int64) {k : Nat} (hk : k < 6) : cvp f g 6 k = cv f g k := by
  have h : k = 0 ∨ k = 1 ∨ k = 2 ∨ k = 3 ∨ k = 4 ∨ k = 5 := by omega
  rcases h with rfl | rfl | rfl | rfl | rfl | rfl <;> simp [cvp, cv]
theorem in1 {x : Int64} : (¬ x < -999 ∧ x ≤ 999) ↔ x.toInt.natAbs ≤ 999 := by
  have e1 : (-999 : Int64).toInt = -999 := rfl
  have e2 : (999 : Int64).toInt = 999 := rfl
  rw [Int64.lt_iff_toInt_lt, Int64.le_iff_toInt_le, e1, e2]
  omega
section
variable {m : Nat}
theorem m_times (hm : is_Model S m) {j : Nat} (hj : j < 6) : CTv mr_X9_timesFactor [.ref m, .int (nI j)] S I L I (mwn (mwn L (m + 21) 12 (cvp (L (m + 10)) (fun k => L (m + 11) (6 * j + k)) 6)) (m + 10) 6 (cv (L (m + 10)) (fun k => L (m + 11) (6 * j + k)))) := by
  obtain ⟨f, hf⟩ : ∃ f, f = L (m + 10) := ⟨_, rfl⟩
  obtain ⟨g, hg⟩ : ∃ g, g = fun k => L (m + 11) (6 * j + k) := ⟨_, rfl⟩
  rw [← hf, ← hg]
  obtain ⟨L3, hL3⟩ : ∃ L3, L3 = mwn (mwn L (m + 21) 12 (cvp f g 6)) (m + 10) 6 (cv f g) := ⟨_, rfl⟩
  rw [← hL3]
  have n1 : m + 21 ≠ m + 10 := by omega
  have n2 : m + 10 ≠ m + 21 := by omega
  have n3 : m + 11 ≠ m + 21 := by omega
  have h80 := up_loop (P := fun i => hd_X9_timesFactor_80 S (fun v h => v = none ∧ h = (S, I, L3)) m (nI i) I (mwn (mwn L (m + 21) 12 (cvp f g 6)) (m + 10) i (cv f g))) 6
    (it_X9_timesFactor_80 hm (ge_t (k := 6) (Nat.le_refl _) (by decide) ⟨rfl, by rw [hL3]⟩))
    (fun i hi ih => it_X9_timesFactor_80 hm (ge_f (k := 6) hi (by decide) ⟨vp_in_nI (by omega) (by decide), vp_in_nI hi (by decide), fun y hy => by
      rw [hy, nI_1, nI_clamp (by omega), mwn_s _ _ _ (cv f g) _ (by rw [mwn_ne n1, mwn_at (by omega)]; exact cvp_cv f g hi)]; exact ih⟩))
  have h31 : ∀ i, i < 6 → hd_X9_timesFactor_23 S (fun v h => v = none ∧ h = (S, I, L3)) m (nI j) (nI (i + 1)) I (mwn L (m + 21) 12 (cvp f g (i + 1))) → ∀ q, q ≤ 6 → hd_X9_timesFactor_31 S (fun v h => v = none ∧ h = (S, I, L3)) m (nI j) (nI i) (nI q) I (mwn L (m + 21) 12 (fun t => if t < i + q then cvp f g (i + 1) t else cvp f g i t)) := fun i hi h =>
    up_loop 6 (it_X9_timesFactor_31 hm (ge_t (k := 6) (Nat.le_refl _) (by decide) (fun y hy => by
      have e : mwn L (m + 21) 12 (fun t => if t < i + 6 then cvp f g (i + 1) t else cvp f g i t) = mwn L (m + 21) 12 (cvp f g (i + 1)) := mwn_congr (fun t ht => by
        by_cases c : t < i + 6
        · rw [if_pos c]
        · rw [if_neg c, cvp, if_neg (by omega)])
      rw [hy, nI_1, e]; exact h))) (fun q hq ih => it_X9_timesFactor_31 hm (ge_f (k := 6) hq (by decide) (by
        rw [nI_add, nI_6]
        refine ⟨vp_in_nI (by omega) (by decide), vp_in_nI hi (by decide), vp_in_nI (by omega) (by decide), vp_in_nI (by omega) (by decide), fun y hy => ?_⟩
        have e : mwn L (m + 21) 12 (fun t => if t < i + (q + 1) then cvp f g (i + 1) t else cvp f g i t) = mj_up (mwn L (m + 21) 12 (fun t => if t < i + q then cvp f g (i + 1) t else cvp f g i t)) (m + 21) (i + q) (mwn L (m + 21) 12 (fun t => if t < i + q then cvp f g (i + 1) t else cvp f g i t) (m + 21) (i + q) + mwn L (m + 21) 12 (fun t => if t < i + q then cvp f g (i + 1) t else cvp f g i t) (m + 10) i * mwn L (m + 21) 12 (fun t => if t < i + q then cvp f g (i + 1) t else cvp f g i t) (m + 11) (6 * j + q)) := by
          rw [mwn_at (show i + q < 12 by omega), mwn_ne n2, mwn_ne n3, mwn_up (by omega)]
          refine mwn_congr (fun t ht => ?_)
          by_cases c : t = i + q
          · rw [if_pos c, if_pos (by omega), if_neg (by omega), cvp, if_pos (by omega), c, show i + q - i = q by omega, hf, hg]
          · rw [if_neg c]
            by_cases c2 : t < i + q
            · rw [if_pos c2, if_pos (by omega)]
            · rw [if_neg c2, if_neg (by omega)]
        rw [hy, nI_1, nI_clamp (show i + q < 2 ^ 31 by omega), nI_clamp (show 6 * j + q < 2 ^ 31 by omega), nI_clamp (show i < 2 ^ 31 by omega), ← e]
        exact ih)))
  have h23 := up_loop (P := fun i => hd_X9_timesFactor_23 S (fun v h => v = none ∧ h = (S, I, L3)) m (nI j) (nI i) I (mwn L (m + 21) 12 (cvp f g i))) 6
    (it_X9_timesFactor_23 hm (ge_t (k := 6) (Nat.le_refl _) (by decide) (by have := h80 0 (Nat.zero_le _); rw [mwn_0] at this; exact this)))
    (fun i hi ih => it_X9_timesFactor_23 hm (ge_f (k := 6) hi (by decide) (by
      have := h31 i hi ih 0 (Nat.zero_le _)
      have e : mwn L (m + 21) 12 (fun t => if t < i + 0 then cvp f g (i + 1) t else cvp f g i t) = mwn L (m + 21) 12 (cvp f g i) := mwn_congr (fun t ht => by
        by_cases c : t < i + 0
        · rw [if_pos c, cvp, if_neg (by omega)]
        · rw [if_neg c])
      rw [e] at this; exact this)))
  have h2 := up_loop (P := fun i => hd_X9_timesFactor_2 S (fun v h => v = none ∧ h = (S, I, L3)) m (nI j) (nI i) I (mwn L (m + 21) i (cvp f g 0))) 12
    (it_X9_timesFactor_2 hm (ge_t (k := 12) (Nat.le_refl _) (by decide) (h23 0 (Nat.zero_le _))))
    (fun i hi ih => it_X9_timesFactor_2 hm (ge_f (k := 12) hi (by decide) ⟨vp_in_nI hi (by decide), fun y hy => by
      rw [hy, nI_1, nI_clamp (by omega), mwn_s _ _ _ (cvp f g 0) (0 : Int64) rfl]; exact ih⟩))
  have := h2 0 (Nat.zero_le _)
  rw [mwn_0] at this
  exact wp_X9_timesFactor hm this
theorem m_become (hm : is_Model S m) (a : Int64) : CTv mr_X9_become [.ref m, .long a] S I L I (mwn L (m + 10) 6 (fun k => if k = 0 then a else 0)) := by
  have key := up_loop (P := fun i => hd_X9_become_2 S (fun v h => v = none ∧ h = (S, I, mwn L (m + 10) 6 (fun k => if k = 0 then a else 0))) m a (nI i) I (mwn L (m + 10) i (fun k => if k = 0 then a else 0))) 6
    (it_X9_become_2 hm (ge_t (k := 6) (Nat.le_refl _) (by decide) ⟨rfl, rfl⟩))
    (fun i hi ih => it_X9_become_2 hm (ge_f (k := 6) hi (by decide) ⟨fun h0 => ⟨vp_in_nI hi (by decide), fun y hy => by
      have e : i ≠ 0 := fun e => h0 (by rw [e]; rfl)
      rw [hy, nI_1, nI_clamp (by omega), mwn_s _ _ _ (fun k => if k = 0 then a else 0) _ (by simp [e])]; exact ih⟩, fun h0 => ⟨vp_in_nI hi (by decide), fun y hy => by
      have e : i = 0 := (nI_eq (b := 0) (by omega) (by decide)).mp h0
      subst e
      rw [hy, nI_1, nI_clamp (by omega), mwn_s _ _ _ (fun k => if k = 0 then a else 0) _ (by simp)]; exact ih⟩⟩))
  have := key 0 (Nat.zero_le _)
  rw [mwn_0] at this
  exact wp_X9_become hm this
theorem m_isGreat (hm : is_Model S m) (hlo : ∀ k, k < 6 → -2 ^ 63 < (L (m + 10) k).toInt) : CTi mr_X9_isGreat [.ref m] S I L (if inB (L (m + 10)) 6 then 0 else 1) I L := by
  have key : ∀ i, i ≤ 6 → ∀ b : Bool, b = inB (L (m + 10)) i → hd_X9_isGreat_4 S (fun v h => v = some (.int (if inB (L (m + 10)) 6 then 0 else 1)) ∧ h = (S, I, L)) m (if b then 0 else 1) (nI i) I L :=
    up_loop 6 (fun b hb => it_X9_isGreat_4 hm (ge_t (k := 6) (Nat.le_refl _) (by decide) ⟨by cases b <;> simp, by rw [hb], rfl⟩)) (fun i hi ih b hb => it_X9_isGreat_4 hm (ge_f (k := 6) hi (by decide) (by
      cases b with
      | false => exact ⟨fun _ y hy => by rw [hy, nI_1]; exact ih false (by rw [inB, ← hb]; rfl), fun h => absurd h (by decide)⟩
      | true =>
        refine ⟨fun h => absurd rfl h, fun _ => ⟨vp_in_nI hi (by decide), ?_⟩⟩
        rw [nI_clamp (by omega)]
        have h1 := (L (m + 10) i).toInt_lt
        have h2 := hlo i hi
        have e : lN (L (m + 10) i).toInt.natAbs ≤ 999 ↔ (¬ L (m + 10) i < -999 ∧ L (m + 10) i ≤ 999) := by
          rw [in1, Int64.le_iff_toInt_le, t_lN (by omega), show (999 : Int64).toInt = 999 from rfl]; omega
        refine ⟨_, _, _, m_aboveN h2, fun h y hy => ?_, fun h y hy => ?_⟩
        · rw [hy, nI_1]
          exact ih true (by rw [inB, ← hb, decide_eq_true (e.mp h).1, decide_eq_true (e.mp h).2]; rfl)
        · rw [hy, nI_1]
          refine ih false ?_
          rw [inB, ← hb]
          cases c1 : decide (¬ L (m + 10) i < -999) with
          | false => rfl
          | true =>
            cases c2 : decide (L (m + 10) i ≤ 999) with
            | false => rfl
            | true => exact absurd (e.mpr ⟨of_decide_eq_true c1, of_decide_eq_true c2⟩) h)))
  exact wp_X9_isGreat hm (key 0 (Nat.zero_le _) true rfl)
theorem m_makePure {n : Nat} (hm : is_Model S m) (hn : deg6 (L (m + 10)) n) (hb : bnd6 (L (m + 10)) 999) (hc : cont (L (m + 10)) ≠ 0) : CTv mr_X9_makePure [.ref m] S I L I (mwn (mj_up L m 18 (cont (L (m + 10)))) (m + 10) 6 (pp (L (m + 10)))) := by
  obtain ⟨L2, hL2⟩ : ∃ L2, L2 = mj_up L m 18 (cont (L (m + 10))) := ⟨_, rfl⟩
  have e10 : L2 (m + 10) = L (m + 10) := by rw [hL2, up_ne (by omega)]
  have e18 : L2 m 18 = cont (L (m + 10)) := by rw [hL2, up_eq]
  have n1 : m ≠ m + 10 := by omega
  have key := up_loop (P := fun i => hd_X9_makePure_6 S (fun v h => v = none ∧ h = (S, I, mwn L2 (m + 10) 6 (pp (L (m + 10))))) m (nI i) I (mwn L2 (m + 10) i (pp (L (m + 10))))) 6
    (it_X9_makePure_6 hm (ge_t (k := 6) (Nat.le_refl _) (by decide) ⟨rfl, rfl⟩))
    (fun i hi ih => it_X9_makePure_6 hm (ge_f (k := 6) hi (by decide) ⟨vp_in_nI hi (by decide), by rw [mwn_ne n1, e18]; exact hc, vp_in_nI hi (by decide), fun y hy => by
      rw [hy, nI_1, nI_clamp (by omega), mwn_s _ _ _ (pp (L (m + 10))) _ (by rw [mwn_rd, mwn_ne n1, e18, e10]; rfl)]; exact ih⟩))
  have := key 0 (Nat.zero_le _)
  rw [mwn_0] at this
  have h1 := m_layContent (S := S) (I := I) hm hn (fun k hk => Nat.le_trans (hb k hk) (by decide))
  rw [← hL2] at h1 ⊢
  exact wp_X9_makePure hm ⟨_, _, h1, this⟩
theorem m_makeFree (hm : is_Model S m) (hok : okp (L (m + 10))) (hc : mCache m I L) : ∃ I1 L1, CTv mr_X9_makeFree [.ref m] S I L I1 L1 ∧ frS m I L I1 L1 ∧ mCache m I1 L1 ∧ isF (rl (pp (L (m + 10)))) (fN (rl (pp (L (m + 10))))) (fP (rl (pp (L (m + 10))))) (fM (rl (pp (L (m + 10))))) ∧ ∀ t, t < 6 → L1 (m + 10) t = eo (fP (rl (pp (L (m + 10))))) (fN (rl (pp (L (m + 10))))) t := by
  obtain ⟨I2, L2, a1, a2, a3, a4, a5⟩ := m_layFactors (S := S) (I := I) hm hok hc
  have h5 := a5.2.1
  have hnf := a5.1
  have hold := a5.2.2
  generalize fP (rl (pp (L (m + 10)))) = P at *
  generalize fM (rl (pp (L (m + 10)))) = M at *
  generalize fN (rl (pp (L (m + 10)))) = n at *
  have b1 := m_become (S := S) (I := I2) (L := L2) hm 1
  have key := up_loop (P := fun i => ∀ L', (∀ b, b ≠ m + 10 → b ≠ m + 21 → L' b = L2 b) → (∀ t, t < 6 → L' (m + 10) t = eo P i t) → ∃ L1, (∀ b, b ≠ m + 10 → b ≠ m + 21 → L1 b = L2 b) ∧ (∀ t, t < 6 → L1 (m + 10) t = eo P n t) ∧ hd_X9_makeFree_11 S (fun v h => v = none ∧ h = (S, I2, L1)) m (nI i) I2 L') n
    (fun L' h1 h2 => ⟨L', h1, h2, it_X9_makeFree_11 hm (by rw [hnf]; exact ge_t (Nat.le_refl _) (by omega) ⟨rfl, rfl⟩)⟩)
    (fun i hi ih L' h1 h2 => by
      obtain ⟨L1, c1, c2, c3⟩ := ih (mwn (mwn L' (m + 21) 12 (cvp (L' (m + 10)) (fun k => L' (m + 11) (6 * i + k)) 6)) (m + 10) 6 (cv (L' (m + 10)) (fun k => L' (m + 11) (6 * i + k)))) (fun b hb1 hb2 => by rw [mwn_ne hb1, mwn_ne hb2]; exact h1 b hb1 hb2) (fun t ht => by
        rw [mwn_at ht]
        exact cv_congr6 ht h2 (fun k hk => by rw [h1 (m + 11) (by omega) (by omega)]; exact il_of (hold i hi).1 hk))
      refine ⟨L1, c1, c2, it_X9_makeFree_11 hm ?_⟩
      rw [hnf]
      exact ge_f hi (by omega) ⟨_, _, m_times hm (by omega), fun y hy => by rw [hy, nI_1]; exact c3⟩)
  obtain ⟨L1, c1, c2, c3⟩ := key 0 (Nat.zero_le _) (mwn L2 (m + 10) 6 (fun k => if k = 0 then 1 else 0)) (fun b h1 _ => mwn_ne h1) (fun t ht => by rw [mwn_at ht]; rfl)
  refine ⟨I2, L1, wp_X9_makeFree hm ⟨_, _, a1, _, _, b1, c3⟩, ?_, cache_eq a3 rfl rfl rfl rfl (c1 _ (by omega) (by omega)) (c1 _ (by omega) (by omega)), a4, c2⟩
  exact frS_tr (frS_L a2) ⟨fun b hb => ⟨rfl, c1 b (by omega) (by omega)⟩, fun _ _ => rfl⟩
theorem m_makeTurned {n : Nat} (hm : is_Model S m) (hn : deg6 (L (m + 10)) n) : CTv mr_X9_makeTurned [.ref m] S I L I (mwn (mwn L (m + 17) 6 (L (m + 10))) (m + 10) 6 (trn (L (m + 10)))) := by
  obtain ⟨f, hf⟩ : ∃ f, f = L (m + 10) := ⟨_, rfl⟩
  obtain ⟨L2, hL2⟩ : ∃ L2, L2 = mwn L (m + 17) 6 f := ⟨_, rfl⟩
  have e17 : ∀ k, k < 6 → L2 (m + 17) k = f k := fun k hk => by rw [hL2, mwn_at hk]
  have n1 : m + 17 ≠ m + 10 := by omega
  have n2 : m + 10 ≠ m + 17 := by omega
  have hn6 := hn.1
  have hdg := deg6_dg hn
  have h1 := m_degreeNow (S := S) (I := I) (L := L) hm
  rw [hdg] at h1
  rw [← hf] at hdg hn ⊢
  rw [← hL2]
  have k33 := up_loop (P := fun i => hd_X9_makeTurned_33 S (fun v h => v = none ∧ h = (S, I, mwn L2 (m + 10) 6 (trn f))) m (nI n) (nI i) I (mwn L2 (m + 10) i (trn f))) 6
    (it_X9_makeTurned_33 hm (ge_t (k := 6) (Nat.le_refl _) (by decide) ⟨rfl, rfl⟩))
    (fun i hi ih => it_X9_makeTurned_33 hm (ge_f (k := 6) hi (by decide) ⟨fun h => ⟨vp_in_nI hi (by decide), fun y hy => by
      have h' := (nI_ltI (by omega) (by omega)).mp h
      have hs := pk_sub_toInt (a := n) (b := i) (by omega) (by omega)
      have e : trn f i = 0 := by
        unfold trn
        rw [hdg]
        exact pat_lo (by rw [Int32.lt_iff_toInt_lt, hs]; show _ < (0 : Int); omega)
      rw [hy, nI_1, nI_clamp (by omega), mwn_s _ _ _ (trn f) _ e.symm]; exact ih⟩, fun h => by
      have h' : i ≤ n := by
        have : ¬ n < i := fun q => h ((nI_ltI (by omega) (by omega)).mpr q)
        omega
      have e : trn f i = f (n - i) := by
        unfold trn
        rw [hdg, pk_sub h', pat_n (by omega)]
      rw [pk_sub h']
      exact ⟨vp_in_nI (by omega) (by decide), vp_in_nI hi (by decide), fun y hy => by
        rw [hy, nI_1, nI_clamp (by omega), nI_clamp (by omega), mwn_s _ _ _ (trn f) _ (by rw [e, mwn_ne n1, e17 _ (by omega)])]; exact ih⟩⟩))
  have k7 := up_loop (P := fun i => hd_X9_makeTurned_7 S (fun v h => v = none ∧ h = (S, I, mwn L2 (m + 10) 6 (trn f))) m (nI n) (nI i) I (mwn L (m + 17) i f)) 6
    (it_X9_makeTurned_7 hm (ge_t (k := 6) (Nat.le_refl _) (by decide) (by have := k33 0 (Nat.zero_le _); rw [mwn_0, hL2] at this; rw [hL2]; exact this)))
    (fun i hi ih => it_X9_makeTurned_7 hm (ge_f (k := 6) hi (by decide) ⟨vp_in_nI hi (by decide), vp_in_nI hi (by decide), fun y hy => by
      rw [hy, nI_1, nI_clamp (by omega), mwn_s _ _ _ f _ (by rw [mwn_ne n2, hf])]; exact ih⟩))
  have := k7 0 (Nat.zero_le _)
  rw [mwn_0] at this
  exact wp_X9_makeTurned hm ⟨_, _, _, h1, this⟩
theorem m_makeMirror (hm : is_Model S m) : ∃ L1, CTv mr_X9_makeMirror [.ref m] S I L I L1 ∧ (∀ b, b ≠ m + 10 → L1 b = L b) ∧ ∀ t, t < 6 → L1 (m + 10) t = mir (L (m + 10)) t := by
  have hv : ∀ k, k < 6 → ∀ x : Int32, x = nI k → vp_in x 6 := fun k hk x hx => by rw [hx]; exact vp_in_nI hk (by decide)
  refine ⟨mj_up (mj_up (mj_up L (m + 10) 1 (-(L (m + 10) 1))) (m + 10) 3 (-(L (m + 10) 3))) (m + 10) 5 (-(L (m + 10) 5)), wp_X9_makeMirror hm (it_X9_makeMirror_2 hm ⟨fun q => absurd q (by decide), fun _ => ⟨hv 1 (by decide) _ (by decide), hv 1 (by decide) _ (by decide), fun y hy => ?_⟩⟩), fun b hb => by rw [up_ne hb, up_ne hb, up_ne hb], fun t ht => ?_⟩
  · subst hy
    refine it_X9_makeMirror_2 hm ⟨fun q => absurd q (by decide), fun _ => ⟨hv 3 (by decide) _ (by decide), hv 3 (by decide) _ (by decide), fun y hy => ?_⟩⟩
    subst hy
    refine it_X9_makeMirror_2 hm ⟨fun q => absurd q (by decide), fun _ => ⟨hv 5 (by decide) _ (by decide), hv 5 (by decide) _ (by decide), fun y hy => ?_⟩⟩
    subst hy
    refine it_X9_makeMirror_2 hm ⟨fun _ => ⟨rfl, ?_⟩, fun q => absurd (by decide) q⟩
    show (S, I, mj_up (mj_up (mj_up L (m + 10) 1 (-(L (m + 10) 1))) (m + 10) 3 (-(mj_up L (m + 10) 1 (-(L (m + 10) 1)) (m + 10) 3))) (m + 10) 5 (-(mj_up (mj_up L (m + 10) 1 (-(L (m + 10) 1))) (m + 10) 3 (-(mj_up L (m + 10) 1 (-(L (m + 10) 1)) (m + 10) 3)) (m + 10) 5))) = _
    rw [up_nk (k := 1) (by decide), up_nk (k := 3) (by decide), up_nk (k := 1) (by decide)]
  · have h : t = 0 ∨ t = 1 ∨ t = 2 ∨ t = 3 ∨ t = 4 ∨ t = 5 := by omega
    rcases h with rfl | rfl | rfl | rfl | rfl | rfl <;> simp [mj_up, mir, nI] <;> decide
end
