/-! THE REFERENCE'S READER: a term -/
variable {S : List mjD} {I : Nat → Nat → Int32} {L : Nat → Nat → Int64}
/-- behind a term's figures, with a sign -/
def rtU (S : List mjD) (RET : Option Value → mjH → Prop) (m : Nat) (sg : Int64) (x3 : Int32) (x4 : Int64) (x6 : Int32) (I : Nat → Nat → Int32) (L : Nat → Nat → Int64) : Prop :=
  ∃ r5 I6 L7, CTi mr_X9_at [.ref m, .int x3] S I L r5 I6 L7 ∧ ((¬ r5 = (120 : Int32) → ((¬ x6 = 0 → RET (some (.int x3)) (S, mj_up I6 m 13 (0 : Int32), mj_up L7 (m + 8) (0 : Int32).toNatClampNeg (sg * x4))) ∧ (x6 = 0 → ∃ r15 I16 L17, CTi mr_X9_broken [.ref m, .int x3] S I6 L7 r15 I16 L17 ∧ RET (some (.int r15)) (S, I16, L17)))) ∧ (r5 = (120 : Int32) → (((I6 m 13) < (2 : Int32) → ∃ r23 I24 L25, CTi mr_X9_broken [.ref m, .int x3] S I6 L7 r23 I24 L25 ∧ RET (some (.int r23)) (S, I24, L25)) ∧ (¬ (I6 m 13) < (2 : Int32) → ((x6 ≤ 0 → ((¬ x6 = 0 → ∃ r33 I34 L35, CTi mr_X9_readPower [.ref m, .int (x3 + (1 : Int32)), .long (sg * x4)] S I6 L7 r33 I34 L35 ∧ RET (some (.int r33)) (S, I34, L35)) ∧ (x6 = 0 → ∃ r39 I40 L41, CTi mr_X9_readPower [.ref m, .int (x3 + (1 : Int32)), .long (sg * (1 : Int64))] S I6 L7 r39 I40 L41 ∧ RET (some (.int r39)) (S, I40, L41)))) ∧ (¬ x6 ≤ 0 → ((¬ x4 = (1 : Int64) → ((¬ x6 = 0 → ∃ r49 I50 L51, CTi mr_X9_readPower [.ref m, .int (x3 + (1 : Int32)), .long (sg * x4)] S I6 L7 r49 I50 L51 ∧ RET (some (.int r49)) (S, I50, L51)) ∧ (x6 = 0 → ∃ r55 I56 L57, CTi mr_X9_readPower [.ref m, .int (x3 + (1 : Int32)), .long (sg * (1 : Int64))] S I6 L7 r55 I56 L57 ∧ RET (some (.int r55)) (S, I56, L57)))) ∧ (x4 = (1 : Int64) → ∃ r61 I62 L63, CTi mr_X9_broken [.ref m, .int x3] S I6 L7 r61 I62 L63 ∧ RET (some (.int r61)) (S, I62, L63)))))))))
def sgN (b : Bool) : Int64 := if b then -1 else 1
theorem sgN_mul (b : Bool) (a : Nat) : sgN b * lN a = if b then -(lN a) else lN a := by
  cases b
  · show (1 : Int64) * lN a = lN a
    rw [Int64.one_mul]
  · show (-1 : Int64) * lN a = -(lN a)
    rw [Int64.neg_mul, Int64.one_mul]
def rtT (S : List mjD) (RET : Option Value → mjH → Prop) (m : Nat) (x2 x3 : Int32) (x4 : Int64) (x6 : Int32) (I : Nat → Nat → Int32) (L : Nat → Nat → Int64) : Prop := (x2 = 0 → rtU S RET m 1 x3 x4 x6 I L) ∧ (¬ x2 = 0 → rtU S RET m (-1) x3 x4 x6 I L)
theorem rtT_of {RET : Option Value → mjH → Prop} {m : Nat} {b : Bool} {x3 : Int32} {x4 : Int64} {x6 : Int32} (h : rtU S RET m (sgN b) x3 x4 x6 I L) : rtT S RET m (bI b) x3 x4 x6 I L := by
  cases b
  · exact ⟨fun _ => h, fun q => absurd rfl q⟩
  · exact ⟨fun q => absurd q (by decide), fun _ => h⟩
theorem lN_eq1 {a : Nat} (h : a < 2 ^ 63) : lN a = 1 ↔ a = 1 := by
  refine ⟨fun q => ?_, fun q => by rw [q]; rfl⟩
  have := congrArg Int64.toInt q
  rw [t_lN h] at this
  have z : (1 : Int64).toInt = 1 := rfl
  omega
section
variable {m n : Nat} {f : Nat → Nat}
theorem m_behind {i j a : Nat} {r : rdS} (hm : is_Model S m) (h : pgM m n f I) (ho : rOK r) (hi : i ≤ n) (hl : I m 13 = nI (rlm r)) (hb : I m 12 = 0) (hrow : ∀ t, t < 6 → L (m + 8) t = rrw r t) (hj : j < 10) (ha : a < 1000) (hs : (j = 0 ∧ rst r ≤ 1 ∧ ¬ (49 ≤ atN f n i ∧ atN f n i ≤ 57) ∧ (rst r = 0 → atN f n i ≠ 45)) ∨ (1 ≤ j ∧ rst r = 2 ∧ rpl r = 0 ∧ ram r = a ∧ (48 ≤ atN f n i → atN f n i ≤ 57 → 999 < 10 * a + (atN f n i - 48)))) :
    ∃ k r' I1 L1, rtU S (fun v h => v = some (.int (nI k)) ∧ h = (S, I1, L1)) m (sgN (rng r)) (nI i) (lN a) (nI j) I L ∧ rfr m I L I1 L1 ∧ i ≤ k ∧ k ≤ n ∧ rRun f i (n - i) r = rRun f k (n - k) r' ∧ rOK r' ∧ rtP m n f k r' I1 L1 := by
  have h40 := h.2.1
  have a128 := atN_lt (i := i) h
  have hat := m_at (S := S) (I := I) (L := L) (i := i) hm h (by omega)
  have e0 : nI j = (0 : Int32) ↔ j = 0 := nI_eq (b := 0) (by omega) (by decide)
  have e00 : nI j ≤ (0 : Int32) ↔ j ≤ 0 := nI_leI (b := 0) (by omega) (by decide)
  have o1 := ho.1
  have o2 := ho.2.1
  have o3 := ho.2.2.1
  have o4 := ho.2.2.2
  have fbk : rfr m I L (mj_up I m 12 1) L := ⟨fun b hb => up_ne hb, fun k _ hk _ => up_nk hk, fun b hb => rfl⟩
  by_cases c : atN f n i = 120
  · have hin : i < n := atN_pos (f := f) (by omega)
    have hfi : f i = 120 := by rw [← atN_in (f := f) hin]; exact c
    have q120 : nI (atN f n i) = (120 : Int32) := by rw [c]; rfl
    have el : I m 13 < (2 : Int32) ↔ rlm r < 2 := by rw [hl]; exact nI_ltI (b := 2) (by omega) (by decide)
    by_cases d : rlm r < 2
    · refine ⟨i, r, mj_up I m 12 1, L, ⟨_, _, _, hat, fun q => absurd q120 q, fun _ => ⟨fun _ => ⟨_, _, _, m_broken hm _, rfl, rfl⟩, fun q => absurd (el.mpr d) q⟩⟩, fbk, Nat.le_refl _, hi, rfl, ho, Or.inl ⟨up_eq, run_stop (fun _ => ?_), fun z => by omega⟩⟩
      rw [hfi]
      exact acc_none (fun z => absurd z (by decide)) (fun z => absurd z (by decide)) (fun _ => lt_none (Or.inr (Or.inl (by omega)))) (fun z => absurd z (by decide)) (fun _ z => absurd z (by decide))
    · have hlx : rAcc r 120 = rLetter r := by
        unfold rAcc
        rw [if_neg (by decide), if_neg (by decide), if_pos rfl]
      rcases hs with ⟨rfl, s1, s2, s3⟩ | ⟨s0, s1, s2, s3, s4⟩
      · have hac : rAcc r (f i) = some (rMk r 3 (rng r) 1 1) := by
          rw [hfi, hlx]; unfold rLetter
          rw [if_pos (by omega), if_pos (by omega)]
        obtain ⟨k, r', I1, L1, p1, p2, p3, p4, p5, p6, p7⟩ := m_readPower (S := S) (I := I) (L := L) (i := i + 1) (v := sgN (rng r) * lN 1) (r := rMk r 3 (rng r) 1 1) hm h rfl ⟨by show 3 ≤ 5; decide, by show 1 ≤ 999; decide, by show 1 < 6; decide, o4⟩ rfl (sgN_mul _ _).symm (by omega) hl hb hrow
        refine ⟨k, r', I1, L1, ⟨_, _, _, hat, fun q => absurd q120 q, fun _ => ⟨fun q => absurd (el.mp q) d, fun _ => ⟨fun _ => ⟨fun q => absurd rfl q, fun _ => ⟨_, _, _, by rw [nI_1]; exact p1, rfl, rfl⟩⟩, fun q => absurd (e00.mpr (Nat.le_refl _)) q⟩⟩⟩, p2, by omega, p4, (run_step hin hac).trans p5, p6, p7⟩
      · have z0 : ¬ nI j = 0 := fun q => by have := e0.mp q; omega
        have z00 : ¬ nI j ≤ 0 := fun q => by have := e00.mp q; omega
        have e1 := lN_eq1 (a := a) (by omega)
        by_cases d1 : a = 1
        · refine ⟨i, r, mj_up I m 12 1, L, ⟨_, _, _, hat, fun q => absurd q120 q, fun _ => ⟨fun q => absurd (el.mp q) d, fun _ => ⟨fun q => absurd q z00, fun _ => ⟨fun q => absurd (e1.mpr d1) q, fun _ => ⟨_, _, _, m_broken hm _, rfl, rfl⟩⟩⟩⟩⟩, fbk, Nat.le_refl _, hi, rfl, ho, Or.inl ⟨up_eq, run_stop (fun _ => ?_), fun z => by omega⟩⟩
          rw [hfi]
          exact acc_none (fun z => absurd z (by decide)) (fun z => absurd z (by decide)) (fun _ => lt_none (Or.inr (Or.inr ⟨s1, by omega⟩))) (fun z => absurd z (by decide)) (fun _ z => absurd z (by decide))
        · have hac : rAcc r (f i) = some (rMk r 3 (rng r) (ram r) 1) := by
            rw [hfi, hlx]; unfold rLetter
            rw [if_pos (by omega), if_neg (by omega), if_pos (by omega)]
          obtain ⟨k, r', I1, L1, p1, p2, p3, p4, p5, p6, p7⟩ := m_readPower (S := S) (I := I) (L := L) (i := i + 1) (v := sgN (rng r) * lN a) (r := rMk r 3 (rng r) (ram r) 1) hm h rfl ⟨by show 3 ≤ 5; decide, o2, by show 1 < 6; decide, o4⟩ rfl (by rw [sgN_mul, ← s3]; rfl) (by omega) hl hb hrow
          exact ⟨k, r', I1, L1, ⟨_, _, _, hat, fun q => absurd q120 q, fun _ => ⟨fun q => absurd (el.mp q) d, fun _ => ⟨fun q => absurd q z00, fun _ => ⟨fun _ => ⟨fun _ => ⟨_, _, _, by rw [nI_1]; exact p1, rfl, rfl⟩, fun q => absurd q z0⟩, fun q => absurd (e1.mp q) d1⟩⟩⟩⟩, p2, by omega, p4, (run_step hin hac).trans p5, p6, p7⟩
  · have z120 : ¬ nI (atN f n i) = (120 : Int32) := fun q => c ((nI_eq (b := 120) (by omega) (by decide)).mp q)
    rcases hs with ⟨rfl, s1, s2, s3⟩ | ⟨s0, s1, s2, s3, s4⟩
    · refine ⟨i, r, mj_up I m 12 1, L, ⟨_, _, _, hat, fun _ => ⟨fun q => absurd rfl q, fun _ => ⟨_, _, _, m_broken hm _, rfl, rfl⟩⟩, fun q => absurd q z120⟩, fbk, Nat.le_refl _, hi, rfl, ho, Or.inl ⟨up_eq, run_stop (fun hin => ?_), fun _ => by unfold rDone; exact decide_eq_false (by omega)⟩⟩
      rw [atN_in hin] at s2 s3 c
      exact acc_none (fun _ => sg_none (by omega) (by omega) (fun _ => rfl)) (fun z => sg_none (by omega) (by omega) (fun w => absurd z (s3 w))) (fun z => absurd z c) (fun _ => ct_none (Or.inl (by omega))) (fun _ _ => rdg_none (by omega))
    · have z0 : ¬ nI j = 0 := fun q => by have := e0.mp q; omega
      have e8 : (0 : Int32).toNatClampNeg = rpl r := by rw [s2]; rfl
      refine ⟨i, r, mj_up I m 13 0, mj_up L (m + 8) (0 : Int32).toNatClampNeg (sgN (rng r) * lN a), ⟨_, _, _, hat, fun _ => ⟨fun _ => ⟨rfl, rfl⟩, fun q => absurd q z0⟩, fun q => absurd q z120⟩, ⟨fun b hb => up_ne hb, fun k _ _ hk => up_nk hk, fun b hb => up_ne hb⟩, Nat.le_refl _, hi, rfl, ho, Or.inr ⟨by rw [up_nk (by decide)]; exact hb, by unfold rDone; exact decide_eq_true (Or.inl s1), by rw [up_eq, s2]; rfl, by rw [e8]; exact row_end (by rw [sgN_mul, ← s3]; rfl) hrow, fun _ => run_stop (fun hin => ?_), fun z => absurd s2 z⟩⟩
      rw [atN_in hin] at s4 c
      exact acc_none (fun _ => sg_none (by omega) (by omega) (fun z => by omega)) (fun _ => sg_none (by omega) (by omega) (fun z => by omega)) (fun z => absurd z c) (fun _ => ct_none (Or.inl (by omega))) (fun z1 z2 => rdg_none (by have := s4 z1 z2; omega))
theorem fig_step : ∀ a, a < 100 → ∀ d, d < 10 → ((((10 : Int64) * lN a) + (nI (48 + d)).toInt64) - (48 : Int64)) = lN (10 * a + d) := by decide +kernel
theorem m_figures : ∀ w j, j + w = 3 → ∀ (i a : Nat) (r : rdS) (I : Nat → Nat → Int32) (L : Nat → Nat → Int64), is_Model S m → pgM m n f I → rOK r → i ≤ n → I m 13 = nI (rlm r) → I m 12 = 0 → (∀ t, t < 6 → L (m + 8) t = rrw r t) → ((j = 0 ∧ rst r ≤ 1 ∧ a = 0 ∧ (rst r = 0 → atN f n i ≠ 45)) ∨ (1 ≤ j ∧ rst r = 2 ∧ rpl r = 0 ∧ ram r = a ∧ 1 ≤ a ∧ (j = 1 → a ≤ 9) ∧ (j = 2 → 10 ≤ a ∧ a ≤ 99) ∧ (j = 3 → 100 ≤ a ∧ a ≤ 999))) →
    ∃ k r' I1 L1, hd_X9_readTerm_8 S (fun v h => v = some (.int (nI k)) ∧ h = (S, I1, L1)) m (bI (rng r)) (nI i) (lN a) (nI j) I L ∧ rfr m I L I1 L1 ∧ i ≤ k ∧ k ≤ n ∧ rRun f i (n - i) r = rRun f k (n - k) r' ∧ rOK r' ∧ rtP m n f k r' I1 L1 := by
  intro w
  induction w with
  | zero =>
    intro j hj i a r I L hm h ho hi hl hb hrow hs
    obtain rfl : j = 3 := by omega
    obtain ⟨k, r', I1, L1, t1, t2⟩ := m_behind (S := S) (I := I) (L := L) (j := 3) (a := a) hm h ho hi hl hb hrow (by decide) (by omega) (Or.inr ⟨by decide, by omega, by omega, by omega, fun _ _ => by omega⟩)
    exact ⟨k, r', I1, L1, it_X9_readTerm_8 hm ⟨fun _ => rtT_of t1, fun q => absurd (show (3 : Int32) ≤ nI 3 by decide) q⟩, t2⟩
  | succ w ih =>
    intro j hj i a r I L hm h ho hi hl hb hrow hs
    have h40 := h.2.1
    have a128 := atN_lt (i := i) h
    have z3 : ¬ (3 : Int32) ≤ nI j := fun q => by
      have := (nI_leI (a := 3) (b := j) (by decide) (by omega)).mp q
      omega
    have o1 := ho.1
    have o2 := ho.2.1
    have o3 := ho.2.2.1
    have o4 := ho.2.2.2
    have e0 : nI j = (0 : Int32) ↔ j = 0 := nI_eq (b := 0) (by omega) (by decide)
    obtain ⟨lo, hlo⟩ : ∃ lo, lo = if j = 0 then 1 else 0 := ⟨_, rfl⟩
    have hlo1 : lo ≤ 1 := by rw [hlo]; by_cases z : j = 0 <;> simp [z]
    have hfg := m_isFigure (S := S) (I := I) (L := L) (i := i) (lo := lo) (hi := 9) hm h (by omega) (by omega) (by decide)
    by_cases cF : 48 + lo ≤ atN f n i ∧ atN f n i ≤ 48 + 9
    · rw [if_pos cF] at hfg
      have hin : i < n := atN_pos (f := f) (by omega)
      have hat := m_at (S := S) (I := I) (L := L) (i := i) hm h (by omega)
      obtain ⟨d, hd⟩ : ∃ d, atN f n i = 48 + d := ⟨atN f n i - 48, by omega⟩
      have hfi : f i = 48 + d := by rw [← atN_in (f := f) hin]; exact hd
      have hac : ∃ r1, rAcc r (f i) = some r1 ∧ rng r1 = rng r ∧ rOK r1 ∧ rlm r1 = rlm r ∧ rrw r1 = rrw r ∧ rst r1 = 2 ∧ rpl r1 = 0 ∧ ram r1 = 10 * a + d ∧ 1 ≤ 10 * a + d := by
        rw [hfi, acc_dig (by omega) (by omega), show 48 + d - 48 = d by omega]
        unfold rDigit
        rcases hs with ⟨j0, s1, s2, s3⟩ | ⟨s0, s1, s2, s3, s4, s5, s6, s7⟩
        · rw [if_pos j0] at hlo
          rw [if_neg (by omega), if_pos (by omega), if_pos (by omega)]
          exact ⟨_, rfl, rfl, ⟨by show 2 ≤ 5; decide, by show d ≤ 999; omega, by show 0 < 6; decide, o4⟩, rfl, rfl, rfl, rfl, by show d = _; omega, by omega⟩
        · rw [if_neg (by omega), if_neg (by omega), if_pos ⟨s1, by omega⟩]
          exact ⟨_, rfl, rfl, ⟨by show 2 ≤ 5; decide, by show 10 * ram r + d ≤ 999; omega, o3, o4⟩, rfl, rfl, rfl, s2, by show 10 * ram r + d = _; omega, by omega⟩
      obtain ⟨r1, q1, q2, q3, q4, q5, q6, q7, q8, q9⟩ := hac
      obtain ⟨k, r', I1, L1, t1, t2, t3, t4, t5, t6⟩ := ih (j + 1) (by omega) (i + 1) (10 * a + d) r1 I L hm h q3 (by omega) (by rw [q4]; exact hl) hb (by rw [q5]; exact hrow) (Or.inr ⟨by omega, q6, q7, q8, q9, fun z => by omega, fun z => by omega, fun z => by omega⟩)
      rw [q2] at t1
      have nxt : ∀ y : Int64, y = ((((10 : Int64) * lN a) + (nI (atN f n i)).toInt64) - (48 : Int64)) → ∀ y2 : Int32, y2 = nI j + 1 → ∀ y3 : Int32, y3 = nI i + 1 → hd_X9_readTerm_8 S (fun v h => v = some (.int (nI k)) ∧ h = (S, I1, L1)) m (bI (rng r)) y3 y y2 I L := fun y hy y2 hy2 y3 hy3 => by
        rw [hd, fig_step a (by omega) d (by omega)] at hy
        rw [nI_1] at hy2 hy3
        rw [hy, hy2, hy3]
        exact t1
      exact ⟨k, r', I1, L1, it_X9_readTerm_8 hm ⟨fun q => absurd q z3, fun _ => ⟨fun q => ⟨_, _, _, by rw [if_neg (fun z => q (e0.mpr z))] at hlo; rw [hlo] at hfg; exact hfg, fun z => absurd z (by decide), fun _ => ⟨_, _, _, hat, nxt⟩⟩, fun q => ⟨_, _, _, by rw [if_pos (e0.mp q)] at hlo; rw [hlo] at hfg; exact hfg, fun z => absurd z (by decide), fun _ => ⟨_, _, _, hat, nxt⟩⟩⟩⟩, t2, by omega, t4, (run_step hin q1).trans t5, t6⟩
    · rw [if_neg cF] at hfg
      obtain ⟨k, r', I1, L1, t1, t2⟩ := m_behind (S := S) (I := I) (L := L) (j := j) (a := a) hm h ho hi hl hb hrow (by omega) (by omega) (by
        rcases hs with ⟨j0, s1, s2, s3⟩ | ⟨s0, s1, s2, s3, s4, s5, s6, s7⟩
        · rw [if_pos j0] at hlo
          exact Or.inl ⟨j0, s1, by omega, s3⟩
        · rw [if_neg (by omega)] at hlo
          exact Or.inr ⟨s0, s1, s2, s3, fun z1 z2 => by omega⟩)
      exact ⟨k, r', I1, L1, it_X9_readTerm_8 hm ⟨fun q => absurd q z3, fun _ => ⟨fun q => ⟨_, _, _, by rw [if_neg (fun z => q (e0.mpr z))] at hlo; rw [hlo] at hfg; exact hfg, fun _ => rtT_of t1, fun z => absurd rfl z⟩, fun q => ⟨_, _, _, by rw [if_pos (e0.mp q)] at hlo; rw [hlo] at hfg; exact hfg, fun _ => rtT_of t1, fun z => absurd rfl z⟩⟩⟩, t2⟩
theorem m_readTerm {i : Nat} {r : rdS} (hm : is_Model S m) (h : pgM m n f I) (ho : rOK r) (hi : i ≤ n) (hl : I m 13 = nI (rlm r)) (hb : I m 12 = 0) (hrow : ∀ t, t < 6 → L (m + 8) t = rrw r t) (hs : rst r ≤ 1) (h45 : rst r = 0 → atN f n i ≠ 45) :
    ∃ k r' I1 L1, CTi mr_X9_readTerm [.ref m, .int (nI i), .int (bI (rng r))] S I L (nI k) I1 L1 ∧ rfr m I L I1 L1 ∧ i ≤ k ∧ k ≤ n ∧ rRun f i (n - i) r = rRun f k (n - k) r' ∧ rOK r' ∧ rtP m n f k r' I1 L1 := by
  obtain ⟨k, r', I1, L1, t1, t2⟩ := m_figures (S := S) (m := m) (n := n) (f := f) 3 0 rfl i 0 r I L hm h ho hi hl hb hrow (Or.inl ⟨rfl, hs, rfl, h45⟩)
  exact ⟨k, r', I1, L1, wp_X9_readTerm hm t1, t2⟩
end
