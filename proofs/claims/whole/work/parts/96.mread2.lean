/-! THE REFERENCE'S READER: a power behind an x -/
variable {S : List mjD} {I : Nat → Nat → Int32} {L : Nat → Nat → Int64}
section
variable {m n : Nat} {f : Nat → Nat}
theorem run_step {i : Nat} {r r' : rdS} (hi : i < n) (h : rAcc r (f i) = some r') : rRun f i (n - i) r = rRun f (i + 1) (n - (i + 1)) r' := by
  rw [show n - i = (n - (i + 1)) + 1 by omega, rRun, h]
theorem run_stop {i : Nat} {r : rdS} (h : i < n → rAcc r (f i) = none) : rRun f i (n - i) r = (i, r) := by
  by_cases c : i < n
  · rw [show n - i = (n - (i + 1)) + 1 by omega, rRun, h c]
  · rw [show n - i = 0 by omega, rRun]
theorem acc_none {r : rdS} {c : Nat} (h43 : c = 43 → rSign r false = none) (h45 : c = 45 → rSign r true = none) (h120 : c = 120 → rLetter r = none) (h94 : c = 94 → rCaret r = none) (hd : 48 ≤ c → c ≤ 57 → rDigit r (c - 48) = none) : rAcc r c = none := by
  unfold rAcc
  by_cases c1 : c = 43
  · rw [if_pos c1]; exact h43 c1
  · rw [if_neg c1]
    by_cases c2 : c = 45
    · rw [if_pos c2]; exact h45 c2
    · rw [if_neg c2]
      by_cases c3 : c = 120
      · rw [if_pos c3]; exact h120 c3
      · rw [if_neg c3]
        by_cases c4 : c = 94
        · rw [if_pos c4]; exact h94 c4
        · rw [if_neg c4]
          by_cases c5 : c < 48
          · rw [if_pos c5]
          · rw [if_neg c5]
            by_cases c6 : 57 < c
            · rw [if_pos c6]
            · rw [if_neg c6]; exact hd (by omega) (by omega)
theorem sg_none {r : rdS} {b : Bool} (h3 : rst r ≠ 3) (h5 : rst r ≠ 5) (h0 : rst r = 0 → b = false) : rSign r b = none := by
  unfold rSign
  rw [if_neg (fun z => z.elim h3 h5), if_neg (fun z => by have := h0 z.1; rw [z.2] at this; cases this)]
theorem lt_none {r : rdS} (h : 3 ≤ rst r ∨ rlm r ≤ 1 ∨ (rst r = 2 ∧ ram r = 1)) : rLetter r = none := by
  unfold rLetter
  by_cases c : 1 < rlm r
  · rw [if_pos c, if_neg (by omega), if_neg (by omega)]
  · rw [if_neg c]
theorem ct_none {r : rdS} (h : rst r ≠ 3 ∨ rlm r ≤ 2) : rCaret r = none := by
  unfold rCaret
  rw [if_neg (by omega)]
theorem rdg_none {r : rdS} {d : Nat} (h : rst r = 3 ∨ rst r = 5 ∨ (rst r = 4 ∧ ¬ (2 ≤ d ∧ d < rlm r)) ∨ (rst r ≤ 1 ∧ d = 0) ∨ (rst r = 2 ∧ 999 < 10 * ram r + d)) : rDigit r d = none := by
  unfold rDigit
  by_cases c : rst r = 4
  · rw [if_pos c, if_neg (by omega)]
  · rw [if_neg c]
    by_cases c1 : rst r = 0 ∨ rst r = 1
    · rw [if_pos c1, if_neg (by omega)]
    · rw [if_neg c1, if_neg (by omega)]
theorem acc_dig {r : rdS} {c : Nat} (h1 : 48 ≤ c) (h2 : c ≤ 57) : rAcc r c = rDigit r (c - 48) := by
  unfold rAcc
  rw [if_neg (by omega), if_neg (by omega), if_neg (by omega), if_neg (by omega), if_neg (by omega), if_neg (by omega)]
/-- what a term's reading leaves -/
def rtP (m n : Nat) (f : Nat → Nat) (k : Nat) (r' : rdS) (I1 : Nat → Nat → Int32) (L1 : Nat → Nat → Int64) : Prop :=
  (I1 m 12 = 1 ∧ rRun f k (n - k) r' = (k, r') ∧ (k = n → rDone r' = false)) ∨ (I1 m 12 = 0 ∧ rDone r' = true ∧ I1 m 13 = nI (rpl r') ∧ (∀ t, t < 6 → L1 (m + 8) t = rrw (rEnd r') t) ∧ ((rpl r' = 0 ∨ (atN f n k ≠ 43 ∧ atN f n k ≠ 45)) → rRun f k (n - k) r' = (k, r')) ∧ (rpl r' ≠ 0 → rst r' = 3 ∨ rst r' = 5))
theorem row_end {r : rdS} {v : Int64} (hv : rvl r = v) (hrow : ∀ t, t < 6 → L (m + 8) t = rrw r t) : ∀ t, t < 6 → mj_up L (m + 8) (rpl r) v (m + 8) t = rrw (rEnd r) t := fun t ht => by
  show _ = if t = rpl r then rvl r else rrw r t
  by_cases e : t = rpl r
  · rw [if_pos e, e, up_eq, hv]
  · rw [if_neg e, up_nk e]; exact hrow t ht
theorem atN_in {i : Nat} (h : i < n) : atN f n i = f i := if_pos h
theorem atN_pos {i : Nat} (h : atN f n i ≠ 0) : i < n := by
  unfold atN at h
  by_cases c : i < n
  · exact c
  · rw [if_neg c] at h; exact absurd rfl h
theorem m_readPower {i : Nat} {v : Int64} {r : rdS} (hm : is_Model S m) (h : pgM m n f I) (hst : rst r = 3) (ho : rOK r) (hpl : rpl r = 1) (hv : rvl r = v) (hi : i ≤ n) (hl : I m 13 = nI (rlm r)) (hb : I m 12 = 0) (hrow : ∀ t, t < 6 → L (m + 8) t = rrw r t) : ∃ k r' I1 L1, CTi mr_X9_readPower [.ref m, .int (nI i), .long v] S I L (nI k) I1 L1 ∧ rfr m I L I1 L1 ∧ i ≤ k ∧ k ≤ n ∧ rRun f i (n - i) r = rRun f k (n - k) r' ∧ rOK r' ∧ rtP m n f k r' I1 L1 := by
  have h40 := h.2.1
  have a128 := atN_lt (i := i) h
  have b128 := atN_lt (i := i + 1) h
  obtain ⟨o1, o2, o3, o4⟩ := ho
  have e1 : (1 : Int32).toNatClampNeg = rpl r := by rw [hpl]; rfl
  by_cases c : atN f n i = 94
  · have hin : i < n := atN_pos (f := f) (by omega)
    have hfi : f i = 94 := by rw [← atN_in (f := f) hin]; exact c
    have el : (2 : Int32) < I m 13 ↔ 2 < rlm r := by rw [hl]; exact nI_ltI (a := 2) (by decide) (by omega)
    have q94 : nI (atN f n i) = (94 : Int32) := by rw [c]; rfl
    by_cases c2 : 2 < rlm r
    · have hl1 : I m 13 - (1 : Int32) = nI (rlm r - 1) := by rw [hl]; exact pk_sub (a := rlm r) (b := 1) (by omega)
      have e5 : (5 : Int32) ≤ I m 13 - (1 : Int32) ↔ 5 ≤ rlm r - 1 := by rw [hl1]; exact nI_leI (a := 5) (by decide) (by omega)
      have hac : rAcc r (f i) = some (rMk r 4 (rng r) (ram r) (rpl r)) := by
        rw [hfi]; unfold rAcc rCaret
        rw [if_neg (by decide), if_neg (by decide), if_neg (by decide), if_pos rfl, if_pos ⟨hst, c2⟩]
      have hstep := run_step hin hac
      have hfg := m_isFigure (S := S) (I := I) (L := L) (i := i + 1) (lo := 2) (hi := rlm r - 1) hm h (by omega) (by decide) (by omega)
      by_cases cF : 48 + 2 ≤ atN f n (i + 1) ∧ atN f n (i + 1) ≤ 48 + (rlm r - 1)
      · rw [if_pos cF] at hfg
        have hin2 : i + 1 < n := atN_pos (f := f) (by omega)
        obtain ⟨d, hd⟩ : ∃ d, d = atN f n (i + 1) - 48 := ⟨_, rfl⟩
        have hdn : nI (atN f n (i + 1)) - (48 : Int32) = nI d := by rw [hd]; exact pk_sub (a := atN f n (i + 1)) (b := 48) (by omega)
        have hac2 : rAcc (rMk r 4 (rng r) (ram r) (rpl r)) (f (i + 1)) = some (rMk r 5 (rng r) (ram r) d) := by
          have e : f (i + 1) = atN f n (i + 1) := (atN_in hin2).symm
          rw [e, acc_dig (by omega) (by omega), ← hd]
          unfold rDigit
          rw [if_pos (show rst (rMk r 4 (rng r) (ram r) (rpl r)) = 4 from rfl), if_pos ⟨by omega, by show d < rlm r; omega⟩]
          rfl
        have hstep2 := run_step hin2 hac2
        have good : ∀ y28 : Int32, y28 = nI (atN f n (i + 1)) - (48 : Int32) → ∀ y31 : Int32, y31 = nI (i + 1) + 1 → vp_in y28 6 ∧ (some (Value.int y31) = some (Value.int (nI (i + 2))) ∧ ((S, mj_up I m 13 y28, mj_up L (m + 8) y28.toNatClampNeg v) : mjH) = (S, mj_up I m 13 (nI d), mj_up L (m + 8) d v)) := fun y28 h28 y31 h31 => by
          rw [h28, hdn, h31, nI_1, nI_clamp (by omega)]
          exact ⟨vp_in_nI (by omega) (by decide), rfl, rfl⟩
        refine ⟨i + 2, rMk r 5 (rng r) (ram r) d, mj_up I m 13 (nI d), mj_up L (m + 8) d v, wp_X9_readPower hm ⟨_, _, _, m_at hm h (by omega), fun q => absurd q94 q, fun _ y9 hy => ?_⟩, ⟨fun b hb => up_ne hb, fun k _ _ hk => up_nk hk, fun b hb => up_ne hb⟩, by omega, by omega, hstep.trans hstep2, ⟨by show 5 ≤ 5; decide, o2, by show d < 6; omega, o4⟩, Or.inr ⟨by rw [up_nk (by decide)]; exact hb, by unfold rDone; exact decide_eq_true (Or.inr (Or.inr rfl)), by rw [up_eq]; rfl, row_end (r := rMk r 5 (rng r) (ram r) d) hv hrow, fun hz => ?_, fun _ => Or.inr rfl⟩⟩
        · rw [nI_1] at hy
          subst hy
          refine ⟨fun _ => ⟨fun q5 => ⟨_, _, _, by have := hfg; rw [show rlm r - 1 = 5 by have := e5.mp q5; omega] at this; exact this, fun _ => ⟨_, _, _, m_at hm h (by omega), good⟩, fun q => absurd q (by decide)⟩, fun q5 => ⟨_, _, _, by rw [hl1]; exact hfg, fun _ => ⟨_, _, _, m_at hm h (by omega), good⟩, fun q => absurd q (by decide)⟩⟩, fun q => absurd (el.mpr c2) q⟩
        · have hz2 : atN f n (i + 2) ≠ 43 ∧ atN f n (i + 2) ≠ 45 := by
            rcases hz with hz | hz
            · exact absurd (show d = 0 from hz) (by omega)
            · exact hz
          refine run_stop (fun hi3 => acc_none (fun z => absurd z ?_) (fun z => absurd z ?_) (fun _ => lt_none (Or.inl (by show 3 ≤ 5; decide))) (fun _ => ct_none (Or.inl (by show 5 ≠ 3; decide))) (fun _ _ => rdg_none (Or.inr (Or.inl rfl))))
          · rw [← atN_in (f := f) hi3]; exact hz2.1
          · rw [← atN_in (f := f) hi3]; exact hz2.2
      · rw [if_neg cF] at hfg
        refine ⟨i + 1, rMk r 4 (rng r) (ram r) (rpl r), mj_up I m 12 1, L, wp_X9_readPower hm ⟨_, _, _, m_at hm h (by omega), fun q => absurd q94 q, fun _ y9 hy => ?_⟩, ⟨fun b hb => up_ne hb, fun k _ hk _ => up_nk hk, fun b hb => rfl⟩, by omega, by omega, hstep, ⟨by show 4 ≤ 5; decide, o2, o3, o4⟩, Or.inl ⟨up_eq, run_stop (fun hi3 => ?_), fun _ => by unfold rDone; exact decide_eq_false (by show ¬ (4 = 2 ∨ 4 = 3 ∨ 4 = 5); decide)⟩⟩
        · rw [nI_1] at hy
          subst hy
          refine ⟨fun _ => ⟨fun q5 => ⟨_, _, _, by have := hfg; rw [show rlm r - 1 = 5 by have := e5.mp q5; omega] at this; exact this, fun q => absurd rfl q, fun _ => ⟨_, _, _, m_broken hm _, rfl, rfl⟩⟩, fun q5 => ⟨_, _, _, by rw [hl1]; exact hfg, fun q => absurd rfl q, fun _ => ⟨_, _, _, m_broken hm _, rfl, rfl⟩⟩⟩, fun q => absurd (el.mpr c2) q⟩
        · rw [atN_in hi3] at cF
          exact acc_none (fun _ => sg_none (by show 4 ≠ 3; decide) (by show 4 ≠ 5; decide) (fun z => absurd z (by show ¬ 4 = 0; decide))) (fun _ => sg_none (by show 4 ≠ 3; decide) (by show 4 ≠ 5; decide) (fun z => absurd z (by show ¬ 4 = 0; decide))) (fun _ => lt_none (Or.inl (by show 3 ≤ 4; decide))) (fun _ => ct_none (Or.inl (by show 4 ≠ 3; decide))) (fun _ _ => rdg_none (Or.inr (Or.inr (Or.inl ⟨rfl, fun z => cF ⟨by omega, by have : f (i + 1) - 48 < rlm r := z.2; omega⟩⟩))))
    · refine ⟨i, r, mj_up I m 12 1, L, wp_X9_readPower hm ⟨_, _, _, m_at hm h (by omega), fun q => absurd q94 q, fun _ y9 hy => ⟨fun q => absurd (el.mp q) c2, fun _ => ⟨_, _, _, m_broken hm _, rfl, rfl⟩⟩⟩, ⟨fun b hb => up_ne hb, fun k _ hk _ => up_nk hk, fun b hb => rfl⟩, Nat.le_refl _, hi, rfl, ⟨o1, o2, o3, o4⟩, Or.inl ⟨up_eq, run_stop (fun _ => ?_), fun z => by omega⟩⟩
      rw [hfi]
      exact acc_none (fun z => absurd z (by decide)) (fun z => absurd z (by decide)) (fun z => absurd z (by decide)) (fun _ => ct_none (Or.inr (by omega))) (fun _ z => absurd z (by decide))
  · have z94 : ¬ nI (atN f n i) = (94 : Int32) := fun q => c ((nI_eq (b := 94) (by omega) (by decide)).mp q)
    refine ⟨i, r, mj_up I m 13 1, mj_up L (m + 8) (1 : Int32).toNatClampNeg v, wp_X9_readPower hm ⟨_, _, _, m_at hm h (by omega), fun _ => ⟨rfl, rfl⟩, fun q => absurd q z94⟩, ⟨fun b hb => up_ne hb, fun k _ _ hk => up_nk hk, fun b hb => up_ne hb⟩, Nat.le_refl _, hi, rfl, ⟨o1, o2, o3, o4⟩, Or.inr ⟨by rw [up_nk (by decide)]; exact hb, by unfold rDone; exact decide_eq_true (Or.inr (Or.inl hst)), by rw [up_eq, hpl]; rfl, by rw [e1]; exact row_end hv hrow, fun hz => run_stop (fun hi3 => ?_), fun _ => Or.inl hst⟩⟩
    rw [atN_in hi3] at c hz
    rcases hz with hz | hz
    · omega
    · exact acc_none (fun z => absurd z hz.1) (fun z => absurd z hz.2) (fun _ => lt_none (Or.inl (by omega))) (fun z => absurd z c) (fun _ _ => rdg_none (Or.inl hst))
end
