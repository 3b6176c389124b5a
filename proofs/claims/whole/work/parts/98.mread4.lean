/-! THE REFERENCE'S READER: a text; where it is broken -/
variable {S : List mjD} {I : Nat → Nat → Int32} {L : Nat → Nat → Int64}
section
variable {m n : Nat} {f : Nat → Nat}
/-- what the reading of a text leaves, from where it stands -/
def rxP (m n : Nat) (K : Nat) (r : rdS) (I1 : Nat → Nat → Int32) (L1 : Nat → Nat → Int64) : Prop :=
  (I1 m 11 = 1 ∧ K = n ∧ rDone r = true ∧ ∀ t, t < 6 → L1 (m + 8) t = rrw (rEnd r) t) ∨ (I1 m 11 = 0 ∧ ¬ (K = n ∧ rDone r = true))
theorem m_terms (hm : is_Model S m) : ∀ w k, n - k ≤ w → ∀ (r : rdS) (I : Nat → Nat → Int32) (L : Nat → Nat → Int64), pgM m n f I → rOK r → k ≤ n → rtP m n f k r I L →
    ∃ I1 L1, hd_X9_readText_69 S (fun v h => v = some (.int (nI (rRun f k (n - k) r).1)) ∧ h = (S, I1, L1)) m (nI k) I L ∧ rfr m I L I1 L1 ∧ rxP m n (rRun f k (n - k) r).1 (rRun f k (n - k) r).2 I1 L1 := by
  intro w
  induction w with
  | zero =>
    intro k hk r I L h ho hkn hp
    have h40 := h.2.1
    obtain rfl : k = n := by omega
    have erun : rRun f k (k - k) r = (k, r) := run_stop (fun z => absurd z (Nat.lt_irrefl _))
    rw [erun]
    rcases hp with ⟨p1, p2, p3⟩ | ⟨p1, p2, p3, p4, p5, p6⟩
    · have z : ¬ I m 12 = 0 := by rw [p1]; decide
      exact ⟨mj_up I m 11 0, L, it_X9_readText_69 hm ⟨fun _ => ⟨fun _ => ⟨rfl, rfl⟩, fun q => absurd q z⟩, fun q => absurd q z⟩, ⟨fun b hb => up_ne hb, fun j hj _ _ => up_nk hj, fun _ _ => rfl⟩, Or.inr ⟨up_eq, fun q => by have := p3 rfl; rw [q.2] at this; cases this⟩⟩
    · have e9 : nI k = I m 9 := h.1.symm
      have hf : rfr m I L (mj_up I m 11 1) L := ⟨fun b hb => up_ne hb, fun j hj _ _ => up_nk hj, fun _ _ => rfl⟩
      have ha := m_at (S := S) (I := I) (L := L) (i := k) hm h (by omega)
      have e0 : atN f k k = 0 := if_neg (Nat.lt_irrefl _)
      rw [e0] at ha
      exact ⟨mj_up I m 11 1, L, it_X9_readText_69 hm ⟨fun q => absurd p1 q, fun _ => ⟨fun _ => ⟨fun q => absurd p1 q, fun _ => ⟨fun q => absurd e9 q, fun _ => ⟨rfl, rfl⟩⟩⟩, fun _ => ⟨_, _, _, ha, fun q => absurd q (by decide), fun _ => ⟨_, _, _, ha, fun _ => ⟨fun q => absurd p1 q, fun _ => ⟨fun q => absurd e9 q, fun _ => ⟨rfl, rfl⟩⟩⟩, fun q => absurd q (by decide)⟩⟩⟩⟩, hf, Or.inl ⟨up_eq, rfl, p2, p4⟩⟩
  | succ w ih =>
    intro k hk r I L h ho hkn hp
    have h40 := h.2.1
    rcases hp with ⟨p1, p2, p3⟩ | ⟨p1, p2, p3, p4, p5, p6⟩
    · rw [p2]
      have z : ¬ I m 12 = 0 := by rw [p1]; decide
      exact ⟨mj_up I m 11 0, L, it_X9_readText_69 hm ⟨fun _ => ⟨fun _ => ⟨rfl, rfl⟩, fun q => absurd q z⟩, fun q => absurd q z⟩, ⟨fun b hb => up_ne hb, fun j hj _ _ => up_nk hj, fun _ _ => rfl⟩, Or.inr ⟨up_eq, fun q => by have := p3 q.1; rw [q.2] at this; cases this⟩⟩
    · have o3 := ho.2.2.1
      have e13 : I m 13 ≤ (0 : Int32) ↔ rpl r ≤ 0 := by rw [p3]; exact nI_leI (b := 0) (by omega) (by decide)
      have ha := m_at (S := S) (I := I) (L := L) (i := k) hm h (by omega)
      have a128 := atN_lt (i := k) h
      have q43 : nI (atN f n k) = (43 : Int32) ↔ atN f n k = 43 := nI_eq (b := 43) (by omega) (by decide)
      have q45 : nI (atN f n k) = (45 : Int32) ↔ atN f n k = 45 := nI_eq (b := 45) (by omega) (by decide)
      have hend : ∃ I1 : Nat → Nat → Int32, ((¬ nI k = I m 9 → I1 = mj_up I m 11 0) ∧ (nI k = I m 9 → I1 = mj_up I m 11 1)) ∧ rfr m I L I1 L ∧ rxP m n k r I1 L := by
        have e9 : nI k = I m 9 ↔ k = n := by rw [h.1]; exact nI_eq (by omega) (by omega)
        by_cases c : k = n
        · exact ⟨mj_up I m 11 1, ⟨fun q => absurd (e9.mpr c) q, fun _ => rfl⟩, ⟨fun b hb => up_ne hb, fun j hj _ _ => up_nk hj, fun _ _ => rfl⟩, Or.inl ⟨up_eq, c, p2, p4⟩⟩
        · exact ⟨mj_up I m 11 0, ⟨fun _ => rfl, fun q => absurd (e9.mp q) c⟩, ⟨fun b hb => up_ne hb, fun j hj _ _ => up_nk hj, fun _ _ => rfl⟩, Or.inr ⟨up_eq, fun q => c q.1⟩⟩
      obtain ⟨I0, ⟨g1, g2⟩, g3, g4⟩ := hend
      have stop : ∀ {N : Nat} , N = k → ((¬ I m 12 = 0 → (some (Value.int (nI k)) = some (Value.int (nI N)) ∧ ((S, mj_up I m 11 (0 : Int32), L) : mjH) = (S, I0, L))) ∧ (I m 12 = 0 → ((¬ nI k = I m 9 → (some (Value.int (nI k)) = some (Value.int (nI N)) ∧ ((S, mj_up I m 11 (0 : Int32), L) : mjH) = (S, I0, L))) ∧ (nI k = I m 9 → (some (Value.int (nI k)) = some (Value.int (nI N)) ∧ ((S, mj_up I m 11 (1 : Int32), L) : mjH) = (S, I0, L)))))) := fun hN => by
        rw [hN]
        exact ⟨fun q => absurd p1 q, fun _ => ⟨fun q => ⟨rfl, by rw [g1 q]⟩, fun q => ⟨rfl, by rw [g2 q]⟩⟩⟩
      by_cases cp : rpl r = 0
      · rw [p5 (Or.inl cp)]
        exact ⟨I0, L, it_X9_readText_69 hm ⟨fun q => absurd p1 q, fun _ => ⟨fun _ => stop rfl, fun q => absurd (e13.mpr (by omega)) q⟩⟩, g3, g4⟩
      · have z13 : ¬ I m 13 ≤ 0 := fun q => cp (by have := e13.mp q; omega)
        have more : ∀ b, (atN f n k = if b then 45 else 43) → ∃ I1 L1, (∃ r59 I60 L61, CTi mr_X9_readTerm [.ref m, .int (nI k + (1 : Int32)), .int (bI b)] S I L r59 I60 L61 ∧ hd_X9_readText_69 S (fun v h => v = some (.int (nI (rRun f k (n - k) r).1)) ∧ h = (S, I1, L1)) m r59 I60 L61) ∧ rfr m I L I1 L1 ∧ rxP m n (rRun f k (n - k) r).1 (rRun f k (n - k) r).2 I1 L1 := fun b hc => by
          have hin : k < n := atN_pos (f := f) (by rw [hc]; cases b <;> decide)
          have hac : rAcc r (f k) = some (rMk (rEnd r) 1 b (ram r) (rpl r)) := by
            rw [← atN_in (f := f) hin, hc]
            cases b
            · show (if (43 : Nat) = 43 then rSign r false else _) = _
              rw [if_pos rfl]; unfold rSign; rw [if_pos (p6 cp)]
            · show (if (45 : Nat) = 43 then rSign r false else if (45 : Nat) = 45 then rSign r true else _) = _
              rw [if_neg (by decide), if_pos rfl]; unfold rSign; rw [if_pos (p6 cp)]
          have ho1 := ok_acc ho hac
          obtain ⟨k2, r2, I2, L2, t1, t2, t3, t4, t5, t6, t7⟩ := m_readTerm (S := S) (I := I) (L := L) (i := k + 1) (r := rMk (rEnd r) 1 b (ram r) (rpl r)) hm h ho1 (by omega) p3 p1 p4 (Nat.le_refl 1) (fun z => absurd z (by show ¬ 1 = 0; decide))
          have h2 := pgM_fr h t2
          have hst := (run_step hin hac).trans t5
          obtain ⟨I1, L1, u1, u2, u3⟩ := ih k2 (by omega) r2 I2 L2 h2 t6 t4 t7
          rw [← hst] at u1 u3
          exact ⟨I1, L1, ⟨_, _, _, by rw [nI_1]; exact t1, u1⟩, rfr_tr t2 u2, u3⟩
        by_cases c43 : atN f n k = 43
        · obtain ⟨I1, L1, u1, u2, u3⟩ := more false (by rw [c43]; rfl)
          exact ⟨I1, L1, it_X9_readText_69 hm ⟨fun q => absurd p1 q, fun _ => ⟨fun q => absurd q z13, fun _ => ⟨_, _, _, ha, fun _ => ⟨_, _, _, ha, fun _ => u1, fun q => absurd (q45.mp q) (by omega)⟩, fun q => absurd (q43.mpr c43) q⟩⟩⟩, u2, u3⟩
        · have z43 : ¬ nI (atN f n k) = 43 := fun q => c43 (q43.mp q)
          by_cases c45 : atN f n k = 45
          · obtain ⟨I1, L1, u1, u2, u3⟩ := more true (by rw [c45]; rfl)
            exact ⟨I1, L1, it_X9_readText_69 hm ⟨fun q => absurd p1 q, fun _ => ⟨fun q => absurd q z13, fun _ => ⟨_, _, _, ha, fun q => absurd q z43, fun _ => ⟨_, _, _, ha, fun q => absurd (q45.mpr c45) q, fun _ => ⟨_, _, _, ha, fun q => absurd (q45.mpr c45) q, fun _ => u1⟩⟩⟩⟩⟩, u2, u3⟩
          · have z45 : ¬ nI (atN f n k) = 45 := fun q => c45 (q45.mp q)
            rw [p5 (Or.inr ⟨c43, c45⟩)]
            exact ⟨I0, L, it_X9_readText_69 hm ⟨fun q => absurd p1 q, fun _ => ⟨fun q => absurd q z13, fun _ => ⟨_, _, _, ha, fun q => absurd q z43, fun _ => ⟨_, _, _, ha, fun _ => stop rfl, fun q => absurd q z45⟩⟩⟩⟩, g3, g4⟩
theorem m_readText (hm : is_Model S m) (h : pgM m n f I) : ∃ I1 L1, CTi mr_X9_readText [.ref m] S I L (nI (rRun f 0 n rIni).1) I1 L1 ∧ rfr m I L I1 L1 ∧ rxP m n (rRun f 0 n rIni).1 (rRun f 0 n rIni).2 I1 L1 := by
  have h40 := h.2.1
  obtain ⟨I0, hI0⟩ : ∃ I0, I0 = mj_up (mj_up (mj_up I m 11 (0 : Int32)) m 12 (0 : Int32)) m 13 (6 : Int32) := ⟨_, rfl⟩
  obtain ⟨L0, hL0⟩ : ∃ L0, L0 = mwn L (m + 8) 6 (fun _ => (0 : Int64)) := ⟨_, rfl⟩
  have f0 : rfr m I L I0 L0 := ⟨fun b hb => by rw [hI0, up_ne hb, up_ne hb, up_ne hb], fun k h1 h2 h3 => by rw [hI0, up_nk h3, up_nk h2, up_nk h1], fun b hb => by rw [hL0, mwn_ne hb]⟩
  have h0 := pgM_fr h f0
  have e12 : I0 m 12 = 0 := by rw [hI0, up_nk (by decide), up_eq]
  have e13 : I0 m 13 = nI 6 := by rw [hI0, up_eq]; rfl
  have row : ∀ t, t < 6 → L0 (m + 8) t = rrw rIni t := fun t ht => by
    rw [hL0, mwn_at ht]
    show (0 : Int64) = if t = 0 then 0 else 0
    by_cases z : t = 0
    · rw [if_pos z]
    · rw [if_neg z]
  have ha := m_at (S := S) (I := I0) (L := L0) (i := 0) hm h0 (by decide)
  have a128 := atN_lt (i := 0) h0
  have q45 : nI (atN f n 0) = (45 : Int32) ↔ atN f n 0 = 45 := nI_eq (b := 45) (by omega) (by decide)
  have loop : ∀ RET : Option Value → mjH → Prop, hd_X9_readText_18 S RET m (nI 6) I0 L0 → CT mr_X9_readText (0, 0) [.ref m] (S, I, L) RET := fun RET h6 => by
    have key := up_loop (P := fun i => hd_X9_readText_18 S RET m (nI i) I0 (mwn L (m + 8) i (fun _ => (0 : Int64)))) 6 (by rw [← hL0]; exact h6) (fun i hi ih => it_X9_readText_18 hm (ge_f (k := 6) hi (by decide) ⟨vp_in_nI hi (by decide), fun y hy => by
      rw [hy, nI_1, nI_clamp (by omega), mwn_s _ _ _ (fun _ => (0 : Int64)) _ rfl]; exact ih⟩)) 0 (Nat.zero_le _)
    rw [mwn_0] at key
    refine wp_X9_readText hm ?_
    rw [← hI0]; exact key
  by_cases c : atN f n 0 = 45
  · have hin : 0 < n := atN_pos (f := f) (by omega)
    have hac : rAcc rIni (f 0) = some (rMk rIni 1 true 0 0) := by
      rw [← atN_in (f := f) hin, c]; rfl
    obtain ⟨k2, r2, I2, L2, t1, t2, t3, t4, t5, t6, t7⟩ := m_readTerm (S := S) (I := I0) (L := L0) (i := 1) (r := rMk rIni 1 true 0 0) hm h0 (ok_acc ini_ok hac) (by omega) e13 e12 row (Nat.le_refl 1) (fun z => absurd z (by show ¬ 1 = 0; decide))
    obtain ⟨I1, L1, u1, u2, u3⟩ := m_terms (S := S) (n := n) (f := f) hm (n - k2) k2 (Nat.le_refl _) r2 I2 L2 (pgM_fr h0 t2) t6 t4 t7
    have hst := (run_step hin hac).trans t5
    rw [Nat.sub_zero] at hst
    rw [← hst] at u1 u3
    exact ⟨I1, L1, loop _ (it_X9_readText_18 hm (ge_t (k := 6) (Nat.le_refl _) (by decide) ⟨_, _, _, ha, fun q => absurd (q45.mpr c) q, fun _ => ⟨_, _, _, t1, u1⟩⟩)), rfr_tr f0 (rfr_tr t2 u2), u3⟩
  · obtain ⟨k2, r2, I2, L2, t1, t2, t3, t4, t5, t6, t7⟩ := m_readTerm (S := S) (I := I0) (L := L0) (i := 0) (r := rIni) hm h0 ini_ok (Nat.zero_le _) e13 e12 row (Nat.zero_le _) (fun _ => c)
    obtain ⟨I1, L1, u1, u2, u3⟩ := m_terms (S := S) (n := n) (f := f) hm (n - k2) k2 (Nat.le_refl _) r2 I2 L2 (pgM_fr h0 t2) t6 t4 t7
    rw [Nat.sub_zero] at t5
    rw [← t5] at u1 u3
    exact ⟨I1, L1, loop _ (it_X9_readText_18 hm (ge_t (k := 6) (Nat.le_refl _) (by decide) ⟨_, _, _, ha, fun _ => ⟨_, _, _, t1, u1⟩, fun q => absurd (q45.mp q) c⟩)), rfr_tr f0 (rfr_tr t2 u2), u3⟩
theorem rfr_S {I1 : Nat → Nat → Int32} {L1 : Nat → Nat → Int64} (h : rfr m I L I1 L1) : frS m I L I1 L1 := ⟨fun b hb => ⟨h.1 b (by omega), h.2.2 b (by omega)⟩, fun k hk => h.2.1 k (by omega) (by omega) (by omega)⟩
theorem rfr_IM {A : aS} {I1 : Nat → Nat → Int32} {L1 : Nat → Nat → Int64} (hI : IM m A I L) (h : rfr m I L I1 L1) : IM m A I1 L1 := IM_sc hI (rfr_S h) (cache_eq hI.2.2.2.2.2.2 (h.2.1 15 (by decide) (by decide) (by decide)) (h.2.1 19 (by decide) (by decide) (by decide)) (h.1 _ (by omega)) (h.1 _ (by omega)) (h.2.2 _ (by omega)) (h.2.2 _ (by omega)))
theorem IM_pgM {A : aS} (hA : aOK A) (h : IM m A I L) : pgM m (apn A) (fO A) I := ⟨h.1.1, hA.1, fun k hk => by
  obtain ⟨e1, e2, e3⟩ := fO_eq hA hk
  exact ⟨by rw [h.1.2 k hk]; exact e1, e2, e3⟩⟩
theorem m_fault {A : aS} (hm : is_Model S m) (hA : aOK A) (h : IM m A I L) : ∃ I1 L1, CTi mr_X9_fault [.ref m] S I L (nI (pgR A).1) I1 L1 ∧ IM m A I1 L1 ∧ fr (moX m) I L I1 L1 := by
  obtain ⟨I1, L1, t1, t2, -⟩ := m_readText (S := S) (I := I) (L := L) hm (IM_pgM hA h)
  exact ⟨I1, L1, wp_X9_fault hm ⟨_, _, _, t1, rfl, rfl⟩, rfr_IM h t2, frS_mo (rfr_S t2)⟩
end
