/-! THE READER: from the start; is it complete; the class -/
variable {S : List mjD} {I : Nat → Nat → Int32} {L : Nat → Nat → Int64}
theorem rd_st2 {p : Nat} {r : rdS} (h : rdR p r I L) (hs : 2 ≤ rst r) : I p 3 = nI (ram r) := h.2.2.1 hs
theorem ini_ok : rOK rIni := ⟨Nat.zero_le _, Nat.zero_le _, by show 0 < 6; decide, by show 6 ≤ 6; decide⟩
theorem c_readAll {q n p : Nat} {f : Nat → Nat} (hp : is_Reader S p) (hq : is_Line S q) (hpq : q ≠ p ∧ q ≠ p + 1 + 1 ∧ q + 1 ≠ p ∧ q + 1 ≠ p + 1 + 1) (h1 : I q 1 = nI n) (h2 : ∀ k, k < n → I (q + 1) k = nI (f k) ∧ f k < 128) (hn : n ≤ 40) : ∃ I1 L1, CTi mr_X6_read [.ref p, .ref q] S I L (nI (rRun f 0 n rIni).1) I1 L1 ∧ rdR p (rRun f 0 n rIni).2 I1 L1 ∧ fr (rX p) I L I1 L1 := by
  have hc := s_setConstant (S := S) (I := I) (L := L) (p := p + 1) hp.2 0
  obtain ⟨I2, hI2⟩ : ∃ I2, I2 = mj_up (mj_up (mj_up I p 1 (0 : Int32)) p 2 (1 : Int32)) p 5 (6 : Int32) := ⟨_, rfl⟩
  obtain ⟨L2, hL2⟩ : ∃ L2, L2 = mwn L (p + 1 + 1) 6 (fun k => if k = 0 then (0 : Int64) else 0) := ⟨_, rfl⟩
  have r2 : ∀ b, b ≠ p → I2 b = I b := fun b hb => by rw [hI2, up_ne hb, up_ne hb, up_ne hb]
  have hr : rdR p rIni I2 L2 := ⟨by rw [hI2, up_nk (by decide), up_nk (by decide), up_eq]; rfl, by rw [hI2, up_nk (by decide), up_eq]; rfl, fun z => absurd z (by show ¬ 2 ≤ 0; decide), fun z => absurd z (by show ¬ 2 ≤ 0; decide), by rw [hI2, up_eq]; rfl, fun t ht => by rw [hL2, mwn_at ht]; rfl⟩
  obtain ⟨I1, L1, k1, k2, k3⟩ := c_read (S := S) (I := I2) (L := L2) (f := f) (n := n) hp hq hpq (by rw [r2 q hpq.1]; exact h1) (fun k hk => by rw [r2 (q + 1) hpq.2.2.1]; exact h2 k hk) hn hr ini_ok
  rw [← hL2] at hc
  refine ⟨I1, L1, wp_X6_read hp hq ⟨_, _, hc, by rw [← hI2]; exact k1⟩, k2, fun b hb => ?_⟩
  have := k3 b hb
  rw [r2 b (fun e => hb (Or.inl e)), hL2, mwn_ne (fun e => hb (Or.inr e))] at this
  exact this
/-- it may end here -/
def rDone (r : rdS) : Bool := decide (rst r = 2 ∨ rst r = 3 ∨ rst r = 5)
theorem c_isComplete {p : Nat} {r : rdS} (hp : is_Reader S p) (h : rdR p r I L) (ho : rOK r) : ∃ I1 L1, CTi mr_X6_isComplete [.ref p] S I L (if rDone r then 1 else 0) I1 L1 ∧ (rDone r = true → rdR p (rEnd r) I1 L1) ∧ fr (rX p) I L I1 L1 := by
  obtain ⟨o1, o2, o3, o4⟩ := ho
  have e2 : I p 1 = 2 ↔ rst r = 2 := by rw [h.1]; exact nI_eq (b := 2) (by omega) (by decide)
  have e3 : I p 1 = 3 ↔ rst r = 3 := by rw [h.1]; exact nI_eq (b := 3) (by omega) (by decide)
  have e5 : I p 1 = 5 ↔ rst r = 5 := by rw [h.1]; exact nI_eq (b := 5) (by omega) (by decide)
  by_cases c : rst r = 2 ∨ rst r = 3 ∨ rst r = 5
  · have e : rDone r = true := by unfold rDone; exact decide_eq_true c
    rw [e]
    obtain ⟨I1, L1, t1, t2, t3, t4⟩ := c_endTerm (S := S) hp h o3 o2 (by omega)
    refine ⟨I1, L1, wp_X6_isComplete hp ⟨fun _ => ⟨_, _, t1, rfl, rfl⟩, fun q2 => ⟨fun _ => ⟨_, _, t1, rfl, rfl⟩, fun q3 => ⟨fun _ => ⟨_, _, t1, rfl, rfl⟩, fun q5 => absurd c (fun w => w.elim (fun w => q2 (e2.mpr w)) (fun w => w.elim (fun w => q3 (e3.mpr w)) (fun w => q5 (e5.mpr w))))⟩⟩⟩, fun _ => t2, fun b hb => ⟨t3 b (fun e => hb (Or.inl e)), t4 b (fun e => hb (Or.inr e))⟩⟩
  · have e : rDone r = false := by unfold rDone; exact decide_eq_false c
    rw [e]
    exact ⟨I, L, wp_X6_isComplete hp ⟨fun q => absurd (Or.inl (e2.mp q)) c, fun _ => ⟨fun q => absurd (Or.inr (Or.inl (e3.mp q))) c, fun _ => ⟨fun q => absurd (Or.inr (Or.inr (e5.mp q))) c, fun _ => ⟨rfl, rfl⟩⟩⟩⟩, fun z => (by cases z), fr_rf⟩
