/-! THE LAW'S TURNS -/
def nxt (A : aS) (I : Nat → Nat → Int32) (L : Nat → Nat → Int64) : Prop := ∃ A', aOK A' ∧ IC 0 A' I L ∧ IM 174 A' I L ∧ adk A' ≤ adk A + 1
section
variable {S : List mjD} {I : Nat → Nat → Int32} {L : Nat → Nat → Int64} {m : Nat} {A : aS}
theorem IM_far {X : Nat → Prop} {I1 : Nat → Nat → Int32} {L1 : Nat → Nat → Int64} (h : IM m A I L) (hf : fr X I L I1 L1) (hX : ∀ b, m ≤ b → b < m + 33 → ¬ X b) : IM m A I1 L1 := by
  obtain ⟨⟨a1, a2⟩, a3, a4, a5, a6, a7, a8⟩ := h
  have e : ∀ k, k < 33 → I1 (m + k) = I (m + k) ∧ L1 (m + k) = L (m + k) := fun k hk => hf (m + k) (hX _ (by omega) (by omega))
  have e0 : I1 m = I m := (e 0 (by decide)).1
  refine ⟨⟨by rw [e0]; exact a1, fun k hk => by rw [(e 7 (by decide)).1]; exact a2 k hk⟩, by rw [e0]; exact a3, by rw [e0]; exact a4, mR_eq a5 (e 1 (by decide)).1 (e 2 (by decide)).2 (e 3 (by decide)).1 (e 4 (by decide)).1 (e 5 (by decide)).1 (e 6 (by decide)).1 (by rw [e0]), by rw [e0]; exact a6, fun hh => ⟨by rw [e0]; exact (a7 hh).1, mR_eq (a7 hh).2 (e 27 (by decide)).1 (e 29 (by decide)).2 (e 28 (by decide)).1 (e 30 (by decide)).1 (e 31 (by decide)).1 (e 32 (by decide)).1 (by rw [e0])⟩, cache_eq a8 (by rw [e0]) (by rw [e0]) (e 12 (by decide)).1 (e 13 (by decide)).1 (e 9 (by decide)).2 (e 11 (by decide)).2⟩
theorem far_M {I1 : Nat → Nat → Int32} {L1 : Nat → Nat → Int64} (h : IM 174 A I L) (hf : fr (dX 0) I L I1 L1) : IM 174 A I1 L1 := IM_far h hf (fun b h1 _ z => by unfold dX at z; omega)
theorem far_C {I1 : Nat → Nat → Int32} {L1 : Nat → Nat → Int64} (h : IC 0 A I L) (hf : fr (moX 174) I L I1 L1) : IC 0 A I1 L1 := IC_fr h hf (fun b hb z => by unfold moX at z; omega)
theorem sc_d {I1 : Nat → Nat → Int32} {L1 : Nat → Nat → Int64} (h : fr (scX 0) I L I1 L1) : fr (dX 0) I L I1 L1 := fr_mono h (fun b z => by unfold scX at z; unfold dX; omega)
theorem nx_of {I1 I2 : Nat → Nat → Int32} {L1 L2 : Nat → Nat → Int64} {B : aS} (hok : aOK B) (hC : IC 0 B I1 L1) (hf : fr (moX 174) I1 L1 I2 L2) (hM : IM 174 B I2 L2) (ha : adk B ≤ adk A + 1) : nxt A I2 L2 := ⟨B, hok, far_C hC hf, hM, ha⟩
theorem dk_settle (j : Nat) (W : Nat → Int64) : adk (sp_settle A j W).2 = adk A := by
  unfold sp_settle
  (repeat' split) <;> rfl
theorem dk_letter (a : Int32) : adk (sp_letter A a).2 = adk A := by
  unfold sp_letter
  (repeat' split) <;> first | rfl | exact dk_settle _ _
theorem dk_blank : adk (sp_blank A).2 = adk A := by
  unfold sp_blank
  (repeat' split) <;> first | rfl | exact dk_settle _ _
theorem dk_forget : adk (sp_forget A).2 = adk A := by
  unfold sp_forget
  (repeat' split) <;> first | rfl | exact dk_settle _ _
theorem dk_be (a b : Int32) : adk (sp_be A a b).2 = adk A := by
  unfold sp_be
  (repeat' split) <;> first | rfl | exact dk_settle _ _
theorem dk_see (a b c : Int32) : adk (sp_see A a b c).2 = adk A := by
  unfold sp_see
  (repeat' split) <;> first | rfl | exact dk_settle _ _
theorem dk_image : adk (sp_image A).2 = adk A := by
  unfold sp_image
  (repeat' split) <;> first | rfl | exact dk_settle _ _
theorem dk_restore : adk (sp_restore A).2 = adk A := by
  unfold sp_restore
  (repeat' split) <;> first | rfl | exact dk_settle _ _
theorem dk_put (a : Int32) : adk (sp_put A a).2 = adk A := by
  unfold sp_put
  (repeat' split) <;> first | rfl | exact dk_settle _ _
theorem dk_add (a b c : Int32) : adk (sp_add A a b c).2 = adk A := by
  unfold sp_add
  (repeat' split) <;> first | rfl | exact dk_settle _ _
theorem dk_times (a b c : Int32) : adk (sp_times A a b c).2 = adk A := by
  unfold sp_times
  (repeat' split) <;> first | rfl | exact dk_settle _ _
theorem dk_common (a b c : Int32) : adk (sp_common A a b c).2 = adk A := by
  unfold sp_common
  (repeat' split) <;> first | rfl | exact dk_settle _ _
theorem dk_slope (a b : Int32) : adk (sp_slope A a b).2 = adk A := by
  unfold sp_slope
  (repeat' split) <;> first | rfl | exact dk_settle _ _
theorem dk_move (a b c : Int32) : adk (sp_move A a b c).2 = adk A := by
  unfold sp_move
  (repeat' split) <;> first | rfl | exact dk_settle _ _
theorem dk_desk : adk (sp_desk A).2 ≤ adk A + 1 := by
  unfold sp_desk
  split
  · exact Nat.le_refl _
  · exact Nat.le_succ _
end
section
variable {I : Nat → Nat → Int32} {L : Nat → Nat → Int64} {A : aS}
theorem tn_letter (hA : aOK A) (hC : IC 0 A I L) (hM : IM 174 A I L) (a : Int32) : ∃ r I1 L1 I2 L2, CTi mr_X8_letter [.ref 0, .int a] SH I L r I1 L1 ∧ CTi mr_X9_letter [.ref 174, .int a] SH I1 L1 r I2 L2 ∧ nxt A I2 L2 := by
  obtain ⟨I1, L1, a1, a2, a3⟩ := c_letter SH_desk hA hC a
  obtain ⟨I2, L2, b1, b2, b3⟩ := m_letter SH_model hA (far_M hM a3) a
  exact ⟨_, I1, L1, I2, L2, a1, b1, nx_of (ok_letter hA a) a2 b3 b2 (by rw [dk_letter]; exact Nat.le_succ _)⟩
theorem tn_blank (hA : aOK A) (hC : IC 0 A I L) (hM : IM 174 A I L) : ∃ r I1 L1 I2 L2, CTi mr_X8_blank [.ref 0] SH I L r I1 L1 ∧ CTi mr_X9_blank [.ref 174] SH I1 L1 r I2 L2 ∧ nxt A I2 L2 := by
  obtain ⟨I1, L1, a1, a2, a3⟩ := c_blank SH_desk hC
  obtain ⟨I2, L2, b1, b2, b3⟩ := m_blank SH_model (far_M hM a3)
  exact ⟨_, I1, L1, I2, L2, a1, b1, nx_of (ok_blank hA) a2 b3 b2 (by rw [dk_blank]; exact Nat.le_succ _)⟩
theorem tn_forget (hA : aOK A) (hC : IC 0 A I L) (hM : IM 174 A I L) : ∃ r I1 L1 I2 L2, CTi mr_X8_forget [.ref 0] SH I L r I1 L1 ∧ CTi mr_X9_forget [.ref 174] SH I1 L1 r I2 L2 ∧ nxt A I2 L2 := by
  obtain ⟨I1, L1, a1, a2, a3⟩ := c_forget SH_desk hC
  obtain ⟨I2, L2, b1, b2, b3⟩ := m_forget SH_model (far_M hM a3)
  exact ⟨_, I1, L1, I2, L2, a1, b1, nx_of (ok_forget hA) a2 b3 b2 (by rw [dk_forget]; exact Nat.le_succ _)⟩
theorem tn_desk (hA : aOK A) (hC : IC 0 A I L) (hM : IM 174 A I L) (h30 : adk A + 1 < 2 ^ 30) : ∃ r I1 L1 I2 L2, CTi mr_X8_desk [.ref 0] SH I L r I1 L1 ∧ CTi mr_X9_desk [.ref 174] SH I1 L1 r I2 L2 ∧ nxt A I2 L2 := by
  obtain ⟨I1, L1, a1, a2, a3⟩ := c_desk SH_desk hA hC
  obtain ⟨I2, L2, b1, b2, b3⟩ := m_desk SH_model hA (far_M hM a3)
  exact ⟨_, I1, L1, I2, L2, a1, b1, nx_of (ok_desk hA h30) a2 b3 b2 (dk_desk)⟩
theorem tn_put (hA : aOK A) (hC : IC 0 A I L) (hM : IM 174 A I L) (a : Int32) : ∃ r I1 L1 I2 L2, CTi mr_X8_put [.ref 0, .int a] SH I L r I1 L1 ∧ CTi mr_X9_put [.ref 174, .int a] SH I1 L1 r I2 L2 ∧ nxt A I2 L2 := by
  obtain ⟨I1, L1, a1, a2, a3⟩ := c_put SH_desk hA hC a
  obtain ⟨I2, L2, b1, b2, b3⟩ := m_put SH_model hA (far_M hM a3) a
  exact ⟨_, I1, L1, I2, L2, a1, b1, nx_of (ok_put2 SH_model hA a) a2 b3 b2 (by rw [dk_put]; exact Nat.le_succ _)⟩
theorem tn_be (hA : aOK A) (hC : IC 0 A I L) (hM : IM 174 A I L) (a b : Int32) : ∃ r I1 L1 I2 L2, CTi mr_X8_be [.ref 0, .int a, .int b] SH I L r I1 L1 ∧ CTi mr_X9_be [.ref 174, .int a, .int b] SH I1 L1 r I2 L2 ∧ nxt A I2 L2 := by
  obtain ⟨I1, L1, a1, a2, a3⟩ := c_be SH_desk hA hC a b
  obtain ⟨I2, L2, b1, b2, b3⟩ := m_be SH_model hA (far_M hM a3) a b
  exact ⟨_, I1, L1, I2, L2, a1, b1, nx_of (ok_be hA a b) a2 b3 b2 (by rw [dk_be]; exact Nat.le_succ _)⟩
theorem tn_see (hA : aOK A) (hC : IC 0 A I L) (hM : IM 174 A I L) (a b c : Int32) : ∃ r I1 L1 I2 L2, CTi mr_X8_see [.ref 0, .int a, .int b, .int c] SH I L r I1 L1 ∧ CTi mr_X9_see [.ref 174, .int a, .int b, .int c] SH I1 L1 r I2 L2 ∧ nxt A I2 L2 := by
  obtain ⟨I1, L1, a1, a2, a3⟩ := c_see SH_desk hA hC a b c
  obtain ⟨I2, L2, b1, b2, b3⟩ := m_see SH_model hA (far_M hM a3) a b c
  exact ⟨_, I1, L1, I2, L2, a1, b1, nx_of (ok_see hA a b c) a2 b3 b2 (by rw [dk_see]; exact Nat.le_succ _)⟩
theorem tn_image (hA : aOK A) (hC : IC 0 A I L) (hM : IM 174 A I L) : ∃ r I1 L1 I2 L2, CTi mr_X8_image [.ref 0] SH I L r I1 L1 ∧ CTi mr_X9_image [.ref 174] SH I1 L1 r I2 L2 ∧ nxt A I2 L2 := by
  obtain ⟨I1, L1, a1, a2, a3⟩ := c_image SH_desk hA hC
  obtain ⟨I2, L2, b1, b2, b3⟩ := m_image SH_model hA (far_M hM a3)
  exact ⟨_, I1, L1, I2, L2, a1, b1, nx_of (ok_image hA) a2 b3 b2 (by rw [dk_image]; exact Nat.le_succ _)⟩
theorem tn_restore (hA : aOK A) (hC : IC 0 A I L) (hM : IM 174 A I L) : ∃ r I1 L1 I2 L2, CTi mr_X8_restore [.ref 0] SH I L r I1 L1 ∧ CTi mr_X9_restore [.ref 174] SH I1 L1 r I2 L2 ∧ nxt A I2 L2 := by
  obtain ⟨I1, L1, a1, a2, a3⟩ := c_restore SH_desk hA hC
  obtain ⟨I2, L2, b1, b2, b3⟩ := m_restore SH_model hA (far_M hM a3)
  exact ⟨_, I1, L1, I2, L2, a1, b1, nx_of (ok_restore hA) a2 b3 b2 (by rw [dk_restore]; exact Nat.le_succ _)⟩
theorem tn_add (hA : aOK A) (hC : IC 0 A I L) (hM : IM 174 A I L) (a b c : Int32) : ∃ r I1 L1 I2 L2, CTi mr_X8_add [.ref 0, .int a, .int b, .int c] SH I L r I1 L1 ∧ CTi mr_X9_add [.ref 174, .int a, .int b, .int c] SH I1 L1 r I2 L2 ∧ nxt A I2 L2 := by
  obtain ⟨I1, L1, a1, a2, a3⟩ := c_add SH_desk hA hC a b c
  obtain ⟨I2, L2, b1, b2, b3⟩ := m_add SH_model hA (far_M hM a3) a b c
  exact ⟨_, I1, L1, I2, L2, a1, b1, nx_of (ok_add SH_model hA a b c) a2 b3 b2 (by rw [dk_add]; exact Nat.le_succ _)⟩
theorem tn_times (hA : aOK A) (hC : IC 0 A I L) (hM : IM 174 A I L) (a b c : Int32) : ∃ r I1 L1 I2 L2, CTi mr_X8_times [.ref 0, .int a, .int b, .int c] SH I L r I1 L1 ∧ CTi mr_X9_times [.ref 174, .int a, .int b, .int c] SH I1 L1 r I2 L2 ∧ nxt A I2 L2 := by
  obtain ⟨I1, L1, a1, a2, a3⟩ := c_times SH_desk hA hC a b c
  obtain ⟨I2, L2, b1, b2, b3⟩ := m_timesOp SH_model hA (far_M hM a3) a b c
  exact ⟨_, I1, L1, I2, L2, a1, b1, nx_of (ok_times SH_model hA a b c) a2 b3 b2 (by rw [dk_times]; exact Nat.le_succ _)⟩
theorem tn_common (hA : aOK A) (hC : IC 0 A I L) (hM : IM 174 A I L) (a b c : Int32) : ∃ r I1 L1 I2 L2, CTi mr_X8_common [.ref 0, .int a, .int b, .int c] SH I L r I1 L1 ∧ CTi mr_X9_common [.ref 174, .int a, .int b, .int c] SH I1 L1 r I2 L2 ∧ nxt A I2 L2 := by
  obtain ⟨I1, L1, a1, a2, a3⟩ := c_common SH_desk hA hC a b c
  obtain ⟨I2, L2, b1, b2, b3⟩ := m_common SH_model hA (far_M hM a3) a b c
  exact ⟨_, I1, L1, I2, L2, a1, b1, nx_of (ok_common SH_model hA a b c) a2 b3 b2 (by rw [dk_common]; exact Nat.le_succ _)⟩
theorem tn_slope (hA : aOK A) (hC : IC 0 A I L) (hM : IM 174 A I L) (a b : Int32) : ∃ r I1 L1 I2 L2, CTi mr_X8_slope [.ref 0, .int a, .int b] SH I L r I1 L1 ∧ CTi mr_X9_slope [.ref 174, .int a, .int b] SH I1 L1 r I2 L2 ∧ nxt A I2 L2 := by
  obtain ⟨I1, L1, a1, a2, a3⟩ := c_slope SH_desk hA hC a b
  obtain ⟨I2, L2, b1, b2, b3⟩ := m_slope SH_model hA (far_M hM a3) a b
  exact ⟨_, I1, L1, I2, L2, a1, b1, nx_of (ok_slope SH_model hA a b) a2 b3 b2 (by rw [dk_slope]; exact Nat.le_succ _)⟩
theorem tn_move (hA : aOK A) (hC : IC 0 A I L) (hM : IM 174 A I L) (a b c : Int32) : ∃ r I1 L1 I2 L2, CTi mr_X8_move [.ref 0, .int a, .int b, .int c] SH I L r I1 L1 ∧ CTi mr_X9_move [.ref 174, .int a, .int b, .int c] SH I1 L1 r I2 L2 ∧ nxt A I2 L2 := by
  obtain ⟨I1, L1, a1, a2, a3⟩ := c_move SH_desk hA hC a b c
  obtain ⟨I2, L2, b1, b2, b3⟩ := m_move SH_model hA (far_M hM a3) a b c
  exact ⟨_, I1, L1, I2, L2, a1, b1, nx_of (ok_move SH_model hA a b c) a2 b3 b2 (by rw [dk_move]; exact Nat.le_succ _)⟩
theorem tn_fault (hA : aOK A) (hC : IC 0 A I L) (hM : IM 174 A I L) : ∃ r I1 L1 I2 L2, CTi mr_X8_fault [.ref 0] SH I L r I1 L1 ∧ CTi mr_X9_fault [.ref 174] SH I1 L1 r I2 L2 ∧ nxt A I2 L2 := by
  obtain ⟨I1, L1, a1, a2, a3⟩ := c_fault SH_desk hA hC
  obtain ⟨I2, L2, b1, b2, b3⟩ := m_fault SH_model hA (far_M hM a3)
  exact ⟨_, I1, L1, I2, L2, a1, b1, nx_of hA a2 b3 b2 (Nat.le_succ _)⟩
theorem tn_parts (hA : aOK A) (hC : IC 0 A I L) (hM : IM 174 A I L) (a b c : Int32) : ∃ r I1 L1 I2 L2, CTi mr_X8_parts [.ref 0, .int a, .int b, .int c] SH I L r I1 L1 ∧ CTi mr_X9_parts [.ref 174, .int a, .int b, .int c] SH I1 L1 r I2 L2 ∧ nxt A I2 L2 := by
  obtain ⟨I1, L1, a1, a2, a3⟩ := c_parts SH_desk hA hC a b c
  obtain ⟨I2, L2, b1, b2, b3⟩ := m_parts SH_model hA (far_M hM a3) a b c
  exact ⟨_, I1, L1, I2, L2, a1, b1, nx_of hA a2 b3 b2 (Nat.le_succ _)⟩
theorem tn_digest (hA : aOK A) (hC : IC 0 A I L) (hM : IM 174 A I L) : ∃ r I1 L1 I2 L2, CTl mr_X8_digest [.ref 0] SH I L r I1 L1 ∧ CTl mr_X9_digest [.ref 174] SH I1 L1 r I2 L2 ∧ nxt A I2 L2 := by
  obtain ⟨I1, L1, a1, a2, a3⟩ := c_digest SH_desk hA hC
  obtain ⟨I2, L2, b1, b2, b3⟩ := m_digest SH_model hA (far_M hM a3)
  exact ⟨_, I1, L1, I2, L2, a1, b1, nx_of hA a2 b3 b2 (Nat.le_succ _)⟩
theorem tn_degrees (hA : aOK A) (hC : IC 0 A I L) (hM : IM 174 A I L) (a : Int32) : ∃ r I1 L1 I2 L2, CTi mr_X8_degrees [.ref 0, .int a] SH I L r I1 L1 ∧ CTi mr_X9_degrees [.ref 174, .int a] SH I1 L1 r I2 L2 ∧ nxt A I2 L2 := by
  obtain ⟨I1, L1, a1, a2, a3⟩ := c_degrees SH_desk hA hC a
  obtain ⟨I2, L2, b1, b2, b3⟩ := m_degrees SH_model hA (far_M hM (sc_d a3)) a
  exact ⟨_, I1, L1, I2, L2, a1, b1, nx_of hA a2 b3 b2 (Nat.le_succ _)⟩
theorem tn_slot (hA : aOK A) (hC : IC 0 A I L) (hM : IM 174 A I L) (a b : Int32) : ∃ r I1 L1 I2 L2, CTi mr_X8_slot [.ref 0, .int a, .int b] SH I L r I1 L1 ∧ CTi mr_X9_slot [.ref 174, .int a, .int b] SH I1 L1 r I2 L2 ∧ nxt A I2 L2 := by
  obtain ⟨I1, L1, a1, a3⟩ := c_slot SH_desk hA hC a b
  obtain ⟨I2, L2, b1, b2, b3⟩ := m_slot SH_model hA (far_M hM (sc_d a3)) a b
  exact ⟨_, I1, L1, I2, L2, a1, b1, nx_of hA (IC_sc hC a3) b3 b2 (Nat.le_succ _)⟩
theorem tn_count (hA : aOK A) (hC : IC 0 A I L) (hM : IM 174 A I L) (a : Int32) : ∃ r I1 L1 I2 L2, CTi mr_X8_count [.ref 0, .int a] SH I L r I1 L1 ∧ CTi mr_X9_count [.ref 174, .int a] SH I1 L1 r I2 L2 ∧ nxt A I2 L2 := by
  obtain ⟨I1, L1, a1, a3⟩ := c_count SH_desk hA hC a
  obtain ⟨I2, L2, b1, b2, b3⟩ := m_count SH_model hA (far_M hM (sc_d a3)) a
  exact ⟨_, I1, L1, I2, L2, a1, b1, nx_of hA (IC_sc hC a3) b3 b2 (Nat.le_succ _)⟩
theorem tn_drawn (hA : aOK A) (hC : IC 0 A I L) (hM : IM 174 A I L) (a b c : Int32) : ∃ r I1 L1 I2 L2, CTi mr_X8_drawn [.ref 0, .int a, .int b, .int c] SH I L r I1 L1 ∧ CTi mr_X9_drawn [.ref 174, .int a, .int b, .int c] SH I1 L1 r I2 L2 ∧ nxt A I2 L2 := by
  obtain ⟨I1, L1, a1, a3⟩ := c_drawn (I := I) (L := L) SH_desk a b c
  obtain ⟨I2, L2, b1, b2, b3⟩ := m_drawn SH_model (far_M hM (sc_d a3)) a b c
  exact ⟨_, I1, L1, I2, L2, a1, b1, nx_of hA (IC_sc hC a3) b3 b2 (Nat.le_succ _)⟩
theorem tn_text (hA : aOK A) (hC : IC 0 A I L) (hM : IM 174 A I L) (a b : Int32) : ∃ r I1 L1 I2 L2, CTi mr_X8_text [.ref 0, .int a, .int b] SH I L r I1 L1 ∧ CTi mr_X9_text [.ref 174, .int a, .int b] SH I1 L1 r I2 L2 ∧ nxt A I2 L2 := by
  obtain ⟨I1, a1, a3⟩ := c_text SH_desk hA hC a b
  obtain ⟨I2, L2, b1, b2, b3⟩ := m_text SH_model hA (far_M hM (sc_d a3)) a b
  exact ⟨_, I1, L, I2, L2, a1, b1, nx_of hA (IC_sc hC a3) b3 b2 (Nat.le_succ _)⟩
theorem tn_as (hA : aOK A) (hC : IC 0 A I L) (hM : IM 174 A I L) (a b : Int32) : ∃ r I1 L1 I2 L2, CTi mr_X8_as [.ref 0, .int a, .int b] SH I L r I1 L1 ∧ CTi mr_X9_as [.ref 174, .int a, .int b] SH I1 L1 r I2 L2 ∧ nxt A I2 L2 := by
  exact ⟨_, I, L, I, L, c_as SH_desk hA hC a b, m_as SH_model hA hM a b, A, hA, hC, hM, Nat.le_succ _⟩
theorem tn_number (hA : aOK A) (hC : IC 0 A I L) (hM : IM 174 A I L) (a b : Int32) : ∃ r I1 L1 I2 L2, CTi mr_X8_number [.ref 0, .int a, .int b] SH I L r I1 L1 ∧ CTi mr_X9_number [.ref 174, .int a, .int b] SH I1 L1 r I2 L2 ∧ nxt A I2 L2 := by
  exact ⟨_, I, L, I, L, c_number SH_desk hA hC a b, m_number SH_model hA hM a b, A, hA, hC, hM, Nat.le_succ _⟩
theorem tn_value (hA : aOK A) (hC : IC 0 A I L) (hM : IM 174 A I L) (a b : Int32) : ∃ r I1 L1 I2 L2, CTl mr_X8_value [.ref 0, .int a, .int b] SH I L r I1 L1 ∧ CTl mr_X9_value [.ref 174, .int a, .int b] SH I1 L1 r I2 L2 ∧ nxt A I2 L2 := by
  exact ⟨_, I, L, I, L, c_value SH_desk hA hC a b, m_value SH_model hA hM a b, A, hA, hC, hM, Nat.le_succ _⟩
theorem tn_factor (hA : aOK A) (hC : IC 0 A I L) (hM : IM 174 A I L) (a b c : Int32) : ∃ r I1 L1 I2 L2, CTi mr_X8_factor [.ref 0, .int a, .int b, .int c] SH I L r I1 L1 ∧ CTi mr_X9_factor [.ref 174, .int a, .int b, .int c] SH I1 L1 r I2 L2 ∧ nxt A I2 L2 := by
  have a1 := c_factor SH_desk hA hC a b c
  obtain ⟨I2, L2, b1, b2, b3⟩ := m_factor SH_model hA hM a b c
  exact ⟨_, I, L, I2, L2, a1, b1, nx_of hA hC b3 b2 (Nat.le_succ _)⟩
end
