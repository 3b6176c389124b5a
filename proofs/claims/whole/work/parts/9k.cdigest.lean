/-! DIGESTS: the class -/
variable {S : List mjD} {I : Nat → Nat → Int32} {L : Nat → Nat → Int64}
/-- the factors from the f-th on, n of them -/
noncomputable def hdF (A : aS) (i : Nat) : Nat → Nat → Int64 → Int64
  | _, 0, s => s
  | f, n + 1, s => hdF A i (f + 1) n (mixN (fun w => sp_factor A (nI i) (nI f) (nI w)) 0 8 s)
/-- behind the factors -/
def hdE (A : aS) (i : Nat) (s : Int64) : Int64 := mixN (fun k => (tx (cp (ac A) i)).getD k 0) 0 (tx (cp (ac A) i)).length (((31 : Int64) * (((31 : Int64) * s) + (sp_degrees A (nI i)).toInt64)) + sp_value A (nI i) 3)
noncomputable def hdD (A : aS) (i : Nat) (s : Int64) : Int64 := hdE A i (hdF A i 0 (fN (gl A i)) (mixN (fun k => sp_number A (nI i) (nI k)) 0 6 s))
noncomputable def hdW (A : aS) (i : Nat) (s : Int64) : Int64 := if cf (ac A) i then hdD A i (mixN (fun w => sp_slot A (nI i) (nI w)) 0 8 s) else mixN (fun w => sp_slot A (nI i) (nI w)) 0 8 s
noncomputable def hdS (A : aS) : Nat → Nat → Int64 → Int64
  | _, 0, s => s
  | i, n + 1, s => hdS A (i + 1) n (hdW A i s)
noncomputable def sp_digest (A : aS) : Int64 := mixN (fun w => sp_count A (nI w)) 0 8 (mixN (apc A) 0 (apn A) (hdS A 0 (asc A) 1409))
section
variable {p : Nat} {A : aS}
theorem c_dNum {i : Nat} (hd : is_Desk S p) (hA : aOK A) (h : IC p A I L) (i4 : i < 4) {RET : Option Value → mjH → Prop} : ∀ w k s, k + w = 6 → hd_X8_digestHeld_38 S RET p (nI i) (p + 46 + 32 * i) (mixN (fun k => sp_number A (nI i) (nI k)) k w s) (0 : Int32) I L → hd_X8_digestHeld_6 S RET p (nI i) (p + 46 + 32 * i) s (nI k) I L := by
  intro w
  induction w with
  | zero =>
    intro k s hk hr
    exact it_X8_digestHeld_6 hd (c_slotAt hd i4) ⟨fun _ => hr, fun q => absurd ((nI_ltI (a := 5) (by decide) (by omega)).mpr (by omega)) q⟩
  | succ w ih =>
    intro k s hk hr
    refine it_X8_digestHeld_6 hd (c_slotAt hd i4) ⟨fun q => absurd ((nI_ltI (a := 5) (by decide) (by omega)).mp q) (by omega), fun _ => ⟨_, _, _, c_number hd hA h (nI i) (nI k), fun y hy z hz => ?_⟩⟩
    rw [hy, hz, nI_1]
    exact ih (k + 1) _ (by omega) hr
theorem c_dFac {i f : Nat} (hd : is_Desk S p) (hA : aOK A) (h : IC p A I L) (i4 : i < 4) {RET : Option Value → mjH → Prop} : ∀ w k s, k + w = 8 → hd_X8_digestHeld_38 S RET p (nI i) (p + 46 + 32 * i) (mixN (fun w => sp_factor A (nI i) (nI f) (nI w)) k w s) (nI (f + 1)) I L → hd_X8_digestHeld_54 S RET p (nI i) (p + 46 + 32 * i) s (nI f) (nI k) I L := by
  intro w
  induction w with
  | zero =>
    intro k s hk hr
    exact it_X8_digestHeld_54 hd (c_slotAt hd i4) (ge_t (k := 8) (by omega) (by omega) (fun y hy => by rw [hy, nI_1]; exact hr))
  | succ w ih =>
    intro k s hk hr
    refine it_X8_digestHeld_54 hd (c_slotAt hd i4) (ge_f (k := 8) (by omega) (by omega) ⟨_, _, _, c_factor hd hA h (nI i) (nI f) (nI k), fun y hy z hz => ?_⟩)
    rw [hy, hz, nI_1]
    exact ih (k + 1) _ (by omega) hr
theorem c_dFacs {i N : Nat} (hd : is_Desk S p) (hA : aOK A) (h : IC p A I L) (i4 : i < 4) (hN : I (p + 46 + 32 * i + 3) 2 = nI N) (h5 : N ≤ 5) {RET : Option Value → mjH → Prop} : ∀ n f s, f + n = N → hd_X8_digestHeld_38 S RET p (nI i) (p + 46 + 32 * i) (hdF A i f n s) (nI N) I L → hd_X8_digestHeld_38 S RET p (nI i) (p + 46 + 32 * i) s (nI f) I L := by
  intro n
  induction n with
  | zero =>
    intro f s hf hr
    rw [show f = N by omega]; exact hr
  | succ n ih =>
    intro f s hf hr
    refine it_X8_digestHeld_38 hd (c_slotAt hd i4) ?_
    rw [hN]
    exact ge_f (by omega) (by omega) (c_dFac hd hA h i4 8 0 s rfl (ih (f + 1) _ (by omega) hr))
theorem c_digestHeld {i : Nat} {s : Int64} (hd : is_Desk S p) (hA : aOK A) (h : IC p A I L) (i4 : i < 4) (hf : cf (ac A) i = true) : ∃ I1 L1, CTl mr_X8_digestHeld [.ref p, .long s, .int (nI i), .ref (p + 46 + 32 * i)] S I L (hdD A i s) I1 L1 ∧ IC p A I1 L1 ∧ fr (scX p) I L I1 L1 := by
  obtain ⟨g1, g2, g3⟩ := c_filled h i4 hf
  obtain ⟨I1, L1, a1, a2, a3⟩ := c_degrees hd hA h (nI i)
  have b1 := c_value hd hA a2 (nI i) 3
  obtain ⟨I2, d1, d2, d3⟩ := c_spell (S := S) hd hA a2 i4 hf
  have fT : fr (scX p) I L I2 L1 := fr_tr a3 d3 (fun b z => z.elim id id)
  have e1 := c_digestLine (S := S) (I := I2) (L := L1) (q := p + 3) (n := (tx (cp (ac A) i)).length) (f := fun k => (tx (cp (ac A) i)).getD k 0) hd.2.2.1 d2.1 d2.2 (by have := tx_l (cp (ac A) i); omega) (((31 : Int64) * (((31 : Int64) * (hdF A i 0 (fN (gl A i)) (mixN (fun k => sp_number A (nI i) (nI k)) 0 6 s))) + (sp_degrees A (nI i)).toInt64)) + sp_value A (nI i) 3)
  refine ⟨I2, L1, wp_X8_digestHeld hd (c_slotAt hd i4) (c_dNum hd hA h i4 6 0 s rfl (c_dFacs hd hA h i4 g3.1 g3.2.1 _ 0 _ (Nat.zero_add _) (it_X8_digestHeld_38 hd (c_slotAt hd i4) ?_))), IC_sc h fT, fT⟩
  rw [g3.1]
  exact ge_t (Nat.le_refl _) (by have := g3.2.1; omega) ⟨_, _, _, a1, fun y hy => ⟨_, _, _, b1, fun z hz => ⟨_, _, d1, _, _, _, by rw [hz, hy]; exact e1, rfl, rfl⟩⟩⟩
theorem c_dSlot {i : Nat} (hd : is_Desk S p) (hA : aOK A) : ∀ w k s (I : Nat → Nat → Int32) (L : Nat → Nat → Int64), k + w = 8 → IC p A I L → ∃ I1 L1, IC p A I1 L1 ∧ fr (scX p) I L I1 L1 ∧ ∀ RET : Option Value → mjH → Prop, hd_X8_digest_17 S RET p (mixN (fun w => sp_slot A (nI i) (nI w)) k w s) (nI i) (nI 8) I1 L1 → hd_X8_digest_17 S RET p s (nI i) (nI k) I L := by
  intro w
  induction w with
  | zero =>
    intro k s I L hk h
    exact ⟨I, L, h, fr_rf, fun RET hr => by rw [show k = 8 by omega]; exact hr⟩
  | succ w ih =>
    intro k s I L hk h
    obtain ⟨I2, L2, a1, a2⟩ := c_slot hd hA h (nI i) (nI k)
    obtain ⟨I1, L1, b1, b2, b3⟩ := ih (k + 1) (((31 : Int64) * s) + (sp_slot A (nI i) (nI k)).toInt64) I2 L2 (by omega) (IC_sc h a2)
    exact ⟨I1, L1, b1, fr_tr a2 b2 (fun b z => z.elim id id), fun RET hr => it_X8_digest_17 hd (ge_f (k := 8) (by omega) (by omega) ⟨_, _, _, a1, fun y hy z hz => by rw [hy, hz, nI_1]; exact b3 RET hr⟩)⟩
theorem c_dSlots (hd : is_Desk S p) (hA : aOK A) : ∀ n i s (I : Nat → Nat → Int32) (L : Nat → Nat → Int64), i + n = asc A → IC p A I L → ∃ I1 L1, IC p A I1 L1 ∧ fr (scX p) I L I1 L1 ∧ ∀ RET : Option Value → mjH → Prop, hd_X8_digest_6 S RET p (hdS A i n s) (nI (asc A)) I1 L1 → hd_X8_digest_6 S RET p s (nI i) I L := by
  have h4 := hA.2.2.1
  intro n
  induction n with
  | zero =>
    intro i s I L hi h
    exact ⟨I, L, h, fr_rf, fun RET hr => by rw [show i = asc A by omega]; exact hr⟩
  | succ n ih =>
    intro i s I L hi h
    obtain ⟨I2, L2, a1, a2, a3⟩ := c_dSlot (i := i) hd hA 8 0 s I L rfl h
    have hc := c_filledSlot hd hA a1 (nI i)
    have e : fIdx A (nI i) = if cf (ac A) i then some i else none := by unfold fIdx; rw [sIdx_nI hA (by omega)]
    rw [e] at hc
    cases hf : cf (ac A) i with
    | false =>
      rw [hf] at hc
      obtain ⟨I1, L1, b1, b2, b3⟩ := ih (i + 1) (hdW A i s) I2 L2 (by omega) a1
      refine ⟨I1, L1, b1, fr_tr a2 b2 (fun b z => z.elim id id), fun RET hr => it_X8_digest_6 hd ?_⟩
      rw [h.2.1]
      refine ge_f (by omega) (by omega) (a3 RET (it_X8_digest_17 hd (ge_t (k := 8) (i := 8) (by omega) (by omega) ⟨_, _, _, hc, fun _ y hy => ?_, fun a30 h30 => (by cases h30)⟩)))
      have := b3 RET hr
      unfold hdW at this
      rw [hf, if_neg (by decide)] at this
      rw [hy, nI_1]; exact this
    | true =>
      rw [hf] at hc
      obtain ⟨I3, L3, d1, d2, d3⟩ := c_digestHeld (i := i) (s := mixN (fun w => sp_slot A (nI i) (nI w)) 0 8 s) hd hA a1 (by omega) hf
      obtain ⟨I1, L1, b1, b2, b3⟩ := ih (i + 1) (hdW A i s) I3 L3 (by omega) d2
      refine ⟨I1, L1, b1, fr_tr (fr_tr a2 d3 (fun b z => z.elim id id)) b2 (fun b z => z.elim id id), fun RET hr => it_X8_digest_6 hd ?_⟩
      rw [h.2.1]
      refine ge_f (by omega) (by omega) (a3 RET (it_X8_digest_17 hd (ge_t (k := 8) (i := 8) (by omega) (by omega) ⟨_, _, _, hc, fun h30 => (by cases h30), fun a30 h30 => ?_⟩)))
      have := b3 RET hr
      unfold hdW at this
      rw [hf, if_pos rfl] at this
      cases h30
      exact ⟨c_slotAt hd (by omega), _, _, _, d1, fun y hy => by rw [hy, nI_1]; exact this⟩
theorem c_dCounts (hd : is_Desk S p) (hA : aOK A) : ∀ w k s (I : Nat → Nat → Int32) (L : Nat → Nat → Int64), k + w = 8 → IC p A I L → ∃ I1 L1, IC p A I1 L1 ∧ fr (scX p) I L I1 L1 ∧ ∀ RET : Option Value → mjH → Prop, RET (some (.long (mixN (fun w => sp_count A (nI w)) k w s))) (S, I1, L1) → hd_X8_digest_83 S RET p s (nI k) I L := by
  intro w
  induction w with
  | zero =>
    intro k s I L hk h
    exact ⟨I, L, h, fr_rf, fun RET hr => it_X8_digest_83 hd (ge_t (k := 8) (by omega) (by omega) hr)⟩
  | succ w ih =>
    intro k s I L hk h
    obtain ⟨I2, L2, a1, a2⟩ := c_count hd hA h (nI k)
    obtain ⟨I1, L1, b1, b2, b3⟩ := ih (k + 1) (((31 : Int64) * s) + (sp_count A (nI k)).toInt64) I2 L2 (by omega) (IC_sc h a2)
    exact ⟨I1, L1, b1, fr_tr a2 b2 (fun b z => z.elim id id), fun RET hr => it_X8_digest_83 hd (ge_f (k := 8) (by omega) (by omega) ⟨_, _, _, a1, fun y hy z hz => by rw [hy, hz, nI_1]; exact b3 RET hr⟩)⟩
theorem c_digest (hd : is_Desk S p) (hA : aOK A) (h : IC p A I L) : ∃ I1 L1, CTl mr_X8_digest [.ref p] S I L (sp_digest A) I1 L1 ∧ IC p A I1 L1 ∧ fr (dX p) I L I1 L1 := by
  have h4 := hA.2.2.1
  obtain ⟨I2, L2, a1, a2, a3⟩ := c_dSlots hd hA (asc A) 0 1409 I L (Nat.zero_add _) h
  have e1 := c_digestLine (S := S) (I := I2) (L := L2) (q := p + 1) (n := apn A) (f := apc A) hd.2.1 a1.1.1 a1.1.2 hA.1 (hdS A 0 (asc A) 1409)
  obtain ⟨I1, L1, b1, b2, b3⟩ := c_dCounts hd hA 8 0 (mixN (apc A) 0 (apn A) (hdS A 0 (asc A) 1409)) I2 L2 rfl a1
  have fT : fr (scX p) I L I1 L1 := fr_tr a2 b2 (fun b z => z.elim id id)
  refine ⟨I1, L1, wp_X8_digest hd (a3 _ (it_X8_digest_6 hd ?_)), b1, fun b hb => fT b (fun z => hb (by unfold scX at z; unfold dX; omega))⟩
  rw [a1.2.1]
  exact ge_t (Nat.le_refl _) (by omega) ⟨_, _, _, e1, b3 _ ⟨rfl, rfl⟩⟩
end
