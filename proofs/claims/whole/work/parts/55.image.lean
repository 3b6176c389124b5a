/-! OBSERVATIONS AND IMAGES, class and reference -/
variable {S : List mjD} {I : Nat → Nat → Int32} {L : Nat → Nat → Int64}
theorem tw_eq (w : Nat) (c : Int32) : (c = 0 → tw w (decide (c ≠ 0)) = (mj_st 1000003).getD w 0 ^^^ (-1)) ∧ (¬ c = 0 → tw w (decide (c ≠ 0)) = (mj_st 1000003).getD w 0) := ⟨fun h => by simp [tw, h], fun h => by simp [tw, h]⟩
theorem s_noteAdd {n k w : Nat} {a c : Int32} (hn : is_Notes S n) (hk : I n 2 = nI k) (hk6 : k < 6) (hw : w < 4) : CTi mr_X3_append [.ref n, .int a, .int (nI w), .int c] S I L 1 (mj_up (mj_up (mj_up I (n + 1) k a) (n + 2) k (tw w (decide (c ≠ 0)))) n 2 (nI (k + 1))) L := by
  have h1 : n ≠ n + 1 := by omega
  have h2 : n ≠ n + 2 := by omega
  refine wp_X3_append hn ?_
  simp only [up_ne h1, up_ne h2, hk, nI_clamp (show k < 2 ^ 31 by omega), nI_clamp (show w < 2 ^ 31 by omega), nI_1]
  refine ng_f (by omega) (ge_f (k := 6) hk6 (by decide) (ng_f (by omega) ⟨fun _ => ⟨vp_in_nI hk6 (by decide), fun hc => ⟨vp_in_nI hw (by decide), vp_in_nI hk6 (by decide), ?_⟩, fun hc => ⟨vp_in_nI hw (by decide), vp_in_nI hk6 (by decide), ?_⟩⟩, fun q => absurd (nI_lt (b := 4) hw (by decide)) q⟩))
  · rw [(tw_eq w c).1 hc]; exact ⟨trivial, rfl⟩
  · rw [(tw_eq w c).2 hc]; exact ⟨trivial, rfl⟩
theorem s_noteFull {n : Nat} {a b c : Int32} (hn : is_Notes S n) (hk : I n 2 = nI 6) : CTi mr_X3_append [.ref n, .int a, .int b, .int c] S I L 0 I L := by
  refine wp_X3_append hn ?_
  rw [hk]
  exact ng_f (by decide) (ge_t (k := 6) (Nat.le_refl _) (by decide) ⟨rfl, rfl⟩)
theorem s_notesCopy {p q : Nat} {c : aC} (hp : is_Notes S p) (hq : is_Notes S q) (hpq : p + 3 ≤ q ∨ q + 3 ≤ p) (h : ntR q c I) (hc : cn c ≤ 6) : ∃ I1, CTv mr_X3_copyFrom [.ref p, .ref q] S I L I1 L ∧ fr (fun b => p ≤ b ∧ b < p + 3) I L I1 L ∧ ntR p c I1 := by
  have key := up_loop (P := fun i => ∀ I', fr (fun b => p ≤ b ∧ b < p + 3) I L I' L → I' p 2 = I q 2 → (∀ j, j < i → I' (p + 1) j = I (q + 1) j ∧ I' (p + 2) j = I (q + 2) j) → ∃ I1, hd_X3_copyFrom_10 S (fun v h => v = none ∧ h = (S, I1, L)) p q (nI i) I' L ∧ fr (fun b => p ≤ b ∧ b < p + 3) I L I1 L ∧ I1 p 2 = I q 2 ∧ ∀ j, j < 6 → I1 (p + 1) j = I (q + 1) j ∧ I1 (p + 2) j = I (q + 2) j) 6
    (fun I' h1 h2 h3 => ⟨I', it_X3_copyFrom_10 hp hq (ge_t (k := 6) (Nat.le_refl _) (by decide) ⟨rfl, rfl⟩), h1, h2, h3⟩)
    (fun i hi ih I' h1 h2 h3 => by
      have e1 : I' (q + 1) = I (q + 1) := (h1 _ (by omega)).1
      have e2 : I' (q + 2) = I (q + 2) := (h1 _ (by omega)).1
      have hv : vp_in (nI i) 6 := vp_in_nI hi (by decide)
      obtain ⟨I1, k1, k2⟩ := ih (mj_up (mj_up I' (p + 1) i (I (q + 1) i)) (p + 2) i (I (q + 2) i)) (fun b hb => ⟨by rw [up_ne (fun e => hb (by omega)), up_ne (fun e => hb (by omega))]; exact (h1 b hb).1, rfl⟩) (by rw [up_ne (by omega), up_ne (by omega)]; exact h2) (fun j hj => by
        by_cases e : j = i
        · subst e; rw [up_ne (by omega), up_eq, up_eq]; exact ⟨rfl, rfl⟩
        · rw [up_ne (by omega), up_nk e, up_nk e, up_ne (by omega)]; exact h3 j (by omega))
      refine ⟨I1, it_X3_copyFrom_10 hp hq (ge_f (k := 6) hi (by decide) ⟨hv, hv, hv, hv, fun y hy => ?_⟩), k2⟩
      rw [hy, nI_1, nI_clamp (by omega), up_ne (b := q + 2) (by omega), e1, e2]
      exact k1)
  obtain ⟨I1, k1, k2, k3, k4⟩ := key 0 (by decide) (mj_up I p 2 (I q 2)) (fr_I ⟨by omega, by omega⟩) up_eq (fun j hj => by omega)
  refine ⟨I1, wp_X3_copyFrom hp hq k1, k2, by rw [k3]; exact h.1, fun i hi => ?_⟩
  rw [(k4 i (by omega)).1, (k4 i (by omega)).2]; exact h.2 i hi
theorem s_slotCopy {p q k : Nat} {f : Bool} {g : Nat → Int64} (hp : is_Slot S p) (hq : is_Slot S q) (hpq : p + 16 ≤ q ∨ q + 16 ≤ p) (h : slR q k f g I L) : ∃ I1 L1, CTv mr_X7_copyFrom [.ref p, .ref q] S I L I1 L1 ∧ fr (fun b => p ≤ b ∧ b < p + 16) I L I1 L1 ∧ slR p k f g I1 L1 := by
  have c1 := s_copy (S := S) (I := I) (L := L) hp.2.1 hq.2.1
  obtain ⟨I2, L2, c2, c3, c4⟩ := s_factorsCopy (S := S) (I := I) (L := mwn L (p + 1 + 1) 6 (L (q + 1 + 1))) hp.2.2 hq.2.2 (by omega)
  have e : ∀ b, ¬ fX (p + 3) b → I2 b = I b := fun b hb => (c3 b hb).1
  have eq2 : I2 q = I q := e q (fun z => by unfold fX at z; omega)
  have ep : I2 p = I p := e p (fun z => by unfold fX at z; omega)
  have hX : fr (fun b => p ≤ b ∧ b < p + 16) I L I2 L2 := fr_tr (fr_L (X := fun b => b = p + 1 + 1) rfl) c3 (fun b hb => by
    rcases hb with hb | hb
    · omega
    · unfold fX at hb; omega)
  have q2 : mj_up I2 p 2 (I2 q 2) q 3 = bI f := by rw [up_ne (by omega), eq2]; exact h.2.1
  refine ⟨mj_up (mj_up I2 p 2 (nI k)) p 3 (bI f), L2, wp_X7_copyFrom hp hq ⟨_, _, c1, _, _, c2, ?_, rfl, ?_⟩, fr_tr hX (Y := fun b => b = p) (fun b hb => ⟨by rw [up_ne hb, up_ne hb], rfl⟩) (fun b hb => by omega), by rw [up_nk (by decide), up_eq], up_eq, fun hf => ?_⟩
  · rw [q2]; cases f <;> simp [bI]
  · rw [q2, eq2, h.1]
  · obtain ⟨a1, a2, a3⟩ := h.2.2 hf
    refine ⟨fun t ht => ?_, a2, ?_⟩
    · rw [(c3 (p + 1 + 1) (fun z => by unfold fX at z; omega)).2, mwn_at ht]; exact a1 t ht
    · have := c4 _ _ _ (fRep_fr a3 (fr_L (X := fun b => b = p + 1 + 1) rfl) (fun b hb z => by unfold fX at hb; omega))
      exact fRep_fr this (X := fun b => b = p) (fun b hb => ⟨by rw [up_ne hb, up_ne hb], rfl⟩) (fun b hb z => by unfold fX at hb; omega)
def aImg (A : aS) : aS := (A.1, A.2.1, A.2.2.1, A.2.2.2.1, ac A, adk A, ac A)
def sp_image (A : aS) : Int32 × aS := if asc A = 0 then (-103, A) else (nI (fcn (ac A) (asc A)), aImg A)
def sp_restore (A : aS) : Int32 × aS := if asd A = 0 then (-103, A) else if asd A = adk A then (nI (fcn (asv A) (asc A)), aCore A (asv A)) else (-103, A)
theorem ok_img {A : aS} (h : aOK A) : aOK (aImg A) := ⟨h.1, h.2.1, h.2.2.1, h.2.2.2.1, h.2.2.2.2.1, fun _ => h.2.2.2.2.1, Nat.le_refl _, h.2.2.2.2.2.2.2⟩
theorem ok_core {A : aS} {c : aC} (h : aOK A) (hc : cOK c) : aOK (aCore A c) := ⟨h.1, h.2.1, h.2.2.1, h.2.2.2.1, hc, h.2.2.2.2.2.1, h.2.2.2.2.2.2⟩
section
variable {p : Nat} {A : aS}
theorem c_see (hd : is_Desk S p) (hA : aOK A) (h : IC p A I L) (a b c : Int32) : ∃ I1 L1, CTi mr_X8_see [.ref p, .int a, .int b, .int c] S I L (sp_see A a b c).1 I1 L1 ∧ IC p (sp_see A a b c).2 I1 L1 ∧ fr (dX p) I L I1 L1 := by
  have hc := c_anySlot hd hA h a
  have hnt : is_Notes S (p + 39) := hd.2.2.2.2.2.2.2.2.2.2.1
  have hcr := h.2.2.2.1
  have hk := hcr.2.1
  have h6 := hA.2.2.2.2.1.2.1
  unfold sp_see
  cases hs : sIdx A a with
  | none =>
    rw [hs] at hc
    exact ⟨I, L, wp_X8_see hd ⟨_, _, _, hc, fun _ => ⟨rfl, rfl⟩, fun a6 h6 => by cases h6⟩, h, fr_rf⟩
  | some j =>
    obtain ⟨rfl, h1, h2⟩ := sIdx_some hA hs
    rw [hs] at hc
    by_cases b1 : b < 0
    · simp only [if_pos b1]
      exact ⟨I, L, wp_X8_see hd ⟨_, _, _, hc, fun h6 => (by cases h6), fun a6 h6 => (by cases h6; exact ⟨c_slotAt hd h2, fun _ => ⟨rfl, rfl⟩, fun q => absurd b1 q⟩)⟩, h, fr_rf⟩
    · by_cases b2 : b < 4
      · obtain ⟨w, hw, rfl⟩ := nI_of (x := b) b1
        have hw4 : w < 4 := (nI_ltI (b := 4) hw (by decide)).mp b2
        by_cases c6 : cn (ac A) < 6
        · simp only [if_neg b1, if_pos b2, if_pos c6]
          have ca := s_noteAdd (S := S) (I := I) (L := L) (a := nI j) (c := c) hnt hk c6 hw4
          have hfr : fr (fun b => p + 39 ≤ b ∧ b < p + 39 + 3) I L (mj_up (mj_up (mj_up I (p + 39 + 1) (cn (ac A)) (nI j)) (p + 39 + 2) (cn (ac A)) (tw w (decide (c ≠ 0)))) (p + 39) 2 (nI (cn (ac A) + 1))) L := fun b hb => ⟨by rw [up_ne (by omega), up_ne (by omega), up_ne (by omega)], rfl⟩
          refine ⟨_, L, wp_X8_see hd ⟨_, _, _, hc, fun h6 => (by cases h6), fun a6 h6 => (by cases h6; exact ⟨c_slotAt hd h2, fun q => absurd q b1, fun _ => ⟨fun _ => ⟨_, _, _, ca, fun q => absurd q (by decide), fun _ => ⟨by rw [up_eq], rfl⟩⟩, fun q => absurd b2 q⟩⟩)⟩, IC_co h (fr_mono hfr (fun b hb => Or.inl ⟨by omega, by omega⟩)) ⟨fun i hi => slR_fr (hcr.1 i hi) hfr (fun b x1 x2 z => by omega), by rw [up_eq]; rfl, fun i hi => ?_⟩, fr_mono hfr (fun b hb => by unfold dX; omega)⟩
          have hi2 : i < cn (ac A) + 1 := hi
          show _ = nI (if i = cn (ac A) then j else cs (ac A) i) ∧ _ = tw (if i = cn (ac A) then (nI w).toNatClampNeg else cw (ac A) i) (if i = cn (ac A) then decide (c ≠ 0) else cb (ac A) i)
          rw [nI_clamp (by omega)]
          by_cases e : i = cn (ac A)
          · rw [if_pos e, if_pos e, if_pos e, e, up_ne (by omega), up_ne (by omega), up_eq, up_ne (by omega), up_eq]; exact ⟨rfl, rfl⟩
          · rw [if_neg e, if_neg e, if_neg e, up_ne (by omega), up_ne (by omega), up_nk e, up_ne (by omega), up_nk e, up_ne (by omega)]
            exact hcr.2.2 i (by omega)
        · simp only [if_neg b1, if_pos b2, if_neg c6]
          have ca := s_noteFull (S := S) (I := I) (L := L) (a := nI j) (b := nI w) (c := c) hnt (by rw [hk]; congr 1; omega)
          exact ⟨I, L, wp_X8_see hd ⟨_, _, _, hc, fun h6 => (by cases h6), fun a6 h6 => (by cases h6; exact ⟨c_slotAt hd h2, fun q => absurd q b1, fun _ => ⟨fun _ => ⟨_, _, _, ca, fun _ => ⟨rfl, rfl⟩, fun q => absurd rfl q⟩, fun q => absurd b2 q⟩⟩)⟩, h, fr_rf⟩
      · simp only [if_neg b1, if_neg b2]
        exact ⟨I, L, wp_X8_see hd ⟨_, _, _, hc, fun h6 => (by cases h6), fun a6 h6 => (by cases h6; exact ⟨c_slotAt hd h2, fun q => absurd q b1, fun _ => ⟨fun q => absurd q b2, fun _ => ⟨rfl, rfl⟩⟩⟩)⟩, h, fr_rf⟩
theorem c_image (hd : is_Desk S p) (hA : aOK A) (h : IC p A I L) : ∃ I1 L1, CTi mr_X8_image [.ref p] S I L (sp_image A).1 I1 L1 ∧ IC p (sp_image A).2 I1 L1 ∧ fr (dX p) I L I1 L1 := by
  have h4 := hA.2.2.1
  unfold sp_image
  by_cases h0 : asc A = 0
  · rw [if_pos h0]
    refine ⟨I, L, wp_X8_image hd ?_, h, fr_rf⟩
    rw [h.2.1, h0]
    exact ⟨fun q => absurd rfl q, fun _ => ⟨rfl, rfl⟩⟩
  · rw [if_neg h0]
    have hX : ∀ {b : Nat} {i : Nat}, i < 4 → p + 62 + 32 * i ≤ b → b < p + 62 + 32 * i + 16 → dX p b := fun hi h1 h2 => by unfold dX; omega
    have key := up_loop (P := fun i => ∀ I' L', fr (fun b => ∃ j, j < i ∧ p + 62 + 32 * j ≤ b ∧ b < p + 62 + 32 * j + 16) I L I' L' → (∀ j, j < i → slR (p + 62 + 32 * j) (ck (ac A) j) (cf (ac A) j) (cp (ac A) j) I' L') → ∃ I1 L1, hd_X8_image_12 S (fun v h => v = some (.int (nI (fcn (ac A) (asc A)))) ∧ h = (S, I1, L1)) p (nI i) I' L' ∧ IC p (aImg A) I1 L1 ∧ fr (dX p) I L I1 L1) 4
      (fun I' L' hf hs => by
        have hnt' : ntR (p + 39) (ac A) I' := ntR_fr h.2.2.2.1.2 hf (fun b x1 x2 ⟨j, z1, z2, z3⟩ => by omega)
        obtain ⟨I2, c1, c2, c3⟩ := s_notesCopy (S := S) (I := I') (L := L') (p := p + 43) (q := p + 39) hd.2.2.2.2.2.2.2.2.2.2.2.2.1 hd.2.2.2.2.2.2.2.2.2.2.1 (by omega) hnt' hA.2.2.2.2.1.2.1
        obtain ⟨I3, hI3⟩ : ∃ I3, I3 = mj_up I2 p 14 (nI (adk A)) := ⟨_, rfl⟩
        have hfA : fr (fun b => (∃ j, j < 4 ∧ p + 62 + 32 * j ≤ b ∧ b < p + 62 + 32 * j + 16) ∨ (p + 43 ≤ b ∧ b < p + 43 + 3)) I L I2 L' := fr_tr hf c2 (fun b hb => hb)
        have ip : I2 p = I p := (hfA p (fun z => by rcases z with ⟨j, z⟩ | z <;> omega)).1
        have e11 : I2 p 11 = nI (adk A) := by rw [ip]; exact h.2.2.1
        have hf3 : ∀ b, b ≠ p → ¬ ((∃ j, j < 4 ∧ p + 62 + 32 * j ≤ b ∧ b < p + 62 + 32 * j + 16) ∨ (p + 43 ≤ b ∧ b < p + 43 + 3)) → I3 b = I b ∧ L' b = L b := fun b b0 hb => ⟨by rw [hI3, up_ne b0]; exact (hfA b hb).1, (hfA b hb).2⟩
        have hf3' : fr (fun b => b = p ∨ (∃ j, j < 4 ∧ p + 62 + 32 * j ≤ b ∧ b < p + 62 + 32 * j + 16) ∨ (p + 43 ≤ b ∧ b < p + 43 + 3)) I L I3 L' := fun b hb => hf3 b (fun e => hb (Or.inl e)) (fun e => hb (Or.inr e))
        have hic : IC p (aImg A) I3 L' := by
          obtain ⟨⟨a1, a2⟩, a3, a4, a5, a6, a7⟩ := h
          have nn : ∀ b, b = p + 1 ∨ b = p + 1 + 1 → I3 b = I b := fun b hb => (hf3 b (by omega) (fun z => by rcases z with ⟨j, z⟩ | z <;> omega)).1
          refine ⟨⟨by rw [nn _ (Or.inl rfl)]; exact a1, fun k hk => by rw [nn _ (Or.inr rfl)]; exact a2 k hk⟩, by rw [hI3, up_nk (by decide), ip]; exact a3, by rw [hI3, up_nk (by decide), ip]; exact a4, cR_fr a5 hf3' (fun j b hj x1 x2 z => ?_) (fun b x1 x2 z => ?_), by rw [hI3, up_eq]; rfl, fun _ => ⟨fun j hj => ?_, ?_⟩⟩
          · rcases z with z | ⟨i, z⟩ | z <;> omega
          · rcases z with z | ⟨i, z⟩ | z <;> omega
          · exact slR_fr (slR_fr (hs j hj) c2 (fun b x1 x2 z => by omega)) (X := fun b => b = p) (I1 := I3) (L1 := L') (fun b hb => ⟨by rw [hI3, up_ne hb], rfl⟩) (fun b x1 x2 z => by omega)
          · exact ntR_fr c3 (X := fun b => b = p) (I1 := I3) (L := L') (L1 := L') (fun b hb => ⟨by rw [hI3, up_ne hb], rfl⟩) (fun b x1 x2 z => by omega)
        refine ⟨I3, L', it_X8_image_12 hd (ge_t (k := 4) (Nat.le_refl _) (by decide) ⟨_, _, c1, _, _, _, ?_, rfl, rfl⟩), hic, fr_mono hf3' (fun b hb => ?_)⟩
        · rw [e11, ← hI3]
          exact c_filledSlots (A := aImg A) hd (ok_img hA) hic
        · unfold dX
          rcases hb with z | ⟨i, z⟩ | z <;> omega)
      (fun i hi ih I' L' hf hs => by
        have hq : slR (p + 46 + 32 * i) (ck (ac A) i) (cf (ac A) i) (cp (ac A) i) I' L' := slR_fr (h.2.2.2.1.1 i hi) hf (fun b x1 x2 ⟨j, z1, z2, z3⟩ => by omega)
        obtain ⟨I2, L2, c1, c2, c3⟩ := s_slotCopy (S := S) (I := I') (L := L') (p := p + 62 + 32 * i) (q := p + 46 + 32 * i) (hd.2.2.2.2.2.2.2.2.2.2.2.2.2.2 i hi) (c_slotAt hd hi) (by omega) hq
        obtain ⟨I1, L1, k1, k2⟩ := ih I2 L2 (fr_tr hf c2 (fun b hb => by
          rcases hb with ⟨j, z⟩ | z
          · exact ⟨j, by omega, z.2⟩
          · exact ⟨i, by omega, z⟩)) (fun j hj => by
          rcases Nat.eq_or_lt_of_le (Nat.lt_succ_iff.mp hj) with e | e
          · rw [e]; exact c3
          · exact slR_fr (hs j e) c2 (fun b x1 x2 z => by omega))
        refine ⟨I1, L1, it_X8_image_12 hd (ge_f (k := 4) hi (by decide) ⟨vp_in_nI hi (by decide), vp_in_nI hi (by decide), _, _, by rw [nI_clamp (by omega)]; exact c1, fun y hy => by rw [hy, nI_1]; exact k1⟩), k2⟩)
    obtain ⟨I1, L1, k1, k2⟩ := key 0 (by decide) I L fr_rf (fun j hj => by omega)
    refine ⟨I1, L1, wp_X8_image hd ?_, k2⟩
    rw [h.2.1]
    exact ⟨fun _ => k1, fun q => absurd ((nI_eq (b := 0) (by omega) (by decide)).mp q) h0⟩
theorem c_restore (hd : is_Desk S p) (hA : aOK A) (h : IC p A I L) : ∃ I1 L1, CTi mr_X8_restore [.ref p] S I L (sp_restore A).1 I1 L1 ∧ IC p (sp_restore A).2 I1 L1 ∧ fr (dX p) I L I1 L1 := by
  have h30 := hA.2.2.2.2.2.2
  unfold sp_restore
  by_cases h0 : asd A = 0
  · rw [if_pos h0]
    refine ⟨I, L, wp_X8_restore hd ?_, h, fr_rf⟩
    rw [h.2.2.2.2.1, h0]
    exact ⟨fun _ => ⟨rfl, rfl⟩, fun q => absurd rfl q⟩
  · rw [if_neg h0]
    have hn0 : ¬ nI (asd A) = 0 := fun q => h0 ((nI_eq (b := 0) (by omega) (by decide)).mp q)
    by_cases h1 : asd A = adk A
    · rw [if_pos h1]
      have hsv := h.2.2.2.2.2 h0
      have hcs := hA.2.2.2.2.2.1 h0
      have key := up_loop (P := fun i => ∀ I' L', fr (fun b => ∃ j, j < i ∧ p + 46 + 32 * j ≤ b ∧ b < p + 46 + 32 * j + 16) I L I' L' → (∀ j, j < i → slR (p + 46 + 32 * j) (ck (asv A) j) (cf (asv A) j) (cp (asv A) j) I' L') → ∃ I1 L1, hd_X8_restore_23 S (fun v h => v = some (.int (nI (fcn (asv A) (asc A)))) ∧ h = (S, I1, L1)) p (nI i) I' L' ∧ IC p (aCore A (asv A)) I1 L1 ∧ fr (dX p) I L I1 L1) 4
        (fun I' L' hf hs => by
          have hnt' : ntR (p + 43) (asv A) I' := ntR_fr hsv.2 hf (fun b x1 x2 ⟨j, z1, z2, z3⟩ => by omega)
          obtain ⟨I2, c1, c2, c3⟩ := s_notesCopy (S := S) (I := I') (L := L') (p := p + 39) (q := p + 43) hd.2.2.2.2.2.2.2.2.2.2.1 hd.2.2.2.2.2.2.2.2.2.2.2.2.1 (by omega) hnt' hcs.2.1
          have hfA : fr (coX p) I L I2 L' := fr_tr hf c2 (fun b hb => by
            rcases hb with ⟨j, z⟩ | z
            · exact Or.inr (Or.inl ⟨j, z⟩)
            · exact Or.inl ⟨z.1, by omega⟩)
          have hic : IC p (aCore A (asv A)) I2 L' := IC_co h hfA ⟨fun j hj => slR_fr (hs j hj) c2 (fun b x1 x2 z => by omega), c3⟩
          exact ⟨I2, L', it_X8_restore_23 hd (ge_t (k := 4) (Nat.le_refl _) (by decide) ⟨_, _, c1, _, _, _, c_filledSlots (A := aCore A (asv A)) hd (ok_core hA hcs) hic, rfl, rfl⟩), hic, fr_mono hfA (fun b hb => coX_d hb)⟩)
        (fun i hi ih I' L' hf hs => by
          have hq : slR (p + 62 + 32 * i) (ck (asv A) i) (cf (asv A) i) (cp (asv A) i) I' L' := slR_fr (hsv.1 i hi) hf (fun b x1 x2 ⟨j, z1, z2, z3⟩ => by omega)
          obtain ⟨I2, L2, c1, c2, c3⟩ := s_slotCopy (S := S) (I := I') (L := L') (p := p + 46 + 32 * i) (q := p + 62 + 32 * i) (c_slotAt hd hi) (hd.2.2.2.2.2.2.2.2.2.2.2.2.2.2 i hi) (by omega) hq
          obtain ⟨I1, L1, k1, k2⟩ := ih I2 L2 (fr_tr hf c2 (fun b hb => by
            rcases hb with ⟨j, z⟩ | z
            · exact ⟨j, by omega, z.2⟩
            · exact ⟨i, by omega, z⟩)) (fun j hj => by
            rcases Nat.eq_or_lt_of_le (Nat.lt_succ_iff.mp hj) with e | e
            · rw [e]; exact c3
            · exact slR_fr (hs j e) c2 (fun b x1 x2 z => by omega))
          exact ⟨I1, L1, it_X8_restore_23 hd (ge_f (k := 4) hi (by decide) ⟨vp_in_nI hi (by decide), vp_in_nI hi (by decide), _, _, by rw [nI_clamp (by omega)]; exact c1, fun y hy => by rw [hy, nI_1]; exact k1⟩), k2⟩)
      obtain ⟨I1, L1, k1, k2⟩ := key 0 (by decide) I L fr_rf (fun j hj => by omega)
      refine ⟨I1, L1, wp_X8_restore hd ?_, k2⟩
      rw [h.2.2.2.2.1, h.2.2.1]
      exact ⟨fun q => absurd q hn0, fun _ => ⟨fun _ => k1, fun q => absurd (by rw [h1]) q⟩⟩
    · rw [if_neg h1]
      refine ⟨I, L, wp_X8_restore hd ?_, h, fr_rf⟩
      rw [h.2.2.2.2.1, h.2.2.1]
      exact ⟨fun q => absurd q hn0, fun _ => ⟨fun q => absurd ((nI_eq (by omega) (by omega)).mp q) h1, fun _ => ⟨rfl, rfl⟩⟩⟩
end
