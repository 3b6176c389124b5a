/-! CONTRACTS: the class's rows of factors -/
variable {S : List mjD} {I : Nat → Nat → Int32} {L : Nat → Nat → Int64}
/-- nothing changes but at X -/
def fr (X : Nat → Prop) (I : Nat → Nat → Int32) (L : Nat → Nat → Int64) (I1 : Nat → Nat → Int32) (L1 : Nat → Nat → Int64) : Prop := ∀ b, ¬ X b → I1 b = I b ∧ L1 b = L b
theorem fr_rf {X : Nat → Prop} : fr X I L I L := fun _ _ => ⟨rfl, rfl⟩
theorem fr_tr {X Y Z : Nat → Prop} {I1 I2 : Nat → Nat → Int32} {L1 L2 : Nat → Nat → Int64} (h : fr X I L I1 L1) (h2 : fr Y I1 L1 I2 L2) (hz : ∀ b, X b ∨ Y b → Z b) : fr Z I L I2 L2 := fun b hb => by
  obtain ⟨a1, a2⟩ := h b (fun q => hb (hz b (Or.inl q)))
  obtain ⟨b1, b2⟩ := h2 b (fun q => hb (hz b (Or.inr q)))
  exact ⟨b1.trans a1, b2.trans a2⟩
theorem fr_mono {X Y : Nat → Prop} {I1 : Nat → Nat → Int32} {L1 : Nat → Nat → Int64} (h : fr X I L I1 L1) (hz : ∀ b, X b → Y b) : fr Y I L I1 L1 := fun b hb => h b (fun q => hb (hz b q))
theorem fr_L {X : Nat → Prop} {a : Nat} {f : Nat → Int64} (h : X a) : fr X I L I (mwn L a 6 f) := fun b hb => ⟨rfl, mwn_ne (fun e => hb (e ▸ h))⟩
theorem up_ne {α : Type} {I : Nat → Nat → α} {a k b : Nat} {x : α} (h : b ≠ a) : mj_up I a k x b = I b := by funext j; simp [mj_up, h]
theorem up_eq {α : Type} {I : Nat → Nat → α} {a k : Nat} {x : α} : mj_up I a k x a k = x := by simp [mj_up]
theorem up_nk {α : Type} {I : Nat → Nat → α} {a k b j : Nat} {x : α} (h : j ≠ k) : mj_up I a k x b j = I b j := by simp [mj_up, h]
theorem fr_I {X : Nat → Prop} {a k : Nat} {x : Int32} (h : X a) : fr X I L (mj_up I a k x) L := fun b hb => ⟨up_ne (fun e => hb (e ▸ h)), rfl⟩
theorem rl_ext {f g : Nat → Int64} (h : ∀ k, k < 6 → f k = g k) : rl f = rl g := by
  unfold rl
  rw [h 0 (by decide), h 1 (by decide), h 2 (by decide), h 3 (by decide), h 4 (by decide), h 5 (by decide)]
theorem rl_inj {f g : Nat → Int64} (h : rl f = rl g) {k : Nat} (hk : k < 6) : f k = g k := by
  apply Int64.toInt_inj.mp
  rw [← rl_co f hk, ← rl_co g hk, h]
theorem rl_mwn {a : Nat} {f : Nat → Int64} : rl (mwn L a 6 f a) = rl f := rl_ext (fun k hk => mwn_at hk)
/-- a row out of a list -/
def il (p : List Int) : Nat → Int64 := fun k => Int64.ofInt (zco p k)
theorem il_of {f : Nat → Int64} {p : List Int} (h : rl f = p) {k : Nat} (hk : k < 6) : f k = il p k := by
  unfold il
  rw [← h, rl_co f hk]; exact (Int64.ofInt_toInt _).symm
theorem cv_congr6 {f f' g g' : Nat → Int64} {k : Nat} (hk : k < 6) (h : ∀ j, j < 6 → f j = f' j) (h2 : ∀ j, j < 6 → g j = g' j) : cv f g k = cv f' g' k := by
  have e : k = 0 ∨ k = 1 ∨ k = 2 ∨ k = 3 ∨ k = 4 ∨ k = 5 := by omega
  rcases e with rfl | rfl | rfl | rfl | rfl | rfl <;> simp only [cv, h 0 (by decide), h 1 (by decide), h 2 (by decide), h 3 (by decide), h 4 (by decide), h 5 (by decide), h2 0 (by decide), h2 1 (by decide), h2 2 (by decide), h2 3 (by decide), h2 4 (by decide), h2 5 (by decide)]
theorem ordF_neg {f g : Nat → Int64} : ∀ k, k < 6 → ¬ 0 ≤ ordF f g (k + 1) → zle k (rl f) (rl g) ∧ ∃ j, j ≤ k ∧ f j ≠ g j
  | 0, _, h => by
    rw [ordF] at h
    by_cases e : f 0 = g 0
    · rw [if_pos e, ordF] at h; exact absurd (by decide) h
    · rw [if_neg e] at h
      by_cases e2 : g 0 ≤ f 0
      · rw [if_pos e2] at h; exact absurd (by decide) h
      · rw [Int64.le_iff_toInt_le] at e2
        refine ⟨?_, 0, Nat.le_refl _, e⟩
        show zco _ 0 ≤ zco _ 0
        rw [rl_co f (by decide), rl_co g (by decide)]; omega
  | k + 1, hk, h => by
    rw [ordF] at h
    by_cases e : f (k + 1) = g (k + 1)
    · rw [if_pos e] at h
      obtain ⟨h1, j, hj, hn⟩ := ordF_neg k (by omega) h
      refine ⟨Or.inr ⟨?_, h1⟩, j, by omega, hn⟩
      rw [rl_co f (by omega), rl_co g (by omega), e]
    · rw [if_neg e] at h
      by_cases e2 : g (k + 1) ≤ f (k + 1)
      · rw [if_pos e2] at h; exact absurd (by decide) h
      · rw [Int64.le_iff_toInt_le] at e2
        refine ⟨Or.inl ?_, k + 1, Nat.le_refl _, e⟩
        rw [rl_co f (by omega), rl_co g (by omega)]; omega
theorem ordF_pos {f g : Nat → Int64} : ∀ k, k < 6 → 0 ≤ ordF f g (k + 1) → zle k (rl g) (rl f)
  | 0, _, h => by
    show zco _ 0 ≤ zco _ 0
    rw [rl_co f (by decide), rl_co g (by decide)]
    rw [ordF] at h
    by_cases e : f 0 = g 0
    · rw [e]; exact Int.le_refl _
    · rw [if_neg e] at h
      by_cases e2 : g 0 ≤ f 0
      · rw [Int64.le_iff_toInt_le] at e2; exact e2
      · rw [if_neg e2] at h; exact absurd h (by decide)
  | k + 1, hk, h => by
    rw [ordF] at h
    by_cases e : f (k + 1) = g (k + 1)
    · rw [if_pos e] at h
      refine Or.inr ⟨?_, ordF_pos k (by omega) h⟩
      rw [rl_co f (by omega), rl_co g (by omega), e]
    · rw [if_neg e] at h
      by_cases e2 : g (k + 1) ≤ f (k + 1)
      · rw [Int64.le_iff_toInt_le] at e2
        refine Or.inl ?_
        have e3 : (f (k + 1)).toInt ≠ (g (k + 1)).toInt := fun q => e (Int64.toInt_inj.mp q)
        rw [rl_co f (by omega), rl_co g (by omega)]; omega
      · rw [if_neg e2] at h; exact absurd h (by decide)
theorem ordF_zero {f g : Nat → Int64} : ∀ k, ordF f g k = 0 ↔ ∀ j, j < k → f j = g j
  | 0 => ⟨fun _ j h => by omega, fun _ => rfl⟩
  | k + 1 => by
    rw [ordF]
    by_cases e : f k = g k
    · rw [if_pos e, ordF_zero k]
      exact ⟨fun h j hj => by
        rcases Nat.eq_or_lt_of_le (Nat.lt_succ_iff.mp hj) with q | q
        · rw [q]; exact e
        · exact h j q, fun h j hj => h j (by omega)⟩
    · rw [if_neg e]
      refine ⟨fun h => ?_, fun h => absurd (h k (by omega)) e⟩
      by_cases e2 : g k ≤ f k
      · rw [if_pos e2] at h; exact absurd h (by decide)
      · rw [if_neg e2] at h; exact absurd h (by decide)
theorem ordF_same {f g : Nat → Int64} : ordF f g 6 = 0 ↔ rl f = rl g := (ordF_zero 6).trans ⟨fun h => rl_ext h, fun h j hj => rl_inj h hj⟩
/-- the row at p holds n factors -/
def fRep (p n : Nat) (P : Nat → List Int) (M : Nat → Nat) (I : Nat → Nat → Int32) (L : Nat → Nat → Int64) : Prop :=
  I p 2 = nI n ∧ n ≤ 5 ∧ ∀ j, j < n → rl (L ((p + 1) + 2 + 2 * j + 1)) = P j ∧ I (p + 2) j = nI (M j)
/-- where it lies -/
def fX (p b : Nat) : Prop := p ≤ b ∧ b < p + 13
theorem fRep_fr {p n : Nat} {P : Nat → List Int} {M : Nat → Nat} {X : Nat → Prop} {I1 : Nat → Nat → Int32} {L1 : Nat → Nat → Int64} (h : fRep p n P M I L) (hf : fr X I L I1 L1) (hX : ∀ b, fX p b → ¬ X b) : fRep p n P M I1 L1 := by
  obtain ⟨h1, h2, h3⟩ := h
  have e : ∀ b, fX p b → I1 b = I b ∧ L1 b = L b := fun b hb => hf b (hX b hb)
  refine ⟨by rw [(e p ⟨by omega, by omega⟩).1]; exact h1, h2, fun j hj => ?_⟩
  rw [(e (p + 2) ⟨by omega, by omega⟩).1, (e ((p + 1) + 2 + 2 * j + 1) ⟨by omega, by omega⟩).2]
  exact h3 j hj
theorem fRep_congr {p n : Nat} {P P' : Nat → List Int} {M M' : Nat → Nat} (h : fRep p n P M I L) (he : ∀ j, j < n → P j = P' j ∧ M j = M' j) : fRep p n P' M' I L := ⟨h.1, h.2.1, fun j hj => by rw [← (he j hj).1, ← (he j hj).2]; exact h.2.2 j hj⟩
section
variable {p q r n m : Nat} {P : Nat → List Int} {M : Nat → Nat}
/-- an insertion on its way: the places from c upward have been shifted -/
def insInv (p q n c : Nat) (P : Nat → List Int) (M : Nat → Nat) (I : Nat → Nat → Int32) (L : Nat → Nat → Int64) (I' : Nat → Nat → Int32) (L' : Nat → Nat → Int64) : Prop :=
  I' p 2 = nI n ∧ fr (fX p) I L I' L' ∧ (∀ j, j < c → rl (L' ((p + 1) + 2 + 2 * j + 1)) = P j ∧ I' (p + 2) j = nI (M j)) ∧
  (∀ j, c < j → j ≤ n → rl (L' ((p + 1) + 2 + 2 * j + 1)) = P (j - 1) ∧ I' (p + 2) j = nI (M (j - 1))) ∧
  ∀ j, c ≤ j → j < n → zle 5 (rl (L (q + 1))) (P j) ∧ rl (L (q + 1)) ≠ P j
theorem ins_end {c : Nat} {I' : Nat → Nat → Int32} {L' : Nat → Nat → Int64} (hqp : q + 2 ≤ p ∨ p + 13 ≤ q) (hn : n < 5) (hc : c ≤ n) (h : insInv p q n c P M I L I' L') :
    fRep p (n + 1) (fins c (rl (L (q + 1))) P) (fins c m M) (mj_up (mj_up I' (p + 2) c (nI m)) p 2 (((mj_up I' (p + 2) c (nI m)) p 2) + (1 : Int32))) (mwn L' ((p + 1) + 2 + 2 * c + 1) 6 (L' (q + 1))) ∧
    fr (fX p) I L (mj_up (mj_up I' (p + 2) c (nI m)) p 2 (((mj_up I' (p + 2) c (nI m)) p 2) + (1 : Int32))) (mwn L' ((p + 1) + 2 + 2 * c + 1) 6 (L' (q + 1))) := by
  obtain ⟨h1, h2, h3, h4, h5⟩ := h
  refine ⟨⟨?_, by omega, fun j hj => ?_⟩, ?_⟩
  · rw [up_eq, up_ne (by omega), h1, nI_1]
  · rw [up_ne (b := p + 2) (by omega)]
    rcases Nat.lt_trichotomy j c with e | e | e
    · rw [mwn_ne (by omega), up_nk (by omega), fins_lo e, fins_lo e]; exact h3 j e
    · subst e
      rw [rl_mwn, up_eq, fins_eq, fins_eq, (h2 (q + 1) (fun z => by unfold fX at z; omega)).2]
      exact ⟨rfl, rfl⟩
    · rw [mwn_ne (by omega), up_nk (by omega), fins_hi e, fins_hi e]; exact h4 j e (by omega)
  · refine fr_tr (Y := fX p) h2 (fun b hb => ?_) (fun b hb => hb.elim id id)
    have e0 : b ≠ p := fun e => hb ⟨by omega, by omega⟩
    have e1 : b ≠ p + 2 := fun e => hb ⟨by omega, by omega⟩
    have e2 : b ≠ (p + 1) + 2 + 2 * c + 1 := fun e => hb ⟨by omega, by omega⟩
    exact ⟨by rw [up_ne e0, up_ne e1], mwn_ne e2⟩
theorem s_insert0 (hp : is_Factors S p) (hq : is_Poly S q) (hqp : q + 2 ≤ p ∨ p + 13 ≤ q) (hn : n < 5) : ∀ c, c ≤ n → ∀ I' L', insInv p q n c P M I L I' L' → ∃ c' I1 L1, c' ≤ n ∧ hd_X1_insert_21 S (fun v h => v = none ∧ h = (S, I1, L1)) p q (nI m) (nI c) I' L' ∧
    fRep p (n + 1) (fins c' (rl (L (q + 1))) P) (fins c' m M) I1 L1 ∧ fr (fX p) I L I1 L1 ∧ (c' = 0 ∨ zle 5 (P (c' - 1)) (rl (L (q + 1)))) ∧ ∀ j, c' ≤ j → j < n → zle 5 (rl (L (q + 1))) (P j) ∧ rl (L (q + 1)) ≠ P j := by
  intro c
  induction c with
  | zero =>
    intro hc I' L' h
    obtain ⟨e1, e2⟩ := ins_end (m := m) hqp hn hc h
    refine ⟨0, _, _, hc, ?_, e1, e2, Or.inl rfl, h.2.2.2.2⟩
    refine it_X1_insert_21 hp hq ⟨fun _ => ⟨vp_in_nI (by decide) (by decide), _, _, s_copy (hp.2.2.2 0 (by decide)) hq, vp_in_nI (by decide) (by decide), rfl, rfl⟩, fun h0 => absurd (by decide) h0⟩
  | succ c ih =>
    intro hc I' L' h
    have hin := h
    obtain ⟨h1, h2, h3, h4, h5⟩ := h
    have hc0 : ¬ nI (c + 1) ≤ 0 := nI_nle (by omega) (by omega)
    have hqr := (h2 (q + 1) (fun z => by unfold fX at z; omega)).2
    have ec : (nI (c + 1) - 1).toNatClampNeg = c := by rw [nI_pred, nI_clamp (by omega)]
    have ec1 : (nI (c + 1)).toNatClampNeg = c + 1 := nI_clamp (by omega)
    have hv0 : vp_in (nI (c + 1) - 1) 5 := by rw [nI_pred]; exact vp_in_nI (by omega) (by decide)
    have hv1 : vp_in (nI (c + 1)) 5 := vp_in_nI (by omega) (by decide)
    have hO := s_order (S := S) (I := I') (L := L') hq (hp.2.2.2 c (by omega))
    have hPc := h3 c (by omega)
    by_cases ho : 0 ≤ ordF (L' (q + 1)) (L' ((p + 1) + 2 + 2 * c + 1)) 6
    · obtain ⟨e1, e2⟩ := ins_end (m := m) hqp hn hc hin
      refine ⟨c + 1, _, _, hc, ?_, e1, e2, Or.inr ?_, h5⟩
      · refine it_X1_insert_21 hp hq ⟨fun h0 => absurd h0 hc0, fun _ => ⟨hv0, _, _, _, by rw [ec]; exact hO, fun _ => ⟨hv1, _, _, by rw [ec1]; exact s_copy (hp.2.2.2 (c + 1) (by omega)) hq, hv1, ?_⟩, fun h0 => absurd ho h0⟩⟩
        rw [ec1]; exact ⟨rfl, rfl⟩
      · have := ordF_pos 5 (by decide) ho
        rw [hqr, hPc.1] at this
        exact this
    · obtain ⟨o1, o2⟩ := ordF_neg 5 (by decide) ho
      rw [hqr, hPc.1] at o1
      have hne : rl (L (q + 1)) ≠ P c := fun e => by
        obtain ⟨j, hj, hn⟩ := o2
        rw [hqr] at hn
        exact hn (rl_inj (e.trans hPc.1.symm) (by omega))
      obtain ⟨c', I1, L1, k1, k2, k3, k4, k5, k6⟩ := ih (by omega) (mj_up I' (p + 2) (c + 1) (I' (p + 2) c)) (mwn L' ((p + 1) + 2 + 2 * (c + 1) + 1) 6 (L' ((p + 1) + 2 + 2 * c + 1))) ⟨by rw [up_ne (by omega)]; exact h1, fr_tr (Y := fX p) h2 (fun b hb => by
          have e1 : b ≠ p + 2 := fun e => hb ⟨by omega, by omega⟩
          have e2 : b ≠ (p + 1) + 2 + 2 * (c + 1) + 1 := fun e => hb ⟨by omega, by omega⟩
          exact ⟨up_ne e1, mwn_ne e2⟩) (fun b hb => hb.elim id id), fun j hj => by
          rw [mwn_ne (by omega), up_nk (by omega)]; exact h3 j (by omega), fun j hj hj2 => by
          by_cases e : j = c + 1
          · subst e
            rw [rl_mwn, up_eq, show c + 1 - 1 = c by omega]; exact hPc
          · rw [mwn_ne (by omega), up_nk e]; exact h4 j (by omega) hj2, fun j hj hj2 => by
          by_cases e : j = c
          · subst e; exact ⟨o1, hne⟩
          · exact h5 j (by omega) hj2⟩
      refine ⟨c', I1, L1, k1, ?_, k3, k4, k5, k6⟩
      refine it_X1_insert_21 hp hq ⟨fun h0 => absurd h0 hc0, fun _ => ⟨hv0, _, _, _, by rw [ec]; exact hO, fun h0 => absurd h0 ho, fun _ => ⟨hv1, hv0, _, _, by rw [ec1, ec]; exact s_copy (hp.2.2.2 (c + 1) (by omega)) (hp.2.2.2 c (by omega)), hv0, hv1, fun y hy => ?_⟩⟩⟩
      rw [hy, pk_m1, ec1, ec]
      exact k2
theorem s_insert (hp : is_Factors S p) (hq : is_Poly S q) (hqp : q + 2 ≤ p ∨ p + 13 ≤ q) (hn : n < 5) (hR : fRep p n P M I L) : ∃ c I1 L1, c ≤ n ∧ CTv mr_X1_insert [.ref p, .ref q, .int (nI m)] S I L I1 L1 ∧
    fRep p (n + 1) (fins c (rl (L (q + 1))) P) (fins c m M) I1 L1 ∧ fr (fX p) I L I1 L1 ∧ (c = 0 ∨ zle 5 (P (c - 1)) (rl (L (q + 1)))) ∧ ∀ j, c ≤ j → j < n → zle 5 (rl (L (q + 1))) (P j) ∧ rl (L (q + 1)) ≠ P j := by
  obtain ⟨c, I1, L1, k1, k2, k3, k4, k5, k6⟩ := s_insert0 (m := m) hp hq hqp hn n (Nat.le_refl _) I L ⟨hR.1, fr_rf, hR.2.2, fun j h1 h2 => by omega, fun j h1 h2 => by omega⟩
  refine ⟨c, I1, L1, k1, wp_X1_insert hp hq ?_, k3, k4, k5, k6⟩
  rw [hR.1]
  exact ng_f (by omega) ⟨fun _ y hy => by rw [hy]; exact k2, fun h => absurd (nI_lt (b := 5) hn (by decide)) h⟩
theorem s_baseAt (hp : is_Factors S p) (hR : fRep p n P M I L) {j : Nat} (hj : j < n) : CTq mr_X1_baseAt [.ref p, .int (nI j)] S I L (some ((p + 1) + 2 + 2 * j)) I L := by
  have h5 := hR.2.1
  refine wp_X1_baseAt hp (ng_f (by omega) ?_)
  rw [hR.1]
  refine ge_f hj (by omega) (ge_f (k := 5) (by omega) (by decide) ⟨vp_in_nI (by omega) (by decide), ?_, rfl⟩)
  rw [nI_clamp (by omega)]; rfl
theorem s_baseAt_none (hp : is_Factors S p) (hR : fRep p n P M I L) {a : Int32} (ha : a < 0 ∨ nI n ≤ a) : CTq mr_X1_baseAt [.ref p, .int a] S I L none I L := by
  refine wp_X1_baseAt hp ⟨fun _ => ⟨rfl, rfl⟩, fun h => ?_⟩
  rw [hR.1]
  exact ⟨fun _ => ⟨rfl, rfl⟩, fun h2 => by rcases ha with q | q <;> contradiction⟩
theorem s_multAt (hp : is_Factors S p) (hR : fRep p n P M I L) {j : Nat} (hj : j < n) : CTi mr_X1_multiplicityAt [.ref p, .int (nI j)] S I L (nI (M j)) I L := by
  have h5 := hR.2.1
  refine wp_X1_multiplicityAt hp (ng_f (by omega) ?_)
  rw [hR.1]
  refine ge_f hj (by omega) (ge_f (k := 5) (by omega) (by decide) ⟨vp_in_nI (by omega) (by decide), ?_, rfl⟩)
  rw [nI_clamp (by omega), (hR.2.2 j hj).2]
theorem s_multSum (hp : is_Factors S p) (hR : fRep p n P M I L) : CTi mr_X1_multiplicitySum [.ref p] S I L (nI (msum M n)) I L := by
  have h5 := hR.2.1
  refine wp_X1_multiplicitySum hp ?_
  have key := up_loop (P := fun i => hd_X1_multiplicitySum_4 S (fun v h => v = some (.int (nI (msum M n))) ∧ h = (S, I, L)) p (nI (msum M i)) (nI i) I L) n
    (it_X1_multiplicitySum_4 hp (by rw [hR.1]; exact ge_t (Nat.le_refl _) (by omega) ⟨rfl, rfl⟩))
    (fun i hi ih => it_X1_multiplicitySum_4 hp (by
      rw [hR.1]
      refine ge_f hi (by omega) ⟨_, _, _, s_multAt hp hR hi, fun y hy z hz => ?_⟩
      rw [hy, hz, nI_1, nI_add]; exact ih))
  exact key 0 (Nat.zero_le _)
/-- the multiplicity of e -/
def mof (P : Nat → List Int) (M : Nat → Nat) (e : List Int) : Nat → Nat → Nat
  | 0, _ => 0
  | k + 1, i => if P i = e then M i else mof P M e k (i + 1)
theorem mof_congr {P P' : Nat → List Int} {M M' : Nat → Nat} {e : List Int} : ∀ k i, (∀ j, j < i + k → P j = P' j ∧ M j = M' j) → mof P M e k i = mof P' M' e k i
  | 0, _, _ => rfl
  | k + 1, i, h => by rw [mof, mof, (h i (by omega)).1, (h i (by omega)).2, mof_congr k (i + 1) (fun j hj => h j (by omega))]
theorem s_multOf (hp : is_Factors S p) (hq : is_Poly S q) (hR : fRep p n P M I L) : CTi mr_X1_multiplicityOf [.ref p, .ref q] S I L (nI (mof P M (rl (L (q + 1))) n 0)) I L := by
  have h5 := hR.2.1
  refine wp_X1_multiplicityOf hp hq ?_
  have key : ∀ k i, i + k = n → hd_X1_multiplicityOf_2 S (fun v h => v = some (.int (nI (mof P M (rl (L (q + 1))) k i))) ∧ h = (S, I, L)) p q (nI i) I L := by
    intro k
    induction k with
    | zero =>
      intro i hi
      refine it_X1_multiplicityOf_2 hp hq ?_
      rw [hR.1]
      exact ge_t (by omega) (by omega) ⟨rfl, rfl⟩
    | succ k ih =>
      intro i hi
      have hi2 := ih (i + 1) (by omega)
      refine it_X1_multiplicityOf_2 hp hq ?_
      have hs := s_isSame (S := S) (I := I) (L := L) (hp.2.2.2 i (by omega)) hq
      rw [hR.1]
      refine ge_f (by omega) (by omega) (ge_f (k := 5) (by omega) (by decide) ⟨vp_in_nI (by omega) (by decide), _, _, _, by rw [nI_clamp (by omega)]; exact hs, fun h y hy => ?_, fun h => ⟨vp_in_nI (by omega) (by decide), ?_⟩⟩)
      · have hne : ¬ P i = rl (L (q + 1)) := fun e => by
          rw [if_pos (ordF_same.mpr ((hR.2.2 i (by omega)).1.trans e))] at h
          exact absurd h (by decide)
        rw [hy, nI_1]
        rw [mof, if_neg hne]
        exact hi2
      · have he : P i = rl (L (q + 1)) := Classical.byContradiction fun hne => by
          rw [if_neg (fun e => hne ((hR.2.2 i (by omega)).1.symm.trans (ordF_same.mp e)))] at h
          exact absurd rfl h
        rw [mof, if_pos he, nI_clamp (by omega), (hR.2.2 i (by omega)).2]
        exact ⟨rfl, rfl⟩
  exact key n 0 (by omega)
/-- the product of factors, each once -/
def eo (P : Nat → List Int) : Nat → Nat → Int64
  | 0 => fun k => if k = 0 then 1 else 0
  | i + 1 => cv (eo P i) (il (P i))
theorem s_eachOnce (hp : is_Factors S p) (hq : is_Poly S q) (hqp : q + 2 ≤ p ∨ p + 13 ≤ q) (hR : fRep p n P M I L) : CTv mr_X1_multiplyEachOnce [.ref p, .ref q] S I L I (mwn L (q + 1) 6 (eo P n)) := by
  have h5 := hR.2.1
  refine wp_X1_multiplyEachOnce hp hq ⟨_, _, s_setConstant hq 1, ?_⟩
  have key := up_loop (P := fun i => hd_X1_multiplyEachOnce_7 S (fun v h => v = none ∧ h = (S, I, mwn L (q + 1) 6 (eo P n))) p q (nI i) I (mwn L (q + 1) 6 (eo P i))) n
    (it_X1_multiplyEachOnce_7 hp hq (by rw [hR.1]; exact ge_t (Nat.le_refl _) (by omega) ⟨rfl, rfl⟩))
    (fun i hi ih => it_X1_multiplyEachOnce_7 hp hq (by
      rw [hR.1]
      have hm := s_multiplyBy (S := S) (I := I) (L := mwn L (q + 1) 6 (eo P i)) (p := q) (q := (p + 1) + 2 + 2 * i) hq (hp.2.2.2 i (by omega)) (by omega)
      have e : mwn (mwn L (q + 1) 6 (eo P i)) (q + 1) 6 (cv (mwn L (q + 1) 6 (eo P i) (q + 1)) (mwn L (q + 1) 6 (eo P i) ((p + 1) + 2 + 2 * i + 1))) = mwn L (q + 1) 6 (eo P (i + 1)) := by
        rw [mwn_mwn, mwn_ne (b := (p + 1) + 2 + 2 * i + 1) (by omega)]
        exact mwn_congr (fun k hk => cv_congr6 hk (fun j hj => mwn_at hj) (fun j hj => il_of (hR.2.2 i hi).1 hj))
      rw [e] at hm
      refine ge_f hi (by omega) (ge_f (k := 5) (by omega) (by decide) ⟨vp_in_nI (by omega) (by decide), _, _, by rw [nI_clamp (by omega)]; exact hm, fun y hy => ?_⟩)
      rw [hy, nI_1]; exact ih))
  exact key 0 (Nat.zero_le _)
/-- times e, t times -/
def tms (e : List Int) : Nat → (Nat → Int64) → Nat → Int64
  | 0, f => f
  | t + 1, f => tms e t (cv f (il e))
/-- times all that both have -/
def shr (P : Nat → List Int) (T : Nat → Nat) (f : Nat → Int64) : Nat → Nat → Int64
  | 0 => f
  | i + 1 => tms (P i) (T i) (shr P T f i)
theorem tms_congr {e : List Int} : ∀ t {f f' : Nat → Int64}, (∀ k, k < 6 → f k = f' k) → ∀ k, k < 6 → tms e t f k = tms e t f' k
  | 0, _, _, h, k, hk => h k hk
  | t + 1, f, f', h, k, hk => tms_congr t (fun k hk => cv_congr6 hk h (fun _ _ => rfl)) k hk
theorem shr_congr {P P' : Nat → List Int} {T T' : Nat → Nat} {f f' : Nat → Int64} : ∀ n, (∀ j, j < n → P j = P' j ∧ T j = T' j) → (∀ k, k < 6 → f k = f' k) → ∀ k, k < 6 → shr P T f n k = shr P' T' f' n k
  | 0, _, h, k, hk => h k hk
  | n + 1, hj, h, k, hk => by
    rw [shr, shr, (hj n (by omega)).1, (hj n (by omega)).2]
    exact tms_congr _ (shr_congr n (fun j q => hj j (by omega)) h) k hk
theorem min_nI {a b : Nat} (ha : a < 2 ^ 31) (hb : b < 2 ^ 31) : (if nI b < nI a then nI b else nI a) = nI (min a b) := by
  by_cases h : b < a
  · rw [if_pos (nI_lt h ha), Nat.min_eq_right (by omega)]
  · rw [if_neg (nI_nlt (by omega) hb), Nat.min_eq_left (by omega)]
theorem s_multShared (hp : is_Factors S p) (hq : is_Factors S q) (hr : is_Poly S r) (hrp : r + 2 ≤ p ∨ p + 13 ≤ r) (hrq : r + 2 ≤ q ∨ q + 13 ≤ r) (hR : fRep p n P M I L) {n2 : Nat} {P2 : Nat → List Int} {M2 : Nat → Nat} (hR2 : fRep q n2 P2 M2 I L) (hM : ∀ j, M j < 2 ^ 31) (hM2 : ∀ e, mof P2 M2 e n2 0 < 2 ^ 31) :
    CTv mr_X1_multiplyShared [.ref p, .ref q, .ref r] S I L I (mwn L (r + 1) 6 (shr P (fun j => min (M j) (mof P2 M2 (P j) n2 0)) (L (r + 1)) n)) := by
  have h5 := hR.2.1
  refine wp_X1_multiplyShared hp hq hr ?_
  have key := up_loop (P := fun i => hd_X1_multiplyShared_2 S (fun v h => v = none ∧ h = (S, I, mwn L (r + 1) 6 (shr P (fun j => min (M j) (mof P2 M2 (P j) n2 0)) (L (r + 1)) n))) p q r (nI i) I (mwn L (r + 1) 6 (shr P (fun j => min (M j) (mof P2 M2 (P j) n2 0)) (L (r + 1)) i))) n
    (it_X1_multiplyShared_2 hp hq hr (by rw [hR.1]; exact ge_t (Nat.le_refl _) (by omega) ⟨rfl, rfl⟩))
    (fun i hi ih => by
      have frI : ∀ F : Nat → Int64, fr (fun b => b = r + 1) I L I (mwn L (r + 1) 6 F) := fun F => fr_L rfl
      have inner : ∀ t s, s + t = min (M i) (mof P2 M2 (P i) n2 0) → ∀ F : Nat → Int64, (∀ k, k < 6 → tms (P i) t F k = shr P (fun j => min (M j) (mof P2 M2 (P j) n2 0)) (L (r + 1)) (i + 1) k) → hd_X1_multiplyShared_39 S (fun v h => v = none ∧ h = (S, I, mwn L (r + 1) 6 (shr P (fun j => min (M j) (mof P2 M2 (P j) n2 0)) (L (r + 1)) n))) p q r (nI i) (nI (min (M i) (mof P2 M2 (P i) n2 0))) (nI s) I (mwn L (r + 1) 6 F) := by
        have hmin : min (M i) (mof P2 M2 (P i) n2 0) < 2 ^ 31 := by have := hM i; omega
        intro t
        induction t with
        | zero =>
          intro s hs F hF
          refine it_X1_multiplyShared_39 hp hq hr (ge_t (by omega) (by omega) (fun y hy => ?_))
          rw [hy, nI_1, mwn_congr (f := F) (g := shr P (fun j => min (M j) (mof P2 M2 (P j) n2 0)) (L (r + 1)) (i + 1)) (fun k hk => hF k hk)]
          exact ih
        | succ t iht =>
          intro s hs F hF
          have hm := s_multiplyBy (S := S) (I := I) (L := mwn L (r + 1) 6 F) (p := r) (q := (p + 1) + 2 + 2 * i) hr (hp.2.2.2 i (by omega)) (by omega)
          have e : mwn (mwn L (r + 1) 6 F) (r + 1) 6 (cv (mwn L (r + 1) 6 F (r + 1)) (mwn L (r + 1) 6 F ((p + 1) + 2 + 2 * i + 1))) = mwn L (r + 1) 6 (cv F (il (P i))) := by
            rw [mwn_mwn, mwn_ne (b := (p + 1) + 2 + 2 * i + 1) (by omega)]
            exact mwn_congr (fun k hk => cv_congr6 hk (fun j hj => mwn_at hj) (fun j hj => il_of (hR.2.2 i hi).1 hj))
          rw [e] at hm
          refine it_X1_multiplyShared_39 hp hq hr (ge_f (by omega) (by omega) ⟨vp_in_nI (by omega) (by decide), _, _, by rw [nI_clamp (by omega)]; exact hm, fun y hy => ?_⟩)
          rw [hy, nI_1]
          exact iht (s + 1) (by omega) _ (fun k hk => hF k hk)
      have hRi := fRep_fr hR (frI (shr P (fun j => min (M j) (mof P2 M2 (P j) n2 0)) (L (r + 1)) i)) (fun b hb => by unfold fX at hb; omega)
      have hRi2 := fRep_fr hR2 (frI (shr P (fun j => min (M j) (mof P2 M2 (P j) n2 0)) (L (r + 1)) i)) (fun b hb => by unfold fX at hb; omega)
      refine it_X1_multiplyShared_2 hp hq hr ?_
      rw [hR.1]
      have hmo := s_multOf (S := S) hq (hp.2.2.2 i (by omega)) hRi2
      rw [(hRi.2.2 i hi).1] at hmo
      refine ge_f hi (by omega) (ge_f (k := 5) (by omega) (by decide) ⟨vp_in_nI (by omega) (by decide), vp_in_nI (by omega) (by decide), _, _, _, by rw [nI_clamp (by omega)]; exact hmo, _, _, _, s_min _ _, ?_⟩)
      rw [nI_clamp (by omega), (hR.2.2 i hi).2, min_nI (hM i) (hM2 _)]
      exact inner _ 0 (Nat.zero_add _) _ (fun k hk => rfl))
  have := key 0 (Nat.zero_le _)
  rwa [show mwn L (r + 1) 6 (shr P (fun j => min (M j) (mof P2 M2 (P j) n2 0)) (L (r + 1)) 0) = L from by
    funext b k
    unfold mwn
    by_cases hb : b = r + 1 ∧ k < 6
    · rw [if_pos hb, hb.1]; rfl
    · rw [if_neg hb]] at this
theorem s_factorsCopy (hp : is_Factors S p) (hq : is_Factors S q) (hqp : q + 13 ≤ p ∨ p + 13 ≤ q) : ∃ I1 L1, CTv mr_X1_copyFrom [.ref p, .ref q] S I L I1 L1 ∧ fr (fX p) I L I1 L1 ∧ ∀ n P M, fRep q n P M I L → fRep p n P M I1 L1 := by
  have key := up_loop (P := fun i => ∀ I' L', fr (fX p) I L I' L' → I' p 2 = I q 2 → (∀ j, j < i → rl (L' ((p + 1) + 2 + 2 * j + 1)) = rl (L ((q + 1) + 2 + 2 * j + 1)) ∧ I' (p + 2) j = I (q + 2) j) → ∃ I1 L1, hd_X1_copyFrom_10 S (fun v h => v = none ∧ h = (S, I1, L1)) p q (nI i) I' L' ∧ fr (fX p) I L I1 L1 ∧ I1 p 2 = I q 2 ∧ (∀ j, j < 5 → rl (L1 ((p + 1) + 2 + 2 * j + 1)) = rl (L ((q + 1) + 2 + 2 * j + 1)) ∧ I1 (p + 2) j = I (q + 2) j)) 5
    (fun I' L' h1 h2 h3 => ⟨I', L', it_X1_copyFrom_10 hp hq (ge_t (k := 5) (by decide) (by decide) ⟨rfl, rfl⟩), h1, h2, h3⟩)
    (fun i hi ih I' L' h1 h2 h3 => by
      have e1 : L' ((q + 1) + 2 + 2 * i + 1) = L ((q + 1) + 2 + 2 * i + 1) := (h1 _ (fun z => by unfold fX at z; omega)).2
      have e2 : I' (q + 2) = I (q + 2) := (h1 _ (fun z => by unfold fX at z; omega)).1
      obtain ⟨I1, L1, k1, k2⟩ := ih (mj_up I' (p + 2) i (I' (q + 2) i)) (mwn L' ((p + 1) + 2 + 2 * i + 1) 6 (L' ((q + 1) + 2 + 2 * i + 1))) (fr_tr (Y := fX p) h1 (fun b hb => by
          have e1 : b ≠ p + 2 := fun e => hb ⟨by omega, by omega⟩
          have e2 : b ≠ (p + 1) + 2 + 2 * i + 1 := fun e => hb ⟨by omega, by omega⟩
          exact ⟨up_ne e1, mwn_ne e2⟩) (fun b hb => hb.elim id id)) (by rw [up_ne (by omega)]; exact h2) (fun j hj => by
          by_cases e : j = i
          · subst e; rw [rl_mwn, up_eq, e1, e2]; exact ⟨rfl, rfl⟩
          · rw [mwn_ne (by omega), up_nk e]; exact h3 j (by omega))
      have hc := s_copy (S := S) (I := I') (L := L') (hp.2.2.2 i hi) (hq.2.2.2 i hi)
      refine ⟨I1, L1, it_X1_copyFrom_10 hp hq (ge_f (k := 5) hi (by decide) ⟨vp_in_nI hi (by decide), vp_in_nI hi (by decide), _, _, by rw [nI_clamp (by omega)]; exact hc, vp_in_nI hi (by decide), vp_in_nI hi (by decide), fun y hy => ?_⟩), k2⟩
      rw [hy, nI_1, nI_clamp (by omega)]; exact k1)
  obtain ⟨I1, L1, k1, k2, k3, k4⟩ := key 0 (by decide) (mj_up I p 2 (I q 2)) L (fr_I ⟨by omega, by omega⟩) up_eq (fun j hj => by omega)
  refine ⟨I1, L1, wp_X1_copyFrom hp hq k1, k2, fun n P M hR => ⟨by rw [k3]; exact hR.1, hR.2.1, fun j hj => ?_⟩⟩
  have h5 := hR.2.1
  obtain ⟨a1, a2⟩ := k4 j (by omega)
  rw [a1, a2]; exact hR.2.2 j hj
end
