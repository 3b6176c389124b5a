/-! READING A DESK; the reference's observations and images -/
variable {S : List mjD} {I : Nat → Nat → Int32} {L : Nat → Nat → Int64}
def klF (x : Int32) : Nat → Nat → Int32
  | 0, _ => -1
  | k + 1, i => if (mj_st 1000001).getD i 0 = x then nI i else klF x k (i + 1)
/-- the kind by its letter -/
def kl (x : Int32) : Int32 := klF x 5 0
theorem s_kindOf (x : Int32) : CTi mr_X8_kindOfLetter [.int x] S I L (kl x) I L := by
  refine wp_X8_kindOfLetter ?_
  have key : ∀ k i, i + k = 5 → ∀ R, klF x k i = R → hd_X8_kindOfLetter_2 S (fun v h => v = some (.int R) ∧ h = (S, I, L)) x (nI i) I L := by
    intro k
    induction k with
    | zero =>
      intro i hi R hR
      obtain rfl : i = 5 := by omega
      exact it_X8_kindOfLetter_2 (ge_t (k := 5) (Nat.le_refl _) (by decide) ⟨by rw [← hR]; rfl, rfl⟩)
    | succ k ih =>
      intro i hi R hR
      rw [klF] at hR
      refine it_X8_kindOfLetter_2 (ge_f (k := 5) (by omega) (by decide) ⟨vp_in_nI (by omega) (by decide), fun h y hy => ?_, fun h => ?_⟩)
      · rw [nI_clamp (by omega)] at h
        rw [hy, nI_1]; exact ih (i + 1) (by omega) R (by rw [← hR, if_neg h])
      · rw [nI_clamp (by omega)] at h
        exact ⟨by rw [← hR, if_pos h], rfl⟩
  exact key 5 0 rfl _ rfl
theorem kl_of : ∀ n, n < 127 → (kl (nI n) = -1 ∨ ∃ k, k < 5 ∧ kl (nI n) = nI k) := by
  have h : ∀ n, n < 127 → (kl (nI n) = -1 ∨ kl (nI n) = nI 0 ∨ kl (nI n) = nI 1 ∨ kl (nI n) = nI 2 ∨ kl (nI n) = nI 3 ∨ kl (nI n) = nI 4) := by decide +kernel
  intro n hn
  rcases h n hn with h | h | h | h | h | h
  · exact Or.inl h
  · exact Or.inr ⟨0, by decide, h⟩
  · exact Or.inr ⟨1, by decide, h⟩
  · exact Or.inr ⟨2, by decide, h⟩
  · exact Or.inr ⟨3, by decide, h⟩
  · exact Or.inr ⟨4, by decide, h⟩
theorem m_kindBy {n : Nat} (hn : n < 127) : CTi mr_X9_kindBy [.int (nI n)] S I L (kl (nI n)) I L := by
  have tt : ∀ n, n < 127 → (nI n = 102 ∨ nI n = 109 ∨ nI n = 112 ∨ nI n = 115 ∨ nI n = 116 ∨ kl (nI n) = -1) := by decide +kernel
  have t2 : nI n = 102 → kl (nI n) = 2 := fun h => by rw [h]; decide
  have t4 : nI n = 109 → kl (nI n) = 4 := fun h => by rw [h]; decide
  have t1 : nI n = 112 → kl (nI n) = 1 := fun h => by rw [h]; decide
  have t0 : nI n = 115 → kl (nI n) = 0 := fun h => by rw [h]; decide
  have t3 : nI n = 116 → kl (nI n) = 3 := fun h => by rw [h]; decide
  have tn : ¬ nI n = 102 → ¬ nI n = 109 → ¬ nI n = 112 → ¬ nI n = 115 → ¬ nI n = 116 → kl (nI n) = -1 := fun a b c d e => by
    rcases tt n hn with h | h | h | h | h | h
    · exact absurd h a
    · exact absurd h b
    · exact absurd h c
    · exact absurd h d
    · exact absurd h e
    · exact h
  have no : ∀ k : Int32, nI n = k → ¬ k = 102 → ¬ k = 109 → ¬ k = 112 → ¬ k = 115 → ¬ k = 116 → kl (nI n) = -1 := fun k h a b c d e => tn (fun q => a (h ▸ q)) (fun q => b (h ▸ q)) (fun q => c (h ▸ q)) (fun q => d (h ▸ q)) (fun q => e (h ▸ q))
  refine wp_X9_kindBy ⟨fun h => ⟨by rw [t2 h], rfl⟩, fun h => ⟨by rw [no _ h (by decide) (by decide) (by decide) (by decide) (by decide)], rfl⟩, fun h => ⟨by rw [no _ h (by decide) (by decide) (by decide) (by decide) (by decide)], rfl⟩, fun h => ⟨by rw [no _ h (by decide) (by decide) (by decide) (by decide) (by decide)], rfl⟩, fun h => ⟨by rw [no _ h (by decide) (by decide) (by decide) (by decide) (by decide)], rfl⟩, fun h => ⟨by rw [no _ h (by decide) (by decide) (by decide) (by decide) (by decide)], rfl⟩, fun h => ⟨by rw [no _ h (by decide) (by decide) (by decide) (by decide) (by decide)], rfl⟩, fun h => ⟨by rw [t4 h], rfl⟩, fun h => ⟨by rw [no _ h (by decide) (by decide) (by decide) (by decide) (by decide)], rfl⟩, fun h => ⟨by rw [no _ h (by decide) (by decide) (by decide) (by decide) (by decide)], rfl⟩, fun h => ⟨by rw [t1 h], rfl⟩, fun h => ⟨by rw [no _ h (by decide) (by decide) (by decide) (by decide) (by decide)], rfl⟩, fun h => ⟨by rw [no _ h (by decide) (by decide) (by decide) (by decide) (by decide)], rfl⟩, fun h => ⟨by rw [t0 h], rfl⟩, fun h => ⟨by rw [t3 h], rfl⟩, fun h => ?_⟩
  have nk : ∀ k : Int32, 102 ≤ k.toInt → k.toInt ≤ 116 → ¬ nI n = k := fun k a b e => by rw [e] at h; omega
  rw [tn (nk 102 (by decide) (by decide)) (nk 109 (by decide) (by decide)) (nk 112 (by decide) (by decide)) (nk 115 (by decide) (by decide)) (nk 116 (by decide) (by decide))]
  exact ⟨rfl, rfl⟩
def dkC (A : aS) : aC := (fun j => if j < apn A then (kl (apc A j)).toNatClampNeg else ck (ac A) j, fun j => if j < apn A then false else cf (ac A) j, cp (ac A), 0, cs (ac A), cw (ac A), cb (ac A))
def dkS (A : aS) : aS := (0, apc A, apn A, adk A + 1, dkC A, asd A, asv A)
def dkOK (A : aS) : Prop := 1 ≤ apn A ∧ apn A ≤ 4 ∧ ∀ k, k < apn A → kl (apc A k) ≠ -1
/-- all letters up to k are kinds -/
def dkB (A : aS) : Nat → Bool
  | 0 => true
  | k + 1 => dkB A k && decide (kl (apc A k) ≠ -1)
theorem dkB_iff {A : aS} : ∀ k, dkB A k = true ↔ ∀ i, i < k → kl (apc A i) ≠ -1
  | 0 => ⟨fun _ i h => by omega, fun _ => rfl⟩
  | k + 1 => by
    rw [dkB, Bool.and_eq_true, dkB_iff k, decide_eq_true_eq]
    exact ⟨fun h i hi => by
      rcases Nat.eq_or_lt_of_le (Nat.lt_succ_iff.mp hi) with e | e
      · rw [e]; exact h.2
      · exact h.1 i e, fun h => ⟨fun i hi => h i (by omega), h k (by omega)⟩⟩
def sp_desk (A : aS) : Int32 × aS := if 1 ≤ apn A ∧ apn A ≤ 4 ∧ dkB A (apn A) = true then (nI (apn A), dkS A) else (-103, A)
section
variable {p m : Nat} {A : aS}
theorem c_codeAt {q n k : Nat} {f : Nat → Int32} (hq : is_Line S q) (h1 : I q 1 = nI n) (h2 : ∀ k, k < n → I (q + 1) k = f k) (hn : n ≤ 40) (hk : k < n) : CTi mr_X2_codeAt [.ref q, .int (nI k)] S I L (f k) I L := by
  refine wp_X2_codeAt hq (ng_f (by omega) ?_)
  rw [h1]
  refine ge_f hk (by omega) (ge_f (k := 40) (by omega) (by decide) ⟨vp_in_nI (by omega) (by decide), ?_, rfl⟩)
  rw [nI_clamp (by omega), h2 k hk]
theorem ok_dk (hA : aOK A) (h1 : 1 ≤ apn A) (h4 : apn A ≤ 4) (hk : ∀ i, i < apn A → kl (apc A i) ≠ -1) (h30 : adk A + 1 < 2 ^ 30) : aOK (dkS A) := by
  obtain ⟨a1, a2, a3, a4, ⟨a5, a6, a7⟩, a8, a9, a10⟩ := hA
  refine ⟨Nat.zero_le _, fun k hk => by have : k < 0 := hk; omega, h4, fun _ => Nat.succ_ne_zero _, ⟨fun j hj => ?_, Nat.zero_le _, fun i hi => by have : i < 0 := hi; omega⟩, a8, by show asd A ≤ adk A + 1; omega, h30⟩
  show (if j < apn A then (kl (apc A j)).toNatClampNeg else ck (ac A) j) < 5 ∧ ((if j < apn A then false else cf (ac A) j) = true → okp (cp (ac A) j))
  by_cases c : j < apn A
  · rw [if_pos c, if_pos c]
    refine ⟨?_, fun h => by cases h⟩
    obtain ⟨n, b1, b2, b3⟩ := a2 j c
    rcases kl_of n (by omega) with e | ⟨k, e1, e2⟩
    · exact absurd (by rw [b3, e]) (hk j c)
    · rw [b3, e2, nI_clamp (by omega)]; exact e1
  · rw [if_neg c, if_neg c]; exact a5 j hj
theorem kl_nI (hA : aOK A) {j : Nat} (hj : j < apn A) (hk : kl (apc A j) ≠ -1) : kl (apc A j) = nI (kl (apc A j)).toNatClampNeg := by
  obtain ⟨n, b1, b2, b3⟩ := hA.2.1 j hj
  rcases kl_of n (by omega) with e | ⟨k, e1, e2⟩
  · exact absurd (by rw [b3, e]) hk
  · rw [b3, e2, nI_clamp (by omega)]
theorem c_desk (hd : is_Desk S p) (hA : aOK A) (h : IC p A I L) : ∃ I1 L1, CTi mr_X8_desk [.ref p] S I L (sp_desk A).1 I1 L1 ∧ IC p (sp_desk A).2 I1 L1 ∧ fr (dX p) I L I1 L1 := by
  have h40 := hA.1
  have hline : is_Line S (p + 1) := hd.2.1
  unfold sp_desk
  by_cases hr : 1 ≤ apn A ∧ apn A ≤ 4
  · obtain ⟨r1, r4⟩ := hr
    have n1 : ¬ nI (apn A) < (1 : Int32) := fun q => absurd ((nI_ltI (b := 1) (by omega) (by decide)).mp q) (by omega)
    have n4 : nI (apn A) ≤ (4 : Int32) := nI_le (b := 4) r4 (by decide)
    -- the check of the letters
    have check : ∀ i, i ≤ apn A → ∀ {RET : Option Value → mjH → Prop}, ((∀ k, i ≤ k → k < apn A → kl (apc A k) ≠ -1) → hd_X8_desk_54 S RET p (nI (apn A)) 0 I L) → (¬ (∀ k, i ≤ k → k < apn A → kl (apc A k) ≠ -1) → RET (some (.int (-103))) (S, I, L)) → hd_X8_desk_23 S RET p (nI (apn A)) (nI i) I L := up_loop (apn A)
      (fun h1 _ => it_X8_desk_23 hd (ge_t (Nat.le_refl _) (by omega) (h1 (fun k a b => by omega))))
      (fun i hi ih {RET} h1 h0 => it_X8_desk_23 hd (ge_f hi (by omega) ⟨_, _, _, c_codeAt hline h.1.1 h.1.2 h40 hi, _, _, _, s_kindOf _, fun q y hy => (by
        rw [hy, nI_1]
        refine ih (fun hk => h1 (fun k a b => ?_)) (fun hk => h0 (fun hk2 => hk (fun k a b => hk2 k (by omega) b)))
        rcases Nat.eq_or_lt_of_le a with e | e
        · rw [← e]; exact q
        · exact hk k e b), fun q => h0 (fun hk => hk i (Nat.le_refl _) hi q)⟩))
    by_cases hk : dkB A (apn A) = true
    · rw [if_pos ⟨r1, r4, hk⟩]
      rw [dkB_iff] at hk
      have key := up_loop (P := fun i => ∀ I', fr (fun b => ∃ j, j < i ∧ b = p + 46 + 32 * j) I L I' L → (∀ j, j < i → I' (p + 46 + 32 * j) 2 = kl (apc A j) ∧ I' (p + 46 + 32 * j) 3 = 0) → ∃ I1, hd_X8_desk_54 S (fun v h => v = some (.int (nI (apn A))) ∧ h = (S, I1, L)) p (nI (apn A)) (nI i) I' L ∧ IC p (dkS A) I1 L ∧ fr (dX p) I L I1 L) (apn A)
        (fun I' hf hs => by
          obtain ⟨I1, hI1⟩ : ∃ I1, I1 = mj_up (mj_up (mj_up (mj_up I' p 10 (nI (apn A))) p 11 (nI (adk A + 1))) (p + 39) 2 (0 : Int32)) (p + 1) 1 (0 : Int32) := ⟨_, rfl⟩
          have ep : I' p = I p := (hf p (fun ⟨j, z⟩ => by omega)).1
          have r : ∀ b, b ≠ p → b ≠ p + 39 → b ≠ p + 1 → I1 b = I' b := fun b b0 b1 b2 => by rw [hI1, up_ne b2, up_ne b1, up_ne b0, up_ne b0]
          have hfr : fr (fun b => (∃ j, j < apn A ∧ b = p + 46 + 32 * j) ∨ b = p ∨ b = p + 39 ∨ b = p + 1) I L I1 L := fun b hb => ⟨by rw [r b (fun e => hb (by omega)) (fun e => hb (by omega)) (fun e => hb (by omega))]; exact (hf b (fun z => hb (Or.inl z))).1, rfl⟩
          obtain ⟨⟨a1, a2⟩, a3, a4, a5, a6, a7⟩ := h
          have e1 : I1 p 10 = nI (apn A) := by rw [hI1, up_ne (by omega), up_ne (by omega), up_nk (by decide), up_eq]
          have e2 : I1 p 11 = nI (adk A + 1) := by rw [hI1, up_ne (by omega), up_ne (by omega), up_eq]
          have e3 : I1 p 14 = I p 14 := by rw [hI1, up_ne (by omega), up_ne (by omega), up_nk (by decide), up_nk (by decide), ep]
          refine ⟨I1, it_X8_desk_54 hd (ge_t (Nat.le_refl _) (by omega) ⟨rfl, ?_⟩), ⟨⟨by rw [hI1, up_eq]; rfl, fun k hk => by have : k < 0 := hk; omega⟩, e1, e2, ⟨fun j hj => ?_, ?_, fun i hi => by have : i < 0 := hi; omega⟩, by rw [e3]; exact a6, fun hh => cR_fr (a7 hh) hfr (fun j b hj x1 x2 z => ?_) (fun b x1 x2 z => ?_)⟩, fr_mono hfr (fun b hb => ?_)⟩
          · rw [up_nk (show (11 : Nat) ≠ 10 by decide), ep, a4, nI_1, ← hI1]
          · show slR _ (if j < apn A then (kl (apc A j)).toNatClampNeg else ck (ac A) j) (if j < apn A then false else cf (ac A) j) _ _ _
            by_cases c : j < apn A
            · rw [if_pos c, if_pos c]
              have ee := r (p + 46 + 32 * j) (by omega) (by omega) (by omega)
              refine ⟨?_, ?_, fun q => by cases q⟩
              · rw [ee, (hs j c).1]; exact kl_nI hA c (hk j c)
              · rw [ee, (hs j c).2]; rfl
            · rw [if_neg c, if_neg c]
              exact slR_fr (a5.1 j hj) hfr (fun b x1 x2 z => by rcases z with ⟨i, z⟩ | z <;> omega)
          · rw [hI1, up_ne (by omega), up_eq]; rfl
          · rcases z with ⟨i, z⟩ | z <;> omega
          · rcases z with ⟨i, z⟩ | z <;> omega
          · unfold dX
            rcases hb with ⟨i, z⟩ | z <;> omega)
        (fun i hi ih I' hf hs => by
          have ln : I' (p + 1) = I (p + 1) := (hf _ (fun ⟨j, z⟩ => by omega)).1
          have ln2 : I' (p + 1 + 1) = I (p + 1 + 1) := (hf _ (fun ⟨j, z⟩ => by omega)).1
          obtain ⟨I1, k1, k2⟩ := ih (mj_up (mj_up I' (p + 46 + 32 * i) 2 (kl (apc A i))) (p + 46 + 32 * i) 3 (0 : Int32)) (fun b hb => ⟨by rw [up_ne (fun e => hb ⟨i, by omega, e⟩), up_ne (fun e => hb ⟨i, by omega, e⟩)]; exact (hf b (fun ⟨j, z⟩ => hb ⟨j, by omega, z.2⟩)).1, rfl⟩) (fun j hj => by
            by_cases e : j = i
            · subst e; rw [up_nk (by decide), up_eq, up_eq]; exact ⟨rfl, rfl⟩
            · rw [up_ne (by omega), up_ne (by omega)]; exact hs j (by omega))
          refine ⟨I1, it_X8_desk_54 hd (ge_f hi (by omega) ⟨vp_in_nI (by omega) (by decide), _, _, _, c_codeAt (f := apc A) (n := apn A) hline (by rw [ln]; exact h.1.1) (fun k hk => by rw [ln2]; exact h.1.2 k hk) h40 hi, _, _, _, s_kindOf _, vp_in_nI (by omega) (by decide), fun y hy => ?_⟩), k2⟩
          rw [hy, nI_1, nI_clamp (by omega)]; exact k1)
      obtain ⟨I1, k1, k2, k3⟩ := key 0 (Nat.zero_le _) I fr_rf (fun j hj => by omega)
      refine ⟨I1, L, wp_X8_desk hd (fun y hy => ?_), k2, k3⟩
      rw [hy, h.1.1]
      exact ⟨fun q => absurd q n1, fun _ => ⟨fun _ => check 0 (Nat.zero_le _) (fun _ => k1) (fun q => absurd (fun k _ b => hk k b) q), fun q => absurd n4 q⟩⟩
    · rw [if_neg (fun z => hk z.2.2)]
      rw [dkB_iff] at hk
      refine ⟨I, L, wp_X8_desk hd (fun y hy => ?_), h, fr_rf⟩
      rw [hy, h.1.1]
      exact ⟨fun q => absurd q n1, fun _ => ⟨fun _ => check 0 (Nat.zero_le _) (fun q => absurd (fun k b => q k (Nat.zero_le _) b) hk) (fun _ => ⟨rfl, rfl⟩), fun q => absurd n4 q⟩⟩
  · rw [if_neg (fun z => hr ⟨z.1, z.2.1⟩)]
    refine ⟨I, L, wp_X8_desk hd (fun y hy => ?_), h, fr_rf⟩
    rw [hy, h.1.1]
    refine ⟨fun _ => ⟨rfl, rfl⟩, fun q => ⟨fun q2 => ?_, fun _ => ⟨rfl, rfl⟩⟩⟩
    exfalso
    refine hr ⟨Classical.byContradiction fun c => q (nI_lt (b := 1) (by omega) (by decide)), (nI_leI (b := 4) (by omega) (by decide)).mp q2⟩
end
