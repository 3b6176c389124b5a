/-! WHAT THE CALLS ANSWER (sp_), and the class's simple methods -/
variable {S : List mjD} {I : Nat → Nat → Int32} {L : Nat → Nat → Int64}
def aPage (A : aS) (n : Nat) (f : Nat → Int32) : aS := (n, f, A.2.2)
def aCore (A : aS) (c : aC) : aS := (A.1, A.2.1, A.2.2.1, A.2.2.2.1, c, A.2.2.2.2.2)
def ckSet (c : aC) (j k : Nat) : aC := (fun i => if i = j then k else ck c i, c.2)
def cnSet (c : aC) (n : Nat) : aC := (ck c, cf c, cp c, n, cs c, cw c, cb c)
def cAdd (c : aC) (s w : Nat) (b : Bool) : aC := (ck c, cf c, cp c, cn c + 1, fun i => if i = cn c then s else cs c i, fun i => if i = cn c then w else cw c i, fun i => if i = cn c then b else cb c i)
def sp_letter (A : aS) (a : Int32) : Int32 × aS := if a < 32 then (-102, A) else if a ≤ 126 then (if apn A < 40 then (nI (apn A + 1), aPage A (apn A + 1) (fun k => if k = apn A then a else apc A k)) else (-104, A)) else (-102, A)
def sp_blank (A : aS) : Int32 × aS := (nI (apn A), aPage A 0 (apc A))
def sp_forget (A : aS) : Int32 × aS := (nI (cn (ac A)), aCore A (cnSet (ac A) 0))
def sp_as (A : aS) (a b : Int32) : Int32 := match sIdx A a with
  | none => -101
  | some j => if b < 0 then -102 else if 5 ≤ b then -102 else if b = 0 then a else if b = nI (ck (ac A) j) then a else if b = 1 ∧ nI (ck (ac A) j) = 2 then a else -1
def sp_be (A : aS) (a b : Int32) : Int32 × aS := match sIdx A a with
  | none => (-101, A)
  | some j => if b < 0 then (-102, A) else if 5 ≤ b then (-102, A) else (nI (ck (ac A) j), aCore A (ckSet (ac A) j b.toNatClampNeg))
def sp_see (A : aS) (a b c : Int32) : Int32 × aS := match sIdx A a with
  | none => (-101, A)
  | some j => if b < 0 then (-102, A) else if b < 4 then (if cn (ac A) < 6 then (nI (cn (ac A) + 1), aCore A (cAdd (ac A) j b.toNatClampNeg (decide (c ≠ 0)))) else (-104, A)) else (-102, A)
def sp_number (A : aS) (a b : Int32) : Int32 := match fIdx A a with
  | none => -101
  | some j => if b < 0 then -102 else if b ≤ 5 then 1000 + (pat (cp (ac A) j) b).toInt32 else -102
def sp_value (A : aS) (a b : Int32) : Int64 := match fIdx A a with
  | none => -101
  | some j => if b < -9 then -102 else if b ≤ 9 then hvF (cp (ac A) j) b.toInt64 6 0 else -102
/-- a slot's polynomial without its content -/
def gl (A : aS) (j : Nat) : List Int := rl (pp (cp (ac A) j))
noncomputable def sp_factor (A : aS) (a b c : Int32) : Int32 := match fIdx A a with
  | none => -101
  | some j => if b < 0 then -101 else if nI (fN (gl A j)) ≤ b then -101 else if c < 0 then -102 else if c < 8 then
      (if c = 0 then dg (il (fP (gl A j) b.toNatClampNeg)) else if c = 1 then nI (fM (gl A j) b.toNatClampNeg) else 100000 + (pat (il (fP (gl A j) b.toNatClampNeg)) (c - 2)).toInt32) else -102
/-- how many of the first slots are filled -/
def fcn (c : aC) : Nat → Nat
  | 0 => 0
  | k + 1 => fcn c k + (if cf c k then 1 else 0)
theorem hvF_ext {f g : Nat → Int64} {x : Int64} (h : ∀ k, k < 6 → f k = g k) : ∀ i, i ≤ 6 → ∀ s, hvF f x i s = hvF g x i s := by
  intro i
  induction i with
  | zero => exact fun _ _ => rfl
  | succ i ih => exact fun hi s => by rw [hvF, hvF, h i (by omega), ih (by omega)]
theorem nI_lt4 {j : Nat} (h : j < 4) : j < 2 ^ 31 := by omega
section
variable {p : Nat} {A : aS}
theorem IC_pg {n : Nat} {f : Nat → Int32} {I1 : Nat → Nat → Int32} {L1 : Nat → Nat → Int64} (h : IC p A I L) (hf : fr (fun b => b = p + 1 ∨ b = p + 1 + 1) I L I1 L1) (h1 : I1 (p + 1) 1 = nI n) (h2 : ∀ k, k < n → I1 (p + 1 + 1) k = f k) : IC p (aPage A n f) I1 L1 := by
  obtain ⟨-, a3, a4, a5, a6, a7⟩ := h
  have e0 := (hf p (by omega)).1
  exact ⟨⟨h1, h2⟩, by rw [e0]; exact a3, by rw [e0]; exact a4, cR_fr a5 hf (fun j b hj x1 x2 z => by omega) (fun b x1 x2 z => by omega), by rw [e0]; exact a6, fun hh => cR_fr (a7 hh) hf (fun j b hj x1 x2 z => by omega) (fun b x1 x2 z => by omega)⟩
/-- where the slots and the observations lie -/
def coX (p b : Nat) : Prop := (p + 39 ≤ b ∧ b < p + 42) ∨ (∃ j, j < 4 ∧ p + 46 + 32 * j ≤ b ∧ b < p + 46 + 32 * j + 16) ∨ scX p b
theorem IC_co {c : aC} {I1 : Nat → Nat → Int32} {L1 : Nat → Nat → Int64} (h : IC p A I L) (hf : fr (coX p) I L I1 L1) (hc : cR (p + 46) (p + 39) c I1 L1) : IC p (aCore A c) I1 L1 := by
  obtain ⟨⟨a1, a2⟩, a3, a4, a5, a6, a7⟩ := h
  have no : ∀ b, b < p + 3 → ¬ coX p b := fun b hb z => by
    rcases z with z | ⟨j, z⟩ | z
    · omega
    · omega
    · unfold scX at z; omega
  have e0 := (hf p (no p (by omega))).1
  refine ⟨⟨by rw [(hf (p + 1) (no _ (by omega))).1]; exact a1, fun k hk => by rw [(hf (p + 1 + 1) (no _ (by omega))).1]; exact a2 k hk⟩, by rw [e0]; exact a3, by rw [e0]; exact a4, hc, by rw [e0]; exact a6, fun hh => cR_fr (a7 hh) hf (fun j b hj x1 x2 z => ?_) (fun b x1 x2 z => ?_)⟩
  · rcases z with z | ⟨i, z1, z2, z3⟩ | z
    · omega
    · omega
    · unfold scX at z; omega
  · rcases z with z | ⟨i, z1, z2, z3⟩ | z
    · omega
    · omega
    · unfold scX at z; omega
theorem coX_d {b : Nat} (h : coX p b) : dX p b := by
  unfold dX
  rcases h with z | ⟨j, z⟩ | z
  · omega
  · omega
  · unfold scX at z; omega
theorem c_letter (hd : is_Desk S p) (hA : aOK A) (h : IC p A I L) (a : Int32) : ∃ I1 L1, CTi mr_X8_letter [.ref p, .int a] S I L (sp_letter A a).1 I1 L1 ∧ IC p (sp_letter A a).2 I1 L1 ∧ fr (dX p) I L I1 L1 := by
  have hl := h.1.1
  have h40 := hA.1
  have hline : is_Line S (p + 1) := hd.2.1
  unfold sp_letter
  by_cases h1 : a < 32
  · rw [if_pos h1]
    exact ⟨I, L, wp_X8_letter hd ⟨fun _ => ⟨rfl, rfl⟩, fun q => absurd h1 q⟩, h, fr_rf⟩
  · rw [if_neg h1]
    by_cases h2 : a ≤ 126
    · rw [if_pos h2]
      by_cases h3 : apn A < 40
      · rw [if_pos h3]
        have ca : CTi mr_X2_append [.ref (p + 1), .int a] S I L 1 (mj_up (mj_up I (p + 1 + 1) (apn A) a) (p + 1) 1 (nI (apn A + 1))) L := by
          refine wp_X2_append hline ?_
          rw [hl]
          refine ng_f (by omega) ⟨fun _ => ⟨vp_in_nI h3 (by decide), rfl, ?_⟩, fun q => absurd (nI_lt (b := 40) h3 (by decide)) q⟩
          rw [nI_clamp (by omega), up_ne (by omega), hl, nI_1]
        have hfr : fr (fun b => b = p + 1 ∨ b = p + 1 + 1) I L (mj_up (mj_up I (p + 1 + 1) (apn A) a) (p + 1) 1 (nI (apn A + 1))) L := fun b hb => ⟨by rw [up_ne (fun e => hb (Or.inl e)), up_ne (fun e => hb (Or.inr e))], rfl⟩
        refine ⟨_, L, wp_X8_letter hd ⟨fun q => absurd q h1, fun _ => ⟨fun _ => ⟨_, _, _, ca, fun q => absurd q (by decide), fun _ => ⟨by rw [up_eq], rfl⟩⟩, fun q => absurd h2 q⟩⟩, IC_pg h hfr up_eq (fun k hk => ?_), fr_mono hfr (fun b hb => by unfold dX; omega)⟩
        rw [up_ne (by omega)]
        by_cases e : k = apn A
        · rw [e, up_eq, if_pos rfl]
        · rw [up_nk e, if_neg e]; exact h.1.2 k (by omega)
      · rw [if_neg h3]
        have ca : CTi mr_X2_append [.ref (p + 1), .int a] S I L 0 I L := by
          refine wp_X2_append hline ?_
          rw [hl]
          exact ng_f (by omega) ⟨fun q => absurd ((nI_ltI (b := 40) (by omega) (by decide)).mp q) h3, fun _ => ⟨rfl, rfl⟩⟩
        exact ⟨I, L, wp_X8_letter hd ⟨fun q => absurd q h1, fun _ => ⟨fun _ => ⟨_, _, _, ca, fun _ => ⟨rfl, rfl⟩, fun q => absurd rfl q⟩, fun q => absurd h2 q⟩⟩, h, fr_rf⟩
    · rw [if_neg h2]
      exact ⟨I, L, wp_X8_letter hd ⟨fun q => absurd q h1, fun _ => ⟨fun q => absurd q h2, fun _ => ⟨rfl, rfl⟩⟩⟩, h, fr_rf⟩
theorem c_blank (hd : is_Desk S p) (h : IC p A I L) : ∃ I1 L1, CTi mr_X8_blank [.ref p] S I L (sp_blank A).1 I1 L1 ∧ IC p (sp_blank A).2 I1 L1 ∧ fr (dX p) I L I1 L1 := by
  have hfr : fr (fun b => b = p + 1 ∨ b = p + 1 + 1) I L (mj_up I (p + 1) 1 (0 : Int32)) L := fr_I (Or.inl rfl)
  exact ⟨_, L, wp_X8_blank hd (fun y hy => ⟨by rw [hy, h.1.1]; rfl, rfl⟩), IC_pg h hfr (by rw [up_eq]; rfl) (fun k hk => by omega), fr_mono hfr (fun b hb => by unfold dX; omega)⟩
theorem c_forget (hd : is_Desk S p) (h : IC p A I L) : ∃ I1 L1, CTi mr_X8_forget [.ref p] S I L (sp_forget A).1 I1 L1 ∧ IC p (sp_forget A).2 I1 L1 ∧ fr (dX p) I L I1 L1 := by
  have hfr : fr (fun b => b = p + 39) I L (mj_up I (p + 39) 2 (0 : Int32)) L := fr_I rfl
  have hcr := h.2.2.2.1
  refine ⟨_, L, wp_X8_forget hd (fun y hy => ⟨by rw [hy, hcr.2.1]; rfl, rfl⟩), IC_co h (fr_mono hfr (fun b hb => Or.inl ⟨by omega, by omega⟩)) ⟨fun j hj => slR_fr (hcr.1 j hj) hfr (fun b x1 x2 z => by omega), by rw [up_eq]; rfl, fun i hi => by have : i < 0 := hi; omega⟩, fr_mono hfr (fun b hb => by unfold dX; omega)⟩
theorem c_isKind (b : Int32) : CTi mr_X8_isKind [.int b] S I L (if b < 0 then 0 else if 5 ≤ b then 0 else 1) I L := wp_X8_isKind ⟨fun h => ⟨by rw [if_pos h], rfl⟩, fun h => ⟨fun h2 => ⟨by rw [if_neg h, if_pos h2], rfl⟩, fun h2 => ⟨by rw [if_neg h, if_neg h2], rfl⟩⟩⟩
theorem c_as (hd : is_Desk S p) (hA : aOK A) (h : IC p A I L) (a b : Int32) : CTi mr_X8_as [.ref p, .int a, .int b] S I L (sp_as A a b) I L := by
  have hc := c_anySlot hd hA h a
  have hk := c_isKind (S := S) (I := I) (L := L) b
  unfold sp_as
  cases hs : sIdx A a with
  | none =>
    rw [hs] at hc
    exact wp_X8_as hd ⟨_, _, _, hc, fun _ => ⟨rfl, rfl⟩, fun a6 h6 => by cases h6⟩
  | some j =>
    obtain ⟨rfl, h1, h2⟩ := sIdx_some hA hs
    rw [hs] at hc
    have hsl := (h.2.2.2.1.1 j h2).1
    refine wp_X8_as hd ⟨_, _, _, hc, fun h6 => (by cases h6), fun a6 h6 => ?_⟩
    cases h6
    by_cases b1 : b < 0
    · rw [if_pos b1] at hk
      exact ⟨c_slotAt hd h2, _, _, _, hk, fun q => absurd rfl q, fun _ => ⟨by simp only [if_pos b1], rfl⟩⟩
    · rw [if_neg b1] at hk
      by_cases b2 : 5 ≤ b
      · rw [if_pos b2] at hk
        exact ⟨c_slotAt hd h2, _, _, _, hk, fun q => absurd rfl q, fun _ => ⟨by simp only [if_neg b1, if_pos b2], rfl⟩⟩
      · rw [if_neg b2] at hk
        refine ⟨c_slotAt hd h2, _, _, _, hk, fun _ => ⟨fun q => ⟨by simp only [if_neg b1, if_neg b2, if_pos q], rfl⟩, fun q => ?_⟩, fun q => absurd q (by decide)⟩
        rw [hsl]
        exact ⟨fun q2 => ⟨by simp only [if_neg b1, if_neg b2, if_neg q, if_pos q2], rfl⟩, fun q2 => ⟨fun q3 => ⟨by simp only [if_neg b1, if_neg b2, if_neg q, if_neg q2]; rw [if_neg (fun z => q3 z.1)], rfl⟩, fun q3 => ⟨fun q4 => ⟨by simp only [if_neg b1, if_neg b2, if_neg q, if_neg q2]; rw [if_neg (fun z => q4 z.2)], rfl⟩, fun q4 => ⟨by simp only [if_neg b1, if_neg b2, if_neg q, if_neg q2]; rw [if_pos ⟨q3, q4⟩], rfl⟩⟩⟩⟩
theorem c_be (hd : is_Desk S p) (hA : aOK A) (h : IC p A I L) (a b : Int32) : ∃ I1 L1, CTi mr_X8_be [.ref p, .int a, .int b] S I L (sp_be A a b).1 I1 L1 ∧ IC p (sp_be A a b).2 I1 L1 ∧ fr (dX p) I L I1 L1 := by
  have hc := c_anySlot hd hA h a
  have hk := c_isKind (S := S) (I := I) (L := L) b
  unfold sp_be
  cases hs : sIdx A a with
  | none =>
    rw [hs] at hc
    exact ⟨I, L, wp_X8_be hd ⟨_, _, _, hc, fun _ => ⟨rfl, rfl⟩, fun a6 h6 => by cases h6⟩, h, fr_rf⟩
  | some j =>
    obtain ⟨rfl, h1, h2⟩ := sIdx_some hA hs
    rw [hs] at hc
    have hsl := (h.2.2.2.1.1 j h2).1
    by_cases b1 : b < 0
    · rw [if_pos b1] at hk
      simp only [if_pos b1]
      exact ⟨I, L, wp_X8_be hd ⟨_, _, _, hc, fun h6 => (by cases h6), fun a6 h6 => (by cases h6; exact ⟨c_slotAt hd h2, _, _, _, hk, fun q => absurd rfl q, fun _ => ⟨rfl, rfl⟩⟩)⟩, h, fr_rf⟩
    · rw [if_neg b1] at hk
      by_cases b2 : 5 ≤ b
      · rw [if_pos b2] at hk
        simp only [if_neg b1, if_pos b2]
        exact ⟨I, L, wp_X8_be hd ⟨_, _, _, hc, fun h6 => (by cases h6), fun a6 h6 => (by cases h6; exact ⟨c_slotAt hd h2, _, _, _, hk, fun q => absurd rfl q, fun _ => ⟨rfl, rfl⟩⟩)⟩, h, fr_rf⟩
      · rw [if_neg b2] at hk
        simp only [if_neg b1, if_neg b2]
        have hb := in_of (n := 5) (by decide) b1 b2
        obtain ⟨k, hk5, rfl⟩ := vp_in_of hb (by decide)
        have hfr : fr (fun b => b = p + 46 + 32 * j) I L (mj_up I (p + 46 + 32 * j) 2 (nI k)) L := fr_I rfl
        have hcr := h.2.2.2.1
        refine ⟨mj_up I (p + 46 + 32 * j) 2 (nI k), L, wp_X8_be hd ⟨_, _, _, hc, fun h6 => (by cases h6), fun a6 h6 => (by cases h6; exact ⟨c_slotAt hd h2, _, _, _, hk, fun _ y hy => ⟨by rw [hy, hsl], rfl⟩, fun q => absurd q (by decide)⟩)⟩, IC_co h (fr_mono hfr (fun b hb => Or.inr (Or.inl ⟨j, h2, by omega, by omega⟩))) ⟨fun i hi => ?_, ntR_fr hcr.2 hfr (fun b x1 x2 z => by omega)⟩, fr_mono hfr (fun b hb => by unfold dX; omega)⟩
        by_cases e : i = j
        · subst e
          obtain ⟨s1, s2, s3⟩ := hcr.1 i hi
          refine ⟨?_, by rw [up_nk (by decide)]; exact s2, fun hf => ?_⟩
          · show _ = nI (if i = i then (nI k).toNatClampNeg else ck (ac A) i)
            rw [up_eq, if_pos rfl, nI_clamp (by omega)]
          · obtain ⟨t1, t2, t3⟩ := s3 hf
            exact ⟨t1, t2, fRep_fr t3 hfr (fun b hb z => by unfold fX at hb; omega)⟩
        · have := slR_fr (hcr.1 i hi) hfr (fun b x1 x2 z => by omega)
          show slR _ (if i = j then (nI k).toNatClampNeg else ck (ac A) i) _ _ _ _
          rw [if_neg e]; exact this
theorem c_number (hd : is_Desk S p) (hA : aOK A) (h : IC p A I L) (a b : Int32) : CTi mr_X8_number [.ref p, .int a, .int b] S I L (sp_number A a b) I L := by
  have hc := c_filledSlot hd hA h a
  unfold sp_number
  cases hs : fIdx A a with
  | none =>
    rw [hs] at hc
    exact wp_X8_number hd ⟨_, _, _, hc, fun _ => ⟨rfl, rfl⟩, fun a6 h6 => by cases h6⟩
  | some j =>
    obtain ⟨rfl, h1, h2, h3⟩ := fIdx_some hA hs
    rw [hs] at hc
    have hpo := (c_filled h h2 h3).1
    refine wp_X8_number hd ⟨_, _, _, hc, fun h6 => (by cases h6), fun a6 h6 => ?_⟩
    cases h6
    have hsl := c_slotAt hd h2
    refine ⟨hsl, fun b1 => ⟨by simp only [if_pos b1], rfl⟩, fun b1 => ⟨fun b2 => ⟨_, _, _, s_at hsl.2.1 b, ?_, rfl⟩, fun b2 => ⟨by simp only [if_neg b1, if_neg b2], rfl⟩⟩⟩
    simp only [if_neg b1, if_pos b2]
    rw [pat_ext hpo]
theorem c_value (hd : is_Desk S p) (hA : aOK A) (h : IC p A I L) (a b : Int32) : CTl mr_X8_value [.ref p, .int a, .int b] S I L (sp_value A a b) I L := by
  have hc := c_filledSlot hd hA h a
  unfold sp_value
  cases hs : fIdx A a with
  | none =>
    rw [hs] at hc
    exact wp_X8_value hd ⟨_, _, _, hc, fun _ => ⟨rfl, rfl⟩, fun a6 h6 => by cases h6⟩
  | some j =>
    obtain ⟨rfl, h1, h2, h3⟩ := fIdx_some hA hs
    rw [hs] at hc
    have hpo := (c_filled h h2 h3).1
    refine wp_X8_value hd ⟨_, _, _, hc, fun h6 => (by cases h6), fun a6 h6 => ?_⟩
    cases h6
    have hsl := c_slotAt hd h2
    refine ⟨hsl, fun b1 => ⟨by simp only [if_pos b1], rfl⟩, fun b1 => ⟨fun b2 => ⟨_, _, _, s_valueAt hsl.2.1 b, ?_, rfl⟩, fun b2 => ⟨by simp only [if_neg b1, if_neg b2], rfl⟩⟩⟩
    simp only [if_neg b1, if_pos b2]
    rw [hvF_ext hpo 6 (Nat.le_refl _)]
theorem c_factor (hd : is_Desk S p) (hA : aOK A) (h : IC p A I L) (a b c : Int32) : CTi mr_X8_factor [.ref p, .int a, .int b, .int c] S I L (sp_factor A a b c) I L := by
  have hc := c_filledSlot hd hA h a
  unfold sp_factor
  cases hs : fIdx A a with
  | none =>
    rw [hs] at hc
    exact wp_X8_factor hd ⟨_, _, _, hc, fun _ => ⟨rfl, rfl⟩, fun a6 h6 => by cases h6⟩
  | some j =>
    obtain ⟨rfl, h1, h2, h3⟩ := fIdx_some hA hs
    rw [hs] at hc
    obtain ⟨-, -, hR⟩ := c_filled h h2 h3
    have hsl := c_slotAt hd h2
    refine wp_X8_factor hd ⟨_, _, _, hc, fun h6 => (by cases h6), fun a6 h6 => ?_⟩
    cases h6
    by_cases b1 : b < 0
    · exact ⟨hsl, _, _, _, s_baseAt_none hsl.2.2 hR (Or.inl b1), fun _ => ⟨by simp only [if_pos b1], rfl⟩, fun a15 h15 => by cases h15⟩
    · by_cases b2 : nI (fN (gl A j)) ≤ b
      · exact ⟨hsl, _, _, _, s_baseAt_none hsl.2.2 hR (Or.inr b2), fun _ => ⟨by simp only [if_neg b1, if_pos b2], rfl⟩, fun a15 h15 => by cases h15⟩
      · have h5 := hR.2.1
        have hin := in_of (n := fN (gl A j)) (by unfold gl; omega) b1 b2
        obtain ⟨k, hk, rfl⟩ := vp_in_of hin (by unfold gl; omega)
        have hk5 : k < 5 := by unfold gl at hk; omega
        have hrow := (hR.2.2 k hk).1
        have hil : ∀ t, t < 6 → L (p + 46 + 32 * j + 3 + 1 + 2 + 2 * k + 1) t = il (fP (gl A j) k) t := fun t ht => il_of hrow ht
        have ek : (nI k).toNatClampNeg = k := nI_clamp (by omega)
        refine ⟨hsl, _, _, _, s_baseAt hsl.2.2 hR hk, fun h15 => (by cases h15), fun a15 h15 => ?_⟩
        cases h15
        have hpo := hsl.2.2.2.2.2 k hk5
        simp only [if_neg b1, if_neg b2, ek]
        refine ⟨hpo, fun c1 => ⟨by rw [if_pos c1], trivial⟩, fun c1 => ⟨fun c2 => ⟨fun c3 => ⟨fun c4 => ⟨_, _, _, s_at hpo _, ?_, rfl⟩, fun c4 => ⟨_, _, _, s_multAt hsl.2.2 hR hk, ?_, rfl⟩⟩, fun c3 => ⟨_, _, _, s_degree hpo, ?_, rfl⟩⟩, fun c2 => ⟨by rw [if_neg c1, if_neg c2], trivial⟩⟩⟩
        · rw [if_neg c1, if_pos c2, if_neg c3, if_neg c4, pat_ext hil]
        · rw [if_neg c1, if_pos c2, if_neg c3, if_pos c4]; rfl
        · rw [if_neg c1, if_pos c2, if_pos c3, dg_ext hil]
theorem c_filledSlots (hd : is_Desk S p) (hA : aOK A) (h : IC p A I L) : CTi mr_X8_filledSlots [.ref p] S I L (nI (fcn (ac A) (asc A))) I L := by
  have h4 := hA.2.2.1
  refine wp_X8_filledSlots hd ?_
  have key := up_loop (P := fun i => hd_X8_filledSlots_4 S (fun v h => v = some (.int (nI (fcn (ac A) (asc A)))) ∧ h = (S, I, L)) p (nI (fcn (ac A) i)) (nI i) I L) (asc A)
    (it_X8_filledSlots_4 hd (by rw [h.2.1]; exact ge_t (Nat.le_refl _) (by omega) ⟨rfl, rfl⟩))
    (fun i hi ih => it_X8_filledSlots_4 hd (by
      rw [h.2.1]
      have hc := c_filledSlot hd hA h (nI i)
      have e : fIdx A (nI i) = if cf (ac A) i then some i else none := by unfold fIdx; rw [sIdx_nI hA hi]
      have es : fcn (ac A) (i + 1) = fcn (ac A) i + (if cf (ac A) i then 1 else 0) := rfl
      rw [e] at hc
      refine ge_f hi (by omega) ⟨_, _, _, hc, fun hn y hy z hz => ?_, fun a9 h9 => ?_⟩
      · cases hb : cf (ac A) i with
        | true => rw [hb] at hn; cases hn
        | false =>
          rw [hb] at es
          rw [hy, hz, nI_1]
          rw [es] at ih
          show hd_X8_filledSlots_4 S _ p (nI (fcn (ac A) i) + nI 0) _ I L
          rw [nI_add]; exact ih
      · cases hb : cf (ac A) i with
        | false => rw [hb] at h9; cases h9
        | true =>
          rw [hb] at h9 es
          cases h9
          refine ⟨c_slotAt hd (by omega), fun y hy z hz => ?_⟩
          rw [hy, hz, nI_1, nI_1]
          rw [es] at ih
          exact ih))
  exact key 0 (Nat.zero_le _)
end
