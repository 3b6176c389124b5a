/-! THE STATE of a desk, apart from how it is held; the class's and the reference's pictures of it -/
variable {S : List mjD} {I : Nat → Nat → Int32} {L : Nat → Nat → Int64}
/-- kinds, filled, coefficients; how many observations, of which slot, what, could -/
abbrev aC : Type := (Nat → Nat) × (Nat → Bool) × (Nat → Nat → Int64) × Nat × (Nat → Nat) × (Nat → Nat) × (Nat → Bool)
def ck (c : aC) : Nat → Nat := c.1
def cf (c : aC) : Nat → Bool := c.2.1
def cp (c : aC) : Nat → Nat → Int64 := c.2.2.1
def cn (c : aC) : Nat := c.2.2.2.1
def cs (c : aC) : Nat → Nat := c.2.2.2.2.1
def cw (c : aC) : Nat → Nat := c.2.2.2.2.2.1
def cb (c : aC) : Nat → Bool := c.2.2.2.2.2.2
/-- the page, the slots, desks read, what is held, the image's desk, the image -/
abbrev aS : Type := Nat × (Nat → Int32) × Nat × Nat × aC × Nat × aC
def apn (A : aS) : Nat := A.1
def apc (A : aS) : Nat → Int32 := A.2.1
def asc (A : aS) : Nat := A.2.2.1
def adk (A : aS) : Nat := A.2.2.2.1
def ac (A : aS) : aC := A.2.2.2.2.1
def asd (A : aS) : Nat := A.2.2.2.2.2.1
def asv (A : aS) : aC := A.2.2.2.2.2.2
def cOK (c : aC) : Prop := (∀ j, j < 4 → ck c j < 5 ∧ (cf c j = true → okp (cp c j))) ∧ cn c ≤ 6 ∧ ∀ i, i < cn c → cs c i < 4 ∧ cw c i < 4
def aOK (A : aS) : Prop := apn A ≤ 40 ∧ (∀ k, k < apn A → ∃ n, 32 ≤ n ∧ n ≤ 126 ∧ apc A k = nI n) ∧ asc A ≤ 4 ∧ (asc A ≠ 0 → adk A ≠ 0) ∧ cOK (ac A) ∧ (asd A ≠ 0 → cOK (asv A)) ∧ asd A ≤ adk A ∧ adk A < 2 ^ 30
/-- the kinds with which an observation is true -/
def tw (w : Nat) (b : Bool) : Int32 := if b then (mj_st 1000003).getD w 0 else (mj_st 1000003).getD w 0 ^^^ (-1)
def bI (b : Bool) : Int32 := if b then 1 else 0
theorem bI_0 {b : Bool} : bI b = 0 ↔ b = false := by cases b <;> simp [bI]
/-- a slot of the class -/
def slR (p k : Nat) (f : Bool) (q : Nat → Int64) (I : Nat → Nat → Int32) (L : Nat → Nat → Int64) : Prop :=
  I p 2 = nI k ∧ I p 3 = bI f ∧ (f = true → (∀ t, t < 6 → L (p + 1 + 1) t = q t) ∧ isF (rl (pp q)) (fN (rl (pp q))) (fP (rl (pp q))) (fM (rl (pp q))) ∧ fRep (p + 3) (fN (rl (pp q))) (fP (rl (pp q))) (fM (rl (pp q))) I L)
def ntR (p : Nat) (c : aC) (I : Nat → Nat → Int32) : Prop := I p 2 = nI (cn c) ∧ ∀ i, i < cn c → I (p + 1) i = nI (cs c i) ∧ I (p + 2) i = tw (cw c i) (cb c i)
def cR (ps pn : Nat) (c : aC) (I : Nat → Nat → Int32) (L : Nat → Nat → Int64) : Prop := (∀ j, j < 4 → slR (ps + 32 * j) (ck c j) (cf c j) (cp c j) I L) ∧ ntR pn c I
/-- the class's picture -/
def IC (p : Nat) (A : aS) (I : Nat → Nat → Int32) (L : Nat → Nat → Int64) : Prop :=
  (I (p + 1) 1 = nI (apn A) ∧ ∀ k, k < apn A → I (p + 1 + 1) k = apc A k) ∧ I p 10 = nI (asc A) ∧ I p 11 = nI (adk A) ∧ cR (p + 46) (p + 39) (ac A) I L ∧ I p 14 = nI (asd A) ∧ (asd A ≠ 0 → cR (p + 62) (p + 43) (asv A) I L)
/-- the reference's picture of slots and observations, from given rows -/
def mR (n1 n2 n3 n4 n5 n6 : Nat) (sn : Int32) (c : aC) (I : Nat → Nat → Int32) (L : Nat → Nat → Int64) : Prop :=
  (∀ j, j < 4 → I n1 j = nI (ck c j) ∧ (cf c j = false → I n3 j = -1) ∧ (cf c j = true → I n3 j = dg (cp c j) ∧ ∀ t, t < 6 → L n2 (6 * j + t) = cp c j t)) ∧ sn = nI (cn c) ∧ ∀ i, i < cn c → I n4 i = nI (cs c i) ∧ I n5 i = nI (cw c i) ∧ I n6 i = bI (cb c i)
/-- the reference's picture -/
def IM (m : Nat) (A : aS) (I : Nat → Nat → Int32) (L : Nat → Nat → Int64) : Prop :=
  (I m 9 = nI (apn A) ∧ ∀ k, k < apn A → I (m + 7) k = apc A k) ∧ I m 1 = nI (asc A) ∧ I m 0 = nI (adk A) ∧ mR (m + 1) (m + 2) (m + 3) (m + 4) (m + 5) (m + 6) (I m 5) (ac A) I L ∧ I m 48 = bI (decide (asd A ≠ 0)) ∧ (asd A ≠ 0 → I m 49 = nI (asd A) ∧ mR (m + 27) (m + 29) (m + 28) (m + 30) (m + 31) (m + 32) (I m 50) (asv A) I L) ∧ mCache m I L
def dX (p b : Nat) : Prop := p ≤ b ∧ b < p + 174
/-- the class's scratch -/
def scX (p b : Nat) : Prop := p + 3 ≤ b ∧ b < p + 38
theorem slR_fr {p k : Nat} {f : Bool} {q : Nat → Int64} {X : Nat → Prop} {I1 : Nat → Nat → Int32} {L1 : Nat → Nat → Int64} (h : slR p k f q I L) (hf : fr X I L I1 L1) (hX : ∀ b, p ≤ b → b < p + 16 → ¬ X b) : slR p k f q I1 L1 := by
  obtain ⟨h1, h2, h3⟩ := h
  have e := hf p (hX p (by omega) (by omega))
  refine ⟨by rw [e.1]; exact h1, by rw [e.1]; exact h2, fun hf2 => ?_⟩
  obtain ⟨a1, a2, a3⟩ := h3 hf2
  exact ⟨fun t ht => by rw [(hf (p + 1 + 1) (hX _ (by omega) (by omega))).2]; exact a1 t ht, a2, fRep_fr a3 hf (fun b hb => hX b (by unfold fX at hb; omega) (by unfold fX at hb; omega))⟩
theorem ntR_fr {p : Nat} {c : aC} {X : Nat → Prop} {I1 : Nat → Nat → Int32} {L1 : Nat → Nat → Int64} (h : ntR p c I) (hf : fr X I L I1 L1) (hX : ∀ b, p ≤ b → b < p + 3 → ¬ X b) : ntR p c I1 := by
  obtain ⟨h1, h2⟩ := h
  refine ⟨by rw [(hf p (hX p (by omega) (by omega))).1]; exact h1, fun i hi => ?_⟩
  rw [(hf (p + 1) (hX _ (by omega) (by omega))).1, (hf (p + 2) (hX _ (by omega) (by omega))).1]
  exact h2 i hi
theorem cR_fr {ps pn : Nat} {c : aC} {X : Nat → Prop} {I1 : Nat → Nat → Int32} {L1 : Nat → Nat → Int64} (h : cR ps pn c I L) (hf : fr X I L I1 L1) (hX : ∀ j b, j < 4 → ps + 32 * j ≤ b → b < ps + 32 * j + 16 → ¬ X b) (hX2 : ∀ b, pn ≤ b → b < pn + 3 → ¬ X b) : cR ps pn c I1 L1 :=
  ⟨fun j hj => slR_fr (h.1 j hj) hf (fun b => hX j b hj), ntR_fr h.2 hf hX2⟩
theorem IC_fr {p : Nat} {A : aS} {X : Nat → Prop} {I1 : Nat → Nat → Int32} {L1 : Nat → Nat → Int64} (h : IC p A I L) (hf : fr X I L I1 L1) (hX : ∀ b, (b = p ∨ b = p + 1 ∨ b = p + 1 + 1 ∨ (p + 39 ≤ b ∧ b < p + 174)) → ¬ X b) : IC p A I1 L1 := by
  obtain ⟨⟨h1, h2⟩, h3, h4, h5, h6, h7⟩ := h
  have e0 := (hf p (hX p (Or.inl rfl))).1
  refine ⟨⟨by rw [(hf (p + 1) (hX _ (Or.inr (Or.inl rfl)))).1]; exact h1, fun k hk => by rw [(hf (p + 1 + 1) (hX _ (Or.inr (Or.inr (Or.inl rfl))))).1]; exact h2 k hk⟩, by rw [e0]; exact h3, by rw [e0]; exact h4, cR_fr h5 hf (fun j b hj h1 h2 => hX b (Or.inr (Or.inr (Or.inr ⟨by omega, by omega⟩)))) (fun b h1 h2 => hX b (Or.inr (Or.inr (Or.inr ⟨by omega, by omega⟩)))), by rw [e0]; exact h6, fun h => cR_fr (h7 h) hf (fun j b hj h1 h2 => hX b (Or.inr (Or.inr (Or.inr ⟨by omega, by omega⟩)))) (fun b h1 h2 => hX b (Or.inr (Or.inr (Or.inr ⟨by omega, by omega⟩))))⟩
theorem IC_sc {p : Nat} {A : aS} {I1 : Nat → Nat → Int32} {L1 : Nat → Nat → Int64} (h : IC p A I L) (hf : fr (scX p) I L I1 L1) : IC p A I1 L1 := IC_fr h hf (fun b hb z => by unfold scX at z; omega)
/-- which slot is meant -/
def sIdx (A : aS) (a : Int32) : Option Nat := if a < 0 then none else if nI (asc A) ≤ a then none else some a.toNatClampNeg
theorem sIdx_some {A : aS} (hA : aOK A) {a : Int32} {j : Nat} (h : sIdx A a = some j) : a = nI j ∧ j < asc A ∧ j < 4 := by
  unfold sIdx at h
  have h4 := hA.2.2.1
  by_cases h1 : a < 0
  · rw [if_pos h1] at h; cases h
  · rw [if_neg h1] at h
    by_cases h2 : nI (asc A) ≤ a
    · rw [if_pos h2] at h; cases h
    · rw [if_neg h2] at h
      cases h
      have := in_of (n := asc A) (by omega) h1 h2
      obtain ⟨k, hk, rfl⟩ := vp_in_of this (by omega)
      rw [nI_clamp (by omega)]
      exact ⟨rfl, hk, by omega⟩
theorem sIdx_none {A : aS} {a : Int32} (h : sIdx A a = none) : a < 0 ∨ nI (asc A) ≤ a := by
  unfold sIdx at h
  by_cases h1 : a < 0
  · exact Or.inl h1
  · rw [if_neg h1] at h
    by_cases h2 : nI (asc A) ≤ a
    · exact Or.inr h2
    · rw [if_neg h2] at h; cases h
theorem sIdx_nI {A : aS} (hA : aOK A) {j : Nat} (h : j < asc A) : sIdx A (nI j) = some j := by
  have h4 := hA.2.2.1
  unfold sIdx
  rw [if_neg (nI_pos (by omega)), if_neg (fun q => absurd ((nI_leI (by omega) (by omega)).mp q) (by omega)), nI_clamp (by omega)]
def fIdx (A : aS) (a : Int32) : Option Nat := match sIdx A a with
  | none => none
  | some j => if cf (ac A) j then some j else none
theorem fIdx_some {A : aS} (hA : aOK A) {a : Int32} {j : Nat} (h : fIdx A a = some j) : a = nI j ∧ j < asc A ∧ j < 4 ∧ cf (ac A) j = true := by
  unfold fIdx at h
  cases hs : sIdx A a with
  | none => rw [hs] at h; cases h
  | some k =>
    rw [hs] at h
    obtain ⟨a1, a2, a3⟩ := sIdx_some hA hs
    by_cases hc : cf (ac A) k = true
    · simp only [hc, if_true] at h
      cases h
      exact ⟨a1, a2, a3, hc⟩
    · simp only [hc] at h; cases h
section
variable {p : Nat} {A : aS}
theorem c_anySlot (hd : is_Desk S p) (hA : aOK A) (h : IC p A I L) (a : Int32) : CTq mr_X8_anySlot [.ref p, .int a] S I L ((sIdx A a).map (fun j => p + 46 + 32 * j)) I L := by
  cases hs : sIdx A a with
  | none =>
    refine wp_X8_anySlot hd ⟨fun _ => ⟨rfl, rfl⟩, fun h1 => ?_⟩
    rw [h.2.1]
    exact ⟨fun _ => ⟨rfl, rfl⟩, fun h2 => by rcases sIdx_none hs with q | q <;> contradiction⟩
  | some j =>
    obtain ⟨rfl, h1, h2⟩ := sIdx_some hA hs
    have h4 := hA.2.2.1
    refine wp_X8_anySlot hd (ng_f (by omega) ?_)
    rw [h.2.1]
    refine ge_f h1 (by omega) (ge_f (k := 4) h2 (by decide) ⟨vp_in_nI h2 (by decide), ?_, rfl⟩)
    rw [nI_clamp (by omega)]; rfl
theorem c_slotAt {j : Nat} (hd : is_Desk S p) (hj : j < 4) : is_Slot S (p + 46 + 32 * j) := hd.2.2.2.2.2.2.2.2.2.2.2.2.2.1 j hj
theorem c_filledSlot (hd : is_Desk S p) (hA : aOK A) (h : IC p A I L) (a : Int32) : CTq mr_X8_filledSlot [.ref p, .int a] S I L ((fIdx A a).map (fun j => p + 46 + 32 * j)) I L := by
  have hc := c_anySlot hd hA h a
  cases hs : sIdx A a with
  | none =>
    have e : fIdx A a = none := by unfold fIdx; rw [hs]
    rw [hs] at hc
    rw [e]
    exact wp_X8_filledSlot hd ⟨_, _, _, hc, fun _ => ⟨rfl, rfl⟩, fun a6 h6 => by cases h6⟩
  | some j =>
    obtain ⟨ha, h1, h2⟩ := sIdx_some hA hs
    rw [hs] at hc
    have hsl := (h.2.2.2.1.1 j h2).2.1
    cases hb : cf (ac A) j with
    | false =>
      have e : fIdx A a = none := by unfold fIdx; rw [hs]; simp [hb]
      rw [e]
      refine wp_X8_filledSlot hd ⟨_, _, _, hc, fun h6 => (by cases h6), fun a6 h6 => ?_⟩
      cases h6
      exact ⟨c_slotAt hd h2, fun _ => ⟨rfl, rfl⟩, fun h0 => absurd (by rw [hsl, hb]; rfl) h0⟩
    | true =>
      have e : fIdx A a = some j := by unfold fIdx; rw [hs]; simp [hb]
      rw [e]
      refine wp_X8_filledSlot hd ⟨_, _, _, hc, fun h6 => (by cases h6), fun a6 h6 => ?_⟩
      cases h6
      exact ⟨c_slotAt hd h2, fun h0 => absurd (by rw [hsl, hb] at h0; exact h0) (by decide), fun _ => ⟨rfl, rfl⟩⟩
theorem c_filled {j : Nat} (h : IC p A I L) (hj : j < 4) (hf : cf (ac A) j = true) : (∀ t, t < 6 → L (p + 46 + 32 * j + 1 + 1) t = cp (ac A) j t) ∧ isF (rl (pp (cp (ac A) j))) (fN (rl (pp (cp (ac A) j)))) (fP (rl (pp (cp (ac A) j)))) (fM (rl (pp (cp (ac A) j)))) ∧ fRep (p + 46 + 32 * j + 3) (fN (rl (pp (cp (ac A) j)))) (fP (rl (pp (cp (ac A) j)))) (fM (rl (pp (cp (ac A) j)))) I L := (h.2.2.2.1.1 j hj).2.2 hf
end
