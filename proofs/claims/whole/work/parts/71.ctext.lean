/-! TEXTS: what a polynomial is spelt like; the class -/
variable {S : List mjD} {I : Nat → Nat → Int32} {L : Nat → Nat → Int64}
def tsg (c : Int64) (fs : Bool) : List Int32 := if 0 ≤ c then (if fs then [] else [43]) else [45]
def tdw (n w : Nat) : List Int32 := if n < w then [] else [nI (48 + n / w % 10)]
def tdg (n : Nat) : List Int32 := tdw n 100 ++ tdw n 10 ++ tdw n 1
def tpw (k : Nat) : List Int32 := (if k < 1 then [] else [120]) ++ (if k < 2 then [] else [94, nI (48 + k)])
def tmn (n k : Nat) : List Int32 := if n = 1 ∧ 1 ≤ k then [] else tdg n
def term (c : Int64) (k : Nat) (fs : Bool) : List Int32 := tsg c fs ++ tmn c.toInt.natAbs k ++ tpw k
/-- the text from the place k downwards -/
def txt (f : Nat → Int64) : Nat → List Int32 → List Int32
  | 0, l => l
  | k + 1, l => txt f k (if f k = 0 then l else l ++ term (f k) k l.isEmpty)
def tx (f : Nat → Int64) : List Int32 := txt f 6 []
theorem tdw_l {n w : Nat} : (tdw n w).length ≤ 1 := by unfold tdw; by_cases c : n < w <;> simp [c]
theorem tpw_0 : (tpw 0).length = 0 := rfl
theorem tpw_1 : (tpw 1).length = 1 := rfl
theorem tpw_2 (k : Nat) : (tpw (k + 2)).length = 3 := by
  unfold tpw
  rw [if_neg (by omega), if_neg (by omega)]; rfl
theorem tmn_l {n k : Nat} : (tmn n k).length ≤ 3 := by
  unfold tmn
  by_cases c : n = 1 ∧ 1 ≤ k
  · rw [if_pos c]; exact Nat.zero_le _
  · rw [if_neg c]
    unfold tdg
    have h1 := @tdw_l n 100
    have h2 := @tdw_l n 10
    have h3 := @tdw_l n 1
    rw [List.length_append, List.length_append]; omega
theorem tsg_l {c : Int64} {fs : Bool} : (tsg c fs).length ≤ 1 := by
  unfold tsg
  by_cases h : 0 ≤ c
  · rw [if_pos h]; cases fs <;> simp
  · rw [if_neg h]; simp
/-- what may still come after the places from k on -/
def tbd : Nat → Nat
  | 0 => 0
  | 1 => 4
  | k + 2 => 9 + 7 * k
theorem term_l {c : Int64} {k : Nat} {fs : Bool} : (term c k fs).length + tbd k ≤ tbd (k + 1) := by
  unfold term
  have h1 := @tsg_l c fs
  have h2 := @tmn_l c.toInt.natAbs k
  rw [List.length_append, List.length_append]
  match k with
  | 0 => rw [tpw_0]; show _ + 0 + 0 ≤ 4; omega
  | 1 => rw [tpw_1]; show _ + 1 + 4 ≤ 9; omega
  | k + 2 => rw [tpw_2]; show _ + 3 + (9 + 7 * k) ≤ 9 + 7 * (k + 1); omega
theorem tbd_mono {k : Nat} : tbd k ≤ tbd (k + 1) := by
  have := @term_l 0 k true
  omega
theorem txt_l (f : Nat → Int64) : ∀ k l, (txt f k l).length ≤ l.length + tbd k
  | 0, l => Nat.le_add_right _ _
  | k + 1, l => by
    rw [txt]
    by_cases c : f k = 0
    · rw [if_pos c]
      have := txt_l f k l
      have := @tbd_mono k
      omega
    · rw [if_neg c]
      have h1 := txt_l f k (l ++ term (f k) k l.isEmpty)
      have h2 := @term_l (f k) k l.isEmpty
      rw [List.length_append] at h1
      omega
theorem tx_l (f : Nat → Int64) : (tx f).length ≤ 37 := by
  have := txt_l f 6 []
  exact this
theorem txt_ext {f g : Nat → Int64} : ∀ k l, (∀ t, t < k → f t = g t) → txt f k l = txt g k l
  | 0, _, _ => rfl
  | k + 1, l, h => by rw [txt, txt, h k (by omega), txt_ext k _ (fun t ht => h t (by omega))]
/-- a line holds l -/
def lnR (q : Nat) (l : List Int32) (I : Nat → Nat → Int32) : Prop := I q 1 = nI l.length ∧ ∀ k, k < l.length → I (q + 1) k = l.getD k 0
def lX (q b : Nat) : Prop := b = q ∨ b = q + 1
theorem lX_tr {q : Nat} {I1 I2 : Nat → Nat → Int32} {L1 L2 : Nat → Nat → Int64} (h : fr (lX q) I L I1 L1) (h2 : fr (lX q) I1 L1 I2 L2) : fr (lX q) I L I2 L2 := fr_tr h h2 (fun b hb => hb.elim id id)
theorem get_app {l : List Int32} {a : Int32} {k : Nat} (h : k < l.length + 1) : (l ++ [a]).getD k 0 = if k = l.length then a else l.getD k 0 := by
  rw [List.getD_eq_getElem?_getD, List.getD_eq_getElem?_getD]
  by_cases c : k = l.length
  · subst c; simp
  · rw [if_neg c, List.getElem?_append_left (by omega)]
section
variable {q p : Nat}
theorem s_append {l : List Int32} (hq : is_Line S q) (h : lnR q l I) (hl : l.length < 40) (a : Int32) : ∃ I1, CTi mr_X2_append [.ref q, .int a] S I L 1 I1 L ∧ lnR q (l ++ [a]) I1 ∧ fr (lX q) I L I1 L := by
  obtain ⟨h1, h2⟩ := h
  have n1 : q ≠ q + 1 := by omega
  refine ⟨mj_up (mj_up I (q + 1) l.length a) q 1 (nI (l.length + 1)), wp_X2_append hq ?_, ⟨?_, fun k hk => ?_⟩, fun b hb => ⟨by rw [up_ne (fun e => hb (Or.inl e)), up_ne (fun e => hb (Or.inr e))], rfl⟩⟩
  · rw [h1]
    refine ng_f (by omega) ⟨fun _ => ⟨vp_in_nI hl (by decide), rfl, ?_⟩, fun z => absurd ((nI_ltI (b := 40) (by omega) (by decide)).mpr hl) z⟩
    rw [nI_clamp (by omega), up_ne n1, h1, nI_1]
  · rw [up_eq, List.length_append]; rfl
  · rw [List.length_append, List.length_singleton] at hk
    rw [get_app hk, up_ne (by omega)]
    by_cases c : k = l.length
    · rw [if_pos c, c, up_eq]
    · rw [if_neg c, up_nk c]; exact h2 k (by omega)
theorem s_power {l : List Int32} {k : Nat} (hq : is_Line S q) (h : lnR q l I) (hl : l.length + (tpw k).length ≤ 40) (hk : k < 6) : ∃ I1, lnR q (l ++ tpw k) I1 ∧ fr (lX q) I L I1 L ∧ ∀ RET : Option Value → mjH → Prop, RET none (S, I1, L) →
    ((nI k < (1 : Int32) → ((nI k < (2 : Int32) → RET none (S, I, L)) ∧ (¬ nI k < (2 : Int32) → ∃ r57 I58 L59, CTi mr_X2_append [.ref q, .int (94 : Int32)] S I L r57 I58 L59 ∧ ∃ r62 I63 L64, CTi mr_X2_append [.ref q, .int ((48 : Int32) + nI k)] S I58 L59 r62 I63 L64 ∧ RET none (S, I63, L64)))) ∧ (¬ nI k < (1 : Int32) → ∃ r68 I69 L70, CTi mr_X2_append [.ref q, .int (120 : Int32)] S I L r68 I69 L70 ∧ ((nI k < (2 : Int32) → RET none (S, I69, L70)) ∧ (¬ nI k < (2 : Int32) → ∃ r76 I77 L78, CTi mr_X2_append [.ref q, .int (94 : Int32)] S I69 L70 r76 I77 L78 ∧ ∃ r81 I82 L83, CTi mr_X2_append [.ref q, .int ((48 : Int32) + nI k)] S I77 L78 r81 I82 L83 ∧ RET none (S, I82, L83))))) := by
  have e1 : nI k < (1 : Int32) ↔ k < 1 := nI_ltI (b := 1) (by omega) (by decide)
  have e2 : nI k < (2 : Int32) ↔ k < 2 := nI_ltI (b := 2) (by omega) (by decide)
  have e48 : (48 : Int32) + nI k = nI (48 + k) := nI_add 48 k
  unfold tpw at *
  by_cases c1 : k < 1
  · rw [if_pos c1, if_pos (show k < 2 by omega)] at *
    exact ⟨I, by simpa using h, fr_rf, fun RET hr => ⟨fun _ => ⟨fun _ => hr, fun z => absurd (e2.mpr (by omega)) z⟩, fun z => absurd (e1.mpr c1) z⟩⟩
  · rw [if_neg c1] at *
    by_cases c2 : k < 2
    · rw [if_pos c2] at *
      obtain ⟨I1, a1, a2, a3⟩ := s_append (S := S) (L := L) hq h (by simp at hl; omega) 120
      exact ⟨I1, by simpa using a2, a3, fun RET hr => ⟨fun z => absurd (e1.mp z) c1, fun _ => ⟨_, _, _, a1, fun _ => hr, fun z => absurd (e2.mpr c2) z⟩⟩⟩
    · rw [if_neg c2] at *
      obtain ⟨I1, a1, a2, a3⟩ := s_append (S := S) (L := L) hq h (by simp at hl; omega) 120
      obtain ⟨I2, b1, b2, b3⟩ := s_append (S := S) (L := L) hq a2 (by simp at hl ⊢; omega) 94
      obtain ⟨I3, d1, d2, d3⟩ := s_append (S := S) (L := L) hq b2 (by simp at hl ⊢; omega) (nI (48 + k))
      refine ⟨I3, by simpa using d2, lX_tr (lX_tr a3 b3) d3, fun RET hr => ⟨fun z => absurd (e1.mp z) c1, fun _ => ⟨_, _, _, a1, fun z => absurd (e2.mp z) c2, fun _ => ⟨_, _, _, b1, _, _, _, by rw [e48]; exact d1, hr⟩⟩⟩⟩
end
