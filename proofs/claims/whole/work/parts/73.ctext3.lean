/-! TEXTS: the class's texts -/
variable {S : List mjD} {I : Nat → Nat → Int32} {L : Nat → Nat → Int64}
/-- a code of a text -/
def tok (x : Int32) : Prop := ∃ n, 1 ≤ n ∧ n < 128 ∧ x = nI n
theorem tok_tdw {n w : Nat} : ∀ x ∈ tdw n w, tok x := fun x hx => by
  unfold tdw at hx
  by_cases c : n < w
  · rw [if_pos c] at hx; cases hx
  · rw [if_neg c, List.mem_singleton] at hx
    exact ⟨_, by omega, by omega, hx⟩
theorem tok_term {c : Int64} {k : Nat} {fs : Bool} (hk : k < 6) : ∀ x ∈ term c k fs, tok x := fun x hx => by
  unfold term at hx
  rcases List.mem_append.mp hx with hx | hx
  · rcases List.mem_append.mp hx with hx | hx
    · unfold tsg at hx
      by_cases c0 : 0 ≤ c
      · rw [if_pos c0] at hx
        cases fs with
        | true => cases hx
        | false => exact ⟨43, by decide, by decide, List.mem_singleton.mp hx⟩
      · rw [if_neg c0] at hx
        exact ⟨45, by decide, by decide, List.mem_singleton.mp hx⟩
    · unfold tmn at hx
      by_cases c1 : c.toInt.natAbs = 1 ∧ 1 ≤ k
      · rw [if_pos c1] at hx; cases hx
      · rw [if_neg c1] at hx
        unfold tdg at hx
        rcases List.mem_append.mp hx with hx | hx
        · rcases List.mem_append.mp hx with hx | hx
          · exact tok_tdw x hx
          · exact tok_tdw x hx
        · exact tok_tdw x hx
  · unfold tpw at hx
    rcases List.mem_append.mp hx with hx | hx
    · by_cases c1 : k < 1
      · rw [if_pos c1] at hx; cases hx
      · rw [if_neg c1] at hx
        exact ⟨120, by decide, by decide, List.mem_singleton.mp hx⟩
    · by_cases c1 : k < 2
      · rw [if_pos c1] at hx; cases hx
      · rw [if_neg c1] at hx
        rcases List.mem_cons.mp hx with hx | hx
        · exact ⟨94, by decide, by decide, hx⟩
        · exact ⟨48 + k, by omega, by omega, List.mem_singleton.mp hx⟩
theorem tok_txt (f : Nat → Int64) : ∀ k l, k ≤ 6 → (∀ x ∈ l, tok x) → ∀ x ∈ txt f k l, tok x
  | 0, _, _, h => h
  | k + 1, l, hk, h => by
    rw [txt]
    refine tok_txt f k _ (by omega) ?_
    by_cases c : f k = 0
    · rw [if_pos c]; exact h
    · rw [if_neg c]
      intro x hx
      rcases List.mem_append.mp hx with hx | hx
      · exact h x hx
      · exact tok_term (by omega) x hx
theorem tok_tx {f : Nat → Int64} {k : Nat} (hk : k < (tx f).length) : tok ((tx f).getD k 0) := by
  have : (tx f).getD k 0 ∈ tx f := by
    rw [List.getD_eq_getElem?_getD, List.getElem?_eq_getElem hk]
    exact List.getElem_mem hk
  exact tok_txt f 6 [] (Nat.le_refl _) (fun x hx => by cases hx) _ this
def sp_text (A : aS) (a b : Int32) : Int32 := match fIdx A a with
  | none => -101
  | some j => if b < 0 then -101 else if nI (tx (cp (ac A) j)).length ≤ b then -101 else (tx (cp (ac A) j)).getD b.toNatClampNeg 0
section
variable {q p : Nat} {A : aS}
theorem s_spell (hp : is_Poly S p) (hq : is_Line S q) (hf : bnd6 (L (p + 1)) 999) : ∃ I1, CTv mr_X5_spell [.ref p, .ref q] S I L I1 L ∧ lnR q (tx (L (p + 1))) I1 ∧ fr (lX q) I L I1 L := by
  have key : ∀ k, k ≤ 6 → ∀ l I, lnR q l I → l.length + tbd k ≤ 37 → ∃ I1, lnR q (txt (L (p + 1)) k l) I1 ∧ fr (lX q) I L I1 L ∧ hd_X5_spell_7 S (fun v h => v = none ∧ h = (S, I1, L)) p q (nI k + (-1)) I L := by
    intro k
    induction k with
    | zero => exact fun _ l I h _ => ⟨I, h, fr_rf, it_X5_spell_7 hp hq (ng_t (by decide) ⟨rfl, rfl⟩)⟩
    | succ k ih =>
      intro hk l I h hl
      have hb := @tbd_mono k
      have h4 : 4 ≤ tbd (k + 1) := by
        match k with
        | 0 => exact Nat.le_refl _
        | k + 1 => show 4 ≤ 9 + 7 * k; omega
      rw [pk_m1, txt]
      by_cases c : L (p + 1) k = 0
      · rw [if_pos c]
        obtain ⟨I1, a1, a2, a3⟩ := ih (by omega) l I h (by omega)
        refine ⟨I1, a1, a2, it_X5_spell_7 hp hq (ng_f (by omega) ⟨vp_in_nI (by omega) (by decide), ?_⟩)⟩
        rw [nI_clamp (by omega)]
        exact ⟨fun _ y hy => by rw [hy]; exact a3, fun z => absurd c z⟩
      · rw [if_neg c]
        obtain ⟨I0, b1, b2, b3⟩ := s_spellTerm (S := S) (L := L) (c := L (p + 1) k) (k := k) hq h (by omega) (hf k (by omega)) (by omega)
        have ht := @term_l (L (p + 1) k) k l.isEmpty
        obtain ⟨I1, a1, a2, a3⟩ := ih (by omega) _ I0 b2 (by rw [List.length_append]; omega)
        refine ⟨I1, a1, lX_tr b3 a2, it_X5_spell_7 hp hq (ng_f (by omega) ⟨vp_in_nI (by omega) (by decide), ?_⟩)⟩
        rw [nI_clamp (by omega)]
        exact ⟨fun z => absurd z c, fun _ => ⟨vp_in_nI (by omega) (by decide), _, _, b1, fun y hy => by rw [hy]; exact a3⟩⟩
  have h0 : lnR q [] (mj_up I q 1 (0 : Int32)) := ⟨up_eq, fun k hk => absurd hk (Nat.not_lt_zero _)⟩
  obtain ⟨I1, a1, a2, a3⟩ := key 6 (Nat.le_refl _) [] _ h0 (by decide)
  exact ⟨I1, wp_X5_spell hp hq a3, a1, fun b hb => ⟨by rw [(a2 b hb).1, up_ne (fun e => hb (Or.inl e))], rfl⟩⟩
theorem lX_sc {I1 : Nat → Nat → Int32} {L1 : Nat → Nat → Int64} (h : fr (lX (p + 3)) I L I1 L1) : fr (scX p) I L I1 L1 := fun b hb => h b (fun z => hb (by unfold lX at z; unfold scX; omega))
theorem txt_eq {f g : Nat → Int64} (h : ∀ t, t < 6 → f t = g t) : tx f = tx g := txt_ext 6 [] h
theorem c_spell {j : Nat} (hd : is_Desk S p) (hA : aOK A) (h : IC p A I L) (hj : j < 4) (hf : cf (ac A) j = true) : ∃ I1, CTv mr_X5_spell [.ref (p + 46 + 32 * j + 1), .ref (p + 3)] S I L I1 L ∧ lnR (p + 3) (tx (cp (ac A) j)) I1 ∧ fr (scX p) I L I1 L := by
  obtain ⟨pi, -, -⟩ := c_filled h hj hf
  have oi := (hA.2.2.2.2.1.1 j hj).2 hf
  obtain ⟨I1, a1, a2, a3⟩ := s_spell (S := S) (I := I) (L := L) (c_slotAt hd hj).2.1 hd.2.2.1 (fun k hk => by rw [pi k hk]; exact oi.1 k hk)
  rw [txt_eq pi] at a2
  exact ⟨I1, a1, a2, lX_sc a3⟩
theorem c_textLength {j : Nat} (hd : is_Desk S p) (hA : aOK A) (h : IC p A I L) (hj : j < 4) : ∃ I1, CTi mr_X8_textLength [.ref p, .ref (p + 46 + 32 * j)] S I L (if cf (ac A) j then nI (tx (cp (ac A) j)).length else 0) I1 L ∧ fr (scX p) I L I1 L := by
  have hsl := c_slotAt hd hj
  have h3 := (h.2.2.2.1.1 j hj).2.1
  cases hf : cf (ac A) j with
  | false =>
    rw [hf] at h3
    exact ⟨I, wp_X8_textLength hd hsl ⟨fun z => absurd h3 z, fun _ => ⟨rfl, rfl⟩⟩, fr_rf⟩
  | true =>
    rw [hf] at h3
    obtain ⟨I1, a1, a2, a3⟩ := c_spell hd hA h hj hf
    exact ⟨I1, wp_X8_textLength hd hsl ⟨fun _ => ⟨_, _, a1, by rw [a2.1]; rfl, rfl⟩, fun z => absurd (h3.symm.trans z) (by decide)⟩, a3⟩
theorem c_text (hd : is_Desk S p) (hA : aOK A) (h : IC p A I L) (a b : Int32) : ∃ I1, CTi mr_X8_text [.ref p, .int a, .int b] S I L (sp_text A a b) I1 L ∧ fr (scX p) I L I1 L := by
  have hc := c_filledSlot hd hA h a
  unfold sp_text
  cases hs : fIdx A a with
  | none =>
    rw [hs] at hc
    exact ⟨I, wp_X8_text hd ⟨_, _, _, hc, fun _ => ⟨rfl, rfl⟩, fun a6 h6 => (by cases h6)⟩, fr_rf⟩
  | some j =>
    obtain ⟨rfl, h1, h2, h3⟩ := fIdx_some hA hs
    rw [hs] at hc
    obtain ⟨I1, a1, a2, a3⟩ := c_spell hd hA h h2 h3
    have hl := tx_l (cp (ac A) j)
    have hq : is_Line S (p + 3) := hd.2.2.1
    simp only
    by_cases b1 : b < 0
    · rw [if_pos b1]
      exact ⟨I1, wp_X8_text hd ⟨_, _, _, hc, fun h6 => (by cases h6), fun a6 h6 => (by cases h6; exact ⟨c_slotAt hd h2, _, _, a1, _, _, _, wp_X2_codeAt hq ⟨fun _ => ⟨rfl, rfl⟩, fun z => absurd b1 z⟩, fun z => absurd rfl z, fun _ => ⟨rfl, rfl⟩⟩)⟩, a3⟩
    · rw [if_neg b1]
      by_cases b2 : nI (tx (cp (ac A) j)).length ≤ b
      · rw [if_pos b2]
        exact ⟨I1, wp_X8_text hd ⟨_, _, _, hc, fun h6 => (by cases h6), fun a6 h6 => (by cases h6; exact ⟨c_slotAt hd h2, _, _, a1, _, _, _, wp_X2_codeAt hq ⟨fun z => absurd z b1, fun _ => ⟨fun _ => ⟨rfl, rfl⟩, fun z => absurd (by rw [a2.1]; exact b2) z⟩⟩, fun z => absurd rfl z, fun _ => ⟨rfl, rfl⟩⟩)⟩, a3⟩
      · rw [if_neg b2]
        obtain ⟨k, hk, rfl⟩ := vp_in_of (in_of (n := (tx (cp (ac A) j)).length) (by omega) b1 b2) (by omega)
        rw [nI_clamp (by omega)]
        have hcd := c_codeAt (S := S) (I := I1) (L := L) (q := p + 3) (n := (tx (cp (ac A) j)).length) (f := fun k => (tx (cp (ac A) j)).getD k 0) (k := k) hq a2.1 a2.2 (by omega) hk
        obtain ⟨n, n1, n2, n3⟩ := tok_tx hk
        have hne : ¬ (tx (cp (ac A) j)).getD k 0 = (-1 : Int32) := by
          rw [n3]
          have : ∀ n, n < 128 → ¬ nI n = (-1 : Int32) := by decide +kernel
          exact this n n2
        exact ⟨I1, wp_X8_text hd ⟨_, _, _, hc, fun h6 => (by cases h6), fun a6 h6 => (by cases h6; exact ⟨c_slotAt hd h2, _, _, a1, _, _, _, hcd, fun _ => ⟨rfl, rfl⟩, fun z => absurd z hne⟩)⟩, a3⟩
end
