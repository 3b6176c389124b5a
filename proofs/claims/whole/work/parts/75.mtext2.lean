/-! THE REFERENCE: its texts -/
variable {S : List mjD} {I : Nat → Nat → Int32} {L : Nat → Nat → Int64}
theorem term_ne {c : Int64} {k : Nat} {fs : Bool} (hc : c ≠ 0) : (term c k fs).isEmpty = false := by
  have hn1 : 1 ≤ c.toInt.natAbs := by have := t_ne0 hc; omega
  have : (tmn c.toInt.natAbs k ++ tpw k) ≠ [] := by
    unfold tmn
    by_cases c1 : c.toInt.natAbs = 1 ∧ 1 ≤ k
    · rw [if_pos c1]
      unfold tpw
      rw [if_neg (by omega)]; simp
    · rw [if_neg c1]
      unfold tdg
      have : tdw c.toInt.natAbs 1 = [nI (48 + c.toInt.natAbs / 1 % 10)] := by unfold tdw; rw [if_neg (by omega)]
      rw [this]; simp
  unfold term
  rw [List.append_assoc]
  cases h : tmn c.toInt.natAbs k ++ tpw k with
  | nil => exact absurd h this
  | cons x r => simp
theorem txt_n {f : Nat → Int64} {n : Nat} (hz : ∀ k, n < k → k < 6 → f k = 0) : ∀ d, n + 1 + d ≤ 6 → txt f (n + 1 + d) [] = txt f (n + 1) []
  | 0, _ => rfl
  | d + 1, h => by
    show txt f (n + 1 + d + 1) [] = _
    rw [txt, if_pos (hz (n + 1 + d) (by omega) (by omega)), txt_n hz d (by omega)]
section
variable {m : Nat} {A : aS}
theorem m_layText {j : Nat} (hm : is_Model S m) (hA : aOK A) (h : IM m A I L) (hj : j < 4) (hf : cf (ac A) j = true) : ∃ I1, CTv mr_X9_layText [.ref m, .int (nI j)] S I L I1 L ∧ mtR m (tx (cp (ac A) j)) I1 ∧ tfr m I I1 := by
  have oj := (hA.2.2.2.2.1.1 j hj).2 hf
  have hdg := m_dg h hj hf
  have rd := fun t (ht : t < 6) => m_rd h hj hf ht
  obtain ⟨n, n6, hn, hdn⟩ := dg_pos oj
  rw [hn] at hdg
  generalize cp (ac A) j = f at *
  have vj : vp_in (nI j) 4 := vp_in_nI hj (by decide)
  have key : ∀ k, k ≤ n + 1 → ∀ l I', mtR m l I' → tfr m I I' → l.length + tbd k ≤ 37 → (l.isEmpty = true ↔ k = n + 1) → ∃ I1, mtR m (txt f k l) I1 ∧ tfr m I I1 ∧ hd_X9_layText_12 S (fun v h => v = none ∧ h = (S, I1, L)) m (nI j) (nI k + (-1)) I' L := by
    intro k
    induction k with
    | zero => exact fun _ l I' h1 h2 _ _ => ⟨I', h1, h2, it_X9_layText_12 hm (ng_t (by decide) ⟨rfl, rfl⟩)⟩
    | succ k ih =>
      intro hk l I' h1 h2 hl he
      have hb := @tbd_mono k
      rw [pk_m1, txt]
      by_cases c : f k = 0
      · rw [if_pos c]
        have hkn : k ≠ n := fun e => hdn.2.1 (e ▸ c)
        obtain ⟨I1, a1, a2, a3⟩ := ih (by omega) l I' h1 h2 (by omega) ⟨fun z => by have := he.mp z; omega, fun z => by omega⟩
        refine ⟨I1, a1, a2, it_X9_layText_12 hm (ng_f (by omega) ?_)⟩
        rw [nI_6, nI_clamp (by omega), rd k (by omega)]
        refine ⟨vp_in_nI (by omega) (by decide), fun y hy => ⟨fun _ z hz => by rw [hz]; exact a3, fun z => absurd (hy.trans c) z⟩⟩
      · rw [if_neg c]
        obtain ⟨I0, b1, b2, b3⟩ := m_addTerm (S := S) (L := L) (c := f k) (k := k) (fs := l.isEmpty) hm h1 (by omega) (oj.1 k (by omega)) c (by omega)
        have ht := @term_l (f k) k l.isEmpty
        have hne : (l ++ term (f k) k l.isEmpty).isEmpty = false := by
          have := @term_ne (f k) k l.isEmpty c
          cases q : term (f k) k l.isEmpty with
          | nil => rw [q] at this; cases this
          | cons x r => cases l <;> rfl
        obtain ⟨I1, a1, a2, a3⟩ := ih (by omega) _ I0 b2 (tfr_tr h2 b3) (by rw [List.length_append]; omega) ⟨fun z => absurd (hne.symm.trans z) (by decide), fun z => by omega⟩
        refine ⟨I1, a1, a2, it_X9_layText_12 hm (ng_f (by omega) ?_)⟩
        rw [nI_6, nI_clamp (by omega), rd k (by omega)]
        refine ⟨vp_in_nI (by omega) (by decide), fun y hy => ⟨fun z => absurd (hy.symm.trans z) c, fun _ => ⟨vj, ?_⟩⟩⟩
        rw [nI_clamp (by omega), h2.1 (m + 3) (by omega) (by omega), hdg, hy]
        by_cases ek : k = n
        · have hle : l.isEmpty = true := he.mpr (by omega)
          rw [hle] at b1
          exact ⟨fun z => absurd (by rw [ek]) z, fun _ => ⟨_, _, b1, fun z hz => by rw [hz]; exact a3⟩⟩
        · have hle : l.isEmpty = false := by
            cases q : l.isEmpty with
            | false => rfl
            | true => have := he.mp q; omega
          rw [hle] at b1
          exact ⟨fun _ => ⟨_, _, b1, fun z hz => by rw [hz]; exact a3⟩, fun z => absurd ((nI_eq (by omega) (by omega)).mp z) ek⟩
  have h0 : mtR m [] (mj_up I m 36 (0 : Int32)) := ⟨up_eq, fun k hk => absurd hk (Nat.not_lt_zero _)⟩
  have t0 : tfr m I (mj_up I m 36 (0 : Int32)) := ⟨fun b b0 _ => up_ne b0, fun k hk => up_nk hk⟩
  have tb : tbd (n + 1) ≤ 37 := by
    have : n = 0 ∨ n = 1 ∨ n = 2 ∨ n = 3 ∨ n = 4 ∨ n = 5 := by omega
    rcases this with rfl | rfl | rfl | rfl | rfl | rfl <;> decide
  obtain ⟨I1, a1, a2, a3⟩ := key (n + 1) (Nat.le_refl _) [] _ h0 t0 (by simpa using tb) ⟨fun _ => rfl, fun _ => rfl⟩
  have et : txt f (n + 1) [] = tx f := by
    have := txt_n hdn.2.2 (5 - n) (by omega)
    rw [show n + 1 + (5 - n) = 6 by omega] at this
    exact this.symm
  rw [et] at a1
  refine ⟨I1, wp_X9_layText hm ⟨vj, fun y hy => ?_⟩, a1, a2⟩
  rw [hy, nI_clamp (by omega), up_ne (show m + 3 ≠ m by omega), hdg]
  rw [pk_m1] at a3
  exact a3
theorem m_letters (hm : is_Model S m) (hA : aOK A) (h : IM m A I L) (a : Int32) : ∃ I1, CTi mr_X9_letters [.ref m, .int a] S I L (match fIdx A a with | none => 0 | some j => nI (tx (cp (ac A) j)).length) I1 L ∧ tfr m I I1 := by
  have ha := m_isFilled (S := S) (I := I) (L := L) hm hA h.2.1 h.2.2.2.1 a
  cases ea : fIdx A a with
  | none =>
    rw [ea] at ha
    exact ⟨I, wp_X9_letters hm ⟨_, _, _, ha, fun q => absurd rfl q, fun _ => ⟨rfl, rfl⟩⟩, tfr_rf⟩
  | some i =>
    obtain ⟨rfl, -, i4, if'⟩ := fIdx_some hA ea
    rw [ea, one_some] at ha
    obtain ⟨I1, a1, a2, a3⟩ := m_layText (S := S) hm hA h i4 if'
    exact ⟨I1, wp_X9_letters hm ⟨_, _, _, ha, fun _ => ⟨_, _, a1, by rw [a2.1], rfl⟩, fun q => absurd q (by decide)⟩, a3⟩
theorem m_text (hm : is_Model S m) (hA : aOK A) (h : IM m A I L) (a b : Int32) : ∃ I1 L1, CTi mr_X9_text [.ref m, .int a, .int b] S I L (sp_text A a b) I1 L1 ∧ IM m A I1 L1 ∧ fr (moX m) I L I1 L1 := by
  have ha := m_isFilled (S := S) (I := I) (L := L) hm hA h.2.1 h.2.2.2.1 a
  unfold sp_text
  cases ea : fIdx A a with
  | none =>
    rw [ea] at ha
    exact ⟨I, L, wp_X9_text hm ⟨_, _, _, ha, fun q => absurd rfl q, fun _ => ⟨rfl, rfl⟩⟩, h, fr_rf⟩
  | some i =>
    obtain ⟨rfl, -, i4, if'⟩ := fIdx_some hA ea
    rw [ea, one_some] at ha
    obtain ⟨I1, a1, a2, a3⟩ := m_layText (S := S) hm hA h i4 if'
    have hl := tx_l (cp (ac A) i)
    simp only
    generalize tx (cp (ac A) i) = l at *
    have h1 := tfr_IM h a3
    have f1 := frS_mo (tfr_S (L := L) a3)
    have hs : (nI l.length - (1 : Int32)).toInt = (l.length : Int) - 1 := pk_sub_toInt (b := 1) (by omega) (by decide)
    have hw := m_w (S := S) (I := I1) (L := L) b (lo := 0) (hi := (nI l.length - (1 : Int32)).toInt64) 0 ((l.length : Int) - 1) rfl (by rw [Int32.toInt_toInt64]; exact hs)
    have l1 := lt_i (a := b) (k := 0) (n := 0) rfl
    have l2 := le_i (a := b) (k := nI l.length) (n := l.length) (nI_toInt (by omega))
    by_cases b1 : b < 0
    · rw [if_pos (Or.inl (l1.mp b1))] at hw
      rw [if_pos b1]
      exact ⟨I1, L, wp_X9_text hm ⟨_, _, _, ha, fun _ => ⟨_, _, a1, _, _, _, by rw [a2.1]; exact hw, fun _ => ⟨rfl, rfl⟩, fun q => absurd rfl q⟩, fun q => absurd q (by decide)⟩, h1, f1⟩
    · rw [if_neg b1]
      by_cases b2 : nI l.length ≤ b
      · rw [if_pos (Or.inr (by have := l2.mp b2; omega))] at hw
        rw [if_pos b2]
        exact ⟨I1, L, wp_X9_text hm ⟨_, _, _, ha, fun _ => ⟨_, _, a1, _, _, _, by rw [a2.1]; exact hw, fun _ => ⟨rfl, rfl⟩, fun q => absurd rfl q⟩, fun q => absurd q (by decide)⟩, h1, f1⟩
      · rw [if_neg (fun z => z.elim (fun z => b1 (l1.mpr z)) (fun z => b2 (l2.mpr (by omega))))] at hw
        rw [if_neg b2]
        obtain ⟨k, hk, rfl⟩ := vp_in_of (in_of (n := l.length) (by omega) b1 b2) (by omega)
        rw [nI_clamp (by omega)]
        exact ⟨I1, L, wp_X9_text hm ⟨_, _, _, ha, fun _ => ⟨_, _, a1, _, _, _, by rw [a2.1]; exact hw, fun q => absurd q (by decide), fun _ => ⟨vp_in_nI (by omega) (by decide), by rw [nI_clamp (by omega), a2.2 k hk], rfl⟩⟩, fun q => absurd q (by decide)⟩, h1, f1⟩
end
