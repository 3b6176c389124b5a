/-! THE REFERENCE'S READER: one code, a power -/
variable {S : List mjD} {I : Nat → Nat → Int32} {L : Nat → Nat → Int64}
section
variable {m n : Nat} {f : Nat → Nat}
/-- the page, as the reference holds it -/
def pgM (m n : Nat) (f : Nat → Nat) (I : Nat → Nat → Int32) : Prop := I m 9 = nI n ∧ n ≤ 40 ∧ ∀ k, k < n → I (m + 7) k = nI (f k) ∧ 32 ≤ f k ∧ f k ≤ 126
/-- a code, 0 past the end -/
def atN (f : Nat → Nat) (n i : Nat) : Nat := if i < n then f i else 0
theorem atN_lt {i : Nat} (h : pgM m n f I) : atN f n i < 128 := by
  unfold atN
  by_cases c : i < n
  · rw [if_pos c]; have := (h.2.2 i c).2.2; omega
  · rw [if_neg c]; decide
theorem m_at {i : Nat} (hm : is_Model S m) (h : pgM m n f I) (hi : i < 2 ^ 31) : CTi mr_X9_at [.ref m, .int (nI i)] S I L (nI (atN f n i)) I L := by
  obtain ⟨h1, h2, h3⟩ := h
  refine wp_X9_at hm ?_
  rw [h1]
  unfold atN
  by_cases c : i < n
  · rw [if_pos c]
    exact ge_f c (by omega) ⟨vp_in_nI (by omega) (by decide), by rw [nI_clamp hi, (h3 i c).1], rfl⟩
  · rw [if_neg c]
    exact ge_t (by omega) hi ⟨rfl, rfl⟩
theorem m_isFigure {i lo hi : Nat} (hm : is_Model S m) (h : pgM m n f I) (hi1 : i < 2 ^ 31) (hlo : lo < 100) (hhi : hi < 100) : CTi mr_X9_isFigure [.ref m, .int (nI i), .int (nI lo), .int (nI hi)] S I L (if 48 + lo ≤ atN f n i ∧ atN f n i ≤ 48 + hi then 1 else 0) I L := by
  have ha := atN_lt (i := i) h
  have hs : (nI (atN f n i) - (48 : Int32)).toInt = (atN f n i : Int) - 48 := pk_sub_toInt (b := 48) (by omega) (by decide)
  have hw := m_w (S := S) (I := I) (L := L) (nI (atN f n i) - (48 : Int32)) (lo := (nI lo).toInt64) (hi := (nI hi).toInt64) lo hi (by rw [Int32.toInt_toInt64, nI_toInt (by omega)]) (by rw [Int32.toInt_toInt64, nI_toInt (by omega)])
  rw [hs] at hw
  refine wp_X9_isFigure hm ⟨_, _, _, m_at hm h hi1, _, _, _, hw, ?_, ?_, rfl⟩
  · by_cases c : ((atN f n i : Int) - 48 < lo ∨ (hi : Int) < (atN f n i : Int) - 48)
    · rw [if_pos c]; exact Or.inl rfl
    · rw [if_neg c]; exact Or.inr rfl
  · by_cases c : 48 + lo ≤ atN f n i ∧ atN f n i ≤ 48 + hi
    · rw [if_pos c, if_neg (by omega)]
    · rw [if_neg c, if_pos (by omega)]
theorem m_broken (hm : is_Model S m) (a : Int32) : CTi mr_X9_broken [.ref m, .int a] S I L a (mj_up I m 12 1) L := wp_X9_broken hm ⟨rfl, rfl⟩
/-- what a reading changes -/
def rfr (m : Nat) (I : Nat → Nat → Int32) (L : Nat → Nat → Int64) (I1 : Nat → Nat → Int32) (L1 : Nat → Nat → Int64) : Prop := (∀ b, b ≠ m → I1 b = I b) ∧ (∀ k, k ≠ 11 → k ≠ 12 → k ≠ 13 → I1 m k = I m k) ∧ ∀ b, b ≠ m + 8 → L1 b = L b
theorem rfr_rf : rfr m I L I L := ⟨fun _ _ => rfl, fun _ _ _ _ => rfl, fun _ _ => rfl⟩
theorem rfr_tr {I1 I2 : Nat → Nat → Int32} {L1 L2 : Nat → Nat → Int64} (h : rfr m I L I1 L1) (h2 : rfr m I1 L1 I2 L2) : rfr m I L I2 L2 := ⟨fun b hb => (h2.1 b hb).trans (h.1 b hb), fun k a b c => (h2.2.1 k a b c).trans (h.2.1 k a b c), fun b hb => (h2.2.2 b hb).trans (h.2.2 b hb)⟩
theorem pgM_fr {I1 : Nat → Nat → Int32} {L1 : Nat → Nat → Int64} (h : pgM m n f I) (hf : rfr m I L I1 L1) : pgM m n f I1 := ⟨by rw [hf.2.1 9 (by decide) (by decide) (by decide)]; exact h.1, h.2.1, fun k hk => by rw [hf.1 (m + 7) (by omega)]; exact h.2.2 k hk⟩
end
