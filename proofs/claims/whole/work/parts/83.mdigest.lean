/-! THE REFERENCE'S DIGEST: lines and texts are mixed in -/
variable {S : List mjD} {I : Nat → Nat → Int32} {L : Nat → Nat → Int64}
section
variable {m : Nat} {A : aS}
theorem m_mixText {n : Nat} {f : Nat → Int32} {s : Int64} {RET : Option Value → mjH → Prop} (hm : is_Model S m) (h36 : I m 36 = nI n) (h22 : ∀ k, k < n → I (m + 22) k = f k) (hn : n ≤ 64) (hs : L m 57 = s) (hr : RET none (S, I, mj_up L m 57 (mixN f 0 n s))) : hd_X9_mixFilled_102 S RET m 0 I L := by
  have key : ∀ k i, i + k = n → ∀ t L', L' m 57 = t → mj_up L' m 57 (mixN f i k t) = mj_up L m 57 (mixN f 0 n s) → (k = 0 → mj_up L' m 57 t = L') → hd_X9_mixFilled_102 S RET m (nI i) I L' := by
    intro k
    induction k with
    | zero =>
      intro i hi t L' h57 he h0
      refine it_X9_mixFilled_102 hm ?_
      rw [h36]
      refine ge_t (by omega) (by omega) ?_
      have e : L' = mj_up L m 57 (mixN f 0 n s) := by rw [← he, ← h0 rfl]; exact up_up.symm
      rw [e]; exact hr
    | succ k ih =>
      intro i hi t L' h57 he _
      refine it_X9_mixFilled_102 hm ?_
      rw [h36]
      refine ge_f (by omega) (by omega) ⟨vp_in_nI (by omega) (by decide), _, _, m_mix hm h57 _, fun y hy => ?_⟩
      rw [hy, nI_1, nI_clamp (by omega), h22 i (by omega)]
      refine ih (i + 1) (by omega) _ _ up_eq ?_ (fun _ => up_up)
      rw [up_up]; exact he
  refine key n 0 (by omega) s L hs rfl (fun _ => ?_)
  funext b k
  unfold mj_up
  by_cases hb : b = m ∧ k = 57
  · obtain ⟨rfl, rfl⟩ := hb; simp [hs]
  · by_cases h1 : b = m
    · subst h1
      have h2 : ¬ k = 57 := fun e => hb ⟨rfl, e⟩
      simp [h2]
    · simp [h1]
theorem m_mixLine {n : Nat} {f : Nat → Int32} {s : Int64} {RET : Option Value → mjH → Prop} (hm : is_Model S m) (h9 : I m 9 = nI n) (h7 : ∀ k, k < n → I (m + 7) k = f k) (hn : n ≤ 40) (hs : L m 57 = s) (hr : hd_X9_digest_91 S RET m 0 I (mj_up L m 57 (mixN f 0 n s))) : hd_X9_digest_64 S RET m 0 I L := by
  have key : ∀ k i, i + k = n → ∀ t L', L' m 57 = t → mj_up L' m 57 (mixN f i k t) = mj_up L m 57 (mixN f 0 n s) → (k = 0 → mj_up L' m 57 t = L') → hd_X9_digest_64 S RET m (nI i) I L' := by
    intro k
    induction k with
    | zero =>
      intro i hi t L' h57 he h0
      refine it_X9_digest_64 hm ?_
      rw [h9]
      refine ge_t (by omega) (by omega) ?_
      have e : L' = mj_up L m 57 (mixN f 0 n s) := by rw [← he, ← h0 rfl]; exact up_up.symm
      rw [e]; exact hr
    | succ k ih =>
      intro i hi t L' h57 he _
      refine it_X9_digest_64 hm ?_
      rw [h9]
      refine ge_f (by omega) (by omega) ⟨vp_in_nI (by omega) (by decide), _, _, m_mix hm h57 _, fun y hy => ?_⟩
      rw [hy, nI_1, nI_clamp (by omega), h7 i (by omega)]
      refine ih (i + 1) (by omega) _ _ up_eq ?_ (fun _ => up_up)
      rw [up_up]; exact he
  refine key n 0 (by omega) s L hs rfl (fun _ => ?_)
  funext b k
  unfold mj_up
  by_cases hb : b = m ∧ k = 57
  · obtain ⟨rfl, rfl⟩ := hb; simp [hs]
  · by_cases h1 : b = m
    · subst h1
      have h2 : ¬ k = 57 := fun e => hb ⟨rfl, e⟩
      simp [h2]
    · simp [h1]
end
