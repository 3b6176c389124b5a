/-! THE REFERENCE: its search for factors of degree 2 -/
variable {S : List mjD} {I : Nat → Nat → Int32} {L : Nat → Nat → Int64}
/-- all divisors below v -/
def ldS (row : Nat → Int64) (c N v : Nat) : Prop := (∀ j, j < c → ∃ w, 1 ≤ w ∧ w < v ∧ w ∣ N ∧ row j = lN w) ∧ ∀ w, 1 ≤ w → w < v → w ∣ N → ∃ j, j < c ∧ row j = lN w
/-- all divisors below v, both signs -/
def pmS (row : Nat → Int64) (c N v : Nat) : Prop := (∀ j, j < c → ∃ w, 1 ≤ w ∧ w < v ∧ w ∣ N ∧ (row j = lN w ∨ row j = -(lN w))) ∧ ∀ w, 1 ≤ w → w < v → w ∣ N → (∃ j, j < c ∧ row j = lN w) ∧ ∃ j, j < c ∧ row j = -(lN w)
theorem ldS_s {row row' : Nat → Int64} {c N v : Nat} (h : ldS row c N v) (hd : v ∣ N) (h1 : 1 ≤ v) (hr : ∀ j, j < c → row' j = row j) (hc : row' c = lN v) : ldS row' (c + 1) N (v + 1) := by
  refine ⟨fun j hj => ?_, fun w h1 h2 h3 => ?_⟩
  · rcases Nat.eq_or_lt_of_le (Nat.lt_succ_iff.mp hj) with e | e
    · rw [e]; exact ⟨v, h1, by omega, hd, hc⟩
    · obtain ⟨w, a, b, c, d⟩ := h.1 j e
      exact ⟨w, a, by omega, c, by rw [hr j e]; exact d⟩
  · rcases Nat.eq_or_lt_of_le (Nat.lt_succ_iff.mp h2) with e | e
    · rw [e]; exact ⟨c, by omega, hc⟩
    · obtain ⟨j, a, b⟩ := h.2 w h1 e h3
      exact ⟨j, by omega, by rw [hr j a]; exact b⟩
theorem ldS_n {row : Nat → Int64} {c N v : Nat} (h : ldS row c N v) (hd : ¬ v ∣ N) : ldS row c N (v + 1) := by
  refine ⟨fun j hj => ?_, fun w h1 h2 h3 => ?_⟩
  · obtain ⟨w, a, b, c, d⟩ := h.1 j hj
    exact ⟨w, a, by omega, c, d⟩
  · rcases Nat.eq_or_lt_of_le (Nat.lt_succ_iff.mp h2) with e | e
    · rw [e] at h3; exact absurd h3 hd
    · exact h.2 w h1 e h3
theorem pmS_s {row row' : Nat → Int64} {c N v : Nat} (h : pmS row c N v) (hd : v ∣ N) (h1 : 1 ≤ v) (hr : ∀ j, j < c → row' j = row j) (hc : row' c = lN v) (hc1 : row' (c + 1) = -(lN v)) : pmS row' (c + 2) N (v + 1) := by
  refine ⟨fun j hj => ?_, fun w h1 h2 h3 => ?_⟩
  · have : j = c ∨ j = c + 1 ∨ j < c := by omega
    rcases this with e | e | e
    · rw [e]; exact ⟨v, h1, by omega, hd, Or.inl hc⟩
    · rw [e]; exact ⟨v, h1, by omega, hd, Or.inr hc1⟩
    · obtain ⟨w, a, b, c, d⟩ := h.1 j e
      exact ⟨w, a, by omega, c, by rw [hr j e]; exact d⟩
  · rcases Nat.eq_or_lt_of_le (Nat.lt_succ_iff.mp h2) with e | e
    · rw [e]; exact ⟨⟨c, by omega, hc⟩, ⟨c + 1, by omega, hc1⟩⟩
    · obtain ⟨⟨j, a, b⟩, ⟨j2, a2, b2⟩⟩ := h.2 w h1 e h3
      exact ⟨⟨j, by omega, by rw [hr j a]; exact b⟩, ⟨j2, by omega, by rw [hr j2 a2]; exact b2⟩⟩
theorem pmS_n {row : Nat → Int64} {c N v : Nat} (h : pmS row c N v) (hd : ¬ v ∣ N) : pmS row c N (v + 1) := by
  refine ⟨fun j hj => ?_, fun w h1 h2 h3 => ?_⟩
  · obtain ⟨w, a, b, c, d⟩ := h.1 j hj
    exact ⟨w, a, by omega, c, d⟩
  · rcases Nat.eq_or_lt_of_le (Nat.lt_succ_iff.mp h2) with e | e
    · rw [e] at h3; exact absurd h3 hd
    · exact h.2 w h1 e h3
/-- what laying divisors leaves as it was -/
def frD (m : Nat) (I : Nat → Nat → Int32) (L : Nat → Nat → Int64) (I1 : Nat → Nat → Int32) (L1 : Nat → Nat → Int64) : Prop :=
  (∀ b, b ≠ m → I1 b = I b) ∧ (∀ b, b ≠ m + 18 → b ≠ m + 19 → b ≠ m + 20 → L1 b = L b) ∧ ∀ k, k ≠ 32 → k ≠ 33 → k ≠ 34 → I1 m k = I m k
section
variable {m : Nat} {G : List Int} {r : Nat}
theorem dv_cap {N v : Nat} (h1 : 1 ≤ v) (hv : v ≤ N) (hN : N ≤ 24975) (hd : N % v = 0) : dvc N (v + 1) = dvc N v + 1 ∧ dvc N v + 1 ≤ 128 := by
  have e : dvc N (v + 1) = dvc N v + (if 1 ≤ v ∧ N % v = 0 then 1 else 0) := rfl
  rw [if_pos ⟨h1, hd⟩] at e
  have := dvc_le N (a := v + 1) (b := N + 1) (by omega)
  have := dvc_128 (N := N) (by omega) hN
  exact ⟨e, by omega⟩
theorem dv_no {N v : Nat} (hd : ¬ N % v = 0) : dvc N (v + 1) = dvc N v := by
  have e : dvc N (v + 1) = dvc N v + (if 1 ≤ v ∧ N % v = 0 then 1 else 0) := rfl
  rwa [if_neg (fun z => hd z.2)] at e
theorem m_ld193 {N : Nat} (hm : is_Model S m) (hN : N ≤ 24975) : ∀ v, v ≤ N + 1 → 1 ≤ v → ∀ I' L', frD m I L I' L' → I' m 34 = nI (2 * dvc N v) → pmS (L' (m + 20)) (2 * dvc N v) N v → ∃ I1 L1, hd_X9_layDivisors_193 S (fun v h => v = none ∧ h = (S, I1, L1)) m (lN N) (lN v) I' L' ∧ frD m I L I1 L1 ∧
    (∀ k, k ≠ 34 → I1 m k = I' m k) ∧ (∀ b, b ≠ m + 20 → L1 b = L' b) ∧ I1 m 34 = nI (2 * dvc N (N + 1)) ∧ pmS (L1 (m + 20)) (2 * dvc N (N + 1)) N (N + 1) := by
  refine up_loop (N + 1) (fun _ I' L' hf h1 h2 => ⟨I', L', it_X9_layDivisors_193 hm ⟨fun _ => ⟨rfl, rfl⟩, fun h => absurd ((pk_lLT (by omega) (by omega)).mpr (by omega)) h⟩, hf, fun _ _ => rfl, fun _ _ => rfl, h1, h2⟩) (fun v hv ih hv1 I' L' hf h1 h2 => ?_)
  have hv0 : ¬ lN v = 0 := fun h => absurd ((pk_lEQ (b := 0) (by omega) (by decide)).mp h) (by omega)
  have hnl : ¬ lN N < lN v := fun h => absurd ((pk_lLT (by omega) (by omega)).mp h) (by omega)
  have hrm : lN N - lN N / lN v * lN v = lN (N % v) := pk_lRem (by omega) hv1 (by omega)
  by_cases hd : N % v = 0
  · obtain ⟨c1, c2⟩ := dv_cap hv1 (by omega) hN hd
    have hdd := Nat.dvd_of_mod_eq_zero hd
    have e1 : I' m 34 + (1 : Int32) = nI (2 * dvc N v + 1) := by rw [h1, nI_1]
    have e2 : I' m 34 + (2 : Int32) = nI (2 * dvc N v + 2) := by
      rw [h1]; show nI _ + nI 2 = _
      rw [nI_add]
    obtain ⟨I1, L1, k1, k2, k3, k4, k5⟩ := ih (by omega) (mj_up I' m 34 (I' m 34 + (2 : Int32))) (mj_up (mj_up L' (m + 20) (2 * dvc N v) (lN v)) (m + 20) (2 * dvc N v + 1) (-(lN v))) ⟨fun b hb => by rw [up_ne hb]; exact hf.1 b hb, fun b a1 a2 a3 => by rw [up_ne a3, up_ne a3]; exact hf.2.1 b a1 a2 a3, fun k a1 a2 a3 => by rw [up_nk a3]; exact hf.2.2 k a1 a2 a3⟩
      (by rw [up_eq, e2, c1]; congr 1) (by
        rw [c1, show 2 * (dvc N v + 1) = 2 * dvc N v + 2 by omega]
        exact pmS_s h2 hdd hv1 (fun j hj => by rw [up_nk (by omega), up_nk (by omega)]) (by rw [up_nk (by omega), up_eq]) up_eq)
    refine ⟨I1, L1, it_X9_layDivisors_193 hm ⟨fun h => absurd h hnl, fun _ => ⟨hv0, fun h => absurd (by rw [hrm, hd]; rfl) h, fun _ => ⟨by rw [h1]; exact vp_in_nI (by omega) (by decide), by rw [e1]; exact vp_in_nI (by omega) (by decide), fun y hy => ?_⟩⟩⟩, k2, fun k hk => by rw [k3 k hk, up_nk hk], fun b hb => by rw [k4 b hb, up_ne hb, up_ne hb], k5⟩
    rw [hy, lN_1, e1, nI_clamp (by omega)]
    have : (I' m 34).toNatClampNeg = 2 * dvc N v := by rw [h1, nI_clamp (by omega)]
    rw [this]
    exact k1
  · have hdn : ¬ lN (N % v) = (0 : Int64) := fun h => hd ((pk_lEQ (b := 0) (by have := Nat.mod_lt N (show v > 0 by omega); omega) (by decide)).mp h)
    have e := dv_no hd
    obtain ⟨I1, L1, k1, k2⟩ := ih (by omega) I' L' hf (by rw [e]; exact h1) (by rw [e]; exact pmS_n h2 (fun h => hd (Nat.mod_eq_zero_of_dvd h)))
    exact ⟨I1, L1, it_X9_layDivisors_193 hm ⟨fun h => absurd h hnl, fun _ => ⟨hv0, fun _ y hy => (by rw [hy, lN_1]; exact k1), fun h => absurd (by rw [hrm] at h; exact h) hdn⟩⟩, k2⟩
theorem m_ld130 {N N3 : Nat} (hm : is_Model S m) (hN : N ≤ 24975) : ∀ v, v ≤ N + 1 → 1 ≤ v → ∀ I' L', frD m I L I' L' → I' m 33 = nI (2 * dvc N v) → pmS (L' (m + 19)) (2 * dvc N v) N v → ∃ I1 L1, frD m I L I1 L1 ∧ (∀ k, k ≠ 33 → I1 m k = I' m k) ∧ (∀ b, b ≠ m + 19 → L1 b = L' b) ∧ I1 m 33 = nI (2 * dvc N (N + 1)) ∧ pmS (L1 (m + 19)) (2 * dvc N (N + 1)) N (N + 1) ∧
    ∀ RET, hd_X9_layDivisors_193 S RET m (lN N3) 1 I1 L1 → hd_X9_layDivisors_130 S RET m (lN N) (lN N3) (lN v) I' L' := by
  refine up_loop (N + 1) (fun _ I' L' hf h1 h2 => ⟨I', L', hf, fun _ _ => rfl, fun _ _ => rfl, h1, h2, fun RET hk => it_X9_layDivisors_130 hm ⟨fun _ => hk, fun h => absurd ((pk_lLT (by omega) (by omega)).mpr (by omega)) h⟩⟩) (fun v hv ih hv1 I' L' hf h1 h2 => ?_)
  have hv0 : ¬ lN v = 0 := fun h => absurd ((pk_lEQ (b := 0) (by omega) (by decide)).mp h) (by omega)
  have hnl : ¬ lN N < lN v := fun h => absurd ((pk_lLT (by omega) (by omega)).mp h) (by omega)
  have hrm : lN N - lN N / lN v * lN v = lN (N % v) := pk_lRem (by omega) hv1 (by omega)
  by_cases hd : N % v = 0
  · obtain ⟨c1, c2⟩ := dv_cap hv1 (by omega) hN hd
    have hdd := Nat.dvd_of_mod_eq_zero hd
    have e1 : I' m 33 + (1 : Int32) = nI (2 * dvc N v + 1) := by rw [h1, nI_1]
    have e2 : I' m 33 + (2 : Int32) = nI (2 * dvc N v + 2) := by
      rw [h1]; show nI _ + nI 2 = _
      rw [nI_add]
    obtain ⟨I1, L1, k2, k3, k4, k5, k6, k1⟩ := ih (by omega) (mj_up I' m 33 (I' m 33 + (2 : Int32))) (mj_up (mj_up L' (m + 19) (2 * dvc N v) (lN v)) (m + 19) (2 * dvc N v + 1) (-(lN v))) ⟨fun b hb => by rw [up_ne hb]; exact hf.1 b hb, fun b a1 a2 a3 => by rw [up_ne a2, up_ne a2]; exact hf.2.1 b a1 a2 a3, fun k a1 a2 a3 => by rw [up_nk a2]; exact hf.2.2 k a1 a2 a3⟩
      (by rw [up_eq, e2, c1]; congr 1) (by
        rw [c1, show 2 * (dvc N v + 1) = 2 * dvc N v + 2 by omega]
        exact pmS_s h2 hdd hv1 (fun j hj => by rw [up_nk (by omega), up_nk (by omega)]) (by rw [up_nk (by omega), up_eq]) up_eq)
    refine ⟨I1, L1, k2, fun k hk => by rw [k3 k hk, up_nk hk], fun b hb => by rw [k4 b hb, up_ne hb, up_ne hb], k5, k6, fun RET hk => it_X9_layDivisors_130 hm ⟨fun h => absurd h hnl, fun _ => ⟨hv0, fun h => absurd (by rw [hrm, hd]; rfl) h, fun _ => ⟨by rw [h1]; exact vp_in_nI (by omega) (by decide), by rw [e1]; exact vp_in_nI (by omega) (by decide), fun y hy => ?_⟩⟩⟩⟩
    rw [hy, lN_1, e1, nI_clamp (by omega)]
    have : (I' m 33).toNatClampNeg = 2 * dvc N v := by rw [h1, nI_clamp (by omega)]
    rw [this]
    exact k1 RET hk
  · have hdn : ¬ lN (N % v) = (0 : Int64) := fun h => hd ((pk_lEQ (b := 0) (by have := Nat.mod_lt N (show v > 0 by omega); omega) (by decide)).mp h)
    have e := dv_no hd
    obtain ⟨I1, L1, k2, k3, k4, k5, k6, k1⟩ := ih (by omega) I' L' hf (by rw [e]; exact h1) (by rw [e]; exact pmS_n h2 (fun h => hd (Nat.mod_eq_zero_of_dvd h)))
    exact ⟨I1, L1, k2, k3, k4, k5, k6, fun RET hk => it_X9_layDivisors_130 hm ⟨fun h => absurd h hnl, fun _ => ⟨hv0, fun _ y hy => (by rw [hy, lN_1]; exact k1 RET hk), fun h => absurd (by rw [hrm] at h; exact h) hdn⟩⟩⟩
theorem m_ld81 {N N2 N3 : Nat} (hm : is_Model S m) (hN : N ≤ 24975) : ∀ v, v ≤ N + 1 → 1 ≤ v → ∀ I' L', frD m I L I' L' → I' m 32 = nI (dvc N v) → ldS (L' (m + 18)) (dvc N v) N v → ∃ I1 L1, frD m I L I1 L1 ∧ (∀ k, k ≠ 32 → I1 m k = I' m k) ∧ (∀ b, b ≠ m + 18 → L1 b = L' b) ∧ I1 m 32 = nI (dvc N (N + 1)) ∧ ldS (L1 (m + 18)) (dvc N (N + 1)) N (N + 1) ∧
    ∀ RET, hd_X9_layDivisors_130 S RET m (lN N2) (lN N3) 1 I1 L1 → hd_X9_layDivisors_81 S RET m (lN N) (lN N2) (lN N3) (lN v) I' L' := by
  refine up_loop (N + 1) (fun _ I' L' hf h1 h2 => ⟨I', L', hf, fun _ _ => rfl, fun _ _ => rfl, h1, h2, fun RET hk => it_X9_layDivisors_81 hm ⟨fun _ => hk, fun h => absurd ((pk_lLT (by omega) (by omega)).mpr (by omega)) h⟩⟩) (fun v hv ih hv1 I' L' hf h1 h2 => ?_)
  have hv0 : ¬ lN v = 0 := fun h => absurd ((pk_lEQ (b := 0) (by omega) (by decide)).mp h) (by omega)
  have hnl : ¬ lN N < lN v := fun h => absurd ((pk_lLT (by omega) (by omega)).mp h) (by omega)
  have hrm : lN N - lN N / lN v * lN v = lN (N % v) := pk_lRem (by omega) hv1 (by omega)
  by_cases hd : N % v = 0
  · obtain ⟨c1, c2⟩ := dv_cap hv1 (by omega) hN hd
    have hdd := Nat.dvd_of_mod_eq_zero hd
    obtain ⟨I1, L1, k2, k3, k4, k5, k6, k1⟩ := ih (by omega) (mj_up I' m 32 (I' m 32 + (1 : Int32))) (mj_up L' (m + 18) (dvc N v) (lN v)) ⟨fun b hb => by rw [up_ne hb]; exact hf.1 b hb, fun b a1 a2 a3 => by rw [up_ne a1]; exact hf.2.1 b a1 a2 a3, fun k a1 a2 a3 => by rw [up_nk a1]; exact hf.2.2 k a1 a2 a3⟩
      (by rw [up_eq, h1, nI_1, c1]) (by
        rw [c1]
        exact ldS_s h2 hdd hv1 (fun j hj => by rw [up_nk (by omega)]) up_eq)
    refine ⟨I1, L1, k2, fun k hk => by rw [k3 k hk, up_nk hk], fun b hb => by rw [k4 b hb, up_ne hb], k5, k6, fun RET hk => it_X9_layDivisors_81 hm ⟨fun h => absurd h hnl, fun _ => ⟨hv0, fun h => absurd (by rw [hrm, hd]; rfl) h, fun _ => ⟨by rw [h1]; exact vp_in_nI (by omega) (by decide), fun y hy => ?_⟩⟩⟩⟩
    have : (I' m 32).toNatClampNeg = dvc N v := by rw [h1, nI_clamp (by omega)]
    rw [hy, lN_1, this]
    exact k1 RET hk
  · have hdn : ¬ lN (N % v) = (0 : Int64) := fun h => hd ((pk_lEQ (b := 0) (by have := Nat.mod_lt N (show v > 0 by omega); omega) (by decide)).mp h)
    have e := dv_no hd
    obtain ⟨I1, L1, k2, k3, k4, k5, k6, k1⟩ := ih (by omega) I' L' hf (by rw [e]; exact h1) (by rw [e]; exact ldS_n h2 (fun h => hd (Nat.mod_eq_zero_of_dvd h)))
    exact ⟨I1, L1, k2, k3, k4, k5, k6, fun RET hk => it_X9_layDivisors_81 hm ⟨fun h => absurd h hnl, fun _ => ⟨hv0, fun _ y hy => (by rw [hy, lN_1]; exact k1 RET hk), fun h => absurd (by rw [hrm] at h; exact h) hdn⟩⟩⟩
/-- the sum of the first coefficients -/
def osF (f : Nat → Int64) : Nat → Int64
  | 0 => 0
  | k + 1 => osF f k + f k
def osZ (f : Nat → Int64) : Nat → Int
  | 0 => 0
  | k + 1 => osZ f k + (f k).toInt
theorem osF_Z {f : Nat → Int64} {B : Nat} (h : bnd6 f B) (hB : B < 2 ^ 40) : ∀ k, k ≤ 6 → (osF f k).toInt = osZ f k ∧ (osZ f k).natAbs ≤ k * B
  | 0, _ => ⟨rfl, Nat.zero_le _⟩
  | k + 1, hk => by
    obtain ⟨h1, h2⟩ := osF_Z h hB k (by omega)
    have h3 := h k (by omega)
    have h4 : k * B ≤ 6 * B := Nat.mul_le_mul_right _ (by omega)
    rw [osF, osZ, t_add (by omega) (by omega), h1, Nat.succ_mul]
    exact ⟨rfl, by omega⟩
theorem osZ_ev {f : Nat → Int64} {r : Nat} (hr : deg6 f r) : osZ f (r + 1) = zev (rl f) 1 := by
  have h6 : zev (rl f) 1 = osZ f 6 := by
    unfold rl
    simp only [zev, osZ]; omega
  have hr6 := hr.1
  have key : ∀ j, r + 1 + j ≤ 6 → osZ f (r + 1 + j) = osZ f (r + 1) := by
    intro j
    induction j with
    | zero => exact fun _ => rfl
    | succ j ih =>
      intro h
      have e := ih (by omega)
      show osZ f (r + 1 + j) + (f (r + 1 + j)).toInt = _
      rw [e, hr.2.2 (r + 1 + j) (by omega) (by omega)]
      have z : (0 : Int64).toInt = 0 := rfl
      rw [z]; omega
  have := key (5 - r) (by omega)
  rw [show r + 1 + (5 - r) = 6 by omega] at this
  rw [h6, this]
theorem m_layDivisors (hm : is_Model S m) (h24 : I m 24 = nI r) (hR : deg6 (L (m + 14)) r) (h45 : r = 4 ∨ r = 5) (hok : okL (L (m + 14)) r) (h9 : (L (m + 14) r).toInt.natAbs ≤ 999) (h09 : (L (m + 14) 0).toInt.natAbs ≤ 999) :
    ∃ I1 L1, CTv mr_X9_layDivisors [.ref m] S I L I1 L1 ∧ frD m I L I1 L1 ∧ I1 m 32 = nI (dvc (L (m + 14) r).toInt.natAbs ((L (m + 14) r).toInt.natAbs + 1)) ∧ I1 m 33 = nI (2 * dvc (L (m + 14) 0).toInt.natAbs ((L (m + 14) 0).toInt.natAbs + 1)) ∧ I1 m 34 = nI (2 * dvc (zev (rl (L (m + 14))) 1).natAbs ((zev (rl (L (m + 14))) 1).natAbs + 1)) ∧ (zev (rl (L (m + 14))) 1).natAbs ≤ (r + 1) * (999 * 5 ^ (5 - r)) ∧
      ldS (L1 (m + 18)) (dvc (L (m + 14) r).toInt.natAbs ((L (m + 14) r).toInt.natAbs + 1)) (L (m + 14) r).toInt.natAbs ((L (m + 14) r).toInt.natAbs + 1) ∧ pmS (L1 (m + 19)) (2 * dvc (L (m + 14) 0).toInt.natAbs ((L (m + 14) 0).toInt.natAbs + 1)) (L (m + 14) 0).toInt.natAbs ((L (m + 14) 0).toInt.natAbs + 1) ∧
      pmS (L1 (m + 20)) (2 * dvc (zev (rl (L (m + 14))) 1).natAbs ((zev (rl (L (m + 14))) 1).natAbs + 1)) (zev (rl (L (m + 14))) 1).natAbs ((zev (rl (L (m + 14))) 1).natAbs + 1) := by
  have hr6 := hR.1
  have hB40 : 999 * 5 ^ (5 - r) < 2 ^ 40 := by rcases h45 with rfl | rfl <;> decide
  obtain ⟨o1, o2⟩ := osF_Z hok hB40 (r + 1) (by omega)
  rw [osZ_ev hR] at o1 o2
  have hN3 : (zev (rl (L (m + 14))) 1).natAbs ≤ 24975 := by
    have : (r + 1) * (999 * 5 ^ (5 - r)) ≤ 24975 := by rcases h45 with rfl | rfl <;> decide
    omega
  have c1 := m_aboveN (S := S) (I := I) (L := L) (a := L (m + 14) r) (by omega)
  have c2 := m_aboveN (S := S) (I := I) (L := L) (a := L (m + 14) 0) (by omega)
  have c3 := m_aboveN (S := S) (I := I) (L := L) (a := osF (L (m + 14)) (r + 1)) (by omega)
  rw [o1] at c3
  generalize (L (m + 14) r).toInt.natAbs = N1 at *
  generalize (L (m + 14) 0).toInt.natAbs = N2 at *
  generalize (zev (rl (L (m + 14))) 1).natAbs = N3 at *
  obtain ⟨I0, hI0⟩ : ∃ I0, I0 = mj_up (mj_up (mj_up I m 32 (0 : Int32)) m 33 (0 : Int32)) m 34 (0 : Int32) := ⟨_, rfl⟩
  have hf0 : frD m I L I0 L := ⟨fun b hb => by rw [hI0, up_ne hb, up_ne hb, up_ne hb], fun _ _ _ _ => rfl, fun k a1 a2 a3 => by rw [hI0, up_nk a3, up_nk a2, up_nk a1]⟩
  have d1 : ∀ N, dvc N 1 = 0 := fun N => by
    show 0 + (if 1 ≤ 0 ∧ N % 0 = 0 then 1 else 0) = 0
    rw [if_neg (by omega)]
  obtain ⟨I1, L1, a1, a2, a3, a4, a5, a6⟩ := m_ld81 (S := S) (I := I) (L := L) (N := N1) (N2 := N2) (N3 := N3) hm (by omega) 1 (by omega) (Nat.le_refl _) I0 L hf0 (by rw [d1, hI0, up_nk (by decide), up_nk (by decide), up_eq]; rfl) (by rw [d1]; exact ⟨fun j hj => by omega, fun w h1 h2 => by omega⟩)
  obtain ⟨I2, L2, b1, b2, b3, b4, b5, b6⟩ := m_ld130 (S := S) (I := I) (L := L) (N := N2) (N3 := N3) hm (by omega) 1 (by omega) (Nat.le_refl _) I1 L1 a1 (by rw [d1, a2 33 (by decide), hI0, up_nk (by decide), up_eq]; rfl) (by rw [d1]; exact ⟨fun j hj => by omega, fun w h1 h2 => by omega⟩)
  obtain ⟨I3, L3, e1, e2, e3, e4, e5, e6⟩ := m_ld193 (S := S) (I := I) (L := L) (N := N3) hm hN3 1 (by omega) (Nat.le_refl _) I2 L2 b1 (by rw [d1, b2 34 (by decide), a2 34 (by decide), hI0, up_eq]; rfl) (by rw [d1]; exact ⟨fun j hj => by omega, fun w h1 h2 => by omega⟩)
  refine ⟨I3, L3, wp_X9_layDivisors hm ⟨by rw [h24]; exact vp_in_nI hr6 (by decide), _, _, _, by rw [h24, nI_clamp (by omega)]; exact c1, _, _, _, c2, ?_⟩, e2, by rw [e3 32 (by decide), b2 32 (by decide)]; exact a4, by rw [e3 33 (by decide)]; exact b4, e5, o2, ?_, ?_, e6⟩
  · have key := up_loop (P := fun k => hd_X9_layDivisors_29 S (fun v h => v = none ∧ h = (S, I3, L3)) m (lN N1) (lN N2) (osF (L (m + 14)) k) (nI k) I L) (r + 1)
      (it_X9_layDivisors_29 hm (by
        rw [h24]
        exact ⟨fun _ => ⟨_, _, _, c3, by rw [← hI0]; exact a6 _ (b6 _ e1)⟩, fun h => absurd (nI_lt (by omega) (by omega)) h⟩))
      (fun k hk ih => it_X9_layDivisors_29 hm (by
        rw [h24]
        exact ⟨fun h => absurd h (nI_nlt (by omega) (by omega)), fun _ => ⟨vp_in_nI (by omega) (by decide), fun y hy z hz => by rw [hy, hz, nI_1, nI_clamp (by omega)]; exact ih⟩⟩))
    exact key 0 (Nat.zero_le _)
  · rw [e4 _ (by omega), b3 _ (by omega)]; exact a5
  · rw [e4 _ (by omega)]; exact b5
end
