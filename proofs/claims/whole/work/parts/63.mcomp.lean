/-! THE REFERENCE: sums, products, slopes, shifts -/
variable {S : List mjD} {I : Nat → Nat → Int32} {L : Nat → Nat → Int64}
/-- a product of f with g of degree d, up to the first i places of f -/
def cvq (f g : Nat → Int64) (d : Nat) : Nat → Nat → Int64
  | 0, _ => 0
  | i + 1, k => if i ≤ k ∧ k ≤ i + d then cvq f g d i k + f i * g (k - i) else cvq f g d i k
theorem cvq_p {f g : Nat → Int64} {d : Nat} (hg : ∀ k, d < k → k < 6 → g k = 0) (hd : d < 6) {k : Nat} (hk : k < 6) : ∀ i, cvq f g d i k = cvp f g i k
  | 0 => rfl
  | i + 1 => by
    rw [cvq, cvp, cvq_p hg hd hk i]
    by_cases c1 : i ≤ k
    · rw [if_pos (c := i ≤ k ∧ k ≤ i + 5) ⟨c1, by omega⟩]
      by_cases c2 : k ≤ i + d
      · rw [if_pos ⟨c1, c2⟩]
      · rw [if_neg (fun z => c2 z.2), hg (k - i) (by omega) (by omega)]; simp
    · rw [if_neg (fun z => c1 z.1), if_neg (fun z => c1 z.1)]
theorem cvp_n {f g : Nat → Int64} {n : Nat} (hf : ∀ k, n < k → k < 6 → f k = 0) (k : Nat) : ∀ j, n + 1 + j ≤ 6 → cvp f g (n + 1 + j) k = cvp f g (n + 1) k
  | 0, _ => rfl
  | j + 1, h => by
    show cvp f g (n + 1 + j + 1) k = _
    rw [cvp, cvp_n hf k j (by omega), hf (n + 1 + j) (by omega) (by omega)]
    by_cases c : n + 1 + j ≤ k ∧ k ≤ n + 1 + j + 5
    · rw [if_pos c]; simp
    · rw [if_neg c]
theorem cvq_cv {f g : Nat → Int64} {n d : Nat} (hf : deg6 f n) (hg : deg6 g d) {k : Nat} (hk : k < 6) : cvq f g d (n + 1) k = cv f g k := by
  have hn := hf.1
  rw [cvq_p hg.2.2 hg.1 hk, ← cvp_cv f g hk]
  have := cvp_n (g := g) hf.2.2 k (5 - n) (by omega)
  rw [show n + 1 + (5 - n) = 6 by omega] at this
  exact this.symm
theorem shT_b {g f : Nat → Int64} {b : Int64} {s B : Nat} (hg : (g s).toInt.natAbs ≤ 999) (hb : b.toInt.natAbs ≤ 9) (hf : bnd6 f B) (hB : B ≤ 10 ^ 12) : bnd6 (shT g f b s) (10 * B + 999) := fun k hk => by
  have h1 := hf k hk
  have h2 : b.toInt.natAbs * (f k).toInt.natAbs ≤ 9 * B := Nat.mul_le_mul hb h1
  have h3 : (b * f k).toInt.natAbs ≤ 9 * B := by rw [t_mul (by omega), Int.natAbs_mul]; exact h2
  unfold shT
  by_cases e : k = 0
  · subst e
    rw [if_pos rfl, Int64.add_zero, t_add (by omega) (by omega)]; omega
  · have h4 := hf (k - 1) (by omega)
    rw [if_neg e, t_add (by omega) (by omega)]; omega
theorem sh6_b {g : Nat → Int64} {b : Int64} (hg : bnd6 g 999) (hb : b.toInt.natAbs ≤ 9) : bnd6 (sh6 g b) 1000000000 := by
  have h0 : bnd6 (fun _ => (0 : Int64)) 0 := fun k _ => Nat.le_refl _
  have h1 := shT_b (s := 5) (hg 5 (by decide)) hb h0 (by decide)
  have h2 := shT_b (s := 4) (hg 4 (by decide)) hb h1 (by decide)
  have h3 := shT_b (s := 3) (hg 3 (by decide)) hb h2 (by decide)
  have h4 := shT_b (s := 2) (hg 2 (by decide)) hb h3 (by decide)
  have h5 := shT_b (s := 1) (hg 1 (by decide)) hb h4 (by decide)
  have h6 := shT_b (s := 0) (hg 0 (by decide)) hb h5 (by decide)
  exact fun k hk => Nat.le_trans (h6 k hk) (by decide)
theorem shF_n {g : Nat → Int64} {b : Int64} {n : Nat} (hz : ∀ k, n < k → k < 6 → g k = 0) : ∀ j, n + 1 + j ≤ 6 → ∀ k, k < 6 → shF g b (n + 1 + j) (fun _ => 0) k = shF g b (n + 1) (fun _ => 0) k
  | 0, _, _, _ => rfl
  | j + 1, h, k, hk => by
    show shF g b (n + 1 + j + 1) (fun _ => 0) k = _
    rw [shF, ← shF_n hz j (by omega) k hk]
    refine shF_congr g b _ _ _ (fun t ht => ?_) k hk
    unfold shT
    rw [hz (n + 1 + j) (by omega) (by omega)]
    by_cases e : t = 0
    · rw [if_pos e]; simp
    · rw [if_neg e]; simp
theorem one_some {x : Nat} : (if (some x).isSome = true then (1 : Int32) else 0) = 1 := rfl
section
variable {m : Nat} {A : aS}
theorem m_timesHad (hm : is_Model S m) {j : Nat} (hj : j < 6) : CTv mr_X9_timesHad [.ref m, .int (nI j)] S I L I (mwn (mwn L (m + 21) 12 (cvp (L (m + 10)) (fun k => L (m + 23) (6 * j + k)) 6)) (m + 10) 6 (cv (L (m + 10)) (fun k => L (m + 23) (6 * j + k)))) := by
  obtain ⟨f, hf⟩ : ∃ f, f = L (m + 10) := ⟨_, rfl⟩
  obtain ⟨g, hg⟩ : ∃ g, g = fun k => L (m + 23) (6 * j + k) := ⟨_, rfl⟩
  rw [← hf, ← hg]
  obtain ⟨L3, hL3⟩ : ∃ L3, L3 = mwn (mwn L (m + 21) 12 (cvp f g 6)) (m + 10) 6 (cv f g) := ⟨_, rfl⟩
  rw [← hL3]
  have n1 : m + 21 ≠ m + 10 := by omega
  have n2 : m + 10 ≠ m + 21 := by omega
  have n3 : m + 23 ≠ m + 21 := by omega
  have h80 := up_loop (P := fun i => hd_X9_timesHad_80 S (fun v h => v = none ∧ h = (S, I, L3)) m (nI i) I (mwn (mwn L (m + 21) 12 (cvp f g 6)) (m + 10) i (cv f g))) 6
    (it_X9_timesHad_80 hm (ge_t (k := 6) (Nat.le_refl _) (by decide) ⟨rfl, by rw [hL3]⟩))
    (fun i hi ih => it_X9_timesHad_80 hm (ge_f (k := 6) hi (by decide) ⟨vp_in_nI (by omega) (by decide), vp_in_nI hi (by decide), fun y hy => by
      rw [hy, nI_1, nI_clamp (by omega), mwn_s _ _ _ (cv f g) _ (by rw [mwn_ne n1, mwn_at (by omega)]; exact cvp_cv f g hi)]; exact ih⟩))
  have h31 : ∀ i, i < 6 → hd_X9_timesHad_23 S (fun v h => v = none ∧ h = (S, I, L3)) m (nI j) (nI (i + 1)) I (mwn L (m + 21) 12 (cvp f g (i + 1))) → ∀ q, q ≤ 6 → hd_X9_timesHad_31 S (fun v h => v = none ∧ h = (S, I, L3)) m (nI j) (nI i) (nI q) I (mwn L (m + 21) 12 (fun t => if t < i + q then cvp f g (i + 1) t else cvp f g i t)) := fun i hi h =>
    up_loop 6 (it_X9_timesHad_31 hm (ge_t (k := 6) (Nat.le_refl _) (by decide) (fun y hy => by
      have e : mwn L (m + 21) 12 (fun t => if t < i + 6 then cvp f g (i + 1) t else cvp f g i t) = mwn L (m + 21) 12 (cvp f g (i + 1)) := mwn_congr (fun t ht => by
        by_cases c : t < i + 6
        · rw [if_pos c]
        · rw [if_neg c, cvp, if_neg (by omega)])
      rw [hy, nI_1, e]; exact h))) (fun q hq ih => it_X9_timesHad_31 hm (ge_f (k := 6) hq (by decide) (by
        rw [nI_add, nI_6]
        refine ⟨vp_in_nI (by omega) (by decide), vp_in_nI hi (by decide), vp_in_nI (by omega) (by decide), vp_in_nI (by omega) (by decide), fun y hy => ?_⟩
        have e : mwn L (m + 21) 12 (fun t => if t < i + (q + 1) then cvp f g (i + 1) t else cvp f g i t) = mj_up (mwn L (m + 21) 12 (fun t => if t < i + q then cvp f g (i + 1) t else cvp f g i t)) (m + 21) (i + q) (mwn L (m + 21) 12 (fun t => if t < i + q then cvp f g (i + 1) t else cvp f g i t) (m + 21) (i + q) + mwn L (m + 21) 12 (fun t => if t < i + q then cvp f g (i + 1) t else cvp f g i t) (m + 10) i * mwn L (m + 21) 12 (fun t => if t < i + q then cvp f g (i + 1) t else cvp f g i t) (m + 23) (6 * j + q)) := by
          rw [mwn_at (show i + q < 12 by omega), mwn_ne n2, mwn_ne n3, mwn_up (by omega)]
          refine mwn_congr (fun t ht => ?_)
          by_cases c : t = i + q
          · rw [if_pos c, if_pos (by omega), if_neg (by omega), cvp, if_pos (by omega), c, show i + q - i = q by omega, hf, hg]
          · rw [if_neg c]
            by_cases c2 : t < i + q
            · rw [if_pos c2, if_pos (by omega)]
            · rw [if_neg c2, if_neg (by omega)]
        rw [hy, nI_1, nI_clamp (show i + q < 2 ^ 31 by omega), nI_clamp (show 6 * j + q < 2 ^ 31 by omega), nI_clamp (show i < 2 ^ 31 by omega), ← e]
        exact ih)))
  have h23 := up_loop (P := fun i => hd_X9_timesHad_23 S (fun v h => v = none ∧ h = (S, I, L3)) m (nI j) (nI i) I (mwn L (m + 21) 12 (cvp f g i))) 6
    (it_X9_timesHad_23 hm (ge_t (k := 6) (Nat.le_refl _) (by decide) (by have := h80 0 (Nat.zero_le _); rw [mwn_0] at this; exact this)))
    (fun i hi ih => it_X9_timesHad_23 hm (ge_f (k := 6) hi (by decide) (by
      have := h31 i hi ih 0 (Nat.zero_le _)
      have e : mwn L (m + 21) 12 (fun t => if t < i + 0 then cvp f g (i + 1) t else cvp f g i t) = mwn L (m + 21) 12 (cvp f g i) := mwn_congr (fun t ht => by
        by_cases c : t < i + 0
        · rw [if_pos c, cvp, if_neg (by omega)]
        · rw [if_neg c])
      rw [e] at this; exact this)))
  have h2 := up_loop (P := fun i => hd_X9_timesHad_2 S (fun v h => v = none ∧ h = (S, I, L3)) m (nI j) (nI i) I (mwn L (m + 21) i (cvp f g 0))) 12
    (it_X9_timesHad_2 hm (ge_t (k := 12) (Nat.le_refl _) (by decide) (h23 0 (Nat.zero_le _))))
    (fun i hi ih => it_X9_timesHad_2 hm (ge_f (k := 12) hi (by decide) ⟨vp_in_nI hi (by decide), fun y hy => by
      rw [hy, nI_1, nI_clamp (by omega), mwn_s _ _ _ (cvp f g 0) (0 : Int64) rfl]; exact ih⟩))
  have := h2 0 (Nat.zero_le _)
  rw [mwn_0] at this
  exact wp_X9_timesHad hm this
theorem IM_s {L1 : Nat → Nat → Int64} (h : IM m A I L) (hs : ∀ b, b ≠ m + 10 → b ≠ m + 21 → L1 b = L b) : IM m A I L1 :=
  IM_sc h ⟨fun b hb => ⟨rfl, hs b (by omega) (by omega)⟩, fun _ _ => rfl⟩ (cache_eq h.2.2.2.2.2.2 rfl rfl rfl rfl (hs _ (by omega) (by omega)) (hs _ (by omega) (by omega)))
theorem IM_w {f : Nat → Int64} {n : Nat} (h : IM m A I L) : IM m A I (mwn L (m + 10) n f) := IM_s h (fun b h1 _ => mwn_ne h1)
theorem frM_w {f : Nat → Int64} {n : Nat} {I1 : Nat → Nat → Int32} {L1 : Nat → Nat → Int64} (h : fr (moX m) I (mwn L (m + 10) n f) I1 L1) : fr (moX m) I L I1 L1 := fun b hb => by
  have hx : ¬ (m ≤ b ∧ b < m + 33) := hb
  have := h b hb
  rw [mwn_ne (by omega)] at this
  exact this
theorem m_rd {i t : Nat} (h : IM m A I L) (hi : i < 4) (hf : cf (ac A) i = true) (ht : t < 6) : L (m + 2) (6 * i + t) = cp (ac A) i t := ((h.2.2.2.1.1 i hi).2.2 hf).2 t ht
theorem m_dg {i : Nat} (h : IM m A I L) (hi : i < 4) (hf : cf (ac A) i = true) : I (m + 3) i = dg (cp (ac A) i) := ((h.2.2.2.1.1 i hi).2.2 hf).1
theorem m_laySlot {j : Nat} (hm : is_Model S m) (h : IM m A I L) (hj : j < 4) (hf : cf (ac A) j = true) : CTv mr_X9_laySlot [.ref m, .int (nI j)] S I L I (mwn L (m + 10) 6 (cp (ac A) j)) := by
  have n1 : m + 2 ≠ m + 10 := by omega
  have key := up_loop (P := fun i => hd_X9_laySlot_2 S (fun v h => v = none ∧ h = (S, I, mwn L (m + 10) 6 (cp (ac A) j))) m (nI j) (nI i) I (mwn L (m + 10) i (cp (ac A) j))) 6
    (it_X9_laySlot_2 hm (ge_t (k := 6) (Nat.le_refl _) (by decide) ⟨rfl, rfl⟩))
    (fun i hi ih => it_X9_laySlot_2 hm (ge_f (k := 6) hi (by decide) (by
      rw [nI_6]
      refine ⟨vp_in_nI (by omega) (by decide), vp_in_nI hi (by decide), fun y hy => ?_⟩
      rw [hy, nI_1, nI_clamp (show i < 2 ^ 31 by omega), nI_clamp (show 6 * j + i < 2 ^ 31 by omega), mwn_s _ _ _ (cp (ac A) j) _ (by rw [mwn_ne n1]; exact m_rd h hj hf hi)]
      exact ih)))
  have := key 0 (Nat.zero_le _)
  rw [mwn_0] at this
  exact wp_X9_laySlot hm this
theorem m_add (hm : is_Model S m) (hA : aOK A) (h : IM m A I L) (a b c : Int32) : ∃ I1 L1, CTi mr_X9_add [.ref m, .int a, .int b, .int c] S I L (sp_add A a b c).1 I1 L1 ∧ IM m (sp_add A a b c).2 I1 L1 ∧ fr (moX m) I L I1 L1 := by
  have ha := m_isFilled (S := S) (I := I) (L := L) hm hA h.2.1 h.2.2.2.1 a
  have hb := m_isFilled (S := S) (I := I) (L := L) hm hA h.2.1 h.2.2.2.1 b
  have hc := m_isSlot (S := S) (I := I) (L := L) hm hA h.2.1 c
  unfold sp_add
  cases ea : fIdx A a with
  | none =>
    rw [ea] at ha
    exact ⟨I, L, wp_X9_add hm ⟨_, _, _, ha, fun _ => ⟨rfl, rfl⟩, fun q => absurd rfl q⟩, h, fr_rf⟩
  | some i =>
    obtain ⟨rfl, -, i4, if'⟩ := fIdx_some hA ea
    rw [ea, one_some] at ha
    cases eb : fIdx A b with
    | none =>
      rw [eb] at hb
      exact ⟨I, L, wp_X9_add hm ⟨_, _, _, ha, fun q => absurd q (by decide), fun _ => ⟨_, _, _, hb, fun _ => ⟨rfl, rfl⟩, fun q => absurd rfl q⟩⟩, h, fr_rf⟩
    | some j =>
      obtain ⟨rfl, -, j4, jf'⟩ := fIdx_some hA eb
      rw [eb, one_some] at hb
      cases ec : sIdx A c with
      | none =>
        rw [ec] at hc
        exact ⟨I, L, wp_X9_add hm ⟨_, _, _, ha, fun q => absurd q (by decide), fun _ => ⟨_, _, _, hb, fun q => absurd q (by decide), fun _ => ⟨_, _, _, hc, fun q => absurd rfl q, fun _ => ⟨rfl, rfl⟩⟩⟩⟩, h, fr_rf⟩
      | some k =>
        obtain ⟨rfl, -, k4⟩ := sIdx_some hA ec
        rw [ec, one_some] at hc
        have oi := (hA.2.2.2.2.1.1 i i4).2 if'
        have oj := (hA.2.2.2.2.1.1 j j4).2 jf'
        simp only
        generalize hW : pSum (cp (ac A) i) (cp (ac A) j) = W
        have hWt : ∀ t, W t = cp (ac A) i t + cp (ac A) j t := fun t => by rw [← hW]; rfl
        have n1 : m + 2 ≠ m + 10 := by omega
        have loop : ∀ RET : Option Value → mjH → Prop, hd_X9_add_30 S RET m (nI i) (nI j) (nI k) (nI 6) I (mwn L (m + 10) 6 W) → ∀ t, t ≤ 6 → hd_X9_add_30 S RET m (nI i) (nI j) (nI k) (nI t) I (mwn L (m + 10) t W) := fun RET h6 => up_loop 6 h6 (fun t ht ih => it_X9_add_30 hm (ge_f (k := 6) ht (by decide) (by
          rw [nI_6, nI_6]
          refine ⟨vp_in_nI (by omega) (by decide), vp_in_nI (by omega) (by decide), vp_in_nI ht (by decide), fun y hy => ?_⟩
          rw [hy, nI_1, nI_clamp (show t < 2 ^ 31 by omega), nI_clamp (show 6 * i + t < 2 ^ 31 by omega), nI_clamp (show 6 * j + t < 2 ^ 31 by omega), mwn_s _ _ _ W _ (by rw [mwn_ne n1, m_rd h i4 if' ht, m_rd h j4 jf' ht, hWt])]
          exact ih)))
        have d1 := m_degreeNow (S := S) (I := I) (L := mwn L (m + 10) 6 W) hm
        rw [dg_ext (g := W) (fun t ht => mwn_at ht)] at d1
        by_cases e : dg W = -1
        · rw [if_pos e]
          have := loop (fun v h => v = some (.int (-103)) ∧ h = (S, I, mwn L (m + 10) 6 W)) (it_X9_add_30 hm (ge_t (k := 6) (Nat.le_refl _) (by decide) ⟨_, _, _, d1, fun q => absurd e q, fun _ => ⟨rfl, rfl⟩⟩)) 0 (Nat.zero_le _)
          rw [mwn_0] at this
          exact ⟨_, _, wp_X9_add hm ⟨_, _, _, ha, fun q => absurd q (by decide), fun _ => ⟨_, _, _, hb, fun q => absurd q (by decide), fun _ => ⟨_, _, _, hc, fun _ => this, fun q => absurd q (by decide)⟩⟩⟩, IM_w h, frM_w fr_rf⟩
        · rw [if_neg e]
          obtain ⟨I1, L1, k1, k2, k3⟩ := m_keep (S := S) (W := W) hm hA (IM_w (f := W) (n := 6) h) k4 (fun t ht => mwn_at ht) (nz_dg e) (fun t ht => by
            have b1 := oi.1 t ht
            have b2 := oj.1 t ht
            rw [hWt, t_add (by omega) (by omega)]; omega)
          have := loop (fun v h => v = some (.int (sp_settle A k W).1) ∧ h = (S, I1, L1)) (it_X9_add_30 hm (ge_t (k := 6) (Nat.le_refl _) (by decide) ⟨_, _, _, d1, fun _ => ⟨_, _, _, k1, rfl, rfl⟩, fun q => absurd q e⟩)) 0 (Nat.zero_le _)
          rw [mwn_0] at this
          exact ⟨_, _, wp_X9_add hm ⟨_, _, _, ha, fun q => absurd q (by decide), fun _ => ⟨_, _, _, hb, fun q => absurd q (by decide), fun _ => ⟨_, _, _, hc, fun _ => this, fun q => absurd q (by decide)⟩⟩⟩, k2, frM_w k3⟩
theorem m_slope (hm : is_Model S m) (hA : aOK A) (h : IM m A I L) (a b : Int32) : ∃ I1 L1, CTi mr_X9_slope [.ref m, .int a, .int b] S I L (sp_slope A a b).1 I1 L1 ∧ IM m (sp_slope A a b).2 I1 L1 ∧ fr (moX m) I L I1 L1 := by
  have ha := m_isFilled (S := S) (I := I) (L := L) hm hA h.2.1 h.2.2.2.1 a
  have hb := m_isSlot (S := S) (I := I) (L := L) hm hA h.2.1 b
  unfold sp_slope
  cases ea : fIdx A a with
  | none =>
    rw [ea] at ha
    exact ⟨I, L, wp_X9_slope hm ⟨_, _, _, ha, fun _ => ⟨rfl, rfl⟩, fun q => absurd rfl q⟩, h, fr_rf⟩
  | some i =>
    obtain ⟨rfl, -, i4, if'⟩ := fIdx_some hA ea
    rw [ea, one_some] at ha
    cases eb : sIdx A b with
    | none =>
      rw [eb] at hb
      exact ⟨I, L, wp_X9_slope hm ⟨_, _, _, ha, fun q => absurd q (by decide), fun _ => ⟨_, _, _, hb, fun q => absurd rfl q, fun _ => ⟨rfl, rfl⟩⟩⟩, h, fr_rf⟩
    | some k =>
      obtain ⟨rfl, -, k4⟩ := sIdx_some hA eb
      rw [eb, one_some] at hb
      have oi := (hA.2.2.2.2.1.1 i i4).2 if'
      have hdg := m_dg h i4 if'
      obtain ⟨n, n6, hn, hdn⟩ := dg_pos oi
      simp only
      rw [hn] at hdg
      rw [hn]
      by_cases e : n = 0
      · have e1 : ¬ (1 : Int32) ≤ nI n := fun q => absurd ((nI_leI (a := 1) (by decide) (by omega)).mp q) (by omega)
        rw [if_neg e1]
        refine ⟨I, L, wp_X9_slope hm ⟨_, _, _, ha, fun q => absurd q (by decide), fun _ => ⟨_, _, _, hb, fun _ => ⟨vp_in_nI i4 (by decide), fun q => absurd ?_ q, fun _ => ⟨rfl, rfl⟩⟩, fun q => absurd q (by decide)⟩⟩, h, fr_rf⟩
        rw [nI_clamp (by omega), hdg, e]; rfl
      · have e1 : (1 : Int32) ≤ nI n := (nI_leI (a := 1) (by decide) (by omega)).mpr (by omega)
        rw [if_pos e1]
        generalize hW : pDer (cp (ac A) i) = W
        have hWt : ∀ t, t < 5 → W t = cp (ac A) i (t + 1) * (nI (t + 1)).toInt64 := fun t ht => by
          rw [← hW]
          unfold pDer
          rw [nI_1, pat_n (by omega), Int64.mul_comm]
        have hW5 : W 5 = 0 := by
          rw [← hW]
          unfold pDer
          rw [nI_1, pat_hi (by omega) (by decide)]; simp
        have n1 : m + 2 ≠ m + 10 := by omega
        obtain ⟨Z, hZ⟩ : ∃ Z, Z = mwn L (m + 10) 6 (fun k => if k = 0 then (0 : Int64) else 0) := ⟨_, rfl⟩
        have z1 := m_become (S := S) (I := I) (L := L) hm 0
        rw [← hZ] at z1
        have Zr : ∀ b, b ≠ m + 10 → Z b = L b := fun b hb => by rw [hZ, mwn_ne hb]
        have hrow : ∀ t, t < 6 → mwn Z (m + 10) 5 W (m + 10) t = W t := fun t ht => by
          by_cases c : t < 5
          · rw [mwn_at c]
          · have e5 : t = 5 := by omega
            subst e5
            rw [mwn_rd, hZ, mwn_at ht, hW5]; rfl
        have hIM : IM m A I (mwn Z (m + 10) 5 W) := IM_s h (fun b h1 _ => by rw [mwn_ne h1, Zr b h1])
        obtain ⟨I1, L1, k1, k2, k3⟩ := m_keep (S := S) (W := W) hm hA hIM k4 hrow (by rw [← hW]; exact nz_der oi.1 hdn (by omega)) (fun t ht => by
          by_cases c : t < 5
          · have b1 := oi.1 (t + 1) (by omega)
            have b2 : ((nI (t + 1)).toInt64).toInt.natAbs ≤ 5 := by rw [nI_l (by omega), t_lN (by omega)]; omega
            have b3 : (cp (ac A) i (t + 1)).toInt.natAbs * ((nI (t + 1)).toInt64).toInt.natAbs ≤ 999 * 5 := Nat.mul_le_mul b1 b2
            have b4 : (W t).toInt.natAbs ≤ 999 * 5 := by rw [hWt t c, t_mul (by omega), Int.natAbs_mul]; exact b3
            omega
          · have e5 : t = 5 := by omega
            subst e5
            rw [hW5]; decide)
        have key := up_loop (P := fun t => 1 ≤ t → hd_X9_slope_38 S (fun v h => v = some (.int (sp_settle A k W).1) ∧ h = (S, I1, L1)) m (nI i) (nI k) (nI t) I (mwn Z (m + 10) (t - 1) W)) 6
          (fun _ => it_X9_slope_38 hm (ge_t (k := 6) (Nat.le_refl _) (by decide) ⟨_, _, _, k1, rfl, rfl⟩))
          (fun t ht ih h1 => it_X9_slope_38 hm (ge_f (k := 6) ht (by decide) (by
            obtain ⟨s, rfl⟩ : ∃ s, t = s + 1 := ⟨t - 1, by omega⟩
            have es : nI (s + 1) - (1 : Int32) = nI s := pk_sub (a := s + 1) (b := 1) (by omega)
            rw [nI_6, es]
            refine ⟨vp_in_nI (by omega) (by decide), vp_in_nI (by omega) (by decide), fun y hy => ?_⟩
            have := ih (by omega)
            rw [hy, nI_1, nI_clamp (show s < 2 ^ 31 by omega), nI_clamp (show 6 * i + (s + 1) < 2 ^ 31 by omega), Nat.add_sub_cancel, mwn_s _ _ _ W _ (by rw [mwn_ne n1, Zr _ n1, m_rd h i4 if' (show s + 1 < 6 by omega), hWt s (by omega)])]
            exact this)))
        have := key 1 (by decide) (Nat.le_refl _)
        rw [Nat.sub_self, mwn_0] at this
        refine ⟨I1, L1, wp_X9_slope hm ⟨_, _, _, ha, fun q => absurd q (by decide), fun _ => ⟨_, _, _, hb, fun _ => ⟨vp_in_nI i4 (by decide), fun _ => ⟨_, _, z1, this⟩, fun q => absurd ?_ e⟩, fun q => absurd q (by decide)⟩⟩, k2, ?_⟩
        · rw [nI_clamp (by omega), hdg] at q
          exact (nI_eq (b := 0) (by omega) (by decide)).mp q
        · have := frM_w k3
          rw [hZ] at this
          exact frM_w this
end
