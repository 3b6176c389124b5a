/-! THE REFERENCE: products and shifts -/
variable {S : List mjD} {I : Nat → Nat → Int32} {L : Nat → Nat → Int64}
section
variable {m : Nat} {A : aS}
theorem m_timesOp (hm : is_Model S m) (hA : aOK A) (h : IM m A I L) (a b c : Int32) : ∃ I1 L1, CTi mr_X9_times [.ref m, .int a, .int b, .int c] S I L (sp_times A a b c).1 I1 L1 ∧ IM m (sp_times A a b c).2 I1 L1 ∧ fr (moX m) I L I1 L1 := by
  have ha := m_isFilled (S := S) (I := I) (L := L) hm hA h.2.1 h.2.2.2.1 a
  have hb := m_isFilled (S := S) (I := I) (L := L) hm hA h.2.1 h.2.2.2.1 b
  have hc := m_isSlot (S := S) (I := I) (L := L) hm hA h.2.1 c
  unfold sp_times
  cases ea : fIdx A a with
  | none =>
    rw [ea] at ha
    exact ⟨I, L, wp_X9_times hm ⟨_, _, _, ha, fun _ => ⟨rfl, rfl⟩, fun q => absurd rfl q⟩, h, fr_rf⟩
  | some i =>
    obtain ⟨rfl, -, i4, if'⟩ := fIdx_some hA ea
    rw [ea, one_some] at ha
    cases eb : fIdx A b with
    | none =>
      rw [eb] at hb
      exact ⟨I, L, wp_X9_times hm ⟨_, _, _, ha, fun q => absurd q (by decide), fun _ => ⟨_, _, _, hb, fun _ => ⟨rfl, rfl⟩, fun q => absurd rfl q⟩⟩, h, fr_rf⟩
    | some j =>
      obtain ⟨rfl, -, j4, jf'⟩ := fIdx_some hA eb
      rw [eb, one_some] at hb
      cases ec : sIdx A c with
      | none =>
        rw [ec] at hc
        exact ⟨I, L, wp_X9_times hm ⟨_, _, _, ha, fun q => absurd q (by decide), fun _ => ⟨_, _, _, hb, fun q => absurd q (by decide), fun _ => ⟨_, _, _, hc, fun q => absurd rfl q, fun _ => ⟨rfl, rfl⟩⟩⟩⟩, h, fr_rf⟩
      | some k =>
        obtain ⟨rfl, -, k4⟩ := sIdx_some hA ec
        rw [ec, one_some] at hc
        have oi := (hA.2.2.2.2.1.1 i i4).2 if'
        have oj := (hA.2.2.2.2.1.1 j j4).2 jf'
        have hgi := m_dg h i4 if'
        have hgj := m_dg h j4 jf'
        have rdi := fun t (ht : t < 6) => m_rd h i4 if' ht
        have rdj := fun t (ht : t < 6) => m_rd h j4 jf' ht
        obtain ⟨n, n6, hn, hdn⟩ := dg_pos oi
        obtain ⟨d, d6, hd, hdd⟩ := dg_pos oj
        simp only
        rw [hn] at hgi
        rw [hd] at hgj
        rw [hn, hd]
        generalize cp (ac A) i = f at *
        generalize cp (ac A) j = g at *
        have e1 : I (m + 3) (nI i).toNatClampNeg + I (m + 3) (nI j).toNatClampNeg = nI n + nI d := by rw [nI_clamp (by omega), nI_clamp (by omega), hgi, hgj]
        have vi : vp_in (nI i) 4 := vp_in_nI i4 (by decide)
        have vj : vp_in (nI j) 4 := vp_in_nI j4 (by decide)
        by_cases c5 : n + d ≤ 5
        · have l5 : nI n + nI d ≤ (5 : Int32) := by rw [nI_add]; exact (nI_leI (b := 5) (by omega) (by decide)).mpr c5
          rw [if_pos l5]
          have n1 : m + 2 ≠ m + 10 := by omega
          have z1 := m_become (S := S) (I := I) (L := L) hm 0
          have e0 : mwn L (m + 10) 6 (fun k => if k = 0 then (0 : Int64) else 0) = mwn L (m + 10) 6 (cvq f g d 0) := mwn_congr (fun t _ => by simp [cvq])
          rw [e0] at z1
          have hs : sA f ≤ 6 * 999 := by
            have b0 := oi.1 0 (by decide); have b1 := oi.1 1 (by decide); have b2 := oi.1 2 (by decide)
            have b3 := oi.1 3 (by decide); have b4 := oi.1 4 (by decide); have b5 := oi.1 5 (by decide)
            unfold sA; omega
          have hs2 : sA f * 999 ≤ 6 * 999 * 999 := Nat.mul_le_mul_right _ hs
          obtain ⟨I1, L1, k1, k2, k3⟩ := m_keep (S := S) (W := cv f g) hm hA (IM_w (f := cvq f g d (n + 1)) (n := 6) h) k4 (fun t ht => by rw [mwn_at ht]; exact cvq_cv hdn hdd ht) (nz_cv oi.1 oj.1 hdn hdd c5) (fun t ht => by
            have := (cv_int (f := f) (g := g) oj.1 (by omega) (k := t) ht).2
            omega)
          have h55 := up_loop (P := fun s => hd_X9_times_55 S (fun v h => v = some (.int (sp_settle A k (cv f g)).1) ∧ h = (S, I1, L1)) m (nI i) (nI j) (nI k) (nI s) I (mwn L (m + 10) 6 (cvq f g d s))) (n + 1)
            (it_X9_times_55 hm ⟨vi, by
              rw [nI_clamp (show i < 2 ^ 31 by omega), hgi]
              exact ⟨fun _ => ⟨_, _, _, k1, rfl, rfl⟩, fun q => absurd ((nI_ltI (by omega) (by omega)).mpr (by omega)) q⟩⟩)
            (fun s hs1 ih => it_X9_times_55 hm ⟨vi, by
              rw [nI_clamp (show i < 2 ^ 31 by omega), hgi]
              refine ⟨fun q => absurd ((nI_ltI (by omega) (by omega)).mp q) (by omega), fun _ => ?_⟩
              have h69 := up_loop (P := fun t => hd_X9_times_69 S (fun v h => v = some (.int (sp_settle A k (cv f g)).1) ∧ h = (S, I1, L1)) m (nI i) (nI j) (nI k) (nI s) (nI t) I (mwn L (m + 10) 6 (fun x => if x < s + t then cvq f g d (s + 1) x else cvq f g d s x))) (d + 1)
                (it_X9_times_69 hm ⟨vj, by
                  rw [nI_clamp (show j < 2 ^ 31 by omega), hgj]
                  refine ⟨fun _ y hy => ?_, fun q => absurd ((nI_ltI (by omega) (by omega)).mpr (by omega)) q⟩
                  have e : mwn L (m + 10) 6 (fun x => if x < s + (d + 1) then cvq f g d (s + 1) x else cvq f g d s x) = mwn L (m + 10) 6 (cvq f g d (s + 1)) := mwn_congr (fun x hx => by
                    by_cases c : x < s + (d + 1)
                    · rw [if_pos c]
                    · rw [if_neg c, cvq, if_neg (by omega)])
                  rw [hy, nI_1, e]; exact ih⟩)
                (fun t ht ih2 => it_X9_times_69 hm ⟨vj, by
                  rw [nI_clamp (show j < 2 ^ 31 by omega), hgj]
                  refine ⟨fun q => absurd ((nI_ltI (by omega) (by omega)).mp q) (by omega), fun _ => ?_⟩
                  rw [nI_add, nI_6, nI_6]
                  refine ⟨vp_in_nI (by omega) (by decide), vp_in_nI (by omega) (by decide), vp_in_nI (by omega) (by decide), vp_in_nI (by omega) (by decide), fun y hy => ?_⟩
                  have e : mwn L (m + 10) 6 (fun x => if x < s + (t + 1) then cvq f g d (s + 1) x else cvq f g d s x) = mj_up (mwn L (m + 10) 6 (fun x => if x < s + t then cvq f g d (s + 1) x else cvq f g d s x)) (m + 10) (s + t) (mwn L (m + 10) 6 (fun x => if x < s + t then cvq f g d (s + 1) x else cvq f g d s x) (m + 10) (s + t) + mwn L (m + 10) 6 (fun x => if x < s + t then cvq f g d (s + 1) x else cvq f g d s x) (m + 2) (6 * i + s) * mwn L (m + 10) 6 (fun x => if x < s + t then cvq f g d (s + 1) x else cvq f g d s x) (m + 2) (6 * j + t)) := by
                    rw [mwn_at (show s + t < 6 by omega), mwn_ne n1, rdi s (by omega), rdj t (by omega), mwn_up (by omega)]
                    refine mwn_congr (fun x hx => ?_)
                    by_cases c : x = s + t
                    · rw [if_pos c, if_pos (by omega), if_neg (by omega), cvq, if_pos (by omega), c, show s + t - s = t by omega]
                    · rw [if_neg c]
                      by_cases c2 : x < s + t
                      · rw [if_pos c2, if_pos (by omega)]
                      · rw [if_neg c2, if_neg (by omega)]
                  rw [hy, nI_1, nI_clamp (show s + t < 2 ^ 31 by omega), nI_clamp (show 6 * i + s < 2 ^ 31 by omega), nI_clamp (show 6 * j + t < 2 ^ 31 by omega), ← e]
                  exact ih2⟩)
              have := h69 0 (Nat.zero_le _)
              have e : mwn L (m + 10) 6 (fun x => if x < s + 0 then cvq f g d (s + 1) x else cvq f g d s x) = mwn L (m + 10) 6 (cvq f g d s) := mwn_congr (fun x hx => by
                by_cases c : x < s + 0
                · rw [if_pos c, cvq, if_neg (by omega)]
                · rw [if_neg c])
              rw [e] at this
              exact this⟩)
          have := h55 0 (Nat.zero_le _)
          exact ⟨I1, L1, wp_X9_times hm ⟨_, _, _, ha, fun q => absurd q (by decide), fun _ => ⟨_, _, _, hb, fun q => absurd q (by decide), fun _ => ⟨_, _, _, hc, fun _ => ⟨vi, vj, fun _ => ⟨_, _, z1, this⟩, fun q => absurd (by rw [e1]; exact l5) q⟩, fun q => absurd q (by decide)⟩⟩⟩, k2, frM_w k3⟩
        · have l5 : ¬ nI n + nI d ≤ (5 : Int32) := by rw [nI_add]; exact fun q => c5 ((nI_leI (b := 5) (by omega) (by decide)).mp q)
          rw [if_neg l5]
          exact ⟨I, L, wp_X9_times hm ⟨_, _, _, ha, fun q => absurd q (by decide), fun _ => ⟨_, _, _, hb, fun q => absurd q (by decide), fun _ => ⟨_, _, _, hc, fun _ => ⟨vi, vj, fun q => absurd (by rw [← e1]; exact q) l5, fun _ => ⟨rfl, rfl⟩⟩, fun q => absurd q (by decide)⟩⟩⟩, h, fr_rf⟩
theorem m_move (hm : is_Model S m) (hA : aOK A) (h : IM m A I L) (a b c : Int32) : ∃ I1 L1, CTi mr_X9_move [.ref m, .int a, .int b, .int c] S I L (sp_move A a b c).1 I1 L1 ∧ IM m (sp_move A a b c).2 I1 L1 ∧ fr (moX m) I L I1 L1 := by
  have ha := m_isFilled (S := S) (I := I) (L := L) hm hA h.2.1 h.2.2.2.1 a
  have hc := m_isSlot (S := S) (I := I) (L := L) hm hA h.2.1 c
  have hw := m_w (S := S) (I := I) (L := L) b (lo := -9) (hi := 9) (-9) 9 rfl rfl
  have l1 := lt_i (a := b) (k := -9) (n := -9) rfl
  have l2 := ge_i (a := b) (k := 9) (n := 9) rfl
  unfold sp_move
  cases ea : fIdx A a with
  | none =>
    rw [ea] at ha
    exact ⟨I, L, wp_X9_move hm ⟨_, _, _, ha, fun _ => ⟨rfl, rfl⟩, fun q => absurd rfl q⟩, h, fr_rf⟩
  | some i =>
    obtain ⟨rfl, -, i4, if'⟩ := fIdx_some hA ea
    rw [ea, one_some] at ha
    cases ec : sIdx A c with
    | none =>
      rw [ec] at hc
      exact ⟨I, L, wp_X9_move hm ⟨_, _, _, ha, fun q => absurd q (by decide), fun _ => ⟨_, _, _, hc, fun q => absurd rfl q, fun _ => ⟨rfl, rfl⟩⟩⟩, h, fr_rf⟩
    | some k =>
      obtain ⟨rfl, -, k4⟩ := sIdx_some hA ec
      rw [ec, one_some] at hc
      have oi := (hA.2.2.2.2.1.1 i i4).2 if'
      have hgi := m_dg h i4 if'
      have rdi := fun t (ht : t < 6) => m_rd h i4 if' ht
      obtain ⟨n, n6, hn, hdn⟩ := dg_pos oi
      simp only
      rw [hn] at hgi
      generalize cp (ac A) i = g at *
      by_cases b1 : b < -9
      · rw [if_pos b1]
        rw [if_pos (Or.inl (l1.mp b1))] at hw
        exact ⟨I, L, wp_X9_move hm ⟨_, _, _, ha, fun q => absurd q (by decide), fun _ => ⟨_, _, _, hc, fun _ => ⟨_, _, _, hw, fun q => absurd rfl q, fun _ => ⟨rfl, rfl⟩⟩, fun q => absurd q (by decide)⟩⟩, h, fr_rf⟩
      · rw [if_neg b1]
        by_cases b2 : b ≤ 9
        · rw [if_pos b2]
          have hb1 : ¬ b.toInt < -9 := fun q => b1 (l1.mpr q)
          have hb2 := l2.mp b2
          rw [if_neg (fun z => z.elim hb1 (fun z => by omega))] at hw
          have hB : b.toInt64.toInt.natAbs ≤ 9 := by rw [Int32.toInt_toInt64]; omega
          generalize hbb : b.toInt64 = B at *
          rw [← hbb] at hw
          have n1 : m + 2 ≠ m + 10 := by omega
          have z1 := m_become (S := S) (I := I) (L := L) hm 0
          have e0 : mwn L (m + 10) 6 (fun k => if k = 0 then (0 : Int64) else 0) = mwn L (m + 10) 6 (fun _ => 0) := mwn_congr (fun t _ => by simp)
          rw [e0] at z1
          obtain ⟨F, hF⟩ : ∃ F, F = shF g B (n + 1) (fun _ => 0) := ⟨_, rfl⟩
          have hFW : ∀ t, t < 6 → F t = sh6 g B t := fun t ht => by
            have := shF_n (b := B) hdn.2.2 (5 - n) (by omega) t ht
            rw [show n + 1 + (5 - n) = 6 by omega] at this
            rw [hF]; exact this.symm
          obtain ⟨I1, L1, k1, k2, k3⟩ := m_keep (S := S) (W := sh6 g B) hm hA (IM_w (f := F) (n := 6) h) k4 (fun t ht => by rw [mwn_at ht]; exact hFW t ht) (nz_sh hdn) (fun t ht => by have := sh6_b oi.1 hB t ht; omega)
          have h57 : ∀ s, s < 6 → ∀ f, hd_X9_move_49 S (fun v h => v = some (.int (sp_settle A k (sh6 g B)).1) ∧ h = (S, I1, L1)) m (nI i) b (nI k) (nI s + (-1)) I (mwn L (m + 10) 6 (shT g f B s)) → ∀ q, q ≤ 5 → hd_X9_move_57 S (fun v h => v = some (.int (sp_settle A k (sh6 g B)).1) ∧ h = (S, I1, L1)) m (nI i) b (nI k) (nI s) (nI q) I (mwn L (m + 10) 6 (fun t => if q < t then shT g f B s t else f t)) := fun s hs f hnext q => by
            induction q with
            | zero =>
              intro _
              refine it_X9_move_57 hm ⟨fun _ => ?_, fun q => absurd (show nI 0 ≤ 0 by decide) q⟩
              rw [nI_6]
              refine ⟨vp_in_nI (by omega) (by decide), fun y hy => ?_⟩
              have e : mwn L (m + 10) 6 (shT g f B s) = mj_up (mwn L (m + 10) 6 (fun t => if 0 < t then shT g f B s t else f t)) (m + 10) 0 (mwn L (m + 10) 6 (fun t => if 0 < t then shT g f B s t else f t) (m + 10) 0 * B + mwn L (m + 10) 6 (fun t => if 0 < t then shT g f B s t else f t) (m + 2) (6 * i + s)) := by
                rw [mwn_at (show 0 < 6 by decide), mwn_ne n1, rdi s hs, mwn_up (by decide)]
                refine mwn_congr (fun t ht => ?_)
                by_cases c : t = 0
                · rw [if_pos c, if_neg (by omega), c]
                  show B * f 0 + 0 + g s = _
                  rw [Int64.add_zero, Int64.mul_comm]
                · rw [if_neg c, if_pos (by omega)]
              rw [hy, nI_clamp (show 6 * i + s < 2 ^ 31 by omega), hbb]
              show hd_X9_move_49 S _ m (nI i) b (nI k) (nI s + (-1)) I (mj_up _ (m + 10) 0 (mwn _ _ _ _ (m + 10) 0 * B + _))
              rw [← e]; exact hnext
            | succ q ih =>
              intro hq
              have ih := ih (by omega)
              refine it_X9_move_57 hm ⟨fun z => absurd ((nI_leI (b := 0) (by omega) (by decide)).mp z) (by omega), fun _ => ?_⟩
              have es : nI (q + 1) - (1 : Int32) = nI q := pk_sub (a := q + 1) (b := 1) (by omega)
              rw [es]
              refine ⟨vp_in_nI (by omega) (by decide), vp_in_nI (by omega) (by decide), vp_in_nI (by omega) (by decide), fun y hy => ?_⟩
              have e : mwn L (m + 10) 6 (fun t => if q < t then shT g f B s t else f t) = mj_up (mwn L (m + 10) 6 (fun t => if q + 1 < t then shT g f B s t else f t)) (m + 10) (q + 1) (mwn L (m + 10) 6 (fun t => if q + 1 < t then shT g f B s t else f t) (m + 10) (q + 1) * B + mwn L (m + 10) 6 (fun t => if q + 1 < t then shT g f B s t else f t) (m + 10) q) := by
                rw [mwn_at (show q + 1 < 6 by omega), mwn_at (show q < 6 by omega), mwn_up (by omega)]
                refine mwn_congr (fun t ht => ?_)
                by_cases c : t = q + 1
                · rw [if_pos c, if_pos (by omega), if_neg (by omega), if_neg (by omega), c]
                  unfold shT
                  rw [if_neg (by omega), Nat.add_sub_cancel, Int64.mul_comm]
                · rw [if_neg c]
                  by_cases c2 : q < t
                  · rw [if_pos c2, if_pos (by omega)]
                  · rw [if_neg c2, if_neg (by omega)]
              rw [hy, pk_m1, nI_clamp (show q + 1 < 2 ^ 31 by omega), nI_clamp (show q < 2 ^ 31 by omega), hbb, ← e]
              exact ih
          have h49 : ∀ s, s ≤ 6 → ∀ f, shF g B s f = F → hd_X9_move_49 S (fun v h => v = some (.int (sp_settle A k (sh6 g B)).1) ∧ h = (S, I1, L1)) m (nI i) b (nI k) (nI s + (-1)) I (mwn L (m + 10) 6 f) := fun s => by
            induction s with
            | zero =>
              intro _ f hf
              refine it_X9_move_49 hm ⟨fun _ => ⟨_, _, _, ?_, rfl, rfl⟩, fun q => absurd (show nI 0 + (-1) < 0 by decide) q⟩
              rw [show f = F from hf]; exact k1
            | succ s ih =>
              intro hs f hf
              have hnext := ih (by omega) (shT g f B s) hf
              rw [pk_m1]
              refine it_X9_move_49 hm (ng_f (by omega) ?_)
              have := h57 s (by omega) f hnext 5 (Nat.le_refl _)
              have e : mwn L (m + 10) 6 (fun t => if 5 < t then shT g f B s t else f t) = mwn L (m + 10) 6 f := mwn_congr (fun t ht => by rw [if_neg (by omega)])
              rw [e] at this
              exact this
          have := h49 (n + 1) (by omega) (fun _ => 0) hF.symm
          rw [pk_m1] at this
          refine ⟨I1, L1, wp_X9_move hm ⟨_, _, _, ha, fun q => absurd q (by decide), fun _ => ⟨_, _, _, hc, fun _ => ⟨_, _, _, hw, fun _ => ⟨_, _, z1, vp_in_nI i4 (by decide), fun y hy => ?_⟩, fun q => absurd q (by decide)⟩, fun q => absurd q (by decide)⟩⟩, k2, frM_w k3⟩
          rw [hy, nI_clamp (show i < 2 ^ 31 by omega), hgi]
          exact this
        · rw [if_neg b2]
          rw [if_pos (Or.inr (by
            have h9 : ¬ b.toInt ≤ 9 := fun q => b2 (l2.mpr q)
            omega))] at hw
          exact ⟨I, L, wp_X9_move hm ⟨_, _, _, ha, fun q => absurd q (by decide), fun _ => ⟨_, _, _, hc, fun _ => ⟨_, _, _, hw, fun q => absurd rfl q, fun _ => ⟨rfl, rfl⟩⟩, fun q => absurd q (by decide)⟩⟩, h, fr_rf⟩
end
