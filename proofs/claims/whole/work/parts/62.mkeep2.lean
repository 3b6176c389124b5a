/-! THE REFERENCE: a result comes into a slot -/
variable {S : List mjD} {I : Nat → Nat → Int32} {L : Nat → Nat → Int64}
theorem pat_b {f : Nat → Int64} {B : Nat} (h : bnd6 f B) (a : Int32) : (pat f a).toInt.natAbs ≤ B := by
  unfold pat
  have z : (0 : Int64).toInt.natAbs = 0 := rfl
  by_cases c1 : a < 0
  · rw [if_pos c1, z]; exact Nat.zero_le _
  · rw [if_neg c1]
    by_cases c2 : (6 : Int32) ≤ a
    · rw [if_pos c2, z]; exact Nat.zero_le _
    · rw [if_neg c2]
      obtain ⟨k, hk, rfl⟩ := vp_in_of (in_of (n := 6) (by decide) c1 c2) (by decide)
      rw [nI_clamp (by omega)]
      exact h k hk
theorem mir_b {f : Nat → Int64} {t : Nat} (h : (f t).toInt.natAbs ≤ 999) : (mir f t).toInt.natAbs ≤ 999 := by
  unfold mir
  by_cases c : (nI t - nI t / 2 * 2) = 0
  · rw [if_pos c]; exact h
  · rw [if_neg c, t_neg (by omega)]; omega
theorem pp_ext {f g : Nat → Int64} (h : ∀ k, k < 6 → f k = g k) {k : Nat} (hk : k < 6) : pp f k = pp g k := by unfold pp; rw [h k hk, cont_ext h]
section
variable {m : Nat} {A : aS}
theorem m_makeBy {k : Nat} {W : Nat → Int64} (hm : is_Model S m) (hW : okp W) (he : ∀ t, t < 6 → L (m + 10) t = W t) (hc : mCache m I L) (hk : k < 5) : ∃ I1 L1, CTv mr_X9_makeBy [.ref m, .int (nI k)] S I L I1 L1 ∧ frS m I L I1 L1 ∧ mCache m I1 L1 ∧ (∀ t, t < 6 → L1 (m + 10) t = shp k W t) ∧ ∀ t, t < 6 → -2 ^ 63 < (shp k W t).toInt := by
  have hok : okp (L (m + 10)) := okp_ext hW (fun k hk => (he k hk).symm)
  obtain ⟨n, hn, -, -, -, hc0, -⟩ := pp_ok hok
  have hc0' : cont (L (m + 10)) ≠ 0 := fun e => hc0 (by rw [e]; rfl)
  have h : k = 0 ∨ k = 1 ∨ k = 2 ∨ k = 3 ∨ k = 4 := by omega
  rcases h with rfl | rfl | rfl | rfl | rfl
  · exact ⟨I, L, wp_X9_makeBy hm ⟨fun q => absurd q (by decide), fun q => absurd q (by decide), fun q => absurd q (by decide), fun q => absurd q (by decide), fun _ => ⟨rfl, rfl⟩⟩, frS_rf, hc, he, fun t ht => by
      have := hW.1 t ht
      show -2 ^ 63 < (W t).toInt
      omega⟩
  · have h1 := m_makePure (S := S) (I := I) hm hn hok.1 hc0'
    refine ⟨_, _, wp_X9_makeBy hm ⟨fun _ => ⟨_, _, h1, rfl, rfl⟩, fun q => absurd q (by decide), fun q => absurd q (by decide), fun q => absurd q (by decide), fun q => absurd q (by decide)⟩, ⟨fun b hb => ⟨rfl, by rw [mwn_ne (by omega), up_ne (by omega)]⟩, fun _ _ => rfl⟩, cache_eq hc rfl rfl rfl rfl (by rw [mwn_ne (by omega), up_ne (by omega)]) (by rw [mwn_ne (by omega), up_ne (by omega)]), fun t ht => ?_, fun t ht => ?_⟩
    · rw [mwn_at ht]; exact pp_ext he ht
    · obtain ⟨-, -, -, -, hb, -⟩ := pp_ok hW
      have := hb t ht
      show -2 ^ 63 < (pp W t).toInt
      omega
  · obtain ⟨I1, L1, a1, a2, a3, a4, a5⟩ := m_makeFree (S := S) (I := I) hm hok hc
    rw [rlpp_ext he] at a4 a5
    refine ⟨I1, L1, wp_X9_makeBy hm ⟨fun q => absurd q (by decide), fun _ => ⟨_, _, a1, rfl, rfl⟩, fun q => absurd q (by decide), fun q => absurd q (by decide), fun q => absurd q (by decide)⟩, a2, a3, a5, fun t ht => ?_⟩
    have := eo_lo hW a4 ht
    show -2 ^ 63 < (eo (fP (rl (pp W))) (fN (rl (pp W))) t).toInt
    omega
  · have h1 := m_makeTurned (S := S) (I := I) hm hn
    refine ⟨_, _, wp_X9_makeBy hm ⟨fun q => absurd q (by decide), fun q => absurd q (by decide), fun _ => ⟨_, _, h1, rfl, rfl⟩, fun q => absurd q (by decide), fun q => absurd q (by decide)⟩, ⟨fun b hb => ⟨rfl, by rw [mwn_ne (by omega), mwn_ne (by omega)]⟩, fun _ _ => rfl⟩, cache_eq hc rfl rfl rfl rfl (by rw [mwn_ne (by omega), mwn_ne (by omega)]) (by rw [mwn_ne (by omega), mwn_ne (by omega)]), fun t ht => ?_, fun t ht => ?_⟩
    · rw [mwn_at ht]; exact trn_ext he t
    · have := pat_b hW.1 (dg W - nI t)
      show -2 ^ 63 < (pat W (dg W - nI t)).toInt
      omega
  · obtain ⟨L1, a1, a2, a3⟩ := m_makeMirror (S := S) (I := I) (L := L) hm
    refine ⟨I, L1, wp_X9_makeBy hm ⟨fun q => absurd q (by decide), fun q => absurd q (by decide), fun q => absurd q (by decide), fun _ => ⟨_, _, a1, rfl, rfl⟩, fun q => absurd q (by decide)⟩, ⟨fun b hb => ⟨rfl, a2 b (by omega)⟩, fun _ _ => rfl⟩, cache_eq hc rfl rfl rfl rfl (a2 _ (by omega)) (a2 _ (by omega)), fun t ht => ?_, fun t ht => ?_⟩
    · rw [a3 t ht]; exact mir_ext he ht
    · have := mir_b (hW.1 t ht)
      show -2 ^ 63 < (mir W t).toInt
      omega
theorem m_keep {j : Nat} {W : Nat → Int64} (hm : is_Model S m) (hA : aOK A) (h : IM m A I L) (hj : j < 4) (hL : ∀ t, t < 6 → L (m + 10) t = W t) (hnz : ∃ t, t < 6 ∧ W t ≠ 0) (hlo : ∀ k, k < 6 → -2 ^ 63 < (W k).toInt) : ∃ I1 L1, CTi mr_X9_keep [.ref m, .int (nI j)] S I L (sp_settle A j W).1 I1 L1 ∧ IM m (sp_settle A j W).2 I1 L1 ∧ fr (moX m) I L I1 L1 := by
  have g1 := m_isGreat (S := S) (I := I) (L := L) hm (fun k hk => by rw [hL k hk]; exact hlo k hk)
  rw [inB_ext hL] at g1
  unfold sp_settle
  cases hb : inB W 6 with
  | false =>
    rw [hb] at g1
    exact ⟨I, L, wp_X9_keep hm ⟨_, _, _, g1, fun q => absurd q (by decide), fun _ => ⟨rfl, rfl⟩⟩, h, fr_rf⟩
  | true =>
    rw [hb] at g1
    rw [if_pos rfl]
    have hW : okp W := ⟨inr6_bnd.mp (inB_iff.mp hb), hnz⟩
    have hr := h.2.2.2.1.1 j hj
    have hkk := (hA.2.2.2.2.1.1 j hj).1
    obtain ⟨I2, L2, b1, b2, b3, b4, b5⟩ := m_makeBy (S := S) (I := I) (L := L) hm hW hL h.2.2.2.2.2.2 hkk
    generalize hV : shp (ck (ac A) j) W = V at *
    have g2 := m_isGreat (S := S) (I := I2) (L := L2) hm (fun k hk => by rw [b4 k hk]; exact b5 k hk)
    rw [inB_ext b4] at g2
    have h2 := IM_sc h b2 b3
    have e1 : I (m + 1) (nI j).toNatClampNeg = nI (ck (ac A) j) := by rw [nI_clamp (by omega)]; exact hr.1
    cases hb2 : inB V 6 with
    | false =>
      rw [hb2] at g2
      exact ⟨I2, L2, wp_X9_keep hm ⟨_, _, _, g1, fun _ => ⟨vp_in_nI hj (by decide), _, _, by rw [e1]; exact b1, _, _, _, g2, fun q => absurd q (by decide), fun _ => ⟨rfl, rfl⟩⟩, fun q => absurd rfl q⟩, h2, frS_mo b2⟩
    | true =>
      rw [hb2] at g2
      rw [if_pos rfl]
      obtain ⟨I3, hI3⟩ : ∃ I3, I3 = mj_up I2 (m + 3) j (dg V) := ⟨_, rfl⟩
      obtain ⟨L3, hL3⟩ : ∃ L3, L3 = seg L2 (m + 2) (6 * j) 6 V := ⟨_, rfl⟩
      have n1 : m + 10 ≠ m + 2 := by omega
      have key := up_loop (P := fun i => hd_X9_keep_32 S (fun v h => v = some (.int (dg V)) ∧ h = (S, I3, L3)) m (nI j) (nI i) I2 (seg L2 (m + 2) (6 * j) i V)) 6
        (it_X9_keep_32 hm (ge_t (k := 6) (Nat.le_refl _) (by decide) (by
          have d1 := m_degreeNow (S := S) (I := I2) (L := seg L2 (m + 2) (6 * j) 6 V) hm
          rw [seg_ne n1, dg_ext b4] at d1
          refine ⟨_, _, _, d1, vp_in_nI hj (by decide), vp_in_nI hj (by decide), ?_, ?_⟩
          · rw [nI_clamp (by omega), up_eq]
          · rw [nI_clamp (by omega), hI3, hL3])))
        (fun i hi ih => it_X9_keep_32 hm (ge_f (k := 6) hi (by decide) (by
          rw [nI_6]
          refine ⟨vp_in_nI hi (by decide), vp_in_nI (by omega) (by decide), fun y hy => ?_⟩
          rw [hy, nI_1, nI_clamp (show 6 * j + i < 2 ^ 31 by omega), nI_clamp (show i < 2 ^ 31 by omega), seg_s _ _ _ _ V (by rw [seg_ne n1]; exact b4 i hi)]
          exact ih)))
      have k0 := key 0 (Nat.zero_le _)
      rw [seg_0] at k0
      have r : ∀ b, b ≠ m + 3 → I3 b = I2 b := fun b hb => by rw [hI3, up_ne hb]
      have s : ∀ b, b ≠ m + 2 → L3 b = L2 b := fun b hb => by rw [hL3, seg_ne hb]
      refine ⟨I3, L3, wp_X9_keep hm ⟨_, _, _, g1, fun _ => ⟨vp_in_nI hj (by decide), _, _, by rw [e1]; exact b1, _, _, _, g2, fun _ => k0, fun q => absurd rfl q⟩, fun q => absurd rfl q⟩, IM_co h2 (fun b hb => ⟨r b (by omega), s b (by omega)⟩) (fun k _ => by rw [r m (by omega)]) ⟨fun i hi => ?_, ?_, fun i hi => ?_⟩ (cache_eq b3 (by rw [r m (by omega)]) (by rw [r m (by omega)]) (r _ (by omega)) (r _ (by omega)) (s _ (by omega)) (s _ (by omega))), fun b hb => ?_⟩
      · rw [r (m + 1) (by omega)]
        obtain ⟨c1, c2, c3⟩ := h2.2.2.2.1.1 i hi
        show I2 (m + 1) i = nI (ck (ac A) i) ∧ ((if i = j then true else cf (ac A) i) = false → I3 (m + 3) i = -1) ∧ ((if i = j then true else cf (ac A) i) = true → I3 (m + 3) i = dg (if i = j then V else cp (ac A) i) ∧ ∀ t, t < 6 → L3 (m + 2) (6 * i + t) = (if i = j then V else cp (ac A) i) t)
        refine ⟨c1, ?_⟩
        by_cases e : i = j
        · rw [if_pos e, if_pos e, e, hI3, hL3, up_eq]
          exact ⟨fun q => (by cases q), fun _ => ⟨rfl, fun t ht => seg_at ht⟩⟩
        · rw [if_neg e, if_neg e, hI3, hL3, up_nk e]
          refine ⟨c2, fun q => ⟨(c3 q).1, fun t ht => ?_⟩⟩
          rw [seg_out (by omega)]; exact (c3 q).2 t ht
      · rw [r m (by omega)]; exact h2.2.2.2.1.2.1
      · rw [r (m + 4) (by omega), r (m + 5) (by omega), r (m + 6) (by omega)]
        exact h2.2.2.2.1.2.2 i hi
      · have hx : ¬ (m ≤ b ∧ b < m + 33) := hb
        have := b2.1 b (by omega)
        exact ⟨by rw [r b (by omega)]; exact this.1, by rw [s b (by omega)]; exact this.2⟩
end
