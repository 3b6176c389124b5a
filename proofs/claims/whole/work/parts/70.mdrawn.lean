/-! THE REFERENCE: polynomials drawn by chance -/
variable {S : List mjD} {I : Nat → Nat → Int32} {L : Nat → Nat → Int64}
section
variable {m : Nat} {A : aS}
theorem m_draw (hm : is_Model S m) {s : Int64} (hs : L m 47 = s) : ∃ r, CTi mr_X9_draw [.ref m, .int 9] S I L r I (mj_up L m 47 (sd s)) ∧ (r - (4 : Int32)).toInt64 = cof (sd s) := by
  refine ⟨_, wp_X9_draw hm ⟨by decide, rfl, ?_⟩, ?_⟩
  · rw [hs]; rfl
  · rw [up_eq, hs]
    exact cof_m s
theorem m_drawLoop (hm : is_Model S m) {n : Nat} (hn : n ≤ 4) {c : Int32} (hc : c = 0 ∨ c = 1 ∨ c = 2) {R : Int32} : ∀ d i, i + d = n → ∀ s u v, drR c (drL d s u v) = R → ∀ I' L', L' m 47 = s → frS m I L I' L' → mCache m I' L' → ∃ I1 L1, frS m I L I1 L1 ∧ mCache m I1 L1 ∧ hd_X9_drawnNow_15 S (fun v h => v = some (.int R) ∧ h = (S, I1, L1)) m (nI n) c u v (nI i) I' L' := by
  intro d
  induction d with
  | zero =>
    intro i hi s u v hR I' L' hs hf hca
    refine ⟨I', L', hf, hca, it_X9_drawnNow_15 hm (ge_t (by omega) (by omega) ?_)⟩
    rw [← hR, hs]
    unfold drR drL
    rcases hc with rfl | rfl | rfl
    · exact ⟨fun q => absurd rfl q, fun _ => ⟨rfl, rfl⟩⟩
    · exact ⟨fun _ => ⟨fun q => absurd rfl q, fun _ => ⟨rfl, rfl⟩⟩, fun q => absurd q (by decide)⟩
    · exact ⟨fun _ => ⟨fun _ => ⟨rfl, rfl⟩, fun q => absurd q (by decide)⟩, fun q => absurd q (by decide)⟩
  | succ d ih =>
    intro i hi s u v hR I' L' hs hf hca
    obtain ⟨L2, hL2⟩ : ∃ L2, L2 = mwn (mj_up L' m 47 (drS s)) (m + 10) 6 (drF s) := ⟨_, rfl⟩
    have e10 : ∀ t, t < 6 → L2 (m + 10) t = drF s t := fun t ht => by rw [hL2, mwn_at ht]
    have r2 : ∀ b, b ≠ m → b ≠ m + 10 → L2 b = L' b := fun b b0 b1 => by rw [hL2, mwn_ne b1, up_ne b0]
    have ok2 : okp (L2 (m + 10)) := okp_ext (drF_ok s) (fun t ht => (e10 t ht).symm)
    have ca2 : mCache m I' L2 := cache_eq hca rfl rfl rfl rfl (r2 _ (by omega) (by omega)) (r2 _ (by omega) (by omega))
    have f2 : frS m I L I' L2 := frS_tr hf ⟨fun b hb => ⟨rfl, r2 b (by omega) (by omega)⟩, fun _ _ => rfl⟩
    obtain ⟨I5, L5, w1, w2, w3, w4⟩ := m_layFactors (S := S) (I := I') hm ok2 ca2
    rw [rlpp_ext e10] at w4
    have ms := m_allFactors (S := S) hm w4.2
    have s5 : L5 m 47 = drS s := by rw [w2.2.1 47 (by decide), hL2, mwn_ne (by omega), up_eq]
    obtain ⟨I1, L1, k1, k3, k2⟩ := ih (i + 1) (by omega) (drS s) (if nI (drM s) = 1 then u + 1 else u) (v + nI (drM s)) hR I5 L5 s5 (frS_tr f2 (frS_L w2)) w3
    have z1 := m_become (S := S) (I := I') (L := L') hm 0
    refine ⟨I1, L1, k1, k3, it_X9_drawnNow_15 hm (ge_f (by omega) (by omega) ⟨_, _, z1, ?_⟩)⟩
    have n1 : m ≠ m + 10 := by omega
    obtain ⟨La, hLa⟩ : ∃ La, La = mj_up (mwn L' (m + 10) 6 (fun k => if k = 0 then 0 else 0)) (m + 10) 4 1 := ⟨_, rfl⟩
    have sa : La m 47 = s := by rw [hLa, up_ne n1, mwn_ne n1]; exact hs
    obtain ⟨ra, da, va⟩ := m_draw (S := S) (I := I') hm sa
    obtain ⟨Lb, hLb⟩ : ∃ Lb, Lb = mj_up (mj_up La m 47 (sd s)) (m + 10) 3 (cof (sd s)) := ⟨_, rfl⟩
    have sb : Lb m 47 = sd s := by rw [hLb, up_ne n1, up_eq]
    obtain ⟨rb, db, vb⟩ := m_draw (S := S) (I := I') hm sb
    obtain ⟨Lc, hLc⟩ : ∃ Lc, Lc = mj_up (mj_up Lb m 47 (sd (sd s))) (m + 10) 2 (cof (sd (sd s))) := ⟨_, rfl⟩
    have sc : Lc m 47 = sd (sd s) := by rw [hLc, up_ne n1, up_eq]
    obtain ⟨rc, dc, vc⟩ := m_draw (S := S) (I := I') hm sc
    obtain ⟨Ld, hLd⟩ : ∃ Ld, Ld = mj_up (mj_up Lc m 47 (sd (sd (sd s)))) (m + 10) 1 (cof (sd (sd (sd s)))) := ⟨_, rfl⟩
    have sdd : Ld m 47 = sd (sd (sd s)) := by rw [hLd, up_ne n1, up_eq]
    obtain ⟨re, de, ve⟩ := m_draw (S := S) (I := I') hm sdd
    have e : mj_up (mj_up Ld m 47 (sd (sd (sd (sd s))))) (m + 10) 0 (cof (sd (sd (sd (sd s))))) = L2 := by
      funext b k
      rw [hLd, hLc, hLb, hLa, hL2]
      unfold mj_up mwn
      by_cases hb : b = m + 10
      · subst hb
        have : ¬ m + 10 = m := by omega
        by_cases h0 : k = 0
        · subst h0; simp [drF, drS]
        · by_cases h1 : k = 1
          · subst h1; simp [drF, this]
          · by_cases h2 : k = 2
            · subst h2; simp [drF, this]
            · by_cases h3 : k = 3
              · subst h3; simp [drF, this]
              · by_cases h4 : k = 4
                · subst h4; simp [drF, this]
                · simp [drF, this, h0, h1, h2, h3, h4]
      · by_cases hbm : b = m
        · subst hbm
          by_cases h47 : k = 47
          · subst h47; simp [hb, drS]
          · simp [hb, h47]
        · simp [hb, hbm]
    have v3 : vp_in (nI 3) 6 := vp_in_nI (by decide) (by decide)
    have v2 : vp_in (nI 2) 6 := vp_in_nI (by decide) (by decide)
    have v1 : vp_in (nI 1) 6 := vp_in_nI (by decide) (by decide)
    have v0 : vp_in (nI 0) 6 := vp_in_nI (by decide) (by decide)
    show hd_X9_drawnNow_36 S _ m (nI n) c u v (nI i) (nI 3) I' (mj_up (mwn L' (m + 10) 6 (fun k => if k = 0 then 0 else 0)) (m + 10) 4 1)
    rw [← hLa]
    refine it_X9_drawnNow_36 hm (ng_f (i := 3) (by decide) ⟨_, _, _, da, v3, fun y hy => ?_⟩)
    rw [va, hy, nI_clamp (by decide), ← hLb, show nI 3 + (-1) = nI 2 from rfl]
    refine it_X9_drawnNow_36 hm (ng_f (i := 2) (by decide) ⟨_, _, _, db, v2, fun y hy => ?_⟩)
    rw [vb, hy, nI_clamp (by decide), ← hLc, show nI 2 + (-1) = nI 1 from rfl]
    refine it_X9_drawnNow_36 hm (ng_f (i := 1) (by decide) ⟨_, _, _, dc, v1, fun y hy => ?_⟩)
    rw [vc, hy, nI_clamp (by decide), ← hLd, show nI 1 + (-1) = nI 0 from rfl]
    refine it_X9_drawnNow_36 hm (ng_f (i := 0) (by decide) ⟨_, _, _, de, v0, fun y hy => ?_⟩)
    rw [ve, hy, nI_clamp (by decide), e]
    have em : nI (msum (fM (rl (pp (drF s)))) (fN (rl (pp (drF s))))) = nI (drM s) := rfl
    rw [em] at ms
    refine it_X9_drawnNow_36 hm (ng_t (show nI 0 + (-1) < 0 by decide) ⟨_, _, w1, _, _, _, ms, fun q y hy => ⟨_, _, _, ms, fun z hz w hw => ?_⟩, fun q y hy => ⟨_, _, _, ms, fun z hz w hw => ?_⟩⟩)
    · rw [hy, hz, hw, nI_1, Int32.add_zero]
      rw [if_neg q] at k2
      exact k2
    · rw [hy, hz, hw, nI_1]
      rw [if_pos q] at k2
      exact k2
theorem m_drawn (hm : is_Model S m) (h : IM m A I L) (a b c : Int32) : ∃ I1 L1, CTi mr_X9_drawn [.ref m, .int a, .int b, .int c] S I L (sp_drawn a b c) I1 L1 ∧ IM m A I1 L1 ∧ fr (moX m) I L I1 L1 := by
  have hw1 := m_w (S := S) (I := I) (L := L) a (lo := 1) (hi := 4) 1 4 rfl rfl
  have hw2 := m_w (S := S) (I := I) (L := L) c (lo := 0) (hi := 2) 0 2 rfl rfl
  have l1 := lt_i (a := a) (k := 1) (n := 1) rfl
  have l4 : (4 : Int32) < a ↔ 4 < a.toInt := by rw [Int32.lt_iff_toInt_lt]; rfl
  have c0' := lt_i (a := c) (k := 0) (n := 0) rfl
  have c2' := ge_i (a := c) (k := 2) (n := 2) rfl
  unfold sp_drawn
  by_cases a1 : a < 1
  · rw [if_pos (Or.inl (l1.mp a1))] at hw1
    rw [if_pos a1]
    exact ⟨I, L, wp_X9_drawn hm ⟨_, _, _, hw1, fun _ => ⟨rfl, rfl⟩, fun q => absurd rfl q⟩, h, fr_rf⟩
  · rw [if_neg a1]
    by_cases a4 : 4 < a
    · rw [if_pos (Or.inr (l4.mp a4))] at hw1
      rw [if_pos a4]
      exact ⟨I, L, wp_X9_drawn hm ⟨_, _, _, hw1, fun _ => ⟨rfl, rfl⟩, fun q => absurd rfl q⟩, h, fr_rf⟩
    · rw [if_neg (fun z => z.elim (fun z => a1 (l1.mpr z)) (fun z => a4 (l4.mpr z)))] at hw1
      rw [if_neg a4]
      by_cases b0 : b < 0
      · rw [if_pos b0]
        exact ⟨I, L, wp_X9_drawn hm ⟨_, _, _, hw1, fun q => absurd q (by decide), fun _ => ⟨fun _ => ⟨rfl, rfl⟩, fun q => absurd b0 q⟩⟩, h, fr_rf⟩
      · rw [if_neg b0]
        by_cases c0 : c < 0
        · rw [if_pos (Or.inl (c0'.mp c0))] at hw2
          rw [if_pos c0]
          exact ⟨I, L, wp_X9_drawn hm ⟨_, _, _, hw1, fun q => absurd q (by decide), fun _ => ⟨fun q => absurd q b0, fun _ => ⟨_, _, _, hw2, fun q => absurd rfl q, fun _ => ⟨rfl, rfl⟩⟩⟩⟩, h, fr_rf⟩
        · rw [if_neg c0]
          by_cases c2 : c ≤ 2
          · have k0 : ¬ c.toInt < 0 := fun q => c0 (c0'.mpr q)
            have k2 := c2'.mp c2
            rw [if_neg (fun z => z.elim k0 (fun z => by omega))] at hw2
            rw [if_pos c2]
            have h3 : c = 0 ∨ c = 1 ∨ c = 2 := by
              obtain ⟨n, h31, rfl⟩ := nI_of (x := c) c0
              rw [nI_toInt h31] at k2
              have : n = 0 ∨ n = 1 ∨ n = 2 := by omega
              rcases this with rfl | rfl | rfl
              · exact Or.inl rfl
              · exact Or.inr (Or.inl rfl)
              · exact Or.inr (Or.inr rfl)
            have ha : a.toNatClampNeg ≤ 4 ∧ a = nI a.toNatClampNeg := by
              have h0 : ¬ a < 0 := fun q => a1 (by rw [Int32.lt_iff_toInt_lt] at q ⊢; have : (0 : Int32).toInt = 0 := rfl; have : (1 : Int32).toInt = 1 := rfl; omega)
              obtain ⟨n, h31, rfl⟩ := nI_of (x := a) h0
              rw [nI_clamp h31]
              refine ⟨?_, rfl⟩
              rcases Nat.lt_or_ge 4 n with q | q
              · exact absurd ((nI_ltI (a := 4) (by decide) h31).mpr q) a4
              · exact q
            obtain ⟨I1, L1, k1, k3, k4⟩ := m_drawLoop (S := S) (I := I) (L := L) hm (n := a.toNatClampNeg) ha.1 h3 a.toNatClampNeg 0 (by omega) b.toInt64 0 0 rfl I (mj_up L m 47 b.toInt64) up_eq ⟨fun b hb => ⟨rfl, up_ne (by omega)⟩, fun _ _ => rfl⟩ (cache_eq h.2.2.2.2.2.2 rfl rfl rfl rfl (up_ne (by omega)) (up_ne (by omega)))
            rw [← ha.2] at k4
            exact ⟨I1, L1, wp_X9_drawn hm ⟨_, _, _, hw1, fun q => absurd q (by decide), fun _ => ⟨fun q => absurd q b0, fun _ => ⟨_, _, _, hw2, fun _ => ⟨_, _, _, wp_X9_drawnNow hm k4, rfl, rfl⟩, fun q => absurd q (by decide)⟩⟩⟩, IM_sc h k1 k3, frS_mo k1⟩
          · have k2 : ¬ c.toInt ≤ 2 := fun q => c2 (c2'.mpr q)
            rw [if_pos (Or.inr (by omega))] at hw2
            rw [if_neg c2]
            exact ⟨I, L, wp_X9_drawn hm ⟨_, _, _, hw1, fun q => absurd q (by decide), fun _ => ⟨fun q => absurd q b0, fun _ => ⟨_, _, _, hw2, fun q => absurd rfl q, fun _ => ⟨rfl, rfl⟩⟩⟩⟩, h, fr_rf⟩
end
