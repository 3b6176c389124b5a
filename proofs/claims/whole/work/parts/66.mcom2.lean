/-! THE REFERENCE: the common divisor, whole -/
variable {S : List mjD} {I : Nat → Nat → Int32} {L : Nat → Nat → Int64}
section
variable {m : Nat} {A : aS}
theorem frS_w {f : Nat → Int64} {n : Nat} : frS m I L I (mwn L (m + 10) n f) := ⟨fun b hb => ⟨rfl, mwn_ne (by omega)⟩, fun _ _ => rfl⟩
/-- a slot is laid out, factored, and its content taken -/
theorem m_layAll {j : Nat} (hm : is_Model S m) (hA : aOK A) (h : IM m A I L) (hj : j < 4) (hf : cf (ac A) j = true) : ∃ I1 L1, CTv mr_X9_laySlot [.ref m, .int (nI j)] S I L I (mwn L (m + 10) 6 (cp (ac A) j)) ∧ CTv mr_X9_layFactors [.ref m] S I (mwn L (m + 10) 6 (cp (ac A) j)) I1 L1 ∧ CTv mr_X9_layContent [.ref m] S I1 L1 I1 (mj_up L1 m 18 (cont (cp (ac A) j))) ∧ frL m I (mwn L (m + 10) 6 (cp (ac A) j)) I1 L1 ∧ mCache m I1 L1 ∧ mFac m (gl A j) I1 L1 ∧ ∀ t, t < 6 → L1 (m + 10) t = cp (ac A) j t := by
  have oj := (hA.2.2.2.2.1.1 j hj).2 hf
  have hL : ∀ t, t < 6 → mwn L (m + 10) 6 (cp (ac A) j) (m + 10) t = cp (ac A) j t := fun t ht => mwn_at ht
  have ok1 : okp (mwn L (m + 10) 6 (cp (ac A) j) (m + 10)) := okp_ext oj (fun t ht => (hL t ht).symm)
  obtain ⟨I1, L1, a1, a2, a3, a4⟩ := m_layFactors (S := S) (I := I) hm ok1 (IM_w (f := cp (ac A) j) (n := 6) h).2.2.2.2.2.2
  have e10 : L1 (m + 10) = mwn L (m + 10) 6 (cp (ac A) j) (m + 10) := (a2.1 (m + 10) (by omega) (by omega) (by omega)).2
  obtain ⟨n, hn, -⟩ := pp_ok ok1
  rw [← e10] at hn
  have c1 := m_layContent (S := S) (I := I1) (L := L1) hm hn (fun k hk => by rw [e10, hL k hk]; exact Nat.le_trans (oj.1 k hk) (by decide))
  have ec : cont (L1 (m + 10)) = cont (cp (ac A) j) := cont_ext (fun t ht => by rw [e10]; exact hL t ht)
  rw [ec] at c1
  have eg : rl (pp (mwn L (m + 10) 6 (cp (ac A) j) (m + 10))) = gl A j := rlpp_ext hL
  rw [eg] at a4
  exact ⟨I1, L1, m_laySlot hm h hj hf, a1, c1, a2, a3, a4, fun t ht => by rw [e10]; exact hL t ht⟩
theorem m_common (hm : is_Model S m) (hA : aOK A) (h : IM m A I L) (a b c : Int32) : ∃ I1 L1, CTi mr_X9_common [.ref m, .int a, .int b, .int c] S I L (sp_common A a b c).1 I1 L1 ∧ IM m (sp_common A a b c).2 I1 L1 ∧ fr (moX m) I L I1 L1 := by
  have ha := m_isFilled (S := S) (I := I) (L := L) hm hA h.2.1 h.2.2.2.1 a
  have hb := m_isFilled (S := S) (I := I) (L := L) hm hA h.2.1 h.2.2.2.1 b
  have hc := m_isSlot (S := S) (I := I) (L := L) hm hA h.2.1 c
  unfold sp_common
  cases ea : fIdx A a with
  | none =>
    rw [ea] at ha
    exact ⟨I, L, wp_X9_common hm ⟨_, _, _, ha, fun _ => ⟨rfl, rfl⟩, fun q => absurd rfl q⟩, h, fr_rf⟩
  | some i =>
    obtain ⟨rfl, -, i4, if'⟩ := fIdx_some hA ea
    rw [ea, one_some] at ha
    cases eb : fIdx A b with
    | none =>
      rw [eb] at hb
      exact ⟨I, L, wp_X9_common hm ⟨_, _, _, ha, fun q => absurd q (by decide), fun _ => ⟨_, _, _, hb, fun _ => ⟨rfl, rfl⟩, fun q => absurd rfl q⟩⟩, h, fr_rf⟩
    | some j =>
      obtain ⟨rfl, -, j4, jf'⟩ := fIdx_some hA eb
      rw [eb, one_some] at hb
      cases ec : sIdx A c with
      | none =>
        rw [ec] at hc
        exact ⟨I, L, wp_X9_common hm ⟨_, _, _, ha, fun q => absurd q (by decide), fun _ => ⟨_, _, _, hb, fun q => absurd q (by decide), fun _ => ⟨_, _, _, hc, fun q => absurd rfl q, fun _ => ⟨rfl, rfl⟩⟩⟩⟩, h, fr_rf⟩
      | some k =>
        obtain ⟨rfl, -, k4⟩ := sIdx_some hA ec
        rw [ec, one_some] at hc
        have oi := (hA.2.2.2.2.1.1 i i4).2 if'
        have oj := (hA.2.2.2.2.1.1 j j4).2 jf'
        simp only
        obtain ⟨I1, L1, a1, a2, a3, a4, a5, a6, -⟩ := m_layAll (S := S) hm hA h i4 if'
        have h1 : IM m A I1 L1 := IM_sc (IM_w h) (frS_L a4) a5
        have f1 : frS m I L I1 L1 := frS_tr frS_w (frS_L a4)
        have hn5 := a6.2.2.1
        have h19 := a6.2.1
        obtain ⟨n, en⟩ : ∃ n, n = fN (gl A i) := ⟨_, rfl⟩
        rw [← en] at hn5 h19
        obtain ⟨I2, hI2⟩ : ∃ I2, I2 = mj_up I1 m 38 (I1 m 19) := ⟨_, rfl⟩
        obtain ⟨L3, hL3⟩ : ∃ L3, L3 = mj_up (mj_up L1 m 18 (cont (cp (ac A) i))) m 39 (mj_up L1 m 18 (cont (cp (ac A) i)) m 18) := ⟨_, rfl⟩
        obtain ⟨I4, hI4⟩ : ∃ I4, I4 = mwn I2 (m + 24) n (I2 (m + 12)) := ⟨_, rfl⟩
        obtain ⟨L4, hL4⟩ : ∃ L4, L4 = mwn L3 (m + 23) (6 * n) (L3 (m + 11)) := ⟨_, rfl⟩
        have rI4 : ∀ b, b ≠ m → b ≠ m + 24 → I4 b = I1 b := fun b b0 b1 => by rw [hI4, mwn_ne b1, hI2, up_ne b0]
        have rL4 : ∀ b, b ≠ m → b ≠ m + 23 → L4 b = L1 b := fun b b0 b1 => by rw [hL4, mwn_ne b1, hL3, up_ne b0, up_ne b0]
        have fI4 : ∀ k, k ≠ 38 → I4 m k = I1 m k := fun k hk => by rw [hI4, mwn_ne (by omega), hI2, up_nk hk]
        have f4 : frS m I1 L1 I4 L4 := ⟨fun b hb => ⟨rI4 b (by omega) (by omega), rL4 b (by omega) (by omega)⟩, fun k hk => fI4 k (by omega)⟩
        have h4 : IM m A I4 L4 := IM_sc h1 f4 (cache_eq a5 (fI4 15 (by decide)) (fI4 19 (by decide)) (rI4 _ (by omega) (by omega)) (rI4 _ (by omega) (by omega)) (rL4 _ (by omega) (by omega)) (rL4 _ (by omega) (by omega)))
        obtain ⟨I5, L5, b1, b2, b3, b4, b5, b6, -⟩ := m_layAll (S := S) hm hA h4 j4 jf'
        have h5 : IM m A I5 L5 := IM_sc (IM_w h4) (frS_L b4) b5
        have f5 : frS m I4 L4 I5 L5 := frS_tr frS_w (frS_L b4)
        obtain ⟨L6, hL6⟩ : ∃ L6, L6 = mj_up L5 m 18 (cont (cp (ac A) j)) := ⟨_, rfl⟩
        have e39 : L6 m 39 = cont (cp (ac A) i) := by rw [hL6, up_nk (by decide), b4.2.1 39 (by decide), mwn_ne (by omega), hL4, mwn_ne (by omega), hL3, up_eq, up_eq]
        have e18 : L6 m 18 = cont (cp (ac A) j) := by rw [hL6, up_eq]
        obtain ⟨-, -, -, -, -, -, ci9, -⟩ := pp_ok oi
        obtain ⟨-, -, -, -, -, -, cj9, -⟩ := pp_ok oj
        have dv := m_divisor (S := S) (I := I5) (L := L6) (a := L6 m 39) (b := L6 m 18) (by rw [e39]; omega) (by rw [e18]; omega)
        rw [e39, e18] at dv
        obtain ⟨g, hg⟩ : ∃ g, g = lN (Nat.gcd (cont (cp (ac A) i)).toInt.natAbs (cont (cp (ac A) j)).toInt.natAbs) := ⟨_, rfl⟩
        rw [← hg] at dv
        have r6 : ∀ b, b ≠ m → L6 b = L5 b := fun b hb => by rw [hL6, up_ne hb]
        have s38 : I5 m 38 = nI n := by rw [b4.2.2 38 (by decide) (by decide) (by decide) (by decide) (by decide) (by decide) (by decide), hI4, mwn_ne (by omega), hI2, up_eq, h19]
        have s24 : ∀ t, t < n → I5 (m + 24) t = nI (fM (gl A i) t) := fun t ht => by
          rw [(b4.1 (m + 24) (by omega) (by omega) (by omega)).1, hI4, mwn_at ht, hI2, up_ne (by omega)]
          exact (a6.2.2.2 t (by omega)).2.1
        have s23 : ∀ t, t < n → rl (fun k => L6 (m + 23) (6 * t + k)) = fP (gl A i) t := fun t ht => by
          rw [r6 _ (by omega), (b4.1 (m + 23) (by omega) (by omega) (by omega)).2, mwn_ne (by omega), hL4, ← (a6.2.2.2 t (by omega)).1]
          exact rl_ext (fun k hk => by rw [mwn_at (by omega), hL3, up_ne (by omega), up_ne (by omega)])
        obtain ⟨T, hT⟩ : ∃ T, T = fun t => min (fM (gl A i) t) (mof (fP (gl A j)) (fM (gl A j)) (fP (gl A i) t) (fN (gl A j)) 0) := ⟨_, rfl⟩
        have hMi : ∀ t, t < n → fM (gl A i) t ≤ 5 := fun t ht => fM_5 oi a6.1 (by rw [en] at ht; exact ht)
        have hMj : ∀ t, t < fN (gl A j) → fM (gl A j) t ≤ 5 := fun t ht => fM_5 oj b6.1 ht
        obtain ⟨IX, hIX⟩ : ∃ IX, IX = mwn I5 (m + 24) n (fun t => nI (T t)) := ⟨_, rfl⟩
        have rX : ∀ b, b ≠ m + 24 → IX b = I5 b := fun b hb => by rw [hIX, mwn_ne hb]
        obtain ⟨L8, hL8⟩ : ∃ L8, L8 = mwn L6 (m + 10) 6 (fun k => if k = 0 then g else 0) := ⟨_, rfl⟩
        have z1 := m_become (S := S) (I := IX) (L := L6) hm g
        rw [← hL8] at z1
        have x38 : IX m 38 = nI n := by rw [rX m (by omega), s38]
        obtain ⟨L9, c1, c2, c3⟩ := m_prod (S := S) (I := IX) (L := L8) (n := n) (P := fP (gl A i)) (T := T) (c := nI k) (f0 := fun k => if k = 0 then g else 0) hm x38 hn5 (fun t ht => by rw [hIX, mwn_at ht]) (fun t ht => by rw [hT]; exact Nat.le_trans (Nat.min_le_left _ _) (hMi t ht)) (fun t ht => by rw [hL8, mwn_ne (by omega)]; exact s23 t ht) (fun t ht => by rw [hL8, mwn_at ht])
        have eW : ∀ t, t < 6 → L9 (m + 10) t = pCom A i j t := fun t ht => by
          rw [c2 t ht]
          unfold pCom
          rw [← hg, ← en, ← hT]
        have r9 : ∀ b, b ≠ m → b ≠ m + 10 → b ≠ m + 21 → L9 b = L5 b := fun b b0 b1 b2 => by rw [c1 b b1 b2, hL8, mwn_ne b1, r6 b b0]
        have f9 : frS m I5 L5 IX L9 := ⟨fun b hb => ⟨rX b (by omega), r9 b (by omega) (by omega) (by omega)⟩, fun k _ => by rw [rX m (by omega)]⟩
        have h9 : IM m A IX L9 := IM_sc h5 f9 (cache_eq b5 (by rw [rX m (by omega)]) (by rw [rX m (by omega)]) (rX _ (by omega)) (rX _ (by omega)) (r9 _ (by omega) (by omega) (by omega)) (r9 _ (by omega) (by omega) (by omega)))
        obtain ⟨IE, LE, k1, k2, k3⟩ := m_keep (S := S) (W := pCom A i j) hm hA h9 k4 eW (nz_com oi oj a6.1) (fun t ht => by
          have := com_lo (j := j) oi a6.1 ht
          omega)
        have h222 := c3 (fun v h => v = some (.int (sp_settle A k (pCom A i j)).1) ∧ h = (S, IE, LE)) ⟨_, _, _, k1, rfl, rfl⟩
        have h159 : hd_X9_common_159 S (fun v h => v = some (.int (sp_settle A k (pCom A i j)).1) ∧ h = (S, IE, LE)) m (nI k) g 0 I5 L6 := m_both (S := S) (n := n) (P := fP (gl A i)) (M := fM (gl A i)) hm s38 hn5 s24 hMi hMj s23 (mRep_of b6.2 rfl (r6 _ (by omega)) rfl rfl) (fun _ _ _ => by
          have e : (mwn I5 (m + 24) n (fun t => nI (min (fM (gl A i) t) (mof (fP (gl A j)) (fM (gl A j)) (fP (gl A i) t) (fN (gl A j)) 0)))) = IX := by rw [hIX, hT]
          rw [e]
          refine it_X9_common_159 hm ?_
          rw [x38]
          exact ge_t (Nat.le_refl _) (by omega) ⟨_, _, z1, h222⟩)
        have h59 : hd_X9_common_59 S (fun v h => v = some (.int (sp_settle A k (pCom A i j)).1) ∧ h = (S, IE, LE)) m (nI j) (nI k) 0 I2 L3 := m_had (S := S) (n := n) hm (by rw [hI2, up_nk (by decide)]; exact h19) hn5 (by
          rw [← hI4, ← hL4]
          refine it_X9_common_59 hm ?_
          rw [fI4 19 (by decide), h19]
          refine ge_t (Nat.le_refl _) (by omega) ⟨_, _, b1, _, _, b2, _, _, b3, ?_⟩
          rw [← hL6, e39, e18]
          exact ⟨_, _, _, dv, h159⟩)
        refine ⟨IE, LE, wp_X9_common hm ⟨_, _, _, ha, fun q => absurd q (by decide), fun _ => ⟨_, _, _, hb, fun q => absurd q (by decide), fun _ => ⟨_, _, _, hc, fun _ => ⟨_, _, a1, _, _, a2, _, _, a3, ?_⟩, fun q => absurd q (by decide)⟩⟩⟩, k2, ?_⟩
        · rw [← hI2, ← hL3]; exact h59
        · exact fr_tr (frS_mo (frS_tr f1 (frS_tr f4 (frS_tr f5 f9)))) k3 (fun b hb => hb.elim id id)
end
