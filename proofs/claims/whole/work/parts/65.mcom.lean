/-! THE REFERENCE: the common divisor -/
variable {S : List mjD} {I : Nat → Nat → Int32} {L : Nat → Nat → Int64}
theorem com_lo {A : aS} {i j : Nat} (hi : okp (cp (ac A) i)) (hf : isF (gl A i) (fN (gl A i)) (fP (gl A i)) (fM (gl A i))) {a : Nat} (ha : a < 6) : (pCom A i j a).toInt.natAbs < 2 ^ 62 := by
  obtain ⟨n, hn, hdp, hpos, hbp, hc0, hc9, hcg, hm, hG⟩ := pp_ok hi
  have hn6 := hdp.1
  generalize hg : Nat.gcd (cont (cp (ac A) i)).toInt.natAbs (cont (cp (ac A) j)).toInt.natAbs = g
  have hgd : g ∣ (cont (cp (ac A) i)).toInt.natAbs := by rw [← hg]; exact Nat.gcd_dvd_left _ _
  have hg0 : 1 ≤ g := Nat.pos_of_dvd_of_pos hgd (by omega)
  have hg9 : g ≤ 999 := Nat.le_trans (Nat.le_of_dvd (by omega) hgd) hc9
  have hrow : ∀ k, k < 6 → (fun k => if k = 0 then lN g else 0 : Nat → Int64) k = il [(g : Int)] k := fun k hk => by
    have h : k = 0 ∨ k = 1 ∨ k = 2 ∨ k = 3 ∨ k = 4 ∨ k = 5 := by omega
    rcases h with rfl | rfl | rfl | rfl | rfl | rfl <;> rfl
  have hT : ∀ t, t < fN (gl A i) → min (fM (gl A i) t) (mof (fP (gl A j)) (fM (gl A j)) (fP (gl A i) t) (fN (gl A j)) 0) ≤ fM (gl A i) t := fun t _ => Nat.min_le_left _ _
  have he : ∀ x, zev (rl (pp (cp (ac A) i))) x = fpr (fP (gl A i)) (fun t => min (fM (gl A i) t) (mof (fP (gl A j)) (fM (gl A j)) (fP (gl A i) t) (fN (gl A j)) 0)) (fN (gl A i)) x * zev (fpl (fP (gl A i)) (fun t => fM (gl A i) t - min (fM (gl A i) t) (mof (fP (gl A j)) (fM (gl A j)) (fP (gl A i) t) (fN (gl A j)) 0)) (fN (gl A i))) x := fun x => by
    rw [zev_fpl, ← fpr_split x _ hT]; exact hf.2 x
  obtain ⟨hl, hc⟩ := deg6_zlt hdp
  have hB : ∀ k, (zco (rl (pp (cp (ac A) i))) k).natAbs ≤ 999 := fun k => by
    by_cases c : k < 6
    · rw [rl_co _ c]; exact hbp k c
    · rw [hl k (by omega)]; decide
  have hz := zfb n (by omega) _ (fpl (fP (gl A i)) (fun t => min (fM (gl A i) t) (mof (fP (gl A j)) (fM (gl A j)) (fP (gl A i) t) (fN (gl A j)) 0)) (fN (gl A i))) (fpl (fP (gl A i)) (fun t => fM (gl A i) t - min (fM (gl A i) t) (mof (fP (gl A j)) (fM (gl A j)) (fP (gl A i) t) (fN (gl A j)) 0)) (fN (gl A i))) 999 hl hc hB (fun x => by rw [he x, zev_fpl (fP (gl A i)) (fun t => min (fM (gl A i) t) (mof (fP (gl A j)) (fM (gl A j)) (fP (gl A i) t) (fN (gl A j)) 0)) x]) a
  have h20 : 20 ^ n ≤ 20 ^ 5 := Nat.pow_le_pow_right (by decide) (by omega)
  have h3 : 2912 * 20 ^ n * 999 ≤ 2912 * 20 ^ 5 * 999 := Nat.mul_le_mul_right _ (Nat.mul_le_mul_left _ h20)
  have h4 : 2912 * 20 ^ 5 * 999 < 2 ^ 44 := by decide
  unfold pCom
  rw [hg, shr_congr _ (fun _ _ => ⟨rfl, rfl⟩) hrow a ha, shr_shz _ _ _ _ a ha]
  have h2 : zco (shz (fP (gl A i)) (fun t => min (fM (gl A i) t) (mof (fP (gl A j)) (fM (gl A j)) (fP (gl A i) t) (fN (gl A j)) 0)) [(g : Int)] (fN (gl A i))) a = g * zco (fpl (fP (gl A i)) (fun t => min (fM (gl A i) t) (mof (fP (gl A j)) (fM (gl A j)) (fP (gl A i) t) (fN (gl A j)) 0)) (fN (gl A i))) a := by
    rw [← zco_sm]
    exact zev_inj (fun x => by rw [zev_shz, zev_sm, zev_fpl]; simp [zev]) a
  have h5 : (g : Int).natAbs * (zco (fpl (fP (gl A i)) (fun t => min (fM (gl A i) t) (mof (fP (gl A j)) (fM (gl A j)) (fP (gl A i) t) (fN (gl A j)) 0)) (fN (gl A i))) a).natAbs ≤ 999 * 2 ^ 44 := Nat.mul_le_mul (by omega) (by omega)
  have h6 : (zco (shz (fP (gl A i)) (fun t => min (fM (gl A i) t) (mof (fP (gl A j)) (fM (gl A j)) (fP (gl A i) t) (fN (gl A j)) 0)) [(g : Int)] (fN (gl A i))) a).natAbs ≤ 999 * 2 ^ 44 := by rw [h2, Int.natAbs_mul]; exact h5
  unfold il
  rw [Int64.toInt_ofInt_of_le (by omega) (by omega)]
  omega
section
variable {m : Nat} {A : aS}
/-- how often a factor that was laid aside is among the present ones -/
theorem m_often {x n : Nat} {P : Nat → List Int} {M : Nat → Nat} (hm : is_Model S m) (hx : x < 6) (hR : mRep m n P M I L) : CTi mr_X9_oftenOf [.ref m, .int (nI x)] S I L (nI (mof P M (rl (fun k => L (m + 23) (6 * x + k))) n 0)) I L := by
  have h5 := hR.2.1
  generalize hE : rl (fun k => L (m + 23) (6 * x + k)) = E
  refine wp_X9_oftenOf hm ?_
  have key : ∀ k i, i + k = n → hd_X9_oftenOf_2 S (fun v h => v = some (.int (nI (mof P M E k i))) ∧ h = (S, I, L)) m (nI x) (nI i) I L := by
    intro k
    induction k with
    | zero =>
      intro i hi
      refine it_X9_oftenOf_2 hm ?_
      rw [hR.1]
      exact ge_t (by omega) (by omega) ⟨rfl, rfl⟩
    | succ k ih =>
      intro i hi
      have hi2 := ih (i + 1) (by omega)
      have hrow := (hR.2.2 i (by omega)).1
      have hmul := (hR.2.2 i (by omega)).2.1
      have hdec : (∀ t, t < 6 → L (m + 11) (6 * i + t) = L (m + 23) (6 * x + t)) ↔ P i = E := by
        rw [← hrow, ← hE]
        refine ⟨fun h => rl_ext (fun t ht => h t ht), fun h t ht => ?_⟩
        have e1 := il_of (f := fun k => L (m + 11) (6 * i + k)) h ht
        have e2 := il_of (f := fun k => L (m + 23) (6 * x + k)) rfl ht
        exact e1.trans e2.symm
      have h15 := up_loop (P := fun q => ∀ b : Bool, (b = true ↔ ∀ t, t < q → L (m + 11) (6 * i + t) = L (m + 23) (6 * x + t)) → hd_X9_oftenOf_15 S (fun v h => v = some (.int (nI (mof P M E (k + 1) i))) ∧ h = (S, I, L)) m (nI x) (nI i) (if b then 1 else 0) (nI q) I L) 6
        (fun b hb => it_X9_oftenOf_15 hm (ge_t (k := 6) (Nat.le_refl _) (by decide) (by
          cases b with
          | false =>
            refine ⟨fun _ y hy => ?_, fun q => absurd rfl q⟩
            have hne : ¬ P i = E := fun e => by have := hb.mpr (hdec.mpr e); cases this
            rw [hy, nI_1, mof, if_neg hne]
            exact hi2
          | true =>
            refine ⟨fun q => absurd q (by decide), fun _ => ⟨vp_in_nI (by omega) (by decide), ?_, rfl⟩⟩
            have he : P i = E := hdec.mp (hb.mp rfl)
            rw [mof, if_pos he, nI_clamp (by omega), hmul])))
        (fun q hq ih b hb => it_X9_oftenOf_15 hm (ge_f (k := 6) hq (by decide) (by
          cases b with
          | false =>
            refine ⟨fun _ y hy => ?_, fun z => absurd rfl z⟩
            rw [hy, nI_1]
            exact ih false ⟨fun z => (by cases z), fun h => hb.mpr (fun t ht => h t (by omega))⟩
          | true =>
            have hb' := hb.mp rfl
            refine ⟨fun z => absurd z (by decide), fun _ => ?_⟩
            rw [nI_6, nI_6, nI_clamp (show 6 * i + q < 2 ^ 31 by omega), nI_clamp (show 6 * x + q < 2 ^ 31 by omega)]
            refine ⟨vp_in_nI (by omega) (by decide), vp_in_nI (by omega) (by decide), fun z y hy => ?_, fun z y hy => ?_⟩
            · rw [hy, nI_1]
              exact ih false ⟨fun w => (by cases w), fun h => absurd (h q (by omega)) z⟩
            · rw [hy, nI_1]
              refine ih true ⟨fun _ t ht => ?_, fun _ => rfl⟩
              rcases Nat.eq_or_lt_of_le (Nat.lt_succ_iff.mp ht) with e | e
              · rw [e]; exact z
              · exact hb' t e)))
      refine it_X9_oftenOf_2 hm ?_
      rw [hR.1]
      exact ge_f (by omega) (by omega) (h15 0 (Nat.zero_le _) true ⟨fun _ t ht => by omega, fun _ => rfl⟩)
  exact key n 0 (by omega)
theorem mRep_of {n : Nat} {P : Nat → List Int} {M : Nat → Nat} {I1 : Nat → Nat → Int32} {L1 : Nat → Nat → Int64} (h : mRep m n P M I L) (e19 : I1 m 19 = I m 19) (e11 : L1 (m + 11) = L (m + 11)) (e12 : I1 (m + 12) = I (m + 12)) (e13 : I1 (m + 13) = I (m + 13)) : mRep m n P M I1 L1 :=
  ⟨by rw [e19]; exact h.1, h.2.1, fun j hj => mHold_of (h.2.2 j hj) (fun k _ => by rw [e11]) (by rw [e12]) (by rw [e13])⟩
/-- the factors of the first are laid aside -/
theorem m_had {n : Nat} {b c : Int32} {RET : Option Value → mjH → Prop} (hm : is_Model S m) (h19 : I m 19 = nI n) (hn : n ≤ 5) (hend : hd_X9_common_59 S RET m b c (nI n) (mwn I (m + 24) n (I (m + 12))) (mwn L (m + 23) (6 * n) (L (m + 11)))) : hd_X9_common_59 S RET m b c 0 I L := by
  have n1 : m ≠ m + 24 := by omega
  have n2 : m + 12 ≠ m + 24 := by omega
  have n3 : m + 11 ≠ m + 23 := by omega
  have key := up_loop (P := fun s => hd_X9_common_59 S RET m b c (nI s) (mwn I (m + 24) s (I (m + 12))) (mwn L (m + 23) (6 * s) (L (m + 11)))) n hend (fun s hs ih => by
    have h85 := up_loop (P := fun q => hd_X9_common_85 S RET m b c (nI s) (nI q) (mwn I (m + 24) (s + 1) (I (m + 12))) (mwn L (m + 23) (6 * s + q) (L (m + 11)))) 6
      (it_X9_common_85 hm (ge_t (k := 6) (Nat.le_refl _) (by decide) (fun y hy => by rw [hy, nI_1]; exact ih)))
      (fun q hq ih2 => it_X9_common_85 hm (ge_f (k := 6) hq (by decide) (by
        rw [nI_6]
        refine ⟨vp_in_nI (by omega) (by decide), vp_in_nI (by omega) (by decide), fun y hy => ?_⟩
        rw [hy, nI_1, nI_clamp (show 6 * s + q < 2 ^ 31 by omega), mwn_s _ _ _ (L (m + 11)) _ (by rw [mwn_ne n3])]
        exact ih2)))
    refine it_X9_common_59 hm ?_
    rw [mwn_ne n1, h19]
    refine ge_f hs (by omega) ⟨vp_in_nI (by omega) (by decide), vp_in_nI (by omega) (by decide), ?_⟩
    rw [nI_clamp (show s < 2 ^ 31 by omega), mwn_s _ _ _ (I (m + 12)) _ (by rw [mwn_ne n2])]
    exact h85 0 (Nat.zero_le _))
  have := key 0 (Nat.zero_le _)
  rw [mwn_0, show 6 * 0 = 0 from rfl, mwn_0] at this
  exact this
/-- how often both have them -/
theorem m_both {n n' : Nat} {P P' : Nat → List Int} {M M' : Nat → Nat} {c : Int32} {g : Int64} {RET : Option Value → mjH → Prop} (hm : is_Model S m) (h38 : I m 38 = nI n) (hn : n ≤ 5) (h24 : ∀ t, t < n → I (m + 24) t = nI (M t)) (hM : ∀ t, t < n → M t ≤ 5) (hM' : ∀ t, t < n' → M' t ≤ 5) (h23 : ∀ t, t < n → rl (fun k => L (m + 23) (6 * t + k)) = P t) (hR : mRep m n' P' M' I L) (hend : ∀ I7 L8, CTv mr_X9_become [.ref m, .long g] S (mwn I (m + 24) n (fun t => nI (min (M t) (mof P' M' (P t) n' 0)))) L I7 L8 → hd_X9_common_159 S RET m c g (nI n) (mwn I (m + 24) n (fun t => nI (min (M t) (mof P' M' (P t) n' 0)))) L) : hd_X9_common_159 S RET m c g 0 I L := by
  have n1 : m ≠ m + 24 := by omega
  have key := up_loop (P := fun s => hd_X9_common_159 S RET m c g (nI s) (mwn I (m + 24) s (fun t => nI (min (M t) (mof P' M' (P t) n' 0)))) L) n (hend _ _ (m_become hm g)) (fun s hs ih => by
    have ho := m_often (S := S) (I := mwn I (m + 24) s (fun t => nI (min (M t) (mof P' M' (P t) n' 0)))) (L := L) (x := s) hm (by omega) (mRep_of hR (by rw [mwn_ne n1]) rfl (mwn_ne (by omega)) (mwn_ne (by omega)))
    rw [h23 s hs] at ho
    have hb5 : mof P' M' (P s) n' 0 ≤ 5 := mof_le n' 0 (fun t _ ht => hM' t (by omega))
    have hm5 := hM s hs
    refine it_X9_common_159 hm ?_
    rw [mwn_ne n1, h38]
    refine ge_f hs (by omega) ⟨_, _, _, ho, vp_in_nI (by omega) (by decide), ?_⟩
    rw [nI_clamp (show s < 2 ^ 31 by omega), mwn_rd, h24 s hs]
    refine ⟨fun q => ⟨vp_in_nI (by omega) (by decide), vp_in_nI (by omega) (by decide), fun y hy => ?_⟩, fun q => ⟨vp_in_nI (by omega) (by decide), fun y hy => ?_⟩⟩
    · have q' := (nI_leI (by omega) (by omega)).mp q
      rw [hy, nI_1, mwn_s _ _ _ (fun t => nI (min (M t) (mof P' M' (P t) n' 0))) _ (by rw [Nat.min_eq_left q'])]
      exact ih
    · have q' : ¬ M s ≤ mof P' M' (P s) n' 0 := fun z => q ((nI_leI (by omega) (by omega)).mpr z)
      rw [hy, nI_1, mwn_s _ _ _ (fun t => nI (min (M t) (mof P' M' (P t) n' 0))) _ (by rw [Nat.min_eq_right (by omega)])]
      exact ih)
  have := key 0 (Nat.zero_le _)
  rw [mwn_0] at this
  exact this
/-- the product of what both have -/
theorem m_prod {n : Nat} {P : Nat → List Int} {T : Nat → Nat} {c : Int32} {f0 : Nat → Int64} (hm : is_Model S m) (h38 : I m 38 = nI n) (hn : n ≤ 5) (h24 : ∀ t, t < n → I (m + 24) t = nI (T t)) (hT : ∀ t, t < n → T t ≤ 5) (h23 : ∀ t, t < n → rl (fun k => L (m + 23) (6 * t + k)) = P t) (hf0 : ∀ t, t < 6 → L (m + 10) t = f0 t) : ∃ L1, (∀ b, b ≠ m + 10 → b ≠ m + 21 → L1 b = L b) ∧ (∀ t, t < 6 → L1 (m + 10) t = shr P T f0 n t) ∧ ∀ RET : Option Value → mjH → Prop, (∃ r112 I113 L114, CTi mr_X9_keep [.ref m, .int c] S I L1 r112 I113 L114 ∧ RET (some (.int r112)) (S, I113, L114)) → hd_X9_common_222 S RET m c 0 I L := by
  have key := up_loop (P := fun s => ∀ L', (∀ b, b ≠ m + 10 → b ≠ m + 21 → L' b = L b) → (∀ t, t < 6 → L' (m + 10) t = shr P T f0 s t) → ∃ L1, (∀ b, b ≠ m + 10 → b ≠ m + 21 → L1 b = L b) ∧ (∀ t, t < 6 → L1 (m + 10) t = shr P T f0 n t) ∧ ∀ RET : Option Value → mjH → Prop, (∃ r112 I113 L114, CTi mr_X9_keep [.ref m, .int c] S I L1 r112 I113 L114 ∧ RET (some (.int r112)) (S, I113, L114)) → hd_X9_common_222 S RET m c (nI s) I L') n
    (fun L' h1 h2 => ⟨L', h1, h2, fun RET hk => it_X9_common_222 hm (by rw [h38]; exact ge_t (Nat.le_refl _) (by omega) hk)⟩)
    (fun s hs ih L' h1 h2 => by
      have hTs := hT s hs
      have k2 := up_loop (P := fun q => ∀ L', (∀ b, b ≠ m + 10 → b ≠ m + 21 → L' b = L b) → (∀ t, t < 6 → tms (P s) (T s - q) (L' (m + 10)) t = shr P T f0 (s + 1) t) → ∃ L1, (∀ b, b ≠ m + 10 → b ≠ m + 21 → L1 b = L b) ∧ (∀ t, t < 6 → L1 (m + 10) t = shr P T f0 n t) ∧ ∀ RET : Option Value → mjH → Prop, (∃ r112 I113 L114, CTi mr_X9_keep [.ref m, .int c] S I L1 r112 I113 L114 ∧ RET (some (.int r112)) (S, I113, L114)) → hd_X9_common_234 S RET m c (nI s) (nI q) I L') (T s)
        (fun L' h1 h2 => by
          rw [Nat.sub_self] at h2
          obtain ⟨L1, c1, c2, c3⟩ := ih L' h1 h2
          refine ⟨L1, c1, c2, fun RET hk => it_X9_common_234 hm ⟨vp_in_nI (by omega) (by decide), ?_⟩⟩
          rw [nI_clamp (show s < 2 ^ 31 by omega), h24 s hs]
          exact ge_t (Nat.le_refl _) (by omega) (fun y hy => by rw [hy, nI_1]; exact c3 RET hk))
        (fun q hq ih2 L' h1 h2 => by
          have hth := m_timesHad (S := S) (I := I) (L := L') hm (j := s) (by omega)
          obtain ⟨L1, c1, c2, c3⟩ := ih2 (mwn (mwn L' (m + 21) 12 (cvp (L' (m + 10)) (fun k => L' (m + 23) (6 * s + k)) 6)) (m + 10) 6 (cv (L' (m + 10)) (fun k => L' (m + 23) (6 * s + k)))) (fun b hb1 hb2 => by rw [mwn_ne hb1, mwn_ne hb2]; exact h1 b hb1 hb2) (fun t ht => by
            rw [← h2 t ht, show T s - q = (T s - (q + 1)) + 1 by omega, tms]
            refine tms_congr _ (fun k hk => ?_) t ht
            rw [mwn_at hk]
            exact cv_congr6 hk (fun _ _ => rfl) (fun k hk => by
              rw [h1 (m + 23) (by omega) (by omega)]
              exact il_of (h23 s hs) hk))
          refine ⟨L1, c1, c2, fun RET hk => it_X9_common_234 hm ⟨vp_in_nI (by omega) (by decide), ?_⟩⟩
          rw [nI_clamp (show s < 2 ^ 31 by omega), h24 s hs]
          exact ge_f hq (by omega) ⟨_, _, hth, fun y hy => by rw [hy, nI_1]; exact c3 RET hk⟩)
      obtain ⟨L1, c1, c2, c3⟩ := k2 0 (Nat.zero_le _) L' h1 (fun t ht => by
        rw [Nat.sub_zero, shr]
        exact tms_congr _ h2 t ht)
      refine ⟨L1, c1, c2, fun RET hk => it_X9_common_222 hm ?_⟩
      rw [h38]
      exact ge_f hs (by omega) (c3 RET hk))
  exact key 0 (Nat.zero_le _) L (fun _ _ _ => rfl) hf0
end
