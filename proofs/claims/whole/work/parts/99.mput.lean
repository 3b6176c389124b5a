/-! THE PAGE INTO A SLOT: the reference -/
variable {S : List mjD} {I : Nat → Nat → Int32} {L : Nat → Nat → Int64}
theorem acc_row {r r' : rdS} {n : Nat} (h : rAcc r n = some r') : rrw r' = rrw r ∨ rrw r' = rrw (rEnd r) := by
  unfold rAcc rSign rLetter rCaret rDigit at h
  repeat' split at h
  all_goals first | (cases h; done) | (cases h; exact Or.inl rfl) | (cases h; exact Or.inr rfl)
def rO3 (r : rdS) : Prop := ∀ t, t < 6 → (rrw r t).toInt.natAbs ≤ 999
theorem rvl_b {r : rdS} (h : ram r ≤ 999) : (rvl r).toInt.natAbs ≤ 999 := by
  have ht : (lN (ram r)).toInt = ram r := t_lN (by omega)
  unfold rvl
  cases rng r
  · rw [if_neg (by decide), ht]; omega
  · rw [if_pos rfl, t_neg (by omega), ht]; omega
theorem end_b {r : rdS} (h : rO3 r) (ha : ram r ≤ 999) : rO3 (rEnd r) := fun t ht => by
  show (if t = rpl r then rvl r else rrw r t).toInt.natAbs ≤ 999
  by_cases e : t = rpl r
  · rw [if_pos e]; exact rvl_b ha
  · rw [if_neg e]; exact h t ht
theorem run_b {f : Nat → Nat} : ∀ k i r, rOK r → rO3 r → rO3 (rRun f i k r).2
  | 0, _, _, _, h => h
  | k + 1, i, r, h1, h2 => by
    rw [rRun]
    cases e : rAcc r (f i) with
    | none => exact h2
    | some r' =>
      refine run_b k (i + 1) r' (ok_acc h1 e) ?_
      rcases acc_row e with q | q
      · exact fun t ht => by rw [q]; exact h2 t ht
      · exact fun t ht => by rw [q]; exact end_b h2 h1.2.1 t ht
theorem pg_b (A : aS) : rO3 (rEnd (pgR A).2) := by
  refine end_b (run_b _ _ _ ini_ok (fun t ht => ?_)) (pg_ok A).1.2.1
  show ((if t = 0 then (0 : Int64) else 0)).toInt.natAbs ≤ 999
  by_cases e : t = 0
  · rw [if_pos e]; decide
  · rw [if_neg e]; decide
theorem settle_ge {A : aS} {j : Nat} {W : Nat → Int64} (hnz : ∃ t, t < 6 ∧ W t ≠ 0) (hf : okp W → isF (rl (pp W)) (fN (rl (pp W))) (fP (rl (pp W))) (fM (rl (pp W)))) : (sp_settle A j W).1 = -104 ∨ ∃ d, d < 6 ∧ (sp_settle A j W).1 = nI d := by
  unfold sp_settle
  cases hb : inB W 6 with
  | false => exact Or.inl rfl
  | true =>
    rw [if_pos rfl]
    have hW : okp W := ⟨inr6_bnd.mp (inB_iff.mp hb), hnz⟩
    cases hb2 : inB (shp (ck (ac A) j) W) 6 with
    | false => exact Or.inl rfl
    | true =>
      rw [if_pos rfl]
      obtain ⟨d, hd⟩ := deg6_ex (shp_nz (k := ck (ac A) j) hW (hf hW))
      exact Or.inr ⟨d, hd.1, deg6_dg hd⟩
section
variable {m : Nat} {A : aS}
theorem IM_pg0 {I1 : Nat → Nat → Int32} {f : Nat → Int32} (h : IM m A I L) (e : I1 = mj_up I m 9 (0 : Int32)) : IM m (aPage A 0 f) I1 L := by
  obtain ⟨⟨a1, a2⟩, a3, a4, a5, a6, a7, a8⟩ := h
  have fd : ∀ k, k ≠ 9 → I1 m k = I m k := fun k hk => by rw [e]; exact up_nk hk
  have r : ∀ b, b ≠ m → I1 b = I b := fun b hb => by rw [e]; exact up_ne hb
  exact ⟨⟨by rw [e, up_eq]; rfl, fun k hk => by have : k < 0 := hk; omega⟩, by rw [fd 1 (by decide)]; exact a3, by rw [fd 0 (by decide)]; exact a4, mR_eq a5 (r _ (by omega)) rfl (r _ (by omega)) (r _ (by omega)) (r _ (by omega)) (r _ (by omega)) (fd 5 (by decide)), by rw [fd 48 (by decide)]; exact a6, fun hh => ⟨by rw [fd 49 (by decide)]; exact (a7 hh).1, mR_eq (a7 hh).2 (r _ (by omega)) rfl (r _ (by omega)) (r _ (by omega)) (r _ (by omega)) (r _ (by omega)) (fd 50 (by decide))⟩, cache_eq a8 (fd 15 (by decide)) (fd 19 (by decide)) (r _ (by omega)) (r _ (by omega)) rfl rfl⟩
theorem up_same {α : Type} {J : Nat → Nat → α} {a k : Nat} {x : α} (h : x = J a k) : mj_up J a k x = J := by
  funext b t
  unfold mj_up
  by_cases c : b = a ∧ t = k
  · rw [if_pos c, h, c.1, c.2]
  · rw [if_neg c]
theorem m_put (hm : is_Model S m) (hA : aOK A) (h : IM m A I L) (a : Int32) : ∃ I1 L1, CTi mr_X9_put [.ref m, .int a] S I L (sp_put A a).1 I1 L1 ∧ IM m (sp_put A a).2 I1 L1 ∧ fr (moX m) I L I1 L1 := by
  have hc := m_isSlot (S := S) (I := I) (L := L) hm hA h.2.1 a
  unfold sp_put
  cases hs : sIdx A a with
  | none =>
    rw [hs] at hc
    exact ⟨I, L, wp_X9_put hm ⟨_, _, _, hc, fun q => absurd rfl q, fun _ => ⟨rfl, rfl⟩⟩, h, fr_rf⟩
  | some j =>
    obtain ⟨rfl, j1, j4⟩ := sIdx_some hA hs
    rw [hs, one_some] at hc
    obtain ⟨I1, L1, t1, t2, t3⟩ := m_readText (S := S) (I := I) (L := L) hm (IM_pgM hA h)
    have h1 := rfr_IM h t2
    have f1 : fr (moX m) I L I1 L1 := frS_mo (rfr_S t2)
    change rxP m (apn A) (pgR A).1 (pgR A).2 I1 L1 at t3
    simp only
    rcases t3 with ⟨x1, x2, x3, x4⟩ | ⟨x1, x2⟩
    · rw [if_pos x2, if_pos x3]
      have hnz := rEnd_nz (pg_ok A).1 (pg_ok A).2 x3
      have hbd := pg_b A
      generalize hW : rrw (rEnd (pgR A).2) = W at *
      have hbW : ∀ k, k < 6 → (W k).toInt.natAbs ≤ 999 := fun k hk => by rw [← hW]; exact hbd k hk
      obtain ⟨L2, hL2⟩ : ∃ L2, L2 = mwn L1 (m + 10) 6 W := ⟨_, rfl⟩
      have h2 : IM m A I1 L2 := by rw [hL2]; exact IM_w h1
      obtain ⟨I3, L3, k1, k2, k3⟩ := m_keep (S := S) (W := W) hm hA h2 j4 (fun t ht => by rw [hL2, mwn_at ht]) hnz (fun k hk => by have := hbW k hk; omega)
      have f2 : fr (moX m) I1 L1 I1 L2 := by rw [hL2]; exact frM_w fr_rf
      have f3 : fr (moX m) I L I3 L3 := fr_tr (fr_tr f1 f2 (fun b hb => hb.elim id id)) k3 (fun b hb => hb.elim id id)
      have loop : ∀ RET : Option Value → mjH → Prop, hd_X9_put_28 S RET m (nI j) (nI 6) I1 L2 → hd_X9_put_28 S RET m (nI j) (0 : Int32) I1 L1 := fun RET h6 => by
        have key := up_loop (P := fun i => hd_X9_put_28 S RET m (nI j) (nI i) I1 (mwn L1 (m + 10) i W)) 6 (by rw [← hL2]; exact h6) (fun i hi ih => it_X9_put_28 hm (ge_f (k := 6) hi (by decide) ⟨vp_in_nI hi (by decide), vp_in_nI hi (by decide), fun y hy => by
          rw [hy, nI_1, nI_clamp (by omega), mwn_s _ _ _ W _ (by rw [mwn_ne (by omega)]; exact x4 i hi)]; exact ih⟩)) 0 (Nat.zero_le _)
        rw [mwn_0] at key
        exact key
      have z11 : ¬ I1 m 11 = 0 := by rw [x1]; decide
      rcases settle_ge (A := A) (j := j) hnz (fun hw => isF_ex hm hw) with e | ⟨d, d6, e⟩
      · rw [if_pos e]
        refine ⟨I3, L3, wp_X9_put hm ⟨_, _, _, hc, fun _ => ⟨_, _, _, t1, fun _ => loop _ (it_X9_put_28 hm (ge_t (k := 6) (Nat.le_refl _) (by decide) ⟨_, _, _, k1, fun _ => ⟨rfl, by rw [up_same rfl]⟩, fun q => absurd (by rw [e]; decide) q⟩)), fun q => absurd q z11⟩, fun q => absurd q (by decide)⟩, k2, f3⟩
      · have z0 : ¬ (sp_settle A j W).1 < 0 := by rw [e]; exact nI_pos (by omega)
        rw [if_neg (by rw [e]; intro q; have := nI_pos (n := d) (by omega); rw [q] at this; exact this (by decide))]
        exact ⟨mj_up I3 m 9 (0 : Int32), L3, wp_X9_put hm ⟨_, _, _, hc, fun _ => ⟨_, _, _, t1, fun _ => loop _ (it_X9_put_28 hm (ge_t (k := 6) (Nat.le_refl _) (by decide) ⟨_, _, _, k1, fun q => absurd q z0, fun _ => ⟨rfl, rfl⟩⟩)), fun q => absurd q z11⟩, fun q => absurd q (by decide)⟩, IM_pg0 k2 rfl, fr_tr f3 (fr_I (X := moX m) (by unfold moX; omega)) (fun b hb => hb.elim id id)⟩
    · have e3 : ∀ X Y Z : Int32 × aS, (if (pgR A).1 = apn A then (if rDone (pgR A).2 = true then X else Y) else Y) = Y := fun X Y Z => by
        by_cases c1 : (pgR A).1 = apn A
        · rw [if_pos c1, if_neg (fun z => x2 ⟨c1, z⟩)]
        · rw [if_neg c1]
      rw [e3 _ _ (0, A)]
      exact ⟨I1, L1, wp_X9_put hm ⟨_, _, _, hc, fun _ => ⟨_, _, _, t1, fun q => absurd x1 q, fun _ => ⟨rfl, rfl⟩⟩, fun q => absurd q (by decide)⟩, h1, f1⟩
theorem ok_put2 (hm : is_Model S m) (hA : aOK A) (a : Int32) : aOK (sp_put A a).2 := by
  unfold sp_put
  cases hs : sIdx A a with
  | none => exact hA
  | some j =>
    simp only
    by_cases c1 : (pgR A).1 = apn A
    · rw [if_pos c1]
      by_cases c2 : rDone (pgR A).2 = true
      · rw [if_pos c2]
        have hs := ok_settle (j := j) hA (rEnd_nz (pg_ok A).1 (pg_ok A).2 c2) (fun h => isF_ex hm h)
        by_cases c3 : (sp_settle A j (rrw (rEnd (pgR A).2))).1 = -104
        · rw [if_pos c3]; exact hs
        · rw [if_neg c3]
          exact ⟨by show 0 ≤ 40; decide, fun k hk => absurd hk (Nat.not_lt_zero k), hs.2.2⟩
      · rw [if_neg c2]; exact hA
    · rw [if_neg c1]; exact hA
end
