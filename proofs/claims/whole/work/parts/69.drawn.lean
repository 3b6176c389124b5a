/-! POLYNOMIALS DRAWN BY CHANCE: both -/
variable {S : List mjD} {I : Nat → Nat → Int32} {L : Nat → Nat → Int64}
def sd (s : Int64) : Int64 := (((1103515245 : Int64) * s) + (12345 : Int64)) &&& (2147483647 : Int64)
def cof (y : Int64) : Int64 := ((y / (65536 : Int64)) - (y / (65536 : Int64)) / (9 : Int64) * (9 : Int64)) - (4 : Int64)
theorem and_lN (x : Int64) : ∃ n, n < 2 ^ 31 ∧ x &&& (2147483647 : Int64) = lN n := by
  have h : (x &&& (2147483647 : Int64)).toBitVec.toNat ≤ 2147483647 := by
    rw [Int64.toBitVec_and, BitVec.toNat_and]
    exact Nat.and_le_right
  refine ⟨(x &&& (2147483647 : Int64)).toBitVec.toNat, by omega, Int64.toInt_inj.mp ?_⟩
  rw [t_lN (by omega)]
  exact BitVec.toInt_eq_toNat_of_lt (by omega)
theorem cof_eq (s : Int64) : ∃ k, k < 9 ∧ ((sd s / (65536 : Int64)) - (sd s / (65536 : Int64)) / (9 : Int64) * (9 : Int64)) = lN k := by
  obtain ⟨n, hn, e⟩ := and_lN (((1103515245 : Int64) * s) + (12345 : Int64))
  refine ⟨n / 65536 % 9, Nat.mod_lt _ (by decide), ?_⟩
  unfold sd
  rw [e, show (65536 : Int64) = lN 65536 from rfl, show (9 : Int64) = lN 9 from rfl, pk_lDiv (by omega) (by decide) (by decide), pk_lRem (by omega) (by decide) (by decide)]
theorem cof_m (s : Int64) : ((((sd s / (65536 : Int64)) - (sd s / (65536 : Int64)) / (9 : Int64) * (9 : Int64)).toInt32) - (4 : Int32)).toInt64 = cof (sd s) := by
  obtain ⟨k, hk, e⟩ := cof_eq s
  unfold cof
  rw [e]
  have : ∀ k, k < 9 → ((lN k).toInt32 - (4 : Int32)).toInt64 = lN k - (4 : Int64) := by decide
  exact this k hk
theorem cof_b (s : Int64) : (cof (sd s)).toInt.natAbs ≤ 999 := by
  obtain ⟨k, hk, e⟩ := cof_eq s
  unfold cof
  rw [e]
  have : ∀ k, k < 9 → (lN k - (4 : Int64)).toInt.natAbs ≤ 999 := by decide
  exact this k hk
def drS (s : Int64) : Int64 := sd (sd (sd (sd s)))
def drF (s : Int64) : Nat → Int64 := fun j => if j = 0 then cof (drS s) else if j = 1 then cof (sd (sd (sd s))) else if j = 2 then cof (sd (sd s)) else if j = 3 then cof (sd s) else if j = 4 then 1 else if j = 0 then 0 else 0
theorem drF_ok (s : Int64) : okp (drF s) := by
  refine ⟨fun k hk => ?_, 4, by decide, (by decide : (1 : Int64) ≠ 0)⟩
  have h : k = 0 ∨ k = 1 ∨ k = 2 ∨ k = 3 ∨ k = 4 ∨ k = 5 := by omega
  rcases h with rfl | rfl | rfl | rfl | rfl | rfl
  · exact cof_b _
  · exact cof_b _
  · exact cof_b _
  · exact cof_b _
  · show ((1 : Int64)).toInt.natAbs ≤ 999; decide
  · show ((0 : Int64)).toInt.natAbs ≤ 999; decide
noncomputable def drM (s : Int64) : Nat := msum (fM (rl (pp (drF s)))) (fN (rl (pp (drF s))))
/-- seed, irreducible ones, factors -/
noncomputable def drL : Nat → Int64 → Int32 → Int32 → Int64 × Int32 × Int32
  | 0, s, u, v => (s, u, v)
  | n + 1, s, u, v => drL n (drS s) (if nI (drM s) = 1 then u + 1 else u) (v + nI (drM s))
noncomputable def drR (c : Int32) (r : Int64 × Int32 × Int32) : Int32 := if c = 2 then r.1.toInt32 else if c = 1 then r.2.2 else r.2.1
noncomputable def sp_drawn (a b c : Int32) : Int32 := if a < 1 then -102 else if 4 < a then -102 else if b < 0 then -102 else if c < 0 then -102 else if c ≤ 2 then drR c (drL a.toNatClampNeg b.toInt64 0 0) else -102
section
variable {p m : Nat} {A : aS}
theorem c_drawLoop (hd : is_Desk S p) {n : Nat} (hn : n ≤ 4) {c : Int32} {R : Int32} : ∀ d i, i + d = n → ∀ s u v, drR c (drL d s u v) = R → ∀ I' L', fr (scX p) I L I' L' → ∃ I1 L1, fr (scX p) I L I1 L1 ∧ hd_X8_drawn_39 S (fun v h => v = some (.int R) ∧ h = (S, I1, L1)) p (nI n) c s u v (nI i) I' L' := by
  have hfa : is_Factoring S (p + 12) := hd.2.2.2.2.2.2.1
  have hwk : is_Poly S (p + 8) := hd.2.2.2.2.1
  have hwf : is_Factors S (p + 21) := hd.2.2.2.2.2.2.2.1
  intro d
  induction d with
  | zero =>
    intro i hi s u v hR I' L' hf
    refine ⟨I', L', hf, it_X8_drawn_39 hd (ge_t (by omega) (by omega) ?_)⟩
    rw [← hR]
    unfold drR drL
    refine ⟨fun c2 => ⟨fun c1 => ?_, fun c1 => ?_⟩, fun c2 => ?_⟩
    · rw [if_neg c2, if_neg c1]; exact ⟨rfl, rfl⟩
    · rw [if_neg c2, if_pos c1]; exact ⟨rfl, rfl⟩
    · rw [if_pos c2]; exact ⟨rfl, rfl⟩
  | succ d ih =>
    intro i hi s u v hR I' L' hf
    obtain ⟨L2, hL2⟩ : ∃ L2, L2 = mwn L' (p + 8 + 1) 6 (drF s) := ⟨_, rfl⟩
    have e8 : ∀ t, t < 6 → L2 (p + 8 + 1) t = drF s t := fun t ht => by rw [hL2, mwn_at ht]
    have ok2 : okp (L2 (p + 8 + 1)) := okp_ext (drF_ok s) (fun t ht => (e8 t ht).symm)
    obtain ⟨I5, L5, w1, w2, w3, w4⟩ := s_run (S := S) (I := I') (L := L2) (p := p + 12) (q := p + 8) (r := p + 21) hfa hwk hwf (by omega) (by omega) (by omega) ok2
    rw [rlpp_ext e8] at w3 w4
    have ms := s_multSum (S := S) (I := I5) (L := L5) hwf w4
    have hf5 : fr (scX p) I L I5 L5 := fr_tr (fr_tr hf (fr_L (X := scX p) (a := p + 8 + 1) (f := drF s) (by unfold scX; omega)) (fun b hb => hb.elim id id)) (by rw [← hL2]; exact w2) (fun b hb => by
      rcases hb with hb | hb
      · exact hb
      · unfold fcX fX at hb
        unfold scX
        omega)
    obtain ⟨I1, L1, k1, k2⟩ := ih (i + 1) (by omega) (drS s) (if nI (drM s) = 1 then u + 1 else u) (v + nI (drM s)) hR I5 L5 hf5
    refine ⟨I1, L1, k1, it_X8_drawn_39 hd (ge_f (by omega) (by omega) ⟨_, _, s_setConstant hwk 0, _, _, s_set hwk (k := 4) (by decide) 1, ?_⟩)⟩
    have st : ∀ (x : Int64) (k : Nat) (J : Nat → Nat → Int32) (K : Nat → Nat → Int64), k < 6 → CTv mr_X5_set [.ref (p + 8), .int (nI k), .long (cof (sd x))] S J K J (mj_up K (p + 8 + 1) k (cof (sd x))) := fun x k J K hk => s_set hwk hk _
    refine it_X8_drawn_65 hd (ng_f (i := 3) (by decide) (fun y hy => ?_))
    subst hy
    refine ⟨_, _, st s 3 _ _ (by decide), fun y hy => ?_⟩
    subst hy
    refine it_X8_drawn_65 hd (ng_f (i := 2) (by decide) (fun y hy => ?_))
    subst hy
    refine ⟨_, _, st (sd s) 2 _ _ (by decide), fun y hy => ?_⟩
    subst hy
    refine it_X8_drawn_65 hd (ng_f (i := 1) (by decide) (fun y hy => ?_))
    subst hy
    refine ⟨_, _, st (sd (sd s)) 1 _ _ (by decide), fun y hy => ?_⟩
    subst hy
    refine it_X8_drawn_65 hd (ng_f (i := 0) (by decide) (fun y hy => ?_))
    subst hy
    refine ⟨_, _, st (sd (sd (sd s))) 0 _ _ (by decide), fun y hy => ?_⟩
    subst hy
    have e : mj_up (mj_up (mj_up (mj_up (mj_up (mwn L' (p + 8 + 1) 6 (fun k => if k = 0 then 0 else 0)) (p + 8 + 1) 4 1) (p + 8 + 1) 3 (cof (sd s))) (p + 8 + 1) 2 (cof (sd (sd s)))) (p + 8 + 1) 1 (cof (sd (sd (sd s))))) (p + 8 + 1) 0 (cof (sd (sd (sd (sd s))))) = L2 := by
      rw [mwn_up (by decide), mwn_up (by decide), mwn_up (by decide), mwn_up (by decide), mwn_up (by decide), hL2]
      exact mwn_congr (fun t ht => rfl)
    rw [e]
    refine it_X8_drawn_65 hd (ng_t (show nI 0 + (-1) < 0 by decide) ⟨_, _, w1, _, _, _, ms, fun y hy => ?_⟩)
    subst hy
    have em : nI (msum (fM (rl (pp (drF s)))) (fN (rl (pp (drF s))))) = nI (drM s) := rfl
    rw [em]
    refine ⟨fun q y hy z hz => ?_, fun q y hy z hz => ?_⟩
    · subst hy; subst hz
      rw [nI_1]
      rw [if_neg q] at k2
      rw [Int32.add_zero]
      exact k2
    · subst hy; subst hz
      rw [nI_1]
      rw [if_pos q] at k2
      exact k2
theorem c_drawn (hd : is_Desk S p) (a b c : Int32) : ∃ I1 L1, CTi mr_X8_drawn [.ref p, .int a, .int b, .int c] S I L (sp_drawn a b c) I1 L1 ∧ fr (scX p) I L I1 L1 := by
  unfold sp_drawn
  by_cases a1 : a < 1
  · rw [if_pos a1]
    exact ⟨I, L, wp_X8_drawn hd ⟨fun _ => ⟨rfl, rfl⟩, fun q => absurd a1 q⟩, fr_rf⟩
  · rw [if_neg a1]
    by_cases a4 : 4 < a
    · rw [if_pos a4]
      exact ⟨I, L, wp_X8_drawn hd ⟨fun q => absurd q a1, fun _ => ⟨fun _ => ⟨rfl, rfl⟩, fun q => absurd a4 q⟩⟩, fr_rf⟩
    · rw [if_neg a4]
      by_cases b0 : b < 0
      · rw [if_pos b0]
        exact ⟨I, L, wp_X8_drawn hd ⟨fun q => absurd q a1, fun _ => ⟨fun q => absurd q a4, fun _ => ⟨fun _ => ⟨rfl, rfl⟩, fun q => absurd b0 q⟩⟩⟩, fr_rf⟩
      · rw [if_neg b0]
        by_cases c0 : c < 0
        · rw [if_pos c0]
          exact ⟨I, L, wp_X8_drawn hd ⟨fun q => absurd q a1, fun _ => ⟨fun q => absurd q a4, fun _ => ⟨fun q => absurd q b0, fun _ => ⟨fun _ => ⟨rfl, rfl⟩, fun q => absurd c0 q⟩⟩⟩⟩, fr_rf⟩
        · rw [if_neg c0]
          by_cases c2 : c ≤ 2
          · rw [if_pos c2]
            have ha : a.toNatClampNeg ≤ 4 ∧ a = nI a.toNatClampNeg := by
              have h0 : ¬ a < 0 := fun q => a1 (by rw [Int32.lt_iff_toInt_lt] at q ⊢; have : (0 : Int32).toInt = 0 := rfl; have : (1 : Int32).toInt = 1 := rfl; omega)
              obtain ⟨n, h31, rfl⟩ := nI_of (x := a) h0
              rw [nI_clamp h31]
              refine ⟨?_, rfl⟩
              rcases Nat.lt_or_ge 4 n with q | q
              · exact absurd ((nI_ltI (a := 4) (by decide) h31).mpr q) a4
              · exact q
            obtain ⟨I1, L1, k1, k2⟩ := c_drawLoop (S := S) (I := I) (L := L) (p := p) hd (n := a.toNatClampNeg) ha.1 (c := c) a.toNatClampNeg 0 (by omega) b.toInt64 0 0 rfl I L fr_rf
            rw [← ha.2] at k2
            exact ⟨I1, L1, wp_X8_drawn hd ⟨fun q => absurd q a1, fun _ => ⟨fun q => absurd q a4, fun _ => ⟨fun q => absurd q b0, fun _ => ⟨fun q => absurd q c0, fun _ => ⟨fun _ y hy => by rw [hy]; exact k2, fun q => absurd c2 q⟩⟩⟩⟩⟩, k1⟩
          · rw [if_neg c2]
            exact ⟨I, L, wp_X8_drawn hd ⟨fun q => absurd q a1, fun _ => ⟨fun q => absurd q a4, fun _ => ⟨fun q => absurd q b0, fun _ => ⟨fun q => absurd q c0, fun _ => ⟨fun q => absurd q c2, fun _ => ⟨rfl, rfl⟩⟩⟩⟩⟩⟩, fr_rf⟩
end
