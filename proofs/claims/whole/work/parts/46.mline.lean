/-! THE REFERENCE: its search for factors of degree 1 -/
variable {S : List mjD} {I : Nat → Nat → Int32} {L : Nat → Nat → Int64}
def okM (R : Nat → Int64) (n : Nat) : Prop := (R n).toInt.natAbs ≤ 999 ∧ okL R n ∧ (R 0 = 0 → bnd6 R 999) ∧ (R 0 ≠ 0 → (R 0).toInt.natAbs ≤ 999)
theorem okM_of {R : Nat → Int64} {n : Nat} (h : bnd6 R 999) (hn : n < 6) : okM R n := ⟨h n hn, fun k hk => Nat.le_trans (h k hk) (Nat.le_mul_of_pos_right _ (Nat.pow_pos (by decide))), fun _ => h, fun _ => h 0 (by decide)⟩
theorem okM_ext {R R' : Nat → Int64} {n : Nat} (hn : n < 6) (h : okM R n) (he : ∀ k, k < 6 → R' k = R k) : okM R' n := by
  obtain ⟨h1, h2, h3, h4⟩ := h
  have e0 := he 0 (by decide)
  exact ⟨by rw [he n hn]; exact h1, okL_ext h2 (fun k hk => (he k hk).symm), fun h0 k hk => by rw [he k hk]; exact h3 (by rw [← e0]; exact h0) k hk, fun h0 => by rw [e0]; exact h4 (by rw [← e0]; exact h0)⟩
theorem top_le {R Q T : Nat → Int64} {r d : Nat} (hR : deg6 R r) (hQ : deg6 Q (r - d)) (hT : deg6 T d) (hdr : d ≤ r) (he : ∀ x, zev (rl R) x = zev (rl Q) x * zev (rl T) x) : (Q (r - d)).toInt.natAbs ≤ (R r).toInt.natAbs := by
  have h1 := div_cz he (k := r) hR.1
  have := zmul_top (rl Q) (rl T) (r - d) d (deg6_zlt hQ).1 (deg6_zlt hT).1
  rw [show r - d + d = r by omega] at this
  have h2 := this.2
  rw [rl_cz _ _ hR.1, ← h1, rl_co _ hQ.1, rl_co _ hT.1] at h2
  rw [h2, Int.natAbs_mul]
  have h3 := t_ne0 hT.2.1
  have : (Q (r - d)).toInt.natAbs * 1 ≤ (Q (r - d)).toInt.natAbs * (T d).toInt.natAbs := Nat.mul_le_mul_left _ (by omega)
  omega
section
variable {m : Nat} {G : List Int} {r : Nat}
theorem mcI_fr {okR : (Nat → Int64) → Nat → Prop} {I1 : Nat → Nat → Int32} {L1 : Nat → Nat → Int64} (h : mcI okR m G r I L) (e11 : L1 (m + 11) = L (m + 11)) (e12 : I1 (m + 12) = I (m + 12)) (e13 : I1 (m + 13) = I (m + 13)) (e14 : L1 (m + 14) = L (m + 14)) (e19 : I1 m 19 = I m 19) (e24 : I1 m 24 = I m 24) : mcI okR m G r I1 L1 := by
  obtain ⟨n, P, M, f1, f2, f3, f4, f5, f6⟩ := h
  exact ⟨n, P, M, ⟨by rw [e19]; exact f1.1, f1.2.1, fun j hj => mHold_of (f1.2.2 j hj) (fun k _ => by rw [e11]) (by rw [e12]) (by rw [e13])⟩, f2, by rw [e14]; exact f3, by rw [e14]; exact f4, by rw [e24]; exact f5, by rw [e14]; exact f6⟩
theorem m_triesLine {a b : Int64} (hm : is_Model S m) (hG : gOK G) (hr1 : 1 ≤ r) (ha : 1 ≤ a.toInt ∧ a.toInt ≤ 999) (hb : (b = 0 ∧ L (m + 14) 0 = 0 ∧ a.toInt = 1) ∨ (b.toInt ≠ 0 ∧ b.toInt.natAbs ≤ 999 ∧ L (m + 14) 0 ≠ 0)) (hmc : mcI okM m G r I L) :
    ∃ (t : Bool) (I1 : Nat → Nat → Int32) (L1 : Nat → Nat → Int64), CTi mr_X9_triesLine [.ref m, .long a, .long b] S I L (if t then 1 else 0) I1 L1 ∧ frT m I L I1 L1 ∧ (t = true → mcI okM m G (r - 1) I1 L1) ∧ (t = false → mcI okM m G r I1 L1 ∧ L1 (m + 14) = L (m + 14) ∧ ¬ zdv [b.toInt, a.toInt] (zev (rl (L (m + 14))))) := by
  obtain ⟨I2, hI2⟩ : ∃ I2, I2 = mj_up I m 26 (1 : Int32) := ⟨_, rfl⟩
  obtain ⟨L2, hL2⟩ : ∃ L2, L2 = mj_up (mj_up L (m + 15) (1 : Int32).toNatClampNeg a) (m + 15) (0 : Int32).toNatClampNeg b := ⟨_, rfl⟩
  obtain ⟨T, hT⟩ : ∃ T : Nat → Int64, T = fun k => if k = 0 then b else if k = 1 then a else 0 := ⟨_, rfl⟩
  have z : (0 : Int64).toInt = 0 := rfl
  have T0 : T 0 = b := by rw [hT]; rfl
  have T1 : T 1 = a := by rw [hT]; rfl
  have T2 : ∀ k, 1 < k → T k = 0 := fun k hk => by rw [hT]; simp [show ¬ k = 0 by omega, show ¬ k = 1 by omega]
  have hTd : deg6 T 1 := ⟨by decide, fun e => by rw [T1] at e; rw [e, z] at ha; omega, fun k h1 _ => T2 k h1⟩
  have hrow : ∀ k, k ≤ 1 → L2 (m + 15) k = T k := fun k hk => by
    rw [hL2]
    have : k = 0 ∨ k = 1 := by omega
    rcases this with rfl | rfl
    · rw [T0]; exact up_eq
    · rw [T1]
      show mj_up (mj_up L (m + 15) 1 a) (m + 15) 0 b (m + 15) 1 = a
      rw [up_nk (by decide), up_eq]
  have e14 : L2 (m + 14) = L (m + 14) := by rw [hL2, up_ne (by omega), up_ne (by omega)]
  have hmc2 : mcI okM m G r I2 L2 := mcI_fr hmc (by rw [hL2, up_ne (by omega), up_ne (by omega)]) (by rw [hI2, up_ne (by omega)]) (by rw [hI2, up_ne (by omega)]) e14 (by rw [hI2, up_nk (by decide)]) (by rw [hI2, up_nk (by decide)])
  have hmc3 := hmc2
  have hfr2 : frT m I L I2 L2 := ⟨fun c h0 h => ⟨by rw [hI2, up_ne h0], by rw [hL2, up_ne (by omega), up_ne (by omega)]⟩, by rw [hL2, up_ne (by omega), up_ne (by omega)], fun k _ _ k3 => by rw [hI2, up_nk k3]⟩
  have hTe : ∀ x, zev (rl T) x = zev [b.toInt, a.toInt] x := fun x => by
    unfold rl
    rw [T2 2 (by decide), T2 3 (by decide), T2 4 (by decide), T2 5 (by decide), T0, T1, z]; simp [zev]
  obtain ⟨n, P, M, f1, f2, f3, f4, f5, f6⟩ := hmc2
  have hr6 := f4.1
  have hpr := (gOK_rest hG f2.1 f3).1
  have hTb : bnd6 T 999 := fun k hk => by
    rcases Nat.lt_or_ge 1 k with c | c
    · rw [T2 k c, z]; decide
    · have : k = 0 ∨ k = 1 := by omega
      rcases this with rfl | rfl
      · rw [T0]
        rcases hb with ⟨h, -, -⟩ | ⟨-, h, -⟩
        · rw [h, z]; decide
        · exact h
      · rw [T1]; omega
  obtain ⟨t, I1, L1, g1, g2, g3, g4⟩ := m_tries (S := S) (I := I2) (L := L2) (okR := okM) (G := G) (r := r) (d := 1) (T := T) (B := 999 * 5 ^ (5 - r)) (C := 999) hm hG hrow hTd (by rw [T1]; omega) (by rw [hI2, up_eq]; rfl) (Nat.le_refl _) hr1 f6.2.1 hTb (by decide) (by
      have e : r = 1 ∨ r = 2 ∨ r = 3 ∨ r = 4 ∨ r = 5 := by omega
      rcases e with rfl | rfl | rfl | rfl | rfl <;> decide)
    (fun Q o1 o2 o3 o4 Q' hQ' => by
      refine okM_ext (by omega) ?_ hQ'
      have hQ5 : Q 5 = 0 := o3.2.2 5 (by omega) (by decide)
      rcases hb with ⟨h1, h2, h3⟩ | ⟨h1, h2, h3⟩
      · have hb9 := o1.2.2.1 (by rw [e14]; exact h2)
        exact okM_of (okX_2 (n := r) (by rw [T0, h1]; rfl) (by rw [T1]; exact h3) (fun k h1 _ => T2 k (by omega)) hb9 hQ5 o4 0) (by omega)
      · have hT0 : T 0 ≠ 0 := fun e => by rw [T0] at e; rw [e] at h1; exact h1 z
        have e0 := div_cz o4 (k := 0) (by decide)
        have e0' : (L2 (m + 14) 0).toInt = (Q 0).toInt * (T 0).toInt := e0
        have hR0 := o1.2.2.2 (by rw [e14]; exact h3)
        have ht := t_ne0 hT0
        refine ⟨Nat.le_trans (top_le o2 o3 hTd hr1 o4) o1.1, okL_2 hTd hT0 o1.2.1 o2 hr1 o3 o4, fun h0 => ?_, fun _ => ?_⟩
        · rw [h0, z, Int.zero_mul] at e0'
          exact absurd (t_eq0 e0') (by rw [e14]; exact h3)
        · rw [e0', Int.natAbs_mul] at hR0
          have : (Q 0).toInt.natAbs * 1 ≤ (Q 0).toInt.natAbs * (T 0).toInt.natAbs := Nat.mul_le_mul_left _ (by omega)
          omega)
    (fun hz => by
      obtain ⟨w, hw⟩ := hz
      exact zirr_lin (zprim_of hpr hw) (deg6_zlt hTd).1 (deg6_zlt hTd).2) hmc3
  refine ⟨t, I1, L1, wp_X9_triesLine hm ⟨_, _, _, by rw [← hI2, ← hL2]; exact g1, by cases t <;> simp, rfl, rfl⟩, frT_tr hfr2 g2, fun h => (g3 h).1, fun h => ?_⟩
  obtain ⟨h1, h2, h3⟩ := g4 h
  have x14 : L1 (m + 14) = L2 (m + 14) := (h2 _ (fun z => by unfold mdX at z; omega)).2
  refine ⟨?_, x14.trans e14, fun hz => h3 ?_⟩
  · rw [h1]
    exact mcI_fr hmc3 (h2 _ (fun z => by unfold mdX at z; omega)).2 rfl rfl x14 rfl rfl
  · obtain ⟨w, hw⟩ := hz
    exact ⟨w, fun x => by rw [e14, hw x, hTe x]⟩
/-- the state of the search: the row left is R -/
def mlS (m : Nat) (G : List Int) (r : Nat) (R : Nat → Int64) (I : Nat → Nat → Int32) (L : Nat → Nat → Int64) (I' : Nat → Nat → Int32) (L' : Nat → Nat → Int64) : Prop := mcI okM m G r I' L' ∧ L' (m + 14) = R ∧ frT m I L I' L'
theorem m_fl64 {N1 N2 q : Nat} {R : Nat → Int64} (hm : is_Model S m) (hG : gOK G) (hr1 : 1 ≤ r) (hR0 : R 0 ≠ 0) (hN1 : N1 ≤ 999) (hN2 : N2 ≤ 999) (hq1 : 1 ≤ q) (hq : q ≤ N1) (hqd : N1 % q = 0) :
    ∀ p, p ≤ N2 + 1 → 1 ≤ p → ∀ I' L', mlS m G r R I L I' L' → ∃ (b : Bool) (I1 : Nat → Nat → Int32) (L1 : Nat → Nat → Int64), frT m I L I1 L1 ∧ (b = true → mcI okM m G (r - 1) I1 L1) ∧
      (b = false → mlS m G r R I L I1 L1 ∧ ∀ p', p ≤ p' → p' ≤ N2 → p' ∣ N2 → Nat.gcd p' q = 1 → ndv q p' (rl R)) ∧
      ∀ RET : Option Value → mjH → Prop, (b = true → RET (some (.int 1)) (S, I1, L1)) → (b = false → ∀ y : Int64, y = lN q + 1 → hd_X9_findLine_54 S RET m (lN N1) (lN N2) y I1 L1) → hd_X9_findLine_64 S RET m (lN N1) (lN N2) (lN q) (lN p) I' L' := by
  have hq0 : ¬ lN q = 0 := fun h => absurd ((pk_lEQ (b := 0) (by omega) (by decide)).mp h) (by omega)
  have hrq : lN N1 - lN N1 / lN q * lN q = (0 : Int64) := by rw [pk_lRem (by omega) hq1 (by omega), hqd]; rfl
  refine up_loop (N2 + 1) (fun _ I' L' hs => ⟨false, I', L', hs.2.2, (fun h => by cases h), fun _ => ⟨hs, fun p' h1 h2 => by omega⟩, fun RET _ hk => it_X9_findLine_64 hm ⟨hq0, fun h => absurd hrq h, fun _ => ⟨fun _ => hk rfl, fun h => absurd ((pk_lLT (by omega) (by omega)).mpr (by omega)) h⟩⟩⟩) (fun p hp ih hp1 I' L' hs => ?_)
  have hp0 : ¬ lN p = 0 := fun h => absurd ((pk_lEQ (b := 0) (by omega) (by decide)).mp h) (by omega)
  have hnl : ¬ lN N2 < lN p := fun h => absurd ((pk_lLT (by omega) (by omega)).mp h) (by omega)
  have hrp : lN N2 - lN N2 / lN p * lN p = lN (N2 % p) := pk_lRem (by omega) hp1 (by omega)
  have hlp : (lN p).toInt = p := t_lN (by omega)
  have hlq : (lN q).toInt = q := t_lN (by omega)
  have hgc := m_divisor (S := S) (I := I') (L := L') (a := lN p) (b := lN q) (by omega) (by omega)
  have hgg : Nat.gcd (lN p).toInt.natAbs (lN q).toInt.natAbs = Nat.gcd p q := by rw [hlp, hlq]; rfl
  rw [hgg] at hgc
  have hgle : Nat.gcd p q ≤ p := Nat.le_of_dvd (by omega) (Nat.gcd_dvd_left _ _)
  by_cases hd : N2 % p = 0
  · by_cases hg : Nat.gcd p q = 1
    · have hg1 : lN (Nat.gcd p q) = (1 : Int64) := by rw [hg]; rfl
      obtain ⟨b1, I1, L1, a1, a2, a3, a4⟩ := m_triesLine (S := S) (I := I') (L := L') (a := lN q) (b := -(lN p)) hm hG hr1 (by omega) (Or.inr ⟨by rw [t_neg (by omega)]; omega, by rw [t_neg (by omega)]; omega, by rw [hs.2.1]; exact hR0⟩) hs.1
      cases b1 with
      | true =>
        exact ⟨true, I1, L1, frT_tr hs.2.2 a2, fun _ => a3 rfl, (fun h => by cases h), fun RET h1 _ => it_X9_findLine_64 hm ⟨hq0, fun h => absurd hrq h, fun _ => ⟨fun h => absurd h hnl, fun _ => ⟨hp0, fun h => absurd (by rw [hrp, hd]; rfl) h, fun _ => ⟨_, _, _, hgc, fun h => absurd hg1 h, fun _ => ⟨_, _, _, a1, fun _ => h1 rfl, fun h => absurd (show (1 : Int32) = 0 from h) (by decide)⟩⟩⟩⟩⟩⟩
      | false =>
        obtain ⟨a5, a6, a7⟩ := a4 rfl
        rw [hs.2.1] at a7
        obtain ⟨b2, I2, L2, c1, c2, c3, c4⟩ := m_triesLine (S := S) (I := I1) (L := L1) (a := lN q) (b := lN p) hm hG hr1 (by omega) (Or.inr ⟨by omega, by omega, by rw [a6, hs.2.1]; exact hR0⟩) a5
        cases b2 with
        | true =>
          exact ⟨true, I2, L2, frT_tr hs.2.2 (frT_tr a2 c2), fun _ => c3 rfl, (fun h => by cases h), fun RET h1 _ => it_X9_findLine_64 hm ⟨hq0, fun h => absurd hrq h, fun _ => ⟨fun h => absurd h hnl, fun _ => ⟨hp0, fun h => absurd (by rw [hrp, hd]; rfl) h, fun _ => ⟨_, _, _, hgc, fun h => absurd hg1 h, fun _ => ⟨_, _, _, a1, fun h => absurd rfl h, fun _ => ⟨_, _, _, c1, fun h => absurd (show (1 : Int32) = 0 from h) (by decide), fun _ => h1 rfl⟩⟩⟩⟩⟩⟩⟩
        | false =>
          obtain ⟨c5, c6, c7⟩ := c4 rfl
          rw [a6, hs.2.1] at c7
          have hs2 : mlS m G r R I L I2 L2 := ⟨c5, by rw [c6, a6]; exact hs.2.1, frT_tr hs.2.2 (frT_tr a2 c2)⟩
          obtain ⟨b3, I3, L3, d1, d2, d3, d4⟩ := ih (by omega) I2 L2 hs2
          refine ⟨b3, I3, L3, d1, d2, fun h => ⟨(d3 h).1, fun p' h1 h2 h3 h4 => ?_⟩, fun RET h1 hk => it_X9_findLine_64 hm ⟨hq0, fun h => absurd hrq h, fun _ => ⟨fun h => absurd h hnl, fun _ => ⟨hp0, fun h => absurd (by rw [hrp, hd]; rfl) h, fun _ => ⟨_, _, _, hgc, fun h => absurd hg1 h, fun _ => ⟨_, _, _, a1, fun h => absurd rfl h, fun _ => ⟨_, _, _, c1, fun _ y hy => (by rw [hy, lN_1]; exact d4 RET h1 hk), fun h => absurd rfl h⟩⟩⟩⟩⟩⟩⟩
          rcases Nat.eq_or_lt_of_le h1 with e | e
          · subst e
            rw [hlq] at a7 c7
            rw [hlp] at c7
            rw [t_neg (by omega), hlp] at a7
            exact ⟨c7, a7⟩
          · exact (d3 h).2 p' e h2 h3 h4
    · have hg1 : ¬ lN (Nat.gcd p q) = (1 : Int64) := fun h => hg ((pk_lEQ (b := 1) (by omega) (by decide)).mp h)
      obtain ⟨b3, I3, L3, d1, d2, d3, d4⟩ := ih (by omega) I' L' hs
      refine ⟨b3, I3, L3, d1, d2, fun h => ⟨(d3 h).1, fun p' h1 h2 h3 h4 => ?_⟩, fun RET h1 hk => it_X9_findLine_64 hm ⟨hq0, fun h => absurd hrq h, fun _ => ⟨fun h => absurd h hnl, fun _ => ⟨hp0, fun h => absurd (by rw [hrp, hd]; rfl) h, fun _ => ⟨_, _, _, hgc, fun _ y hy => (by rw [hy, lN_1]; exact d4 RET h1 hk), fun h => absurd h hg1⟩⟩⟩⟩⟩
      rcases Nat.eq_or_lt_of_le h1 with e | e
      · subst e; exact absurd h4 hg
      · exact (d3 h).2 p' e h2 h3 h4
  · have hdn : ¬ lN (N2 % p) = (0 : Int64) := fun h => hd ((pk_lEQ (b := 0) (by have := Nat.mod_lt N2 (show p > 0 by omega); omega) (by decide)).mp h)
    obtain ⟨b3, I3, L3, d1, d2, d3, d4⟩ := ih (by omega) I' L' hs
    refine ⟨b3, I3, L3, d1, d2, fun h => ⟨(d3 h).1, fun p' h1 h2 h3 h4 => ?_⟩, fun RET h1 hk => it_X9_findLine_64 hm ⟨hq0, fun h => absurd hrq h, fun _ => ⟨fun h => absurd h hnl, fun _ => ⟨hp0, fun _ y hy => (by rw [hy, lN_1]; exact d4 RET h1 hk), fun h => absurd (by rw [hrp] at h; exact h) hdn⟩⟩⟩⟩
    rcases Nat.eq_or_lt_of_le h1 with e | e
    · subst e; exact absurd (Nat.mod_eq_zero_of_dvd h3) hd
    · exact (d3 h).2 p' e h2 h3 h4
theorem m_fl54 {N1 N2 : Nat} {R : Nat → Int64} (hm : is_Model S m) (hG : gOK G) (hr1 : 1 ≤ r) (hR0 : R 0 ≠ 0) (hN1 : N1 ≤ 999) (hN2 : N2 ≤ 999) :
    ∀ q, q ≤ N1 + 1 → 1 ≤ q → ∀ I' L', mlS m G r R I L I' L' → ∃ (b : Bool) (I1 : Nat → Nat → Int32) (L1 : Nat → Nat → Int64), frT m I L I1 L1 ∧ (b = true → mcI okM m G (r - 1) I1 L1) ∧
      (b = false → mlS m G r R I L I1 L1 ∧ ∀ q' p', q ≤ q' → q' ≤ N1 → q' ∣ N1 → 1 ≤ p' → p' ≤ N2 → p' ∣ N2 → Nat.gcd p' q' = 1 → ndv q' p' (rl R)) ∧
      hd_X9_findLine_54 S (fun v h => v = some (.int (if b then 1 else 0)) ∧ h = (S, I1, L1)) m (lN N1) (lN N2) (lN q) I' L' := by
  refine up_loop (N1 + 1) (fun _ I' L' hs => ⟨false, I', L', hs.2.2, (fun h => by cases h), fun _ => ⟨hs, fun q' p' h1 h2 => by omega⟩, it_X9_findLine_54 hm ⟨fun _ => ⟨rfl, rfl⟩, fun h => absurd ((pk_lLT (by omega) (by omega)).mpr (by omega)) h⟩⟩) (fun q hq ih hq1 I' L' hs => ?_)
  have hq0 : ¬ lN q = 0 := fun h => absurd ((pk_lEQ (b := 0) (by omega) (by decide)).mp h) (by omega)
  have hnl : ¬ lN N1 < lN q := fun h => absurd ((pk_lLT (by omega) (by omega)).mp h) (by omega)
  have hrq : lN N1 - lN N1 / lN q * lN q = lN (N1 % q) := pk_lRem (by omega) hq1 (by omega)
  by_cases hd : N1 % q = 0
  · obtain ⟨b1, I1, L1, a1, a2, a3, a4⟩ := m_fl64 (S := S) (I := I) (L := L) hm hG hr1 hR0 hN1 hN2 hq1 (by omega) hd 1 (by omega) (Nat.le_refl _) I' L' hs
    cases b1 with
    | true => exact ⟨true, I1, L1, a1, a2, (fun h => by cases h), it_X9_findLine_54 hm ⟨fun h => absurd h hnl, fun _ => a4 _ (fun _ => ⟨rfl, rfl⟩) (fun h => by cases h)⟩⟩
    | false =>
      obtain ⟨b3, I3, L3, d1, d2, d3, d4⟩ := ih (by omega) I1 L1 (a3 rfl).1
      refine ⟨b3, I3, L3, d1, d2, fun h => ⟨(d3 h).1, fun q' p' h1 h2 h3 h4 h5 h6 h7 => ?_⟩, it_X9_findLine_54 hm ⟨fun h => absurd h hnl, fun _ => a4 _ (fun h => by cases h) (fun _ y hy => by rw [hy, lN_1]; exact d4)⟩⟩
      rcases Nat.eq_or_lt_of_le h1 with e | e
      · subst e; exact (a3 rfl).2 p' h4 h5 h6 h7
      · exact (d3 h).2 q' p' e h2 h3 h4 h5 h6 h7
  · have hdn : ¬ lN (N1 % q) = (0 : Int64) := fun h => hd ((pk_lEQ (b := 0) (by have := Nat.mod_lt N1 (show q > 0 by omega); omega) (by decide)).mp h)
    obtain ⟨b3, I3, L3, d1, d2, d3, d4⟩ := ih (by omega) I' L' hs
    refine ⟨b3, I3, L3, d1, d2, fun h => ⟨(d3 h).1, fun q' p' h1 h2 h3 h4 h5 h6 h7 => ?_⟩, it_X9_findLine_54 hm ⟨fun h => absurd h hnl, fun _ => it_X9_findLine_64 hm ⟨hq0, fun _ y hy => (by rw [hy, lN_1]; exact d4), fun h => absurd (by rw [hrq] at h; exact h) hdn⟩⟩⟩
    rcases Nat.eq_or_lt_of_le h1 with e | e
    · subst e; exact absurd (Nat.mod_eq_zero_of_dvd h3) hd
    · exact (d3 h).2 q' p' e h2 h3 h4 h5 h6 h7
theorem m_findLine (hm : is_Model S m) (hG : gOK G) (hmc : mcI okM m G r I L) : ∃ (b : Bool) (I1 : Nat → Nat → Int32) (L1 : Nat → Nat → Int64), CTi mr_X9_findLine [.ref m] S I L (if b then 1 else 0) I1 L1 ∧ frT m I L I1 L1 ∧ (b = true → 1 ≤ r ∧ mcI okM m G (r - 1) I1 L1) ∧ (b = false → mcI okM m G r I1 L1 ∧ noLin (rl (L1 (m + 14)))) := by
  have hmc0 := hmc
  obtain ⟨n, P, M, f1, f2, f3, f4, f5, f6⟩ := hmc
  have hr6 := f4.1
  obtain ⟨hpr, -⟩ := gOK_rest hG f2.1 f3
  have z : (0 : Int64).toInt = 0 := rfl
  rcases Nat.eq_zero_or_pos r with e | e
  · subst e
    refine ⟨false, I, L, wp_X9_findLine hm ?_, frT_rf, (fun h => by cases h), fun _ => ⟨hmc0, fun u hu hu1 => zdv_small hu1 (deg6_zlt f4).1 (deg6_zlt f4).2 (by decide)⟩⟩
    rw [f5]
    exact ⟨fun h => absurd h (by decide), fun _ => ⟨rfl, rfl⟩⟩
  · have h1r : (1 : Int32) ≤ nI r := nI_le (a := 1) e (by omega)
    by_cases h0 : L (m + 14) 0 = 0
    · obtain ⟨b, I1, L1, a1, a2, a3, a4⟩ := m_triesLine (S := S) (I := I) (L := L) (a := 1) (b := 0) hm hG e (by decide) (Or.inl ⟨rfl, h0, rfl⟩) hmc0
      refine ⟨b, I1, L1, wp_X9_findLine hm ?_, a2, fun h => ⟨e, a3 h⟩, fun h => ?_⟩
      · rw [f5]
        exact ⟨fun _ => ⟨fun h => absurd h0 h, fun _ => ⟨_, _, _, a1, by cases b <;> simp, rfl, rfl⟩⟩, fun h => absurd h1r h⟩
      · exact absurd ⟨[(L (m + 14) 1).toInt, (L (m + 14) 2).toInt, (L (m + 14) 3).toInt, (L (m + 14) 4).toInt, (L (m + 14) 5).toInt], fun x => by
          unfold rl; rw [h0, z]
          have o1 : (1 : Int64).toInt = 1 := rfl
          rw [o1]; simp [zev]⟩ (a4 h).2.2
    · have hlead := t_ne0 f4.2.1
      have hlast := t_ne0 h0
      have b1 := f6.1
      have b2 := f6.2.2.2 h0
      have c1 := m_aboveN (S := S) (I := I) (L := L) (a := L (m + 14) r) (by omega)
      have c2 := m_aboveN (S := S) (I := I) (L := L) (a := L (m + 14) 0) (by omega)
      obtain ⟨b, I1, L1, a1, a2, a3, a4⟩ := m_fl54 (S := S) (I := I) (L := L) (R := L (m + 14)) hm hG e h0 b1 b2 1 (by omega) (Nat.le_refl _) I L ⟨hmc0, rfl, frT_rf⟩
      refine ⟨b, I1, L1, wp_X9_findLine hm ?_, a1, fun h => ⟨e, a2 h⟩, fun h => ⟨(a3 h).1.1, fun u hu hu1 hz => ?_⟩⟩
      · rw [f5]
        exact ⟨fun _ => ⟨fun _ => ⟨vp_in_nI hr6 (by decide), _, _, _, by rw [nI_clamp (by omega)]; exact c1, _, _, _, c2, a4⟩, fun h => absurd h h0⟩, fun h => absurd h1r h⟩
      · rw [(a3 h).1.2.1] at hz
        have hz0 := hz
        obtain ⟨w, hw⟩ := hz
        obtain ⟨e1, e2⟩ := co_dvd hw (deg6_zlt f4).1 (deg6_zlt f4).2 hu hu1
        rw [rl_co _ hr6] at e1
        rw [rl_co _ (by decide)] at e2
        have g1 : (zco u 1).natAbs ∣ (L (m + 14) r).toInt.natAbs := Int.natAbs_dvd_natAbs.mpr e1
        have g2 : (zco u 0).natAbs ∣ (L (m + 14) 0).toInt.natAbs := Int.natAbs_dvd_natAbs.mpr (by rw [e2]; exact Int.dvd_mul_right _ _)
        have l1 := Nat.le_of_dvd (by omega) g1
        have l2 := Nat.le_of_dvd (by omega) g2
        have u0 : 1 ≤ (zco u 0).natAbs := by
          rcases Nat.eq_zero_or_pos (zco u 0).natAbs with e | e
          · rw [e] at g2
            have := Nat.zero_dvd.mp g2
            omega
          · exact e
        have hgcd : Nat.gcd (zco u 0).natAbs (zco u 1).natAbs = 1 := by
          have hd : zdc (Nat.gcd (zco u 0).natAbs (zco u 1).natAbs : Int) u := fun k => by
            match k with
            | 0 => exact Int.ofNat_dvd_left.mpr (Nat.gcd_dvd_left _ _)
            | 1 => exact Int.ofNat_dvd_left.mpr (Nat.gcd_dvd_right _ _)
            | k + 2 => rw [hu (k + 2) (by omega)]; exact Int.dvd_zero _
          have := zprim_of hpr hw _ hd
          exact Nat.dvd_one.mp (Int.natCast_dvd_natCast.mp this)
        obtain ⟨x1, x2⟩ := (a3 h).2 _ _ (by omega) l1 g1 u0 l2 g2 hgcd
        rcases Int.natAbs_eq (zco u 1) with s1 | s1 <;> rcases Int.natAbs_eq (zco u 0) with s0 | s0
        · refine x1 ?_
          obtain ⟨y, hy⟩ := hz0
          exact ⟨y, fun x => by rw [hy x, zev_2 hu, ← s0, ← s1]⟩
        · refine x2 ?_
          obtain ⟨y, hy⟩ := hz0
          exact ⟨y, fun x => by rw [hy x, zev_2 hu, ← s0, ← s1]⟩
        · refine x2 (zdv_neg hz0 (fun x => ?_))
          rw [zev_2 hu]; simp only [zev]; rw [← s0]; grind
        · refine x1 (zdv_neg hz0 (fun x => ?_))
          rw [zev_2 hu]; simp only [zev]; grind
end
