/-! CONTRACTS: the factoring of the class -/
variable {S : List mjD} {I : Nat → Nat → Int32} {L : Nat → Nat → Int64}
/-- a polynomial as slots hold it -/
def okp (f : Nat → Int64) : Prop := bnd6 f 999 ∧ ∃ k, k < 6 ∧ f k ≠ 0
/-- without its content -/
def pp (f : Nat → Int64) : Nat → Int64 := fun k => f k / cont f
theorem gN_dvd (f : Nat → Int64) : ∀ i k, k < i → gN f i ∣ (f k).toInt.natAbs
  | 0, k, h => by omega
  | i + 1, k, h => by
    rcases Nat.eq_or_lt_of_le (Nat.lt_succ_iff.mp h) with e | e
    · subst e; exact Nat.gcd_dvd_right _ _
    · exact Nat.dvd_trans (Nat.gcd_dvd_left _ _) (gN_dvd f i k e)
theorem gN_gr {f : Nat → Int64} {d : Nat} : ∀ i, (∀ k, k < i → d ∣ (f k).toInt.natAbs) → d ∣ gN f i
  | 0, _ => Nat.dvd_zero _
  | i + 1, h => Nat.dvd_gcd (gN_gr i (fun k hk => h k (by omega))) (h i (by omega))
theorem dg_ext {f g : Nat → Int64} (h : ∀ k, k < 6 → f k = g k) : dg f = dg g := by
  unfold dg
  have key : ∀ i, i ≤ 6 → dgF f i = dgF g i := by
    intro i
    induction i with
    | zero => exact fun _ => rfl
    | succ i ih => exact fun hi => by rw [dgF, dgF, h i (by omega), ih (by omega)]
  exact key 6 (Nat.le_refl _)
theorem pat_ext {f g : Nat → Int64} (h : ∀ k, k < 6 → f k = g k) (a : Int32) : pat f a = pat g a := by
  unfold pat
  by_cases h0 : a < 0
  · rw [if_pos h0, if_pos h0]
  · rw [if_neg h0, if_neg h0]
    by_cases h6 : 6 ≤ a
    · rw [if_pos h6, if_pos h6]
    · rw [if_neg h6, if_neg h6]
      have := in_of (n := 6) (by decide) h0 h6
      obtain ⟨j, hj, rfl⟩ := vp_in_of this (by decide)
      rw [nI_clamp (by omega)]; exact h j hj
theorem gN_ext {f g : Nat → Int64} (h : ∀ k, k < 6 → f k = g k) : ∀ i, i ≤ 6 → gN f i = gN g i := by
  intro i
  induction i with
  | zero => exact fun _ => rfl
  | succ i ih => exact fun hi => by rw [gN, gN, h i (by omega), ih (by omega)]
theorem cont_ext {f g : Nat → Int64} (h : ∀ k, k < 6 → f k = g k) : cont f = cont g := by
  unfold cont
  rw [dg_ext h, pat_ext h, gN_ext h 6 (Nat.le_refl _)]
theorem okp_ext {f g : Nat → Int64} (h : okp f) (he : ∀ k, k < 6 → f k = g k) : okp g := by
  obtain ⟨h1, k, hk, h2⟩ := h
  exact ⟨fun k hk => by rw [← he k hk]; exact h1 k hk, k, hk, by rw [← he k hk]; exact h2⟩
theorem rlpp_ext {f g : Nat → Int64} (h : ∀ k, k < 6 → f k = g k) : rl (pp f) = rl (pp g) := rl_ext (fun k hk => by unfold pp; rw [h k hk, cont_ext h])
theorem pp_ok {f : Nat → Int64} (h : okp f) : ∃ n, deg6 f n ∧ deg6 (pp f) n ∧ 0 < (pp f n).toInt ∧ bnd6 (pp f) 999 ∧ (cont f).toInt ≠ 0 ∧ (cont f).toInt.natAbs ≤ 999 ∧ (cont f).toInt.natAbs = gN f 6 ∧ (∀ k, k < 6 → (f k).toInt = (cont f).toInt * (pp f k).toInt) ∧ gOK (rl (pp f)) := by
  obtain ⟨hb, hex⟩ := h
  obtain ⟨n, hn⟩ := deg6_ex hex
  have hn6 := hn.1
  have hfn := t_ne0 hn.2.1
  have hg1 := gN_dvd f 6 n hn6
  have hgl := Nat.le_of_dvd (by omega) hg1
  have hbn := hb n hn6
  have hgp : 1 ≤ gN f 6 := Nat.pos_of_dvd_of_pos hg1 (by omega)
  have hlN : (lN (gN f 6)).toInt = gN f 6 := t_lN (by omega)
  have hc : ((cont f).toInt = gN f 6 ∧ 0 < (f n).toInt) ∨ ((cont f).toInt = -(gN f 6 : Int) ∧ (f n).toInt < 0) := by
    unfold cont
    rw [deg6_dg hn, pat_n hn6]
    by_cases h0 : 0 ≤ f n
    · rw [if_pos h0, hlN]
      have := Int64.le_iff_toInt_le.mp h0
      have z : (0 : Int64).toInt = 0 := rfl
      exact Or.inl ⟨rfl, by omega⟩
    · rw [if_neg h0, t_neg (by omega), hlN]
      have : ¬ (0 : Int64).toInt ≤ (f n).toInt := fun q => h0 (Int64.le_iff_toInt_le.mpr q)
      have z : (0 : Int64).toInt = 0 := rfl
      exact Or.inr ⟨rfl, by omega⟩
  have hc0 : (cont f).toInt ≠ 0 := by omega
  have hca : (cont f).toInt.natAbs = gN f 6 := by omega
  have hm : ∀ k, k < 6 → (f k).toInt = (cont f).toInt * (pp f k).toInt ∧ (pp f k).toInt.natAbs ≤ 999 := fun k hk => by
    have hd : (cont f).toInt ∣ (f k).toInt := Int.natAbs_dvd_natAbs.mp (by rw [hca]; exact gN_dvd f 6 k hk)
    exact div_by hd hc0 (hb k hk)
  have hdp : deg6 (pp f) n := ⟨hn6, fun e => by
    have := (hm n hn6).1
    rw [e] at this
    exact hfn (by rw [this]; exact Int.mul_zero _), fun k h1 h6 => by
    have h2 := (hm k h6).1
    rw [hn.2.2 k h1 h6] at h2
    have z : (0 : Int64).toInt = 0 := rfl
    rw [z] at h2
    rcases Int.mul_eq_zero.mp h2.symm with h3 | h3
    · exact absurd h3 hc0
    · exact t_eq0 h3⟩
  have hpos : 0 < (pp f n).toInt := by
    have h1 := (hm n hn6).1
    apply Classical.byContradiction
    intro hcon
    rcases hc with ⟨c1, c2⟩ | ⟨c1, c2⟩
    · have : (cont f).toInt * (pp f n).toInt ≤ 0 := Int.mul_nonpos_of_nonneg_of_nonpos (by omega) (by omega)
      omega
    · have : 0 ≤ (cont f).toInt * (pp f n).toInt := Int.mul_nonneg_of_nonpos_of_nonpos (by omega) (by omega)
      omega
  refine ⟨n, hn, hdp, hpos, fun k hk => (hm k hk).2, hc0, by omega, hca, fun k hk => (hm k hk).1, fun m hmd => ?_, n, by omega, (deg6_zlt hdp).1, by rw [rl_co _ hn6]; exact hpos⟩
  have h1 : gN f 6 * m.natAbs ∣ gN f 6 := gN_gr 6 (fun k hk => by
    rw [(hm k hk).1, Int.natAbs_mul, hca]
    refine Nat.mul_dvd_mul (Nat.dvd_refl _) (Int.natAbs_dvd_natAbs.mpr ?_)
    have := hmd k
    rwa [rl_co _ hk] at this)
  have h2 : gN f 6 * m.natAbs ∣ gN f 6 * 1 := by rwa [Nat.mul_one]
  have h3 := Nat.dvd_of_mul_dvd_mul_left hgp h2
  exact Int.natAbs_dvd_natAbs.mp h3
def okX (R : Nat → Int64) (_ : Nat) : Prop := bnd6 R 999
def okQ (R : Nat → Int64) (n : Nat) : Prop := (4 ≤ n → okL R n) ∧ (n ≤ 3 → ∀ k, 2 ≤ k → k < 6 → (R k).toInt.natAbs ≤ 5000000)
theorem okX_2 {R Q T : Nat → Int64} {n : Nat} (hT0 : (T 0).toInt = 0) (hT1 : (T 1).toInt = 1) (hT2 : ∀ k, 2 ≤ k → k < 6 → T k = 0) (h : okX R n) (hQ : Q 5 = 0) (he : ∀ x, zev (rl R) x = zev (rl Q) x * zev (rl T) x) (m : Nat) : okX Q m := by
  have t2 : ∀ k, 2 ≤ k → k < 6 → ti T k = 0 := fun k h1 h2 => by
    show (T k).toInt = 0
    rw [hT2 k h1 h2]; rfl
  have t0 : ti T 0 = 0 := hT0
  have t1 : ti T 1 = 1 := hT1
  have z : (0 : Int64).toInt = 0 := rfl
  have e1 := div_cz he (k := 1) (by decide)
  have e2 := div_cz he (k := 2) (by decide)
  have e3 := div_cz he (k := 3) (by decide)
  have e4 := div_cz he (k := 4) (by decide)
  have e5 := div_cz he (k := 5) (by decide)
  simp only [cz, t0, t1, t2 2 (by decide) (by decide), t2 3 (by decide) (by decide), t2 4 (by decide) (by decide), t2 5 (by decide) (by decide), Int.mul_zero, Int.zero_mul, Int.add_zero, Int.zero_add, Int.mul_one] at e1 e2 e3 e4 e5
  intro k hk
  have e : k = 0 ∨ k = 1 ∨ k = 2 ∨ k = 3 ∨ k = 4 ∨ k = 5 := by omega
  rcases e with rfl | rfl | rfl | rfl | rfl | rfl
  · have := h 1 (by decide); rw [e1] at this; exact this
  · have := h 2 (by decide); rw [e2] at this; exact this
  · have := h 3 (by decide); rw [e3] at this; exact this
  · have := h 4 (by decide); rw [e4] at this; exact this
  · have := h 5 (by decide); rw [e5] at this; exact this
  · rw [hQ, z]; decide
theorem okQ_1 {R : Nat → Int64} {n : Nat} (h : okQ R n) (hn : deg6 R n) (h2 : 2 ≤ n) : ∃ B, (∀ k, 2 ≤ k → k < 6 → (R k).toInt.natAbs ≤ B) ∧ B * (1 + 4895) ^ (n - 2 + 1) < 2 ^ 63 := by
  have := hn.1
  have e : n = 2 ∨ n = 3 ∨ n = 4 ∨ n = 5 := by omega
  rcases e with rfl | rfl | rfl | rfl
  · exact ⟨5000000, h.2 (by decide), by decide⟩
  · exact ⟨5000000, h.2 (by decide), by decide⟩
  · exact ⟨999 * 5 ^ 1, fun k _ hk => h.1 (by decide) k hk, by decide⟩
  · exact ⟨999 * 5 ^ 0, fun k _ hk => h.1 (by decide) k hk, by decide⟩
theorem okQ_2 {R Q T : Nat → Int64} {n : Nat} (hT : deg6 T 2) (hT1 : (T 1).toInt.natAbs ≤ 4895) (h : okQ R n) (hn : deg6 R n) (h2 : 2 ≤ n) (hQ : deg6 Q (n - 2)) (he : ∀ x, zev (rl R) x = zev (rl Q) x * zev (rl T) x) : okQ Q (n - 2) := by
  have hn6 := hn.1
  refine ⟨fun h4 => by omega, fun _ k hk hk6 => ?_⟩
  have z : (0 : Int64).toInt = 0 := rfl
  have t3 : ∀ k, 3 ≤ k → k < 6 → ti T k = 0 := fun k h1 h2 => by
    show (T k).toInt = 0
    rw [hT.2.2 k (by omega) h2]; rfl
  have qz : ∀ k, n - 2 < k → k < 6 → ti Q k = 0 := fun k h1 h2 => by
    show (Q k).toInt = 0
    rw [hQ.2.2 k h1 h2]; rfl
  have hT2 := t_ne0 hT.2.1
  have hle : ∀ {x y : Int}, y ≠ 0 → x.natAbs ≤ (x * y).natAbs := fun {x y} hy => by
    rw [Int.natAbs_mul]
    have : x.natAbs * 1 ≤ x.natAbs * y.natAbs := Nat.mul_le_mul_left _ (by omega)
    omega
  rcases Nat.lt_or_ge (n - 2) k with hc | hc
  · rw [hQ.2.2 k hc hk6, z]; decide
  · have e : (n = 4 ∧ k = 2) ∨ (n = 5 ∧ k = 2) ∨ (n = 5 ∧ k = 3) := by omega
    rcases e with ⟨rfl, rfl⟩ | ⟨rfl, rfl⟩ | ⟨rfl, rfl⟩
    · have e4 := div_cz he (k := 4) (by decide)
      simp only [cz, qz 3 (by decide) (by decide), qz 4 (by decide) (by decide), t3 3 (by decide) (by decide), t3 4 (by decide) (by decide), Int.mul_zero, Int.zero_mul, Int.add_zero, Int.zero_add] at e4
      have b : (R 4).toInt.natAbs ≤ 999 * 5 ^ 1 := h.1 (by decide) 4 (by decide)
      have := hle (x := ti Q 2) hT2
      have e2 : ti T 2 = (T 2).toInt := rfl
      rw [e2] at e4
      rw [← e4] at this
      show (ti Q 2).natAbs ≤ _
      omega
    · have e4 := div_cz he (k := 4) (by decide)
      have e5 := div_cz he (k := 5) (by decide)
      simp only [cz, qz 4 (by decide) (by decide), qz 5 (by decide) (by decide), t3 3 (by decide) (by decide), t3 4 (by decide) (by decide), t3 5 (by decide) (by decide), Int.mul_zero, Int.zero_mul, Int.add_zero, Int.zero_add] at e4 e5
      have b4 : (R 4).toInt.natAbs ≤ 999 * 5 ^ 0 := h.1 (by decide) 4 (by decide)
      have b5 : (R 5).toInt.natAbs ≤ 999 * 5 ^ 0 := h.1 (by decide) 5 (by decide)
      have e2 : ti T 2 = (T 2).toInt := rfl
      rw [e2] at e4 e5
      have h3 := hle (x := ti Q 3) hT2
      rw [← e5] at h3
      have h4 := nb (show (ti Q 3).natAbs ≤ 999 by omega) (show (ti T 1).natAbs ≤ 4895 from hT1)
      have h5 := hle (x := ti Q 2) hT2
      show (ti Q 2).natAbs ≤ _
      omega
    · have e5 := div_cz he (k := 5) (by decide)
      simp only [cz, qz 4 (by decide) (by decide), qz 5 (by decide) (by decide), t3 3 (by decide) (by decide), t3 4 (by decide) (by decide), t3 5 (by decide) (by decide), Int.mul_zero, Int.zero_mul, Int.add_zero, Int.zero_add] at e5
      have b5 : (R 5).toInt.natAbs ≤ 999 * 5 ^ 0 := h.1 (by decide) 5 (by decide)
      have e2 : ti T 2 = (T 2).toInt := rfl
      rw [e2] at e5
      have h3 := hle (x := ti Q 3) hT2
      rw [← e5] at h3
      show (ti Q 3).natAbs ≤ _
      omega
/-- what has small factors neither of degree 1 nor of degree 2 is irreducible -/
theorem zirr_of {R : List Int} {r : Nat} (hp : zprim R) (hl : zlt R (r + 1)) (h0 : zco R r ≠ 0) (h1 : 1 ≤ r) (h5 : r ≤ 5) (hlin : noLin R) (hq : noQuad R ∨ r ≤ 3) : zirr R := ⟨hp, ⟨r, h1, hl, h0⟩, fun u v he => by
  obtain ⟨a, b, hab, ha, hb, ha0, hb0, -⟩ := zdeg_mul he hl h0
  have hv : ∀ x, zev R x = zev v x * zev u x := fun x => by rw [he x, Int.mul_comm]
  rcases Nat.eq_zero_or_pos a with e | e
  · subst e; exact Or.inl ha
  · rcases Nat.eq_zero_or_pos b with e2 | e2
    · subst e2; exact Or.inr hb
    · exfalso
      by_cases c1 : a = 1
      · subst c1; exact hlin u ha ha0 ⟨v, he⟩
      · by_cases c2 : b = 1
        · subst c2; exact hlin v hb hb0 ⟨u, hv⟩
        · rcases hq with hq | hq
          · by_cases c3 : a = 2
            · subst c3; exact hq u ha ha0 ⟨v, he⟩
            · have : b = 2 := by omega
              subst this; exact hq v hb hb0 ⟨u, hv⟩
          · omega⟩
theorem noLin_of {R R' : List Int} (h : noLin R) (hw : ∃ w, ∀ x, zev R x = zev R' x * zev w x) : noLin R' := fun u h1 h2 hz => by
  obtain ⟨w, hw⟩ := hw
  exact h u h1 h2 (zdv_of hz w hw)
section
variable {p q r : Nat} {G : List Int}
theorem run_end {okR : (Nat → Int64) → Nat → Prop} (hp : is_Factoring S p) (hr : is_Factors S r) (hpr : p + 9 ≤ r ∨ r + 13 ≤ p) (hG : gOK G) (hfc : fcI okR p r G I L) (hlin : noLin (rl (L (p + 1 + 1)))) (hq : ∀ n, deg6 (L (p + 1 + 1)) n → noQuad (rl (L (p + 1 + 1))) ∨ n ≤ 3) :
    ∃ I1 L1, (∃ r38 I39 L40, CTi mr_X5_degree [.ref (p + 1)] S I L r38 I39 L40 ∧ ((r38 < (1 : Int32) → ((none : Option Value) = none ∧ (S, I39, L40) = (S, I1, L1))) ∧ (¬ r38 < (1 : Int32) → ∃ I47 L48, CTv mr_X1_insert [.ref r, .ref (p + 1), .int (1 : Int32)] S I39 L40 I47 L48 ∧ ((none : Option Value) = none ∧ (S, I47, L48) = (S, I1, L1))))) ∧
      fr (fX r) I L I1 L1 ∧ ∃ n P M, fRep r n P M I1 L1 ∧ isF G n P M := by
  obtain ⟨n, P, M, d, f1, f2, f3, f4, f5, f6⟩ := hfc
  have cd := s_degree (S := S) (I := I) (L := L) hp.2.1
  rw [deg6_dg f5] at cd
  obtain ⟨hpr2, d', k1, k2, k3, k4⟩ := gOK_rest hG f2.1 f3
  have hz := deg6_zlt f5
  have hdd : d' = d := by
    rcases Nat.lt_trichotomy d' d with z | z | z
    · exact absurd (k3 d z) hz.2
    · exact z
    · have := hz.1 d' z; omega
  subst hdd
  have hd6 := f5.1
  rcases Nat.eq_zero_or_pos d' with e | e
  · subst e
    refine ⟨I, L, ⟨_, _, _, cd, fun _ => ⟨rfl, rfl⟩, fun h => absurd (by decide) h⟩, fr_rf, n, P, M, f1, f2, fun x => ?_⟩
    have h1 : zco (rl (L (p + 1 + 1))) 0 ∣ 1 := hpr2 _ (fun k => by
      cases k with
      | zero => exact Int.dvd_refl _
      | succ k => rw [k3 (k + 1) (by omega)]; exact Int.dvd_zero _)
    have h2 : zco (rl (L (p + 1 + 1))) 0 = 1 := by
      have := Int.le_of_dvd (by decide) h1
      omega
    rw [f3 x, zev_lt1 k3, h2, Int.mul_one]
  · obtain ⟨c, I1, L1, i1, i2, i3, i4, i5, i6⟩ := s_insert (S := S) (I := I) (L := L) (m := 1) hr hp.2.1 (by omega) (by omega) f1
    have hir := zirr_of hpr2 k3 hz.2 e (by omega) hlin (hq _ f5)
    have hne : ∀ j, j < n → P j ≠ rl (L (p + 1 + 1)) := fun j hj ej => f4 j hj (by rw [ej]; exact ⟨[1], fun x => by simp [zev]⟩)
    have hfac := fac_in (m := 1) f2 i1 ⟨Nat.le_refl _, hir, ⟨d', k3, k4⟩, rfl⟩ (fun j hj => ⟨by
      rcases i5 with z | z
      · omega
      · rcases Nat.eq_or_lt_of_le (show j ≤ c - 1 by omega) with z2 | z2
        · rw [z2]; exact z
        · exact zle_trans 5 (f2.2 j (c - 1) z2 (by omega)).1 z, hne j (by omega)⟩) (fun j h1 h2 => ⟨(i6 j h1 h2).1, (i6 j h1 h2).2⟩)
    refine ⟨I1, L1, ⟨_, _, _, cd, fun h => absurd h (nI_nlt (a := d') (b := 1) e (by omega)), fun _ => ⟨I1, L1, i2, rfl, rfl⟩⟩, i4, n + 1, _, _, i3, hfac, fun x => ?_⟩
    rw [fpr_in n i1 x, f3 x, Int.pow_one]
/-- the factors of whole come into found -/
theorem s_run (hp : is_Factoring S p) (hq : is_Poly S q) (hr : is_Factors S r) (hpr : p + 9 ≤ r ∨ r + 13 ≤ p) (hqp : q + 2 ≤ p ∨ p + 9 ≤ q) (hqr : q + 2 ≤ r ∨ r + 13 ≤ q) (hw : okp (L (q + 1))) :
    ∃ I1 L1, CTv mr_X0_run [.ref p, .ref q, .ref r] S I L I1 L1 ∧ fr (fcX p r) I L I1 L1 ∧ isF (rl (pp (L (q + 1)))) (fN (rl (pp (L (q + 1))))) (fP (rl (pp (L (q + 1))))) (fM (rl (pp (L (q + 1))))) ∧ fRep r (fN (rl (pp (L (q + 1))))) (fP (rl (pp (L (q + 1))))) (fM (rl (pp (L (q + 1))))) I1 L1 := by
  obtain ⟨n, hn, hdp, hpos, hbp, hc0, hc9, -, -, hG⟩ := pp_ok hw
  have hc0' : cont (L (q + 1)) ≠ 0 := fun e => hc0 (by rw [e]; rfl)
  suffices hmain : ∃ I1 L1, CTv mr_X0_run [.ref p, .ref q, .ref r] S I L I1 L1 ∧ fr (fcX p r) I L I1 L1 ∧ ∃ n P M, fRep r n P M I1 L1 ∧ isF (rl (pp (L (q + 1)))) n P M by
    obtain ⟨I1, L1, a1, a2, n, P, M, a3, a4⟩ := hmain
    obtain ⟨b1, b2, b3⟩ := isF_the a4
    exact ⟨I1, L1, a1, a2, b1, by rw [← b2]; exact fRep_congr a3 b3⟩
  generalize hGG : rl (pp (L (q + 1))) = G at *
  -- the first four calls
  have c1 := s_copy (S := S) (I := mj_up I r 2 (0 : Int32)) (L := L) hp.2.1 hq
  have c2 := s_content (S := S) (I := mj_up I r 2 (0 : Int32)) (L := mwn L (p + 1 + 1) 6 (L (q + 1))) hq (by rw [mwn_ne (by omega)]; exact fun k hk => Nat.le_trans (hw.1 k hk) (by decide))
  rw [mwn_ne (b := q + 1) (by omega)] at c2
  have c3 := s_divideBy (S := S) (I := mj_up I r 2 (0 : Int32)) (L := mwn L (p + 1 + 1) 6 (L (q + 1))) hp.2.1 hc0'
  have e3 : mwn (mwn L (p + 1 + 1) 6 (L (q + 1))) (p + 1 + 1) 6 (fun k => mwn L (p + 1 + 1) 6 (L (q + 1)) (p + 1 + 1) k / cont (L (q + 1))) = mwn L (p + 1 + 1) 6 (pp (L (q + 1))) := by
    rw [mwn_mwn]; exact mwn_congr (fun k hk => by rw [mwn_at hk]; rfl)
  rw [e3] at c3
  have c4 := s_setQuadratic (S := S) (I := mj_up I r 2 (0 : Int32)) (L := mwn L (p + 1 + 1) 6 (pp (L (q + 1)))) hp.2.2.1 0 1 0
  obtain ⟨F, hF⟩ : ∃ F : Nat → Int64, F = fun k => if k = 0 then 0 else if k = 1 then 1 else if k = 2 then 0 else 0 := ⟨_, rfl⟩
  rw [← hF] at c4
  have F0 : F 0 = 0 := by rw [hF]; rfl
  have F1 : F 1 = 1 := by rw [hF]; rfl
  have F2 : ∀ k, 1 < k → F k = 0 := fun k hk => by
    rw [hF]; simp [show ¬ k = 0 by omega, show ¬ k = 1 by omega]
  obtain ⟨La, hLa⟩ : ∃ La, La = mwn (mwn L (p + 1 + 1) 6 (pp (L (q + 1)))) (p + 3 + 1) 6 F := ⟨_, rfl⟩
  rw [← hLa] at c4
  have rowR : ∀ k, k < 6 → pp (L (q + 1)) k = La (p + 1 + 1) k := fun k hk => by rw [hLa, mwn_ne (by omega), mwn_at hk]
  have rowT : ∀ k, k < 6 → F k = La (p + 3 + 1) k := fun k hk => by rw [hLa, mwn_at hk]
  have hrlR : rl (La (p + 1 + 1)) = G := by rw [← rl_ext rowR, hGG]
  have hrlT : rl (La (p + 3 + 1)) = rl F := (rl_ext rowT).symm
  have z : (0 : Int64).toInt = 0 := rfl
  have o1 : (1 : Int64).toInt = 1 := rfl
  have hT1 : zlt (rl F) 2 ∧ 0 < zco (rl F) 1 := ⟨fun k hk => by
    by_cases h6 : k < 6
    · rw [rl_co F h6, F2 k hk]; rfl
    · exact rl_hi F (by omega), by rw [rl_co F (by decide), F1]; decide⟩
  have hTx : ∀ x, zev (rl F) x = x := fun x => by
    unfold rl
    rw [F2 2 (by decide), F2 3 (by decide), F2 4 (by decide), F2 5 (by decide), F0, F1, z, o1]; simp [zev]
  have hfr1 : fr (fcX p r) I L (mj_up I r 2 (0 : Int32)) La := fun b hb => by
    have n1 : b ≠ r := fun e => hb (Or.inr ⟨by omega, by omega⟩)
    have n2 : b ≠ p + 1 + 1 := fun e => hb (Or.inl ⟨by omega, by omega⟩)
    have n3 : b ≠ p + 3 + 1 := fun e => hb (Or.inl ⟨by omega, by omega⟩)
    exact ⟨up_ne n1, by rw [hLa, mwn_ne n3, mwn_ne n2]⟩
  have hR0 : deg6 (La (p + 1 + 1)) n := deg6_ext hdp rowR
  -- x is taken out
  obtain ⟨I2, L2, d1, d2, d3, d4, d5, d6⟩ := s_takeOut (S := S) (I := mj_up I r 2 (0 : Int32)) (L := La) (okR := okX) (d := 1) (C := 1) (G := G) hp hr hpr hG (Nat.le_refl _) (deg6_ext ⟨by decide, by rw [F1]; decide, fun k h1 _ => F2 k h1⟩ rowT) (fun k hk => by
      rw [← rowT k hk]
      rcases Nat.lt_or_ge 1 k with c | c
      · rw [F2 k c, z]; decide
      · have : k = 0 ∨ k = 1 := by omega
        rcases this with rfl | rfl
        · rw [F0]; decide
        · rw [F1]; decide) (Nat.le_refl _)
    (fun R n a b c => ⟨999, fun k _ hk => a k hk, by
      have := b.1
      have e : n = 1 ∨ n = 2 ∨ n = 3 ∨ n = 4 ∨ n = 5 := by omega
      rcases e with rfl | rfl | rfl | rfl | rfl <;> decide⟩)
    (fun R Q n a b c d e => okX_2 (by rw [← rowT 0 (by decide), F0]; rfl) (by rw [← rowT 1 (by decide), F1]; rfl) (fun k h1 h2 => by rw [← rowT k h2]; exact F2 k (by omega)) a (d.2.2 5 (by have := b.1; omega) (by decide)) e _)
    (fun R R' n a b k hk => by rw [← b k hk]; exact a k hk) (by rw [hrlT]; exact ⟨1, hT1⟩)
    (fun hz => by
      rw [hrlT] at hz ⊢
      rw [hrlR] at hz
      obtain ⟨w, hw⟩ := hz
      exact zirr_lin (zprim_of hG.1 hw) hT1.1 (by have := hT1.2; omega))
    ⟨0, fun _ => [], fun _ => 0, n, ⟨by rw [up_eq]; rfl, by decide, fun j hj => by omega⟩, fac_0, fun x => by rw [hrlR, fpr, Int.one_mul], fun j hj => by omega, hR0, fun k hk => by rw [← rowR k hk]; exact hbp k hk⟩
  rw [hrlT] at d3
  have hfr2 : fr (fcX p r) I L I2 L2 := fr_tr hfr1 d5 (fun b hb => by
    rcases hb with hb | hb | hb | hb
    · exact hb
    · exact Or.inl ⟨by omega, by omega⟩
    · exact Or.inl ⟨by omega, by omega⟩
    · exact Or.inr hb)
  obtain ⟨n2, P2, M2, r2, g1, g2, g3, g4, g5, g6⟩ := d2
  have hx0 : L2 (p + 1 + 1) 0 ≠ 0 := fun e0 => d3 ⟨[(L2 (p + 1 + 1) 1).toInt, (L2 (p + 1 + 1) 2).toInt, (L2 (p + 1 + 1) 3).toInt, (L2 (p + 1 + 1) 4).toInt, (L2 (p + 1 + 1) 5).toInt], fun x => by
    rw [hTx x]; unfold rl; rw [e0, z]; simp [zev]⟩
  have hfcL : fcI okL p r G I2 L2 := ⟨n2, P2, M2, r2, g1, g2, g3, g4, g5, fun k hk => Nat.le_trans (g6 k hk) (Nat.le_mul_of_pos_right _ (Nat.pow_pos (by decide)))⟩
  -- the lines
  obtain ⟨I3, L3, h1, h2, h3, h4, h5⟩ := s_takeLinear (S := S) hp hr hpr hG g5 (g6 _ g5.1) hx0 (g6 0 (by decide)) hfcL
  have hfr3 := fcX_tr hfr2 h4
  have hfc3 := h2
  obtain ⟨n3, P3, M3, r3, j1, j2, j3, j4, j5, j6⟩ := h2
  have cd3 := s_degree (S := S) (I := I3) (L := L3) hp.2.1
  rw [deg6_dg j5] at cd3
  have hr36 := j5.1
  obtain ⟨hpr3, -⟩ := gOK_rest hG j2.1 j3
  by_cases hlt : r3 < 4
  · obtain ⟨I4, L4, k1, k2, k3⟩ := run_end (S := S) hp hr hpr hG hfc3 h5 (fun m hm => Or.inr (by rw [deg6_uniq hm j5]; omega))
    refine ⟨I4, L4, wp_X0_run hp hq hr ⟨_, _, c1, _, _, _, c2, _, _, c3, _, _, c4, _, _, d1, _, _, h1, _, _, _, cd3, fun _ => k1, fun h => absurd (nI_lt (b := 4) hlt (by decide)) h⟩, fr_tr hfr3 k2 (fun b hb => by
      rcases hb with hb | hb
      · exact hb
      · exact Or.inr hb), k3⟩
  · have h45 : r3 = 4 ∨ r3 = 5 := by omega
    have hnl : ¬ nI r3 < (4 : Int32) := nI_nlt (b := 4) (by omega) (by omega)
    obtain ⟨w3, hw3⟩ := h3
    obtain ⟨q1, q2⟩ := co_dvd2 hw3 (deg6_zlt g5).1 (deg6_zlt g5).2 (deg6_zlt j5).1 (deg6_zlt j5).2
    rw [rl_co _ g5.1, rl_co _ j5.1] at q1
    rw [rl_co _ (by decide), rl_co _ (by decide)] at q2
    have b9 : (L3 (p + 1 + 1) r3).toInt.natAbs ≤ 999 := Nat.le_trans (Nat.le_of_dvd (by have := t_ne0 g5.2.1; omega) (Int.natAbs_dvd_natAbs.mpr q1)) (g6 _ g5.1)
    have x0 := t_ne0 hx0
    have b0 : L3 (p + 1 + 1) 0 ≠ 0 := fun e => x0 (by rw [q2, e, z, Int.zero_mul])
    have b09 : (L3 (p + 1 + 1) 0).toInt.natAbs ≤ 999 := Nat.le_trans (Nat.le_of_dvd (by omega) (Int.natAbs_dvd_natAbs.mpr (by rw [q2]; exact Int.dvd_mul_right _ _))) (g6 0 (by decide))
    have hM : ∀ c m a : Int, a.natAbs ≤ 999 → c.natAbs ≤ 999 → zdv [c, m, a] (zev (rl (L3 (p + 1 + 1)))) → m.natAbs ≤ 4895 := fun c m a ha hc hz => by
      have hz2 : zdv [c, m, a] (zev G) := zdv_of hz (fpl P3 M3 n3) (fun x => by rw [j3 x, zev_fpl, Int.mul_comm])
      have := mid_bnd (B := 999) (fun k => by
        rw [← hGG]
        by_cases h6 : k < 6
        · rw [rl_co _ h6]; exact hbp k h6
        · rw [rl_hi _ (by omega)]; decide) (by
        obtain ⟨-, g, -, -, hg0⟩ := hG
        exact ⟨g, by omega⟩) hz2
      omega
    obtain ⟨b, I4, L4, s1, s2, s3, s4⟩ := s_findQuadratic (S := S) (I := I3) (L := L3) hp j5 h45 j6 b9 b0 b09 hM
    have row4 : L4 (p + 1 + 1) = L3 (p + 1 + 1) := (s2 _ (by omega)).2
    have hfr4 : fr (fcX p r) I L I4 L4 := fr_tr hfr3 s2 (fun b hb => by
      rcases hb with hb | hb
      · exact hb
      · exact Or.inl ⟨hb.1, hb.2.1⟩)
    cases b with
    | false =>
      obtain ⟨I5, L5, k1, k2, k3⟩ := run_end (S := S) hp hr hpr hG (fcI_fr hfc3 s2 (fun b hb => by unfold fX at hb; omega) (by omega)) (by rw [row4]; exact h5) (fun m _ => Or.inl (by rw [row4]; exact s4 rfl))
      refine ⟨I5, L5, wp_X0_run hp hq hr ⟨_, _, c1, _, _, _, c2, _, _, c3, _, _, c4, _, _, d1, _, _, h1, _, _, _, cd3, fun h => absurd h hnl, fun _ => ⟨_, _, _, s1, fun _ => k1, fun h => absurd rfl h⟩⟩, fr_tr hfr4 k2 (fun b hb => by
        rcases hb with hb | hb
        · exact hb
        · exact Or.inr hb), k3⟩
    | true =>
      obtain ⟨e, m, v, t1, t2, t3, t4, t5, t6⟩ := s3 rfl
      have hco : ∀ k, k < 6 → (L4 (p + 3 + 1) k).toInt = zco [e, m, v, 0, 0, 0] k := fun k hk => by rw [← t1, rl_co _ hk]
      have hT : deg6 (L4 (p + 3 + 1)) 2 := ⟨by decide, fun e0 => by
        have := hco 2 (by decide)
        rw [e0] at this
        simp [zco] at this
        omega, fun k k1 k2 => t_eq0 (by
        rw [hco k k2]
        have : k = 3 ∨ k = 4 ∨ k = 5 := by omega
        rcases this with rfl | rfl | rfl <;> rfl)⟩
      have hT1 : (L4 (p + 3 + 1) 1).toInt = m := hco 1 (by decide)
      have hTe : ∀ x, zev (rl (L4 (p + 3 + 1))) x = zev [e, m, v] x := fun x => by rw [t1]; simp [zev]
      obtain ⟨I5, L5, u1, u2, u3, u4, u5, u6⟩ := s_takeOut (S := S) (I := I4) (L := L4) (okR := okQ) (d := 2) (C := 4895) (G := G) hp hr hpr hG (by decide) hT (fun k hk => by
          rw [hco k hk]
          have : k = 0 ∨ k = 1 ∨ k = 2 ∨ k = 3 ∨ k = 4 ∨ k = 5 := by omega
          rcases this with rfl | rfl | rfl | rfl | rfl | rfl
          · show e.natAbs ≤ _; omega
          · exact t5
          · show v.natAbs ≤ _; omega
          · exact Nat.zero_le _
          · exact Nat.zero_le _
          · exact Nat.zero_le _) (by decide)
        (fun R n a b c => okQ_1 a b c) (fun R Q n a b c d e' => okQ_2 hT (by rw [hT1]; exact t5) a b c d e')
        (fun R R' n a b => ⟨fun h4 => okL_ext (a.1 h4) b, fun h4 k h1 h6 => by rw [← b k h6]; exact a.2 h4 k h1 h6⟩)
        ⟨2, (deg6_zlt hT).1, by rw [t1]; show 0 < v; omega⟩
        (fun hz => by
          rw [row4] at hz
          obtain ⟨w, hw⟩ := hz
          have hprT := zprim_of hpr3 hw
          refine zirr_of hprT (deg6_zlt hT).1 (deg6_zlt hT).2 (by decide) (by decide) (fun u a1 a2 a3 => h5 u a1 a2 ?_) (Or.inr (by decide))
          exact zdv_of a3 w hw)
        ⟨n3, P3, M3, r3, fRep_fr j1 s2 (fun b hb => by unfold fX at hb; omega), j2, by rw [row4]; exact j3, by rw [row4]; exact j4, by rw [row4]; exact j5, by rw [row4]; exact ⟨fun _ => j6, fun h3 => by omega⟩⟩
      have hfr5 : fr (fcX p r) I L I5 L5 := fr_tr hfr4 u5 (fun b hb => by
        rcases hb with hb | hb | hb | hb
        · exact hb
        · exact Or.inl ⟨by omega, by omega⟩
        · exact Or.inl ⟨by omega, by omega⟩
        · exact Or.inr hb)
      have hnl5 : noLin (rl (L5 (p + 1 + 1))) := by
        rw [row4] at u4
        exact noLin_of h5 u4
      obtain ⟨I6, L6, k1, k2, k3⟩ := run_end (S := S) hp hr hpr hG u2 hnl5 (fun d hd => Or.inr (by
        apply Classical.byContradiction
        intro hc
        -- the trial has been taken out at least once
        obtain ⟨w, hw⟩ := u4
        rw [row4] at hw
        obtain ⟨a, b, hab, ha, hb, ha0, hb0, -⟩ := zdeg_mul hw (deg6_zlt j5).1 (deg6_zlt j5).2
        have had : a = d := by
          have hz := deg6_zlt hd
          rcases Nat.lt_trichotomy a d with q | q | q
          · exact absurd (ha d q) hz.2
          · exact q
          · exact absurd (hz.1 a q) ha0
        have hb1 : b ≤ 1 := by omega
        -- w has degree 0 or 1: the trial divides rest' * w; irreducible, hence rest' or w
        have hTir : zirr (rl (L4 (p + 3 + 1))) := by
          obtain ⟨y, hy⟩ := t6
          have hy2 : ∀ x, zev (rl (L3 (p + 1 + 1))) x = zev (rl (L4 (p + 3 + 1))) x * zev y x := fun x => by rw [hy x, hTe x]
          refine zirr_of (zprim_of hpr3 hy2) (deg6_zlt hT).1 (deg6_zlt hT).2 (by decide) (by decide) (fun u a1 a2 a3 => h5 u a1 a2 (zdv_of a3 y hy2)) (Or.inr (by decide))
        have hdiv : zdv (rl (L4 (p + 3 + 1))) (fun x => zev (rl (L5 (p + 1 + 1))) x * zev w x) := by
          obtain ⟨y, hy⟩ := t6
          exact ⟨y, fun x => by
            show zev (rl (L5 (p + 1 + 1))) x * zev w x = _
            rw [← hw x, hy x, hTe x]⟩
        rcases zprime hTir hdiv with c | c
        · exact u3 c
        · exact zdv_small (d := 2) (deg6_zlt hT).2 hb hb0 (by omega) c))
      refine ⟨I6, L6, wp_X0_run hp hq hr ⟨_, _, c1, _, _, _, c2, _, _, c3, _, _, c4, _, _, d1, _, _, h1, _, _, _, cd3, fun h => absurd h hnl, fun _ => ⟨_, _, _, s1, fun h => absurd (show (1 : Int32) = 0 from h) (by decide), fun _ => ⟨_, _, u1, k1⟩⟩⟩, fr_tr hfr5 k2 (fun b hb => by
        rcases hb with hb | hb
        · exact hb
        · exact Or.inr hb), k3⟩
end
