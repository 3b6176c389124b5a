/-! THE REFERENCE: factors of degree 2, part two -/
variable {S : List mjD} {I : Nat → Nat → Int32} {L : Nat → Nat → Int64}
def okB (R : Nat → Int64) (n : Nat) : Prop := 4 ≤ n → okM R n
section
variable {m : Nat} {G : List Int} {r : Nat}
def mbS (m : Nat) (G : List Int) (r : Nat) (R : Nat → Int64) (I : Nat → Nat → Int32) (L : Nat → Nat → Int64) (I' : Nat → Nat → Int32) (L' : Nat → Nat → Int64) : Prop := mcI okB m G r I' L' ∧ L' (m + 14) = R ∧ frT m I L I' L'
/-- one trial -/
theorem mb_one {R : Nat → Int64} {a c d wa N3 : Nat} {xc yd : Int} (hm : is_Model S m) (hG : gOK G) (h45 : r = 4 ∨ r = 5) (hokR : okM R r) (hR : deg6 R r) (hlin : noLin (rl R)) (hprR : zprim (rl R)) (ha : a < 256) (hc : c < 256) (hd : d < 256)
    (hla : L (m + 18) a = lN wa) (hwa : 1 ≤ wa ∧ wa ≤ 999) (hlc : (L (m + 19) c).toInt = xc) (hxc : xc.natAbs ≤ 999) (hld : (L (m + 20) d).toInt = yd) (hyd : yd.natAbs ≤ N3) (hN3 : N3 ≤ (r + 1) * (999 * 5 ^ (5 - r))) {I' : Nat → Nat → Int32} {L' : Nat → Nat → Int64} (hs : mbS m G r R I L I' L') :
    ∃ (b : Bool) (I1 : Nat → Nat → Int32) (L1 : Nat → Nat → Int64), frT m I L I1 L1 ∧ (b = true → mcI okB m G (r - 2) I1 L1 ∧ ∃ w, ∀ x, zev (rl R) x = zev (rl (L1 (m + 14))) x * zev w x) ∧ (b = false → mbS m G r R I L I1 L1 ∧ ¬ zdv [xc, yd - wa - xc, (wa : Int)] (zev (rl R))) ∧
      ∀ RET : Option Value → mjH → Prop, ¬ I' m 34 ≤ nI d → (b = true → RET (some (.int 1)) (S, I1, L1)) → (b = false → ∀ y : Int32, y = nI d + 1 → hd_X9_findBow_36 S RET m (nI a) (nI c) y I1 L1) → hd_X9_findBow_36 S RET m (nI a) (nI c) (nI d) I' L' := by
  obtain ⟨hmc, hrow, hfr⟩ := hs
  have h18 : m + 18 ≠ m + 15 := by omega
  have h19 : m + 19 ≠ m + 15 := by omega
  have h20 : m + 20 ≠ m + 15 := by omega
  have r18 : L' (m + 18) = L (m + 18) := (hfr.1 _ (by omega) (by omega)).2
  have r19 : L' (m + 19) = L (m + 19) := (hfr.1 _ (by omega) (by omega)).2
  have r20 : L' (m + 20) = L (m + 20) := (hfr.1 _ (by omega) (by omega)).2
  have hN3' : N3 ≤ 24975 := by
    have : (r + 1) * (999 * 5 ^ (5 - r)) ≤ 24975 := by rcases h45 with rfl | rfl <;> decide
    omega
  obtain ⟨L2, hL2⟩ : ∃ L2, L2 = mj_up (mj_up (mj_up L' (m + 15) (2 : Int32).toNatClampNeg (L' (m + 18) a)) (m + 15) (0 : Int32).toNatClampNeg (L' (m + 19) c)) (m + 15) (1 : Int32).toNatClampNeg ((L' (m + 20) d - L' (m + 18) a) - L' (m + 19) c) := ⟨_, rfl⟩
  obtain ⟨I2, hI2⟩ : ∃ I2, I2 = mj_up I' m 26 (2 : Int32) := ⟨_, rfl⟩
  have z : (0 : Int64).toInt = 0 := rfl
  have hlw : (lN wa).toInt = wa := t_lN (by omega)
  have t2 : L2 (m + 15) 2 = lN wa := by
    rw [hL2]
    show mj_up (mj_up (mj_up L' (m + 15) 2 (L' (m + 18) a)) (m + 15) 0 (L' (m + 19) c)) (m + 15) 1 _ (m + 15) 2 = _
    rw [up_nk (by decide), up_nk (by decide), up_eq, r18, hla]
  have t0 : L2 (m + 15) 0 = L (m + 19) c := by
    rw [hL2]
    show mj_up (mj_up (mj_up L' (m + 15) 2 (L' (m + 18) a)) (m + 15) 0 (L' (m + 19) c)) (m + 15) 1 _ (m + 15) 0 = _
    rw [up_nk (by decide), up_eq, r19]
  have t1 : (L2 (m + 15) 1).toInt = yd - wa - xc := by
    have e : L2 (m + 15) 1 = (L (m + 20) d - L (m + 18) a) - L (m + 19) c := by rw [hL2, r18, r19, r20]; exact up_eq
    have e1 : (L (m + 20) d - L (m + 18) a).toInt = yd - wa := by rw [t_sub (by rw [hld, hla, hlw]; omega) (by rw [hld, hla, hlw]; omega), hld, hla, hlw]
    rw [e, t_sub (by rw [e1, hlc]; omega) (by rw [e1, hlc]; omega), e1, hlc]
  obtain ⟨T, hT⟩ : ∃ T : Nat → Int64, T = fun k => if k = 0 then L2 (m + 15) 0 else if k = 1 then L2 (m + 15) 1 else if k = 2 then L2 (m + 15) 2 else 0 := ⟨_, rfl⟩
  have T0 : T 0 = L (m + 19) c := by rw [hT]; exact t0
  have T1 : (T 1).toInt = yd - wa - xc := by rw [hT]; exact t1
  have T2 : T 2 = lN wa := by rw [hT]; exact t2
  have T3 : ∀ k, 2 < k → T k = 0 := fun k hk => by rw [hT]; simp [show ¬ k = 0 by omega, show ¬ k = 1 by omega, show ¬ k = 2 by omega]
  have hTr : ∀ k, k ≤ 2 → L2 (m + 15) k = T k := fun k hk => by
    rw [hT]
    have : k = 0 ∨ k = 1 ∨ k = 2 := by omega
    rcases this with rfl | rfl | rfl <;> rfl
  have hTd : deg6 T 2 := ⟨by decide, fun e => by
    have := congrArg Int64.toInt e
    rw [T2, hlw, z] at this
    omega, fun k h1 _ => T3 k h1⟩
  have hTe : ∀ x, zev (rl T) x = zev [xc, yd - wa - xc, (wa : Int)] x := fun x => by
    unfold rl
    rw [T3 3 (by decide), T3 4 (by decide), T3 5 (by decide), T0, T1, T2, hlc, hlw, z]; simp [zev]
  have e14 : L2 (m + 14) = R := by rw [hL2, up_ne (by omega), up_ne (by omega), up_ne (by omega)]; exact hrow
  have hmc2 : mcI okB m G r I2 L2 := mcI_fr hmc (by rw [hL2, up_ne (by omega), up_ne (by omega), up_ne (by omega)]) (by rw [hI2, up_ne (by omega)]) (by rw [hI2, up_ne (by omega)]) (by rw [e14, hrow]) (by rw [hI2, up_nk (by decide)]) (by rw [hI2, up_nk (by decide)])
  have hfr2 : frT m I L I2 L2 := frT_tr hfr ⟨fun b h0 h => ⟨by rw [hI2, up_ne h0], by rw [hL2, up_ne (by omega), up_ne (by omega), up_ne (by omega)]⟩, by rw [hL2, up_ne (by omega), up_ne (by omega), up_ne (by omega)], fun k _ _ k3 => by rw [hI2, up_nk k3]⟩
  have hs2 : mbS m G r R I L I2 L2 := ⟨hmc2, e14, hfr2⟩
  have hva : vp_in (nI a) 256 := vp_in_nI ha (by decide)
  have hvc : vp_in (nI c) 256 := vp_in_nI hc (by decide)
  have hvd : vp_in (nI d) 256 := vp_in_nI hd (by decide)
  have g1 := m_divisor (S := S) (I := I2) (L := L2) (a := L2 (m + 15) 2) (b := L2 (m + 15) 1) (by rw [t2, hlw]; omega) (by rw [t1]; omega)
  have hg1 : Nat.gcd (L2 (m + 15) 2).toInt.natAbs (L2 (m + 15) 1).toInt.natAbs ≤ 999 := by
    rw [t2, hlw]
    exact Nat.le_trans (Nat.le_of_dvd (by omega) (Nat.gcd_dvd_left _ _)) hwa.2
  have hg1' : (lN (Nat.gcd (L2 (m + 15) 2).toInt.natAbs (L2 (m + 15) 1).toInt.natAbs)).toInt = Nat.gcd (L2 (m + 15) 2).toInt.natAbs (L2 (m + 15) 1).toInt.natAbs := t_lN (by omega)
  have g2 := m_divisor (S := S) (I := I2) (L := L2) (a := lN (Nat.gcd (L2 (m + 15) 2).toInt.natAbs (L2 (m + 15) 1).toInt.natAbs)) (b := L2 (m + 15) 0) (by rw [hg1']; omega) (by rw [t0, hlc]; omega)
  rw [hg1'] at g2
  have go : ∀ {RET : Option Value → mjH → Prop}, ¬ I' m 34 ≤ nI d → (∃ r34 I35 L36, CTl mr_X9_divisor [.long (L2 (m + 15) (2 : Int32).toNatClampNeg), .long (L2 (m + 15) (1 : Int32).toNatClampNeg)] S I2 L2 r34 I35 L36 ∧ ∃ r39 I40 L41, CTl mr_X9_divisor [.long r34, .long (L36 (m + 15) (0 : Int32).toNatClampNeg)] S I35 L36 r39 I40 L41 ∧ ((¬ r39 = (1 : Int64) → ∀ y46 : Int32, y46 = nI d + 1 → hd_X9_findBow_36 S RET m (nI a) (nI c) y46 I40 L41) ∧ (r39 = (1 : Int64) → ∃ r50 I51 L52, CTi mr_X9_tries [.ref m] S I40 L41 r50 I51 L52 ∧ ((r50 = 0 → ∀ y57 : Int32, y57 = nI d + 1 → hd_X9_findBow_36 S RET m (nI a) (nI c) y57 I51 L52) ∧ (¬ r50 = 0 → RET (some (.int (1 : Int32))) (S, I51, L52))))))
      → hd_X9_findBow_36 S RET m (nI a) (nI c) (nI d) I' L' := fun {RET} hnl hk => it_X9_findBow_36 hm ⟨fun h => absurd h hnl, fun _ => ⟨hva, hvc, hvd, hva, hvc, by
    simp only [up_ne h18, up_ne h19, up_ne h20, nI_clamp (show a < 2 ^ 31 by omega), nI_clamp (show c < 2 ^ 31 by omega), nI_clamp (show d < 2 ^ 31 by omega)]
    rw [← hL2, ← hI2]
    exact hk⟩⟩
  by_cases hg : Nat.gcd ((Nat.gcd (L2 (m + 15) 2).toInt.natAbs (L2 (m + 15) 1).toInt.natAbs : Nat) : Int).natAbs (L2 (m + 15) 0).toInt.natAbs = 1
  · have hg1 : lN (Nat.gcd ((Nat.gcd (L2 (m + 15) 2).toInt.natAbs (L2 (m + 15) 1).toInt.natAbs : Nat) : Int).natAbs (L2 (m + 15) 0).toInt.natAbs) = (1 : Int64) := by rw [hg]; rfl
    have hC : bnd6 T ((r + 1) * (999 * 5 ^ (5 - r)) + 1998) := fun k hk => by
      have : k = 0 ∨ k = 1 ∨ k = 2 ∨ 2 < k := by omega
      rcases this with rfl | rfl | rfl | h
      · rw [T0, hlc]; omega
      · rw [T1]; omega
      · rw [T2, hlw]; omega
      · rw [T3 k h, z]; exact Nat.zero_le _
    obtain ⟨b, I1, L1, k1, k2, k3, k4⟩ := m_tries (S := S) (I := I2) (L := L2) (okR := okB) (G := G) (r := r) (d := 2) (T := T) (B := 999 * 5 ^ (5 - r)) (C := (r + 1) * (999 * 5 ^ (5 - r)) + 1998) hm hG hTr hTd (by rw [T2, hlw]; omega) (by rw [hI2, up_eq]; rfl) (by decide) (by omega) (by rw [e14]; exact hokR.2.1) hC (by omega) (by rcases h45 with rfl | rfl <;> decide)
      (fun Q _ _ _ _ Q' _ h4 => by omega) (fun hz => by
        rw [e14] at hz
        obtain ⟨w, hw⟩ := hz
        exact zirr_of (zprim_of hprR hw) (deg6_zlt hTd).1 (deg6_zlt hTd).2 (by decide) (by decide) (fun u a1 a2 a3 => hlin u a1 a2 (zdv_of a3 w hw)) (Or.inr (by decide))) hmc2
    rw [e14] at k3 k4
    refine ⟨b, I1, L1, frT_tr hfr2 k2, fun h => ⟨(k3 h).1, rl T, fun x => (k3 h).2 x⟩, fun h => ?_, fun RET hnl h1 h0 => go hnl ⟨_, _, _, g1, _, _, _, g2, fun h => absurd hg1 h, fun _ => ⟨_, _, _, k1, fun h => ?_, fun h => ?_⟩⟩⟩
    · obtain ⟨j1, j2, j3⟩ := k4 h
      have x14 : L1 (m + 14) = L2 (m + 14) := (j2 _ (fun z => by unfold mdX at z; omega)).2
      refine ⟨⟨?_, by rw [x14, e14], frT_tr hfr2 k2⟩, fun hz => j3 ?_⟩
      · rw [j1]
        exact mcI_fr hmc2 (j2 _ (fun z => by unfold mdX at z; omega)).2 rfl rfl x14 rfl rfl
      · obtain ⟨w, hw⟩ := hz
        exact ⟨w, fun x => by rw [hw x, hTe x]⟩
    · cases b with
      | false => exact h0 rfl
      | true => exact absurd h (by decide)
    · cases b with
      | false => exact absurd rfl h
      | true => exact h1 rfl
  · have hg1 : ¬ lN (Nat.gcd ((Nat.gcd (L2 (m + 15) 2).toInt.natAbs (L2 (m + 15) 1).toInt.natAbs : Nat) : Int).natAbs (L2 (m + 15) 0).toInt.natAbs) = (1 : Int64) := fun h => hg ((pk_lEQ (b := 1) (by
      have := Nat.le_of_dvd (by
        rw [t2, hlw]
        exact Nat.gcd_pos_of_pos_left _ (by omega)) (Nat.gcd_dvd_left ((Nat.gcd (L2 (m + 15) 2).toInt.natAbs (L2 (m + 15) 1).toInt.natAbs : Nat) : Int).natAbs (L2 (m + 15) 0).toInt.natAbs)
      omega) (by decide)).mp h)
    refine ⟨false, I2, L2, hfr2, (fun h => by cases h), fun _ => ⟨hs2, fun hz => hg ?_⟩, fun RET hnl h1 h0 => go hnl ⟨_, _, _, g1, _, _, _, g2, fun _ => h0 rfl, fun h => absurd h hg1⟩⟩
    obtain ⟨w, hw⟩ := hz
    have hw2 : ∀ x, zev (rl R) x = zev (rl T) x * zev w x := fun x => by rw [hw x, hTe x]
    have hpT := zprim_of hprR hw2
    have hdv : zdc (Nat.gcd ((Nat.gcd (L2 (m + 15) 2).toInt.natAbs (L2 (m + 15) 1).toInt.natAbs : Nat) : Int).natAbs (L2 (m + 15) 0).toInt.natAbs : Int) (rl T) := fun k => by
      by_cases hk : k < 6
      · rw [rl_co T hk]
        have : k = 0 ∨ k = 1 ∨ k = 2 ∨ 2 < k := by omega
        rcases this with rfl | rfl | rfl | h
        · rw [← hTr 0 (by decide)]; exact Int.ofNat_dvd_left.mpr (Nat.gcd_dvd_right _ _)
        · rw [← hTr 1 (by decide)]; exact Int.ofNat_dvd_left.mpr (Nat.dvd_trans (Nat.gcd_dvd_left _ _) (Nat.gcd_dvd_right _ _))
        · rw [← hTr 2 (by decide)]; exact Int.ofNat_dvd_left.mpr (Nat.dvd_trans (Nat.gcd_dvd_left _ _) (Nat.gcd_dvd_left _ _))
        · rw [T3 k h, z]; exact Int.dvd_zero _
      · rw [rl_hi T (by omega)]; exact Int.dvd_zero _
    exact Nat.dvd_one.mp (Int.natCast_dvd_natCast.mp (hpT _ hdv))
theorem mb_36 {R : Nat → Int64} {a c wa N3 c3 : Nat} {xc : Int} (hm : is_Model S m) (hG : gOK G) (h45 : r = 4 ∨ r = 5) (hokR : okM R r) (hR : deg6 R r) (hlin : noLin (rl R)) (hprR : zprim (rl R)) (ha : a < 256) (hc : c < 256)
    (hla : L (m + 18) a = lN wa) (hwa : 1 ≤ wa ∧ wa ≤ 999) (hlc : (L (m + 19) c).toInt = xc) (hxc : xc.natAbs ≤ 999) (hN3 : N3 ≤ (r + 1) * (999 * 5 ^ (5 - r))) (hc3 : c3 ≤ 256) (h34 : I m 34 = nI c3) (hones : ∀ j, j < c3 → (L (m + 20) j).toInt.natAbs ≤ N3) :
    ∀ d, d ≤ c3 → ∀ I' L', mbS m G r R I L I' L' → ∃ (b : Bool) (I1 : Nat → Nat → Int32) (L1 : Nat → Nat → Int64), frT m I L I1 L1 ∧ (b = true → mcI okB m G (r - 2) I1 L1 ∧ ∃ w, ∀ x, zev (rl R) x = zev (rl (L1 (m + 14))) x * zev w x) ∧ (b = false → mbS m G r R I L I1 L1 ∧ ∀ d', d ≤ d' → d' < c3 → ¬ zdv [xc, (L (m + 20) d').toInt - wa - xc, (wa : Int)] (zev (rl R))) ∧
      ∀ RET : Option Value → mjH → Prop, (b = true → RET (some (.int 1)) (S, I1, L1)) → (b = false → ∀ y : Int32, y = nI c + 1 → hd_X9_findBow_26 S RET m (nI a) y I1 L1) → hd_X9_findBow_36 S RET m (nI a) (nI c) (nI d) I' L' := by
  have e34 : ∀ {I' L'}, mbS m G r R I L I' L' → I' m 34 = nI c3 := fun hs => by rw [hs.2.2.2.2 34 (by decide) (by decide) (by decide)]; exact h34
  refine up_loop c3 (fun I' L' hs => ⟨false, I', L', hs.2.2, (fun h => by cases h), fun _ => ⟨hs, fun d' h1 h2 => by omega⟩, fun RET _ hk => it_X9_findBow_36 hm ⟨fun _ => hk rfl, fun h => absurd (by rw [e34 hs]; exact nI_le (Nat.le_refl _) (by omega)) h⟩⟩) (fun d hd ih I' L' hs => ?_)
  have hnl : ¬ I' m 34 ≤ nI d := by rw [e34 hs]; exact fun h => absurd ((nI_leI (by omega) (by omega)).mp h) (by omega)
  obtain ⟨b, I1, L1, k1, k2, k3, k4⟩ := mb_one (S := S) (I := I) (L := L) hm hG h45 hokR hR hlin hprR ha hc (show d < 256 by omega) hla hwa hlc hxc rfl (hones d hd) hN3 hs
  cases b with
  | true => exact ⟨true, I1, L1, k1, k2, (fun h => by cases h), fun RET h1 _ => k4 RET hnl h1 (fun h => by cases h)⟩
  | false =>
    obtain ⟨b2, I2, L2, j1, j2, j3, j4⟩ := ih I1 L1 (k3 rfl).1
    refine ⟨b2, I2, L2, j1, j2, fun h => ⟨(j3 h).1, fun d' h1 h2 => ?_⟩, fun RET h1 hk => k4 RET hnl (fun h => by cases h) (fun _ y hy => by rw [hy, nI_1]; exact j4 RET h1 hk)⟩
    rcases Nat.eq_or_lt_of_le h1 with e | e
    · subst e; exact (k3 rfl).2
    · exact (j3 h).2 d' e h2
theorem mb_26 {R : Nat → Int64} {a wa N3 c2 c3 : Nat} (hm : is_Model S m) (hG : gOK G) (h45 : r = 4 ∨ r = 5) (hokR : okM R r) (hR : deg6 R r) (hlin : noLin (rl R)) (hprR : zprim (rl R)) (ha : a < 256)
    (hla : L (m + 18) a = lN wa) (hwa : 1 ≤ wa ∧ wa ≤ 999) (hc2 : c2 ≤ 256) (h33 : I m 33 = nI c2) (hlasts : ∀ j, j < c2 → (L (m + 19) j).toInt.natAbs ≤ 999) (hN3 : N3 ≤ (r + 1) * (999 * 5 ^ (5 - r))) (hc3 : c3 ≤ 256) (h34 : I m 34 = nI c3) (hones : ∀ j, j < c3 → (L (m + 20) j).toInt.natAbs ≤ N3) :
    ∀ c, c ≤ c2 → ∀ I' L', mbS m G r R I L I' L' → ∃ (b : Bool) (I1 : Nat → Nat → Int32) (L1 : Nat → Nat → Int64), frT m I L I1 L1 ∧ (b = true → mcI okB m G (r - 2) I1 L1 ∧ ∃ w, ∀ x, zev (rl R) x = zev (rl (L1 (m + 14))) x * zev w x) ∧ (b = false → mbS m G r R I L I1 L1 ∧ ∀ c' d', c ≤ c' → c' < c2 → d' < c3 → ¬ zdv [(L (m + 19) c').toInt, (L (m + 20) d').toInt - wa - (L (m + 19) c').toInt, (wa : Int)] (zev (rl R))) ∧
      ∀ RET : Option Value → mjH → Prop, (b = true → RET (some (.int 1)) (S, I1, L1)) → (b = false → ∀ y : Int32, y = nI a + 1 → hd_X9_findBow_16 S RET m y I1 L1) → hd_X9_findBow_26 S RET m (nI a) (nI c) I' L' := by
  have e33 : ∀ {I' L'}, mbS m G r R I L I' L' → I' m 33 = nI c2 := fun hs => by rw [hs.2.2.2.2 33 (by decide) (by decide) (by decide)]; exact h33
  refine up_loop c2 (fun I' L' hs => ⟨false, I', L', hs.2.2, (fun h => by cases h), fun _ => ⟨hs, fun c' d' h1 h2 => by omega⟩, fun RET _ hk => it_X9_findBow_26 hm ⟨fun _ => hk rfl, fun h => absurd (by rw [e33 hs]; exact nI_le (Nat.le_refl _) (by omega)) h⟩⟩) (fun c hc ih I' L' hs => ?_)
  have hnl : ¬ I' m 33 ≤ nI c := by rw [e33 hs]; exact fun h => absurd ((nI_leI (by omega) (by omega)).mp h) (by omega)
  obtain ⟨b, I1, L1, k1, k2, k3, k4⟩ := mb_36 (S := S) (I := I) (L := L) hm hG h45 hokR hR hlin hprR ha (show c < 256 by omega) hla hwa rfl (hlasts c hc) hN3 hc3 h34 hones 0 (Nat.zero_le _) I' L' hs
  cases b with
  | true => exact ⟨true, I1, L1, k1, k2, (fun h => by cases h), fun RET h1 _ => it_X9_findBow_26 hm ⟨fun h => absurd h hnl, fun _ => k4 RET h1 (fun h => by cases h)⟩⟩
  | false =>
    obtain ⟨b2, I2, L2, j1, j2, j3, j4⟩ := ih I1 L1 (k3 rfl).1
    refine ⟨b2, I2, L2, j1, j2, fun h => ⟨(j3 h).1, fun c' d' h1 h2 h3 => ?_⟩, fun RET h1 hk => it_X9_findBow_26 hm ⟨fun h => absurd h hnl, fun _ => k4 RET (fun h => by cases h) (fun _ y hy => by rw [hy, nI_1]; exact j4 RET h1 hk)⟩⟩
    rcases Nat.eq_or_lt_of_le h1 with e | e
    · subst e; exact (k3 rfl).2 d' (Nat.zero_le _) h3
    · exact (j3 h).2 c' d' e h2 h3
theorem mb_16 {R : Nat → Int64} {N1 N3 c1 c2 c3 : Nat} (hm : is_Model S m) (hG : gOK G) (h45 : r = 4 ∨ r = 5) (hokR : okM R r) (hR : deg6 R r) (hlin : noLin (rl R)) (hprR : zprim (rl R)) (hc1 : c1 ≤ 256) (h32 : I m 32 = nI c1) (hN1 : N1 ≤ 999) (hleads : ldS (L (m + 18)) c1 N1 (N1 + 1))
    (hc2 : c2 ≤ 256) (h33 : I m 33 = nI c2) (hlasts : ∀ j, j < c2 → (L (m + 19) j).toInt.natAbs ≤ 999) (hN3 : N3 ≤ (r + 1) * (999 * 5 ^ (5 - r))) (hc3 : c3 ≤ 256) (h34 : I m 34 = nI c3) (hones : ∀ j, j < c3 → (L (m + 20) j).toInt.natAbs ≤ N3) :
    ∀ a, a ≤ c1 → ∀ I' L', mbS m G r R I L I' L' → ∃ (b : Bool) (I1 : Nat → Nat → Int32) (L1 : Nat → Nat → Int64), frT m I L I1 L1 ∧ (b = true → mcI okB m G (r - 2) I1 L1 ∧ ∃ w, ∀ x, zev (rl R) x = zev (rl (L1 (m + 14))) x * zev w x) ∧ (b = false → mbS m G r R I L I1 L1 ∧ ∀ a' c' d' wa, a ≤ a' → a' < c1 → c' < c2 → d' < c3 → L (m + 18) a' = lN wa → wa ≤ 999 → ¬ zdv [(L (m + 19) c').toInt, (L (m + 20) d').toInt - wa - (L (m + 19) c').toInt, (wa : Int)] (zev (rl R))) ∧
      hd_X9_findBow_16 S (fun v h => v = some (.int (if b then 1 else 0)) ∧ h = (S, I1, L1)) m (nI a) I' L' := by
  have e32 : ∀ {I' L'}, mbS m G r R I L I' L' → I' m 32 = nI c1 := fun hs => by rw [hs.2.2.2.2 32 (by decide) (by decide) (by decide)]; exact h32
  refine up_loop c1 (fun I' L' hs => ⟨false, I', L', hs.2.2, (fun h => by cases h), fun _ => ⟨hs, fun a' c' d' wa h1 h2 => by omega⟩, it_X9_findBow_16 hm ⟨fun _ => ⟨rfl, rfl⟩, fun h => absurd (by rw [e32 hs]; exact nI_le (Nat.le_refl _) (by omega)) h⟩⟩) (fun a ha ih I' L' hs => ?_)
  have hnl : ¬ I' m 32 ≤ nI a := by rw [e32 hs]; exact fun h => absurd ((nI_leI (by omega) (by omega)).mp h) (by omega)
  obtain ⟨wa, w1, w2, w3, w4⟩ := hleads.1 a ha
  obtain ⟨b, I1, L1, k1, k2, k3, k4⟩ := mb_26 (S := S) (I := I) (L := L) hm hG h45 hokR hR hlin hprR (show a < 256 by omega) w4 ⟨w1, by omega⟩ hc2 h33 hlasts hN3 hc3 h34 hones 0 (Nat.zero_le _) I' L' hs
  cases b with
  | true => exact ⟨true, I1, L1, k1, k2, (fun h => by cases h), it_X9_findBow_16 hm ⟨fun h => absurd h hnl, fun _ => k4 _ (fun _ => ⟨rfl, rfl⟩) (fun h => by cases h)⟩⟩
  | false =>
    obtain ⟨b2, I2, L2, j1, j2, j3, j4⟩ := ih I1 L1 (k3 rfl).1
    refine ⟨b2, I2, L2, j1, j2, fun h => ⟨(j3 h).1, fun a' c' d' wa' h1 h2 h3 h4 h5 h6 => ?_⟩, it_X9_findBow_16 hm ⟨fun h => absurd h hnl, fun _ => k4 _ (fun h => by cases h) (fun _ y hy => by rw [hy, nI_1]; exact j4)⟩⟩
    rcases Nat.eq_or_lt_of_le h1 with e | e
    · subst e
      rw [w4] at h5
      have : wa = wa' := (pk_lEQ (by omega) (by omega)).mp h5
      subst this
      exact (k3 rfl).2 c' d' (Nat.zero_le _) h3 h4
    · exact (j3 h).2 a' c' d' wa' e h2 h3 h4 h5 h6
/-- what a search leaves as it was -/
def frF (m : Nat) (I : Nat → Nat → Int32) (L : Nat → Nat → Int64) (I1 : Nat → Nat → Int32) (L1 : Nat → Nat → Int64) : Prop :=
  (∀ b, b ≠ m → (b < m + 11 ∨ m + 20 < b) → I1 b = I b ∧ L1 b = L b) ∧ L1 m = L m ∧ ∀ k, k ≠ 19 → k ≠ 24 → k ≠ 26 → k ≠ 32 → k ≠ 33 → k ≠ 34 → I1 m k = I m k
theorem frF_rf : frF m I L I L := ⟨fun _ _ _ => ⟨rfl, rfl⟩, rfl, fun _ _ _ _ _ _ _ => rfl⟩
theorem frF_tr {I1 I2 : Nat → Nat → Int32} {L1 L2 : Nat → Nat → Int64} (h : frF m I L I1 L1) (h2 : frF m I1 L1 I2 L2) : frF m I L I2 L2 :=
  ⟨fun b a c => ⟨(h2.1 b a c).1.trans (h.1 b a c).1, (h2.1 b a c).2.trans (h.1 b a c).2⟩, h2.2.1.trans h.2.1, fun k a b c d e f => (h2.2.2 k a b c d e f).trans (h.2.2 k a b c d e f)⟩
theorem frF_T {I1 : Nat → Nat → Int32} {L1 : Nat → Nat → Int64} (h : frT m I L I1 L1) : frF m I L I1 L1 := ⟨fun b a c => h.1 b a (by omega), h.2.1, fun k a b c _ _ _ => h.2.2 k a b c⟩
theorem frF_D {I1 : Nat → Nat → Int32} {L1 : Nat → Nat → Int64} (h : frD m I L I1 L1) : frF m I L I1 L1 := ⟨fun b a c => ⟨h.1 b a, h.2.1 b (by omega) (by omega) (by omega)⟩, h.2.1 m (by omega) (by omega) (by omega), fun k _ _ _ a b c => h.2.2 k a b c⟩
theorem m_findBow (hm : is_Model S m) (hG : gOK G) (hmc : mcI okB m G r I L) (hlin : noLin (rl (L (m + 14)))) : ∃ (b : Bool) (I1 : Nat → Nat → Int32) (L1 : Nat → Nat → Int64), CTi mr_X9_findBow [.ref m] S I L (if b then 1 else 0) I1 L1 ∧ frF m I L I1 L1 ∧ noLin (rl (L1 (m + 14))) ∧ (b = true → 2 ≤ r ∧ mcI okB m G (r - 2) I1 L1) ∧ (b = false → mcI okB m G r I1 L1 ∧ (noQuad (rl (L1 (m + 14))) ∨ r ≤ 3)) := by
  have hmc0 := hmc
  obtain ⟨n, P, M, f1, f2, f3, f4, f5, f6⟩ := hmc
  have hr6 := f4.1
  obtain ⟨hpr, -⟩ := gOK_rest hG f2.1 f3
  have z : (0 : Int64).toInt = 0 := rfl
  by_cases h4 : 4 ≤ r
  · have h45 : r = 4 ∨ r = 5 := by omega
    obtain ⟨ok1, ok2, ok3, ok4⟩ := f6 h4
    have h0 : L (m + 14) 0 ≠ 0 := fun e0 => hlin [0, 1] (fun k hk => by
      match k with
      | k + 2 => simp [zco]) (by decide) ⟨[(L (m + 14) 1).toInt, (L (m + 14) 2).toInt, (L (m + 14) 3).toInt, (L (m + 14) 4).toInt, (L (m + 14) 5).toInt], fun x => by
      unfold rl; rw [e0, z]; simp [zev]⟩
    have h09 := ok4 h0
    obtain ⟨I2, L2, d1, d2, d3, d4, d5, d6, d7, d8, d9⟩ := m_layDivisors (S := S) (I := I) (L := L) hm f5 f4 h45 ok2 ok1 h09
    have x14 : L2 (m + 14) = L (m + 14) := d2.2.1 _ (by omega) (by omega) (by omega)
    have hmc2 : mcI okB m G r I2 L2 := mcI_fr hmc0 (d2.2.1 _ (by omega) (by omega) (by omega)) (d2.1 _ (by omega)) (d2.1 _ (by omega)) x14 (d2.2.2 19 (by decide) (by decide) (by decide)) (d2.2.2 24 (by decide) (by decide) (by decide))
    have n1 := t_ne0 f4.2.1
    have n0 := t_ne0 h0
    have hones1 : (zev (rl (L (m + 14))) 1) ≠ 0 := fun e => by
      -- 1 is no root
      have hdiv : ∃ w : List Int, ∀ x, zev (rl (L (m + 14))) x = zev [-1, 1] x * zev w x := by
        obtain ⟨c, q, s, hc, he, hs⟩ := zpdiv (d := [-1, 1]) (n := 1) (fun k hk => by
          match k with
          | k + 2 => simp [zco]) (by decide) 6 (rl (L (m + 14))) (rl_lt _)
        have hs1 : zco s 0 = 0 := by
          have h1 := he 1
          rw [e, zev_lt1 hs] at h1
          simp [zev] at h1
          omega
        have hs0 : ∀ x, zev s x = 0 := fun x => by rw [zev_lt1 hs, hs1]
        have hprim : zprim [-1, 1] := fun k hk => by
          have := hk 1
          simpa [zco] using this
        exact zdv_of_mul hprim hc (w := q) (fun x => by rw [he x, hs0 x, Int.add_zero, Int.mul_comm])
      exact hlin [-1, 1] (fun k hk => by
        match k with
        | k + 2 => simp [zco]) (by decide) hdiv
    have cap : ∀ N, 1 ≤ N → N ≤ 24975 → dvc N (N + 1) ≤ 128 := fun N a b => dvc_128 a b
    have hN3' : (zev (rl (L (m + 14))) 1).natAbs ≤ 24975 := by
      have : (r + 1) * (999 * 5 ^ (5 - r)) ≤ 24975 := by rcases h45 with rfl | rfl <;> decide
      omega
    have k1 := cap _ (show 1 ≤ (L (m + 14) r).toInt.natAbs by omega) (by omega)
    have k2 := cap _ (show 1 ≤ (L (m + 14) 0).toInt.natAbs by omega) (by omega)
    have k3 := cap _ (show 1 ≤ (zev (rl (L (m + 14))) 1).natAbs by omega) hN3'
    have pmb : ∀ {row : Nat → Int64} {c N B : Nat}, pmS row c N (N + 1) → N ≤ B → B < 2 ^ 40 → ∀ j, j < c → (row j).toInt.natAbs ≤ B := fun {row c N B} h hN hB j hj => by
      obtain ⟨w, a1, a2, a3, a4⟩ := h.1 j hj
      rcases a4 with a4 | a4
      · rw [a4, t_lN (by omega)]; omega
      · rw [a4, t_neg (by rw [t_lN (by omega)]; omega), t_lN (by omega)]; omega
    obtain ⟨b, I1, L1, g1, g2, g3, g4⟩ := mb_16 (S := S) (I := I2) (L := L2) (G := G) (R := L (m + 14)) hm hG h45 ⟨ok1, ok2, ok3, ok4⟩ f4 hlin hpr (show dvc (L (m + 14) r).toInt.natAbs ((L (m + 14) r).toInt.natAbs + 1) ≤ 256 by omega) d3 ok1 d7 (show 2 * dvc (L (m + 14) 0).toInt.natAbs ((L (m + 14) 0).toInt.natAbs + 1) ≤ 256 by omega) d4 (pmb d8 h09 (by decide)) d6 (show 2 * dvc (zev (rl (L (m + 14))) 1).natAbs ((zev (rl (L (m + 14))) 1).natAbs + 1) ≤ 256 by omega) d5 (pmb d9 (Nat.le_refl _) (by omega)) 0 (Nat.zero_le _) I2 L2 ⟨hmc2, x14, frT_rf⟩
    refine ⟨b, I1, L1, wp_X9_findBow hm ?_, frF_tr (frF_D d2) (frF_T g1), ?_, fun h => ⟨by omega, (g2 h).1⟩, fun h => ⟨(g3 h).1.1, Or.inl (fun u hu hu2 hz => ?_)⟩⟩
    · rw [f5]
      exact ⟨fun _ => ⟨_, _, d1, g4⟩, fun h => absurd (nI_le (a := 4) h4 (by omega)) h⟩
    · cases b with
      | true => exact noLin_of hlin (g2 rfl).2
      | false => rw [(g3 rfl).1.2.1]; exact hlin
    · rw [(g3 h).1.2.1] at hz
      have hz0 := hz
      obtain ⟨w, hw⟩ := hz
      obtain ⟨e1, e2⟩ := co_dvd2 hw (deg6_zlt f4).1 (deg6_zlt f4).2 hu hu2
      rw [rl_co _ hr6] at e1
      rw [rl_co _ (by decide)] at e2
      have g1' : (zco u 2).natAbs ∣ (L (m + 14) r).toInt.natAbs := Int.natAbs_dvd_natAbs.mpr e1
      have g2' : (zco u 0).natAbs ∣ (L (m + 14) 0).toInt.natAbs := Int.natAbs_dvd_natAbs.mpr (by rw [e2]; exact Int.dvd_mul_right _ _)
      have e3 := hw 1
      have g3' : (zev u 1).natAbs ∣ (zev (rl (L (m + 14))) 1).natAbs := Int.natAbs_dvd_natAbs.mpr (by rw [e3]; exact Int.dvd_mul_right _ _)
      have l1 := Nat.le_of_dvd (by omega) g1'
      have l2 := Nat.le_of_dvd (by omega) g2'
      have l3 := Nat.le_of_dvd (by omega) g3'
      have pos : ∀ {x : Int} {N : Nat}, x.natAbs ∣ N → N ≠ 0 → 1 ≤ x.natAbs := fun {x N} hx hN => by
        rcases Nat.eq_zero_or_pos x.natAbs with e | e
        · rw [e] at hx
          exact absurd (Nat.zero_dvd.mp hx) hN
        · exact e
      have u0 := pos g2' (by omega)
      have u1 := pos g3' (by omega)
      have ue : zev u 1 = zco u 0 + zco u 1 + zco u 2 := by rw [zev_3 hu]; simp [zev]; omega
      -- both signs are in the rows
      have pick : ∀ {row : Nat → Int64} {c N : Nat} {x : Int}, pmS row c N (N + 1) → N < 2 ^ 40 → x.natAbs ∣ N → 1 ≤ x.natAbs → x.natAbs ≤ N → ∃ j, j < c ∧ (row j).toInt = x := fun {row c N x} h hN hd h1 h2 => by
        obtain ⟨⟨j, a1, a2⟩, ⟨j2, b1, b2⟩⟩ := h.2 x.natAbs h1 (by omega) hd
        rcases Int.natAbs_eq x with e | e
        · exact ⟨j, a1, by rw [a2, t_lN (by omega)]; omega⟩
        · exact ⟨j2, b1, by rw [b2, t_neg (by rw [t_lN (by omega)]; omega), t_lN (by omega)]; omega⟩
      obtain ⟨a, a1, a2⟩ := d7.2 _ (show 1 ≤ (zco u 2).natAbs by omega) (by omega) g1'
      rcases Int.natAbs_eq (zco u 2) with s2 | s2
      · obtain ⟨c, c1, c2⟩ := pick d8 (by omega) g2' u0 l2
        obtain ⟨d, dd1, dd2⟩ := pick d9 (by omega) g3' u1 l3
        refine (g3 h).2 a c d _ (Nat.zero_le _) a1 c1 dd1 a2 (by omega) ?_
        obtain ⟨y, hy⟩ := hz0
        refine ⟨y, fun x => ?_⟩
        rw [hy x, zev_3 hu, c2, dd2, ue, ← s2]
        simp only [zev]; grind
      · obtain ⟨c, c1, c2⟩ := pick (x := -(zco u 0)) d8 (by omega) (by rw [Int.natAbs_neg]; exact g2') (by rw [Int.natAbs_neg]; exact u0) (by rw [Int.natAbs_neg]; exact l2)
        obtain ⟨d, dd1, dd2⟩ := pick (x := -(zev u 1)) d9 (by omega) (by rw [Int.natAbs_neg]; exact g3') (by rw [Int.natAbs_neg]; exact u1) (by rw [Int.natAbs_neg]; exact l3)
        refine (g3 h).2 a c d _ (Nat.zero_le _) a1 c1 dd1 a2 (by omega) ?_
        refine zdv_neg hz0 (fun x => ?_)
        rw [zev_3 hu, c2, dd2, ue]
        have s3 : (((zco u 2).natAbs : Nat) : Int) = -(zco u 2) := by omega
        rw [s3]
        simp only [zev]; grind
  · refine ⟨false, I, L, wp_X9_findBow hm ?_, frF_rf, hlin, (fun h => by cases h), fun _ => ⟨hmc0, Or.inr (by omega)⟩⟩
    rw [f5]
    exact ⟨fun h => absurd ((nI_leI (a := 4) (by decide) (by omega)).mp h) h4, fun _ => ⟨rfl, rfl⟩⟩
end
