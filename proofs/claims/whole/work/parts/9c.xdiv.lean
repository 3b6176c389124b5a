/-! BY PRIMES: the class divides by a small divisor -/
variable {S : List mjD} {I : Nat → Nat → Int32} {L : Nat → Nat → Int64}
theorem xor_sg {a b : Int64} (hb : 0 < b.toInt) : (0 : Int64) ≤ a ^^^ b ↔ 0 ≤ a.toInt := by
  have h1 : (a ^^^ b).toBitVec.msb = decide ((a ^^^ b).toInt < 0) := BitVec.msb_eq_toInt
  have h2 : a.toBitVec.msb = decide (a.toInt < 0) := BitVec.msb_eq_toInt
  have h3 : b.toBitVec.msb = decide (b.toInt < 0) := BitVec.msb_eq_toInt
  rw [Int64.toBitVec_xor, BitVec.msb_xor, h2, h3, decide_eq_false (show ¬ b.toInt < 0 by omega), Bool.xor_false, decide_eq_decide] at h1
  have e : (0 : Int64) ≤ a ^^^ b ↔ 0 ≤ (a ^^^ b).toInt := Int64.le_iff_toInt_le
  rw [e]
  omega
theorem j_floorMod {a b : Int64} (hb : 0 < b.toInt) (ha : -2 ^ 63 < a.toInt) : ∃ y, CTl mr_J9_floorMod_f86c9 [.long a, .long b] S I L y I L ∧ y.toInt = a.toInt % b.toInt := by
  have hr := t_rem (y := a) (x := b) ha
  have b0 : ¬ b = 0 := fun q => by rw [q] at hb; exact absurd hb (by decide)
  have l1 := Int.tmod_lt_of_pos a.toInt hb
  have l2 := Int.lt_tmod_of_pos a.toInt hb
  have key := Int.tmod_eq_emod (a := a.toInt) (b := b.toInt)
  have n1 := Int.emod_nonneg a.toInt (show b.toInt ≠ 0 by omega)
  have n2 := Int.emod_lt_of_pos a.toInt hb
  have b63 : b.toInt < 2 ^ 63 := Int64.toInt_lt b
  by_cases c : 0 ≤ a.toInt
  · refine ⟨a - a / b * b, wp_J9_floorMod_f86c9 ⟨b0, fun y hy => ⟨fun _ => ⟨by rw [hy], rfl⟩, fun q => absurd ((xor_sg hb).mpr c) q⟩⟩, ?_⟩
    rw [hr]; exact Int.tmod_eq_emod_of_nonneg c
  · have nx : ¬ (0 : Int64) ≤ a ^^^ b := fun q => c ((xor_sg hb).mp q)
    by_cases z : a - a / b * b = 0
    · refine ⟨a - a / b * b, wp_J9_floorMod_f86c9 ⟨b0, fun y hy => ⟨fun q => absurd q nx, fun _ => ⟨fun _ => ⟨by rw [hy], rfl⟩, fun q => absurd (hy.trans z) q⟩⟩⟩, ?_⟩
      have e0 : a.toInt.tmod b.toInt = 0 := by rw [← hr, z]; rfl
      rw [hr, e0]
      by_cases d : 0 ≤ a.toInt ∨ b.toInt ∣ a.toInt
      · rw [if_pos d] at key; omega
      · rw [if_neg d] at key; omega
    · refine ⟨(a - a / b * b) + b, wp_J9_floorMod_f86c9 ⟨b0, fun y hy => ⟨fun q => absurd q nx, fun _ => ⟨fun q => absurd (hy.symm.trans q) z, fun _ => ⟨by rw [hy], rfl⟩⟩⟩⟩, ?_⟩
      have nz := t_ne0 z
      rw [hr] at nz
      by_cases d : 0 ≤ a.toInt ∨ b.toInt ∣ a.toInt
      · rw [if_pos d] at key
        have := Int.emod_eq_zero_of_dvd (d.resolve_left c)
        omega
      · rw [if_neg d] at key
        rw [t_add (by rw [hr]; omega) (by rw [hr]; omega), hr]
        omega
/-- the class's picture of what is divided -/
def pxR (p pr t : Nat) (r : Nat → Int) (I : Nat → Nat → Int32) (L : Nat → Nat → Int64) : Prop := I p 3 = nI t ∧ I p 4 = nI pr ∧ ∀ k, k ≤ t → (L (p + 1) k).toInt = r k
def pX (p b : Nat) : Prop := p ≤ b ∧ b < p + 4
def dvX (p : Int) (d : Nat) (b c : Int) (r : Nat → Int) (t : Nat) : Bool := decide (d ≤ t ∧ tq p b c r t 0 = 0 ∧ (d = 2 → tq p b c r t 1 = 0))
theorem dvX_1 {p b : Int} {r : Nat → Int} {t : Nat} : dvX p 1 b 0 r t = dv1 p b r t := decide_eq_decide.mpr ⟨fun h => ⟨h.1, h.2.1⟩, fun h => ⟨h.1, h.2, fun z => absurd z (by decide)⟩⟩
theorem dvX_2 {p b c : Int} {r : Nat → Int} {t : Nat} : dvX p 2 b c r t = dv2 p b c r t := decide_eq_decide.mpr ⟨fun h => ⟨h.1, h.2.1, h.2.2 rfl⟩, fun h => ⟨h.1, h.2.1, fun _ => h.2.2⟩⟩
theorem nI_i64 {n : Nat} (h : n < 2 ^ 31) : (nI n).toInt64.toInt = n := by rw [Int32.toInt_toInt64, nI_toInt h]
theorem dv_step {a x y : Int64} {b c pr : Nat} {r T1 T2 : Int} (ha : a.toInt = r) (hx : x.toInt = T1) (hy : y.toInt = T2) (hb : b < 14) (hc : c < 14) (h1 : 0 ≤ r ∧ r < 14) (h2 : 0 ≤ T1 ∧ T1 < 14) (h3 : 0 ≤ T2 ∧ T2 < 14) : ((a - (nI b).toInt64 * x) - (nI c).toInt64 * y).toInt = r - b * T1 - c * T2 := by
  have eb := nI_i64 (n := b) (by omega)
  have ec := nI_i64 (n := c) (by omega)
  have m1 : 0 ≤ (b : Int) * T1 ∧ (b : Int) * T1 ≤ 13 * 13 := ⟨Int.mul_nonneg (by omega) h2.1, Int.mul_le_mul (by omega) (by omega) h2.1 (by decide)⟩
  have m2 : 0 ≤ (c : Int) * T2 ∧ (c : Int) * T2 ≤ 13 * 13 := ⟨Int.mul_nonneg (by omega) h3.1, Int.mul_le_mul (by omega) (by omega) h3.1 (by decide)⟩
  have n1 : (b : Int).natAbs * T1.natAbs < 2 ^ 63 := by rw [← Int.natAbs_mul]; omega
  have n2 : (c : Int).natAbs * T2.natAbs < 2 ^ 63 := by rw [← Int.natAbs_mul]; omega
  have e1 : ((nI b).toInt64 * x).toInt = b * T1 := by rw [t_mul (by rw [eb, hx]; exact n1), eb, hx]
  have e2 : ((nI c).toInt64 * y).toInt = c * T2 := by rw [t_mul (by rw [ec, hy]; exact n2), ec, hy]
  have e3 : (a - (nI b).toInt64 * x).toInt = r - b * T1 := by rw [t_sub (by rw [ha, e1]; omega) (by rw [ha, e1]; omega), ha, e1]
  rw [t_sub (by rw [e3, e2]; omega) (by rw [e3, e2]; omega), e3, e2]
section
variable {p : Nat}
theorem x_back {t d : Nat} {T : Nat → Int} (hp : is_Parts S p) (ht : t ≤ 5) (hd : d ≤ t) (hd2 : d ≤ 2) (h3 : I p 3 = nI t) : ∀ w k (L' : Nat → Nat → Int64), k + w = t + 1 - d → (∀ j, j ≤ t → (L' (p + 2) j).toInt = T j) → (∀ j, j < k → (L' (p + 1) j).toInt = T (j + d)) →
    ∃ L1, hd_X4_divide_150 S (fun v h => v = some (.int 1) ∧ h = (S, mj_up I p 3 (nI (t - d)), L1)) p (nI d) (nI k) I L' ∧ (∀ j, j ≤ t - d → (L1 (p + 1) j).toInt = T (j + d)) ∧ ∀ a, a ≠ p + 1 → L1 a = L' a := by
  intro w
  induction w with
  | zero =>
    intro k L' hk hT h1
    refine ⟨L', it_X4_divide_150 hp ⟨fun _ => ⟨rfl, ?_⟩, fun q => absurd ?_ q⟩, fun j hj => h1 j (by omega), fun _ _ => rfl⟩
    · rw [h3, show nI t - nI d = nI (t - d) from pk_sub hd]
    · rw [h3, nI_add]; exact (nI_ltI (by omega) (by omega)).mpr (by omega)
  | succ w ih =>
    intro k L' hk hT h1
    have n12 : p + 2 ≠ p + 1 := by omega
    obtain ⟨L1, i1, i2, i3⟩ := ih (k + 1) (mj_up L' (p + 1) k (L' (p + 2) (k + d))) (by omega) (fun j hj => by rw [up_ne n12]; exact hT j hj) (fun j hj => by
      by_cases e : j = k
      · rw [e, up_eq]; exact hT (k + d) (by omega)
      · rw [up_nk e]; exact h1 j (by omega))
    refine ⟨L1, it_X4_divide_150 hp ⟨fun q => absurd ?_ (show ¬ k + d > t by omega), fun _ => ⟨?_, vp_in_nI (by omega) (by decide), fun y hy => ?_⟩⟩, i2, fun a ha => (i3 a ha).trans (up_ne ha)⟩
    · rw [h3, nI_add] at q; exact (nI_ltI (by omega) (by omega)).mp q
    · rw [nI_add]; exact vp_in_nI (by omega) (by decide)
    · rw [hy, nI_1, nI_add, nI_clamp (show k < 2 ^ 31 by omega), nI_clamp (show k + d < 2 ^ 31 by omega)]
      exact i1
theorem x_divide {pr d b c t : Nat} {r : Nat → Int} (hp : is_Parts S p) (h : pxR p pr t r I L) (hpr : 2 ≤ pr ∧ pr ≤ 13) (ht : t ≤ 5) (hr : rsd pr r t) (hd : d = 1 ∨ d = 2) (hb : b < pr) (hc : c < pr) :
    ∃ I1 L1, CTi mr_X4_divide [.ref p, .int (nI d), .int (nI b), .int (nI c)] S I L (if dvX pr d b c r t then 1 else 0) I1 L1 ∧ fr (pX p) I L I1 L1 ∧ I1 (p + 3) = I (p + 3) ∧ (dvX pr d b c r t = true → pxR p pr (t - d) (fun k => tq pr b c r t (k + d)) I1 L1) ∧ (dvX pr d b c r t = false → pxR p pr t r I1 L1) := by
  obtain ⟨h3, h4, h5⟩ := h
  have n31 : p + 3 ≠ p := by omega
  by_cases c1 : t < d
  · have e : dvX pr d b c r t = false := decide_eq_false (fun z => by omega)
    rw [e]
    exact ⟨I, L, wp_X4_divide hp ⟨fun _ => ⟨rfl, rfl⟩, fun q => absurd (by rw [h3]; exact (nI_ltI (by omega) (by omega)).mpr c1) q⟩, fr_rf, rfl, fun z => (by cases z), fun _ => ⟨h3, h4, h5⟩⟩
  · obtain ⟨T, hT⟩ : ∃ T, T = fun k => tq pr b c r t k := ⟨_, rfl⟩
    have hTk : ∀ k, tq pr b c r t k = T k := fun k => by rw [hT]
    have hT0 : ∀ k, t < k → T k = 0 := fun k hk => by rw [← hTk]; exact tq_out hk
    have hTr : ∀ k, 0 ≤ T k ∧ T k < 14 := fun k => by
      rw [← hTk]
      have := tq_rg (b := b) (c := c) (r := r) (t := t) (k := k) (rsd_p hr)
      omega
    have hTs : ∀ k, k ≤ t → (r k - b * T (k + 1) - c * T (k + 2)) % (pr : Int) = T k := fun k hk => by
      rw [← hTk, ← hTk, ← hTk]; exact (tq_s hk).symm
    have pz : ((nI pr).toInt64).toInt = pr := nI_i64 (by omega)
    -- the check of the lowest ones and the way back
    have chk : ∀ L', (∀ a, a ≠ p + 2 → L' a = L a) → (∀ j, j ≤ t → (L' (p + 2) j).toInt = T j) → ∃ I1 L1, hd_X4_divide_121 S (fun v h => v = some (.int (if dvX pr d b c r t then 1 else 0)) ∧ h = (S, I1, L1)) p (nI d) (nI 0) I L' ∧ fr (pX p) I L I1 L1 ∧ I1 (p + 3) = I (p + 3) ∧ (dvX pr d b c r t = true → pxR p pr (t - d) (fun k => T (k + d)) I1 L1) ∧ (dvX pr d b c r t = false → pxR p pr t r I1 L1) := fun L' hL' hT' => by
      have fL : fr (pX p) I L I L' := fun a ha => ⟨rfl, hL' a (fun e => ha (by unfold pX; omega))⟩
      have back : dvX pr d b c r t = true → ∃ I1 L1, hd_X4_divide_150 S (fun v h => v = some (.int 1) ∧ h = (S, I1, L1)) p (nI d) (nI 0) I L' ∧ fr (pX p) I L I1 L1 ∧ I1 (p + 3) = I (p + 3) ∧ pxR p pr (t - d) (fun k => T (k + d)) I1 L1 := fun _ => by
        obtain ⟨L1, i1, i2, i3⟩ := x_back (S := S) (I := I) (T := T) (d := d) hp ht (by omega) (by omega) h3 (t + 1 - d) 0 L' (by omega) hT' (fun j hj => absurd hj (Nat.not_lt_zero j))
        exact ⟨mj_up I p 3 (nI (t - d)), L1, i1, fr_tr fL (fun a ha => ⟨up_ne (fun e => ha (by unfold pX; omega)), i3 a (fun e => ha (by unfold pX; omega))⟩) (fun a z => z.elim id id), up_ne n31, by rw [up_eq], by rw [up_nk (by decide)]; exact h4, i2⟩
      have fail : dvX pr d b c r t = false → ∃ I1 L1, ((some (Value.int (0 : Int32)) = some (Value.int (if dvX pr d b c r t then 1 else 0)) ∧ ((S, I, L') : mjH) = (S, I1, L1))) ∧ fr (pX p) I L I1 L1 ∧ I1 (p + 3) = I (p + 3) ∧ (dvX pr d b c r t = true → pxR p pr (t - d) (fun k => T (k + d)) I1 L1) ∧ (dvX pr d b c r t = false → pxR p pr t r I1 L1) := fun e => by
        rw [e]
        exact ⟨I, L', ⟨rfl, rfl⟩, fL, rfl, fun z => (by cases z), fun _ => ⟨h3, h4, fun k hk => by rw [hL' (p + 1) (by omega)]; exact h5 k hk⟩⟩
      have c0 : ∀ k, k ≤ t → (T k = 0 ↔ L' (p + 2) k = 0) := fun k hk => ⟨fun z => t_eq0 (by rw [hT' k hk]; exact z), fun z => by rw [← hT' k hk, z]; rfl⟩
      by_cases z0 : T 0 = 0
      · have y0 : L' (p + 2) 0 = 0 := (c0 0 (by omega)).mp z0
        rcases hd with rfl | rfl
        · have e : dvX pr 1 b c r t = true := decide_eq_true ⟨by omega, by rw [hTk]; exact z0, fun z => absurd z (by decide)⟩
          obtain ⟨I1, L1, b1, b2, b3, b4⟩ := back e
          rw [e]
          exact ⟨I1, L1, it_X4_divide_121 hp (ge_f (k := 1) (by decide) (by decide) ⟨vp_in_nI (by decide) (by decide), fun _ y hy => by rw [hy]; exact it_X4_divide_121 hp (ge_t (k := 1) (i := 1) (by decide) (by decide) b1), fun q => absurd y0 q⟩), b2, b3, fun _ => b4, fun z => (by cases z)⟩
        · by_cases z1 : T 1 = 0
          · have y1 : L' (p + 2) 1 = 0 := (c0 1 (by omega)).mp z1
            have e : dvX pr 2 b c r t = true := decide_eq_true ⟨by omega, by rw [hTk]; exact z0, fun _ => by rw [hTk]; exact z1⟩
            obtain ⟨I1, L1, b1, b2, b3, b4⟩ := back e
            rw [e]
            exact ⟨I1, L1, it_X4_divide_121 hp (ge_f (k := 2) (by decide) (by decide) ⟨vp_in_nI (by decide) (by decide), fun _ y hy => by rw [hy]; exact it_X4_divide_121 hp (ge_f (k := 2) (i := 1) (by decide) (by decide) ⟨vp_in_nI (n := 1) (by decide) (by decide), fun _ y hy => by rw [hy]; exact it_X4_divide_121 hp (ge_t (k := 2) (i := 2) (by decide) (by decide) b1), fun q => absurd y1 q⟩), fun q => absurd y0 q⟩), b2, b3, fun _ => b4, fun z => (by cases z)⟩
          · have e : dvX pr 2 b c r t = false := decide_eq_false (fun z => z1 (by rw [← hTk]; exact z.2.2 rfl))
            have y1 : ¬ L' (p + 2) 1 = 0 := fun q => z1 ((c0 1 (by omega)).mpr q)
            obtain ⟨I1, L1, b1, b2⟩ := fail e
            exact ⟨I1, L1, it_X4_divide_121 hp (ge_f (k := 2) (by decide) (by decide) ⟨vp_in_nI (by decide) (by decide), fun _ y hy => by rw [hy]; exact it_X4_divide_121 hp (ge_f (k := 2) (i := 1) (by decide) (by decide) ⟨vp_in_nI (n := 1) (by decide) (by decide), fun q => absurd q y1, fun _ => b1⟩), fun q => absurd y0 q⟩), b2⟩
      · have e : dvX pr d b c r t = false := decide_eq_false (fun z => z0 (by rw [← hTk]; exact z.2.1))
        have y0 : ¬ L' (p + 2) 0 = 0 := fun q => z0 ((c0 0 (by omega)).mpr q)
        obtain ⟨I1, L1, b1, b2⟩ := fail e
        exact ⟨I1, L1, it_X4_divide_121 hp (ge_f (k := d) (i := 0) (by omega) (by omega) ⟨vp_in_nI (by decide) (by decide), fun q => absurd q y0, fun _ => b1⟩), b2⟩
    -- downward
    have down : ∀ j, j ≤ t + 1 → ∀ L', (∀ a, a ≠ p + 2 → L' a = L a) → (∀ k, j ≤ k → k ≤ t + 2 → (L' (p + 2) k).toInt = T k) → ∃ I1 L1, hd_X4_divide_59 S (fun v h => v = some (.int (if dvX pr d b c r t then 1 else 0)) ∧ h = (S, I1, L1)) p (nI d) (nI b) (nI c) (nI j + (-1)) I L' ∧ fr (pX p) I L I1 L1 ∧ I1 (p + 3) = I (p + 3) ∧ (dvX pr d b c r t = true → pxR p pr (t - d) (fun k => T (k + d)) I1 L1) ∧ (dvX pr d b c r t = false → pxR p pr t r I1 L1) := by
      intro j
      induction j with
      | zero =>
        intro _ L' hL' hT'
        obtain ⟨I1, L1, b1, b2⟩ := chk L' hL' (fun k hk => hT' k (Nat.zero_le _) (by omega))
        exact ⟨I1, L1, it_X4_divide_59 hp (ng_t (by decide) b1), b2⟩
      | succ j ih =>
        intro hj L' hL' hT'
        have er : L' (p + 1) = L (p + 1) := hL' (p + 1) (by omega)
        have hst := dv_step (a := L' (p + 1) j) (x := L' (p + 2) (j + 1)) (y := L' (p + 2) (j + 2)) (b := b) (c := c) (pr := pr) (r := r j) (T1 := T (j + 1)) (T2 := T (j + 2)) (by rw [er]; exact h5 j (by omega)) (hT' _ (by omega) (by omega)) (hT' _ (by omega) (by omega)) (by omega) (by omega) (by have := hr.1 j; omega) (hTr _) (hTr _)
        have m1 : 0 ≤ (b : Int) * T (j + 1) ∧ (b : Int) * T (j + 1) ≤ 13 * 13 := ⟨Int.mul_nonneg (by omega) (hTr _).1, Int.mul_le_mul (by omega) (by have := (hTr (j + 1)).2; omega) (hTr _).1 (by decide)⟩
        have m2 : 0 ≤ (c : Int) * T (j + 2) ∧ (c : Int) * T (j + 2) ≤ 13 * 13 := ⟨Int.mul_nonneg (by omega) (hTr _).1, Int.mul_le_mul (by omega) (by have := (hTr (j + 2)).2; omega) (hTr _).1 (by decide)⟩
        have rg := hr.1 j
        obtain ⟨y, f1, f2⟩ := j_floorMod (S := S) (I := I) (L := L') (a := (L' (p + 1) j - (nI b).toInt64 * L' (p + 2) (j + 1)) - (nI c).toInt64 * L' (p + 2) (j + 2)) (b := (nI pr).toInt64) (by rw [pz]; omega) (by rw [hst]; omega)
        rw [hst, pz, hTs j (by omega)] at f2
        obtain ⟨I1, L1, b1, b2⟩ := ih (by omega) (mj_up L' (p + 2) j y) (fun a ha => (up_ne ha).trans (hL' a ha)) (fun k hk1 hk2 => by
          by_cases e : k = j
          · rw [e, up_eq]; exact f2
          · rw [up_nk e]; exact hT' k (by omega) hk2)
        have ej : nI (j + 1) + (-1) = nI j := pk_m1 j
        have e1 : nI j + (1 : Int32) = nI (j + 1) := nI_1 j
        have e2 : nI j + (2 : Int32) = nI (j + 2) := nI_add j 2
        rw [ej]
        refine ⟨I1, L1, it_X4_divide_59 hp (ng_f (by omega) ?_), b2⟩
        rw [e1, e2, h4, nI_clamp (show j < 2 ^ 31 by omega), nI_clamp (show j + 1 < 2 ^ 31 by omega), nI_clamp (show j + 2 < 2 ^ 31 by omega)]
        exact ⟨vp_in_nI (by omega) (by decide), vp_in_nI (by omega) (by decide), vp_in_nI (by omega) (by decide), _, _, _, f1, vp_in_nI (by omega) (by decide), fun y2 hy => by rw [hy]; exact b1⟩
    obtain ⟨I1, L1, b1, b2⟩ := down (t + 1) (Nat.le_refl _) (mj_up (mj_up L (p + 2) (t + 1) 0) (p + 2) (t + 2) 0) (fun a ha => (up_ne ha).trans (up_ne ha)) (fun k hk1 hk2 => by
      rw [hT0 k (by omega)]
      by_cases e : k = t + 2
      · rw [e, up_eq]; rfl
      · rw [up_nk e, show k = t + 1 by omega, up_eq]; rfl)
    have e1 : nI t + (1 : Int32) = nI (t + 1) := nI_1 t
    have e2 : nI t + (2 : Int32) = nI (t + 2) := nI_add t 2
    have ej : nI (t + 1) + (-1) = nI t := pk_m1 t
    rw [ej] at b1
    have eT : (fun k => T (k + d)) = (fun k => tq pr b c r t (k + d)) := by funext k; rw [← hTk]
    rw [eT] at b2
    refine ⟨I1, L1, wp_X4_divide hp ?_, b2⟩
    rw [h3, h4, e1, e2, nI_clamp (show t + 1 < 2 ^ 31 by omega), nI_clamp (show t + 2 < 2 ^ 31 by omega)]
    refine ⟨fun q => absurd ((nI_ltI (by omega) (by omega)).mp q) c1, fun _ => ⟨fun q => absurd ((nI_leI (a := 8) (by decide) (by omega)).mp q) (by omega), fun _ => ⟨fun _ => ⟨vp_in_nI (by omega) (by decide), vp_in_nI (by omega) (by decide), fun y hy => by rw [hy]; exact b1⟩, fun q => absurd ((nI_leI (a := 2) (by decide) (by omega)).mpr hpr.1) q⟩⟩⟩
end
