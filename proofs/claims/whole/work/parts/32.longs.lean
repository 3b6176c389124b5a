/-! LONGS as integers -/
theorem t_bm {x : Int} (h1 : -2 ^ 63 ≤ x) (h2 : x < 2 ^ 63) : x.bmod (2 ^ 64) = x := Int.bmod_eq_of_le_mul_two (by omega) (by omega)
theorem t_add {a b : Int64} (h1 : -2 ^ 63 ≤ a.toInt + b.toInt) (h2 : a.toInt + b.toInt < 2 ^ 63) : (a + b).toInt = a.toInt + b.toInt := by rw [Int64.toInt_add]; exact t_bm h1 h2
theorem t_sub {a b : Int64} (h1 : -2 ^ 63 ≤ a.toInt - b.toInt) (h2 : a.toInt - b.toInt < 2 ^ 63) : (a - b).toInt = a.toInt - b.toInt := by rw [Int64.toInt_sub]; exact t_bm h1 h2
theorem t_neg {a : Int64} (h : -2 ^ 63 < a.toInt) : (-a).toInt = -a.toInt := by
  have := a.toInt_lt
  rw [Int64.toInt_neg]; exact t_bm (by omega) (by omega)
theorem t_mul {a b : Int64} (h : a.toInt.natAbs * b.toInt.natAbs < 2 ^ 63) : (a * b).toInt = a.toInt * b.toInt := by
  have e := Int.natAbs_mul a.toInt b.toInt
  rw [Int64.toInt_mul]; exact t_bm (by omega) (by omega)
theorem t_ne0 {x : Int64} (h : x ≠ 0) : x.toInt ≠ 0 := fun e => h (Int64.toInt_inj.mp e)
theorem t_eq0 {x : Int64} (h : x.toInt = 0) : x = 0 := Int64.toInt_inj.mp h
theorem t_div {y x : Int64} (hy : -2 ^ 63 < y.toInt) : (y / x).toInt = y.toInt.tdiv x.toInt := Int64.toInt_div_of_ne_left y x (fun e => by rw [e] at hy; exact absurd hy (by decide))
theorem t_rem {y x : Int64} (hy : -2 ^ 63 < y.toInt) : (y - y / x * x).toInt = y.toInt.tmod x.toInt := by
  have hd := t_div (x := x) hy
  have hy2 := y.toInt_lt
  have hle : ((y / x).toInt).natAbs * x.toInt.natAbs ≤ y.toInt.natAbs := by
    rw [hd, Int.natAbs_tdiv]; exact Nat.div_mul_le_self _ _
  have hm := t_mul (a := y / x) (b := x) (by omega)
  have hmod : y.toInt.tmod x.toInt = y.toInt - x.toInt * y.toInt.tdiv x.toInt := Int.tmod_def _ _
  have habs : (y.toInt.tmod x.toInt).natAbs ≤ y.toInt.natAbs := by
    rw [Int.natAbs_tmod]; exact Nat.mod_le _ _
  have e : (y / x).toInt * x.toInt = x.toInt * y.toInt.tdiv x.toInt := by rw [hd, Int.mul_comm]
  rw [Int64.toInt_sub, hm, e, ← hmod]
  exact t_bm (by omega) (by omega)
theorem t_lN {n : Nat} (h : n < 2 ^ 63) : (lN n).toInt = n := pk_lT h
theorem t_abs {a : Int64} (h : -2 ^ 63 < a.toInt) : (if 0 ≤ a then a else -a) = lN a.toInt.natAbs := by
  have h2 := a.toInt_lt
  apply Int64.toInt_inj.mp
  rw [t_lN (by omega)]
  by_cases h0 : 0 ≤ a
  · rw [if_pos h0]
    have := Int64.le_iff_toInt_le.mp h0
    have e : (0 : Int64).toInt = 0 := rfl
    omega
  · rw [if_neg h0, t_neg h]
    have hn : ¬ ((0 : Int64).toInt ≤ a.toInt) := fun q => h0 (Int64.le_iff_toInt_le.mpr q)
    have e : (0 : Int64).toInt = 0 := rfl
    omega
variable {S : List mjD} {I : Nat → Nat → Int32} {L : Nat → Nat → Int64}
/-- Euclid's loop: fewer than 2 ^ t in the second place: 2 t turns -/
theorem s_euclid (g : Nat) : ∀ t m n i, n < 2 ^ t → n ≤ m ∨ n < 2 ^ t → m < 2 ^ 62 → n < 2 ^ 62 → Nat.gcd m n = g → n < m → i + 2 * t ≤ 99 → hd_X5_commonDivisor_15 S (fun v h => v = some (.long (lN g)) ∧ h = (S, I, L)) (lN m) (lN n) (nI i) I L := by
  intro t
  induction t with
  | zero =>
    intro m n i h1 _ hm hn hg _ hi
    obtain rfl : n = 0 := by omega
    refine it_X5_commonDivisor_15 (ge_f (k := 100) (by omega) (by decide) ⟨fun _ => ⟨by rw [← hg, Nat.gcd_zero_right], rfl⟩, fun h => absurd rfl h⟩)
  | succ t ih =>
    intro m n i h1 _ hm hn hg hlt hi
    refine it_X5_commonDivisor_15 (ge_f (k := 100) (by omega) (by decide) ⟨fun h => ?_, fun h => ⟨h, fun y hy z hz => ?_⟩⟩)
    · have h0 : n = 0 := (pk_lEQ (by omega) (by decide)).mp h
      subst h0
      exact ⟨by rw [← hg, Nat.gcd_zero_right], rfl⟩
    · have hn0 : 0 < n := Nat.pos_of_ne_zero (fun e => h (by rw [e]; rfl))
      have hr := Nat.mod_lt m hn0
      rw [hy, hz, nI_1, pk_lRem (by omega) hn0 (by omega)]
      refine it_X5_commonDivisor_15 (ge_f (k := 100) (by omega) (by decide) ⟨fun h2 => ?_, fun h2 => ⟨h2, fun y2 hy2 z2 hz2 => ?_⟩⟩)
      · have h0 : m % n = 0 := (pk_lEQ (by omega) (by decide)).mp h2
        have : Nat.gcd m n = n := by rw [Nat.gcd_comm, Nat.gcd_rec, h0, Nat.gcd_zero_left]
        exact ⟨by rw [← hg, this], rfl⟩
      · have hr0 : 0 < m % n := Nat.pos_of_ne_zero (fun e => h2 (by rw [e]; rfl))
        have hr2 := Nat.mod_lt n hr0
        have hhalf : n % (m % n) < 2 ^ t := by
          have hp : 2 ^ (t + 1) = 2 * 2 ^ t := by rw [Nat.pow_succ]; omega
          rcases Nat.lt_or_ge (m % n) (2 ^ t) with q | q
          · omega
          · have : n % (m % n) = n - m % n := by
              rw [Nat.mod_eq_sub_mod (by omega), Nat.mod_eq_of_lt (by omega)]
            omega
        rw [hy2, hz2, nI_1, pk_lRem (by omega) hr0 (by omega)]
        refine ih (m % n) (n % (m % n)) (i + 1 + 1) hhalf (Or.inr hhalf) (by omega) (by omega) ?_ hr2 (by omega)
        rw [← hg, Nat.gcd_comm m n, Nat.gcd_rec n m, Nat.gcd_comm (m % n) (n % (m % n)), ← Nat.gcd_rec]
theorem s_commonDivisor {a b : Int64} (ha : a.toInt.natAbs < 2 ^ 40) (hb : b.toInt.natAbs < 2 ^ 40) : CTl mr_X5_commonDivisor [.long a, .long b] S I L (lN (Nat.gcd a.toInt.natAbs b.toInt.natAbs)) I L := by
  refine wp_X5_commonDivisor ⟨_, _, _, s_abs a, _, _, _, s_abs b, ?_⟩
  rw [t_abs (by omega), t_abs (by omega)]
  generalize a.toInt.natAbs = m at ha ⊢
  generalize b.toInt.natAbs = n at hb ⊢
  rcases Nat.lt_or_ge n m with h | h
  · exact s_euclid (Nat.gcd m n) 40 m n 0 (by omega) (Or.inr (by omega)) (by omega) (by omega) rfl h (by decide)
  · show hd_X5_commonDivisor_15 S _ (lN m) (lN n) (nI 0) I L
    refine it_X5_commonDivisor_15 (ge_f (k := 100) (by omega) (by decide) ⟨fun h0 => ?_, fun h0 => ⟨h0, fun y hy z hz => ?_⟩⟩)
    · have h0 : n = 0 := (pk_lEQ (by omega) (by decide)).mp h0
      subst h0
      exact ⟨by rw [Nat.gcd_zero_right], rfl⟩
    · have hn0 : 0 < n := Nat.pos_of_ne_zero (fun e => h0 (by rw [e]; rfl))
      have hr := Nat.mod_lt m hn0
      rw [hy, hz, nI_1, pk_lRem (by omega) hn0 (by omega)]
      exact s_euclid (Nat.gcd m n) 40 n (m % n) 1 (by omega) (Or.inr (by omega)) (by omega) (by omega) (by rw [Nat.gcd_comm n, ← Nat.gcd_rec, Nat.gcd_comm]) hr (by decide)
/-- the greatest common divisor of the first coefficients -/
def gN (f : Nat → Int64) : Nat → Nat
  | 0 => 0
  | i + 1 => Nat.gcd (gN f i) (f i).toInt.natAbs
/-- all coefficients within a bound -/
def bnd6 (f : Nat → Int64) (B : Nat) : Prop := ∀ k, k < 6 → (f k).toInt.natAbs ≤ B
theorem gN_le {f : Nat → Int64} {B : Nat} (h : bnd6 f B) : ∀ i, i ≤ 6 → gN f i ≤ B := by
  intro i
  induction i with
  | zero => exact fun _ => Nat.zero_le _
  | succ i ih =>
    intro hi
    have h1 := ih (by omega)
    have h2 := h i (by omega)
    show Nat.gcd (gN f i) _ ≤ B
    rcases Nat.eq_zero_or_pos (gN f i) with e | e
    · rw [e, Nat.gcd_zero_left]; exact h2
    · exact Nat.le_trans (Nat.le_of_dvd e (Nat.gcd_dvd_left _ _)) h1
/-- the content, with the sign of the leading coefficient -/
def cont (f : Nat → Int64) : Int64 := if 0 ≤ pat f (dg f) then lN (gN f 6) else -(lN (gN f 6))
theorem s_content {p : Nat} (hp : is_Poly S p) (hB : bnd6 (L (p + 1)) (2 ^ 39)) : CTl mr_X5_content [.ref p] S I L (cont (L (p + 1))) I L := by
  refine wp_X5_content hp ?_
  have key := up_loop (P := fun i => hd_X5_content_4 S (fun v h => v = some (.long (cont (L (p + 1)))) ∧ h = (S, I, L)) p (lN (gN (L (p + 1)) i)) (nI i) I L) 6
    (it_X5_content_4 hp (ge_t (k := 6) (by decide) (by decide) ⟨_, _, _, s_degree hp, _, _, _, s_at hp _, fun h => ⟨by unfold cont; rw [if_pos h], rfl⟩, fun h => ⟨by unfold cont; rw [if_neg h], rfl⟩⟩))
    (fun i hi ih => by
      have h1 := gN_le hB i (by omega)
      have h2 := hB i hi
      refine it_X5_content_4 hp (ge_f (k := 6) hi (by decide) ⟨vp_in_nI hi (by decide), _, _, _, s_commonDivisor (by rw [t_lN (by omega)]; show gN _ i < _; omega) (by rw [nI_clamp (by omega)]; omega), fun y hy => ?_⟩)
      rw [hy, nI_1, nI_clamp (by omega), t_lN (by omega)]
      exact ih)
  exact key 0 (by decide)
