/-! THE QUOTIENT of the class's polynomials, as integers -/
variable {S : List mjD} {I : Nat → Nat → Int32} {L : Nat → Nat → Int64}
/-- six coefficients as integers, as a list -/
def rl (f : Nat → Int64) : List Int := [(f 0).toInt, (f 1).toInt, (f 2).toInt, (f 3).toInt, (f 4).toInt, (f 5).toInt]
theorem rl_co (f : Nat → Int64) {k : Nat} (hk : k < 6) : zco (rl f) k = (f k).toInt := by
  have h : k = 0 ∨ k = 1 ∨ k = 2 ∨ k = 3 ∨ k = 4 ∨ k = 5 := by omega
  rcases h with rfl | rfl | rfl | rfl | rfl | rfl <;> rfl
theorem rl_hi (f : Nat → Int64) {k : Nat} (hk : 6 ≤ k) : zco (rl f) k = 0 := zlt_len (rl f) k hk
theorem rl_lt (f : Nat → Int64) : zlt (rl f) 6 := fun k hk => rl_hi f hk
/-- the coefficients of a product of integers, six places -/
def cz (f g : Nat → Int) : Nat → Int
  | 0 => f 0 * g 0
  | 1 => f 0 * g 1 + f 1 * g 0
  | 2 => f 0 * g 2 + f 1 * g 1 + f 2 * g 0
  | 3 => f 0 * g 3 + f 1 * g 2 + f 2 * g 1 + f 3 * g 0
  | 4 => f 0 * g 4 + f 1 * g 3 + f 2 * g 2 + f 3 * g 1 + f 4 * g 0
  | _ => f 0 * g 5 + f 1 * g 4 + f 2 * g 3 + f 3 * g 2 + f 4 * g 1 + f 5 * g 0
theorem zmul_cz (u v : List Int) {k : Nat} (hk : k < 6) : zco (zmul u v) k = cz (zco u) (zco v) k := by
  have key : ∀ w : List Int, ∃ w' : List Int, ∃ a, (∀ k, zco w k = zco (a :: w') k) := fun w => by
    cases w with
    | nil => exact ⟨[], 0, fun k => by cases k <;> simp [zco]⟩
    | cons a w => exact ⟨w, a, fun _ => rfl⟩
  obtain ⟨u1, a0, e0⟩ := key u
  obtain ⟨u2, a1, e1⟩ := key u1
  obtain ⟨u3, a2, e2⟩ := key u2
  obtain ⟨u4, a3, e3⟩ := key u3
  obtain ⟨u5, a4, e4⟩ := key u4
  obtain ⟨u6, a5, e5⟩ := key u5
  have eu : ∀ k, zco u k = zco (a0 :: a1 :: a2 :: a3 :: a4 :: a5 :: u6) k := fun k => by
    rw [e0]
    cases k with
    | zero => rfl
    | succ k =>
      rw [zco_s, zco_s, e1]
      cases k with
      | zero => rfl
      | succ k =>
        rw [zco_s, zco_s, e2]
        cases k with
        | zero => rfl
        | succ k =>
          rw [zco_s, zco_s, e3]
          cases k with
          | zero => rfl
          | succ k =>
            rw [zco_s, zco_s, e4]
            cases k with
            | zero => rfl
            | succ k => rw [zco_s, zco_s, e5]
  have em : zco (zmul u v) k = zco (zmul (a0 :: a1 :: a2 :: a3 :: a4 :: a5 :: u6) v) k := zev_inj (fun x => by rw [zev_mul, zev_mul, zev_congr eu]) k
  rw [em]
  have h : k = 0 ∨ k = 1 ∨ k = 2 ∨ k = 3 ∨ k = 4 ∨ k = 5 := by omega
  rcases h with rfl | rfl | rfl | rfl | rfl | rfl <;> simp only [cz, eu, zmul_s, zmul_low, zco_s, zco_z] <;> (try simp only [Nat.reduceAdd, Nat.zero_add]) <;> omega
def sA (f : Nat → Int64) : Nat := (f 0).toInt.natAbs + (f 1).toInt.natAbs + (f 2).toInt.natAbs + (f 3).toInt.natAbs + (f 4).toInt.natAbs + (f 5).toInt.natAbs
theorem t_mulB {a b : Int64} {B : Nat} (h : b.toInt.natAbs ≤ B) (h2 : a.toInt.natAbs * B < 2 ^ 63) : (a * b).toInt = a.toInt * b.toInt ∧ (a.toInt * b.toInt).natAbs ≤ a.toInt.natAbs * B := by
  have := Nat.mul_le_mul_left a.toInt.natAbs h
  exact ⟨t_mul (by omega), by rw [Int.natAbs_mul]; exact this⟩
theorem cv_int {f g : Nat → Int64} {B : Nat} (hg : bnd6 g B) (hs : sA f * B < 2 ^ 63) {k : Nat} (hk : k < 6) : (cv f g k).toInt = cz (fun j => (f j).toInt) (fun j => (g j).toInt) k ∧ (cv f g k).toInt.natAbs ≤ sA f * B := by
  have hx : sA f * B = (f 0).toInt.natAbs * B + (f 1).toInt.natAbs * B + (f 2).toInt.natAbs * B + (f 3).toInt.natAbs * B + (f 4).toInt.natAbs * B + (f 5).toInt.natAbs * B := by unfold sA; simp only [Nat.add_mul]
  have z0 : (0 : Int64).toInt = 0 := rfl
  have h : k = 0 ∨ k = 1 ∨ k = 2 ∨ k = 3 ∨ k = 4 ∨ k = 5 := by omega
  rcases h with rfl | rfl | rfl | rfl | rfl | rfl
  · obtain ⟨m0, n0⟩ := t_mulB (a := f 0) (hg 0 (by decide)) (by omega)
    simp only [cv, cz]
    rw [t_add (by omega) (by omega), m0, z0]; omega
  · obtain ⟨m0, n0⟩ := t_mulB (a := f 0) (hg 1 (by decide)) (by omega)
    obtain ⟨m1, n1⟩ := t_mulB (a := f 1) (hg 0 (by decide)) (by omega)
    simp only [cv, cz]
    have s0 : (0 + f 0 * g 1).toInt = (f 0).toInt * (g 1).toInt := by rw [t_add (by omega) (by omega), m0, z0]; omega
    rw [t_add (by omega) (by omega), s0, m1]; omega
  · obtain ⟨m0, n0⟩ := t_mulB (a := f 0) (hg 2 (by decide)) (by omega)
    obtain ⟨m1, n1⟩ := t_mulB (a := f 1) (hg 1 (by decide)) (by omega)
    obtain ⟨m2, n2⟩ := t_mulB (a := f 2) (hg 0 (by decide)) (by omega)
    simp only [cv, cz]
    have s0 : (0 + f 0 * g 2).toInt = (f 0).toInt * (g 2).toInt := by rw [t_add (by omega) (by omega), m0, z0]; omega
    have s1 := t_add (a := 0 + f 0 * g 2) (b := f 1 * g 1) (by omega) (by omega)
    rw [t_add (by omega) (by omega), s1, s0, m1, m2]; omega
  · obtain ⟨m0, n0⟩ := t_mulB (a := f 0) (hg 3 (by decide)) (by omega)
    obtain ⟨m1, n1⟩ := t_mulB (a := f 1) (hg 2 (by decide)) (by omega)
    obtain ⟨m2, n2⟩ := t_mulB (a := f 2) (hg 1 (by decide)) (by omega)
    obtain ⟨m3, n3⟩ := t_mulB (a := f 3) (hg 0 (by decide)) (by omega)
    simp only [cv, cz]
    have s0 : (0 + f 0 * g 3).toInt = (f 0).toInt * (g 3).toInt := by rw [t_add (by omega) (by omega), m0, z0]; omega
    have s1 := t_add (a := 0 + f 0 * g 3) (b := f 1 * g 2) (by omega) (by omega)
    have s2 := t_add (a := 0 + f 0 * g 3 + f 1 * g 2) (b := f 2 * g 1) (by omega) (by omega)
    rw [t_add (by omega) (by omega), s2, s1, s0, m1, m2, m3]; omega
  · obtain ⟨m0, n0⟩ := t_mulB (a := f 0) (hg 4 (by decide)) (by omega)
    obtain ⟨m1, n1⟩ := t_mulB (a := f 1) (hg 3 (by decide)) (by omega)
    obtain ⟨m2, n2⟩ := t_mulB (a := f 2) (hg 2 (by decide)) (by omega)
    obtain ⟨m3, n3⟩ := t_mulB (a := f 3) (hg 1 (by decide)) (by omega)
    obtain ⟨m4, n4⟩ := t_mulB (a := f 4) (hg 0 (by decide)) (by omega)
    simp only [cv, cz]
    have s0 : (0 + f 0 * g 4).toInt = (f 0).toInt * (g 4).toInt := by rw [t_add (by omega) (by omega), m0, z0]; omega
    have s1 := t_add (a := 0 + f 0 * g 4) (b := f 1 * g 3) (by omega) (by omega)
    have s2 := t_add (a := 0 + f 0 * g 4 + f 1 * g 3) (b := f 2 * g 2) (by omega) (by omega)
    have s3 := t_add (a := 0 + f 0 * g 4 + f 1 * g 3 + f 2 * g 2) (b := f 3 * g 1) (by omega) (by omega)
    rw [t_add (by omega) (by omega), s3, s2, s1, s0, m1, m2, m3, m4]; omega
  · obtain ⟨m0, n0⟩ := t_mulB (a := f 0) (hg 5 (by decide)) (by omega)
    obtain ⟨m1, n1⟩ := t_mulB (a := f 1) (hg 4 (by decide)) (by omega)
    obtain ⟨m2, n2⟩ := t_mulB (a := f 2) (hg 3 (by decide)) (by omega)
    obtain ⟨m3, n3⟩ := t_mulB (a := f 3) (hg 2 (by decide)) (by omega)
    obtain ⟨m4, n4⟩ := t_mulB (a := f 4) (hg 1 (by decide)) (by omega)
    obtain ⟨m5, n5⟩ := t_mulB (a := f 5) (hg 0 (by decide)) (by omega)
    simp only [cv, cz]
    have s0 : (0 + f 0 * g 5).toInt = (f 0).toInt * (g 5).toInt := by rw [t_add (by omega) (by omega), m0, z0]; omega
    have s1 := t_add (a := 0 + f 0 * g 5) (b := f 1 * g 4) (by omega) (by omega)
    have s2 := t_add (a := 0 + f 0 * g 5 + f 1 * g 4) (b := f 2 * g 3) (by omega) (by omega)
    have s3 := t_add (a := 0 + f 0 * g 5 + f 1 * g 4 + f 2 * g 3) (b := f 3 * g 2) (by omega) (by omega)
    have s4 := t_add (a := 0 + f 0 * g 5 + f 1 * g 4 + f 2 * g 3 + f 3 * g 2) (b := f 4 * g 1) (by omega) (by omega)
    rw [t_add (by omega) (by omega), s4, s3, s2, s1, s0, m1, m2, m3, m4, m5]; omega
/-- the degree by its number -/
theorem dg_of {f : Nat → Int64} {n : Nat} (hn : n < 6) (h0 : f n ≠ 0) (hz : ∀ k, n < k → k < 6 → f k = 0) : dg f = nI n := by
  have key : ∀ i, n < i → i ≤ 6 → dgF f i = nI n := by
    intro i
    induction i with
    | zero => intro h; omega
    | succ i ih =>
      intro h1 h2
      rcases Nat.eq_or_lt_of_le (Nat.lt_succ_iff.mp h1) with e | e
      · subst e; rw [dgF, if_neg h0]
      · rw [dgF, if_pos (hz i e (by omega))]
        exact ih e (by omega)
  exact key 6 hn (Nat.le_refl _)
theorem dg_none {f : Nat → Int64} (hz : ∀ k, k < 6 → f k = 0) : dg f = -1 := by
  have key : ∀ i, i ≤ 6 → dgF f i = -1 := by
    intro i
    induction i with
    | zero => exact fun _ => rfl
    | succ i ih => exact fun h => by rw [dgF, if_pos (hz i (by omega))]; exact ih (by omega)
  exact key 6 (Nat.le_refl _)
/-- n is the degree of a row of six -/
def deg6 (f : Nat → Int64) (n : Nat) : Prop := n < 6 ∧ f n ≠ 0 ∧ ∀ k, n < k → k < 6 → f k = 0
theorem deg6_dg {f : Nat → Int64} {n : Nat} (h : deg6 f n) : dg f = nI n := dg_of h.1 h.2.1 h.2.2
theorem deg6_ex {f : Nat → Int64} (h : ∃ k, k < 6 ∧ f k ≠ 0) : ∃ n, deg6 f n := by
  have key : ∀ i, i ≤ 6 → (∀ k, i ≤ k → k < 6 → f k = 0) → ∃ n, deg6 f n := by
    intro i
    induction i with
    | zero => exact fun _ hz => absurd (hz _ (Nat.zero_le _) h.choose_spec.1) h.choose_spec.2
    | succ i ih =>
      intro hi hz
      by_cases h0 : f i = 0
      · exact ih (by omega) (fun k h1 h2 => by
          rcases Nat.eq_or_lt_of_le h1 with e | e
          · rw [← e]; exact h0
          · exact hz k e h2)
      · exact ⟨i, by omega, h0, fun k h1 h2 => hz k h1 h2⟩
  exact key 6 (Nat.le_refl _) (fun k h1 h2 => by omega)
theorem deg6_uniq {f : Nat → Int64} {n m : Nat} (h : deg6 f n) (h2 : deg6 f m) : n = m := by
  rcases Nat.lt_trichotomy n m with q | q | q
  · exact absurd (h.2.2 m q h2.1) h2.2.1
  · exact q
  · exact absurd (h2.2.2 n q h.1) h.2.1
theorem deg6_zlt {f : Nat → Int64} {n : Nat} (h : deg6 f n) : zlt (rl f) (n + 1) ∧ zco (rl f) n ≠ 0 := by
  refine ⟨fun k hk => ?_, ?_⟩
  · by_cases h6 : k < 6
    · rw [rl_co f h6, h.2.2 k (by omega) h6]; rfl
    · exact rl_hi f (by omega)
  · rw [rl_co f h.1]; exact t_ne0 h.2.1
