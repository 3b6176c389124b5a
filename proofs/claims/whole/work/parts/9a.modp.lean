/-! BY PRIMES: division of polynomials modulo p by x + b and by x^2 + b x + c -/
section
variable {p : Int}
def cg (p a b : Int) : Prop := ∃ z, a = b + p * z
theorem cg_rf (a : Int) : cg p a a := ⟨0, by rw [Int.mul_zero, Int.add_zero]⟩
theorem cg_of {a b : Int} (h : a = b) : cg p a b := h ▸ cg_rf a
theorem cg_sy {a b : Int} (h : cg p a b) : cg p b a := by
  obtain ⟨z, hz⟩ := h
  exact ⟨-z, by rw [Int.mul_neg]; omega⟩
theorem cg_tr {a b c : Int} (h : cg p a b) (h2 : cg p b c) : cg p a c := by
  obtain ⟨z, hz⟩ := h
  obtain ⟨y, hy⟩ := h2
  exact ⟨z + y, by rw [Int.mul_add]; omega⟩
theorem cg_ad {a b c d : Int} (h : cg p a b) (h2 : cg p c d) : cg p (a + c) (b + d) := by
  obtain ⟨z, hz⟩ := h
  obtain ⟨y, hy⟩ := h2
  exact ⟨z + y, by rw [Int.mul_add]; omega⟩
theorem cg_sb {a b c d : Int} (h : cg p a b) (h2 : cg p c d) : cg p (a - c) (b - d) := by
  obtain ⟨z, hz⟩ := h
  obtain ⟨y, hy⟩ := h2
  exact ⟨z - y, by rw [Int.mul_sub]; omega⟩
theorem cg_ml {a b : Int} (k : Int) (h : cg p a b) : cg p (k * a) (k * b) := by
  obtain ⟨z, hz⟩ := h
  exact ⟨k * z, by rw [hz, Int.mul_add, Int.mul_left_comm]⟩
theorem cg_em (a : Int) : cg p (a % p) a := ⟨-(a / p), by rw [Int.emod_def, Int.mul_neg]; omega⟩
theorem cg_eq {a b : Int} (h : cg p a b) (h1 : 0 ≤ a) (h2 : a < p) (h3 : 0 ≤ b) (h4 : b < p) : a = b := by
  obtain ⟨z, hz⟩ := h
  have e := congrArg (· % p) hz
  simp only [Int.add_mul_emod_self_left] at e
  rw [Int.emod_eq_of_lt h1 h2, Int.emod_eq_of_lt h3 h4] at e
  exact e
/-- one power higher -/
def shq (q : Nat → Int) : Nat → Int
  | 0 => 0
  | k + 1 => q k
def mm1 (b : Int) (q : Nat → Int) (k : Nat) : Int := shq q k + b * q k
def mm2 (b c : Int) (q : Nat → Int) (k : Nat) : Int := shq (shq q) k + b * shq q k + c * q k
def dl0 (a : Int) (k : Nat) : Int := if k = 0 then a else 0
theorem cg_shq {q r : Nat → Int} (h : ∀ k, cg p (q k) (r k)) : ∀ k, cg p (shq q k) (shq r k)
  | 0 => cg_rf _
  | k + 1 => h k
theorem cg_mm1 {b : Int} {q r : Nat → Int} (h : ∀ k, cg p (q k) (r k)) (k : Nat) : cg p (mm1 b q k) (mm1 b r k) := cg_ad (cg_shq h k) (cg_ml b (h k))
theorem cg_mm2 {b c : Int} {q r : Nat → Int} (h : ∀ k, cg p (q k) (r k)) (k : Nat) : cg p (mm2 b c q k) (mm2 b c r k) := cg_ad (cg_ad (cg_shq (cg_shq h) k) (cg_ml b (cg_shq h k))) (cg_ml c (h k))
theorem mm_11 (b c : Int) (q : Nat → Int) (k : Nat) : mm1 b (mm1 c q) k = mm1 c (mm1 b q) k := by
  rcases k with _ | _ | k
  · show 0 + b * (0 + c * q 0) = 0 + c * (0 + b * q 0)
    grind
  · show (0 + c * q 0) + b * (q 0 + c * q 1) = (0 + b * q 0) + c * (q 0 + b * q 1)
    grind
  · show (q k + c * q (k + 1)) + b * (q (k + 1) + c * q (k + 2)) = (q k + b * q (k + 1)) + c * (q (k + 1) + b * q (k + 2))
    grind
theorem mm_21 (b c d : Int) (q : Nat → Int) (k : Nat) : mm2 b c (mm1 d q) k = mm1 d (mm2 b c q) k := by
  rcases k with _ | _ | _ | k
  · show 0 + b * 0 + c * (0 + d * q 0) = 0 + d * (0 + b * 0 + c * q 0)
    grind
  · show 0 + b * (0 + d * q 0) + c * (q 0 + d * q 1) = (0 + b * 0 + c * q 0) + d * (0 + b * q 0 + c * q 1)
    grind
  · show (0 + d * q 0) + b * (q 0 + d * q 1) + c * (q 1 + d * q 2) = (0 + b * q 0 + c * q 1) + d * (q 0 + b * q 1 + c * q 2)
    grind
  · show (q k + d * q (k + 1)) + b * (q (k + 1) + d * q (k + 2)) + c * (q (k + 2) + d * q (k + 3)) = (q k + b * q (k + 1) + c * q (k + 2)) + d * (q (k + 1) + b * q (k + 2) + c * q (k + 3))
    grind
theorem mm_22 (b c d e : Int) (q : Nat → Int) (k : Nat) : mm2 b c (mm2 d e q) k = mm2 d e (mm2 b c q) k := by
  rcases k with _ | _ | _ | _ | k
  · show 0 + b * 0 + c * (0 + d * 0 + e * q 0) = 0 + d * 0 + e * (0 + b * 0 + c * q 0)
    grind
  · show 0 + b * (0 + d * 0 + e * q 0) + c * (0 + d * q 0 + e * q 1) = 0 + d * (0 + b * 0 + c * q 0) + e * (0 + b * q 0 + c * q 1)
    grind
  · show (0 + d * 0 + e * q 0) + b * (0 + d * q 0 + e * q 1) + c * (q 0 + d * q 1 + e * q 2) = (0 + b * 0 + c * q 0) + d * (0 + b * q 0 + c * q 1) + e * (q 0 + b * q 1 + c * q 2)
    grind
  · show (0 + d * q 0 + e * q 1) + b * (q 0 + d * q 1 + e * q 2) + c * (q 1 + d * q 2 + e * q 3) = (0 + b * q 0 + c * q 1) + d * (q 0 + b * q 1 + c * q 2) + e * (q 1 + b * q 2 + c * q 3)
    grind
  · show (q k + d * q (k + 1) + e * q (k + 2)) + b * (q (k + 1) + d * q (k + 2) + e * q (k + 3)) + c * (q (k + 2) + d * q (k + 3) + e * q (k + 4)) = (q k + b * q (k + 1) + c * q (k + 2)) + d * (q (k + 1) + b * q (k + 2) + c * q (k + 3)) + e * (q (k + 2) + b * q (k + 3) + c * q (k + 4))
    grind
/-- it ends -/
def fse (q : Nat → Int) : Prop := ∃ N, ∀ k, N ≤ k → q k = 0
theorem fse_mm1 {b : Int} {q : Nat → Int} (h : fse q) : fse (mm1 b q) := by
  obtain ⟨N, hN⟩ := h
  refine ⟨N + 1, fun k hk => ?_⟩
  obtain ⟨j, rfl⟩ : ∃ j, k = j + 1 := ⟨k - 1, by omega⟩
  show q j + b * q (j + 1) = 0
  rw [hN j (by omega), hN (j + 1) (by omega), Int.mul_zero]; rfl
theorem fse_mm2 {b c : Int} {q : Nat → Int} (h : fse q) : fse (mm2 b c q) := by
  obtain ⟨N, hN⟩ := h
  refine ⟨N + 2, fun k hk => ?_⟩
  obtain ⟨j, rfl⟩ : ∃ j, k = j + 2 := ⟨k - 2, by omega⟩
  show q j + b * q (j + 1) + c * q (j + 2) = 0
  rw [hN j (by omega), hN (j + 1) (by omega), hN (j + 2) (by omega), Int.mul_zero, Int.mul_zero]; rfl
theorem fse_dl (a : Int) : fse (dl0 a) := ⟨1, fun k hk => if_neg (by omega)⟩
/-- what the division downward makes, the last n places -/
def tvq (p b c : Int) (r : Nat → Int) : Nat → Nat → Int
  | 0, _ => 0
  | 1, k => r k % p
  | n + 2, k => (r k - b * tvq p b c r (n + 1) (k + 1) - c * tvq p b c r n (k + 2)) % p
def tq (p b c : Int) (r : Nat → Int) (t k : Nat) : Int := tvq p b c r (t + 1 - k) k
theorem tq_out {b c : Int} {r : Nat → Int} {t k : Nat} (h : t < k) : tq p b c r t k = 0 := by
  unfold tq
  rw [show t + 1 - k = 0 by omega]; rfl
theorem tq_s {b c : Int} {r : Nat → Int} {t k : Nat} (h : k ≤ t) : tq p b c r t k = (r k - b * tq p b c r t (k + 1) - c * tq p b c r t (k + 2)) % p := by
  by_cases e : k = t
  · subst e
    rw [tq_out (k := k + 1) (by omega), tq_out (k := k + 2) (by omega), Int.mul_zero, Int.mul_zero]
    unfold tq
    rw [show k + 1 - k = 1 by omega, tvq]
    simp
  · unfold tq
    obtain ⟨n, hn⟩ : ∃ n, t + 1 - k = n + 2 := ⟨t - 1 - k, by omega⟩
    rw [hn, show t + 1 - (k + 1) = n + 1 by omega, show t + 1 - (k + 2) = n by omega, tvq]
theorem tq_rg {b c : Int} {r : Nat → Int} {t k : Nat} (hp : 0 < p) : 0 ≤ tq p b c r t k ∧ tq p b c r t k < p := by
  by_cases h : k ≤ t
  · rw [tq_s h]; exact ⟨Int.emod_nonneg _ (by omega), Int.emod_lt_of_pos _ hp⟩
  · rw [tq_out (by omega)]; omega
theorem tq_c {b c : Int} {r : Nat → Int} {t : Nat} (hr : ∀ k, t < k → r k = 0) (k : Nat) : cg p (tq p b c r t k) (r k - b * tq p b c r t (k + 1) - c * tq p b c r t (k + 2)) := by
  by_cases h : k ≤ t
  · rw [tq_s h]; exact cg_em _
  · rw [tq_out (by omega), tq_out (by omega), tq_out (by omega), hr k (by omega), Int.mul_zero, Int.mul_zero]; exact cg_rf _
theorem tq_b {b c : Int} {r : Nat → Int} {t : Nat} (hr : ∀ k, t < k → r k = 0) (k : Nat) : cg p (r k) (tq p b c r t k + b * tq p b c r t (k + 1) + c * tq p b c r t (k + 2)) := by
  obtain ⟨z, hz⟩ := tq_c (p := p) (b := b) (c := c) hr k
  exact ⟨-z, by rw [Int.mul_neg]; omega⟩
theorem snd1 {b : Int} {r : Nat → Int} {t : Nat} (hr : ∀ k, t < k → r k = 0) (h : tq p b 0 r t 0 = 0) : ∀ k, cg p (r k) (mm1 b (fun k => tq p b 0 r t (k + 1)) k)
  | 0 => by
    have := tq_b (p := p) (b := b) (c := 0) hr 0
    rw [h, Int.zero_mul, Int.add_zero] at this
    exact this
  | k + 1 => by
    have := tq_b (p := p) (b := b) (c := 0) hr (k + 1)
    rw [Int.zero_mul, Int.add_zero] at this
    exact this
theorem snd2 {b c : Int} {r : Nat → Int} {t : Nat} (hr : ∀ k, t < k → r k = 0) (h : tq p b c r t 0 = 0) (h1 : tq p b c r t 1 = 0) : ∀ k, cg p (r k) (mm2 b c (fun k => tq p b c r t (k + 2)) k)
  | 0 => by
    have := tq_b (p := p) (b := b) (c := c) hr 0
    rw [h, h1] at this
    exact this
  | 1 => by
    have := tq_b (p := p) (b := b) (c := c) hr 1
    rw [h1] at this
    exact this
  | k + 2 => tq_b (p := p) (b := b) (c := c) hr (k + 2)
theorem cmp_q {b c : Int} {d : Nat} {r q : Nat → Int} {t : Nat} (hr : ∀ k, t < k → r k = 0) (hq : fse q) (h : ∀ k, cg p (r (k + d)) (q k + b * q (k + 1) + c * q (k + 2))) (k : Nat) : cg p (q k) (tq p b c r t (k + d)) := by
  obtain ⟨N, hN⟩ := hq
  have key : ∀ j k, N + t + 1 ≤ k + j → cg p (q k) (tq p b c r t (k + d)) ∧ cg p (q (k + 1)) (tq p b c r t (k + 1 + d)) ∧ cg p (q (k + 2)) (tq p b c r t (k + 2 + d)) := by
    intro j
    induction j with
    | zero =>
      intro k hk
      rw [hN k (by omega), hN (k + 1) (by omega), hN (k + 2) (by omega), tq_out (by omega), tq_out (by omega), tq_out (by omega)]
      exact ⟨cg_rf _, cg_rf _, cg_rf _⟩
    | succ j ih =>
      intro k hk
      obtain ⟨i1, i2, i3⟩ := ih (k + 1) (by omega)
      refine ⟨?_, i1, i2⟩
      have h1 := h k
      have h2 := tq_c (p := p) (b := b) (c := c) hr (k + d)
      have e1 : k + d + 1 = k + 1 + d := by omega
      have e2 : k + d + 2 = k + 1 + 1 + d := by omega
      rw [e1, e2] at h2
      obtain ⟨z, hz⟩ := h1
      have h3 : cg p (q k) (r (k + d) - b * q (k + 1) - c * q (k + 2)) := ⟨-z, by rw [Int.mul_neg]; omega⟩
      exact cg_tr h3 (cg_tr (cg_sb (cg_sb (cg_rf _) (cg_ml b i1)) (cg_ml c i2)) (cg_sy h2))
  exact (key (N + t + 1) k (by omega)).1
theorem cmp1 {b : Int} {r q : Nat → Int} {t : Nat} (hp : 0 < p) (hr : ∀ k, t < k → r k = 0) (hq : fse q) (h : ∀ k, cg p (r k) (mm1 b q k)) : tq p b 0 r t 0 = 0 := by
  have hc := cmp_q (p := p) (b := b) (c := 0) (d := 1) hr hq (fun k => by
    rw [Int.zero_mul, Int.add_zero]; exact h (k + 1))
  have h0 := tq_c (p := p) (b := b) (c := 0) hr 0
  rw [Int.zero_mul, Int.sub_zero] at h0
  have h1 : cg p (r 0) (b * q 0) := by
    have := h 0
    unfold mm1 shq at this
    rw [Int.zero_add] at this; exact this
  have h2 : cg p (r 0 - b * tq p b 0 r t (0 + 1)) (b * q 0 - b * q 0) := cg_sb h1 (cg_ml b (cg_sy (hc 0)))
  rw [Int.sub_self] at h2
  have rg := tq_rg (b := b) (c := 0) (r := r) (t := t) (k := 0) hp
  exact cg_eq (cg_tr h0 h2) rg.1 rg.2 (Int.le_refl _) hp
theorem cmp2 {b c : Int} {r q : Nat → Int} {t : Nat} (hp : 0 < p) (hr : ∀ k, t < k → r k = 0) (hq : fse q) (h : ∀ k, cg p (r k) (mm2 b c q k)) : tq p b c r t 0 = 0 ∧ tq p b c r t 1 = 0 := by
  have hc := cmp_q (p := p) (b := b) (c := c) (d := 2) hr hq (fun k => h (k + 2))
  have rg := fun k => tq_rg (b := b) (c := c) (r := r) (t := t) (k := k) hp
  have h1 : cg p (r 1) (0 + b * q 0 + c * q 1) := h 1
  have h0 : cg p (r 0) (0 + b * 0 + c * q 0) := h 0
  have e1 : tq p b c r t 1 = 0 := by
    have h2 := cg_sb (cg_sb h1 (cg_ml b (cg_sy (hc 0)))) (cg_ml c (cg_sy (hc 1)))
    have h3 := cg_tr (tq_c (p := p) (b := b) (c := c) hr 1) h2
    rw [show 0 + b * q 0 + c * q 1 - b * q 0 - c * q 1 = 0 by omega] at h3
    exact cg_eq h3 (rg 1).1 (rg 1).2 (Int.le_refl _) hp
  refine ⟨?_, e1⟩
  have h3 := tq_c (p := p) (b := b) (c := c) hr 0
  rw [show (0 : Nat) + 1 = 1 from rfl, e1] at h3
  have h2 := cg_tr h3 (cg_sb (cg_sb h0 (cg_rf (b * 0))) (cg_ml c (cg_sy (hc 0))))
  rw [show 0 + b * 0 + c * q 0 - b * 0 - c * q 0 = 0 by omega] at h2
  exact cg_eq h2 (rg 0).1 (rg 0).2 (Int.le_refl _) hp
end
