/-! BY PRIMES: what divides what; the parts -/
section
variable {p : Int}
/-- residues, of degree t -/
def rsd (p : Int) (r : Nat → Int) (t : Nat) : Prop := (∀ k, 0 ≤ r k ∧ r k < p) ∧ (∀ k, t < k → r k = 0) ∧ r t ≠ 0
def dv1 (p b : Int) (r : Nat → Int) (t : Nat) : Bool := decide (1 ≤ t ∧ tq p b 0 r t 0 = 0)
def dv2 (p b c : Int) (r : Nat → Int) (t : Nat) : Bool := decide (2 ≤ t ∧ tq p b c r t 0 = 0 ∧ tq p b c r t 1 = 0)
def qt1 (p b : Int) (r : Nat → Int) (t k : Nat) : Int := tq p b 0 r t (k + 1)
def qt2 (p b c : Int) (r : Nat → Int) (t k : Nat) : Int := tq p b c r t (k + 2)
theorem rsd_p {r : Nat → Int} {t : Nat} (h : rsd p r t) : 0 < p := by
  have := h.1 0
  omega
theorem tq_top {b c : Int} {r : Nat → Int} {t : Nat} (h : rsd p r t) : tq p b c r t t = r t := by
  rw [tq_s (Nat.le_refl _), tq_out (k := t + 1) (by omega), tq_out (k := t + 2) (by omega), Int.mul_zero, Int.mul_zero, Int.sub_zero, Int.sub_zero]
  exact Int.emod_eq_of_lt (h.1 t).1 (h.1 t).2
theorem rsd_1 {b : Int} {r : Nat → Int} {t : Nat} (h : rsd p r t) (ht : 1 ≤ t) : rsd p (qt1 p b r t) (t - 1) := by
  have hp := rsd_p h
  refine ⟨fun k => tq_rg hp, fun k hk => tq_out (by omega), ?_⟩
  show tq p b 0 r t (t - 1 + 1) ≠ 0
  rw [show t - 1 + 1 = t by omega, tq_top h]
  exact h.2.2
theorem rsd_2 {b c : Int} {r : Nat → Int} {t : Nat} (h : rsd p r t) (ht : 2 ≤ t) : rsd p (qt2 p b c r t) (t - 2) := by
  have hp := rsd_p h
  refine ⟨fun k => tq_rg hp, fun k hk => tq_out (by omega), ?_⟩
  show tq p b c r t (t - 2 + 2) ≠ 0
  rw [show t - 2 + 2 = t by omega, tq_top h]
  exact h.2.2
theorem dv1_t {b : Int} {r : Nat → Int} {t : Nat} (h : dv1 p b r t = true) : 1 ≤ t := (of_decide_eq_true h).1
theorem dv2_t {b c : Int} {r : Nat → Int} {t : Nat} (h : dv2 p b c r t = true) : 2 ≤ t := (of_decide_eq_true h).1
theorem fse_1 {b : Int} {r : Nat → Int} {t : Nat} : fse (qt1 p b r t) := ⟨t, fun k hk => tq_out (by omega)⟩
theorem fse_2 {b c : Int} {r : Nat → Int} {t : Nat} : fse (qt2 p b c r t) := ⟨t, fun k hk => tq_out (by omega)⟩
theorem dv1_c {b : Int} {r : Nat → Int} {t : Nat} (h : rsd p r t) (hd : dv1 p b r t = true) : ∀ k, cg p (r k) (mm1 b (qt1 p b r t) k) := snd1 h.2.1 (of_decide_eq_true hd).2
theorem dv2_c {b c : Int} {r : Nat → Int} {t : Nat} (h : rsd p r t) (hd : dv2 p b c r t = true) : ∀ k, cg p (r k) (mm2 b c (qt2 p b c r t) k) := snd2 h.2.1 (of_decide_eq_true hd).2.1 (of_decide_eq_true hd).2.2
theorem dv_11 {b c : Int} {r : Nat → Int} {t : Nat} (h : rsd p r t) (hb : dv1 p b r t = true) (hc : dv1 p c (qt1 p b r t) (t - 1) = true) : dv1 p c r t = true := by
  have h1 := rsd_1 (b := b) h (dv1_t hb)
  have e := fun k => cg_tr (dv1_c h hb k) (cg_tr (cg_mm1 (dv1_c h1 hc) k) (cg_of (mm_11 b c _ k)))
  exact decide_eq_true ⟨dv1_t hb, cmp1 (rsd_p h) h.2.1 (fse_mm1 fse_1) e⟩
theorem dv_21 {b e c : Int} {r : Nat → Int} {t : Nat} (h : rsd p r t) (hb : dv2 p b e r t = true) (hc : dv1 p c (qt2 p b e r t) (t - 2) = true) : dv1 p c r t = true := by
  have t2 := dv2_t hb
  have h1 := rsd_2 (b := b) (c := e) h t2
  have e := fun k => cg_tr (dv2_c h hb k) (cg_tr (cg_mm2 (dv1_c h1 hc) k) (cg_of (mm_21 b e c _ k)))
  exact decide_eq_true ⟨by omega, cmp1 (rsd_p h) h.2.1 (fse_mm2 fse_1) e⟩
theorem dv_22 {b e c d : Int} {r : Nat → Int} {t : Nat} (h : rsd p r t) (hb : dv2 p b e r t = true) (hc : dv2 p c d (qt2 p b e r t) (t - 2) = true) : dv2 p c d r t = true := by
  have t2 := dv2_t hb
  have h1 := rsd_2 (b := b) (c := e) h t2
  have e := fun k => cg_tr (dv2_c h hb k) (cg_tr (cg_mm2 (dv2_c h1 hc) k) (cg_of (mm_22 b e c d _ k)))
  have := cmp2 (rsd_p h) h.2.1 (fse_mm2 fse_2) e
  exact decide_eq_true ⟨t2, this.1, this.2⟩
end
def pr6 (p : Nat) : Prop := p = 2 ∨ p = 3 ∨ p = 5 ∨ p = 7 ∨ p = 11 ∨ p = 13
theorem pr6_lt {p : Nat} (h : pr6 p) : 2 ≤ p ∧ p ≤ 13 := by
  rcases h with h | h | h | h | h | h <;> omega
theorem inv_ex {p : Nat} (h : pr6 p) {x : Int} (h1 : 0 < x) (h2 : x < p) : ∃ u : Int, cg p (u * x) 1 := by
  have key : ∀ q ∈ [2, 3, 5, 7, 11, 13], ∀ y, y < q → y ≠ 0 → ∃ u, u < q ∧ u * y % q = 1 := by decide +kernel
  obtain ⟨y, rfl⟩ : ∃ y : Nat, x = y := ⟨x.toNat, by omega⟩
  have hm : p ∈ [2, 3, 5, 7, 11, 13] := by
    rcases h with h | h | h | h | h | h <;> (rw [h]; decide)
  obtain ⟨u, -, hu⟩ := key p hm y (by omega) (by omega)
  refine ⟨u, ((u * y / p : Nat) : Int), ?_⟩
  have := Nat.div_add_mod (u * y) p
  rw [hu] at this
  have h3 : ((p * (u * y / p) + 1 : Nat) : Int) = ((u * y : Nat) : Int) := by rw [this]
  rw [Int.natCast_add, Int.natCast_mul, Int.natCast_mul] at h3
  omega
theorem lead_inv {p : Nat} {r : Nat → Int} {t : Nat} (h6 : pr6 p) (h : rsd p r t) : ∃ u : Int, cg p (u * r t) 1 := by
  have := h.1 t
  have := h.2.2
  exact inv_ex h6 (by omega) (by omega)
theorem cg_u {p u a b : Int} (h : cg p (u * a) 1) : cg p ((b * u) % p * a) b := by
  have h1 : cg p ((b * u) % p * a) (b * u * a) := by
    rw [Int.mul_comm ((b * u) % p) a, Int.mul_comm (b * u) a]
    exact cg_ml a (cg_em _)
  have h2 : cg p (b * u * a) (b * 1) := by
    rw [Int.mul_assoc]; exact cg_ml b h
  rw [Int.mul_one] at h2
  exact cg_tr h1 h2
/-- a divisor of degree 2 of one of degree 3 leaves a line -/
theorem dv2_3 {p : Nat} {b c : Int} {r : Nat → Int} (h6 : pr6 p) (h : rsd p r 3) (hd : dv2 p b c r 3 = true) : ∃ e : Nat, e < p ∧ dv1 p e r 3 = true := by
  have hp := rsd_p h
  have h1 := rsd_2 (b := b) (c := c) h (dv2_t hd)
  obtain ⟨u, hu⟩ := lead_inv h6 h1
  obtain ⟨q, hq⟩ : ∃ q, q = qt2 p b c r 3 := ⟨_, rfl⟩
  have hc := dv2_c h hd
  rw [← hq] at h1 hu hc
  change cg p (u * q 1) 1 at hu
  obtain ⟨e, he⟩ : ∃ e : Nat, (e : Int) = (q 0 * u) % p := ⟨((q 0 * u) % p).toNat, by have := Int.emod_nonneg (q 0 * u) (show (p : Int) ≠ 0 by omega); omega⟩
  have helt : e < p := by have := Int.emod_lt_of_pos (q 0 * u) hp; omega
  have hl : ∀ k, cg p (q k) (mm1 e (dl0 (q 1)) k)
    | 0 => by
      show cg p (q 0) (0 + e * q 1)
      rw [Int.zero_add, he]
      exact cg_sy (cg_u hu)
    | 1 => by
      show cg p (q 1) (q 1 + e * 0)
      rw [Int.mul_zero, Int.add_zero]; exact cg_rf _
    | k + 2 => by
      show cg p (q (k + 2)) (0 + e * 0)
      rw [Int.mul_zero, h1.2.1 (k + 2) (by omega)]; exact cg_rf _
  have e2 := fun k => cg_tr (hc k) (cg_tr (cg_mm2 hl k) (cg_of (mm_21 b c e _ k)))
  exact ⟨e, helt, decide_eq_true ⟨by decide, cmp1 hp h.2.1 (fse_mm2 (fse_dl _)) e2⟩⟩
/-- one of degree 2 divides itself -/
theorem dv2_2 {p : Nat} {r : Nat → Int} (h6 : pr6 p) (h : rsd p r 2) : ∃ b c : Nat, b < p ∧ c < p ∧ dv2 p b c r 2 = true := by
  have hp := rsd_p h
  obtain ⟨u, hu⟩ := lead_inv h6 h
  have ex : ∀ x : Int, ∃ e : Nat, e < p ∧ (e : Int) = (x * u) % p := fun x => by
    have h1 := Int.emod_nonneg (x * u) (show (p : Int) ≠ 0 by omega)
    have h2 := Int.emod_lt_of_pos (x * u) hp
    exact ⟨((x * u) % p).toNat, by omega, by omega⟩
  obtain ⟨b, hb, eb⟩ := ex (r 1)
  obtain ⟨c, hc, ec⟩ := ex (r 0)
  have hl : ∀ k, cg p (r k) (mm2 b c (dl0 (r 2)) k)
    | 0 => by
      show cg p (r 0) (0 + b * 0 + c * r 2)
      rw [Int.mul_zero, Int.add_zero, Int.zero_add, ec]
      exact cg_sy (cg_u hu)
    | 1 => by
      show cg p (r 1) (0 + b * r 2 + c * 0)
      rw [Int.mul_zero, Int.add_zero, Int.zero_add, eb]
      exact cg_sy (cg_u hu)
    | 2 => by
      show cg p (r 2) (r 2 + b * 0 + c * 0)
      rw [Int.mul_zero, Int.mul_zero, Int.add_zero, Int.add_zero]; exact cg_rf _
    | k + 3 => by
      show cg p (r (k + 3)) (0 + b * 0 + c * 0)
      rw [Int.mul_zero, Int.mul_zero, h.2.1 (k + 3) (by omega)]; exact cg_rf _
  have := cmp2 hp h.2.1 (fse_dl _) hl
  exact ⟨b, c, hb, hc, decide_eq_true ⟨by decide, this.1, this.2⟩⟩
/-- the lines: how many, the degree left, what is left; none: one of them twice -/
def spl (p : Nat) : Nat → Nat → Nat → (Nat → Int) → Nat → Option (Nat × Nat × (Nat → Int))
  | 0, _, n1, r, t => some (n1, t, r)
  | k + 1, c, n1, r, t => if dv1 p c r t = true then (if dv1 p c (qt1 p c r t) (t - 1) = true then none else spl p k (c + 1) (n1 + 1) (qt1 p c r t) (t - 1)) else spl p k (c + 1) n1 r t
theorem spl_ok {p : Nat} : ∀ (k c n1 : Nat) (r : Nat → Int) (t : Nat), rsd p r t → (∀ e : Nat, e < c → dv1 p e r t = false) → ∀ n t' r', spl p k c n1 r t = some (n, t', r') → rsd p r' t' ∧ n + t' = n1 + t ∧ ∀ e : Nat, e < c + k → dv1 p e r' t' = false := by
  intro k
  induction k with
  | zero =>
    intro c n1 r t h h0 n t' r' he
    cases he
    exact ⟨h, rfl, h0⟩
  | succ k ih =>
    intro c n1 r t h h0 n t' r' he
    unfold spl at he
    by_cases c1 : dv1 p c r t = true
    · rw [if_pos c1] at he
      by_cases c2 : dv1 p c (qt1 p c r t) (t - 1) = true
      · rw [if_pos c2] at he; cases he
      · rw [if_neg c2] at he
        have t1 := dv1_t c1
        obtain ⟨i1, i2, i3⟩ := ih (c + 1) (n1 + 1) _ _ (rsd_1 h t1) (fun e hel => by
          by_cases e1 : e = c
          · subst e1; exact eq_false_of_ne_true c2
          · cases hz : dv1 p e (qt1 p c r t) (t - 1) with
            | false => rfl
            | true =>
              have := dv_11 h c1 hz
              rw [h0 e (by omega)] at this; cases this) n t' r' he
        exact ⟨i1, by omega, fun e hel => i3 e (by omega)⟩
    · rw [if_neg c1] at he
      obtain ⟨i1, i2, i3⟩ := ih (c + 1) n1 r t h (fun e hel => by
        by_cases e1 : e = c
        · subst e1; exact eq_false_of_ne_true c1
        · exact h0 e (by omega)) n t' r' he
      exact ⟨i1, i2, fun e hel => i3 e (by omega)⟩
/-- the k-th of degree 2 divides -/
def dvk (p : Nat) (r : Nat → Int) (t k : Nat) : Bool := dv2 p ((k / p : Nat) : Int) ((k % p : Nat) : Int) r t
def qtk (p : Nat) (r : Nat → Int) (t k : Nat) : Nat → Int := qt2 p ((k / p : Nat) : Int) ((k % p : Nat) : Int) r t
/-- the first one of n, from the i-th on -/
def fqi (p : Nat) (r : Nat → Int) (t : Nat) : Nat → Nat → Option Nat
  | 0, _ => none
  | n + 1, i => if dvk p r t i = true then some i else fqi p r t n (i + 1)
theorem fqi_some {p : Nat} {r : Nat → Int} {t : Nat} : ∀ n i k, fqi p r t n i = some k → dvk p r t k = true ∧ i ≤ k ∧ k < i + n ∧ ∀ j, i ≤ j → j < k → dvk p r t j = false := by
  intro n
  induction n with
  | zero => intro i k h; cases h
  | succ n ih =>
    intro i k h
    unfold fqi at h
    by_cases c : dvk p r t i = true
    · rw [if_pos c] at h
      cases h
      exact ⟨c, Nat.le_refl _, by omega, fun j h1 h2 => by omega⟩
    · rw [if_neg c] at h
      obtain ⟨a1, a2, a3, a4⟩ := ih (i + 1) k h
      refine ⟨a1, by omega, by omega, fun j h1 h2 => ?_⟩
      by_cases e : j = i
      · rw [e]; exact eq_false_of_ne_true c
      · exact a4 j (by omega) h2
theorem fqi_none {p : Nat} {r : Nat → Int} {t : Nat} : ∀ n i, fqi p r t n i = none → ∀ j, i ≤ j → j < i + n → dvk p r t j = false := by
  intro n
  induction n with
  | zero => intro i _ j h1 h2; omega
  | succ n ih =>
    intro i h j h1 h2
    unfold fqi at h
    by_cases c : dvk p r t i = true
    · rw [if_pos c] at h; cases h
    · rw [if_neg c] at h
      by_cases e : j = i
      · rw [e]; exact eq_false_of_ne_true c
      · exact ih (i + 1) h j (by omega) (by omega)
/-- what is left behind the lines -/
def spq (p : Nat) (r : Nat → Int) (t : Nat) : Option (List Nat) :=
  if t < 4 then some (if t = 0 then [] else [t]) else match fqi p r t (p * p) 0 with
    | none => some [t]
    | some k => if dvk p (qtk p r t k) (t - 2) k = true then none else some [2, t - 2]
/-- the degrees of the parts; none: it is not good -/
def sps (p : Nat) (f : Nat → Int) (t : Nat) : Option (Nat × List Nat) :=
  if t < 1 then none else if f t % (p : Int) = 0 then none else match spl p p 0 0 (fun k => if k ≤ t then f k % (p : Int) else 0) t with
    | none => none
    | some (n1, t', r') => (spq p r' t').map (fun ls => (n1, ls))
