/-! THE COEFFICIENTS OF A DIVISOR are bounded -/
theorem zev6 {p : List Int} (h : zlt p 6) (x : Int) : zev p x = zco p 0 + x * (zco p 1 + x * (zco p 2 + x * (zco p 3 + x * (zco p 4 + x * zco p 5)))) := by
  have e : zev p x = zev [zco p 0, zco p 1, zco p 2, zco p 3, zco p 4, zco p 5] x := zev_congr (fun k => by
    match k with
    | 0 | 1 | 2 | 3 | 4 | 5 => rfl
    | k + 6 => rw [h _ (by omega)]; simp [zco]) x
  rw [e]; simp [zev]
theorem zroot (x : Int) : ∀ f : List Int, ∃ q : List Int, ∀ y, zev f y = (y - x) * zev q y + zev f x
  | [] => ⟨[], fun y => by simp [zev]⟩
  | a :: f => by
    obtain ⟨q, hq⟩ := zroot x f
    refine ⟨zev f x :: q, fun y => ?_⟩
    simp only [zev]
    rw [hq y]
    grind
theorem zprim_x (x : Int) : zprim [-x, 1] := fun m h => h 1
theorem zcan {x : Int} {f g : List Int} (h : ∀ y, (y - x) * zev f y = (y - x) * zev g y) (y : Int) : zev f y = zev g y := by
  have hz : ∀ k, zco (zadd f (zsm (-1) g)) k = 0 := zcancel (zprim_x x) (fun y => by
    rw [zev_add, zev_sm]
    have := h y
    simp only [zev]
    grind)
  have := zev_congr0 _ y hz
  rw [zev_add, zev_sm] at this
  omega
theorem zco_lin {x : Int} {f q : List Int} (h : ∀ y, zev f y = (y - x) * zev q y) : zco f 0 = -(x * zco q 0) ∧ ∀ k, zco f (k + 1) = zco q k - x * zco q (k + 1) := by
  have e : ∀ k, zco f k = zco (zadd (0 :: q) (zsm (-x) q)) k := zev_inj (fun y => by
    rw [h y, zev_add, zev_sm]
    simp only [zev]
    grind)
  refine ⟨?_, fun k => ?_⟩
  · rw [e, zco_add, zco_sm, zco_z, Int.neg_mul, Int.zero_add]
  · rw [e, zco_add, zco_sm, zco_s, Int.neg_mul]; omega
theorem zle_mul {x a : Int} (hx : 1 ≤ x.natAbs) : a.natAbs ≤ (x * a).natAbs := by
  rw [Int.natAbs_mul]; exact Nat.le_mul_of_pos_left _ hx
theorem zlin_bnd {x : Int} {f q : List Int} {B : Nat} (h : ∀ y, zev f y = (y - x) * zev q y) (hx : 1 ≤ x.natAbs) (hB : ∀ k, (zco f k).natAbs ≤ B) : ∀ k, (zco q k).natAbs ≤ (k + 1) * B
  | 0 => by
    have h0 := (zco_lin h).1
    have h1 := hB 0
    have h2 := zle_mul (a := zco q 0) hx
    omega
  | k + 1 => by
    have h0 := (zco_lin h).2 k
    have h1 := hB (k + 1)
    have h2 := zle_mul (a := zco q (k + 1)) hx
    have h3 := zlin_bnd h hx hB k
    have h4 : (k + 1 + 1) * B = (k + 1) * B + B := Nat.succ_mul _ _
    omega
theorem zlag0 {a b c : Int} {V : Nat} (h1 : (a + b + c).natAbs ≤ V) (h2 : (a + 4 * b + 16 * c).natAbs ≤ V) (h3 : (a + 9 * b + 81 * c).natAbs ≤ V) : a.natAbs ≤ 8 * V ∧ b.natAbs ≤ 8 * V ∧ c.natAbs ≤ 8 * V := by
  have k1 : c.natAbs ≤ V := by omega
  have k2 : b.natAbs ≤ 6 * V := by omega
  omega
theorem zlag1 {p q : Int} {V : Nat} (h1 : (p + q).natAbs ≤ V) (h2 : (p - q).natAbs ≤ V) : p.natAbs ≤ V ∧ q.natAbs ≤ V := by omega
theorem zlag2 {q : Int} {V c : Nat} (hc : 1 ≤ c) (h : ((c : Int) * q).natAbs ≤ V) : q.natAbs ≤ V := Nat.le_trans (zle_mul (by omega)) h
theorem zlag {u : List Int} {V : Nat} (h : zlt u 6) (hv : ∀ x : Int, 1 ≤ x.natAbs → x.natAbs ≤ 3 → (zev u x).natAbs ≤ V) : ∀ k, (zco u k).natAbs ≤ 8 * V := by
  have hv2 : ∀ x : Int, 1 ≤ x.natAbs → x.natAbs ≤ 3 → ∀ z, z = zev u x → z.natAbs ≤ V := fun x h1 h3 z hz => by rw [hz]; exact hv x h1 h3
  obtain ⟨e1, o1⟩ := zlag1 (V := V) (p := zco u 0 + zco u 2 + zco u 4) (q := ((1 : Nat) : Int) * (zco u 1 + zco u 3 + zco u 5)) (hv2 1 (by decide) (by decide) _ (by rw [zev6 h]; grind)) (hv2 (-1) (by decide) (by decide) _ (by rw [zev6 h]; grind))
  obtain ⟨e2, o2⟩ := zlag1 (V := V) (p := zco u 0 + 4 * zco u 2 + 16 * zco u 4) (q := ((2 : Nat) : Int) * (zco u 1 + 4 * zco u 3 + 16 * zco u 5)) (hv2 2 (by decide) (by decide) _ (by rw [zev6 h]; grind)) (hv2 (-2) (by decide) (by decide) _ (by rw [zev6 h]; grind))
  obtain ⟨e3, o3⟩ := zlag1 (V := V) (p := zco u 0 + 9 * zco u 2 + 81 * zco u 4) (q := ((3 : Nat) : Int) * (zco u 1 + 9 * zco u 3 + 81 * zco u 5)) (hv2 3 (by decide) (by decide) _ (by rw [zev6 h]; grind)) (hv2 (-3) (by decide) (by decide) _ (by rw [zev6 h]; grind))
  obtain ⟨p0, p2, p4⟩ := zlag0 e1 e2 e3
  obtain ⟨p1, p3, p5⟩ := zlag0 (zlag2 (by decide) o1) (zlag2 (by decide) o2) (zlag2 (by decide) o3)
  intro k
  match k with
  | 0 => exact p0
  | 1 => exact p1
  | 2 => exact p2
  | 3 => exact p3
  | 4 => exact p4
  | 5 => exact p5
  | k + 6 => rw [h _ (by omega)]; exact Nat.zero_le _
theorem zev_bnd {G : List Int} {B : Nat} (h : zlt G 6) (hB : ∀ k, (zco G k).natAbs ≤ B) (x : Int) (h1 : 1 ≤ x.natAbs) (h3 : x.natAbs ≤ 3) : (zev G x).natAbs ≤ 364 * B := by
  rw [zev6 h]
  have b0 := hB 0; have b1 := hB 1; have b2 := hB 2; have b3 := hB 3; have b4 := hB 4; have b5 := hB 5
  have hx : x = 1 ∨ x = -1 ∨ x = 2 ∨ x = -2 ∨ x = 3 ∨ x = -3 := by omega
  rcases hx with rfl | rfl | rfl | rfl | rfl | rfl <;> omega
theorem zfb : ∀ n, n ≤ 5 → ∀ (G u w : List Int) (B : Nat), zlt G (n + 1) → zco G n ≠ 0 → (∀ k, (zco G k).natAbs ≤ B) → (∀ x, zev G x = zev u x * zev w x) → ∀ k, (zco u k).natAbs ≤ 2912 * 20 ^ n * B := by
  intro n
  induction n with
  | zero =>
    intro _ G u w B hG h0 hB he k
    have hG6 : zlt G 6 := fun k hk => hG k (by omega)
    obtain ⟨a, b, hab, hu, -⟩ := zdeg_mul he hG h0
    have h := zlag (u := u) (V := 364 * B) (fun k hk => hu k (by omega)) (fun x h1 h3 => by
      have e := zev_bnd hG6 hB x h1 h3
      rw [he x, Int.natAbs_mul] at e
      refine Nat.le_trans (Nat.le_mul_of_pos_right _ (Nat.pos_of_ne_zero (fun z => h0 ?_))) e
      have := he x
      rw [Int.natAbs_eq_zero.mp z, Int.mul_zero, zev_lt1 hG] at this
      exact this) k
    omega
  | succ n ih =>
    intro hn G u w B hG h0 hB he k
    have hG6 : zlt G 6 := fun k hk => hG k (by omega)
    have hp : (2912 * 20 ^ (n + 1)) * B = 20 * (2912 * 20 ^ n * B) := by rw [Nat.pow_succ]; grind
    have hp1 : 1 * B ≤ 20 ^ (n + 1) * B := Nat.mul_le_mul_right _ (Nat.pow_pos (by decide))
    have hp2 : (2912 * 20 ^ (n + 1)) * B = 2912 * (20 ^ (n + 1) * B) := Nat.mul_assoc _ _ _
    by_cases hr : ∃ x : Int, 1 ≤ x.natAbs ∧ x.natAbs ≤ 3 ∧ zev G x = 0
    · obtain ⟨x, x1, x3, hx⟩ := hr
      obtain ⟨G', hG'⟩ := zroot x G
      have hG2 : ∀ y, zev G y = (y - x) * zev G' y := fun y => by rw [hG' y, hx, Int.add_zero]
      have hG3 : ∀ y, zev G y = zev [-x, 1] y * zev G' y := fun y => by rw [hG2 y]; simp only [zev]; grind
      obtain ⟨a, b, hab, ha, hb, ha0, hb0, -⟩ := zdeg_mul hG3 hG h0
      have ea : a = 1 := by
        rcases Nat.lt_trichotomy a 1 with q | q | q
        · have := ha 1 (by omega); exact absurd this (by simp [zco])
        · exact q
        · obtain ⟨a', rfl⟩ : ∃ a', a = a' + 2 := ⟨a - 2, by omega⟩
          exact absurd (by simp [zco]) ha0
      have eb : b = n := by omega
      subst eb
      have hb1 := zlin_bnd hG2 x1 hB
      have hb5 : ∀ k, (zco G' k).natAbs ≤ 5 * B := fun k => by
        by_cases c : k < b + 1
        · exact Nat.le_trans (hb1 k) (Nat.mul_le_mul_right _ (by omega))
        · rw [hb k (by omega)]; exact Nat.zero_le _
      have hz : zev u x * zev w x = 0 := by rw [← he x]; exact hx
      have e5 : 2912 * 20 ^ b * (5 * B) = 5 * (2912 * 20 ^ b * B) := by grind
      rcases Int.mul_eq_zero.mp hz with q | q
      · obtain ⟨u', hu'⟩ := zroot x u
        have hu2 : ∀ y, zev u y = (y - x) * zev u' y := fun y => by rw [hu' y, q, Int.add_zero]
        have h' := ih (by omega) G' u' w (5 * B) hb hb0 hb5 (fun y => by
          rw [← zev_mul]
          exact zcan (x := x) (fun y => by rw [← hG2, he y, hu2 y, zev_mul, Int.mul_assoc]) y)
        rw [e5] at h'
        obtain ⟨l0, l1⟩ := zco_lin hu2
        have hm : ∀ k, (x * zco u' k).natAbs ≤ 15 * (2912 * 20 ^ b * B) := fun k => by
          rw [Int.natAbs_mul]
          exact Nat.le_trans (Nat.mul_le_mul x3 (h' k)) (by omega)
        cases k with
        | zero => have := hm 0; omega
        | succ k => have := hm (k + 1); have := h' k; have := l1 k; omega
      · obtain ⟨w', hw'⟩ := zroot x w
        have hw2 : ∀ y, zev w y = (y - x) * zev w' y := fun y => by rw [hw' y, q, Int.add_zero]
        have h' := ih (by omega) G' u w' (5 * B) hb hb0 hb5 (fun y => by
          rw [← zev_mul]
          exact zcan (x := x) (fun y => by rw [← hG2, he y, hw2 y, zev_mul]; grind) y)
        rw [e5] at h'
        have := h' k
        omega
    · obtain ⟨a, b, hab, hu, -⟩ := zdeg_mul he hG h0
      have h := zlag (u := u) (V := 364 * B) (fun k hk => hu k (by omega)) (fun x h1 h3 => by
        have e := zev_bnd hG6 hB x h1 h3
        rw [he x, Int.natAbs_mul] at e
        refine Nat.le_trans (Nat.le_mul_of_pos_right _ (Nat.pos_of_ne_zero (fun z => hr ⟨x, h1, h3, ?_⟩))) e
        rw [he x, Int.natAbs_eq_zero.mp z, Int.mul_zero]) k
      omega
/-- the product of the factors, each once, keeps within a long -/
theorem eo_lo {W : Nat → Int64} (hW : okp W) (hf : isF (rl (pp W)) (fN (rl (pp W))) (fP (rl (pp W))) (fM (rl (pp W)))) {k : Nat} (hk : k < 6) : (eo (fP (rl (pp W))) (fN (rl (pp W))) k).toInt.natAbs < 2 ^ 62 := by
  obtain ⟨n, hn, hdp, hpos, hbp, -, -, -, -, hG⟩ := pp_ok hW
  have he : ∀ x, zev (rl (pp W)) x = zev (el (fP (rl (pp W))) (fN (rl (pp W)))) x * zev (fpl (fP (rl (pp W))) (fun j => fM (rl (pp W)) j - 1) (fN (rl (pp W)))) x := fun x => by
    rw [hf.2 x, fpr_once x _ (fun j hj => (hf.1.1 j hj).1), zev_el, zev_fpl]
  obtain ⟨hl, hc⟩ := deg6_zlt hdp
  have hn6 := hdp.1
  have hB : ∀ k, (zco (rl (pp W)) k).natAbs ≤ 999 := fun k => by
    by_cases c : k < 6
    · rw [rl_co _ c]; exact hbp k c
    · rw [hl k (by omega)]; decide
  have h := zfb n (by omega) _ _ _ 999 hl hc hB he k
  have h20 : 20 ^ n ≤ 20 ^ 5 := Nat.pow_le_pow_right (by decide) (by omega)
  have h3 : 2912 * 20 ^ n * 999 ≤ 2912 * 20 ^ 5 * 999 := Nat.mul_le_mul_right _ (Nat.mul_le_mul_left _ h20)
  have h4 : 2912 * 20 ^ 5 * 999 < 2 ^ 62 := by decide
  rw [eo_el _ _ _ hk]
  unfold il
  rw [Int64.toInt_ofInt_of_le (by omega) (by omega)]
  omega
