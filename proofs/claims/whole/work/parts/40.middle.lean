/-! CONTRACTS: the middle coefficient of a factor of degree 2 -/
variable {S : List mjD} {I : Nat → Nat → Int32} {L : Nat → Nat → Int64}
theorem nb {x y : Int} {A B : Nat} (hx : x.natAbs ≤ A) (hy : y.natAbs ≤ B) : (x * y).natAbs ≤ A * B := by
  rw [Int.natAbs_mul]; exact Nat.mul_le_mul hx hy
theorem zmul_1 (a : Int) (w : List Int) (k : Nat) : zco (zmul [a] w) k = a * zco w k := by
  cases k with
  | zero => rw [zmul_low, zco_z]
  | succ k => rw [zmul_s]; simp [zmul, zco]
theorem zmul_2 (b a : Int) (w : List Int) (k : Nat) : zco (zmul [b, a] w) k = b * zco w k + a * vsh w k := by
  cases k with
  | zero => rw [zmul_low, zco_z]; simp [vsh]
  | succ k => rw [zmul_s, zmul_1, vsh]
theorem w_max : ∀ w : List Int, ∃ j, ∀ i, (zco w i).natAbs ≤ (zco w j).natAbs
  | [] => ⟨0, fun i => by rw [zco_nil, zco_nil]; exact Nat.le_refl _⟩
  | a :: w => by
    obtain ⟨j, hj⟩ := w_max w
    rcases Nat.le_total a.natAbs (zco w j).natAbs with h | h
    · refine ⟨j + 1, fun i => ?_⟩
      cases i with
      | zero => rw [zco_z, zco_s]; exact h
      | succ i => rw [zco_s, zco_s]; exact hj i
    · refine ⟨0, fun i => ?_⟩
      cases i with
      | zero => exact Nat.le_refl _
      | succ i => rw [zco_z, zco_s]; exact Nat.le_trans (hj i) h
/-- the middle coefficient is small -/
theorem mid_bnd {G : List Int} {c m a : Int} {B : Nat} (hG : ∀ k, (zco G k).natAbs ≤ B) (h0 : ∃ k, zco G k ≠ 0) (h : zdv [c, m, a] (zev G)) : m.natAbs ≤ B + a.natAbs + c.natAbs := by
  obtain ⟨w, hw⟩ := h
  obtain ⟨j, hj⟩ := w_max w
  have e : ∀ k, zco G k = zco (zmul [c, m, a] w) k := zev_inj (fun x => by rw [zev_mul, hw x])
  have hj0 : 1 ≤ (zco w j).natAbs := by
    apply Classical.byContradiction
    intro hc
    obtain ⟨k, hk⟩ := h0
    refine hk ?_
    rw [e, zmul_comm]
    exact zmul_null (fun i => by have := hj i; omega) _ k
  have e1 := e (j + 1)
  rw [zmul_s, zmul_2] at e1
  have b0 := hG (j + 1)
  have b1 : (c * zco w (j + 1)).natAbs ≤ c.natAbs * (zco w j).natAbs := nb (Nat.le_refl _) (hj _)
  have b2 : (a * vsh w j).natAbs ≤ a.natAbs * (zco w j).natAbs := nb (Nat.le_refl _) (by
    cases j with
    | zero => rw [vsh]; omega
    | succ j => rw [vsh]; exact hj j)
  have b3 : (m * zco w j).natAbs = m.natAbs * (zco w j).natAbs := Int.natAbs_mul _ _
  have b4 : B * 1 ≤ B * (zco w j).natAbs := Nat.mul_le_mul_left _ hj0
  have b5 : m.natAbs * (zco w j).natAbs ≤ (B + a.natAbs + c.natAbs) * (zco w j).natAbs := by
    rw [Nat.add_mul, Nat.add_mul]; omega
  exact Nat.le_of_mul_le_mul_right b5 hj0
theorem t_div2 {y x : Int64} (h : 2 ≤ x.toInt.natAbs) : (y / x).toInt = y.toInt.tdiv x.toInt ∧ (y / x).toInt.natAbs ≤ 2 ^ 62 := by
  have h1 := y.toInt_lt
  have h2 := y.le_toInt
  have e : (y.toInt.tdiv x.toInt).natAbs ≤ 2 ^ 62 := by
    rw [Int.natAbs_tdiv]
    show y.toInt.natAbs / x.toInt.natAbs ≤ _
    have a1 : y.toInt.natAbs / x.toInt.natAbs ≤ y.toInt.natAbs / 2 := Nat.div_le_div_left h (by decide)
    omega
  have e2 : (y / x).toInt = y.toInt.tdiv x.toInt := by
    rw [Int64.toInt_div]; exact t_bm (by omega) (by omega)
  exact ⟨e2, by rw [e2]; exact e⟩
/-- the trial and the quotient -/
def fmX (p b : Nat) : Prop := b = p + 3 + 1 ∨ b = p + 5 + 1
theorem fm_try {p n : Nat} {σ : Int32} {a c sq lin root y : Int64} (hp : is_Factoring S p) (hn : deg6 (L (p + 1 + 1)) n) (h45 : n = 4 ∨ n = 5) (hok : okL (L (p + 1 + 1)) n) (hσ : ¬ (1 : Int32) < σ) (hroot : ¬ root = -1) (ha0 : a.toInt ≠ 0) (ha : a.toInt.natAbs ≤ 999) (hc : c.toInt.natAbs ≤ 999) (hsq : ¬ sq = 0) (hsq2 : ¬ (2 : Int64) * sq = 0)
    (hy : y = ((σ.toInt64 * root) - lin) / ((2 : Int64) * sq)) (hyb : -2 ^ 63 < y.toInt) (hmid : zdv [c.toInt, y.toInt, a.toInt] (zev (rl (L (p + 1 + 1)))) → y.toInt.natAbs ≤ 4895) :
    ∃ (b : Bool) (L1 : Nat → Nat → Int64), fr (fmX p) I L I L1 ∧ (b = true → rl (L1 (p + 3 + 1)) = [c.toInt, y.toInt, a.toInt, 0, 0, 0] ∧ y.toInt.natAbs ≤ 4895 ∧ zdv [c.toInt, y.toInt, a.toInt] (zev (rl (L (p + 1 + 1))))) ∧ (b = false → ¬ zdv [c.toInt, y.toInt, a.toInt] (zev (rl (L (p + 1 + 1))))) ∧
      ∀ RET : Option Value → mjH → Prop, (b = true → RET (some (.int 1)) (S, I, L1)) → (b = false → ∀ z : Int32, z = σ + 2 → hd_X0_findMiddle_175 S RET p a c sq lin root z I L1) → hd_X0_findMiddle_175 S RET p a c sq lin root σ I L := by
  obtain ⟨F, hF⟩ : ∃ F : Nat → Int64, F = fun k => if k = 0 then c else if k = 1 then y else if k = 2 then a else 0 := ⟨_, rfl⟩
  have sqd := s_setQuadratic (S := S) (I := I) (L := L) hp.2.2.1 a y c
  rw [← hF] at sqd
  have F0 : F 0 = c := by rw [hF]; rfl
  have F1 : F 1 = y := by rw [hF]; rfl
  have F2 : F 2 = a := by rw [hF]; rfl
  have F3 : ∀ k, 2 < k → F k = 0 := fun k hk => by
    rw [hF]; simp [show ¬ k = 0 by omega, show ¬ k = 1 by omega, show ¬ k = 2 by omega]
  have z : (0 : Int64).toInt = 0 := rfl
  have hrl : rl F = [c.toInt, y.toInt, a.toInt, 0, 0, 0] := by
    unfold rl
    rw [F3 3 (by decide), F3 4 (by decide), F3 5 (by decide), F0, F1, F2, z]
  have hFe : ∀ x, zev (rl F) x = zev [c.toInt, y.toInt, a.toInt] x := fun x => by rw [hrl]; simp [zev]
  have hab := s_abs (S := S) (I := I) (L := mwn L (p + 3 + 1) 6 F) y
  rw [t_abs hyb] at hab
  have hlt : (4895 : Int64) < lN y.toInt.natAbs ↔ 4895 < y.toInt.natAbs := pk_lLT (a := 4895) (by decide) (by have := y.toInt_lt; omega)
  by_cases hbig : 4895 < y.toInt.natAbs
  · refine ⟨false, mwn L (p + 3 + 1) 6 F, fr_L (Or.inl rfl), fun h => (by cases h), fun _ hz => ?_, fun RET _ hk => it_X0_findMiddle_175 hp ⟨fun h => absurd h hσ, fun _ => ⟨fun h => absurd h hroot, fun _ => ⟨fun h => absurd h hsq, fun _ => ⟨hsq2, fun w hw => by
      rw [hw, ← hy]
      exact ⟨_, _, sqd, _, _, _, hab, fun _ => hk rfl, fun h => absurd (hlt.mpr hbig) h⟩⟩⟩⟩⟩⟩
    have := hmid hz; omega
  · have hT : deg6 F 2 := ⟨by decide, fun e => by rw [F2] at e; rw [e] at ha0; exact ha0 z, fun k h1 _ => F3 k h1⟩
    have trow : ∀ k, k < 6 → F k = mwn L (p + 3 + 1) 6 F (p + 3 + 1) k := fun k hk => (mwn_at hk).symm
    have row : mwn L (p + 3 + 1) 6 F (p + 1 + 1) = L (p + 1 + 1) := mwn_ne (by omega)
    have hTb : bnd6 (mwn L (p + 3 + 1) 6 F (p + 3 + 1)) 4895 := fun k hk => by
      rw [← trow k hk]
      have : k = 0 ∨ k = 1 ∨ k = 2 ∨ 2 < k := by omega
      rcases this with rfl | rfl | rfl | h
      · rw [F0]; omega
      · rw [F1]; omega
      · rw [F2]; omega
      · rw [F3 k h, z]; decide
    obtain ⟨b, Q, q1, q2, q3⟩ := s_quot (S := S) (I := I) (L := mwn L (p + 3 + 1) 6 F) (p := p + 5) (q := p + 1) (r := p + 3) (n := n) (d := 2) (B := 999 * 5 ^ (5 - n)) (C := 4895) hp.2.2.2.1 hp.2.1 hp.2.2.1 (by omega) (by omega) (by rw [row]; exact hn) (deg6_ext hT trow) (by omega) (fun k _ hk => by rw [row]; exact hok k hk) hTb (by decide) (by rcases h45 with rfl | rfl <;> decide)
    have hrl2 : rl (mwn L (p + 3 + 1) 6 F (p + 3 + 1)) = rl F := rl_mwn
    rw [hrl2, row] at q2 q3
    refine ⟨b, mwn (mwn L (p + 3 + 1) 6 F) (p + 5 + 1) 6 Q, fr_tr (fr_L (X := fmX p) (Or.inl rfl)) (fr_L (X := fmX p) (Or.inr rfl)) (fun b hb => hb.elim id id), fun hb => ⟨?_, by omega, ?_⟩, fun hb hz => q3 hb ?_, fun RET hr hk => it_X0_findMiddle_175 hp ⟨fun h => absurd h hσ, fun _ => ⟨fun h => absurd h hroot, fun _ => ⟨fun h => absurd h hsq, fun _ => ⟨hsq2, fun w hw => by
      rw [hw, ← hy]
      exact ⟨_, _, sqd, _, _, _, hab, fun h => absurd (hlt.mp h) hbig, fun _ => ⟨_, _, _, q1, fun h => (by
        cases b with
        | false => exact hk rfl
        | true => exact absurd h (by decide)), fun h => (by
        cases b with
        | false => exact absurd rfl h
        | true => exact hr rfl)⟩⟩⟩⟩⟩⟩⟩
    · rw [mwn_ne (by omega), hrl2]; exact hrl
    · exact ⟨rl Q, fun x => by rw [(q2 hb).1 x, hFe x, Int.mul_comm]⟩
    · obtain ⟨w, hw⟩ := hz
      exact ⟨w, fun x => by rw [hw x, hFe x]⟩
theorem sgT (t : Int) (ht : t.natAbs < 2 ^ 31) : ∃ σ : Int32, (σ = -1 ∨ σ = 1) ∧ σ.toInt64 * lN t.natAbs = Int64.ofInt t := by
  rcases Int.natAbs_eq t with h | h
  · refine ⟨1, Or.inr rfl, ?_⟩
    have : (1 : Int32).toInt64 * lN t.natAbs = lN t.natAbs := by
      show (1 : Int64) * lN t.natAbs = lN t.natAbs
      rw [Int64.one_mul]
    rw [this]
    apply Int64.toInt_inj.mp
    rw [t_lN (by omega), Int64.toInt_ofInt_of_le (by omega) (by omega)]; omega
  · refine ⟨-1, Or.inl rfl, ?_⟩
    have : (-1 : Int32).toInt64 * lN t.natAbs = -lN t.natAbs := by
      show (-1 : Int64) * lN t.natAbs = -lN t.natAbs
      rw [Int64.neg_mul, Int64.one_mul]
    rw [this]
    apply Int64.toInt_inj.mp
    rw [t_neg (by rw [t_lN (by omega)]; omega), t_lN (by omega), Int64.toInt_ofInt_of_le (by omega) (by omega)]; omega
theorem fm_core {p n : Nat} {a c sq lin root disc : Int64} (hp : is_Factoring S p) (hn : deg6 (L (p + 1 + 1)) n) (h45 : n = 4 ∨ n = 5) (hok : okL (L (p + 1 + 1)) n) (ha0 : a.toInt ≠ 0) (ha : a.toInt.natAbs ≤ 999) (hc : c.toInt.natAbs ≤ 999) (hmid : ∀ m, zdv [c.toInt, m, a.toInt] (zev (rl (L (p + 1 + 1)))) → m.natAbs ≤ 4895)
    (hroot : ∀ m : Nat, m < 2 ^ 31 → disc.toInt = (m : Int) * m → root = lN m) (hs0 : sq.toInt ≠ 0) (hsb : sq.toInt.natAbs < 2 ^ 40) (hlb : lin.toInt.natAbs < 2 ^ 40)
    (hex : ∀ m, zdv [c.toInt, m, a.toInt] (zev (rl (L (p + 1 + 1)))) → ∃ t : Int, t.natAbs < 2 ^ 31 ∧ disc.toInt = t * t ∧ t - lin.toInt = 2 * sq.toInt * m) :
    ∃ (b : Bool) (L1 : Nat → Nat → Int64), fr (fmX p) I L I L1 ∧ (b = true → ∃ m, rl (L1 (p + 3 + 1)) = [c.toInt, m, a.toInt, 0, 0, 0] ∧ m.natAbs ≤ 4895 ∧ zdv [c.toInt, m, a.toInt] (zev (rl (L (p + 1 + 1))))) ∧ (b = false → ∀ m, ¬ zdv [c.toInt, m, a.toInt] (zev (rl (L (p + 1 + 1))))) ∧
      ∀ RET : Option Value → mjH → Prop, (b = true → RET (some (.int 1)) (S, I, L1)) → (b = false → RET (some (.int 0)) (S, I, L1)) → hd_X0_findMiddle_175 S RET p a c sq lin root (-1) I L := by
  have e2 : ((2 : Int64) * sq).toInt = 2 * sq.toInt := t_mul (a := 2) (by
    have : (2 : Int64).toInt.natAbs = 2 := rfl
    rw [this]; omega)
  have hden : 2 ≤ ((2 : Int64) * sq).toInt.natAbs := by rw [e2]; omega
  have hsq : ¬ sq = 0 := fun e => hs0 (by rw [e]; rfl)
  have hsq2 : ¬ (2 : Int64) * sq = 0 := fun e => by
    rw [e] at hden
    exact absurd hden (by decide)
  have hrt : ∀ m, zdv [c.toInt, m, a.toInt] (zev (rl (L (p + 1 + 1)))) → ∃ σ : Int32, (σ = -1 ∨ σ = 1) ∧ root ≠ -1 ∧ (((σ.toInt64 * root) - lin) / ((2 : Int64) * sq)).toInt = m := fun m hm => by
    obtain ⟨t, t1, t2, t3⟩ := hex m hm
    have hr := hroot t.natAbs t1 (by rw [t2]; exact Int.natAbs_mul_self.symm)
    obtain ⟨σ, s1, s2⟩ := sgT t t1
    refine ⟨σ, s1, fun e => ?_, ?_⟩
    · rw [hr] at e
      have := congrArg Int64.toInt e
      rw [t_lN (by omega)] at this
      have e1 : (-1 : Int64).toInt = -1 := rfl
      omega
    · rw [(t_div2 hden).1, hr, s2, e2]
      have e3 : (Int64.ofInt t - lin).toInt = 2 * sq.toInt * m := by
        rw [t_sub (by rw [Int64.toInt_ofInt_of_le (by omega) (by omega)]; omega) (by rw [Int64.toInt_ofInt_of_le (by omega) (by omega)]; omega), Int64.toInt_ofInt_of_le (by omega) (by omega)]
        exact t3
      rw [e3]
      exact Int.mul_tdiv_cancel_left _ (by omega)
  by_cases hr1 : root = -1
  · refine ⟨false, L, fr_rf, fun h => (by cases h), fun _ m hm => ?_, fun RET _ h0 => it_X0_findMiddle_175 hp ⟨fun h => absurd h (by decide), fun _ => ⟨fun _ => h0 rfl, fun h => absurd hr1 h⟩⟩⟩
    obtain ⟨σ, -, h, -⟩ := hrt m hm
    exact h hr1
  · have yb : ∀ σ : Int32, -2 ^ 63 < (((σ.toInt64 * root) - lin) / ((2 : Int64) * sq)).toInt := fun σ => by
      have := (t_div2 (y := (σ.toInt64 * root) - lin) hden).2
      omega
    obtain ⟨b, L1, a1, a2, a3, a4⟩ := fm_try (S := S) (I := I) (L := L) (σ := -1) (lin := lin) (a := a) (c := c) hp hn h45 hok (by decide) hr1 ha0 ha hc hsq hsq2 rfl (yb (-1)) (hmid _)
    cases b with
    | true => exact ⟨true, L1, a1, fun _ => ⟨_, a2 rfl⟩, fun h => (by cases h), fun RET h1 _ => a4 RET (fun _ => h1 rfl) (fun h => by cases h)⟩
    | false =>
      have hrow : L1 (p + 1 + 1) = L (p + 1 + 1) := (a1 _ (fun h => by unfold fmX at h; omega)).2
      obtain ⟨b, L2, b1, b2, b3, b4⟩ := fm_try (S := S) (I := I) (L := L1) (σ := 1) (lin := lin) (a := a) (c := c) hp (by rw [hrow]; exact hn) h45 (by rw [hrow]; exact hok) (by decide) hr1 ha0 ha hc hsq hsq2 rfl (yb 1) (by rw [hrow]; exact hmid _)
      rw [hrow] at b2 b3
      refine ⟨b, L2, fr_tr a1 b1 (fun b hb => hb.elim id id), fun hb => ⟨_, b2 hb⟩, fun hb m hm => ?_, fun RET h1 h0 => a4 RET (fun h => by cases h) (fun _ z hz => ?_)⟩
      · obtain ⟨σ, s1, -, s3⟩ := hrt m hm
        rcases s1 with rfl | rfl
        · rw [← s3] at hm; exact a3 rfl hm
        · rw [← s3] at hm; exact b3 hb hm
      · rw [hz]
        refine b4 RET h1 (fun hb z hz => ?_)
        rw [hz]
        exact it_X0_findMiddle_175 hp ⟨fun _ => h0 hb, fun h => absurd (by decide) h⟩
theorem q_co {R : Nat → Int64} {e m v : Int} {w : List Int} {n : Nat} (hn : deg6 R n) (h2 : 2 ≤ n) (hv : v ≠ 0) (h : ∀ x, zev (rl R) x = zev [e, m, v] x * zev w x) : (∀ k, k < 6 → (R k).toInt = e * zco w k + (m * vsh w k + v * (match k with | 0 => 0 | 1 => 0 | j + 2 => zco w j))) ∧ ∀ k, n - 2 < k → zco w k = 0 := by
  refine ⟨fun k hk => ?_, fun k hk => ?_⟩
  · have h1 : zco (rl R) k = zco (zmul [e, m, v] w) k := zev_inj (fun x => by rw [zev_mul, h x]) k
    rw [rl_co R hk] at h1
    rw [h1]
    match k with
    | 0 => rw [zmul_low, zco_z]; simp [vsh]
    | 1 => rw [zmul_s, zmul_2]; simp [vsh]
    | k + 2 => rw [zmul_s, zmul_2]; simp [vsh]
  · obtain ⟨hl, hc⟩ := deg6_zlt hn
    obtain ⟨a, b, hab, ha, hb, ha0, hb0, -⟩ := zdeg_mul h hl hc
    have : a = 2 := by
      rcases Nat.lt_trichotomy a 2 with q | q | q
      · exact absurd (ha 2 q) (by simpa [zco] using hv)
      · exact q
      · exact absurd (by
          match a, q with
          | a + 3, _ => simp [zco]) ha0
    exact hb k (by omega)
