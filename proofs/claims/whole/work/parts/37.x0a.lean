/-! CONTRACTS: square roots, roots, divisors -/
variable {S : List mjD} {I : Nat → Nat → Int32} {L : Nat → Nat → Int64}
def sqB : Nat → Int64
  | 0 => 0
  | k + 1 => lN (2 ^ k)
theorem sqB_pos : ∀ k, k < 31 → ¬ sqB (k + 1) ≤ 0 := by decide +kernel
theorem sqB_shr : ∀ k, k < 31 → sqB (k + 1) >>> ((1 : Int32).toInt64 &&& 63) = sqB k := by decide +kernel
theorem sq_and (n : Nat) : lN n &&& 63 = lN (n % 64) := by
  apply Int64.toBitVec_inj.mp
  apply BitVec.eq_of_toNat_eq
  show (BitVec.ofNat 64 n &&& BitVec.ofNat 64 63).toNat = (BitVec.ofNat 64 (n % 64)).toNat
  rw [BitVec.toNat_and, BitVec.toNat_ofNat, BitVec.toNat_ofNat, BitVec.toNat_ofNat]
  have : 63 % 2 ^ 64 = 2 ^ 6 - 1 := by decide
  rw [this, Nat.and_two_pow_sub_one_eq_mod]; omega
theorem sq64 : ∀ j, j < 64 → ¬ ((((144680414395695635 : Int64).toUInt64 >>> ((lN (j * j % 64)).toInt32.toInt64.toUInt64 &&& Int64.toUInt64 63)).toInt64 &&& (1 : Int64)) = (0 : Int64)) := by decide +kernel
theorem sq_of {a : Int64} {m : Nat} (h : a.toInt = (m : Int) * m) (hm : m < 2 ^ 31) : a = lN (m * m) := by
  have : m * m < 2 ^ 31 * 2 ^ 31 := Nat.mul_lt_mul'' hm hm
  apply Int64.toInt_inj.mp
  rw [h, t_lN (by omega)]; rfl
theorem s_sqrt0 (a : Int64) : ∀ k, k ≤ 31 → ∀ root : Int64, ∃ r, hd_X0_squareRoot_34 S (fun v h => v = some (.long r) ∧ h = (S, I, L)) a root (sqB k) I L ∧ ∀ m R : Nat, m < 2 ^ 31 → a.toInt = (m : Int) * m → root = lN R → R ≤ m → m < R + 2 ^ k → R + 2 ^ k ≤ 2 ^ 31 → r = lN m := by
  intro k
  induction k with
  | zero =>
    intro _ root
    refine ⟨if root * root = a then root else -1, it_X0_squareRoot_34 ⟨fun _ => ⟨fun h => ⟨by rw [if_neg h], rfl⟩, fun h => ⟨by rw [if_pos h], rfl⟩⟩, fun h => absurd (by decide) h⟩, fun m R hm ha hR h1 h2 _ => ?_⟩
    obtain rfl : R = m := by rw [Nat.pow_zero] at h2; omega
    rw [if_pos (by rw [hR, lN_mul]; exact (sq_of ha hm).symm), hR]
  | succ k ih =>
    intro hk root
    have hs := sqB_shr k (by omega)
    by_cases c : a < (root + sqB (k + 1)) * (root + sqB (k + 1))
    · obtain ⟨r, h1, h2⟩ := ih (by omega) root
      refine ⟨r, it_X0_squareRoot_34 ⟨fun h => absurd h (sqB_pos k (by omega)), fun _ y hy => ⟨fun _ z hz => by rw [hz, hs]; exact h1, fun h => absurd (by rw [hy]; exact c) h⟩⟩, fun m R hm ha hR a1 a2 a3 => h2 m R hm ha hR a1 ?_ (by rw [Nat.pow_succ] at a3; omega)⟩
      have h3 : R + 2 ^ k ≤ 2 ^ 31 := by rw [Nat.pow_succ] at a3; omega
      have h4 : (R + 2 ^ k) * (R + 2 ^ k) ≤ 2 ^ 31 * 2 ^ 31 := Nat.mul_le_mul h3 h3
      have h5 : m * m ≤ 2 ^ 31 * 2 ^ 31 := Nat.mul_le_mul (by omega) (by omega)
      rw [sq_of ha hm, hR, sqB, lN_add, lN_mul, pk_lLT (by omega) (by omega)] at c
      exact Nat.mul_self_lt_mul_self_iff.mp c
    · obtain ⟨r, h1, h2⟩ := ih (by omega) (root + sqB (k + 1))
      refine ⟨r, it_X0_squareRoot_34 ⟨fun h => absurd h (sqB_pos k (by omega)), fun _ y hy => ⟨fun h => absurd (by rw [hy] at h; exact h) c, fun _ z hz => by rw [hz, hs, hy]; exact h1⟩⟩, fun m R hm ha hR a1 a2 a3 => h2 m (R + 2 ^ k) hm ha (by rw [hR, sqB, lN_add]) ?_ (by rw [Nat.pow_succ] at a2; omega) (by rw [Nat.pow_succ] at a3; omega)⟩
      have h3 : R + 2 ^ k ≤ 2 ^ 31 := by rw [Nat.pow_succ] at a3; omega
      have h4 : (R + 2 ^ k) * (R + 2 ^ k) ≤ 2 ^ 31 * 2 ^ 31 := Nat.mul_le_mul h3 h3
      have h5 : m * m ≤ 2 ^ 31 * 2 ^ 31 := Nat.mul_le_mul (by omega) (by omega)
      rw [sq_of ha hm, hR, sqB, lN_add, lN_mul, pk_lLT (by omega) (by omega)] at c
      exact Nat.mul_self_le_mul_self_iff.mp (by omega)
theorem s_sqrt (a : Int64) : ∃ r, CTl mr_X0_squareRoot [.long a] S I L r I L ∧ ∀ m : Nat, m < 2 ^ 31 → a.toInt = (m : Int) * m → r = lN m := by
  obtain ⟨r, h1, h2⟩ := s_sqrt0 (S := S) (I := I) (L := L) a 31 (Nat.le_refl _) 0
  by_cases hn : a < 0
  · refine ⟨-1, wp_X0_squareRoot ⟨fun _ => ⟨rfl, rfl⟩, fun h => absurd hn h⟩, fun m hm ha => ?_⟩
    have h3 : (0 : Int) ≤ (m : Int) * m := Int.mul_nonneg (by omega) (by omega)
    rw [Int64.lt_iff_toInt_lt] at hn
    have z : (0 : Int64).toInt = 0 := rfl
    omega
  · by_cases hb : (((144680414395695635 : Int64).toUInt64 >>> ((a &&& (63 : Int64)).toInt32.toInt64.toUInt64 &&& Int64.toUInt64 63)).toInt64 &&& (1 : Int64)) = (0 : Int64)
    · refine ⟨-1, wp_X0_squareRoot ⟨fun h => absurd h hn, fun _ => ⟨fun h => absurd hb h, fun _ => ⟨rfl, rfl⟩⟩⟩, fun m hm ha => ?_⟩
      rw [sq_of ha hm, sq_and, Nat.mul_mod] at hb
      exact absurd hb (sq64 (m % 64) (by omega))
    · refine ⟨r, wp_X0_squareRoot ⟨fun h => absurd h hn, fun _ => ⟨fun _ => h1, fun h => absurd h hb⟩⟩, fun m hm ha => h2 m 0 hm ha rfl (Nat.zero_le _) (by omega) (by omega)⟩
/-- the coefficients, one place up -/
def vsh (w : List Int) : Nat → Int
  | 0 => 0
  | j + 1 => zco w j
/-- the sum of isRoot -/
def rtF (f : Nat → Int64) (l e : Int64) : Nat → Int64 → Int64 → Int64
  | 0, s, _ => s
  | i + 1, s, c => rtF f l e i ((f i * c) - (s * e)) (c * l)
theorem rtF_0 {f V : Nat → Int64} {l e : Int64} : ∀ i c, (∀ k, k < i → f k = e * V (k + 1) + l * V k) → V 0 = 0 → rtF f l e i (c * V i) c = 0
  | 0, c, _, h0 => by rw [rtF, h0]; simp
  | i + 1, c, h, h0 => by
    rw [rtF]
    have e1 : (f i * c) - (c * V (i + 1) * e) = (c * l) * V i := by rw [h i (by omega)]; grind
    rw [e1]
    exact rtF_0 i (c * l) (fun k hk => h k (by omega)) h0
theorem s_isRoot {p n : Nat} (hp : is_Factoring S p) (hn : deg6 (L (p + 1 + 1)) n) (l e : Int64) (hl0 : l.toInt ≠ 0) : ∃ b : Bool, CTi mr_X0_isRoot [.ref p, .long l, .long e] S I L (if b then 1 else 0) I L ∧ ((∃ w : List Int, ∀ x, zev (rl (L (p + 1 + 1))) x = zev [e.toInt, l.toInt] x * zev w x) → b = true) := by
  have hn6 := hn.1
  have key : ∀ i, i ≤ 6 → ∀ s c R : Int64, rtF (L (p + 1 + 1)) l e i s c = R → hd_X0_isRoot_15 S (fun v h => v = some (.int (if decide (R = 0) then 1 else 0)) ∧ h = (S, I, L)) p l e s c (nI i + (-1)) I L := by
    intro i
    induction i with
    | zero =>
      intro _ s c R hR
      rw [rtF] at hR
      refine it_X0_isRoot_15 hp (ng_t (by decide) ⟨fun h => ⟨by rw [← hR]; simp [h], rfl⟩, fun h => ⟨by rw [← hR]; simp [h], rfl⟩⟩)
    | succ i ih =>
      intro hi s c R hR
      rw [pk_m1]
      refine it_X0_isRoot_15 hp (ng_f (by omega) ⟨_, _, _, s_at hp.2.1 _, fun y hy z hz u hu => ?_⟩)
      rw [hy, hz, hu, pat_n (by omega)]
      exact ih (by omega) _ _ R hR
  refine ⟨decide (rtF (L (p + 1 + 1)) l e (n + 1) 0 1 = 0), wp_X0_isRoot hp ⟨_, _, _, s_degree hp.2.1, ?_⟩, ?_⟩
  · rw [deg6_dg hn]
    have := key (n + 1) (by omega) 0 1 _ rfl
    rwa [pk_m1] at this
  · rintro ⟨w, hw⟩
    refine decide_eq_true ?_
    have hV : ∀ k, k < 6 → L (p + 1 + 1) k = e * Int64.ofInt (vsh w (k + 1)) + l * Int64.ofInt (vsh w k) := fun k hk => by
      have h1 : zco (rl (L (p + 1 + 1))) k = zco (zmul [e.toInt, l.toInt] w) k := zev_inj (fun x => by rw [hw x, zev_mul]) k
      rw [rl_co _ hk] at h1
      have h2 : zco (zmul [e.toInt, l.toInt] w) k = e.toInt * zco w k + l.toInt * vsh w k := by
        cases k with
        | zero => rw [zmul_low, zco_z]; simp [vsh]
        | succ k =>
          rw [zmul_s, vsh]
          have : zco (zmul [l.toInt] w) k = l.toInt * zco w k := by
            cases k with
            | zero => rw [zmul_low, zco_z]
            | succ k => rw [zmul_s]; simp [zmul, zco]
          rw [this]
      rw [h2] at h1
      have h3 : L (p + 1 + 1) k = Int64.ofInt (e.toInt * zco w k + l.toInt * vsh w k) := by rw [← h1]; exact (Int64.ofInt_toInt _).symm
      rw [h3, Int64.ofInt_add, Int64.ofInt_mul, Int64.ofInt_mul, Int64.ofInt_toInt, Int64.ofInt_toInt]
      rfl
    have hwn : zco w n = 0 := by
      obtain ⟨hl, hc⟩ := deg6_zlt hn
      obtain ⟨a, b, hab, ha, hb, ha0, hb0, -⟩ := zdeg_mul hw hl hc
      have : a = 1 := by
        rcases Nat.lt_trichotomy a 1 with q | q | q
        · exact absurd (ha 1 q) hl0
        · exact q
        · exact absurd (by
            match a, q with
            | a + 2, _ => simp [zco]) ha0
      exact hb n (by omega)
    have := rtF_0 (V := fun j => Int64.ofInt (vsh w j)) (n + 1) 1 (fun k hk => hV k (by omega)) rfl
    have e0 : (1 : Int64) * Int64.ofInt (vsh w (n + 1)) = 0 := by
      show (1 : Int64) * Int64.ofInt (zco w n) = 0
      rw [hwn]; rfl
    rwa [e0] at this
/-- how many small divisors -/
def dct (N : Nat) : Nat → Nat
  | 0 => 0
  | k + 1 => dct N k + (if 1 ≤ k ∧ N % k = 0 ∧ k * k ≤ N then 1 else 0)
theorem dct_16 : ∀ N, N < 1000 → dct N 32 ≤ 16 := by decide +kernel
theorem dct_mono (N : Nat) {a : Nat} : ∀ j, dct N a ≤ dct N (a + j)
  | 0 => Nat.le_refl _
  | j + 1 => Nat.le_trans (dct_mono N j) (Nat.le_add_right _ _)
/-- a row of all divisors of N -/
def isDv (row : Nat → Int32) (c N : Nat) : Prop := c ≤ 32 ∧ (∀ j, j < c → ∃ v, row j = nI v ∧ 1 ≤ v ∧ v ≤ 999 ∧ v ∣ N) ∧ ∀ v, 1 ≤ v → v ∣ N → ∃ j, j < c ∧ row j = nI v
theorem s_divs0 {q N : Nat} (hq : S[q]? = some (10, 32, [])) (h1 : 1 ≤ N) (h9 : N ≤ 999) : ∀ d, d ≤ 32 → 1 ≤ d → ∀ c I', c ≤ 2 * dct N d → (∀ b, b ≠ q → I' b = I b) → (∀ j, j < c → ∃ v, I' q j = nI v ∧ 1 ≤ v ∧ v ≤ 999 ∧ v ∣ N) → (∀ v, 1 ≤ v → v ∣ N → v < d ∨ N / v < d → ∃ j, j < c ∧ I' q j = nI v) →
    ∃ c' I1, hd_X0_divisors_11 S (fun v h => v = some (.int (nI c')) ∧ h = (S, I1, L)) q (lN N) (nI c) (nI d) I' L ∧ (∀ b, b ≠ q → I1 b = I b) ∧ isDv (I1 q) c' N := by
  have fin : ∀ (d c : Nat) (I' : Nat → Nat → Int32), N < d * d → c ≤ 32 → (∀ b, b ≠ q → I' b = I b) → (∀ j, j < c → ∃ v, I' q j = nI v ∧ 1 ≤ v ∧ v ≤ 999 ∧ v ∣ N) → (∀ v, 1 ≤ v → v ∣ N → v < d ∨ N / v < d → ∃ j, j < c ∧ I' q j = nI v) → (∀ b, b ≠ q → I' b = I b) ∧ isDv (I' q) c N := fun d c I' hd hc hf hv ha => ⟨hf, hc, hv, fun v h1v hdv => ha v h1v hdv (by
    apply Classical.byContradiction
    intro hcon
    have e := Nat.mul_div_cancel' hdv
    have : d * d ≤ v * (N / v) := Nat.mul_le_mul (by omega) (by omega)
    omega)⟩
  have ms : ∀ d, dct N (d + 1) = dct N d + (if 1 ≤ d ∧ N % d = 0 ∧ d * d ≤ N then 1 else 0) := fun d => rfl
  have cap : ∀ d, d ≤ 32 → dct N d ≤ 16 := fun d hd => by
    have := dct_mono N (a := d) (32 - d)
    rw [show d + (32 - d) = 32 by omega] at this
    exact Nat.le_trans this (dct_16 N (by omega))
  have key := up_loop (P := fun d => 1 ≤ d → ∀ c I', c ≤ 2 * dct N d → (∀ b, b ≠ q → I' b = I b) → (∀ j, j < c → ∃ v, I' q j = nI v ∧ 1 ≤ v ∧ v ≤ 999 ∧ v ∣ N) → (∀ v, 1 ≤ v → v ∣ N → v < d ∨ N / v < d → ∃ j, j < c ∧ I' q j = nI v) →
    ∃ c' I1, hd_X0_divisors_11 S (fun v h => v = some (.int (nI c')) ∧ h = (S, I1, L)) q (lN N) (nI c) (nI d) I' L ∧ (∀ b, b ≠ q → I1 b = I b) ∧ isDv (I1 q) c' N) 32
    (fun _ c I' hc hf hv ha => by
      have hcap := cap 32 (Nat.le_refl _)
      refine ⟨c, I', it_X0_divisors_11 hq ⟨fun h => absurd h (by decide), fun _ => ⟨fun _ => ⟨rfl, rfl⟩, fun h => absurd ?_ h⟩⟩, fin 32 c I' (by omega) (by omega) hf hv ha⟩
      rw [pk_mul, nI_l (by decide)]
      exact (pk_lLT (by omega) (by decide)).mpr (by omega))
    (fun d hd ih h1d c I' hc hf hv ha => by
      have hcap := cap d (by omega)
      have hdd : d * d ≤ 31 * 31 := Nat.mul_le_mul (by omega) (by omega)
      have h999 : ¬ (999 : Int32) < nI d := fun h => absurd ((nI_ltI (a := 999) (by decide) (by omega)).mp h) (by omega)
      have esq : (nI d * nI d).toInt64 = lN (d * d) := by rw [pk_mul, nI_l (by omega)]
      have ed : (nI d).toInt64 = lN d := nI_l (by omega)
      have hd0 : ¬ (nI d).toInt64 = 0 := by rw [ed]; exact fun h => absurd ((pk_lEQ (a := d) (b := 0) (by omega) (by decide)).mp h) (by omega)
      by_cases hlt : N < d * d
      · refine ⟨c, I', it_X0_divisors_11 hq ⟨fun h => absurd h h999, fun _ => ⟨fun _ => ⟨rfl, rfl⟩, fun h => absurd ?_ h⟩⟩, fin d c I' hlt (by omega) hf hv ha⟩
        rw [esq]; exact (pk_lLT (by omega) (by omega)).mpr hlt
      · have hnl : ¬ lN N < (nI d * nI d).toInt64 := by rw [esq]; exact fun h => hlt ((pk_lLT (by omega) (by omega)).mp h)
        have erem : lN N - lN N / (nI d).toInt64 * (nI d).toInt64 = lN (N % d) := by rw [ed]; exact pk_lRem (by omega) (by omega) (by omega)
        by_cases hm : N % d = 0
        · have hdN : d ∣ N := Nat.dvd_of_mod_eq_zero hm
          have hs := ms d
          rw [if_pos ⟨h1d, hm, by omega⟩] at hs
          have hcap2 := cap (d + 1) (by omega)
          have hc1 : ¬ (32 : Int32) ≤ nI c + 1 := by
            rw [nI_1]; exact fun h => absurd ((nI_leI (a := 32) (by decide) (by omega)).mp h) (by omega)
          have hvc : vp_in (nI c) 32 := vp_in_nI (by omega) (by decide)
          have hq1 := Nat.div_mul_cancel hdN
          have hdn : d ≤ N := Nat.le_of_dvd (by omega) hdN
          have hqd : 1 ≤ N / d := Nat.div_pos hdn (by omega)
          have hql : N / d ≤ N := Nat.div_le_self _ _
          have dq : N / d ∣ N := Nat.div_dvd_of_dvd hdN
          by_cases hsq : d * d = N
          · obtain ⟨c', I1, k1, k2⟩ := ih (by omega) (c + 1) (mj_up I' q c (nI d)) (by omega) (fun b hb => by rw [up_ne hb]; exact hf b hb) (fun j hj => by
                by_cases e : j = c
                · subst e; rw [up_eq]; exact ⟨d, rfl, h1d, by omega, hdN⟩
                · rw [up_nk e]; exact hv j (by omega)) (fun v h1v hdv hcs => by
                by_cases e : v = d
                · subst e; exact ⟨c, by omega, up_eq⟩
                · have hc2 : v < d ∨ N / v < d := by
                    have e2 : N / v ≠ d := fun e2 => by
                      have := Nat.mul_div_cancel' hdv
                      rw [e2, ← hsq] at this
                      exact e (Nat.eq_of_mul_eq_mul_right (by omega) this)
                    omega
                  obtain ⟨j, hj, hj2⟩ := ha v h1v hdv hc2
                  exact ⟨j, by omega, by rw [up_nk (by omega)]; exact hj2⟩)
            refine ⟨c', I1, it_X0_divisors_11 hq ⟨fun h => absurd h h999, fun _ => ⟨fun h => absurd h hnl, fun _ => ⟨hd0, fun h => absurd (by rw [erem, hm]; rfl) h, fun _ => ⟨fun h => absurd h hc1, fun _ => ⟨hvc, fun y hy => ⟨fun _ z hz => ?_, fun h => absurd (by rw [esq, hsq]) h⟩⟩⟩⟩⟩⟩, k2⟩
            rw [hy, hz, nI_1, nI_1, nI_clamp (by omega)]
            exact k1
          · have hvc2 : vp_in (nI (c + 1)) 32 := vp_in_nI (by omega) (by decide)
            obtain ⟨c', I1, k1, k2⟩ := ih (by omega) (c + 1 + 1) (mj_up (mj_up I' q c (nI d)) q (c + 1) (nI (N / d))) (by omega) (fun b hb => by rw [up_ne hb, up_ne hb]; exact hf b hb) (fun j hj => by
                by_cases e : j = c + 1
                · subst e; rw [up_eq]; exact ⟨N / d, rfl, hqd, by omega, dq⟩
                · rw [up_nk e]
                  by_cases e : j = c
                  · subst e; rw [up_eq]; exact ⟨d, rfl, h1d, by omega, hdN⟩
                  · rw [up_nk e]; exact hv j (by omega)) (fun v h1v hdv hcs => by
                by_cases e : v = d
                · subst e; exact ⟨c, by omega, by rw [up_nk (by omega), up_eq]⟩
                · by_cases e2 : N / v = d
                  · refine ⟨c + 1, by omega, ?_⟩
                    rw [up_eq, ← e2, Nat.div_div_self hdv (by omega)]
                  · obtain ⟨j, hj, hj2⟩ := ha v h1v hdv (by omega)
                    exact ⟨j, by omega, by rw [up_nk (by omega), up_nk (by omega)]; exact hj2⟩)
            refine ⟨c', I1, it_X0_divisors_11 hq ⟨fun h => absurd h h999, fun _ => ⟨fun h => absurd h hnl, fun _ => ⟨hd0, fun h => absurd (by rw [erem, hm]; rfl) h, fun _ => ⟨fun h => absurd h hc1, fun _ => ⟨hvc, fun y hy => ⟨fun h => absurd (by rw [esq] at h; exact (pk_lEQ (by omega) (by omega)).mp h) hsq, fun _ => ⟨hd0, by rw [hy, nI_1]; exact hvc2, fun z hz u hu => ?_⟩⟩⟩⟩⟩⟩⟩, k2⟩
            rw [hz, hu, hy, nI_1, nI_1, nI_1, nI_clamp (by omega), nI_clamp (by omega), ed, pk_lDiv (by omega) (by omega) (by omega), lN_i]
            exact k1
        · have hs := ms d
          rw [if_neg (fun h => hm h.2.1)] at hs
          obtain ⟨c', I1, k1, k2⟩ := ih (by omega) c I' (by omega) hf hv (fun v h1v hdv hcs => by
            have e : v ≠ d := fun e => hm (by rw [← e]; exact Nat.mod_eq_zero_of_dvd hdv)
            have e2 : N / v ≠ d := fun e => hm (by rw [← e]; exact Nat.mod_eq_zero_of_dvd (Nat.div_dvd_of_dvd hdv))
            exact ha v h1v hdv (by omega))
          refine ⟨c', I1, it_X0_divisors_11 hq ⟨fun h => absurd h h999, fun _ => ⟨fun h => absurd h hnl, fun _ => ⟨hd0, fun _ y hy => ?_, fun h => absurd (by rw [erem] at h; exact (pk_lEQ (by have := Nat.mod_lt N (show d > 0 by omega); omega) (by decide)).mp h) hm⟩⟩⟩, k2⟩
          rw [hy, nI_1]; exact k1)
  exact key
theorem s_divisors {q : Nat} {a : Int64} (hq : S[q]? = some (10, 32, [])) (h1 : a.toInt ≠ 0) (h9 : a.toInt.natAbs ≤ 999) : ∃ c I1, CTi mr_X0_divisors [.long a, .ref q] S I L (nI c) I1 L ∧ (∀ b, b ≠ q → I1 b = I b) ∧ isDv (I1 q) c a.toInt.natAbs := by
  obtain ⟨c, I1, k1, k2⟩ := s_divs0 (S := S) (I := I) (L := L) (N := a.toInt.natAbs) hq (by omega) h9 1 (by decide) (Nat.le_refl _) 0 I (Nat.zero_le _) (fun _ _ => rfl) (fun j hj => by omega) (fun v h1v hdv hcs => by
    have e := Nat.mul_div_cancel' hdv
    rcases hcs with h | h
    · omega
    · have : a.toInt.natAbs / v = 0 := Nat.lt_one_iff.mp h
      rw [this] at e; omega)
  refine ⟨c, I1, wp_X0_divisors hq ⟨_, _, _, s_abs a, ?_⟩, k2⟩
  rw [t_abs (by omega)]
  exact k1
theorem s_listDivisors {p n : Nat} (hp : is_Factoring S p) (hn : deg6 (L (p + 1 + 1)) n) (h9 : (L (p + 1 + 1) n).toInt.natAbs ≤ 999) (h0 : L (p + 1 + 1) 0 ≠ 0) (h09 : (L (p + 1 + 1) 0).toInt.natAbs ≤ 999) :
    ∃ c c2 I1, CTv mr_X0_listDivisors [.ref p] S I L I1 L ∧ (∀ b, b ≠ p → b ≠ p + 7 → b ≠ p + 8 → I1 b = I b) ∧ I1 p 5 = nI c ∧ I1 p 6 = nI c2 ∧ isDv (I1 (p + 7)) c (L (p + 1 + 1) n).toInt.natAbs ∧ isDv (I1 (p + 8)) c2 (L (p + 1 + 1) 0).toInt.natAbs := by
  obtain ⟨c, I1, a1, a2, a3⟩ := s_divisors (S := S) (I := I) (L := L) (q := p + 7) hp.2.2.2.2.1 (t_ne0 hn.2.1) h9
  obtain ⟨c2, I2, b1, b2, b3⟩ := s_divisors (S := S) (I := mj_up I1 p 5 (nI c)) (L := L) (q := p + 8) hp.2.2.2.2.2 (t_ne0 h0) h09
  have e1 := s_degree (S := S) (I := I) (L := L) hp.2.1
  have e2 := s_at (S := S) (I := I) (L := L) hp.2.1 (nI n)
  rw [deg6_dg hn] at e1
  rw [pat_n hn.1] at e2
  refine ⟨c, c2, mj_up I2 p 6 (nI c2), wp_X0_listDivisors hp ⟨_, _, _, e1, _, _, _, e2, _, _, _, a1, _, _, _, s_at hp.2.1 _, _, _, _, b1, rfl, rfl⟩, fun b h1 h2 h3 => ?_, ?_, ?_, ?_, ?_⟩
  · rw [up_ne h1, b2 b h3, up_ne h1, a2 b h2]
  · rw [up_nk (by decide), b2 p (by omega), up_eq]
  · rw [up_eq]
  · rw [up_ne (by omega), b2 (p + 7) (by omega), up_ne (by omega)]; exact a3
  · rw [up_ne (by omega)]; exact b3
