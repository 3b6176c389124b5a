/-! POLYNOMIALS over Int as lists, lowest first; equality by values; division, Gauss, unique factorization -/
def zev : List Int → Int → Int
  | [], _ => 0
  | a :: p, x => a + x * zev p x
def zco (p : List Int) (k : Nat) : Int := p.getD k 0
def zadd : List Int → List Int → List Int
  | [], q => q
  | a :: p, [] => a :: p
  | a :: p, b :: q => (a + b) :: zadd p q
def zsm (c : Int) (p : List Int) : List Int := p.map (fun a => c * a)
def zmul : List Int → List Int → List Int
  | [], _ => []
  | a :: p, q => zadd (zsm a q) (0 :: zmul p q)
theorem zco_nil (k : Nat) : zco [] k = 0 := by simp [zco]
theorem zco_z (a : Int) (p : List Int) : zco (a :: p) 0 = a := by simp [zco]
theorem zco_s (a : Int) (p : List Int) (k : Nat) : zco (a :: p) (k + 1) = zco p k := by simp [zco]
theorem zco_add : ∀ (p q : List Int) (k : Nat), zco (zadd p q) k = zco p k + zco q k
  | [], q, k => by rw [zadd, zco_nil]; omega
  | a :: p, [], k => by rw [zadd, zco_nil]; omega
  | a :: p, b :: q, 0 => by rw [zadd, zco_z, zco_z, zco_z]
  | a :: p, b :: q, k + 1 => by rw [zadd, zco_s, zco_s, zco_s]; exact zco_add p q k
theorem zco_sm (c : Int) : ∀ (p : List Int) (k : Nat), zco (zsm c p) k = c * zco p k
  | [], k => by simp [zsm, zco]
  | a :: p, 0 => by simp [zsm, zco]
  | a :: p, k + 1 => by
    have := zco_sm c p k
    simpa [zsm, zco] using this
theorem zev_add : ∀ (p q : List Int) (x : Int), zev (zadd p q) x = zev p x + zev q x
  | [], q, x => by simp [zadd, zev]
  | a :: p, [], x => by simp [zadd, zev]
  | a :: p, b :: q, x => by rw [zadd, zev, zev, zev, zev_add p q x]; grind
theorem zev_sm (c : Int) : ∀ (p : List Int) (x : Int), zev (zsm c p) x = c * zev p x
  | [], x => by simp [zsm, zev]
  | a :: p, x => by
    have := zev_sm c p x
    show c * a + x * zev (zsm c p) x = c * (a + x * zev p x)
    rw [this]; grind
theorem zev_mul : ∀ (p q : List Int) (x : Int), zev (zmul p q) x = zev p x * zev q x
  | [], q, x => by simp [zmul, zev]
  | a :: p, q, x => by
    rw [zmul, zev_add, zev_sm, zev, zev, zev_mul p q x]; grind
theorem zev_zero : ∀ (p : List Int) (N : Int), (∀ x, N ≤ x → zev p x = 0) → ∀ k, zco p k = 0
  | [], _, _, k => zco_nil k
  | a :: p, N, h, k => by
    have ha : a = 0 := by
      have hN := h (max N (a.natAbs + 1)) (by omega)
      rw [zev] at hN
      have hd : (max N (a.natAbs + 1)) ∣ a := ⟨-(zev p (max N (a.natAbs + 1))), by grind⟩
      have hlt : a.natAbs < (max N ((a.natAbs : Int) + 1)).natAbs := by omega
      exact Int.eq_zero_of_dvd_of_natAbs_lt_natAbs hd hlt
    subst ha
    have hp : ∀ x, max N 1 ≤ x → zev p x = 0 := fun x hx => by
      have h1 := h x (by omega)
      rw [zev] at h1
      have h2 : x * zev p x = 0 := by omega
      rcases Int.mul_eq_zero.mp h2 with h3 | h3
      · omega
      · exact h3
    cases k with
    | zero => exact zco_z 0 p
    | succ k => rw [zco_s]; exact zev_zero p _ hp k
theorem zev_congr0 : ∀ (p : List Int) (x : Int), (∀ k, zco p k = 0) → zev p x = 0
  | [], _, _ => rfl
  | a :: p, x, h => by
    have h0 := h 0
    rw [zco_z] at h0
    rw [zev, h0, zev_congr0 p x (fun k => by have := h (k + 1); rwa [zco_s] at this)]
    simp
theorem zev_inj {p q : List Int} (h : ∀ x, zev p x = zev q x) (k : Nat) : zco p k = zco q k := by
  have h1 := zev_zero (zadd p (zsm (-1) q)) 0 (fun x _ => by rw [zev_add, zev_sm, h x]; omega) k
  rw [zco_add, zco_sm] at h1
  omega
theorem zev_congr {p q : List Int} (h : ∀ k, zco p k = zco q k) (x : Int) : zev p x = zev q x := by
  have h1 := zev_congr0 (zadd p (zsm (-1) q)) x (fun k => by rw [zco_add, zco_sm, h k]; omega)
  rw [zev_add, zev_sm] at h1
  omega
/-- below n the degree -/
def zlt (p : List Int) (n : Nat) : Prop := ∀ k, n ≤ k → zco p k = 0
theorem zlt_len (p : List Int) : zlt p p.length := fun k hk => by
  unfold zco
  rw [List.getD_eq_getElem?_getD, List.getElem?_eq_none hk]; rfl
theorem zmul_low (p q : List Int) : zco (zmul p q) 0 = zco p 0 * zco q 0 := by
  cases p with
  | nil => simp [zmul, zco]
  | cons a p => rw [zmul, zco_add, zco_sm, zco_z, zco_z]; omega
theorem zmul_s (a : Int) (p q : List Int) (k : Nat) : zco (zmul (a :: p) q) (k + 1) = a * zco q (k + 1) + zco (zmul p q) k := by
  rw [zmul, zco_add, zco_sm, zco_s]
theorem zmul_null {p : List Int} (h : ∀ k, zco p k = 0) (q : List Int) (k : Nat) : zco (zmul p q) k = 0 := by
  have := zev_inj (p := zmul p q) (q := []) (fun x => by rw [zev_mul, zev_congr0 p x h]; simp [zev]) k
  rw [this, zco_nil]
theorem zmul_top : ∀ (p q : List Int) (a b : Nat), zlt p (a + 1) → zlt q (b + 1) → zlt (zmul p q) (a + b + 1) ∧ zco (zmul p q) (a + b) = zco p a * zco q b
  | [], q, a, b, _, _ => ⟨fun k _ => by simp [zmul, zco], by simp [zmul, zco]⟩
  | c :: p, q, 0, b, hp, hq => by
    have h0 : ∀ k, zco p k = 0 := fun k => by have := hp (k + 1) (by omega); rwa [zco_s] at this
    have hz := zmul_null h0 q
    refine ⟨fun k hk => ?_, ?_⟩
    · cases k with
      | zero => omega
      | succ k => rw [zmul_s, hz, hq (k + 1) (by omega)]; omega
    · cases b with
      | zero => rw [Nat.zero_add, zmul_low]
      | succ b => rw [Nat.zero_add, zmul_s, hz, zco_z]; omega
  | c :: p, q, a + 1, b, hp, hq => by
    obtain ⟨i1, i2⟩ := zmul_top p q a b (fun k hk => by have := hp (k + 1) (by omega); rwa [zco_s] at this) hq
    refine ⟨fun k hk => ?_, ?_⟩
    · cases k with
      | zero => omega
      | succ k => rw [zmul_s, i1 k (by omega), hq (k + 1) (by omega)]; omega
    · rw [show a + 1 + b = (a + b) + 1 by omega, zmul_s, i2, hq (a + b + 1) (by omega), zco_s]; omega
/-- the degree and the leading coefficient -/
theorem zdeg (p : List Int) (h : ∃ k, zco p k ≠ 0) : ∃ n, zlt p (n + 1) ∧ zco p n ≠ 0 := by
  have key : ∀ m, zlt p m → ∃ n, zlt p (n + 1) ∧ zco p n ≠ 0 := by
    intro m
    induction m with
    | zero => exact fun hm => absurd (hm _ (Nat.zero_le _)) h.choose_spec
    | succ m ih =>
      intro hm
      by_cases h0 : zco p m = 0
      · exact ih (fun k hk => by
          rcases Nat.eq_or_lt_of_le hk with e | e
          · rw [← e]; exact h0
          · exact hm k e)
      · exact ⟨m, hm, h0⟩
  exact key _ (zlt_len p)
theorem zdeg_mul {p u v : List Int} {n : Nat} (h : ∀ x, zev p x = zev u x * zev v x) (hp : zlt p (n + 1)) (hn : zco p n ≠ 0) : ∃ a b, a + b = n ∧ zlt u (a + 1) ∧ zlt v (b + 1) ∧ zco u a ≠ 0 ∧ zco v b ≠ 0 ∧ zco p n = zco u a * zco v b := by
  have e : ∀ k, zco p k = zco (zmul u v) k := zev_inj (fun x => by rw [zev_mul, h x])
  have hu : ∃ k, zco u k ≠ 0 := by
    apply Classical.byContradiction
    intro hc
    exact hn (by rw [e]; exact zmul_null (fun k => Classical.byContradiction fun q => hc ⟨k, q⟩) v n)
  have hv : ∃ k, zco v k ≠ 0 := by
    apply Classical.byContradiction
    intro hc
    have h0 : ∀ k, zco v k = 0 := fun k => Classical.byContradiction fun q => hc ⟨k, q⟩
    have := zev_inj (p := p) (q := []) (fun x => by rw [h x, zev_congr0 v x h0]; simp [zev]) n
    exact hn (by rw [this, zco_nil])
  obtain ⟨a, ha, ha0⟩ := zdeg u hu
  obtain ⟨b, hb, hb0⟩ := zdeg v hv
  obtain ⟨t1, t2⟩ := zmul_top u v a b ha hb
  have hne : zco p (a + b) ≠ 0 := by rw [e, t2]; exact Int.mul_ne_zero ha0 hb0
  have h1 : a + b = n := by
    rcases Nat.lt_trichotomy (a + b) n with q | q | q
    · exact absurd (by rw [e]; exact t1 n q) hn
    · exact q
    · exact absurd (hp (a + b) q) hne
  exact ⟨a, b, h1, ha, hb, ha0, hb0, by rw [← h1, e, t2]⟩
/-- primes -/
def zpr (n : Nat) : Prop := 1 < n ∧ ∀ d, d ∣ n → d = 1 ∨ d = n
theorem zpr_dvd {n : Nat} (h : zpr n) {a b : Int} (hd : (n : Int) ∣ a * b) : (n : Int) ∣ a ∨ (n : Int) ∣ b := by
  have hd2 : n ∣ a.natAbs * b.natAbs := by rw [← Int.natAbs_mul]; exact Int.ofNat_dvd_left.mp hd
  rcases h.2 (Nat.gcd n a.natAbs) (Nat.gcd_dvd_left _ _) with h1 | h1
  · exact Or.inr (Int.ofNat_dvd_left.mpr (Nat.Coprime.dvd_of_dvd_mul_left h1 hd2))
  · refine Or.inl (Int.ofNat_dvd_left.mpr ?_)
    rw [← h1]; exact Nat.gcd_dvd_right _ _
theorem zpr_ex : ∀ n : Nat, 1 < n → ∃ p, zpr p ∧ p ∣ n := by
  intro n
  induction n using Nat.strongRecOn with
  | ind n ih =>
    intro hn
    by_cases h : ∀ d, d ∣ n → d = 1 ∨ d = n
    · exact ⟨n, ⟨hn, h⟩, Nat.dvd_refl n⟩
    · obtain ⟨d, hd⟩ := Classical.not_forall.mp h
      have hd1 : d ∣ n := Classical.byContradiction fun q => hd (fun z => absurd z q)
      have hd2 : d ≠ 1 ∧ d ≠ n := ⟨fun z => hd (fun _ => Or.inl z), fun z => hd (fun _ => Or.inr z)⟩
      have hle := Nat.le_of_dvd (by omega) hd1
      have hpos : 0 < d := Nat.pos_of_dvd_of_pos hd1 (by omega)
      obtain ⟨p, hp, hpd⟩ := ih d (by omega) (by omega)
      exact ⟨p, hp, Nat.dvd_trans hpd hd1⟩
/-- all coefficients divisible -/
def zdc (m : Int) (p : List Int) : Prop := ∀ k, m ∣ zco p k
theorem zdc_mul_l {m : Int} {p : List Int} (h : zdc m p) (q : List Int) : zdc m (zmul p q) := by
  induction p with
  | nil => intro k; rw [zmul, zco_nil]; exact Int.dvd_zero _
  | cons a p ih =>
    have h0 : m ∣ a := by have := h 0; rwa [zco_z] at this
    have hp : zdc m p := fun k => by have := h (k + 1); rwa [zco_s] at this
    intro k
    cases k with
    | zero => rw [zmul_low, zco_z]; exact Int.dvd_mul_of_dvd_left h0
    | succ k => rw [zmul_s]; exact Int.dvd_add (Int.dvd_mul_of_dvd_left h0) (ih hp k)
theorem zmul_comm (p q : List Int) (k : Nat) : zco (zmul p q) k = zco (zmul q p) k := zev_inj (fun x => by rw [zev_mul, zev_mul, Int.mul_comm]) k
theorem zgauss {n : Nat} (hn : zpr n) : ∀ (p q : List Int), zdc n (zmul p q) → zdc n p ∨ zdc n q
  | [], q, _ => Or.inl (fun k => by rw [zco_nil]; exact Int.dvd_zero _)
  | a :: p, [], _ => Or.inr (fun k => by rw [zco_nil]; exact Int.dvd_zero _)
  | a :: p, b :: q, h => by
    have h0 := h 0
    rw [zmul_low, zco_z, zco_z] at h0
    rcases zpr_dvd hn h0 with ha | hb
    · have h1 : zdc n (zmul p (b :: q)) := fun k => by
        have := h (k + 1)
        rw [zmul_s] at this
        exact (Int.dvd_add_right (Int.dvd_mul_of_dvd_left ha)).mp this
      rcases zgauss hn p (b :: q) h1 with h2 | h2
      · refine Or.inl (fun k => ?_)
        cases k with
        | zero => rw [zco_z]; exact ha
        | succ k => rw [zco_s]; exact h2 k
      · exact Or.inr h2
    · have h1 : zdc n (zmul (a :: p) q) := fun k => by
        have := h (k + 1)
        rw [zmul_comm, zmul_s] at this
        rw [zmul_comm]
        exact (Int.dvd_add_right (Int.dvd_mul_of_dvd_left hb)).mp this
      rcases zgauss hn (a :: p) q h1 with h2 | h2
      · exact Or.inl h2
      · refine Or.inr (fun k => ?_)
        cases k with
        | zero => rw [zco_z]; exact hb
        | succ k => rw [zco_s]; exact h2 k
  termination_by p q => p.length + q.length
/-- primitive -/
def zprim (p : List Int) : Prop := ∀ m : Int, zdc m p → m ∣ 1
theorem zdc_div {m : Int} (hm : m ≠ 0) {p : List Int} (h : zdc m p) : ∃ q, ∀ k, zco p k = m * zco q k := by
  refine ⟨p.map (fun a => a / m), fun k => ?_⟩
  have h1 : zco (p.map (fun a => a / m)) k = zco p k / m := by
    unfold zco
    rw [List.getD_eq_getElem?_getD, List.getD_eq_getElem?_getD, List.getElem?_map]
    cases p[k]? <;> simp
  rw [h1]
  exact (Int.mul_ediv_cancel' (h k)).symm
theorem zgauss2 {p : List Int} (hp : zprim p) : ∀ (N : Nat) (m : Int) (q : List Int), m.natAbs ≤ N → m ≠ 0 → zdc m (zmul p q) → zdc m q := by
  intro N
  induction N with
  | zero => intro m q h1 h2; omega
  | succ N ih =>
    intro m q hN hm h
    by_cases h1 : m.natAbs = 1
    · intro k
      have : m ∣ 1 := by
        rcases Int.natAbs_eq m with e | e <;> rw [e, h1] <;> decide
      exact Int.dvd_trans this (Int.one_dvd _)
    · obtain ⟨n, hn, hd⟩ := zpr_ex m.natAbs (by omega)
      have hdm : (n : Int) ∣ m := Int.ofNat_dvd_left.mpr hd
      rcases zgauss hn p q (fun k => Int.dvd_trans hdm (h k)) with h2 | h2
      · have := hp n h2
        have h3 := Int.le_of_dvd (by omega) this
        have := hn.1
        omega
      · have hn0 : (n : Int) ≠ 0 := by have := hn.1; omega
        obtain ⟨q', hq'⟩ := zdc_div hn0 h2
        obtain ⟨m', rfl⟩ := hdm
        have hm' : m' ≠ 0 := fun e => hm (by rw [e]; simp)
        have e1 : ∀ k, zco (zmul p q) k = n * zco (zmul p q') k := fun k => by
          rw [← zco_sm]
          exact zev_inj (fun x => by
            rw [zev_mul, zev_sm, zev_mul, zev_congr (p := q) (q := zsm n q') (fun k => by rw [zco_sm]; exact hq' k) x, zev_sm]; grind) k
        have h4 : zdc m' (zmul p q') := fun k => by
          have := h k
          rw [e1 k] at this
          exact Int.dvd_of_mul_dvd_mul_left hn0 this
        have hlt : m'.natAbs ≤ N := by
          have h5 : ((n : Int) * m').natAbs = n * m'.natAbs := by rw [Int.natAbs_mul]; rfl
          have h6 : 2 * m'.natAbs ≤ n * m'.natAbs := Nat.mul_le_mul_right _ hn.1
          omega
        intro k
        rw [hq' k]
        exact Int.mul_dvd_mul (Int.dvd_refl _) (ih m' q' hlt hm' h4 k)
theorem zgauss3 {p : List Int} (hp : zprim p) {m : Int} {q : List Int} (hm : m ≠ 0) (h : zdc m (zmul p q)) : zdc m q := zgauss2 hp _ m q (Nat.le_refl _) hm h
theorem zcancel {p : List Int} (hp : zprim p) {q : List Int} (h : ∀ x, zev p x * zev q x = 0) (k : Nat) : zco q k = 0 := by
  have h0 : ∀ k, zco (zmul p q) k = 0 := fun k => by
    have := zev_inj (p := zmul p q) (q := []) (fun x => by rw [zev_mul, h x]; rfl) k
    rw [this, zco_nil]
  have h1 : ∀ m : Int, m ≠ 0 → m ∣ zco q k := fun m hm => zgauss3 hp hm (fun k => by rw [h0 k]; exact Int.dvd_zero _) k
  have h2 := h1 ((zco q k).natAbs + 1) (by omega)
  exact Int.eq_zero_of_dvd_of_natAbs_lt_natAbs h2 (by omega)
