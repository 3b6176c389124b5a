/-! BY PRIMES: the reference divides by a small divisor -/
variable {S : List mjD} {I : Nat → Nat → Int32} {L : Nat → Nat → Int64}
theorem w_mul {a b : Int32} (h : (a.toInt * b.toInt).natAbs < 2 ^ 31) : (a * b).toInt = a.toInt * b.toInt := by
  rw [Int32.toInt_mul]; exact Int.bmod_eq_of_le_mul_two (by omega) (by omega)
theorem w_sub {a b : Int32} (h : (a.toInt - b.toInt).natAbs < 2 ^ 31) : (a - b).toInt = a.toInt - b.toInt := by
  rw [Int32.toInt_sub]; exact Int.bmod_eq_of_le_mul_two (by omega) (by omega)
theorem m_rest {a : Int64} {pr : Nat} (hpr : 2 ≤ pr ∧ pr ≤ 13) (ha : a.toInt.natAbs < 2 ^ 62) : ∃ x, CTi mr_X9_rest [.long a, .int (nI pr)] S I L x I L ∧ x.toInt = a.toInt % (pr : Int) := by
  have pz : ((nI pr).toInt64).toInt = pr := nI_i64 (by omega)
  have p0 : ¬ (nI pr).toInt64 = 0 := fun z => by rw [z] at pz; have z0 : (0 : Int64).toInt = 0 := rfl; omega
  refine ⟨_, wp_X9_rest ⟨p0, p0, rfl, rfl⟩, ?_⟩
  have h1 := t_rem (y := a) (x := (nI pr).toInt64) (by omega)
  rw [pz] at h1
  have key := Int.tmod_eq_emod (a := a.toInt) (b := (pr : Int))
  have n1 := Int.emod_nonneg a.toInt (show (pr : Int) ≠ 0 by omega)
  have n2 := Int.emod_lt_of_pos a.toInt (show (0 : Int) < pr by omega)
  have l1 := Int.tmod_lt_of_pos a.toInt (show (0 : Int) < pr by omega)
  have l2 := Int.lt_tmod_of_pos a.toInt (show (0 : Int) < pr by omega)
  have h2 : ((a - a / (nI pr).toInt64 * (nI pr).toInt64) + (nI pr).toInt64).toInt = a.toInt.tmod pr + pr := by
    rw [t_add (by rw [h1, pz]; omega) (by rw [h1, pz]; omega), h1, pz]
  have h3 := t_rem (y := (a - a / (nI pr).toInt64 * (nI pr).toInt64) + (nI pr).toInt64) (x := (nI pr).toInt64) (by rw [h2]; omega)
  rw [h2, pz, Int.tmod_eq_emod_of_nonneg (by omega), Int.add_emod_right] at h3
  have h4 : a.toInt.tmod pr % (pr : Int) = a.toInt % (pr : Int) := by
    by_cases d : 0 ≤ a.toInt ∨ (pr : Int) ∣ a.toInt
    · rw [if_pos d] at key
      rw [key, show a.toInt % (pr : Int) - ((0 : Nat) : Int) = a.toInt % (pr : Int) by omega, Int.emod_emod]
    · rw [if_neg d] at key
      rw [key]
      have e : a.toInt % (pr : Int) - ((pr : Int).natAbs : Int) = a.toInt % (pr : Int) - (pr : Int) := by omega
      rw [e, Int.sub_emod_right, Int.emod_emod]
  rw [h4] at h3
  rw [Int64.toInt_toInt32, h3]
  exact Int.bmod_eq_of_le_mul_two (by omega) (by omega)
/-- the reference's picture of what is divided; of its figures -/
def rmR (m t : Nat) (r : Nat → Int) (I : Nat → Nat → Int32) : Prop := I m 44 = nI t ∧ ∀ k, k < 6 → (I (m + 25) k).toInt = r k
def fgR (m np fg : Nat) (I : Nat → Nat → Int32) : Prop := I m 46 = nI np ∧ I m 45 = nI fg
def qfr (m : Nat) (I I1 : Nat → Nat → Int32) : Prop := (∀ b, b ≠ m → b ≠ m + 25 → b ≠ m + 26 → I1 b = I b) ∧ ∀ k, k ≠ 44 → k ≠ 45 → k ≠ 46 → I1 m k = I m k
theorem qfr_rf {m : Nat} : qfr m I I := ⟨fun _ _ _ _ => rfl, fun _ _ _ _ => rfl⟩
theorem qfr_tr {m : Nat} {I1 I2 : Nat → Nat → Int32} (h : qfr m I I1) (h2 : qfr m I1 I2) : qfr m I I2 := ⟨fun b x y z => (h2.1 b x y z).trans (h.1 b x y z), fun k x y z => (h2.2 k x y z).trans (h.2 k x y z)⟩
theorem qfr_m {m k : Nat} {x : Int32} (h : k = 44 ∨ k = 45 ∨ k = 46) : qfr m I (mj_up I m k x) := ⟨fun b hb _ _ => up_ne hb, fun j a b c => up_nk (by omega)⟩
theorem qfr_o {m k : Nat} {x : Int32} : qfr m I (mj_up I (m + 26) k x) := ⟨fun b _ _ hb => up_ne hb, fun j _ _ _ => by rw [up_ne (by omega)]⟩
theorem qfr_r {m k : Nat} {x : Int32} : qfr m I (mj_up I (m + 25) k x) := ⟨fun b _ hb _ => up_ne hb, fun j _ _ _ => by rw [up_ne (by omega)]⟩
section
variable {m : Nat}
/-- one step's number -/
theorem m_less {a x b : Int32} {pr n : Nat} {u T : Int} (hpr : 2 ≤ pr ∧ pr ≤ 13) (ha : a.toInt = u) (hu : 0 ≤ u ∧ u < 14) (hx : x.toInt = T) (hT : 0 ≤ T ∧ T < 14) (hb : b = nI n) (hn : n < 14) : ∃ y, CTi mr_X9_rest [.long (a - (x * b)).toInt64, .int (nI pr)] S I L y I L ∧ y.toInt = (u - n * T) % (pr : Int) := by
  have eb : b.toInt = n := by rw [hb, nI_toInt (by omega)]
  have m1 : 0 ≤ T * (n : Int) ∧ T * (n : Int) ≤ 13 * 13 := ⟨Int.mul_nonneg hT.1 (by omega), Int.mul_le_mul (by omega) (by omega) (by omega) (by decide)⟩
  have e1 : (x * b).toInt = T * n := by rw [w_mul (by rw [hx, eb]; omega), hx, eb]
  have e2 : (a - (x * b)).toInt = u - T * n := by rw [w_sub (by rw [ha, e1]; omega), ha, e1]
  obtain ⟨y, h1, h2⟩ := m_rest (S := S) (I := I) (L := L) (a := (a - (x * b)).toInt64) hpr (by rw [Int32.toInt_toInt64, e2]; omega)
  exact ⟨y, h1, by rw [h2, Int32.toInt_toInt64, e2, Int.mul_comm T]⟩
theorem m_over {d t : Nat} {T : Nat → Int} (hm : is_Model S m) (hd : d = 1 ∨ d = 2) (hdt : d ≤ t) (ht : t ≤ 5) (hT0 : ∀ k, t < k → T k = 0) : ∀ w k (I : Nat → Nat → Int32), k + w = 6 → I m 44 = nI t → (∀ i, d ≤ i → i < 6 → (I (m + 26) i).toInt = T i) → (∀ i, i < k → (I (m + 25) i).toInt = T (i + d)) →
    ∃ I1, hd_X9_dividesBy_172 S (fun v h => v = some (.int 1) ∧ h = (S, I1, L)) m (nI d) 1 (nI k) I L ∧ qfr m I I1 ∧ rmR m (t - d) (fun i => T (i + d)) I1 ∧ I1 m 45 = I m 45 ∧ I1 m 46 = I m 46 := by
  intro w
  induction w with
  | zero =>
    intro k I hk h4 hov hre
    refine ⟨mj_up I m 44 (nI (t - d)), it_X9_dividesBy_172 hm (ge_t (k := 6) (by omega) (by omega) ⟨fun q => absurd q (by decide), fun _ => ⟨Or.inr rfl, rfl, ?_⟩⟩), qfr_m (Or.inl rfl), ⟨up_eq, fun i hi => by rw [up_ne (by omega)]; exact hre i (by omega)⟩, up_nk (by decide), up_nk (by decide)⟩
    rw [h4, pk_sub hdt]
  | succ w ih =>
    intro k I hk h4 hov hre
    have e : nI k + nI d = nI (k + d) := nI_add k d
    have g6 : (6 : Int32) ≤ nI (k + d) ↔ 6 ≤ k + d := nI_leI (a := 6) (by decide) (by omega)
    have step : ∀ x : Int32, x.toInt = T (k + d) → ∃ I1, hd_X9_dividesBy_172 S (fun v h => v = some (.int 1) ∧ h = (S, I1, L)) m (nI d) 1 (nI (k + 1)) (mj_up I (m + 25) k x) L ∧ qfr m I I1 ∧ rmR m (t - d) (fun i => T (i + d)) I1 ∧ I1 m 45 = I m 45 ∧ I1 m 46 = I m 46 := fun x hx => by
      obtain ⟨I1, a1, a2, a3, a4, a5⟩ := ih (k + 1) (mj_up I (m + 25) k x) (by omega) (by rw [up_ne (by omega)]; exact h4) (fun i h1 h2 => by rw [up_ne (by omega)]; exact hov i h1 h2) (fun i hi => by
        by_cases c : i = k
        · rw [c, up_eq]; exact hx
        · rw [up_nk c]; exact hre i (by omega))
      exact ⟨I1, a1, qfr_tr qfr_r a2, a3, a4.trans (by rw [up_ne (by omega)]), a5.trans (by rw [up_ne (by omega)])⟩
    by_cases c : 6 ≤ k + d
    · obtain ⟨I1, a1, a2⟩ := step 0 (by rw [hT0 (k + d) (by omega)]; rfl)
      refine ⟨I1, it_X9_dividesBy_172 hm (ge_f (k := 6) (by omega) (by omega) ⟨fun q => absurd q (by decide), fun _ => ?_⟩), a2⟩
      rw [e]
      exact ⟨fun _ => ⟨vp_in_nI (by omega) (by decide), fun y hy => by rw [hy, nI_1, nI_clamp (by omega)]; exact a1⟩, fun q => absurd (g6.mpr c) q⟩
    · obtain ⟨I1, a1, a2⟩ := step (I (m + 26) (k + d)) (hov (k + d) (by omega) (by omega))
      refine ⟨I1, it_X9_dividesBy_172 hm (ge_f (k := 6) (by omega) (by omega) ⟨fun q => absurd q (by decide), fun _ => ?_⟩), a2⟩
      rw [e]
      exact ⟨fun q => absurd (g6.mp q) c, fun _ => ⟨vp_in_nI (by omega) (by decide), vp_in_nI (by omega) (by decide), fun y hy => by rw [hy, nI_1, nI_clamp (show k < 2 ^ 31 by omega), nI_clamp (show k + d < 2 ^ 31 by omega)]; exact a1⟩⟩
theorem m_dividesBy {d t pr B E : Nat} {x3 x4 : Int32} {r : Nat → Int} (hm : is_Model S m) (h : rmR m t r I) (hpr : 2 ≤ pr ∧ pr ≤ 13) (ht : t ≤ 5) (hr : rsd pr r t) (hB : B < pr) (hE : E < pr) (hd : (d = 1 ∧ x4 = nI B ∧ E = 0) ∨ (d = 2 ∧ x3 = nI B ∧ x4 = nI E)) :
    ∃ I1, CTi mr_X9_dividesBy [.ref m, .int (nI pr), .int (nI d), .int x3, .int x4] S I L (if dvX pr d B E r t then 1 else 0) I1 L ∧ qfr m I I1 ∧ I1 m 45 = I m 45 ∧ I1 m 46 = I m 46 ∧ (dvX pr d B E r t = true → rmR m (t - d) (fun k => tq pr B E r t (k + d)) I1) ∧ (dvX pr d B E r t = false → rmR m t r I1) := by
  obtain ⟨h4, h5⟩ := h
  have hd12 : d = 1 ∨ d = 2 := hd.elim (fun z => Or.inl z.1) (fun z => Or.inr z.1)
  by_cases c1 : t < d
  · have e : dvX pr d B E r t = false := decide_eq_false (fun z => by omega)
    rw [e]
    refine ⟨I, wp_X9_dividesBy hm ?_, qfr_rf, rfl, rfl, fun z => (by cases z), fun _ => ⟨h4, h5⟩⟩
    rw [h4]
    exact ⟨fun q => absurd ((nI_leI (by omega) (by omega)).mp q) (by omega), fun _ => ⟨rfl, rfl⟩⟩
  · obtain ⟨T, hT⟩ : ∃ T, T = fun k => tq pr B E r t k := ⟨_, rfl⟩
    have hTk : ∀ k, tq pr B E r t k = T k := fun k => by rw [hT]
    have eT : (fun k => tq pr B E r t (k + d)) = (fun k => T (k + d)) := by funext k; rw [← hTk]
    rw [eT]
    have hT0 : ∀ k, t < k → T k = 0 := fun k hk => by rw [← hTk]; exact tq_out hk
    have hTr : ∀ k, 0 ≤ T k ∧ T k < 14 := fun k => by
      rw [← hTk]
      have := tq_rg (b := B) (c := E) (r := r) (t := t) (k := k) (rsd_p hr)
      omega
    have hTs : ∀ k, k ≤ t → T k = (r k - E * T (k + 2) - B * T (k + 1)) % (pr : Int) := fun k hk => by
      rw [← hTk, ← hTk, ← hTk, tq_s hk]
      congr 1
      omega
    have hrr : ∀ k, 0 ≤ r k ∧ r k < 14 := fun k => by have := hr.1 k; omega
    have hrm : ∀ k, r k % (pr : Int) = r k := fun k => Int.emod_eq_of_lt (hr.1 k).1 (hr.1 k).2
    have em : ∀ x : Int, 0 ≤ x % (pr : Int) ∧ x % (pr : Int) < 14 := fun x => by
      have n1 := Int.emod_nonneg x (show (pr : Int) ≠ 0 by omega)
      have n2 := Int.emod_lt_of_pos x (show (0 : Int) < pr by omega)
      omega
    -- what the rows hold while the loop stands at j
    obtain ⟨OV, hOV⟩ : ∃ OV : Nat → (Nat → Nat → Int32) → Prop, OV = fun j J => ∀ i, i < 6 → (J (m + 26) i).toInt = if j ≤ i then T i else if i + 1 = j then (r i - E * T (i + 2)) % (pr : Int) else r i := ⟨_, rfl⟩
    obtain ⟨GL, hGL⟩ : ∃ GL : (Nat → Nat → Int32) → (Nat → Nat → Int32) → Prop, GL = fun J I1 => qfr m J I1 ∧ I1 m 45 = J m 45 ∧ I1 m 46 = J m 46 ∧ (dvX pr d B E r t = true → rmR m (t - d) (fun k => T (k + d)) I1) ∧ (dvX pr d B E r t = false → rmR m t r I1) := ⟨_, rfl⟩
    -- the end
    have fin : ∀ (J : Nat → Nat → Int32), rmR m t r J → OV (d - 1) J → ∃ I1, hd_X9_dividesBy_46 S (fun v h => v = some (.int (if dvX pr d B E r t then 1 else 0)) ∧ h = (S, I1, L)) m (nI pr) (nI d) x3 x4 (nI (d - 1)) J L ∧ GL J I1 := fun J hJ hO => by
      rw [hOV] at hO
      rw [hGL]
      have lt : nI (d - 1) < nI d := (nI_ltI (by omega) (by omega)).mpr (by omega)
      have fail : dvX pr d B E r t = false → ∃ I1, hd_X9_dividesBy_172 S (fun v h => v = some (.int 0) ∧ h = (S, I1, L)) m (nI d) 0 0 J L ∧ GL J I1 := fun e => by
        rw [hGL]
        refine ⟨mj_up J m 44 (J m 44 - 0), it_X9_dividesBy_172 hm (ge_f (k := 6) (i := 0) (by decide) (by decide) ⟨fun _ => ⟨fun _ => ⟨Or.inl rfl, rfl, rfl⟩, fun q => absurd rfl q⟩, fun q => absurd rfl q⟩), qfr_m (Or.inl rfl), up_nk (by decide), up_nk (by decide), fun z => (by rw [e] at z; cases z), fun _ => ⟨by rw [up_eq, Int32.sub_zero]; exact hJ.1, fun k hk => by rw [up_ne (by omega)]; exact hJ.2 k hk⟩⟩
      have good : dvX pr d B E r t = true → ∃ I1, hd_X9_dividesBy_172 S (fun v h => v = some (.int 1) ∧ h = (S, I1, L)) m (nI d) 1 0 J L ∧ GL J I1 := fun e => by
        rw [hGL]
        obtain ⟨I1, a1, a2, a3, a4, a5⟩ := m_over (S := S) (L := L) (T := T) hm hd12 (by omega) ht hT0 6 0 J rfl hJ.1 (fun i h1 h2 => by rw [hO i h2, if_pos (by omega)]) (fun i hi => absurd hi (Nat.not_lt_zero i))
        exact ⟨I1, a1, a2, a4, a5, fun _ => a3, fun z => (by rw [e] at z; cases z)⟩
      have z0 : (0 : Int32).toNatClampNeg = 0 := rfl
      have z1 : (1 : Int32).toNatClampNeg = 1 := rfl
      have cz : ∀ i, ((J (m + 26) i).toInt = 0 ↔ J (m + 26) i = 0) := fun i => ⟨fun z => Int32.toInt_inj.mp z, fun z => by rw [z]; rfl⟩
      rcases hd with ⟨rfl, hx4, rfl⟩ | ⟨rfl, hx3, hx4⟩
      · have o0 := hO 0 (by decide)
        rw [if_pos (by decide)] at o0
        by_cases c : T 0 = 0
        · have e : dvX pr 1 B ((0 : Nat) : Int) r t = true := decide_eq_true ⟨by omega, by rw [hTk]; exact c, fun z => absurd z (by decide)⟩
          have j0 : J (m + 26) 0 = 0 := (cz 0).mp (by rw [o0]; exact c)
          obtain ⟨I1, a1, a2⟩ := good e
          rw [hGL] at a2
          rw [if_pos e]
          exact ⟨I1, it_X9_dividesBy_46 hm ⟨fun _ => ⟨fun q => absurd (by rw [z0]; exact j0) q, fun _ => ⟨fun _ => a1, fun q => absurd rfl q⟩⟩, fun q => absurd lt q⟩, a2⟩
        · have e : dvX pr 1 B ((0 : Nat) : Int) r t = false := decide_eq_false (fun z => c (by rw [← hTk]; exact z.2.1))
          have j0 : ¬ J (m + 26) 0 = 0 := fun z => c (by rw [← o0]; exact (cz 0).mpr z)
          obtain ⟨I1, a1, a2⟩ := fail e
          rw [hGL] at a2
          rw [if_neg (by rw [e]; decide)]
          exact ⟨I1, it_X9_dividesBy_46 hm ⟨fun _ => ⟨fun _ => a1, fun q => absurd (by rw [z0] at q; exact q) j0⟩, fun q => absurd lt q⟩, a2⟩
      · have o0 := hO 0 (by decide)
        rw [if_neg (by decide), if_pos (by decide)] at o0
        have o1 := hO 1 (by decide)
        rw [if_pos (by decide)] at o1
        have t0 := hTs 0 (by omega)
        have n21 : ¬ (nI 2 : Int32) = 1 := by decide
        by_cases c : T 1 = 0
        · have j1 : J (m + 26) 1 = 0 := (cz 1).mp (by rw [o1]; exact c)
          rw [show (0 : Nat) + 1 = 1 from rfl, c, Int.mul_zero, Int.sub_zero] at t0
          by_cases c0 : T 0 = 0
          · have e : dvX pr 2 B E r t = true := decide_eq_true ⟨by omega, by rw [hTk]; exact c0, fun _ => by rw [hTk]; exact c⟩
            have j0 : J (m + 26) 0 = 0 := (cz 0).mp (by rw [o0, ← t0]; exact c0)
            obtain ⟨I1, a1, a2⟩ := good e
            rw [hGL] at a2
            rw [if_pos e]
            exact ⟨I1, it_X9_dividesBy_46 hm ⟨fun _ => ⟨fun q => absurd (by rw [z0]; exact j0) q, fun _ => ⟨fun q => absurd q n21, fun _ => ⟨fun q => absurd (by rw [z1]; exact j1) q, fun _ => a1⟩⟩⟩, fun q => absurd lt q⟩, a2⟩
          · have e : dvX pr 2 B E r t = false := decide_eq_false (fun z => c0 (by rw [← hTk]; exact z.2.1))
            have j0 : ¬ J (m + 26) 0 = 0 := fun z => c0 (by rw [t0, ← o0]; exact (cz 0).mpr z)
            obtain ⟨I1, a1, a2⟩ := fail e
            rw [hGL] at a2
            rw [if_neg (by rw [e]; decide)]
            exact ⟨I1, it_X9_dividesBy_46 hm ⟨fun _ => ⟨fun _ => a1, fun q => absurd (by rw [z0] at q; exact q) j0⟩, fun q => absurd lt q⟩, a2⟩
        · have e : dvX pr 2 B E r t = false := decide_eq_false (fun z => c (by rw [← hTk]; exact z.2.2 rfl))
          have j1 : ¬ J (m + 26) 1 = 0 := fun z => c (by rw [← o1]; exact (cz 1).mpr z)
          obtain ⟨I1, a1, a2⟩ := fail e
          rw [hGL] at a2
          rw [if_neg (by rw [e]; decide)]
          exact ⟨I1, it_X9_dividesBy_46 hm ⟨fun _ => ⟨fun _ => a1, fun _ => ⟨fun q => absurd q n21, fun _ => ⟨fun _ => a1, fun q => absurd (by rw [z1] at q; exact q) j1⟩⟩⟩, fun q => absurd lt q⟩, a2⟩
    -- downward
    have GL_tr : ∀ {J J2 I1 : Nat → Nat → Int32}, qfr m J J2 → J2 m 45 = J m 45 → J2 m 46 = J m 46 → GL J2 I1 → GL J I1 := fun q1 q2 q3 q4 => by
      rw [hGL] at q4 ⊢
      exact ⟨qfr_tr q1 q4.1, q4.2.1.trans q2, q4.2.2.1.trans q3, q4.2.2.2⟩
    have down : ∀ w, d - 1 + w ≤ t → ∀ (J : Nat → Nat → Int32), rmR m t r J → OV (d - 1 + w) J → ∃ I1, hd_X9_dividesBy_46 S (fun v h => v = some (.int (if dvX pr d B E r t then 1 else 0)) ∧ h = (S, I1, L)) m (nI pr) (nI d) x3 x4 (nI (d - 1 + w)) J L ∧ GL J I1 := by
      intro w
      induction w with
      | zero => intro _ J hJ hO; exact fin J hJ hO
      | succ w ih =>
        intro hw J hJ hO
        obtain ⟨j, hj⟩ : ∃ j, d - 1 + w = j := ⟨_, rfl⟩
        have hj1 : d - 1 + (w + 1) = j + 1 := by omega
        rw [hj1] at hO hw
        rw [hj1]
        rw [hj] at ih
        have hOx := hO
        rw [hOV] at hOx
        have oj := hOx (j + 1) (by omega)
        rw [if_pos (Nat.le_refl _)] at oj
        have oj1 := hOx j (by omega)
        rw [if_neg (by omega), if_pos rfl] at oj1
        have nlt : ¬ nI (j + 1) < nI d := fun q => by have := (nI_ltI (by omega) (by omega)).mp q; omega
        have s1 : nI (j + 1) - (1 : Int32) = nI j := pk_sub (a := j + 1) (b := 1) (by omega)
        have sm : nI (j + 1) + (-1) = nI j := pk_m1 j
        have cl : (nI (j + 1)).toNatClampNeg = j + 1 := nI_clamp (by omega)
        have cl1 : (nI j).toNatClampNeg = j := nI_clamp (by omega)
        have hTj := hTs j (by omega)
        rcases hd with ⟨hd1, hx4, hE0⟩ | ⟨hd1, hx3, hx4⟩
        · obtain ⟨y, m1, m2⟩ := m_less (S := S) (I := J) (L := L) (a := J (m + 26) j) (x := J (m + 26) (j + 1)) (b := x4) (n := B) hpr oj1 (em _) oj (hTr _) hx4 (by omega)
          have ey : y.toInt = T j := by rw [m2, Int.emod_sub_emod, ← hTj]
          obtain ⟨I1, i1, i2⟩ := ih (by omega) (mj_up J (m + 26) j y) ⟨by rw [up_ne (by omega)]; exact hJ.1, fun k hk => by rw [up_ne (by omega)]; exact hJ.2 k hk⟩ (by
            rw [hOV]
            intro i hi
            by_cases c : i = j
            · rw [c, up_eq, if_pos (Nat.le_refl _)]; exact ey
            · rw [up_nk c, hOx i hi]
              by_cases c2 : j + 1 ≤ i
              · rw [if_pos c2, if_pos (by omega)]
              · rw [if_neg c2, if_neg (by omega), if_neg (by omega)]
                by_cases c3 : i + 1 = j
                · rw [if_pos c3, hE0]
                  show r i = (r i - ((0 : Nat) : Int) * T (i + 2)) % (pr : Int)
                  rw [Int.natCast_zero, Int.zero_mul, Int.sub_zero, hrm]
                · rw [if_neg c3])
          have n12 : ¬ nI d = (2 : Int32) := by rw [hd1]; decide
          have y11 : nI d = (1 : Int32) := by rw [hd1]; rfl
          refine ⟨I1, it_X9_dividesBy_46 hm ⟨fun q => absurd q nlt, fun _ => ⟨vp_in_nI (by omega) (by decide), fun y31 hy31 => ?_⟩⟩, GL_tr qfr_o (by rw [up_ne (by omega)]) (by rw [up_ne (by omega)]) i2⟩
          rw [cl] at hy31
          rw [s1, cl1, sm, hy31]
          exact ⟨vp_in_nI (by omega) (by decide), fun q => absurd y11 q, fun _ => ⟨_, _, _, m1, vp_in_nI (by omega) (by decide), fun _ y2 hy2 => by rw [hy2]; exact i1, fun q => absurd q n12⟩⟩
        · obtain ⟨y, m1, m2⟩ := m_less (S := S) (I := J) (L := L) (a := J (m + 26) j) (x := J (m + 26) (j + 1)) (b := x3) (n := B) hpr oj1 (em _) oj (hTr _) hx3 (by omega)
          have ey : y.toInt = T j := by rw [m2, Int.emod_sub_emod, ← hTj]
          obtain ⟨i0, hi0⟩ : ∃ i0, j = i0 + 1 := ⟨j - 1, by omega⟩
          have oi := hOx i0 (by omega)
          rw [if_neg (by omega), if_neg (by omega)] at oi
          obtain ⟨z, m3, m4⟩ := m_less (S := S) (I := mj_up J (m + 26) j y) (L := L) (a := mj_up J (m + 26) j y (m + 26) i0) (x := J (m + 26) (j + 1)) (b := x4) (n := E) (u := r i0) hpr (by rw [up_nk (by omega)]; exact oi) (hrr _) oj (hTr _) hx4 (by omega)
          obtain ⟨I1, i1, i2⟩ := ih (by omega) (mj_up (mj_up J (m + 26) j y) (m + 26) i0 z) ⟨by rw [up_ne (by omega), up_ne (by omega)]; exact hJ.1, fun k hk => by rw [up_ne (by omega), up_ne (by omega)]; exact hJ.2 k hk⟩ (by
            rw [hOV]
            intro i hi
            by_cases c : i = j
            · rw [c, up_nk (by omega), up_eq, if_pos (Nat.le_refl _)]; exact ey
            · by_cases c4 : i = i0
              · rw [c4, up_eq, if_neg (by omega), if_pos (by omega), m4, hi0]
              · rw [up_nk c4, up_nk c, hOx i hi]
                by_cases c2 : j + 1 ≤ i
                · rw [if_pos c2, if_pos (by omega)]
                · rw [if_neg c2, if_neg (by omega), if_neg (by omega), if_neg (by omega)])
          have n12 : ¬ nI d = (1 : Int32) := by rw [hd1]; decide
          have y11 : nI d = (2 : Int32) := by rw [hd1]; rfl
          have s2 : nI (j + 1) - (2 : Int32) = nI i0 := by rw [show i0 = j + 1 - 2 by omega]; exact pk_sub (a := j + 1) (b := 2) (by omega)
          have cl0 : (nI i0).toNatClampNeg = i0 := nI_clamp (by omega)
          refine ⟨I1, it_X9_dividesBy_46 hm ⟨fun q => absurd q nlt, fun _ => ⟨vp_in_nI (by omega) (by decide), fun y31 hy31 => ?_⟩⟩, GL_tr (qfr_tr qfr_o qfr_o) (by rw [up_ne (by omega), up_ne (by omega)]) (by rw [up_ne (by omega), up_ne (by omega)]) i2⟩
          rw [cl] at hy31
          rw [s1, cl1, sm, hy31, s2, cl0]
          exact ⟨vp_in_nI (by omega) (by decide), fun _ => ⟨_, _, _, m1, vp_in_nI (by omega) (by decide), fun q => absurd y11 q, fun _ => ⟨vp_in_nI (by omega) (by decide), _, _, _, m3, vp_in_nI (by omega) (by decide), fun y2 hy2 => by rw [hy2]; exact i1⟩⟩, fun q => absurd q n12⟩
    -- the start: what is left, copied
    have copy : ∀ w k (J : Nat → Nat → Int32), k + w = 6 → rmR m t r J → (∀ i, i < k → J (m + 26) i = J (m + 25) i) → ∃ I1, hd_X9_dividesBy_13 S (fun v h => v = some (.int (if dvX pr d B E r t then 1 else 0)) ∧ h = (S, I1, L)) m (nI pr) (nI d) x3 x4 (nI k) J L ∧ GL J I1 := by
      intro w
      induction w with
      | zero =>
        intro k J hk hJ hc
        obtain ⟨I1, a1, a2⟩ := down (t + 1 - d) (by omega) J hJ (by
          rw [hOV]
          intro i hi
          rw [hc i (by omega), hJ.2 i hi]
          by_cases c : d - 1 + (t + 1 - d) ≤ i
          · rw [if_pos c]
            by_cases c2 : i = t
            · rw [c2, ← hTk, tq_top hr]
            · rw [hT0 i (by omega), hr.2.1 i (by omega)]
          · rw [if_neg c]
            by_cases c2 : i + 1 = d - 1 + (t + 1 - d)
            · rw [if_pos c2, hT0 (i + 2) (by omega), Int.mul_zero, Int.sub_zero, hrm]
            · rw [if_neg c2])
        rw [show d - 1 + (t + 1 - d) = t by omega] at a1
        exact ⟨I1, it_X9_dividesBy_13 hm (ge_t (k := 6) (by omega) (by omega) (fun y hy => by rw [hy, hJ.1]; exact a1)), a2⟩
      | succ w ih =>
        intro k J hk hJ hc
        have n56 : m + 25 ≠ m + 26 := by omega
        obtain ⟨I1, a1, a2⟩ := ih (k + 1) (mj_up J (m + 26) k (J (m + 25) k)) (by omega) ⟨by rw [up_ne (by omega)]; exact hJ.1, fun i hi => by rw [up_ne n56]; exact hJ.2 i hi⟩ (fun i hi => by
          rw [up_ne n56]
          by_cases c : i = k
          · rw [c, up_eq]
          · rw [up_nk c]; exact hc i (by omega))
        refine ⟨I1, it_X9_dividesBy_13 hm (ge_f (k := 6) (by omega) (by omega) ⟨vp_in_nI (by omega) (by decide), vp_in_nI (by omega) (by decide), fun y hy => ?_⟩), GL_tr qfr_o (by rw [up_ne (by omega)]) (by rw [up_ne (by omega)]) a2⟩
        rw [hy, nI_1, nI_clamp (by omega)]
        exact a1
    obtain ⟨I1, a1, a2⟩ := copy 6 0 I rfl ⟨h4, h5⟩ (fun i hi => absurd hi (Nat.not_lt_zero i))
    rw [hGL] at a2
    refine ⟨I1, wp_X9_dividesBy hm ?_, a2⟩
    rw [h4]
    exact ⟨fun _ => a1, fun q => absurd ((nI_leI (by omega) (by omega)).mpr (by omega)) q⟩
end
