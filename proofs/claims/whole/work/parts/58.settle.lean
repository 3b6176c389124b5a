/-! A RESULT COMES INTO A SLOT: what it becomes; the class -/
variable {S : List mjD} {I : Nat → Nat → Int32} {L : Nat → Nat → Int64}
/-- reversed -/
def trn (W : Nat → Int64) : Nat → Int64 := fun t => pat W (dg W - nI t)
/-- mirrored -/
def mir (W : Nat → Int64) : Nat → Int64 := fun t => if (nI t - nI t / 2 * 2) = 0 then W t else -(W t)
/-- what a slot of kind k holds of W -/
noncomputable def shp (k : Nat) (W : Nat → Int64) : Nat → Int64 := if k = 1 then pp W else if k = 2 then eo (fP (rl (pp W))) (fN (rl (pp W))) else if k = 3 then trn W else if k = 4 then mir W else W
def aPut (A : aS) (j : Nat) (V : Nat → Int64) : aS := aCore A (ck (ac A), fun i => if i = j then true else cf (ac A) i, fun i => if i = j then V else cp (ac A) i, (ac A).2.2.2)
/-- within 999, decided -/
def inB (f : Nat → Int64) : Nat → Bool
  | 0 => true
  | k + 1 => inB f k && (decide (¬ f k < -999) && decide (f k ≤ 999))
theorem inB_iff {f : Nat → Int64} : inB f 6 = true ↔ inr6 f := by
  have key : ∀ n, inB f n = true ↔ ∀ k, k < n → ¬ f k < -999 ∧ f k ≤ 999 := by
    intro n
    induction n with
    | zero => exact ⟨fun _ k h => by omega, fun _ => rfl⟩
    | succ n ih =>
      rw [inB, Bool.and_eq_true, Bool.and_eq_true, ih, decide_eq_true_eq, decide_eq_true_eq]
      exact ⟨fun h k hk => by
        rcases Nat.eq_or_lt_of_le (Nat.lt_succ_iff.mp hk) with e | e
        · rw [e]; exact h.2
        · exact h.1 k e, fun h => ⟨fun k hk => h k (by omega), h n (by omega)⟩⟩
  exact key 6
theorem inr6_bnd {f : Nat → Int64} : inr6 f ↔ bnd6 f 999 := by
  have e1 : (-999 : Int64).toInt = -999 := rfl
  have e2 : (999 : Int64).toInt = 999 := rfl
  constructor
  · intro h k hk
    obtain ⟨h1, h2⟩ := h k hk
    rw [Int64.lt_iff_toInt_lt, e1] at h1
    rw [Int64.le_iff_toInt_le, e2] at h2
    omega
  · intro h k hk
    have := h k hk
    rw [Int64.lt_iff_toInt_lt, Int64.le_iff_toInt_le, e1, e2]
    omega
theorem inB_ext {f g : Nat → Int64} (h : ∀ k, k < 6 → f k = g k) : inB f 6 = inB g 6 := by
  have key : ∀ n, n ≤ 6 → inB f n = inB g n := by
    intro n
    induction n with
    | zero => exact fun _ => rfl
    | succ n ih => exact fun hn => by rw [inB, inB, ih (by omega), h n (by omega)]
  exact key 6 (Nat.le_refl _)
noncomputable def sp_settle (A : aS) (j : Nat) (W : Nat → Int64) : Int32 × aS := if inB W 6 then (if inB (shp (ck (ac A) j) W) 6 then (dg (shp (ck (ac A) j) W), aPut A j (shp (ck (ac A) j) W)) else (-104, A)) else (-104, A)
theorem trn_ext {f g : Nat → Int64} (h : ∀ k, k < 6 → f k = g k) (t : Nat) : trn f t = trn g t := by unfold trn; rw [dg_ext h, pat_ext h]
theorem mir_ext {f g : Nat → Int64} (h : ∀ k, k < 6 → f k = g k) {t : Nat} (ht : t < 6) : mir f t = mir g t := by unfold mir; rw [h t ht]
/-- the product of factors, each once, as a list -/
def el (P : Nat → List Int) : Nat → List Int
  | 0 => [1]
  | i + 1 => zmul (el P i) (P i)
theorem ofI_cz (f g : List Int) {k : Nat} (hk : k < 6) : cv (il f) (il g) k = Int64.ofInt (cz (zco f) (zco g) k) := by
  have z : (0 : Int64) = Int64.ofInt 0 := rfl
  have h : k = 0 ∨ k = 1 ∨ k = 2 ∨ k = 3 ∨ k = 4 ∨ k = 5 := by omega
  rcases h with rfl | rfl | rfl | rfl | rfl | rfl <;> simp only [cv, cz, il, Int64.ofInt_add, Int64.ofInt_mul, Int64.zero_add]
theorem eo_el (P : Nat → List Int) : ∀ n k, k < 6 → eo P n k = il (el P n) k
  | 0, k, hk => by
    have h : k = 0 ∨ k = 1 ∨ k = 2 ∨ k = 3 ∨ k = 4 ∨ k = 5 := by omega
    rcases h with rfl | rfl | rfl | rfl | rfl | rfl <;> rfl
  | n + 1, k, hk => by
    rw [eo, cv_congr6 hk (fun j hj => eo_el P n j hj) (fun _ _ => rfl), ofI_cz _ _ hk, el]
    show _ = Int64.ofInt (zco (zmul (el P n) (P n)) k)
    rw [zmul_cz _ _ hk]
theorem zev_el (P : Nat → List Int) (x : Int) : ∀ n, zev (el P n) x = fpr P (fun _ => 1) n x
  | 0 => by simp [el, fpr, zev]
  | n + 1 => by rw [el, zev_mul, zev_el P x n, fpr, Int.pow_one]
/-- the rest of the powers -/
theorem fpr_once {P : Nat → List Int} {M : Nat → Nat} (x : Int) : ∀ n, (∀ j, j < n → 1 ≤ M j) → fpr P M n x = fpr P (fun _ => 1) n x * fpr P (fun j => M j - 1) n x
  | 0, _ => by simp [fpr]
  | n + 1, h => by
    have h1 := h n (by omega)
    rw [fpr, fpr, fpr, fpr_once x n (fun j hj => h j (by omega))]
    obtain ⟨k, hk⟩ : ∃ k, M n = k + 1 := ⟨M n - 1, by omega⟩
    rw [hk, Nat.add_sub_cancel, Int.pow_succ, Int.pow_one]; grind
theorem shp_nz {k : Nat} {W : Nat → Int64} (hW : okp W) (hf : isF (rl (pp W)) (fN (rl (pp W))) (fP (rl (pp W))) (fM (rl (pp W)))) : ∃ t, t < 6 ∧ shp k W t ≠ 0 := by
  obtain ⟨n, hn, hdp, hpos, hbp, -, -, -, -, hG⟩ := pp_ok hW
  unfold shp
  by_cases k1 : k = 1
  · rw [if_pos k1]; exact ⟨n, hdp.1, hdp.2.1⟩
  · rw [if_neg k1]
    by_cases k2 : k = 2
    · rw [if_pos k2]
      -- the leading coefficient of the product divides the leading coefficient
      have he : ∀ x, zev (rl (pp W)) x = zev (el (fP (rl (pp W))) (fN (rl (pp W)))) x * zev (fpl (fP (rl (pp W))) (fun j => fM (rl (pp W)) j - 1) (fN (rl (pp W)))) x := fun x => by
        rw [hf.2 x, fpr_once x _ (fun j hj => (hf.1.1 j hj).1), zev_el, zev_fpl]
      obtain ⟨hl, hc⟩ := deg6_zlt hdp
      obtain ⟨a, b, hab, ha, hb, ha0, hb0, hm⟩ := zdeg_mul he hl hc
      have hn6 := hdp.1
      refine ⟨a, by omega, fun e => ?_⟩
      rw [eo_el _ _ _ (by omega)] at e
      have e2 := congrArg Int64.toInt e
      have hd : (zco (el (fP (rl (pp W))) (fN (rl (pp W)))) a).natAbs ≤ 999 := by
        have h1 : (zco (el (fP (rl (pp W))) (fN (rl (pp W)))) a).natAbs ∣ (zco (rl (pp W)) n).natAbs := Int.natAbs_dvd_natAbs.mpr (by rw [hm]; exact Int.dvd_mul_right _ _)
        have h2 := Nat.le_of_dvd (by omega) h1
        have h3 := hbp n hn6
        rw [rl_co _ hn6] at h2
        omega
      unfold il at e2
      rw [Int64.toInt_ofInt_of_le (by omega) (by omega)] at e2
      exact ha0 e2
    · rw [if_neg k2]
      by_cases k3 : k = 3
      · rw [if_pos k3]
        refine ⟨0, by decide, ?_⟩
        unfold trn
        have e : dg W - nI 0 = nI n := by rw [deg6_dg hn, pk_sub (Nat.zero_le _), Nat.sub_zero]
        rw [e, pat_n hn.1]; exact hn.2.1
      · rw [if_neg k3]
        by_cases k4 : k = 4
        · rw [if_pos k4]
          refine ⟨n, hn.1, ?_⟩
          unfold mir
          split
          · exact hn.2.1
          · intro e
            have h2 : W n = -(-(W n)) := by simp
            rw [e] at h2
            exact hn.2.1 (by rw [h2]; rfl)
        · rw [if_neg k4]; exact ⟨n, hn.1, hn.2.1⟩
section
variable {p : Nat} {A : aS}
theorem s_inRange {q : Nat} {V : Nat → Int64} (hq : is_Poly S q) (hV : ∀ k, k < 6 → L (q + 1) k = V k) : CTi mr_X5_isInRange [.ref q] S I L (bI (inB V 6)) I L := by
  refine s_isInRange hq _ ?_
  rw [← inB_ext hV]
  cases h : inB (L (q + 1)) 6 with
  | true => exact Or.inl ⟨inB_iff.mp h, rfl⟩
  | false => exact Or.inr ⟨fun h2 => (by rw [inB_iff.mpr h2] at h; cases h), rfl⟩
theorem c_tail {j : Nat} {V : Nat → Int64} (hd : is_Desk S p) (h : IC p A I L) (hj : j < 4) (hV : ∀ k, k < 6 → L (p + 10 + 1) k = V k) (hnz : ∃ t, t < 6 ∧ V t ≠ 0) :
    ∃ R A' I1 L1, (R, A') = (if inB V 6 then (dg V, aPut A j V) else ((-104 : Int32), A)) ∧ IC p A' I1 L1 ∧ fr (coX p) I L I1 L1 ∧
      (∃ r60 I61 L62, CTi mr_X5_isInRange [.ref (p + 10)] S I L r60 I61 L62 ∧ ((¬ r60 = 0 → ∃ I68 L69, CTv mr_X5_copyFrom [.ref (p + 46 + 32 * j + 1), .ref (p + 10)] S I61 L62 I68 L69 ∧ ∃ I73 L74, CTv mr_X0_run [.ref (p + 12), .ref (p + 46 + 32 * j + 1), .ref (p + 46 + 32 * j + 3)] S (mj_up I68 (p + 46 + 32 * j) 3 (1 : Int32)) L69 I73 L74 ∧ ∃ r77 I78 L79, CTi mr_X5_degree [.ref (p + 46 + 32 * j + 1)] S I73 L74 r77 I78 L79 ∧ (some (Value.int r77) = some (Value.int R) ∧ (S, I78, L79) = (S, I1, L1))) ∧ (r60 = 0 → (some (Value.int (-104)) = some (Value.int R) ∧ (S, I61, L62) = (S, I1, L1))))) := by
  have hsh : is_Poly S (p + 10) := hd.2.2.2.2.2.1
  have hfa : is_Factoring S (p + 12) := hd.2.2.2.2.2.2.1
  have hsl := c_slotAt hd hj
  have hr := s_inRange (S := S) (I := I) (L := L) hsh hV
  cases hb : inB V 6 with
  | false =>
    rw [hb] at hr
    exact ⟨-104, A, I, L, rfl, h, fr_rf, _, _, _, hr, fun q => absurd rfl q, fun _ => ⟨rfl, rfl⟩⟩
  | true =>
    rw [hb] at hr
    have c1 := s_copy (S := S) (I := I) (L := L) hsl.2.1 hsh
    obtain ⟨L2, hL2⟩ : ∃ L2, L2 = mwn L (p + 46 + 32 * j + 1 + 1) 6 (L (p + 10 + 1)) := ⟨_, rfl⟩
    rw [← hL2] at c1
    obtain ⟨I2, hI2⟩ : ∃ I2, I2 = mj_up I (p + 46 + 32 * j) 3 (1 : Int32) := ⟨_, rfl⟩
    have row : ∀ k, k < 6 → L2 (p + 46 + 32 * j + 1 + 1) k = V k := fun k hk => by rw [hL2, mwn_at hk]; exact hV k hk
    have hokV : okp V := ⟨inr6_bnd.mp (inB_iff.mp hb), hnz⟩
    have hok2 : okp (L2 (p + 46 + 32 * j + 1 + 1)) := okp_ext hokV (fun k hk => (row k hk).symm)
    obtain ⟨I3, L3, r1, r2, r3, r4⟩ := s_run (S := S) (I := I2) (L := L2) (p := p + 12) (q := p + 46 + 32 * j + 1) (r := p + 46 + 32 * j + 3) hfa hsl.2.1 hsl.2.2 (by omega) (by omega) (by omega) hok2
    rw [rlpp_ext row] at r3 r4
    have fr2 : fr (fun b => p + 46 + 32 * j ≤ b ∧ b < p + 46 + 32 * j + 16) I L I2 L2 := fun b hb => ⟨by rw [hI2, up_ne (by omega)], by rw [hL2, mwn_ne (by omega)]⟩
    have hX : ∀ b, fcX (p + 12) (p + 46 + 32 * j + 3) b → (p + 12 ≤ b ∧ b < p + 21) ∨ (p + 46 + 32 * j + 3 ≤ b ∧ b < p + 46 + 32 * j + 16) := fun b hb => by
      rcases hb with hb | hb
      · exact Or.inl ⟨hb.1, by omega⟩
      · unfold fX at hb; exact Or.inr ⟨hb.1, by omega⟩
    have frA : fr (fun b => (p + 12 ≤ b ∧ b < p + 21) ∨ (p + 46 + 32 * j ≤ b ∧ b < p + 46 + 32 * j + 16)) I L I3 L3 := fr_tr fr2 r2 (fun b hb => by
      rcases hb with hb | hb
      · exact Or.inr hb
      · rcases hX b hb with hb | hb
        · exact Or.inl hb
        · exact Or.inr ⟨by omega, hb.2⟩)
    have row3 : L3 (p + 46 + 32 * j + 1 + 1) = L2 (p + 46 + 32 * j + 1 + 1) := (r2 _ (fun z => by have := hX _ z; omega)).2
    have cdg := s_degree (S := S) (I := I3) (L := L3) hsl.2.1
    rw [row3, dg_ext row] at cdg
    refine ⟨dg V, aPut A j V, I3, L3, rfl, IC_co h (fr_mono frA (fun b hb => by
      rcases hb with hb | hb
      · exact Or.inr (Or.inr ⟨by omega, by omega⟩)
      · exact Or.inr (Or.inl ⟨j, hj, hb⟩))) ⟨fun i hi => ?_, ?_⟩, fr_mono frA (fun b hb => by
      rcases hb with hb | hb
      · exact Or.inr (Or.inr ⟨by omega, by omega⟩)
      · exact Or.inr (Or.inl ⟨j, hj, hb⟩)), _, _, _, hr, fun _ => ⟨_, _, c1, _, _, by rw [← hI2]; exact r1, _, _, _, cdg, rfl, rfl⟩, fun q => absurd q (by decide)⟩
    · show slR _ (ck (ac A) i) (if i = j then true else cf (ac A) i) (if i = j then V else cp (ac A) i) _ _
      by_cases e : i = j
      · subst e
        rw [if_pos rfl, if_pos rfl]
        have e0 : I3 (p + 46 + 32 * i) = I2 (p + 46 + 32 * i) := (r2 _ (fun z => by have := hX _ z; omega)).1
        refine ⟨by rw [e0, hI2, up_nk (by decide)]; exact (h.2.2.2.1.1 i hi).1, by rw [e0, hI2, up_eq]; rfl, fun _ => ⟨fun t ht => by rw [row3]; exact row t ht, r3, r4⟩⟩
      · rw [if_neg e, if_neg e]
        exact slR_fr (h.2.2.2.1.1 i hi) frA (fun b x1 x2 z => by omega)
    · exact ntR_fr h.2.2.2.1.2 frA (fun b x1 x2 z => by omega)
/-- the polynomial in work comes into a slot -/
theorem c_settle {j : Nat} {W : Nat → Int64} (hd : is_Desk S p) (hA : aOK A) (h : IC p A I L) (hj : j < 4) (hW : ∀ k, k < 6 → L (p + 8 + 1) k = W k) (hnz : ∃ t, t < 6 ∧ W t ≠ 0) :
    ∃ I1 L1, CTi mr_X8_settle [.ref p, .ref (p + 46 + 32 * j)] S I L (sp_settle A j W).1 I1 L1 ∧ IC p (sp_settle A j W).2 I1 L1 ∧ fr (coX p) I L I1 L1 := by
  have hwk : is_Poly S (p + 8) := hd.2.2.2.2.1
  have hsh : is_Poly S (p + 10) := hd.2.2.2.2.2.1
  have hfa : is_Factoring S (p + 12) := hd.2.2.2.2.2.2.1
  have hwf : is_Factors S (p + 21) := hd.2.2.2.2.2.2.2.1
  have hsl := c_slotAt hd hj
  have hk5 := (hA.2.2.2.2.1.1 j hj).1
  have hkind : I (p + 46 + 32 * j) 2 = nI (ck (ac A) j) := (h.2.2.2.1.1 j hj).1
  have hr := s_inRange (S := S) (I := I) (L := L) hwk hW
  unfold sp_settle
  cases hb : inB W 6 with
  | false =>
    rw [hb] at hr
    exact ⟨I, L, wp_X8_settle hd hsl ⟨_, _, _, hr, fun q => absurd rfl q, fun _ => ⟨rfl, rfl⟩⟩, h, fr_rf⟩
  | true =>
    rw [hb] at hr
    rw [if_pos rfl]
    have hokW : okp W := ⟨inr6_bnd.mp (inB_iff.mp hb), hnz⟩
    have hok2 : okp (L (p + 8 + 1)) := okp_ext hokW (fun k hk => (hW k hk).symm)
    generalize hkk : ck (ac A) j = kd at *
    have hsc : ∀ V : Nat → Int64, fr (scX p) I L I (mwn L (p + 10 + 1) 6 V) := fun V => fr_L (by unfold scX; omega)
    -- the common end
    have tail : ∀ {I2 : Nat → Nat → Int32} {L2 : Nat → Nat → Int64}, fr (scX p) I L I2 L2 → (∀ k, k < 6 → L2 (p + 10 + 1) k = shp kd W k) → (∃ t, t < 6 ∧ shp kd W t ≠ 0) → ∃ I1 L1, IC p (if inB (shp kd W) 6 then (dg (shp kd W), aPut A j (shp kd W)) else ((-104 : Int32), A)).2 I1 L1 ∧ fr (coX p) I L I1 L1 ∧
      (∃ r60 I61 L62, CTi mr_X5_isInRange [.ref (p + 10)] S I2 L2 r60 I61 L62 ∧ ((¬ r60 = 0 → ∃ I68 L69, CTv mr_X5_copyFrom [.ref (p + 46 + 32 * j + 1), .ref (p + 10)] S I61 L62 I68 L69 ∧ ∃ I73 L74, CTv mr_X0_run [.ref (p + 12), .ref (p + 46 + 32 * j + 1), .ref (p + 46 + 32 * j + 3)] S (mj_up I68 (p + 46 + 32 * j) 3 (1 : Int32)) L69 I73 L74 ∧ ∃ r77 I78 L79, CTi mr_X5_degree [.ref (p + 46 + 32 * j + 1)] S I73 L74 r77 I78 L79 ∧ (some (Value.int r77) = some (Value.int (if inB (shp kd W) 6 then (dg (shp kd W), aPut A j (shp kd W)) else ((-104 : Int32), A)).1) ∧ (S, I78, L79) = (S, I1, L1))) ∧ (r60 = 0 → (some (Value.int (-104)) = some (Value.int (if inB (shp kd W) 6 then (dg (shp kd W), aPut A j (shp kd W)) else ((-104 : Int32), A)).1) ∧ (S, I61, L62) = (S, I1, L1))))) := fun {I2 L2} hf hrow hz => by
      obtain ⟨R, A', I1, L1, e, k1, k2, k3⟩ := c_tail (S := S) (I := I2) (L := L2) hd (IC_sc h hf) hj hrow hz
      rw [← e]
      exact ⟨I1, L1, k1, fr_tr hf k2 (fun b hb => by
        rcases hb with hb | hb
        · exact Or.inr (Or.inr hb)
        · exact hb), k3⟩
    -- the factors of W exist
    obtain ⟨I5, L5, w1, w2, w3, w4⟩ := s_run (S := S) (I := I) (L := L) (p := p + 12) (q := p + 8) (r := p + 21) hfa hwk hwf (by omega) (by omega) (by omega) hok2
    have hf : isF (rl (pp W)) (fN (rl (pp W))) (fP (rl (pp W))) (fM (rl (pp W))) := by rw [← rlpp_ext hW]; exact w3
    have hnzS := shp_nz (k := kd) hokW hf
    have k5 : kd = 0 ∨ kd = 1 ∨ kd = 2 ∨ kd = 3 ∨ kd = 4 := by omega
    have no : ∀ {k : Nat} {x : Int32}, kd = k → k < 5 → I (p + 46 + 32 * j) 2 = x → x = nI k := fun hk _ hx => by rw [← hx, hkind, hk]
    rcases k5 with e | e | e | e | e
    · have es : shp kd W = W := by unfold shp; simp [e]
      have c1 := s_copy (S := S) (I := I) (L := L) hsh hwk
      obtain ⟨I1, L1, t1, t2, t3⟩ := tail (hsc (L (p + 8 + 1))) (fun k hk => by rw [mwn_at hk, es]; exact hW k hk) hnzS
      refine ⟨I1, L1, wp_X8_settle hd hsl ⟨_, _, _, hr, fun _ => ?_, fun q => absurd q (by decide)⟩, t1, t2⟩
      have hki : I (p + 46 + 32 * j) 2 = nI 0 := by rw [hkind, e]
      rw [hki]
      exact ⟨fun q => absurd q (by decide), fun q => absurd q (by decide), fun q => absurd q (by decide), fun q => absurd q (by decide), fun _ => ⟨_, _, c1, t3⟩⟩
    · have es : shp kd W = pp W := by unfold shp; simp [e]
      obtain ⟨-, -, -, -, -, hc0, -, -, -, -⟩ := pp_ok hokW
      have hc0' : cont (L (p + 8 + 1)) ≠ 0 := fun q => hc0 (by rw [← cont_ext hW, q]; rfl)
      have c1 := s_copy (S := S) (I := I) (L := L) hsh hwk
      have c2 := s_content (S := S) (I := I) (L := mwn L (p + 10 + 1) 6 (L (p + 8 + 1))) hwk (by rw [mwn_ne (by omega)]; exact fun k hk => Nat.le_trans (hok2.1 k hk) (by decide))
      rw [mwn_ne (b := p + 8 + 1) (by omega)] at c2
      have c3 := s_divideBy (S := S) (I := I) (L := mwn L (p + 10 + 1) 6 (L (p + 8 + 1))) hsh hc0'
      have e3 : mwn (mwn L (p + 10 + 1) 6 (L (p + 8 + 1))) (p + 10 + 1) 6 (fun k => mwn L (p + 10 + 1) 6 (L (p + 8 + 1)) (p + 10 + 1) k / cont (L (p + 8 + 1))) = mwn L (p + 10 + 1) 6 (pp W) := by
        rw [mwn_mwn]; exact mwn_congr (fun k hk => by rw [mwn_at hk, hW k hk, cont_ext hW]; rfl)
      rw [e3] at c3
      obtain ⟨I1, L1, t1, t2, t3⟩ := tail (hsc (pp W)) (fun k hk => by rw [mwn_at hk, es]) hnzS
      refine ⟨I1, L1, wp_X8_settle hd hsl ⟨_, _, _, hr, fun _ => ?_, fun q => absurd q (by decide)⟩, t1, t2⟩
      have hki : I (p + 46 + 32 * j) 2 = nI 1 := by rw [hkind, e]
      rw [hki]
      exact ⟨fun _ => ⟨_, _, c1, _, _, _, c2, _, _, c3, t3⟩, fun q => absurd q (by decide), fun q => absurd q (by decide), fun q => absurd q (by decide), fun q => absurd q (by decide)⟩
    · have es : shp kd W = eo (fP (rl (pp W))) (fN (rl (pp W))) := by unfold shp; simp [e]
      have c2 := s_eachOnce (S := S) (I := I5) (L := L5) (p := p + 21) (q := p + 10) hwf hsh (by omega) w4
      have fsc : fr (scX p) I L I5 L5 := fr_mono w2 (fun b hb => by
        unfold scX
        rcases hb with hb | hb
        · omega
        · unfold fX at hb; omega)
      obtain ⟨I1, L1, t1, t2, t3⟩ := tail (fr_tr fsc (fr_L (X := fun b => b = p + 10 + 1) (f := eo (fP (rl (pp (L (p + 8 + 1))))) (fN (rl (pp (L (p + 8 + 1)))))) rfl) (fun b hb => by
        rcases hb with hb | hb
        · exact hb
        · unfold scX; omega)) (fun k hk => by rw [mwn_at hk, es, rlpp_ext hW]) hnzS
      refine ⟨I1, L1, wp_X8_settle hd hsl ⟨_, _, _, hr, fun _ => ?_, fun q => absurd q (by decide)⟩, t1, t2⟩
      have hki : I (p + 46 + 32 * j) 2 = nI 2 := by rw [hkind, e]
      rw [hki]
      exact ⟨fun q => absurd q (by decide), fun _ => ⟨_, _, w1, _, _, c2, t3⟩, fun q => absurd q (by decide), fun q => absurd q (by decide), fun q => absurd q (by decide)⟩
    · have es : shp kd W = trn W := by unfold shp; simp [e]
      have c1 := s_reverseFrom (S := S) (I := I) (L := L) hsh hwk (by omega)
      obtain ⟨I1, L1, t1, t2, t3⟩ := tail (hsc (fun k => pat (L (p + 8 + 1)) (dg (L (p + 8 + 1)) - nI k))) (fun k hk => by rw [mwn_at hk, es]; exact trn_ext hW k) hnzS
      refine ⟨I1, L1, wp_X8_settle hd hsl ⟨_, _, _, hr, fun _ => ?_, fun q => absurd q (by decide)⟩, t1, t2⟩
      have hki : I (p + 46 + 32 * j) 2 = nI 3 := by rw [hkind, e]
      rw [hki]
      exact ⟨fun q => absurd q (by decide), fun q => absurd q (by decide), fun _ => ⟨_, _, c1, t3⟩, fun q => absurd q (by decide), fun q => absurd q (by decide)⟩
    · have es : shp kd W = mir W := by unfold shp; simp [e]
      have c1 := s_mirrorFrom (S := S) (I := I) (L := L) hsh hwk
      obtain ⟨I1, L1, t1, t2, t3⟩ := tail (hsc (fun k => if (nI k - nI k / 2 * 2) = 0 then L (p + 8 + 1) k else -(L (p + 8 + 1) k))) (fun k hk => by rw [mwn_at hk, es]; exact mir_ext hW hk) hnzS
      refine ⟨I1, L1, wp_X8_settle hd hsl ⟨_, _, _, hr, fun _ => ?_, fun q => absurd q (by decide)⟩, t1, t2⟩
      have hki : I (p + 46 + 32 * j) 2 = nI 4 := by rw [hkind, e]
      rw [hki]
      exact ⟨fun q => absurd q (by decide), fun q => absurd q (by decide), fun q => absurd q (by decide), fun _ => ⟨_, _, c1, t3⟩, fun q => absurd q (by decide)⟩
end
