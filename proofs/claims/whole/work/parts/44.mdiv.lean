/-! THE REFERENCE: its gcd, its degree, its division -/
variable {S : List mjD} {I : Nat → Nat → Int32} {L : Nat → Nat → Int64}
theorem m_above (a : Int64) : CTl mr_X9_above [.long a] S I L (if 0 ≤ a then a else -a) I L := wp_X9_above ⟨fun h => ⟨by simp [h], rfl⟩, fun h => ⟨by simp [h], rfl⟩⟩
theorem m_aboveN {a : Int64} (h : -2 ^ 63 < a.toInt) : CTl mr_X9_above [.long a] S I L (lN a.toInt.natAbs) I L := by
  have := m_above (S := S) (I := I) (L := L) a
  rwa [t_abs h] at this
theorem m_gcd0 : ∀ n m, m < 2 ^ 63 → n < 2 ^ 63 → hd_X9_divisor_12 S (fun v h => v = some (.long (lN (Nat.gcd m n))) ∧ h = (S, I, L)) (lN m) (lN n) I L := by
  intro n
  induction n using Nat.strongRecOn with
  | ind n ih =>
    intro m hm hn
    rcases Nat.eq_zero_or_pos n with e | e
    · subst e
      exact it_X9_divisor_12 ⟨fun _ => ⟨by rw [Nat.gcd_zero_right], rfl⟩, fun h => absurd rfl h⟩
    · have h0 : ¬ lN n = 0 := fun h => absurd ((pk_lEQ (b := 0) hn (by decide)).mp h) (by omega)
      have hr := Nat.mod_lt m e
      refine it_X9_divisor_12 ⟨fun h => absurd h h0, fun _ => ⟨h0, fun y hy => ?_⟩⟩
      rw [hy, pk_lRem hm e hn, Nat.gcd_comm m n, Nat.gcd_rec n m, Nat.gcd_comm (m % n) n]
      exact ih (m % n) hr n hn (by omega)
theorem m_divisor {a b : Int64} (ha : -2 ^ 63 < a.toInt) (hb : -2 ^ 63 < b.toInt) : CTl mr_X9_divisor [.long a, .long b] S I L (lN (Nat.gcd a.toInt.natAbs b.toInt.natAbs)) I L := by
  have h1 := a.toInt_lt
  have h2 := b.toInt_lt
  exact wp_X9_divisor ⟨_, _, _, m_aboveN ha, _, _, _, m_aboveN hb, m_gcd0 _ _ (by omega) (by omega)⟩
theorem m_degreeBy (f : Nat → Int64) : CTi mr_X9_degreeBy [.long (f 0), .long (f 1), .long (f 2), .long (f 3), .long (f 4), .long (f 5)] S I L (dg f) I L :=
  wp_X9_degreeBy ⟨fun h5 => ⟨fun h4 => ⟨fun h3 => ⟨fun h2 => ⟨fun h1 => ⟨fun h0 => ⟨by simp [dg, dgF, h0, h1, h2, h3, h4, h5], rfl⟩, fun h0 => ⟨by simp [dg, dgF, h0, h1, h2, h3, h4, h5]; rfl, rfl⟩⟩, fun h1 => ⟨by simp [dg, dgF, h1, h2, h3, h4, h5]; rfl, rfl⟩⟩, fun h2 => ⟨by simp [dg, dgF, h2, h3, h4, h5]; rfl, rfl⟩⟩, fun h3 => ⟨by simp [dg, dgF, h3, h4, h5]; rfl, rfl⟩⟩, fun h4 => ⟨by simp [dg, dgF, h4, h5]; rfl, rfl⟩⟩, fun h5 => ⟨by simp [dg, dgF, h5]; rfl, rfl⟩⟩
theorem m_degreeNow {m : Nat} (hm : is_Model S m) : CTi mr_X9_degreeNow [.ref m] S I L (dg (L (m + 10))) I L := wp_X9_degreeNow hm ⟨_, _, _, m_degreeBy (L (m + 10)), rfl, rfl⟩
theorem up_mwn {α : Type} {L : Nat → Nat → α} {a b n k : Nat} {f : Nat → α} {x : α} (h : a ≠ b) : mj_up (mwn L a n f) b k x = mwn (mj_up L b k x) a n f := by
  funext c j
  unfold mj_up mwn
  by_cases hb : c = b
  · subst hb; simp [Ne.symm h]
  · simp [hb]
/-- adding v in the place i -/
theorem cz_upd {f f' g : Nat → Int} {i : Nat} {v : Int} (hi : i < 6) (h0 : f i = 0) (hv : f' i = v) (hf : ∀ a, a < 6 → a ≠ i → f' a = f a) {t : Nat} (ht : t < 6) : cz f' g t = cz f g t + (if i ≤ t then v * g (t - i) else 0) := by
  have e : i = 0 ∨ i = 1 ∨ i = 2 ∨ i = 3 ∨ i = 4 ∨ i = 5 := by omega
  have e2 : t = 0 ∨ t = 1 ∨ t = 2 ∨ t = 3 ∨ t = 4 ∨ t = 5 := by omega
  rcases e with rfl | rfl | rfl | rfl | rfl | rfl
  · rcases e2 with rfl | rfl | rfl | rfl | rfl | rfl <;> simp only [cz, h0, hv, hf 1 (by decide) (by decide), hf 2 (by decide) (by decide), hf 3 (by decide) (by decide), hf 4 (by decide) (by decide), hf 5 (by decide) (by decide)] <;> simp <;> omega
  · rcases e2 with rfl | rfl | rfl | rfl | rfl | rfl <;> simp only [cz, h0, hv, hf 0 (by decide) (by decide), hf 2 (by decide) (by decide), hf 3 (by decide) (by decide), hf 4 (by decide) (by decide), hf 5 (by decide) (by decide)] <;> simp <;> omega
  · rcases e2 with rfl | rfl | rfl | rfl | rfl | rfl <;> simp only [cz, h0, hv, hf 0 (by decide) (by decide), hf 1 (by decide) (by decide), hf 3 (by decide) (by decide), hf 4 (by decide) (by decide), hf 5 (by decide) (by decide)] <;> simp <;> omega
  · rcases e2 with rfl | rfl | rfl | rfl | rfl | rfl <;> simp only [cz, h0, hv, hf 0 (by decide) (by decide), hf 1 (by decide) (by decide), hf 2 (by decide) (by decide), hf 4 (by decide) (by decide), hf 5 (by decide) (by decide)] <;> simp <;> omega
  · rcases e2 with rfl | rfl | rfl | rfl | rfl | rfl <;> simp only [cz, h0, hv, hf 0 (by decide) (by decide), hf 1 (by decide) (by decide), hf 2 (by decide) (by decide), hf 3 (by decide) (by decide), hf 5 (by decide) (by decide)] <;> simp <;> omega
  · rcases e2 with rfl | rfl | rfl | rfl | rfl | rfl <;> simp only [cz, h0, hv, hf 0 (by decide) (by decide), hf 1 (by decide) (by decide), hf 2 (by decide) (by decide), hf 3 (by decide) (by decide), hf 4 (by decide) (by decide)] <;> simp <;> omega
/-- the division's end: the rest must be 0 -/
theorem m_div152 {m d : Nat} (hm : is_Model S m) (hd6 : d < 6) (hd : I m 26 = nI d) : ∀ i, i ≤ d → ∀ b0 : Bool, ∃ b : Bool, hd_X9_divides_152 S (fun v h => v = some (.int (if b then 1 else 0)) ∧ h = (S, I, L)) m (if b0 then 1 else 0) (nI i) I L ∧ (b = true ↔ (b0 = true ∧ ∀ k, i ≤ k → k < d → L (m + 17) k = 0)) := by
  refine up_loop d (fun b0 => ⟨b0, it_X9_divides_152 hm ?_, ⟨fun h => ⟨h, fun k h1 h2 => by omega⟩, fun h => h.1⟩⟩) (fun i hi ih b0 => ?_)
  · rw [hd]; exact ge_t (Nat.le_refl _) (by omega) ⟨by cases b0 <;> simp, rfl, rfl⟩
  · have hv : vp_in (nI i) 6 := vp_in_nI (by omega) (by decide)
    cases b0 with
    | false =>
      obtain ⟨b, h1, h2⟩ := ih false
      refine ⟨b, it_X9_divides_152 hm ?_, ⟨fun h => (by have := (h2.mp h).1; cases this), fun h => (by have := h.1; cases this)⟩⟩
      rw [hd]; exact ge_f hi (by omega) ⟨fun _ y hy => by rw [hy, nI_1]; exact h1, fun h => absurd rfl h⟩
    | true =>
      by_cases c : L (m + 17) i = 0
      · obtain ⟨b, h1, h2⟩ := ih true
        refine ⟨b, it_X9_divides_152 hm ?_, h2.trans ⟨fun h => ⟨rfl, fun k k1 k2 => ?_⟩, fun h => ⟨rfl, fun k k1 k2 => h.2 k (by omega) k2⟩⟩⟩
        · rw [hd]; exact ge_f hi (by omega) ⟨fun h => absurd (show (1 : Int32) = 0 from h) (by decide), fun _ => ⟨hv, fun h => absurd (by rw [nI_clamp (by omega)]; exact c) h, fun _ y hy => by rw [hy, nI_1]; exact h1⟩⟩
        · rcases Nat.eq_or_lt_of_le k1 with e | e
          · rw [← e]; exact c
          · exact h.2 k e k2
      · obtain ⟨b, h1, h2⟩ := ih false
        refine ⟨b, it_X9_divides_152 hm ?_, ⟨fun h => (by have := (h2.mp h).1; cases this), fun h => absurd (h.2 i (Nat.le_refl _) hi) c⟩⟩
        rw [hd]; exact ge_f hi (by omega) ⟨fun h => absurd (show (1 : Int32) = 0 from h) (by decide), fun _ => ⟨hv, fun _ y hy => by rw [hy, nI_1]; exact h1, fun h => absurd (by rw [nI_clamp (by omega)] at h; exact h) c⟩⟩
/-- a turn of the division -/
theorem m_div101 {m d i : Nat} {v : Int64} (hm : is_Model S m) (hi : i + d < 6) (hd : I m 26 = nI d) {RET : Option Value → mjH → Prop} (hk : ∀ y : Int32, y = nI (i + d) + (-1) → hd_X9_divides_38 S RET m y I (mwn L (m + 17) 6 (fun t => if i ≤ t ∧ t ≤ i + d then L (m + 17) t - v * L (m + 15) (t - i) else L (m + 17) t))) : hd_X9_divides_101 S RET m (nI (i + d)) v 0 I L := by
  have key := up_loop (P := fun e => hd_X9_divides_101 S RET m (nI (i + d)) v (nI e) I (mwn L (m + 17) 6 (fun t => if i ≤ t ∧ t < i + e then L (m + 17) t - v * L (m + 15) (t - i) else L (m + 17) t))) (d + 1)
    (it_X9_divides_101 hm (by
      rw [hd]
      refine ⟨fun _ y hy => ?_, fun h => absurd (nI_lt (by omega) (by omega)) h⟩
      have := hk y hy
      rwa [mwn_congr (g := fun t => if i ≤ t ∧ t < i + (d + 1) then L (m + 17) t - v * L (m + 15) (t - i) else L (m + 17) t) (fun k _ => by
        by_cases c : i ≤ k ∧ k ≤ i + d
        · rw [if_pos c, if_pos ⟨c.1, by omega⟩]
        · rw [if_neg c, if_neg (fun z => c ⟨z.1, by omega⟩)])] at this))
    (fun e he ih => it_X9_divides_101 hm (by
      rw [hd]
      have ex : (nI (i + d) - nI d) + nI e = nI (i + e) := by rw [pk_sub (by omega), nI_add]; congr 1; omega
      rw [ex]
      refine ⟨fun h => absurd h (nI_nlt (by omega) (by omega)), fun _ => ⟨vp_in_nI (by omega) (by decide), vp_in_nI (by omega) (by decide), vp_in_nI (by omega) (by decide), fun y hy => ?_⟩⟩
      rw [hy, nI_1, nI_clamp (by omega), nI_clamp (by omega), mwn_up (by omega), mwn_at (by omega), mwn_ne (b := m + 15) (by omega), if_neg (by omega)]
      rwa [mwn_congr (g := fun t => if i ≤ t ∧ t < i + (e + 1) then L (m + 17) t - v * L (m + 15) (t - i) else L (m + 17) t) (fun k _ => by
        by_cases c : k = i + e
        · subst c; rw [if_pos rfl, if_pos ⟨by omega, by omega⟩, show i + e - i = e by omega]
        · rw [if_neg c]
          by_cases c2 : i ≤ k ∧ k < i + e
          · rw [if_pos c2, if_pos ⟨c2.1, by omega⟩]
          · rw [if_neg c2, if_neg (fun z => c2 ⟨z.1, by omega⟩)])]))
  have := key 0 (by omega)
  rwa [show mwn L (m + 17) 6 (fun t => if i ≤ t ∧ t < i + 0 then L (m + 17) t - v * L (m + 15) (t - i) else L (m + 17) t) = L from by
    funext b k
    unfold mwn
    by_cases hb : b = m + 17 ∧ k < 6
    · rw [if_pos hb]
      show (if i ≤ k ∧ k < i + 0 then L (m + 17) k - v * L (m + 15) (k - i) else L (m + 17) k) = L b k
      rw [if_neg (by omega), hb.1]
    · rw [if_neg hb]] at this
/-- where the division works -/
def mdX (m b : Nat) : Prop := b = m + 16 ∨ b = m + 17
theorem m_div38 {m n d B C : Nat} {T : Nat → Int64} (hm : is_Model S m) (hn : deg6 (L (m + 14)) n) (hT : ∀ k, k ≤ d → L (m + 15) k = T k) (hTd : deg6 T d) (hld : I m 26 = nI d) (hd1 : 1 ≤ d) (hdn : d ≤ n) (hB : bnd6 (L (m + 14)) B) (hC : bnd6 T C) (hC1 : 1 ≤ C) (hO : B * (1 + C) ^ (n - d + 1) < 2 ^ 63) :
    ∀ i, i ≤ n - d + 1 → ∀ L', fr (mdX m) I L I L' → qinv (L (m + 14)) T n d B C i (L' (m + 16)) → (∀ t, t < 6 → (L' (m + 17) t).toInt = (L (m + 14) t).toInt - cz (ti (L' (m + 16))) (ti T) t) →
      ∃ (b : Bool) (L1 : Nat → Nat → Int64), hd_X9_divides_38 S (fun v h => v = some (.int (if b then 1 else 0)) ∧ h = (S, I, L1)) m (nI (i + d) + (-1)) I L' ∧ fr (mdX m) I L I L1 ∧
        (b = true → (∀ x, zev (rl (L (m + 14))) x = zev (rl (L1 (m + 16))) x * zev (rl T) x) ∧ deg6 (L1 (m + 16)) (n - d) ∧ sA (L1 (m + 16)) ≤ B * (1 + C) ^ (n - d + 1)) ∧ (b = false → ¬ zdv (rl T) (zev (rl (L (m + 14))))) := by
  have hn6 := hn.1
  have hd6 := hTd.1
  have hl0 : ¬ T d = 0 := hTd.2.1
  have e26 : (I m 26).toNatClampNeg = d := by rw [hld, nI_clamp (by omega)]
  intro i
  induction i with
  | zero =>
    intro _ L' hf hQ hR
    obtain ⟨b, hb, hb2⟩ := m_div152 (S := S) (I := I) (L := L') hm hd6 hld 0 (Nat.zero_le _) true
    have hs := qinv_b hC1 hQ
    rw [Nat.sub_zero] at hs
    obtain ⟨e1, e2⟩ := qinv_e hn hTd hdn hQ
    have z : (0 : Int64).toInt = 0 := rfl
    refine ⟨b, L', it_X9_divides_38 hm ?_, hf, fun hbt => ?_, fun hbf => ?_⟩
    · rw [hld, show 0 + d = (d - 1) + 1 by omega, pk_m1]
      exact ⟨fun _ => hb, fun h => absurd (nI_lt (by omega) (by omega)) h⟩
    · obtain ⟨z1, z2⟩ := e1 (fun k hk => by
        have h1 := hR k (by omega)
        rw [(hb2.mp hbt).2 k (Nat.zero_le _) hk, z] at h1
        omega)
      exact ⟨z1, z2, hs⟩
    · refine e2 (Classical.byContradiction fun hc => ?_)
      have : b = true := hb2.mpr ⟨rfl, fun k _ hk => t_eq0 (by
        rw [hR k (by omega)]
        have : (L (m + 14) k).toInt = cz (ti (L' (m + 16))) (ti T) k := Classical.byContradiction fun hk2 => hc ⟨k, hk, hk2⟩
        omega)⟩
      rw [hbf] at this; cases this
  | succ i ih =>
    intro hi L' hf hQ hR
    have hQ0 := hQ.1
    obtain ⟨a1, a2, a3, a4⟩ := qinv_s hn hTd hdn (by omega) (fun k _ hk => hB k hk) hC hO hQ
    have hyy : L' (m + 17) (i + d) = L (m + 14) (i + d) - cv (L' (m + 16)) T (i + d) := Int64.toInt_inj.mp (by rw [hR _ (by omega), a1])
    rw [← hyy] at a1 a2 a3 a4
    generalize hy : L' (m + 17) (i + d) = y at a1 a2 a3 a4 hyy
    have hrem := t_rem (y := y) (x := T d) a2
    have hdiv := t_div (y := y) (x := T d) a2
    have ecl : (nI (i + d)).toNatClampNeg = i + d := nI_clamp (by omega)
    have eT : L' (m + 15) d = T d := by rw [(hf _ (by unfold mdX; omega)).2]; exact hT d (Nat.le_refl _)
    have esub : nI (i + d) - nI d = nI i := by rw [pk_sub (by omega)]; congr 1; omega
    have hge : ¬ nI (i + d) < nI d := nI_nlt (by omega) (by omega)
    have hv1 : vp_in (nI (i + d)) 6 := vp_in_nI (by omega) (by decide)
    have hv2 : vp_in (nI d) 6 := vp_in_nI hd6 (by decide)
    have hv3 : vp_in (nI i) 6 := vp_in_nI (by omega) (by decide)
    by_cases hmz : y - y / T d * T d = 0
    · have hm2 : y.toInt.tmod (T d).toInt = 0 := by rw [← hrem, hmz]; rfl
      have hv : (y / T d).toInt * (T d).toInt = y.toInt := by
        rw [hdiv]; exact Int.tdiv_mul_cancel_of_tmod_eq_zero hm2
      have hvn : (y / T d).toInt.natAbs ≤ y.toInt.natAbs := by
        rw [hdiv, Int.natAbs_tdiv]; exact Nat.div_le_self _ _
      have hq2 := a4 _ hv hvn
      obtain ⟨v, hvv⟩ : ∃ v, v = y / T d := ⟨_, rfl⟩
      rw [← hvv] at hq2
      obtain ⟨L2, hL2⟩ : ∃ L2, L2 = mj_up L' (m + 16) i v := ⟨_, rfl⟩
      have r16 : L2 (m + 16) = fun j => if j = i then v else L' (m + 16) j := by
        rw [hL2]; funext j
        by_cases c : j = i
        · rw [c, up_eq, if_pos rfl]
        · rw [up_nk c, if_neg c]
      have r17 : L2 (m + 17) = L' (m + 17) := by rw [hL2, up_ne (by omega)]
      have r15 : ∀ k, k ≤ d → L2 (m + 15) k = T k := fun k hk => by
        rw [hL2, up_ne (by omega), (hf _ (by unfold mdX; omega)).2]; exact hT k hk
      obtain ⟨L3, hL3⟩ : ∃ L3, L3 = mwn L2 (m + 17) 6 (fun t => if i ≤ t ∧ t ≤ i + d then L2 (m + 17) t - v * L2 (m + 15) (t - i) else L2 (m + 17) t) := ⟨_, rfl⟩
      have s16 : L3 (m + 16) = fun j => if j = i then v else L' (m + 16) j := by rw [hL3, mwn_ne (by omega), r16]
      have hpow : B * (1 + C) ^ (n - d + 1 - i) ≤ B * (1 + C) ^ (n - d + 1) := Nat.mul_le_mul_left _ (Nat.pow_le_pow_right (by omega) (by omega))
      have hsq := hq2.2.2.2.1
      have hTz : ∀ k, d < k → k < 6 → ti T k = 0 := fun k h1 h2 => by
        show (T k).toInt = 0
        rw [hTd.2.2 k h1 h2]; rfl
      have hcz : ∀ t, t < 6 → cz (ti (L3 (m + 16))) (ti T) t = cz (ti (L' (m + 16))) (ti T) t + (if i ≤ t then v.toInt * ti T (t - i) else 0) := fun t ht => by
        rw [s16]
        refine cz_upd (by omega) ?_ ?_ (fun a _ ha => ?_) ht
        · show (L' (m + 16) i).toInt = 0
          rw [hQ0 i (by omega)]; rfl
        · show (if i = i then v else L' (m + 16) i).toInt = _
          rw [if_pos rfl]
        · show (if a = i then v else L' (m + 16) a).toInt = (L' (m + 16) a).toInt
          rw [if_neg ha]
      have hczb : ∀ t, t < 6 → (cz (ti (L3 (m + 16))) (ti T) t).natAbs ≤ sA (L3 (m + 16)) * C := fun t ht => by
        have := cv_int (f := L3 (m + 16)) (g := T) hC (by rw [s16]; omega) ht
        have h2 := this.2
        rw [this.1] at h2
        exact h2
      have hR3 : ∀ t, t < 6 → (L3 (m + 17) t).toInt = (L (m + 14) t).toInt - cz (ti (L3 (m + 16))) (ti T) t := fun t ht => by
        have hb1 := hczb t ht
        have hbB := hB t ht
        have hRt := hR t ht
        have hc := hcz t ht
        have hss : sA (L3 (m + 16)) * C + B ≤ B * (1 + C) ^ (n - d + 1 - i) := by rw [s16]; exact hsq
        have e17 : L3 (m + 17) t = if i ≤ t ∧ t ≤ i + d then L2 (m + 17) t - v * L2 (m + 15) (t - i) else L2 (m + 17) t := by rw [hL3, mwn_at ht]
        rw [e17, r17]
        by_cases c : i ≤ t ∧ t ≤ i + d
        · rw [if_pos c, r15 (t - i) (by omega)]
          rw [if_pos c.1] at hc
          have hvb : v.toInt.natAbs ≤ sA (L3 (m + 16)) := by
            have := sA_at (L3 (m + 16)) (i := i) (by omega)
            rw [s16] at this ⊢
            simpa using this
          have hmm := Nat.mul_le_mul hvb (hC (t - i) (by omega))
          have e1 : (v * T (t - i)).toInt = v.toInt * (T (t - i)).toInt := t_mul (by omega)
          have e2 : ti T (t - i) = (T (t - i)).toInt := rfl
          rw [e2] at hc
          rw [t_sub (by rw [e1]; omega) (by rw [e1]; omega), e1]; omega
        · rw [if_neg c]
          by_cases c2 : i ≤ t
          · rw [if_pos c2, hTz (t - i) (by omega) (by omega), Int.mul_zero] at hc; omega
          · rw [if_neg c2] at hc; omega
      have hf3 : fr (mdX m) I L I L3 := fr_tr hf (Y := mdX m) (fun b hb => by
        have n1 : b ≠ m + 16 := fun e => hb (Or.inl e)
        have n2 : b ≠ m + 17 := fun e => hb (Or.inr e)
        exact ⟨rfl, by rw [hL3, mwn_ne n2, hL2, up_ne n1]⟩) (fun b hb => hb.elim id id)
      obtain ⟨b, L1, k1, k2⟩ := ih (by omega) L3 hf3 (by rw [s16]; exact hq2) hR3
      refine ⟨b, L1, it_X9_divides_38 hm ?_, k2⟩
      rw [show i + 1 + d = (i + d) + 1 by omega, pk_m1, hld, ecl, nI_clamp (show d < 2 ^ 31 by omega), eT, hy, esub, nI_clamp (show i < 2 ^ 31 by omega)]
      refine ⟨fun h => absurd h hge, fun _ => ⟨hv1, hv2, hl0, fun _ => ⟨hv1, hv2, hl0, fun u hu => ⟨hv3, ?_⟩⟩, fun h => absurd hmz h⟩⟩
      rw [hu, ← hvv, ← hL2]
      exact m_div101 hm (by omega) hld (fun z hz => by rw [hz, ← hL3]; exact k1)
    · refine ⟨false, L', it_X9_divides_38 hm ?_, hf, (fun h => by cases h), fun _ => ?_⟩
      · rw [show i + 1 + d = (i + d) + 1 by omega, pk_m1, hld, ecl, nI_clamp (show d < 2 ^ 31 by omega), eT, hy]
        exact ⟨fun h => absurd h hge, fun _ => ⟨hv1, hv2, hl0, fun h => absurd h hmz, fun _ => ⟨rfl, rfl⟩⟩⟩
      · rintro ⟨w, hw⟩
        refine hmz (t_eq0 ?_)
        rw [hrem, a3 w hw]
        exact Int.mul_tmod_left _ _
theorem m_divides {m n d B C : Nat} {T : Nat → Int64} (hm : is_Model S m) (hn : deg6 (L (m + 14)) n) (hln : I m 24 = nI n) (hT : ∀ k, k ≤ d → L (m + 15) k = T k) (hTd : deg6 T d) (hld : I m 26 = nI d) (hd1 : 1 ≤ d) (hdn : d ≤ n) (hB : bnd6 (L (m + 14)) B) (hC : bnd6 T C) (hC1 : 1 ≤ C) (hO : B * (1 + C) ^ (n - d + 1) < 2 ^ 63) :
    ∃ (b : Bool) (L1 : Nat → Nat → Int64), CTi mr_X9_divides [.ref m] S I L (if b then 1 else 0) I L1 ∧ fr (mdX m) I L I L1 ∧
      (b = true → (∀ x, zev (rl (L (m + 14))) x = zev (rl (L1 (m + 16))) x * zev (rl T) x) ∧ deg6 (L1 (m + 16)) (n - d) ∧ sA (L1 (m + 16)) ≤ B * (1 + C) ^ (n - d + 1)) ∧ (b = false → ¬ zdv (rl T) (zev (rl (L (m + 14))))) := by
  obtain ⟨L2, hL2⟩ : ∃ L2, L2 = mwn (mwn L (m + 17) 6 (L (m + 14))) (m + 16) 6 (fun _ => (0 : Int64)) := ⟨_, rfl⟩
  have hf : fr (mdX m) I L I L2 := fun b hb => ⟨rfl, by rw [hL2, mwn_ne (fun e => hb (Or.inl e)), mwn_ne (fun e => hb (Or.inr e))]⟩
  have e16 : ∀ j, j < 6 → L2 (m + 16) j = 0 := fun j hj => by rw [hL2, mwn_at hj]
  have e17 : ∀ j, j < 6 → L2 (m + 17) j = L (m + 14) j := fun j hj => by rw [hL2, mwn_ne (by omega), mwn_at hj]
  obtain ⟨b, L1, k1, k2⟩ := m_div38 (S := S) (I := I) (L := L) (T := T) hm hn hT hTd hld hd1 hdn hB hC hC1 hO (n - d + 1) (Nat.le_refl _) L2 hf (qinv_0 hn hTd hdn e16) (fun t ht => by
    rw [e17 t ht, cz_zero ht (fun j hj => by
      show (L2 (m + 16) j).toInt = 0
      rw [e16 j hj]; rfl), Int.sub_zero])
  refine ⟨b, L1, wp_X9_divides hm ?_, k2⟩
  have key := up_loop (P := fun i => hd_X9_divides_2 S (fun v h => v = some (.int (if b then 1 else 0)) ∧ h = (S, I, L1)) m (nI i) I (mwn (mwn L (m + 17) i (L (m + 14))) (m + 16) i (fun _ => (0 : Int64)))) 6
    (it_X9_divides_2 hm (ge_t (k := 6) (by decide) (by decide) (fun y hy => by
      rw [hy, hln, ← hL2]
      rw [show n - d + 1 + d = n + 1 by omega, pk_m1] at k1
      exact k1)))
    (fun i hi ih => it_X9_divides_2 hm (ge_f (k := 6) hi (by decide) ⟨vp_in_nI hi (by decide), vp_in_nI hi (by decide), vp_in_nI hi (by decide), fun y hy => by
      rw [hy, nI_1, nI_clamp (by omega), up_mwn (by omega), mwn_s _ _ _ _ _ rfl, mwn_s _ _ _ _ _ (by rw [mwn_ne (by omega), mwn_ne (by omega)])]
      exact ih⟩))
  have := key 0 (by decide)
  rwa [mwn_0, mwn_0] at this
