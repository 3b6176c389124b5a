/-! THE QUOTIENT: its contract -/
variable {S : List mjD} {I : Nat → Nat → Int32} {L : Nat → Nat → Int64}
theorem cz_top {f f' g : Nat → Int} {i d : Nat} (h : i + d < 6) (hg : ∀ b, d < b → b < 6 → g b = 0) (hf : ∀ a, i < a → a < 6 → f a = f' a) : cz f g (i + d) - cz f' g (i + d) = (f i - f' i) * g d := by
  have hi : i = 0 ∨ i = 1 ∨ i = 2 ∨ i = 3 ∨ i = 4 ∨ i = 5 := by omega
  rw [Int.sub_mul]
  rcases hi with rfl | rfl | rfl | rfl | rfl | rfl
  · have hd : d = 0 ∨ d = 1 ∨ d = 2 ∨ d = 3 ∨ d = 4 ∨ d = 5 := by omega
    rcases hd with rfl | rfl | rfl | rfl | rfl | rfl
    · simp only [cz, Nat.reduceAdd] <;> omega
    · simp only [cz, Nat.reduceAdd, hf 1 (by decide) (by decide)] <;> omega
    · simp only [cz, Nat.reduceAdd, hf 1 (by decide) (by decide), hf 2 (by decide) (by decide)] <;> omega
    · simp only [cz, Nat.reduceAdd, hf 1 (by decide) (by decide), hf 2 (by decide) (by decide), hf 3 (by decide) (by decide)] <;> omega
    · simp only [cz, Nat.reduceAdd, hf 1 (by decide) (by decide), hf 2 (by decide) (by decide), hf 3 (by decide) (by decide), hf 4 (by decide) (by decide)] <;> omega
    · simp only [cz, Nat.reduceAdd, hf 1 (by decide) (by decide), hf 2 (by decide) (by decide), hf 3 (by decide) (by decide), hf 4 (by decide) (by decide), hf 5 (by decide) (by decide)] <;> omega
  · have hd : d = 0 ∨ d = 1 ∨ d = 2 ∨ d = 3 ∨ d = 4 := by omega
    rcases hd with rfl | rfl | rfl | rfl | rfl
    · simp only [cz, Nat.reduceAdd, hg 1 (by decide) (by decide)] <;> omega
    · simp only [cz, Nat.reduceAdd, hg 2 (by decide) (by decide), hf 2 (by decide) (by decide)] <;> omega
    · simp only [cz, Nat.reduceAdd, hg 3 (by decide) (by decide), hf 2 (by decide) (by decide), hf 3 (by decide) (by decide)] <;> omega
    · simp only [cz, Nat.reduceAdd, hg 4 (by decide) (by decide), hf 2 (by decide) (by decide), hf 3 (by decide) (by decide), hf 4 (by decide) (by decide)] <;> omega
    · simp only [cz, Nat.reduceAdd, hg 5 (by decide) (by decide), hf 2 (by decide) (by decide), hf 3 (by decide) (by decide), hf 4 (by decide) (by decide), hf 5 (by decide) (by decide)] <;> omega
  · have hd : d = 0 ∨ d = 1 ∨ d = 2 ∨ d = 3 := by omega
    rcases hd with rfl | rfl | rfl | rfl
    · simp only [cz, Nat.reduceAdd, hg 2 (by decide) (by decide), hg 1 (by decide) (by decide)] <;> omega
    · simp only [cz, Nat.reduceAdd, hg 3 (by decide) (by decide), hg 2 (by decide) (by decide), hf 3 (by decide) (by decide)] <;> omega
    · simp only [cz, Nat.reduceAdd, hg 4 (by decide) (by decide), hg 3 (by decide) (by decide), hf 3 (by decide) (by decide), hf 4 (by decide) (by decide)] <;> omega
    · simp only [cz, Nat.reduceAdd, hg 5 (by decide) (by decide), hg 4 (by decide) (by decide), hf 3 (by decide) (by decide), hf 4 (by decide) (by decide), hf 5 (by decide) (by decide)] <;> omega
  · have hd : d = 0 ∨ d = 1 ∨ d = 2 := by omega
    rcases hd with rfl | rfl | rfl
    · simp only [cz, Nat.reduceAdd, hg 3 (by decide) (by decide), hg 2 (by decide) (by decide), hg 1 (by decide) (by decide)] <;> omega
    · simp only [cz, Nat.reduceAdd, hg 4 (by decide) (by decide), hg 3 (by decide) (by decide), hg 2 (by decide) (by decide), hf 4 (by decide) (by decide)] <;> omega
    · simp only [cz, Nat.reduceAdd, hg 5 (by decide) (by decide), hg 4 (by decide) (by decide), hg 3 (by decide) (by decide), hf 4 (by decide) (by decide), hf 5 (by decide) (by decide)] <;> omega
  · have hd : d = 0 ∨ d = 1 := by omega
    rcases hd with rfl | rfl
    · simp only [cz, Nat.reduceAdd, hg 4 (by decide) (by decide), hg 3 (by decide) (by decide), hg 2 (by decide) (by decide), hg 1 (by decide) (by decide)] <;> omega
    · simp only [cz, Nat.reduceAdd, hg 5 (by decide) (by decide), hg 4 (by decide) (by decide), hg 3 (by decide) (by decide), hg 2 (by decide) (by decide), hf 5 (by decide) (by decide)] <;> omega
  · have hd : d = 0 := by omega
    rcases hd with rfl
    · simp only [cz, Nat.reduceAdd, hg 5 (by decide) (by decide), hg 4 (by decide) (by decide), hg 3 (by decide) (by decide), hg 2 (by decide) (by decide), hg 1 (by decide) (by decide)] <;> omega
theorem mwn_up {α : Type} {L : Nat → Nat → α} {a n k : Nat} {f : Nat → α} {x : α} (h : k < n) : mj_up (mwn L a n f) a k x = mwn L a n (fun j => if j = k then x else f j) := by
  funext b j
  unfold mj_up mwn
  by_cases hb : b = a
  · by_cases hk : j = k
    · subst hk; simp [hb, h]
    · simp [hb, hk]
  · simp [hb]
/-- as integers -/
def ti (f : Nat → Int64) : Nat → Int := fun k => (f k).toInt
theorem cz_congr {f f' g g' : Nat → Int} {k : Nat} (hk : k < 6) (h : ∀ j, j < 6 → f j = f' j) (h2 : ∀ j, j < 6 → g j = g' j) : cz f g k = cz f' g' k := by
  have e : k = 0 ∨ k = 1 ∨ k = 2 ∨ k = 3 ∨ k = 4 ∨ k = 5 := by omega
  rcases e with rfl | rfl | rfl | rfl | rfl | rfl <;> simp only [cz, h 0 (by decide), h 1 (by decide), h 2 (by decide), h 3 (by decide), h 4 (by decide), h 5 (by decide), h2 0 (by decide), h2 1 (by decide), h2 2 (by decide), h2 3 (by decide), h2 4 (by decide), h2 5 (by decide)]
theorem rl_cz (f g : Nat → Int64) {k : Nat} (hk : k < 6) : zco (zmul (rl f) (rl g)) k = cz (ti f) (ti g) k := by
  rw [zmul_cz _ _ hk]
  exact cz_congr hk (fun j hj => rl_co f hj) (fun j hj => rl_co g hj)
theorem rlw_cz (w : List Int) (g : Nat → Int64) {k : Nat} (hk : k < 6) : zco (zmul w (rl g)) k = cz (zco w) (ti g) k := by
  rw [zmul_cz _ _ hk]
  exact cz_congr hk (fun j _ => rfl) (fun j hj => rl_co g hj)
theorem rl_div_co {W D : Nat → Int64} {w : List Int} (h : ∀ x, zev (rl W) x = zev (rl D) x * zev w x) {k : Nat} (hk : k < 6) : (W k).toInt = cz (zco w) (ti D) k := by
  rw [← rlw_cz w D hk, ← rl_co W hk]
  exact zev_inj (fun x => by rw [zev_mul, h x, Int.mul_comm]) k
theorem sA_up {Q : Nat → Int64} {i : Nat} (hi : i < 6) (h0 : Q i = 0) (v : Int64) : sA (fun j => if j = i then v else Q j) = sA Q + v.toInt.natAbs := by
  have z : (0 : Int64).toInt.natAbs = 0 := rfl
  have e : i = 0 ∨ i = 1 ∨ i = 2 ∨ i = 3 ∨ i = 4 ∨ i = 5 := by omega
  unfold sA
  rcases e with rfl | rfl | rfl | rfl | rfl | rfl <;> simp [h0] <;> omega
theorem sA_at (Q : Nat → Int64) {i : Nat} (hi : i < 6) : (Q i).toInt.natAbs ≤ sA Q := by
  have e : i = 0 ∨ i = 1 ∨ i = 2 ∨ i = 3 ∨ i = 4 ∨ i = 5 := by omega
  unfold sA
  rcases e with rfl | rfl | rfl | rfl | rfl | rfl <;> omega
theorem cz_zero {f g : Nat → Int} {k : Nat} (hk : k < 6) (h : ∀ j, j < 6 → f j = 0) : cz f g k = 0 := by
  have e : k = 0 ∨ k = 1 ∨ k = 2 ∨ k = 3 ∨ k = 4 ∨ k = 5 := by omega
  rcases e with rfl | rfl | rfl | rfl | rfl | rfl <;> simp only [cz, h 0 (by decide), h 1 (by decide), h 2 (by decide), h 3 (by decide), h 4 (by decide), h 5 (by decide)] <;> omega
/-- what a division has come to: the places from i upward are settled -/
def qinv (W D : Nat → Int64) (n d B C i : Nat) (Q : Nat → Int64) : Prop :=
  (∀ j, j < i → Q j = 0) ∧ (∀ j, n - d < j → j < 6 → Q j = 0) ∧ (∀ k, i ≤ k → k ≤ n - d → cz (ti Q) (ti D) (k + d) = (W (k + d)).toInt) ∧
  sA Q * C + B ≤ B * (1 + C) ^ (n - d + 1 - i) ∧ ∀ w : List Int, (∀ x, zev (rl W) x = zev (rl D) x * zev w x) → ∀ j, i ≤ j → j < 6 → zco w j = (Q j).toInt
/-- its start -/
theorem qinv_0 {W D : Nat → Int64} {n d B C : Nat} (hn : deg6 W n) (hd : deg6 D d) (hdn : d ≤ n) {Q : Nat → Int64} (hQ : ∀ j, j < 6 → Q j = 0) : qinv W D n d B C (n - d + 1) Q := by
  have hn6 := hn.1
  refine ⟨fun j hj => hQ j (by omega), fun j _ h => hQ j h, fun k h1 h2 => by omega, ?_, fun w hw j h1 h6 => ?_⟩
  · have : sA Q = 0 := by
      have z : (0 : Int64).toInt.natAbs = 0 := rfl
      unfold sA
      rw [hQ 0 (by decide), hQ 1 (by decide), hQ 2 (by decide), hQ 3 (by decide), hQ 4 (by decide), hQ 5 (by decide), z]
    rw [this, Nat.sub_self, Nat.pow_zero]; omega
  · have h0 : (0 : Int64).toInt = 0 := rfl
    rw [hQ j h6, h0]
    have hW := deg6_zlt hn
    have hD := deg6_zlt hd
    obtain ⟨a, b, hab, ha, hb, ha0, hb0, -⟩ := zdeg_mul hw hW.1 hW.2
    have : a = d := by
      rcases Nat.lt_trichotomy a d with q | q | q
      · exact absurd (ha d q) hD.2
      · exact q
      · exact absurd (hD.1 a q) ha0
    exact hb j (by omega)
/-- its turn: what is left over the leading coefficient -/
theorem qinv_s {W D : Nat → Int64} {n d B C i : Nat} (hn : deg6 W n) (hd : deg6 D d) (hdn : d ≤ n) (hi : i + d ≤ n) (hB : ∀ k, d ≤ k → k < 6 → (W k).toInt.natAbs ≤ B) (hC : bnd6 D C) (hO : B * (1 + C) ^ (n - d + 1) < 2 ^ 63) {Q : Nat → Int64} (h : qinv W D n d B C (i + 1) Q) :
    (W (i + d) - cv Q D (i + d)).toInt = (W (i + d)).toInt - cz (ti Q) (ti D) (i + d) ∧ -2 ^ 63 < (W (i + d) - cv Q D (i + d)).toInt ∧
    (∀ w : List Int, (∀ x, zev (rl W) x = zev (rl D) x * zev w x) → (W (i + d) - cv Q D (i + d)).toInt = zco w i * (D d).toInt) ∧
    ∀ v : Int64, v.toInt * (D d).toInt = (W (i + d) - cv Q D (i + d)).toInt → v.toInt.natAbs ≤ (W (i + d) - cv Q D (i + d)).toInt.natAbs → qinv W D n d B C i (fun j => if j = i then v else Q j) := by
  obtain ⟨h1, h2, h3, h4, h5⟩ := h
  have hn6 := hn.1
  have hz : ∀ b, d < b → b < 6 → ti D b = 0 := fun b hb h6 => by
    show (D b).toInt = 0
    rw [hd.2.2 b hb h6]; rfl
  have hpow : B * (1 + C) ^ (n - d + 1 - (i + 1)) * (1 + C) = B * (1 + C) ^ (n - d + 1 - i) := by
    rw [Nat.mul_assoc, ← Nat.pow_succ]; congr 2; omega
  have hmono : B * (1 + C) ^ (n - d + 1 - (i + 1)) ≤ B * (1 + C) ^ (n - d + 1) := Nat.mul_le_mul_left _ (Nat.pow_le_pow_right (by omega) (by omega))
  obtain ⟨c1, c2⟩ := cv_int (f := Q) (g := D) hC (by omega) (k := i + d) (by omega)
  have hW := hB (i + d) (by omega) (by omega)
  have e1 : (W (i + d) - cv Q D (i + d)).toInt = (W (i + d)).toInt - cz (ti Q) (ti D) (i + d) := by
    rw [t_sub (by omega) (by omega), c1]; rfl
  have c3 : (cz (ti Q) (ti D) (i + d)).natAbs ≤ sA Q * C := by rw [c1] at c2; exact c2
  have hQi : ti Q i = 0 := by
    show (Q i).toInt = 0
    rw [h1 i (by omega)]; rfl
  refine ⟨e1, by omega, fun w hw => ?_, fun v hv hvn => ?_⟩
  · have := cz_top (f := zco w) (f' := ti Q) (g := ti D) (i := i) (d := d) (by omega) hz (fun a ha h6 => h5 w hw a (by omega) h6)
    rw [hQi, ← rl_div_co hw (k := i + d) (by omega)] at this
    rw [e1, this]; simp [ti]
  · have hz2 : ∀ k, i ≤ k → k + d < 6 → cz (ti (fun j => if j = i then v else Q j)) (ti D) (k + d) = cz (ti Q) (ti D) (k + d) + (if k = i then v.toInt * (D d).toInt else 0) := fun k hk hk6 => by
      have := cz_top (f := ti (fun j => if j = i then v else Q j)) (f' := ti Q) (g := ti D) (i := k) (d := d) hk6 hz (fun a ha h6 => by
        show (if a = i then v else Q a).toInt = (Q a).toInt
        rw [if_neg (by omega)])
      by_cases hki : k = i
      · subst hki
        rw [hQi] at this
        have e : ti (fun j => if j = k then v else Q j) k = v.toInt := by simp [ti]
        rw [e] at this
        rw [if_pos rfl]
        have e2 : ti D d = (D d).toInt := rfl
        rw [e2] at this
        have e3 : (v.toInt - 0) * (D d).toInt = v.toInt * (D d).toInt := by rw [Int.sub_zero]
        omega
      · have e : ti (fun j => if j = i then v else Q j) k = ti Q k := by simp [ti, hki]
        rw [e, Int.sub_self, Int.zero_mul] at this
        rw [if_neg hki]; omega
    refine ⟨fun j hj => ?_, fun j hj h6 => ?_, fun k hk hk2 => ?_, ?_, fun w hw j hj h6 => ?_⟩
    · show (if j = i then v else Q j) = 0
      rw [if_neg (by omega)]; exact h1 j (by omega)
    · show (if j = i then v else Q j) = 0
      rw [if_neg (by omega)]; exact h2 j hj h6
    · rw [hz2 k hk (by omega)]
      by_cases hki : k = i
      · subst hki
        rw [if_pos rfl, hv, e1]; omega
      · rw [if_neg hki, h3 k (by omega) hk2]; omega
    · rw [sA_up (by omega) (h1 i (by omega)), Nat.add_mul, ← hpow, Nat.mul_add, Nat.mul_one]
      have a1 : v.toInt.natAbs ≤ B * (1 + C) ^ (n - d + 1 - (i + 1)) := by omega
      have a2 := Nat.mul_le_mul_right C a1
      omega
    · show _ = (if j = i then v else Q j).toInt
      by_cases hji : j = i
      · subst hji
        rw [if_pos rfl]
        have := cz_top (f := zco w) (f' := ti Q) (g := ti D) (i := j) (d := d) (by omega) hz (fun a ha h6 => h5 w hw a (by omega) h6)
        rw [hQi, ← rl_div_co hw (k := j + d) (by omega), Int.sub_zero] at this
        have e3 : zco w j * (D d).toInt = v.toInt * (D d).toInt := by rw [hv, e1, this]; rfl
        exact Int.eq_of_mul_eq_mul_right (t_ne0 hd.2.1) e3
      · rw [if_neg hji]; exact h5 w hw j (by omega) h6
/-- its end -/
theorem qinv_e {W D : Nat → Int64} {n d B C : Nat} (hn : deg6 W n) (hd : deg6 D d) (hdn : d ≤ n) {Q : Nat → Int64} (h : qinv W D n d B C 0 Q) :
    ((∀ k, k < d → (W k).toInt = cz (ti Q) (ti D) k) → (∀ x, zev (rl W) x = zev (rl Q) x * zev (rl D) x) ∧ deg6 Q (n - d)) ∧
    ((∃ k, k < d ∧ (W k).toInt ≠ cz (ti Q) (ti D) k) → ¬ zdv (rl D) (zev (rl W))) := by
  obtain ⟨h1, h2, h3, h4, h5⟩ := h
  have hn6 := hn.1
  have hd6 := hd.1
  have hz : ∀ b, d < b → b < 6 → ti D b = 0 := fun b hb h6 => by
    show (D b).toInt = 0
    rw [hd.2.2 b hb h6]; rfl
  constructor
  · intro hlow
    have hall : ∀ k, k < 6 → (W k).toInt = cz (ti Q) (ti D) k := fun k hk => by
      rcases Nat.lt_or_ge k d with q | q
      · exact hlow k q
      · obtain ⟨j, rfl⟩ : ∃ j, k = j + d := ⟨k - d, by omega⟩
        rcases Nat.lt_or_ge (n - d) j with q2 | q2
        · have := cz_top (f := ti Q) (f' := fun _ => 0) (g := ti D) (i := j) (d := d) hk hz (fun a ha h6 => by
            show (Q a).toInt = 0
            rw [h2 a (by omega) h6]; rfl)
          rw [cz_zero hk (fun _ _ => rfl)] at this
          have e : ti Q j = 0 := by
            show (Q j).toInt = 0
            rw [h2 j q2 (by omega)]; rfl
          rw [e] at this
          rw [hn.2.2 (j + d) (by omega) hk]
          have z : (0 : Int64).toInt = 0 := rfl
          simp at this
          rw [z]; omega
        · exact (h3 j (Nat.zero_le _) q2).symm
    have hQt : deg6 Q (n - d) := by
      refine ⟨by omega, fun e => ?_, fun k hk h6 => h2 k hk h6⟩
      have h6 := h3 (n - d) (Nat.zero_le _) (Nat.le_refl _)
      have := cz_top (f := ti Q) (f' := fun _ => 0) (g := ti D) (i := n - d) (d := d) (by omega) hz (fun a ha h6 => by
        show (Q a).toInt = 0
        rw [h2 a (by omega) h6]; rfl)
      rw [cz_zero (by omega) (fun _ _ => rfl), h6] at this
      have e2 : ti Q (n - d) = 0 := by
        show (Q (n - d)).toInt = 0
        rw [e]; rfl
      rw [e2] at this
      have e3 : n - d + d = n := by omega
      rw [e3] at this
      have := t_ne0 hn.2.1
      simp at *
      omega
    refine ⟨fun x => ?_, hQt⟩
    rw [← zev_mul]
    refine zev_congr (fun k => ?_) x
    by_cases h6 : k < 6
    · rw [rl_cz Q D h6, rl_co W h6]; exact hall k h6
    · rw [rl_hi W (by omega), (zmul_top (rl Q) (rl D) (n - d) d (deg6_zlt hQt).1 (deg6_zlt hd).1).1 k (by omega)]
  · rintro ⟨k, hk, hne⟩ ⟨w, hw⟩
    refine hne ?_
    rw [rl_div_co hw (k := k) (by omega)]
    exact cz_congr (by omega) (fun j hj => h5 w hw j (Nat.zero_le _) hj) (fun _ _ => rfl)
theorem qinv_b {W D : Nat → Int64} {n d B C i : Nat} (hC : 1 ≤ C) {Q : Nat → Int64} (h : qinv W D n d B C i Q) : sA Q ≤ B * (1 + C) ^ (n - d + 1 - i) := by
  have h4 := h.2.2.2.1
  have : sA Q * 1 ≤ sA Q * C := Nat.mul_le_mul_left _ hC
  omega
section
variable {p q r n d B C : Nat}
theorem s_quot2 (hp : is_Poly S p) (hq : is_Poly S q) (hr : is_Poly S r) (hpq : p ≠ q) (hpr : p ≠ r) (hd6 : d < 6) (Q : Nat → Int64) : ∀ i, i ≤ d → ∃ b : Bool, hd_X5_becomeQuotient_91 S (fun v h => v = some (.int (if b then 1 else 0)) ∧ h = (S, I, mwn L (p + 1) 6 Q)) p q r (nI d) (nI i) I (mwn L (p + 1) 6 Q) ∧ (b = true ↔ ∀ k, i ≤ k → k < d → L (q + 1) k = cv Q (L (r + 1)) k) := by
  refine up_loop d ⟨true, it_X5_becomeQuotient_91 hp hq hr (ge_t (k := d) (Nat.le_refl _) (by omega) ⟨rfl, rfl⟩), ⟨fun _ k h1 h2 => by omega, fun _ => rfl⟩⟩ (fun i hi ih => ?_)
  obtain ⟨b, hb, hb2⟩ := ih
  have ew : pat (mwn L (p + 1) 6 Q (q + 1)) (nI i) = L (q + 1) i := by rw [mwn_ne (by omega), pat_n (by omega)]
  have ec : cv (mwn L (p + 1) 6 Q (p + 1)) (mwn L (p + 1) 6 Q (r + 1)) i = cv Q (L (r + 1)) i := by
    rw [mwn_ne (b := r + 1) (by omega)]
    exact cv_congr (by omega) (fun j hj => mwn_at (by omega))
  by_cases he : L (q + 1) i = cv Q (L (r + 1)) i
  · refine ⟨b, it_X5_becomeQuotient_91 hp hq hr (ge_f (k := d) hi (by omega) ⟨_, _, _, s_at hq _, _, _, _, s_product hp hr (k := i) (by omega), fun _ y hy => ?_, fun hn => absurd (by rw [ew, ec]; exact he) hn⟩), hb2.trans ⟨fun h k h1 h2 => ?_, fun h k h1 h2 => h k (by omega) h2⟩⟩
    · rw [hy, nI_1]; exact hb
    · rcases Nat.eq_or_lt_of_le h1 with e | e
      · rw [← e]; exact he
      · exact h k e h2
  · refine ⟨false, it_X5_becomeQuotient_91 hp hq hr (ge_f (k := d) hi (by omega) ⟨_, _, _, s_at hq _, _, _, _, s_product hp hr (k := i) (by omega), fun hy => absurd (by rw [ew, ec] at hy; exact hy) he, fun _ => ⟨rfl, rfl⟩⟩), ⟨fun h => (by cases h), fun h => absurd (h i (Nat.le_refl _) hi) he⟩⟩
theorem s_quot1 (hp : is_Poly S p) (hq : is_Poly S q) (hr : is_Poly S r) (hpq : p ≠ q) (hpr : p ≠ r) (hn : deg6 (L (q + 1)) n) (hd : deg6 (L (r + 1)) d) (hdn : d ≤ n) (hB : ∀ k, d ≤ k → k < 6 → (L (q + 1) k).toInt.natAbs ≤ B) (hC : bnd6 (L (r + 1)) C) (hC1 : 1 ≤ C) (hO : B * (1 + C) ^ (n - d + 1) < 2 ^ 63) :
    ∀ i, i ≤ n - d + 1 → ∀ Q, qinv (L (q + 1)) (L (r + 1)) n d B C i Q → ∃ (b : Bool) (Q' : Nat → Int64), hd_X5_becomeQuotient_34 S (fun v h => v = some (.int (if b then 1 else 0)) ∧ h = (S, I, mwn L (p + 1) 6 Q')) p q r (nI d) (L (r + 1) d) (nI i + (-1)) I (mwn L (p + 1) 6 Q) ∧
      (b = true → (∀ x, zev (rl (L (q + 1))) x = zev (rl Q') x * zev (rl (L (r + 1))) x) ∧ deg6 Q' (n - d) ∧ sA Q' ≤ B * (1 + C) ^ (n - d + 1)) ∧ (b = false → ¬ zdv (rl (L (r + 1))) (zev (rl (L (q + 1))))) := by
  have hn6 := hn.1
  have hd6 := hd.1
  have hl0 : ¬ L (r + 1) d = 0 := hd.2.1
  intro i
  induction i with
  | zero =>
    intro _ Q hQ
    obtain ⟨b, hb, hb2⟩ := s_quot2 (I := I) (L := L) hp hq hr hpq hpr hd6 Q 0 (Nat.zero_le _)
    have hs := qinv_b hC1 hQ
    have h4 := hQ.2.2.2.1
    rw [Nat.sub_zero] at h4 hs
    have ci : ∀ k, k < 6 → (cv Q (L (r + 1)) k).toInt = cz (ti Q) (ti (L (r + 1))) k := fun k hk => (cv_int (f := Q) (g := L (r + 1)) hC (by omega) hk).1
    obtain ⟨e1, e2⟩ := qinv_e hn hd hdn hQ
    refine ⟨b, Q, it_X5_becomeQuotient_34 hp hq hr (ng_t (by decide) hb), fun hbt => ?_, fun hbf => ?_⟩
    · obtain ⟨z1, z2⟩ := e1 (fun k hk => by rw [← ci k (by omega), ← hb2.mp hbt k (Nat.zero_le _) hk])
      exact ⟨z1, z2, hs⟩
    · refine e2 (Classical.byContradiction fun hc => ?_)
      have : b = true := hb2.mpr (fun k _ hk => by
        apply Int64.toInt_inj.mp
        rw [ci k (by omega)]
        exact Classical.byContradiction fun hk2 => hc ⟨k, hk, hk2⟩)
      rw [hbf] at this; cases this
  | succ i ih =>
    intro hi Q hQ
    obtain ⟨a1, a2, a3, a4⟩ := qinv_s hn hd hdn (by omega) hB hC hO hQ
    have ew : pat (mwn L (p + 1) 6 Q (q + 1)) (nI i + nI d) = L (q + 1) (i + d) := by rw [mwn_ne (by omega), nI_add, pat_n (by omega)]
    have ec : cv (mwn L (p + 1) 6 Q (p + 1)) (mwn L (p + 1) 6 Q (r + 1)) (i + d) = cv Q (L (r + 1)) (i + d) := by
      rw [mwn_ne (b := r + 1) (by omega)]
      exact cv_congr (by omega) (fun j hj => mwn_at (by omega))
    have hpr2 : CTl mr_X5_productAt [.ref p, .ref r, .int (nI i + nI d)] S I (mwn L (p + 1) 6 Q) (cv Q (L (r + 1)) (i + d)) I (mwn L (p + 1) 6 Q) := by
      rw [nI_add, ← ec]; exact s_product hp hr (k := i + d) (by omega)
    have hat : CTl mr_X5_at [.ref q, .int (nI i + nI d)] S I (mwn L (p + 1) 6 Q) (L (q + 1) (i + d)) I (mwn L (p + 1) 6 Q) := by
      rw [← ew]; exact s_at hq _
    generalize hy : L (q + 1) (i + d) - cv Q (L (r + 1)) (i + d) = y at a1 a2 a3 a4
    have hrem := t_rem (y := y) (x := L (r + 1) d) a2
    have hdiv := t_div (y := y) (x := L (r + 1) d) a2
    by_cases hm : y - y / L (r + 1) d * L (r + 1) d = 0
    · have hm2 : y.toInt.tmod (L (r + 1) d).toInt = 0 := by rw [← hrem, hm]; rfl
      have hv : (y / L (r + 1) d).toInt * (L (r + 1) d).toInt = y.toInt := by
        rw [hdiv]; exact Int.tdiv_mul_cancel_of_tmod_eq_zero hm2
      have hvn : (y / L (r + 1) d).toInt.natAbs ≤ y.toInt.natAbs := by
        rw [hdiv, Int.natAbs_tdiv]; exact Nat.div_le_self _ _
      obtain ⟨b, Q', hb, p1, p2⟩ := ih (by omega) _ (a4 _ hv hvn)
      refine ⟨b, Q', ?_, p1, p2⟩
      rw [pk_m1]
      refine it_X5_becomeQuotient_34 hp hq hr (ng_f (by omega) ⟨_, _, _, hat, _, _, _, hpr2, fun z hz => ⟨hl0, fun _ => ⟨hl0, _, _, s_set hp (k := i) (by omega) _, fun u hu => ?_⟩, fun hne => absurd (by rw [hz, hy]; exact hm) hne⟩⟩)
      rw [hu, hz, hy, mwn_up (by omega)]
      exact hb
    · refine ⟨false, Q, ?_, (fun h => by cases h), fun _ => ?_⟩
      · rw [pk_m1]
        exact it_X5_becomeQuotient_34 hp hq hr (ng_f (by omega) ⟨_, _, _, hat, _, _, _, hpr2, fun z hz => ⟨hl0, fun h0 => absurd (by rw [hz, hy] at h0; exact h0) hm, fun _ => ⟨rfl, rfl⟩⟩⟩)
      · rintro ⟨w, hw⟩
        refine hm (t_eq0 ?_)
        rw [hrem, a3 w hw]
        exact Int.mul_tmod_left _ _
/-- whole / part -/
theorem s_quot (hp : is_Poly S p) (hq : is_Poly S q) (hr : is_Poly S r) (hpq : p ≠ q) (hpr : p ≠ r) (hn : deg6 (L (q + 1)) n) (hd : deg6 (L (r + 1)) d) (hdn : d ≤ n) (hB : ∀ k, d ≤ k → k < 6 → (L (q + 1) k).toInt.natAbs ≤ B) (hC : bnd6 (L (r + 1)) C) (hC1 : 1 ≤ C) (hO : B * (1 + C) ^ (n - d + 1) < 2 ^ 63) :
    ∃ (b : Bool) (Q : Nat → Int64), CTi mr_X5_becomeQuotient [.ref p, .ref q, .ref r] S I L (if b then 1 else 0) I (mwn L (p + 1) 6 Q) ∧
      (b = true → (∀ x, zev (rl (L (q + 1))) x = zev (rl Q) x * zev (rl (L (r + 1))) x) ∧ deg6 Q (n - d) ∧ sA Q ≤ B * (1 + C) ^ (n - d + 1)) ∧ (b = false → ¬ zdv (rl (L (r + 1))) (zev (rl (L (q + 1))))) := by
  have hn6 := hn.1
  have hd6 := hd.1
  obtain ⟨b, Q, hb, p1, p2⟩ := s_quot1 (I := I) (L := L) hp hq hr hpq hpr hn hd hdn hB hC hC1 hO (n - d + 1) (Nat.le_refl _) (fun k => if k = 0 then 0 else 0) (qinv_0 hn hd hdn (fun j _ => by split <;> rfl))
  refine ⟨b, Q, ?_, p1, p2⟩
  have e1 : dg (mwn L (p + 1) 6 (fun k => if k = 0 then (0 : Int64) else 0) (r + 1)) = nI d := by rw [mwn_ne (by omega), deg6_dg hd]
  have e2 : dg (mwn L (p + 1) 6 (fun k => if k = 0 then (0 : Int64) else 0) (q + 1)) = nI n := by rw [mwn_ne (by omega), deg6_dg hn]
  have e3 : pat (mwn L (p + 1) 6 (fun k => if k = 0 then (0 : Int64) else 0) (r + 1)) (nI d) = L (r + 1) d := by rw [mwn_ne (by omega), pat_n (by omega)]
  have c1 := s_degree (S := S) (I := I) (L := mwn L (p + 1) 6 (fun k => if k = 0 then (0 : Int64) else 0)) hr
  rw [e1] at c1
  have c2 := s_at (S := S) (I := I) (L := mwn L (p + 1) 6 (fun k => if k = 0 then (0 : Int64) else 0)) hr (nI d)
  rw [e3] at c2
  have c3 := s_degree (S := S) (I := I) (L := mwn L (p + 1) 6 (fun k => if k = 0 then (0 : Int64) else 0)) hq
  rw [e2] at c3
  refine wp_X5_becomeQuotient hp hq hr ⟨_, _, s_setConstant hp 0, _, _, _, c1, _, _, _, c2, fun _ => ⟨_, _, _, c3, fun y hy => ?_⟩, fun h => absurd h hd.2.1⟩
  rw [hy, pk_sub hdn]
  rw [pk_m1] at hb
  exact hb
end
