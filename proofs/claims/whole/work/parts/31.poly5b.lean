/-! CONTRACTS: products, shifts, contents of the class's polynomials -/
variable {S : List mjD} {I : Nat → Nat → Int32} {L : Nat → Nat → Int64}
/-- the coefficients of a product, six places -/
def cv (f g : Nat → Int64) : Nat → Int64
  | 0 => 0 + f 0 * g 0
  | 1 => 0 + f 0 * g 1 + f 1 * g 0
  | 2 => 0 + f 0 * g 2 + f 1 * g 1 + f 2 * g 0
  | 3 => 0 + f 0 * g 3 + f 1 * g 2 + f 2 * g 1 + f 3 * g 0
  | 4 => 0 + f 0 * g 4 + f 1 * g 3 + f 2 * g 2 + f 3 * g 1 + f 4 * g 0
  | _ => 0 + f 0 * g 5 + f 1 * g 4 + f 2 * g 3 + f 3 * g 2 + f 4 * g 1 + f 5 * g 0
theorem pcF_lt {f g : Nat → Int64} {k : Nat} (hk : k < 6) : ∀ j i s, k < i → i + j = 6 → pcF f g (nI k) j i s = s := by
  intro j
  induction j with
  | zero => intro i s _ _; rfl
  | succ j ih =>
    intro i s h1 h2
    rw [pcF, if_pos (pk_sneg (by omega) h1)]
    exact ih (i + 1) s (by omega) (by omega)
theorem pcF_le {f g : Nat → Int64} {k j i : Nat} {s : Int64} (h : i ≤ k) (hk : k < 6) : pcF f g (nI k) (j + 1) i s = pcF f g (nI k) j (i + 1) (s + f i * g (k - i)) := by
  have h6 : ¬ (6 : Int32) ≤ nI (k - i) := fun q => absurd ((nI_leI (a := 6) (by decide) (by omega)).mp q) (by omega)
  rw [pcF, pk_sub h, if_neg (nI_pos (by omega)), if_neg h6, nI_clamp (by omega)]
theorem pc6_cv (f g : Nat → Int64) {k : Nat} (hk : k < 6) : pc6 f g (nI k) = cv f g k := by
  unfold pc6
  have h : k = 0 ∨ k = 1 ∨ k = 2 ∨ k = 3 ∨ k = 4 ∨ k = 5 := by omega
  rcases h with rfl | rfl | rfl | rfl | rfl | rfl
  · rw [pcF_le (by omega) (by omega), pcF_lt (by omega) _ _ _ (by omega) (by omega)]; rfl
  · rw [pcF_le (by omega) (by omega), pcF_le (by omega) (by omega), pcF_lt (by omega) _ _ _ (by omega) (by omega)]; rfl
  · rw [pcF_le (by omega) (by omega), pcF_le (by omega) (by omega), pcF_le (by omega) (by omega), pcF_lt (by omega) _ _ _ (by omega) (by omega)]; rfl
  · rw [pcF_le (by omega) (by omega), pcF_le (by omega) (by omega), pcF_le (by omega) (by omega), pcF_le (by omega) (by omega), pcF_lt (by omega) _ _ _ (by omega) (by omega)]; rfl
  · rw [pcF_le (by omega) (by omega), pcF_le (by omega) (by omega), pcF_le (by omega) (by omega), pcF_le (by omega) (by omega), pcF_le (by omega) (by omega), pcF_lt (by omega) _ _ _ (by omega) (by omega)]; rfl
  · rw [pcF_le (by omega) (by omega), pcF_le (by omega) (by omega), pcF_le (by omega) (by omega), pcF_le (by omega) (by omega), pcF_le (by omega) (by omega), pcF_le (by omega) (by omega)]; rfl
theorem cv_congr {f f' g : Nat → Int64} {k : Nat} (hk : k < 6) (h : ∀ j, j ≤ k → f j = f' j) : cv f g k = cv f' g k := by
  have e : k = 0 ∨ k = 1 ∨ k = 2 ∨ k = 3 ∨ k = 4 ∨ k = 5 := by omega
  rcases e with rfl | rfl | rfl | rfl | rfl | rfl <;> simp only [cv, h 0 (by omega)]
  · rw [h 1 (by omega)]
  · rw [h 1 (by omega), h 2 (by omega)]
  · rw [h 1 (by omega), h 2 (by omega), h 3 (by omega)]
  · rw [h 1 (by omega), h 2 (by omega), h 3 (by omega), h 4 (by omega)]
  · rw [h 1 (by omega), h 2 (by omega), h 3 (by omega), h 4 (by omega), h 5 (by omega)]
section
variable {p q r : Nat}
theorem s_product (hp : is_Poly S p) (hq : is_Poly S q) {k : Nat} (hk : k < 6) : CTl mr_X5_productAt [.ref p, .ref q, .int (nI k)] S I L (cv (L (p + 1)) (L (q + 1)) k) I L := by
  rw [← pc6_cv _ _ hk]; exact s_productAt hp hq _
theorem s_multiplyBy (hp : is_Poly S p) (hq : is_Poly S q) (hne : p ≠ q) : CTv mr_X5_multiplyBy [.ref p, .ref q] S I L I (mwn L (p + 1) 6 (cv (L (p + 1)) (L (q + 1)))) := by
  refine wp_X5_multiplyBy hp hq ?_
  have key : ∀ i, i ≤ 6 → hd_X5_multiplyBy_2 S (fun v h => v = none ∧ h = (S, I, mwn L (p + 1) 6 (cv (L (p + 1)) (L (q + 1))))) p q (nI i + (-1)) I (mwn L (p + 1) 6 (fun k => if k < i then L (p + 1) k else cv (L (p + 1)) (L (q + 1)) k)) := by
    intro i
    induction i with
    | zero => exact fun _ => it_X5_multiplyBy_2 hp hq (ng_t (by decide) ⟨rfl, by simp⟩)
    | succ i ih =>
      intro hi
      rw [pk_m1]
      refine it_X5_multiplyBy_2 hp hq (ng_f (by omega) ⟨_, _, _, s_product hp hq (k := i) (by omega), vp_in_nI (by omega) (by decide), fun y hy => ?_⟩)
      rw [hy, nI_clamp (by omega)]
      have e1 : cv (mwn L (p + 1) 6 (fun k => if k < i + 1 then L (p + 1) k else cv (L (p + 1)) (L (q + 1)) k) (p + 1)) (mwn L (p + 1) 6 (fun k => if k < i + 1 then L (p + 1) k else cv (L (p + 1)) (L (q + 1)) k) (q + 1)) i = cv (L (p + 1)) (L (q + 1)) i := by
        rw [mwn_ne (b := q + 1) (by omega)]
        exact cv_congr (by omega) (fun j hj => by rw [mwn_at (by omega), if_pos (by omega)])
      rw [e1]
      have e2 : mj_up (mwn L (p + 1) 6 (fun k => if k < i + 1 then L (p + 1) k else cv (L (p + 1)) (L (q + 1)) k)) (p + 1) i (cv (L (p + 1)) (L (q + 1)) i) = mwn L (p + 1) 6 (fun k => if k < i then L (p + 1) k else cv (L (p + 1)) (L (q + 1)) k) := by
        funext b k
        unfold mj_up mwn
        by_cases hb : b = p + 1
        · by_cases hk : k = i
          · subst hk; simp [hb, show k < 6 by omega]
          · by_cases h6 : k < 6
            · by_cases hki : k < i
              · simp [hb, hk, h6, hki, show k < i + 1 by omega]
              · simp [hb, hk, h6, hki, show ¬ k < i + 1 by omega]
            · simp [hb, hk, h6]
        · simp [hb]
      rw [e2]
      exact ih (by omega)
  have h6 := key 6 (by decide)
  have e0 : mwn L (p + 1) 6 (fun k => if k < 6 then L (p + 1) k else cv (L (p + 1)) (L (q + 1)) k) = L := by
    funext b k
    unfold mwn
    by_cases hk : b = p + 1 ∧ k < 6
    · simp [hk]
    · simp [hk]
  rw [e0] at h6
  exact h6
theorem s_divideBy (hp : is_Poly S p) {c : Int64} (hc : c ≠ 0) : CTv mr_X5_divideBy [.ref p, .long c] S I L I (mwn L (p + 1) 6 (fun k => L (p + 1) k / c)) := by
  refine wp_X5_divideBy hp ?_
  have key := up_loop (P := fun i => hd_X5_divideBy_2 S (fun v h => v = none ∧ h = (S, I, mwn L (p + 1) 6 (fun k => L (p + 1) k / c))) p c (nI i) I (mwn L (p + 1) i (fun k => L (p + 1) k / c))) 6
    (it_X5_divideBy_2 hp (ge_t (k := 6) (by decide) (by decide) ⟨rfl, rfl⟩))
    (fun i hi ih => it_X5_divideBy_2 hp (ge_f (k := 6) hi (by decide) ⟨fun h => absurd h hc, fun _ => ⟨vp_in_nI hi (by decide), hc, vp_in_nI hi (by decide), fun y hy => by
      rw [hy, nI_1, nI_clamp (by omega), mwn_rd, mwn_s _ _ _ _ _ rfl]; exact ih⟩⟩))
  have := key 0 (by decide)
  rwa [mwn_0] at this
theorem mwn_upd {α : Type} {L : Nat → Nat → α} {a n i : Nat} {f g : Nat → α} {x : α} (hi : i < n) (hx : g i = x) (ho : ∀ k, k < n → k ≠ i → g k = f k) : mwn L a n g = mj_up (mwn L a n f) a i x := by
  funext b k
  unfold mj_up mwn
  by_cases hb : b = a
  · by_cases hk : k = i
    · subst hk; simp [hb, hi, hx]
    · by_cases h6 : k < n
      · simp [hb, hk, h6, ho k h6 hk]
      · simp [hb, hk, h6]
  · simp [hb]
/-- x replaced by x + by: Horner's scheme: a turn -/
def shT (g : Nat → Int64) (f : Nat → Int64) (b : Int64) (s : Nat) : Nat → Int64 := fun k => if k = 0 then b * f 0 + 0 + g s else b * f k + f (k - 1)
def shF (g : Nat → Int64) (b : Int64) : Nat → (Nat → Int64) → Nat → Int64
  | 0, f => f
  | s + 1, f => shF g b s (shT g f b s)
theorem shF_congr (g : Nat → Int64) (b : Int64) : ∀ s (f f' : Nat → Int64), (∀ k, k < 6 → f k = f' k) → ∀ k, k < 6 → shF g b s f k = shF g b s f' k := by
  intro s
  induction s with
  | zero => exact fun f f' h => h
  | succ s ih =>
    intro f f' h
    refine ih _ _ (fun k hk => ?_)
    unfold shT
    rw [h 0 (by decide), h k hk, h (k - 1) (by omega)]
def sh6 (g : Nat → Int64) (b : Int64) : Nat → Int64 := shF g b 6 (fun _ => 0)
def shI (b : Int64) (f : Nat → Int64) (i : Nat) : Nat → Int64 := fun k => if k < i then f k else if k = 0 then b * f 0 + 0 else b * f k + f (k - 1)
theorem s_shiftFrom (hp : is_Poly S p) (hq : is_Poly S q) (hne : p ≠ q) (a : Int32) : CTv mr_X5_shiftFrom [.ref p, .ref q, .int a] S I L I (mwn L (p + 1) 6 (sh6 (L (q + 1)) a.toInt64)) := by
  refine wp_X5_shiftFrom hp hq ⟨_, _, s_setConstant hp 0, ?_⟩
  have inner : ∀ (R : Option Value → mjH → Prop) (s : Nat) (hs : s < 6) (f : Nat → Int64), hd_X5_shiftFrom_7 S R p q a (nI s + (-1)) I (mwn L (p + 1) 6 (shT (L (q + 1)) f a.toInt64 s)) → ∀ i, i ≤ 6 → hd_X5_shiftFrom_14 S R p q a (nI s) (nI i + (-1)) I (mwn L (p + 1) 6 (shI a.toInt64 f i)) := by
    intro R s hs f hR i
    induction i with
    | zero =>
      intro _
      refine it_X5_shiftFrom_14 hp hq (ng_t (by decide) ⟨vp_in_nI hs (by decide), fun y hy => ?_⟩)
      rw [hy, nI_clamp (by omega)]
      show hd_X5_shiftFrom_7 S R p q a (nI s + (-1)) I (mj_up (mwn L (p + 1) 6 (shI a.toInt64 f 0)) (p + 1) 0 ((mwn L (p + 1) 6 (shI a.toInt64 f 0)) (p + 1) 0 + (mwn L (p + 1) 6 (shI a.toInt64 f 0)) (q + 1) s))
      rw [mwn_at (by decide), mwn_ne (b := q + 1) (by omega), ← mwn_upd (L := L) (a := p + 1) (n := 6) (i := 0) (f := shI a.toInt64 f 0) (g := shT (L (q + 1)) f a.toInt64 s) (by decide) (by simp [shT, shI]) (fun k hk h0 => by simp [shT, shI, h0])]
      exact hR
    | succ i ih =>
      intro hi
      rw [pk_m1]
      refine it_X5_shiftFrom_14 hp hq (ng_f (by omega) ⟨vp_in_nI (by omega) (by decide), _, _, _, s_at hp _, vp_in_nI (by omega) (by decide), fun y hy => ?_⟩)
      rw [hy, nI_clamp (by omega), mwn_at (by omega)]
      have e : shI a.toInt64 f i i = a.toInt64 * shI a.toInt64 f (i + 1) i + pat (mwn L (p + 1) 6 (shI a.toInt64 f (i + 1)) (p + 1)) (nI i - 1) := by
        cases i with
        | zero => rw [pat_lo (by decide)]; simp [shI]
        | succ j => rw [nI_pred, pat_n (by omega), mwn_at (by omega)]; simp [shI]; intro h; omega
      rw [← mwn_upd (g := shI a.toInt64 f i) (by omega) e (fun k hk h0 => by
        by_cases h2 : k < i
        · simp [shI, h2, show k < i + 1 by omega]
        · simp [shI, h2, show ¬ k < i + 1 by omega])]
      exact ih (by omega)
  have outer : ∀ s, s ≤ 6 → ∀ f : Nat → Int64, (∀ k, k < 6 → shF (L (q + 1)) a.toInt64 s f k = sh6 (L (q + 1)) a.toInt64 k) → hd_X5_shiftFrom_7 S (fun v h => v = none ∧ h = (S, I, mwn L (p + 1) 6 (sh6 (L (q + 1)) a.toInt64))) p q a (nI s + (-1)) I (mwn L (p + 1) 6 f) := by
    intro s
    induction s with
    | zero =>
      intro _ f hf
      exact it_X5_shiftFrom_7 hp hq (ng_t (by decide) ⟨rfl, congrArg (fun z => (S, I, z)) (mwn_congr hf)⟩)
    | succ s ih =>
      intro hs f hf
      rw [pk_m1]
      refine it_X5_shiftFrom_7 hp hq (ng_f (by omega) ?_)
      have := inner _ s (by omega) f (ih (by omega) _ hf) 6 (by decide)
      rw [mwn_congr (L := L) (a := p + 1) (n := 6) (f := shI a.toInt64 f 6) (g := f) (fun k hk => by simp [shI, hk])] at this
      exact this
  have := outer 6 (by decide) (fun k => if k = 0 then 0 else 0) (shF_congr _ _ _ _ _ (fun k _ => by simp))
  exact this
/-- the greatest common divisor of two longs -/
def gcL (a b : Int64) : Int64 := lN (Nat.gcd a.toInt.natAbs b.toInt.natAbs)
end
