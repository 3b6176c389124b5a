/-! CONTRACTS: counters, rows of six, and the class's polynomials -/
theorem ge_f {A B : Prop} {k i : Nat} (h : i < k) (hk : k < 2 ^ 31) (b : B) : ((nI k ≤ nI i → A) ∧ (¬ nI k ≤ nI i → B)) := ⟨fun q => absurd ((nI_leI hk (by omega)).mp q) (by omega), fun _ => b⟩
theorem ge_t {A B : Prop} {k i : Nat} (h : k ≤ i) (hi : i < 2 ^ 31) (a : A) : ((nI k ≤ nI i → A) ∧ (¬ nI k ≤ nI i → B)) := ⟨fun _ => a, fun q => absurd ((nI_leI (by omega) hi).mpr h) q⟩
theorem ng_f {A B : Prop} {i : Nat} (hi : i < 2 ^ 31) (b : B) : ((nI i < 0 → A) ∧ (¬ nI i < 0 → B)) := ⟨fun q => absurd q (nI_pos hi), fun _ => b⟩
theorem ng_t {A B : Prop} {x : Int32} (h : x < 0) (a : A) : ((x < 0 → A) ∧ (¬ x < 0 → B)) := ⟨fun _ => a, fun q => absurd h q⟩
theorem in_of {a : Int32} {n : Nat} (hn : n < 2 ^ 31) (h1 : ¬ a < 0) (h2 : ¬ nI n ≤ a) : vp_in a n := by
  rw [vp_in_iff]
  rw [Int32.lt_iff_toInt_lt] at h1
  rw [Int32.le_iff_toInt_le, nI_toInt hn] at h2
  have : (0 : Int32).toInt = 0 := rfl
  omega
def mwn {α : Type} (L : Nat → Nat → α) (a n : Nat) (f : Nat → α) : Nat → Nat → α := fun b k => if b = a ∧ k < n then f k else L b k
theorem mwn_0 {α : Type} (L : Nat → Nat → α) (a : Nat) (f : Nat → α) : mwn L a 0 f = L := by funext b k; simp [mwn]
theorem mwn_s {α : Type} (L : Nat → Nat → α) (a i : Nat) (f : Nat → α) (x : α) (hx : x = f i) : mj_up (mwn L a i f) a i x = mwn L a (i + 1) f := by
  funext b k
  unfold mj_up mwn
  by_cases hb : b = a
  · by_cases hk : k = i
    · subst hk; simp [hb, hx]
    · by_cases h2 : k < i
      · simp [hb, hk, h2, show k < i + 1 by omega]
      · simp [hb, hk, h2, show ¬ k < i + 1 by omega]
  · simp [hb]
theorem mwn_rd {α : Type} (L : Nat → Nat → α) (a i b : Nat) (f : Nat → α) : mwn L a i f b i = L b i := by simp [mwn]
theorem mwn_at {α : Type} {L : Nat → Nat → α} {a n k : Nat} {f : Nat → α} (h : k < n) : mwn L a n f a k = f k := by simp [mwn, h]
theorem mwn_ne {α : Type} {L : Nat → Nat → α} {a n b : Nat} {f : Nat → α} (h : b ≠ a) : mwn L a n f b = L b := by funext k; simp [mwn, h]
theorem mwn_mwn {α : Type} (L : Nat → Nat → α) (a n : Nat) (f g : Nat → α) : mwn (mwn L a n f) a n g = mwn L a n g := by funext b k; unfold mwn; by_cases h : b = a ∧ k < n <;> simp [h]
theorem mwn_congr {α : Type} {L : Nat → Nat → α} {a n : Nat} {f g : Nat → α} (h : ∀ k, k < n → f k = g k) : mwn L a n f = mwn L a n g := by
  funext b k
  unfold mwn
  by_cases hk : b = a ∧ k < n
  · simp [hk, h k hk.2]
  · simp [hk]
/-- counting up to N: the turns of a loop -/
theorem up_loop {P : Nat → Prop} (N : Nat) (h0 : P N) (hs : ∀ i, i < N → P (i + 1) → P i) : ∀ i, i ≤ N → P i := by
  have key : ∀ j i, i + j = N → P i := by
    intro j
    induction j with
    | zero => intro i h; have : i = N := by omega
              rw [this]; exact h0
    | succ j ih => exact fun i h => hs i (by omega) (ih (i + 1) (by omega))
  exact fun i hi => key (N - i) i (by omega)
variable {S : List mjD} {I : Nat → Nat → Int32} {L : Nat → Nat → Int64}
theorem s_abs (a : Int64) : CTl mr_J9_abs_067f4 [.long a] S I L (if 0 ≤ a then a else -a) I L := wp_J9_abs_067f4 ⟨fun h => ⟨by simp [h], rfl⟩, fun h => ⟨by simp [h], rfl⟩⟩
theorem s_max (a b : Int32) : CTi mr_J9_max_7cf53 [.int a, .int b] S I L (if a < b then b else a) I L := wp_J9_max_7cf53 ⟨fun h => ⟨by simp [h], rfl⟩, fun h => ⟨by simp [h], rfl⟩⟩
theorem s_min (a b : Int32) : CTi mr_J9_min_7cf53 [.int a, .int b] S I L (if b < a then b else a) I L := wp_J9_min_7cf53 ⟨fun h => ⟨by simp [h], rfl⟩, fun h => ⟨by simp [h], rfl⟩⟩
/-- a coefficient by an int -/
def pat (f : Nat → Int64) (a : Int32) : Int64 := if a < 0 then 0 else if 6 ≤ a then 0 else f a.toNatClampNeg
theorem pat_n {f : Nat → Int64} {k : Nat} (h : k < 6) : pat f (nI k) = f k := by
  unfold pat
  have h6 : ¬ (6 : Int32) ≤ nI k := fun q => absurd ((nI_leI (a := 6) (by decide) (by omega)).mp q) (by omega)
  rw [if_neg (nI_pos (by omega)), if_neg h6, nI_clamp (by omega)]
theorem pat_hi {f : Nat → Int64} {k : Nat} (h : 6 ≤ k) (h2 : k < 2 ^ 31) : pat f (nI k) = 0 := by
  unfold pat
  have h6 : (6 : Int32) ≤ nI k := (nI_leI (a := 6) (by decide) h2).mpr h
  rw [if_neg (nI_pos h2), if_pos h6]
theorem pat_lo {f : Nat → Int64} {a : Int32} (h : a < 0) : pat f a = 0 := by unfold pat; rw [if_pos h]
section
variable {p q r : Nat}
theorem s_at (hp : is_Poly S p) (a : Int32) : CTl mr_X5_at [.ref p, .int a] S I L (pat (L (p + 1)) a) I L :=
  wp_X5_at hp ⟨fun h => ⟨by simp [pat, h], rfl⟩, fun h => ⟨fun h2 => ⟨by simp [pat, h, h2], rfl⟩, fun h2 => ⟨in_of (by decide) h h2, ⟨by simp [pat, h, h2], rfl⟩⟩⟩⟩
theorem s_set (hp : is_Poly S p) {k : Nat} (hk : k < 6) (x : Int64) : CTv mr_X5_set [.ref p, .int (nI k), .long x] S I L I (mj_up L (p + 1) k x) := by
  refine wp_X5_set hp (ng_f (by omega) (ge_f (k := 6) hk (by decide) ⟨vp_in_nI hk (by decide), rfl, ?_⟩))
  rw [nI_clamp (by omega)]
theorem s_copy (hp : is_Poly S p) (hq : is_Poly S q) : CTv mr_X5_copyFrom [.ref p, .ref q] S I L I (mwn L (p + 1) 6 (L (q + 1))) := by
  refine wp_X5_copyFrom hp hq ?_
  have key := up_loop (P := fun i => hd_X5_copyFrom_2 S (fun v h => v = none ∧ h = (S, I, mwn L (p + 1) 6 (L (q + 1)))) p q (nI i) I (mwn L (p + 1) i (L (q + 1)))) 6
    (it_X5_copyFrom_2 hp hq (ge_t (k := 6) (by decide) (by decide) ⟨rfl, rfl⟩))
    (fun i hi ih => it_X5_copyFrom_2 hp hq (ge_f (k := 6) hi (by decide) ⟨vp_in_nI hi (by decide), vp_in_nI hi (by decide), fun y hy => by
      rw [hy, nI_1, nI_clamp (by omega), mwn_rd, mwn_s _ _ _ _ _ rfl]; exact ih⟩))
  have := key 0 (by decide)
  rwa [mwn_0] at this
theorem s_setConstant (hp : is_Poly S p) (c : Int64) : CTv mr_X5_setConstant [.ref p, .long c] S I L I (mwn L (p + 1) 6 (fun k => if k = 0 then c else 0)) := by
  refine wp_X5_setConstant hp ?_
  have key := up_loop (P := fun i => 1 ≤ i → hd_X5_setConstant_9 S (fun v h => v = none ∧ h = (S, I, mwn L (p + 1) 6 (fun k => if k = 0 then c else 0))) p (nI i) I (mwn L (p + 1) i (fun k => if k = 0 then c else 0))) 6
    (fun _ => it_X5_setConstant_9 hp (ge_t (k := 6) (by decide) (by decide) ⟨rfl, rfl⟩))
    (fun i hi ih h1 => it_X5_setConstant_9 hp (ge_f (k := 6) hi (by decide) ⟨vp_in_nI hi (by decide), fun y hy => by
      rw [hy, nI_1, nI_clamp (by omega), mwn_s _ _ _ _ _ (by rw [if_neg (by omega)])]; exact ih (by omega)⟩))
  have h1 := key 1 (by decide) (by decide)
  rw [show mj_up L (p + 1) (0 : Int32).toNatClampNeg c = mwn L (p + 1) 1 (fun k => if k = 0 then c else 0) from by
    have := mwn_s L (p + 1) 0 (fun k => if k = 0 then c else 0) c rfl
    rw [mwn_0] at this
    exact this]
  exact h1
theorem s_setQuadratic (hp : is_Poly S p) (a b c : Int64) : CTv mr_X5_setQuadratic [.ref p, .long a, .long b, .long c] S I L I (mwn L (p + 1) 6 (fun k => if k = 0 then c else if k = 1 then b else if k = 2 then a else 0)) := by
  refine wp_X5_setQuadratic hp ⟨_, _, s_setConstant hp c, rfl, ?_⟩
  congr 2
  funext x k
  show mj_up (mj_up _ (p + 1) 1 b) (p + 1) 2 a x k = _
  unfold mj_up mwn
  by_cases hx : x = p + 1
  · match k with
    | 0 => simp [hx]
    | 1 => simp [hx]
    | 2 => simp [hx]
    | k + 3 => simp [hx]
  · simp [hx]
def dgF (f : Nat → Int64) : Nat → Int32
  | 0 => -1
  | i + 1 => if f i = 0 then dgF f i else nI i
def dg (f : Nat → Int64) : Int32 := dgF f 6
theorem s_degree (hp : is_Poly S p) : CTi mr_X5_degree [.ref p] S I L (dg (L (p + 1))) I L := by
  refine wp_X5_degree hp ?_
  have key : ∀ i, i ≤ 6 → ∀ R : Int32, dgF (L (p + 1)) i = R → hd_X5_degree_2 S (fun v h => v = some (.int R) ∧ h = (S, I, L)) p (nI i + (-1)) I L := by
    intro i
    induction i with
    | zero => exact fun _ R hR => it_X5_degree_2 hp (ng_t (by decide) ⟨by rw [← hR]; rfl, rfl⟩)
    | succ i ih =>
      intro hi R hR
      rw [pk_m1]
      refine it_X5_degree_2 hp (ng_f (by omega) ⟨vp_in_nI (by omega) (by decide), fun h y hy => ?_, fun h => ?_⟩)
      · rw [nI_clamp (by omega)] at h
        rw [hy]
        exact ih (by omega) R (by rw [← hR, dgF, if_pos h])
      · rw [nI_clamp (by omega)] at h
        exact ⟨by rw [← hR, dgF, if_neg h], rfl⟩
  exact key 6 (by decide) _ rfl
/-- within 999 -/
def inr6 (f : Nat → Int64) : Prop := ∀ k, k < 6 → ¬ f k < -999 ∧ f k ≤ 999
theorem s_isInRange (hp : is_Poly S p) (b : Int32) (hb : (inr6 (L (p + 1)) ∧ b = 1) ∨ (¬ inr6 (L (p + 1)) ∧ b = 0)) : CTi mr_X5_isInRange [.ref p] S I L b I L := by
  refine wp_X5_isInRange hp ?_
  have key := up_loop (P := fun i => (∀ k, k < i → ¬ L (p + 1) k < -999 ∧ L (p + 1) k ≤ 999) → hd_X5_isInRange_2 S (fun v h => v = some (.int b) ∧ h = (S, I, L)) p (nI i) I L) 6
    (fun hk => it_X5_isInRange_2 hp (ge_t (k := 6) (by decide) (by decide) ⟨by
      rcases hb with ⟨-, rfl⟩ | ⟨h, -⟩
      · rfl
      · exact absurd hk h, rfl⟩))
    (fun i hi ih hk => by
      have bad : ¬ (¬ L (p + 1) i < -999 ∧ L (p + 1) i ≤ 999) → b = 0 := fun hn => by
        rcases hb with ⟨h, -⟩ | ⟨-, h⟩
        · exact absurd (h i hi) hn
        · exact h
      refine it_X5_isInRange_2 hp (ge_f (k := 6) hi (by decide) ⟨vp_in_nI hi (by decide), fun h => ?_, fun h => ⟨vp_in_nI hi (by decide), fun h2 y hy => ?_, fun h2 => ?_⟩⟩)
      · rw [nI_clamp (by omega)] at h
        exact ⟨by rw [bad (fun z => z.1 h)], rfl⟩
      · rw [nI_clamp (by omega)] at h h2
        rw [hy, nI_1]
        refine ih (fun k hk2 => ?_)
        rcases Nat.lt_succ_iff_lt_or_eq.mp hk2 with e | e
        · exact hk k e
        · rw [e]; exact ⟨h, h2⟩
      · rw [nI_clamp (by omega)] at h2
        exact ⟨by rw [bad (fun z => h2 z.2)], rfl⟩)
  exact key 0 (by decide) (fun k hk => by omega)
theorem s_sumFrom (hp : is_Poly S p) (hq : is_Poly S q) (hr : is_Poly S r) : CTv mr_X5_sumFrom [.ref p, .ref q, .ref r] S I L I (mwn L (p + 1) 6 (fun k => L (q + 1) k + L (r + 1) k)) := by
  refine wp_X5_sumFrom hp hq hr ?_
  have key := up_loop (P := fun i => hd_X5_sumFrom_2 S (fun v h => v = none ∧ h = (S, I, mwn L (p + 1) 6 (fun k => L (q + 1) k + L (r + 1) k))) p q r (nI i) I (mwn L (p + 1) i (fun k => L (q + 1) k + L (r + 1) k))) 6
    (it_X5_sumFrom_2 hp hq hr (ge_t (k := 6) (by decide) (by decide) ⟨rfl, rfl⟩))
    (fun i hi ih => it_X5_sumFrom_2 hp hq hr (ge_f (k := 6) hi (by decide) ⟨vp_in_nI hi (by decide), vp_in_nI hi (by decide), vp_in_nI hi (by decide), fun y hy => by
      rw [hy, nI_1, nI_clamp (by omega), mwn_rd, mwn_rd, mwn_s _ _ _ _ _ rfl]; exact ih⟩))
  have := key 0 (by decide)
  rwa [mwn_0] at this
theorem s_derivativeFrom (hp : is_Poly S p) (hq : is_Poly S q) (hne : p ≠ q) : CTv mr_X5_derivativeFrom [.ref p, .ref q] S I L I (mwn L (p + 1) 6 (fun k => (nI k + 1).toInt64 * pat (L (q + 1)) (nI k + 1))) := by
  refine wp_X5_derivativeFrom hp hq ?_
  have key := up_loop (P := fun i => hd_X5_derivativeFrom_2 S (fun v h => v = none ∧ h = (S, I, mwn L (p + 1) 6 (fun k => (nI k + 1).toInt64 * pat (L (q + 1)) (nI k + 1)))) p q (nI i) I (mwn L (p + 1) i (fun k => (nI k + 1).toInt64 * pat (L (q + 1)) (nI k + 1)))) 6
    (it_X5_derivativeFrom_2 hp hq (ge_t (k := 6) (by decide) (by decide) ⟨rfl, rfl⟩))
    (fun i hi ih => it_X5_derivativeFrom_2 hp hq (ge_f (k := 6) hi (by decide) ⟨_, _, _, s_at hq _, vp_in_nI hi (by decide), fun y hy => by
      rw [hy, nI_clamp (by omega), mwn_ne (by omega), mwn_s _ _ _ _ _ rfl, nI_1]; exact ih⟩))
  have := key 0 (by decide)
  rwa [mwn_0] at this
theorem s_reverseFrom (hp : is_Poly S p) (hq : is_Poly S q) (hne : p ≠ q) : CTv mr_X5_reverseFrom [.ref p, .ref q] S I L I (mwn L (p + 1) 6 (fun k => pat (L (q + 1)) (dg (L (q + 1)) - nI k))) := by
  refine wp_X5_reverseFrom hp hq ⟨_, _, _, s_degree hq, ?_⟩
  have key := up_loop (P := fun i => hd_X5_reverseFrom_7 S (fun v h => v = none ∧ h = (S, I, mwn L (p + 1) 6 (fun k => pat (L (q + 1)) (dg (L (q + 1)) - nI k)))) p q (dg (L (q + 1))) (nI i) I (mwn L (p + 1) i (fun k => pat (L (q + 1)) (dg (L (q + 1)) - nI k)))) 6
    (it_X5_reverseFrom_7 hp hq (ge_t (k := 6) (by decide) (by decide) ⟨rfl, rfl⟩))
    (fun i hi ih => it_X5_reverseFrom_7 hp hq (ge_f (k := 6) hi (by decide) ⟨_, _, _, s_at hq _, vp_in_nI hi (by decide), fun y hy => by
      rw [hy, nI_clamp (by omega), mwn_ne (by omega), mwn_s _ _ _ _ _ rfl, nI_1]; exact ih⟩))
  have := key 0 (by decide)
  rwa [mwn_0] at this
theorem s_mirrorFrom (hp : is_Poly S p) (hq : is_Poly S q) : CTv mr_X5_mirrorFrom [.ref p, .ref q] S I L I (mwn L (p + 1) 6 (fun k => if (nI k - nI k / 2 * 2) = 0 then L (q + 1) k else -(L (q + 1) k))) := by
  refine wp_X5_mirrorFrom hp hq ?_
  have key := up_loop (P := fun i => hd_X5_mirrorFrom_2 S (fun v h => v = none ∧ h = (S, I, mwn L (p + 1) 6 (fun k => if (nI k - nI k / 2 * 2) = 0 then L (q + 1) k else -(L (q + 1) k)))) p q (nI i) I (mwn L (p + 1) i (fun k => if (nI k - nI k / 2 * 2) = 0 then L (q + 1) k else -(L (q + 1) k)))) 6
    (it_X5_mirrorFrom_2 hp hq (ge_t (k := 6) (by decide) (by decide) ⟨rfl, rfl⟩))
    (fun i hi ih => it_X5_mirrorFrom_2 hp hq (ge_f (k := 6) hi (by decide) ⟨fun h => ⟨vp_in_nI hi (by decide), vp_in_nI hi (by decide), fun y hy => by
      rw [hy, nI_clamp (by omega), mwn_rd, mwn_s _ _ _ _ _ (by rw [if_neg h]), nI_1]; exact ih⟩, fun h => ⟨vp_in_nI hi (by decide), vp_in_nI hi (by decide), fun y hy => by
      rw [hy, nI_clamp (by omega), mwn_rd, mwn_s _ _ _ _ _ (by rw [if_pos h]), nI_1]; exact ih⟩⟩))
  have := key 0 (by decide)
  rwa [mwn_0] at this
def hvF (f : Nat → Int64) (x : Int64) : Nat → Int64 → Int64
  | 0, s => s
  | i + 1, s => hvF f x i (s * x + f i)
theorem s_valueAt (hp : is_Poly S p) (a : Int32) : CTl mr_X5_valueAt [.ref p, .int a] S I L (hvF (L (p + 1)) a.toInt64 6 0) I L := by
  refine wp_X5_valueAt hp ?_
  have key : ∀ i, i ≤ 6 → ∀ s R : Int64, hvF (L (p + 1)) a.toInt64 i s = R → hd_X5_valueAt_5 S (fun v h => v = some (.long R) ∧ h = (S, I, L)) p a s (nI i + (-1)) I L := by
    intro i
    induction i with
    | zero => exact fun _ s R hR => it_X5_valueAt_5 hp (ng_t (by decide) ⟨by rw [← hR]; rfl, rfl⟩)
    | succ i ih =>
      intro hi s R hR
      rw [pk_m1]
      refine it_X5_valueAt_5 hp (ng_f (by omega) ⟨vp_in_nI (by omega) (by decide), fun y hy z hz => ?_⟩)
      rw [hy, hz, nI_clamp (by omega)]
      exact ih (by omega) _ R hR
  exact key 6 (by decide) 0 _ rfl
def ordF (f g : Nat → Int64) : Nat → Int32
  | 0 => 0
  | i + 1 => if f i = g i then ordF f g i else if g i ≤ f i then 1 else -1
theorem s_order (hp : is_Poly S p) (hq : is_Poly S q) : CTi mr_X5_order [.ref p, .ref q] S I L (ordF (L (p + 1)) (L (q + 1)) 6) I L := by
  refine wp_X5_order hp hq ?_
  have key : ∀ i, i ≤ 6 → ∀ R : Int32, ordF (L (p + 1)) (L (q + 1)) i = R → hd_X5_order_2 S (fun v h => v = some (.int R) ∧ h = (S, I, L)) p q (nI i + (-1)) I L := by
    intro i
    induction i with
    | zero => exact fun _ R hR => it_X5_order_2 hp hq (ng_t (by decide) ⟨by rw [← hR]; rfl, rfl⟩)
    | succ i ih =>
      intro hi R hR
      rw [pk_m1]
      refine it_X5_order_2 hp hq (ng_f (by omega) ⟨vp_in_nI (by omega) (by decide), vp_in_nI (by omega) (by decide), fun h y hy => ?_, fun h => ⟨vp_in_nI (by omega) (by decide), vp_in_nI (by omega) (by decide), fun h2 => ?_, fun h2 => ?_⟩⟩)
      · rw [nI_clamp (by omega)] at h
        rw [hy]
        exact ih (by omega) R (by rw [← hR, ordF, if_pos h])
      · rw [nI_clamp (by omega)] at h h2
        exact ⟨by rw [← hR, ordF, if_neg h, if_pos h2], rfl⟩
      · rw [nI_clamp (by omega)] at h h2
        exact ⟨by rw [← hR, ordF, if_neg h, if_neg h2], rfl⟩
  exact key 6 (by decide) _ rfl
theorem s_isSame (hp : is_Poly S p) (hq : is_Poly S q) : CTi mr_X5_isSame [.ref p, .ref q] S I L (if ordF (L (p + 1)) (L (q + 1)) 6 = 0 then 1 else 0) I L :=
  wp_X5_isSame hp hq ⟨_, _, _, s_order hp hq, fun h => ⟨by rw [if_neg h], rfl⟩, fun h => ⟨by rw [if_pos h], rfl⟩⟩
/-- a coefficient of a product -/
def pcF (f g : Nat → Int64) (a : Int32) : Nat → Nat → Int64 → Int64
  | 0, _, s => s
  | j + 1, i, s => pcF f g a j (i + 1) (if a - nI i < 0 then s else if 6 ≤ a - nI i then s else s + f i * g (a - nI i).toNatClampNeg)
def pc6 (f g : Nat → Int64) (a : Int32) : Int64 := pcF f g a 6 0 0
theorem s_productAt (hp : is_Poly S p) (hq : is_Poly S q) (a : Int32) : CTl mr_X5_productAt [.ref p, .ref q, .int a] S I L (pc6 (L (p + 1)) (L (q + 1)) a) I L := by
  refine wp_X5_productAt hp hq ?_
  have key : ∀ j i, i + j = 6 → ∀ s R : Int64, pcF (L (p + 1)) (L (q + 1)) a j i s = R → hd_X5_productAt_5 S (fun v h => v = some (.long R) ∧ h = (S, I, L)) p q a s (nI i) I L := by
    intro j
    induction j with
    | zero =>
      intro i hi s R hR
      obtain rfl : i = 6 := by omega
      exact it_X5_productAt_5 hp hq (ge_t (k := 6) (by decide) (by decide) ⟨by rw [← hR]; rfl, rfl⟩)
    | succ j ih =>
      intro i hi s R hR
      refine it_X5_productAt_5 hp hq (ge_f (k := 6) (by omega) (by decide) (fun y hy => ⟨fun h z hz => ?_, fun h => ⟨fun h2 z hz => ?_, fun h2 => ⟨vp_in_nI (by omega) (by decide), in_of (by decide) h h2, fun w hw z hz => ?_⟩⟩⟩))
      · rw [hz, nI_1]
        exact ih (i + 1) (by omega) s R (by rw [← hR, pcF, if_pos (hy ▸ h)])
      · rw [hz, nI_1]
        exact ih (i + 1) (by omega) s R (by rw [← hR, pcF, if_neg (hy ▸ h), if_pos (hy ▸ h2)])
      · rw [hz, nI_1, hw]
        exact ih (i + 1) (by omega) _ R (by rw [← hR, pcF, if_neg (hy ▸ h), if_neg (hy ▸ h2), hy, nI_clamp (by omega)])
  exact key 6 0 rfl 0 _ rfl
end
