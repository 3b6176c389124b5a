/-! THE REFERENCE: its row of factors -/
variable {S : List mjD} {I : Nat → Nat → Int32} {L : Nat → Nat → Int64}
/-- n places from o on are written -/
def seg {α : Type} (L : Nat → Nat → α) (a o n : Nat) (g : Nat → α) : Nat → Nat → α := fun b t => if b = a ∧ o ≤ t ∧ t < o + n then g (t - o) else L b t
theorem seg_0 {α : Type} (L : Nat → Nat → α) (a o : Nat) (g : Nat → α) : seg L a o 0 g = L := by
  funext b t
  unfold seg
  rw [if_neg (by omega)]
theorem seg_s {α : Type} (L : Nat → Nat → α) (a o i : Nat) (g : Nat → α) {x : α} (hx : x = g i) : mj_up (seg L a o i g) a (o + i) x = seg L a o (i + 1) g := by
  funext b t
  unfold mj_up seg
  by_cases hb : b = a
  · by_cases ht : t = o + i
    · subst ht
      rw [if_pos ⟨hb, rfl⟩, if_pos ⟨hb, by omega, by omega⟩, hx]; congr 1; omega
    · rw [if_neg (fun z => ht z.2)]
      by_cases h : o ≤ t ∧ t < o + i
      · rw [if_pos ⟨hb, h⟩, if_pos ⟨hb, h.1, by omega⟩]
      · rw [if_neg (fun z => h z.2), if_neg (by omega)]
  · rw [if_neg (fun z => hb z.1), if_neg (fun z => hb z.1), if_neg (fun z => hb z.1)]
theorem seg_at {α : Type} {L : Nat → Nat → α} {a o n k : Nat} {g : Nat → α} (h : k < n) : seg L a o n g a (o + k) = g k := by
  unfold seg
  rw [if_pos ⟨rfl, by omega, by omega⟩]; congr 1; omega
theorem seg_ne {α : Type} {L : Nat → Nat → α} {a o n b : Nat} {g : Nat → α} (h : b ≠ a) : seg L a o n g b = L b := by
  funext t
  unfold seg
  rw [if_neg (fun z => h z.1)]
theorem seg_out {α : Type} {L : Nat → Nat → α} {a o n b t : Nat} {g : Nat → α} (h : t < o ∨ o + n ≤ t) : seg L a o n g b t = L b t := by
  unfold seg
  rw [if_neg (by omega)]
theorem seg_congr {α : Type} {L : Nat → Nat → α} {a o n : Nat} {f g : Nat → α} (h : ∀ k, k < n → f k = g k) : seg L a o n f = seg L a o n g := by
  funext b t
  unfold seg
  by_cases c : b = a ∧ o ≤ t ∧ t < o + n
  · rw [if_pos c, if_pos c, h _ (by omega)]
  · rw [if_neg c, if_neg c]
theorem nI_6 (f k : Nat) : ((6 : Int32) * nI f) + nI k = nI (6 * f + k) := by
  show nI 6 * nI f + nI k = _
  rw [pk_mul, nI_add]
/-- a place of the row of factors -/
def mHold (m j : Nat) (p : List Int) (t : Nat) (I : Nat → Nat → Int32) (L : Nat → Nat → Int64) : Prop :=
  rl (fun k => L (m + 11) (6 * j + k)) = p ∧ I (m + 12) j = nI t ∧ ∃ d, d < 6 ∧ I (m + 13) j = nI d ∧ zlt p (d + 1) ∧ 0 < zco p d
def mRep (m n : Nat) (P : Nat → List Int) (M : Nat → Nat) (I : Nat → Nat → Int32) (L : Nat → Nat → Int64) : Prop := I m 19 = nI n ∧ n ≤ 5 ∧ ∀ j, j < n → mHold m j (P j) (M j) I L
theorem zle_up {p q : List Int} {d : Nat} (hp : zlt p (d + 1)) (hq : zlt q (d + 1)) (h : zle d p q) : ∀ j, zle (d + j) p q
  | 0 => h
  | j + 1 => Or.inr ⟨(hp (d + j + 1) (by omega)).trans (hq (d + j + 1) (by omega)).symm, zle_up hp hq h j⟩
theorem zle_deg {p q : List Int} {a b : Nat} (hp : zlt p (a + 1)) (hq : zlt q (b + 1)) (h0 : 0 < zco q b) (hab : a < b) : ∀ j, zle (b + j) p q
  | 0 => by
    obtain ⟨b', rfl⟩ : ∃ b', b = b' + 1 := ⟨b - 1, by omega⟩
    exact Or.inl (by rw [hp (b' + 1) (by omega)]; exact h0)
  | j + 1 => Or.inr ⟨(hp (b + j + 1) (by omega)).trans (hq (b + j + 1) (by omega)).symm, zle_deg hp hq h0 hab j⟩
section
variable {m n d : Nat} {P : Nat → List Int} {M : Nat → Nat} {T : Nat → Int64}
theorem m_cmp30 (hm : is_Model S m) {f : Nat} (hf : f < 6) (hd6 : d < 6) (hT : ∀ k, k ≤ d → L (m + 15) k = T k) : ∀ i, i ≤ d + 1 → ∀ R : Int32, ordF T (fun k => L (m + 11) (6 * f + k)) i = R → hd_X9_compareTo_30 S (fun v h => v = some (.int R) ∧ h = (S, I, L)) m (nI f) (nI i + (-1)) I L := by
  intro i
  induction i with
  | zero => exact fun _ R hR => it_X9_compareTo_30 hm (ng_t (by decide) ⟨by rw [← hR]; rfl, rfl⟩)
  | succ i ih =>
    intro hi R hR
    rw [pk_m1]
    have hv1 : vp_in (nI i) 6 := vp_in_nI (by omega) (by decide)
    have hv2 : vp_in (((6 : Int32) * nI f) + nI i) 36 := by rw [nI_6]; exact vp_in_nI (by omega) (by decide)
    have e1 : L (m + 15) (nI i).toNatClampNeg = T i := by rw [nI_clamp (by omega)]; exact hT i (by omega)
    have e2 : L (m + 11) (((6 : Int32) * nI f) + nI i).toNatClampNeg = L (m + 11) (6 * f + i) := by rw [nI_6, nI_clamp (by omega)]
    refine it_X9_compareTo_30 hm (ng_f (by omega) ⟨hv1, hv2, fun h y hy => ?_, fun h => ⟨hv1, hv2, fun h2 => ?_, fun h2 => ?_⟩⟩)
    · rw [e1, e2] at h
      rw [hy]
      exact ih (by omega) R (by rw [← hR, ordF, if_pos h])
    · rw [e1, e2] at h h2
      exact ⟨by rw [← hR, ordF, if_neg h, if_pos h2], rfl⟩
    · rw [e1, e2] at h h2
      exact ⟨by rw [← hR, ordF, if_neg h, if_neg h2], rfl⟩
theorem m_compareTo (hm : is_Model S m) {f t : Nat} {p : List Int} (hf : f < 6) (hT : ∀ k, k ≤ d → L (m + 15) k = T k) (hTd : deg6 T d) (hT0 : 0 < (T d).toInt) (hld : I m 26 = nI d) (hH : mHold m f p t I L) :
    ∃ r, CTi mr_X9_compareTo [.ref m, .int (nI f)] S I L r I L ∧ (r = 0 ↔ rl T = p) ∧ (r ≤ 0 → zle 5 (rl T) p) ∧ (¬ r ≤ 0 → zle 5 p (rl T) ∧ p ≠ rl T) := by
  obtain ⟨h1, h2, df, h3, h4, h5, h6⟩ := hH
  have hd6 := hTd.1
  have hTz := deg6_zlt hTd
  have hTp : 0 < zco (rl T) d := by rw [rl_co T hd6]; exact hT0
  have hv : vp_in (nI f) 6 := vp_in_nI hf (by decide)
  by_cases e : d = df
  · subst e
    have hord0 : ordF T (fun k => L (m + 11) (6 * f + k)) (d + 1) = 0 ↔ rl T = p := by
      rw [ordF_zero, ← h1]
      refine ⟨fun h => rl_ext (fun k hk => ?_), fun h j hj => rl_inj h (by omega)⟩
      rcases Nat.lt_or_ge d k with c | c
      · apply Int64.toInt_inj.mp
        have := h5 k (by omega)
        rw [← h1, rl_co _ hk] at this
        rw [this, hTd.2.2 k c hk]; rfl
      · exact h k (by omega)
    have up := fun (a b : List Int) (ha : zlt a (d + 1)) (hb : zlt b (d + 1)) (h : zle d a b) => by
      have := zle_up ha hb h (5 - d)
      rwa [show d + (5 - d) = 5 by omega] at this
    refine ⟨_, wp_X9_compareTo hm ⟨hv, fun _ y hy => ?_, fun h => absurd (by rw [nI_clamp (by omega), h4, hld]) h⟩, hord0, fun h => ?_, fun h => ?_⟩
    · rw [hy, hld]
      have := m_cmp30 (S := S) (I := I) (L := L) (T := T) hm hf hd6 hT (d + 1) (Nat.le_refl _) _ rfl
      rwa [pk_m1] at this
    · by_cases h0 : ordF T (fun k => L (m + 11) (6 * f + k)) (d + 1) = 0
      · rw [hord0.mp h0]; exact zle_refl 5 _
      · have hn : ¬ 0 ≤ ordF T (fun k => L (m + 11) (6 * f + k)) (d + 1) := fun q => h0 (Int32.le_antisymm h q)
        have := (ordF_neg d hd6 hn).1
        rw [h1] at this
        exact up _ _ hTz.1 h5 this
    · have hn : 0 ≤ ordF T (fun k => L (m + 11) (6 * f + k)) (d + 1) := by
        rcases Int32.le_total 0 (ordF T (fun k => L (m + 11) (6 * f + k)) (d + 1)) with q | q
        · exact q
        · exact absurd q h
      have := ordF_pos d hd6 hn
      rw [h1] at this
      exact ⟨up _ _ h5 hTz.1 this, fun e => h (by rw [hord0.mpr e.symm]; decide)⟩
  · have hne : ¬ nI d = nI df := fun h => e ((nI_eq (by omega) (by omega)).mp h)
    have hdif : rl T ≠ p := fun h => by
      rcases Nat.lt_trichotomy d df with c | c | c
      · have := hTz.1 df c; rw [h] at this; omega
      · exact e c
      · have := h5 d c; rw [← h] at this; omega
    have hs := pk_sub_toInt (a := d) (b := df) (by omega) (by omega)
    have hle : nI d - nI df ≤ 0 ↔ d ≤ df := by
      rw [Int32.le_iff_toInt_le, hs]
      have : (0 : Int32).toInt = 0 := rfl
      omega
    refine ⟨nI d - nI df, wp_X9_compareTo hm ⟨hv, fun h => absurd (by rw [nI_clamp (by omega), h4, hld] at h; exact h) hne, fun _ => ⟨hv, ?_, rfl⟩⟩, ⟨fun h => ?_, fun h => absurd h hdif⟩, fun h => ?_, fun h => ⟨?_, fun h2 => hdif h2.symm⟩⟩
    · rw [nI_clamp (by omega), h4, hld]
    · have := congrArg Int32.toInt h
      rw [hs] at this
      have z : (0 : Int32).toInt = 0 := rfl
      omega
    · have h7 := hle.mp h
      have := zle_deg hTz.1 h5 h6 (by omega) (5 - df)
      rwa [show df + (5 - df) = 5 by omega] at this
    · have h7 : df < d := by
        have h8 : ¬ d ≤ df := fun q => h (hle.mpr q)
        omega
      have := zle_deg h5 hTz.1 hTp h7 (5 - d)
      rwa [show d + (5 - d) = 5 by omega] at this
/-- the tried polynomial comes into the place c -/
theorem m_af153 (hm : is_Model S m) {c : Nat} (hc : c < 6) (hd6 : d < 6) (hld : I m 26 = nI d) {RET : Option Value → mjH → Prop} (hr : RET none (S, mj_up I m 19 ((I m 19) + (1 : Int32)), seg L (m + 11) (6 * c) 6 (fun k => if k ≤ d then L (m + 15) k else 0))) : hd_X9_addFactor_153 S RET m (nI c) 0 I L := by
  have key := up_loop (P := fun i => hd_X9_addFactor_153 S RET m (nI c) (nI i) I (seg L (m + 11) (6 * c) i (fun k => if k ≤ d then L (m + 15) k else 0))) 6
    (it_X9_addFactor_153 hm (ge_t (k := 6) (by decide) (by decide) hr))
    (fun i hi ih => it_X9_addFactor_153 hm (ge_f (k := 6) hi (by decide) (by
      have hv2 : vp_in (((6 : Int32) * nI c) + nI i) 36 := by rw [nI_6]; exact vp_in_nI (by omega) (by decide)
      have e : (((6 : Int32) * nI c) + nI i).toNatClampNeg = 6 * c + i := by rw [nI_6, nI_clamp (by omega)]
      rw [hld, e]
      refine ⟨fun h => ⟨hv2, fun y hy => ?_⟩, fun h => ⟨vp_in_nI hi (by decide), hv2, fun y hy => ?_⟩⟩
      · have hdi : d < i := (nI_ltI (by omega) (by omega)).mp h
        rw [hy, nI_1, seg_s _ _ _ _ _ (by rw [if_neg (by omega)])]; exact ih
      · have hdi : i ≤ d := Classical.byContradiction fun q => h (nI_lt (by omega) (by omega))
        rw [hy, nI_1, nI_clamp (by omega), seg_ne (b := m + 15) (by omega), seg_s _ _ _ _ _ (by rw [if_pos hdi])]; exact ih)))
  have := key 0 (by decide)
  rwa [seg_0] at this
/-- a factor moves one place up -/
theorem m_af91 (hm : is_Model S m) {c f : Nat} (hf : f < 5) {RET : Option Value → mjH → Prop} (hr : hd_X9_addFactor_56 S RET m (nI c) (nI f) I (seg L (m + 11) (6 * (f + 1)) 6 (fun k => L (m + 11) (6 * f + k)))) : hd_X9_addFactor_91 S RET m (nI c) (nI (f + 1)) 0 I L := by
  have key := up_loop (P := fun i => hd_X9_addFactor_91 S RET m (nI c) (nI (f + 1)) (nI i) I (seg L (m + 11) (6 * (f + 1)) i (fun k => L (m + 11) (6 * f + k)))) 6
    (it_X9_addFactor_91 hm (ge_t (k := 6) (by decide) (by decide) (fun y hy => by rw [hy, pk_m1]; exact hr)))
    (fun i hi ih => it_X9_addFactor_91 hm (ge_f (k := 6) hi (by decide) (by
      have e2 : (((6 : Int32) * nI (f + 1)) - (6 : Int32)) + nI i = nI (6 * f + i) := by
        show (nI 6 * nI (f + 1) - nI 6) + nI i = _
        rw [pk_mul, pk_sub (by omega), nI_add, show 6 * (f + 1) - 6 + i = 6 * f + i by omega]
      rw [nI_6, e2]
      refine ⟨vp_in_nI (by omega) (by decide), vp_in_nI (by omega) (by decide), fun y hy => ?_⟩
      rw [hy, nI_1, nI_clamp (by omega), nI_clamp (by omega), seg_out (t := 6 * f + i) (by omega), seg_s _ _ _ _ _ rfl]
      exact ih)))
  have := key 0 (by decide)
  rwa [seg_0] at this
/-- what adding a factor leaves as it was -/
def frA (m : Nat) (I : Nat → Nat → Int32) (L : Nat → Nat → Int64) (I1 : Nat → Nat → Int32) (L1 : Nat → Nat → Int64) : Prop :=
  (∀ b, b ≠ m → b ≠ m + 11 → b ≠ m + 12 → b ≠ m + 13 → I1 b = I b ∧ L1 b = L b) ∧ L1 m = L m ∧ ∀ k, k ≠ 19 → I1 m k = I m k
theorem mHold_of {j j' t : Nat} {p : List Int} {I1 : Nat → Nat → Int32} {L1 : Nat → Nat → Int64} (h : mHold m j p t I L) (h1 : ∀ k, k < 6 → L1 (m + 11) (6 * j' + k) = L (m + 11) (6 * j + k)) (h2 : I1 (m + 12) j' = I (m + 12) j) (h3 : I1 (m + 13) j' = I (m + 13) j) : mHold m j' p t I1 L1 :=
  ⟨(rl_ext h1).trans h.1, h2.trans h.2.1, by obtain ⟨d, a, b, c⟩ := h.2.2; exact ⟨d, a, h3.trans b, c⟩⟩
theorem m_af_fin (hm : is_Model S m) (hT : ∀ k, k ≤ d → L (m + 15) k = T k) (hTd : deg6 T d) (hT0 : 0 < (T d).toInt) (hld : I m 26 = nI d) (hn : n < 5) {c : Nat} (hc : c ≤ n) {I' : Nat → Nat → Int32} {L' : Nat → Nat → Int64} (hf : frA m I L I' L') (h19 : I' m 19 = nI n) (hb : ∀ j, c < j → j ≤ n → mHold m j (P (j - 1)) (M (j - 1)) I' L') (hcc : ∀ j, j < c → mHold m j (P j) (M j) I' L') :
    ∃ I1 L1, hd_X9_addFactor_56 S (fun v h => v = none ∧ h = (S, I1, L1)) m (nI c) (nI c) I' L' ∧ frA m I L I1 L1 ∧ mRep m (n + 1) (fins c (rl T) P) (fins c 1 M) I1 L1 := by
  have hd6 := hTd.1
  have hTz := deg6_zlt hTd
  have h26 : I' m 26 = nI d := by rw [hf.2.2 26 (by decide)]; exact hld
  obtain ⟨I2, hI2⟩ : ∃ I2, I2 = mj_up (mj_up I' (m + 12) c (1 : Int32)) (m + 13) c (nI d) := ⟨_, rfl⟩
  have h226 : I2 m 26 = nI d := by rw [hI2, up_ne (by omega), up_ne (by omega)]; exact h26
  have r15 : L' (m + 15) = L (m + 15) := (hf.1 _ (by omega) (by omega) (by omega) (by omega)).2
  obtain ⟨L1, hL1⟩ : ∃ L1, L1 = seg L' (m + 11) (6 * c) 6 (fun k => if k ≤ d then L' (m + 15) k else 0) := ⟨_, rfl⟩
  obtain ⟨I1, hI1⟩ : ∃ I1, I1 = mj_up I2 m 19 ((I2 m 19) + (1 : Int32)) := ⟨_, rfl⟩
  have i12 : ∀ j, j ≠ c → I1 (m + 12) j = I' (m + 12) j := fun j hj => by rw [hI1, up_ne (by omega), hI2, up_ne (by omega), up_nk hj]
  have i13 : ∀ j, j ≠ c → I1 (m + 13) j = I' (m + 13) j := fun j hj => by rw [hI1, up_ne (by omega), hI2, up_nk hj, up_ne (by omega)]
  have l11 : ∀ j k, j ≠ c → k < 6 → L1 (m + 11) (6 * j + k) = L' (m + 11) (6 * j + k) := fun j k hj hk => by rw [hL1, seg_out (by omega)]
  refine ⟨I1, L1, it_X9_addFactor_56 hm ⟨fun _ => ⟨vp_in_nI (by omega) (by decide), vp_in_nI (by omega) (by decide), ?_⟩, fun h => absurd (nI_le (Nat.le_refl _) (by omega)) h⟩, ⟨fun b b0 b1 b2 b3 => ⟨by rw [hI1, up_ne b0, hI2, up_ne b3, up_ne b2]; exact (hf.1 b b0 b1 b2 b3).1, by rw [hL1, seg_ne b1]; exact (hf.1 b b0 b1 b2 b3).2⟩, by rw [hL1, seg_ne (by omega)]; exact hf.2.1, fun k hk => by rw [hI1, up_nk hk, hI2, up_ne (by omega), up_ne (by omega)]; exact hf.2.2 k hk⟩, ?_, by omega, fun j hj => ?_⟩
  · have e26 : mj_up I' (m + 12) (nI c).toNatClampNeg (1 : Int32) m 26 = nI d := by rw [up_ne (by omega)]; exact h26
    rw [e26, nI_clamp (by omega), ← hI2]
    exact m_af153 hm (by omega) hd6 h226 (by rw [← hL1, ← hI1]; exact ⟨rfl, rfl⟩)
  · rw [hI1, up_eq, hI2, up_ne (by omega), up_ne (by omega), h19, nI_1]
  · rcases Nat.lt_trichotomy j c with e | e | e
    · rw [fins_lo e, fins_lo e]
      exact mHold_of (hcc j e) (fun k hk => l11 j k (by omega) hk) (i12 j (by omega)) (i13 j (by omega))
    · subst e
      rw [fins_eq, fins_eq]
      refine ⟨rl_ext (fun k hk => ?_), ?_, d, hd6, ?_, hTz.1, by rw [rl_co T hd6]; exact hT0⟩
      · show L1 (m + 11) (6 * j + k) = T k
        rw [hL1, seg_at hk, r15]
        by_cases hkd : k ≤ d
        · rw [if_pos hkd]; exact hT k hkd
        · rw [if_neg hkd, hTd.2.2 k (by omega) hk]
      · rw [hI1, up_ne (by omega), hI2, up_ne (by omega), up_eq]; rfl
      · rw [hI1, up_ne (by omega), hI2, up_eq]
    · rw [fins_hi e, fins_hi e]
      exact mHold_of (hb j e (by omega)) (fun k hk => l11 j k (by omega) hk) (i12 j (by omega)) (i13 j (by omega))
theorem m_af56 (hm : is_Model S m) (hT : ∀ k, k ≤ d → L (m + 15) k = T k) (hTd : deg6 T d) (hT0 : 0 < (T d).toInt) (hld : I m 26 = nI d) (hn : n < 5) {c : Nat} (hc : c ≤ n) :
    ∀ f, c ≤ f → f ≤ n → ∀ I' L', frA m I L I' L' → I' m 19 = nI n → (∀ j, j < f → mHold m j (P j) (M j) I' L') → (∀ j, f < j → j ≤ n → mHold m j (P (j - 1)) (M (j - 1)) I' L') → (∀ j, j < c → mHold m j (P j) (M j) I' L') →
      ∃ I1 L1, hd_X9_addFactor_56 S (fun v h => v = none ∧ h = (S, I1, L1)) m (nI c) (nI f) I' L' ∧ frA m I L I1 L1 ∧ mRep m (n + 1) (fins c (rl T) P) (fins c 1 M) I1 L1 := by
  have hd6 := hTd.1
  have hTz := deg6_zlt hTd
  intro f
  induction f with
  | zero =>
    intro h1 _ I' L' hf h19 ha hb hcc
    obtain rfl : c = 0 := by omega
    exact m_af_fin hm hT hTd hT0 hld hn hc hf h19 hb hcc
  | succ f ih =>
    intro h1 h2 I' L' hf h19 ha hb hcc
    rcases Nat.eq_or_lt_of_le h1 with e | e
    · subst e; exact m_af_fin hm hT hTd hT0 hld hn hc hf h19 hb hcc
    · have hcl1 : (nI (f + 1) - (1 : Int32)).toNatClampNeg = f := by rw [nI_pred, nI_clamp (by omega)]
      have hcl2 : (nI (f + 1)).toNatClampNeg = f + 1 := nI_clamp (by omega)
      have hv1 : vp_in (nI (f + 1) - (1 : Int32)) 6 := by rw [nI_pred]; exact vp_in_nI (by omega) (by decide)
      have hv2 : vp_in (nI (f + 1)) 6 := vp_in_nI (by omega) (by decide)
      obtain ⟨I2, hI2⟩ : ∃ I2, I2 = mj_up (mj_up I' (m + 12) (f + 1) (I' (m + 12) f)) (m + 13) (f + 1) (I' (m + 13) f) := ⟨_, rfl⟩
      obtain ⟨L2, hL2⟩ : ∃ L2, L2 = seg L' (m + 11) (6 * (f + 1)) 6 (fun k => L' (m + 11) (6 * f + k)) := ⟨_, rfl⟩
      have i12 : ∀ j, j ≠ f + 1 → I2 (m + 12) j = I' (m + 12) j := fun j hj => by rw [hI2, up_ne (by omega), up_nk hj]
      have i13 : ∀ j, j ≠ f + 1 → I2 (m + 13) j = I' (m + 13) j := fun j hj => by rw [hI2, up_nk hj, up_ne (by omega)]
      have i12' : I2 (m + 12) (f + 1) = I' (m + 12) f := by rw [hI2, up_ne (by omega), up_eq]
      have i13' : I2 (m + 13) (f + 1) = I' (m + 13) f := by rw [hI2, up_eq]
      have l11 : ∀ j k, j ≠ f + 1 → k < 6 → L2 (m + 11) (6 * j + k) = L' (m + 11) (6 * j + k) := fun j k hj hk => by rw [hL2, seg_out (by omega)]
      have l11' : ∀ k, k < 6 → L2 (m + 11) (6 * (f + 1) + k) = L' (m + 11) (6 * f + k) := fun k hk => by rw [hL2, seg_at hk]
      have hfA : frA m I L I2 L2 := ⟨fun b b0 b1 b2 b3 => ⟨by rw [hI2, up_ne b3, up_ne b2]; exact (hf.1 b b0 b1 b2 b3).1, by rw [hL2, seg_ne b1]; exact (hf.1 b b0 b1 b2 b3).2⟩, by rw [hL2, seg_ne (by omega)]; exact hf.2.1, fun k hk => by rw [hI2, up_ne (by omega), up_ne (by omega)]; exact hf.2.2 k hk⟩
      obtain ⟨I1, L1, k1, k2⟩ := ih (by omega) (by omega) I2 L2 hfA (by rw [hI2, up_ne (by omega), up_ne (by omega)]; exact h19)
        (fun j hj => mHold_of (ha j (by omega)) (fun k hk => l11 j k (by omega) hk) (i12 j (by omega)) (i13 j (by omega)))
        (fun j hj hj2 => by
          by_cases e2 : j = f + 1
          · subst e2
            rw [show f + 1 - 1 = f by omega]
            exact mHold_of (ha f (by omega)) l11' i12' i13'
          · exact mHold_of (hb j (by omega) hj2) (fun k hk => l11 j k e2 hk) (i12 j e2) (i13 j e2))
        (fun j hj => mHold_of (hcc j hj) (fun k hk => l11 j k (by omega) hk) (i12 j (by omega)) (i13 j (by omega)))
      refine ⟨I1, L1, it_X9_addFactor_56 hm ⟨fun h => absurd ((nI_leI (by omega) (by omega)).mp h) (by omega), fun _ => ⟨hv1, hv2, hv1, hv2, ?_⟩⟩, k2⟩
      rw [hcl1, hcl2]
      have e13 : mj_up I' (m + 12) (f + 1) (I' (m + 12) f) (m + 13) f = I' (m + 13) f := by rw [up_ne (by omega)]
      rw [e13, ← hI2]
      exact m_af91 hm (by omega) (by rw [← hL2]; exact k1)
theorem fpr_inc {P : Nat → List Int} {M : Nat → Nat} {c : Nat} : ∀ n, c < n → ∀ x, fpr P (fun j => if j = c then M c + 1 else M j) n x = fpr P M n x * zev (P c) x
  | 0, h, x => by omega
  | n + 1, h, x => by
    rcases Nat.eq_or_lt_of_le (Nat.lt_succ_iff.mp h) with e | e
    · subst e
      rw [fpr, fpr, if_pos rfl, fpr_congr c (fun j hj => ⟨rfl, if_neg (by omega)⟩) x, Int.pow_succ]; grind
    · rw [fpr, fpr, if_neg (by omega), fpr_inc n e x]; grind
/-- a factor more -/
theorem m_addFactor (hm : is_Model S m) (hT : ∀ k, k ≤ d → L (m + 15) k = T k) (hTd : deg6 T d) (hT0 : 0 < (T d).toInt) (hld : I m 26 = nI d) (hR : mRep m n P M I L) (hfac : fac n P M) (hn : n < 5) (hir : zirr (rl T)) :
    ∃ I1 L1, CTv mr_X9_addFactor [.ref m] S I L I1 L1 ∧ frA m I L I1 L1 ∧ ∃ n' P' M', mRep m n' P' M' I1 L1 ∧ fac n' P' M' ∧ ∀ x, fpr P' M' n' x = fpr P M n x * zev (rl T) x := by
  obtain ⟨h19, hn5, hH⟩ := hR
  have hTp : zpos (rl T) := ⟨d, (deg6_zlt hTd).1, by rw [rl_co T hTd.1]; exact hT0⟩
  have hrf : frA m I L I L := ⟨fun _ _ _ _ _ => ⟨rfl, rfl⟩, rfl, fun _ _ => rfl⟩
  have ins : ∀ c, c ≤ n → (∀ j, j < c → zle 5 (P j) (rl T) ∧ P j ≠ rl T) → (∀ j, c ≤ j → j < n → zle 5 (rl T) (P j) ∧ rl T ≠ P j) → ∃ I1 L1, hd_X9_addFactor_56 S (fun v h => v = none ∧ h = (S, I1, L1)) m (nI c) (nI n) I L ∧ frA m I L I1 L1 ∧ ∃ n' P' M', mRep m n' P' M' I1 L1 ∧ fac n' P' M' ∧ ∀ x, fpr P' M' n' x = fpr P M n x * zev (rl T) x := fun c hc h1 h2 => by
    obtain ⟨I1, L1, k1, k2, k3⟩ := m_af56 (S := S) (P := P) (M := M) hm hT hTd hT0 hld hn hc n hc (Nat.le_refl _) I L hrf h19 (fun j hj => hH j (by omega)) (fun j h1 h2 => by omega) (fun j hj => hH j (by omega))
    exact ⟨I1, L1, k1, k2, n + 1, _, _, k3, fac_in hfac hc ⟨Nat.le_refl _, hir, hTp, rfl⟩ h1 h2, fun x => by rw [fpr_in n hc x, Int.pow_one]⟩
  have key := up_loop (P := fun c => (∀ j, j < c → zle 5 (P j) (rl T) ∧ P j ≠ rl T) → ∃ I1 L1, hd_X9_addFactor_2 S (fun v h => v = none ∧ h = (S, I1, L1)) m (nI c) I L ∧ frA m I L I1 L1 ∧ ∃ n' P' M', mRep m n' P' M' I1 L1 ∧ fac n' P' M' ∧ ∀ x, fpr P' M' n' x = fpr P M n x * zev (rl T) x) n
    (fun hlo => by
      obtain ⟨I1, L1, k1, k2⟩ := ins n (Nat.le_refl _) hlo (fun j h1 h2 => by omega)
      refine ⟨I1, L1, it_X9_addFactor_2 hm ?_, k2⟩
      rw [h19]
      exact ge_t (Nat.le_refl _) (by omega) (ge_t (Nat.le_refl _) (by omega) (fun y hy => by rw [hy]; exact k1)))
    (fun c hc ih hlo => by
      obtain ⟨r, r1, r2, r3, r4⟩ := m_compareTo (S := S) (I := I) (L := L) hm (by omega) hT hTd hT0 hld (hH c hc)
      by_cases hr : r ≤ 0
      · by_cases hr0 : r = 0
        · have hPc := r2.mp hr0
          refine ⟨mj_up I (m + 12) c ((I (m + 12) c) + (1 : Int32)), L, it_X9_addFactor_2 hm ?_, ⟨fun b b0 b1 b2 b3 => ⟨up_ne b2, rfl⟩, rfl, fun k hk => by rw [up_ne (by omega)]⟩, n, P, fun j => if j = c then M c + 1 else M j, ⟨by rw [up_ne (by omega)]; exact h19, hn5, fun j hj => ?_⟩, ⟨fun j hj => ?_, hfac.2⟩, fun x => by rw [fpr_inc n hc x, hPc]⟩
          · rw [h19]
            refine ge_f hc (by omega) ⟨_, _, _, r1, fun _ => (by
              rw [h19]
              exact ge_f hc (by omega) ⟨_, _, _, r1, fun h => absurd hr0 h, fun _ => ⟨vp_in_nI (by omega) (by decide), vp_in_nI (by omega) (by decide), (by rw [nI_clamp (by omega)]; exact ⟨rfl, rfl⟩)⟩⟩), fun h => absurd hr h⟩
          · obtain ⟨a1, a2, a3⟩ := hH j hj
            refine ⟨a1, ?_, by rw [up_ne (by omega)]; exact a3⟩
            by_cases e : j = c
            · subst e; simp only [up_eq, if_true]; rw [a2, nI_1]
            · simp only [up_nk e, if_neg e]; exact a2
          · obtain ⟨b1, b2⟩ := hfac.1 j hj
            refine ⟨?_, b2⟩
            by_cases e : j = c
            · simp only [if_pos e]; omega
            · simp only [if_neg e]; exact b1
        · have hlt := r3 hr
          have hne : rl T ≠ P c := fun e => hr0 (r2.mpr e)
          obtain ⟨I1, L1, k1, k2⟩ := ins c (by omega) hlo (fun j h1 h2 => by
            rcases Nat.eq_or_lt_of_le h1 with e | e
            · subst e; exact ⟨hlt, hne⟩
            · have h3 := hfac.2 c j e h2
              exact ⟨zle_trans 5 hlt h3.1, fun e2 => by
                have h4 := zle_anti 5 hlt (by rw [e2]; exact h3.1)
                exact hne (zlist_eq rfl (hfac.1 c hc).2.2.2 (fun k hk => h4 k hk))⟩)
          refine ⟨I1, L1, it_X9_addFactor_2 hm ?_, k2⟩
          rw [h19]
          exact ge_f hc (by omega) ⟨_, _, _, r1, fun _ => (by
            rw [h19]
            exact ge_f hc (by omega) ⟨_, _, _, r1, fun _ y hy => (by rw [hy, h19]; exact k1), fun h => absurd h hr0⟩), fun h => absurd hr h⟩
      · obtain ⟨I1, L1, k1, k2⟩ := ih (fun j hj => by
          rcases Nat.eq_or_lt_of_le (Nat.lt_succ_iff.mp hj) with e | e
          · rw [e]; exact r4 hr
          · exact hlo j e)
        refine ⟨I1, L1, it_X9_addFactor_2 hm ?_, k2⟩
        rw [h19]
        exact ge_f hc (by omega) ⟨_, _, _, r1, fun h => absurd h hr, fun _ y hy => (by rw [hy, nI_1]; exact k1)⟩)
  obtain ⟨I1, L1, k1, k2⟩ := key 0 (Nat.zero_le _) (fun j hj => by omega)
  exact ⟨I1, L1, wp_X9_addFactor hm k1, k2⟩
theorem m_takeQuotient (hm : is_Model S m) : CTv mr_X9_takeQuotient [.ref m] S I L (mj_up I m 24 ((I m 24) - (I m 26))) (mwn L (m + 14) 6 (L (m + 16))) := by
  refine wp_X9_takeQuotient hm ?_
  have key := up_loop (P := fun i => hd_X9_takeQuotient_15 S (fun v h => v = none ∧ h = (S, mj_up I m 24 ((I m 24) - (I m 26)), mwn L (m + 14) 6 (L (m + 16)))) m (nI i) (mj_up I m 24 ((I m 24) - (I m 26))) (mwn L (m + 14) i (L (m + 16)))) 6
    (it_X9_takeQuotient_15 hm (ge_t (k := 6) (by decide) (by decide) ⟨rfl, rfl⟩))
    (fun i hi ih => it_X9_takeQuotient_15 hm (ge_f (k := 6) hi (by decide) ⟨vp_in_nI hi (by decide), vp_in_nI hi (by decide), fun y hy => by
      rw [hy, nI_1, nI_clamp (by omega), mwn_ne (b := m + 16) (by omega), mwn_s _ _ _ _ _ rfl]; exact ih⟩))
  have := key 0 (by decide)
  rwa [mwn_0] at this
/-- the reference's factoring on its way -/
def mcI (okR : (Nat → Int64) → Nat → Prop) (m : Nat) (G : List Int) (r : Nat) (I : Nat → Nat → Int32) (L : Nat → Nat → Int64) : Prop :=
  ∃ n P M, mRep m n P M I L ∧ fac n P M ∧ (∀ x, zev G x = fpr P M n x * zev (rl (L (m + 14))) x) ∧ deg6 (L (m + 14)) r ∧ I m 24 = nI r ∧ okR (L (m + 14)) r
/-- what a trial leaves as it was -/
def frT (m : Nat) (I : Nat → Nat → Int32) (L : Nat → Nat → Int64) (I1 : Nat → Nat → Int32) (L1 : Nat → Nat → Int64) : Prop :=
  (∀ b, b ≠ m → (b < m + 11 ∨ m + 17 < b) → I1 b = I b ∧ L1 b = L b) ∧ L1 m = L m ∧ ∀ k, k ≠ 19 → k ≠ 24 → k ≠ 26 → I1 m k = I m k
theorem frT_rf : frT m I L I L := ⟨fun _ _ _ => ⟨rfl, rfl⟩, rfl, fun _ _ _ _ => rfl⟩
theorem frT_tr {I1 I2 : Nat → Nat → Int32} {L1 L2 : Nat → Nat → Int64} (h : frT m I L I1 L1) (h2 : frT m I1 L1 I2 L2) : frT m I L I2 L2 :=
  ⟨fun b a c => ⟨(h2.1 b a c).1.trans (h.1 b a c).1, (h2.1 b a c).2.trans (h.1 b a c).2⟩, h2.2.1.trans h.2.1, fun k a b c => (h2.2.2 k a b c).trans (h.2.2 k a b c)⟩
theorem m_tries {okR : (Nat → Int64) → Nat → Prop} {G : List Int} {r B C : Nat} (hm : is_Model S m) (hG : gOK G) (hT : ∀ k, k ≤ d → L (m + 15) k = T k) (hTd : deg6 T d) (hT0 : 0 < (T d).toInt) (hld : I m 26 = nI d) (hd1 : 1 ≤ d) (hdr : d ≤ r) (hB : bnd6 (L (m + 14)) B) (hC : bnd6 T C) (hC1 : 1 ≤ C) (hO : B * (1 + C) ^ (r - d + 1) < 2 ^ 63)
    (hk2 : ∀ Q, okR (L (m + 14)) r → deg6 (L (m + 14)) r → deg6 Q (r - d) → (∀ x, zev (rl (L (m + 14))) x = zev (rl Q) x * zev (rl T) x) → ∀ Q', (∀ k, k < 6 → Q' k = Q k) → okR Q' (r - d)) (hirr : zdv (rl T) (zev (rl (L (m + 14)))) → zirr (rl T)) (hmc : mcI okR m G r I L) :
    ∃ (b : Bool) (I1 : Nat → Nat → Int32) (L1 : Nat → Nat → Int64), CTi mr_X9_tries [.ref m] S I L (if b then 1 else 0) I1 L1 ∧ frT m I L I1 L1 ∧ (b = true → mcI okR m G (r - d) I1 L1 ∧ ∀ x, zev (rl (L (m + 14))) x = zev (rl (L1 (m + 14))) x * zev (rl T) x) ∧ (b = false → I1 = I ∧ fr (mdX m) I L I L1 ∧ ¬ zdv (rl T) (zev (rl (L (m + 14))))) := by
  obtain ⟨n, P, M, f1, f2, f3, f4, f5, f6⟩ := hmc
  obtain ⟨b, L1, g1, g2, g3, g4⟩ := m_divides (S := S) (I := I) (L := L) hm f4 f5 hT hTd hld hd1 hdr hB hC hC1 hO
  cases b with
  | false =>
    refine ⟨false, I, L1, wp_X9_tries hm ⟨_, _, _, g1, fun h => absurd rfl h, fun _ => ⟨rfl, rfl⟩⟩, ⟨fun b _ h => g2 b (fun z => by unfold mdX at z; omega), (g2 m (fun z => by unfold mdX at z; omega)).2, fun _ _ _ _ => rfl⟩, (fun h => by cases h), fun _ => ⟨rfl, g2, g4 rfl⟩⟩
  | true =>
    obtain ⟨z1, z2, z3⟩ := g3 rfl
    have e : ∀ b, ¬ mdX m b → L1 b = L b := fun b hb => (g2 b hb).2
    have e15 := e (m + 15) (fun z => by unfold mdX at z; omega)
    have e14 := e (m + 14) (fun z => by unfold mdX at z; omega)
    have e11 := e (m + 11) (fun z => by unfold mdX at z; omega)
    obtain ⟨-, d', k1, k2, k3, k4⟩ := gOK_rest hG f2.1 f3
    have hrr : d' = r := by
      have hz := deg6_zlt f4
      rcases Nat.lt_trichotomy d' r with z | z | z
      · exact absurd (k3 r z) hz.2
      · exact z
      · have := hz.1 d' z; omega
    have hR1 : mRep m n P M I L1 := ⟨f1.1, f1.2.1, fun j hj => mHold_of (f1.2.2 j hj) (fun k _ => by rw [e11]) rfl rfl⟩
    obtain ⟨I2, L2, a1, a2, n', P', M', a3, a4, a5⟩ := m_addFactor (S := S) (I := I) (L := L1) hm (fun k hk => by rw [e15]; exact hT k hk) hTd hT0 hld hR1 f2 (by omega) (hirr ⟨rl (L1 (m + 16)), fun x => by rw [z1 x, Int.mul_comm]⟩)
    have a24 : I2 m 24 = nI r := by rw [a2.2.2 24 (by decide)]; exact f5
    have a26 : I2 m 26 = nI d := by rw [a2.2.2 26 (by decide)]; exact hld
    have a16 : L2 (m + 16) = L1 (m + 16) := (a2.1 _ (by omega) (by omega) (by omega) (by omega)).2
    have hq := m_takeQuotient (S := S) (I := I2) (L := L2) hm
    rw [a24, a26, pk_sub hdr] at hq
    have row : ∀ k, k < 6 → mwn L2 (m + 14) 6 (L2 (m + 16)) (m + 14) k = L1 (m + 16) k := fun k hk => by rw [mwn_at hk, a16]
    refine ⟨true, _, _, wp_X9_tries hm ⟨_, _, _, g1, fun _ => ⟨_, _, a1, _, _, hq, rfl, rfl⟩, fun h => absurd (show (1 : Int32) = 0 from h) (by decide)⟩, ⟨fun b h0 h => ?_, ?_, fun k k1 k2 k3 => ?_⟩, fun _ => ⟨⟨n', P', M', ⟨?_, a3.2.1, fun j hj => mHold_of (a3.2.2 j hj) (fun k _ => by rw [mwn_ne (by omega)]) (by rw [up_ne (by omega)]) (by rw [up_ne (by omega)])⟩, a4, fun x => ?_, deg6_ext z2 (fun k hk => (row k hk).symm), up_eq, hk2 _ f6 f4 z2 z1 _ row⟩, fun x => by rw [rl_ext row]; exact z1 x⟩, (fun h => by cases h)⟩
    · have h1 := a2.1 b h0 (by omega) (by omega) (by omega)
      have h2 := e b (fun z => by unfold mdX at z; omega)
      exact ⟨by rw [up_ne h0]; exact h1.1, by rw [mwn_ne (by omega), h1.2, h2]⟩
    · rw [mwn_ne (by omega), a2.2.1]; exact e m (fun z => by unfold mdX at z; omega)
    · rw [up_nk k2]; exact a2.2.2 k k1
    · rw [up_nk (by decide)]; exact a3.1
    · rw [a5 x, rl_ext row, f3 x, z1 x]; grind
end
