/-! CONTRACTS: the search for a factor of degree 2 -/
variable {S : List mjD} {I : Nat → Nat → Int32} {L : Nat → Nat → Int64}
theorem sg_i : ∀ u, u < 1000 → (nI u).toInt64.toInt = (u : Int) := by decide +kernel
theorem sg_ni : ∀ u, u < 1000 → (-(nI u)).toInt64.toInt = -(u : Int) := by decide +kernel
theorem zev_3 {u : List Int} (hu : zlt u 3) (x : Int) : zev u x = zev [zco u 0, zco u 1, zco u 2] x := zev_congr (fun k => by
  match k with
  | 0 => rw [zco_z]
  | 1 => rw [zco_s, zco_z]
  | 2 => rw [zco_s, zco_s, zco_z]
  | k + 3 => rw [zco_s, zco_s, zco_s, zco_nil]; exact hu _ (by omega)) x
theorem co_dvd2 {R u w : List Int} (h : ∀ x, zev R x = zev u x * zev w x) {n d : Nat} (hl : zlt R (n + 1)) (h0 : zco R n ≠ 0) (hu : zlt u (d + 1)) (hu1 : zco u d ≠ 0) : zco u d ∣ zco R n ∧ zco R 0 = zco u 0 * zco w 0 := by
  obtain ⟨a, b, hab, ha, hb, ha0, hb0, hm⟩ := zdeg_mul h hl h0
  have : a = d := by
    rcases Nat.lt_trichotomy a d with q | q | q
    · exact absurd (ha d q) hu1
    · exact q
    · exact absurd (hu a q) ha0
  subst this
  refine ⟨by rw [hm]; exact Int.dvd_mul_right _ _, ?_⟩
  have : zco R 0 = zco (zmul u w) 0 := zev_inj (fun x => by rw [zev_mul, h x]) 0
  rw [this, zmul_low]
/-- a factor of degree 2 has been found: it is the trial -/
def fqF (p : Nat) (R : List Int) (L1 : Nat → Nat → Int64) : Prop := ∃ e m v : Int, rl (L1 (p + 3 + 1)) = [e, m, v, 0, 0, 0] ∧ 1 ≤ v ∧ v ≤ 999 ∧ e.natAbs ≤ 999 ∧ m.natAbs ≤ 4895 ∧ zdv [e, m, v] (zev R)
section
variable {p n : Nat}
theorem fq_one {u v : Nat} {e : Int} {a c : Int64} (hp : is_Factoring S p) (hn : deg6 (L (p + 1 + 1)) n) (h45 : n = 4 ∨ n = 5) (hok : okL (L (p + 1 + 1)) n) (h9 : (L (p + 1 + 1) n).toInt.natAbs ≤ 999) (h09 : (L (p + 1 + 1) 0).toInt.natAbs ≤ 999)
    (hM : ∀ c m a : Int, a.natAbs ≤ 999 → c.natAbs ≤ 999 → zdv [c, m, a] (zev (rl (L (p + 1 + 1)))) → m.natAbs ≤ 4895) (hv1 : 1 ≤ v ∧ v ≤ 999) (hvd : v ∣ (L (p + 1 + 1) n).toInt.natAbs) (hu1 : 1 ≤ u ∧ u ≤ 999) (hud : u ∣ (L (p + 1 + 1) 0).toInt.natAbs) (ha : a.toInt = v) (hc : c.toInt = e) (he : e = u ∨ e = -(u : Int)) {L' : Nat → Nat → Int64} (hf : fr (fmX p) I L I L') :
    ∃ (b : Bool) (L1 : Nat → Nat → Int64), CTi mr_X0_findMiddle [.ref p, .long a, .long c] S I L' (if b then 1 else 0) I L1 ∧ fr (fmX p) I L I L1 ∧ (b = true → fqF p (rl (L (p + 1 + 1))) L1) ∧ (b = false → ∀ m, ¬ zdv [e, m, v] (zev (rl (L (p + 1 + 1))))) := by
  have row : L' (p + 1 + 1) = L (p + 1 + 1) := (hf _ (fun h => by unfold fmX at h; omega)).2
  have d1 : a.toInt ∣ (L' (p + 1 + 1) n).toInt := by rw [ha, row]; exact Int.ofNat_dvd_left.mpr hvd
  have d2 : c.toInt ∣ (L' (p + 1 + 1) 0).toInt := by
    rw [hc, row]
    rcases he with rfl | rfl
    · exact Int.ofNat_dvd_left.mpr hud
    · exact Int.neg_dvd.mpr (Int.ofNat_dvd_left.mpr hud)
  obtain ⟨b, L1, g1, g2, g3, g4⟩ := s_findMiddle (S := S) (I := I) (L := L') (a := a) (c := c) hp (by rw [row]; exact hn) h45 (by rw [row]; exact hok) (by omega) (by omega) (by omega) (by omega) d1 (by rw [row]; exact h9) (by rw [row]; exact h09) d2 (fun m hm => hM c.toInt m a.toInt (by omega) (by omega) (by rw [row] at hm; exact hm))
  rw [row, hc, ha] at g3 g4
  refine ⟨b, L1, g1, fr_tr hf g2 (fun b hb => hb.elim id id), fun hb => ?_, g4⟩
  obtain ⟨m, m1, m2, m3⟩ := g3 hb
  exact ⟨e, m, v, m1, by omega, by omega, by omega, m2, m3⟩
/-- the loop over the lowest coefficients -/
theorem fq_22 {i v c2 : Nat} (hp : is_Factoring S p) (hn : deg6 (L (p + 1 + 1)) n) (h45 : n = 4 ∨ n = 5) (hok : okL (L (p + 1 + 1)) n) (h9 : (L (p + 1 + 1) n).toInt.natAbs ≤ 999) (h09 : (L (p + 1 + 1) 0).toInt.natAbs ≤ 999)
    (hM : ∀ c m a : Int, a.natAbs ≤ 999 → c.natAbs ≤ 999 → zdv [c, m, a] (zev (rl (L (p + 1 + 1)))) → m.natAbs ≤ 4895) (hi : i < 32) (hv : I (p + 7) i = nI v) (hv1 : 1 ≤ v ∧ v ≤ 999) (hvd : v ∣ (L (p + 1 + 1) n).toInt.natAbs) (h6 : I p 6 = nI c2) (hD : isDv (I (p + 8)) c2 (L (p + 1 + 1) 0).toInt.natAbs) :
    ∀ j, j ≤ c2 → ∀ L', fr (fmX p) I L I L' → ∃ (b : Bool) (L1 : Nat → Nat → Int64), fr (fmX p) I L I L1 ∧ (b = true → fqF p (rl (L (p + 1 + 1))) L1) ∧
      (b = false → ∀ j' u, j ≤ j' → j' < c2 → I (p + 8) j' = nI u → 1 ≤ u → u ≤ 999 → ∀ m, ¬ zdv [(u : Int), m, v] (zev (rl (L (p + 1 + 1)))) ∧ ¬ zdv [-(u : Int), m, v] (zev (rl (L (p + 1 + 1))))) ∧
      ∀ RET : Option Value → mjH → Prop, (b = true → RET (some (.int 1)) (S, I, L1)) → (b = false → ∀ y : Int32, y = nI i + 1 → hd_X0_findQuadratic_6 S RET p y I L1) → hd_X0_findQuadratic_22 S RET p (nI i) (nI j) I L' := by
  have hc32 := hD.1
  refine up_loop c2 (fun L' hf => ⟨false, L', hf, fun h => (by cases h), fun _ j' u h1 h2 => (by omega), fun RET _ hk => it_X0_findQuadratic_22 hp ?_⟩) (fun j hj ih L' hf => ?_)
  · rw [h6]; exact ge_t (Nat.le_refl _) (by omega) (hk rfl)
  · obtain ⟨u, u1, u2, u3, u4⟩ := hD.2.1 j hj
    have el : ((I (p + 7) (nI i).toNatClampNeg).toInt64).toInt = v := by rw [nI_clamp (by omega), hv]; exact sg_i v (by omega)
    have ec : ((I (p + 8) (nI j).toNatClampNeg).toInt64).toInt = u := by rw [nI_clamp (by omega), u1]; exact sg_i u (by omega)
    have ed : ((-(I (p + 8) (nI j).toNatClampNeg)).toInt64).toInt = -(u : Int) := by rw [nI_clamp (by omega), u1]; exact sg_ni u (by omega)
    have hvi : vp_in (nI i) 32 := vp_in_nI hi (by decide)
    have hvj : vp_in (nI j) 32 := vp_in_nI (by omega) (by decide)
    obtain ⟨b, L1, a1, a2, a3, a4⟩ := fq_one (S := S) hp hn h45 hok h9 h09 hM hv1 hvd ⟨u2, u3⟩ u4 el ec (Or.inl rfl) hf
    cases b with
    | true =>
      refine ⟨true, L1, a2, a3, fun h => (by cases h), fun RET h1 _ => it_X0_findQuadratic_22 hp ?_⟩
      rw [h6]
      exact ge_f hj (by omega) (ge_f (k := 32) (by omega) (by decide) ⟨hvi, hvj, _, _, _, a1, fun _ => h1 rfl, fun h => absurd (show (1 : Int32) = 0 from h) (by decide)⟩)
    | false =>
      obtain ⟨b, L2, b1, b2, b3, b4⟩ := fq_one (S := S) hp hn h45 hok h9 h09 hM hv1 hvd ⟨u2, u3⟩ u4 el ed (Or.inr rfl) a2
      cases b with
      | true =>
        refine ⟨true, L2, b2, b3, fun h => (by cases h), fun RET h1 _ => it_X0_findQuadratic_22 hp ?_⟩
        rw [h6]
        exact ge_f hj (by omega) (ge_f (k := 32) (by omega) (by decide) ⟨hvi, hvj, _, _, _, a1, fun h => absurd rfl h, fun _ => ⟨hvi, hvj, _, _, _, b1, fun h => absurd (show (1 : Int32) = 0 from h) (by decide), fun _ => h1 rfl⟩⟩)
      | false =>
        obtain ⟨b, L3, c1, c2', c3, c4⟩ := ih L2 b2
        refine ⟨b, L3, c1, c2', fun hb j' u' h1 h2 h3 h4 h5 m => ?_, fun RET h1 hk => it_X0_findQuadratic_22 hp ?_⟩
        · rcases Nat.eq_or_lt_of_le h1 with e | e
          · subst e
            have : u' = u := by
              rw [u1] at h3
              exact ((nI_eq (by omega) (by omega)).mp h3).symm
            subst this
            exact ⟨a4 rfl m, b4 rfl m⟩
          · exact c3 hb j' u' e h2 h3 h4 h5 m
        · rw [h6]
          exact ge_f hj (by omega) (ge_f (k := 32) (by omega) (by decide) ⟨hvi, hvj, _, _, _, a1, fun h => absurd rfl h, fun _ => ⟨hvi, hvj, _, _, _, b1, fun _ y hy => (by rw [hy, nI_1]; exact c4 RET h1 hk), fun h => absurd rfl h⟩⟩)
/-- the loop over the leading coefficients -/
theorem fq_6 {c c2 : Nat} (hp : is_Factoring S p) (hn : deg6 (L (p + 1 + 1)) n) (h45 : n = 4 ∨ n = 5) (hok : okL (L (p + 1 + 1)) n) (h9 : (L (p + 1 + 1) n).toInt.natAbs ≤ 999) (h09 : (L (p + 1 + 1) 0).toInt.natAbs ≤ 999)
    (hM : ∀ c m a : Int, a.natAbs ≤ 999 → c.natAbs ≤ 999 → zdv [c, m, a] (zev (rl (L (p + 1 + 1)))) → m.natAbs ≤ 4895) (h5 : I p 5 = nI c) (h6 : I p 6 = nI c2) (hD1 : isDv (I (p + 7)) c (L (p + 1 + 1) n).toInt.natAbs) (hD : isDv (I (p + 8)) c2 (L (p + 1 + 1) 0).toInt.natAbs) :
    ∀ i, i ≤ c → ∀ L', fr (fmX p) I L I L' → ∃ (b : Bool) (L1 : Nat → Nat → Int64), fr (fmX p) I L I L1 ∧ (b = true → fqF p (rl (L (p + 1 + 1))) L1) ∧
      (b = false → ∀ i' v j' u, i ≤ i' → i' < c → I (p + 7) i' = nI v → 1 ≤ v → v ≤ 999 → j' < c2 → I (p + 8) j' = nI u → 1 ≤ u → u ≤ 999 → ∀ m, ¬ zdv [(u : Int), m, v] (zev (rl (L (p + 1 + 1)))) ∧ ¬ zdv [-(u : Int), m, v] (zev (rl (L (p + 1 + 1))))) ∧
      hd_X0_findQuadratic_6 S (fun v h => v = some (.int (if b then 1 else 0)) ∧ h = (S, I, L1)) p (nI i) I L' := by
  have hc32 := hD1.1
  refine up_loop c (fun L' hf => ⟨false, L', hf, fun h => (by cases h), fun _ i' v j' u h1 h2 => (by omega), it_X0_findQuadratic_6 hp ?_⟩) (fun i hi ih L' hf => ?_)
  · rw [h5]; exact ge_t (Nat.le_refl _) (by omega) ⟨rfl, rfl⟩
  · obtain ⟨v, v1, v2, v3, v4⟩ := hD1.2.1 i hi
    obtain ⟨b, L1, a1, a2, a3, a4⟩ := fq_22 (S := S) hp hn h45 hok h9 h09 hM (show i < 32 by omega) v1 ⟨v2, v3⟩ v4 h6 hD 0 (Nat.zero_le _) L' hf
    cases b with
    | true =>
      refine ⟨true, L1, a1, a2, fun h => (by cases h), it_X0_findQuadratic_6 hp ?_⟩
      rw [h5]
      exact ge_f hi (by omega) (ge_f (k := 32) (by omega) (by decide) (a4 _ (fun _ => ⟨rfl, rfl⟩) (fun h => by cases h)))
    | false =>
      obtain ⟨b, L2, b1, b2, b3, b4⟩ := ih L1 a1
      refine ⟨b, L2, b1, b2, fun hb i' v' j' u h1 h2 h3 h4 h5 h6 h7 h8 h9 m => ?_, it_X0_findQuadratic_6 hp ?_⟩
      · rcases Nat.eq_or_lt_of_le h1 with e | e
        · subst e
          have : v' = v := by
            rw [v1] at h3
            exact ((nI_eq (by omega) (by omega)).mp h3).symm
          subst this
          exact a3 rfl j' u (Nat.zero_le _) h6 h7 h8 h9 m
        · exact b3 hb i' v' j' u e h2 h3 h4 h5 h6 h7 h8 h9 m
      · rw [h5]
        exact ge_f hi (by omega) (ge_f (k := 32) (by omega) (by decide) (a4 _ (fun h => by cases h) (fun _ y hy => by rw [hy, nI_1]; exact b4)))
/-- no factor of degree 2 -/
def noQuad (R : List Int) : Prop := ∀ u : List Int, zlt u 3 → zco u 2 ≠ 0 → ¬ zdv u (zev R)
theorem s_findQuadratic (hp : is_Factoring S p) (hn : deg6 (L (p + 1 + 1)) n) (h45 : n = 4 ∨ n = 5) (hok : okL (L (p + 1 + 1)) n) (h9 : (L (p + 1 + 1) n).toInt.natAbs ≤ 999) (h0 : L (p + 1 + 1) 0 ≠ 0) (h09 : (L (p + 1 + 1) 0).toInt.natAbs ≤ 999)
    (hM : ∀ c m a : Int, a.natAbs ≤ 999 → c.natAbs ≤ 999 → zdv [c, m, a] (zev (rl (L (p + 1 + 1)))) → m.natAbs ≤ 4895) :
    ∃ (b : Bool) (I1 : Nat → Nat → Int32) (L1 : Nat → Nat → Int64), CTi mr_X0_findQuadratic [.ref p] S I L (if b then 1 else 0) I1 L1 ∧ fr (fun b => p ≤ b ∧ b < p + 9 ∧ b ≠ p + 1 + 1) I L I1 L1 ∧ (b = true → fqF p (rl (L (p + 1 + 1))) L1) ∧ (b = false → noQuad (rl (L (p + 1 + 1)))) := by
  obtain ⟨c, c2, I0, d1, d2, d3, d4, d5, d6⟩ := s_listDivisors (S := S) (I := I) (L := L) hp hn h9 h0 h09
  obtain ⟨b, L1, a1, a2, a3, a4⟩ := fq_6 (S := S) (I := I0) hp hn h45 hok h9 h09 hM d3 d4 d5 d6 0 (Nat.zero_le _) L fr_rf
  refine ⟨b, I0, L1, wp_X0_findQuadratic hp ⟨_, _, d1, a4⟩, fun b hb => ?_, a2, fun hb u hu hu2 hz => ?_⟩
  · have h := a1 b (fun h => hb (by unfold fmX at h; omega))
    exact ⟨d2 b (fun e => hb (by omega)) (fun e => hb (by omega)) (fun e => hb (by omega)), h.2⟩
  · have hz0 := hz
    obtain ⟨w, hw⟩ := hz
    obtain ⟨e1, e2⟩ := co_dvd2 hw (deg6_zlt hn).1 (deg6_zlt hn).2 hu hu2
    rw [rl_co _ hn.1] at e1
    rw [rl_co _ (by decide)] at e2
    have g1 : (zco u 2).natAbs ∣ (L (p + 1 + 1) n).toInt.natAbs := Int.natAbs_dvd_natAbs.mpr e1
    have g2 : (zco u 0).natAbs ∣ (L (p + 1 + 1) 0).toInt.natAbs := Int.natAbs_dvd_natAbs.mpr (by rw [e2]; exact Int.dvd_mul_right _ _)
    have n0 := t_ne0 h0
    have nn := t_ne0 hn.2.1
    have l1 := Nat.le_of_dvd (by omega) g1
    have l2 := Nat.le_of_dvd (by omega) g2
    have u0 : 1 ≤ (zco u 0).natAbs := by
      rcases Nat.eq_zero_or_pos (zco u 0).natAbs with e | e
      · rw [e] at g2
        have := Nat.zero_dvd.mp g2
        omega
      · exact e
    obtain ⟨i, hi, hi2⟩ := d5.2.2 _ (by omega) g1
    obtain ⟨j, hj, hj2⟩ := d6.2.2 _ u0 g2
    have key := fun m => a3 hb i _ j _ (Nat.zero_le _) hi hi2 (by omega) (by omega) hj hj2 u0 (by omega) m
    rcases Int.natAbs_eq (zco u 2) with s1 | s1 <;> rcases Int.natAbs_eq (zco u 0) with s0 | s0
    · refine (key (zco u 1)).1 ?_
      obtain ⟨y, hy⟩ := hz0
      exact ⟨y, fun x => by rw [hy x, zev_3 hu, ← s0, ← s1]⟩
    · refine (key (zco u 1)).2 ?_
      obtain ⟨y, hy⟩ := hz0
      exact ⟨y, fun x => by rw [hy x, zev_3 hu, ← s0, ← s1]⟩
    · refine (key (-(zco u 1))).2 (zdv_neg hz0 (fun x => ?_))
      rw [zev_3 hu]; simp only [zev]; rw [← s0]; grind
    · refine (key (-(zco u 1))).1 (zdv_neg hz0 (fun x => ?_))
      rw [zev_3 hu]; simp only [zev]; grind
end
