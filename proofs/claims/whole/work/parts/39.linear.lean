/-! CONTRACTS: all factors of degree 1 -/
variable {S : List mjD} {I : Nat → Nat → Int32} {L : Nat → Nat → Int64}
theorem lstep {l e x a b : Int} {B : Nat} (hl : l ≠ 0) (he : e.natAbs ≤ l.natAbs) (hx : x.natAbs ≤ B) (h : x = l * a + e * b) : a.natAbs ≤ B + b.natAbs := by
  have h1 : (l * a).natAbs ≤ x.natAbs + (e * b).natAbs := by omega
  rw [Int.natAbs_mul, Int.natAbs_mul] at h1
  have h2 : e.natAbs * b.natAbs ≤ l.natAbs * b.natAbs := Nat.mul_le_mul_right _ he
  have hl1 : 1 ≤ l.natAbs := by omega
  have h3 : 1 * B ≤ l.natAbs * B := Nat.mul_le_mul_right _ hl1
  have h4 : l.natAbs * a.natAbs ≤ l.natAbs * (B + b.natAbs) := by rw [Nat.mul_add]; omega
  exact Nat.le_of_mul_le_mul_left h4 hl1
theorem div_cz {R Q T : Nat → Int64} (h : ∀ x, zev (rl R) x = zev (rl Q) x * zev (rl T) x) {k : Nat} (hk : k < 6) : (R k).toInt = cz (ti Q) (ti T) k := by
  rw [← rl_cz Q T hk, ← rl_co R hk]
  exact zev_inj (fun x => by rw [zev_mul, h x]) k
theorem lin_bnd {R Q T : Nat → Int64} {B : Nat} (h : ∀ x, zev (rl R) x = zev (rl Q) x * zev (rl T) x) (hT : deg6 T 1) (hT0 : T 0 ≠ 0) (hQ : Q 5 = 0) (hB : bnd6 R B) : bnd6 Q (5 * B) := by
  have z : (0 : Int64).toInt = 0 := rfl
  have t2 : ∀ k, 2 ≤ k → k < 6 → ti T k = 0 := fun k h1 h2 => by
    show (T k).toInt = 0
    rw [hT.2.2 k h1 h2]; rfl
  have q5 : ti Q 5 = 0 := by
    show (Q 5).toInt = 0
    rw [hQ]; rfl
  have e0 := div_cz h (k := 0) (by decide)
  have e1 := div_cz h (k := 1) (by decide)
  have e2 := div_cz h (k := 2) (by decide)
  have e3 := div_cz h (k := 3) (by decide)
  have e4 := div_cz h (k := 4) (by decide)
  have e5 := div_cz h (k := 5) (by decide)
  simp only [cz, t2 2 (by decide) (by decide), t2 3 (by decide) (by decide), t2 4 (by decide) (by decide), t2 5 (by decide) (by decide), q5, Int.mul_zero, Int.zero_mul, Int.add_zero, Int.zero_add] at e0 e1 e2 e3 e4 e5
  have b0 := hB 0 (by decide)
  have b1 := hB 1 (by decide)
  have b2 := hB 2 (by decide)
  have b3 := hB 3 (by decide)
  have b4 := hB 4 (by decide)
  have b5 := hB 5 (by decide)
  have l1 : ti T 1 ≠ 0 := t_ne0 hT.2.1
  have l0 : ti T 0 ≠ 0 := t_ne0 hT0
  have goal : (ti Q 0).natAbs ≤ 5 * B ∧ (ti Q 1).natAbs ≤ 5 * B ∧ (ti Q 2).natAbs ≤ 5 * B ∧ (ti Q 3).natAbs ≤ 5 * B ∧ (ti Q 4).natAbs ≤ 5 * B := by
    rcases Nat.le_total (ti T 0).natAbs (ti T 1).natAbs with c | c
    · have a4 := lstep (a := ti Q 4) (b := 0) l1 c b5 (by rw [e5, Int.mul_comm]; omega)
      have a3 := lstep (a := ti Q 3) (b := ti Q 4) l1 c b4 (by rw [e4, Int.mul_comm (ti T 1), Int.mul_comm (ti T 0)])
      have a2 := lstep (a := ti Q 2) (b := ti Q 3) l1 c b3 (by rw [e3, Int.mul_comm (ti T 1), Int.mul_comm (ti T 0)])
      have a1 := lstep (a := ti Q 1) (b := ti Q 2) l1 c b2 (by rw [e2, Int.mul_comm (ti T 1), Int.mul_comm (ti T 0)])
      have a0 := lstep (a := ti Q 0) (b := ti Q 1) l1 c b1 (by rw [e1, Int.mul_comm (ti T 1), Int.mul_comm (ti T 0)])
      omega
    · have a0 := lstep (a := ti Q 0) (b := 0) l0 c b0 (by rw [e0, Int.mul_comm]; omega)
      have a1 := lstep (a := ti Q 1) (b := ti Q 0) l0 c b1 (by rw [e1, Int.mul_comm (ti T 1), Int.mul_comm (ti T 0), Int.add_comm])
      have a2 := lstep (a := ti Q 2) (b := ti Q 1) l0 c b2 (by rw [e2, Int.mul_comm (ti T 1), Int.mul_comm (ti T 0), Int.add_comm])
      have a3 := lstep (a := ti Q 3) (b := ti Q 2) l0 c b3 (by rw [e3, Int.mul_comm (ti T 1), Int.mul_comm (ti T 0), Int.add_comm])
      have a4 := lstep (a := ti Q 4) (b := ti Q 3) l0 c b4 (by rw [e4, Int.mul_comm (ti T 1), Int.mul_comm (ti T 0), Int.add_comm])
      omega
  intro k hk
  have e : k = 0 ∨ k = 1 ∨ k = 2 ∨ k = 3 ∨ k = 4 ∨ k = 5 := by omega
  obtain ⟨g0, g1, g2, g3, g4⟩ := goal
  rcases e with rfl | rfl | rfl | rfl | rfl | rfl
  · exact g0
  · exact g1
  · exact g2
  · exact g3
  · exact g4
  · rw [hQ, z]; omega
/-- the bounds of what is left while lines are taken out -/
def okL (R : Nat → Int64) (n : Nat) : Prop := ∀ k, k < 6 → (R k).toInt.natAbs ≤ 999 * 5 ^ (5 - n)
theorem okL_1 {R : Nat → Int64} {n : Nat} (h : okL R n) (hn : deg6 R n) (h1 : 1 ≤ n) : ∃ B, (∀ k, 1 ≤ k → k < 6 → (R k).toInt.natAbs ≤ B) ∧ B * (1 + 999) ^ (n - 1 + 1) < 2 ^ 63 := by
  refine ⟨999 * 5 ^ (5 - n), fun k _ h6 => h k h6, ?_⟩
  have := hn.1
  have e : n = 1 ∨ n = 2 ∨ n = 3 ∨ n = 4 ∨ n = 5 := by omega
  rcases e with rfl | rfl | rfl | rfl | rfl <;> decide
theorem okL_2 {R Q T : Nat → Int64} {n : Nat} (hT : deg6 T 1) (hT0 : T 0 ≠ 0) (h : okL R n) (hn : deg6 R n) (h1 : 1 ≤ n) (hQ : deg6 Q (n - 1)) (he : ∀ x, zev (rl R) x = zev (rl Q) x * zev (rl T) x) : okL Q (n - 1) := by
  have := hn.1
  have hb := lin_bnd he hT hT0 (hQ.2.2 5 (by omega) (by decide)) h
  intro k hk
  have h2 := hb k hk
  have e : 5 ^ (5 - (n - 1)) = 5 ^ (5 - n) * 5 := by rw [← Nat.pow_succ]; congr 1; omega
  rw [e]; omega
theorem okL_ext {R R' : Nat → Int64} {n : Nat} (h : okL R n) (he : ∀ k, k < 6 → R k = R' k) : okL R' n := fun k hk => by rw [← he k hk]; exact h k hk
/-- where a factoring works -/
def fcX (p q b : Nat) : Prop := (p ≤ b ∧ b < p + 9) ∨ fX q b
theorem fcI_fr {okR : (Nat → Int64) → Nat → Prop} {p q : Nat} {G : List Int} {X : Nat → Prop} {I1 : Nat → Nat → Int32} {L1 : Nat → Nat → Int64} (h : fcI okR p q G I L) (hf : fr X I L I1 L1) (hX : ∀ b, fX q b → ¬ X b) (hX2 : ¬ X (p + 1 + 1)) : fcI okR p q G I1 L1 := by
  obtain ⟨n, P, M, r, f1, f2, f3, f4, f5, f6⟩ := h
  have e := (hf _ hX2).2
  exact ⟨n, P, M, r, fRep_fr f1 hf hX, f2, by rw [e]; exact f3, by rw [e]; exact f4, by rw [e]; exact f5, by rw [e]; exact f6⟩
theorem sg_neg : ∀ u, u < 1000 → ((-1 : Int32) * nI u).toInt64.toInt = (-1) * (u : Int) := by decide +kernel
theorem sg_pos : ∀ u, u < 1000 → ((1 : Int32) * nI u).toInt64.toInt = 1 * (u : Int) := by decide +kernel
section
variable {p q : Nat} {G : List Int}
theorem tl_one {i j u v : Nat} {σ : Int32} {s : Int} (hp : is_Factoring S p) (hq : is_Factors S q) (hpq : p + 9 ≤ q ∨ q + 13 ≤ p) (hG : gOK G) (hs : (σ = -1 ∧ s = -1) ∨ (σ = 1 ∧ s = 1)) (hi : i < 32) (hj : j < 32) (hv : I (p + 7) i = nI v) (hv1 : 1 ≤ v ∧ v ≤ 999) (hu : I (p + 8) j = nI u) (hu1 : 1 ≤ u ∧ u ≤ 999) (hfc : fcI okL p q G I L) :
    ∃ I1 L1, fcI okL p q G I1 L1 ∧ ¬ zdv [s * u, v] (zev (rl (L1 (p + 1 + 1)))) ∧ (∃ w, ∀ x, zev (rl (L (p + 1 + 1))) x = zev (rl (L1 (p + 1 + 1))) x * zev w x) ∧ fr (fcX p q) I L I1 L1 ∧ (∀ b, ¬ fX q b → I1 b = I b) ∧
      ∀ RET, (∀ y : Int32, y = σ + 2 → hd_X0_takeLinear_39 S RET p q (nI i) (nI j) y I1 L1) → hd_X0_takeLinear_39 S RET p q (nI i) (nI j) σ I L := by
  have hfc0 := hfc
  obtain ⟨n, P, M, r, f1, f2, f3, f4, f5, f6⟩ := hfc
  have hσ : ¬ (1 : Int32) < σ := by rcases hs with ⟨rfl, -⟩ | ⟨rfl, -⟩ <;> decide
  have he : (σ * nI u).toInt64.toInt = s * u := by
    rcases hs with ⟨rfl, rfl⟩ | ⟨rfl, rfl⟩
    · exact sg_neg u (by omega)
    · exact sg_pos u (by omega)
  have hs0 : s * (u : Int) ≠ 0 ∧ (s * (u : Int)).natAbs ≤ 999 := by rcases hs with ⟨-, rfl⟩ | ⟨-, rfl⟩ <;> omega
  have hlv : (lN v).toInt = v := t_lN (by omega)
  have hl : (nI v).toInt64 = lN v := nI_l (by omega)
  obtain ⟨b, r1, r2⟩ := s_isRoot (S := S) (I := I) (L := L) hp f5 (lN v) ((σ * nI u).toInt64) (by rw [hlv]; omega)
  rw [he, hlv] at r2
  cases b with
  | false =>
    refine ⟨I, L, hfc0, fun hz => ?_, ⟨[1], fun x => by simp [zev]⟩, fr_rf, fun _ _ => rfl, fun RET hk => ?_⟩
    · obtain ⟨w, hw⟩ := hz
      exact absurd (r2 ⟨w, hw⟩) (by decide)
    · refine it_X0_takeLinear_39 hp hq ⟨fun h => absurd h hσ, fun _ => ⟨vp_in_nI hi (by decide), vp_in_nI hj (by decide), _, _, _, by rw [nI_clamp (by omega), nI_clamp (by omega), hv, hu, hl]; exact r1, fun _ => hk, fun h => absurd rfl h⟩⟩
  | true =>
    have hF : ∃ F : Nat → Int64, F = fun k => if k = 0 then (σ * nI u).toInt64 else if k = 1 then lN v else if k = 2 then 0 else 0 := ⟨_, rfl⟩
    obtain ⟨F, hF⟩ := hF
    have sq := s_setQuadratic (S := S) (I := I) (L := L) hp.2.2.1 0 (lN v) ((σ * nI u).toInt64)
    rw [← hF] at sq
    have F0 : (F 0).toInt = s * u := by rw [hF]; exact he
    have F1 : (F 1).toInt = v := by rw [hF]; exact hlv
    have F2 : ∀ k, 1 < k → F k = 0 := fun k hk => by
      rw [hF]; simp [show ¬ k = 0 by omega, show ¬ k = 1 by omega]
    have z : (0 : Int64).toInt = 0 := rfl
    have hFe : ∀ x, zev (rl F) x = zev [s * u, v] x := fun x => by
      unfold rl
      rw [F2 2 (by decide), F2 3 (by decide), F2 4 (by decide), F2 5 (by decide), F0, F1, z]; simp [zev]
    have hT : deg6 F 1 := ⟨by decide, fun e => by rw [e, z] at F1; omega, fun k h1 _ => F2 k h1⟩
    have hTb : bnd6 F 999 := fun k hk => by
      rcases Nat.lt_or_ge 1 k with c | c
      · rw [F2 k c, z]; decide
      · have : k = 0 ∨ k = 1 := by omega
        rcases this with rfl | rfl
        · rw [F0]; exact hs0.2
        · rw [F1]; omega
    have hT0 : F 0 ≠ 0 := fun e => by rw [e, z] at F0; exact hs0.1 F0.symm
    have hT1 : zlt (rl F) 2 ∧ 0 < zco (rl F) 1 := ⟨(deg6_zlt hT).1, by rw [rl_co F (by decide), F1]; omega⟩
    have row : mwn L (p + 3 + 1) 6 F (p + 1 + 1) = L (p + 1 + 1) := mwn_ne (by omega)
    have trow : ∀ k, k < 6 → F k = mwn L (p + 3 + 1) 6 F (p + 3 + 1) k := fun k hk => (mwn_at hk).symm
    have hrl : rl (mwn L (p + 3 + 1) 6 F (p + 3 + 1)) = rl F := rl_mwn
    have hfr : fr (fun b => b = p + 3 + 1) I L I (mwn L (p + 3 + 1) 6 F) := fr_L rfl
    have hpr := (gOK_rest hG f2.1 f3).1
    obtain ⟨I1, L1, t1, t2, t3, t4, t5, t6⟩ := s_takeOut (S := S) (I := I) (L := mwn L (p + 3 + 1) 6 F) (okR := okL) (d := 1) (C := 999) hp hq hpq hG (Nat.le_refl _) (deg6_ext hT trow) (fun k hk => by rw [← trow k hk]; exact hTb k hk) (by decide)
      (fun R n a b c => okL_1 a b c) (fun R Q n a b c d e => okL_2 (deg6_ext hT trow) (by rw [← trow 0 (by decide)]; exact hT0) a b c d e) (fun R R' n a b => okL_ext a b) (by rw [hrl]; exact ⟨1, hT1⟩)
      (fun hz => by
        rw [hrl] at hz ⊢
        rw [row] at hz
        obtain ⟨w, hw⟩ := hz
        exact zirr_lin (zprim_of hpr hw) hT1.1 (by have := hT1.2; omega)) (fcI_fr hfc0 hfr (fun b hb => by unfold fX at hb; omega) (by omega))
    rw [hrl] at t3
    rw [row] at t4
    refine ⟨I1, L1, t2, fun hz => t3 ?_, t4, fr_tr hfr t5 (fun b hb => by
      rcases hb with hb | hb | hb | hb
      · exact Or.inl ⟨by omega, by omega⟩
      · exact Or.inl ⟨by omega, by omega⟩
      · exact Or.inl ⟨by omega, by omega⟩
      · exact Or.inr hb), t6, fun RET hk => ?_⟩
    · obtain ⟨w, hw⟩ := hz
      exact ⟨w, fun x => by rw [hw x, hFe x]⟩
    · refine it_X0_takeLinear_39 hp hq ⟨fun h => absurd h hσ, fun _ => ⟨vp_in_nI hi (by decide), vp_in_nI hj (by decide), _, _, _, by rw [nI_clamp (by omega), nI_clamp (by omega), hv, hu, hl]; exact r1, fun h => absurd (show (1 : Int32) = 0 from h) (by decide), fun _ => ⟨vp_in_nI hi (by decide), vp_in_nI hj (by decide), _, _, by rw [nI_clamp (by omega), nI_clamp (by omega), hv, hu, hl]; exact sq, _, _, t1, hk⟩⟩⟩
/-- what has not been found to divide -/
def ndv (v u : Nat) (R : List Int) : Prop := ¬ zdv [(u : Int), (v : Int)] (zev R) ∧ ¬ zdv [-(u : Int), (v : Int)] (zev R)
theorem ndv_of {v u : Nat} {R R' : List Int} (h : ndv v u R) (hw : ∃ w, ∀ x, zev R x = zev R' x * zev w x) : ndv v u R' := by
  obtain ⟨w, hw⟩ := hw
  exact ⟨fun hz => h.1 (zdv_of hz w hw), fun hz => h.2 (zdv_of hz w hw)⟩
theorem dvd_tr {A B C : List Int} (h : ∃ w, ∀ x, zev A x = zev B x * zev w x) (h2 : ∃ w, ∀ x, zev B x = zev C x * zev w x) : ∃ w, ∀ x, zev A x = zev C x * zev w x := by
  obtain ⟨w, hw⟩ := h
  obtain ⟨w2, hw2⟩ := h2
  exact ⟨zmul w2 w, fun x => by rw [hw x, hw2 x, zev_mul, Int.mul_assoc]⟩
theorem fcX_tr {I1 I2 : Nat → Nat → Int32} {L1 L2 : Nat → Nat → Int64} (h : fr (fcX p q) I L I1 L1) (h2 : fr (fcX p q) I1 L1 I2 L2) : fr (fcX p q) I L I2 L2 := fr_tr h h2 (fun b hb => hb.elim id id)
/-- the loop over the lowest coefficients -/
theorem tl_22 {i v c2 N2 : Nat} {I0 : Nat → Nat → Int32} (hp : is_Factoring S p) (hq : is_Factors S q) (hpq : p + 9 ≤ q ∨ q + 13 ≤ p) (hG : gOK G) (hi : i < 32) (hv : I0 (p + 7) i = nI v) (hv1 : 1 ≤ v ∧ v ≤ 999) (h6 : I0 p 6 = nI c2) (hD : isDv (I0 (p + 8)) c2 N2) :
    ∀ j, j ≤ c2 → ∀ I' L', fcI okL p q G I' L' → (∀ b, ¬ fX q b → I' b = I0 b) → ∃ I1 L1, fcI okL p q G I1 L1 ∧ (∃ w, ∀ x, zev (rl (L' (p + 1 + 1))) x = zev (rl (L1 (p + 1 + 1))) x * zev w x) ∧ fr (fcX p q) I' L' I1 L1 ∧ (∀ b, ¬ fX q b → I1 b = I0 b) ∧
      (∀ j' u, j ≤ j' → j' < c2 → I0 (p + 8) j' = nI u → 1 ≤ u → u ≤ 999 → ndv v u (rl (L1 (p + 1 + 1)))) ∧ ∀ RET, (∀ y : Int32, y = nI i + 1 → hd_X0_takeLinear_6 S RET p q y I1 L1) → hd_X0_takeLinear_22 S RET p q (nI i) (nI j) I' L' := by
  have hp0 : ¬ fX q p := fun z => by unfold fX at z; omega
  have hp7 : ¬ fX q (p + 7) := fun z => by unfold fX at z; omega
  have hp8 : ¬ fX q (p + 8) := fun z => by unfold fX at z; omega
  have hc32 := hD.1
  refine up_loop c2 (fun I' L' hfc hI => ⟨I', L', hfc, ⟨[1], fun x => by simp [zev]⟩, fr_rf, hI, fun j' u h1 h2 => by omega, fun RET hk => it_X0_takeLinear_22 hp hq ?_⟩) (fun j hj ih I' L' hfc hI => ?_)
  · rw [hI p hp0, h6]; exact ge_t (Nat.le_refl _) (by omega) hk
  · obtain ⟨u, u1, u2, u3, u4⟩ := hD.2.1 j hj
    obtain ⟨I1, L1, a1, a2, a3, a4, a5, a6⟩ := tl_one (S := S) (I := I') (L := L') (i := i) (j := j) (u := u) (v := v) (σ := -1) (s := -1) hp hq hpq hG (Or.inl ⟨rfl, rfl⟩) hi (by omega) (by rw [hI _ hp7]; exact hv) hv1 (by rw [hI _ hp8]; exact u1) ⟨u2, u3⟩ hfc
    have hI1 : ∀ b, ¬ fX q b → I1 b = I0 b := fun b hb => (a5 b hb).trans (hI b hb)
    obtain ⟨I2, L2, b1, b2, b3, b4, b5, b6⟩ := tl_one (S := S) (I := I1) (L := L1) (i := i) (j := j) (u := u) (v := v) (σ := 1) (s := 1) hp hq hpq hG (Or.inr ⟨rfl, rfl⟩) hi (by omega) (by rw [hI1 _ hp7]; exact hv) hv1 (by rw [hI1 _ hp8]; exact u1) ⟨u2, u3⟩ a1
    have hI2 : ∀ b, ¬ fX q b → I2 b = I0 b := fun b hb => (b5 b hb).trans (hI1 b hb)
    obtain ⟨I3, L3, c1, c2', c3, c4, c5, c6⟩ := ih I2 L2 b1 hI2
    refine ⟨I3, L3, c1, dvd_tr a3 (dvd_tr b3 c2'), fcX_tr a4 (fcX_tr b4 c3), c4, fun j' u' h1 h2 h3 h4 h5 => ?_, fun RET hk => it_X0_takeLinear_22 hp hq ?_⟩
    · rcases Nat.eq_or_lt_of_le h1 with e | e
      · subst e
        have : u' = u := by
          rw [u1] at h3
          exact ((nI_eq (by omega) (by omega)).mp h3).symm
        subst this
        refine ⟨fun hz => b2 ?_, fun hz => a2 ?_⟩
        · obtain ⟨w, hw⟩ := c2'
          obtain ⟨y, hy⟩ := zdv_of hz w hw
          exact ⟨y, fun x => by rw [hy x, Int.one_mul]⟩
        · obtain ⟨w, hw⟩ := dvd_tr b3 c2'
          obtain ⟨y, hy⟩ := zdv_of hz w hw
          exact ⟨y, fun x => by rw [hy x, Int.neg_mul, Int.one_mul]⟩
      · exact c5 j' u' e h2 h3 h4 h5
    · rw [hI p hp0, h6]
      refine ge_f hj (by omega) (ge_f (k := 32) (by omega) (by decide) (a6 RET (fun y hy => ?_)))
      rw [hy]
      refine b6 RET (fun y hy => ?_)
      rw [hy]
      refine it_X0_takeLinear_39 hp hq ⟨fun _ y hy => ?_, fun h => absurd (by decide) h⟩
      rw [hy, nI_1]
      exact c6 RET hk
/-- the loop over the leading coefficients -/
theorem tl_6 {c c2 N N2 : Nat} {I0 : Nat → Nat → Int32} (hp : is_Factoring S p) (hq : is_Factors S q) (hpq : p + 9 ≤ q ∨ q + 13 ≤ p) (hG : gOK G) (h5 : I0 p 5 = nI c) (h6 : I0 p 6 = nI c2) (hD1 : isDv (I0 (p + 7)) c N) (hD : isDv (I0 (p + 8)) c2 N2) :
    ∀ i, i ≤ c → ∀ I' L', fcI okL p q G I' L' → (∀ b, ¬ fX q b → I' b = I0 b) → ∃ I1 L1, fcI okL p q G I1 L1 ∧ (∃ w, ∀ x, zev (rl (L' (p + 1 + 1))) x = zev (rl (L1 (p + 1 + 1))) x * zev w x) ∧ fr (fcX p q) I' L' I1 L1 ∧
      (∀ i' v j' u, i ≤ i' → i' < c → I0 (p + 7) i' = nI v → 1 ≤ v → v ≤ 999 → j' < c2 → I0 (p + 8) j' = nI u → 1 ≤ u → u ≤ 999 → ndv v u (rl (L1 (p + 1 + 1)))) ∧ hd_X0_takeLinear_6 S (fun v h => v = none ∧ h = (S, I1, L1)) p q (nI i) I' L' := by
  have hp0 : ¬ fX q p := fun z => by unfold fX at z; omega
  have hc32 := hD1.1
  refine up_loop c (fun I' L' hfc hI => ⟨I', L', hfc, ⟨[1], fun x => by simp [zev]⟩, fr_rf, fun i' v j' u h1 h2 => by omega, it_X0_takeLinear_6 hp hq ?_⟩) (fun i hi ih I' L' hfc hI => ?_)
  · rw [hI p hp0, h5]; exact ge_t (Nat.le_refl _) (by omega) ⟨rfl, rfl⟩
  · obtain ⟨v, v1, v2, v3, v4⟩ := hD1.2.1 i hi
    obtain ⟨I1, L1, a1, a2, a3, a4, a5, a6⟩ := tl_22 (S := S) hp hq hpq hG (show i < 32 by omega) v1 ⟨v2, v3⟩ h6 hD 0 (Nat.zero_le _) I' L' hfc hI
    obtain ⟨I2, L2, b1, b2, b3, b4, b5⟩ := ih I1 L1 a1 a4
    refine ⟨I2, L2, b1, dvd_tr a2 b2, fcX_tr a3 b3, fun i' v' j' u h1 h2 h3 h4 h5 h6 h7 h8 h9 => ?_, it_X0_takeLinear_6 hp hq ?_⟩
    · rcases Nat.eq_or_lt_of_le h1 with e | e
      · subst e
        have : v' = v := by
          rw [v1] at h3
          exact ((nI_eq (by omega) (by omega)).mp h3).symm
        subst this
        exact ndv_of (a5 j' u (Nat.zero_le _) h6 h7 h8 h9) b2
      · exact b4 i' v' j' u e h2 h3 h4 h5 h6 h7 h8 h9
    · rw [hI p hp0, h5]
      refine ge_f hi (by omega) (ge_f (k := 32) (by omega) (by decide) (a6 _ (fun y hy => ?_)))
      rw [hy, nI_1]; exact b5
/-- no line divides -/
def noLin (R : List Int) : Prop := ∀ u : List Int, zlt u 2 → zco u 1 ≠ 0 → ¬ zdv u (zev R)
theorem co_dvd {R u w : List Int} (h : ∀ x, zev R x = zev u x * zev w x) {n : Nat} (hl : zlt R (n + 1)) (h0 : zco R n ≠ 0) (hu : zlt u 2) (hu1 : zco u 1 ≠ 0) : zco u 1 ∣ zco R n ∧ zco R 0 = zco u 0 * zco w 0 := by
  obtain ⟨a, b, hab, ha, hb, ha0, hb0, hm⟩ := zdeg_mul h hl h0
  have : a = 1 := by
    rcases Nat.lt_trichotomy a 1 with q | q | q
    · exact absurd (ha 1 q) hu1
    · exact q
    · exact absurd (hu a q) ha0
  subst this
  refine ⟨by rw [hm]; exact Int.dvd_mul_right _ _, ?_⟩
  have : zco R 0 = zco (zmul u w) 0 := zev_inj (fun x => by rw [zev_mul, h x]) 0
  rw [this, zmul_low]
theorem zev_2 {u : List Int} (hu : zlt u 2) (x : Int) : zev u x = zev [zco u 0, zco u 1] x := zev_congr (fun k => by
  match k with
  | 0 => rw [zco_z]
  | 1 => rw [zco_s, zco_z]
  | k + 2 => rw [zco_s, zco_s, zco_nil]; exact hu _ (by omega)) x
theorem zdv_neg {u u' : List Int} {F : Int → Int} (h : zdv u F) (he : ∀ x, zev u' x = -zev u x) : zdv u' F := by
  obtain ⟨w, hw⟩ := h
  exact ⟨zsm (-1) w, fun x => by rw [hw x, he x, zev_sm]; grind⟩
theorem s_takeLinear {n : Nat} (hp : is_Factoring S p) (hq : is_Factors S q) (hpq : p + 9 ≤ q ∨ q + 13 ≤ p) (hG : gOK G) (hn : deg6 (L (p + 1 + 1)) n) (h9 : (L (p + 1 + 1) n).toInt.natAbs ≤ 999) (h0 : L (p + 1 + 1) 0 ≠ 0) (h09 : (L (p + 1 + 1) 0).toInt.natAbs ≤ 999) (hfc : fcI okL p q G I L) :
    ∃ I1 L1, CTv mr_X0_takeLinear [.ref p, .ref q] S I L I1 L1 ∧ fcI okL p q G I1 L1 ∧ (∃ w, ∀ x, zev (rl (L (p + 1 + 1))) x = zev (rl (L1 (p + 1 + 1))) x * zev w x) ∧ fr (fcX p q) I L I1 L1 ∧ noLin (rl (L1 (p + 1 + 1))) := by
  obtain ⟨c, c2, I0, d1, d2, d3, d4, d5, d6⟩ := s_listDivisors (S := S) (I := I) (L := L) hp hn h9 h0 h09
  have hfr : fr (fun b => b = p ∨ b = p + 7 ∨ b = p + 8) I L I0 L := fun b hb => ⟨d2 b (fun e => hb (Or.inl e)) (fun e => hb (Or.inr (Or.inl e))) (fun e => hb (Or.inr (Or.inr e))), rfl⟩
  obtain ⟨I1, L1, a1, a2, a3, a4, a5⟩ := tl_6 (S := S) hp hq hpq hG d3 d4 d5 d6 0 (Nat.zero_le _) I0 L (fcI_fr hfc hfr (fun b hb => by unfold fX at hb; omega) (by omega)) (fun _ _ => rfl)
  refine ⟨I1, L1, wp_X0_takeLinear hp hq ⟨_, _, d1, a5⟩, a1, a2, fr_tr hfr a3 (fun b hb => by
    rcases hb with (hb | hb | hb) | hb
    · exact Or.inl ⟨by omega, by omega⟩
    · exact Or.inl ⟨by omega, by omega⟩
    · exact Or.inl ⟨by omega, by omega⟩
    · exact hb), fun u hu hu1 hz => ?_⟩
  obtain ⟨w, hw⟩ := a2
  obtain ⟨w', hw'⟩ := zdv_of hz w hw
  obtain ⟨e1, e2⟩ := co_dvd hw' (deg6_zlt hn).1 (deg6_zlt hn).2 hu hu1
  rw [rl_co _ hn.1] at e1
  rw [rl_co _ (by decide)] at e2
  have g1 : (zco u 1).natAbs ∣ (L (p + 1 + 1) n).toInt.natAbs := Int.natAbs_dvd_natAbs.mpr e1
  have g2 : (zco u 0).natAbs ∣ (L (p + 1 + 1) 0).toInt.natAbs := Int.natAbs_dvd_natAbs.mpr (by rw [e2]; exact Int.dvd_mul_right _ _)
  have n0 := t_ne0 h0
  have nn := t_ne0 hn.2.1
  have l1 := Nat.le_of_dvd (by omega) g1
  have l2 := Nat.le_of_dvd (by omega) g2
  have u0 : 1 ≤ (zco u 0).natAbs := by
    rcases Nat.eq_zero_or_pos (zco u 0).natAbs with e | e
    · rw [e] at g2
      have := Nat.zero_dvd.mp g2
      omega
    · exact e
  obtain ⟨i, hi, hi2⟩ := d5.2.2 _ (by omega) g1
  obtain ⟨j, hj, hj2⟩ := d6.2.2 _ u0 g2
  obtain ⟨x1, x2⟩ := a4 i _ j _ (Nat.zero_le _) hi hi2 (by omega) (by omega) hj hj2 u0 (by omega)
  rcases Int.natAbs_eq (zco u 1) with s1 | s1 <;> rcases Int.natAbs_eq (zco u 0) with s0 | s0
  · refine x1 ?_
    obtain ⟨y, hy⟩ := hz
    exact ⟨y, fun x => by rw [hy x, zev_2 hu, ← s0, ← s1]⟩
  · refine x2 ?_
    obtain ⟨y, hy⟩ := hz
    exact ⟨y, fun x => by rw [hy x, zev_2 hu, ← s0, ← s1]⟩
  · refine x2 (zdv_neg hz (fun x => ?_))
    rw [zev_2 hu]; simp only [zev]; rw [← s0]; grind
  · refine x1 (zdv_neg hz (fun x => ?_))
    rw [zev_2 hu]; simp only [zev]; grind
end
