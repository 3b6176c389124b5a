/-! CONTRACTS: taking a factor out -/
variable {S : List mjD} {I : Nat → Nat → Int32} {L : Nat → Nat → Int64}
theorem deg6_ext {f g : Nat → Int64} {n : Nat} (h : deg6 f n) (he : ∀ k, k < 6 → f k = g k) : deg6 g n := ⟨h.1, by rw [← he n h.1]; exact h.2.1, fun k h1 h2 => by rw [← he k h2]; exact h.2.2 k h1 h2⟩
theorem zdv_of {p : List Int} {F H : Int → Int} (h : zdv p F) (w : List Int) (he : ∀ x, H x = F x * zev w x) : zdv p H := by
  obtain ⟨q, hq⟩ := h
  exact ⟨zmul q w, fun x => by rw [he x, hq x, zev_mul]; grind⟩
theorem zdv_small {p R : List Int} {d r : Nat} (hd : zco p d ≠ 0) (hr : zlt R (r + 1)) (hr0 : zco R r ≠ 0) (h : r < d) : ¬ zdv p (zev R) := by
  rintro ⟨w, hw⟩
  obtain ⟨a, b, hab, ha, -⟩ := zdeg_mul hw hr hr0
  exact hd (ha d (by omega))
theorem zprim_of {p R w : List Int} (hR : zprim R) (h : ∀ x, zev R x = zev p x * zev w x) : zprim p := fun m hm => hR m (fun k => by
  have : zco R k = zco (zmul p w) k := zev_inj (fun x => by rw [zev_mul, h x]) k
  rw [this]; exact zdc_mul_l hm w k)
theorem zirr_lin {p : List Int} (hp : zprim p) (h1 : zlt p 2) (h0 : zco p 1 ≠ 0) : zirr p := ⟨hp, ⟨1, Nat.le_refl _, h1, h0⟩, fun u v he => by
  obtain ⟨a, b, hab, ha, hb, -⟩ := zdeg_mul he h1 h0
  rcases Nat.eq_zero_or_pos a with e | e
  · subst e; exact Or.inl ha
  · have : b = 0 := by omega
    subst this; exact Or.inr hb⟩
/-- what is to be factored -/
def gOK (G : List Int) : Prop := zprim G ∧ ∃ g, g ≤ 5 ∧ zlt G (g + 1) ∧ 0 < zco G g
theorem gOK_rest {G R : List Int} {P : Nat → List Int} {M : Nat → Nat} {n : Nat} (hG : gOK G) (h : ∀ j, j < n → fac1 (P j) (M j)) (he : ∀ x, zev G x = fpr P M n x * zev R x) : zprim R ∧ ∃ r, n ≤ msum M n ∧ msum M n + r ≤ 5 ∧ zlt R (r + 1) ∧ 0 < zco R r := by
  obtain ⟨hp, g, hg5, hg, hg0⟩ := hG
  refine ⟨zprim_of hp (w := fpl P M n) (fun x => by rw [zev_fpl, he x, Int.mul_comm]), ?_⟩
  obtain ⟨a, h1, h2, h3, h4⟩ := fpl_top n h
  obtain ⟨u, v, huv, hu, hv, hu0, hv0, hm⟩ := zdeg_mul (p := G) (u := fpl P M n) (v := R) (fun x => by rw [zev_fpl]; exact he x) hg (by omega)
  have hau : a = u := by
    rcases Nat.lt_trichotomy a u with q | q | q
    · exact absurd (h3 u q) hu0
    · exact q
    · have := hu a q; omega
  subst hau
  refine ⟨v, h1, by omega, hv, ?_⟩
  apply Classical.byContradiction
  intro hc
  have : zco (fpl P M n) a * zco R v ≤ 0 := Int.mul_nonpos_of_nonneg_of_nonpos (by omega) (by omega)
  omega
/-- a factoring on its way: p the work, q the factors found -/
def fcI (okR : (Nat → Int64) → Nat → Prop) (p q : Nat) (G : List Int) (I : Nat → Nat → Int32) (L : Nat → Nat → Int64) : Prop :=
  ∃ n P M r, fRep q n P M I L ∧ fac n P M ∧ (∀ x, zev G x = fpr P M n x * zev (rl (L (p + 1 + 1))) x) ∧ (∀ j, j < n → ¬ zdv (P j) (zev (rl (L (p + 1 + 1))))) ∧ deg6 (L (p + 1 + 1)) r ∧ okR (L (p + 1 + 1)) r
/-- what has been taken out -/
def tkP (okR : (Nat → Int64) → Nat → Prop) (p q : Nat) (G : List Int) (I : Nat → Nat → Int32) (L : Nat → Nat → Int64) (I1 : Nat → Nat → Int32) (L1 : Nat → Nat → Int64) : Prop :=
  fcI okR p q G I1 L1 ∧ ¬ zdv (rl (L (p + 3 + 1))) (zev (rl (L1 (p + 1 + 1)))) ∧ (∃ w, ∀ x, zev (rl (L (p + 1 + 1))) x = zev (rl (L1 (p + 1 + 1))) x * zev w x) ∧ fr (fun b => b = p + 1 + 1 ∨ b = p + 5 + 1 ∨ fX q b) I L I1 L1 ∧ ∀ b, ¬ fX q b → I1 b = I b
section
variable {okR : (Nat → Int64) → Nat → Prop} {p q d C : Nat} {G : List Int}
theorem tk_end {t r r' : Nat} {L' : Nat → Nat → Int64} (hq : is_Factors S q) (hp : is_Factoring S p) (hpq : p + 9 ≤ q ∨ q + 13 ≤ p) (hG : gOK G) (hpos : zpos (rl (L (p + 3 + 1)))) (hirr : zdv (rl (L (p + 3 + 1))) (zev (rl (L (p + 1 + 1)))) → zirr (rl (L (p + 3 + 1)))) (hfc : fcI okR p q G I L)
    (h1 : fr (fun b => b = p + 1 + 1 ∨ b = p + 5 + 1) I L I L') (h2 : ∀ x, zev (rl (L (p + 1 + 1))) x = zev (rl (L (p + 3 + 1))) x ^ t * zev (rl (L' (p + 1 + 1))) x) (h3 : deg6 (L' (p + 1 + 1)) r') (h3' : okR (L' (p + 1 + 1)) r') (h4 : ¬ zdv (rl (L (p + 3 + 1))) (zev (rl (L' (p + 1 + 1))))) (ht5 : t ≤ 5) (hr : deg6 (L (p + 1 + 1)) r) (ht : 0 < t → 1 ≤ r) :
    ∃ I1 L1, ((nI t ≤ 0 → ((none : Option Value) = none ∧ (S, I, L') = (S, I1, L1))) ∧ (¬ nI t ≤ 0 → ∃ I7 L8, CTv mr_X1_insert [.ref q, .ref (p + 3), .int (nI t)] S I L' I7 L8 ∧ ((none : Option Value) = none ∧ (S, I7, L8) = (S, I1, L1)))) ∧ tkP okR p q G I L I1 L1 := by
  obtain ⟨n, P, M, r0, f1, f2, f3, f4, f5, f6⟩ := hfc
  have hX : ∀ b, fX q b → ¬ (b = p + 1 + 1 ∨ b = p + 5 + 1) := fun b hb => by unfold fX at hb; omega
  have f1' := fRep_fr f1 h1 hX
  have hdvd : ∀ u : List Int, zdv u (zev (rl (L' (p + 1 + 1)))) → zdv u (zev (rl (L (p + 1 + 1)))) := fun u hu => zdv_of hu (zpw (rl (L (p + 3 + 1))) t) (fun x => by rw [h2 x, zev_pw, Int.mul_comm])
  have hmul : ∃ w, ∀ x, zev (rl (L (p + 1 + 1))) x = zev (rl (L' (p + 1 + 1))) x * zev w x := ⟨zpw (rl (L (p + 3 + 1))) t, fun x => by rw [h2 x, zev_pw, Int.mul_comm]⟩
  rcases Nat.eq_zero_or_pos t with e | e
  · subst e
    have e0 : ∀ x, zev (rl (L (p + 1 + 1))) x = zev (rl (L' (p + 1 + 1))) x := fun x => by rw [h2 x]; simp
    exact ⟨I, L', ⟨fun _ => ⟨rfl, rfl⟩, fun h => absurd (by decide) h⟩, ⟨n, P, M, r', f1', f2, fun x => by rw [f3 x, e0 x], fun j hj hz => f4 j hj (hdvd _ hz), h3, h3'⟩, h4, hmul, fr_mono h1 (fun b hb => by rcases hb with hb | hb; exact Or.inl hb; exact Or.inr (Or.inl hb)), fun b _ => rfl⟩
  · have hzd : zdv (rl (L (p + 3 + 1))) (zev (rl (L (p + 1 + 1)))) := by
      obtain ⟨s, rfl⟩ : ∃ s, t = s + 1 := ⟨t - 1, by omega⟩
      exact ⟨zmul (zpw (rl (L (p + 3 + 1))) s) (rl (L' (p + 1 + 1))), fun x => by rw [h2 x, zev_mul, zev_pw, Int.pow_succ]; grind⟩
    have hir := hirr hzd
    obtain ⟨hpr, rr, k1, k2, k3, k4⟩ := gOK_rest hG f2.1 f3
    have hrr : rr = r := by
      have hz := deg6_zlt hr
      rcases Nat.lt_trichotomy rr r with z | z | z
      · exact absurd (k3 r z) hz.2
      · exact z
      · have := hz.1 rr z; omega
    subst hrr
    have hT : rl (L' (p + 3 + 1)) = rl (L (p + 3 + 1)) := by rw [(h1 (p + 3 + 1) (by omega)).2]
    obtain ⟨c, I1, L1, i1, i2, i3, i4, i5, i6⟩ := s_insert (S := S) (I := I) (L := L') (m := t) hq hp.2.2.1 (by omega) (by have := ht e; omega) f1'
    rw [hT] at i3 i5 i6
    have hne : ∀ j, j < n → P j ≠ rl (L (p + 3 + 1)) := fun j hj ej => f4 j hj (by rw [ej]; exact hzd)
    have hrow : L1 (p + 1 + 1) = L' (p + 1 + 1) := (i4 _ (fun z => by unfold fX at z; omega)).2
    have hfac := fac_in (m := t) f2 i1 ⟨e, hir, hpos, rfl⟩ (fun j hj => ⟨by
      rcases i5 with z | z
      · omega
      · rcases Nat.eq_or_lt_of_le (show j ≤ c - 1 by omega) with z2 | z2
        · rw [z2]; exact z
        · exact zle_trans 5 (f2.2 j (c - 1) z2 (by omega)).1 z, hne j (by omega)⟩) (fun j h1 h2 => ⟨(i6 j h1 h2).1, (i6 j h1 h2).2⟩)
    refine ⟨I1, L1, ⟨fun h => absurd h (nI_nle e (by omega)), fun _ => ⟨I1, L1, i2, rfl, rfl⟩⟩, ⟨n + 1, _, _, r', i3, hfac, fun x => ?_, fun j hj hz => ?_, by rw [hrow]; exact h3, by rw [hrow]; exact h3'⟩, by rw [hrow]; exact h4, by rw [hrow]; exact hmul, fr_tr h1 i4 (fun b hb => by rcases hb with (hb | hb) | hb; exact Or.inl hb; exact Or.inr (Or.inl hb); exact Or.inr (Or.inr hb)), fun b hb => (i4 b hb).1⟩
    · rw [fpr_in n i1 x, hrow, f3 x, h2 x]; grind
    · rw [hrow] at hz
      rcases Nat.lt_trichotomy j c with z | z | z
      · rw [fins_lo z] at hz; exact f4 j (by omega) (hdvd _ hz)
      · subst z; rw [fins_eq] at hz; exact h4 hz
      · rw [fins_hi z] at hz; exact f4 (j - 1) (by omega) (hdvd _ hz)
theorem s_takeOut (hp : is_Factoring S p) (hq : is_Factors S q) (hpq : p + 9 ≤ q ∨ q + 13 ≤ p) (hG : gOK G) (hd1 : 1 ≤ d) (hT : deg6 (L (p + 3 + 1)) d) (hC : bnd6 (L (p + 3 + 1)) C) (hC1 : 1 ≤ C)
    (hk1 : ∀ R n, okR R n → deg6 R n → d ≤ n → ∃ B, (∀ k, d ≤ k → k < 6 → (R k).toInt.natAbs ≤ B) ∧ B * (1 + C) ^ (n - d + 1) < 2 ^ 63)
    (hk2 : ∀ R Q n, okR R n → deg6 R n → d ≤ n → deg6 Q (n - d) → (∀ x, zev (rl R) x = zev (rl Q) x * zev (rl (L (p + 3 + 1))) x) → okR Q (n - d))
    (hext : ∀ R R' n, okR R n → (∀ k, k < 6 → R k = R' k) → okR R' n)
    (hpos : zpos (rl (L (p + 3 + 1)))) (hirr : zdv (rl (L (p + 3 + 1))) (zev (rl (L (p + 1 + 1)))) → zirr (rl (L (p + 3 + 1)))) (hfc : fcI okR p q G I L) : ∃ I1 L1, CTv mr_X0_takeOut [.ref p, .ref q] S I L I1 L1 ∧ tkP okR p q G I L I1 L1 := by
  have hfc0 := hfc
  obtain ⟨n, P, M, r, f1, f2, f3, f4, f5, f6⟩ := hfc
  have key : ∀ j t, t + j = 5 → ∀ (L' : Nat → Nat → Int64) (r' : Nat), fr (fun b => b = p + 1 + 1 ∨ b = p + 5 + 1) I L I L' → (∀ x, zev (rl (L (p + 1 + 1))) x = zev (rl (L (p + 3 + 1))) x ^ t * zev (rl (L' (p + 1 + 1))) x) → deg6 (L' (p + 1 + 1)) r' → okR (L' (p + 1 + 1)) r' → r' + t * d = r →
      ∃ I1 L1, hd_X0_takeOut_2 S (fun v h => v = none ∧ h = (S, I1, L1)) p q (nI t) I L' ∧ tkP okR p q G I L I1 L1 := by
    have hTz := deg6_zlt hT
    have ht0 : ∀ t r', r' + t * d = r → 0 < t → 1 ≤ r := fun t r' h h0 => by
      have : 1 * 1 ≤ t * d := Nat.mul_le_mul h0 hd1
      omega
    intro j
    induction j with
    | zero =>
      intro t htj L' r' h1 h2 h3 h4 h5
      obtain rfl : t = 5 := by omega
      have hr5 := f5.1
      obtain ⟨I1, L1, e1, e2⟩ := tk_end hq hp hpq hG hpos hirr hfc0 h1 h2 h3 h4 (zdv_small hTz.2 (deg6_zlt h3).1 (deg6_zlt h3).2 (by omega)) (Nat.le_refl _) f5 (fun h => ht0 _ _ h5 h)
      exact ⟨I1, L1, it_X0_takeOut_2 hp hq (ge_t (k := 5) (Nat.le_refl _) (by decide) e1), e2⟩
    | succ j ih =>
      intro t htj L' r' h1 h2 h3 h4 h5
      have hTe : L' (p + 3 + 1) = L (p + 3 + 1) := (h1 _ (by omega)).2
      have c1 := s_degree (S := S) (I := I) (L := L') hp.2.1
      rw [deg6_dg h3] at c1
      have c2 := s_degree (S := S) (I := I) (L := L') hp.2.2.1
      rw [hTe, deg6_dg hT] at c2
      have hr6 := h3.1
      have hd6 := hT.1
      by_cases hlt : r' < d
      · obtain ⟨I1, L1, e1, e2⟩ := tk_end hq hp hpq hG hpos hirr hfc0 h1 h2 h3 h4 (zdv_small hTz.2 (deg6_zlt h3).1 (deg6_zlt h3).2 hlt) (by omega) f5 (fun h => ht0 _ _ h5 h)
        exact ⟨I1, L1, it_X0_takeOut_2 hp hq (ge_f (k := 5) (by omega) (by decide) ⟨_, _, _, c1, _, _, _, c2, fun _ => e1, fun h => absurd (nI_lt hlt (by omega)) h⟩), e2⟩
      · have hnl : ¬ nI r' < nI d := nI_nlt (by omega) (by omega)
        obtain ⟨B, hB1, hB2⟩ := hk1 _ _ h4 h3 (by omega)
        obtain ⟨b, Q, q1, q2, q3⟩ := s_quot (S := S) (I := I) (L := L') (p := p + 5) (q := p + 1) (r := p + 3) hp.2.2.2.1 hp.2.1 hp.2.2.1 (by omega) (by omega) h3 (by rw [hTe]; exact hT) (by omega) hB1 (by rw [hTe]; exact hC) hC1 hB2
        rw [hTe] at q2 q3
        cases b with
        | false =>
          have h1' : fr (fun b => b = p + 1 + 1 ∨ b = p + 5 + 1) I L I (mwn L' (p + 5 + 1) 6 Q) := fr_tr h1 (fr_L (X := fun b => b = p + 5 + 1) rfl) (fun b hb => by rcases hb with hb | hb; exact hb; exact Or.inr hb)
          have er : mwn L' (p + 5 + 1) 6 Q (p + 1 + 1) = L' (p + 1 + 1) := mwn_ne (by omega)
          obtain ⟨I1, L1, e1, e2⟩ := tk_end (t := t) (r' := r') hq hp hpq hG hpos hirr hfc0 h1' (by rw [er]; exact h2) (by rw [er]; exact h3) (by rw [er]; exact h4) (by rw [er]; exact q3 rfl) (by omega) f5 (fun h => ht0 _ _ h5 h)
          exact ⟨I1, L1, it_X0_takeOut_2 hp hq (ge_f (k := 5) (by omega) (by decide) ⟨_, _, _, c1, _, _, _, c2, fun h => absurd h hnl, fun _ => ⟨_, _, _, q1, fun _ => e1, fun h => absurd rfl h⟩⟩), e2⟩
        | true =>
          obtain ⟨z1, z2, z3⟩ := q2 rfl
          have hrow : ∀ k, k < 6 → Q k = mwn (mwn L' (p + 5 + 1) 6 Q) (p + 1 + 1) 6 (mwn L' (p + 5 + 1) 6 Q (p + 5 + 1)) (p + 1 + 1) k := fun k hk => by rw [mwn_at hk, mwn_at hk]
          have h1' : fr (fun b => b = p + 1 + 1 ∨ b = p + 5 + 1) I L I (mwn (mwn L' (p + 5 + 1) 6 Q) (p + 1 + 1) 6 (mwn L' (p + 5 + 1) 6 Q (p + 5 + 1))) := fr_tr (fr_tr h1 (fr_L (X := fun b => b = p + 5 + 1) rfl) (Z := fun b => b = p + 1 + 1 ∨ b = p + 5 + 1) (fun b hb => by rcases hb with hb | hb; exact hb; exact Or.inr hb)) (fr_L (X := fun b => b = p + 1 + 1) rfl) (fun b hb => by rcases hb with hb | hb; exact hb; exact Or.inl hb)
          obtain ⟨I1, L1, e1, e2⟩ := ih (t + 1) (by omega) _ (r' - d) h1' (fun x => by rw [← rl_ext hrow, h2 x, z1 x, Int.pow_succ]; grind) (deg6_ext z2 hrow) (hext _ _ _ (hk2 _ _ _ h4 h3 (by omega) z2 z1) hrow) (by rw [Nat.succ_mul]; omega)
          refine ⟨I1, L1, it_X0_takeOut_2 hp hq (ge_f (k := 5) (by omega) (by decide) ⟨_, _, _, c1, _, _, _, c2, fun h => absurd h hnl, fun _ => ⟨_, _, _, q1, fun h => absurd h (by decide), fun _ => ⟨_, _, s_copy hp.2.1 hp.2.2.2.1, fun y hy => ?_⟩⟩⟩), e2⟩
          rw [hy, nI_1]; exact e1
  obtain ⟨I1, L1, e1, e2⟩ := key 5 0 rfl L r fr_rf (fun x => by simp) f5 f6 (by omega)
  exact ⟨I1, L1, wp_X0_takeOut hp hq e1, e2⟩
end
