/-! POLYNOMIALS: pseudo-division, irreducible ones are prime, sorted factors are unique -/
def zxs (k : Nat) (p : List Int) : List Int := List.replicate k 0 ++ p
theorem zev_xs (k : Nat) (p : List Int) (x : Int) : zev (zxs k p) x = x ^ k * zev p x := by
  induction k with
  | zero => simp [zxs]
  | succ k ih =>
    have : zxs (k + 1) p = 0 :: zxs k p := by simp [zxs, List.replicate_succ]
    rw [this, zev, ih, Int.pow_succ]; grind
theorem zco_xs (k : Nat) (p : List Int) (j : Nat) : zco (zxs k p) j = if j < k then 0 else zco p (j - k) := by
  unfold zco zxs
  rw [List.getD_eq_getElem?_getD, List.getD_eq_getElem?_getD]
  by_cases h : j < k
  · rw [if_pos h, List.getElem?_append_left (by simpa using h)]
    simp [List.getElem?_replicate, h]
  · rw [if_neg h, List.getElem?_append_right (by simpa using h)]
    simp
theorem zpdiv {d : List Int} {n : Nat} (hd : zlt d (n + 1)) (hn : zco d n ≠ 0) : ∀ (N : Nat) (f : List Int), zlt f N → ∃ (c : Int) (q r : List Int), c ≠ 0 ∧ (∀ x, c * zev f x = zev q x * zev d x + zev r x) ∧ zlt r n := by
  intro N
  induction N with
  | zero => exact fun f hf => ⟨1, [], f, by decide, fun x => by simp [zev], fun k hk => hf k (Nat.zero_le _)⟩
  | succ N ih =>
    intro f hf
    by_cases hN : N < n
    · exact ⟨1, [], f, by decide, fun x => by simp [zev], fun k hk => hf k (by omega)⟩
    · have hf' : zlt (zadd (zsm (zco d n) f) (zsm (-(zco f N)) (zxs (N - n) d))) N := by
        intro k hk
        rw [zco_add, zco_sm, zco_sm, zco_xs, if_neg (by omega)]
        rcases Nat.eq_or_lt_of_le hk with e | e
        · subst e
          rw [show N - (N - n) = n by omega]; grind
        · rw [hf k e, hd (k - (N - n)) (by omega)]; omega
      obtain ⟨c, q, r, hc, he, hr⟩ := ih _ hf'
      refine ⟨c * zco d n, zadd q (zsm (c * zco f N) (zxs (N - n) [1])), r, Int.mul_ne_zero hc hn, fun x => ?_, hr⟩
      have := he x
      rw [zev_add, zev_sm, zev_sm, zev_xs] at this
      rw [zev_add, zev_sm, zev_xs]
      simp only [zev]
      grind
theorem zgcd_ex : ∀ r : List Int, ∃ g : Int, (∀ k, g ∣ zco r k) ∧ ∀ d, (∀ k, d ∣ zco r k) → d ∣ g
  | [] => ⟨0, fun k => by rw [zco_nil]; exact Int.dvd_refl _, fun d _ => Int.dvd_zero _⟩
  | a :: r => by
    obtain ⟨g, h1, h2⟩ := zgcd_ex r
    refine ⟨Int.gcd a g, fun k => ?_, fun d hd => ?_⟩
    · cases k with
      | zero => rw [zco_z]; exact Int.gcd_dvd_left ..
      | succ k => rw [zco_s]; exact Int.dvd_trans (Int.gcd_dvd_right ..) (h1 k)
    · refine Int.dvd_coe_gcd ?_ (h2 d (fun k => ?_))
      · have := hd 0; rwa [zco_z] at this
      · have := hd (k + 1); rwa [zco_s] at this
theorem zprim_ex (r : List Int) (hr : ∃ k, zco r k ≠ 0) : ∃ (t : Int) (r0 : List Int), t ≠ 0 ∧ (∀ k, zco r k = t * zco r0 k) ∧ zprim r0 := by
  obtain ⟨g, h1, h2⟩ := zgcd_ex r
  have hg : g ≠ 0 := fun e => by
    obtain ⟨k, hk⟩ := hr
    have := h1 k
    rw [e] at this
    exact hk (Int.zero_dvd.mp this)
  obtain ⟨r0, h0⟩ := zdc_div hg h1
  refine ⟨g, r0, hg, h0, fun m hm => ?_⟩
  have h3 : g * m ∣ g := h2 _ (fun k => by rw [h0 k]; exact Int.mul_dvd_mul (Int.dvd_refl _) (hm k))
  have h4 : g * m ∣ g * 1 := by rwa [Int.mul_one]
  exact Int.dvd_of_mul_dvd_mul_left hg h4
/-- irreducible -/
def zirr (p : List Int) : Prop := zprim p ∧ (∃ n, 1 ≤ n ∧ zlt p (n + 1) ∧ zco p n ≠ 0) ∧ ∀ u v, (∀ x, zev p x = zev u x * zev v x) → zlt u 1 ∨ zlt v 1
def zdv (p : List Int) (F : Int → Int) : Prop := ∃ q : List Int, ∀ x, F x = zev p x * zev q x
theorem zev_lt1 {u : List Int} (h : zlt u 1) (x : Int) : zev u x = zco u 0 := by
  have := zev_congr (p := u) (q := [zco u 0]) (fun k => by
    cases k with
    | zero => rw [zco_z]
    | succ k => rw [zco_s, zco_nil]; exact h _ (by omega)) x
  rw [this]; simp [zev]
/-- p divides a multiple: it divides -/
theorem zdv_of_mul {p : List Int} (hp : zprim p) {m : Int} (hm : m ≠ 0) {g w : List Int} (h : ∀ x, m * zev g x = zev p x * zev w x) : zdv p (zev g) := by
  have h1 : zdc m (zmul p w) := fun k => by
    have := zev_inj (p := zmul p w) (q := zsm m g) (fun x => by rw [zev_mul, zev_sm, h x]) k
    rw [this, zco_sm]; exact Int.dvd_mul_right _ _
  obtain ⟨w', hw'⟩ := zdc_div hm (zgauss3 hp hm h1)
  refine ⟨w', fun x => ?_⟩
  have h2 := h x
  rw [zev_congr (p := w) (q := zsm m w') (fun k => by rw [zco_sm]; exact hw' k) x, zev_sm] at h2
  have h3 : m * zev g x = m * (zev p x * zev w' x) := by rw [h2]; grind
  exact Int.eq_of_mul_eq_mul_left hm h3
theorem zbez {p g : List Int} (hp : zirr p) (hg : ¬ zdv p (zev g)) : ∃ (u v : List Int) (m : Int), m ≠ 0 ∧ ∀ x, zev u x * zev p x + zev v x * zev g x = m := by
  obtain ⟨hprim, ⟨n0, hn0, hpl, hpn⟩, hir⟩ := hp
  have hne : ∃ n, ∃ u v r : List Int, (∀ x, zev r x = zev u x * zev p x + zev v x * zev g x) ∧ zlt r (n + 1) ∧ zco r n ≠ 0 := ⟨n0, [1], [], p, fun x => by simp [zev], hpl, hpn⟩
  obtain ⟨n, ⟨u, v, r, he, hr, hrn⟩, hmin⟩ := pk_least _ hne
  cases n with
  | zero =>
    refine ⟨u, v, zco r 0, hrn, fun x => ?_⟩
    rw [← he x, zev_lt1 hr x]
  | succ n =>
    exfalso
    obtain ⟨t, r0, ht, hrt, hr0⟩ := zprim_ex r ⟨_, hrn⟩
    have hrev : ∀ x, zev r x = t * zev r0 x := fun x => by rw [zev_congr (p := r) (q := zsm t r0) (fun k => by rw [zco_sm]; exact hrt k) x, zev_sm]
    have key : ∀ (f a b : List Int), (∀ x, zev f x = zev a x * zev p x + zev b x * zev g x) → zdv r0 (zev f) := by
      intro f a b hf
      obtain ⟨c, q, s, hc, hdiv, hs⟩ := zpdiv hr hrn f.length f (zlt_len f)
      have hs0 : ∀ k, zco s k = 0 := by
        intro k
        apply Classical.byContradiction
        intro hk
        obtain ⟨j, hj1, hj2⟩ := zdeg s ⟨k, hk⟩
        have hjn : j < n + 1 := by
          apply Classical.byContradiction
          intro hq
          exact hj2 (hs j (by omega))
        refine hmin j hjn ⟨zadd (zsm c a) (zsm (-1) (zmul q u)), zadd (zsm c b) (zsm (-1) (zmul q v)), s, fun x => ?_, hj1, hj2⟩
        have h1 := hdiv x
        rw [zev_add, zev_add, zev_sm, zev_sm, zev_sm, zev_sm, zev_mul, zev_mul]
        rw [hf x, he x] at h1
        grind
      refine zdv_of_mul hr0 (m := c) (w := zsm t q) hc (fun x => ?_)
      rw [hdiv x, hrev x, zev_congr0 s x hs0, zev_sm]; grind
    obtain ⟨q, hq⟩ := key p [1] [] (fun x => by simp [zev])
    obtain ⟨q2, hq2⟩ := key g [] [1] (fun x => by simp [zev])
    have hr0n : zco r0 (n + 1) ≠ 0 := fun e => hrn (by rw [hrt, e]; simp)
    rcases hir r0 q hq with h1 | h1
    · exact hr0n (h1 _ (by omega))
    · have hqc := zev_lt1 h1
      have hm : zdc (zco q 0) p := fun k => by
        have := zev_inj (p := p) (q := zsm (zco q 0) r0) (fun x => by rw [zev_sm, hq x, hqc x]; exact Int.mul_comm _ _) k
        rw [this, zco_sm]; exact Int.dvd_mul_right _ _
      obtain ⟨w, hw⟩ := hprim _ hm
      refine hg ⟨zsm w q2, fun x => ?_⟩
      rw [zev_sm, hq2 x, hq x, hqc x]
      have : zev r0 x * zev q2 x = (zco q 0 * w) * (zev r0 x * zev q2 x) := by rw [← hw]; simp
      rw [this]; grind
theorem zprime {p : List Int} (hp : zirr p) {g h : List Int} (hd : zdv p (fun x => zev g x * zev h x)) : zdv p (zev g) ∨ zdv p (zev h) := by
  by_cases hg : zdv p (zev g)
  · exact Or.inl hg
  · obtain ⟨u, v, m, hm, he⟩ := zbez hp hg
    obtain ⟨w, hw⟩ := hd
    refine Or.inr (zdv_of_mul hp.1 hm (w := zadd (zmul u h) (zmul v w)) (fun x => ?_))
    have h1 := he x
    have h2 : zev g x * zev h x = zev p x * zev w x := hw x
    rw [zev_add, zev_mul, zev_mul, ← h1]
    grind
def zprod : List (List Int) → List Int
  | [] => [1]
  | p :: l => zmul p (zprod l)
theorem zprime_list {p : List Int} (hp : zirr p) : ∀ l : List (List Int), zdv p (zev (zprod l)) → ∃ q ∈ l, zdv p (zev q)
  | [], h => by
    exfalso
    obtain ⟨w, hw⟩ := h
    obtain ⟨n, hn, hl, hc⟩ := hp.2.1
    have h1 : ∀ x, zev ([1] : List Int) x = zev p x * zev w x := hw
    obtain ⟨a, b, hab, ha, hb, ha0, hb0, -⟩ := zdeg_mul h1 (n := 0) (fun k hk => by
      cases k with
      | zero => omega
      | succ k => rw [zco_s, zco_nil]) (by rw [zco_z]; decide)
    obtain rfl : a = 0 := by omega
    exact hc (ha n (by omega))
  | q :: l, h => by
    have h1 : zdv p (fun x => zev q x * zev (zprod l) x) := by
      obtain ⟨w, hw⟩ := h
      exact ⟨w, fun x => by rw [← hw x, zprod, zev_mul]⟩
    rcases zprime hp h1 with h2 | h2
    · exact ⟨q, List.mem_cons_self, h2⟩
    · obtain ⟨q', hq', h3⟩ := zprime_list hp l h2
      exact ⟨q', List.mem_cons_of_mem _ hq', h3⟩
/-- a positive leading coefficient -/
def zpos (p : List Int) : Prop := ∃ n, zlt p (n + 1) ∧ 0 < zco p n
theorem zsame {p q : List Int} (hp : zirr p) (hq : zirr q) (pp : zpos p) (pq : zpos q) (h : zdv p (zev q)) (k : Nat) : zco q k = zco p k := by
  obtain ⟨w, hw⟩ := h
  obtain ⟨n, hn, hl, hc⟩ := hp.2.1
  rcases hq.2.2 p w hw with h1 | h1
  · exact absurd (h1 n hn) hc
  · have hwc := zev_lt1 h1
    have e : ∀ k, zco q k = zco w 0 * zco p k := fun k => by
      rw [← zco_sm]
      exact zev_inj (fun x => by rw [zev_sm, hw x, hwc x]; exact Int.mul_comm _ _) k
    have hu := hq.1 (zco w 0) (fun k => by rw [e]; exact Int.dvd_mul_right _ _)
    have hu2 : zco w 0 = 1 ∨ zco w 0 = -1 := by
      have h3 := Int.natAbs_dvd_natAbs.mpr hu
      have h4 : (zco w 0).natAbs = 1 := Nat.dvd_one.mp h3
      omega
    rcases hu2 with h2 | h2
    · rw [e, h2]; simp
    · exfalso
      obtain ⟨a, ha, ha0⟩ := pp
      obtain ⟨b, hb, hb0⟩ := pq
      have e1 : zco q b = -(zco p b) := by rw [e, h2]; omega
      have e2 : zco q a = -(zco p a) := by rw [e, h2]; omega
      rcases Nat.lt_trichotomy a b with h3 | h3 | h3
      · have := ha b h3; omega
      · subst h3; omega
      · have := hb a h3; omega
/-- the order of factors of six places: from power 5 downward -/
def zle : Nat → List Int → List Int → Prop
  | 0, p, q => zco p 0 ≤ zco q 0
  | k + 1, p, q => zco p (k + 1) < zco q (k + 1) ∨ (zco p (k + 1) = zco q (k + 1) ∧ zle k p q)
theorem zle_refl : ∀ k p, zle k p p
  | 0, p => Int.le_refl _
  | k + 1, p => Or.inr ⟨rfl, zle_refl k p⟩
theorem zle_trans : ∀ k {p q r : List Int}, zle k p q → zle k q r → zle k p r
  | 0, p, q, r, h1, h2 => Int.le_trans h1 h2
  | k + 1, p, q, r, h1, h2 => by
    rcases h1 with h1 | ⟨h1, h1'⟩ <;> rcases h2 with h2 | ⟨h2, h2'⟩
    · exact Or.inl (by omega)
    · exact Or.inl (by omega)
    · exact Or.inl (by omega)
    · exact Or.inr ⟨by omega, zle_trans k h1' h2'⟩
theorem zle_anti : ∀ k {p q : List Int}, zle k p q → zle k q p → ∀ j, j ≤ k → zco p j = zco q j
  | 0, p, q, h1, h2, j, hj => by
    obtain rfl : j = 0 := by omega
    exact Int.le_antisymm h1 h2
  | k + 1, p, q, h1, h2, j, hj => by
    rcases h1 with h1 | ⟨h1, h1'⟩ <;> rcases h2 with h2 | ⟨h2, h2'⟩
    · omega
    · omega
    · omega
    · rcases Nat.eq_or_lt_of_le hj with e | e
      · rw [e]; exact h1
      · exact zle_anti k h1' h2' j (by omega)
theorem zle_total : ∀ k (p q : List Int), zle k p q ∨ zle k q p
  | 0, p, q => Int.le_total _ _
  | k + 1, p, q => by
    rcases Int.lt_trichotomy (zco p (k + 1)) (zco q (k + 1)) with h | h | h
    · exact Or.inl (Or.inl h)
    · rcases zle_total k p q with h2 | h2
      · exact Or.inl (Or.inr ⟨h, h2⟩)
      · exact Or.inr (Or.inr ⟨h.symm, h2⟩)
    · exact Or.inr (Or.inl h)
def zsorted : List (List Int) → Prop
  | [] => True
  | p :: l => (∀ q ∈ l, zle 5 p q) ∧ zsorted l
/-- a list of factors: irreducible, positive, six places, sorted -/
def zfl (l : List (List Int)) : Prop := (∀ p ∈ l, zirr p ∧ zpos p ∧ p.length = 6) ∧ zsorted l
theorem zlist_eq {p q : List Int} (hp : p.length = 6) (hq : q.length = 6) (h : ∀ k, k ≤ 5 → zco p k = zco q k) : p = q := by
  apply List.ext_getElem (by omega)
  intro i h1 h2
  have := h i (by omega)
  unfold zco at this
  rw [List.getD_eq_getElem?_getD, List.getD_eq_getElem?_getD, List.getElem?_eq_getElem h1, List.getElem?_eq_getElem h2] at this
  simpa using this
theorem zuniq : ∀ (l l' : List (List Int)), zfl l → zfl l' → (∀ x, zev (zprod l) x = zev (zprod l') x) → l = l'
  | [], [], _, _, _ => rfl
  | [], q :: l', _, h', he => by
    exfalso
    obtain ⟨r, hr, -⟩ := zprime_list (h'.1 q List.mem_cons_self).1 [] ⟨zprod l', fun x => by rw [he x, zprod, zev_mul]⟩
    cases hr
  | p :: l, [], h, _, he => by
    exfalso
    obtain ⟨r, hr, -⟩ := zprime_list (h.1 p List.mem_cons_self).1 [] ⟨zprod l, fun x => by rw [← he x, zprod, zev_mul]⟩
    cases hr
  | p :: l, q :: l', h, h', he => by
    obtain ⟨ip, pp, lp⟩ := h.1 p List.mem_cons_self
    obtain ⟨iq, pq, lq⟩ := h'.1 q List.mem_cons_self
    obtain ⟨r, hr, hd⟩ := zprime_list ip (q :: l') ⟨zprod l, fun x => by rw [← he x, zprod, zev_mul]⟩
    obtain ⟨s, hs, hd2⟩ := zprime_list iq (p :: l) ⟨zprod l', fun x => by rw [he x, zprod, zev_mul]⟩
    have hr1 := h'.1 r hr
    have hs1 := h.1 s hs
    have er := zsame ip hr1.1 pp hr1.2.1 hd
    have es := zsame iq hs1.1 pq hs1.2.1 hd2
    have e1 : r = p := zlist_eq hr1.2.2 lp (fun k _ => er k)
    have e2 : s = q := zlist_eq hs1.2.2 lq (fun k _ => es k)
    have a1 : zle 5 q p := by
      rw [e1] at hr
      rcases List.mem_cons.mp hr with e | e
      · rw [e]; exact zle_refl 5 q
      · exact h'.2.1 p e
    have a2 : zle 5 p q := by
      rw [e2] at hs
      rcases List.mem_cons.mp hs with e | e
      · rw [e]; exact zle_refl 5 p
      · exact h.2.1 q e
    have e3 : p = q := zlist_eq lp lq (zle_anti 5 a2 a1)
    subst e3
    have hc : ∀ x, zev (zprod l) x = zev (zprod l') x := fun x => by
      have h0 : ∀ k, zco (zadd (zprod l) (zsm (-1) (zprod l'))) k = 0 := zcancel ip.1 (fun x => by
        have := he x
        rw [zprod, zprod, zev_mul, zev_mul] at this
        rw [zev_add, zev_sm]; grind)
      have := zev_congr0 _ x h0
      rw [zev_add, zev_sm] at this
      omega
    rw [zuniq l l' ⟨fun q hq => h.1 q (List.mem_cons_of_mem _ hq), h.2.2⟩ ⟨fun q hq => h'.1 q (List.mem_cons_of_mem _ hq), h'.2.2⟩ hc]
