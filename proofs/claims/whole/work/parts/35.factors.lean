/-! FACTORS in a row: their product, putting one in, uniqueness -/
def fpr (P : Nat → List Int) (M : Nat → Nat) : Nat → Int → Int
  | 0, _ => 1
  | n + 1, x => fpr P M n x * zev (P n) x ^ M n
theorem fpr_congr {P P' : Nat → List Int} {M M' : Nat → Nat} : ∀ n, (∀ j, j < n → P j = P' j ∧ M j = M' j) → ∀ x, fpr P M n x = fpr P' M' n x
  | 0, _, _ => rfl
  | n + 1, h, x => by rw [fpr, fpr, fpr_congr n (fun j hj => h j (by omega)) x, (h n (by omega)).1, (h n (by omega)).2]
def fins {α : Type} (c : Nat) (e : α) (P : Nat → α) : Nat → α := fun j => if j < c then P j else if j = c then e else P (j - 1)
theorem fins_lo {α : Type} {c j : Nat} {e : α} {P : Nat → α} (h : j < c) : fins c e P j = P j := if_pos h
theorem fins_eq {α : Type} {c : Nat} {e : α} {P : Nat → α} : fins c e P c = e := by simp [fins]
theorem fins_hi {α : Type} {c j : Nat} {e : α} {P : Nat → α} (h : c < j) : fins c e P j = P (j - 1) := by simp [fins, show ¬ j < c by omega, show ¬ j = c by omega]
theorem fpr_in {P : Nat → List Int} {M : Nat → Nat} {c m : Nat} {e : List Int} : ∀ n, c ≤ n → ∀ x, fpr (fins c e P) (fins c m M) (n + 1) x = fpr P M n x * zev e x ^ m
  | 0, hc, x => by
    obtain rfl : c = 0 := by omega
    simp [fpr, fins_eq]
  | n + 1, hc, x => by
    rcases Nat.eq_or_lt_of_le hc with e1 | e1
    · subst e1
      rw [fpr, fins_eq, fins_eq, fpr_congr (n + 1) (fun j hj => ⟨fins_lo hj, fins_lo hj⟩) x]
    · rw [fpr, fpr_in n (by omega) x, fins_hi (by omega), fins_hi (by omega), fpr, show n + 1 - 1 = n by omega]; grind
def fac1 (p : List Int) (m : Nat) : Prop := 1 ≤ m ∧ zirr p ∧ zpos p ∧ p.length = 6
def fac (n : Nat) (P : Nat → List Int) (M : Nat → Nat) : Prop := (∀ j, j < n → fac1 (P j) (M j)) ∧ ∀ i j, i < j → j < n → zle 5 (P i) (P j) ∧ P i ≠ P j
theorem fac_0 {P : Nat → List Int} {M : Nat → Nat} : fac 0 P M := ⟨fun j h => by omega, fun i j _ h => by omega⟩
theorem fac_in {n c m : Nat} {P : Nat → List Int} {M : Nat → Nat} {e : List Int} (h : fac n P M) (hc : c ≤ n) (he : fac1 e m) (h1 : ∀ j, j < c → zle 5 (P j) e ∧ P j ≠ e) (h2 : ∀ j, c ≤ j → j < n → zle 5 e (P j) ∧ e ≠ P j) : fac (n + 1) (fins c e P) (fins c m M) := by
  refine ⟨fun j hj => ?_, fun i j hij hj => ?_⟩
  · rcases Nat.lt_trichotomy j c with q | q | q
    · rw [fins_lo q, fins_lo q]; exact h.1 j (by omega)
    · subst q; rw [fins_eq, fins_eq]; exact he
    · rw [fins_hi q, fins_hi q]; exact h.1 (j - 1) (by omega)
  · rcases Nat.lt_trichotomy j c with q | q | q
    · rw [fins_lo q, fins_lo (by omega)]; exact h.2 i j hij (by omega)
    · subst q; rw [fins_eq, fins_lo hij]; exact h1 i hij
    · rw [fins_hi q]
      rcases Nat.lt_trichotomy i c with q2 | q2 | q2
      · rw [fins_lo q2]; exact h.2 i (j - 1) (by omega) (by omega)
      · subst q2; rw [fins_eq]; exact h2 (j - 1) (by omega) (by omega)
      · rw [fins_hi q2]; exact h.2 (i - 1) (j - 1) (by omega) (by omega)
/-- a power -/
def zpw (p : List Int) : Nat → List Int
  | 0 => [1]
  | m + 1 => zmul (zpw p m) p
theorem zev_pw (p : List Int) (x : Int) : ∀ m, zev (zpw p m) x = zev p x ^ m
  | 0 => by simp [zpw, zev]
  | m + 1 => by rw [zpw, zev_mul, zev_pw p x m, Int.pow_succ]
def fpl (P : Nat → List Int) (M : Nat → Nat) : Nat → List Int
  | 0 => [1]
  | n + 1 => zmul (fpl P M n) (zpw (P n) (M n))
theorem zev_fpl (P : Nat → List Int) (M : Nat → Nat) (x : Int) : ∀ n, zev (fpl P M n) x = fpr P M n x
  | 0 => by simp [fpl, fpr, zev]
  | n + 1 => by rw [fpl, fpr, zev_mul, zev_fpl P M x n, zev_pw]
theorem one_top : zlt [1] 1 ∧ 0 < zco [1] 0 := ⟨fun k hk => by
  cases k with
  | zero => omega
  | succ k => rw [zco_s, zco_nil], by decide⟩
theorem zpw_top {p : List Int} {d : Nat} (h : zlt p (d + 1)) (h0 : 0 < zco p d) : ∀ m, zlt (zpw p m) (m * d + 1) ∧ 0 < zco (zpw p m) (m * d)
  | 0 => by rw [Nat.zero_mul]; exact one_top
  | m + 1 => by
    obtain ⟨i1, i2⟩ := zpw_top h h0 m
    have := zmul_top (zpw p m) p (m * d) d i1 h
    rw [Nat.succ_mul, zpw]
    exact ⟨this.1, by rw [this.2]; exact Int.mul_pos i2 h0⟩
def msum (M : Nat → Nat) : Nat → Nat
  | 0 => 0
  | n + 1 => msum M n + M n
theorem zirr_pos {p : List Int} (hi : zirr p) (hp : zpos p) : ∃ d, 1 ≤ d ∧ zlt p (d + 1) ∧ 0 < zco p d := by
  obtain ⟨-, ⟨n, hn, hl, hc⟩, -⟩ := hi
  obtain ⟨m, hm, hm0⟩ := hp
  rcases Nat.lt_trichotomy m n with q | q | q
  · exact absurd (hm n q) hc
  · subst q; exact ⟨m, hn, hm, hm0⟩
  · have := hl m q; omega
theorem fpl_top {P : Nat → List Int} {M : Nat → Nat} : ∀ n, (∀ j, j < n → fac1 (P j) (M j)) → ∃ a, n ≤ msum M n ∧ msum M n ≤ a ∧ zlt (fpl P M n) (a + 1) ∧ 0 < zco (fpl P M n) a
  | 0, _ => ⟨0, Nat.le_refl _, Nat.le_refl _, one_top⟩
  | n + 1, h => by
    obtain ⟨a, h1, h2, h3, h4⟩ := fpl_top n (fun j hj => h j (by omega))
    obtain ⟨k1, k2, k3, k4⟩ := h n (by omega)
    obtain ⟨d, hd, hl, hc⟩ := zirr_pos k2 k3
    obtain ⟨t1, t2⟩ := zpw_top hl hc (M n)
    have := zmul_top (fpl P M n) (zpw (P n) (M n)) a (M n * d) h3 t1
    refine ⟨a + M n * d, by rw [msum]; omega, ?_, this.1, by rw [fpl, this.2]; exact Int.mul_pos h4 t2⟩
    have : M n * 1 ≤ M n * d := Nat.mul_le_mul_left _ hd
    rw [msum]; omega
/-- how many there can be -/
theorem fac_few {P : Nat → List Int} {M : Nat → Nat} {n g : Nat} {G R : List Int} (h : ∀ j, j < n → fac1 (P j) (M j)) (hg : zlt G (g + 1)) (hg0 : zco G g ≠ 0) (he : ∀ x, zev G x = fpr P M n x * zev R x) : ∃ r, n ≤ msum M n ∧ msum M n + r ≤ g ∧ zlt R (r + 1) ∧ zco R r ≠ 0 := by
  obtain ⟨a, h1, h2, h3, h4⟩ := fpl_top n h
  obtain ⟨u, v, huv, hu, hv, hu0, hv0, -⟩ := zdeg_mul (p := G) (u := fpl P M n) (v := R) (fun x => by rw [zev_fpl]; exact he x) hg hg0
  have : a = u := by
    rcases Nat.lt_trichotomy a u with q | q | q
    · exact absurd (h3 u q) hu0
    · exact q
    · have := hu a q; omega
  exact ⟨v, h1, by omega, hv, hv0⟩
/-- uniqueness -/
def fx : List (List Int × Nat) → List (List Int)
  | [] => []
  | e :: l => List.replicate e.2 e.1 ++ fx l
theorem fx_mem : ∀ (l : List (List Int × Nat)) (p : List Int), p ∈ fx l → ∃ e ∈ l, e.1 = p
  | [], p, h => by cases h
  | e :: l, p, h => by
    rcases List.mem_append.mp h with h | h
    · exact ⟨e, List.mem_cons_self, (List.eq_of_mem_replicate h).symm⟩
    · obtain ⟨e', h1, h2⟩ := fx_mem l p h
      exact ⟨e', List.mem_cons_of_mem _ h1, h2⟩
theorem fx_app : ∀ (l l' : List (List Int × Nat)), fx (l ++ l') = fx l ++ fx l'
  | [], _ => rfl
  | e :: l, l' => by simp [fx, fx_app l l']
theorem zprod_app : ∀ (l l' : List (List Int)) (x : Int), zev (zprod (l ++ l')) x = zev (zprod l) x * zev (zprod l') x
  | [], l', x => by simp [zprod, zev]
  | p :: l, l', x => by
    show zev (zprod (p :: (l ++ l'))) x = _
    rw [zprod, zprod, zev_mul, zev_mul, zprod_app l l' x, Int.mul_assoc]
theorem zprod_rep (p : List Int) (x : Int) : ∀ m, zev (zprod (List.replicate m p)) x = zev p x ^ m
  | 0 => by simp [zprod, zev]
  | m + 1 => by rw [List.replicate_succ, zprod, zev_mul, zprod_rep p x m, Int.pow_succ, Int.mul_comm]
def fl (P : Nat → List Int) (M : Nat → Nat) (n : Nat) : List (List Int × Nat) := (List.range n).map (fun j => (P j, M j))
theorem fl_ev (P : Nat → List Int) (M : Nat → Nat) (x : Int) : ∀ n, zev (zprod (fx (fl P M n))) x = fpr P M n x
  | 0 => by simp [fl, fx, zprod, zev, fpr]
  | n + 1 => by
    have e : fl P M (n + 1) = fl P M n ++ [(P n, M n)] := by simp [fl, List.range_succ]
    rw [e, fx_app, zprod_app, fl_ev P M x n, fpr]
    simp [fx, zprod_rep]
theorem fx_sorted : ∀ l : List (List Int × Nat), l.Pairwise (fun a b => zle 5 a.1 b.1 ∧ a.1 ≠ b.1) → zsorted (fx l)
  | [], _ => trivial
  | e :: l, h => by
    rw [List.pairwise_cons] at h
    have h1 := fx_sorted l h.2
    have h2 : ∀ q ∈ fx l, zle 5 e.1 q := fun q hq => by
      obtain ⟨e', h3, h4⟩ := fx_mem l q hq
      rw [← h4]; exact (h.1 e' h3).1
    show zsorted (List.replicate e.2 e.1 ++ fx l)
    generalize e.2 = m
    induction m with
    | zero => simpa using h1
    | succ m ih =>
      rw [List.replicate_succ]
      refine ⟨fun q hq => ?_, ih⟩
      rcases List.mem_append.mp hq with h3 | h3
      · rw [List.eq_of_mem_replicate h3]; exact zle_refl 5 _
      · exact h2 q h3
theorem rep_inj {p : List Int} {R R' : List (List Int)} (h : p ∉ R) (h' : p ∉ R') : ∀ a b, List.replicate a p ++ R = List.replicate b p ++ R' → a = b ∧ R = R'
  | 0, 0, e => ⟨rfl, by simpa using e⟩
  | 0, b + 1, e => by
    rw [List.replicate_succ] at e
    exact absurd (by rw [List.replicate_zero, List.nil_append] at e; rw [e]; exact List.mem_cons_self) h
  | a + 1, 0, e => by
    rw [List.replicate_succ] at e
    exact absurd (by rw [List.replicate_zero, List.nil_append] at e; rw [← e]; exact List.mem_cons_self) h'
  | a + 1, b + 1, e => by
    rw [List.replicate_succ, List.replicate_succ] at e
    have e2 := (List.cons.inj e).2
    obtain ⟨h1, h2⟩ := rep_inj h h' a b e2
    exact ⟨by omega, h2⟩
theorem fx_inj : ∀ (l l' : List (List Int × Nat)), (∀ e ∈ l, 1 ≤ e.2) → (∀ e ∈ l', 1 ≤ e.2) → l.Pairwise (fun a b => zle 5 a.1 b.1 ∧ a.1 ≠ b.1) → l'.Pairwise (fun a b => zle 5 a.1 b.1 ∧ a.1 ≠ b.1) → fx l = fx l' → l = l'
  | [], [], _, _, _, _, _ => rfl
  | [], e :: l', _, h', _, _, he => by
    obtain ⟨m, hm⟩ : ∃ m, e.2 = m + 1 := ⟨e.2 - 1, by have := h' e List.mem_cons_self; omega⟩
    rw [fx, fx, hm, List.replicate_succ] at he
    cases he
  | e :: l, [], h, _, _, _, he => by
    obtain ⟨m, hm⟩ : ∃ m, e.2 = m + 1 := ⟨e.2 - 1, by have := h e List.mem_cons_self; omega⟩
    rw [fx, fx, hm, List.replicate_succ] at he
    cases he
  | e :: l, e' :: l', h, h', p, p', he => by
    rw [List.pairwise_cons] at p p'
    have n1 : e.1 ∉ fx l := fun hq => by
      obtain ⟨e2, h3, h4⟩ := fx_mem l _ hq
      exact (p.1 e2 h3).2 h4.symm
    have n2 : e'.1 ∉ fx l' := fun hq => by
      obtain ⟨e2, h3, h4⟩ := fx_mem l' _ hq
      exact (p'.1 e2 h3).2 h4.symm
    have hh : e.1 = e'.1 := by
      obtain ⟨m, hm⟩ : ∃ m, e.2 = m + 1 := ⟨e.2 - 1, by have := h e List.mem_cons_self; omega⟩
      obtain ⟨m', hm'⟩ : ∃ m, e'.2 = m + 1 := ⟨e'.2 - 1, by have := h' e' List.mem_cons_self; omega⟩
      rw [fx, fx, hm, hm', List.replicate_succ, List.replicate_succ] at he
      exact (List.cons.inj he).1
    rw [fx, fx, ← hh] at he
    obtain ⟨a1, a2⟩ := rep_inj n1 (by rw [hh]; exact n2) _ _ he
    rw [fx_inj l l' (fun e q => h e (List.mem_cons_of_mem _ q)) (fun e q => h' e (List.mem_cons_of_mem _ q)) p.2 p'.2 a2]
    congr 1
    exact Prod.ext hh a1
theorem fl_pw {n : Nat} {P : Nat → List Int} {M : Nat → Nat} (h : fac n P M) : (fl P M n).Pairwise (fun a b => zle 5 a.1 b.1 ∧ a.1 ≠ b.1) := by
  rw [fl, List.pairwise_map]
  have := List.pairwise_lt_range (n := n)
  refine List.Pairwise.imp_of_mem (fun {a b} ha hb hab => ?_) this
  exact h.2 a b hab (List.mem_range.mp hb)
theorem fl_mem {n : Nat} {P : Nat → List Int} {M : Nat → Nat} {e : List Int × Nat} (h : e ∈ fl P M n) : ∃ j, j < n ∧ e = (P j, M j) := by
  obtain ⟨j, h1, h2⟩ := List.mem_map.mp h
  exact ⟨j, List.mem_range.mp h1, h2.symm⟩
theorem fac_uniq {n n' : Nat} {P P' : Nat → List Int} {M M' : Nat → Nat} (h : fac n P M) (h' : fac n' P' M') (he : ∀ x, fpr P M n x = fpr P' M' n' x) : n = n' ∧ ∀ j, j < n → P j = P' j ∧ M j = M' j := by
  have zf : ∀ {n : Nat} {P : Nat → List Int} {M : Nat → Nat}, fac n P M → zfl (fx (fl P M n)) := fun {n P M} h => ⟨fun p hp => by
    obtain ⟨e, h1, h2⟩ := fx_mem _ p hp
    obtain ⟨j, h3, h4⟩ := fl_mem h1
    obtain ⟨k1, k2, k3, k4⟩ := h.1 j h3
    rw [← h2, h4]; exact ⟨k2, k3, k4⟩, fx_sorted _ (fl_pw h)⟩
  have hl := zuniq _ _ (zf h) (zf h') (fun x => by rw [fl_ev, fl_ev, he x])
  have one : ∀ {n : Nat} {P : Nat → List Int} {M : Nat → Nat}, fac n P M → ∀ e ∈ fl P M n, 1 ≤ e.2 := fun {n P M} h e hm => by
    obtain ⟨j, h3, h4⟩ := fl_mem hm
    rw [h4]; exact (h.1 j h3).1
  have hf := fx_inj _ _ (one h) (one h') (fl_pw h) (fl_pw h') hl
  have hn : n = n' := by
    have := congrArg List.length hf
    simpa [fl] using this
  subst hn
  refine ⟨rfl, fun j hj => ?_⟩
  have := congrArg (fun l => l[j]?) hf
  simp [fl, hj] at this
  exact this
/-- THE factors of a primitive polynomial -/
def isF (G : List Int) (n : Nat) (P : Nat → List Int) (M : Nat → Nat) : Prop := fac n P M ∧ ∀ x, zev G x = fpr P M n x
noncomputable def facs (G : List Int) : Nat × (Nat → List Int) × (Nat → Nat) := Classical.epsilon (fun q : Nat × (Nat → List Int) × (Nat → Nat) => isF G q.1 q.2.1 q.2.2)
noncomputable def fN (G : List Int) : Nat := (facs G).1
noncomputable def fP (G : List Int) : Nat → List Int := (facs G).2.1
noncomputable def fM (G : List Int) : Nat → Nat := (facs G).2.2
theorem isF_the {G : List Int} {n : Nat} {P : Nat → List Int} {M : Nat → Nat} (h : isF G n P M) : isF G (fN G) (fP G) (fM G) ∧ n = fN G ∧ ∀ j, j < n → P j = fP G j ∧ M j = fM G j := by
  have h2 : isF G (fN G) (fP G) (fM G) := Classical.epsilon_spec (p := fun q : Nat × (Nat → List Int) × (Nat → Nat) => isF G q.1 q.2.1 q.2.2) ⟨(n, P, M), h⟩
  exact ⟨h2, fac_uniq h.1 h2.1 (fun x => by rw [← h.2 x, h2.2 x])⟩
