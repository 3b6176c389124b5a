/-! BY PRIMES: the class splits; its counts -/
variable {S : List mjD} {I : Nat → Nat → Int32} {L : Nat → Nat → Int64}
theorem spx_ok {pr : Nat} {r : Nat → Int} {t t' n : Nat} (h : spx pr r t = some (t', n)) : t' + 2 * n = t ∧ n ≤ 1 ∧ (n = 1 → 2 ≤ t') := by
  unfold spx at h
  by_cases c : t < 4
  · rw [if_pos c] at h
    cases h
    omega
  · rw [if_neg c] at h
    cases e : fqi pr r t (pr * pr) 0 with
    | none =>
      rw [e] at h
      cases h
      omega
    | some k =>
      rw [e] at h
      simp only at h
      by_cases c2 : dvk pr (qtk pr r t k) (t - 2) k = true
      · rw [if_pos c2] at h; cases h
      · rw [if_neg c2] at h
        cases h
        omega
def lsx (q : Nat × Nat) : List Nat := List.replicate q.2 2 ++ if q.1 = 0 then [] else [q.1]
theorem spq_spx {pr : Nat} {r : Nat → Int} {t : Nat} : spq pr r t = (spx pr r t).map lsx := by
  unfold spq spx
  by_cases c : t < 4
  · rw [if_pos c, if_pos c]
    rfl
  · rw [if_neg c, if_neg c]
    cases e : fqi pr r t (pr * pr) 0 with
    | none =>
      show some [t] = some (lsx (t, 0))
      unfold lsx
      rw [if_neg (show ¬ (t, 0).1 = 0 by show ¬ t = 0; omega)]
      rfl
    | some k =>
      simp only
      by_cases c2 : dvk pr (qtk pr r t k) (t - 2) k = true
      · rw [if_pos c2, if_pos c2]; rfl
      · rw [if_neg c2, if_neg c2]
        show some [2, t - 2] = some (lsx (t - 2, 1))
        unfold lsx
        rw [if_neg (show ¬ (t - 2, 1).1 = 0 by show ¬ t - 2 = 0; omega)]
        rfl
def fml : List (List Nat) := [[], [1], [2], [3], [4], [5], [2, 2], [2, 3]]
def okl (n1 : Nat) (ls : List Nat) : Prop := n1 ≤ 5 ∧ ls ∈ fml
def cls (n1 : Nat) (ls : List Nat) (d : Nat) : Nat := (if d = 1 then n1 else 0) + ls.count d
theorem lsx_fml0 : ∀ t, t < 6 → ∀ n, n < 2 → (5 < t + 2 * n ∨ (n = 1 ∧ t < 2) ∨ lsx (t, n) ∈ fml) := by decide +kernel
theorem lsx_fml (t : Nat) (ht : t < 6) (n : Nat) (hn : n < 2) (h1 : t + 2 * n ≤ 5) (h2 : n = 1 → 2 ≤ t) : lsx (t, n) ∈ fml := by
  rcases lsx_fml0 t ht n hn with h | h | h
  · omega
  · have := h2 h.1; omega
  · exact h
theorem lsx_cnt : ∀ t, t < 6 → ∀ n, n < 2 → ∀ d, d < 6 → (lsx (t, n)).count d = (if d = 2 then n else 0) + (if t ≠ 0 ∧ d = t then 1 else 0) := by decide +kernel
section
variable {p q pr : Nat}
theorem rem_0 {a b : Int64} (ha : -2 ^ 63 < a.toInt) (hb : 0 < b.toInt) : (a - a / b * b) = 0 ↔ a.toInt % b.toInt = 0 := by
  have hr := t_rem (y := a) (x := b) ha
  have key := Int.tmod_eq_emod (a := a.toInt) (b := b.toInt)
  have n1 := Int.emod_nonneg a.toInt (show b.toInt ≠ 0 by omega)
  have n2 := Int.emod_lt_of_pos a.toInt hb
  constructor
  · intro z
    have e0 : a.toInt.tmod b.toInt = 0 := by rw [← hr, z]; rfl
    by_cases d : 0 ≤ a.toInt ∨ b.toInt ∣ a.toInt
    · rw [if_pos d] at key; omega
    · rw [if_neg d] at key; omega
  · intro z
    have d : b.toInt ∣ a.toInt := Int.dvd_of_emod_eq_zero z
    rw [if_pos (Or.inr d)] at key
    exact t_eq0 (by rw [hr]; omega)
theorem x_rests {t : Nat} {W : Nat → Int64} (hp : is_Parts S p) (hq : is_Poly S q) (hpr : 2 ≤ pr ∧ pr ≤ 13) (hb : bnd6 W 999) (hd : deg6 W t) (hqp : q + 1 ≠ p + 1) : ∀ w k (L' : Nat → Nat → Int64), k + w = 8 → (∀ j, j < 6 → L' (q + 1) j = W j) → (∀ j, j < k → (L' (p + 1) j).toInt = if j ≤ t then (W j).toInt % (pr : Int) else 0) →
    ∃ L1, (∀ RET : Option Value → mjH → Prop, hd_X4_split_76 S RET p (0 : Int32) I L1 → hd_X4_split_46 S RET p q (nI pr) (nI k) I L') ∧ (∀ a, a ≠ p + 1 → L1 a = L' a) ∧ ∀ j, j < 8 → (L1 (p + 1) j).toInt = if j ≤ t then (W j).toInt % (pr : Int) else 0 := by
  intro w
  induction w with
  | zero =>
    intro k L' hk hW h1
    exact ⟨L', fun RET h => it_X4_split_46 hp hq ⟨fun _ => h, fun q => absurd ((nI_leI (a := 8) (by decide) (by omega)).mpr (by omega)) q⟩, fun _ _ => rfl, fun j hj => h1 j (by omega)⟩
  | succ w ih =>
    intro k L' hk hW h1
    have pz : ((nI pr).toInt64).toInt = pr := nI_i64 (by omega)
    have ha := s_at (S := S) (I := I) (L := L') hq (nI k)
    have hv : (pat (L' (q + 1)) (nI k)).toInt = if k < 6 then (W k).toInt else 0 := by
      by_cases c : k < 6
      · rw [if_pos c, pat_n c, hW k c]
      · rw [if_neg c, pat_hi (by omega) (by omega)]; rfl
    have hvb : -2 ^ 63 < (pat (L' (q + 1)) (nI k)).toInt := by
      rw [hv]
      by_cases c : k < 6
      · rw [if_pos c]; have := hb k c; omega
      · rw [if_neg c]; decide
    obtain ⟨y, f1, f2⟩ := j_floorMod (S := S) (I := I) (L := L') (a := pat (L' (q + 1)) (nI k)) (b := (nI pr).toInt64) (by rw [pz]; omega) hvb
    have hy : y.toInt = if k ≤ t then (W k).toInt % (pr : Int) else 0 := by
      rw [f2, pz, hv]
      by_cases c : k ≤ t
      · rw [if_pos c, if_pos (by have := hd.1; omega)]
      · rw [if_neg c]
        by_cases c2 : k < 6
        · rw [if_pos c2, hd.2.2 k (by omega) c2]; exact Int.zero_emod _
        · rw [if_neg c2]; exact Int.zero_emod _
    obtain ⟨L1, g1, g2, g3⟩ := ih (k + 1) (mj_up L' (p + 1) k y) (by omega) (fun j hj => by rw [up_ne hqp]; exact hW j hj) (fun j hj => by
      by_cases e : j = k
      · rw [e, up_eq]; exact hy
      · rw [up_nk e]; exact h1 j (by omega))
    refine ⟨L1, fun RET h => it_X4_split_46 hp hq (ge_f (k := 8) (i := k) (by omega) (by decide) ⟨_, _, _, ha, _, _, _, f1, vp_in_nI (by omega) (by decide), fun y2 hy2 => ?_⟩), fun a ha2 => (g2 a ha2).trans (up_ne ha2), g3⟩
    rw [hy2, nI_1, nI_clamp (by omega)]
    exact g1 RET h
theorem x_split {t : Nat} {W : Nat → Int64} (hp : is_Parts S p) (hq : is_Poly S q) (hpr : 2 ≤ pr ∧ pr ≤ 13) (hb : bnd6 W 999) (hd : deg6 W t) (hW : ∀ j, j < 6 → L (q + 1) j = W j) (hqp : ¬ pX p (q + 1)) :
    ∃ I1 L1 v, CTi mr_X4_split [.ref p, .ref q, .int (nI pr)] S I L v I1 L1 ∧ fr (pX p) I L I1 L1 ∧ ((sps pr (fun k => (W k).toInt) t = none ∧ v = 0) ∨ ∃ n1 ls, sps pr (fun k => (W k).toInt) t = some (n1, ls) ∧ v = 1 ∧ okl n1 ls ∧ cntR p (cls n1 ls) I1) := by
  have t6 := hd.1
  have pz : ((nI pr).toInt64).toInt = pr := nI_i64 (by omega)
  have hdg : dg (L (q + 1)) = nI t := by rw [dg_ext hW]; exact deg6_dg hd
  have hde := s_degree (S := S) (I := I) (L := L) hq
  rw [hdg] at hde
  obtain ⟨I0, hI0⟩ : ∃ I0, I0 = mj_up (mj_up I p 3 (nI t)) p 4 (nI pr) := ⟨_, rfl⟩
  have i3 : I0 p 3 = nI t := by rw [hI0, up_nk (by decide), up_eq]
  have i4 : I0 p 4 = nI pr := by rw [hI0, up_eq]
  have f0 : fr (pX p) I L I0 L := by
    rw [hI0]
    exact fr_tr (fr_I (X := pX p) (by unfold pX; omega)) (fr_I (X := pX p) (by unfold pX; omega)) (fun b z => z.elim id id)
  have z2 : ¬ nI pr < (2 : Int32) := fun q => by have := (nI_ltI (b := 2) (by omega) (by decide)).mp q; omega
  have e1 : nI t < (1 : Int32) ↔ t < 1 := nI_ltI (b := 1) (by omega) (by decide)
  by_cases c1 : t < 1
  · refine ⟨I0, L, 0, wp_X4_split hp hq ⟨_, _, _, hde, ?_⟩, f0, Or.inl ⟨by unfold sps; rw [if_pos c1], rfl⟩⟩
    rw [← hI0, i3]
    exact ⟨fun q => absurd q z2, fun _ => ⟨fun _ => ⟨rfl, rfl⟩, fun q => absurd (e1.mpr c1) q⟩⟩
  · have hat := s_at (S := S) (I := I0) (L := L) hq (nI t)
    rw [pat_n t6, hW t t6] at hat
    have p0 : ¬ (nI pr).toInt64 = 0 := fun z => by rw [z] at pz; have z0 : (0 : Int64).toInt = 0 := rfl; omega
    have hbt := hb t t6
    have hrem : (W t - W t / (nI pr).toInt64 * (nI pr).toInt64) = 0 ↔ (W t).toInt % (pr : Int) = 0 := by
      have := rem_0 (a := W t) (b := (nI pr).toInt64) (by omega) (by rw [pz]; omega)
      rw [pz] at this; exact this
    by_cases c2 : (W t).toInt % (pr : Int) = 0
    · refine ⟨I0, L, 0, wp_X4_split hp hq ⟨_, _, _, hde, ?_⟩, f0, Or.inl ⟨by unfold sps; rw [if_neg c1, if_pos c2], rfl⟩⟩
      rw [← hI0, i3]
      exact ⟨fun q => absurd q z2, fun _ => ⟨fun q => absurd (e1.mp q) c1, fun _ => ⟨_, _, _, hat, p0, fun q => absurd (hrem.mpr c2) q, fun _ => ⟨rfl, rfl⟩⟩⟩⟩
    · obtain ⟨L1, g1, g2, g3⟩ := x_rests (S := S) (I := I0) hp hq hpr hb hd (by unfold pX at hqp; omega) 8 0 L rfl hW (fun j hj => absurd hj (Nat.not_lt_zero j))
      have fL : fr (pX p) I0 L I0 L1 := fun a ha => ⟨rfl, g2 a (fun e => ha (by unfold pX; omega))⟩
      obtain ⟨I2, hI2⟩ : ∃ I2, I2 = mwn I0 (p + 3) 6 (fun _ => (0 : Int32)) := ⟨_, rfl⟩
      have f2 : fr (pX p) I0 L1 I2 L1 := fun a ha => ⟨by rw [hI2, mwn_ne (fun e => ha (by unfold pX; omega))], rfl⟩
      obtain ⟨r, hr⟩ : ∃ r : Nat → Int, r = fun k => if k ≤ t then (W k).toInt % (pr : Int) else 0 := ⟨_, rfl⟩
      have rr : rsd pr r t := by
        refine ⟨fun k => ?_, fun k hk => ?_, ?_⟩
        · rw [hr]
          show 0 ≤ (if k ≤ t then (W k).toInt % (pr : Int) else 0) ∧ (if k ≤ t then (W k).toInt % (pr : Int) else 0) < (pr : Int)
          by_cases c : k ≤ t
          · rw [if_pos c]; exact ⟨Int.emod_nonneg _ (by omega), Int.emod_lt_of_pos _ (by omega)⟩
          · rw [if_neg c]; omega
        · rw [hr]; exact if_neg (by omega)
        · rw [hr]
          show (if t ≤ t then (W t).toInt % (pr : Int) else 0) ≠ 0
          rw [if_pos (Nat.le_refl _)]; exact c2
      have px : pxR p pr t r I2 L1 := ⟨by rw [hI2, mwn_ne (by omega)]; exact i3, by rw [hI2, mwn_ne (by omega)]; exact i4, fun k hk => by rw [g3 k (by omega), hr]⟩
      have hC : cntR p (fun _ => 0) I2 := fun d hd2 => by rw [hI2, mwn_at hd2]; rfl
      obtain ⟨I3, L3, v3, l1, l2, l3⟩ := x_takeLinear (S := S) hp hpr px (by omega) rr hC
      have f3 : fr (pX p) I L I3 L3 := fr_tr (fr_tr (fr_tr f0 fL (fun b z => z.elim id id)) f2 (fun b z => z.elim id id)) l2 (fun b z => z.elim id id)
      have loop : ∀ RET : Option Value → mjH → Prop, hd_X4_split_76 S RET p (nI 6) I2 L1 → CT mr_X4_split (0, 0) [.ref p, .ref q, .int (nI pr)] (S, I, L) RET := fun RET h6 => by
        have key := up_loop (P := fun i => hd_X4_split_76 S RET p (nI i) (mwn I0 (p + 3) i (fun _ => (0 : Int32))) L1) 6 (by rw [← hI2]; exact h6) (fun i hi ih => it_X4_split_76 hp ⟨fun q => absurd ((nI_ltI (a := 5) (by decide) (by omega)).mp q) (by omega), fun _ => ⟨vp_in_nI hi (by decide), fun y hy => by
          rw [hy, nI_1, nI_clamp (by omega), mwn_s _ _ _ (fun _ => (0 : Int32)) _ rfl]; exact ih⟩⟩) 0 (Nat.zero_le _)
        rw [mwn_0] at key
        refine wp_X4_split hp hq ⟨_, _, _, hde, ?_⟩
        rw [← hI0, i3]
        exact ⟨fun q => absurd q z2, fun _ => ⟨fun q => absurd (e1.mp q) c1, fun _ => ⟨_, _, _, hat, p0, fun _ => g1 RET key, fun q => absurd (hrem.mp q) c2⟩⟩⟩
      have five : (5 : Int32) < nI 6 := by decide
      have es : sps pr (fun k => (W k).toInt) t = match spl pr pr 0 0 r t with
          | none => none
          | some (n1, t', r') => (spq pr r' t').map (fun ls => (n1, ls)) := by
        unfold sps
        rw [if_neg c1, if_neg c2, ← hr]
        rfl
      rcases l3 with ⟨l4, l5⟩ | ⟨n, t1, r1, l4, l5, l6, l7⟩
      · refine ⟨I3, L3, 0, loop _ (it_X4_split_76 hp ⟨fun _ => ⟨_, _, _, l1, fun _ => ⟨rfl, rfl⟩, fun q => absurd l5 q⟩, fun q => absurd five q⟩), f3, Or.inl ⟨?_, rfl⟩⟩
        rw [es, l4]
      · obtain ⟨o1, o2, o3⟩ := spl_ok pr 0 0 r t rr (fun e he => absurd he (Nat.not_lt_zero e)) n t1 r1 l4
        obtain ⟨I4, L4, v4, m1, m2, m3⟩ := x_takeQuadratic (S := S) hp hpr l6 (by omega) o1 l7
        have f4 : fr (pX p) I L I4 L4 := fr_tr f3 m2 (fun b z => z.elim id id)
        have nv3 : ¬ v3 = 0 := by rw [l5]; decide
        rcases m3 with ⟨m4, m5⟩ | ⟨t2, n2, m4, m5, m6, m7, m8⟩
        · refine ⟨I4, L4, 0, loop _ (it_X4_split_76 hp ⟨fun _ => ⟨_, _, _, l1, fun q => absurd q nv3, fun _ => ⟨_, _, _, m1, fun q => absurd m5 q, fun _ => ⟨rfl, rfl⟩⟩⟩, fun q => absurd five q⟩), f4, Or.inl ⟨?_, rfl⟩⟩
          rw [es, l4]
          simp only
          rw [spq_spx, m4]; rfl
        · obtain ⟨k1, k2, k3⟩ := spx_ok m4
          have nv4 : ¬ v4 = 0 := by rw [m5]; decide
          have hs : sps pr (fun k => (W k).toInt) t = some (n, lsx (t2, n2)) := by
            rw [es, l4]
            simp only
            rw [spq_spx, m4]; rfl
          have hok : okl n (lsx (t2, n2)) := ⟨by omega, lsx_fml t2 (by omega) n2 (by omega) (by omega) k3⟩
          have lt1 : nI t2 < (1 : Int32) ↔ t2 < 1 := nI_ltI (b := 1) (by omega) (by decide)
          have gt5 : (5 : Int32) < nI t2 ↔ 5 < t2 := nI_ltI (a := 5) (by decide) (by omega)
          by_cases ct : t2 < 1
          · refine ⟨I4, L4, 1, loop _ (it_X4_split_76 hp ⟨fun _ => ⟨_, _, _, l1, fun q => absurd q nv3, fun _ => ⟨_, _, _, m1, fun _ => ⟨fun _ => ⟨rfl, rfl⟩, fun q => absurd (by rw [m7]; exact lt1.mpr ct) q⟩, fun q => absurd q nv4⟩⟩, fun q => absurd five q⟩), f4, Or.inr ⟨n, _, hs, rfl, hok, fun d hd2 => ?_⟩⟩
            rw [m8 d hd2]
            unfold cls
            rw [lsx_cnt t2 (by omega) n2 (by omega) d hd2]
            show nI (if d = 2 then (if 2 = 1 then n else 0) + n2 else (if d = 1 then n else 0)) = _
            rw [if_neg (show ¬ 2 = 1 by decide)]
            congr 1
            (repeat' split) <;> omega
          · have e4 : (nI t2).toNatClampNeg = t2 := nI_clamp (by omega)
            refine ⟨mj_up I4 (p + 3) t2 (I4 (p + 3) t2 + 1), L4, 1, loop _ (it_X4_split_76 hp ⟨fun _ => ⟨_, _, _, l1, fun q => absurd q nv3, fun _ => ⟨_, _, _, m1, fun _ => ⟨fun q => absurd (by rw [m7] at q; exact lt1.mp q) ct, fun _ => ⟨fun q => absurd (by rw [m7] at q; exact gt5.mp q) (by omega), fun _ => ?_⟩⟩, fun q => absurd q nv4⟩⟩, fun q => absurd five q⟩), fr_tr f4 (fr_I (X := pX p) (by unfold pX; omega)) (fun b z => z.elim id id), Or.inr ⟨n, _, hs, rfl, hok, fun d hd2 => ?_⟩⟩
            · rw [m7, e4]
              exact ⟨vp_in_nI (by omega) (by decide), vp_in_nI (by omega) (by decide), rfl, rfl⟩
            · have hu := cnt_up m8 (show t2 < 6 by omega) d hd2
              rw [hu]
              show nI (if d = t2 then (if t2 = 2 then (if 2 = 1 then n else 0) + n2 else (if t2 = 1 then n else 0)) + 1 else (if d = 2 then (if 2 = 1 then n else 0) + n2 else (if d = 1 then n else 0))) = nI ((if d = 1 then n else 0) + (lsx (t2, n2)).count d)
              rw [lsx_cnt t2 (by omega) n2 (by omega) d hd2, if_neg (show ¬ 2 = 1 by decide)]
              congr 1
              (repeat' split) <;> omega
end
