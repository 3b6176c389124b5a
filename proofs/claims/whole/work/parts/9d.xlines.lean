/-! BY PRIMES: the class takes out the lines, then one of degree 2 -/
variable {S : List mjD} {I : Nat → Nat → Int32} {L : Nat → Nat → Int64}
/-- the class's counts -/
def cntR (p : Nat) (C : Nat → Nat) (I : Nat → Nat → Int32) : Prop := ∀ d, d < 6 → I (p + 3) d = nI (C d)
theorem idx_div {b c p : Nat} (h : c < p) : (b * p + c) / p = b := by
  rw [Nat.add_comm, Nat.add_mul_div_right _ _ (by omega), Nat.div_eq_of_lt h, Nat.zero_add]
theorem idx_mod {b c p : Nat} (h : c < p) : (b * p + c) % p = c := by
  rw [Nat.add_comm, Nat.add_mul_mod_self_right, Nat.mod_eq_of_lt h]
section
variable {p pr : Nat}
theorem x_div1 {c t : Nat} {r : Nat → Int} (hp : is_Parts S p) (h : pxR p pr t r I L) (hpr : 2 ≤ pr ∧ pr ≤ 13) (ht : t ≤ 5) (hr : rsd pr r t) (hc : c < pr) :
    ∃ I1 L1, CTi mr_X4_divide [.ref p, .int (1 : Int32), .int (nI c), .int (0 : Int32)] S I L (if dv1 pr c r t then 1 else 0) I1 L1 ∧ fr (pX p) I L I1 L1 ∧ I1 (p + 3) = I (p + 3) ∧ (dv1 pr c r t = true → pxR p pr (t - 1) (qt1 pr c r t) I1 L1) ∧ (dv1 pr c r t = false → pxR p pr t r I1 L1) := by
  have e : dvX pr 1 c ((0 : Nat) : Int) r t = dv1 pr c r t := dvX_1
  obtain ⟨I1, L1, a1, a2, a3, a4, a5⟩ := x_divide (S := S) (I := I) (L := L) (d := 1) (b := c) (c := 0) hp h hpr ht hr (Or.inl rfl) hc (by omega)
  rw [e] at a1 a4 a5
  exact ⟨I1, L1, a1, a2, a3, a4, a5⟩
theorem x_div2 {b c t : Nat} {r : Nat → Int} (hp : is_Parts S p) (h : pxR p pr t r I L) (hpr : 2 ≤ pr ∧ pr ≤ 13) (ht : t ≤ 5) (hr : rsd pr r t) (hb : b < pr) (hc : c < pr) :
    ∃ I1 L1, CTi mr_X4_divide [.ref p, .int (2 : Int32), .int (nI b), .int (nI c)] S I L (if dv2 pr b c r t then 1 else 0) I1 L1 ∧ fr (pX p) I L I1 L1 ∧ I1 (p + 3) = I (p + 3) ∧ (dv2 pr b c r t = true → pxR p pr (t - 2) (qt2 pr b c r t) I1 L1) ∧ (dv2 pr b c r t = false → pxR p pr t r I1 L1) := by
  have e : dvX pr 2 b c r t = dv2 pr b c r t := dvX_2
  obtain ⟨I1, L1, a1, a2, a3, a4, a5⟩ := x_divide (S := S) (I := I) (L := L) (d := 2) (b := b) (c := c) hp h hpr ht hr (Or.inr rfl) hb hc
  rw [e] at a1 a4 a5
  exact ⟨I1, L1, a1, a2, a3, a4, a5⟩
theorem pxR_cnt {t : Nat} {r : Nat → Int} {k : Nat} {x : Int32} (h : pxR p pr t r I L) : pxR p pr t r (mj_up I (p + 3) k x) L := ⟨by rw [up_ne (by omega)]; exact h.1, by rw [up_ne (by omega)]; exact h.2.1, h.2.2⟩
theorem cnt_up {C : Nat → Nat} {d : Nat} (h : cntR p C I) (hd : d < 6) : cntR p (fun k => if k = d then C d + 1 else C k) (mj_up I (p + 3) d (I (p + 3) d + 1)) := fun k hk => by
  show _ = nI (if k = d then C d + 1 else C k)
  by_cases e : k = d
  · rw [if_pos e, e, up_eq, h d hd, nI_1]
  · rw [if_neg e, up_nk e]; exact h k hk
theorem cnt_eq {C : Nat → Nat} {I1 : Nat → Nat → Int32} (h : cntR p C I) (e : I1 (p + 3) = I (p + 3)) : cntR p C I1 := fun k hk => by rw [e]; exact h k hk
theorem x_lines (hp : is_Parts S p) (hpr : 2 ≤ pr ∧ pr ≤ 13) : ∀ k c (C : Nat → Nat) (r : Nat → Int) (t : Nat) (I : Nat → Nat → Int32) (L : Nat → Nat → Int64), c + k = pr → pxR p pr t r I L → t ≤ 5 → rsd pr r t → cntR p C I →
    ∃ I1 L1 v, hd_X4_takeLinear_2 S (fun w h => w = some (.int v) ∧ h = (S, I1, L1)) p (nI c) I L ∧ fr (pX p) I L I1 L1 ∧ ((spl pr k c (C 1) r t = none ∧ v = 0) ∨ ∃ n t' r', spl pr k c (C 1) r t = some (n, t', r') ∧ v = 1 ∧ pxR p pr t' r' I1 L1 ∧ cntR p (fun d => if d = 1 then n else C d) I1) := by
  intro k
  induction k with
  | zero =>
    intro c C r t I L hc h ht hr hC
    refine ⟨I, L, 1, it_X4_takeLinear_2 hp ?_, fr_rf, Or.inr ⟨C 1, t, r, rfl, rfl, h, fun d hd => ?_⟩⟩
    · rw [h.2.1]
      exact ge_t (by omega) (by omega) ⟨rfl, rfl⟩
    · show _ = nI (if d = 1 then C 1 else C d)
      rw [hC d hd]
      by_cases e : d = 1
      · rw [if_pos e, e]
      · rw [if_neg e]
  | succ k ih =>
    intro c C r t I L hc h ht hr hC
    have e1 : (1 : Int32).toNatClampNeg = 1 := rfl
    obtain ⟨I2, L2, a1, a2, a3, a4, a5⟩ := x_div1 (S := S) (c := c) hp h hpr ht hr (by omega)
    cases hd : dv1 pr c r t with
    | false =>
      rw [hd] at a1
      obtain ⟨I1, L1, v, b1, b2, b3⟩ := ih (c + 1) C r t I2 L2 (by omega) (a5 hd) ht hr (cnt_eq hC a3)
      have es : spl pr (k + 1) c (C 1) r t = spl pr k (c + 1) (C 1) r t := by
        rw [spl, if_neg (by rw [hd]; decide)]
      rw [es]
      refine ⟨I1, L1, v, it_X4_takeLinear_2 hp ?_, fr_tr a2 b2 (fun b z => z.elim id id), b3⟩
      rw [h.2.1]
      exact ge_f (by omega) (by omega) ⟨_, _, _, a1, fun _ y hy => by rw [hy, nI_1]; exact b1, fun q => absurd rfl q⟩
    | true =>
      rw [hd] at a1
      have t1 := dv1_t hd
      have hr1 := rsd_1 (b := c) hr t1
      have C2 := cnt_up (cnt_eq hC a3) (show 1 < 6 by decide)
      obtain ⟨I3, hI3⟩ : ∃ I3, I3 = mj_up I2 (p + 3) 1 (I2 (p + 3) 1 + 1) := ⟨_, rfl⟩
      rw [← hI3] at C2
      have f3 : fr (pX p) I2 L2 I3 L2 := by rw [hI3]; exact fr_I (by unfold pX; omega)
      obtain ⟨I4, L4, c1, c2, c3, c4, c5⟩ := x_div1 (S := S) (I := I3) (L := L2) (c := c) hp (by rw [hI3]; exact pxR_cnt (a4 hd)) hpr (by omega) hr1 (by omega)
      cases hd2 : dv1 pr c (qt1 pr c r t) (t - 1) with
      | true =>
        rw [hd2] at c1
        refine ⟨I4, L4, 0, it_X4_takeLinear_2 hp ?_, fr_tr (fr_tr a2 f3 (fun b z => z.elim id id)) c2 (fun b z => z.elim id id), Or.inl ⟨by rw [spl, if_pos hd, if_pos hd2], rfl⟩⟩
        rw [h.2.1]
        exact ge_f (by omega) (by omega) ⟨_, _, _, a1, fun q => absurd q (by decide), fun _ => ⟨_, _, _, by rw [e1, ← hI3]; exact c1, fun q => absurd q (by decide), fun _ => ⟨rfl, rfl⟩⟩⟩
      | false =>
        rw [hd2] at c1
        obtain ⟨I1, L1, v, b1, b2, b3⟩ := ih (c + 1) (fun k => if k = 1 then C 1 + 1 else C k) (qt1 pr c r t) (t - 1) I4 L4 (by omega) (c5 hd2) (by omega) hr1 (cnt_eq C2 c3)
        have es : spl pr (k + 1) c (C 1) r t = spl pr k (c + 1) (C 1 + 1) (qt1 pr c r t) (t - 1) := by
          rw [spl, if_pos hd, if_neg (by rw [hd2]; decide)]
        rw [es]
        have ec : ∀ n, (fun d => if d = 1 then n else (fun k => if k = 1 then C 1 + 1 else C k) d) = fun d => if d = 1 then n else C d := fun n => by
          funext d
          by_cases e : d = 1
          · rw [if_pos e, if_pos e]
          · rw [if_neg e, if_neg e]; exact if_neg e
        refine ⟨I1, L1, v, it_X4_takeLinear_2 hp ?_, fr_tr (fr_tr (fr_tr a2 f3 (fun b z => z.elim id id)) c2 (fun b z => z.elim id id)) b2 (fun b z => z.elim id id), ?_⟩
        · rw [h.2.1]
          exact ge_f (by omega) (by omega) ⟨_, _, _, a1, fun q => absurd q (by decide), fun _ => ⟨_, _, _, by rw [e1, ← hI3]; exact c1, fun _ y hy => by rw [hy, nI_1]; exact b1, fun q => absurd rfl q⟩⟩
        · rcases b3 with ⟨b4, b5⟩ | ⟨n, t', r', b4, b5, b6, b7⟩
          · exact Or.inl ⟨b4, b5⟩
          · exact Or.inr ⟨n, t', r', b4, b5, b6, by rw [← ec n]; exact b7⟩
theorem x_takeLinear {C : Nat → Nat} {r : Nat → Int} {t : Nat} (hp : is_Parts S p) (hpr : 2 ≤ pr ∧ pr ≤ 13) (h : pxR p pr t r I L) (ht : t ≤ 5) (hr : rsd pr r t) (hC : cntR p C I) :
    ∃ I1 L1 v, CTi mr_X4_takeLinear [.ref p] S I L v I1 L1 ∧ fr (pX p) I L I1 L1 ∧ ((spl pr pr 0 (C 1) r t = none ∧ v = 0) ∨ ∃ n t' r', spl pr pr 0 (C 1) r t = some (n, t', r') ∧ v = 1 ∧ pxR p pr t' r' I1 L1 ∧ cntR p (fun d => if d = 1 then n else C d) I1) := by
  obtain ⟨I1, L1, v, b1, b2⟩ := x_lines (S := S) hp hpr pr 0 C r t I L (by omega) h ht hr hC
  exact ⟨I1, L1, v, wp_X4_takeLinear hp b1, b2⟩
/-- with a low degree it ends at once -/
theorem x_low2 {t b : Nat} (hp : is_Parts S p) (h3 : I p 3 = nI t) (h4 : I p 4 = nI pr) (hpr : pr < 100) (ht : t < 4) (hb : b < 100) : hd_X4_takeQuadratic_2 S (fun w h => w = some (.int 1) ∧ h = (S, I, L)) p (nI b) I L := by
  refine it_X4_takeQuadratic_2 hp ⟨fun _ => ⟨rfl, rfl⟩, fun _ => ⟨fun _ => ⟨rfl, rfl⟩, fun q => absurd ?_ q⟩⟩
  rw [h3]; exact (nI_ltI (b := 4) (by omega) (by decide)).mpr ht
theorem x_low20 {t b c : Nat} (hp : is_Parts S p) (h3 : I p 3 = nI t) (h4 : I p 4 = nI pr) (hpr : pr < 100) (ht : t < 4) (hb : b < 99) : hd_X4_takeQuadratic_20 S (fun w h => w = some (.int 1) ∧ h = (S, I, L)) p (nI b) (nI c) I L := by
  have hl := x_low2 (S := S) (I := I) (L := L) (b := b + 1) hp h3 h4 hpr ht (by omega)
  refine it_X4_takeQuadratic_20 hp ⟨fun _ y hy => by rw [hy, nI_1]; exact hl, fun _ => ⟨fun _ y hy => by rw [hy, nI_1]; exact hl, fun q => absurd ?_ q⟩⟩
  rw [h3]; exact (nI_ltI (b := 4) (by omega) (by decide)).mpr ht
theorem x_quads {C : Nat → Nat} {r : Nat → Int} {t : Nat} (hp : is_Parts S p) (hpr : 2 ≤ pr ∧ pr ≤ 13) (ht : 4 ≤ t ∧ t ≤ 5) (hr : rsd pr r t) : ∀ n b c (I : Nat → Nat → Int32) (L : Nat → Nat → Int64), c < pr → b < pr → pr * pr = b * pr + c + n → pxR p pr t r I L → cntR p C I →
    ∃ I1 L1 v, hd_X4_takeQuadratic_20 S (fun w h => w = some (.int v) ∧ h = (S, I1, L1)) p (nI b) (nI c) I L ∧ fr (pX p) I L I1 L1 ∧ ((fqi pr r t n (b * pr + c) = none ∧ v = 1 ∧ pxR p pr t r I1 L1 ∧ cntR p C I1) ∨ ∃ k, fqi pr r t n (b * pr + c) = some k ∧ ((dvk pr (qtk pr r t k) (t - 2) k = true ∧ v = 0) ∨ (dvk pr (qtk pr r t k) (t - 2) k = false ∧ v = 1 ∧ pxR p pr (t - 2) (qtk pr r t k) I1 L1 ∧ cntR p (fun d => if d = 2 then C 2 + 1 else C d) I1))) := by
  intro n
  induction n with
  | zero =>
    intro b c I L hc hb he
    have : (b + 1) * pr ≤ pr * pr := Nat.mul_le_mul_right _ hb
    rw [Nat.add_mul] at this
    omega
  | succ n ih =>
    intro b c I L hc hb he h hC
    have e2 : (2 : Int32).toNatClampNeg = 2 := rfl
    have z4 : ¬ nI t < (4 : Int32) := fun q => by have := (nI_ltI (b := 4) (by omega) (by decide)).mp q; omega
    have zc : ¬ nI pr ≤ nI c := fun q => by have := (nI_leI (by omega) (by omega)).mp q; omega
    obtain ⟨I2, L2, a1, a2, a3, a4, a5⟩ := x_div2 (S := S) (b := b) (c := c) hp h hpr ht.2 hr hb hc
    have ek : dvk pr r t (b * pr + c) = dv2 pr b c r t := by unfold dvk; rw [idx_div hc, idx_mod hc]
    have eq : qtk pr r t (b * pr + c) = qt2 pr b c r t := by unfold qtk; rw [idx_div hc, idx_mod hc]
    have ek2 : dvk pr (qt2 pr b c r t) (t - 2) (b * pr + c) = dv2 pr b c (qt2 pr b c r t) (t - 2) := by unfold dvk; rw [idx_div hc, idx_mod hc]
    cases hd : dv2 pr b c r t with
    | false =>
      rw [hd] at a1
      have ef : fqi pr r t (n + 1) (b * pr + c) = fqi pr r t n (b * pr + (c + 1)) := by
        rw [fqi, if_neg (by rw [ek, hd]; decide)]; rfl
      rw [ef]
      have h2 := a5 hd
      have hC2 := cnt_eq hC a3
      by_cases cc : c + 1 < pr
      · obtain ⟨I1, L1, v, b1, b2, b3⟩ := ih b (c + 1) I2 L2 cc hb (by omega) h2 hC2
        refine ⟨I1, L1, v, it_X4_takeQuadratic_20 hp ?_, fr_tr a2 b2 (fun b z => z.elim id id), b3⟩
        rw [h.1, h.2.1]
        exact ⟨fun q => absurd q zc, fun _ => ⟨fun q => absurd q z4, fun _ => ⟨_, _, _, a1, fun _ y hy => by rw [hy, nI_1]; exact b1, fun q => absurd rfl q⟩⟩⟩
      · have hcp : c + 1 = pr := by omega
        have erow : b * pr + (c + 1) = (b + 1) * pr + 0 := by rw [hcp, Nat.add_mul]; omega
        rw [erow]
        -- the end of a row
        have row : ∀ {RET : Option Value → mjH → Prop}, hd_X4_takeQuadratic_2 S RET p (nI (b + 1)) I2 L2 → hd_X4_takeQuadratic_20 S RET p (nI b) (nI c) I L := fun hr2 => by
          refine it_X4_takeQuadratic_20 hp ?_
          rw [h.1, h.2.1]
          refine ⟨fun q => absurd q zc, fun _ => ⟨fun q => absurd q z4, fun _ => ⟨_, _, _, a1, fun _ y hy => ?_, fun q => absurd rfl q⟩⟩⟩
          rw [hy, nI_1]
          refine it_X4_takeQuadratic_20 hp ?_
          rw [h2.2.1]
          exact ge_t (by omega) (by omega) (fun y hy => by rw [hy, nI_1]; exact hr2)
        by_cases cb : b + 1 < pr
        · obtain ⟨I1, L1, v, b1, b2, b3⟩ := ih (b + 1) 0 I2 L2 (by omega) cb (by omega) h2 hC2
          refine ⟨I1, L1, v, row (it_X4_takeQuadratic_2 hp ?_), fr_tr a2 b2 (fun b z => z.elim id id), b3⟩
          rw [h2.1, h2.2.1]
          exact ge_f (by omega) (by omega) ⟨fun q => absurd q z4, fun _ => b1⟩
        · have hbp : b + 1 = pr := by omega
          have hn : n = 0 := by
            have e9 : pr * pr = (b + 1) * pr := by rw [hbp]
            rw [e9, Nat.add_mul] at he
            omega
          refine ⟨I2, L2, 1, row (it_X4_takeQuadratic_2 hp ?_), a2, Or.inl ⟨by rw [hn]; rfl, rfl, h2, hC2⟩⟩
          rw [h2.2.1]
          exact ge_t (by omega) (by omega) ⟨rfl, rfl⟩
    | true =>
      rw [hd] at a1
      have ef : fqi pr r t (n + 1) (b * pr + c) = some (b * pr + c) := by
        rw [fqi, if_pos (by rw [ek, hd])]
      have hr2 := rsd_2 (b := b) (c := c) hr (by omega)
      have C2 := cnt_up (cnt_eq hC a3) (show 2 < 6 by decide)
      obtain ⟨I3, hI3⟩ : ∃ I3, I3 = mj_up I2 (p + 3) 2 (I2 (p + 3) 2 + 1) := ⟨_, rfl⟩
      rw [← hI3] at C2
      have f3 : fr (pX p) I2 L2 I3 L2 := by rw [hI3]; exact fr_I (by unfold pX; omega)
      obtain ⟨I4, L4, c1, c2, c3, c4, c5⟩ := x_div2 (S := S) (I := I3) (L := L2) (b := b) (c := c) hp (by rw [hI3]; exact pxR_cnt (a4 hd)) hpr (by omega) hr2 hb hc
      have fT : fr (pX p) I L I4 L4 := fr_tr (fr_tr a2 f3 (fun b z => z.elim id id)) c2 (fun b z => z.elim id id)
      cases hd2 : dv2 pr b c (qt2 pr b c r t) (t - 2) with
      | true =>
        rw [hd2] at c1
        refine ⟨I4, L4, 0, it_X4_takeQuadratic_20 hp ?_, fT, Or.inr ⟨_, ef, Or.inl ⟨by rw [eq, ek2]; exact hd2, rfl⟩⟩⟩
        rw [h.1, h.2.1]
        exact ⟨fun q => absurd q zc, fun _ => ⟨fun q => absurd q z4, fun _ => ⟨_, _, _, a1, fun q => absurd q (by decide), fun _ => ⟨_, _, _, by rw [e2, ← hI3]; exact c1, fun q => absurd q (by decide), fun _ => ⟨rfl, rfl⟩⟩⟩⟩⟩
      | false =>
        rw [hd2] at c1
        have hx := c5 hd2
        have b1 := x_low20 (S := S) (I := I4) (L := L4) (b := b) (c := c + 1) hp hx.1 hx.2.1 (by omega) (by omega) (by omega)
        refine ⟨I4, L4, 1, it_X4_takeQuadratic_20 hp ?_, fT, Or.inr ⟨_, ef, Or.inr ⟨by rw [eq, ek2]; exact hd2, rfl, by rw [eq]; exact hx, cnt_eq C2 c3⟩⟩⟩
        rw [h.1, h.2.1]
        exact ⟨fun q => absurd q zc, fun _ => ⟨fun q => absurd q z4, fun _ => ⟨_, _, _, a1, fun q => absurd q (by decide), fun _ => ⟨_, _, _, by rw [e2, ← hI3]; exact c1, fun _ y hy => by rw [hy, nI_1]; exact b1, fun q => absurd rfl q⟩⟩⟩⟩
/-- what is left behind the class's one of degree 2: none is bad; the degree left, the twos -/
def spx (pr : Nat) (r : Nat → Int) (t : Nat) : Option (Nat × Nat) :=
  if t < 4 then some (t, 0) else match fqi pr r t (pr * pr) 0 with
    | none => some (t, 0)
    | some k => if dvk pr (qtk pr r t k) (t - 2) k = true then none else some (t - 2, 1)
theorem x_takeQuadratic {C : Nat → Nat} {r : Nat → Int} {t : Nat} (hp : is_Parts S p) (hpr : 2 ≤ pr ∧ pr ≤ 13) (h : pxR p pr t r I L) (ht : t ≤ 5) (hr : rsd pr r t) (hC : cntR p C I) :
    ∃ I1 L1 v, CTi mr_X4_takeQuadratic [.ref p] S I L v I1 L1 ∧ fr (pX p) I L I1 L1 ∧ ((spx pr r t = none ∧ v = 0) ∨ ∃ t' n, spx pr r t = some (t', n) ∧ v = 1 ∧ t' ≤ 5 ∧ I1 p 3 = nI t' ∧ cntR p (fun d => if d = 2 then C 2 + n else C d) I1) := by
  have c0 : cntR p (fun d => if d = 2 then C 2 + 0 else C d) I := fun d hd => by
    show _ = nI (if d = 2 then C 2 + 0 else C d)
    rw [hC d hd]
    by_cases e : d = 2
    · rw [if_pos e, e]; rfl
    · rw [if_neg e]
  by_cases c4 : t < 4
  · exact ⟨I, L, 1, wp_X4_takeQuadratic hp (x_low2 (b := 0) hp h.1 h.2.1 (by omega) c4 (by decide)), fr_rf, Or.inr ⟨t, 0, by unfold spx; rw [if_pos c4], rfl, ht, h.1, c0⟩⟩
  · obtain ⟨I1, L1, v, b1, b2, b3⟩ := x_quads (S := S) (C := C) hp hpr ⟨by omega, ht⟩ hr (pr * pr) 0 0 I L (by omega) (by omega) (by omega) h hC
    rw [show 0 * pr + 0 = 0 by omega] at b3
    refine ⟨I1, L1, v, wp_X4_takeQuadratic hp (it_X4_takeQuadratic_2 hp ?_), b2, ?_⟩
    · rw [h.1, h.2.1]
      exact ge_f (i := 0) (by omega) (by omega) ⟨fun q => absurd ((nI_ltI (b := 4) (by omega) (by decide)).mp q) c4, fun _ => b1⟩
    · unfold spx
      rw [if_neg c4]
      rcases b3 with ⟨d1, d2, d3, d4⟩ | ⟨k, d1, ⟨d2, d3⟩ | ⟨d2, d3, d4, d5⟩⟩
      · rw [d1]
        refine Or.inr ⟨t, 0, rfl, d2, ht, d3.1, fun d hd => ?_⟩
        show _ = nI (if d = 2 then C 2 + 0 else C d)
        rw [d4 d hd]
        by_cases e : d = 2
        · rw [if_pos e, e]; rfl
        · rw [if_neg e]
      · rw [d1]
        exact Or.inl ⟨if_pos d2, d3⟩
      · rw [d1]
        exact Or.inr ⟨t - 2, 1, if_neg (by rw [d2]; decide), d3, by omega, d4.1, d5⟩
end
