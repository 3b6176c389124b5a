/-! BY PRIMES: the reference takes out the lines, then those of degree 2 -/
variable {S : List mjD} {I : Nat → Nat → Int32} {L : Nat → Nat → Int64}
theorem rsd_q {p b c : Int} {r : Nat → Int} {t d : Nat} (h : rsd p r t) (hd : d ≤ t) : rsd p (fun k => tq p b c r t (k + d)) (t - d) := by
  have hp := rsd_p h
  refine ⟨fun k => tq_rg hp, fun k hk => tq_out (by omega), ?_⟩
  show tq p b c r t (t - d + d) ≠ 0
  rw [show t - d + d = t by omega, tq_top h]
  exact h.2.2
def figF (l : List Nat) (a : Nat) : Nat := l.foldl (fun a d => 10 * a + d) a
theorem figF_app (l l2 : List Nat) (a : Nat) : figF (l ++ l2) a = figF l2 (figF l a) := List.foldl_append
theorem figL_s (n : Nat) : 10 * figL n [] + 1 = figL (n + 1) [] := by
  show 10 * figF (List.replicate n 1 ++ []) 0 + 1 = figF (List.replicate (n + 1) 1 ++ []) 0
  rw [List.append_nil, List.append_nil, List.replicate_succ', figF_app]
  rfl
theorem figL_app (n : Nat) (ls : List Nat) : figF ls (figL n []) = figL n ls := by
  show figF ls (figF (List.replicate n 1 ++ []) 0) = figF (List.replicate n 1 ++ ls) 0
  rw [List.append_nil, figF_app]
section
variable {m pr : Nat}
theorem m_once {d t B E np fg : Nat} {x3 x4 : Int32} {r : Nat → Int} (hm : is_Model S m) (h : rmR m t r I) (hg : fgR m np fg I) (hpr : 2 ≤ pr ∧ pr ≤ 13) (ht : t ≤ 5) (hr : rsd pr r t) (hB : B < pr) (hE : E < pr) (hd : (d = 1 ∧ x4 = nI B ∧ E = 0) ∨ (d = 2 ∧ x3 = nI B ∧ x4 = nI E)) :
    ∃ I1 v, CTi mr_X9_takesOnce [.ref m, .int (nI pr), .int (nI d), .int x3, .int x4] S I L v I1 L ∧ qfr m I I1 ∧ ((dvX pr d B E r t = false ∧ v = 1 ∧ rmR m t r I1 ∧ fgR m np fg I1) ∨ (dvX pr d B E r t = true ∧ dvX pr d B E (fun k => tq pr B E r t (k + d)) (t - d) = true ∧ v = 0) ∨ (dvX pr d B E r t = true ∧ dvX pr d B E (fun k => tq pr B E r t (k + d)) (t - d) = false ∧ v = 1 ∧ rmR m (t - d) (fun k => tq pr B E r t (k + d)) I1 ∧ fgR m (np + 1) (10 * fg + d) I1)) := by
  obtain ⟨I1, a1, a2, a3, a4, a5, a6⟩ := m_dividesBy (S := S) (L := L) hm h hpr ht hr hB hE hd
  cases e : dvX pr d B E r t with
  | false =>
    rw [e] at a1
    exact ⟨I1, 1, wp_X9_takesOnce hm ⟨_, _, _, a1, fun _ => ⟨rfl, rfl⟩, fun q => absurd rfl q⟩, a2, Or.inl ⟨rfl, rfl, a6 e, a4.trans hg.1, a3.trans hg.2⟩⟩
  | true =>
    rw [e] at a1
    have hdt : d ≤ t := (of_decide_eq_true e).1
    obtain ⟨J, hJ⟩ : ∃ J, J = mj_up (mj_up I1 m 46 (I1 m 46 + 1)) m 45 ((10 * (mj_up I1 m 46 (I1 m 46 + 1) m 45)) + nI d) := ⟨_, rfl⟩
    have q5 := a5 e
    have qJ : qfr m I1 J := by rw [hJ]; exact qfr_tr (qfr_m (Or.inr (Or.inr rfl))) (qfr_m (Or.inr (Or.inl rfl)))
    have rJ : rmR m (t - d) (fun k => tq pr B E r t (k + d)) J := ⟨by rw [hJ, up_nk (by decide), up_nk (by decide)]; exact q5.1, fun k hk => by rw [hJ, up_ne (by omega), up_ne (by omega)]; exact q5.2 k hk⟩
    have gJ : fgR m (np + 1) (10 * fg + d) J := by
      refine ⟨?_, ?_⟩
      · rw [hJ, up_nk (by decide), up_eq, a4, hg.1, nI_1]
      · rw [hJ, up_eq, up_nk (by decide), a3, hg.2, ← nI_add, ← pk_mul]; rfl
    obtain ⟨I2, b1, b2, b3, b4, b5, b6⟩ := m_dividesBy (S := S) (L := L) (I := J) hm rJ hpr (by omega) (rsd_q hr hdt) hB hE hd
    have qT := qfr_tr (qfr_tr a2 qJ) b2
    cases e2 : dvX pr d B E (fun k => tq pr B E r t (k + d)) (t - d) with
    | true =>
      rw [e2] at b1
      exact ⟨I2, 0, wp_X9_takesOnce hm ⟨_, _, _, a1, fun q => absurd q (by decide), fun _ => ⟨_, _, _, by rw [← hJ]; exact b1, fun _ => ⟨rfl, rfl⟩, fun q => absurd q (by decide)⟩⟩, qT, Or.inr (Or.inl ⟨rfl, rfl, rfl⟩)⟩
    | false =>
      rw [e2] at b1
      exact ⟨I2, 1, wp_X9_takesOnce hm ⟨_, _, _, a1, fun q => absurd q (by decide), fun _ => ⟨_, _, _, by rw [← hJ]; exact b1, fun q => absurd rfl q, fun _ => ⟨rfl, rfl⟩⟩⟩, qT, Or.inr (Or.inr ⟨rfl, rfl, rfl, b6 e2, b4.trans gJ.1, b3.trans gJ.2⟩)⟩
theorem m_lines (hm : is_Model S m) (hpr : 2 ≤ pr ∧ pr ≤ 13) : ∀ k c n1 (r : Nat → Int) (t : Nat) (I : Nat → Nat → Int32), c + k = pr → rmR m t r I → fgR m n1 (figL n1 []) I → t ≤ 5 → rsd pr r t →
    ∃ I1, qfr m I I1 ∧ ((spl pr k c n1 r t = none ∧ hd_X9_layParts_88 S (fun v h => v = some (.int 0) ∧ h = (S, I1, L)) m (nI pr) (nI c) I L) ∨ ∃ n t' r', spl pr k c n1 r t = some (n, t', r') ∧ rmR m t' r' I1 ∧ fgR m n (figL n []) I1 ∧ ∀ RET : Option Value → mjH → Prop, hd_X9_layParts_114 S RET m (nI pr) (0 : Int32) I1 L → hd_X9_layParts_88 S RET m (nI pr) (nI c) I L) := by
  intro k
  induction k with
  | zero =>
    intro c n1 r t I hc h hg ht hr
    exact ⟨I, qfr_rf, Or.inr ⟨n1, t, r, rfl, h, hg, fun RET hh => it_X9_layParts_88 hm (ge_t (by omega) (by omega) hh)⟩⟩
  | succ k ih =>
    intro c n1 r t I hc h hg ht hr
    have en : dvX pr 1 c ((0 : Nat) : Int) r t = dv1 pr c r t := dvX_1
    obtain ⟨I2, v, a1, a2, a3⟩ := m_once (S := S) (L := L) (d := 1) (B := c) (E := 0) (x3 := 0) (x4 := nI c) hm h hg hpr ht hr (by omega) (by omega) (Or.inl ⟨rfl, rfl, rfl⟩)
    rw [en] at a3
    rcases a3 with ⟨d1, d2, d3, d4⟩ | ⟨d1, d2, d3⟩ | ⟨d1, d2, d3, d4, d5⟩
    · have es : spl pr (k + 1) c n1 r t = spl pr k (c + 1) n1 r t := by rw [spl, if_neg (by rw [d1]; decide)]
      rw [es]
      have nv : ¬ v = 0 := by rw [d2]; decide
      obtain ⟨I1, b1, b2⟩ := ih (c + 1) n1 r t I2 (by omega) d3 d4 ht hr
      refine ⟨I1, qfr_tr a2 b1, ?_⟩
      rcases b2 with ⟨b2, b3⟩ | ⟨n, t', r', b2, b3, b4, b5⟩
      · exact Or.inl ⟨b2, it_X9_layParts_88 hm (ge_f (by omega) (by omega) ⟨_, _, _, a1, fun _ y hy => by rw [hy, nI_1]; exact b3, fun q => absurd q nv⟩)⟩
      · exact Or.inr ⟨n, t', r', b2, b3, b4, fun RET hh => it_X9_layParts_88 hm (ge_f (by omega) (by omega) ⟨_, _, _, a1, fun _ y hy => by rw [hy, nI_1]; exact b5 RET hh, fun q => absurd q nv⟩)⟩
    · have en2 : dvX pr 1 c ((0 : Nat) : Int) (fun k => tq pr c ((0 : Nat) : Int) r t (k + 1)) (t - 1) = dv1 pr c (qt1 pr c r t) (t - 1) := dvX_1
      rw [en2] at d2
      exact ⟨I2, a2, Or.inl ⟨by rw [spl, if_pos d1, if_pos d2], it_X9_layParts_88 hm (ge_f (by omega) (by omega) ⟨_, _, _, a1, fun q => absurd d3 q, fun _ => ⟨rfl, rfl⟩⟩)⟩⟩
    · have en2 : dvX pr 1 c ((0 : Nat) : Int) (fun k => tq pr c ((0 : Nat) : Int) r t (k + 1)) (t - 1) = dv1 pr c (qt1 pr c r t) (t - 1) := dvX_1
      rw [en2] at d2
      have t1 := dv1_t d1
      have es : spl pr (k + 1) c n1 r t = spl pr k (c + 1) (n1 + 1) (qt1 pr c r t) (t - 1) := by rw [spl, if_pos d1, if_neg (by rw [d2]; decide)]
      rw [es]
      have nv : ¬ v = 0 := by rw [d3]; decide
      rw [figL_s] at d5
      obtain ⟨I1, b1, b2⟩ := ih (c + 1) (n1 + 1) (qt1 pr c r t) (t - 1) I2 (by omega) d4 d5 (by omega) (rsd_1 hr t1)
      refine ⟨I1, qfr_tr a2 b1, ?_⟩
      rcases b2 with ⟨b2, b3⟩ | ⟨n, t', r', b2, b3, b4, b5⟩
      · exact Or.inl ⟨b2, it_X9_layParts_88 hm (ge_f (by omega) (by omega) ⟨_, _, _, a1, fun _ y hy => by rw [hy, nI_1]; exact b3, fun q => absurd q nv⟩)⟩
      · exact Or.inr ⟨n, t', r', b2, b3, b4, fun RET hh => it_X9_layParts_88 hm (ge_f (by omega) (by omega) ⟨_, _, _, a1, fun _ y hy => by rw [hy, nI_1]; exact b5 RET hh, fun q => absurd q nv⟩)⟩
/-- one turn of the second loop -/
theorem m_turn {i t np fg : Nat} {r : Nat → Int} (hm : is_Model S m) (hpr : 2 ≤ pr ∧ pr ≤ 13) (h : rmR m t r I) (hg : fgR m np fg I) (ht : t ≤ 5) (hr : rsd pr r t) (hi : i < pr * pr) :
    ∃ I1, qfr m I I1 ∧ ((dvk pr r t i = false ∧ rmR m t r I1 ∧ fgR m np fg I1 ∧ ∀ RET : Option Value → mjH → Prop, hd_X9_layParts_114 S RET m (nI pr) (nI (i + 1)) I1 L → hd_X9_layParts_114 S RET m (nI pr) (nI i) I L) ∨ (dvk pr r t i = true ∧ dvk pr (qtk pr r t i) (t - 2) i = true ∧ hd_X9_layParts_114 S (fun v h => v = some (.int 0) ∧ h = (S, I1, L)) m (nI pr) (nI i) I L) ∨ (dvk pr r t i = true ∧ dvk pr (qtk pr r t i) (t - 2) i = false ∧ rmR m (t - 2) (qtk pr r t i) I1 ∧ fgR m (np + 1) (10 * fg + 2) I1 ∧ ∀ RET : Option Value → mjH → Prop, hd_X9_layParts_114 S RET m (nI pr) (nI (i + 1)) I1 L → hd_X9_layParts_114 S RET m (nI pr) (nI i) I L)) := by
  have pp : pr * pr ≤ 169 := Nat.mul_le_mul hpr.2 hpr.2
  have e2 : dvX pr 2 ((i / pr : Nat) : Int) ((i % pr : Nat) : Int) r t = dvk pr r t i := dvX_2
  have e3 : dvX pr 2 ((i / pr : Nat) : Int) ((i % pr : Nat) : Int) (fun k => tq pr ((i / pr : Nat) : Int) ((i % pr : Nat) : Int) r t (k + 2)) (t - 2) = dvk pr (qtk pr r t i) (t - 2) i := dvX_2
  have hdiv : i / pr < pr := (Nat.div_lt_iff_lt_mul (by omega)).mpr hi
  have hmod : i % pr < pr := Nat.mod_lt _ (by omega)
  obtain ⟨I2, v, a1, a2, a3⟩ := m_once (S := S) (L := L) (d := 2) (B := i / pr) (E := i % pr) (x3 := nI (i / pr)) (x4 := nI (i % pr)) hm h hg hpr ht hr hdiv hmod (Or.inr ⟨rfl, rfl, rfl⟩)
  rw [e2, e3] at a3
  have np0 : ¬ nI pr = 0 := fun q => by have := (nI_eq (b := 0) (by omega) (by decide)).mp q; omega
  have nle : ¬ nI pr * nI pr ≤ nI i := fun q => by
    rw [pk_mul] at q
    have := (nI_leI (by omega) (by omega)).mp q
    omega
  have dv : nI i / nI pr = nI (i / pr) := pk_div (by omega) (by omega) (by omega)
  have rm : nI i - nI i / nI pr * nI pr = nI (i % pr) := pk_rem (by omega) (by omega) (by omega)
  have go : ∀ RET : Option Value → mjH → Prop, v = 1 → hd_X9_layParts_114 S RET m (nI pr) (nI (i + 1)) I2 L → hd_X9_layParts_114 S RET m (nI pr) (nI i) I L := fun RET hv hh => by
    have nv : ¬ v = 0 := by rw [hv]; decide
    exact it_X9_layParts_114 hm ⟨fun q => absurd q nle, fun _ => ⟨np0, np0, _, _, _, by rw [rm, dv]; exact a1, fun _ y hy => by rw [hy, nI_1]; exact hh, fun q => absurd q nv⟩⟩
  refine ⟨I2, a2, ?_⟩
  rcases a3 with ⟨d1, d2, d3, d4⟩ | ⟨d1, d2, d3⟩ | ⟨d1, d2, d3, d4, d5⟩
  · exact Or.inl ⟨d1, d3, d4, fun RET hh => go RET d2 hh⟩
  · exact Or.inr (Or.inl ⟨d1, d2, it_X9_layParts_114 hm ⟨fun q => absurd q nle, fun _ => ⟨np0, np0, _, _, _, by rw [rm, dv]; exact a1, fun q => absurd d3 q, fun _ => ⟨rfl, rfl⟩⟩⟩⟩)
  · exact Or.inr (Or.inr ⟨d1, d2, d4, d5, fun RET hh => go RET d3 hh⟩)
/-- none is left -/
theorem m_none {t np fg : Nat} {r : Nat → Int} (hm : is_Model S m) (hpr : 2 ≤ pr ∧ pr ≤ 13) (ht : t ≤ 5) (hr : rsd pr r t) : ∀ w i (I : Nat → Nat → Int32), i + w = pr * pr → rmR m t r I → fgR m np fg I → (∀ j, i ≤ j → j < pr * pr → dvk pr r t j = false) →
    ∃ I1, hd_X9_layParts_114 S (fun v h => v = some (.int 1) ∧ h = (S, I1, L)) m (nI pr) (nI i) I L ∧ qfr m I I1 ∧ fgR m (np + (if t = 0 then [] else [t]).length) (figF (if t = 0 then [] else [t]) fg) I1 := by
  have pp : pr * pr ≤ 169 := Nat.mul_le_mul hpr.2 hpr.2
  intro w
  induction w with
  | zero =>
    intro i I hi h hg _
    have le : nI pr * nI pr ≤ nI i := by
      rw [pk_mul]; exact (nI_leI (by omega) (by omega)).mpr (by omega)
    have t0 : nI t ≤ 0 ↔ t ≤ 0 := nI_leI (b := 0) (by omega) (by decide)
    by_cases c : t = 0
    · refine ⟨I, it_X9_layParts_114 hm ⟨fun _ => ?_, fun q => absurd le q⟩, qfr_rf, by rw [if_pos c]; exact hg⟩
      rw [h.1]
      exact ⟨fun _ => ⟨rfl, rfl⟩, fun q => absurd (t0.mpr (by omega)) q⟩
    · obtain ⟨J, hJ⟩ : ∃ J, J = mj_up (mj_up I m 46 (I m 46 + 1)) m 45 ((10 * (mj_up I m 46 (I m 46 + 1) m 45)) + (mj_up I m 46 (I m 46 + 1) m 44)) := ⟨_, rfl⟩
      refine ⟨J, it_X9_layParts_114 hm ⟨fun _ => ?_, fun q => absurd le q⟩, by rw [hJ]; exact qfr_tr (qfr_m (Or.inr (Or.inr rfl))) (qfr_m (Or.inr (Or.inl rfl))), ?_⟩
      · refine ⟨fun q => absurd (t0.mp (by rw [h.1] at q; exact q)) (by omega), fun _ => ⟨rfl, by rw [hJ]⟩⟩
      · rw [if_neg c]
        refine ⟨?_, ?_⟩
        · rw [hJ, up_nk (by decide), up_eq, hg.1, nI_1]; rfl
        · rw [hJ, up_eq, up_nk (by decide), up_nk (by decide), hg.2, h.1]
          show (10 * nI fg) + nI t = nI (10 * fg + t)
          rw [← nI_add, ← pk_mul]; rfl
  | succ w ih =>
    intro i I hi h hg hz
    obtain ⟨I2, a1, a2⟩ := m_turn (S := S) (L := L) (i := i) hm hpr h hg ht hr (by omega)
    rcases a2 with ⟨b1, b2, b3, b4⟩ | ⟨b1, _⟩ | ⟨b1, _⟩
    · obtain ⟨I1, c1, c2, c3⟩ := ih (i + 1) I2 (by omega) b2 b3 (fun j h1 h2 => hz j (by omega) h2)
      exact ⟨I1, b4 _ c1, qfr_tr a1 c2, c3⟩
    · rw [hz i (Nat.le_refl _) (by omega)] at b1; cases b1
    · rw [hz i (Nat.le_refl _) (by omega)] at b1; cases b1
/-- the first one -/
theorem m_first {t np fg : Nat} {r : Nat → Int} {k : Nat} (hm : is_Model S m) (hpr : 2 ≤ pr ∧ pr ≤ 13) (ht : t ≤ 5) (hr : rsd pr r t) (hk : k < pr * pr) (hdk : dvk pr r t k = true) : ∀ w i (I : Nat → Nat → Int32), i + w = k → rmR m t r I → fgR m np fg I → (∀ j, i ≤ j → j < k → dvk pr r t j = false) →
    ∃ I1, qfr m I I1 ∧ ((dvk pr (qtk pr r t k) (t - 2) k = true ∧ hd_X9_layParts_114 S (fun v h => v = some (.int 0) ∧ h = (S, I1, L)) m (nI pr) (nI i) I L) ∨ (dvk pr (qtk pr r t k) (t - 2) k = false ∧ rmR m (t - 2) (qtk pr r t k) I1 ∧ fgR m (np + 1) (10 * fg + 2) I1 ∧ ∀ RET : Option Value → mjH → Prop, hd_X9_layParts_114 S RET m (nI pr) (nI (k + 1)) I1 L → hd_X9_layParts_114 S RET m (nI pr) (nI i) I L)) := by
  intro w
  induction w with
  | zero =>
    intro i I hi h hg _
    obtain rfl : i = k := by omega
    obtain ⟨I2, a1, a2⟩ := m_turn (S := S) (L := L) (i := i) hm hpr h hg ht hr hk
    rcases a2 with ⟨b1, _⟩ | ⟨_, b2, b3⟩ | ⟨_, b2, b3, b4, b5⟩
    · rw [hdk] at b1; cases b1
    · exact ⟨I2, a1, Or.inl ⟨b2, b3⟩⟩
    · exact ⟨I2, a1, Or.inr ⟨b2, b3, b4, b5⟩⟩
  | succ w ih =>
    intro i I hi h hg hz
    obtain ⟨I2, a1, a2⟩ := m_turn (S := S) (L := L) (i := i) hm hpr h hg ht hr (by omega)
    rcases a2 with ⟨b1, b2, b3, b4⟩ | ⟨b1, _⟩ | ⟨b1, _⟩
    · obtain ⟨I1, c1, c2⟩ := ih (i + 1) I2 (by omega) b2 b3 (fun j h1 h2 => hz j (by omega) h2)
      refine ⟨I1, qfr_tr a1 c1, ?_⟩
      rcases c2 with ⟨c2, c3⟩ | ⟨c2, c3, c4, c5⟩
      · exact Or.inl ⟨c2, b4 _ c3⟩
      · exact Or.inr ⟨c2, c3, c4, fun RET hh => b4 RET (c5 RET hh)⟩
    · rw [hz i (Nat.le_refl _) (by omega)] at b1; cases b1
    · rw [hz i (Nat.le_refl _) (by omega)] at b1; cases b1
end
