/-! BY PRIMES: the reference's parts -/
variable {S : List mjD} {I : Nat → Nat → Int32} {L : Nat → Nat → Int64}
theorem dvk_t {pr t j : Nat} {r : Nat → Int} (h : t < 2) : dvk pr r t j = false := decide_eq_false (fun z => by omega)
theorem dvk_3 {pr j : Nat} {r : Nat → Int} (h6 : pr6 pr) (hr : rsd pr r 3) (hn : ∀ e : Nat, e < pr → dv1 pr e r 3 = false) : dvk pr r 3 j = false := by
  cases h : dvk pr r 3 j with
  | false => rfl
  | true =>
    obtain ⟨e, e1, e2⟩ := dv2_3 h6 hr h
    rw [hn e e1] at e2; cases e2
theorem fqi_ex {pr t n i k : Nat} {r : Nat → Int} (h1 : i ≤ k) (h2 : k < i + n) (hk : dvk pr r t k = true) : ∃ k0, fqi pr r t n i = some k0 := by
  cases h : fqi pr r t n i with
  | some k0 => exact ⟨k0, rfl⟩
  | none =>
    have := fqi_none n i h k h1 h2
    rw [hk] at this; cases this
theorem dvk_2 {pr : Nat} {r : Nat → Int} (h6 : pr6 pr) (hr : rsd pr r 2) : ∃ k, k < pr * pr ∧ dvk pr r 2 k = true := by
  obtain ⟨b, c, hb, hc, h⟩ := dv2_2 h6 hr
  refine ⟨b * pr + c, ?_, ?_⟩
  · have : (b + 1) * pr ≤ pr * pr := Nat.mul_le_mul_right _ hb
    rw [Nat.add_mul] at this
    omega
  · unfold dvk
    rw [idx_div hc, idx_mod hc]; exact h
section
variable {m pr : Nat}
theorem m_quads {t np fg : Nat} {r : Nat → Int} (hm : is_Model S m) (h6 : pr6 pr) (h : rmR m t r I) (hg : fgR m np fg I) (ht : t ≤ 5) (hr : rsd pr r t) (hn : ∀ e : Nat, e < pr → dv1 pr e r t = false) :
    ∃ I1 v, hd_X9_layParts_114 S (fun w h => w = some (.int v) ∧ h = (S, I1, L)) m (nI pr) (0 : Int32) I L ∧ qfr m I I1 ∧ ((spq pr r t = none ∧ v = 0) ∨ ∃ ls, spq pr r t = some ls ∧ v = 1 ∧ fgR m (np + ls.length) (figF ls fg) I1) := by
  have hpr := pr6_lt h6
  by_cases c4 : t < 4
  · have es : spq pr r t = some (if t = 0 then [] else [t]) := by unfold spq; rw [if_pos c4]
    rw [es]
    have none0 : (∀ j, 0 ≤ j → j < pr * pr → dvk pr r t j = false) → ∃ I1 v, hd_X9_layParts_114 S (fun w h => w = some (.int v) ∧ h = (S, I1, L)) m (nI pr) (0 : Int32) I L ∧ qfr m I I1 ∧ ((some (if t = 0 then [] else [t]) = none ∧ v = 0) ∨ ∃ ls, some (if t = 0 then [] else [t]) = some ls ∧ v = 1 ∧ fgR m (np + ls.length) (figF ls fg) I1) := fun hz => by
      obtain ⟨I1, a1, a2, a3⟩ := m_none (S := S) (L := L) hm hpr ht hr (pr * pr) 0 I (by omega) h hg hz
      exact ⟨I1, 1, a1, a2, Or.inr ⟨_, rfl, rfl, a3⟩⟩
    by_cases c2 : t < 2
    · exact none0 (fun j _ _ => dvk_t c2)
    · by_cases c3 : t = 3
      · subst c3
        exact none0 (fun j _ _ => dvk_3 h6 hr hn)
      · obtain rfl : t = 2 := by omega
        obtain ⟨k, k1, k2⟩ := dvk_2 h6 hr
        obtain ⟨k0, hk0⟩ := fqi_ex (n := pr * pr) (Nat.zero_le k) (by omega) k2
        obtain ⟨f1, f2, f3, f4⟩ := fqi_some _ _ _ hk0
        obtain ⟨I2, b1, b2⟩ := m_first (S := S) (L := L) (k := k0) hm hpr ht hr (by omega) f1 k0 0 I (by omega) h hg f4
        have hd2 : dvk pr (qtk pr r 2 k0) (2 - 2) k0 = false := dvk_t (by decide)
        rcases b2 with ⟨b2, _⟩ | ⟨_, b3, b4, b5⟩
        · rw [hd2] at b2; cases b2
        · obtain ⟨I1, a1, a2, a3⟩ := m_none (S := S) (L := L) (t := 0) hm hpr (by decide) (rsd_2 hr (by decide)) (pr * pr - (k0 + 1)) (k0 + 1) I2 (by omega) b3 b4 (fun j _ _ => dvk_t (by decide))
          exact ⟨I1, 1, b5 _ a1, qfr_tr b1 a2, Or.inr ⟨_, rfl, rfl, a3⟩⟩
  · cases hf : fqi pr r t (pr * pr) 0 with
    | none =>
      have es : spq pr r t = some [t] := by unfold spq; rw [if_neg c4, hf]
      rw [es]
      obtain ⟨I1, a1, a2, a3⟩ := m_none (S := S) (L := L) hm hpr ht hr (pr * pr) 0 I (by omega) h hg (fun j h1 h2 => fqi_none _ _ hf j h1 (by omega))
      rw [if_neg (show ¬ t = 0 by omega)] at a3
      exact ⟨I1, 1, a1, a2, Or.inr ⟨_, rfl, rfl, a3⟩⟩
    | some k0 =>
      obtain ⟨f1, f2, f3, f4⟩ := fqi_some _ _ _ hf
      obtain ⟨I2, b1, b2⟩ := m_first (S := S) (L := L) (k := k0) hm hpr ht hr (by omega) f1 k0 0 I (by omega) h hg f4
      rcases b2 with ⟨b2, b3⟩ | ⟨b2, b3, b4, b5⟩
      · refine ⟨I2, 0, b3, b1, Or.inl ⟨?_, rfl⟩⟩
        unfold spq
        rw [if_neg c4, hf]
        exact if_pos b2
      · have es : spq pr r t = some [2, t - 2] := by
          unfold spq
          rw [if_neg c4, hf]
          exact if_neg (by rw [b2]; decide)
        rw [es]
        have hr2 : rsd pr (qtk pr r t k0) (t - 2) := rsd_2 hr (by omega)
        have t45 : t = 4 ∨ t = 5 := by omega
        rcases t45 with rfl | rfl
        · obtain ⟨k, k1, k2⟩ := dvk_2 h6 hr2
          have kk : k0 + 1 ≤ k := by
            by_cases q : k = k0
            · rw [q] at k2
              rw [show (4 : Nat) - 2 = 2 from rfl] at b2
              rw [k2] at b2; cases b2
            · by_cases q2 : k < k0
              · have := f4 k (Nat.zero_le _) q2
                have h22 : dvk pr r 4 k = true := dv_22 hr f1 k2
                rw [h22] at this; cases this
              · omega
          obtain ⟨k9, hk9⟩ := fqi_ex (n := pr * pr - (k0 + 1)) kk (by omega) k2
          obtain ⟨g1, g2, g3, g4⟩ := fqi_some _ _ _ hk9
          obtain ⟨I3, d1, d2⟩ := m_first (S := S) (L := L) (t := 2) (k := k9) hm hpr (by decide) hr2 (by omega) g1 (k9 - (k0 + 1)) (k0 + 1) I2 (by omega) b3 b4 g4
          have hd2 : dvk pr (qtk pr (qtk pr r 4 k0) 2 k9) (2 - 2) k9 = false := dvk_t (by decide)
          rcases d2 with ⟨d2, _⟩ | ⟨_, d3, d4, d5⟩
          · rw [hd2] at d2; cases d2
          · obtain ⟨I1, a1, a2, a3⟩ := m_none (S := S) (L := L) (t := 0) hm hpr (by decide) (rsd_2 hr2 (by decide)) (pr * pr - (k9 + 1)) (k9 + 1) I3 (by omega) d3 d4 (fun j _ _ => dvk_t (by decide))
            exact ⟨I1, 1, b5 _ (d5 _ a1), qfr_tr b1 (qfr_tr d1 a2), Or.inr ⟨_, rfl, rfl, a3⟩⟩
        · have hn3 : ∀ e : Nat, e < pr → dv1 pr e (qtk pr r 5 k0) 3 = false := fun e he => by
            cases hz : dv1 pr e (qtk pr r 5 k0) 3 with
            | false => rfl
            | true =>
              have h21 : dv1 pr e r 5 = true := dv_21 hr f1 hz
              rw [hn e he] at h21; cases h21
          obtain ⟨I1, a1, a2, a3⟩ := m_none (S := S) (L := L) (t := 3) hm hpr (by decide) hr2 (pr * pr - (k0 + 1)) (k0 + 1) I2 (by omega) b3 b4 (fun j _ _ => dvk_3 h6 hr2 hn3)
          exact ⟨I1, 1, b5 _ a1, qfr_tr b1 a2, Or.inr ⟨_, rfl, rfl, a3⟩⟩
theorem spq_ok {t n : Nat} {r : Nat → Int} {ls : List Nat} (h : spq pr r t = some ls) (ht : n + t ≤ 5) : okl n ls := by
  rw [spq_spx] at h
  cases e : spx pr r t with
  | none => rw [e] at h; cases h
  | some q =>
    obtain ⟨t', n2⟩ := q
    rw [e] at h
    cases h
    obtain ⟨k1, k2, k3⟩ := spx_ok e
    exact ⟨by omega, lsx_fml t' (by omega) n2 (by omega) (by omega) k3⟩
theorem m_layParts {j t : Nat} {W : Nat → Int64} (hm : is_Model S m) (h6 : pr6 pr) (hj : j < 4) (hb : bnd6 W 999) (hd : deg6 W t) (h3 : I (m + 3) j = nI t) (hW : ∀ k, k < 6 → L (m + 2) (6 * j + k) = W k) :
    ∃ I1 v, CTi mr_X9_layParts [.ref m, .int (nI j), .int (nI pr)] S I L v I1 L ∧ qfr m I I1 ∧ ((sps pr (fun k => (W k).toInt) t = none ∧ v = 0) ∨ ∃ n1 ls, sps pr (fun k => (W k).toInt) t = some (n1, ls) ∧ v = 1 ∧ okl n1 ls ∧ fgR m (n1 + ls.length) (figL n1 ls) I1) := by
  have hpr := pr6_lt h6
  have t6 := hd.1
  obtain ⟨I0, hI0⟩ : ∃ I0, I0 = mj_up (mj_up (mj_up I m 45 (0 : Int32)) m 46 (0 : Int32)) m 44 (nI t) := ⟨_, rfl⟩
  have e3 : (mj_up (mj_up I m 45 (0 : Int32)) m 46 (0 : Int32)) (m + 3) (nI j).toNatClampNeg = nI t := by rw [nI_clamp (by omega), up_ne (by omega), up_ne (by omega)]; exact h3
  have i44 : I0 m 44 = nI t := by rw [hI0, up_eq]
  have q0 : qfr m I I0 := by rw [hI0]; exact qfr_tr (qfr_tr (qfr_m (Or.inr (Or.inl rfl))) (qfr_m (Or.inr (Or.inr rfl)))) (qfr_m (Or.inl rfl))
  have g0 : fgR m 0 (figL 0 []) I0 := ⟨by rw [hI0, up_nk (by decide), up_eq]; rfl, by rw [hI0, up_nk (by decide), up_nk (by decide), up_eq]; rfl⟩
  have lt1 : nI t < (1 : Int32) ↔ t < 1 := nI_ltI (b := 1) (by omega) (by decide)
  have hv4 : vp_in (nI j) 4 := vp_in_nI hj (by decide)
  by_cases c1 : t < 1
  · refine ⟨I0, 0, wp_X9_layParts hm ⟨hv4, ?_⟩, q0, Or.inl ⟨by unfold sps; rw [if_pos c1], rfl⟩⟩
    rw [e3, ← hI0, i44]
    exact ⟨fun _ => ⟨rfl, rfl⟩, fun q => absurd (lt1.mpr c1) q⟩
  · have hbt := hb t t6
    obtain ⟨x, x1, x2⟩ := m_rest (S := S) (I := I0) (L := L) (a := W t) hpr (by omega)
    have idx : ((6 : Int32) * nI j) + nI t = nI (6 * j + t) := nI_6 j t
    have hx0 : x = 0 ↔ (W t).toInt % (pr : Int) = 0 := ⟨fun z => by rw [← x2, z]; rfl, fun z => Int32.toInt_inj.mp (by rw [x2, z]; rfl)⟩
    by_cases c2 : (W t).toInt % (pr : Int) = 0
    · refine ⟨I0, 0, wp_X9_layParts hm ⟨hv4, ?_⟩, q0, Or.inl ⟨by unfold sps; rw [if_neg c1, if_pos c2], rfl⟩⟩
      rw [e3, ← hI0, i44, idx, nI_clamp (by omega), hW t t6]
      exact ⟨fun q => absurd (lt1.mp q) c1, fun _ => ⟨vp_in_nI (by omega) (by decide), _, _, _, x1, fun q => absurd (hx0.mpr c2) q, fun _ => ⟨rfl, rfl⟩⟩⟩
    · obtain ⟨r, hr⟩ : ∃ r : Nat → Int, r = fun k => if k ≤ t then (W k).toInt % (pr : Int) else 0 := ⟨_, rfl⟩
      have rr : rsd pr r t := by
        refine ⟨fun k => ?_, fun k hk => ?_, ?_⟩
        · rw [hr]
          show 0 ≤ (if k ≤ t then (W k).toInt % (pr : Int) else 0) ∧ (if k ≤ t then (W k).toInt % (pr : Int) else 0) < (pr : Int)
          by_cases c : k ≤ t
          · rw [if_pos c]; exact ⟨Int.emod_nonneg _ (by omega), Int.emod_lt_of_pos _ (by omega)⟩
          · rw [if_neg c]; omega
        · rw [hr]; exact if_neg (by omega)
        · rw [hr]
          show (if t ≤ t then (W t).toInt % (pr : Int) else 0) ≠ 0
          rw [if_pos (Nat.le_refl _)]; exact c2
      -- the residues are laid
      have lay : ∀ w k (J : Nat → Nat → Int32), k + w = 6 → J m 44 = nI t → (∀ i, i < k → (J (m + 25) i).toInt = r i) → ∃ J1, (∀ RET : Option Value → mjH → Prop, hd_X9_layParts_88 S RET m (nI pr) (0 : Int32) J1 L → hd_X9_layParts_53 S RET m (nI j) (nI pr) (nI k) J L) ∧ qfr m J J1 ∧ rmR m t r J1 ∧ J1 m 45 = J m 45 ∧ J1 m 46 = J m 46 := by
        intro w
        induction w with
        | zero =>
          intro k J hk hJ h1
          exact ⟨J, fun RET hh => it_X9_layParts_53 hm (ge_t (k := 6) (by omega) (by omega) hh), qfr_rf, ⟨hJ, fun i hi => h1 i (by omega)⟩, rfl, rfl⟩
        | succ w ih =>
          intro k J hk hJ h1
          have hbk := hb k (by omega)
          obtain ⟨y, y1, y2⟩ := m_rest (S := S) (I := J) (L := L) (a := W k) hpr (by omega)
          have hy : y.toInt = r k := by
            rw [y2, hr]
            show _ = if k ≤ t then (W k).toInt % (pr : Int) else 0
            by_cases c : k ≤ t
            · rw [if_pos c]
            · rw [if_neg c, hd.2.2 k (by omega) (by omega)]; exact Int.zero_emod _
          obtain ⟨J1, a1, a2, a3, a4, a5⟩ := ih (k + 1) (mj_up J (m + 25) k y) (by omega) (by rw [up_ne (by omega)]; exact hJ) (fun i hi => by
            by_cases c : i = k
            · rw [c, up_eq]; exact hy
            · rw [up_nk c]; exact h1 i (by omega))
          refine ⟨J1, fun RET hh => it_X9_layParts_53 hm (ge_f (k := 6) (by omega) (by omega) ?_), qfr_tr qfr_r a2, a3, a4.trans (by rw [up_ne (by omega)]), a5.trans (by rw [up_ne (by omega)])⟩
          have idk : ((6 : Int32) * nI j) + nI k = nI (6 * j + k) := nI_6 j k
          rw [idk, nI_clamp (show 6 * j + k < 2 ^ 31 by omega), nI_clamp (show k < 2 ^ 31 by omega), hW k (by omega)]
          exact ⟨vp_in_nI (by omega) (by decide), _, _, _, y1, vp_in_nI (by omega) (by decide), fun y9 hy9 => by rw [hy9, nI_1]; exact a1 RET hh⟩
      obtain ⟨J1, a1, a2, a3, a4, a5⟩ := lay 6 0 I0 rfl i44 (fun i hi => absurd hi (Nat.not_lt_zero i))
      have gJ : fgR m 0 (figL 0 []) J1 := ⟨a5.trans g0.1, a4.trans g0.2⟩
      have start : ∀ RET : Option Value → mjH → Prop, hd_X9_layParts_88 S RET m (nI pr) (0 : Int32) J1 L → CT mr_X9_layParts (0, 0) [.ref m, .int (nI j), .int (nI pr)] (S, I, L) RET := fun RET hh => by
        refine wp_X9_layParts hm ⟨hv4, ?_⟩
        rw [e3, ← hI0, i44, idx, nI_clamp (by omega), hW t t6]
        exact ⟨fun q => absurd (lt1.mp q) c1, fun _ => ⟨vp_in_nI (by omega) (by decide), _, _, _, x1, fun _ => a1 RET hh, fun q => absurd (hx0.mp q) c2⟩⟩
      have es : sps pr (fun k => (W k).toInt) t = match spl pr pr 0 0 r t with
          | none => none
          | some (n1, t', r') => (spq pr r' t').map (fun ls => (n1, ls)) := by
        unfold sps
        rw [if_neg c1, if_neg c2, ← hr]
        rfl
      obtain ⟨I2, b1, b2⟩ := m_lines (S := S) (L := L) hm hpr pr 0 0 r t J1 (by omega) a3 gJ (by omega) rr
      rcases b2 with ⟨b2, b3⟩ | ⟨n, t', r', b2, b3, b4, b5⟩
      · refine ⟨I2, 0, start _ b3, qfr_tr q0 (qfr_tr a2 b1), Or.inl ⟨?_, rfl⟩⟩
        rw [es, b2]
      · obtain ⟨o1, o2, o3⟩ := spl_ok pr 0 0 r t rr (fun e he => absurd he (Nat.not_lt_zero e)) n t' r' b2
        obtain ⟨I3, v, d1, d2, d3⟩ := m_quads (S := S) (L := L) hm h6 b3 b4 (by omega) o1 (fun e he => o3 e (by omega))
        refine ⟨I3, v, start _ (b5 _ d1), qfr_tr q0 (qfr_tr a2 (qfr_tr b1 d2)), ?_⟩
        rcases d3 with ⟨d3, d4⟩ | ⟨ls, d3, d4, d5⟩
        · refine Or.inl ⟨?_, d4⟩
          rw [es, b2]
          simp only
          rw [d3]; rfl
        · refine Or.inr ⟨n, ls, ?_, d4, spq_ok d3 (by omega), ?_⟩
          · rw [es, b2]
            simp only
            rw [d3]; rfl
          · rw [figL_app] at d5
            exact d5
end
