/-! COMPUTATIONS whose results are put into a slot: what they answer; the class -/
variable {S : List mjD} {I : Nat → Nat → Int32} {L : Nat → Nat → Int64}
def pSum (f g : Nat → Int64) : Nat → Int64 := fun t => f t + g t
def pDer (f : Nat → Int64) : Nat → Int64 := fun k => (nI k + 1).toInt64 * pat f (nI k + 1)
noncomputable def sp_add (A : aS) (a b c : Int32) : Int32 × aS := match fIdx A a, fIdx A b, sIdx A c with
  | some i, some j, some k => if dg (pSum (cp (ac A) i) (cp (ac A) j)) = -1 then (-103, A) else sp_settle A k (pSum (cp (ac A) i) (cp (ac A) j))
  | _, _, _ => (-101, A)
noncomputable def sp_times (A : aS) (a b c : Int32) : Int32 × aS := match fIdx A a, fIdx A b, sIdx A c with
  | some i, some j, some k => if dg (cp (ac A) i) + dg (cp (ac A) j) ≤ 5 then sp_settle A k (cv (cp (ac A) i) (cp (ac A) j)) else (-104, A)
  | _, _, _ => (-101, A)
noncomputable def sp_slope (A : aS) (a b : Int32) : Int32 × aS := match fIdx A a, sIdx A b with
  | some i, some k => if 1 ≤ dg (cp (ac A) i) then sp_settle A k (pDer (cp (ac A) i)) else (-103, A)
  | _, _ => (-101, A)
noncomputable def sp_move (A : aS) (a b c : Int32) : Int32 × aS := match fIdx A a, sIdx A c with
  | some i, some k => if b < -9 then (-102, A) else if b ≤ 9 then sp_settle A k (sh6 (cp (ac A) i) b.toInt64) else (-102, A)
  | _, _ => (-101, A)
/-- the common divisor -/
noncomputable def pCom (A : aS) (i j : Nat) : Nat → Int64 := shr (fP (gl A i)) (fun t => min (fM (gl A i) t) (mof (fP (gl A j)) (fM (gl A j)) (fP (gl A i) t) (fN (gl A j)) 0)) (fun k => if k = 0 then lN (Nat.gcd (cont (cp (ac A) i)).toInt.natAbs (cont (cp (ac A) j)).toInt.natAbs) else 0) (fN (gl A i))
noncomputable def sp_common (A : aS) (a b c : Int32) : Int32 × aS := match fIdx A a, fIdx A b, sIdx A c with
  | some i, some j, some k => sp_settle A k (pCom A i j)
  | _, _, _ => (-101, A)
theorem nz_dg {f : Nat → Int64} (h : ¬ dg f = -1) : ∃ t, t < 6 ∧ f t ≠ 0 := Classical.byContradiction fun hc => h (dg_none (fun k hk => Classical.byContradiction fun hz => hc ⟨k, hk, hz⟩))
theorem pDer_ext {f g : Nat → Int64} (h : ∀ k, k < 6 → f k = g k) (t : Nat) : pDer f t = pDer g t := by unfold pDer; rw [pat_ext h]
theorem nz_der {f : Nat → Int64} {n : Nat} (hb : bnd6 f 999) (hn : deg6 f n) (h1 : 1 ≤ n) : ∃ t, t < 6 ∧ pDer f t ≠ 0 := by
  have hn6 := hn.1
  refine ⟨n - 1, by omega, fun e => ?_⟩
  unfold pDer at e
  rw [nI_1, show n - 1 + 1 = n by omega, pat_n hn6, nI_l (by omega)] at e
  have e2 := congrArg Int64.toInt e
  have h9 := hb n hn6
  have hl : (lN n).toInt = n := t_lN (by omega)
  have hm : (lN n).toInt.natAbs * (f n).toInt.natAbs ≤ 5 * 999 := Nat.mul_le_mul (by omega) h9
  rw [t_mul (by omega), hl] at e2
  rcases Int.mul_eq_zero.mp e2 with q | q
  · omega
  · exact t_ne0 hn.2.1 q
theorem shF_top {g : Nat → Int64} {b : Int64} {n : Nat} (hn6 : n < 6) (hz : ∀ k, n < k → k < 6 → g k = 0) : ∀ s, s ≤ 6 → ∀ f : Nat → Int64, (n < s → ∀ k, k < 6 → f k = 0) → (s ≤ n → f (n - s) = g n ∧ ∀ k, n - s < k → k < 6 → f k = 0) → shF g b s f n = g n
  | 0, _, f, _, h2 => (h2 (Nat.zero_le _)).1
  | s + 1, hs, f, h1, h2 => by
    rw [shF]
    refine shF_top hn6 hz s (by omega) _ (fun hlt k hk => ?_) (fun hle => ?_)
    · have hf := h1 (by omega)
      unfold shT
      by_cases e : k = 0
      · rw [if_pos e, hf 0 (by decide), hz s hlt (by omega)]; simp
      · rw [if_neg e, hf k hk, hf (k - 1) (by omega)]; simp
    · rcases Nat.eq_or_lt_of_le hle with e | e
      · subst e
        have hf := h1 (by omega)
        refine ⟨?_, fun k hk hk6 => ?_⟩
        · rw [Nat.sub_self]; unfold shT; rw [if_pos rfl, hf 0 (by decide)]; simp
        · unfold shT; rw [if_neg (by omega), hf k hk6, hf (k - 1) (by omega)]; simp
      · obtain ⟨a1, a2⟩ := h2 (by omega)
        refine ⟨?_, fun k hk hk6 => ?_⟩
        · unfold shT
          rw [if_neg (by omega), a2 (n - s) (by omega) (by omega), show n - s - 1 = n - (s + 1) by omega, a1]; simp
        · unfold shT
          rw [if_neg (by omega), a2 k (by omega) hk6, a2 (k - 1) (by omega) (by omega)]; simp
theorem sh6_ext {g g' : Nat → Int64} {b : Int64} (h : ∀ k, k < 6 → g k = g' k) : ∀ s, s ≤ 6 → ∀ f, shF g b s f = shF g' b s f
  | 0, _, _ => rfl
  | s + 1, hs, f => by
    have e : shT g f b s = shT g' f b s := by funext k; unfold shT; rw [h s (by omega)]
    rw [shF, shF, e, sh6_ext h s (by omega)]
theorem nz_sh {f : Nat → Int64} {b : Int64} {n : Nat} (hn : deg6 f n) : ∃ t, t < 6 ∧ sh6 f b t ≠ 0 := by
  refine ⟨n, hn.1, ?_⟩
  unfold sh6
  rw [shF_top hn.1 hn.2.2 6 (Nat.le_refl _) _ (fun _ _ _ => rfl) (fun h => by have := hn.1; omega)]
  exact hn.2.1
theorem nz_cv {f g : Nat → Int64} {n d : Nat} (hf : bnd6 f 999) (hg : bnd6 g 999) (hn : deg6 f n) (hd : deg6 g d) (h5 : n + d ≤ 5) : ∃ t, t < 6 ∧ cv f g t ≠ 0 := by
  refine ⟨n + d, by omega, fun e => ?_⟩
  have hs : sA f ≤ 6 * 999 := by
    have b0 := hf 0 (by decide); have b1 := hf 1 (by decide); have b2 := hf 2 (by decide)
    have b3 := hf 3 (by decide); have b4 := hf 4 (by decide); have b5 := hf 5 (by decide)
    unfold sA; omega
  have hs2 : sA f * 999 ≤ 6 * 999 * 999 := Nat.mul_le_mul_right _ hs
  obtain ⟨c1, -⟩ := cv_int (f := f) (g := g) hg (by omega) (k := n + d) (by omega)
  have h1 := (zmul_top (rl f) (rl g) n d (deg6_zlt hn).1 (deg6_zlt hd).1).2
  rw [rl_cz _ _ (by omega), rl_co _ hn.1, rl_co _ hd.1] at h1
  have e2 : (cv f g (n + d)).toInt = (f n).toInt * (g d).toInt := by rw [c1]; exact h1
  rw [e] at e2
  rcases Int.mul_eq_zero.mp e2.symm with q | q
  · exact t_ne0 hn.2.1 q
  · exact t_ne0 hd.2.1 q
/-- t times e, as a list -/
def tmz (e : List Int) : Nat → List Int → List Int
  | 0, f => f
  | t + 1, f => tmz e t (zmul f e)
def shz (P : Nat → List Int) (T : Nat → Nat) (f : List Int) : Nat → List Int
  | 0 => f
  | i + 1 => tmz (P i) (T i) (shz P T f i)
theorem tms_tmz (e : List Int) : ∀ t (f : List Int) k, k < 6 → tms e t (il f) k = il (tmz e t f) k
  | 0, _, _, _ => rfl
  | t + 1, f, k, hk => by
    rw [tms, tmz, ← tms_tmz e t (zmul f e) k hk]
    refine tms_congr t (fun k hk => ?_) k hk
    rw [ofI_cz _ _ hk]
    show _ = Int64.ofInt (zco (zmul f e) k)
    rw [zmul_cz _ _ hk]
theorem shr_shz (P : Nat → List Int) (T : Nat → Nat) (f : List Int) : ∀ n k, k < 6 → shr P T (il f) n k = il (shz P T f n) k
  | 0, _, _ => rfl
  | n + 1, k, hk => by
    rw [shr, shz, ← tms_tmz _ _ _ k hk]
    exact tms_congr _ (fun k hk => shr_shz P T f n k hk) k hk
theorem zev_tmz (e : List Int) (x : Int) : ∀ t f, zev (tmz e t f) x = zev f x * zev e x ^ t
  | 0, f => by simp [tmz]
  | t + 1, f => by rw [tmz, zev_tmz e x t, zev_mul, Int.pow_succ]; grind
theorem zev_shz (P : Nat → List Int) (T : Nat → Nat) (f : List Int) (x : Int) : ∀ n, zev (shz P T f n) x = zev f x * fpr P T n x
  | 0 => by simp [shz, fpr]
  | n + 1 => by rw [shz, zev_tmz, zev_shz P T f x n, fpr]; grind
theorem fpr_split {P : Nat → List Int} {M T : Nat → Nat} (x : Int) : ∀ n, (∀ j, j < n → T j ≤ M j) → fpr P M n x = fpr P T n x * fpr P (fun j => M j - T j) n x
  | 0, _ => by simp [fpr]
  | n + 1, h => by
    have h1 := h n (by omega)
    rw [fpr, fpr, fpr, fpr_split x n (fun j hj => h j (by omega))]
    obtain ⟨k, hk⟩ : ∃ k, M n = T n + k := ⟨M n - T n, by omega⟩
    rw [hk, Nat.add_sub_cancel_left, Int.pow_add]; grind
theorem nz_com {A : aS} {i j : Nat} (hi : okp (cp (ac A) i)) (hj : okp (cp (ac A) j)) (hf : isF (gl A i) (fN (gl A i)) (fP (gl A i)) (fM (gl A i))) : ∃ t, t < 6 ∧ pCom A i j t ≠ 0 := by
  obtain ⟨n, hn, hdp, hpos, hbp, hc0, hc9, hcg, hm, hG⟩ := pp_ok hi
  have hn6 := hdp.1
  generalize hg : Nat.gcd (cont (cp (ac A) i)).toInt.natAbs (cont (cp (ac A) j)).toInt.natAbs = g
  have hgd : g ∣ (cont (cp (ac A) i)).toInt.natAbs := by rw [← hg]; exact Nat.gcd_dvd_left _ _
  have hg0 : 1 ≤ g := Nat.pos_of_dvd_of_pos hgd (by omega)
  have hg9 : g ≤ 999 := Nat.le_trans (Nat.le_of_dvd (by omega) hgd) hc9
  have hrow : ∀ k, k < 6 → (fun k => if k = 0 then lN g else 0 : Nat → Int64) k = il [(g : Int)] k := fun k hk => by
    have h : k = 0 ∨ k = 1 ∨ k = 2 ∨ k = 3 ∨ k = 4 ∨ k = 5 := by omega
    rcases h with rfl | rfl | rfl | rfl | rfl | rfl <;> rfl
  have hT : ∀ t, t < fN (gl A i) → min (fM (gl A i) t) (mof (fP (gl A j)) (fM (gl A j)) (fP (gl A i) t) (fN (gl A j)) 0) ≤ fM (gl A i) t := fun t _ => Nat.min_le_left _ _
  have he : ∀ x, zev (rl (pp (cp (ac A) i))) x = fpr (fP (gl A i)) (fun t => min (fM (gl A i) t) (mof (fP (gl A j)) (fM (gl A j)) (fP (gl A i) t) (fN (gl A j)) 0)) (fN (gl A i)) x * zev (fpl (fP (gl A i)) (fun t => fM (gl A i) t - min (fM (gl A i) t) (mof (fP (gl A j)) (fM (gl A j)) (fP (gl A i) t) (fN (gl A j)) 0)) (fN (gl A i))) x := fun x => by
    rw [zev_fpl, ← fpr_split x _ hT]; exact hf.2 x
  obtain ⟨hl, hc⟩ := deg6_zlt hdp
  obtain ⟨a, b, hab, ha, hb, ha0, hb0, hmm⟩ := zdeg_mul (u := fpl (fP (gl A i)) (fun t => min (fM (gl A i) t) (mof (fP (gl A j)) (fM (gl A j)) (fP (gl A i) t) (fN (gl A j)) 0)) (fN (gl A i))) (v := fpl (fP (gl A i)) (fun t => fM (gl A i) t - min (fM (gl A i) t) (mof (fP (gl A j)) (fM (gl A j)) (fP (gl A i) t) (fN (gl A j)) 0)) (fN (gl A i))) (fun x => by rw [he x, zev_fpl (fP (gl A i)) (fun t => min (fM (gl A i) t) (mof (fP (gl A j)) (fM (gl A j)) (fP (gl A i) t) (fN (gl A j)) 0)) x]) hl hc
  refine ⟨a, by omega, fun e => ?_⟩
  unfold pCom at e
  rw [hg, shr_congr _ (fun _ _ => ⟨rfl, rfl⟩) hrow a (by omega), shr_shz _ _ _ _ a (by omega)] at e
  have h2 : zco (shz (fP (gl A i)) (fun t => min (fM (gl A i) t) (mof (fP (gl A j)) (fM (gl A j)) (fP (gl A i) t) (fN (gl A j)) 0)) [(g : Int)] (fN (gl A i))) a = g * zco (fpl (fP (gl A i)) (fun t => min (fM (gl A i) t) (mof (fP (gl A j)) (fM (gl A j)) (fP (gl A i) t) (fN (gl A j)) 0)) (fN (gl A i))) a := by
    rw [← zco_sm]
    exact zev_inj (fun x => by rw [zev_shz, zev_sm, zev_fpl]; simp [zev]) a
  have hd : (zco (fpl (fP (gl A i)) (fun t => min (fM (gl A i) t) (mof (fP (gl A j)) (fM (gl A j)) (fP (gl A i) t) (fN (gl A j)) 0)) (fN (gl A i))) a).natAbs ≤ 999 := by
    have h1 := Int.natAbs_dvd_natAbs.mpr (show zco (fpl (fP (gl A i)) (fun t => min (fM (gl A i) t) (mof (fP (gl A j)) (fM (gl A j)) (fP (gl A i) t) (fN (gl A j)) 0)) (fN (gl A i))) a ∣ zco (rl (pp (cp (ac A) i))) n by rw [hmm]; exact Int.dvd_mul_right _ _)
    have h3 := Nat.le_of_dvd (by omega) h1
    rw [rl_co _ hn6] at h3
    have := hbp n hn6
    omega
  unfold il at e
  rw [h2] at e
  have hnb := nb (show (g : Int).natAbs ≤ 999 by omega) hd
  have e2 := congrArg Int64.toInt e
  rw [Int64.toInt_ofInt_of_le (by omega) (by omega)] at e2
  rcases Int.mul_eq_zero.mp e2 with q | q
  · omega
  · exact ha0 q
theorem mof_le {P : Nat → List Int} {M : Nat → Nat} {e : List Int} {B : Nat} : ∀ k i, (∀ j, i ≤ j → j < i + k → M j ≤ B) → mof P M e k i ≤ B
  | 0, _, _ => Nat.zero_le _
  | k + 1, i, h => by
    rw [mof]
    by_cases c : P i = e
    · rw [if_pos c]; exact h i (Nat.le_refl _) (by omega)
    · rw [if_neg c]; exact mof_le k (i + 1) (fun j a b => h j (by omega) (by omega))
theorem msum_ge {M : Nat → Nat} : ∀ n j, j < n → M j ≤ msum M n
  | 0, j, h => by omega
  | n + 1, j, h => by
    rw [msum]
    rcases Nat.eq_or_lt_of_le (Nat.lt_succ_iff.mp h) with e | e
    · rw [e]; omega
    · have := msum_ge (M := M) n j e; omega
theorem fM_5 {f : Nat → Int64} (hf : okp f) (h : isF (rl (pp f)) (fN (rl (pp f))) (fP (rl (pp f))) (fM (rl (pp f)))) {j : Nat} (hj : j < fN (rl (pp f))) : fM (rl (pp f)) j ≤ 5 := by
  obtain ⟨n, hn, hdp, hpos, hbp, -, -, -, -, hG⟩ := pp_ok hf
  obtain ⟨-, r, h1, h2, -⟩ := gOK_rest (R := [1]) hG h.1.1 (fun x => by rw [h.2 x]; simp [zev])
  have := msum_ge (M := fM (rl (pp f))) _ j hj
  omega
theorem ok_put {A : aS} {j : Nat} {V : Nat → Int64} (hA : aOK A) (hV : okp V) : aOK (aPut A j V) := by
  refine ok_core hA ⟨fun i hi => ?_, hA.2.2.2.2.1.2⟩
  show ck (ac A) i < 5 ∧ ((if i = j then true else cf (ac A) i) = true → okp (if i = j then V else cp (ac A) i))
  have h := hA.2.2.2.2.1.1 i hi
  by_cases e : i = j
  · rw [if_pos e, if_pos e]; exact ⟨h.1, fun _ => hV⟩
  · rw [if_neg e, if_neg e]; exact h
theorem ok_settle {A : aS} {j : Nat} {W : Nat → Int64} (hA : aOK A) (hnz : ∃ t, t < 6 ∧ W t ≠ 0) (hf : okp W → isF (rl (pp W)) (fN (rl (pp W))) (fP (rl (pp W))) (fM (rl (pp W)))) : aOK (sp_settle A j W).2 := by
  unfold sp_settle
  cases hb : inB W 6 with
  | false => exact hA
  | true =>
    rw [if_pos rfl]
    have hW : okp W := ⟨inr6_bnd.mp (inB_iff.mp hb), hnz⟩
    cases hb2 : inB (shp (ck (ac A) j) W) 6 with
    | false => exact hA
    | true => exact ok_put hA ⟨inr6_bnd.mp (inB_iff.mp hb2), shp_nz hW (hf hW)⟩
section
variable {p : Nat} {A : aS}
/-- a row in work, then a slot -/
theorem c_w {k : Nat} {W F : Nat → Int64} (hd : is_Desk S p) (hA : aOK A) (h : IC p A I L) (hk : k < 4) (hF : ∀ t, t < 6 → F t = W t) (hnz : ∃ t, t < 6 ∧ W t ≠ 0) :
    ∃ I1 L1, CTi mr_X8_settle [.ref p, .ref (p + 46 + 32 * k)] S I (mwn L (p + 8 + 1) 6 F) (sp_settle A k W).1 I1 L1 ∧ IC p (sp_settle A k W).2 I1 L1 ∧ fr (dX p) I L I1 L1 := by
  have hsc : fr (scX p) I L I (mwn L (p + 8 + 1) 6 F) := fr_L (by unfold scX; omega)
  obtain ⟨I1, L1, a1, a2, a3⟩ := c_settle (S := S) (I := I) (L := mwn L (p + 8 + 1) 6 F) (W := W) hd hA (IC_sc h hsc) hk (fun t ht => by rw [mwn_at ht]; exact hF t ht) hnz
  exact ⟨I1, L1, a1, a2, fr_tr hsc a3 (fun b hb => by
    rcases hb with hb | hb
    · exact coX_d (Or.inr (Or.inr hb))
    · exact coX_d hb)⟩
theorem c_add (hd : is_Desk S p) (hA : aOK A) (h : IC p A I L) (a b c : Int32) : ∃ I1 L1, CTi mr_X8_add [.ref p, .int a, .int b, .int c] S I L (sp_add A a b c).1 I1 L1 ∧ IC p (sp_add A a b c).2 I1 L1 ∧ fr (dX p) I L I1 L1 := by
  have ha := c_filledSlot hd hA h a
  have hb := c_filledSlot hd hA h b
  have hc := c_anySlot hd hA h c
  unfold sp_add
  cases ea : fIdx A a with
  | none =>
    rw [ea] at ha
    cases eb : fIdx A b with
    | none =>
      rw [eb] at hb
      cases ec : sIdx A c with
      | none =>
        rw [ec] at hc
        exact ⟨I, L, wp_X8_add hd ⟨_, _, _, ha, fun _ => ⟨_, _, _, hb, fun _ => ⟨_, _, _, hc, fun _ => ⟨rfl, rfl⟩, fun _ q => (by cases q)⟩, fun _ q => (by cases q)⟩, fun _ q => (by cases q)⟩, h, fr_rf⟩
      | some k =>
        obtain ⟨-, -, k4⟩ := sIdx_some hA ec
        rw [ec] at hc
        exact ⟨I, L, wp_X8_add hd ⟨_, _, _, ha, fun _ => ⟨_, _, _, hb, fun _ => ⟨_, _, _, hc, fun q => (by cases q), fun _ q => (by cases q; exact ⟨c_slotAt hd k4, rfl, rfl⟩)⟩, fun _ q => (by cases q)⟩, fun _ q => (by cases q)⟩, h, fr_rf⟩
    | some j =>
      obtain ⟨-, -, j4, -⟩ := fIdx_some hA eb
      rw [eb] at hb
      cases ec : sIdx A c with
      | none =>
        rw [ec] at hc
        exact ⟨I, L, wp_X8_add hd ⟨_, _, _, ha, fun _ => ⟨_, _, _, hb, fun q => (by cases q), fun _ q => (by cases q; exact ⟨c_slotAt hd j4, _, _, _, hc, fun _ => ⟨rfl, rfl⟩, fun _ q => (by cases q)⟩)⟩, fun _ q => (by cases q)⟩, h, fr_rf⟩
      | some k =>
        obtain ⟨-, -, k4⟩ := sIdx_some hA ec
        rw [ec] at hc
        exact ⟨I, L, wp_X8_add hd ⟨_, _, _, ha, fun _ => ⟨_, _, _, hb, fun q => (by cases q), fun _ q => (by cases q; exact ⟨c_slotAt hd j4, _, _, _, hc, fun q => (by cases q), fun _ q => (by cases q; exact ⟨c_slotAt hd k4, rfl, rfl⟩)⟩)⟩, fun _ q => (by cases q)⟩, h, fr_rf⟩
  | some i =>
    obtain ⟨-, -, i4, if'⟩ := fIdx_some hA ea
    rw [ea] at ha
    cases eb : fIdx A b with
    | none =>
      rw [eb] at hb
      cases ec : sIdx A c with
      | none =>
        rw [ec] at hc
        exact ⟨I, L, wp_X8_add hd ⟨_, _, _, ha, fun q => (by cases q), fun _ q => (by cases q; exact ⟨c_slotAt hd i4, _, _, _, hb, fun _ => ⟨_, _, _, hc, fun _ => ⟨rfl, rfl⟩, fun _ q => (by cases q)⟩, fun _ q => (by cases q)⟩)⟩, h, fr_rf⟩
      | some k =>
        obtain ⟨-, -, k4⟩ := sIdx_some hA ec
        rw [ec] at hc
        exact ⟨I, L, wp_X8_add hd ⟨_, _, _, ha, fun q => (by cases q), fun _ q => (by cases q; exact ⟨c_slotAt hd i4, _, _, _, hb, fun _ => ⟨_, _, _, hc, fun q => (by cases q), fun _ q => (by cases q; exact ⟨c_slotAt hd k4, rfl, rfl⟩)⟩, fun _ q => (by cases q)⟩)⟩, h, fr_rf⟩
    | some j =>
      obtain ⟨-, -, j4, jf'⟩ := fIdx_some hA eb
      rw [eb] at hb
      cases ec : sIdx A c with
      | none =>
        rw [ec] at hc
        exact ⟨I, L, wp_X8_add hd ⟨_, _, _, ha, fun q => (by cases q), fun _ q => (by cases q; exact ⟨c_slotAt hd i4, _, _, _, hb, fun q => (by cases q), fun _ q => (by cases q; exact ⟨c_slotAt hd j4, _, _, _, hc, fun _ => ⟨rfl, rfl⟩, fun _ q => (by cases q)⟩)⟩)⟩, h, fr_rf⟩
      | some k =>
        obtain ⟨-, -, k4⟩ := sIdx_some hA ec
        rw [ec] at hc
        have si := c_slotAt hd i4
        have sj := c_slotAt hd j4
        have sk := c_slotAt hd k4
        have hwk : is_Poly S (p + 8) := hd.2.2.2.2.1
        obtain ⟨pi, fi, ri⟩ := c_filled h i4 if'
        obtain ⟨pj, fj, rj⟩ := c_filled h j4 jf'
        have oi := (hA.2.2.2.2.1.1 i i4).2 if'
        have oj := (hA.2.2.2.2.1.1 j j4).2 jf'
        -- what is to be shown behind the slots
        have go : ∀ {RET : Option Value → mjH → Prop}, (∃ I65 L66, CTv mr_X5_sumFrom [.ref (p + 8), .ref (p + 46 + 32 * i + 1), .ref (p + 46 + 32 * j + 1)] S I L I65 L66 ∧ ∃ r69 I70 L71, CTi mr_X5_degree [.ref (p + 8)] S I65 L66 r69 I70 L71 ∧ ((¬ r69 = (-1 : Int32) → ∃ r76 I77 L78, CTi mr_X8_settle [.ref p, .ref (p + 46 + 32 * k)] S I70 L71 r76 I77 L78 ∧ RET (some (.int r76)) (S, I77, L78)) ∧ (r69 = (-1 : Int32) → RET (some (.int (-103 : Int32))) (S, I70, L71)))) → CT mr_X8_add (0, 0) [.ref p, .int a, .int b, .int c] (S, I, L) RET := fun {RET} hk => wp_X8_add hd ⟨_, _, _, ha, fun q => (by cases q), fun _ q => (by cases q; exact ⟨si, _, _, _, hb, fun q => (by cases q), fun _ q => (by cases q; exact ⟨sj, _, _, _, hc, fun q => (by cases q), fun _ q => (by cases q; exact ⟨sk, hk⟩)⟩)⟩)⟩
        have c1 := s_sumFrom (S := S) (I := I) (L := L) hwk si.2.1 sj.2.1
        have hF : ∀ t, t < 6 → (fun t => L (p + 46 + 32 * i + 1 + 1) t + L (p + 46 + 32 * j + 1 + 1) t) t = pSum (cp (ac A) i) (cp (ac A) j) t := fun t ht => by
          show L _ t + L _ t = _
          rw [pi t ht, pj t ht]; rfl
        have c2 := s_degree (S := S) (I := I) (L := mwn L (p + 8 + 1) 6 (fun t => L (p + 46 + 32 * i + 1 + 1) t + L (p + 46 + 32 * j + 1 + 1) t)) hwk
        rw [dg_ext (g := pSum (cp (ac A) i) (cp (ac A) j)) (fun t ht => by rw [mwn_at ht]; exact hF t ht)] at c2
        by_cases hz : dg (pSum (cp (ac A) i) (cp (ac A) j)) = -1
        · simp only [if_pos hz]
          exact ⟨I, _, go ⟨_, _, c1, _, _, _, c2, fun q => absurd hz q, fun _ => ⟨rfl, rfl⟩⟩, IC_sc h (fr_L (by unfold scX; omega)), fr_L (by unfold dX; omega)⟩
        · simp only [if_neg hz]
          obtain ⟨I1, L1, k1, k2, k3⟩ := c_w (S := S) (I := I) (L := L) hd hA h k4 hF (nz_dg hz)
          exact ⟨I1, L1, go ⟨_, _, c1, _, _, _, c2, fun _ => ⟨_, _, _, k1, rfl, rfl⟩, fun q => absurd q hz⟩, k2, k3⟩
theorem c_times (hd : is_Desk S p) (hA : aOK A) (h : IC p A I L) (a b c : Int32) : ∃ I1 L1, CTi mr_X8_times [.ref p, .int a, .int b, .int c] S I L (sp_times A a b c).1 I1 L1 ∧ IC p (sp_times A a b c).2 I1 L1 ∧ fr (dX p) I L I1 L1 := by
  have ha := c_filledSlot hd hA h a
  have hb := c_filledSlot hd hA h b
  have hc := c_anySlot hd hA h c
  unfold sp_times
  cases ea : fIdx A a with
  | none =>
    rw [ea] at ha
    cases eb : fIdx A b with
    | none =>
      rw [eb] at hb
      cases ec : sIdx A c with
      | none =>
        rw [ec] at hc
        exact ⟨I, L, wp_X8_times hd ⟨_, _, _, ha, fun _ => ⟨_, _, _, hb, fun _ => ⟨_, _, _, hc, fun _ => ⟨rfl, rfl⟩, fun _ q => (by cases q)⟩, fun _ q => (by cases q)⟩, fun _ q => (by cases q)⟩, h, fr_rf⟩
      | some k =>
        obtain ⟨-, -, k4⟩ := sIdx_some hA ec
        rw [ec] at hc
        exact ⟨I, L, wp_X8_times hd ⟨_, _, _, ha, fun _ => ⟨_, _, _, hb, fun _ => ⟨_, _, _, hc, fun q => (by cases q), fun _ q => (by cases q; exact ⟨c_slotAt hd k4, rfl, rfl⟩)⟩, fun _ q => (by cases q)⟩, fun _ q => (by cases q)⟩, h, fr_rf⟩
    | some j =>
      obtain ⟨-, -, j4, -⟩ := fIdx_some hA eb
      rw [eb] at hb
      cases ec : sIdx A c with
      | none =>
        rw [ec] at hc
        exact ⟨I, L, wp_X8_times hd ⟨_, _, _, ha, fun _ => ⟨_, _, _, hb, fun q => (by cases q), fun _ q => (by cases q; exact ⟨c_slotAt hd j4, _, _, _, hc, fun _ => ⟨rfl, rfl⟩, fun _ q => (by cases q)⟩)⟩, fun _ q => (by cases q)⟩, h, fr_rf⟩
      | some k =>
        obtain ⟨-, -, k4⟩ := sIdx_some hA ec
        rw [ec] at hc
        exact ⟨I, L, wp_X8_times hd ⟨_, _, _, ha, fun _ => ⟨_, _, _, hb, fun q => (by cases q), fun _ q => (by cases q; exact ⟨c_slotAt hd j4, _, _, _, hc, fun q => (by cases q), fun _ q => (by cases q; exact ⟨c_slotAt hd k4, rfl, rfl⟩)⟩)⟩, fun _ q => (by cases q)⟩, h, fr_rf⟩
  | some i =>
    obtain ⟨-, -, i4, if'⟩ := fIdx_some hA ea
    rw [ea] at ha
    cases eb : fIdx A b with
    | none =>
      rw [eb] at hb
      cases ec : sIdx A c with
      | none =>
        rw [ec] at hc
        exact ⟨I, L, wp_X8_times hd ⟨_, _, _, ha, fun q => (by cases q), fun _ q => (by cases q; exact ⟨c_slotAt hd i4, _, _, _, hb, fun _ => ⟨_, _, _, hc, fun _ => ⟨rfl, rfl⟩, fun _ q => (by cases q)⟩, fun _ q => (by cases q)⟩)⟩, h, fr_rf⟩
      | some k =>
        obtain ⟨-, -, k4⟩ := sIdx_some hA ec
        rw [ec] at hc
        exact ⟨I, L, wp_X8_times hd ⟨_, _, _, ha, fun q => (by cases q), fun _ q => (by cases q; exact ⟨c_slotAt hd i4, _, _, _, hb, fun _ => ⟨_, _, _, hc, fun q => (by cases q), fun _ q => (by cases q; exact ⟨c_slotAt hd k4, rfl, rfl⟩)⟩, fun _ q => (by cases q)⟩)⟩, h, fr_rf⟩
    | some j =>
      obtain ⟨-, -, j4, jf'⟩ := fIdx_some hA eb
      rw [eb] at hb
      cases ec : sIdx A c with
      | none =>
        rw [ec] at hc
        exact ⟨I, L, wp_X8_times hd ⟨_, _, _, ha, fun q => (by cases q), fun _ q => (by cases q; exact ⟨c_slotAt hd i4, _, _, _, hb, fun q => (by cases q), fun _ q => (by cases q; exact ⟨c_slotAt hd j4, _, _, _, hc, fun _ => ⟨rfl, rfl⟩, fun _ q => (by cases q)⟩)⟩)⟩, h, fr_rf⟩
      | some k =>
        obtain ⟨-, -, k4⟩ := sIdx_some hA ec
        rw [ec] at hc
        have si := c_slotAt hd i4
        have sj := c_slotAt hd j4
        have sk := c_slotAt hd k4
        have hwk : is_Poly S (p + 8) := hd.2.2.2.2.1
        obtain ⟨pi, fi, ri⟩ := c_filled h i4 if'
        obtain ⟨pj, fj, rj⟩ := c_filled h j4 jf'
        have oi := (hA.2.2.2.2.1.1 i i4).2 if'
        have oj := (hA.2.2.2.2.1.1 j j4).2 jf'
        -- what is to be shown behind the slots
        have go : ∀ {RET : Option Value → mjH → Prop}, (∃ r64 I65 L66, CTi mr_X5_degree [.ref (p + 46 + 32 * i + 1)] S I L r64 I65 L66 ∧ ∃ r69 I70 L71, CTi mr_X5_degree [.ref (p + 46 + 32 * j + 1)] S I65 L66 r69 I70 L71 ∧ (((r64 + r69) ≤ (5 : Int32) → ∃ I77 L78, CTv mr_X5_copyFrom [.ref (p + 8), .ref (p + 46 + 32 * i + 1)] S I70 L71 I77 L78 ∧ ∃ I82 L83, CTv mr_X5_multiplyBy [.ref (p + 8), .ref (p + 46 + 32 * j + 1)] S I77 L78 I82 L83 ∧ ∃ r86 I87 L88, CTi mr_X8_settle [.ref p, .ref (p + 46 + 32 * k)] S I82 L83 r86 I87 L88 ∧ RET (some (.int r86)) (S, I87, L88)) ∧ (¬ (r64 + r69) ≤ (5 : Int32) → RET (some (.int (-104 : Int32))) (S, I70, L71)))) → CT mr_X8_times (0, 0) [.ref p, .int a, .int b, .int c] (S, I, L) RET := fun {RET} hk => wp_X8_times hd ⟨_, _, _, ha, fun q => (by cases q), fun _ q => (by cases q; exact ⟨si, _, _, _, hb, fun q => (by cases q), fun _ q => (by cases q; exact ⟨sj, _, _, _, hc, fun q => (by cases q), fun _ q => (by cases q; exact ⟨sk, hk⟩)⟩)⟩)⟩
        have c1 := s_degree (S := S) (I := I) (L := L) si.2.1
        have c2 := s_degree (S := S) (I := I) (L := L) sj.2.1
        rw [dg_ext pi] at c1
        rw [dg_ext pj] at c2
        by_cases hz : dg (cp (ac A) i) + dg (cp (ac A) j) ≤ 5
        · simp only [if_pos hz]
          obtain ⟨n, n6, hn, hdn⟩ := dg_pos oi
          obtain ⟨d, d6, hd', hdd⟩ := dg_pos oj
          have h5 : n + d ≤ 5 := by
            rw [hn, hd', nI_add] at hz
            exact (nI_leI (b := 5) (by omega) (by decide)).mp hz
          have c3 := s_copy (S := S) (I := I) (L := L) hwk si.2.1
          have c4 := s_multiplyBy (S := S) (I := I) (L := mwn L (p + 8 + 1) 6 (L (p + 46 + 32 * i + 1 + 1))) hwk sj.2.1 (by omega)
          rw [mwn_mwn, mwn_ne (b := p + 46 + 32 * j + 1 + 1) (by omega)] at c4
          obtain ⟨I1, L1, k1, k2, k3⟩ := c_w (S := S) (I := I) (L := L) (W := cv (cp (ac A) i) (cp (ac A) j)) (F := cv (mwn L (p + 8 + 1) 6 (L (p + 46 + 32 * i + 1 + 1)) (p + 8 + 1)) (L (p + 46 + 32 * j + 1 + 1))) hd hA h k4 (fun t ht => cv_congr6 ht (fun s hs => by rw [mwn_at hs]; exact pi s hs) pj) (nz_cv oi.1 oj.1 hdn hdd h5)
          exact ⟨I1, L1, go ⟨_, _, _, c1, _, _, _, c2, fun _ => ⟨_, _, c3, _, _, c4, _, _, _, k1, rfl, rfl⟩, fun q => absurd hz q⟩, k2, k3⟩
        · simp only [if_neg hz]
          exact ⟨I, L, go ⟨_, _, _, c1, _, _, _, c2, fun q => absurd q hz, fun _ => ⟨rfl, rfl⟩⟩, h, fr_rf⟩
theorem c_common (hd : is_Desk S p) (hA : aOK A) (h : IC p A I L) (a b c : Int32) : ∃ I1 L1, CTi mr_X8_common [.ref p, .int a, .int b, .int c] S I L (sp_common A a b c).1 I1 L1 ∧ IC p (sp_common A a b c).2 I1 L1 ∧ fr (dX p) I L I1 L1 := by
  have ha := c_filledSlot hd hA h a
  have hb := c_filledSlot hd hA h b
  have hc := c_anySlot hd hA h c
  unfold sp_common
  cases ea : fIdx A a with
  | none =>
    rw [ea] at ha
    cases eb : fIdx A b with
    | none =>
      rw [eb] at hb
      cases ec : sIdx A c with
      | none =>
        rw [ec] at hc
        exact ⟨I, L, wp_X8_common hd ⟨_, _, _, ha, fun _ => ⟨_, _, _, hb, fun _ => ⟨_, _, _, hc, fun _ => ⟨rfl, rfl⟩, fun _ q => (by cases q)⟩, fun _ q => (by cases q)⟩, fun _ q => (by cases q)⟩, h, fr_rf⟩
      | some k =>
        obtain ⟨-, -, k4⟩ := sIdx_some hA ec
        rw [ec] at hc
        exact ⟨I, L, wp_X8_common hd ⟨_, _, _, ha, fun _ => ⟨_, _, _, hb, fun _ => ⟨_, _, _, hc, fun q => (by cases q), fun _ q => (by cases q; exact ⟨c_slotAt hd k4, rfl, rfl⟩)⟩, fun _ q => (by cases q)⟩, fun _ q => (by cases q)⟩, h, fr_rf⟩
    | some j =>
      obtain ⟨-, -, j4, -⟩ := fIdx_some hA eb
      rw [eb] at hb
      cases ec : sIdx A c with
      | none =>
        rw [ec] at hc
        exact ⟨I, L, wp_X8_common hd ⟨_, _, _, ha, fun _ => ⟨_, _, _, hb, fun q => (by cases q), fun _ q => (by cases q; exact ⟨c_slotAt hd j4, _, _, _, hc, fun _ => ⟨rfl, rfl⟩, fun _ q => (by cases q)⟩)⟩, fun _ q => (by cases q)⟩, h, fr_rf⟩
      | some k =>
        obtain ⟨-, -, k4⟩ := sIdx_some hA ec
        rw [ec] at hc
        exact ⟨I, L, wp_X8_common hd ⟨_, _, _, ha, fun _ => ⟨_, _, _, hb, fun q => (by cases q), fun _ q => (by cases q; exact ⟨c_slotAt hd j4, _, _, _, hc, fun q => (by cases q), fun _ q => (by cases q; exact ⟨c_slotAt hd k4, rfl, rfl⟩)⟩)⟩, fun _ q => (by cases q)⟩, h, fr_rf⟩
  | some i =>
    obtain ⟨-, -, i4, if'⟩ := fIdx_some hA ea
    rw [ea] at ha
    cases eb : fIdx A b with
    | none =>
      rw [eb] at hb
      cases ec : sIdx A c with
      | none =>
        rw [ec] at hc
        exact ⟨I, L, wp_X8_common hd ⟨_, _, _, ha, fun q => (by cases q), fun _ q => (by cases q; exact ⟨c_slotAt hd i4, _, _, _, hb, fun _ => ⟨_, _, _, hc, fun _ => ⟨rfl, rfl⟩, fun _ q => (by cases q)⟩, fun _ q => (by cases q)⟩)⟩, h, fr_rf⟩
      | some k =>
        obtain ⟨-, -, k4⟩ := sIdx_some hA ec
        rw [ec] at hc
        exact ⟨I, L, wp_X8_common hd ⟨_, _, _, ha, fun q => (by cases q), fun _ q => (by cases q; exact ⟨c_slotAt hd i4, _, _, _, hb, fun _ => ⟨_, _, _, hc, fun q => (by cases q), fun _ q => (by cases q; exact ⟨c_slotAt hd k4, rfl, rfl⟩)⟩, fun _ q => (by cases q)⟩)⟩, h, fr_rf⟩
    | some j =>
      obtain ⟨-, -, j4, jf'⟩ := fIdx_some hA eb
      rw [eb] at hb
      cases ec : sIdx A c with
      | none =>
        rw [ec] at hc
        exact ⟨I, L, wp_X8_common hd ⟨_, _, _, ha, fun q => (by cases q), fun _ q => (by cases q; exact ⟨c_slotAt hd i4, _, _, _, hb, fun q => (by cases q), fun _ q => (by cases q; exact ⟨c_slotAt hd j4, _, _, _, hc, fun _ => ⟨rfl, rfl⟩, fun _ q => (by cases q)⟩)⟩)⟩, h, fr_rf⟩
      | some k =>
        obtain ⟨-, -, k4⟩ := sIdx_some hA ec
        rw [ec] at hc
        have si := c_slotAt hd i4
        have sj := c_slotAt hd j4
        have sk := c_slotAt hd k4
        have hwk : is_Poly S (p + 8) := hd.2.2.2.2.1
        obtain ⟨pi, fi, ri⟩ := c_filled h i4 if'
        obtain ⟨pj, fj, rj⟩ := c_filled h j4 jf'
        have oi := (hA.2.2.2.2.1.1 i i4).2 if'
        have oj := (hA.2.2.2.2.1.1 j j4).2 jf'
        -- what is to be shown behind the slots
        have go : ∀ {RET : Option Value → mjH → Prop}, (∃ r64 I65 L66, CTl mr_X5_content [.ref (p + 46 + 32 * i + 1)] S I L r64 I65 L66 ∧ ∃ r69 I70 L71, CTl mr_X5_content [.ref (p + 46 + 32 * j + 1)] S I65 L66 r69 I70 L71 ∧ ∃ r74 I75 L76, CTl mr_X5_commonDivisor [.long r64, .long r69] S I70 L71 r74 I75 L76 ∧ ∃ I80 L81, CTv mr_X5_setConstant [.ref (p + 8), .long r74] S I75 L76 I80 L81 ∧ ∃ I85 L86, CTv mr_X1_multiplyShared [.ref (p + 46 + 32 * i + 3), .ref (p + 46 + 32 * j + 3), .ref (p + 8)] S I80 L81 I85 L86 ∧ ∃ r89 I90 L91, CTi mr_X8_settle [.ref p, .ref (p + 46 + 32 * k)] S I85 L86 r89 I90 L91 ∧ RET (some (.int r89)) (S, I90, L91)) → CT mr_X8_common (0, 0) [.ref p, .int a, .int b, .int c] (S, I, L) RET := fun {RET} hk => wp_X8_common hd ⟨_, _, _, ha, fun q => (by cases q), fun _ q => (by cases q; exact ⟨si, _, _, _, hb, fun q => (by cases q), fun _ q => (by cases q; exact ⟨sj, _, _, _, hc, fun q => (by cases q), fun _ q => (by cases q; exact ⟨sk, hk⟩)⟩)⟩)⟩
        obtain ⟨ni, -, -, -, -, ci0, ci9, -, -, -⟩ := pp_ok oi
        obtain ⟨nj, -, -, -, -, cj0, cj9, -, -, -⟩ := pp_ok oj
        have c1 := s_content (S := S) (I := I) (L := L) si.2.1 (fun t ht => by rw [pi t ht]; exact Nat.le_trans (oi.1 t ht) (by decide))
        have c2 := s_content (S := S) (I := I) (L := L) sj.2.1 (fun t ht => by rw [pj t ht]; exact Nat.le_trans (oj.1 t ht) (by decide))
        rw [cont_ext pi] at c1
        rw [cont_ext pj] at c2
        have c3 := s_commonDivisor (S := S) (I := I) (L := L) (a := cont (cp (ac A) i)) (b := cont (cp (ac A) j)) (by omega) (by omega)
        have c4 := s_setConstant (S := S) (I := I) (L := L) hwk (lN (Nat.gcd (cont (cp (ac A) i)).toInt.natAbs (cont (cp (ac A) j)).toInt.natAbs))
        obtain ⟨F0, hF0⟩ : ∃ F0 : Nat → Int64, F0 = fun k => if k = 0 then lN (Nat.gcd (cont (cp (ac A) i)).toInt.natAbs (cont (cp (ac A) j)).toInt.natAbs) else 0 := ⟨_, rfl⟩
        rw [← hF0] at c4
        have hsc : fr (fun b => b = p + 8 + 1) I L I (mwn L (p + 8 + 1) 6 F0) := fr_L rfl
        have hNi : fRep (p + 46 + 32 * i + 3) (fN (gl A i)) (fP (gl A i)) (fun t => if t < fN (gl A i) then fM (gl A i) t else 0) I (mwn L (p + 8 + 1) 6 F0) := fRep_congr (fRep_fr ri hsc (fun b hb z => by unfold fX at hb; omega)) (fun t ht => ⟨rfl, (if_pos ht).symm⟩)
        have hNj := fRep_fr rj hsc (fun b hb z => by unfold fX at hb; omega)
        have c5 := s_multShared (S := S) (I := I) (L := mwn L (p + 8 + 1) 6 F0) (p := p + 46 + 32 * i + 3) (q := p + 46 + 32 * j + 3) (r := p + 8) si.2.2 sj.2.2 hwk (by omega) (by omega) hNi hNj (fun t => by
          show (if t < fN (gl A i) then fM (gl A i) t else 0) < 2 ^ 31
          by_cases ht : t < fN (gl A i)
          · rw [if_pos ht]; have := fM_5 oi fi ht; unfold gl; omega
          · rw [if_neg ht]; decide) (fun e => by
          have := mof_le (P := fP (rl (pp (cp (ac A) j)))) (M := fM (rl (pp (cp (ac A) j)))) (e := e) (B := 5) (fN (rl (pp (cp (ac A) j)))) 0 (fun t _ ht => fM_5 oj fj (by omega))
          omega)
        rw [mwn_mwn] at c5
        obtain ⟨I1, L1, k1, k2, k3⟩ := c_w (S := S) (I := I) (L := L) (W := pCom A i j) (F := shr (fP (gl A i)) (fun t => min (if t < fN (gl A i) then fM (gl A i) t else 0) (mof (fP (gl A j)) (fM (gl A j)) (fP (gl A i) t) (fN (gl A j)) 0)) (mwn L (p + 8 + 1) 6 F0 (p + 8 + 1)) (fN (gl A i))) hd hA h k4 (fun t ht => by
          unfold pCom
          refine shr_congr _ (fun s hs => ⟨rfl, by rw [if_pos hs]⟩) (fun s hs => ?_) t ht
          rw [mwn_at hs, hF0]) (nz_com oi oj fi)
        exact ⟨I1, L1, go ⟨_, _, _, c1, _, _, _, c2, _, _, _, c3, _, _, c4, _, _, c5, _, _, _, k1, rfl, rfl⟩, k2, k3⟩
theorem c_slope (hd : is_Desk S p) (hA : aOK A) (h : IC p A I L) (a b : Int32) : ∃ I1 L1, CTi mr_X8_slope [.ref p, .int a, .int b] S I L (sp_slope A a b).1 I1 L1 ∧ IC p (sp_slope A a b).2 I1 L1 ∧ fr (dX p) I L I1 L1 := by
  have ha := c_filledSlot hd hA h a
  have hc := c_anySlot hd hA h b
  unfold sp_slope
  cases ea : fIdx A a with
  | none =>
    rw [ea] at ha
    cases ec : sIdx A b with
    | none =>
      rw [ec] at hc
      exact ⟨I, L, wp_X8_slope hd ⟨_, _, _, ha, fun _ => ⟨_, _, _, hc, fun _ => ⟨rfl, rfl⟩, fun _ q => (by cases q)⟩, fun _ q => (by cases q)⟩, h, fr_rf⟩
    | some k =>
      obtain ⟨-, -, k4⟩ := sIdx_some hA ec
      rw [ec] at hc
      exact ⟨I, L, wp_X8_slope hd ⟨_, _, _, ha, fun _ => ⟨_, _, _, hc, fun q => (by cases q), fun _ q => (by cases q; exact ⟨c_slotAt hd k4, rfl, rfl⟩)⟩, fun _ q => (by cases q)⟩, h, fr_rf⟩
  | some i =>
    obtain ⟨-, -, i4, if'⟩ := fIdx_some hA ea
    rw [ea] at ha
    cases ec : sIdx A b with
    | none =>
      rw [ec] at hc
      exact ⟨I, L, wp_X8_slope hd ⟨_, _, _, ha, fun q => (by cases q), fun _ q => (by cases q; exact ⟨c_slotAt hd i4, _, _, _, hc, fun _ => ⟨rfl, rfl⟩, fun _ q => (by cases q)⟩)⟩, h, fr_rf⟩
    | some k =>
      obtain ⟨-, -, k4⟩ := sIdx_some hA ec
      rw [ec] at hc
      have si := c_slotAt hd i4
      have sk := c_slotAt hd k4
      have hwk : is_Poly S (p + 8) := hd.2.2.2.2.1
      obtain ⟨pi, fi, ri⟩ := c_filled h i4 if'
      have oi := (hA.2.2.2.2.1.1 i i4).2 if'
      obtain ⟨n, n6, hn, hdn⟩ := dg_pos oi
      have go : ∀ {RET : Option Value → mjH → Prop}, (∃ r28 I29 L30, CTi mr_X5_degree [.ref (p + 46 + 32 * i + 1)] S I L r28 I29 L30 ∧ (((1 : Int32) ≤ r28 → ∃ I36 L37, CTv mr_X5_derivativeFrom [.ref (p + 8), .ref (p + 46 + 32 * i + 1)] S I29 L30 I36 L37 ∧ ∃ r40 I41 L42, CTi mr_X8_settle [.ref p, .ref (p + 46 + 32 * k)] S I36 L37 r40 I41 L42 ∧ RET (some (.int r40)) (S, I41, L42)) ∧ (¬ (1 : Int32) ≤ r28 → RET (some (.int (-103 : Int32))) (S, I29, L30)))) → CT mr_X8_slope (0, 0) [.ref p, .int a, .int b] (S, I, L) RET := fun {RET} hk => wp_X8_slope hd ⟨_, _, _, ha, fun q => (by cases q), fun _ q => (by cases q; exact ⟨si, _, _, _, hc, fun q => (by cases q), fun _ q => (by cases q; exact ⟨sk, hk⟩)⟩)⟩
      have c1 := s_degree (S := S) (I := I) (L := L) si.2.1
      rw [dg_ext pi] at c1
      by_cases hz : 1 ≤ dg (cp (ac A) i)
      · simp only [if_pos hz]
        have h1 : 1 ≤ n := by
          rw [hn] at hz
          exact (nI_leI (a := 1) (by decide) (by omega)).mp hz
        have c2 := s_derivativeFrom (S := S) (I := I) (L := L) hwk si.2.1 (by omega)
        obtain ⟨I1, L1, k1, k2, k3⟩ := c_w (S := S) (I := I) (L := L) (W := pDer (cp (ac A) i)) (F := fun k => (nI k + 1).toInt64 * pat (L (p + 46 + 32 * i + 1 + 1)) (nI k + 1)) hd hA h k4 (fun t ht => pDer_ext pi t) (nz_der oi.1 hdn h1)
        exact ⟨I1, L1, go ⟨_, _, _, c1, fun _ => ⟨_, _, c2, _, _, _, k1, rfl, rfl⟩, fun q => absurd hz q⟩, k2, k3⟩
      · simp only [if_neg hz]
        exact ⟨I, L, go ⟨_, _, _, c1, fun q => absurd q hz, fun _ => ⟨rfl, rfl⟩⟩, h, fr_rf⟩
theorem c_move (hd : is_Desk S p) (hA : aOK A) (h : IC p A I L) (a b c : Int32) : ∃ I1 L1, CTi mr_X8_move [.ref p, .int a, .int b, .int c] S I L (sp_move A a b c).1 I1 L1 ∧ IC p (sp_move A a b c).2 I1 L1 ∧ fr (dX p) I L I1 L1 := by
  have ha := c_filledSlot hd hA h a
  have hc := c_anySlot hd hA h c
  unfold sp_move
  cases ea : fIdx A a with
  | none =>
    rw [ea] at ha
    cases ec : sIdx A c with
    | none =>
      rw [ec] at hc
      exact ⟨I, L, wp_X8_move hd ⟨_, _, _, ha, fun _ => ⟨_, _, _, hc, fun _ => ⟨rfl, rfl⟩, fun _ q => (by cases q)⟩, fun _ q => (by cases q)⟩, h, fr_rf⟩
    | some k =>
      obtain ⟨-, -, k4⟩ := sIdx_some hA ec
      rw [ec] at hc
      exact ⟨I, L, wp_X8_move hd ⟨_, _, _, ha, fun _ => ⟨_, _, _, hc, fun q => (by cases q), fun _ q => (by cases q; exact ⟨c_slotAt hd k4, rfl, rfl⟩)⟩, fun _ q => (by cases q)⟩, h, fr_rf⟩
  | some i =>
    obtain ⟨-, -, i4, if'⟩ := fIdx_some hA ea
    rw [ea] at ha
    cases ec : sIdx A c with
    | none =>
      rw [ec] at hc
      exact ⟨I, L, wp_X8_move hd ⟨_, _, _, ha, fun q => (by cases q), fun _ q => (by cases q; exact ⟨c_slotAt hd i4, _, _, _, hc, fun _ => ⟨rfl, rfl⟩, fun _ q => (by cases q)⟩)⟩, h, fr_rf⟩
    | some k =>
      obtain ⟨-, -, k4⟩ := sIdx_some hA ec
      rw [ec] at hc
      have si := c_slotAt hd i4
      have sk := c_slotAt hd k4
      have hwk : is_Poly S (p + 8) := hd.2.2.2.2.1
      obtain ⟨pi, fi, ri⟩ := c_filled h i4 if'
      have oi := (hA.2.2.2.2.1.1 i i4).2 if'
      obtain ⟨n, n6, hn, hdn⟩ := dg_pos oi
      have go : ∀ {RET : Option Value → mjH → Prop}, ((b < (-9 : Int32) → RET (some (.int (-102 : Int32))) (S, I, L)) ∧ (¬ b < (-9 : Int32) → ((b ≤ (9 : Int32) → ∃ I34 L35, CTv mr_X5_shiftFrom [.ref (p + 8), .ref (p + 46 + 32 * i + 1), .int b] S I L I34 L35 ∧ ∃ r38 I39 L40, CTi mr_X8_settle [.ref p, .ref (p + 46 + 32 * k)] S I34 L35 r38 I39 L40 ∧ RET (some (.int r38)) (S, I39, L40)) ∧ (¬ b ≤ (9 : Int32) → RET (some (.int (-102 : Int32))) (S, I, L))))) → CT mr_X8_move (0, 0) [.ref p, .int a, .int b, .int c] (S, I, L) RET := fun {RET} hk => wp_X8_move hd ⟨_, _, _, ha, fun q => (by cases q), fun _ q => (by cases q; exact ⟨si, _, _, _, hc, fun q => (by cases q), fun _ q => (by cases q; exact ⟨sk, hk⟩)⟩)⟩
      by_cases b1 : b < -9
      · simp only [if_pos b1]
        exact ⟨I, L, go ⟨fun _ => ⟨rfl, rfl⟩, fun q => absurd b1 q⟩, h, fr_rf⟩
      · by_cases b2 : b ≤ 9
        · simp only [if_neg b1, if_pos b2]
          have c2 := s_shiftFrom (S := S) (I := I) (L := L) hwk si.2.1 (by omega) b
          have e : sh6 (L (p + 46 + 32 * i + 1 + 1)) b.toInt64 = sh6 (cp (ac A) i) b.toInt64 := sh6_ext pi 6 (Nat.le_refl _) _
          rw [e] at c2
          obtain ⟨I1, L1, k1, k2, k3⟩ := c_w (S := S) (I := I) (L := L) (W := sh6 (cp (ac A) i) b.toInt64) (F := sh6 (cp (ac A) i) b.toInt64) hd hA h k4 (fun t ht => rfl) (nz_sh hdn)
          exact ⟨I1, L1, go ⟨fun q => absurd q b1, fun _ => ⟨fun _ => ⟨_, _, c2, _, _, _, k1, rfl, rfl⟩, fun q => absurd b2 q⟩⟩, k2, k3⟩
        · simp only [if_neg b1, if_neg b2]
          exact ⟨I, L, go ⟨fun q => absurd q b1, fun _ => ⟨fun q => absurd q b2, fun _ => ⟨rfl, rfl⟩⟩⟩, h, fr_rf⟩
end
