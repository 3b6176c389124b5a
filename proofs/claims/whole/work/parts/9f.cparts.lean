/-! BY PRIMES: the class's figures out of its counts; parts, degrees -/
variable {S : List mjD} {I : Nat → Nat → Int32} {L : Nat → Nat → Int64}
def figL (n1 : Nat) (ls : List Nat) : Nat := (List.replicate n1 1 ++ ls).foldl (fun a d => 10 * a + d) 0
def smI (x : Int32) (d : Nat) : Int32 := x ||| (x <<< (nI d &&& 31))
def sumL (n1 : Nat) (ls : List Nat) : Int32 := (List.replicate n1 1 ++ ls).foldl smI 1
def cSm (C : Nat → Nat) : Nat → Nat → Nat
  | 0, _ => 0
  | w + 1, d => C d + cSm C w (d + 1)
def dgI (d : Nat) : Nat → Int32 → Int32
  | 0, x => x
  | n + 1, x => dgI d n ((10 * x) + nI d)
def dgO (C : Nat → Nat) : Nat → Nat → Int32 → Int32
  | 0, _, x => x
  | w + 1, d, x => dgO C w (d + 1) (dgI d (C d) x)
def sgI (d : Nat) : Nat → Int32 → Int32
  | 0, x => x
  | n + 1, x => sgI d n (smI x d)
def sgO (C : Nat → Nat) : Nat → Nat → Int32 → Int32
  | 0, _, x => x
  | w + 1, d, x => sgO C w (d + 1) (sgI d (C d) x)
theorem fin_cnt : ∀ n1, n1 < 6 → ∀ ls ∈ fml, cSm (cls n1 ls) 5 1 = n1 + ls.length := by decide +kernel
theorem fin_dig : ∀ n1, n1 < 6 → ∀ ls ∈ fml, dgO (cls n1 ls) 5 1 0 = nI (figL n1 ls) := by decide +kernel
theorem fin_sum : ∀ n1, n1 < 6 → ∀ ls ∈ fml, sgO (cls n1 ls) 5 1 1 = sumL n1 ls := by decide +kernel
theorem fin_C : ∀ n1, n1 < 6 → ∀ ls ∈ fml, ∀ d, d < 6 → cls n1 ls d < 100 := by decide +kernel
section
variable {p : Nat} {C : Nat → Nat}
theorem x_countAll (hp : is_Parts S p) (hC : cntR p C I) : CTi mr_X4_countAll [.ref p] S I L (nI (cSm C 5 1)) I L := by
  have key : ∀ w d acc, d + w = 6 → hd_X4_countAll_4 S (fun v h => v = some (.int (nI (acc + cSm C w d))) ∧ h = (S, I, L)) p (nI acc) (nI d) I L := by
    intro w
    induction w with
    | zero =>
      intro d acc hd
      exact it_X4_countAll_4 hp ⟨fun _ => ⟨rfl, rfl⟩, fun q => absurd ((nI_ltI (a := 5) (by decide) (by omega)).mpr (by omega)) q⟩
    | succ w ih =>
      intro d acc hd
      have := ih (d + 1) (acc + C d) (by omega)
      rw [show acc + C d + cSm C w (d + 1) = acc + cSm C (w + 1) d by rw [cSm]; omega] at this
      refine it_X4_countAll_4 hp ⟨fun q => absurd ((nI_ltI (a := 5) (by decide) (by omega)).mp q) (by omega), fun _ => ⟨vp_in_nI (by omega) (by decide), fun y hy y2 hy2 => ?_⟩⟩
      rw [hy, hy2, nI_1, nI_clamp (by omega), hC d (by omega), nI_add]
      exact this
  have := key 5 1 0 rfl
  rw [Nat.zero_add] at this
  exact wp_X4_countAll hp this
theorem x_digI {d : Nat} {RET : Option Value → mjH → Prop} (hp : is_Parts S p) (hC : cntR p C I) (hd : d < 6) (hc : C d < 100) : ∀ w i x, i + w = C d → hd_X4_degreeDigits_4 S RET p (dgI d w x) (nI (d + 1)) I L → hd_X4_degreeDigits_11 S RET p x (nI d) (nI i) I L := by
  intro w
  induction w with
  | zero =>
    intro i x hi h
    refine it_X4_degreeDigits_11 hp ⟨vp_in_nI hd (by decide), ?_⟩
    rw [nI_clamp (by omega), hC d hd]
    exact ge_t (by omega) (by omega) (fun y hy => by rw [hy, nI_1]; exact h)
  | succ w ih =>
    intro i x hi h
    refine it_X4_degreeDigits_11 hp ⟨vp_in_nI hd (by decide), ?_⟩
    rw [nI_clamp (by omega), hC d hd]
    exact ge_f (by omega) (by omega) (fun y hy y2 hy2 => by rw [hy, hy2, nI_1]; exact ih (i + 1) _ (by omega) h)
theorem x_digits (hp : is_Parts S p) (hC : cntR p C I) (hc : ∀ d, d < 6 → C d < 100) : CTi mr_X4_degreeDigits [.ref p] S I L (dgO C 5 1 0) I L := by
  have key : ∀ w d x, d + w = 6 → hd_X4_degreeDigits_4 S (fun v h => v = some (.int (dgO C w d x)) ∧ h = (S, I, L)) p x (nI d) I L := by
    intro w
    induction w with
    | zero =>
      intro d acc hd
      exact it_X4_degreeDigits_4 hp ⟨fun _ => ⟨rfl, rfl⟩, fun q => absurd ((nI_ltI (a := 5) (by decide) (by omega)).mpr (by omega)) q⟩
    | succ w ih =>
      intro d x hd
      have := ih (d + 1) (dgI d (C d) x) (by omega)
      exact it_X4_degreeDigits_4 hp ⟨fun q => absurd ((nI_ltI (a := 5) (by decide) (by omega)).mp q) (by omega), fun _ => x_digI (C := C) hp hC (by omega) (hc d (by omega)) (C d) 0 x (by omega) this⟩
  exact wp_X4_degreeDigits hp (key 5 1 0 rfl)
theorem x_sumI {d : Nat} {RET : Option Value → mjH → Prop} (hp : is_Parts S p) (hC : cntR p C I) (hd : d < 6) (hc : C d < 100) : ∀ w i x, i + w = C d → hd_X4_degreeSums_4 S RET p (sgI d w x) (nI (d + 1)) I L → hd_X4_degreeSums_11 S RET p x (nI d) (nI i) I L := by
  intro w
  induction w with
  | zero =>
    intro i x hi h
    refine it_X4_degreeSums_11 hp ⟨vp_in_nI hd (by decide), ?_⟩
    rw [nI_clamp (by omega), hC d hd]
    exact ge_t (by omega) (by omega) (fun y hy => by rw [hy, nI_1]; exact h)
  | succ w ih =>
    intro i x hi h
    refine it_X4_degreeSums_11 hp ⟨vp_in_nI hd (by decide), ?_⟩
    rw [nI_clamp (by omega), hC d hd]
    exact ge_f (by omega) (by omega) (fun y hy y2 hy2 => by rw [hy, hy2, nI_1]; exact ih (i + 1) _ (by omega) h)
theorem x_sums (hp : is_Parts S p) (hC : cntR p C I) (hc : ∀ d, d < 6 → C d < 100) : CTi mr_X4_degreeSums [.ref p] S I L (sgO C 5 1 1) I L := by
  have key : ∀ w d x, d + w = 6 → hd_X4_degreeSums_4 S (fun v h => v = some (.int (sgO C w d x)) ∧ h = (S, I, L)) p x (nI d) I L := by
    intro w
    induction w with
    | zero =>
      intro d acc hd
      exact it_X4_degreeSums_4 hp ⟨fun _ => ⟨rfl, rfl⟩, fun q => absurd ((nI_ltI (a := 5) (by decide) (by omega)).mpr (by omega)) q⟩
    | succ w ih =>
      intro d x hd
      have := ih (d + 1) (sgI d (C d) x) (by omega)
      exact it_X4_degreeSums_4 hp ⟨fun q => absurd ((nI_ltI (a := 5) (by decide) (by omega)).mp q) (by omega), fun _ => x_sumI (C := C) hp hC (by omega) (hc d (by omega)) (C d) 0 x (by omega) this⟩
  exact wp_X4_degreeSums hp (key 5 1 1 rfl)
end
def prI (k : Nat) : Nat := [2, 3, 5, 7, 11, 13].getD k 0
def hasP (b : Int32) : Nat → Nat → Bool
  | 0, _ => false
  | w + 1, k => if nI (prI k) = b then true else hasP b w (k + 1)
def isPr (b : Int32) : Bool := hasP b 6 0
theorem prI_6 : ∀ k, k < 6 → pr6 (prI k) := fun k hk => by
  unfold pr6
  have : ∀ k, k < 6 → (prI k = 2 ∨ prI k = 3 ∨ prI k = 5 ∨ prI k = 7 ∨ prI k = 11 ∨ prI k = 13) := by decide
  exact this k hk
theorem prI_st : ∀ k, k < 6 → (mj_st 1000002).getD k 0 = nI (prI k) := by decide +kernel
theorem hasP_ex {b : Int32} : ∀ w k, k + w = 6 → hasP b w k = true → ∃ j, j < 6 ∧ b = nI (prI j) := by
  intro w
  induction w with
  | zero => intro k _ h; cases h
  | succ w ih =>
    intro k hk h
    unfold hasP at h
    by_cases c : nI (prI k) = b
    · exact ⟨k, by omega, c.symm⟩
    · rw [if_neg c] at h
      exact ih (k + 1) (by omega) h
theorem isPr_ex {b : Int32} (h : isPr b = true) : ∃ pr, pr6 pr ∧ b = nI pr := by
  obtain ⟨j, h1, h2⟩ := hasP_ex 6 0 rfl h
  exact ⟨prI j, prI_6 j h1, h2⟩
theorem c_isSmallPrime (b : Int32) : CTi mr_X8_isSmallPrime [.int b] S I L (if isPr b then 1 else 0) I L := by
  have key : ∀ w k, k + w = 6 → hd_X8_isSmallPrime_2 S (fun v h => v = some (.int (if hasP b w k then 1 else 0)) ∧ h = (S, I, L)) b (nI k) I L := by
    intro w
    induction w with
    | zero =>
      intro k hk
      exact it_X8_isSmallPrime_2 (ge_t (k := 6) (by omega) (by omega) ⟨rfl, rfl⟩)
    | succ w ih =>
      intro k hk
      refine it_X8_isSmallPrime_2 (ge_f (k := 6) (by omega) (by omega) ⟨vp_in_nI (by omega) (by decide), ?_⟩)
      rw [nI_clamp (by omega), prI_st k (by omega)]
      by_cases c : nI (prI k) = b
      · exact ⟨fun q => absurd c q, fun _ => ⟨by rw [hasP, if_pos c]; rfl, rfl⟩⟩
      · exact ⟨fun _ y hy => by rw [hy, nI_1, hasP, if_neg c]; exact ih (k + 1) (by omega), fun q => absurd q c⟩
  exact wp_X8_isSmallPrime (key 6 0 rfl)
/-- the degree -/
def tN (W : Nat → Int64) : Nat := (dg W).toNatClampNeg
theorem tN_eq {W : Nat → Int64} {t : Nat} (h : deg6 W t) : tN W = t := by
  unfold tN
  rw [deg6_dg h, nI_clamp (by have := h.1; omega)]
def spsW (pr : Nat) (W : Nat → Int64) : Option (Nat × List Nat) := sps pr (fun k => (W k).toInt) (tN W)
def sp_parts (A : aS) (a b c : Int32) : Int32 := match fIdx A a with
  | none => -101
  | some j => if isPr b = true then (if c < 0 then -102 else if c ≤ 1 then (match spsW b.toNatClampNeg (cp (ac A) j) with
    | none => -1
    | some q => if c = 0 then nI (q.1 + q.2.length) else nI (figL q.1 q.2)) else -102) else -102
def dstep (W : Nat → Int64) (x : Int32) (pr : Nat) : Int32 := match spsW pr W with
  | none => x
  | some q => x &&& sumL q.1 q.2
def dloop (W : Nat → Int64) : Nat → Nat → Int32 → Int32
  | 0, _, x => x
  | w + 1, k, x => dloop W w (k + 1) (dstep W x (prI k))
def degsI (W : Nat → Int64) : Int32 := dloop W 6 0 (((1 : Int32) <<< ((dg W + 1) &&& 31)) - 1)
def sp_degrees (A : aS) (a : Int32) : Int32 := match fIdx A a with
  | none => -101
  | some j => degsI (cp (ac A) j)
section
variable {p : Nat} {A : aS}
theorem pX_sc {I1 : Nat → Nat → Int32} {L1 : Nat → Nat → Int64} (h : fr (pX (p + 34)) I L I1 L1) : fr (scX p) I L I1 L1 := fun b hb => h b (fun z => hb (by unfold pX at z; unfold scX; omega))
theorem c_split {j pr : Nat} (hd : is_Desk S p) (hA : aOK A) (h : IC p A I L) (hj : j < 4) (hf : cf (ac A) j = true) (hpr : pr6 pr) :
    ∃ I1 L1 v, CTi mr_X4_split [.ref (p + 34), .ref (p + 46 + 32 * j + 1), .int (nI pr)] S I L v I1 L1 ∧ fr (pX (p + 34)) I L I1 L1 ∧ ((spsW pr (cp (ac A) j) = none ∧ v = 0) ∨ ∃ n1 ls, spsW pr (cp (ac A) j) = some (n1, ls) ∧ v = 1 ∧ okl n1 ls ∧ cntR (p + 34) (cls n1 ls) I1) := by
  have oi := (hA.2.2.2.2.1.1 j hj).2 hf
  obtain ⟨t, ht⟩ := deg6_ex oi.2
  have := x_split (S := S) (I := I) (L := L) (p := p + 34) (q := p + 46 + 32 * j + 1) (pr := pr) hd.2.2.2.2.2.2.2.2.1 (c_slotAt hd hj).2.1 (pr6_lt hpr) oi.1 ht (fun k hk => (c_filled h hj hf).1 k hk) (by unfold pX; omega)
  rw [← tN_eq ht] at this
  exact this
theorem c_parts (hd : is_Desk S p) (hA : aOK A) (h : IC p A I L) (a b c : Int32) : ∃ I1 L1, CTi mr_X8_parts [.ref p, .int a, .int b, .int c] S I L (sp_parts A a b c) I1 L1 ∧ IC p A I1 L1 ∧ fr (dX p) I L I1 L1 := by
  have hc := c_filledSlot hd hA h a
  unfold sp_parts
  cases hs : fIdx A a with
  | none =>
    rw [hs] at hc
    exact ⟨I, L, wp_X8_parts hd ⟨_, _, _, hc, fun _ => ⟨rfl, rfl⟩, fun a6 h6 => (by cases h6)⟩, h, fr_rf⟩
  | some j =>
    obtain ⟨rfl, j1, j4, jf⟩ := fIdx_some hA hs
    rw [hs] at hc
    have hpm := c_isSmallPrime (S := S) (I := I) (L := L) b
    simp only
    by_cases cb : isPr b = true
    · rw [if_pos cb] at hpm
      rw [if_pos cb]
      by_cases c0 : c < 0
      · rw [if_pos c0]
        exact ⟨I, L, wp_X8_parts hd ⟨_, _, _, hc, fun h6 => (by cases h6), fun a6 h6 => (by cases h6; exact ⟨c_slotAt hd j4, _, _, _, hpm, fun q => absurd q (by decide), fun _ => ng_t c0 ⟨rfl, rfl⟩⟩)⟩, h, fr_rf⟩
      · rw [if_neg c0]
        by_cases c1 : c ≤ 1
        · rw [if_pos c1]
          obtain ⟨pr, q1, rfl⟩ := isPr_ex cb
          have q2 := pr6_lt q1
          rw [nI_clamp (by omega)]
          obtain ⟨I1, L1, v, s1, s2, s3⟩ := c_split hd hA h j4 jf q1
          have f1 := pX_sc s2
          have fd : fr (dX p) I L I1 L1 := fun b hb => f1 b (fun z => hb (by unfold scX at z; unfold dX; omega))
          rcases s3 with ⟨s4, s5⟩ | ⟨n1, ls, s4, s5, s6, s7⟩
          · rw [s4]
            exact ⟨I1, L1, wp_X8_parts hd ⟨_, _, _, hc, fun h6 => (by cases h6), fun a6 h6 => (by cases h6; exact ⟨c_slotAt hd j4, _, _, _, hpm, fun q => absurd q (by decide), fun _ => ⟨fun q => absurd q c0, fun _ => ⟨fun _ => ⟨_, _, _, s1, fun q => absurd s5 q, fun _ => ⟨rfl, rfl⟩⟩, fun q => absurd c1 q⟩⟩⟩)⟩, IC_sc h f1, fd⟩
          · rw [s4]
            have nv : ¬ v = 0 := by rw [s5]; decide
            have n6 : n1 < 6 := by have := s6.1; omega
            simp only
            by_cases cz : c = 0
            · rw [if_pos cz]
              have hcn := x_countAll (S := S) (I := I1) (L := L1) (p := p + 34) hd.2.2.2.2.2.2.2.2.1 s7
              rw [fin_cnt n1 n6 ls s6.2] at hcn
              exact ⟨I1, L1, wp_X8_parts hd ⟨_, _, _, hc, fun h6 => (by cases h6), fun a6 h6 => (by cases h6; exact ⟨c_slotAt hd j4, _, _, _, hpm, fun q => absurd q (by decide), fun _ => ⟨fun q => absurd q c0, fun _ => ⟨fun _ => ⟨_, _, _, s1, fun _ => ⟨fun q => absurd cz q, fun _ => ⟨_, _, _, hcn, rfl, rfl⟩⟩, fun q => absurd q nv⟩, fun q => absurd c1 q⟩⟩⟩)⟩, IC_sc h f1, fd⟩
            · rw [if_neg cz]
              have hcn := x_digits (S := S) (I := I1) (L := L1) (p := p + 34) hd.2.2.2.2.2.2.2.2.1 s7 (fin_C n1 n6 ls s6.2)
              rw [fin_dig n1 n6 ls s6.2] at hcn
              exact ⟨I1, L1, wp_X8_parts hd ⟨_, _, _, hc, fun h6 => (by cases h6), fun a6 h6 => (by cases h6; exact ⟨c_slotAt hd j4, _, _, _, hpm, fun q => absurd q (by decide), fun _ => ⟨fun q => absurd q c0, fun _ => ⟨fun _ => ⟨_, _, _, s1, fun _ => ⟨fun _ => ⟨_, _, _, hcn, rfl, rfl⟩, fun q => absurd q cz⟩, fun q => absurd q nv⟩, fun q => absurd c1 q⟩⟩⟩)⟩, IC_sc h f1, fd⟩
        · rw [if_neg c1]
          exact ⟨I, L, wp_X8_parts hd ⟨_, _, _, hc, fun h6 => (by cases h6), fun a6 h6 => (by cases h6; exact ⟨c_slotAt hd j4, _, _, _, hpm, fun q => absurd q (by decide), fun _ => ⟨fun q => absurd q c0, fun _ => ⟨fun q => absurd q c1, fun _ => ⟨rfl, rfl⟩⟩⟩⟩)⟩, h, fr_rf⟩
    · rw [if_neg cb] at hpm
      rw [if_neg cb]
      exact ⟨I, L, wp_X8_parts hd ⟨_, _, _, hc, fun h6 => (by cases h6), fun a6 h6 => (by cases h6; exact ⟨c_slotAt hd j4, _, _, _, hpm, fun _ => ⟨rfl, rfl⟩, fun q => absurd rfl q⟩)⟩, h, fr_rf⟩
theorem c_degrees (hd : is_Desk S p) (hA : aOK A) (h : IC p A I L) (a : Int32) : ∃ I1 L1, CTi mr_X8_degrees [.ref p, .int a] S I L (sp_degrees A a) I1 L1 ∧ IC p A I1 L1 ∧ fr (scX p) I L I1 L1 := by
  have hc := c_filledSlot hd hA h a
  unfold sp_degrees
  cases hs : fIdx A a with
  | none =>
    rw [hs] at hc
    exact ⟨I, L, wp_X8_degrees hd ⟨_, _, _, hc, fun _ => ⟨rfl, rfl⟩, fun a6 h6 => (by cases h6)⟩, h, fr_rf⟩
  | some j =>
    obtain ⟨rfl, j1, j4, jf⟩ := fIdx_some hA hs
    rw [hs] at hc
    have key : ∀ w k x (I' : Nat → Nat → Int32) (L' : Nat → Nat → Int64), k + w = 6 → IC p A I' L' → fr (scX p) I L I' L' → ∃ I1 L1, hd_X8_degrees_30 S (fun v h => v = some (.int (dloop (cp (ac A) j) w k x)) ∧ h = (S, I1, L1)) p (p + 46 + 32 * j) x (nI k) I' L' ∧ IC p A I1 L1 ∧ fr (scX p) I L I1 L1 := by
      intro w
      induction w with
      | zero =>
        intro k x I' L' hk h' hf
        exact ⟨I', L', it_X8_degrees_30 hd (c_slotAt hd j4) (ge_t (k := 6) (by omega) (by omega) ⟨rfl, rfl⟩), h', hf⟩
      | succ w ih =>
        intro k x I' L' hk h' hf
        obtain ⟨I2, L2, v, s1, s2, s3⟩ := c_split hd hA h' j4 jf (prI_6 k (by omega))
        have f2 := pX_sc s2
        have h2 := IC_sc h' f2
        have hf2 : fr (scX p) I L I2 L2 := fr_tr hf f2 (fun b z => z.elim id id)
        rcases s3 with ⟨s4, s5⟩ | ⟨n1, ls, s4, s5, s6, s7⟩
        · obtain ⟨I1, L1, k1, k2, k3⟩ := ih (k + 1) x I2 L2 (by omega) h2 hf2
          have e : dloop (cp (ac A) j) (w + 1) k x = dloop (cp (ac A) j) w (k + 1) x := by
            rw [dloop, dstep, s4]
          rw [e]
          refine ⟨I1, L1, it_X8_degrees_30 hd (c_slotAt hd j4) (ge_f (k := 6) (by omega) (by omega) ⟨vp_in_nI (by omega) (by decide), _, _, _, by rw [nI_clamp (by omega), prI_st k (by omega)]; exact s1, fun _ y hy => by rw [hy, nI_1]; exact k1, fun q => absurd s5 q⟩), k2, k3⟩
        · have n6 : n1 < 6 := by have := s6.1; omega
          have nv : ¬ v = 0 := by rw [s5]; decide
          have hcn := x_sums (S := S) (I := I2) (L := L2) (p := p + 34) hd.2.2.2.2.2.2.2.2.1 s7 (fin_C n1 n6 ls s6.2)
          rw [fin_sum n1 n6 ls s6.2] at hcn
          obtain ⟨I1, L1, k1, k2, k3⟩ := ih (k + 1) (x &&& sumL n1 ls) I2 L2 (by omega) h2 hf2
          have e : dloop (cp (ac A) j) (w + 1) k x = dloop (cp (ac A) j) w (k + 1) (x &&& sumL n1 ls) := by
            rw [dloop, dstep, s4]
          rw [e]
          refine ⟨I1, L1, it_X8_degrees_30 hd (c_slotAt hd j4) (ge_f (k := 6) (by omega) (by omega) ⟨vp_in_nI (by omega) (by decide), _, _, _, by rw [nI_clamp (by omega), prI_st k (by omega)]; exact s1, fun q => absurd q nv, fun _ => ⟨_, _, _, hcn, fun y hy y2 hy2 => by rw [hy, hy2, nI_1]; exact k1⟩⟩), k2, k3⟩
    have hde := s_degree (S := S) (I := I) (L := L) (c_slotAt hd j4).2.1
    rw [dg_ext (c_filled h j4 jf).1] at hde
    obtain ⟨I1, L1, k1, k2, k3⟩ := key 6 0 (((1 : Int32) <<< ((dg (cp (ac A) j) + 1) &&& 31)) - 1) I L rfl h fr_rf
    exact ⟨I1, L1, wp_X8_degrees hd ⟨_, _, _, hc, fun h6 => (by cases h6), fun a6 h6 => (by cases h6; exact ⟨c_slotAt hd j4, _, _, _, hde, fun y hy => by rw [hy]; exact k1⟩)⟩, k2, k3⟩
end
