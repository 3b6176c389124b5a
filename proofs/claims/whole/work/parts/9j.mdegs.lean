/-! BY PRIMES: parts and degrees; the reference -/
variable {S : List mjD} {I : Nat → Nat → Int32} {L : Nat → Nat → Int64}
theorem isPr_iff {b : Int32} : isPr b = true ↔ (b = 2 ∨ b = 3 ∨ b = 5 ∨ b = 7 ∨ b = 11 ∨ b = 13) := by
  constructor
  · intro h
    obtain ⟨pr, h1, h2⟩ := isPr_ex h
    rcases h1 with rfl | rfl | rfl | rfl | rfl | rfl
    · exact Or.inl h2
    · exact Or.inr (Or.inl h2)
    · exact Or.inr (Or.inr (Or.inl h2))
    · exact Or.inr (Or.inr (Or.inr (Or.inl h2)))
    · exact Or.inr (Or.inr (Or.inr (Or.inr (Or.inl h2))))
    · exact Or.inr (Or.inr (Or.inr (Or.inr (Or.inr h2))))
  · intro h
    rcases h with rfl | rfl | rfl | rfl | rfl | rfl <;> decide +kernel
theorem m_isPrime (b : Int32) : CTi mr_X9_isPrime [.int b] S I L (if isPr b then 1 else 0) I L := by
  have key : ∀ v : Int32, (v = if isPr b then 1 else 0) → CTi mr_X9_isPrime [.int b] S I L v I L := fun v hv => by
    refine wp_X9_isPrime ?_
    have yes : (b = 2 ∨ b = 3 ∨ b = 5 ∨ b = 7 ∨ b = 11 ∨ b = 13) → (some (Value.int (1 : Int32)) = some (Value.int v) ∧ ((S, I, L) : mjH) = (S, I, L)) := fun z => by
      rw [if_pos (isPr_iff.mpr z)] at hv
      exact ⟨by rw [hv], rfl⟩
    refine ⟨fun q => yes (by simp [q]), fun n2 => ⟨fun q => yes (by simp [q]), fun n3 => ⟨fun q => yes (by simp [q]), fun n5 => ⟨fun q => yes (by simp [q]), fun n7 => ⟨fun q => yes (by simp [q]), fun n11 => ⟨fun n13 => ?_, fun q => yes (by simp [q])⟩⟩⟩⟩⟩⟩
    rw [if_neg (fun z => by
      rcases isPr_iff.mp z with z | z | z | z | z | z
      · exact n2 z
      · exact n3 z
      · exact n5 z
      · exact n7 z
      · exact n11 z
      · exact n13 z)] at hv
    exact ⟨by rw [hv], rfl⟩
  exact key _ rfl
section
variable {m : Nat} {A : aS}
theorem qfr_S {I1 : Nat → Nat → Int32} (h : qfr m I I1) : frS m I L I1 L := ⟨fun b hb => ⟨h.1 b (by omega) (by omega) (by omega), rfl⟩, fun k hk => h.2 k (by omega) (by omega) (by omega)⟩
theorem qfr_IM {I1 : Nat → Nat → Int32} (hI : IM m A I L) (h : qfr m I I1) : IM m A I1 L := IM_sc hI (qfr_S h) (cache_eq hI.2.2.2.2.2.2 (h.2 15 (by decide) (by decide) (by decide)) (h.2 19 (by decide) (by decide) (by decide)) (h.1 _ (by omega) (by omega) (by omega)) (h.1 _ (by omega) (by omega) (by omega)) rfl rfl)
theorem m_laySlotParts {j pr : Nat} (hm : is_Model S m) (hA : aOK A) (h : IM m A I L) (hj : j < 4) (hf : cf (ac A) j = true) (h6 : pr6 pr) :
    ∃ I1 v, CTi mr_X9_layParts [.ref m, .int (nI j), .int (nI pr)] S I L v I1 L ∧ qfr m I I1 ∧ ((spsW pr (cp (ac A) j) = none ∧ v = 0) ∨ ∃ n1 ls, spsW pr (cp (ac A) j) = some (n1, ls) ∧ v = 1 ∧ okl n1 ls ∧ fgR m (n1 + ls.length) (figL n1 ls) I1) := by
  have oi := (hA.2.2.2.2.1.1 j hj).2 hf
  obtain ⟨t, ht⟩ := deg6_ex oi.2
  have hr := (h.2.2.2.1.1 j hj).2.2 hf
  have := m_layParts (S := S) (I := I) (L := L) (m := m) hm h6 hj oi.1 ht (by rw [hr.1, deg6_dg ht]) hr.2
  rw [← tN_eq ht] at this
  exact this
theorem m_partsNow {j pr : Nat} {c : Int32} (hm : is_Model S m) (hA : aOK A) (h : IM m A I L) (hj : j < 4) (hf : cf (ac A) j = true) (h6 : pr6 pr) :
    ∃ I1, CTi mr_X9_partsNow [.ref m, .int (nI j), .int (nI pr), .int c] S I L (match spsW pr (cp (ac A) j) with
    | none => -1
    | some q => if c = 0 then nI (q.1 + q.2.length) else nI (figL q.1 q.2)) I1 L ∧ qfr m I I1 := by
  obtain ⟨I1, v, a1, a2, a3⟩ := m_laySlotParts (S := S) (L := L) hm hA h hj hf h6
  rcases a3 with ⟨a3, a4⟩ | ⟨n1, ls, a3, a4, a5, a6⟩
  · rw [a3]
    exact ⟨I1, wp_X9_partsNow hm ⟨_, _, _, a1, fun q => absurd a4 q, fun _ => ⟨rfl, rfl⟩⟩, a2⟩
  · rw [a3]
    have nv : ¬ v = 0 := by rw [a4]; decide
    simp only
    by_cases c0 : c = 0
    · rw [if_pos c0]
      exact ⟨I1, wp_X9_partsNow hm ⟨_, _, _, a1, fun _ => ⟨fun q => absurd c0 q, fun _ => ⟨by rw [a6.1], rfl⟩⟩, fun q => absurd q nv⟩, a2⟩
    · rw [if_neg c0]
      exact ⟨I1, wp_X9_partsNow hm ⟨_, _, _, a1, fun _ => ⟨fun _ => ⟨by rw [a6.2], rfl⟩, fun q => absurd q c0⟩, fun q => absurd q nv⟩, a2⟩
theorem m_parts (hm : is_Model S m) (hA : aOK A) (h : IM m A I L) (a b c : Int32) : ∃ I1 L1, CTi mr_X9_parts [.ref m, .int a, .int b, .int c] S I L (sp_parts A a b c) I1 L1 ∧ IM m A I1 L1 ∧ fr (moX m) I L I1 L1 := by
  have ha := m_isFilled (S := S) (I := I) (L := L) hm hA h.2.1 h.2.2.2.1 a
  unfold sp_parts
  cases hs : fIdx A a with
  | none =>
    rw [hs] at ha
    exact ⟨I, L, wp_X9_parts hm ⟨_, _, _, ha, fun q => absurd rfl q, fun _ => ⟨rfl, rfl⟩⟩, h, fr_rf⟩
  | some j =>
    obtain ⟨rfl, j1, j4, jf⟩ := fIdx_some hA hs
    rw [hs, one_some] at ha
    have hpm := m_isPrime (S := S) (I := I) (L := L) b
    simp only
    by_cases cb : isPr b = true
    · rw [if_pos cb] at hpm
      rw [if_pos cb]
      have hw := m_w (S := S) (I := I) (L := L) c (lo := 0) (hi := 1) 0 1 rfl rfl
      have l1 := lt_i (a := c) (k := 0) (n := 0) rfl
      have l2 := ge_i (a := c) (k := 1) (n := 1) rfl
      by_cases c0 : c < 0
      · rw [if_pos (Or.inl (l1.mp c0))] at hw
        rw [if_pos c0]
        exact ⟨I, L, wp_X9_parts hm ⟨_, _, _, ha, fun _ => ⟨_, _, _, hpm, fun q => absurd q (by decide), fun _ => ⟨_, _, _, hw, fun _ => ⟨rfl, rfl⟩, fun q => absurd rfl q⟩⟩, fun q => absurd q (by decide)⟩, h, fr_rf⟩
      · rw [if_neg c0]
        by_cases c1 : c ≤ 1
        · rw [if_neg (fun z => z.elim (fun z => c0 (l1.mpr z)) (fun z => by have := l2.mp c1; omega))] at hw
          rw [if_pos c1]
          obtain ⟨pr, q1, rfl⟩ := isPr_ex cb
          have q2 := pr6_lt q1
          rw [nI_clamp (by omega)]
          obtain ⟨I1, s1, s2⟩ := m_partsNow (S := S) (L := L) (c := c) hm hA h j4 jf q1
          exact ⟨I1, L, wp_X9_parts hm ⟨_, _, _, ha, fun _ => ⟨_, _, _, hpm, fun q => absurd q (by decide), fun _ => ⟨_, _, _, hw, fun q => absurd q (by decide), fun _ => ⟨_, _, _, s1, rfl, rfl⟩⟩⟩, fun q => absurd q (by decide)⟩, qfr_IM h s2, frS_mo (qfr_S s2)⟩
        · rw [if_pos (Or.inr (by have h9 : ¬ c.toInt ≤ 1 := fun q => c1 (l2.mpr q); omega))] at hw
          rw [if_neg c1]
          exact ⟨I, L, wp_X9_parts hm ⟨_, _, _, ha, fun _ => ⟨_, _, _, hpm, fun q => absurd q (by decide), fun _ => ⟨_, _, _, hw, fun _ => ⟨rfl, rfl⟩, fun q => absurd rfl q⟩⟩, fun q => absurd q (by decide)⟩, h, fr_rf⟩
    · rw [if_neg cb] at hpm
      rw [if_neg cb]
      exact ⟨I, L, wp_X9_parts hm ⟨_, _, _, ha, fun _ => ⟨_, _, _, hpm, fun _ => ⟨rfl, rfl⟩, fun q => absurd rfl q⟩, fun q => absurd q (by decide)⟩, h, fr_rf⟩
end
/-- the sums, out of the figures -/
def smR : Nat → Nat → Int32 → Int32
  | 0, _, x => x
  | n + 1, F, x => if F = 0 then x else smR n (F / 10) (smI x (F % 10))
theorem fin_smR : ∀ n1, n1 < 6 → ∀ ls ∈ fml, smR 10 (figL n1 ls) 1 = sumL n1 ls ∧ figL n1 ls < 100000000 := by decide +kernel
def rloop (W : Nat → Int64) : Nat → Nat → Int32 → Int32
  | 0, _, x => x
  | w + 1, p, x => rloop W w (p + 1) (if isPr (nI p) then dstep W x p else x)
theorem rloop_d (W : Nat → Int64) (x : Int32) : rloop W 12 2 x = dloop W 6 0 x := by
  have y2 : isPr (nI 2) = true := by decide +kernel
  have y3 : isPr (nI 3) = true := by decide +kernel
  have y5 : isPr (nI 5) = true := by decide +kernel
  have y7 : isPr (nI 7) = true := by decide +kernel
  have y11 : isPr (nI 11) = true := by decide +kernel
  have y13 : isPr (nI 13) = true := by decide +kernel
  have n4 : ¬ isPr (nI 4) = true := by decide +kernel
  have n6 : ¬ isPr (nI 6) = true := by decide +kernel
  have n8 : ¬ isPr (nI 8) = true := by decide +kernel
  have n9 : ¬ isPr (nI 9) = true := by decide +kernel
  have n10 : ¬ isPr (nI 10) = true := by decide +kernel
  have n12 : ¬ isPr (nI 12) = true := by decide +kernel
  show rloop W 11 3 (if isPr (nI 2) then dstep W x 2 else x) = _
  rw [if_pos y2]
  show rloop W 10 4 (if isPr (nI 3) then dstep W (dstep W x 2) 3 else (dstep W x 2)) = _
  rw [if_pos y3]
  show rloop W 9 5 (if isPr (nI 4) then _ else _) = _
  rw [if_neg n4]
  show rloop W 8 6 (if isPr (nI 5) then _ else _) = _
  rw [if_pos y5]
  show rloop W 7 7 (if isPr (nI 6) then _ else _) = _
  rw [if_neg n6]
  show rloop W 6 8 (if isPr (nI 7) then _ else _) = _
  rw [if_pos y7]
  show rloop W 5 9 (if isPr (nI 8) then _ else _) = _
  rw [if_neg n8]
  show rloop W 4 10 (if isPr (nI 9) then _ else _) = _
  rw [if_neg n9]
  show rloop W 3 11 (if isPr (nI 10) then _ else _) = _
  rw [if_neg n10]
  show rloop W 2 12 (if isPr (nI 11) then _ else _) = _
  rw [if_pos y11]
  show rloop W 1 13 (if isPr (nI 12) then _ else _) = _
  rw [if_neg n12]
  show rloop W 0 14 (if isPr (nI 13) then _ else _) = _
  rw [if_pos y13]
  rfl
section
variable {m : Nat} {A : aS}
theorem m_sumR {j p : Nat} {RET : Option Value → mjH → Prop} {x2 : Int32} (hm : is_Model S m) : ∀ n F x, F < 10 ^ n → F < 100000000 → hd_X9_degreesNow_13 S RET m (nI j) (x2 &&& smR n F x) (nI (p + 1)) I L → hd_X9_degreesNow_44 S RET m (nI j) x2 (nI p) x (nI F) I L := by
  intro n
  induction n with
  | zero =>
    intro F x hF _ h
    obtain rfl : F = 0 := by omega
    exact it_X9_degreesNow_44 hm ⟨fun _ y hy y2 hy2 => by rw [hy, hy2, nI_1]; exact h, fun q => absurd (show nI 0 ≤ 0 by decide) q⟩
  | succ n ih =>
    intro F x hF hB h
    have e0 : nI F ≤ (0 : Int32) ↔ F ≤ 0 := nI_leI (b := 0) (by omega) (by decide)
    by_cases c : F = 0
    · rw [smR, if_pos c] at h
      exact it_X9_degreesNow_44 hm ⟨fun _ y hy y2 hy2 => by rw [hy, hy2, nI_1]; exact h, fun q => absurd (e0.mpr (by omega)) q⟩
    · rw [smR, if_neg c] at h
      have hd : nI F / (10 : Int32) = nI (F / 10) := pk_div (a := F) (d := 10) (by omega) (by decide) (by decide)
      have hr : nI F - nI F / (10 : Int32) * (10 : Int32) = nI (F % 10) := pk_rem (a := F) (d := 10) (by omega) (by decide) (by decide)
      refine it_X9_degreesNow_44 hm ⟨fun q => absurd (e0.mp q) (by omega), fun _ y hy y2 hy2 => ?_⟩
      rw [hr] at hy
      rw [hd] at hy2
      rw [hy, hy2]
      exact ih (F / 10) _ (by rw [Nat.pow_succ] at hF; omega) (by omega) h
theorem m_degreesNow {j : Nat} (hm : is_Model S m) (hA : aOK A) (h : IM m A I L) (hj : j < 4) (hf : cf (ac A) j = true) :
    ∃ I1, CTi mr_X9_degreesNow [.ref m, .int (nI j)] S I L (degsI (cp (ac A) j)) I1 L ∧ qfr m I I1 := by
  have key : ∀ w p x (I' : Nat → Nat → Int32), p + w = 14 → IM m A I' L → qfr m I I' → ∃ I1, hd_X9_degreesNow_13 S (fun v h => v = some (.int (rloop (cp (ac A) j) w p x)) ∧ h = (S, I1, L)) m (nI j) x (nI p) I' L ∧ qfr m I I1 := by
    intro w
    induction w with
    | zero =>
      intro p x I' hp _ hq
      exact ⟨I', it_X9_degreesNow_13 hm (ge_t (k := 14) (by omega) (by omega) ⟨rfl, rfl⟩), hq⟩
    | succ w ih =>
      intro p x I' hp h' hq
      have hpm := m_isPrime (S := S) (I := I') (L := L) (nI p)
      by_cases cb : isPr (nI p) = true
      · rw [if_pos cb] at hpm
        obtain ⟨pr, q1, q2⟩ := isPr_ex cb
        have q3 := pr6_lt q1
        have e : p = pr := (nI_eq (by omega) (by omega)).mp q2
        rw [← e] at q1
        obtain ⟨I2, v, s1, s2, s3⟩ := m_laySlotParts (S := S) (L := L) hm hA h' hj hf q1
        have h2 := qfr_IM h' s2
        rcases s3 with ⟨s4, s5⟩ | ⟨n1, ls, s4, s5, s6, s7⟩
        · obtain ⟨I1, k1, k2⟩ := ih (p + 1) x I2 (by omega) h2 (qfr_tr hq s2)
          have e : rloop (cp (ac A) j) (w + 1) p x = rloop (cp (ac A) j) w (p + 1) x := by
            rw [rloop, if_pos cb, dstep, s4]
          rw [e]
          exact ⟨I1, it_X9_degreesNow_13 hm (ge_f (k := 14) (by omega) (by omega) ⟨_, _, _, hpm, fun q => absurd q (by decide), fun _ => ⟨_, _, _, s1, fun _ y hy => by rw [hy, nI_1]; exact k1, fun q => absurd s5 q⟩⟩), k2⟩
        · have n6 : n1 < 6 := by have := s6.1; omega
          have nv : ¬ v = 0 := by rw [s5]; decide
          obtain ⟨g1, g2⟩ := fin_smR n1 n6 ls s6.2
          obtain ⟨I1, k1, k2⟩ := ih (p + 1) (x &&& sumL n1 ls) I2 (by omega) h2 (qfr_tr hq s2)
          have e : rloop (cp (ac A) j) (w + 1) p x = rloop (cp (ac A) j) w (p + 1) (x &&& sumL n1 ls) := by
            rw [rloop, if_pos cb, dstep, s4]
          rw [e]
          have k3 := m_sumR (S := S) (I := I2) (L := L) (j := j) (p := p) (x2 := x) hm 10 (figL n1 ls) 1 (by omega) g2 (by rw [g1]; exact k1)
          exact ⟨I1, it_X9_degreesNow_13 hm (ge_f (k := 14) (by omega) (by omega) ⟨_, _, _, hpm, fun q => absurd q (by decide), fun _ => ⟨_, _, _, s1, fun q => absurd q nv, fun _ y hy => by rw [hy, s7.2]; exact k3⟩⟩), k2⟩
      · rw [if_neg cb] at hpm
        obtain ⟨I1, k1, k2⟩ := ih (p + 1) x I' (by omega) h' hq
        have e : rloop (cp (ac A) j) (w + 1) p x = rloop (cp (ac A) j) w (p + 1) x := by
          rw [rloop, if_neg cb]
        rw [e]
        exact ⟨I1, it_X9_degreesNow_13 hm (ge_f (k := 14) (by omega) (by omega) ⟨_, _, _, hpm, fun _ y hy => by rw [hy, nI_1]; exact k1, fun q => absurd rfl q⟩), k2⟩
  have oi := (hA.2.2.2.2.1.1 j hj).2 hf
  obtain ⟨t, ht⟩ := deg6_ex oi.2
  have hr := (h.2.2.2.1.1 j hj).2.2 hf
  have e3 : I (m + 3) (nI j).toNatClampNeg = nI t := by rw [nI_clamp (by omega), hr.1, deg6_dg ht]
  have sh : ∀ t, t < 6 → ((2 : Int32) <<< (nI t &&& 31)) - 1 = ((1 : Int32) <<< ((nI t + 1) &&& 31)) - 1 := by decide +kernel
  obtain ⟨I1, k1, k2⟩ := key 12 2 (((2 : Int32) <<< (nI t &&& 31)) - 1) I rfl h qfr_rf
  rw [rloop_d, sh t ht.1] at k1
  refine ⟨I1, wp_X9_degreesNow hm ⟨vp_in_nI hj (by decide), fun y hy => ?_⟩, k2⟩
  rw [e3, sh t ht.1] at hy
  unfold degsI
  rw [deg6_dg ht, hy]
  exact k1
theorem m_degrees (hm : is_Model S m) (hA : aOK A) (h : IM m A I L) (a : Int32) : ∃ I1 L1, CTi mr_X9_degrees [.ref m, .int a] S I L (sp_degrees A a) I1 L1 ∧ IM m A I1 L1 ∧ fr (moX m) I L I1 L1 := by
  have ha := m_isFilled (S := S) (I := I) (L := L) hm hA h.2.1 h.2.2.2.1 a
  unfold sp_degrees
  cases hs : fIdx A a with
  | none =>
    rw [hs] at ha
    exact ⟨I, L, wp_X9_degrees hm ⟨_, _, _, ha, fun _ => ⟨rfl, rfl⟩, fun q => absurd rfl q⟩, h, fr_rf⟩
  | some j =>
    obtain ⟨rfl, j1, j4, jf⟩ := fIdx_some hA hs
    rw [hs, one_some] at ha
    obtain ⟨I1, s1, s2⟩ := m_degreesNow (S := S) (L := L) hm hA h j4 jf
    exact ⟨I1, L, wp_X9_degrees hm ⟨_, _, _, ha, fun q => absurd q (by decide), fun _ => ⟨_, _, _, s1, rfl, rfl⟩⟩, qfr_IM h s2, frS_mo (qfr_S s2)⟩
end
