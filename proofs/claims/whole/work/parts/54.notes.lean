/-! OBSERVATIONS: candidates and the next question, class and reference -/
variable {S : List mjD} {I : Nat → Nat → Int32} {L : Nat → Nat → Int64}
def hwN (w : Nat) : Nat := [6, 4, 30, 14].getD w 0
def mkw (w : Nat) (b : Bool) : Nat := if b then hwN w else 31 - hwN w
/-- the candidates after k observations -/
def cnd (c : aC) (j : Nat) : Nat → Nat
  | 0 => 31
  | k + 1 => if cs c k = j then cnd c j k &&& mkw (cw c k) (cb c k) else cnd c j k
theorem cnd_lt (c : aC) (j : Nat) : ∀ k, cnd c j k < 32
  | 0 => show 31 < 32 by decide
  | k + 1 => by
    rw [cnd]
    have := cnd_lt c j k
    by_cases h : cs c k = j
    · rw [if_pos h]; exact Nat.lt_of_le_of_lt Nat.and_le_left this
    · rw [if_neg h]; exact this
theorem tw_and : ∀ n, n < 32 → ∀ w, w < 4 → ∀ b : Bool, nI n &&& tw w b = nI (n &&& mkw w b) := by decide +kernel
def bcF (a : Int32) : Int32 :=
  let y1 := (a - ((a.toUInt32 >>> ((1 : Int32).toUInt32 &&& Int32.toUInt32 31)).toInt32 &&& (1431655765 : Int32)))
  let y4 := ((y1 &&& (858993459 : Int32)) + ((y1.toUInt32 >>> ((2 : Int32).toUInt32 &&& Int32.toUInt32 31)).toInt32 &&& (858993459 : Int32)))
  let y7 := ((y4 + (y4.toUInt32 >>> ((4 : Int32).toUInt32 &&& Int32.toUInt32 31)).toInt32) &&& (252645135 : Int32))
  let y10 := (y7 + (y7.toUInt32 >>> ((8 : Int32).toUInt32 &&& Int32.toUInt32 31)).toInt32)
  let y13 := (y10 + (y10.toUInt32 >>> ((16 : Int32).toUInt32 &&& Int32.toUInt32 31)).toInt32)
  y13 &&& (63 : Int32)
theorem s_bitCount (a : Int32) : CTi mr_J6_bitCount_0f7a4 [.int a] S I L (bcF a) I L := wp_J6_bitCount_0f7a4 (fun y1 h1 y4 h4 y7 h7 y10 h10 y13 h13 => ⟨by rw [h13, h10, h7, h4, h1]; rfl, rfl⟩)
def nqF (x0 : Int32) : Nat → Int32 → Int32 → Nat → Int32
  | 0, x1, _, _ => x1
  | k + 1, x1, x2, i => if x0 = 0 then x1 else
      if x2 ≤ (if bcF (x0 &&& (mj_st 1000003).getD i 0) < bcF (x0 &&& ((mj_st 1000003).getD i 0 ^^^ (-1))) then bcF (x0 &&& ((mj_st 1000003).getD i 0 ^^^ (-1))) else bcF (x0 &&& (mj_st 1000003).getD i 0)) then nqF x0 k x1 x2 (i + 1)
      else nqF x0 k (nI i) (if bcF (x0 &&& (mj_st 1000003).getD i 0) < bcF (x0 &&& ((mj_st 1000003).getD i 0 ^^^ (-1))) then bcF (x0 &&& ((mj_st 1000003).getD i 0 ^^^ (-1))) else bcF (x0 &&& (mj_st 1000003).getD i 0)) (i + 1)
/-- the next question, by the set of candidates -/
def nxq (n : Nat) : Int32 := nqF (nI n) 4 (-1) 6 0
theorem s_nextQ (a : Int32) : CTi mr_X3_nextQuestion [.int a] S I L (nqF a 4 (-1) 6 0) I L := by
  refine wp_X3_nextQuestion ?_
  have key : ∀ k i, i + k = 4 → ∀ x1 x2 R, nqF a k x1 x2 i = R → hd_X3_nextQuestion_7 S (fun v h => v = some (.int R) ∧ h = (S, I, L)) a x1 x2 (nI i) I L := by
    intro k
    induction k with
    | zero =>
      intro i hi x1 x2 R hR
      obtain rfl : i = 4 := by omega
      exact it_X3_nextQuestion_7 (ge_t (k := 4) (Nat.le_refl _) (by decide) ⟨by rw [← hR]; rfl, rfl⟩)
    | succ k ih =>
      intro i hi x1 x2 R hR
      rw [nqF] at hR
      have ec : (nI i).toNatClampNeg = i := nI_clamp (by omega)
      refine it_X3_nextQuestion_7 (ge_f (k := 4) (by omega) (by decide) ⟨fun h => ⟨by rw [← hR, if_pos h], rfl⟩, fun h => ⟨vp_in_nI (by omega) (by decide), _, _, _, s_bitCount _, vp_in_nI (by omega) (by decide), _, _, _, s_bitCount _, _, _, _, s_max _ _, ?_⟩⟩)
      rw [if_neg h] at hR
      rw [ec]
      refine ⟨fun h2 y hy => ?_, fun h2 y hy => ?_⟩
      · rw [if_pos h2] at hR
        rw [hy, nI_1]; exact ih (i + 1) (by omega) _ _ R hR
      · rw [if_neg h2] at hR
        rw [hy, nI_1]; exact ih (i + 1) (by omega) _ _ R hR
  exact key 4 0 rfl (-1) 6 _ rfl
theorem s_candidates {p : Nat} {c : aC} (hp : is_Notes S p) (h : ntR p c I) (hc : cn c ≤ 6) (hw : ∀ i, i < cn c → cs c i < 4 ∧ cw c i < 4) {j : Nat} (hj : j < 4) : CTi mr_X3_candidates [.ref p, .int (nI j)] S I L (nI (cnd c j (cn c))) I L := by
  refine wp_X3_candidates hp ?_
  have key := up_loop (P := fun i => hd_X3_candidates_5 S (fun v h => v = some (.int (nI (cnd c j (cn c)))) ∧ h = (S, I, L)) p (nI j) (nI (cnd c j i)) (nI i) I L) (cn c)
    (it_X3_candidates_5 hp (by rw [h.1]; exact ge_t (Nat.le_refl _) (by omega) ⟨rfl, rfl⟩))
    (fun i hi ih => it_X3_candidates_5 hp (by
      rw [h.1]
      obtain ⟨a1, a2⟩ := h.2 i hi
      obtain ⟨b1, b2⟩ := hw i hi
      have es : cnd c j (i + 1) = if cs c i = j then cnd c j i &&& mkw (cw c i) (cb c i) else cnd c j i := rfl
      have hv : vp_in (nI i) 6 := vp_in_nI (by omega) (by decide)
      refine ge_f hi (by omega) (ge_f (k := 6) (by omega) (by decide) ⟨hv, fun h1 y hy => ?_, fun h1 => ⟨hv, fun y hy z hz => ?_⟩⟩)
      · rw [nI_clamp (by omega), a1] at h1
        rw [hy, nI_1]
        rw [es, if_neg (fun e => h1 (by rw [e]))] at ih
        exact ih
      · rw [nI_clamp (by omega), a1] at h1
        have e : cs c i = j := (nI_eq (by omega) (by omega)).mp h1
        rw [hy, hz, nI_1, nI_clamp (by omega), a2, tw_and _ (cnd_lt c j i) _ b2]
        rw [es, if_pos e] at ih
        exact ih))
  exact key 0 (Nat.zero_le _)
/-! the reference -/
def hap (w k : Nat) : Bool := (hwN w).testBit k
def cdF (a b : Int32) : Int32 := if b = 0 then (if a = 1 then 1 else if a = 2 then 1 else 0) else if b = 1 then (if a = 2 then 1 else 0) else if b = 2 then (if a = 0 then 0 else 1) else (if a = 0 then 0 else if a = 4 then 0 else 1)
theorem cdF_hap : ∀ k, k < 5 → ∀ w, w < 4 → cdF (nI k) (nI w) = bI (hap w k) := by decide +kernel
theorem m_could (a b : Int32) : CTi mr_X9_could [.int a, .int b] S I L (cdF a b) I L := by
  refine wp_X9_could ⟨fun h => ?_, fun h => ?_, fun h => ?_, fun h => ?_⟩
  · exact ⟨fun h1 => ⟨by simp [cdF, h, h1], rfl⟩, fun h1 => ⟨fun h2 => ⟨by simp [cdF, h, h1, h2], rfl⟩, fun h2 => ⟨by simp [cdF, h, h2], rfl⟩⟩⟩
  · exact ⟨fun h1 => ⟨by simp [cdF, h, h1], rfl⟩, fun h1 => ⟨by simp [cdF, h, h1], rfl⟩⟩
  · exact ⟨fun h1 => ⟨by simp [cdF, h, h1], rfl⟩, fun h1 => ⟨by simp [cdF, h, h1], rfl⟩⟩
  · have n0 : ¬ b = 0 := fun e => by rw [e] at h; exact absurd h (by decide)
    have n1 : ¬ b = 1 := fun e => by rw [e] at h; exact absurd h (by decide)
    have n2 : ¬ b = 2 := fun e => by rw [e] at h; exact absurd h (by decide)
    exact ⟨fun h1 => ⟨by simp [cdF, n0, n1, n2, h1], rfl⟩, fun h1 => ⟨fun h2 => ⟨by simp [cdF, n0, n1, n2, h2], rfl⟩, fun h2 => ⟨by simp [cdF, n0, n1, n2, h1, h2], rfl⟩⟩⟩
/-- is the kind a candidate after k observations -/
def isK (c : aC) (j kd : Nat) : Nat → Bool
  | 0 => true
  | k + 1 => isK c j kd k && (!(decide (cs c k = j)) || (hap (cw c k) kd == cb c k))
theorem mkw_bit : ∀ w, w < 4 → ∀ b : Bool, ∀ k, k < 5 → (mkw w b).testBit k = (hap w k == b) := by decide +kernel
theorem b31 : ∀ k, k < 5 → (31 : Nat).testBit k = true := by decide
theorem isK_cnd {c : aC} {j kd : Nat} (hk : kd < 5) : ∀ k, (∀ i, i < k → cw c i < 4) → isK c j kd k = (cnd c j k).testBit kd
  | 0, _ => (b31 kd hk).symm
  | k + 1, h => by
    rw [isK, cnd, isK_cnd hk k (fun i hi => h i (by omega))]
    by_cases e : cs c k = j
    · rw [if_pos e, Nat.testBit_and, mkw_bit _ (h k (by omega)) _ _ hk]; simp [e]
    · rw [if_neg e]; simp [e]
def sbt (f : Nat → Bool) : Nat → Nat
  | 0 => 0
  | k + 1 => sbt f k ||| (if f k then 2 ^ k else 0)
theorem sbt_congr {f g : Nat → Bool} : ∀ k, (∀ i, i < k → f i = g i) → sbt f k = sbt g k
  | 0, _ => rfl
  | k + 1, h => by rw [sbt, sbt, sbt_congr k (fun i hi => h i (by omega)), h k (by omega)]
theorem sbt_all : ∀ x, x < 32 → sbt (fun i => x.testBit i) 5 = x := by decide +kernel
theorem or_bit : ∀ a, a < 32 → ∀ k, k < 5 → nI a ||| ((1 : Int32) <<< (nI k &&& 31)) = nI (a ||| 2 ^ k) := by decide +kernel
theorem or_zero : ∀ a, a < 32 → nI a ||| (0 : Int32) = nI (a ||| 0) := by decide +kernel
theorem sbt_lt (f : Nat → Bool) : ∀ k, k ≤ 5 → sbt f k < 32
  | 0, _ => show 0 < 32 by decide
  | k + 1, h => by
    have h1 := sbt_lt f k (by omega)
    have h2 : 2 ^ k < 32 := by
      have e : k = 0 ∨ k = 1 ∨ k = 2 ∨ k = 3 ∨ k = 4 := by omega
      rcases e with rfl | rfl | rfl | rfl | rfl <;> decide
    rw [sbt]
    exact Nat.or_lt_two_pow (n := 5) h1 (by split <;> omega)
theorem m_sortsOf {m : Nat} {c : aC} (hm : is_Model S m) (h5 : I m 5 = nI (cn c)) (hr : ∀ i, i < cn c → I (m + 4) i = nI (cs c i) ∧ I (m + 5) i = nI (cw c i) ∧ I (m + 6) i = bI (cb c i)) (hc : cn c ≤ 6) (hw : ∀ i, i < cn c → cs c i < 4 ∧ cw c i < 4) {j : Nat} (hj : j < 4) : CTi mr_X9_sortsOf [.ref m, .int (nI j)] S I L (nI (cnd c j (cn c))) I L := by
  refine wp_X9_sortsOf hm ?_
  have fin : sbt (fun kd => isK c j kd (cn c)) 5 = cnd c j (cn c) := by
    rw [sbt_congr (g := fun i => (cnd c j (cn c)).testBit i) 5 (fun i hi => isK_cnd hi _ (fun i hi => (hw i hi).2)), sbt_all _ (cnd_lt c j _)]
  have key := up_loop (P := fun kd => hd_X9_sortsOf_4 S (fun v h => v = some (.int (nI (cnd c j (cn c)))) ∧ h = (S, I, L)) m (nI j) (nI (sbt (fun kd => isK c j kd (cn c)) kd)) (nI kd) I L) 5
    (it_X9_sortsOf_4 hm ⟨fun _ => ⟨by rw [fin], rfl⟩, fun q => absurd (by decide) q⟩)
    (fun kd hkd ih => it_X9_sortsOf_4 hm ⟨fun q => absurd ((nI_ltI (a := 4) (by decide) (by omega)).mp q) (by omega), fun _ => by
      have inner := up_loop (P := fun k => hd_X9_sortsOf_15 S (fun v h => v = some (.int (nI (cnd c j (cn c)))) ∧ h = (S, I, L)) m (nI j) (nI (sbt (fun kd => isK c j kd (cn c)) kd)) (nI kd) (bI (isK c j kd k)) (nI k) I L) (cn c)
        (it_X9_sortsOf_15 hm (by
          rw [h5]
          have hlt := sbt_lt (fun kd => isK c j kd (cn c)) kd (by omega)
          have es : sbt (fun kd => isK c j kd (cn c)) (kd + 1) = sbt (fun kd => isK c j kd (cn c)) kd ||| (if isK c j kd (cn c) then 2 ^ kd else 0) := rfl
          refine ge_t (Nat.le_refl _) (by omega) ⟨fun q y hy z hz => ?_, fun q y hy z hz => ?_⟩
          · rw [bI_0] at q
            rw [hy, hz, nI_1, or_zero _ hlt]
            rw [q] at es
            rw [es] at ih; exact ih
          · have q2 : isK c j kd (cn c) = true := by
              cases hb : isK c j kd (cn c) with
              | true => rfl
              | false => rw [hb] at q; exact absurd rfl q
            rw [hy, hz, nI_1, or_bit _ hlt _ hkd]
            rw [q2] at es
            rw [es] at ih; exact ih))
        (fun k hk ih2 => it_X9_sortsOf_15 hm (by
          rw [h5]
          obtain ⟨a1, a2, a3⟩ := hr k hk
          obtain ⟨b1, b2⟩ := hw k hk
          have hv : vp_in (nI k) 6 := vp_in_nI (by omega) (by decide)
          have ec : (nI k).toNatClampNeg = k := nI_clamp (by omega)
          have es : isK c j kd (k + 1) = (isK c j kd k && (!(decide (cs c k = j)) || (hap (cw c k) kd == cb c k))) := rfl
          refine ge_f hk (by omega) ⟨fun q y hy => ?_, fun q => ⟨hv, fun q2 y hy => ?_, fun q2 => ⟨hv, _, _, _, m_could _ _, hv, ?_⟩⟩⟩
          · rw [bI_0] at q
            rw [hy, nI_1]
            rw [es, q] at ih2
            exact ih2
          · have q3 : isK c j kd k = true := by
              cases hb : isK c j kd k with
              | true => rfl
              | false => rw [hb] at q; exact absurd rfl q
            rw [ec, a1] at q2
            have e : ¬ cs c k = j := fun e => q2 (by rw [e])
            rw [hy, nI_1]
            rw [es, q3] at ih2
            simpa [e, bI] using ih2
          · have q3 : isK c j kd k = true := by
              cases hb : isK c j kd k with
              | true => rfl
              | false => rw [hb] at q; exact absurd rfl q
            rw [ec, a1] at q2
            have e : cs c k = j := (nI_eq (by omega) (by omega)).mp q2
            rw [es, q3] at ih2
            rw [ec, a2, a3, cdF_hap kd hkd _ b2]
            refine ⟨fun r1 => ⟨fun r2 y hy => ?_, fun r2 y hy => ?_⟩, fun r1 => ⟨fun r2 y hy => ?_, fun r2 y hy => ?_⟩⟩ <;> (rw [hy, nI_1]; cases hb : cb c k <;> cases hh : hap (cw c k) kd <;> simp [hb, hh, e, bI] at r1 r2 ih2 ⊢ <;> exact ih2)))
      have := inner 0 (Nat.zero_le _)
      exact this⟩)
  exact key 0 (by decide)
theorem m_isIn (a b : Int32) : CTi mr_X9_isIn [.int a, .int b] S I L (if ((a >>> (b &&& 31)) &&& (1 : Int32)) = (1 : Int32) then 1 else 0) I L := wp_X9_isIn ⟨fun h => ⟨by rw [if_neg h], rfl⟩, fun h => ⟨by rw [if_pos h], rfl⟩⟩
def szF (x : Int32) : Nat → Int32
  | 0 => 0
  | k + 1 => szF x k + ((x >>> (nI k &&& 31)) &&& 1)
theorem m_size (a : Int32) : CTi mr_X9_size [.int a] S I L (szF a 16) I L := by
  refine wp_X9_size ?_
  have key := up_loop (P := fun i => hd_X9_size_4 S (fun v h => v = some (.int (szF a 16)) ∧ h = (S, I, L)) a (szF a i) (nI i) I L) 16
    (it_X9_size_4 (ge_t (k := 16) (Nat.le_refl _) (by decide) ⟨rfl, rfl⟩))
    (fun i hi ih => it_X9_size_4 (ge_f (k := 16) hi (by decide) (fun y hy z hz => by rw [hy, hz, nI_1]; exact ih)))
  exact key 0 (by decide)
/-- with how many candidates it can happen -/
def ysF (x : Int32) (w : Nat) : Nat → Int32
  | 0 => 0
  | k + 1 => ysF x w k + (if ((x >>> (nI k &&& 31)) &&& (1 : Int32)) = (1 : Int32) then (if cdF (nI k) (nI w) = 0 then 0 else 1) else 0)
def wsF (x : Int32) (w : Nat) : Int32 := if ysF x w 5 ≤ szF x 16 - ysF x w 5 then szF x 16 - ysF x w 5 else ysF x w 5
def mqF (x : Int32) : Nat → Int32 → Int32 → Nat → Int32
  | 0, x3, _, _ => x3
  | k + 1, x3, x4, w => if x = 0 then x3 else if x4 ≤ wsF x w then mqF x k x3 x4 (w + 1) else mqF x k (nI w) (wsF x w) (w + 1)
theorem mq_nq : ∀ n, n < 32 → mqF (nI n) 4 (-1) 268435456 0 = nxq n := by decide +kernel
theorem m_askOf {m : Nat} {c : aC} (hm : is_Model S m) (h5 : I m 5 = nI (cn c)) (hr : ∀ i, i < cn c → I (m + 4) i = nI (cs c i) ∧ I (m + 5) i = nI (cw c i) ∧ I (m + 6) i = bI (cb c i)) (hc : cn c ≤ 6) (hw : ∀ i, i < cn c → cs c i < 4 ∧ cw c i < 4) {j : Nat} (hj : j < 4) : CTi mr_X9_askOf [.ref m, .int (nI j)] S I L (nxq (cnd c j (cn c))) I L := by
  refine wp_X9_askOf hm ⟨_, _, _, m_sortsOf hm h5 hr hc hw hj, ?_⟩
  rw [← mq_nq _ (cnd_lt c j _)]
  generalize nI (cnd c j (cn c)) = x
  have key : ∀ k w, w + k = 4 → ∀ x3 x4 R, mqF x k x3 x4 w = R → hd_X9_askOf_16 S (fun v h => v = some (.int R) ∧ h = (S, I, L)) x x3 x4 (nI w) I L := by
    intro k
    induction k with
    | zero =>
      intro w hw x3 x4 R hR
      obtain rfl : w = 4 := by omega
      exact it_X9_askOf_16 (ge_t (k := 4) (Nat.le_refl _) (by decide) ⟨by rw [← hR]; rfl, rfl⟩)
    | succ k ih =>
      intro w hw x3 x4 R hR
      rw [mqF] at hR
      refine it_X9_askOf_16 (ge_f (k := 4) (by omega) (by decide) ⟨fun h => ⟨by rw [← hR, if_pos h], rfl⟩, fun h => ?_⟩)
      rw [if_neg h] at hR
      have inner := up_loop (P := fun kd => hd_X9_askOf_32 S (fun v h => v = some (.int R) ∧ h = (S, I, L)) x x3 x4 (nI w) (ysF x w kd) (nI kd) I L) 5
        (it_X9_askOf_32 ⟨fun _ => ⟨_, _, _, m_size x, fun y hy => ?_⟩, fun q => absurd (by decide) q⟩)
        (fun kd hkd ih2 => it_X9_askOf_32 ⟨fun q => absurd ((nI_ltI (a := 4) (by decide) (by omega)).mp q) (by omega), fun _ => ⟨_, _, _, m_isIn _ _, ?_⟩⟩)
      · exact inner 0 (by decide)
      · rw [hy]
        by_cases c1 : ysF x w 5 ≤ szF x 16 - ysF x w 5
        · have ew : wsF x w = szF x 16 - ysF x w 5 := if_pos c1
          rw [ew] at hR
          by_cases c2 : x4 ≤ szF x 16 - ysF x w 5
          · rw [if_pos c2] at hR
            exact ⟨fun _ => ⟨fun _ => ⟨fun _ z hz => by rw [hz, nI_1]; exact ih (w + 1) (by omega) _ _ R hR, fun q => absurd c2 q⟩, fun q => absurd c2 q⟩, fun q => absurd c1 q⟩
          · rw [if_neg c2] at hR
            exact ⟨fun _ => ⟨fun q => absurd q c2, fun _ => ⟨fun q => absurd q c2, fun _ z hz => by rw [hz, nI_1]; exact ih (w + 1) (by omega) _ _ R hR⟩⟩, fun q => absurd c1 q⟩
        · have ew : wsF x w = ysF x w 5 := if_neg c1
          rw [ew] at hR
          by_cases c2 : x4 ≤ ysF x w 5
          · rw [if_pos c2] at hR
            exact ⟨fun q => absurd q c1, fun _ => ⟨fun _ => ⟨fun _ z hz => by rw [hz, nI_1]; exact ih (w + 1) (by omega) _ _ R hR, fun q => absurd c2 q⟩, fun q => absurd c2 q⟩⟩
          · rw [if_neg c2] at hR
            exact ⟨fun q => absurd q c1, fun _ => ⟨fun q => absurd q c2, fun _ => ⟨fun q => absurd q c2, fun _ z hz => by rw [hz, nI_1]; exact ih (w + 1) (by omega) _ _ R hR⟩⟩⟩
      · have es : ysF x w (kd + 1) = ysF x w kd + (if ((x >>> (nI kd &&& 31)) &&& (1 : Int32)) = (1 : Int32) then (if cdF (nI kd) (nI w) = 0 then 0 else 1) else 0) := rfl
        by_cases c1 : ((x >>> (nI kd &&& 31)) &&& (1 : Int32)) = (1 : Int32)
        · rw [if_pos c1] at es ⊢
          refine ⟨fun q => absurd q (by decide), fun _ => ⟨_, _, _, m_could _ _, fun q y hy z hz => ?_, fun q y hy z hz => ?_⟩⟩
          · rw [if_pos q] at es
            rw [hy, hz, nI_1, ← es]; exact ih2
          · rw [if_neg q] at es
            rw [hy, hz, nI_1, ← es]; exact ih2
        · rw [if_neg c1] at es ⊢
          exact ⟨fun _ y hy z hz => by rw [hy, hz, nI_1, ← es]; exact ih2, fun q => absurd rfl q⟩
  exact key 4 0 rfl (-1) 268435456 _ rfl
