/-! THE REFERENCE: its simple methods -/
variable {S : List mjD} {I : Nat → Nat → Int32} {L : Nat → Nat → Int64}
theorem m_w (b : Int32) {lo hi : Int64} (l h : Int) (hl : lo.toInt = l) (hh : hi.toInt = h) : CTi mr_X9_within [.long b.toInt64, .long lo, .long hi] S I L (if b.toInt < l ∨ h < b.toInt then 0 else 1) I L := by
  have e1 : b.toInt64 < lo ↔ b.toInt < l := by rw [Int64.lt_iff_toInt_lt, Int32.toInt_toInt64, hl]
  have e2 : hi < b.toInt64 ↔ h < b.toInt := by rw [Int64.lt_iff_toInt_lt, Int32.toInt_toInt64, hh]
  exact wp_X9_within ⟨fun q => ⟨by rw [if_pos (Or.inl (e1.mp q))], rfl⟩, fun q => ⟨fun q2 => ⟨by rw [if_pos (Or.inr (e2.mp q2))], rfl⟩, fun q2 => ⟨by rw [if_neg (fun z => z.elim (fun z => q (e1.mpr z)) (fun z => q2 (e2.mpr z)))], rfl⟩⟩⟩
theorem lt_i {a : Int32} {k : Int32} {n : Int} (h : k.toInt = n) : a < k ↔ a.toInt < n := by rw [Int32.lt_iff_toInt_lt, h]
theorem le_i {a : Int32} {k : Int32} {n : Int} (h : k.toInt = n) : k ≤ a ↔ n ≤ a.toInt := by rw [Int32.le_iff_toInt_le, h]
theorem ge_i {a : Int32} {k : Int32} {n : Int} (h : k.toInt = n) : a ≤ k ↔ a.toInt ≤ n := by rw [Int32.le_iff_toInt_le, h]
/-- the reference's region -/
def moX (m b : Nat) : Prop := m ≤ b ∧ b < m + 33
/-- only scratch changes -/
def frS (m : Nat) (I : Nat → Nat → Int32) (L : Nat → Nat → Int64) (I1 : Nat → Nat → Int32) (L1 : Nat → Nat → Int64) : Prop :=
  (∀ b, (b < m ∨ (m + 1 ≤ b ∧ b ≤ m + 7) ∨ m + 27 ≤ b) → I1 b = I b ∧ L1 b = L b) ∧ ∀ k, (k = 0 ∨ k = 1 ∨ k = 5 ∨ k = 9 ∨ k = 48 ∨ k = 49 ∨ k = 50) → I1 m k = I m k
theorem frS_rf {m : Nat} : frS m I L I L := ⟨fun _ _ => ⟨rfl, rfl⟩, fun _ _ => rfl⟩
theorem frS_tr {m : Nat} {I1 I2 : Nat → Nat → Int32} {L1 L2 : Nat → Nat → Int64} (h : frS m I L I1 L1) (h2 : frS m I1 L1 I2 L2) : frS m I L I2 L2 :=
  ⟨fun b hb => ⟨(h2.1 b hb).1.trans (h.1 b hb).1, (h2.1 b hb).2.trans (h.1 b hb).2⟩, fun k hk => (h2.2 k hk).trans (h.2 k hk)⟩
theorem frS_L {m : Nat} {I1 : Nat → Nat → Int32} {L1 : Nat → Nat → Int64} (h : frL m I L I1 L1) : frS m I L I1 L1 := ⟨fun b hb => h.1 b (by omega) (by omega) (by omega), fun k hk => h.2.2 k (by omega) (by omega) (by omega) (by omega) (by omega) (by omega) (by omega)⟩
theorem frS_mo {m : Nat} {I1 : Nat → Nat → Int32} {L1 : Nat → Nat → Int64} (h : frS m I L I1 L1) : fr (moX m) I L I1 L1 := fun b hb => h.1 b (by unfold moX at hb; omega)
theorem mR_eq {n1 n2 n3 n4 n5 n6 : Nat} {sn sn1 : Int32} {c : aC} {I1 : Nat → Nat → Int32} {L1 : Nat → Nat → Int64} (h : mR n1 n2 n3 n4 n5 n6 sn c I L) (e1 : I1 n1 = I n1) (e2 : L1 n2 = L n2) (e3 : I1 n3 = I n3) (e4 : I1 n4 = I n4) (e5 : I1 n5 = I n5) (e6 : I1 n6 = I n6) (es : sn1 = sn) : mR n1 n2 n3 n4 n5 n6 sn1 c I1 L1 := by
  unfold mR
  rw [e1, e2, e3, e4, e5, e6, es]; exact h
section
variable {m : Nat} {A : aS}
theorem IM_sc {I1 : Nat → Nat → Int32} {L1 : Nat → Nat → Int64} (h : IM m A I L) (hf : frS m I L I1 L1) (hc : mCache m I1 L1) : IM m A I1 L1 := by
  obtain ⟨⟨a1, a2⟩, a3, a4, a5, a6, a7, a8⟩ := h
  have r : ∀ b, ((m + 1 ≤ b ∧ b ≤ m + 7) ∨ m + 27 ≤ b) → I1 b = I b ∧ L1 b = L b := fun b hb => hf.1 b (by omega)
  refine ⟨⟨by rw [hf.2 9 (by omega)]; exact a1, fun k hk => by rw [(r (m + 7) (by omega)).1]; exact a2 k hk⟩, by rw [hf.2 1 (by omega)]; exact a3, by rw [hf.2 0 (by omega)]; exact a4, mR_eq a5 (r _ (by omega)).1 (r _ (by omega)).2 (r _ (by omega)).1 (r _ (by omega)).1 (r _ (by omega)).1 (r _ (by omega)).1 (hf.2 5 (by omega)), by rw [hf.2 48 (by omega)]; exact a6, fun hh => ⟨by rw [hf.2 49 (by omega)]; exact (a7 hh).1, mR_eq (a7 hh).2 (r _ (by omega)).1 (r _ (by omega)).2 (r _ (by omega)).1 (r _ (by omega)).1 (r _ (by omega)).1 (r _ (by omega)).1 (hf.2 50 (by omega))⟩, hc⟩
theorem cache_eq {I1 : Nat → Nat → Int32} {L1 : Nat → Nat → Int64} (h : mCache m I L) (e15 : I1 m 15 = I m 15) (e19 : I1 m 19 = I m 19) (e12 : I1 (m + 12) = I (m + 12)) (e13 : I1 (m + 13) = I (m + 13)) (e9 : L1 (m + 9) = L (m + 9)) (e11 : L1 (m + 11) = L (m + 11)) : mCache m I1 L1 := by
  rcases h with h | ⟨h, h2, h3⟩
  · exact Or.inl (by rw [e15]; exact h)
  · refine Or.inr ⟨by rw [e15]; exact h, ?_⟩
    rw [e9]
    exact ⟨h2, by rw [e19]; exact h3.1, h3.2.1, fun j hj => mHold_of (h3.2.2 j hj) (fun k _ => by rw [e11]) (by rw [e12]) (by rw [e13])⟩
theorem m_isSlot (hm : is_Model S m) (hA : aOK A) (h1 : I m 1 = nI (asc A)) (a : Int32) : CTi mr_X9_isSlot [.ref m, .int a] S I L (if (sIdx A a).isSome then 1 else 0) I L := by
  have h4 := hA.2.2.1
  have hs : (nI (asc A) - 1).toInt = (asc A : Int) - 1 := pk_sub_toInt (b := 1) (by omega) (by decide)
  have hw := m_w (S := S) (I := I) (L := L) a (lo := 0) (hi := (nI (asc A) - (1 : Int32)).toInt64) 0 ((asc A : Int) - 1) rfl (by rw [Int32.toInt_toInt64]; exact hs)
  have e : (if a.toInt < 0 ∨ (asc A : Int) - 1 < a.toInt then (0 : Int32) else 1) = if (sIdx A a).isSome then 1 else 0 := by
    unfold sIdx
    have l1 := lt_i (a := a) (k := 0) (n := 0) rfl
    have l2 := le_i (a := a) (k := nI (asc A)) (n := asc A) (nI_toInt (by omega))
    by_cases c1 : a < 0
    · rw [if_pos c1, if_pos (Or.inl (l1.mp c1))]; rfl
    · rw [if_neg c1]
      by_cases c2 : nI (asc A) ≤ a
      · rw [if_pos c2, if_pos (Or.inr (by have := l2.mp c2; omega))]; rfl
      · rw [if_neg c2, if_neg (fun z => z.elim (fun z => c1 (l1.mpr z)) (fun z => c2 (l2.mpr (by omega))))]; rfl
  rw [e] at hw
  refine wp_X9_isSlot hm ⟨_, _, _, by rw [h1]; exact hw, ?_, rfl, rfl⟩
  cases (sIdx A a).isSome <;> simp
theorem dg_pos {f : Nat → Int64} (h : okp f) : ∃ n, n < 6 ∧ dg f = nI n ∧ deg6 f n := by
  obtain ⟨n, hn⟩ := deg6_ex h.2
  exact ⟨n, hn.1, deg6_dg hn, hn⟩
theorem m_isFilled (hm : is_Model S m) (hA : aOK A) (h1 : I m 1 = nI (asc A)) (hR : mR (m + 1) (m + 2) (m + 3) (m + 4) (m + 5) (m + 6) (I m 5) (ac A) I L) (a : Int32) : CTi mr_X9_isFilled [.ref m, .int a] S I L (if (fIdx A a).isSome then 1 else 0) I L := by
  have hs := m_isSlot (S := S) (I := I) (L := L) hm hA h1 a
  cases hx : sIdx A a with
  | none =>
    have e : fIdx A a = none := by unfold fIdx; rw [hx]
    rw [hx] at hs
    rw [e]
    exact wp_X9_isFilled hm ⟨_, _, _, hs, fun _ => ⟨rfl, rfl⟩, fun q => absurd rfl q⟩
  | some j =>
    obtain ⟨rfl, j1, j2⟩ := sIdx_some hA hx
    rw [hx] at hs
    rw [show (if (some j).isSome = true then (1 : Int32) else 0) = 1 from rfl] at hs
    have hr := hR.1 j j2
    cases hb : cf (ac A) j with
    | false =>
      have e : fIdx A (nI j) = none := by unfold fIdx; rw [hx]; simp [hb]
      rw [e]
      refine wp_X9_isFilled hm ⟨_, _, _, hs, fun q => absurd q (by decide), fun _ => ⟨vp_in_nI j2 (by decide), fun _ => ⟨rfl, rfl⟩, fun q => absurd ?_ q⟩⟩
      rw [nI_clamp (by omega), hr.2.1 hb]; decide
    | true =>
      have e : fIdx A (nI j) = some j := by unfold fIdx; rw [hx]; simp [hb]
      obtain ⟨n, n6, hn, -⟩ := dg_pos ((hA.2.2.2.2.1.1 j j2).2 hb)
      rw [e]
      refine wp_X9_isFilled hm ⟨_, _, _, hs, fun q => absurd q (by decide), fun _ => ⟨vp_in_nI j2 (by decide), fun q => absurd ?_ (nI_pos (n := n) (by omega)), fun _ => ⟨rfl, rfl⟩⟩⟩
      rw [nI_clamp (by omega), (hr.2.2 hb).1, hn] at q; exact q
theorem byte_id : ∀ n, n < 128 → (nI n).toInt8.toInt32.toInt8.toInt32 = nI n := by decide +kernel
theorem m_letter (hm : is_Model S m) (hA : aOK A) (h : IM m A I L) (a : Int32) : ∃ I1 L1, CTi mr_X9_letter [.ref m, .int a] S I L (sp_letter A a).1 I1 L1 ∧ IM m (sp_letter A a).2 I1 L1 ∧ fr (moX m) I L I1 L1 := by
  have h40 := hA.1
  have hw := m_w (S := S) (I := I) (L := L) a (lo := 32) (hi := 126) 32 126 rfl rfl
  have l1 := lt_i (a := a) (k := 32) (n := 32) rfl
  have l2 := ge_i (a := a) (k := 126) (n := 126) rfl
  unfold sp_letter
  by_cases c1 : a < 32
  · rw [if_pos (Or.inl (l1.mp c1))] at hw
    rw [if_pos c1]
    exact ⟨I, L, wp_X9_letter hm ⟨_, _, _, hw, fun q => absurd rfl q, fun _ => ⟨rfl, rfl⟩⟩, h, fr_rf⟩
  · rw [if_neg c1]
    by_cases c2 : a ≤ 126
    · rw [if_neg (fun z => z.elim (fun z => c1 (l1.mpr z)) (fun z => by have := l2.mp c2; omega))] at hw
      rw [if_pos c2]
      by_cases c3 : apn A < 40
      · rw [if_pos c3]
        obtain ⟨n, hn, rfl⟩ := nI_of (x := a) (fun q => c1 (l1.mpr (by have := (lt_i (k := 0) (n := 0) rfl).mp q; omega)))
        have hn126 : n ≤ 126 := by
          have := l2.mp c2
          rw [nI_toInt hn] at this; omega
        obtain ⟨I1, hI1⟩ : ∃ I1, I1 = mj_up (mj_up I (m + 7) (apn A) (nI n)) m 9 (nI (apn A + 1)) := ⟨_, rfl⟩
        have r : ∀ b, b ≠ m → b ≠ m + 7 → I1 b = I b := fun b b1 b2 => by rw [hI1, up_ne b1, up_ne b2]
        have f : ∀ k, k ≠ 9 → I1 m k = I m k := fun k hk => by rw [hI1, up_nk hk, up_ne (by omega)]
        have hne : ¬ nI (apn A) = (40 : Int32) := fun q => absurd ((nI_eq (b := 40) (by omega) (by decide)).mp q) (by omega)
        refine ⟨I1, L, wp_X9_letter hm ⟨_, _, _, hw, fun _ => ?_, fun q => absurd q (by decide)⟩, ?_, fun b hb => ⟨r b (fun e => hb (by unfold moX; omega)) (fun e => hb (by unfold moX; omega)), rfl⟩⟩
        · rw [h.1.1]
          refine ⟨fun _ => ⟨vp_in_nI c3 (by decide), ?_, ?_⟩, fun q => absurd q hne⟩
          · rw [up_eq, up_ne (by omega), h.1.1, nI_1]
          · rw [nI_clamp (by omega), byte_id n (by omega), up_ne (b := m) (by omega), h.1.1, nI_1, ← hI1]
        · obtain ⟨⟨-, a2⟩, a3, a4, a5, a6, a7, a8⟩ := h
          refine ⟨⟨by rw [hI1, up_eq]; rfl, fun k hk => ?_⟩, by rw [f 1 (by decide)]; exact a3, by rw [f 0 (by decide)]; exact a4, mR_eq a5 (r _ (by omega) (by omega)) rfl (r _ (by omega) (by omega)) (r _ (by omega) (by omega)) (r _ (by omega) (by omega)) (r _ (by omega) (by omega)) (f 5 (by decide)), by rw [f 48 (by decide)]; exact a6, fun hh => ⟨by rw [f 49 (by decide)]; exact (a7 hh).1, mR_eq (a7 hh).2 (r _ (by omega) (by omega)) rfl (r _ (by omega) (by omega)) (r _ (by omega) (by omega)) (r _ (by omega) (by omega)) (r _ (by omega) (by omega)) (f 50 (by decide))⟩, cache_eq a8 (f 15 (by decide)) (f 19 (by decide)) (r _ (by omega) (by omega)) (r _ (by omega) (by omega)) rfl rfl⟩
          have hk2 : k < apn A + 1 := hk
          show I1 (m + 7) k = if k = apn A then nI n else apc A k
          rw [hI1, up_ne (by omega)]
          by_cases e : k = apn A
          · rw [e, up_eq, if_pos rfl]
          · rw [up_nk e, if_neg e]
            exact a2 k (by omega)
      · rw [if_neg c3]
        have h40' : apn A = 40 := by omega
        refine ⟨I, L, wp_X9_letter hm ⟨_, _, _, hw, fun _ => ?_, fun q => absurd q (by decide)⟩, h, fr_rf⟩
        rw [h.1.1, h40']
        exact ⟨fun q => absurd rfl q, fun _ => ⟨rfl, rfl⟩⟩
    · rw [if_pos (Or.inr (by have h9 : ¬ a.toInt ≤ 126 := fun q => c2 (l2.mpr q); omega))] at hw
      rw [if_neg c2]
      exact ⟨I, L, wp_X9_letter hm ⟨_, _, _, hw, fun q => absurd rfl q, fun _ => ⟨rfl, rfl⟩⟩, h, fr_rf⟩
/-- one field changes -/
theorem IM_fld {k : Nat} {x : Int32} (h : IM m A I L) : (k ≠ 0 → k ≠ 1 → k ≠ 5 → k ≠ 9 → k ≠ 15 → k ≠ 19 → k ≠ 48 → k ≠ 49 → k ≠ 50 → IM m A (mj_up I m k x) L) := fun h0 h1 h5 h9 h15 h19 h48 h49 h50 =>
  IM_sc h ⟨fun b hb => ⟨up_ne (by omega), rfl⟩, fun j hj => up_nk (by omega)⟩ (cache_eq h.2.2.2.2.2.2 (up_nk (by omega)) (up_nk (by omega)) (up_ne (by omega)) (up_ne (by omega)) rfl rfl)
theorem m_blank (hm : is_Model S m) (h : IM m A I L) : ∃ I1 L1, CTi mr_X9_blank [.ref m] S I L (sp_blank A).1 I1 L1 ∧ IM m (sp_blank A).2 I1 L1 ∧ fr (moX m) I L I1 L1 := by
  obtain ⟨⟨a1, a2⟩, a3, a4, a5, a6, a7, a8⟩ := h
  have f : ∀ k, k ≠ 9 → mj_up I m 9 (0 : Int32) m k = I m k := fun k hk => up_nk hk
  have r : ∀ b, b ≠ m → mj_up I m 9 (0 : Int32) b = I b := fun b hb => up_ne hb
  exact ⟨_, L, wp_X9_blank hm (fun y hy => ⟨by rw [hy, a1]; rfl, rfl⟩), ⟨⟨by rw [up_eq]; rfl, fun k hk => by have : k < 0 := hk; omega⟩, by rw [f 1 (by decide)]; exact a3, by rw [f 0 (by decide)]; exact a4, mR_eq a5 (r _ (by omega)) rfl (r _ (by omega)) (r _ (by omega)) (r _ (by omega)) (r _ (by omega)) (f 5 (by decide)), by rw [f 48 (by decide)]; exact a6, fun hh => ⟨by rw [f 49 (by decide)]; exact (a7 hh).1, mR_eq (a7 hh).2 (r _ (by omega)) rfl (r _ (by omega)) (r _ (by omega)) (r _ (by omega)) (r _ (by omega)) (f 50 (by decide))⟩, cache_eq a8 (f 15 (by decide)) (f 19 (by decide)) (r _ (by omega)) (r _ (by omega)) rfl rfl⟩, fr_I (by unfold moX; omega)⟩
/-- slots and observations change -/
theorem IM_co {c : aC} {I1 : Nat → Nat → Int32} {L1 : Nat → Nat → Int64} (h : IM m A I L) (hf : ∀ b, (b = m + 7 ∨ m + 27 ≤ b) → I1 b = I b ∧ L1 b = L b) (hk : ∀ k, (k = 0 ∨ k = 1 ∨ k = 9 ∨ k = 48 ∨ k = 49 ∨ k = 50) → I1 m k = I m k) (hc : mR (m + 1) (m + 2) (m + 3) (m + 4) (m + 5) (m + 6) (I1 m 5) c I1 L1) (hca : mCache m I1 L1) : IM m (aCore A c) I1 L1 := by
  obtain ⟨⟨a1, a2⟩, a3, a4, a5, a6, a7, a8⟩ := h
  have r := fun b (hb : m + 27 ≤ b) => hf b (Or.inr hb)
  exact ⟨⟨by rw [hk 9 (by omega)]; exact a1, fun k hk => by rw [(hf (m + 7) (Or.inl rfl)).1]; exact a2 k hk⟩, by rw [hk 1 (by omega)]; exact a3, by rw [hk 0 (by omega)]; exact a4, hc, by rw [hk 48 (by omega)]; exact a6, fun hh => ⟨by rw [hk 49 (by omega)]; exact (a7 hh).1, mR_eq (a7 hh).2 (r _ (by omega)).1 (r _ (by omega)).2 (r _ (by omega)).1 (r _ (by omega)).1 (r _ (by omega)).1 (r _ (by omega)).1 (hk 50 (by omega))⟩, hca⟩
theorem m_forget (hm : is_Model S m) (h : IM m A I L) : ∃ I1 L1, CTi mr_X9_forget [.ref m] S I L (sp_forget A).1 I1 L1 ∧ IM m (sp_forget A).2 I1 L1 ∧ fr (moX m) I L I1 L1 := by
  have f : ∀ k, k ≠ 5 → mj_up I m 5 (0 : Int32) m k = I m k := fun k hk => up_nk hk
  have r : ∀ b, b ≠ m → mj_up I m 5 (0 : Int32) b = I b := fun b hb => up_ne hb
  have hr := h.2.2.2.1
  refine ⟨_, L, wp_X9_forget hm (fun y hy => ⟨by rw [hy, hr.2.1]; rfl, rfl⟩), IM_co h (fun b hb => ⟨r b (by omega), rfl⟩) (fun k hk => f k (by omega)) ⟨fun j hj => ?_, by rw [up_eq]; rfl, fun i hi => by have : i < 0 := hi; omega⟩ (cache_eq h.2.2.2.2.2.2 (f 15 (by decide)) (f 19 (by decide)) (r _ (by omega)) (r _ (by omega)) rfl rfl), fr_I (by unfold moX; omega)⟩
  rw [r (m + 1) (by omega), r (m + 3) (by omega)]
  exact hr.1 j hj
theorem m_as (hm : is_Model S m) (hA : aOK A) (h : IM m A I L) (a b : Int32) : CTi mr_X9_as [.ref m, .int a, .int b] S I L (sp_as A a b) I L := by
  have hs := m_isSlot (S := S) (I := I) (L := L) hm hA h.2.1 a
  have hw := m_w (S := S) (I := I) (L := L) b (lo := 0) (hi := 4) 0 4 rfl rfl
  have l1 := lt_i (a := b) (k := 0) (n := 0) rfl
  have l2 := le_i (a := b) (k := 5) (n := 5) rfl
  unfold sp_as
  cases hx : sIdx A a with
  | none =>
    rw [hx] at hs
    exact wp_X9_as hm ⟨_, _, _, hs, fun q => absurd rfl q, fun _ => ⟨rfl, rfl⟩⟩
  | some j =>
    obtain ⟨rfl, j1, j2⟩ := sIdx_some hA hx
    rw [hx] at hs
    rw [show (if (some j).isSome = true then (1 : Int32) else 0) = 1 from rfl] at hs
    have hk := (h.2.2.2.1.1 j j2).1
    refine wp_X9_as hm ⟨_, _, _, hs, fun _ => ?_, fun q => absurd q (by decide)⟩
    by_cases b1 : b < 0
    · rw [if_pos (Or.inl (l1.mp b1))] at hw
      exact ⟨_, _, _, hw, fun q => absurd rfl q, fun _ => ⟨by simp only [if_pos b1], rfl⟩⟩
    · by_cases b2 : 5 ≤ b
      · rw [if_pos (Or.inr (by have := l2.mp b2; omega))] at hw
        exact ⟨_, _, _, hw, fun q => absurd rfl q, fun _ => ⟨by simp only [if_neg b1, if_pos b2], rfl⟩⟩
      · rw [if_neg (fun z => z.elim (fun z => b1 (l1.mpr z)) (fun z => b2 (l2.mpr (by omega))))] at hw
        refine ⟨_, _, _, hw, fun _ => ⟨vp_in_nI j2 (by decide), fun y hy => ?_⟩, fun q => absurd q (by decide)⟩
        rw [nI_clamp (by omega), hk] at hy
        rw [hy]
        exact ⟨fun q => ⟨by simp only [if_neg b1, if_neg b2, if_pos q], rfl⟩, fun q => ⟨fun q2 => ⟨by simp only [if_neg b1, if_neg b2, if_neg q, if_pos q2.symm], rfl⟩, fun q2 => ⟨fun q3 => ⟨by simp only [if_neg b1, if_neg b2, if_neg q, if_neg (fun z => q2 (Eq.symm z))]; rw [if_neg (fun z => q3 z.1)], rfl⟩, fun q3 => ⟨fun q4 => ⟨by simp only [if_neg b1, if_neg b2, if_neg q, if_neg (fun z => q2 (Eq.symm z))]; rw [if_neg (fun z => q4 z.2)], rfl⟩, fun q4 => ⟨by simp only [if_neg b1, if_neg b2, if_neg q, if_neg (fun z => q2 (Eq.symm z))]; rw [if_pos ⟨q3, q4⟩], rfl⟩⟩⟩⟩⟩
theorem m_be (hm : is_Model S m) (hA : aOK A) (h : IM m A I L) (a b : Int32) : ∃ I1 L1, CTi mr_X9_be [.ref m, .int a, .int b] S I L (sp_be A a b).1 I1 L1 ∧ IM m (sp_be A a b).2 I1 L1 ∧ fr (moX m) I L I1 L1 := by
  have hs := m_isSlot (S := S) (I := I) (L := L) hm hA h.2.1 a
  have hw := m_w (S := S) (I := I) (L := L) b (lo := 0) (hi := 4) 0 4 rfl rfl
  have l1 := lt_i (a := b) (k := 0) (n := 0) rfl
  have l2 := le_i (a := b) (k := 5) (n := 5) rfl
  unfold sp_be
  cases hx : sIdx A a with
  | none =>
    rw [hx] at hs
    exact ⟨I, L, wp_X9_be hm ⟨_, _, _, hs, fun q => absurd rfl q, fun _ => ⟨rfl, rfl⟩⟩, h, fr_rf⟩
  | some j =>
    obtain ⟨rfl, j1, j2⟩ := sIdx_some hA hx
    rw [hx] at hs
    rw [show (if (some j).isSome = true then (1 : Int32) else 0) = 1 from rfl] at hs
    have hk := (h.2.2.2.1.1 j j2).1
    by_cases b1 : b < 0
    · rw [if_pos (Or.inl (l1.mp b1))] at hw
      simp only [if_pos b1]
      exact ⟨I, L, wp_X9_be hm ⟨_, _, _, hs, fun _ => ⟨_, _, _, hw, fun q => absurd rfl q, fun _ => ⟨rfl, rfl⟩⟩, fun q => absurd q (by decide)⟩, h, fr_rf⟩
    · by_cases b2 : 5 ≤ b
      · rw [if_pos (Or.inr (by have := l2.mp b2; omega))] at hw
        simp only [if_neg b1, if_pos b2]
        exact ⟨I, L, wp_X9_be hm ⟨_, _, _, hs, fun _ => ⟨_, _, _, hw, fun q => absurd rfl q, fun _ => ⟨rfl, rfl⟩⟩, fun q => absurd q (by decide)⟩, h, fr_rf⟩
      · rw [if_neg (fun z => z.elim (fun z => b1 (l1.mpr z)) (fun z => b2 (l2.mpr (by omega))))] at hw
        simp only [if_neg b1, if_neg b2]
        obtain ⟨k, hk5, rfl⟩ := vp_in_of (in_of (n := 5) (by decide) b1 b2) (by decide)
        have r : ∀ b, b ≠ m + 1 → mj_up I (m + 1) j (nI k) b = I b := fun b hb => up_ne hb
        have hr := h.2.2.2.1
        refine ⟨mj_up I (m + 1) j (nI k), L, wp_X9_be hm ⟨_, _, _, hs, fun _ => ⟨_, _, _, hw, fun _ => ⟨vp_in_nI j2 (by decide), fun y hy => ⟨vp_in_nI j2 (by decide), ?_, ?_⟩⟩, fun q => absurd q (by decide)⟩, fun q => absurd q (by decide)⟩, IM_co h (fun b hb => ⟨r b (by omega), rfl⟩) (fun k hk => by rw [r m (by omega)]) ⟨fun i hi => ?_, by rw [r m (by omega)]; exact hr.2.1, fun i hi => ?_⟩ (cache_eq h.2.2.2.2.2.2 (by rw [r m (by omega)]) (by rw [r m (by omega)]) (r _ (by omega)) (r _ (by omega)) rfl rfl), fr_I (by unfold moX; omega)⟩
        · rw [hy, nI_clamp (by omega), hk]
        · rw [nI_clamp (by omega)]
        · rw [r (m + 3) (by omega)]
          have h0 := hr.1 i hi
          refine ⟨?_, h0.2⟩
          show _ = nI (if i = j then (nI k).toNatClampNeg else ck (ac A) i)
          by_cases e : i = j
          · subst e; rw [up_eq, if_pos rfl, nI_clamp (by omega)]
          · rw [up_nk e, if_neg e]; exact h0.1
        · rw [r (m + 4) (by omega), r (m + 5) (by omega), r (m + 6) (by omega)]
          exact hr.2.2 i hi
theorem m_numberNow (hm : is_Model S m) {j k : Nat} (hj : j < 4) (hk : k < 6) : CTi mr_X9_numberNow [.ref m, .int (nI j), .int (nI k)] S I L ((L (m + 2) (6 * j + k)).toInt32 + 1000) I L := by
  refine wp_X9_numberNow hm ?_
  rw [nI_6, nI_clamp (by omega)]
  exact ⟨vp_in_nI (by omega) (by decide), rfl, rfl⟩
theorem m_number (hm : is_Model S m) (hA : aOK A) (h : IM m A I L) (a b : Int32) : CTi mr_X9_number [.ref m, .int a, .int b] S I L (sp_number A a b) I L := by
  have hs := m_isFilled (S := S) (I := I) (L := L) hm hA h.2.1 h.2.2.2.1 a
  have hw := m_w (S := S) (I := I) (L := L) b (lo := 0) (hi := 5) 0 5 rfl rfl
  have l1 := lt_i (a := b) (k := 0) (n := 0) rfl
  have l2 := ge_i (a := b) (k := 5) (n := 5) rfl
  unfold sp_number
  cases hx : fIdx A a with
  | none =>
    rw [hx] at hs
    exact wp_X9_number hm ⟨_, _, _, hs, fun q => absurd rfl q, fun _ => ⟨rfl, rfl⟩⟩
  | some j =>
    obtain ⟨rfl, j1, j2, j3⟩ := fIdx_some hA hx
    rw [hx] at hs
    rw [show (if (some j).isSome = true then (1 : Int32) else 0) = 1 from rfl] at hs
    have hp := ((h.2.2.2.1.1 j j2).2.2 j3).2
    refine wp_X9_number hm ⟨_, _, _, hs, fun _ => ?_, fun q => absurd q (by decide)⟩
    by_cases b1 : b < 0
    · rw [if_pos (Or.inl (l1.mp b1))] at hw
      exact ⟨_, _, _, hw, fun _ => ⟨by simp only [if_pos b1], rfl⟩, fun q => absurd rfl q⟩
    · by_cases b2 : b ≤ 5
      · rw [if_neg (fun z => z.elim (fun z => b1 (l1.mpr z)) (fun z => by have := l2.mp b2; omega))] at hw
        obtain ⟨k, hk, rfl⟩ := nI_of2 (M := 5) (n := 5) rfl b1 b2
        refine ⟨_, _, _, hw, fun q => absurd q (by decide), fun _ => ⟨_, _, _, m_numberNow hm j2 (by omega), ?_, rfl⟩⟩
        simp only [if_neg b1, if_pos b2]
        rw [pat_n (by omega), hp k (by omega), Int32.add_comm]
      · rw [if_pos (Or.inr (Int.not_le.mp (fun q => b2 (l2.mpr q))))] at hw
        exact ⟨_, _, _, hw, fun _ => ⟨by simp only [if_neg b1, if_neg b2], rfl⟩, fun q => absurd rfl q⟩
theorem m_valueNow (hm : is_Model S m) {j : Nat} (hj : j < 4) (b : Int32) : CTl mr_X9_valueNow [.ref m, .int (nI j), .int b] S I L (hvF (fun k => L (m + 2) (6 * j + k)) b.toInt64 6 0) I L := by
  refine wp_X9_valueNow hm ?_
  have key : ∀ i, i ≤ 6 → ∀ s R : Int64, hvF (fun k => L (m + 2) (6 * j + k)) b.toInt64 i s = R → hd_X9_valueNow_5 S (fun v h => v = some (.long R) ∧ h = (S, I, L)) m (nI j) b s (nI i + (-1)) I L := by
    intro i
    induction i with
    | zero => exact fun _ s R hR => it_X9_valueNow_5 hm (ng_t (by decide) ⟨by rw [← hR]; rfl, rfl⟩)
    | succ i ih =>
      intro hi s R hR
      rw [pk_m1]
      refine it_X9_valueNow_5 hm (ng_f (by omega) ?_)
      rw [nI_6, nI_clamp (by omega)]
      exact ⟨vp_in_nI (by omega) (by decide), fun y hy z hz => by rw [hy, hz]; exact ih (by omega) _ R hR⟩
  exact key 6 (by decide) 0 _ rfl
theorem m_value (hm : is_Model S m) (hA : aOK A) (h : IM m A I L) (a b : Int32) : CTl mr_X9_value [.ref m, .int a, .int b] S I L (sp_value A a b) I L := by
  have hs := m_isFilled (S := S) (I := I) (L := L) hm hA h.2.1 h.2.2.2.1 a
  have hw := m_w (S := S) (I := I) (L := L) b (lo := -9) (hi := 9) (-9) 9 rfl rfl
  have l1 := lt_i (a := b) (k := -9) (n := -9) rfl
  have l2 := ge_i (a := b) (k := 9) (n := 9) rfl
  unfold sp_value
  cases hx : fIdx A a with
  | none =>
    rw [hx] at hs
    exact wp_X9_value hm ⟨_, _, _, hs, fun q => absurd rfl q, fun _ => ⟨rfl, rfl⟩⟩
  | some j =>
    obtain ⟨rfl, j1, j2, j3⟩ := fIdx_some hA hx
    rw [hx] at hs
    rw [show (if (some j).isSome = true then (1 : Int32) else 0) = 1 from rfl] at hs
    have hp := ((h.2.2.2.1.1 j j2).2.2 j3).2
    refine wp_X9_value hm ⟨_, _, _, hs, fun _ => ?_, fun q => absurd q (by decide)⟩
    by_cases b1 : b < -9
    · rw [if_pos (Or.inl (l1.mp b1))] at hw
      exact ⟨_, _, _, hw, fun _ => ⟨by simp only [if_pos b1], rfl⟩, fun q => absurd rfl q⟩
    · by_cases b2 : b ≤ 9
      · rw [if_neg (fun z => z.elim (fun z => b1 (l1.mpr z)) (fun z => by have := l2.mp b2; omega))] at hw
        refine ⟨_, _, _, hw, fun q => absurd q (by decide), fun _ => ⟨_, _, _, m_valueNow hm j2 b, ?_, rfl⟩⟩
        simp only [if_neg b1, if_pos b2]
        rw [hvF_ext (fun k hk => hp k hk) 6 (Nat.le_refl _)]
      · rw [if_pos (Or.inr (Int.not_le.mp (fun q => b2 (l2.mpr q))))] at hw
        exact ⟨_, _, _, hw, fun _ => ⟨by simp only [if_neg b1, if_neg b2], rfl⟩, fun q => absurd rfl q⟩
theorem m_filled (hm : is_Model S m) (hA : aOK A) (h : IM m A I L) : CTi mr_X9_filled [.ref m] S I L (nI (fcn (ac A) (asc A))) I L := by
  have h4 := hA.2.2.1
  refine wp_X9_filled hm ?_
  have key := up_loop (P := fun i => hd_X9_filled_4 S (fun v h => v = some (.int (nI (fcn (ac A) (asc A)))) ∧ h = (S, I, L)) m (nI (fcn (ac A) i)) (nI i) I L) (asc A)
    (it_X9_filled_4 hm (by rw [h.2.1]; exact ge_t (Nat.le_refl _) (by omega) ⟨rfl, rfl⟩))
    (fun i hi ih => it_X9_filled_4 hm (by
      rw [h.2.1]
      have hr := h.2.2.2.1.1 i (by omega)
      have es : fcn (ac A) (i + 1) = fcn (ac A) i + (if cf (ac A) i then 1 else 0) := rfl
      refine ge_f hi (by omega) ⟨vp_in_nI (by omega) (by decide), fun hn y hy z hz => ?_, fun hn y hy z hz => ?_⟩
      · rw [nI_clamp (by omega)] at hn
        cases hb : cf (ac A) i with
        | true =>
          obtain ⟨n, n6, hn2, -⟩ := dg_pos ((hA.2.2.2.2.1.1 i (by omega)).2 hb)
          rw [(hr.2.2 hb).1, hn2] at hn
          exact absurd hn (nI_pos (by omega))
        | false =>
          rw [hb] at es
          rw [hy, hz, nI_1]
          rw [es] at ih
          show hd_X9_filled_4 S _ m (nI (fcn (ac A) i) + nI 0) _ I L
          rw [nI_add]; exact ih
      · rw [nI_clamp (by omega)] at hn
        cases hb : cf (ac A) i with
        | false => rw [hr.2.1 hb] at hn; exact absurd (by decide) hn
        | true =>
          rw [hb] at es
          rw [hy, hz, nI_1, nI_1]
          rw [es] at ih
          exact ih))
  exact key 0 (Nat.zero_le _)
end
