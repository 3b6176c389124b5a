set_option maxRecDepth 100000 in
set_option maxHeartbeats 4000000 in
theorem wp_X8_blank {S : List mjD} {RET : Option Value → mjH → Prop} {d : Nat} (hd : is_Desk S d) {I : Nat → Nat → Int32} {L : Nat → Nat → Int64} (H0 : ∀ y1 : Int32, y1 = (I (d + 1) 1) → RET (some (.int y1)) (S, mj_up I (d + 1) 1 (0 : Int32), L)) : CT mr_X8_blank (0, 0) [.ref d] (S, I, L) RET := by
  refine CT.of (lo := [(0, .ref d)]) (by decide) (fun _ _ => Nat.le_of_ble_eq_true rfl) (fun _ _ => rfl) rfl ?_
  refine V.aload_n dX8_blank_0 rfl rfl ?_
  refine V.getf (v := .ref (d + 1)) dX8_blank_1 fl_X8_10 hd.1 (by decide) rfl ?_
  refine V.getf (v := .int (I (d + 1) 1)) dX8_blank_4 fl_X8_81 hd.2.1.1 (by decide) rfl ?_
  refine V.topi (fun y1 e2 => ?_)
  have H3 := H0 y1 e2
  refine V.istore_n (lo' := [(1, .int y1), (0, .ref d)]) dX8_blank_7 rfl (by decide) rfl ?_
  refine V.aload_n dX8_blank_8 rfl rfl ?_
  refine V.getf (v := .ref (d + 1)) dX8_blank_9 fl_X8_10 hd.1 (by decide) rfl ?_
  refine V.iconst (v := (0)) dX8_blank_12 (by decide) ?_
  refine V.puti dX8_blank_13 fl_X8_81 fp_X8_81 (Or.inl rfl) hd.2.1.1 (by decide) rfl rfl ?_
  refine V.iload_n dX8_blank_16 rfl rfl ?_
  exact V.ret (v := some (.int y1)) rfl (Or.inl ⟨_, rfl, dX8_blank_17, _, rfl, rfl⟩) ⟨Nat.le_refl _, Nat.le_refl _⟩ H3
def hd_X8_kindOfLetter_2 (S : List mjD) (RET : Option Value → mjH → Prop) (x0 : Int32) (x1 : Int32) (I : Nat → Nat → Int32) (L : Nat → Nat → Int64) : Prop := V mr_X8_kindOfLetter (0, 0) RET 2 [(0, .int x0), (1, .int x1)] [] (S, I, L) (0, 0)
set_option maxRecDepth 100000 in
set_option maxHeartbeats 4000000 in
theorem it_X8_kindOfLetter_2 {S : List mjD} {RET : Option Value → mjH → Prop} {x0 : Int32} {x1 : Int32} {I : Nat → Nat → Int32} {L : Nat → Nat → Int64} (H0 : (((5 : Int32) ≤ x1 → RET (some (.int (-1 : Int32))) (S, I, L)) ∧ (¬ (5 : Int32) ≤ x1 → (vp_in x1 5) ∧ ((¬ ((mj_st 1000001).getD x1.toNatClampNeg 0) = x0 → ∀ y8 : Int32, y8 = x1 + 1 → hd_X8_kindOfLetter_2 S RET x0 y8 I L) ∧ (((mj_st 1000001).getD x1.toNatClampNeg 0) = x0 → RET (some (.int x1)) (S, I, L)))))) : hd_X8_kindOfLetter_2 S RET x0 x1 I L := by
  unfold hd_X8_kindOfLetter_2
  refine V.iload_n dX8_kindOfLetter_2 rfl rfl ?_
  refine V.gets_KIND_LETTERS dX8_kindOfLetter_3 gs_X8_112 ?_
  refine V.len_KIND_LETTERS dX8_kindOfLetter_6 ?_
  refine V.icmp_ge (tgt := 27) dX8_kindOfLetter_7 (by decide) (fun c1 => ?_) (fun c1 => ?_)
  · have H2 := H0.1 c1
    refine V.iconst (v := (-1)) dX8_kindOfLetter_27 (by decide) ?_
    exact V.ret (v := some (.int (-1 : Int32))) rfl (Or.inl ⟨_, rfl, dX8_kindOfLetter_28, _, rfl, rfl⟩) ⟨Nat.le_refl _, Nat.le_refl _⟩ H2
  · have H3 := H0.2 c1
    refine V.gets_KIND_LETTERS dX8_kindOfLetter_10 gs_X8_112 ?_
    refine V.iload_n dX8_kindOfLetter_13 rfl rfl ?_
    obtain ⟨o4, H5⟩ := H3
    refine V.ld_KIND_LETTERS dX8_kindOfLetter_14 o4 rfl ?_
    refine V.iload_n dX8_kindOfLetter_15 rfl rfl ?_
    refine V.icmp_ne (tgt := 21) dX8_kindOfLetter_16 (by decide) (fun c6 => ?_) (fun c6 => ?_)
    · have H7 := H5.1 c6
      obtain ⟨y8, e9⟩ : ∃ y : Int32, y = x1 + 1 := ⟨_, rfl⟩
      have H10 := H7 y8 e9
      refine V.iinc (v := y8) (lo' := [(1, .int y8), (0, .int x0)]) dX8_kindOfLetter_21 rfl (by rw [e9]; rfl) (by decide) rfl ?_
      refine V.goto (tgt := 2) dX8_kindOfLetter_24 (by decide) ?_
      exact V.los [1, 0] rfl H10
    · have H11 := H5.2 c6
      refine V.iload_n dX8_kindOfLetter_19 rfl rfl ?_
      exact V.ret (v := some (.int x1)) rfl (Or.inl ⟨_, rfl, dX8_kindOfLetter_20, _, rfl, rfl⟩) ⟨Nat.le_refl _, Nat.le_refl _⟩ H11
set_option maxRecDepth 100000 in
set_option maxHeartbeats 4000000 in
theorem wp_X8_kindOfLetter {S : List mjD} {RET : Option Value → mjH → Prop} {a : Int32} {I : Nat → Nat → Int32} {L : Nat → Nat → Int64} (H0 : hd_X8_kindOfLetter_2 S RET a (0 : Int32) I L) : CT mr_X8_kindOfLetter (0, 0) [.int a] (S, I, L) RET := by
  refine CT.of (lo := [(0, .int a)]) (by decide) (fun _ _ => Nat.le_of_ble_eq_true rfl) (fun _ _ => rfl) rfl ?_
  refine V.iconst (v := (0)) dX8_kindOfLetter_0 (by decide) ?_
  refine V.istore_n (lo' := [(1, .int (0 : Int32)), (0, .int a)]) dX8_kindOfLetter_1 rfl (by decide) rfl ?_
  exact V.los [1, 0] rfl H0
set_option maxRecDepth 100000 in
set_option maxHeartbeats 4000000 in
theorem wp_X8_anySlot {S : List mjD} {RET : Option Value → mjH → Prop} {d : Nat} (hd : is_Desk S d) {a : Int32} {I : Nat → Nat → Int32} {L : Nat → Nat → Int64} (H0 : ((a < 0 → RET (some (.null)) (S, I, L)) ∧ (¬ a < 0 → (((I d 10) ≤ a → RET (some (.null)) (S, I, L)) ∧ (¬ (I d 10) ≤ a → (((4 : Int32) ≤ a → RET (some (.null)) (S, I, L)) ∧ (¬ (4 : Int32) ≤ a → (vp_in a 4) ∧ RET (some (.ref (d + 46 + 32 * a.toNatClampNeg))) (S, I, L)))))))) : CT mr_X8_anySlot (0, 0) [.ref d, .int a] (S, I, L) RET := by
  refine CT.of (lo := [(0, .ref d), (1, .int a)]) (by decide) (fun _ _ => Nat.le_of_ble_eq_true rfl) (fun _ _ => rfl) rfl ?_
  refine V.iload_n dX8_anySlot_0 rfl rfl ?_
  refine V.if_lt (tgt := 30) dX8_anySlot_1 (by decide) (fun c1 => ?_) (fun c1 => ?_)
  · have H2 := H0.1 c1
    refine V.null dX8_anySlot_30 ?_
    exact V.ret (v := some (.null)) rfl (Or.inr (Or.inr (Or.inl ⟨Or.inl rfl, dX8_anySlot_31, _, rfl⟩))) ⟨Nat.le_refl _, Nat.le_refl _⟩ H2
  · have H3 := H0.2 c1
    refine V.iload_n dX8_anySlot_4 rfl rfl ?_
    refine V.aload_n dX8_anySlot_5 rfl rfl ?_
    refine V.getf (v := .int (I d 10)) dX8_anySlot_6 fl_X8_103 hd.1 (by decide) rfl ?_
    refine V.icmp_ge (tgt := 30) dX8_anySlot_9 (by decide) (fun c4 => ?_) (fun c4 => ?_)
    · have H5 := H3.1 c4
      refine V.null dX8_anySlot_30 ?_
      exact V.ret (v := some (.null)) rfl (Or.inr (Or.inr (Or.inl ⟨Or.inl rfl, dX8_anySlot_31, _, rfl⟩))) ⟨Nat.le_refl _, Nat.le_refl _⟩ H5
    · have H6 := H3.2 c4
      refine V.iload_n dX8_anySlot_12 rfl rfl ?_
      refine V.aload_n dX8_anySlot_13 rfl rfl ?_
      refine V.getf (v := .ref (d + 38)) dX8_anySlot_14 fl_X8_59 hd.1 (by decide) rfl ?_
      refine V.alen (v := 4) dX8_anySlot_17 hd.2.2.2.2.2.2.2.2.2.1 (Or.inr (Or.inr (Or.inr (Or.inr rfl)))) (by decide) ?_
      refine V.icmp_ge (tgt := 30) dX8_anySlot_18 (by decide) (fun c7 => ?_) (fun c7 => ?_)
      · have H8 := H6.1 c7
        refine V.null dX8_anySlot_30 ?_
        exact V.ret (v := some (.null)) rfl (Or.inr (Or.inr (Or.inl ⟨Or.inl rfl, dX8_anySlot_31, _, rfl⟩))) ⟨Nat.le_refl _, Nat.le_refl _⟩ H8
      · have H9 := H6.2 c7
        refine V.aload_n dX8_anySlot_21 rfl rfl ?_
        refine V.getf (v := .ref (d + 38)) dX8_anySlot_22 fl_X8_59 hd.1 (by decide) rfl ?_
        refine V.iload_n dX8_anySlot_25 rfl rfl ?_
        obtain ⟨o10, H11⟩ := H9
        refine V.aald (v := .ref (d + 46 + 32 * a.toNatClampNeg)) dX8_anySlot_26 hd.2.2.2.2.2.2.2.2.2.1 (Or.inr rfl) o10 (mj_gp o10) ?_
        have f12 : is_Slot S (d + 46 + 32 * a.toNatClampNeg) := hd.2.2.2.2.2.2.2.2.2.2.2.2.2.1 _ (mj_lt o10)
        refine V.goto (tgt := 31) dX8_anySlot_27 (by decide) ?_
        exact V.ret (v := some (.ref (d + 46 + 32 * a.toNatClampNeg))) rfl (Or.inr (Or.inr (Or.inl ⟨Or.inr ⟨_, rfl⟩, dX8_anySlot_31, _, rfl⟩))) ⟨Nat.le_refl _, Nat.le_refl _⟩ H11
set_option maxRecDepth 100000 in
set_option maxHeartbeats 4000000 in
theorem wp_X8_isKind {S : List mjD} {RET : Option Value → mjH → Prop} {a : Int32} {I : Nat → Nat → Int32} {L : Nat → Nat → Int64} (H0 : ((a < 0 → RET (some (.int (0 : Int32))) (S, I, L)) ∧ (¬ a < 0 → (((5 : Int32) ≤ a → RET (some (.int (0 : Int32))) (S, I, L)) ∧ (¬ (5 : Int32) ≤ a → RET (some (.int (1 : Int32))) (S, I, L)))))) : CT mr_X8_isKind (0, 0) [.int a] (S, I, L) RET := by
  refine CT.of (lo := [(0, .int a)]) (by decide) (fun _ _ => Nat.le_of_ble_eq_true rfl) (fun _ _ => rfl) rfl ?_
  refine V.iload_n dX8_isKind_0 rfl rfl ?_
  refine V.if_lt (tgt := 13) dX8_isKind_1 (by decide) (fun c1 => ?_) (fun c1 => ?_)
  · have H2 := H0.1 c1
    refine V.iconst (v := (0)) dX8_isKind_13 (by decide) ?_
    exact V.ret (v := some (.int (0 : Int32))) rfl (Or.inl ⟨_, rfl, dX8_isKind_14, _, rfl, (by decide)⟩) ⟨Nat.le_refl _, Nat.le_refl _⟩ H2
  · have H3 := H0.2 c1
    refine V.iload_n dX8_isKind_4 rfl rfl ?_
    refine V.iconst (v := (5)) dX8_isKind_5 (by decide) ?_
    refine V.icmp_ge (tgt := 13) dX8_isKind_6 (by decide) (fun c4 => ?_) (fun c4 => ?_)
    · have H5 := H3.1 c4
      refine V.iconst (v := (0)) dX8_isKind_13 (by decide) ?_
      exact V.ret (v := some (.int (0 : Int32))) rfl (Or.inl ⟨_, rfl, dX8_isKind_14, _, rfl, (by decide)⟩) ⟨Nat.le_refl _, Nat.le_refl _⟩ H5
    · have H6 := H3.2 c4
      refine V.iconst (v := (1)) dX8_isKind_9 (by decide) ?_
      refine V.goto (tgt := 14) dX8_isKind_10 (by decide) ?_
      exact V.ret (v := some (.int (1 : Int32))) rfl (Or.inl ⟨_, rfl, dX8_isKind_14, _, rfl, (by decide)⟩) ⟨Nat.le_refl _, Nat.le_refl _⟩ H6
def hd_X8_isSmallPrime_2 (S : List mjD) (RET : Option Value → mjH → Prop) (x0 : Int32) (x1 : Int32) (I : Nat → Nat → Int32) (L : Nat → Nat → Int64) : Prop := V mr_X8_isSmallPrime (0, 0) RET 2 [(0, .int x0), (1, .int x1)] [] (S, I, L) (0, 0)
set_option maxRecDepth 100000 in
set_option maxHeartbeats 4000000 in
theorem it_X8_isSmallPrime_2 {S : List mjD} {RET : Option Value → mjH → Prop} {x0 : Int32} {x1 : Int32} {I : Nat → Nat → Int32} {L : Nat → Nat → Int64} (H0 : (((6 : Int32) ≤ x1 → RET (some (.int (0 : Int32))) (S, I, L)) ∧ (¬ (6 : Int32) ≤ x1 → (vp_in x1 6) ∧ ((¬ ((mj_st 1000002).getD x1.toNatClampNeg 0) = x0 → ∀ y8 : Int32, y8 = x1 + 1 → hd_X8_isSmallPrime_2 S RET x0 y8 I L) ∧ (((mj_st 1000002).getD x1.toNatClampNeg 0) = x0 → RET (some (.int (1 : Int32))) (S, I, L)))))) : hd_X8_isSmallPrime_2 S RET x0 x1 I L := by
  unfold hd_X8_isSmallPrime_2
  refine V.iload_n dX8_isSmallPrime_2 rfl rfl ?_
  refine V.gets_PRIMES dX8_isSmallPrime_3 gs_X8_249 ?_
  refine V.len_PRIMES dX8_isSmallPrime_6 ?_
  refine V.icmp_ge (tgt := 27) dX8_isSmallPrime_7 (by decide) (fun c1 => ?_) (fun c1 => ?_)
  · have H2 := H0.1 c1
    refine V.iconst (v := (0)) dX8_isSmallPrime_27 (by decide) ?_
    exact V.ret (v := some (.int (0 : Int32))) rfl (Or.inl ⟨_, rfl, dX8_isSmallPrime_28, _, rfl, (by decide)⟩) ⟨Nat.le_refl _, Nat.le_refl _⟩ H2
  · have H3 := H0.2 c1
    refine V.gets_PRIMES dX8_isSmallPrime_10 gs_X8_249 ?_
    refine V.iload_n dX8_isSmallPrime_13 rfl rfl ?_
    obtain ⟨o4, H5⟩ := H3
    refine V.ld_PRIMES dX8_isSmallPrime_14 o4 rfl ?_
    refine V.iload_n dX8_isSmallPrime_15 rfl rfl ?_
    refine V.icmp_ne (tgt := 21) dX8_isSmallPrime_16 (by decide) (fun c6 => ?_) (fun c6 => ?_)
    · have H7 := H5.1 c6
      obtain ⟨y8, e9⟩ : ∃ y : Int32, y = x1 + 1 := ⟨_, rfl⟩
      have H10 := H7 y8 e9
      refine V.iinc (v := y8) (lo' := [(1, .int y8), (0, .int x0)]) dX8_isSmallPrime_21 rfl (by rw [e9]; rfl) (by decide) rfl ?_
      refine V.goto (tgt := 2) dX8_isSmallPrime_24 (by decide) ?_
      exact V.los [1, 0] rfl H10
    · have H11 := H5.2 c6
      refine V.iconst (v := (1)) dX8_isSmallPrime_19 (by decide) ?_
      exact V.ret (v := some (.int (1 : Int32))) rfl (Or.inl ⟨_, rfl, dX8_isSmallPrime_20, _, rfl, (by decide)⟩) ⟨Nat.le_refl _, Nat.le_refl _⟩ H11
set_option maxRecDepth 100000 in
set_option maxHeartbeats 4000000 in
theorem wp_X8_isSmallPrime {S : List mjD} {RET : Option Value → mjH → Prop} {a : Int32} {I : Nat → Nat → Int32} {L : Nat → Nat → Int64} (H0 : hd_X8_isSmallPrime_2 S RET a (0 : Int32) I L) : CT mr_X8_isSmallPrime (0, 0) [.int a] (S, I, L) RET := by
  refine CT.of (lo := [(0, .int a)]) (by decide) (fun _ _ => Nat.le_of_ble_eq_true rfl) (fun _ _ => rfl) rfl ?_
  refine V.iconst (v := (0)) dX8_isSmallPrime_0 (by decide) ?_
  refine V.istore_n (lo' := [(1, .int (0 : Int32)), (0, .int a)]) dX8_isSmallPrime_1 rfl (by decide) rfl ?_
  exact V.los [1, 0] rfl H0
set_option maxRecDepth 100000 in
set_option maxHeartbeats 4000000 in
theorem wp_X8_forget {S : List mjD} {RET : Option Value → mjH → Prop} {d : Nat} (hd : is_Desk S d) {I : Nat → Nat → Int32} {L : Nat → Nat → Int64} (H0 : ∀ y1 : Int32, y1 = (I (d + 39) 2) → RET (some (.int y1)) (S, mj_up I (d + 39) 2 (0 : Int32), L)) : CT mr_X8_forget (0, 0) [.ref d] (S, I, L) RET := by
  refine CT.of (lo := [(0, .ref d)]) (by decide) (fun _ _ => Nat.le_of_ble_eq_true rfl) (fun _ _ => rfl) rfl ?_
  refine V.aload_n dX8_forget_0 rfl rfl ?_
  refine V.getf (v := .ref (d + 39)) dX8_forget_1 fl_X8_66 hd.1 (by decide) rfl ?_
  refine V.getf (v := .int (I (d + 39) 2)) dX8_forget_4 fl_X8_109 hd.2.2.2.2.2.2.2.2.2.2.1.1 (by decide) rfl ?_
  refine V.topi (fun y1 e2 => ?_)
  have H3 := H0 y1 e2
  refine V.istore_n (lo' := [(1, .int y1), (0, .ref d)]) dX8_forget_7 rfl (by decide) rfl ?_
  refine V.aload_n dX8_forget_8 rfl rfl ?_
  refine V.getf (v := .ref (d + 39)) dX8_forget_9 fl_X8_66 hd.1 (by decide) rfl ?_
  refine V.iconst (v := (0)) dX8_forget_12 (by decide) ?_
  refine V.puti dX8_forget_13 fl_X8_109 fp_X8_109 (Or.inl rfl) hd.2.2.2.2.2.2.2.2.2.2.1.1 (by decide) rfl rfl ?_
  refine V.iload_n dX8_forget_16 rfl rfl ?_
  exact V.ret (v := some (.int y1)) rfl (Or.inl ⟨_, rfl, dX8_forget_17, _, rfl, rfl⟩) ⟨Nat.le_refl _, Nat.le_refl _⟩ H3
set_option maxRecDepth 100000 in
set_option maxHeartbeats 4000000 in
theorem wp_X8_letter {S : List mjD} {RET : Option Value → mjH → Prop} {d : Nat} (hd : is_Desk S d) {a : Int32} {I : Nat → Nat → Int32} {L : Nat → Nat → Int64} (H0 : ((a < (32 : Int32) → RET (some (.int (-102 : Int32))) (S, I, L)) ∧ (¬ a < (32 : Int32) → ((a ≤ (126 : Int32) → ∃ r6 I7 L8, CTi mr_X2_append [.ref (d + 1), .int a] S I L r6 I7 L8 ∧ ((r6 = 0 → RET (some (.int (-104 : Int32))) (S, I7, L8)) ∧ (¬ r6 = 0 → RET (some (.int (I7 (d + 1) 1))) (S, I7, L8)))) ∧ (¬ a ≤ (126 : Int32) → RET (some (.int (-102 : Int32))) (S, I, L)))))) : CT mr_X8_letter (0, 0) [.ref d, .int a] (S, I, L) RET := by
  refine CT.of (lo := [(0, .ref d), (1, .int a)]) (by decide) (fun _ _ => Nat.le_of_ble_eq_true rfl) (fun _ _ => rfl) rfl ?_
  refine V.iload_n dX8_letter_0 rfl rfl ?_
  refine V.bipush (v := (32)) dX8_letter_1 (by decide) ?_
  refine V.icmp_lt (tgt := 12) dX8_letter_3 (by decide) (fun c1 => ?_) (fun c1 => ?_)
  · have H2 := H0.1 c1
    refine V.bipush (v := (-102)) dX8_letter_12 (by decide) ?_
    exact V.ret (v := some (.int (-102 : Int32))) rfl (Or.inl ⟨_, rfl, dX8_letter_14, _, rfl, rfl⟩) ⟨Nat.le_refl _, Nat.le_refl _⟩ H2
  · have H3 := H0.2 c1
    refine V.iload_n dX8_letter_6 rfl rfl ?_
    refine V.bipush (v := (126)) dX8_letter_7 (by decide) ?_
    refine V.icmp_le (tgt := 15) dX8_letter_9 (by decide) (fun c4 => ?_) (fun c4 => ?_)
    · have H5 := H3.1 c4
      refine V.aload_n dX8_letter_15 rfl rfl ?_
      refine V.getf (v := .ref (d + 1)) dX8_letter_16 fl_X8_10 hd.1 (by decide) rfl ?_
      refine V.iload_n dX8_letter_19 rfl rfl ?_
      obtain ⟨r6, I7, L8, t9, H10⟩ := H5
      refine V.cVi (N := mr_X2_append) (as := [.int a]) dX8_letter_20 ml_X8_77 ok_X2_append okV_X2_append ⟨Nat.le_of_ble_eq_true rfl, Nat.le_of_ble_eq_true rfl⟩ hd.2.1.1 rfl rfl rfl (Nat.le_of_ble_eq_true rfl) t9 ?_
      refine V.if_eq (tgt := 36) dX8_letter_23 (by decide) (fun c11 => ?_) (fun c11 => ?_)
      · have H12 := H10.1 c11
        refine V.bipush (v := (-104)) dX8_letter_36 (by decide) ?_
        exact V.ret (v := some (.int (-104 : Int32))) rfl (Or.inl ⟨_, rfl, dX8_letter_38, _, rfl, rfl⟩) ⟨Nat.le_refl _, Nat.le_refl _⟩ H12
      · have H13 := H10.2 c11
        refine V.aload_n dX8_letter_26 rfl rfl ?_
        refine V.getf (v := .ref (d + 1)) dX8_letter_27 fl_X8_10 hd.1 (by decide) rfl ?_
        refine V.getf (v := .int (I7 (d + 1) 1)) dX8_letter_30 fl_X8_81 hd.2.1.1 (by decide) rfl ?_
        refine V.goto (tgt := 38) dX8_letter_33 (by decide) ?_
        exact V.ret (v := some (.int (I7 (d + 1) 1))) rfl (Or.inl ⟨_, rfl, dX8_letter_38, _, rfl, rfl⟩) ⟨Nat.le_refl _, Nat.le_refl _⟩ H13
    · have H14 := H3.2 c4
      refine V.bipush (v := (-102)) dX8_letter_12 (by decide) ?_
      exact V.ret (v := some (.int (-102 : Int32))) rfl (Or.inl ⟨_, rfl, dX8_letter_14, _, rfl, rfl⟩) ⟨Nat.le_refl _, Nat.le_refl _⟩ H14
def hd_X8_desk_23 (S : List mjD) (RET : Option Value → mjH → Prop) (a0 : Nat) (x1 : Int32) (x2 : Int32) (I : Nat → Nat → Int32) (L : Nat → Nat → Int64) : Prop := V mr_X8_desk (0, 0) RET 23 [(0, .ref a0), (1, .int x1), (2, .int x2)] [] (S, I, L) (0, 0)
def hd_X8_desk_54 (S : List mjD) (RET : Option Value → mjH → Prop) (a0 : Nat) (x1 : Int32) (x2 : Int32) (I : Nat → Nat → Int32) (L : Nat → Nat → Int64) : Prop := V mr_X8_desk (0, 0) RET 54 [(0, .ref a0), (1, .int x1), (2, .int x2)] [] (S, I, L) (0, 0)
set_option maxRecDepth 100000 in
set_option maxHeartbeats 4000000 in
theorem it_X8_desk_23 {S : List mjD} {RET : Option Value → mjH → Prop} {a0 : Nat} (h0 : is_Desk S a0) {x1 : Int32} {x2 : Int32} {I : Nat → Nat → Int32} {L : Nat → Nat → Int64} (H0 : ((x1 ≤ x2 → hd_X8_desk_54 S RET a0 x1 (0 : Int32) I L) ∧ (¬ x1 ≤ x2 → ∃ r13 I14 L15, CTi mr_X2_codeAt [.ref (a0 + 1), .int x2] S I L r13 I14 L15 ∧ ∃ r18 I19 L20, CTi mr_X8_kindOfLetter [.int r13] S I14 L15 r18 I19 L20 ∧ ((¬ r18 = (-1 : Int32) → ∀ y25 : Int32, y25 = x2 + 1 → hd_X8_desk_23 S RET a0 x1 y25 I19 L20) ∧ (r18 = (-1 : Int32) → RET (some (.int (-103 : Int32))) (S, I19, L20)))))) : hd_X8_desk_23 S RET a0 x1 x2 I L := by
  unfold hd_X8_desk_23
  refine V.iload_n dX8_desk_23 rfl rfl ?_
  refine V.iload_n dX8_desk_24 rfl rfl ?_
  refine V.icmp_ge (tgt := 52) dX8_desk_25 (by decide) (fun c10 => ?_) (fun c10 => ?_)
  · have H11 := H0.1 c10
    refine V.iconst (v := (0)) dX8_desk_52 (by decide) ?_
    refine V.istore_n (lo' := [(2, .int (0 : Int32)), (0, .ref a0), (1, .int x1)]) dX8_desk_53 rfl (by decide) rfl ?_
    exact V.los [1, 2, 0] rfl H11
  · have H12 := H0.2 c10
    refine V.aload_n dX8_desk_28 rfl rfl ?_
    refine V.getf (v := .ref (a0 + 1)) dX8_desk_29 fl_X8_10 h0.1 (by decide) rfl ?_
    refine V.iload_n dX8_desk_32 rfl rfl ?_
    obtain ⟨r13, I14, L15, t16, H17⟩ := H12
    refine V.cVi (N := mr_X2_codeAt) (as := [.int x2]) dX8_desk_33 ml_X8_89 ok_X2_codeAt okV_X2_codeAt ⟨Nat.le_of_ble_eq_true rfl, Nat.le_of_ble_eq_true rfl⟩ h0.2.1.1 rfl rfl rfl (Nat.le_of_ble_eq_true rfl) t16 ?_
    obtain ⟨r18, I19, L20, t21, H22⟩ := H17
    refine V.cSi (N := mr_X8_kindOfLetter) (as := [.int r13]) dX8_desk_36 ml_X8_93 ok_X8_kindOfLetter okS_X8_kindOfLetter ⟨Nat.le_of_ble_eq_true rfl, Nat.le_of_ble_eq_true rfl⟩ rfl rfl (Nat.le_of_ble_eq_true rfl) t21 ?_
    refine V.iconst (v := (-1)) dX8_desk_39 (by decide) ?_
    refine V.icmp_ne (tgt := 46) dX8_desk_40 (by decide) (fun c23 => ?_) (fun c23 => ?_)
    · have H24 := H22.1 c23
      obtain ⟨y25, e26⟩ : ∃ y : Int32, y = x2 + 1 := ⟨_, rfl⟩
      have H27 := H24 y25 e26
      refine V.iinc (v := y25) (lo' := [(2, .int y25), (0, .ref a0), (1, .int x1)]) dX8_desk_46 rfl (by rw [e26]; rfl) (by decide) rfl ?_
      refine V.goto (tgt := 23) dX8_desk_49 (by decide) ?_
      exact V.los [1, 2, 0] rfl H27
    · have H28 := H22.2 c23
      refine V.bipush (v := (-103)) dX8_desk_43 (by decide) ?_
      exact V.ret (v := some (.int (-103 : Int32))) rfl (Or.inl ⟨_, rfl, dX8_desk_45, _, rfl, rfl⟩) ⟨Nat.le_refl _, Nat.le_refl _⟩ H28
set_option maxRecDepth 100000 in
set_option maxHeartbeats 4000000 in
theorem it_X8_desk_54 {S : List mjD} {RET : Option Value → mjH → Prop} {a0 : Nat} (h0 : is_Desk S a0) {x1 : Int32} {x2 : Int32} {I : Nat → Nat → Int32} {L : Nat → Nat → Int64} (H0 : ((x1 ≤ x2 → RET (some (.int x1)) (S, mj_up (mj_up (mj_up (mj_up I a0 10 x1) a0 11 (((mj_up I a0 10 x1) a0 11) + (1 : Int32))) (a0 + 39) 2 (0 : Int32)) (a0 + 1) 1 (0 : Int32), L)) ∧ (¬ x1 ≤ x2 → (vp_in x2 4) ∧ ∃ r35 I36 L37, CTi mr_X2_codeAt [.ref (a0 + 1), .int x2] S I L r35 I36 L37 ∧ ∃ r40 I41 L42, CTi mr_X8_kindOfLetter [.int r35] S I36 L37 r40 I41 L42 ∧ (vp_in x2 4) ∧ ∀ y48 : Int32, y48 = x2 + 1 → hd_X8_desk_54 S RET a0 x1 y48 (mj_up (mj_up I41 (a0 + 46 + 32 * x2.toNatClampNeg) 2 r40) (a0 + 46 + 32 * x2.toNatClampNeg) 3 (0 : Int32)) L42))) : hd_X8_desk_54 S RET a0 x1 x2 I L := by
  unfold hd_X8_desk_54
  refine V.iload_n dX8_desk_54 rfl rfl ?_
  refine V.iload_n dX8_desk_55 rfl rfl ?_
  refine V.icmp_ge (tgt := 95) dX8_desk_56 (by decide) (fun c29 => ?_) (fun c29 => ?_)
  · have H30 := H0.1 c29
    refine V.aload_n dX8_desk_95 rfl rfl ?_
    refine V.iload_n dX8_desk_96 rfl rfl ?_
    refine V.puti dX8_desk_97 fl_X8_103 fp_X8_103 (Or.inl rfl) h0.1 (by decide) rfl rfl ?_
    refine V.aload_n dX8_desk_100 rfl rfl ?_
    refine V.dup dX8_desk_101 rfl ?_
    refine V.getf (v := .int ((mj_up I a0 10 x1) a0 11)) dX8_desk_102 fl_X8_106 h0.1 (by decide) rfl ?_
    refine V.iconst (v := (1)) dX8_desk_105 (by decide) ?_
    refine V.iadd dX8_desk_106 ?_
    refine V.puti dX8_desk_107 fl_X8_106 fp_X8_106 (Or.inl rfl) h0.1 (by decide) rfl rfl ?_
    refine V.aload_n dX8_desk_110 rfl rfl ?_
    refine V.getf (v := .ref (a0 + 39)) dX8_desk_111 fl_X8_66 h0.1 (by decide) rfl ?_
    refine V.iconst (v := (0)) dX8_desk_114 (by decide) ?_
    refine V.puti dX8_desk_115 fl_X8_109 fp_X8_109 (Or.inl rfl) h0.2.2.2.2.2.2.2.2.2.2.1.1 (by decide) rfl rfl ?_
    refine V.aload_n dX8_desk_118 rfl rfl ?_
    refine V.getf (v := .ref (a0 + 1)) dX8_desk_119 fl_X8_10 h0.1 (by decide) rfl ?_
    refine V.iconst (v := (0)) dX8_desk_122 (by decide) ?_
    refine V.puti dX8_desk_123 fl_X8_81 fp_X8_81 (Or.inl rfl) h0.2.1.1 (by decide) rfl rfl ?_
    refine V.iload_n dX8_desk_126 rfl rfl ?_
    exact V.ret (v := some (.int x1)) rfl (Or.inl ⟨_, rfl, dX8_desk_127, _, rfl, rfl⟩) ⟨Nat.le_refl _, Nat.le_refl _⟩ H30
  · have H31 := H0.2 c29
    refine V.aload_n dX8_desk_59 rfl rfl ?_
    refine V.getf (v := .ref (a0 + 38)) dX8_desk_60 fl_X8_59 h0.1 (by decide) rfl ?_
    refine V.iload_n dX8_desk_63 rfl rfl ?_
    obtain ⟨o32, H33⟩ := H31
    refine V.aald (v := .ref (a0 + 46 + 32 * x2.toNatClampNeg)) dX8_desk_64 h0.2.2.2.2.2.2.2.2.2.1 (Or.inr rfl) o32 (mj_gp o32) ?_
    have f34 : is_Slot S (a0 + 46 + 32 * x2.toNatClampNeg) := h0.2.2.2.2.2.2.2.2.2.2.2.2.2.1 _ (mj_lt o32)
    refine V.aload_n dX8_desk_65 rfl rfl ?_
    refine V.getf (v := .ref (a0 + 1)) dX8_desk_66 fl_X8_10 h0.1 (by decide) rfl ?_
    refine V.iload_n dX8_desk_69 rfl rfl ?_
    obtain ⟨r35, I36, L37, t38, H39⟩ := H33
    refine V.cVi (N := mr_X2_codeAt) (as := [.int x2]) dX8_desk_70 ml_X8_89 ok_X2_codeAt okV_X2_codeAt ⟨Nat.le_of_ble_eq_true rfl, Nat.le_of_ble_eq_true rfl⟩ h0.2.1.1 rfl rfl rfl (Nat.le_of_ble_eq_true rfl) t38 ?_
    obtain ⟨r40, I41, L42, t43, H44⟩ := H39
    refine V.cSi (N := mr_X8_kindOfLetter) (as := [.int r35]) dX8_desk_73 ml_X8_93 ok_X8_kindOfLetter okS_X8_kindOfLetter ⟨Nat.le_of_ble_eq_true rfl, Nat.le_of_ble_eq_true rfl⟩ rfl rfl (Nat.le_of_ble_eq_true rfl) t43 ?_
    refine V.puti dX8_desk_76 fl_X8_96 fp_X8_96 (Or.inl rfl) f34.1 (by decide) rfl rfl ?_
    refine V.aload_n dX8_desk_79 rfl rfl ?_
    refine V.getf (v := .ref (a0 + 38)) dX8_desk_80 fl_X8_59 h0.1 (by decide) rfl ?_
    refine V.iload_n dX8_desk_83 rfl rfl ?_
    obtain ⟨o45, H46⟩ := H44
    refine V.aald (v := .ref (a0 + 46 + 32 * x2.toNatClampNeg)) dX8_desk_84 h0.2.2.2.2.2.2.2.2.2.1 (Or.inr rfl) o45 (mj_gp o45) ?_
    have f47 : is_Slot S (a0 + 46 + 32 * x2.toNatClampNeg) := h0.2.2.2.2.2.2.2.2.2.2.2.2.2.1 _ (mj_lt o45)
    refine V.iconst (v := (0)) dX8_desk_85 (by decide) ?_
    refine V.puti dX8_desk_86 fl_X8_99 fp_X8_99 (Or.inr rfl) f47.1 (by decide) (by decide) (by decide) ?_
    obtain ⟨y48, e49⟩ : ∃ y : Int32, y = x2 + 1 := ⟨_, rfl⟩
    have H50 := H46 y48 e49
    refine V.iinc (v := y48) (lo' := [(2, .int y48), (0, .ref a0), (1, .int x1)]) dX8_desk_89 rfl (by rw [e49]; rfl) (by decide) rfl ?_
    refine V.goto (tgt := 54) dX8_desk_92 (by decide) ?_
    exact V.los [1, 2, 0] rfl H50
set_option maxRecDepth 100000 in
set_option maxHeartbeats 4000000 in
theorem wp_X8_desk {S : List mjD} {RET : Option Value → mjH → Prop} {d : Nat} (hd : is_Desk S d) {I : Nat → Nat → Int32} {L : Nat → Nat → Int64} (H0 : ∀ y1 : Int32, y1 = (I (d + 1) 1) → ((y1 < (1 : Int32) → RET (some (.int (-103 : Int32))) (S, I, L)) ∧ (¬ y1 < (1 : Int32) → ((y1 ≤ (4 : Int32) → hd_X8_desk_23 S RET d y1 (0 : Int32) I L) ∧ (¬ y1 ≤ (4 : Int32) → RET (some (.int (-103 : Int32))) (S, I, L)))))) : CT mr_X8_desk (0, 0) [.ref d] (S, I, L) RET := by
  refine CT.of (lo := [(0, .ref d)]) (by decide) (fun _ _ => Nat.le_of_ble_eq_true rfl) (fun _ _ => rfl) rfl ?_
  refine V.aload_n dX8_desk_0 rfl rfl ?_
  refine V.getf (v := .ref (d + 1)) dX8_desk_1 fl_X8_10 hd.1 (by decide) rfl ?_
  refine V.getf (v := .int (I (d + 1) 1)) dX8_desk_4 fl_X8_81 hd.2.1.1 (by decide) rfl ?_
  refine V.topi (fun y1 e2 => ?_)
  have H3 := H0 y1 e2
  refine V.istore_n (lo' := [(1, .int y1), (0, .ref d)]) dX8_desk_7 rfl (by decide) rfl ?_
  refine V.iload_n dX8_desk_8 rfl rfl ?_
  refine V.iconst (v := (1)) dX8_desk_9 (by decide) ?_
  refine V.icmp_lt (tgt := 18) dX8_desk_10 (by decide) (fun c4 => ?_) (fun c4 => ?_)
  · have H5 := H3.1 c4
    refine V.bipush (v := (-103)) dX8_desk_18 (by decide) ?_
    exact V.ret (v := some (.int (-103 : Int32))) rfl (Or.inl ⟨_, rfl, dX8_desk_20, _, rfl, rfl⟩) ⟨Nat.le_refl _, Nat.le_refl _⟩ H5
  · have H6 := H3.2 c4
    refine V.iload_n dX8_desk_13 rfl rfl ?_
    refine V.iconst (v := (4)) dX8_desk_14 (by decide) ?_
    refine V.icmp_le (tgt := 21) dX8_desk_15 (by decide) (fun c7 => ?_) (fun c7 => ?_)
    · have H8 := H6.1 c7
      refine V.iconst (v := (0)) dX8_desk_21 (by decide) ?_
      refine V.istore_n (lo' := [(2, .int (0 : Int32)), (1, .int y1), (0, .ref d)]) dX8_desk_22 rfl (by decide) rfl ?_
      exact V.los [2, 1, 0] rfl H8
    · have H9 := H6.2 c7
      refine V.bipush (v := (-103)) dX8_desk_18 (by decide) ?_
      exact V.ret (v := some (.int (-103 : Int32))) rfl (Or.inl ⟨_, rfl, dX8_desk_20, _, rfl, rfl⟩) ⟨Nat.le_refl _, Nat.le_refl _⟩ H9
set_option maxRecDepth 100000 in
set_option maxHeartbeats 4000000 in
theorem wp_X8_filledSlot {S : List mjD} {RET : Option Value → mjH → Prop} {d : Nat} (hd : is_Desk S d) {a : Int32} {I : Nat → Nat → Int32} {L : Nat → Nat → Int64} (H0 : ∃ r1 I2 L3, CTq mr_X8_anySlot [.ref d, .int a] S I L r1 I2 L3 ∧ ((r1 = none → RET (some (.null)) (S, I2, L3)) ∧ (∀ a6, r1 = some a6 → is_Slot S a6 ∧ (((I2 a6 3) = 0 → RET (some (.null)) (S, I2, L3)) ∧ (¬ (I2 a6 3) = 0 → RET (some (.ref a6)) (S, I2, L3)))))) : CT mr_X8_filledSlot (0, 0) [.ref d, .int a] (S, I, L) RET := by
  refine CT.of (lo := [(0, .ref d), (1, .int a)]) (by decide) (fun _ _ => Nat.le_of_ble_eq_true rfl) (fun _ _ => rfl) rfl ?_
  refine V.aload_n dX8_filledSlot_0 rfl rfl ?_
  refine V.iload_n dX8_filledSlot_1 rfl rfl ?_
  obtain ⟨r1, I2, L3, t4, H5⟩ := H0
  refine V.cVq (N := mr_X8_anySlot) (as := [.int a]) dX8_filledSlot_2 ml_X8_116 ok_X8_anySlot okV_X8_anySlot ⟨Nat.le_of_ble_eq_true rfl, Nat.le_of_ble_eq_true rfl⟩ hd.1 rfl rfl rfl (Nat.le_of_ble_eq_true rfl) t4 ?_
  cases r1 with
  | none =>
    have H7 := H5.1 rfl
    refine V.astore_nN (lo' := [(2, .null), (0, .ref d), (1, .int a)]) dX8_filledSlot_5 rfl (by decide) rfl ?_
    refine V.aload_nN dX8_filledSlot_6 rfl rfl ?_
    refine V.ifnullN (tgt := 21) dX8_filledSlot_7 (by decide) ?_
    refine V.null dX8_filledSlot_21 ?_
    exact V.ret (v := some (.null)) rfl (Or.inr (Or.inr (Or.inl ⟨Or.inl rfl, dX8_filledSlot_22, _, rfl⟩))) ⟨Nat.le_refl _, Nat.le_refl _⟩ H7
  | some a6 =>
    obtain ⟨f9, H8⟩ := H5.2 a6 rfl
    refine V.astore_n (lo' := [(2, .ref a6), (0, .ref d), (1, .int a)]) dX8_filledSlot_5 rfl (by decide) rfl ?_
    refine V.aload_n dX8_filledSlot_6 rfl rfl ?_
    refine V.ifnull dX8_filledSlot_7 ?_
    refine V.aload_n dX8_filledSlot_10 rfl rfl ?_
    refine V.getf (v := .int (I2 a6 3)) dX8_filledSlot_11 fl_X8_99 f9.1 (by decide) rfl ?_
    refine V.if_eq (tgt := 21) dX8_filledSlot_14 (by decide) (fun c10 => ?_) (fun c10 => ?_)
    · have H11 := H8.1 c10
      refine V.null dX8_filledSlot_21 ?_
      exact V.ret (v := some (.null)) rfl (Or.inr (Or.inr (Or.inl ⟨Or.inl rfl, dX8_filledSlot_22, _, rfl⟩))) ⟨Nat.le_refl _, Nat.le_refl _⟩ H11
    · have H12 := H8.2 c10
      refine V.aload_n dX8_filledSlot_17 rfl rfl ?_
      refine V.goto (tgt := 22) dX8_filledSlot_18 (by decide) ?_
      exact V.ret (v := some (.ref a6)) rfl (Or.inr (Or.inr (Or.inl ⟨Or.inr ⟨_, rfl⟩, dX8_filledSlot_22, _, rfl⟩))) ⟨Nat.le_refl _, Nat.le_refl _⟩ H12
set_option maxRecDepth 100000 in
set_option maxHeartbeats 4000000 in
theorem wp_X8_as {S : List mjD} {RET : Option Value → mjH → Prop} {d : Nat} (hd : is_Desk S d) {a : Int32} {b : Int32} {I : Nat → Nat → Int32} {L : Nat → Nat → Int64} (H0 : ∃ r1 I2 L3, CTq mr_X8_anySlot [.ref d, .int a] S I L r1 I2 L3 ∧ ((r1 = none → RET (some (.int (-101 : Int32))) (S, I2, L3)) ∧ (∀ a6, r1 = some a6 → is_Slot S a6 ∧ ∃ r10 I11 L12, CTi mr_X8_isKind [.int b] S I2 L3 r10 I11 L12 ∧ ((¬ r10 = 0 → ((b = 0 → RET (some (.int a)) (S, I11, L12)) ∧ (¬ b = 0 → ((b = (I11 a6 2) → RET (some (.int a)) (S, I11, L12)) ∧ (¬ b = (I11 a6 2) → ((¬ b = (1 : Int32) → RET (some (.int (-1 : Int32))) (S, I11, L12)) ∧ (b = (1 : Int32) → ((¬ (I11 a6 2) = (2 : Int32) → RET (some (.int (-1 : Int32))) (S, I11, L12)) ∧ ((I11 a6 2) = (2 : Int32) → RET (some (.int a)) (S, I11, L12)))))))))) ∧ (r10 = 0 → RET (some (.int (-102 : Int32))) (S, I11, L12)))))) : CT mr_X8_as (0, 0) [.ref d, .int a, .int b] (S, I, L) RET := by
  refine CT.of (lo := [(0, .ref d), (1, .int a), (2, .int b)]) (by decide) (fun _ _ => Nat.le_of_ble_eq_true rfl) (fun _ _ => rfl) rfl ?_
  refine V.aload_n dX8_as_0 rfl rfl ?_
  refine V.iload_n dX8_as_1 rfl rfl ?_
  obtain ⟨r1, I2, L3, t4, H5⟩ := H0
  refine V.cVq (N := mr_X8_anySlot) (as := [.int a]) dX8_as_2 ml_X8_116 ok_X8_anySlot okV_X8_anySlot ⟨Nat.le_of_ble_eq_true rfl, Nat.le_of_ble_eq_true rfl⟩ hd.1 rfl rfl rfl (Nat.le_of_ble_eq_true rfl) t4 ?_
  cases r1 with
  | none =>
    have H7 := H5.1 rfl
    refine V.astore_nN (lo' := [(3, .null), (0, .ref d), (1, .int a), (2, .int b)]) dX8_as_5 rfl (by decide) rfl ?_
    refine V.aload_nN dX8_as_6 rfl rfl ?_
    refine V.ifnonnullN dX8_as_7 ?_
    refine V.bipush (v := (-101)) dX8_as_10 (by decide) ?_
    exact V.ret (v := some (.int (-101 : Int32))) rfl (Or.inl ⟨_, rfl, dX8_as_12, _, rfl, rfl⟩) ⟨Nat.le_refl _, Nat.le_refl _⟩ H7
  | some a6 =>
    obtain ⟨f9, H8⟩ := H5.2 a6 rfl
    refine V.astore_n (lo' := [(3, .ref a6), (0, .ref d), (1, .int a), (2, .int b)]) dX8_as_5 rfl (by decide) rfl ?_
    refine V.aload_n dX8_as_6 rfl rfl ?_
    refine V.ifnonnull (tgt := 13) dX8_as_7 (by decide) ?_
    refine V.iload_n dX8_as_13 rfl rfl ?_
    obtain ⟨r10, I11, L12, t13, H14⟩ := H8
    refine V.cSi (N := mr_X8_isKind) (as := [.int b]) dX8_as_14 ml_X8_166 ok_X8_isKind okS_X8_isKind ⟨Nat.le_of_ble_eq_true rfl, Nat.le_of_ble_eq_true rfl⟩ rfl rfl (Nat.le_of_ble_eq_true rfl) t13 ?_
    refine V.if_ne (tgt := 23) dX8_as_17 (by decide) (fun c15 => ?_) (fun c15 => ?_)
    · have H16 := H14.1 c15
      refine V.iload_n dX8_as_23 rfl rfl ?_
      refine V.if_eq (tgt := 48) dX8_as_24 (by decide) (fun c17 => ?_) (fun c17 => ?_)
      · have H18 := H16.1 c17
        refine V.iconst (v := (1)) dX8_as_48 (by decide) ?_
        refine V.goto (tgt := 53) dX8_as_49 (by decide) ?_
        refine V.istore (lo' := [(4, .int (1 : Int32)), (3, .ref a6), (0, .ref d), (1, .int a), (2, .int b)]) dX8_as_53 (by decide) rfl ?_
        refine V.iload dX8_as_55 rfl ?_
        refine V.if_eq (tgt := 64) dX8_as_57 (by decide) (fun c => absurd c (by decide)) (fun _ => ?_)
        refine V.iload_n dX8_as_60 rfl rfl ?_
        refine V.goto (tgt := 65) dX8_as_61 (by decide) ?_
        exact V.ret (v := some (.int a)) rfl (Or.inl ⟨_, rfl, dX8_as_65, _, rfl, rfl⟩) ⟨Nat.le_refl _, Nat.le_refl _⟩ H18
      · have H19 := H16.2 c17
        refine V.iload_n dX8_as_27 rfl rfl ?_
        refine V.aload_n dX8_as_28 rfl rfl ?_
        refine V.getf (v := .int (I11 a6 2)) dX8_as_29 fl_X8_96 f9.1 (by decide) rfl ?_
        refine V.icmp_eq (tgt := 48) dX8_as_32 (by decide) (fun c20 => ?_) (fun c20 => ?_)
        · have H21 := H19.1 c20
          refine V.iconst (v := (1)) dX8_as_48 (by decide) ?_
          refine V.goto (tgt := 53) dX8_as_49 (by decide) ?_
          refine V.istore (lo' := [(4, .int (1 : Int32)), (3, .ref a6), (0, .ref d), (1, .int a), (2, .int b)]) dX8_as_53 (by decide) rfl ?_
          refine V.iload dX8_as_55 rfl ?_
          refine V.if_eq (tgt := 64) dX8_as_57 (by decide) (fun c => absurd c (by decide)) (fun _ => ?_)
          refine V.iload_n dX8_as_60 rfl rfl ?_
          refine V.goto (tgt := 65) dX8_as_61 (by decide) ?_
          exact V.ret (v := some (.int a)) rfl (Or.inl ⟨_, rfl, dX8_as_65, _, rfl, rfl⟩) ⟨Nat.le_refl _, Nat.le_refl _⟩ H21
        · have H22 := H19.2 c20
          refine V.iload_n dX8_as_35 rfl rfl ?_
          refine V.iconst (v := (1)) dX8_as_36 (by decide) ?_
          refine V.icmp_ne (tgt := 52) dX8_as_37 (by decide) (fun c23 => ?_) (fun c23 => ?_)
          · have H24 := H22.1 c23
            refine V.iconst (v := (0)) dX8_as_52 (by decide) ?_
            refine V.istore (lo' := [(4, .int (0 : Int32)), (3, .ref a6), (0, .ref d), (1, .int a), (2, .int b)]) dX8_as_53 (by decide) rfl ?_
            refine V.iload dX8_as_55 rfl ?_
            refine V.if_eq (tgt := 64) dX8_as_57 (by decide) (fun _ => ?_) (fun c => absurd c (by decide))
            refine V.iconst (v := (-1)) dX8_as_64 (by decide) ?_
            exact V.ret (v := some (.int (-1 : Int32))) rfl (Or.inl ⟨_, rfl, dX8_as_65, _, rfl, rfl⟩) ⟨Nat.le_refl _, Nat.le_refl _⟩ H24
          · have H25 := H22.2 c23
            refine V.aload_n dX8_as_40 rfl rfl ?_
            refine V.getf (v := .int (I11 a6 2)) dX8_as_41 fl_X8_96 f9.1 (by decide) rfl ?_
            refine V.iconst (v := (2)) dX8_as_44 (by decide) ?_
            refine V.icmp_ne (tgt := 52) dX8_as_45 (by decide) (fun c26 => ?_) (fun c26 => ?_)
            · have H27 := H25.1 c26
              refine V.iconst (v := (0)) dX8_as_52 (by decide) ?_
              refine V.istore (lo' := [(4, .int (0 : Int32)), (3, .ref a6), (0, .ref d), (1, .int a), (2, .int b)]) dX8_as_53 (by decide) rfl ?_
              refine V.iload dX8_as_55 rfl ?_
              refine V.if_eq (tgt := 64) dX8_as_57 (by decide) (fun _ => ?_) (fun c => absurd c (by decide))
              refine V.iconst (v := (-1)) dX8_as_64 (by decide) ?_
              exact V.ret (v := some (.int (-1 : Int32))) rfl (Or.inl ⟨_, rfl, dX8_as_65, _, rfl, rfl⟩) ⟨Nat.le_refl _, Nat.le_refl _⟩ H27
            · have H28 := H25.2 c26
              refine V.iconst (v := (1)) dX8_as_48 (by decide) ?_
              refine V.goto (tgt := 53) dX8_as_49 (by decide) ?_
              refine V.istore (lo' := [(4, .int (1 : Int32)), (3, .ref a6), (0, .ref d), (1, .int a), (2, .int b)]) dX8_as_53 (by decide) rfl ?_
              refine V.iload dX8_as_55 rfl ?_
              refine V.if_eq (tgt := 64) dX8_as_57 (by decide) (fun c => absurd c (by decide)) (fun _ => ?_)
              refine V.iload_n dX8_as_60 rfl rfl ?_
              refine V.goto (tgt := 65) dX8_as_61 (by decide) ?_
              exact V.ret (v := some (.int a)) rfl (Or.inl ⟨_, rfl, dX8_as_65, _, rfl, rfl⟩) ⟨Nat.le_refl _, Nat.le_refl _⟩ H28
    · have H29 := H14.2 c15
      refine V.bipush (v := (-102)) dX8_as_20 (by decide) ?_
      exact V.ret (v := some (.int (-102 : Int32))) rfl (Or.inl ⟨_, rfl, dX8_as_22, _, rfl, rfl⟩) ⟨Nat.le_refl _, Nat.le_refl _⟩ H29
set_option maxRecDepth 100000 in
set_option maxHeartbeats 4000000 in
theorem wp_X8_be {S : List mjD} {RET : Option Value → mjH → Prop} {d : Nat} (hd : is_Desk S d) {a : Int32} {b : Int32} {I : Nat → Nat → Int32} {L : Nat → Nat → Int64} (H0 : ∃ r1 I2 L3, CTq mr_X8_anySlot [.ref d, .int a] S I L r1 I2 L3 ∧ ((r1 = none → RET (some (.int (-101 : Int32))) (S, I2, L3)) ∧ (∀ a6, r1 = some a6 → is_Slot S a6 ∧ ∃ r10 I11 L12, CTi mr_X8_isKind [.int b] S I2 L3 r10 I11 L12 ∧ ((¬ r10 = 0 → ∀ y17 : Int32, y17 = (I11 a6 2) → RET (some (.int y17)) (S, mj_up I11 a6 2 b, L12)) ∧ (r10 = 0 → RET (some (.int (-102 : Int32))) (S, I11, L12)))))) : CT mr_X8_be (0, 0) [.ref d, .int a, .int b] (S, I, L) RET := by
  refine CT.of (lo := [(0, .ref d), (1, .int a), (2, .int b)]) (by decide) (fun _ _ => Nat.le_of_ble_eq_true rfl) (fun _ _ => rfl) rfl ?_
  refine V.aload_n dX8_be_0 rfl rfl ?_
  refine V.iload_n dX8_be_1 rfl rfl ?_
  obtain ⟨r1, I2, L3, t4, H5⟩ := H0
  refine V.cVq (N := mr_X8_anySlot) (as := [.int a]) dX8_be_2 ml_X8_116 ok_X8_anySlot okV_X8_anySlot ⟨Nat.le_of_ble_eq_true rfl, Nat.le_of_ble_eq_true rfl⟩ hd.1 rfl rfl rfl (Nat.le_of_ble_eq_true rfl) t4 ?_
  cases r1 with
  | none =>
    have H7 := H5.1 rfl
    refine V.astore_nN (lo' := [(3, .null), (0, .ref d), (1, .int a), (2, .int b)]) dX8_be_5 rfl (by decide) rfl ?_
    refine V.aload_nN dX8_be_6 rfl rfl ?_
    refine V.ifnonnullN dX8_be_7 ?_
    refine V.bipush (v := (-101)) dX8_be_10 (by decide) ?_
    exact V.ret (v := some (.int (-101 : Int32))) rfl (Or.inl ⟨_, rfl, dX8_be_12, _, rfl, rfl⟩) ⟨Nat.le_refl _, Nat.le_refl _⟩ H7
  | some a6 =>
    obtain ⟨f9, H8⟩ := H5.2 a6 rfl
    refine V.astore_n (lo' := [(3, .ref a6), (0, .ref d), (1, .int a), (2, .int b)]) dX8_be_5 rfl (by decide) rfl ?_
    refine V.aload_n dX8_be_6 rfl rfl ?_
    refine V.ifnonnull (tgt := 13) dX8_be_7 (by decide) ?_
    refine V.iload_n dX8_be_13 rfl rfl ?_
    obtain ⟨r10, I11, L12, t13, H14⟩ := H8
    refine V.cSi (N := mr_X8_isKind) (as := [.int b]) dX8_be_14 ml_X8_166 ok_X8_isKind okS_X8_isKind ⟨Nat.le_of_ble_eq_true rfl, Nat.le_of_ble_eq_true rfl⟩ rfl rfl (Nat.le_of_ble_eq_true rfl) t13 ?_
    refine V.if_ne (tgt := 23) dX8_be_17 (by decide) (fun c15 => ?_) (fun c15 => ?_)
    · have H16 := H14.1 c15
      refine V.aload_n dX8_be_23 rfl rfl ?_
      refine V.getf (v := .int (I11 a6 2)) dX8_be_24 fl_X8_96 f9.1 (by decide) rfl ?_
      refine V.topi (fun y17 e18 => ?_)
      have H19 := H16 y17 e18
      refine V.istore (lo' := [(4, .int y17), (3, .ref a6), (0, .ref d), (1, .int a), (2, .int b)]) dX8_be_27 (by decide) rfl ?_
      refine V.aload_n dX8_be_29 rfl rfl ?_
      refine V.iload_n dX8_be_30 rfl rfl ?_
      refine V.puti dX8_be_31 fl_X8_96 fp_X8_96 (Or.inl rfl) f9.1 (by decide) rfl rfl ?_
      refine V.iload dX8_be_34 rfl ?_
      exact V.ret (v := some (.int y17)) rfl (Or.inl ⟨_, rfl, dX8_be_36, _, rfl, rfl⟩) ⟨Nat.le_refl _, Nat.le_refl _⟩ H19
    · have H20 := H14.2 c15
      refine V.bipush (v := (-102)) dX8_be_20 (by decide) ?_
      exact V.ret (v := some (.int (-102 : Int32))) rfl (Or.inl ⟨_, rfl, dX8_be_22, _, rfl, rfl⟩) ⟨Nat.le_refl _, Nat.le_refl _⟩ H20
def hd_X8_digestLine_5 (S : List mjD) (RET : Option Value → mjH → Prop) (a2 : Nat) (x3 : Int64) (x5 : Int32) (I : Nat → Nat → Int32) (L : Nat → Nat → Int64) : Prop := V mr_X8_digestLine (0, 0) RET 5 [(2, .ref a2), (3, .long x3), (5, .int x5)] [] (S, I, L) (0, 0)
set_option maxRecDepth 100000 in
set_option maxHeartbeats 4000000 in
theorem it_X8_digestLine_5 {S : List mjD} {RET : Option Value → mjH → Prop} {a2 : Nat} (h2 : is_Line S a2) {x3 : Int64} {x5 : Int32} {I : Nat → Nat → Int32} {L : Nat → Nat → Int64} (H0 : (((I a2 1) ≤ x5 → RET (some (.long x3)) (S, I, L)) ∧ (¬ (I a2 1) ≤ x5 → ∃ r4 I5 L6, CTi mr_X2_codeAt [.ref a2, .int x5] S I L r4 I5 L6 ∧ ∀ y9 : Int64, y9 = (((31 : Int64) * x3) + r4.toInt64) → ∀ y12 : Int32, y12 = x5 + 1 → hd_X8_digestLine_5 S RET a2 y9 y12 I5 L6))) : hd_X8_digestLine_5 S RET a2 x3 x5 I L := by
  unfold hd_X8_digestLine_5
  refine V.iload dX8_digestLine_5 rfl ?_
  refine V.aload_n dX8_digestLine_7 rfl rfl ?_
  refine V.getf (v := .int (I a2 1)) dX8_digestLine_8 fl_X8_81 h2.1 (by decide) rfl ?_
  refine V.icmp_ge (tgt := 34) dX8_digestLine_11 (by decide) (fun c1 => ?_) (fun c1 => ?_)
  · have H2 := H0.1 c1
    refine V.lload_n dX8_digestLine_34 rfl rfl ?_
    exact V.ret (v := some (.long x3)) rfl (Or.inr (Or.inl ⟨_, rfl, dX8_digestLine_35, rfl⟩)) ⟨Nat.le_refl _, Nat.le_refl _⟩ H2
  · have H3 := H0.2 c1
    refine V.ldc2 kc_X8_301 dX8_digestLine_14 ?_
    refine V.lload_n dX8_digestLine_17 rfl rfl ?_
    refine V.lmul dX8_digestLine_18 ?_
    refine V.aload_n dX8_digestLine_19 rfl rfl ?_
    refine V.iload dX8_digestLine_20 rfl ?_
    obtain ⟨r4, I5, L6, t7, H8⟩ := H3
    refine V.cVi (N := mr_X2_codeAt) (as := [.int x5]) dX8_digestLine_22 ml_X8_89 ok_X2_codeAt okV_X2_codeAt ⟨Nat.le_of_ble_eq_true rfl, Nat.le_of_ble_eq_true rfl⟩ h2.1 rfl rfl rfl (Nat.le_of_ble_eq_true rfl) t7 ?_
    refine V.i2l dX8_digestLine_25 ?_
    refine V.ladd dX8_digestLine_26 ?_
    refine V.topl (fun y9 e10 => ?_)
    have H11 := H8 y9 e10
    refine V.lstore_n (lo' := [(3, .long y9), (2, .ref a2), (5, .int x5)]) dX8_digestLine_27 rfl (by decide) rfl ?_
    obtain ⟨y12, e13⟩ : ∃ y : Int32, y = x5 + 1 := ⟨_, rfl⟩
    have H14 := H11 y12 e13
    refine V.iinc (v := y12) (lo' := [(5, .int y12), (3, .long y9), (2, .ref a2)]) dX8_digestLine_28 rfl (by rw [e13]; rfl) (by decide) rfl ?_
    refine V.goto (tgt := 5) dX8_digestLine_31 (by decide) ?_
    exact V.los [2, 1, 0] rfl H14
set_option maxRecDepth 100000 in
set_option maxHeartbeats 4000000 in
theorem wp_X8_digestLine {S : List mjD} {RET : Option Value → mjH → Prop} {a : Int64} {q : Nat} (hq : is_Line S q) {I : Nat → Nat → Int32} {L : Nat → Nat → Int64} (H0 : hd_X8_digestLine_5 S RET q a (0 : Int32) I L) : CT mr_X8_digestLine (0, 0) [.long a, .ref q] (S, I, L) RET := by
  refine CT.of (lo := [(0, .long a), (2, .ref q)]) (by decide) (fun _ _ => Nat.le_of_ble_eq_true rfl) (fun _ _ => rfl) rfl ?_
  refine V.lload_n dX8_digestLine_0 rfl rfl ?_
  refine V.lstore_n (lo' := [(3, .long a), (0, .long a), (2, .ref q)]) dX8_digestLine_1 rfl (by decide) rfl ?_
  refine V.iconst (v := (0)) dX8_digestLine_2 (by decide) ?_
  refine V.istore (lo' := [(5, .int (0 : Int32)), (3, .long a), (0, .long a), (2, .ref q)]) dX8_digestLine_3 (by decide) rfl ?_
  exact V.los [3, 1, 0] rfl H0
set_option maxRecDepth 100000 in
set_option maxHeartbeats 4000000 in
theorem wp_X8_see {S : List mjD} {RET : Option Value → mjH → Prop} {d : Nat} (hd : is_Desk S d) {a : Int32} {b : Int32} {c : Int32} {I : Nat → Nat → Int32} {L : Nat → Nat → Int64} (H0 : ∃ r1 I2 L3, CTq mr_X8_anySlot [.ref d, .int a] S I L r1 I2 L3 ∧ ((r1 = none → RET (some (.int (-101 : Int32))) (S, I2, L3)) ∧ (∀ a6, r1 = some a6 → is_Slot S a6 ∧ ((b < 0 → RET (some (.int (-102 : Int32))) (S, I2, L3)) ∧ (¬ b < 0 → ((b < (4 : Int32) → ∃ r15 I16 L17, CTi mr_X3_append [.ref (d + 39), .int a, .int b, .int c] S I2 L3 r15 I16 L17 ∧ ((r15 = 0 → RET (some (.int (-104 : Int32))) (S, I16, L17)) ∧ (¬ r15 = 0 → RET (some (.int (I16 (d + 39) 2))) (S, I16, L17)))) ∧ (¬ b < (4 : Int32) → RET (some (.int (-102 : Int32))) (S, I2, L3)))))))) : CT mr_X8_see (0, 0) [.ref d, .int a, .int b, .int c] (S, I, L) RET := by
  refine CT.of (lo := [(0, .ref d), (1, .int a), (2, .int b), (3, .int c)]) (by decide) (fun _ _ => Nat.le_of_ble_eq_true rfl) (fun _ _ => rfl) rfl ?_
  refine V.aload_n dX8_see_0 rfl rfl ?_
  refine V.iload_n dX8_see_1 rfl rfl ?_
  obtain ⟨r1, I2, L3, t4, H5⟩ := H0
  refine V.cVq (N := mr_X8_anySlot) (as := [.int a]) dX8_see_2 ml_X8_116 ok_X8_anySlot okV_X8_anySlot ⟨Nat.le_of_ble_eq_true rfl, Nat.le_of_ble_eq_true rfl⟩ hd.1 rfl rfl rfl (Nat.le_of_ble_eq_true rfl) t4 ?_
  cases r1 with
  | none =>
    have H7 := H5.1 rfl
    refine V.ifnonnullN dX8_see_5 ?_
    refine V.bipush (v := (-101)) dX8_see_8 (by decide) ?_
    exact V.ret (v := some (.int (-101 : Int32))) rfl (Or.inl ⟨_, rfl, dX8_see_10, _, rfl, rfl⟩) ⟨Nat.le_refl _, Nat.le_refl _⟩ H7
  | some a6 =>
    obtain ⟨f9, H8⟩ := H5.2 a6 rfl
    refine V.ifnonnull (tgt := 11) dX8_see_5 (by decide) ?_
    refine V.iload_n dX8_see_11 rfl rfl ?_
    refine V.if_lt (tgt := 23) dX8_see_12 (by decide) (fun c10 => ?_) (fun c10 => ?_)
    · have H11 := H8.1 c10
      refine V.bipush (v := (-102)) dX8_see_23 (by decide) ?_
      exact V.ret (v := some (.int (-102 : Int32))) rfl (Or.inl ⟨_, rfl, dX8_see_25, _, rfl, rfl⟩) ⟨Nat.le_refl _, Nat.le_refl _⟩ H11
    · have H12 := H8.2 c10
      refine V.iload_n dX8_see_15 rfl rfl ?_
      refine V.gets_HAPPENS dX8_see_16 gs_X8_256 ?_
      refine V.len_HAPPENS dX8_see_19 ?_
      refine V.icmp_lt (tgt := 26) dX8_see_20 (by decide) (fun c13 => ?_) (fun c13 => ?_)
      · have H14 := H12.1 c13
        refine V.aload_n dX8_see_26 rfl rfl ?_
        refine V.getf (v := .ref (d + 39)) dX8_see_27 fl_X8_66 hd.1 (by decide) rfl ?_
        refine V.iload_n dX8_see_30 rfl rfl ?_
        refine V.iload_n dX8_see_31 rfl rfl ?_
        refine V.iload_n dX8_see_32 rfl rfl ?_
        obtain ⟨r15, I16, L17, t18, H19⟩ := H14
        refine V.cVi (N := mr_X3_append) (as := [.int a, .int b, .int c]) dX8_see_33 ml_X8_259 ok_X3_append okV_X3_append ⟨Nat.le_of_ble_eq_true rfl, Nat.le_of_ble_eq_true rfl⟩ hd.2.2.2.2.2.2.2.2.2.2.1.1 rfl rfl rfl (Nat.le_of_ble_eq_true rfl) t18 ?_
        refine V.if_eq (tgt := 49) dX8_see_36 (by decide) (fun c20 => ?_) (fun c20 => ?_)
        · have H21 := H19.1 c20
          refine V.bipush (v := (-104)) dX8_see_49 (by decide) ?_
          exact V.ret (v := some (.int (-104 : Int32))) rfl (Or.inl ⟨_, rfl, dX8_see_51, _, rfl, rfl⟩) ⟨Nat.le_refl _, Nat.le_refl _⟩ H21
        · have H22 := H19.2 c20
          refine V.aload_n dX8_see_39 rfl rfl ?_
          refine V.getf (v := .ref (d + 39)) dX8_see_40 fl_X8_66 hd.1 (by decide) rfl ?_
          refine V.getf (v := .int (I16 (d + 39) 2)) dX8_see_43 fl_X8_109 hd.2.2.2.2.2.2.2.2.2.2.1.1 (by decide) rfl ?_
          refine V.goto (tgt := 51) dX8_see_46 (by decide) ?_
          exact V.ret (v := some (.int (I16 (d + 39) 2))) rfl (Or.inl ⟨_, rfl, dX8_see_51, _, rfl, rfl⟩) ⟨Nat.le_refl _, Nat.le_refl _⟩ H22
      · have H23 := H12.2 c13
        refine V.bipush (v := (-102)) dX8_see_23 (by decide) ?_
        exact V.ret (v := some (.int (-102 : Int32))) rfl (Or.inl ⟨_, rfl, dX8_see_25, _, rfl, rfl⟩) ⟨Nat.le_refl _, Nat.le_refl _⟩ H23
set_option maxRecDepth 100000 in
set_option maxHeartbeats 4000000 in
theorem wp_X8_number {S : List mjD} {RET : Option Value → mjH → Prop} {d : Nat} (hd : is_Desk S d) {a : Int32} {b : Int32} {I : Nat → Nat → Int32} {L : Nat → Nat → Int64} (H0 : ∃ r1 I2 L3, CTq mr_X8_filledSlot [.ref d, .int a] S I L r1 I2 L3 ∧ ((r1 = none → RET (some (.int (-101 : Int32))) (S, I2, L3)) ∧ (∀ a6, r1 = some a6 → is_Slot S a6 ∧ ((b < 0 → RET (some (.int (-102 : Int32))) (S, I2, L3)) ∧ (¬ b < 0 → ((b ≤ (5 : Int32) → ∃ r15 I16 L17, CTl mr_X5_at [.ref (a6 + 1), .int b] S I2 L3 r15 I16 L17 ∧ RET (some (.int ((1000 : Int32) + r15.toInt32))) (S, I16, L17)) ∧ (¬ b ≤ (5 : Int32) → RET (some (.int (-102 : Int32))) (S, I2, L3)))))))) : CT mr_X8_number (0, 0) [.ref d, .int a, .int b] (S, I, L) RET := by
  refine CT.of (lo := [(0, .ref d), (1, .int a), (2, .int b)]) (by decide) (fun _ _ => Nat.le_of_ble_eq_true rfl) (fun _ _ => rfl) rfl ?_
  refine V.aload_n dX8_number_0 rfl rfl ?_
  refine V.iload_n dX8_number_1 rfl rfl ?_
  obtain ⟨r1, I2, L3, t4, H5⟩ := H0
  refine V.cVq (N := mr_X8_filledSlot) (as := [.int a]) dX8_number_2 ml_X8_169 ok_X8_filledSlot okV_X8_filledSlot ⟨Nat.le_of_ble_eq_true rfl, Nat.le_of_ble_eq_true rfl⟩ hd.1 rfl rfl rfl (Nat.le_of_ble_eq_true rfl) t4 ?_
  cases r1 with
  | none =>
    have H7 := H5.1 rfl
    refine V.astore_nN (lo' := [(3, .null), (0, .ref d), (1, .int a), (2, .int b)]) dX8_number_5 rfl (by decide) rfl ?_
    refine V.aload_nN dX8_number_6 rfl rfl ?_
    refine V.ifnonnullN dX8_number_7 ?_
    refine V.bipush (v := (-101)) dX8_number_10 (by decide) ?_
    exact V.ret (v := some (.int (-101 : Int32))) rfl (Or.inl ⟨_, rfl, dX8_number_12, _, rfl, rfl⟩) ⟨Nat.le_refl _, Nat.le_refl _⟩ H7
  | some a6 =>
    obtain ⟨f9, H8⟩ := H5.2 a6 rfl
    refine V.astore_n (lo' := [(3, .ref a6), (0, .ref d), (1, .int a), (2, .int b)]) dX8_number_5 rfl (by decide) rfl ?_
    refine V.aload_n dX8_number_6 rfl rfl ?_
    refine V.ifnonnull (tgt := 13) dX8_number_7 (by decide) ?_
    refine V.iload_n dX8_number_13 rfl rfl ?_
    refine V.if_lt (tgt := 22) dX8_number_14 (by decide) (fun c10 => ?_) (fun c10 => ?_)
    · have H11 := H8.1 c10
      refine V.bipush (v := (-102)) dX8_number_22 (by decide) ?_
      exact V.ret (v := some (.int (-102 : Int32))) rfl (Or.inl ⟨_, rfl, dX8_number_24, _, rfl, rfl⟩) ⟨Nat.le_refl _, Nat.le_refl _⟩ H11
    · have H12 := H8.2 c10
      refine V.iload_n dX8_number_17 rfl rfl ?_
      refine V.iconst (v := (5)) dX8_number_18 (by decide) ?_
      refine V.icmp_le (tgt := 25) dX8_number_19 (by decide) (fun c13 => ?_) (fun c13 => ?_)
      · have H14 := H12.1 c13
        refine V.sipush (v := (1000)) dX8_number_25 (by decide) ?_
        refine V.aload_n dX8_number_28 rfl rfl ?_
        refine V.getf (v := .ref (a6 + 1)) dX8_number_29 fl_X8_135 f9.1 (by decide) rfl ?_
        refine V.iload_n dX8_number_32 rfl rfl ?_
        obtain ⟨r15, I16, L17, t18, H19⟩ := H14
        refine V.cVl (N := mr_X5_at) (as := [.int b]) dX8_number_33 ml_X8_172 ok_X5_at okV_X5_at ⟨Nat.le_of_ble_eq_true rfl, Nat.le_of_ble_eq_true rfl⟩ f9.2.1.1 rfl rfl rfl (Nat.le_of_ble_eq_true rfl) t18 ?_
        refine V.l2i dX8_number_36 ?_
        refine V.iadd dX8_number_37 ?_
        exact V.ret (v := some (.int ((1000 : Int32) + r15.toInt32))) rfl (Or.inl ⟨_, rfl, dX8_number_38, _, rfl, rfl⟩) ⟨Nat.le_refl _, Nat.le_refl _⟩ H19
      · have H20 := H12.2 c13
        refine V.bipush (v := (-102)) dX8_number_22 (by decide) ?_
        exact V.ret (v := some (.int (-102 : Int32))) rfl (Or.inl ⟨_, rfl, dX8_number_24, _, rfl, rfl⟩) ⟨Nat.le_refl _, Nat.le_refl _⟩ H20
set_option maxRecDepth 100000 in
set_option maxHeartbeats 4000000 in
theorem wp_X8_factor {S : List mjD} {RET : Option Value → mjH → Prop} {d : Nat} (hd : is_Desk S d) {a : Int32} {b : Int32} {c : Int32} {I : Nat → Nat → Int32} {L : Nat → Nat → Int64} (H0 : ∃ r1 I2 L3, CTq mr_X8_filledSlot [.ref d, .int a] S I L r1 I2 L3 ∧ ((r1 = none → RET (some (.int (-101 : Int32))) (S, I2, L3)) ∧ (∀ a6, r1 = some a6 → is_Slot S a6 ∧ ∃ r10 I11 L12, CTq mr_X1_baseAt [.ref (a6 + 3), .int b] S I2 L3 r10 I11 L12 ∧ ((r10 = none → RET (some (.int (-101 : Int32))) (S, I11, L12)) ∧ (∀ a15, r10 = some a15 → is_Poly S a15 ∧ ((c < 0 → RET (some (.int (-102 : Int32))) (S, I11, L12)) ∧ (¬ c < 0 → ((c < (8 : Int32) → ((¬ c = 0 → ((¬ c = (1 : Int32) → ∃ r28 I29 L30, CTl mr_X5_at [.ref a15, .int (c - (2 : Int32))] S I11 L12 r28 I29 L30 ∧ RET (some (.int ((100000 : Int32) + r28.toInt32))) (S, I29, L30)) ∧ (c = (1 : Int32) → ∃ r34 I35 L36, CTi mr_X1_multiplicityAt [.ref (a6 + 3), .int b] S I11 L12 r34 I35 L36 ∧ RET (some (.int r34)) (S, I35, L36)))) ∧ (c = 0 → ∃ r40 I41 L42, CTi mr_X5_degree [.ref a15] S I11 L12 r40 I41 L42 ∧ RET (some (.int r40)) (S, I41, L42)))) ∧ (¬ c < (8 : Int32) → RET (some (.int (-102 : Int32))) (S, I11, L12)))))))))) : CT mr_X8_factor (0, 0) [.ref d, .int a, .int b, .int c] (S, I, L) RET := by
  refine CT.of (lo := [(0, .ref d), (1, .int a), (2, .int b), (3, .int c)]) (by decide) (fun _ _ => Nat.le_of_ble_eq_true rfl) (fun _ _ => rfl) rfl ?_
  refine V.aload_n dX8_factor_0 rfl rfl ?_
  refine V.iload_n dX8_factor_1 rfl rfl ?_
  obtain ⟨r1, I2, L3, t4, H5⟩ := H0
  refine V.cVq (N := mr_X8_filledSlot) (as := [.int a]) dX8_factor_2 ml_X8_169 ok_X8_filledSlot okV_X8_filledSlot ⟨Nat.le_of_ble_eq_true rfl, Nat.le_of_ble_eq_true rfl⟩ hd.1 rfl rfl rfl (Nat.le_of_ble_eq_true rfl) t4 ?_
  cases r1 with
  | none =>
    have H7 := H5.1 rfl
    refine V.astoreN (lo' := [(4, .null), (0, .ref d), (1, .int a), (2, .int b), (3, .int c)]) dX8_factor_5 (by decide) rfl ?_
    refine V.aloadN dX8_factor_7 rfl ?_
    refine V.ifnonnullN dX8_factor_9 ?_
    refine V.null dX8_factor_12 ?_
    refine V.goto (tgt := 25) dX8_factor_13 (by decide) ?_
    refine V.astoreN (lo' := [(5, .null), (4, .null), (0, .ref d), (1, .int a), (2, .int b), (3, .int c)]) dX8_factor_25 (by decide) rfl ?_
    refine V.aloadN dX8_factor_27 rfl ?_
    refine V.ifnonnullN dX8_factor_29 ?_
    refine V.bipush (v := (-101)) dX8_factor_32 (by decide) ?_
    exact V.ret (v := some (.int (-101 : Int32))) rfl (Or.inl ⟨_, rfl, dX8_factor_34, _, rfl, rfl⟩) ⟨Nat.le_refl _, Nat.le_refl _⟩ H7
  | some a6 =>
    obtain ⟨f9, H8⟩ := H5.2 a6 rfl
    refine V.astore (lo' := [(4, .ref a6), (0, .ref d), (1, .int a), (2, .int b), (3, .int c)]) dX8_factor_5 (by decide) rfl ?_
    refine V.aload dX8_factor_7 rfl ?_
    refine V.ifnonnull (tgt := 16) dX8_factor_9 (by decide) ?_
    refine V.aload dX8_factor_16 rfl ?_
    refine V.getf (v := .ref (a6 + 3)) dX8_factor_18 fl_X8_149 f9.1 (by decide) rfl ?_
    refine V.iload_n dX8_factor_21 rfl rfl ?_
    obtain ⟨r10, I11, L12, t13, H14⟩ := H8
    refine V.cVq (N := mr_X1_baseAt) (as := [.int b]) dX8_factor_22 ml_X8_176 ok_X1_baseAt okV_X1_baseAt ⟨Nat.le_of_ble_eq_true rfl, Nat.le_of_ble_eq_true rfl⟩ f9.2.2.1 rfl rfl rfl (Nat.le_of_ble_eq_true rfl) t13 ?_
    cases r10 with
    | none =>
      have H16 := H14.1 rfl
      refine V.astoreN (lo' := [(5, .null), (4, .ref a6), (0, .ref d), (1, .int a), (2, .int b), (3, .int c)]) dX8_factor_25 (by decide) rfl ?_
      refine V.aloadN dX8_factor_27 rfl ?_
      refine V.ifnonnullN dX8_factor_29 ?_
      refine V.bipush (v := (-101)) dX8_factor_32 (by decide) ?_
      exact V.ret (v := some (.int (-101 : Int32))) rfl (Or.inl ⟨_, rfl, dX8_factor_34, _, rfl, rfl⟩) ⟨Nat.le_refl _, Nat.le_refl _⟩ H16
    | some a15 =>
      obtain ⟨f18, H17⟩ := H14.2 a15 rfl
      refine V.astore (lo' := [(5, .ref a15), (4, .ref a6), (0, .ref d), (1, .int a), (2, .int b), (3, .int c)]) dX8_factor_25 (by decide) rfl ?_
      refine V.aload dX8_factor_27 rfl ?_
      refine V.ifnonnull (tgt := 35) dX8_factor_29 (by decide) ?_
      refine V.iload_n dX8_factor_35 rfl rfl ?_
      refine V.if_lt (tgt := 45) dX8_factor_36 (by decide) (fun c19 => ?_) (fun c19 => ?_)
      · have H20 := H17.1 c19
        refine V.bipush (v := (-102)) dX8_factor_45 (by decide) ?_
        exact V.ret (v := some (.int (-102 : Int32))) rfl (Or.inl ⟨_, rfl, dX8_factor_47, _, rfl, rfl⟩) ⟨Nat.le_refl _, Nat.le_refl _⟩ H20
      · have H21 := H17.2 c19
        refine V.iload_n dX8_factor_39 rfl rfl ?_
        refine V.bipush (v := (8)) dX8_factor_40 (by decide) ?_
        refine V.icmp_lt (tgt := 48) dX8_factor_42 (by decide) (fun c22 => ?_) (fun c22 => ?_)
        · have H23 := H21.1 c22
          refine V.iload_n dX8_factor_48 rfl rfl ?_
          refine V.if_ne (tgt := 58) dX8_factor_49 (by decide) (fun c24 => ?_) (fun c24 => ?_)
          · have H25 := H23.1 c24
            refine V.iload_n dX8_factor_58 rfl rfl ?_
            refine V.iconst (v := (1)) dX8_factor_59 (by decide) ?_
            refine V.icmp_ne (tgt := 73) dX8_factor_60 (by decide) (fun c26 => ?_) (fun c26 => ?_)
            · have H27 := H25.1 c26
              refine V.ldc kc_X8_183 dX8_factor_73 ?_
              refine V.aload dX8_factor_75 rfl ?_
              refine V.iload_n dX8_factor_77 rfl rfl ?_
              refine V.iconst (v := (2)) dX8_factor_78 (by decide) ?_
              refine V.isub dX8_factor_79 ?_
              obtain ⟨r28, I29, L30, t31, H32⟩ := H27
              refine V.cVl (N := mr_X5_at) (as := [.int (c - (2 : Int32))]) dX8_factor_80 ml_X8_172 ok_X5_at okV_X5_at ⟨Nat.le_of_ble_eq_true rfl, Nat.le_of_ble_eq_true rfl⟩ f18.1 rfl rfl rfl (Nat.le_of_ble_eq_true rfl) t31 ?_
              refine V.l2i dX8_factor_83 ?_
              refine V.iadd dX8_factor_84 ?_
              exact V.ret (v := some (.int ((100000 : Int32) + r28.toInt32))) rfl (Or.inl ⟨_, rfl, dX8_factor_85, _, rfl, rfl⟩) ⟨Nat.le_refl _, Nat.le_refl _⟩ H32
            · have H33 := H25.2 c26
              refine V.aload dX8_factor_63 rfl ?_
              refine V.getf (v := .ref (a6 + 3)) dX8_factor_65 fl_X8_149 f9.1 (by decide) rfl ?_
              refine V.iload_n dX8_factor_68 rfl rfl ?_
              obtain ⟨r34, I35, L36, t37, H38⟩ := H33
              refine V.cVi (N := mr_X1_multiplicityAt) (as := [.int b]) dX8_factor_69 ml_X8_180 ok_X1_multiplicityAt okV_X1_multiplicityAt ⟨Nat.le_of_ble_eq_true rfl, Nat.le_of_ble_eq_true rfl⟩ f9.2.2.1 rfl rfl rfl (Nat.le_of_ble_eq_true rfl) t37 ?_
              exact V.ret (v := some (.int r34)) rfl (Or.inl ⟨_, rfl, dX8_factor_72, _, rfl, rfl⟩) ⟨Nat.le_refl _, Nat.le_refl _⟩ H38
          · have H39 := H23.2 c24
            refine V.aload dX8_factor_52 rfl ?_
            obtain ⟨r40, I41, L42, t43, H44⟩ := H39
            refine V.cVi (N := mr_X5_degree) (as := []) dX8_factor_54 ml_X8_138 ok_X5_degree okV_X5_degree ⟨Nat.le_of_ble_eq_true rfl, Nat.le_of_ble_eq_true rfl⟩ f18.1 rfl rfl rfl (Nat.le_of_ble_eq_true rfl) t43 ?_
            exact V.ret (v := some (.int r40)) rfl (Or.inl ⟨_, rfl, dX8_factor_57, _, rfl, rfl⟩) ⟨Nat.le_refl _, Nat.le_refl _⟩ H44
        · have H45 := H21.2 c22
          refine V.bipush (v := (-102)) dX8_factor_45 (by decide) ?_
          exact V.ret (v := some (.int (-102 : Int32))) rfl (Or.inl ⟨_, rfl, dX8_factor_47, _, rfl, rfl⟩) ⟨Nat.le_refl _, Nat.le_refl _⟩ H45
set_option maxRecDepth 100000 in
set_option maxHeartbeats 4000000 in
theorem wp_X8_value {S : List mjD} {RET : Option Value → mjH → Prop} {d : Nat} (hd : is_Desk S d) {a : Int32} {b : Int32} {I : Nat → Nat → Int32} {L : Nat → Nat → Int64} (H0 : ∃ r1 I2 L3, CTq mr_X8_filledSlot [.ref d, .int a] S I L r1 I2 L3 ∧ ((r1 = none → RET (some (.long (-101 : Int64))) (S, I2, L3)) ∧ (∀ a6, r1 = some a6 → is_Slot S a6 ∧ ((b < (-9 : Int32) → RET (some (.long (-102 : Int64))) (S, I2, L3)) ∧ (¬ b < (-9 : Int32) → ((b ≤ (9 : Int32) → ∃ r15 I16 L17, CTl mr_X5_valueAt [.ref (a6 + 1), .int b] S I2 L3 r15 I16 L17 ∧ RET (some (.long r15)) (S, I16, L17)) ∧ (¬ b ≤ (9 : Int32) → RET (some (.long (-102 : Int64))) (S, I2, L3)))))))) : CT mr_X8_value (0, 0) [.ref d, .int a, .int b] (S, I, L) RET := by
  refine CT.of (lo := [(0, .ref d), (1, .int a), (2, .int b)]) (by decide) (fun _ _ => Nat.le_of_ble_eq_true rfl) (fun _ _ => rfl) rfl ?_
  refine V.aload_n dX8_value_0 rfl rfl ?_
  refine V.iload_n dX8_value_1 rfl rfl ?_
  obtain ⟨r1, I2, L3, t4, H5⟩ := H0
  refine V.cVq (N := mr_X8_filledSlot) (as := [.int a]) dX8_value_2 ml_X8_169 ok_X8_filledSlot okV_X8_filledSlot ⟨Nat.le_of_ble_eq_true rfl, Nat.le_of_ble_eq_true rfl⟩ hd.1 rfl rfl rfl (Nat.le_of_ble_eq_true rfl) t4 ?_
  cases r1 with
  | none =>
    have H7 := H5.1 rfl
    refine V.astore_nN (lo' := [(3, .null), (0, .ref d), (1, .int a), (2, .int b)]) dX8_value_5 rfl (by decide) rfl ?_
    refine V.aload_nN dX8_value_6 rfl rfl ?_
    refine V.ifnonnullN dX8_value_7 ?_
    refine V.ldc2 kc_X8_184 dX8_value_10 ?_
    exact V.ret (v := some (.long (-101 : Int64))) rfl (Or.inr (Or.inl ⟨_, rfl, dX8_value_13, rfl⟩)) ⟨Nat.le_refl _, Nat.le_refl _⟩ H7
  | some a6 =>
    obtain ⟨f9, H8⟩ := H5.2 a6 rfl
    refine V.astore_n (lo' := [(3, .ref a6), (0, .ref d), (1, .int a), (2, .int b)]) dX8_value_5 rfl (by decide) rfl ?_
    refine V.aload_n dX8_value_6 rfl rfl ?_
    refine V.ifnonnull (tgt := 14) dX8_value_7 (by decide) ?_
    refine V.iload_n dX8_value_14 rfl rfl ?_
    refine V.bipush (v := (-9)) dX8_value_15 (by decide) ?_
    refine V.icmp_lt (tgt := 26) dX8_value_17 (by decide) (fun c10 => ?_) (fun c10 => ?_)
    · have H11 := H8.1 c10
      refine V.ldc2 kc_X8_186 dX8_value_26 ?_
      exact V.ret (v := some (.long (-102 : Int64))) rfl (Or.inr (Or.inl ⟨_, rfl, dX8_value_29, rfl⟩)) ⟨Nat.le_refl _, Nat.le_refl _⟩ H11
    · have H12 := H8.2 c10
      refine V.iload_n dX8_value_20 rfl rfl ?_
      refine V.bipush (v := (9)) dX8_value_21 (by decide) ?_
      refine V.icmp_le (tgt := 30) dX8_value_23 (by decide) (fun c13 => ?_) (fun c13 => ?_)
      · have H14 := H12.1 c13
        refine V.aload_n dX8_value_30 rfl rfl ?_
        refine V.getf (v := .ref (a6 + 1)) dX8_value_31 fl_X8_135 f9.1 (by decide) rfl ?_
        refine V.iload_n dX8_value_34 rfl rfl ?_
        obtain ⟨r15, I16, L17, t18, H19⟩ := H14
        refine V.cVl (N := mr_X5_valueAt) (as := [.int b]) dX8_value_35 ml_X8_188 ok_X5_valueAt okV_X5_valueAt ⟨Nat.le_of_ble_eq_true rfl, Nat.le_of_ble_eq_true rfl⟩ f9.2.1.1 rfl rfl rfl (Nat.le_of_ble_eq_true rfl) t18 ?_
        exact V.ret (v := some (.long r15)) rfl (Or.inr (Or.inl ⟨_, rfl, dX8_value_38, rfl⟩)) ⟨Nat.le_refl _, Nat.le_refl _⟩ H19
      · have H20 := H12.2 c13
        refine V.ldc2 kc_X8_186 dX8_value_26 ?_
        exact V.ret (v := some (.long (-102 : Int64))) rfl (Or.inr (Or.inl ⟨_, rfl, dX8_value_29, rfl⟩)) ⟨Nat.le_refl _, Nat.le_refl _⟩ H20
def hd_X8_filledSlots_4 (S : List mjD) (RET : Option Value → mjH → Prop) (a0 : Nat) (x1 : Int32) (x2 : Int32) (I : Nat → Nat → Int32) (L : Nat → Nat → Int64) : Prop := V mr_X8_filledSlots (0, 0) RET 4 [(0, .ref a0), (1, .int x1), (2, .int x2)] [] (S, I, L) (0, 0)
set_option maxRecDepth 100000 in
set_option maxHeartbeats 4000000 in
theorem it_X8_filledSlots_4 {S : List mjD} {RET : Option Value → mjH → Prop} {a0 : Nat} (h0 : is_Desk S a0) {x1 : Int32} {x2 : Int32} {I : Nat → Nat → Int32} {L : Nat → Nat → Int64} (H0 : (((I a0 10) ≤ x2 → RET (some (.int x1)) (S, I, L)) ∧ (¬ (I a0 10) ≤ x2 → ∃ r4 I5 L6, CTq mr_X8_filledSlot [.ref a0, .int x2] S I L r4 I5 L6 ∧ ((r4 = none → ∀ y12 : Int32, y12 = (x1 + (0 : Int32)) → ∀ y15 : Int32, y15 = x2 + 1 → hd_X8_filledSlots_4 S RET a0 y12 y15 I5 L6) ∧ (∀ a9, r4 = some a9 → is_Slot S a9 ∧ ∀ y19 : Int32, y19 = (x1 + (1 : Int32)) → ∀ y22 : Int32, y22 = x2 + 1 → hd_X8_filledSlots_4 S RET a0 y19 y22 I5 L6))))) : hd_X8_filledSlots_4 S RET a0 x1 x2 I L := by
  unfold hd_X8_filledSlots_4
  refine V.iload_n dX8_filledSlots_4 rfl rfl ?_
  refine V.aload_n dX8_filledSlots_5 rfl rfl ?_
  refine V.getf (v := .int (I a0 10)) dX8_filledSlots_6 fl_X8_103 h0.1 (by decide) rfl ?_
  refine V.icmp_ge (tgt := 34) dX8_filledSlots_9 (by decide) (fun c1 => ?_) (fun c1 => ?_)
  · have H2 := H0.1 c1
    refine V.iload_n dX8_filledSlots_34 rfl rfl ?_
    exact V.ret (v := some (.int x1)) rfl (Or.inl ⟨_, rfl, dX8_filledSlots_35, _, rfl, rfl⟩) ⟨Nat.le_refl _, Nat.le_refl _⟩ H2
  · have H3 := H0.2 c1
    refine V.iload_n dX8_filledSlots_12 rfl rfl ?_
    refine V.aload_n dX8_filledSlots_13 rfl rfl ?_
    refine V.iload_n dX8_filledSlots_14 rfl rfl ?_
    obtain ⟨r4, I5, L6, t7, H8⟩ := H3
    refine V.cVq (N := mr_X8_filledSlot) (as := [.int x2]) dX8_filledSlots_15 ml_X8_169 ok_X8_filledSlot okV_X8_filledSlot ⟨Nat.le_of_ble_eq_true rfl, Nat.le_of_ble_eq_true rfl⟩ h0.1 rfl rfl rfl (Nat.le_of_ble_eq_true rfl) t7 ?_
    cases r4 with
    | none =>
      have H10 := H8.1 rfl
      refine V.ifnonnullN dX8_filledSlots_18 ?_
      refine V.iconst (v := (0)) dX8_filledSlots_21 (by decide) ?_
      refine V.goto (tgt := 26) dX8_filledSlots_22 (by decide) ?_
      refine V.iadd dX8_filledSlots_26 ?_
      refine V.topi (fun y12 e13 => ?_)
      have H14 := H10 y12 e13
      refine V.istore_n (lo' := [(1, .int y12), (0, .ref a0), (2, .int x2)]) dX8_filledSlots_27 rfl (by decide) rfl ?_
      obtain ⟨y15, e16⟩ : ∃ y : Int32, y = x2 + 1 := ⟨_, rfl⟩
      have H17 := H14 y15 e16
      refine V.iinc (v := y15) (lo' := [(2, .int y15), (1, .int y12), (0, .ref a0)]) dX8_filledSlots_28 rfl (by rw [e16]; rfl) (by decide) rfl ?_
      refine V.goto (tgt := 4) dX8_filledSlots_31 (by decide) ?_
      exact V.los [2, 1, 0] rfl H17
    | some a9 =>
      obtain ⟨f18, H11⟩ := H8.2 a9 rfl
      refine V.ifnonnull (tgt := 25) dX8_filledSlots_18 (by decide) ?_
      refine V.iconst (v := (1)) dX8_filledSlots_25 (by decide) ?_
      refine V.iadd dX8_filledSlots_26 ?_
      refine V.topi (fun y19 e20 => ?_)
      have H21 := H11 y19 e20
      refine V.istore_n (lo' := [(1, .int y19), (0, .ref a0), (2, .int x2)]) dX8_filledSlots_27 rfl (by decide) rfl ?_
      obtain ⟨y22, e23⟩ : ∃ y : Int32, y = x2 + 1 := ⟨_, rfl⟩
      have H24 := H21 y22 e23
      refine V.iinc (v := y22) (lo' := [(2, .int y22), (1, .int y19), (0, .ref a0)]) dX8_filledSlots_28 rfl (by rw [e23]; rfl) (by decide) rfl ?_
      refine V.goto (tgt := 4) dX8_filledSlots_31 (by decide) ?_
      exact V.los [2, 1, 0] rfl H24
set_option maxRecDepth 100000 in
set_option maxHeartbeats 4000000 in
theorem wp_X8_filledSlots {S : List mjD} {RET : Option Value → mjH → Prop} {d : Nat} (hd : is_Desk S d) {I : Nat → Nat → Int32} {L : Nat → Nat → Int64} (H0 : hd_X8_filledSlots_4 S RET d (0 : Int32) (0 : Int32) I L) : CT mr_X8_filledSlots (0, 0) [.ref d] (S, I, L) RET := by
  refine CT.of (lo := [(0, .ref d)]) (by decide) (fun _ _ => Nat.le_of_ble_eq_true rfl) (fun _ _ => rfl) rfl ?_
  refine V.iconst (v := (0)) dX8_filledSlots_0 (by decide) ?_
  refine V.istore_n (lo' := [(1, .int (0 : Int32)), (0, .ref d)]) dX8_filledSlots_1 rfl (by decide) rfl ?_
  refine V.iconst (v := (0)) dX8_filledSlots_2 (by decide) ?_
  refine V.istore_n (lo' := [(2, .int (0 : Int32)), (1, .int (0 : Int32)), (0, .ref d)]) dX8_filledSlots_3 rfl (by decide) rfl ?_
  exact V.los [2, 1, 0] rfl H0
def hd_X8_degreeSum_4 (S : List mjD) (RET : Option Value → mjH → Prop) (a0 : Nat) (x1 : Int32) (x2 : Int32) (I : Nat → Nat → Int32) (L : Nat → Nat → Int64) : Prop := V mr_X8_degreeSum (0, 0) RET 4 [(0, .ref a0), (1, .int x1), (2, .int x2)] [] (S, I, L) (0, 0)
set_option maxRecDepth 100000 in
set_option maxHeartbeats 4000000 in
theorem it_X8_degreeSum_4 {S : List mjD} {RET : Option Value → mjH → Prop} {a0 : Nat} (h0 : is_Desk S a0) {x1 : Int32} {x2 : Int32} {I : Nat → Nat → Int32} {L : Nat → Nat → Int64} (H0 : (((I a0 10) ≤ x2 → RET (some (.int x1)) (S, I, L)) ∧ (¬ (I a0 10) ≤ x2 → ∃ r4 I5 L6, CTq mr_X8_filledSlot [.ref a0, .int x2] S I L r4 I5 L6 ∧ ((r4 = none → ∀ y12 : Int32, y12 = (x1 + (0 : Int32)) → ∀ y15 : Int32, y15 = x2 + 1 → hd_X8_degreeSum_4 S RET a0 y12 y15 I5 L6) ∧ (∀ a9, r4 = some a9 → is_Slot S a9 ∧ ∃ r19 I20 L21, CTi mr_X5_degree [.ref (a9 + 1)] S I5 L6 r19 I20 L21 ∧ ∀ y24 : Int32, y24 = (x1 + r19) → ∀ y27 : Int32, y27 = x2 + 1 → hd_X8_degreeSum_4 S RET a0 y24 y27 I20 L21))))) : hd_X8_degreeSum_4 S RET a0 x1 x2 I L := by
  unfold hd_X8_degreeSum_4
  refine V.iload_n dX8_degreeSum_4 rfl rfl ?_
  refine V.aload_n dX8_degreeSum_5 rfl rfl ?_
  refine V.getf (v := .int (I a0 10)) dX8_degreeSum_6 fl_X8_103 h0.1 (by decide) rfl ?_
  refine V.icmp_ge (tgt := 42) dX8_degreeSum_9 (by decide) (fun c1 => ?_) (fun c1 => ?_)
  · have H2 := H0.1 c1
    refine V.iload_n dX8_degreeSum_42 rfl rfl ?_
    exact V.ret (v := some (.int x1)) rfl (Or.inl ⟨_, rfl, dX8_degreeSum_43, _, rfl, rfl⟩) ⟨Nat.le_refl _, Nat.le_refl _⟩ H2
  · have H3 := H0.2 c1
    refine V.aload_n dX8_degreeSum_12 rfl rfl ?_
    refine V.iload_n dX8_degreeSum_13 rfl rfl ?_
    obtain ⟨r4, I5, L6, t7, H8⟩ := H3
    refine V.cVq (N := mr_X8_filledSlot) (as := [.int x2]) dX8_degreeSum_14 ml_X8_169 ok_X8_filledSlot okV_X8_filledSlot ⟨Nat.le_of_ble_eq_true rfl, Nat.le_of_ble_eq_true rfl⟩ h0.1 rfl rfl rfl (Nat.le_of_ble_eq_true rfl) t7 ?_
    cases r4 with
    | none =>
      have H10 := H8.1 rfl
      refine V.astore_nN (lo' := [(3, .null), (0, .ref a0), (1, .int x1), (2, .int x2)]) dX8_degreeSum_17 rfl (by decide) rfl ?_
      refine V.iload_n dX8_degreeSum_18 rfl rfl ?_
      refine V.aload_nN dX8_degreeSum_19 rfl rfl ?_
      refine V.ifnonnullN dX8_degreeSum_20 ?_
      refine V.iconst (v := (0)) dX8_degreeSum_23 (by decide) ?_
      refine V.goto (tgt := 34) dX8_degreeSum_24 (by decide) ?_
      refine V.iadd dX8_degreeSum_34 ?_
      refine V.topi (fun y12 e13 => ?_)
      have H14 := H10 y12 e13
      refine V.istore_n (lo' := [(1, .int y12), (3, .null), (0, .ref a0), (2, .int x2)]) dX8_degreeSum_35 rfl (by decide) rfl ?_
      obtain ⟨y15, e16⟩ : ∃ y : Int32, y = x2 + 1 := ⟨_, rfl⟩
      have H17 := H14 y15 e16
      refine V.iinc (v := y15) (lo' := [(2, .int y15), (1, .int y12), (3, .null), (0, .ref a0)]) dX8_degreeSum_36 rfl (by rw [e16]; rfl) (by decide) rfl ?_
      refine V.goto (tgt := 4) dX8_degreeSum_39 (by decide) ?_
      exact V.los [3, 1, 0] rfl H17
    | some a9 =>
      obtain ⟨f18, H11⟩ := H8.2 a9 rfl
      refine V.astore_n (lo' := [(3, .ref a9), (0, .ref a0), (1, .int x1), (2, .int x2)]) dX8_degreeSum_17 rfl (by decide) rfl ?_
      refine V.iload_n dX8_degreeSum_18 rfl rfl ?_
      refine V.aload_n dX8_degreeSum_19 rfl rfl ?_
      refine V.ifnonnull (tgt := 27) dX8_degreeSum_20 (by decide) ?_
      refine V.aload_n dX8_degreeSum_27 rfl rfl ?_
      refine V.getf (v := .ref (a9 + 1)) dX8_degreeSum_28 fl_X8_135 f18.1 (by decide) rfl ?_
      obtain ⟨r19, I20, L21, t22, H23⟩ := H11
      refine V.cVi (N := mr_X5_degree) (as := []) dX8_degreeSum_31 ml_X8_138 ok_X5_degree okV_X5_degree ⟨Nat.le_of_ble_eq_true rfl, Nat.le_of_ble_eq_true rfl⟩ f18.2.1.1 rfl rfl rfl (Nat.le_of_ble_eq_true rfl) t22 ?_
      refine V.iadd dX8_degreeSum_34 ?_
      refine V.topi (fun y24 e25 => ?_)
      have H26 := H23 y24 e25
      refine V.istore_n (lo' := [(1, .int y24), (3, .ref a9), (0, .ref a0), (2, .int x2)]) dX8_degreeSum_35 rfl (by decide) rfl ?_
      obtain ⟨y27, e28⟩ : ∃ y : Int32, y = x2 + 1 := ⟨_, rfl⟩
      have H29 := H26 y27 e28
      refine V.iinc (v := y27) (lo' := [(2, .int y27), (1, .int y24), (3, .ref a9), (0, .ref a0)]) dX8_degreeSum_36 rfl (by rw [e28]; rfl) (by decide) rfl ?_
      refine V.goto (tgt := 4) dX8_degreeSum_39 (by decide) ?_
      exact V.los [3, 1, 0] rfl H29
set_option maxRecDepth 100000 in
set_option maxHeartbeats 4000000 in
theorem wp_X8_degreeSum {S : List mjD} {RET : Option Value → mjH → Prop} {d : Nat} (hd : is_Desk S d) {I : Nat → Nat → Int32} {L : Nat → Nat → Int64} (H0 : hd_X8_degreeSum_4 S RET d (0 : Int32) (0 : Int32) I L) : CT mr_X8_degreeSum (0, 0) [.ref d] (S, I, L) RET := by
  refine CT.of (lo := [(0, .ref d)]) (by decide) (fun _ _ => Nat.le_of_ble_eq_true rfl) (fun _ _ => rfl) rfl ?_
  refine V.iconst (v := (0)) dX8_degreeSum_0 (by decide) ?_
  refine V.istore_n (lo' := [(1, .int (0 : Int32)), (0, .ref d)]) dX8_degreeSum_1 rfl (by decide) rfl ?_
  refine V.iconst (v := (0)) dX8_degreeSum_2 (by decide) ?_
  refine V.istore_n (lo' := [(2, .int (0 : Int32)), (1, .int (0 : Int32)), (0, .ref d)]) dX8_degreeSum_3 rfl (by decide) rfl ?_
  exact V.los [2, 1, 0] rfl H0
def hd_X8_image_12 (S : List mjD) (RET : Option Value → mjH → Prop) (a0 : Nat) (x1 : Int32) (I : Nat → Nat → Int32) (L : Nat → Nat → Int64) : Prop := V mr_X8_image (0, 0) RET 12 [(0, .ref a0), (1, .int x1)] [] (S, I, L) (0, 0)
set_option maxRecDepth 100000 in
set_option maxHeartbeats 4000000 in
theorem it_X8_image_12 {S : List mjD} {RET : Option Value → mjH → Prop} {a0 : Nat} (h0 : is_Desk S a0) {x1 : Int32} {I : Nat → Nat → Int32} {L : Nat → Nat → Int64} (H0 : (((4 : Int32) ≤ x1 → ∃ I7 L8, CTv mr_X3_copyFrom [.ref (a0 + 43), .ref (a0 + 39)] S I L I7 L8 ∧ ∃ r11 I12 L13, CTi mr_X8_filledSlots [.ref a0] S (mj_up I7 a0 14 (I7 a0 11)) L8 r11 I12 L13 ∧ RET (some (.int r11)) (S, I12, L13)) ∧ (¬ (4 : Int32) ≤ x1 → (vp_in x1 4) ∧ (vp_in x1 4) ∧ ∃ I24 L25, CTv mr_X7_copyFrom [.ref (a0 + 62 + 32 * x1.toNatClampNeg), .ref (a0 + 46 + 32 * x1.toNatClampNeg)] S I L I24 L25 ∧ ∀ y28 : Int32, y28 = x1 + 1 → hd_X8_image_12 S RET a0 y28 I24 L25))) : hd_X8_image_12 S RET a0 x1 I L := by
  unfold hd_X8_image_12
  refine V.iload_n dX8_image_12 rfl rfl ?_
  refine V.iconst (v := (4)) dX8_image_13 (by decide) ?_
  refine V.icmp_ge (tgt := 38) dX8_image_14 (by decide) (fun c4 => ?_) (fun c4 => ?_)
  · have H5 := H0.1 c4
    refine V.aload_n dX8_image_38 rfl rfl ?_
    refine V.getf (v := .ref (a0 + 43)) dX8_image_39 fl_X8_73 h0.1 (by decide) rfl ?_
    refine V.aload_n dX8_image_42 rfl rfl ?_
    refine V.getf (v := .ref (a0 + 39)) dX8_image_43 fl_X8_66 h0.1 (by decide) rfl ?_
    obtain ⟨I7, L8, t9, H10⟩ := H5
    refine V.cVv (N := mr_X3_copyFrom) (as := [.ref (a0 + 39)]) dX8_image_46 ml_X8_281 ok_X3_copyFrom okV_X3_copyFrom ⟨Nat.le_of_ble_eq_true rfl, Nat.le_of_ble_eq_true rfl⟩ h0.2.2.2.2.2.2.2.2.2.2.2.2.1.1 rfl rfl rfl (Nat.le_of_ble_eq_true rfl) t9 ?_
    refine V.aload_n dX8_image_49 rfl rfl ?_
    refine V.aload_n dX8_image_50 rfl rfl ?_
    refine V.getf (v := .int (I7 a0 11)) dX8_image_51 fl_X8_106 h0.1 (by decide) rfl ?_
    refine V.puti dX8_image_54 fl_X8_284 fp_X8_284 (Or.inl rfl) h0.1 (by decide) rfl rfl ?_
    refine V.aload_n dX8_image_57 rfl rfl ?_
    obtain ⟨r11, I12, L13, t14, H15⟩ := H10
    refine V.cVi (N := mr_X8_filledSlots) (as := []) dX8_image_58 ml_X8_287 ok_X8_filledSlots okV_X8_filledSlots ⟨Nat.le_of_ble_eq_true rfl, Nat.le_of_ble_eq_true rfl⟩ h0.1 rfl rfl rfl (Nat.le_of_ble_eq_true rfl) t14 ?_
    exact V.ret (v := some (.int r11)) rfl (Or.inl ⟨_, rfl, dX8_image_61, _, rfl, rfl⟩) ⟨Nat.le_refl _, Nat.le_refl _⟩ H15
  · have H16 := H0.2 c4
    refine V.aload_n dX8_image_17 rfl rfl ?_
    refine V.getf (v := .ref (a0 + 42)) dX8_image_18 fl_X8_70 h0.1 (by decide) rfl ?_
    refine V.iload_n dX8_image_21 rfl rfl ?_
    obtain ⟨o17, H18⟩ := H16
    refine V.aald (v := .ref (a0 + 62 + 32 * x1.toNatClampNeg)) dX8_image_22 h0.2.2.2.2.2.2.2.2.2.2.2.1 (Or.inr rfl) o17 (mj_gp o17) ?_
    have f19 : is_Slot S (a0 + 62 + 32 * x1.toNatClampNeg) := h0.2.2.2.2.2.2.2.2.2.2.2.2.2.2 _ (mj_lt o17)
    refine V.aload_n dX8_image_23 rfl rfl ?_
    refine V.getf (v := .ref (a0 + 38)) dX8_image_24 fl_X8_59 h0.1 (by decide) rfl ?_
    refine V.iload_n dX8_image_27 rfl rfl ?_
    obtain ⟨o20, H21⟩ := H18
    refine V.aald (v := .ref (a0 + 46 + 32 * x1.toNatClampNeg)) dX8_image_28 h0.2.2.2.2.2.2.2.2.2.1 (Or.inr rfl) o20 (mj_gp o20) ?_
    have f22 : is_Slot S (a0 + 46 + 32 * x1.toNatClampNeg) := h0.2.2.2.2.2.2.2.2.2.2.2.2.2.1 _ (mj_lt o20)
    obtain ⟨I24, L25, t26, H27⟩ := H21
    refine V.cVv (N := mr_X7_copyFrom) (as := [.ref (a0 + 46 + 32 * x1.toNatClampNeg)]) dX8_image_29 ml_X8_278 ok_X7_copyFrom okV_X7_copyFrom ⟨Nat.le_of_ble_eq_true rfl, Nat.le_of_ble_eq_true rfl⟩ f19.1 rfl rfl rfl (Nat.le_of_ble_eq_true rfl) t26 ?_
    obtain ⟨y28, e29⟩ : ∃ y : Int32, y = x1 + 1 := ⟨_, rfl⟩
    have H30 := H27 y28 e29
    refine V.iinc (v := y28) (lo' := [(1, .int y28), (0, .ref a0)]) dX8_image_32 rfl (by rw [e29]; rfl) (by decide) rfl ?_
    refine V.goto (tgt := 12) dX8_image_35 (by decide) ?_
    exact V.los [1, 0] rfl H30
set_option maxRecDepth 100000 in
set_option maxHeartbeats 4000000 in
theorem wp_X8_image {S : List mjD} {RET : Option Value → mjH → Prop} {d : Nat} (hd : is_Desk S d) {I : Nat → Nat → Int32} {L : Nat → Nat → Int64} (H0 : ((¬ (I d 10) = 0 → hd_X8_image_12 S RET d (0 : Int32) I L) ∧ ((I d 10) = 0 → RET (some (.int (-103 : Int32))) (S, I, L)))) : CT mr_X8_image (0, 0) [.ref d] (S, I, L) RET := by
  refine CT.of (lo := [(0, .ref d)]) (by decide) (fun _ _ => Nat.le_of_ble_eq_true rfl) (fun _ _ => rfl) rfl ?_
  refine V.aload_n dX8_image_0 rfl rfl ?_
  refine V.getf (v := .int (I d 10)) dX8_image_1 fl_X8_103 hd.1 (by decide) rfl ?_
  refine V.if_ne (tgt := 10) dX8_image_4 (by decide) (fun c1 => ?_) (fun c1 => ?_)
  · have H2 := H0.1 c1
    refine V.iconst (v := (0)) dX8_image_10 (by decide) ?_
    refine V.istore_n (lo' := [(1, .int (0 : Int32)), (0, .ref d)]) dX8_image_11 rfl (by decide) rfl ?_
    exact V.los [1, 0] rfl H2
  · have H3 := H0.2 c1
    refine V.bipush (v := (-103)) dX8_image_7 (by decide) ?_
    exact V.ret (v := some (.int (-103 : Int32))) rfl (Or.inl ⟨_, rfl, dX8_image_9, _, rfl, rfl⟩) ⟨Nat.le_refl _, Nat.le_refl _⟩ H3
def hd_X8_restore_23 (S : List mjD) (RET : Option Value → mjH → Prop) (a0 : Nat) (x1 : Int32) (I : Nat → Nat → Int32) (L : Nat → Nat → Int64) : Prop := V mr_X8_restore (0, 0) RET 23 [(0, .ref a0), (1, .int x1)] [] (S, I, L) (0, 0)
set_option maxRecDepth 100000 in
set_option maxHeartbeats 4000000 in
theorem it_X8_restore_23 {S : List mjD} {RET : Option Value → mjH → Prop} {a0 : Nat} (h0 : is_Desk S a0) {x1 : Int32} {I : Nat → Nat → Int32} {L : Nat → Nat → Int64} (H0 : (((4 : Int32) ≤ x1 → ∃ I10 L11, CTv mr_X3_copyFrom [.ref (a0 + 39), .ref (a0 + 43)] S I L I10 L11 ∧ ∃ r14 I15 L16, CTi mr_X8_filledSlots [.ref a0] S I10 L11 r14 I15 L16 ∧ RET (some (.int r14)) (S, I15, L16)) ∧ (¬ (4 : Int32) ≤ x1 → (vp_in x1 4) ∧ (vp_in x1 4) ∧ ∃ I27 L28, CTv mr_X7_copyFrom [.ref (a0 + 46 + 32 * x1.toNatClampNeg), .ref (a0 + 62 + 32 * x1.toNatClampNeg)] S I L I27 L28 ∧ ∀ y31 : Int32, y31 = x1 + 1 → hd_X8_restore_23 S RET a0 y31 I27 L28))) : hd_X8_restore_23 S RET a0 x1 I L := by
  unfold hd_X8_restore_23
  refine V.iload_n dX8_restore_23 rfl rfl ?_
  refine V.iconst (v := (4)) dX8_restore_24 (by decide) ?_
  refine V.icmp_ge (tgt := 49) dX8_restore_25 (by decide) (fun c7 => ?_) (fun c7 => ?_)
  · have H8 := H0.1 c7
    refine V.aload_n dX8_restore_49 rfl rfl ?_
    refine V.getf (v := .ref (a0 + 39)) dX8_restore_50 fl_X8_66 h0.1 (by decide) rfl ?_
    refine V.aload_n dX8_restore_53 rfl rfl ?_
    refine V.getf (v := .ref (a0 + 43)) dX8_restore_54 fl_X8_73 h0.1 (by decide) rfl ?_
    obtain ⟨I10, L11, t12, H13⟩ := H8
    refine V.cVv (N := mr_X3_copyFrom) (as := [.ref (a0 + 43)]) dX8_restore_57 ml_X8_281 ok_X3_copyFrom okV_X3_copyFrom ⟨Nat.le_of_ble_eq_true rfl, Nat.le_of_ble_eq_true rfl⟩ h0.2.2.2.2.2.2.2.2.2.2.1.1 rfl rfl rfl (Nat.le_of_ble_eq_true rfl) t12 ?_
    refine V.aload_n dX8_restore_60 rfl rfl ?_
    obtain ⟨r14, I15, L16, t17, H18⟩ := H13
    refine V.cVi (N := mr_X8_filledSlots) (as := []) dX8_restore_61 ml_X8_287 ok_X8_filledSlots okV_X8_filledSlots ⟨Nat.le_of_ble_eq_true rfl, Nat.le_of_ble_eq_true rfl⟩ h0.1 rfl rfl rfl (Nat.le_of_ble_eq_true rfl) t17 ?_
    exact V.ret (v := some (.int r14)) rfl (Or.inl ⟨_, rfl, dX8_restore_64, _, rfl, rfl⟩) ⟨Nat.le_refl _, Nat.le_refl _⟩ H18
  · have H19 := H0.2 c7
    refine V.aload_n dX8_restore_28 rfl rfl ?_
    refine V.getf (v := .ref (a0 + 38)) dX8_restore_29 fl_X8_59 h0.1 (by decide) rfl ?_
    refine V.iload_n dX8_restore_32 rfl rfl ?_
    obtain ⟨o20, H21⟩ := H19
    refine V.aald (v := .ref (a0 + 46 + 32 * x1.toNatClampNeg)) dX8_restore_33 h0.2.2.2.2.2.2.2.2.2.1 (Or.inr rfl) o20 (mj_gp o20) ?_
    have f22 : is_Slot S (a0 + 46 + 32 * x1.toNatClampNeg) := h0.2.2.2.2.2.2.2.2.2.2.2.2.2.1 _ (mj_lt o20)
    refine V.aload_n dX8_restore_34 rfl rfl ?_
    refine V.getf (v := .ref (a0 + 42)) dX8_restore_35 fl_X8_70 h0.1 (by decide) rfl ?_
    refine V.iload_n dX8_restore_38 rfl rfl ?_
    obtain ⟨o23, H24⟩ := H21
    refine V.aald (v := .ref (a0 + 62 + 32 * x1.toNatClampNeg)) dX8_restore_39 h0.2.2.2.2.2.2.2.2.2.2.2.1 (Or.inr rfl) o23 (mj_gp o23) ?_
    have f25 : is_Slot S (a0 + 62 + 32 * x1.toNatClampNeg) := h0.2.2.2.2.2.2.2.2.2.2.2.2.2.2 _ (mj_lt o23)
    obtain ⟨I27, L28, t29, H30⟩ := H24
    refine V.cVv (N := mr_X7_copyFrom) (as := [.ref (a0 + 62 + 32 * x1.toNatClampNeg)]) dX8_restore_40 ml_X8_278 ok_X7_copyFrom okV_X7_copyFrom ⟨Nat.le_of_ble_eq_true rfl, Nat.le_of_ble_eq_true rfl⟩ f22.1 rfl rfl rfl (Nat.le_of_ble_eq_true rfl) t29 ?_
    obtain ⟨y31, e32⟩ : ∃ y : Int32, y = x1 + 1 := ⟨_, rfl⟩
    have H33 := H30 y31 e32
    refine V.iinc (v := y31) (lo' := [(1, .int y31), (0, .ref a0)]) dX8_restore_43 rfl (by rw [e32]; rfl) (by decide) rfl ?_
    refine V.goto (tgt := 23) dX8_restore_46 (by decide) ?_
    exact V.los [1, 0] rfl H33
set_option maxRecDepth 100000 in
set_option maxHeartbeats 4000000 in
theorem wp_X8_restore {S : List mjD} {RET : Option Value → mjH → Prop} {d : Nat} (hd : is_Desk S d) {I : Nat → Nat → Int32} {L : Nat → Nat → Int64} (H0 : (((I d 14) = 0 → RET (some (.int (-103 : Int32))) (S, I, L)) ∧ (¬ (I d 14) = 0 → (((I d 14) = (I d 11) → hd_X8_restore_23 S RET d (0 : Int32) I L) ∧ (¬ (I d 14) = (I d 11) → RET (some (.int (-103 : Int32))) (S, I, L)))))) : CT mr_X8_restore (0, 0) [.ref d] (S, I, L) RET := by
  refine CT.of (lo := [(0, .ref d)]) (by decide) (fun _ _ => Nat.le_of_ble_eq_true rfl) (fun _ _ => rfl) rfl ?_
  refine V.aload_n dX8_restore_0 rfl rfl ?_
  refine V.getf (v := .int (I d 14)) dX8_restore_1 fl_X8_284 hd.1 (by decide) rfl ?_
  refine V.if_eq (tgt := 18) dX8_restore_4 (by decide) (fun c1 => ?_) (fun c1 => ?_)
  · have H2 := H0.1 c1
    refine V.bipush (v := (-103)) dX8_restore_18 (by decide) ?_
    exact V.ret (v := some (.int (-103 : Int32))) rfl (Or.inl ⟨_, rfl, dX8_restore_20, _, rfl, rfl⟩) ⟨Nat.le_refl _, Nat.le_refl _⟩ H2
  · have H3 := H0.2 c1
    refine V.aload_n dX8_restore_7 rfl rfl ?_
    refine V.getf (v := .int (I d 14)) dX8_restore_8 fl_X8_284 hd.1 (by decide) rfl ?_
    refine V.aload_n dX8_restore_11 rfl rfl ?_
    refine V.getf (v := .int (I d 11)) dX8_restore_12 fl_X8_106 hd.1 (by decide) rfl ?_
    refine V.icmp_eq (tgt := 21) dX8_restore_15 (by decide) (fun c4 => ?_) (fun c4 => ?_)
    · have H5 := H3.1 c4
      refine V.iconst (v := (0)) dX8_restore_21 (by decide) ?_
      refine V.istore_n (lo' := [(1, .int (0 : Int32)), (0, .ref d)]) dX8_restore_22 rfl (by decide) rfl ?_
      exact V.los [1, 0] rfl H5
    · have H6 := H3.2 c4
      refine V.bipush (v := (-103)) dX8_restore_18 (by decide) ?_
      exact V.ret (v := some (.int (-103 : Int32))) rfl (Or.inl ⟨_, rfl, dX8_restore_20, _, rfl, rfl⟩) ⟨Nat.le_refl _, Nat.le_refl _⟩ H6
set_option maxRecDepth 100000 in
set_option maxHeartbeats 4000000 in
theorem wp_X8_textLength {S : List mjD} {RET : Option Value → mjH → Prop} {d : Nat} (hd : is_Desk S d) {q : Nat} (hq : is_Slot S q) {I : Nat → Nat → Int32} {L : Nat → Nat → Int64} (H0 : ((¬ (I q 3) = 0 → ∃ I4 L5, CTv mr_X5_spell [.ref (q + 1), .ref (d + 3)] S I L I4 L5 ∧ RET (some (.int (I4 (d + 3) 1))) (S, I4, L5)) ∧ ((I q 3) = 0 → RET (some (.int (0 : Int32))) (S, I, L)))) : CT mr_X8_textLength (0, 0) [.ref d, .ref q] (S, I, L) RET := by
  refine CT.of (lo := [(0, .ref d), (1, .ref q)]) (by decide) (fun _ _ => Nat.le_of_ble_eq_true rfl) (fun _ _ => rfl) rfl ?_
  refine V.aload_n dX8_textLength_0 rfl rfl ?_
  refine V.getf (v := .int (I q 3)) dX8_textLength_1 fl_X8_99 hq.1 (by decide) rfl ?_
  refine V.if_ne (tgt := 9) dX8_textLength_4 (by decide) (fun c1 => ?_) (fun c1 => ?_)
  · have H2 := H0.1 c1
    refine V.aload_n dX8_textLength_9 rfl rfl ?_
    refine V.getf (v := .ref (q + 1)) dX8_textLength_10 fl_X8_135 hq.1 (by decide) rfl ?_
    refine V.aload_n dX8_textLength_13 rfl rfl ?_
    refine V.getf (v := .ref (d + 3)) dX8_textLength_14 fl_X8_16 hd.1 (by decide) rfl ?_
    obtain ⟨I4, L5, t6, H7⟩ := H2
    refine V.cVv (N := mr_X5_spell) (as := [.ref (d + 3)]) dX8_textLength_17 ml_X8_162 ok_X5_spell okV_X5_spell ⟨Nat.le_of_ble_eq_true rfl, Nat.le_of_ble_eq_true rfl⟩ hq.2.1.1 rfl rfl rfl (Nat.le_of_ble_eq_true rfl) t6 ?_
    refine V.aload_n dX8_textLength_20 rfl rfl ?_
    refine V.getf (v := .ref (d + 3)) dX8_textLength_21 fl_X8_16 hd.1 (by decide) rfl ?_
    refine V.getf (v := .int (I4 (d + 3) 1)) dX8_textLength_24 fl_X8_81 hd.2.2.1.1 (by decide) rfl ?_
    exact V.ret (v := some (.int (I4 (d + 3) 1))) rfl (Or.inl ⟨_, rfl, dX8_textLength_27, _, rfl, rfl⟩) ⟨Nat.le_refl _, Nat.le_refl _⟩ H7
  · have H8 := H0.2 c1
    refine V.iconst (v := (0)) dX8_textLength_7 (by decide) ?_
    exact V.ret (v := some (.int (0 : Int32))) rfl (Or.inl ⟨_, rfl, dX8_textLength_8, _, rfl, rfl⟩) ⟨Nat.le_refl _, Nat.le_refl _⟩ H8
set_option maxRecDepth 100000 in
set_option maxHeartbeats 4000000 in
theorem wp_X8_text {S : List mjD} {RET : Option Value → mjH → Prop} {d : Nat} (hd : is_Desk S d) {a : Int32} {b : Int32} {I : Nat → Nat → Int32} {L : Nat → Nat → Int64} (H0 : ∃ r1 I2 L3, CTq mr_X8_filledSlot [.ref d, .int a] S I L r1 I2 L3 ∧ ((r1 = none → RET (some (.int (-101 : Int32))) (S, I2, L3)) ∧ (∀ a6, r1 = some a6 → is_Slot S a6 ∧ ∃ I11 L12, CTv mr_X5_spell [.ref (a6 + 1), .ref (d + 3)] S I2 L3 I11 L12 ∧ ∃ r15 I16 L17, CTi mr_X2_codeAt [.ref (d + 3), .int b] S I11 L12 r15 I16 L17 ∧ ((¬ r15 = (-1 : Int32) → RET (some (.int r15)) (S, I16, L17)) ∧ (r15 = (-1 : Int32) → RET (some (.int (-101 : Int32))) (S, I16, L17)))))) : CT mr_X8_text (0, 0) [.ref d, .int a, .int b] (S, I, L) RET := by
  refine CT.of (lo := [(0, .ref d), (1, .int a), (2, .int b)]) (by decide) (fun _ _ => Nat.le_of_ble_eq_true rfl) (fun _ _ => rfl) rfl ?_
  refine V.aload_n dX8_text_0 rfl rfl ?_
  refine V.iload_n dX8_text_1 rfl rfl ?_
  obtain ⟨r1, I2, L3, t4, H5⟩ := H0
  refine V.cVq (N := mr_X8_filledSlot) (as := [.int a]) dX8_text_2 ml_X8_169 ok_X8_filledSlot okV_X8_filledSlot ⟨Nat.le_of_ble_eq_true rfl, Nat.le_of_ble_eq_true rfl⟩ hd.1 rfl rfl rfl (Nat.le_of_ble_eq_true rfl) t4 ?_
  cases r1 with
  | none =>
    have H7 := H5.1 rfl
    refine V.astore_nN (lo' := [(3, .null), (0, .ref d), (1, .int a), (2, .int b)]) dX8_text_5 rfl (by decide) rfl ?_
    refine V.aload_nN dX8_text_6 rfl rfl ?_
    refine V.ifnonnullN dX8_text_7 ?_
    refine V.bipush (v := (-101)) dX8_text_10 (by decide) ?_
    exact V.ret (v := some (.int (-101 : Int32))) rfl (Or.inl ⟨_, rfl, dX8_text_12, _, rfl, rfl⟩) ⟨Nat.le_refl _, Nat.le_refl _⟩ H7
  | some a6 =>
    obtain ⟨f9, H8⟩ := H5.2 a6 rfl
    refine V.astore_n (lo' := [(3, .ref a6), (0, .ref d), (1, .int a), (2, .int b)]) dX8_text_5 rfl (by decide) rfl ?_
    refine V.aload_n dX8_text_6 rfl rfl ?_
    refine V.ifnonnull (tgt := 13) dX8_text_7 (by decide) ?_
    refine V.aload_n dX8_text_13 rfl rfl ?_
    refine V.getf (v := .ref (a6 + 1)) dX8_text_14 fl_X8_135 f9.1 (by decide) rfl ?_
    refine V.aload_n dX8_text_17 rfl rfl ?_
    refine V.getf (v := .ref (d + 3)) dX8_text_18 fl_X8_16 hd.1 (by decide) rfl ?_
    obtain ⟨I11, L12, t13, H14⟩ := H8
    refine V.cVv (N := mr_X5_spell) (as := [.ref (d + 3)]) dX8_text_21 ml_X8_162 ok_X5_spell okV_X5_spell ⟨Nat.le_of_ble_eq_true rfl, Nat.le_of_ble_eq_true rfl⟩ f9.2.1.1 rfl rfl rfl (Nat.le_of_ble_eq_true rfl) t13 ?_
    refine V.aload_n dX8_text_24 rfl rfl ?_
    refine V.getf (v := .ref (d + 3)) dX8_text_25 fl_X8_16 hd.1 (by decide) rfl ?_
    refine V.iload_n dX8_text_28 rfl rfl ?_
    obtain ⟨r15, I16, L17, t18, H19⟩ := H14
    refine V.cVi (N := mr_X2_codeAt) (as := [.int b]) dX8_text_29 ml_X8_89 ok_X2_codeAt okV_X2_codeAt ⟨Nat.le_of_ble_eq_true rfl, Nat.le_of_ble_eq_true rfl⟩ hd.2.2.1.1 rfl rfl rfl (Nat.le_of_ble_eq_true rfl) t18 ?_
    refine V.istore (lo' := [(4, .int r15), (3, .ref a6), (0, .ref d), (1, .int a), (2, .int b)]) dX8_text_32 (by decide) rfl ?_
    refine V.iload dX8_text_34 rfl ?_
    refine V.iconst (v := (-1)) dX8_text_36 (by decide) ?_
    refine V.icmp_ne (tgt := 45) dX8_text_37 (by decide) (fun c20 => ?_) (fun c20 => ?_)
    · have H21 := H19.1 c20
      refine V.iload dX8_text_45 rfl ?_
      exact V.ret (v := some (.int r15)) rfl (Or.inl ⟨_, rfl, dX8_text_47, _, rfl, rfl⟩) ⟨Nat.le_refl _, Nat.le_refl _⟩ H21
    · have H22 := H19.2 c20
      refine V.bipush (v := (-101)) dX8_text_40 (by decide) ?_
      refine V.goto (tgt := 47) dX8_text_42 (by decide) ?_
      exact V.ret (v := some (.int (-101 : Int32))) rfl (Or.inl ⟨_, rfl, dX8_text_47, _, rfl, rfl⟩) ⟨Nat.le_refl _, Nat.le_refl _⟩ H22
def hd_X8_irreducibleSlots_4 (S : List mjD) (RET : Option Value → mjH → Prop) (a0 : Nat) (x1 : Int32) (x2 : Int32) (I : Nat → Nat → Int32) (L : Nat → Nat → Int64) : Prop := V mr_X8_irreducibleSlots (0, 0) RET 4 [(0, .ref a0), (1, .int x1), (2, .int x2)] [] (S, I, L) (0, 0)
set_option maxRecDepth 100000 in
set_option maxHeartbeats 4000000 in
theorem it_X8_irreducibleSlots_4 {S : List mjD} {RET : Option Value → mjH → Prop} {a0 : Nat} (h0 : is_Desk S a0) {x1 : Int32} {x2 : Int32} {I : Nat → Nat → Int32} {L : Nat → Nat → Int64} (H0 : (((I a0 10) ≤ x2 → RET (some (.int x1)) (S, I, L)) ∧ (¬ (I a0 10) ≤ x2 → ∃ r4 I5 L6, CTq mr_X8_filledSlot [.ref a0, .int x2] S I L r4 I5 L6 ∧ ((r4 = none → ∀ y12 : Int32, y12 = x2 + 1 → hd_X8_irreducibleSlots_4 S RET a0 x1 y12 I5 L6) ∧ (∀ a9, r4 = some a9 → is_Slot S a9 ∧ ∃ r16 I17 L18, CTl mr_X5_content [.ref (a9 + 1)] S I5 L6 r16 I17 L18 ∧ ((¬ r16 = (1 : Int64) → ∀ y23 : Int32, y23 = x2 + 1 → hd_X8_irreducibleSlots_4 S RET a0 x1 y23 I17 L18) ∧ (r16 = (1 : Int64) → ∃ r27 I28 L29, CTi mr_X1_multiplicitySum [.ref (a9 + 3)] S I17 L18 r27 I28 L29 ∧ ((¬ r27 = (1 : Int32) → ∀ y34 : Int32, y34 = x2 + 1 → hd_X8_irreducibleSlots_4 S RET a0 x1 y34 I28 L29) ∧ (r27 = (1 : Int32) → ∀ y38 : Int32, y38 = x1 + 1 → ∀ y41 : Int32, y41 = x2 + 1 → hd_X8_irreducibleSlots_4 S RET a0 y38 y41 I28 L29))))))))) : hd_X8_irreducibleSlots_4 S RET a0 x1 x2 I L := by
  unfold hd_X8_irreducibleSlots_4
  refine V.iload_n dX8_irreducibleSlots_4 rfl rfl ?_
  refine V.aload_n dX8_irreducibleSlots_5 rfl rfl ?_
  refine V.getf (v := .int (I a0 10)) dX8_irreducibleSlots_6 fl_X8_103 h0.1 (by decide) rfl ?_
  refine V.icmp_ge (tgt := 54) dX8_irreducibleSlots_9 (by decide) (fun c1 => ?_) (fun c1 => ?_)
  · have H2 := H0.1 c1
    refine V.iload_n dX8_irreducibleSlots_54 rfl rfl ?_
    exact V.ret (v := some (.int x1)) rfl (Or.inl ⟨_, rfl, dX8_irreducibleSlots_55, _, rfl, rfl⟩) ⟨Nat.le_refl _, Nat.le_refl _⟩ H2
  · have H3 := H0.2 c1
    refine V.aload_n dX8_irreducibleSlots_12 rfl rfl ?_
    refine V.iload_n dX8_irreducibleSlots_13 rfl rfl ?_
    obtain ⟨r4, I5, L6, t7, H8⟩ := H3
    refine V.cVq (N := mr_X8_filledSlot) (as := [.int x2]) dX8_irreducibleSlots_14 ml_X8_169 ok_X8_filledSlot okV_X8_filledSlot ⟨Nat.le_of_ble_eq_true rfl, Nat.le_of_ble_eq_true rfl⟩ h0.1 rfl rfl rfl (Nat.le_of_ble_eq_true rfl) t7 ?_
    cases r4 with
    | none =>
      have H10 := H8.1 rfl
      refine V.astore_nN (lo' := [(3, .null), (0, .ref a0), (1, .int x1), (2, .int x2)]) dX8_irreducibleSlots_17 rfl (by decide) rfl ?_
      refine V.aload_nN dX8_irreducibleSlots_18 rfl rfl ?_
      refine V.ifnullN (tgt := 48) dX8_irreducibleSlots_19 (by decide) ?_
      obtain ⟨y12, e13⟩ : ∃ y : Int32, y = x2 + 1 := ⟨_, rfl⟩
      have H14 := H10 y12 e13
      refine V.iinc (v := y12) (lo' := [(2, .int y12), (3, .null), (0, .ref a0), (1, .int x1)]) dX8_irreducibleSlots_48 rfl (by rw [e13]; rfl) (by decide) rfl ?_
      refine V.goto (tgt := 4) dX8_irreducibleSlots_51 (by decide) ?_
      exact V.los [2, 3, 0] rfl H14
    | some a9 =>
      obtain ⟨f15, H11⟩ := H8.2 a9 rfl
      refine V.astore_n (lo' := [(3, .ref a9), (0, .ref a0), (1, .int x1), (2, .int x2)]) dX8_irreducibleSlots_17 rfl (by decide) rfl ?_
      refine V.aload_n dX8_irreducibleSlots_18 rfl rfl ?_
      refine V.ifnull dX8_irreducibleSlots_19 ?_
      refine V.aload_n dX8_irreducibleSlots_22 rfl rfl ?_
      refine V.getf (v := .ref (a9 + 1)) dX8_irreducibleSlots_23 fl_X8_135 f15.1 (by decide) rfl ?_
      obtain ⟨r16, I17, L18, t19, H20⟩ := H11
      refine V.cVl (N := mr_X5_content) (as := []) dX8_irreducibleSlots_26 ml_X8_142 ok_X5_content okV_X5_content ⟨Nat.le_of_ble_eq_true rfl, Nat.le_of_ble_eq_true rfl⟩ f15.2.1.1 rfl rfl rfl (Nat.le_of_ble_eq_true rfl) t19 ?_
      refine V.lconst (v := 1) dX8_irreducibleSlots_29 (by decide) ?_
      refine V.lc_ne (tgt := 48) dX8_irreducibleSlots_30 dX8_irreducibleSlots_31 (by decide) (fun c21 => ?_) (fun c21 => ?_)
      · have H22 := H20.1 c21
        obtain ⟨y23, e24⟩ : ∃ y : Int32, y = x2 + 1 := ⟨_, rfl⟩
        have H25 := H22 y23 e24
        refine V.iinc (v := y23) (lo' := [(2, .int y23), (3, .ref a9), (0, .ref a0), (1, .int x1)]) dX8_irreducibleSlots_48 rfl (by rw [e24]; rfl) (by decide) rfl ?_
        refine V.goto (tgt := 4) dX8_irreducibleSlots_51 (by decide) ?_
        exact V.los [2, 3, 0] rfl H25
      · have H26 := H20.2 c21
        refine V.aload_n dX8_irreducibleSlots_34 rfl rfl ?_
        refine V.getf (v := .ref (a9 + 3)) dX8_irreducibleSlots_35 fl_X8_149 f15.1 (by decide) rfl ?_
        obtain ⟨r27, I28, L29, t30, H31⟩ := H26
        refine V.cVi (N := mr_X1_multiplicitySum) (as := []) dX8_irreducibleSlots_38 ml_X8_153 ok_X1_multiplicitySum okV_X1_multiplicitySum ⟨Nat.le_of_ble_eq_true rfl, Nat.le_of_ble_eq_true rfl⟩ f15.2.2.1 rfl rfl rfl (Nat.le_of_ble_eq_true rfl) t30 ?_
        refine V.iconst (v := (1)) dX8_irreducibleSlots_41 (by decide) ?_
        refine V.icmp_ne (tgt := 48) dX8_irreducibleSlots_42 (by decide) (fun c32 => ?_) (fun c32 => ?_)
        · have H33 := H31.1 c32
          obtain ⟨y34, e35⟩ : ∃ y : Int32, y = x2 + 1 := ⟨_, rfl⟩
          have H36 := H33 y34 e35
          refine V.iinc (v := y34) (lo' := [(2, .int y34), (3, .ref a9), (0, .ref a0), (1, .int x1)]) dX8_irreducibleSlots_48 rfl (by rw [e35]; rfl) (by decide) rfl ?_
          refine V.goto (tgt := 4) dX8_irreducibleSlots_51 (by decide) ?_
          exact V.los [2, 3, 0] rfl H36
        · have H37 := H31.2 c32
          obtain ⟨y38, e39⟩ : ∃ y : Int32, y = x1 + 1 := ⟨_, rfl⟩
          have H40 := H37 y38 e39
          refine V.iinc (v := y38) (lo' := [(1, .int y38), (3, .ref a9), (0, .ref a0), (2, .int x2)]) dX8_irreducibleSlots_45 rfl (by rw [e39]; rfl) (by decide) rfl ?_
          obtain ⟨y41, e42⟩ : ∃ y : Int32, y = x2 + 1 := ⟨_, rfl⟩
          have H43 := H40 y41 e42
          refine V.iinc (v := y41) (lo' := [(2, .int y41), (1, .int y38), (3, .ref a9), (0, .ref a0)]) dX8_irreducibleSlots_48 rfl (by rw [e42]; rfl) (by decide) rfl ?_
          refine V.goto (tgt := 4) dX8_irreducibleSlots_51 (by decide) ?_
          exact V.los [3, 1, 0] rfl H43
set_option maxRecDepth 100000 in
set_option maxHeartbeats 4000000 in
theorem wp_X8_irreducibleSlots {S : List mjD} {RET : Option Value → mjH → Prop} {d : Nat} (hd : is_Desk S d) {I : Nat → Nat → Int32} {L : Nat → Nat → Int64} (H0 : hd_X8_irreducibleSlots_4 S RET d (0 : Int32) (0 : Int32) I L) : CT mr_X8_irreducibleSlots (0, 0) [.ref d] (S, I, L) RET := by
  refine CT.of (lo := [(0, .ref d)]) (by decide) (fun _ _ => Nat.le_of_ble_eq_true rfl) (fun _ _ => rfl) rfl ?_
  refine V.iconst (v := (0)) dX8_irreducibleSlots_0 (by decide) ?_
  refine V.istore_n (lo' := [(1, .int (0 : Int32)), (0, .ref d)]) dX8_irreducibleSlots_1 rfl (by decide) rfl ?_
  refine V.iconst (v := (0)) dX8_irreducibleSlots_2 (by decide) ?_
  refine V.istore_n (lo' := [(2, .int (0 : Int32)), (1, .int (0 : Int32)), (0, .ref d)]) dX8_irreducibleSlots_3 rfl (by decide) rfl ?_
  exact V.los [2, 1, 0] rfl H0
set_option maxRecDepth 100000 in
set_option maxHeartbeats 4000000 in
theorem wp_X8_slot {S : List mjD} {RET : Option Value → mjH → Prop} {d : Nat} (hd : is_Desk S d) {a : Int32} {b : Int32} {I : Nat → Nat → Int32} {L : Nat → Nat → Int64} (H0 : ∃ r1 I2 L3, CTq mr_X8_anySlot [.ref d, .int a] S I L r1 I2 L3 ∧ ((r1 = none → RET (some (.int (-101 : Int32))) (S, I2, L3)) ∧ (∀ a6, r1 = some a6 → is_Slot S a6 ∧ ((b = 0 → RET (some (.int (I2 a6 2))) (S, I2, L3)) ∧ (b = 1 → (((I2 a6 3) = 0 → RET (some (.int (-1 : Int32))) (S, I2, L3)) ∧ (¬ (I2 a6 3) = 0 → ∃ r17 I18 L19, CTi mr_X5_degree [.ref (a6 + 1)] S I2 L3 r17 I18 L19 ∧ RET (some (.int r17)) (S, I18, L19)))) ∧ (b = 2 → (((I2 a6 3) = 0 → RET (some (.int (0 : Int32))) (S, I2, L3)) ∧ (¬ (I2 a6 3) = 0 → ∃ r26 I27 L28, CTl mr_X5_content [.ref (a6 + 1)] S I2 L3 r26 I27 L28 ∧ RET (some (.int ((1000 : Int32) + r26.toInt32))) (S, I27, L28)))) ∧ (b = 3 → ∃ r32 I33 L34, CTi mr_X8_textLength [.ref d, .ref a6] S I2 L3 r32 I33 L34 ∧ RET (some (.int r32)) (S, I33, L34)) ∧ (b = 4 → (((I2 a6 3) = 0 → RET (some (.int (0 : Int32))) (S, I2, L3)) ∧ (¬ (I2 a6 3) = 0 → RET (some (.int (I2 (a6 + 3) 2))) (S, I2, L3)))) ∧ (b = 5 → (((I2 a6 3) = 0 → RET (some (.int (0 : Int32))) (S, I2, L3)) ∧ (¬ (I2 a6 3) = 0 → ∃ r45 I46 L47, CTi mr_X1_multiplicitySum [.ref (a6 + 3)] S I2 L3 r45 I46 L47 ∧ RET (some (.int r45)) (S, I46, L47)))) ∧ (b = 6 → ∃ r51 I52 L53, CTi mr_X3_candidates [.ref (d + 39), .int a] S I2 L3 r51 I52 L53 ∧ RET (some (.int r51)) (S, I52, L53)) ∧ (b = 7 → ∃ r57 I58 L59, CTi mr_X3_candidates [.ref (d + 39), .int a] S I2 L3 r57 I58 L59 ∧ ∃ r62 I63 L64, CTi mr_X3_nextQuestion [.int r57] S I58 L59 r62 I63 L64 ∧ RET (some (.int r62)) (S, I63, L64)) ∧ (b.toInt < 0 ∨ 7 < b.toInt → RET (some (.int (-102 : Int32))) (S, I2, L3)))))) : CT mr_X8_slot (0, 0) [.ref d, .int a, .int b] (S, I, L) RET := by
  refine CT.of (lo := [(0, .ref d), (1, .int a), (2, .int b)]) (by decide) (fun _ _ => Nat.le_of_ble_eq_true rfl) (fun _ _ => rfl) rfl ?_
  refine V.aload_n dX8_slot_0 rfl rfl ?_
  refine V.iload_n dX8_slot_1 rfl rfl ?_
  obtain ⟨r1, I2, L3, t4, H5⟩ := H0
  refine V.cVq (N := mr_X8_anySlot) (as := [.int a]) dX8_slot_2 ml_X8_116 ok_X8_anySlot okV_X8_anySlot ⟨Nat.le_of_ble_eq_true rfl, Nat.le_of_ble_eq_true rfl⟩ hd.1 rfl rfl rfl (Nat.le_of_ble_eq_true rfl) t4 ?_
  cases r1 with
  | none =>
    have H7 := H5.1 rfl
    refine V.astore_nN (lo' := [(3, .null), (0, .ref d), (1, .int a), (2, .int b)]) dX8_slot_5 rfl (by decide) rfl ?_
    refine V.aload_nN dX8_slot_6 rfl rfl ?_
    refine V.ifnonnullN dX8_slot_7 ?_
    refine V.bipush (v := (-101)) dX8_slot_10 (by decide) ?_
    exact V.ret (v := some (.int (-101 : Int32))) rfl (Or.inl ⟨_, rfl, dX8_slot_12, _, rfl, rfl⟩) ⟨Nat.le_refl _, Nat.le_refl _⟩ H7
  | some a6 =>
    obtain ⟨f9, H8⟩ := H5.2 a6 rfl
    refine V.astore_n (lo' := [(3, .ref a6), (0, .ref d), (1, .int a), (2, .int b)]) dX8_slot_5 rfl (by decide) rfl ?_
    refine V.aload_n dX8_slot_6 rfl rfl ?_
    refine V.ifnonnull (tgt := 13) dX8_slot_7 (by decide) ?_
    refine V.iload_n dX8_slot_13 rfl rfl ?_
    rcases mj_sw_0_7 b with c10 | c10 | c10 | c10 | c10 | c10 | c10 | c10 | c10
    · have H12 := H8.1 c10
      refine V.tableIn (off := 46) (tgt := 60) dX8_slot_14 (by rw [c10]; decide) (by rw [c10]; decide) (by rw [c10]; rfl) (by decide) ?_
      refine V.aload_n dX8_slot_60 rfl rfl ?_
      refine V.getf (v := .int (I2 a6 2)) dX8_slot_61 fl_X8_96 f9.1 (by decide) rfl ?_
      exact V.ret (v := some (.int (I2 a6 2))) rfl (Or.inl ⟨_, rfl, dX8_slot_64, _, rfl, rfl⟩) ⟨Nat.le_refl _, Nat.le_refl _⟩ H12
    · have H13 := H8.2.1 c10
      refine V.tableIn (off := 51) (tgt := 65) dX8_slot_14 (by rw [c10]; decide) (by rw [c10]; decide) (by rw [c10]; rfl) (by decide) ?_
      refine V.aload_n dX8_slot_65 rfl rfl ?_
      refine V.getf (v := .int (I2 a6 3)) dX8_slot_66 fl_X8_99 f9.1 (by decide) rfl ?_
      refine V.if_eq (tgt := 82) dX8_slot_69 (by decide) (fun c14 => ?_) (fun c14 => ?_)
      · have H15 := H13.1 c14
        refine V.iconst (v := (-1)) dX8_slot_82 (by decide) ?_
        exact V.ret (v := some (.int (-1 : Int32))) rfl (Or.inl ⟨_, rfl, dX8_slot_83, _, rfl, rfl⟩) ⟨Nat.le_refl _, Nat.le_refl _⟩ H15
      · have H16 := H13.2 c14
        refine V.aload_n dX8_slot_72 rfl rfl ?_
        refine V.getf (v := .ref (a6 + 1)) dX8_slot_73 fl_X8_135 f9.1 (by decide) rfl ?_
        obtain ⟨r17, I18, L19, t20, H21⟩ := H16
        refine V.cVi (N := mr_X5_degree) (as := []) dX8_slot_76 ml_X8_138 ok_X5_degree okV_X5_degree ⟨Nat.le_of_ble_eq_true rfl, Nat.le_of_ble_eq_true rfl⟩ f9.2.1.1 rfl rfl rfl (Nat.le_of_ble_eq_true rfl) t20 ?_
        refine V.goto (tgt := 83) dX8_slot_79 (by decide) ?_
        exact V.ret (v := some (.int r17)) rfl (Or.inl ⟨_, rfl, dX8_slot_83, _, rfl, rfl⟩) ⟨Nat.le_refl _, Nat.le_refl _⟩ H21
    · have H22 := H8.2.2.1 c10
      refine V.tableIn (off := 70) (tgt := 84) dX8_slot_14 (by rw [c10]; decide) (by rw [c10]; decide) (by rw [c10]; rfl) (by decide) ?_
      refine V.aload_n dX8_slot_84 rfl rfl ?_
      refine V.getf (v := .int (I2 a6 3)) dX8_slot_85 fl_X8_99 f9.1 (by decide) rfl ?_
      refine V.if_eq (tgt := 106) dX8_slot_88 (by decide) (fun c23 => ?_) (fun c23 => ?_)
      · have H24 := H22.1 c23
        refine V.iconst (v := (0)) dX8_slot_106 (by decide) ?_
        exact V.ret (v := some (.int (0 : Int32))) rfl (Or.inl ⟨_, rfl, dX8_slot_107, _, rfl, rfl⟩) ⟨Nat.le_refl _, Nat.le_refl _⟩ H24
      · have H25 := H22.2 c23
        refine V.sipush (v := (1000)) dX8_slot_91 (by decide) ?_
        refine V.aload_n dX8_slot_94 rfl rfl ?_
        refine V.getf (v := .ref (a6 + 1)) dX8_slot_95 fl_X8_135 f9.1 (by decide) rfl ?_
        obtain ⟨r26, I27, L28, t29, H30⟩ := H25
        refine V.cVl (N := mr_X5_content) (as := []) dX8_slot_98 ml_X8_142 ok_X5_content okV_X5_content ⟨Nat.le_of_ble_eq_true rfl, Nat.le_of_ble_eq_true rfl⟩ f9.2.1.1 rfl rfl rfl (Nat.le_of_ble_eq_true rfl) t29 ?_
        refine V.l2i dX8_slot_101 ?_
        refine V.iadd dX8_slot_102 ?_
        refine V.goto (tgt := 107) dX8_slot_103 (by decide) ?_
        exact V.ret (v := some (.int ((1000 : Int32) + r26.toInt32))) rfl (Or.inl ⟨_, rfl, dX8_slot_107, _, rfl, rfl⟩) ⟨Nat.le_refl _, Nat.le_refl _⟩ H30
    · have H31 := H8.2.2.2.1 c10
      refine V.tableIn (off := 94) (tgt := 108) dX8_slot_14 (by rw [c10]; decide) (by rw [c10]; decide) (by rw [c10]; rfl) (by decide) ?_
      refine V.aload_n dX8_slot_108 rfl rfl ?_
      refine V.aload_n dX8_slot_109 rfl rfl ?_
      obtain ⟨r32, I33, L34, t35, H36⟩ := H31
      refine V.cVi (N := mr_X8_textLength) (as := [.ref a6]) dX8_slot_110 ml_X8_146 ok_X8_textLength okV_X8_textLength ⟨Nat.le_of_ble_eq_true rfl, Nat.le_of_ble_eq_true rfl⟩ hd.1 rfl rfl rfl (Nat.le_of_ble_eq_true rfl) t35 ?_
      exact V.ret (v := some (.int r32)) rfl (Or.inl ⟨_, rfl, dX8_slot_113, _, rfl, rfl⟩) ⟨Nat.le_refl _, Nat.le_refl _⟩ H36
    · have H37 := H8.2.2.2.2.1 c10
      refine V.tableIn (off := 100) (tgt := 114) dX8_slot_14 (by rw [c10]; decide) (by rw [c10]; decide) (by rw [c10]; rfl) (by decide) ?_
      refine V.aload_n dX8_slot_114 rfl rfl ?_
      refine V.getf (v := .int (I2 a6 3)) dX8_slot_115 fl_X8_99 f9.1 (by decide) rfl ?_
      refine V.if_eq (tgt := 131) dX8_slot_118 (by decide) (fun c38 => ?_) (fun c38 => ?_)
      · have H39 := H37.1 c38
        refine V.iconst (v := (0)) dX8_slot_131 (by decide) ?_
        exact V.ret (v := some (.int (0 : Int32))) rfl (Or.inl ⟨_, rfl, dX8_slot_132, _, rfl, rfl⟩) ⟨Nat.le_refl _, Nat.le_refl _⟩ H39
      · have H40 := H37.2 c38
        refine V.aload_n dX8_slot_121 rfl rfl ?_
        refine V.getf (v := .ref (a6 + 3)) dX8_slot_122 fl_X8_149 f9.1 (by decide) rfl ?_
        refine V.getf (v := .int (I2 (a6 + 3) 2)) dX8_slot_125 fl_X8_152 f9.2.2.1 (by decide) rfl ?_
        refine V.goto (tgt := 132) dX8_slot_128 (by decide) ?_
        exact V.ret (v := some (.int (I2 (a6 + 3) 2))) rfl (Or.inl ⟨_, rfl, dX8_slot_132, _, rfl, rfl⟩) ⟨Nat.le_refl _, Nat.le_refl _⟩ H40
    · have H41 := H8.2.2.2.2.2.1 c10
      refine V.tableIn (off := 119) (tgt := 133) dX8_slot_14 (by rw [c10]; decide) (by rw [c10]; decide) (by rw [c10]; rfl) (by decide) ?_
      refine V.aload_n dX8_slot_133 rfl rfl ?_
      refine V.getf (v := .int (I2 a6 3)) dX8_slot_134 fl_X8_99 f9.1 (by decide) rfl ?_
      refine V.if_eq (tgt := 150) dX8_slot_137 (by decide) (fun c42 => ?_) (fun c42 => ?_)
      · have H43 := H41.1 c42
        refine V.iconst (v := (0)) dX8_slot_150 (by decide) ?_
        exact V.ret (v := some (.int (0 : Int32))) rfl (Or.inl ⟨_, rfl, dX8_slot_151, _, rfl, rfl⟩) ⟨Nat.le_refl _, Nat.le_refl _⟩ H43
      · have H44 := H41.2 c42
        refine V.aload_n dX8_slot_140 rfl rfl ?_
        refine V.getf (v := .ref (a6 + 3)) dX8_slot_141 fl_X8_149 f9.1 (by decide) rfl ?_
        obtain ⟨r45, I46, L47, t48, H49⟩ := H44
        refine V.cVi (N := mr_X1_multiplicitySum) (as := []) dX8_slot_144 ml_X8_153 ok_X1_multiplicitySum okV_X1_multiplicitySum ⟨Nat.le_of_ble_eq_true rfl, Nat.le_of_ble_eq_true rfl⟩ f9.2.2.1 rfl rfl rfl (Nat.le_of_ble_eq_true rfl) t48 ?_
        refine V.goto (tgt := 151) dX8_slot_147 (by decide) ?_
        exact V.ret (v := some (.int r45)) rfl (Or.inl ⟨_, rfl, dX8_slot_151, _, rfl, rfl⟩) ⟨Nat.le_refl _, Nat.le_refl _⟩ H49
    · have H50 := H8.2.2.2.2.2.2.1 c10
      refine V.tableIn (off := 138) (tgt := 152) dX8_slot_14 (by rw [c10]; decide) (by rw [c10]; decide) (by rw [c10]; rfl) (by decide) ?_
      refine V.aload_n dX8_slot_152 rfl rfl ?_
      refine V.getf (v := .ref (d + 39)) dX8_slot_153 fl_X8_66 hd.1 (by decide) rfl ?_
      refine V.iload_n dX8_slot_156 rfl rfl ?_
      obtain ⟨r51, I52, L53, t54, H55⟩ := H50
      refine V.cVi (N := mr_X3_candidates) (as := [.int a]) dX8_slot_157 ml_X8_156 ok_X3_candidates okV_X3_candidates ⟨Nat.le_of_ble_eq_true rfl, Nat.le_of_ble_eq_true rfl⟩ hd.2.2.2.2.2.2.2.2.2.2.1.1 rfl rfl rfl (Nat.le_of_ble_eq_true rfl) t54 ?_
      exact V.ret (v := some (.int r51)) rfl (Or.inl ⟨_, rfl, dX8_slot_160, _, rfl, rfl⟩) ⟨Nat.le_refl _, Nat.le_refl _⟩ H55
    · have H56 := H8.2.2.2.2.2.2.2.1 c10
      refine V.tableIn (off := 147) (tgt := 161) dX8_slot_14 (by rw [c10]; decide) (by rw [c10]; decide) (by rw [c10]; rfl) (by decide) ?_
      refine V.aload_n dX8_slot_161 rfl rfl ?_
      refine V.getf (v := .ref (d + 39)) dX8_slot_162 fl_X8_66 hd.1 (by decide) rfl ?_
      refine V.iload_n dX8_slot_165 rfl rfl ?_
      obtain ⟨r57, I58, L59, t60, H61⟩ := H56
      refine V.cVi (N := mr_X3_candidates) (as := [.int a]) dX8_slot_166 ml_X8_156 ok_X3_candidates okV_X3_candidates ⟨Nat.le_of_ble_eq_true rfl, Nat.le_of_ble_eq_true rfl⟩ hd.2.2.2.2.2.2.2.2.2.2.1.1 rfl rfl rfl (Nat.le_of_ble_eq_true rfl) t60 ?_
      obtain ⟨r62, I63, L64, t65, H66⟩ := H61
      refine V.cSi (N := mr_X3_nextQuestion) (as := [.int r57]) dX8_slot_169 ml_X8_159 ok_X3_nextQuestion okS_X3_nextQuestion ⟨Nat.le_of_ble_eq_true rfl, Nat.le_of_ble_eq_true rfl⟩ rfl rfl (Nat.le_of_ble_eq_true rfl) t65 ?_
      exact V.ret (v := some (.int r62)) rfl (Or.inl ⟨_, rfl, dX8_slot_172, _, rfl, rfl⟩) ⟨Nat.le_refl _, Nat.le_refl _⟩ H66
    · have H67 := H8.2.2.2.2.2.2.2.2 c10
      refine V.tableOut (tgt := 173) dX8_slot_14 c10 (by decide) ?_
      refine V.bipush (v := (-102)) dX8_slot_173 (by decide) ?_
      exact V.ret (v := some (.int (-102 : Int32))) rfl (Or.inl ⟨_, rfl, dX8_slot_175, _, rfl, rfl⟩) ⟨Nat.le_refl _, Nat.le_refl _⟩ H67
def hd_X8_textLengthSum_4 (S : List mjD) (RET : Option Value → mjH → Prop) (a0 : Nat) (x1 : Int32) (x2 : Int32) (I : Nat → Nat → Int32) (L : Nat → Nat → Int64) : Prop := V mr_X8_textLengthSum (0, 0) RET 4 [(0, .ref a0), (1, .int x1), (2, .int x2)] [] (S, I, L) (0, 0)
set_option maxRecDepth 100000 in
set_option maxHeartbeats 4000000 in
theorem it_X8_textLengthSum_4 {S : List mjD} {RET : Option Value → mjH → Prop} {a0 : Nat} (h0 : is_Desk S a0) {x1 : Int32} {x2 : Int32} {I : Nat → Nat → Int32} {L : Nat → Nat → Int64} (H0 : (((I a0 10) ≤ x2 → RET (some (.int x1)) (S, I, L)) ∧ (¬ (I a0 10) ≤ x2 → ∃ r4 I5 L6, CTq mr_X8_filledSlot [.ref a0, .int x2] S I L r4 I5 L6 ∧ ((r4 = none → ∀ y12 : Int32, y12 = (x1 + (0 : Int32)) → ∀ y15 : Int32, y15 = x2 + 1 → hd_X8_textLengthSum_4 S RET a0 y12 y15 I5 L6) ∧ (∀ a9, r4 = some a9 → is_Slot S a9 ∧ ∃ r19 I20 L21, CTi mr_X8_textLength [.ref a0, .ref a9] S I5 L6 r19 I20 L21 ∧ ∀ y24 : Int32, y24 = (x1 + r19) → ∀ y27 : Int32, y27 = x2 + 1 → hd_X8_textLengthSum_4 S RET a0 y24 y27 I20 L21))))) : hd_X8_textLengthSum_4 S RET a0 x1 x2 I L := by
  unfold hd_X8_textLengthSum_4
  refine V.iload_n dX8_textLengthSum_4 rfl rfl ?_
  refine V.aload_n dX8_textLengthSum_5 rfl rfl ?_
  refine V.getf (v := .int (I a0 10)) dX8_textLengthSum_6 fl_X8_103 h0.1 (by decide) rfl ?_
  refine V.icmp_ge (tgt := 40) dX8_textLengthSum_9 (by decide) (fun c1 => ?_) (fun c1 => ?_)
  · have H2 := H0.1 c1
    refine V.iload_n dX8_textLengthSum_40 rfl rfl ?_
    exact V.ret (v := some (.int x1)) rfl (Or.inl ⟨_, rfl, dX8_textLengthSum_41, _, rfl, rfl⟩) ⟨Nat.le_refl _, Nat.le_refl _⟩ H2
  · have H3 := H0.2 c1
    refine V.aload_n dX8_textLengthSum_12 rfl rfl ?_
    refine V.iload_n dX8_textLengthSum_13 rfl rfl ?_
    obtain ⟨r4, I5, L6, t7, H8⟩ := H3
    refine V.cVq (N := mr_X8_filledSlot) (as := [.int x2]) dX8_textLengthSum_14 ml_X8_169 ok_X8_filledSlot okV_X8_filledSlot ⟨Nat.le_of_ble_eq_true rfl, Nat.le_of_ble_eq_true rfl⟩ h0.1 rfl rfl rfl (Nat.le_of_ble_eq_true rfl) t7 ?_
    cases r4 with
    | none =>
      have H10 := H8.1 rfl
      refine V.astore_nN (lo' := [(3, .null), (0, .ref a0), (1, .int x1), (2, .int x2)]) dX8_textLengthSum_17 rfl (by decide) rfl ?_
      refine V.iload_n dX8_textLengthSum_18 rfl rfl ?_
      refine V.aload_nN dX8_textLengthSum_19 rfl rfl ?_
      refine V.ifnonnullN dX8_textLengthSum_20 ?_
      refine V.iconst (v := (0)) dX8_textLengthSum_23 (by decide) ?_
      refine V.goto (tgt := 32) dX8_textLengthSum_24 (by decide) ?_
      refine V.iadd dX8_textLengthSum_32 ?_
      refine V.topi (fun y12 e13 => ?_)
      have H14 := H10 y12 e13
      refine V.istore_n (lo' := [(1, .int y12), (3, .null), (0, .ref a0), (2, .int x2)]) dX8_textLengthSum_33 rfl (by decide) rfl ?_
      obtain ⟨y15, e16⟩ : ∃ y : Int32, y = x2 + 1 := ⟨_, rfl⟩
      have H17 := H14 y15 e16
      refine V.iinc (v := y15) (lo' := [(2, .int y15), (1, .int y12), (3, .null), (0, .ref a0)]) dX8_textLengthSum_34 rfl (by rw [e16]; rfl) (by decide) rfl ?_
      refine V.goto (tgt := 4) dX8_textLengthSum_37 (by decide) ?_
      exact V.los [3, 1, 0] rfl H17
    | some a9 =>
      obtain ⟨f18, H11⟩ := H8.2 a9 rfl
      refine V.astore_n (lo' := [(3, .ref a9), (0, .ref a0), (1, .int x1), (2, .int x2)]) dX8_textLengthSum_17 rfl (by decide) rfl ?_
      refine V.iload_n dX8_textLengthSum_18 rfl rfl ?_
      refine V.aload_n dX8_textLengthSum_19 rfl rfl ?_
      refine V.ifnonnull (tgt := 27) dX8_textLengthSum_20 (by decide) ?_
      refine V.aload_n dX8_textLengthSum_27 rfl rfl ?_
      refine V.aload_n dX8_textLengthSum_28 rfl rfl ?_
      obtain ⟨r19, I20, L21, t22, H23⟩ := H11
      refine V.cVi (N := mr_X8_textLength) (as := [.ref a9]) dX8_textLengthSum_29 ml_X8_146 ok_X8_textLength okV_X8_textLength ⟨Nat.le_of_ble_eq_true rfl, Nat.le_of_ble_eq_true rfl⟩ h0.1 rfl rfl rfl (Nat.le_of_ble_eq_true rfl) t22 ?_
      refine V.iadd dX8_textLengthSum_32 ?_
      refine V.topi (fun y24 e25 => ?_)
      have H26 := H23 y24 e25
      refine V.istore_n (lo' := [(1, .int y24), (3, .ref a9), (0, .ref a0), (2, .int x2)]) dX8_textLengthSum_33 rfl (by decide) rfl ?_
      obtain ⟨y27, e28⟩ : ∃ y : Int32, y = x2 + 1 := ⟨_, rfl⟩
      have H29 := H26 y27 e28
      refine V.iinc (v := y27) (lo' := [(2, .int y27), (1, .int y24), (3, .ref a9), (0, .ref a0)]) dX8_textLengthSum_34 rfl (by rw [e28]; rfl) (by decide) rfl ?_
      refine V.goto (tgt := 4) dX8_textLengthSum_37 (by decide) ?_
      exact V.los [3, 1, 0] rfl H29
set_option maxRecDepth 100000 in
set_option maxHeartbeats 4000000 in
theorem wp_X8_textLengthSum {S : List mjD} {RET : Option Value → mjH → Prop} {d : Nat} (hd : is_Desk S d) {I : Nat → Nat → Int32} {L : Nat → Nat → Int64} (H0 : hd_X8_textLengthSum_4 S RET d (0 : Int32) (0 : Int32) I L) : CT mr_X8_textLengthSum (0, 0) [.ref d] (S, I, L) RET := by
  refine CT.of (lo := [(0, .ref d)]) (by decide) (fun _ _ => Nat.le_of_ble_eq_true rfl) (fun _ _ => rfl) rfl ?_
  refine V.iconst (v := (0)) dX8_textLengthSum_0 (by decide) ?_
  refine V.istore_n (lo' := [(1, .int (0 : Int32)), (0, .ref d)]) dX8_textLengthSum_1 rfl (by decide) rfl ?_
  refine V.iconst (v := (0)) dX8_textLengthSum_2 (by decide) ?_
  refine V.istore_n (lo' := [(2, .int (0 : Int32)), (1, .int (0 : Int32)), (0, .ref d)]) dX8_textLengthSum_3 rfl (by decide) rfl ?_
  exact V.los [2, 1, 0] rfl H0
set_option maxRecDepth 100000 in
set_option maxHeartbeats 4000000 in
theorem wp_X8_parts {S : List mjD} {RET : Option Value → mjH → Prop} {d : Nat} (hd : is_Desk S d) {a : Int32} {b : Int32} {c : Int32} {I : Nat → Nat → Int32} {L : Nat → Nat → Int64} (H0 : ∃ r1 I2 L3, CTq mr_X8_filledSlot [.ref d, .int a] S I L r1 I2 L3 ∧ ((r1 = none → RET (some (.int (-101 : Int32))) (S, I2, L3)) ∧ (∀ a6, r1 = some a6 → is_Slot S a6 ∧ ∃ r10 I11 L12, CTi mr_X8_isSmallPrime [.int b] S I2 L3 r10 I11 L12 ∧ ((r10 = 0 → RET (some (.int (-102 : Int32))) (S, I11, L12)) ∧ (¬ r10 = 0 → ((c < 0 → RET (some (.int (-102 : Int32))) (S, I11, L12)) ∧ (¬ c < 0 → ((c ≤ (1 : Int32) → ∃ r23 I24 L25, CTi mr_X4_split [.ref (d + 34), .ref (a6 + 1), .int b] S I11 L12 r23 I24 L25 ∧ ((¬ r23 = 0 → ((¬ c = 0 → ∃ r32 I33 L34, CTi mr_X4_degreeDigits [.ref (d + 34)] S I24 L25 r32 I33 L34 ∧ RET (some (.int r32)) (S, I33, L34)) ∧ (c = 0 → ∃ r38 I39 L40, CTi mr_X4_countAll [.ref (d + 34)] S I24 L25 r38 I39 L40 ∧ RET (some (.int r38)) (S, I39, L40)))) ∧ (r23 = 0 → RET (some (.int (-1 : Int32))) (S, I24, L25)))) ∧ (¬ c ≤ (1 : Int32) → RET (some (.int (-102 : Int32))) (S, I11, L12)))))))))) : CT mr_X8_parts (0, 0) [.ref d, .int a, .int b, .int c] (S, I, L) RET := by
  refine CT.of (lo := [(0, .ref d), (1, .int a), (2, .int b), (3, .int c)]) (by decide) (fun _ _ => Nat.le_of_ble_eq_true rfl) (fun _ _ => rfl) rfl ?_
  refine V.aload_n dX8_parts_0 rfl rfl ?_
  refine V.iload_n dX8_parts_1 rfl rfl ?_
  obtain ⟨r1, I2, L3, t4, H5⟩ := H0
  refine V.cVq (N := mr_X8_filledSlot) (as := [.int a]) dX8_parts_2 ml_X8_169 ok_X8_filledSlot okV_X8_filledSlot ⟨Nat.le_of_ble_eq_true rfl, Nat.le_of_ble_eq_true rfl⟩ hd.1 rfl rfl rfl (Nat.le_of_ble_eq_true rfl) t4 ?_
  cases r1 with
  | none =>
    have H7 := H5.1 rfl
    refine V.astoreN (lo' := [(4, .null), (0, .ref d), (1, .int a), (2, .int b), (3, .int c)]) dX8_parts_5 (by decide) rfl ?_
    refine V.aloadN dX8_parts_7 rfl ?_
    refine V.ifnonnullN dX8_parts_9 ?_
    refine V.bipush (v := (-101)) dX8_parts_12 (by decide) ?_
    exact V.ret (v := some (.int (-101 : Int32))) rfl (Or.inl ⟨_, rfl, dX8_parts_14, _, rfl, rfl⟩) ⟨Nat.le_refl _, Nat.le_refl _⟩ H7
  | some a6 =>
    obtain ⟨f9, H8⟩ := H5.2 a6 rfl
    refine V.astore (lo' := [(4, .ref a6), (0, .ref d), (1, .int a), (2, .int b), (3, .int c)]) dX8_parts_5 (by decide) rfl ?_
    refine V.aload dX8_parts_7 rfl ?_
    refine V.ifnonnull (tgt := 15) dX8_parts_9 (by decide) ?_
    refine V.iload_n dX8_parts_15 rfl rfl ?_
    obtain ⟨r10, I11, L12, t13, H14⟩ := H8
    refine V.cSi (N := mr_X8_isSmallPrime) (as := [.int b]) dX8_parts_16 ml_X8_236 ok_X8_isSmallPrime okS_X8_isSmallPrime ⟨Nat.le_of_ble_eq_true rfl, Nat.le_of_ble_eq_true rfl⟩ rfl rfl (Nat.le_of_ble_eq_true rfl) t13 ?_
    refine V.if_eq (tgt := 31) dX8_parts_19 (by decide) (fun c15 => ?_) (fun c15 => ?_)
    · have H16 := H14.1 c15
      refine V.bipush (v := (-102)) dX8_parts_31 (by decide) ?_
      exact V.ret (v := some (.int (-102 : Int32))) rfl (Or.inl ⟨_, rfl, dX8_parts_33, _, rfl, rfl⟩) ⟨Nat.le_refl _, Nat.le_refl _⟩ H16
    · have H17 := H14.2 c15
      refine V.iload_n dX8_parts_22 rfl rfl ?_
      refine V.if_lt (tgt := 31) dX8_parts_23 (by decide) (fun c18 => ?_) (fun c18 => ?_)
      · have H19 := H17.1 c18
        refine V.bipush (v := (-102)) dX8_parts_31 (by decide) ?_
        exact V.ret (v := some (.int (-102 : Int32))) rfl (Or.inl ⟨_, rfl, dX8_parts_33, _, rfl, rfl⟩) ⟨Nat.le_refl _, Nat.le_refl _⟩ H19
      · have H20 := H17.2 c18
        refine V.iload_n dX8_parts_26 rfl rfl ?_
        refine V.iconst (v := (1)) dX8_parts_27 (by decide) ?_
        refine V.icmp_le (tgt := 34) dX8_parts_28 (by decide) (fun c21 => ?_) (fun c21 => ?_)
        · have H22 := H20.1 c21
          refine V.aload_n dX8_parts_34 rfl rfl ?_
          refine V.getf (v := .ref (d + 34)) dX8_parts_35 fl_X8_53 hd.1 (by decide) rfl ?_
          refine V.aload dX8_parts_38 rfl ?_
          refine V.getf (v := .ref (a6 + 1)) dX8_parts_40 fl_X8_135 f9.1 (by decide) rfl ?_
          refine V.iload_n dX8_parts_43 rfl rfl ?_
          obtain ⟨r23, I24, L25, t26, H27⟩ := H22
          refine V.cVi (N := mr_X4_split) (as := [.ref (a6 + 1), .int b]) dX8_parts_44 ml_X8_239 ok_X4_split okV_X4_split ⟨Nat.le_of_ble_eq_true rfl, Nat.le_of_ble_eq_true rfl⟩ hd.2.2.2.2.2.2.2.2.1.1 rfl rfl rfl (Nat.le_of_ble_eq_true rfl) t26 ?_
          refine V.if_ne (tgt := 52) dX8_parts_47 (by decide) (fun c28 => ?_) (fun c28 => ?_)
          · have H29 := H27.1 c28
            refine V.iload_n dX8_parts_52 rfl rfl ?_
            refine V.if_ne (tgt := 66) dX8_parts_53 (by decide) (fun c30 => ?_) (fun c30 => ?_)
            · have H31 := H29.1 c30
              refine V.aload_n dX8_parts_66 rfl rfl ?_
              refine V.getf (v := .ref (d + 34)) dX8_parts_67 fl_X8_53 hd.1 (by decide) rfl ?_
              obtain ⟨r32, I33, L34, t35, H36⟩ := H31
              refine V.cVi (N := mr_X4_degreeDigits) (as := []) dX8_parts_70 ml_X8_246 ok_X4_degreeDigits okV_X4_degreeDigits ⟨Nat.le_of_ble_eq_true rfl, Nat.le_of_ble_eq_true rfl⟩ hd.2.2.2.2.2.2.2.2.1.1 rfl rfl rfl (Nat.le_of_ble_eq_true rfl) t35 ?_
              exact V.ret (v := some (.int r32)) rfl (Or.inl ⟨_, rfl, dX8_parts_73, _, rfl, rfl⟩) ⟨Nat.le_refl _, Nat.le_refl _⟩ H36
            · have H37 := H29.2 c30
              refine V.aload_n dX8_parts_56 rfl rfl ?_
              refine V.getf (v := .ref (d + 34)) dX8_parts_57 fl_X8_53 hd.1 (by decide) rfl ?_
              obtain ⟨r38, I39, L40, t41, H42⟩ := H37
              refine V.cVi (N := mr_X4_countAll) (as := []) dX8_parts_60 ml_X8_243 ok_X4_countAll okV_X4_countAll ⟨Nat.le_of_ble_eq_true rfl, Nat.le_of_ble_eq_true rfl⟩ hd.2.2.2.2.2.2.2.2.1.1 rfl rfl rfl (Nat.le_of_ble_eq_true rfl) t41 ?_
              refine V.goto (tgt := 73) dX8_parts_63 (by decide) ?_
              exact V.ret (v := some (.int r38)) rfl (Or.inl ⟨_, rfl, dX8_parts_73, _, rfl, rfl⟩) ⟨Nat.le_refl _, Nat.le_refl _⟩ H42
          · have H43 := H27.2 c28
            refine V.iconst (v := (-1)) dX8_parts_50 (by decide) ?_
            exact V.ret (v := some (.int (-1 : Int32))) rfl (Or.inl ⟨_, rfl, dX8_parts_51, _, rfl, rfl⟩) ⟨Nat.le_refl _, Nat.le_refl _⟩ H43
        · have H44 := H20.2 c21
          refine V.bipush (v := (-102)) dX8_parts_31 (by decide) ?_
          exact V.ret (v := some (.int (-102 : Int32))) rfl (Or.inl ⟨_, rfl, dX8_parts_33, _, rfl, rfl⟩) ⟨Nat.le_refl _, Nat.le_refl _⟩ H44
def hd_X8_degrees_30 (S : List mjD) (RET : Option Value → mjH → Prop) (a0 : Nat) (a2 : Nat) (x3 : Int32) (x4 : Int32) (I : Nat → Nat → Int32) (L : Nat → Nat → Int64) : Prop := V mr_X8_degrees (0, 0) RET 30 [(0, .ref a0), (2, .ref a2), (3, .int x3), (4, .int x4)] [] (S, I, L) (0, 0)
set_option maxRecDepth 100000 in
set_option maxHeartbeats 4000000 in
theorem it_X8_degrees_30 {S : List mjD} {RET : Option Value → mjH → Prop} {a0 : Nat} (h0 : is_Desk S a0) {a2 : Nat} (h2 : is_Slot S a2) {x3 : Int32} {x4 : Int32} {I : Nat → Nat → Int32} {L : Nat → Nat → Int64} (H0 : (((6 : Int32) ≤ x4 → RET (some (.int x3)) (S, I, L)) ∧ (¬ (6 : Int32) ≤ x4 → (vp_in x4 6) ∧ ∃ r23 I24 L25, CTi mr_X4_split [.ref (a0 + 34), .ref (a2 + 1), .int ((mj_st 1000002).getD x4.toNatClampNeg 0)] S I L r23 I24 L25 ∧ ((r23 = 0 → ∀ y30 : Int32, y30 = x4 + 1 → hd_X8_degrees_30 S RET a0 a2 x3 y30 I24 L25) ∧ (¬ r23 = 0 → ∃ r34 I35 L36, CTi mr_X4_degreeSums [.ref (a0 + 34)] S I24 L25 r34 I35 L36 ∧ ∀ y39 : Int32, y39 = (x3 &&& r34) → ∀ y42 : Int32, y42 = x4 + 1 → hd_X8_degrees_30 S RET a0 a2 y39 y42 I35 L36))))) : hd_X8_degrees_30 S RET a0 a2 x3 x4 I L := by
  unfold hd_X8_degrees_30
  refine V.iload dX8_degrees_30 rfl ?_
  refine V.gets_PRIMES dX8_degrees_32 gs_X8_249 ?_
  refine V.len_PRIMES dX8_degrees_35 ?_
  refine V.icmp_ge (tgt := 75) dX8_degrees_36 (by decide) (fun c18 => ?_) (fun c18 => ?_)
  · have H19 := H0.1 c18
    refine V.iload_n dX8_degrees_75 rfl rfl ?_
    exact V.ret (v := some (.int x3)) rfl (Or.inl ⟨_, rfl, dX8_degrees_76, _, rfl, rfl⟩) ⟨Nat.le_refl _, Nat.le_refl _⟩ H19
  · have H20 := H0.2 c18
    refine V.aload_n dX8_degrees_39 rfl rfl ?_
    refine V.getf (v := .ref (a0 + 34)) dX8_degrees_40 fl_X8_53 h0.1 (by decide) rfl ?_
    refine V.aload_n dX8_degrees_43 rfl rfl ?_
    refine V.getf (v := .ref (a2 + 1)) dX8_degrees_44 fl_X8_135 h2.1 (by decide) rfl ?_
    refine V.gets_PRIMES dX8_degrees_47 gs_X8_249 ?_
    refine V.iload dX8_degrees_50 rfl ?_
    obtain ⟨o21, H22⟩ := H20
    refine V.ld_PRIMES dX8_degrees_52 o21 rfl ?_
    obtain ⟨r23, I24, L25, t26, H27⟩ := H22
    refine V.cVi (N := mr_X4_split) (as := [.ref (a2 + 1), .int ((mj_st 1000002).getD x4.toNatClampNeg 0)]) dX8_degrees_53 ml_X8_239 ok_X4_split okV_X4_split ⟨Nat.le_of_ble_eq_true rfl, Nat.le_of_ble_eq_true rfl⟩ h0.2.2.2.2.2.2.2.2.1.1 rfl rfl rfl (Nat.le_of_ble_eq_true rfl) t26 ?_
    refine V.if_eq (tgt := 69) dX8_degrees_56 (by decide) (fun c28 => ?_) (fun c28 => ?_)
    · have H29 := H27.1 c28
      obtain ⟨y30, e31⟩ : ∃ y : Int32, y = x4 + 1 := ⟨_, rfl⟩
      have H32 := H29 y30 e31
      refine V.iinc (v := y30) (lo' := [(4, .int y30), (0, .ref a0), (2, .ref a2), (3, .int x3)]) dX8_degrees_69 rfl (by rw [e31]; rfl) (by decide) rfl ?_
      refine V.goto (tgt := 30) dX8_degrees_72 (by decide) ?_
      exact V.los [1, 2, 3, 0] rfl H32
    · have H33 := H27.2 c28
      refine V.iload_n dX8_degrees_59 rfl rfl ?_
      refine V.aload_n dX8_degrees_60 rfl rfl ?_
      refine V.getf (v := .ref (a0 + 34)) dX8_degrees_61 fl_X8_53 h0.1 (by decide) rfl ?_
      obtain ⟨r34, I35, L36, t37, H38⟩ := H33
      refine V.cVi (N := mr_X4_degreeSums) (as := []) dX8_degrees_64 ml_X8_253 ok_X4_degreeSums okV_X4_degreeSums ⟨Nat.le_of_ble_eq_true rfl, Nat.le_of_ble_eq_true rfl⟩ h0.2.2.2.2.2.2.2.2.1.1 rfl rfl rfl (Nat.le_of_ble_eq_true rfl) t37 ?_
      refine V.iand dX8_degrees_67 ?_
      refine V.topi (fun y39 e40 => ?_)
      have H41 := H38 y39 e40
      refine V.istore_n (lo' := [(3, .int y39), (0, .ref a0), (2, .ref a2), (4, .int x4)]) dX8_degrees_68 rfl (by decide) rfl ?_
      obtain ⟨y42, e43⟩ : ∃ y : Int32, y = x4 + 1 := ⟨_, rfl⟩
      have H44 := H41 y42 e43
      refine V.iinc (v := y42) (lo' := [(4, .int y42), (3, .int y39), (0, .ref a0), (2, .ref a2)]) dX8_degrees_69 rfl (by rw [e43]; rfl) (by decide) rfl ?_
      refine V.goto (tgt := 30) dX8_degrees_72 (by decide) ?_
      exact V.los [2, 3, 1, 0] rfl H44
set_option maxRecDepth 100000 in
set_option maxHeartbeats 4000000 in
theorem wp_X8_degrees {S : List mjD} {RET : Option Value → mjH → Prop} {d : Nat} (hd : is_Desk S d) {a : Int32} {I : Nat → Nat → Int32} {L : Nat → Nat → Int64} (H0 : ∃ r1 I2 L3, CTq mr_X8_filledSlot [.ref d, .int a] S I L r1 I2 L3 ∧ ((r1 = none → RET (some (.int (-101 : Int32))) (S, I2, L3)) ∧ (∀ a6, r1 = some a6 → is_Slot S a6 ∧ ∃ r10 I11 L12, CTi mr_X5_degree [.ref (a6 + 1)] S I2 L3 r10 I11 L12 ∧ ∀ y15 : Int32, y15 = (((1 : Int32) <<< ((r10 + (1 : Int32)) &&& 31)) - (1 : Int32)) → hd_X8_degrees_30 S RET d a6 y15 (0 : Int32) I11 L12))) : CT mr_X8_degrees (0, 0) [.ref d, .int a] (S, I, L) RET := by
  refine CT.of (lo := [(0, .ref d), (1, .int a)]) (by decide) (fun _ _ => Nat.le_of_ble_eq_true rfl) (fun _ _ => rfl) rfl ?_
  refine V.aload_n dX8_degrees_0 rfl rfl ?_
  refine V.iload_n dX8_degrees_1 rfl rfl ?_
  obtain ⟨r1, I2, L3, t4, H5⟩ := H0
  refine V.cVq (N := mr_X8_filledSlot) (as := [.int a]) dX8_degrees_2 ml_X8_169 ok_X8_filledSlot okV_X8_filledSlot ⟨Nat.le_of_ble_eq_true rfl, Nat.le_of_ble_eq_true rfl⟩ hd.1 rfl rfl rfl (Nat.le_of_ble_eq_true rfl) t4 ?_
  cases r1 with
  | none =>
    have H7 := H5.1 rfl
    refine V.astore_nN (lo' := [(2, .null), (0, .ref d), (1, .int a)]) dX8_degrees_5 rfl (by decide) rfl ?_
    refine V.aload_nN dX8_degrees_6 rfl rfl ?_
    refine V.ifnonnullN dX8_degrees_7 ?_
    refine V.bipush (v := (-101)) dX8_degrees_10 (by decide) ?_
    exact V.ret (v := some (.int (-101 : Int32))) rfl (Or.inl ⟨_, rfl, dX8_degrees_12, _, rfl, rfl⟩) ⟨Nat.le_refl _, Nat.le_refl _⟩ H7
  | some a6 =>
    obtain ⟨f9, H8⟩ := H5.2 a6 rfl
    refine V.astore_n (lo' := [(2, .ref a6), (0, .ref d), (1, .int a)]) dX8_degrees_5 rfl (by decide) rfl ?_
    refine V.aload_n dX8_degrees_6 rfl rfl ?_
    refine V.ifnonnull (tgt := 13) dX8_degrees_7 (by decide) ?_
    refine V.iconst (v := (1)) dX8_degrees_13 (by decide) ?_
    refine V.aload_n dX8_degrees_14 rfl rfl ?_
    refine V.getf (v := .ref (a6 + 1)) dX8_degrees_15 fl_X8_135 f9.1 (by decide) rfl ?_
    obtain ⟨r10, I11, L12, t13, H14⟩ := H8
    refine V.cVi (N := mr_X5_degree) (as := []) dX8_degrees_18 ml_X8_138 ok_X5_degree okV_X5_degree ⟨Nat.le_of_ble_eq_true rfl, Nat.le_of_ble_eq_true rfl⟩ f9.2.1.1 rfl rfl rfl (Nat.le_of_ble_eq_true rfl) t13 ?_
    refine V.iconst (v := (1)) dX8_degrees_21 (by decide) ?_
    refine V.iadd dX8_degrees_22 ?_
    refine V.ishl dX8_degrees_23 ?_
    refine V.iconst (v := (1)) dX8_degrees_24 (by decide) ?_
    refine V.isub dX8_degrees_25 ?_
    refine V.topi (fun y15 e16 => ?_)
    have H17 := H14 y15 e16
    refine V.istore_n (lo' := [(3, .int y15), (2, .ref a6), (0, .ref d), (1, .int a)]) dX8_degrees_26 rfl (by decide) rfl ?_
    refine V.iconst (v := (0)) dX8_degrees_27 (by decide) ?_
    refine V.istore (lo' := [(4, .int (0 : Int32)), (3, .int y15), (2, .ref a6), (0, .ref d), (1, .int a)]) dX8_degrees_28 (by decide) rfl ?_
    exact V.los [3, 2, 1, 0] rfl H17
set_option maxRecDepth 100000 in
set_option maxHeartbeats 4000000 in
theorem wp_X8_fault {S : List mjD} {RET : Option Value → mjH → Prop} {d : Nat} (hd : is_Desk S d) {I : Nat → Nat → Int32} {L : Nat → Nat → Int64} (H0 : ∃ r1 I2 L3, CTi mr_X6_read [.ref (d + 5), .ref (d + 1)] S I L r1 I2 L3 ∧ RET (some (.int r1)) (S, I2, L3)) : CT mr_X8_fault (0, 0) [.ref d] (S, I, L) RET := by
  refine CT.of (lo := [(0, .ref d)]) (by decide) (fun _ _ => Nat.le_of_ble_eq_true rfl) (fun _ _ => rfl) rfl ?_
  refine V.aload_n dX8_fault_0 rfl rfl ?_
  refine V.getf (v := .ref (d + 5)) dX8_fault_1 fl_X8_22 hd.1 (by decide) rfl ?_
  refine V.aload_n dX8_fault_4 rfl rfl ?_
  refine V.getf (v := .ref (d + 1)) dX8_fault_5 fl_X8_10 hd.1 (by decide) rfl ?_
  obtain ⟨r1, I2, L3, t4, H5⟩ := H0
  refine V.cVi (N := mr_X6_read) (as := [.ref (d + 1)]) dX8_fault_8 ml_X8_85 ok_X6_read okV_X6_read ⟨Nat.le_of_ble_eq_true rfl, Nat.le_of_ble_eq_true rfl⟩ hd.2.2.2.1.1 rfl rfl rfl (Nat.le_of_ble_eq_true rfl) t4 ?_
  exact V.ret (v := some (.int r1)) rfl (Or.inl ⟨_, rfl, dX8_fault_11, _, rfl, rfl⟩) ⟨Nat.le_refl _, Nat.le_refl _⟩ H5
set_option maxRecDepth 100000 in
set_option maxHeartbeats 4000000 in
theorem wp_X8_count {S : List mjD} {RET : Option Value → mjH → Prop} {d : Nat} (hd : is_Desk S d) {a : Int32} {I : Nat → Nat → Int32} {L : Nat → Nat → Int64} (H0 : ((a = 0 → RET (some (.int (I d 10))) (S, I, L)) ∧ (a = 1 → ∃ r5 I6 L7, CTi mr_X8_filledSlots [.ref d] S I L r5 I6 L7 ∧ RET (some (.int r5)) (S, I6, L7)) ∧ (a = 2 → ∃ r11 I12 L13, CTi mr_X8_irreducibleSlots [.ref d] S I L r11 I12 L13 ∧ RET (some (.int r11)) (S, I12, L13)) ∧ (a = 3 → ∃ r17 I18 L19, CTi mr_X8_degreeSum [.ref d] S I L r17 I18 L19 ∧ RET (some (.int r17)) (S, I18, L19)) ∧ (a = 4 → ∃ r23 I24 L25, CTi mr_X8_textLengthSum [.ref d] S I L r23 I24 L25 ∧ RET (some (.int r23)) (S, I24, L25)) ∧ (a = 5 → RET (some (.int (I (d + 39) 2))) (S, I, L)) ∧ (a = 6 → RET (some (.int (I (d + 1) 1))) (S, I, L)) ∧ (a = 7 → RET (some (.int (I d 11))) (S, I, L)) ∧ (a.toInt < 0 ∨ 7 < a.toInt → RET (some (.int (-102 : Int32))) (S, I, L)))) : CT mr_X8_count (0, 0) [.ref d, .int a] (S, I, L) RET := by
  refine CT.of (lo := [(0, .ref d), (1, .int a)]) (by decide) (fun _ _ => Nat.le_of_ble_eq_true rfl) (fun _ _ => rfl) rfl ?_
  refine V.iload_n dX8_count_0 rfl rfl ?_
  rcases mj_sw_0_7 a with c1 | c1 | c1 | c1 | c1 | c1 | c1 | c1 | c1
  · have H3 := H0.1 c1
    refine V.tableIn (off := 47) (tgt := 48) dX8_count_1 (by rw [c1]; decide) (by rw [c1]; decide) (by rw [c1]; rfl) (by decide) ?_
    refine V.aload_n dX8_count_48 rfl rfl ?_
    refine V.getf (v := .int (I d 10)) dX8_count_49 fl_X8_103 hd.1 (by decide) rfl ?_
    exact V.ret (v := some (.int (I d 10))) rfl (Or.inl ⟨_, rfl, dX8_count_52, _, rfl, rfl⟩) ⟨Nat.le_refl _, Nat.le_refl _⟩ H3
  · have H4 := H0.2.1 c1
    refine V.tableIn (off := 52) (tgt := 53) dX8_count_1 (by rw [c1]; decide) (by rw [c1]; decide) (by rw [c1]; rfl) (by decide) ?_
    refine V.aload_n dX8_count_53 rfl rfl ?_
    obtain ⟨r5, I6, L7, t8, H9⟩ := H4
    refine V.cVi (N := mr_X8_filledSlots) (as := []) dX8_count_54 ml_X8_287 ok_X8_filledSlots okV_X8_filledSlots ⟨Nat.le_of_ble_eq_true rfl, Nat.le_of_ble_eq_true rfl⟩ hd.1 rfl rfl rfl (Nat.le_of_ble_eq_true rfl) t8 ?_
    exact V.ret (v := some (.int r5)) rfl (Or.inl ⟨_, rfl, dX8_count_57, _, rfl, rfl⟩) ⟨Nat.le_refl _, Nat.le_refl _⟩ H9
  · have H10 := H0.2.2.1 c1
    refine V.tableIn (off := 57) (tgt := 58) dX8_count_1 (by rw [c1]; decide) (by rw [c1]; decide) (by rw [c1]; rfl) (by decide) ?_
    refine V.aload_n dX8_count_58 rfl rfl ?_
    obtain ⟨r11, I12, L13, t14, H15⟩ := H10
    refine V.cVi (N := mr_X8_irreducibleSlots) (as := []) dX8_count_59 ml_X8_290 ok_X8_irreducibleSlots okV_X8_irreducibleSlots ⟨Nat.le_of_ble_eq_true rfl, Nat.le_of_ble_eq_true rfl⟩ hd.1 rfl rfl rfl (Nat.le_of_ble_eq_true rfl) t14 ?_
    exact V.ret (v := some (.int r11)) rfl (Or.inl ⟨_, rfl, dX8_count_62, _, rfl, rfl⟩) ⟨Nat.le_refl _, Nat.le_refl _⟩ H15
  · have H16 := H0.2.2.2.1 c1
    refine V.tableIn (off := 62) (tgt := 63) dX8_count_1 (by rw [c1]; decide) (by rw [c1]; decide) (by rw [c1]; rfl) (by decide) ?_
    refine V.aload_n dX8_count_63 rfl rfl ?_
    obtain ⟨r17, I18, L19, t20, H21⟩ := H16
    refine V.cVi (N := mr_X8_degreeSum) (as := []) dX8_count_64 ml_X8_293 ok_X8_degreeSum okV_X8_degreeSum ⟨Nat.le_of_ble_eq_true rfl, Nat.le_of_ble_eq_true rfl⟩ hd.1 rfl rfl rfl (Nat.le_of_ble_eq_true rfl) t20 ?_
    exact V.ret (v := some (.int r17)) rfl (Or.inl ⟨_, rfl, dX8_count_67, _, rfl, rfl⟩) ⟨Nat.le_refl _, Nat.le_refl _⟩ H21
  · have H22 := H0.2.2.2.2.1 c1
    refine V.tableIn (off := 67) (tgt := 68) dX8_count_1 (by rw [c1]; decide) (by rw [c1]; decide) (by rw [c1]; rfl) (by decide) ?_
    refine V.aload_n dX8_count_68 rfl rfl ?_
    obtain ⟨r23, I24, L25, t26, H27⟩ := H22
    refine V.cVi (N := mr_X8_textLengthSum) (as := []) dX8_count_69 ml_X8_296 ok_X8_textLengthSum okV_X8_textLengthSum ⟨Nat.le_of_ble_eq_true rfl, Nat.le_of_ble_eq_true rfl⟩ hd.1 rfl rfl rfl (Nat.le_of_ble_eq_true rfl) t26 ?_
    exact V.ret (v := some (.int r23)) rfl (Or.inl ⟨_, rfl, dX8_count_72, _, rfl, rfl⟩) ⟨Nat.le_refl _, Nat.le_refl _⟩ H27
  · have H28 := H0.2.2.2.2.2.1 c1
    refine V.tableIn (off := 72) (tgt := 73) dX8_count_1 (by rw [c1]; decide) (by rw [c1]; decide) (by rw [c1]; rfl) (by decide) ?_
    refine V.aload_n dX8_count_73 rfl rfl ?_
    refine V.getf (v := .ref (d + 39)) dX8_count_74 fl_X8_66 hd.1 (by decide) rfl ?_
    refine V.getf (v := .int (I (d + 39) 2)) dX8_count_77 fl_X8_109 hd.2.2.2.2.2.2.2.2.2.2.1.1 (by decide) rfl ?_
    exact V.ret (v := some (.int (I (d + 39) 2))) rfl (Or.inl ⟨_, rfl, dX8_count_80, _, rfl, rfl⟩) ⟨Nat.le_refl _, Nat.le_refl _⟩ H28
  · have H29 := H0.2.2.2.2.2.2.1 c1
    refine V.tableIn (off := 80) (tgt := 81) dX8_count_1 (by rw [c1]; decide) (by rw [c1]; decide) (by rw [c1]; rfl) (by decide) ?_
    refine V.aload_n dX8_count_81 rfl rfl ?_
    refine V.getf (v := .ref (d + 1)) dX8_count_82 fl_X8_10 hd.1 (by decide) rfl ?_
    refine V.getf (v := .int (I (d + 1) 1)) dX8_count_85 fl_X8_81 hd.2.1.1 (by decide) rfl ?_
    exact V.ret (v := some (.int (I (d + 1) 1))) rfl (Or.inl ⟨_, rfl, dX8_count_88, _, rfl, rfl⟩) ⟨Nat.le_refl _, Nat.le_refl _⟩ H29
  · have H30 := H0.2.2.2.2.2.2.2.1 c1
    refine V.tableIn (off := 88) (tgt := 89) dX8_count_1 (by rw [c1]; decide) (by rw [c1]; decide) (by rw [c1]; rfl) (by decide) ?_
    refine V.aload_n dX8_count_89 rfl rfl ?_
    refine V.getf (v := .int (I d 11)) dX8_count_90 fl_X8_106 hd.1 (by decide) rfl ?_
    exact V.ret (v := some (.int (I d 11))) rfl (Or.inl ⟨_, rfl, dX8_count_93, _, rfl, rfl⟩) ⟨Nat.le_refl _, Nat.le_refl _⟩ H30
  · have H31 := H0.2.2.2.2.2.2.2.2 c1
    refine V.tableOut (tgt := 94) dX8_count_1 c1 (by decide) ?_
    refine V.bipush (v := (-102)) dX8_count_94 (by decide) ?_
    exact V.ret (v := some (.int (-102 : Int32))) rfl (Or.inl ⟨_, rfl, dX8_count_96, _, rfl, rfl⟩) ⟨Nat.le_refl _, Nat.le_refl _⟩ H31
def hd_X8_digestHeld_6 (S : List mjD) (RET : Option Value → mjH → Prop) (a0 : Nat) (x3 : Int32) (a4 : Nat) (x5 : Int64) (x7 : Int32) (I : Nat → Nat → Int32) (L : Nat → Nat → Int64) : Prop := V mr_X8_digestHeld (0, 0) RET 6 [(0, .ref a0), (3, .int x3), (4, .ref a4), (5, .long x5), (7, .int x7)] [] (S, I, L) (0, 0)
def hd_X8_digestHeld_38 (S : List mjD) (RET : Option Value → mjH → Prop) (a0 : Nat) (x3 : Int32) (a4 : Nat) (x5 : Int64) (x7 : Int32) (I : Nat → Nat → Int32) (L : Nat → Nat → Int64) : Prop := V mr_X8_digestHeld (0, 0) RET 38 [(0, .ref a0), (3, .int x3), (4, .ref a4), (5, .long x5), (7, .int x7)] [] (S, I, L) (0, 0)
def hd_X8_digestHeld_54 (S : List mjD) (RET : Option Value → mjH → Prop) (a0 : Nat) (x3 : Int32) (a4 : Nat) (x5 : Int64) (x7 : Int32) (x8 : Int32) (I : Nat → Nat → Int32) (L : Nat → Nat → Int64) : Prop := V mr_X8_digestHeld (0, 0) RET 54 [(0, .ref a0), (3, .int x3), (4, .ref a4), (5, .long x5), (7, .int x7), (8, .int x8)] [] (S, I, L) (0, 0)
set_option maxRecDepth 100000 in
set_option maxHeartbeats 4000000 in
theorem it_X8_digestHeld_6 {S : List mjD} {RET : Option Value → mjH → Prop} {a0 : Nat} (h0 : is_Desk S a0) {x3 : Int32} {a4 : Nat} (h4 : is_Slot S a4) {x5 : Int64} {x7 : Int32} {I : Nat → Nat → Int32} {L : Nat → Nat → Int64} (H0 : (((5 : Int32) < x7 → hd_X8_digestHeld_38 S RET a0 x3 a4 x5 (0 : Int32) I L) ∧ (¬ (5 : Int32) < x7 → ∃ r4 I5 L6, CTi mr_X8_number [.ref a0, .int x3, .int x7] S I L r4 I5 L6 ∧ ∀ y9 : Int64, y9 = (((31 : Int64) * x5) + r4.toInt64) → ∀ y12 : Int32, y12 = x7 + 1 → hd_X8_digestHeld_6 S RET a0 x3 a4 y9 y12 I5 L6))) : hd_X8_digestHeld_6 S RET a0 x3 a4 x5 x7 I L := by
  unfold hd_X8_digestHeld_6
  refine V.iload dX8_digestHeld_6 rfl ?_
  refine V.iconst (v := (5)) dX8_digestHeld_8 (by decide) ?_
  refine V.icmp_gt (tgt := 35) dX8_digestHeld_9 (by decide) (fun c1 => ?_) (fun c1 => ?_)
  · have H2 := H0.1 c1
    refine V.iconst (v := (0)) dX8_digestHeld_35 (by decide) ?_
    refine V.istore (lo' := [(7, .int (0 : Int32)), (0, .ref a0), (3, .int x3), (4, .ref a4), (5, .long x5)]) dX8_digestHeld_36 (by decide) rfl ?_
    exact V.los [1, 2, 3, 4, 0] rfl H2
  · have H3 := H0.2 c1
    refine V.ldc2 kc_X8_301 dX8_digestHeld_12 ?_
    refine V.lload dX8_digestHeld_15 rfl ?_
    refine V.lmul dX8_digestHeld_17 ?_
    refine V.aload_n dX8_digestHeld_18 rfl rfl ?_
    refine V.iload_n dX8_digestHeld_19 rfl rfl ?_
    refine V.iload dX8_digestHeld_20 rfl ?_
    obtain ⟨r4, I5, L6, t7, H8⟩ := H3
    refine V.cVi (N := mr_X8_number) (as := [.int x3, .int x7]) dX8_digestHeld_22 ml_X8_318 ok_X8_number okV_X8_number ⟨Nat.le_of_ble_eq_true rfl, Nat.le_of_ble_eq_true rfl⟩ h0.1 rfl rfl rfl (Nat.le_of_ble_eq_true rfl) t7 ?_
    refine V.i2l dX8_digestHeld_25 ?_
    refine V.ladd dX8_digestHeld_26 ?_
    refine V.topl (fun y9 e10 => ?_)
    have H11 := H8 y9 e10
    refine V.lstore (lo' := [(5, .long y9), (0, .ref a0), (3, .int x3), (4, .ref a4), (7, .int x7)]) dX8_digestHeld_27 (by decide) rfl ?_
    obtain ⟨y12, e13⟩ : ∃ y : Int32, y = x7 + 1 := ⟨_, rfl⟩
    have H14 := H11 y12 e13
    refine V.iinc (v := y12) (lo' := [(7, .int y12), (5, .long y9), (0, .ref a0), (3, .int x3), (4, .ref a4)]) dX8_digestHeld_29 rfl (by rw [e13]; rfl) (by decide) rfl ?_
    refine V.goto (tgt := 6) dX8_digestHeld_32 (by decide) ?_
    exact V.los [2, 3, 4, 1, 0] rfl H14
set_option maxRecDepth 100000 in
set_option maxHeartbeats 4000000 in
theorem it_X8_digestHeld_38 {S : List mjD} {RET : Option Value → mjH → Prop} {a0 : Nat} (h0 : is_Desk S a0) {x3 : Int32} {a4 : Nat} (h4 : is_Slot S a4) {x5 : Int64} {x7 : Int32} {I : Nat → Nat → Int32} {L : Nat → Nat → Int64} (H0 : (((I (a4 + 3) 2) ≤ x7 → ∃ r17 I18 L19, CTi mr_X8_degrees [.ref a0, .int x3] S I L r17 I18 L19 ∧ ∀ y22 : Int64, y22 = (((31 : Int64) * x5) + r17.toInt64) → ∃ r25 I26 L27, CTl mr_X8_value [.ref a0, .int x3, .int (3 : Int32)] S I18 L19 r25 I26 L27 ∧ ∀ y30 : Int64, y30 = (((31 : Int64) * y22) + r25) → ∃ I34 L35, CTv mr_X5_spell [.ref (a4 + 1), .ref (a0 + 3)] S I26 L27 I34 L35 ∧ ∃ r38 I39 L40, CTl mr_X8_digestLine [.long y30, .ref (a0 + 3)] S I34 L35 r38 I39 L40 ∧ RET (some (.long r38)) (S, I39, L40)) ∧ (¬ (I (a4 + 3) 2) ≤ x7 → hd_X8_digestHeld_54 S RET a0 x3 a4 x5 x7 (0 : Int32) I L))) : hd_X8_digestHeld_38 S RET a0 x3 a4 x5 x7 I L := by
  unfold hd_X8_digestHeld_38
  refine V.iload dX8_digestHeld_38 rfl ?_
  refine V.aload dX8_digestHeld_40 rfl ?_
  refine V.getf (v := .ref (a4 + 3)) dX8_digestHeld_42 fl_X8_149 h4.1 (by decide) rfl ?_
  refine V.getf (v := .int (I (a4 + 3) 2)) dX8_digestHeld_45 fl_X8_152 h4.2.2.1 (by decide) rfl ?_
  refine V.icmp_ge (tgt := 92) dX8_digestHeld_48 (by decide) (fun c15 => ?_) (fun c15 => ?_)
  · have H16 := H0.1 c15
    refine V.ldc2 kc_X8_301 dX8_digestHeld_92 ?_
    refine V.lload dX8_digestHeld_95 rfl ?_
    refine V.lmul dX8_digestHeld_97 ?_
    refine V.aload_n dX8_digestHeld_98 rfl rfl ?_
    refine V.iload_n dX8_digestHeld_99 rfl rfl ?_
    obtain ⟨r17, I18, L19, t20, H21⟩ := H16
    refine V.cVi (N := mr_X8_degrees) (as := [.int x3]) dX8_digestHeld_100 ml_X8_325 ok_X8_degrees okV_X8_degrees ⟨Nat.le_of_ble_eq_true rfl, Nat.le_of_ble_eq_true rfl⟩ h0.1 rfl rfl rfl (Nat.le_of_ble_eq_true rfl) t20 ?_
    refine V.i2l dX8_digestHeld_103 ?_
    refine V.ladd dX8_digestHeld_104 ?_
    refine V.topl (fun y22 e23 => ?_)
    have H24 := H21 y22 e23
    refine V.lstore (lo' := [(5, .long y22), (0, .ref a0), (3, .int x3), (4, .ref a4), (7, .int x7)]) dX8_digestHeld_105 (by decide) rfl ?_
    refine V.ldc2 kc_X8_301 dX8_digestHeld_107 ?_
    refine V.lload dX8_digestHeld_110 rfl ?_
    refine V.lmul dX8_digestHeld_112 ?_
    refine V.aload_n dX8_digestHeld_113 rfl rfl ?_
    refine V.iload_n dX8_digestHeld_114 rfl rfl ?_
    refine V.iconst (v := (3)) dX8_digestHeld_115 (by decide) ?_
    obtain ⟨r25, I26, L27, t28, H29⟩ := H24
    refine V.cVl (N := mr_X8_value) (as := [.int x3, .int (3 : Int32)]) dX8_digestHeld_116 ml_X8_328 ok_X8_value okV_X8_value ⟨Nat.le_of_ble_eq_true rfl, Nat.le_of_ble_eq_true rfl⟩ h0.1 rfl rfl rfl (Nat.le_of_ble_eq_true rfl) t28 ?_
    refine V.ladd dX8_digestHeld_119 ?_
    refine V.topl (fun y30 e31 => ?_)
    have H32 := H29 y30 e31
    refine V.lstore (lo' := [(5, .long y30), (0, .ref a0), (3, .int x3), (4, .ref a4), (7, .int x7)]) dX8_digestHeld_120 (by decide) rfl ?_
    refine V.aload dX8_digestHeld_122 rfl ?_
    refine V.getf (v := .ref (a4 + 1)) dX8_digestHeld_124 fl_X8_135 h4.1 (by decide) rfl ?_
    refine V.aload_n dX8_digestHeld_127 rfl rfl ?_
    refine V.getf (v := .ref (a0 + 3)) dX8_digestHeld_128 fl_X8_16 h0.1 (by decide) rfl ?_
    obtain ⟨I34, L35, t36, H37⟩ := H32
    refine V.cVv (N := mr_X5_spell) (as := [.ref (a0 + 3)]) dX8_digestHeld_131 ml_X8_162 ok_X5_spell okV_X5_spell ⟨Nat.le_of_ble_eq_true rfl, Nat.le_of_ble_eq_true rfl⟩ h4.2.1.1 rfl rfl rfl (Nat.le_of_ble_eq_true rfl) t36 ?_
    refine V.lload dX8_digestHeld_134 rfl ?_
    refine V.aload_n dX8_digestHeld_136 rfl rfl ?_
    refine V.getf (v := .ref (a0 + 3)) dX8_digestHeld_137 fl_X8_16 h0.1 (by decide) rfl ?_
    obtain ⟨r38, I39, L40, t41, H42⟩ := H37
    refine V.cSl (N := mr_X8_digestLine) (as := [.long y30, .ref (a0 + 3)]) dX8_digestHeld_140 ml_X8_311 ok_X8_digestLine okS_X8_digestLine ⟨Nat.le_of_ble_eq_true rfl, Nat.le_of_ble_eq_true rfl⟩ rfl rfl (Nat.le_of_ble_eq_true rfl) t41 ?_
    exact V.ret (v := some (.long r38)) rfl (Or.inr (Or.inl ⟨_, rfl, dX8_digestHeld_143, rfl⟩)) ⟨Nat.le_refl _, Nat.le_refl _⟩ H42
  · have H43 := H0.2 c15
    refine V.iconst (v := (0)) dX8_digestHeld_51 (by decide) ?_
    refine V.istore (lo' := [(8, .int (0 : Int32)), (0, .ref a0), (3, .int x3), (4, .ref a4), (5, .long x5), (7, .int x7)]) dX8_digestHeld_52 (by decide) rfl ?_
    exact V.los [1, 2, 3, 4, 5, 0] rfl H43
set_option maxRecDepth 100000 in
set_option maxHeartbeats 4000000 in
theorem it_X8_digestHeld_54 {S : List mjD} {RET : Option Value → mjH → Prop} {a0 : Nat} (h0 : is_Desk S a0) {x3 : Int32} {a4 : Nat} (h4 : is_Slot S a4) {x5 : Int64} {x7 : Int32} {x8 : Int32} {I : Nat → Nat → Int32} {L : Nat → Nat → Int64} (H0 : (((8 : Int32) ≤ x8 → ∀ y46 : Int32, y46 = x7 + 1 → hd_X8_digestHeld_38 S RET a0 x3 a4 x5 y46 I L) ∧ (¬ (8 : Int32) ≤ x8 → ∃ r50 I51 L52, CTi mr_X8_factor [.ref a0, .int x3, .int x7, .int x8] S I L r50 I51 L52 ∧ ∀ y55 : Int64, y55 = (((31 : Int64) * x5) + r50.toInt64) → ∀ y58 : Int32, y58 = x8 + 1 → hd_X8_digestHeld_54 S RET a0 x3 a4 y55 x7 y58 I51 L52))) : hd_X8_digestHeld_54 S RET a0 x3 a4 x5 x7 x8 I L := by
  unfold hd_X8_digestHeld_54
  refine V.iload dX8_digestHeld_54 rfl ?_
  refine V.bipush (v := (8)) dX8_digestHeld_56 (by decide) ?_
  refine V.icmp_ge (tgt := 86) dX8_digestHeld_58 (by decide) (fun c44 => ?_) (fun c44 => ?_)
  · have H45 := H0.1 c44
    obtain ⟨y46, e47⟩ : ∃ y : Int32, y = x7 + 1 := ⟨_, rfl⟩
    have H48 := H45 y46 e47
    refine V.iinc (v := y46) (lo' := [(7, .int y46), (0, .ref a0), (3, .int x3), (4, .ref a4), (5, .long x5), (8, .int x8)]) dX8_digestHeld_86 rfl (by rw [e47]; rfl) (by decide) rfl ?_
    refine V.goto (tgt := 38) dX8_digestHeld_89 (by decide) ?_
    exact V.los [1, 2, 3, 4, 0] rfl H48
  · have H49 := H0.2 c44
    refine V.ldc2 kc_X8_301 dX8_digestHeld_61 ?_
    refine V.lload dX8_digestHeld_64 rfl ?_
    refine V.lmul dX8_digestHeld_66 ?_
    refine V.aload_n dX8_digestHeld_67 rfl rfl ?_
    refine V.iload_n dX8_digestHeld_68 rfl rfl ?_
    refine V.iload dX8_digestHeld_69 rfl ?_
    refine V.iload dX8_digestHeld_71 rfl ?_
    obtain ⟨r50, I51, L52, t53, H54⟩ := H49
    refine V.cVi (N := mr_X8_factor) (as := [.int x3, .int x7, .int x8]) dX8_digestHeld_73 ml_X8_321 ok_X8_factor okV_X8_factor ⟨Nat.le_of_ble_eq_true rfl, Nat.le_of_ble_eq_true rfl⟩ h0.1 rfl rfl rfl (Nat.le_of_ble_eq_true rfl) t53 ?_
    refine V.i2l dX8_digestHeld_76 ?_
    refine V.ladd dX8_digestHeld_77 ?_
    refine V.topl (fun y55 e56 => ?_)
    have H57 := H54 y55 e56
    refine V.lstore (lo' := [(5, .long y55), (0, .ref a0), (3, .int x3), (4, .ref a4), (7, .int x7), (8, .int x8)]) dX8_digestHeld_78 (by decide) rfl ?_
    obtain ⟨y58, e59⟩ : ∃ y : Int32, y = x8 + 1 := ⟨_, rfl⟩
    have H60 := H57 y58 e59
    refine V.iinc (v := y58) (lo' := [(8, .int y58), (5, .long y55), (0, .ref a0), (3, .int x3), (4, .ref a4), (7, .int x7)]) dX8_digestHeld_80 rfl (by rw [e59]; rfl) (by decide) rfl ?_
    refine V.goto (tgt := 54) dX8_digestHeld_83 (by decide) ?_
    exact V.los [2, 3, 4, 1, 5, 0] rfl H60
set_option maxRecDepth 100000 in
set_option maxHeartbeats 4000000 in
theorem wp_X8_digestHeld {S : List mjD} {RET : Option Value → mjH → Prop} {d : Nat} (hd : is_Desk S d) {a : Int64} {b : Int32} {q : Nat} (hq : is_Slot S q) {I : Nat → Nat → Int32} {L : Nat → Nat → Int64} (H0 : hd_X8_digestHeld_6 S RET d b q a (0 : Int32) I L) : CT mr_X8_digestHeld (0, 0) [.ref d, .long a, .int b, .ref q] (S, I, L) RET := by
  refine CT.of (lo := [(0, .ref d), (1, .long a), (3, .int b), (4, .ref q)]) (by decide) (fun _ _ => Nat.le_of_ble_eq_true rfl) (fun _ _ => rfl) rfl ?_
  refine V.lload_n dX8_digestHeld_0 rfl rfl ?_
  refine V.lstore (lo' := [(5, .long a), (0, .ref d), (1, .long a), (3, .int b), (4, .ref q)]) dX8_digestHeld_1 (by decide) rfl ?_
  refine V.iconst (v := (0)) dX8_digestHeld_3 (by decide) ?_
  refine V.istore (lo' := [(7, .int (0 : Int32)), (5, .long a), (0, .ref d), (1, .long a), (3, .int b), (4, .ref q)]) dX8_digestHeld_4 (by decide) rfl ?_
  exact V.los [2, 4, 5, 1, 0] rfl H0
set_option maxRecDepth 100000 in
set_option maxHeartbeats 4000000 in
theorem wp_X8_settle {S : List mjD} {RET : Option Value → mjH → Prop} {d : Nat} (hd : is_Desk S d) {q : Nat} (hq : is_Slot S q) {I : Nat → Nat → Int32} {L : Nat → Nat → Int64} (H0 : ∃ r1 I2 L3, CTi mr_X5_isInRange [.ref (d + 8)] S I L r1 I2 L3 ∧ ((¬ r1 = 0 → (((I2 q 2) = 1 → ∃ I12 L13, CTv mr_X5_copyFrom [.ref (d + 10), .ref (d + 8)] S I2 L3 I12 L13 ∧ ∃ r16 I17 L18, CTl mr_X5_content [.ref (d + 8)] S I12 L13 r16 I17 L18 ∧ ∃ I22 L23, CTv mr_X5_divideBy [.ref (d + 10), .long r16] S I17 L18 I22 L23 ∧ ∃ r26 I27 L28, CTi mr_X5_isInRange [.ref (d + 10)] S I22 L23 r26 I27 L28 ∧ ((¬ r26 = 0 → ∃ I34 L35, CTv mr_X5_copyFrom [.ref (q + 1), .ref (d + 10)] S I27 L28 I34 L35 ∧ ∃ I39 L40, CTv mr_X0_run [.ref (d + 12), .ref (q + 1), .ref (q + 3)] S (mj_up I34 q 3 (1 : Int32)) L35 I39 L40 ∧ ∃ r43 I44 L45, CTi mr_X5_degree [.ref (q + 1)] S I39 L40 r43 I44 L45 ∧ RET (some (.int r43)) (S, I44, L45)) ∧ (r26 = 0 → RET (some (.int (-104 : Int32))) (S, I27, L28)))) ∧ ((I2 q 2) = 2 → ∃ I51 L52, CTv mr_X0_run [.ref (d + 12), .ref (d + 8), .ref (d + 21)] S I2 L3 I51 L52 ∧ ∃ I56 L57, CTv mr_X1_multiplyEachOnce [.ref (d + 21), .ref (d + 10)] S I51 L52 I56 L57 ∧ ∃ r60 I61 L62, CTi mr_X5_isInRange [.ref (d + 10)] S I56 L57 r60 I61 L62 ∧ ((¬ r60 = 0 → ∃ I68 L69, CTv mr_X5_copyFrom [.ref (q + 1), .ref (d + 10)] S I61 L62 I68 L69 ∧ ∃ I73 L74, CTv mr_X0_run [.ref (d + 12), .ref (q + 1), .ref (q + 3)] S (mj_up I68 q 3 (1 : Int32)) L69 I73 L74 ∧ ∃ r77 I78 L79, CTi mr_X5_degree [.ref (q + 1)] S I73 L74 r77 I78 L79 ∧ RET (some (.int r77)) (S, I78, L79)) ∧ (r60 = 0 → RET (some (.int (-104 : Int32))) (S, I61, L62)))) ∧ ((I2 q 2) = 3 → ∃ I85 L86, CTv mr_X5_reverseFrom [.ref (d + 10), .ref (d + 8)] S I2 L3 I85 L86 ∧ ∃ r89 I90 L91, CTi mr_X5_isInRange [.ref (d + 10)] S I85 L86 r89 I90 L91 ∧ ((¬ r89 = 0 → ∃ I97 L98, CTv mr_X5_copyFrom [.ref (q + 1), .ref (d + 10)] S I90 L91 I97 L98 ∧ ∃ I102 L103, CTv mr_X0_run [.ref (d + 12), .ref (q + 1), .ref (q + 3)] S (mj_up I97 q 3 (1 : Int32)) L98 I102 L103 ∧ ∃ r106 I107 L108, CTi mr_X5_degree [.ref (q + 1)] S I102 L103 r106 I107 L108 ∧ RET (some (.int r106)) (S, I107, L108)) ∧ (r89 = 0 → RET (some (.int (-104 : Int32))) (S, I90, L91)))) ∧ ((I2 q 2) = 4 → ∃ I114 L115, CTv mr_X5_mirrorFrom [.ref (d + 10), .ref (d + 8)] S I2 L3 I114 L115 ∧ ∃ r118 I119 L120, CTi mr_X5_isInRange [.ref (d + 10)] S I114 L115 r118 I119 L120 ∧ ((¬ r118 = 0 → ∃ I126 L127, CTv mr_X5_copyFrom [.ref (q + 1), .ref (d + 10)] S I119 L120 I126 L127 ∧ ∃ I131 L132, CTv mr_X0_run [.ref (d + 12), .ref (q + 1), .ref (q + 3)] S (mj_up I126 q 3 (1 : Int32)) L127 I131 L132 ∧ ∃ r135 I136 L137, CTi mr_X5_degree [.ref (q + 1)] S I131 L132 r135 I136 L137 ∧ RET (some (.int r135)) (S, I136, L137)) ∧ (r118 = 0 → RET (some (.int (-104 : Int32))) (S, I119, L120)))) ∧ ((I2 q 2).toInt < 1 ∨ 4 < (I2 q 2).toInt → ∃ I143 L144, CTv mr_X5_copyFrom [.ref (d + 10), .ref (d + 8)] S I2 L3 I143 L144 ∧ ∃ r147 I148 L149, CTi mr_X5_isInRange [.ref (d + 10)] S I143 L144 r147 I148 L149 ∧ ((¬ r147 = 0 → ∃ I155 L156, CTv mr_X5_copyFrom [.ref (q + 1), .ref (d + 10)] S I148 L149 I155 L156 ∧ ∃ I160 L161, CTv mr_X0_run [.ref (d + 12), .ref (q + 1), .ref (q + 3)] S (mj_up I155 q 3 (1 : Int32)) L156 I160 L161 ∧ ∃ r164 I165 L166, CTi mr_X5_degree [.ref (q + 1)] S I160 L161 r164 I165 L166 ∧ RET (some (.int r164)) (S, I165, L166)) ∧ (r147 = 0 → RET (some (.int (-104 : Int32))) (S, I148, L149)))))) ∧ (r1 = 0 → RET (some (.int (-104 : Int32))) (S, I2, L3)))) : CT mr_X8_settle (0, 0) [.ref d, .ref q] (S, I, L) RET := by
  refine CT.of (lo := [(0, .ref d), (1, .ref q)]) (by decide) (fun _ _ => Nat.le_of_ble_eq_true rfl) (fun _ _ => rfl) rfl ?_
  refine V.aload_n dX8_settle_0 rfl rfl ?_
  refine V.getf (v := .ref (d + 8)) dX8_settle_1 fl_X8_29 hd.1 (by decide) rfl ?_
  obtain ⟨r1, I2, L3, t4, H5⟩ := H0
  refine V.cVi (N := mr_X5_isInRange) (as := []) dX8_settle_4 ml_X8_191 ok_X5_isInRange okV_X5_isInRange ⟨Nat.le_of_ble_eq_true rfl, Nat.le_of_ble_eq_true rfl⟩ hd.2.2.2.2.1.1 rfl rfl rfl (Nat.le_of_ble_eq_true rfl) t4 ?_
  refine V.if_ne (tgt := 13) dX8_settle_7 (by decide) (fun c6 => ?_) (fun c6 => ?_)
  · have H7 := H5.1 c6
    refine V.aload_n dX8_settle_13 rfl rfl ?_
    refine V.getf (v := .int (I2 q 2)) dX8_settle_14 fl_X8_96 hq.1 (by decide) rfl ?_
    rcases mj_sw_1_4 (I2 q 2) with c8 | c8 | c8 | c8 | c8
    · have H10 := H7.1 c8
      refine V.tableIn (off := 31) (tgt := 48) dX8_settle_17 (by rw [c8]; decide) (by rw [c8]; decide) (by rw [c8]; rfl) (by decide) ?_
      refine V.aload_n dX8_settle_48 rfl rfl ?_
      refine V.getf (v := .ref (d + 10)) dX8_settle_49 fl_X8_33 hd.1 (by decide) rfl ?_
      refine V.aload_n dX8_settle_52 rfl rfl ?_
      refine V.getf (v := .ref (d + 8)) dX8_settle_53 fl_X8_29 hd.1 (by decide) rfl ?_
      obtain ⟨I12, L13, t14, H15⟩ := H10
      refine V.cVv (N := mr_X5_copyFrom) (as := [.ref (d + 8)]) dX8_settle_56 ml_X8_127 ok_X5_copyFrom okV_X5_copyFrom ⟨Nat.le_of_ble_eq_true rfl, Nat.le_of_ble_eq_true rfl⟩ hd.2.2.2.2.2.1.1 rfl rfl rfl (Nat.le_of_ble_eq_true rfl) t14 ?_
      refine V.aload_n dX8_settle_59 rfl rfl ?_
      refine V.getf (v := .ref (d + 10)) dX8_settle_60 fl_X8_33 hd.1 (by decide) rfl ?_
      refine V.aload_n dX8_settle_63 rfl rfl ?_
      refine V.getf (v := .ref (d + 8)) dX8_settle_64 fl_X8_29 hd.1 (by decide) rfl ?_
      obtain ⟨r16, I17, L18, t19, H20⟩ := H15
      refine V.cVl (N := mr_X5_content) (as := []) dX8_settle_67 ml_X8_142 ok_X5_content okV_X5_content ⟨Nat.le_of_ble_eq_true rfl, Nat.le_of_ble_eq_true rfl⟩ hd.2.2.2.2.1.1 rfl rfl rfl (Nat.le_of_ble_eq_true rfl) t19 ?_
      obtain ⟨I22, L23, t24, H25⟩ := H20
      refine V.cVv (N := mr_X5_divideBy) (as := [.long r16]) dX8_settle_70 ml_X8_194 ok_X5_divideBy okV_X5_divideBy ⟨Nat.le_of_ble_eq_true rfl, Nat.le_of_ble_eq_true rfl⟩ hd.2.2.2.2.2.1.1 rfl rfl rfl (Nat.le_of_ble_eq_true rfl) t24 ?_
      refine V.goto (tgt := 144) dX8_settle_73 (by decide) ?_
      refine V.aload_n dX8_settle_144 rfl rfl ?_
      refine V.getf (v := .ref (d + 10)) dX8_settle_145 fl_X8_33 hd.1 (by decide) rfl ?_
      obtain ⟨r26, I27, L28, t29, H30⟩ := H25
      refine V.cVi (N := mr_X5_isInRange) (as := []) dX8_settle_148 ml_X8_191 ok_X5_isInRange okV_X5_isInRange ⟨Nat.le_of_ble_eq_true rfl, Nat.le_of_ble_eq_true rfl⟩ hd.2.2.2.2.2.1.1 rfl rfl rfl (Nat.le_of_ble_eq_true rfl) t29 ?_
      refine V.if_ne (tgt := 157) dX8_settle_151 (by decide) (fun c31 => ?_) (fun c31 => ?_)
      · have H32 := H30.1 c31
        refine V.aload_n dX8_settle_157 rfl rfl ?_
        refine V.getf (v := .ref (q + 1)) dX8_settle_158 fl_X8_135 hq.1 (by decide) rfl ?_
        refine V.aload_n dX8_settle_161 rfl rfl ?_
        refine V.getf (v := .ref (d + 10)) dX8_settle_162 fl_X8_33 hd.1 (by decide) rfl ?_
        obtain ⟨I34, L35, t36, H37⟩ := H32
        refine V.cVv (N := mr_X5_copyFrom) (as := [.ref (d + 10)]) dX8_settle_165 ml_X8_127 ok_X5_copyFrom okV_X5_copyFrom ⟨Nat.le_of_ble_eq_true rfl, Nat.le_of_ble_eq_true rfl⟩ hq.2.1.1 rfl rfl rfl (Nat.le_of_ble_eq_true rfl) t36 ?_
        refine V.aload_n dX8_settle_168 rfl rfl ?_
        refine V.iconst (v := (1)) dX8_settle_169 (by decide) ?_
        refine V.puti dX8_settle_170 fl_X8_99 fp_X8_99 (Or.inr rfl) hq.1 (by decide) (by decide) (by decide) ?_
        refine V.aload_n dX8_settle_173 rfl rfl ?_
        refine V.getf (v := .ref (d + 12)) dX8_settle_174 fl_X8_39 hd.1 (by decide) rfl ?_
        refine V.aload_n dX8_settle_177 rfl rfl ?_
        refine V.getf (v := .ref (q + 1)) dX8_settle_178 fl_X8_135 hq.1 (by decide) rfl ?_
        refine V.aload_n dX8_settle_181 rfl rfl ?_
        refine V.getf (v := .ref (q + 3)) dX8_settle_182 fl_X8_149 hq.1 (by decide) rfl ?_
        obtain ⟨I39, L40, t41, H42⟩ := H37
        refine V.cVv (N := mr_X0_run) (as := [.ref (q + 1), .ref (q + 3)]) dX8_settle_185 ml_X8_198 ok_X0_run okV_X0_run ⟨Nat.le_of_ble_eq_true rfl, Nat.le_of_ble_eq_true rfl⟩ hd.2.2.2.2.2.2.1.1 rfl rfl rfl (Nat.le_of_ble_eq_true rfl) t41 ?_
        refine V.aload_n dX8_settle_188 rfl rfl ?_
        refine V.getf (v := .ref (q + 1)) dX8_settle_189 fl_X8_135 hq.1 (by decide) rfl ?_
        obtain ⟨r43, I44, L45, t46, H47⟩ := H42
        refine V.cVi (N := mr_X5_degree) (as := []) dX8_settle_192 ml_X8_138 ok_X5_degree okV_X5_degree ⟨Nat.le_of_ble_eq_true rfl, Nat.le_of_ble_eq_true rfl⟩ hq.2.1.1 rfl rfl rfl (Nat.le_of_ble_eq_true rfl) t46 ?_
        exact V.ret (v := some (.int r43)) rfl (Or.inl ⟨_, rfl, dX8_settle_195, _, rfl, rfl⟩) ⟨Nat.le_refl _, Nat.le_refl _⟩ H47
      · have H48 := H30.2 c31
        refine V.bipush (v := (-104)) dX8_settle_154 (by decide) ?_
        exact V.ret (v := some (.int (-104 : Int32))) rfl (Or.inl ⟨_, rfl, dX8_settle_156, _, rfl, rfl⟩) ⟨Nat.le_refl _, Nat.le_refl _⟩ H48
    · have H49 := H7.2.1 c8
      refine V.tableIn (off := 59) (tgt := 76) dX8_settle_17 (by rw [c8]; decide) (by rw [c8]; decide) (by rw [c8]; rfl) (by decide) ?_
      refine V.aload_n dX8_settle_76 rfl rfl ?_
      refine V.getf (v := .ref (d + 12)) dX8_settle_77 fl_X8_39 hd.1 (by decide) rfl ?_
      refine V.aload_n dX8_settle_80 rfl rfl ?_
      refine V.getf (v := .ref (d + 8)) dX8_settle_81 fl_X8_29 hd.1 (by decide) rfl ?_
      refine V.aload_n dX8_settle_84 rfl rfl ?_
      refine V.getf (v := .ref (d + 21)) dX8_settle_85 fl_X8_46 hd.1 (by decide) rfl ?_
      obtain ⟨I51, L52, t53, H54⟩ := H49
      refine V.cVv (N := mr_X0_run) (as := [.ref (d + 8), .ref (d + 21)]) dX8_settle_88 ml_X8_198 ok_X0_run okV_X0_run ⟨Nat.le_of_ble_eq_true rfl, Nat.le_of_ble_eq_true rfl⟩ hd.2.2.2.2.2.2.1.1 rfl rfl rfl (Nat.le_of_ble_eq_true rfl) t53 ?_
      refine V.aload_n dX8_settle_91 rfl rfl ?_
      refine V.getf (v := .ref (d + 21)) dX8_settle_92 fl_X8_46 hd.1 (by decide) rfl ?_
      refine V.aload_n dX8_settle_95 rfl rfl ?_
      refine V.getf (v := .ref (d + 10)) dX8_settle_96 fl_X8_33 hd.1 (by decide) rfl ?_
      obtain ⟨I56, L57, t58, H59⟩ := H54
      refine V.cVv (N := mr_X1_multiplyEachOnce) (as := [.ref (d + 10)]) dX8_settle_99 ml_X8_202 ok_X1_multiplyEachOnce okV_X1_multiplyEachOnce ⟨Nat.le_of_ble_eq_true rfl, Nat.le_of_ble_eq_true rfl⟩ hd.2.2.2.2.2.2.2.1.1 rfl rfl rfl (Nat.le_of_ble_eq_true rfl) t58 ?_
      refine V.goto (tgt := 144) dX8_settle_102 (by decide) ?_
      refine V.aload_n dX8_settle_144 rfl rfl ?_
      refine V.getf (v := .ref (d + 10)) dX8_settle_145 fl_X8_33 hd.1 (by decide) rfl ?_
      obtain ⟨r60, I61, L62, t63, H64⟩ := H59
      refine V.cVi (N := mr_X5_isInRange) (as := []) dX8_settle_148 ml_X8_191 ok_X5_isInRange okV_X5_isInRange ⟨Nat.le_of_ble_eq_true rfl, Nat.le_of_ble_eq_true rfl⟩ hd.2.2.2.2.2.1.1 rfl rfl rfl (Nat.le_of_ble_eq_true rfl) t63 ?_
      refine V.if_ne (tgt := 157) dX8_settle_151 (by decide) (fun c65 => ?_) (fun c65 => ?_)
      · have H66 := H64.1 c65
        refine V.aload_n dX8_settle_157 rfl rfl ?_
        refine V.getf (v := .ref (q + 1)) dX8_settle_158 fl_X8_135 hq.1 (by decide) rfl ?_
        refine V.aload_n dX8_settle_161 rfl rfl ?_
        refine V.getf (v := .ref (d + 10)) dX8_settle_162 fl_X8_33 hd.1 (by decide) rfl ?_
        obtain ⟨I68, L69, t70, H71⟩ := H66
        refine V.cVv (N := mr_X5_copyFrom) (as := [.ref (d + 10)]) dX8_settle_165 ml_X8_127 ok_X5_copyFrom okV_X5_copyFrom ⟨Nat.le_of_ble_eq_true rfl, Nat.le_of_ble_eq_true rfl⟩ hq.2.1.1 rfl rfl rfl (Nat.le_of_ble_eq_true rfl) t70 ?_
        refine V.aload_n dX8_settle_168 rfl rfl ?_
        refine V.iconst (v := (1)) dX8_settle_169 (by decide) ?_
        refine V.puti dX8_settle_170 fl_X8_99 fp_X8_99 (Or.inr rfl) hq.1 (by decide) (by decide) (by decide) ?_
        refine V.aload_n dX8_settle_173 rfl rfl ?_
        refine V.getf (v := .ref (d + 12)) dX8_settle_174 fl_X8_39 hd.1 (by decide) rfl ?_
        refine V.aload_n dX8_settle_177 rfl rfl ?_
        refine V.getf (v := .ref (q + 1)) dX8_settle_178 fl_X8_135 hq.1 (by decide) rfl ?_
        refine V.aload_n dX8_settle_181 rfl rfl ?_
        refine V.getf (v := .ref (q + 3)) dX8_settle_182 fl_X8_149 hq.1 (by decide) rfl ?_
        obtain ⟨I73, L74, t75, H76⟩ := H71
        refine V.cVv (N := mr_X0_run) (as := [.ref (q + 1), .ref (q + 3)]) dX8_settle_185 ml_X8_198 ok_X0_run okV_X0_run ⟨Nat.le_of_ble_eq_true rfl, Nat.le_of_ble_eq_true rfl⟩ hd.2.2.2.2.2.2.1.1 rfl rfl rfl (Nat.le_of_ble_eq_true rfl) t75 ?_
        refine V.aload_n dX8_settle_188 rfl rfl ?_
        refine V.getf (v := .ref (q + 1)) dX8_settle_189 fl_X8_135 hq.1 (by decide) rfl ?_
        obtain ⟨r77, I78, L79, t80, H81⟩ := H76
        refine V.cVi (N := mr_X5_degree) (as := []) dX8_settle_192 ml_X8_138 ok_X5_degree okV_X5_degree ⟨Nat.le_of_ble_eq_true rfl, Nat.le_of_ble_eq_true rfl⟩ hq.2.1.1 rfl rfl rfl (Nat.le_of_ble_eq_true rfl) t80 ?_
        exact V.ret (v := some (.int r77)) rfl (Or.inl ⟨_, rfl, dX8_settle_195, _, rfl, rfl⟩) ⟨Nat.le_refl _, Nat.le_refl _⟩ H81
      · have H82 := H64.2 c65
        refine V.bipush (v := (-104)) dX8_settle_154 (by decide) ?_
        exact V.ret (v := some (.int (-104 : Int32))) rfl (Or.inl ⟨_, rfl, dX8_settle_156, _, rfl, rfl⟩) ⟨Nat.le_refl _, Nat.le_refl _⟩ H82
    · have H83 := H7.2.2.1 c8
      refine V.tableIn (off := 88) (tgt := 105) dX8_settle_17 (by rw [c8]; decide) (by rw [c8]; decide) (by rw [c8]; rfl) (by decide) ?_
      refine V.aload_n dX8_settle_105 rfl rfl ?_
      refine V.getf (v := .ref (d + 10)) dX8_settle_106 fl_X8_33 hd.1 (by decide) rfl ?_
      refine V.aload_n dX8_settle_109 rfl rfl ?_
      refine V.getf (v := .ref (d + 8)) dX8_settle_110 fl_X8_29 hd.1 (by decide) rfl ?_
      obtain ⟨I85, L86, t87, H88⟩ := H83
      refine V.cVv (N := mr_X5_reverseFrom) (as := [.ref (d + 8)]) dX8_settle_113 ml_X8_205 ok_X5_reverseFrom okV_X5_reverseFrom ⟨Nat.le_of_ble_eq_true rfl, Nat.le_of_ble_eq_true rfl⟩ hd.2.2.2.2.2.1.1 rfl rfl rfl (Nat.le_of_ble_eq_true rfl) t87 ?_
      refine V.goto (tgt := 144) dX8_settle_116 (by decide) ?_
      refine V.aload_n dX8_settle_144 rfl rfl ?_
      refine V.getf (v := .ref (d + 10)) dX8_settle_145 fl_X8_33 hd.1 (by decide) rfl ?_
      obtain ⟨r89, I90, L91, t92, H93⟩ := H88
      refine V.cVi (N := mr_X5_isInRange) (as := []) dX8_settle_148 ml_X8_191 ok_X5_isInRange okV_X5_isInRange ⟨Nat.le_of_ble_eq_true rfl, Nat.le_of_ble_eq_true rfl⟩ hd.2.2.2.2.2.1.1 rfl rfl rfl (Nat.le_of_ble_eq_true rfl) t92 ?_
      refine V.if_ne (tgt := 157) dX8_settle_151 (by decide) (fun c94 => ?_) (fun c94 => ?_)
      · have H95 := H93.1 c94
        refine V.aload_n dX8_settle_157 rfl rfl ?_
        refine V.getf (v := .ref (q + 1)) dX8_settle_158 fl_X8_135 hq.1 (by decide) rfl ?_
        refine V.aload_n dX8_settle_161 rfl rfl ?_
        refine V.getf (v := .ref (d + 10)) dX8_settle_162 fl_X8_33 hd.1 (by decide) rfl ?_
        obtain ⟨I97, L98, t99, H100⟩ := H95
        refine V.cVv (N := mr_X5_copyFrom) (as := [.ref (d + 10)]) dX8_settle_165 ml_X8_127 ok_X5_copyFrom okV_X5_copyFrom ⟨Nat.le_of_ble_eq_true rfl, Nat.le_of_ble_eq_true rfl⟩ hq.2.1.1 rfl rfl rfl (Nat.le_of_ble_eq_true rfl) t99 ?_
        refine V.aload_n dX8_settle_168 rfl rfl ?_
        refine V.iconst (v := (1)) dX8_settle_169 (by decide) ?_
        refine V.puti dX8_settle_170 fl_X8_99 fp_X8_99 (Or.inr rfl) hq.1 (by decide) (by decide) (by decide) ?_
        refine V.aload_n dX8_settle_173 rfl rfl ?_
        refine V.getf (v := .ref (d + 12)) dX8_settle_174 fl_X8_39 hd.1 (by decide) rfl ?_
        refine V.aload_n dX8_settle_177 rfl rfl ?_
        refine V.getf (v := .ref (q + 1)) dX8_settle_178 fl_X8_135 hq.1 (by decide) rfl ?_
        refine V.aload_n dX8_settle_181 rfl rfl ?_
        refine V.getf (v := .ref (q + 3)) dX8_settle_182 fl_X8_149 hq.1 (by decide) rfl ?_
        obtain ⟨I102, L103, t104, H105⟩ := H100
        refine V.cVv (N := mr_X0_run) (as := [.ref (q + 1), .ref (q + 3)]) dX8_settle_185 ml_X8_198 ok_X0_run okV_X0_run ⟨Nat.le_of_ble_eq_true rfl, Nat.le_of_ble_eq_true rfl⟩ hd.2.2.2.2.2.2.1.1 rfl rfl rfl (Nat.le_of_ble_eq_true rfl) t104 ?_
        refine V.aload_n dX8_settle_188 rfl rfl ?_
        refine V.getf (v := .ref (q + 1)) dX8_settle_189 fl_X8_135 hq.1 (by decide) rfl ?_
        obtain ⟨r106, I107, L108, t109, H110⟩ := H105
        refine V.cVi (N := mr_X5_degree) (as := []) dX8_settle_192 ml_X8_138 ok_X5_degree okV_X5_degree ⟨Nat.le_of_ble_eq_true rfl, Nat.le_of_ble_eq_true rfl⟩ hq.2.1.1 rfl rfl rfl (Nat.le_of_ble_eq_true rfl) t109 ?_
        exact V.ret (v := some (.int r106)) rfl (Or.inl ⟨_, rfl, dX8_settle_195, _, rfl, rfl⟩) ⟨Nat.le_refl _, Nat.le_refl _⟩ H110
      · have H111 := H93.2 c94
        refine V.bipush (v := (-104)) dX8_settle_154 (by decide) ?_
        exact V.ret (v := some (.int (-104 : Int32))) rfl (Or.inl ⟨_, rfl, dX8_settle_156, _, rfl, rfl⟩) ⟨Nat.le_refl _, Nat.le_refl _⟩ H111
    · have H112 := H7.2.2.2.1 c8
      refine V.tableIn (off := 102) (tgt := 119) dX8_settle_17 (by rw [c8]; decide) (by rw [c8]; decide) (by rw [c8]; rfl) (by decide) ?_
      refine V.aload_n dX8_settle_119 rfl rfl ?_
      refine V.getf (v := .ref (d + 10)) dX8_settle_120 fl_X8_33 hd.1 (by decide) rfl ?_
      refine V.aload_n dX8_settle_123 rfl rfl ?_
      refine V.getf (v := .ref (d + 8)) dX8_settle_124 fl_X8_29 hd.1 (by decide) rfl ?_
      obtain ⟨I114, L115, t116, H117⟩ := H112
      refine V.cVv (N := mr_X5_mirrorFrom) (as := [.ref (d + 8)]) dX8_settle_127 ml_X8_208 ok_X5_mirrorFrom okV_X5_mirrorFrom ⟨Nat.le_of_ble_eq_true rfl, Nat.le_of_ble_eq_true rfl⟩ hd.2.2.2.2.2.1.1 rfl rfl rfl (Nat.le_of_ble_eq_true rfl) t116 ?_
      refine V.goto (tgt := 144) dX8_settle_130 (by decide) ?_
      refine V.aload_n dX8_settle_144 rfl rfl ?_
      refine V.getf (v := .ref (d + 10)) dX8_settle_145 fl_X8_33 hd.1 (by decide) rfl ?_
      obtain ⟨r118, I119, L120, t121, H122⟩ := H117
      refine V.cVi (N := mr_X5_isInRange) (as := []) dX8_settle_148 ml_X8_191 ok_X5_isInRange okV_X5_isInRange ⟨Nat.le_of_ble_eq_true rfl, Nat.le_of_ble_eq_true rfl⟩ hd.2.2.2.2.2.1.1 rfl rfl rfl (Nat.le_of_ble_eq_true rfl) t121 ?_
      refine V.if_ne (tgt := 157) dX8_settle_151 (by decide) (fun c123 => ?_) (fun c123 => ?_)
      · have H124 := H122.1 c123
        refine V.aload_n dX8_settle_157 rfl rfl ?_
        refine V.getf (v := .ref (q + 1)) dX8_settle_158 fl_X8_135 hq.1 (by decide) rfl ?_
        refine V.aload_n dX8_settle_161 rfl rfl ?_
        refine V.getf (v := .ref (d + 10)) dX8_settle_162 fl_X8_33 hd.1 (by decide) rfl ?_
        obtain ⟨I126, L127, t128, H129⟩ := H124
        refine V.cVv (N := mr_X5_copyFrom) (as := [.ref (d + 10)]) dX8_settle_165 ml_X8_127 ok_X5_copyFrom okV_X5_copyFrom ⟨Nat.le_of_ble_eq_true rfl, Nat.le_of_ble_eq_true rfl⟩ hq.2.1.1 rfl rfl rfl (Nat.le_of_ble_eq_true rfl) t128 ?_
        refine V.aload_n dX8_settle_168 rfl rfl ?_
        refine V.iconst (v := (1)) dX8_settle_169 (by decide) ?_
        refine V.puti dX8_settle_170 fl_X8_99 fp_X8_99 (Or.inr rfl) hq.1 (by decide) (by decide) (by decide) ?_
        refine V.aload_n dX8_settle_173 rfl rfl ?_
        refine V.getf (v := .ref (d + 12)) dX8_settle_174 fl_X8_39 hd.1 (by decide) rfl ?_
        refine V.aload_n dX8_settle_177 rfl rfl ?_
        refine V.getf (v := .ref (q + 1)) dX8_settle_178 fl_X8_135 hq.1 (by decide) rfl ?_
        refine V.aload_n dX8_settle_181 rfl rfl ?_
        refine V.getf (v := .ref (q + 3)) dX8_settle_182 fl_X8_149 hq.1 (by decide) rfl ?_
        obtain ⟨I131, L132, t133, H134⟩ := H129
        refine V.cVv (N := mr_X0_run) (as := [.ref (q + 1), .ref (q + 3)]) dX8_settle_185 ml_X8_198 ok_X0_run okV_X0_run ⟨Nat.le_of_ble_eq_true rfl, Nat.le_of_ble_eq_true rfl⟩ hd.2.2.2.2.2.2.1.1 rfl rfl rfl (Nat.le_of_ble_eq_true rfl) t133 ?_
        refine V.aload_n dX8_settle_188 rfl rfl ?_
        refine V.getf (v := .ref (q + 1)) dX8_settle_189 fl_X8_135 hq.1 (by decide) rfl ?_
        obtain ⟨r135, I136, L137, t138, H139⟩ := H134
        refine V.cVi (N := mr_X5_degree) (as := []) dX8_settle_192 ml_X8_138 ok_X5_degree okV_X5_degree ⟨Nat.le_of_ble_eq_true rfl, Nat.le_of_ble_eq_true rfl⟩ hq.2.1.1 rfl rfl rfl (Nat.le_of_ble_eq_true rfl) t138 ?_
        exact V.ret (v := some (.int r135)) rfl (Or.inl ⟨_, rfl, dX8_settle_195, _, rfl, rfl⟩) ⟨Nat.le_refl _, Nat.le_refl _⟩ H139
      · have H140 := H122.2 c123
        refine V.bipush (v := (-104)) dX8_settle_154 (by decide) ?_
        exact V.ret (v := some (.int (-104 : Int32))) rfl (Or.inl ⟨_, rfl, dX8_settle_156, _, rfl, rfl⟩) ⟨Nat.le_refl _, Nat.le_refl _⟩ H140
    · have H141 := H7.2.2.2.2 c8
      refine V.tableOut (tgt := 133) dX8_settle_17 c8 (by decide) ?_
      refine V.aload_n dX8_settle_133 rfl rfl ?_
      refine V.getf (v := .ref (d + 10)) dX8_settle_134 fl_X8_33 hd.1 (by decide) rfl ?_
      refine V.aload_n dX8_settle_137 rfl rfl ?_
      refine V.getf (v := .ref (d + 8)) dX8_settle_138 fl_X8_29 hd.1 (by decide) rfl ?_
      obtain ⟨I143, L144, t145, H146⟩ := H141
      refine V.cVv (N := mr_X5_copyFrom) (as := [.ref (d + 8)]) dX8_settle_141 ml_X8_127 ok_X5_copyFrom okV_X5_copyFrom ⟨Nat.le_of_ble_eq_true rfl, Nat.le_of_ble_eq_true rfl⟩ hd.2.2.2.2.2.1.1 rfl rfl rfl (Nat.le_of_ble_eq_true rfl) t145 ?_
      refine V.aload_n dX8_settle_144 rfl rfl ?_
      refine V.getf (v := .ref (d + 10)) dX8_settle_145 fl_X8_33 hd.1 (by decide) rfl ?_
      obtain ⟨r147, I148, L149, t150, H151⟩ := H146
      refine V.cVi (N := mr_X5_isInRange) (as := []) dX8_settle_148 ml_X8_191 ok_X5_isInRange okV_X5_isInRange ⟨Nat.le_of_ble_eq_true rfl, Nat.le_of_ble_eq_true rfl⟩ hd.2.2.2.2.2.1.1 rfl rfl rfl (Nat.le_of_ble_eq_true rfl) t150 ?_
      refine V.if_ne (tgt := 157) dX8_settle_151 (by decide) (fun c152 => ?_) (fun c152 => ?_)
      · have H153 := H151.1 c152
        refine V.aload_n dX8_settle_157 rfl rfl ?_
        refine V.getf (v := .ref (q + 1)) dX8_settle_158 fl_X8_135 hq.1 (by decide) rfl ?_
        refine V.aload_n dX8_settle_161 rfl rfl ?_
        refine V.getf (v := .ref (d + 10)) dX8_settle_162 fl_X8_33 hd.1 (by decide) rfl ?_
        obtain ⟨I155, L156, t157, H158⟩ := H153
        refine V.cVv (N := mr_X5_copyFrom) (as := [.ref (d + 10)]) dX8_settle_165 ml_X8_127 ok_X5_copyFrom okV_X5_copyFrom ⟨Nat.le_of_ble_eq_true rfl, Nat.le_of_ble_eq_true rfl⟩ hq.2.1.1 rfl rfl rfl (Nat.le_of_ble_eq_true rfl) t157 ?_
        refine V.aload_n dX8_settle_168 rfl rfl ?_
        refine V.iconst (v := (1)) dX8_settle_169 (by decide) ?_
        refine V.puti dX8_settle_170 fl_X8_99 fp_X8_99 (Or.inr rfl) hq.1 (by decide) (by decide) (by decide) ?_
        refine V.aload_n dX8_settle_173 rfl rfl ?_
        refine V.getf (v := .ref (d + 12)) dX8_settle_174 fl_X8_39 hd.1 (by decide) rfl ?_
        refine V.aload_n dX8_settle_177 rfl rfl ?_
        refine V.getf (v := .ref (q + 1)) dX8_settle_178 fl_X8_135 hq.1 (by decide) rfl ?_
        refine V.aload_n dX8_settle_181 rfl rfl ?_
        refine V.getf (v := .ref (q + 3)) dX8_settle_182 fl_X8_149 hq.1 (by decide) rfl ?_
        obtain ⟨I160, L161, t162, H163⟩ := H158
        refine V.cVv (N := mr_X0_run) (as := [.ref (q + 1), .ref (q + 3)]) dX8_settle_185 ml_X8_198 ok_X0_run okV_X0_run ⟨Nat.le_of_ble_eq_true rfl, Nat.le_of_ble_eq_true rfl⟩ hd.2.2.2.2.2.2.1.1 rfl rfl rfl (Nat.le_of_ble_eq_true rfl) t162 ?_
        refine V.aload_n dX8_settle_188 rfl rfl ?_
        refine V.getf (v := .ref (q + 1)) dX8_settle_189 fl_X8_135 hq.1 (by decide) rfl ?_
        obtain ⟨r164, I165, L166, t167, H168⟩ := H163
        refine V.cVi (N := mr_X5_degree) (as := []) dX8_settle_192 ml_X8_138 ok_X5_degree okV_X5_degree ⟨Nat.le_of_ble_eq_true rfl, Nat.le_of_ble_eq_true rfl⟩ hq.2.1.1 rfl rfl rfl (Nat.le_of_ble_eq_true rfl) t167 ?_
        exact V.ret (v := some (.int r164)) rfl (Or.inl ⟨_, rfl, dX8_settle_195, _, rfl, rfl⟩) ⟨Nat.le_refl _, Nat.le_refl _⟩ H168
      · have H169 := H151.2 c152
        refine V.bipush (v := (-104)) dX8_settle_154 (by decide) ?_
        exact V.ret (v := some (.int (-104 : Int32))) rfl (Or.inl ⟨_, rfl, dX8_settle_156, _, rfl, rfl⟩) ⟨Nat.le_refl _, Nat.le_refl _⟩ H169
  · have H170 := H5.2 c6
    refine V.bipush (v := (-104)) dX8_settle_10 (by decide) ?_
    exact V.ret (v := some (.int (-104 : Int32))) rfl (Or.inl ⟨_, rfl, dX8_settle_12, _, rfl, rfl⟩) ⟨Nat.le_refl _, Nat.le_refl _⟩ H170
def hd_X8_drawn_39 (S : List mjD) (RET : Option Value → mjH → Prop) (a0 : Nat) (x1 : Int32) (x3 : Int32) (x4 : Int64) (x6 : Int32) (x7 : Int32) (x8 : Int32) (I : Nat → Nat → Int32) (L : Nat → Nat → Int64) : Prop := V mr_X8_drawn (0, 0) RET 39 [(0, .ref a0), (1, .int x1), (3, .int x3), (4, .long x4), (6, .int x6), (7, .int x7), (8, .int x8)] [] (S, I, L) (0, 0)
def hd_X8_drawn_65 (S : List mjD) (RET : Option Value → mjH → Prop) (a0 : Nat) (x1 : Int32) (x3 : Int32) (x4 : Int64) (x6 : Int32) (x7 : Int32) (x8 : Int32) (x9 : Int32) (I : Nat → Nat → Int32) (L : Nat → Nat → Int64) : Prop := V mr_X8_drawn (0, 0) RET 65 [(0, .ref a0), (1, .int x1), (3, .int x3), (4, .long x4), (6, .int x6), (7, .int x7), (8, .int x8), (9, .int x9)] [] (S, I, L) (0, 0)
set_option maxRecDepth 100000 in
set_option maxHeartbeats 4000000 in
theorem it_X8_drawn_39 {S : List mjD} {RET : Option Value → mjH → Prop} {a0 : Nat} (h0 : is_Desk S a0) {x1 : Int32} {x3 : Int32} {x4 : Int64} {x6 : Int32} {x7 : Int32} {x8 : Int32} {I : Nat → Nat → Int32} {L : Nat → Nat → Int64} (H0 : ((x1 ≤ x8 → ((¬ x3 = (2 : Int32) → ((¬ x3 = (1 : Int32) → RET (some (.int x6)) (S, I, L)) ∧ (x3 = (1 : Int32) → RET (some (.int x7)) (S, I, L)))) ∧ (x3 = (2 : Int32) → RET (some (.int x4.toInt32)) (S, I, L)))) ∧ (¬ x1 ≤ x8 → ∃ I29 L30, CTv mr_X5_setConstant [.ref (a0 + 8), .long (0 : Int64)] S I L I29 L30 ∧ ∃ I34 L35, CTv mr_X5_set [.ref (a0 + 8), .int (4 : Int32), .long (1 : Int64)] S I29 L30 I34 L35 ∧ hd_X8_drawn_65 S RET a0 x1 x3 x4 x6 x7 x8 (3 : Int32) I34 L35))) : hd_X8_drawn_39 S RET a0 x1 x3 x4 x6 x7 x8 I L := by
  unfold hd_X8_drawn_39
  refine V.iload dX8_drawn_39 rfl ?_
  refine V.iload_n dX8_drawn_41 rfl rfl ?_
  refine V.icmp_ge (tgt := 168) dX8_drawn_42 (by decide) (fun c19 => ?_) (fun c19 => ?_)
  · have H20 := H0.1 c19
    refine V.iload_n dX8_drawn_168 rfl rfl ?_
    refine V.iconst (v := (2)) dX8_drawn_169 (by decide) ?_
    refine V.icmp_ne (tgt := 177) dX8_drawn_170 (by decide) (fun c21 => ?_) (fun c21 => ?_)
    · have H22 := H20.1 c21
      refine V.iload_n dX8_drawn_177 rfl rfl ?_
      refine V.iconst (v := (1)) dX8_drawn_178 (by decide) ?_
      refine V.icmp_ne (tgt := 187) dX8_drawn_179 (by decide) (fun c23 => ?_) (fun c23 => ?_)
      · have H24 := H22.1 c23
        refine V.iload dX8_drawn_187 rfl ?_
        exact V.ret (v := some (.int x6)) rfl (Or.inl ⟨_, rfl, dX8_drawn_189, _, rfl, rfl⟩) ⟨Nat.le_refl _, Nat.le_refl _⟩ H24
      · have H25 := H22.2 c23
        refine V.iload dX8_drawn_182 rfl ?_
        refine V.goto (tgt := 189) dX8_drawn_184 (by decide) ?_
        exact V.ret (v := some (.int x7)) rfl (Or.inl ⟨_, rfl, dX8_drawn_189, _, rfl, rfl⟩) ⟨Nat.le_refl _, Nat.le_refl _⟩ H25
    · have H26 := H20.2 c21
      refine V.lload dX8_drawn_173 rfl ?_
      refine V.l2i dX8_drawn_175 ?_
      exact V.ret (v := some (.int x4.toInt32)) rfl (Or.inl ⟨_, rfl, dX8_drawn_176, _, rfl, rfl⟩) ⟨Nat.le_refl _, Nat.le_refl _⟩ H26
  · have H27 := H0.2 c19
    refine V.aload_n dX8_drawn_45 rfl rfl ?_
    refine V.getf (v := .ref (a0 + 8)) dX8_drawn_46 fl_X8_29 h0.1 (by decide) rfl ?_
    refine V.lconst (v := 0) dX8_drawn_49 (by decide) ?_
    obtain ⟨I29, L30, t31, H32⟩ := H27
    refine V.cVv (N := mr_X5_setConstant) (as := [.long (0 : Int64)]) dX8_drawn_50 ml_X8_222 ok_X5_setConstant okV_X5_setConstant ⟨Nat.le_of_ble_eq_true rfl, Nat.le_of_ble_eq_true rfl⟩ h0.2.2.2.2.1.1 rfl rfl rfl (Nat.le_of_ble_eq_true rfl) t31 ?_
    refine V.aload_n dX8_drawn_53 rfl rfl ?_
    refine V.getf (v := .ref (a0 + 8)) dX8_drawn_54 fl_X8_29 h0.1 (by decide) rfl ?_
    refine V.iconst (v := (4)) dX8_drawn_57 (by decide) ?_
    refine V.lconst (v := 1) dX8_drawn_58 (by decide) ?_
    obtain ⟨I34, L35, t36, H37⟩ := H32
    refine V.cVv (N := mr_X5_set) (as := [.int (4 : Int32), .long (1 : Int64)]) dX8_drawn_59 ml_X8_262 ok_X5_set okV_X5_set ⟨Nat.le_of_ble_eq_true rfl, Nat.le_of_ble_eq_true rfl⟩ h0.2.2.2.2.1.1 rfl rfl rfl (Nat.le_of_ble_eq_true rfl) t36 ?_
    refine V.iconst (v := (3)) dX8_drawn_62 (by decide) ?_
    refine V.istore (lo' := [(9, .int (3 : Int32)), (0, .ref a0), (1, .int x1), (3, .int x3), (4, .long x4), (6, .int x6), (7, .int x7), (8, .int x8)]) dX8_drawn_63 (by decide) rfl ?_
    exact V.los [1, 2, 3, 4, 5, 6, 7, 0] rfl H37
set_option maxRecDepth 100000 in
set_option maxHeartbeats 4000000 in
theorem it_X8_drawn_65 {S : List mjD} {RET : Option Value → mjH → Prop} {a0 : Nat} (h0 : is_Desk S a0) {x1 : Int32} {x3 : Int32} {x4 : Int64} {x6 : Int32} {x7 : Int32} {x8 : Int32} {x9 : Int32} {I : Nat → Nat → Int32} {L : Nat → Nat → Int64} (H0 : ((x9 < 0 → ∃ I41 L42, CTv mr_X0_run [.ref (a0 + 12), .ref (a0 + 8), .ref (a0 + 21)] S I L I41 L42 ∧ ∃ r45 I46 L47, CTi mr_X1_multiplicitySum [.ref (a0 + 21)] S I41 L42 r45 I46 L47 ∧ ∀ y50 : Int32, y50 = (x7 + r45) → ((¬ r45 = (1 : Int32) → ∀ y55 : Int32, y55 = (x6 + (0 : Int32)) → ∀ y58 : Int32, y58 = x8 + 1 → hd_X8_drawn_39 S RET a0 x1 x3 x4 y55 y50 y58 I46 L47) ∧ (r45 = (1 : Int32) → ∀ y62 : Int32, y62 = (x6 + (1 : Int32)) → ∀ y65 : Int32, y65 = x8 + 1 → hd_X8_drawn_39 S RET a0 x1 x3 x4 y62 y50 y65 I46 L47))) ∧ (¬ x9 < 0 → ∀ y69 : Int64, y69 = ((((1103515245 : Int64) * x4) + (12345 : Int64)) &&& (2147483647 : Int64)) → ∃ I73 L74, CTv mr_X5_set [.ref (a0 + 8), .int x9, .long (((y69 / (65536 : Int64)) - (y69 / (65536 : Int64)) / (9 : Int64) * (9 : Int64)) - (4 : Int64))] S I L I73 L74 ∧ ∀ y77 : Int32, y77 = x9 + (-1) → hd_X8_drawn_65 S RET a0 x1 x3 y69 x6 x7 x8 y77 I73 L74))) : hd_X8_drawn_65 S RET a0 x1 x3 x4 x6 x7 x8 x9 I L := by
  unfold hd_X8_drawn_65
  refine V.iload dX8_drawn_65 rfl ?_
  refine V.if_lt (tgt := 115) dX8_drawn_67 (by decide) (fun c38 => ?_) (fun c38 => ?_)
  · have H39 := H0.1 c38
    refine V.aload_n dX8_drawn_115 rfl rfl ?_
    refine V.getf (v := .ref (a0 + 12)) dX8_drawn_116 fl_X8_39 h0.1 (by decide) rfl ?_
    refine V.aload_n dX8_drawn_119 rfl rfl ?_
    refine V.getf (v := .ref (a0 + 8)) dX8_drawn_120 fl_X8_29 h0.1 (by decide) rfl ?_
    refine V.aload_n dX8_drawn_123 rfl rfl ?_
    refine V.getf (v := .ref (a0 + 21)) dX8_drawn_124 fl_X8_46 h0.1 (by decide) rfl ?_
    obtain ⟨I41, L42, t43, H44⟩ := H39
    refine V.cVv (N := mr_X0_run) (as := [.ref (a0 + 8), .ref (a0 + 21)]) dX8_drawn_127 ml_X8_198 ok_X0_run okV_X0_run ⟨Nat.le_of_ble_eq_true rfl, Nat.le_of_ble_eq_true rfl⟩ h0.2.2.2.2.2.2.1.1 rfl rfl rfl (Nat.le_of_ble_eq_true rfl) t43 ?_
    refine V.aload_n dX8_drawn_130 rfl rfl ?_
    refine V.getf (v := .ref (a0 + 21)) dX8_drawn_131 fl_X8_46 h0.1 (by decide) rfl ?_
    obtain ⟨r45, I46, L47, t48, H49⟩ := H44
    refine V.cVi (N := mr_X1_multiplicitySum) (as := []) dX8_drawn_134 ml_X8_153 ok_X1_multiplicitySum okV_X1_multiplicitySum ⟨Nat.le_of_ble_eq_true rfl, Nat.le_of_ble_eq_true rfl⟩ h0.2.2.2.2.2.2.2.1.1 rfl rfl rfl (Nat.le_of_ble_eq_true rfl) t48 ?_
    refine V.istore (lo' := [(9, .int r45), (0, .ref a0), (1, .int x1), (3, .int x3), (4, .long x4), (6, .int x6), (7, .int x7), (8, .int x8)]) dX8_drawn_137 (by decide) rfl ?_
    refine V.iload dX8_drawn_139 rfl ?_
    refine V.iload dX8_drawn_141 rfl ?_
    refine V.iadd dX8_drawn_143 ?_
    refine V.topi (fun y50 e51 => ?_)
    have H52 := H49 y50 e51
    refine V.istore (lo' := [(7, .int y50), (9, .int r45), (0, .ref a0), (1, .int x1), (3, .int x3), (4, .long x4), (6, .int x6), (8, .int x8)]) dX8_drawn_144 (by decide) rfl ?_
    refine V.iload dX8_drawn_146 rfl ?_
    refine V.iload dX8_drawn_148 rfl ?_
    refine V.iconst (v := (1)) dX8_drawn_150 (by decide) ?_
    refine V.icmp_ne (tgt := 158) dX8_drawn_151 (by decide) (fun c53 => ?_) (fun c53 => ?_)
    · have H54 := H52.1 c53
      refine V.iconst (v := (0)) dX8_drawn_158 (by decide) ?_
      refine V.iadd dX8_drawn_159 ?_
      refine V.topi (fun y55 e56 => ?_)
      have H57 := H54 y55 e56
      refine V.istore (lo' := [(6, .int y55), (7, .int y50), (9, .int r45), (0, .ref a0), (1, .int x1), (3, .int x3), (4, .long x4), (8, .int x8)]) dX8_drawn_160 (by decide) rfl ?_
      obtain ⟨y58, e59⟩ : ∃ y : Int32, y = x8 + 1 := ⟨_, rfl⟩
      have H60 := H57 y58 e59
      refine V.iinc (v := y58) (lo' := [(8, .int y58), (6, .int y55), (7, .int y50), (9, .int r45), (0, .ref a0), (1, .int x1), (3, .int x3), (4, .long x4)]) dX8_drawn_162 rfl (by rw [e59]; rfl) (by decide) rfl ?_
      refine V.goto (tgt := 39) dX8_drawn_165 (by decide) ?_
      exact V.los [4, 5, 6, 7, 1, 2, 0] rfl H60
    · have H61 := H52.2 c53
      refine V.iconst (v := (1)) dX8_drawn_154 (by decide) ?_
      refine V.goto (tgt := 159) dX8_drawn_155 (by decide) ?_
      refine V.iadd dX8_drawn_159 ?_
      refine V.topi (fun y62 e63 => ?_)
      have H64 := H61 y62 e63
      refine V.istore (lo' := [(6, .int y62), (7, .int y50), (9, .int r45), (0, .ref a0), (1, .int x1), (3, .int x3), (4, .long x4), (8, .int x8)]) dX8_drawn_160 (by decide) rfl ?_
      obtain ⟨y65, e66⟩ : ∃ y : Int32, y = x8 + 1 := ⟨_, rfl⟩
      have H67 := H64 y65 e66
      refine V.iinc (v := y65) (lo' := [(8, .int y65), (6, .int y62), (7, .int y50), (9, .int r45), (0, .ref a0), (1, .int x1), (3, .int x3), (4, .long x4)]) dX8_drawn_162 rfl (by rw [e66]; rfl) (by decide) rfl ?_
      refine V.goto (tgt := 39) dX8_drawn_165 (by decide) ?_
      exact V.los [4, 5, 6, 7, 1, 2, 0] rfl H67
  · have H68 := H0.2 c38
    refine V.ldc2 kc_X8_266 dX8_drawn_70 ?_
    refine V.lload dX8_drawn_73 rfl ?_
    refine V.lmul dX8_drawn_75 ?_
    refine V.ldc2 kc_X8_268 dX8_drawn_76 ?_
    refine V.ladd dX8_drawn_79 ?_
    refine V.ldc2 kc_X8_270 dX8_drawn_80 ?_
    refine V.land dX8_drawn_83 ?_
    refine V.topl (fun y69 e70 => ?_)
    have H71 := H68 y69 e70
    refine V.lstore (lo' := [(4, .long y69), (0, .ref a0), (1, .int x1), (3, .int x3), (6, .int x6), (7, .int x7), (8, .int x8), (9, .int x9)]) dX8_drawn_84 (by decide) rfl ?_
    refine V.aload_n dX8_drawn_86 rfl rfl ?_
    refine V.getf (v := .ref (a0 + 8)) dX8_drawn_87 fl_X8_29 h0.1 (by decide) rfl ?_
    refine V.iload dX8_drawn_90 rfl ?_
    refine V.lload dX8_drawn_92 rfl ?_
    refine V.ldc2 kc_X8_272 dX8_drawn_94 ?_
    refine V.ldiv dX8_drawn_97 (by decide) ?_
    refine V.ldc2 kc_X8_274 dX8_drawn_98 ?_
    refine V.lrem dX8_drawn_101 (by decide) ?_
    refine V.ldc2 kc_X8_276 dX8_drawn_102 ?_
    refine V.lsub dX8_drawn_105 ?_
    obtain ⟨I73, L74, t75, H76⟩ := H71
    refine V.cVv (N := mr_X5_set) (as := [.int x9, .long (((y69 / (65536 : Int64)) - (y69 / (65536 : Int64)) / (9 : Int64) * (9 : Int64)) - (4 : Int64))]) dX8_drawn_106 ml_X8_262 ok_X5_set okV_X5_set ⟨Nat.le_of_ble_eq_true rfl, Nat.le_of_ble_eq_true rfl⟩ h0.2.2.2.2.1.1 rfl rfl rfl (Nat.le_of_ble_eq_true rfl) t75 ?_
    obtain ⟨y77, e78⟩ : ∃ y : Int32, y = x9 + (-1) := ⟨_, rfl⟩
    have H79 := H76 y77 e78
    refine V.iinc (v := y77) (lo' := [(9, .int y77), (4, .long y69), (0, .ref a0), (1, .int x1), (3, .int x3), (6, .int x6), (7, .int x7), (8, .int x8)]) dX8_drawn_109 rfl (by rw [e78]; rfl) (by decide) rfl ?_
    refine V.goto (tgt := 65) dX8_drawn_112 (by decide) ?_
    exact V.los [2, 3, 4, 1, 5, 6, 7, 0] rfl H79
set_option maxRecDepth 100000 in
set_option maxHeartbeats 4000000 in
theorem wp_X8_drawn {S : List mjD} {RET : Option Value → mjH → Prop} {d : Nat} (hd : is_Desk S d) {a : Int32} {b : Int32} {c : Int32} {I : Nat → Nat → Int32} {L : Nat → Nat → Int64} (H0 : ((a < (1 : Int32) → RET (some (.int (-102 : Int32))) (S, I, L)) ∧ (¬ a < (1 : Int32) → (((4 : Int32) < a → RET (some (.int (-102 : Int32))) (S, I, L)) ∧ (¬ (4 : Int32) < a → ((b < 0 → RET (some (.int (-102 : Int32))) (S, I, L)) ∧ (¬ b < 0 → ((c < 0 → RET (some (.int (-102 : Int32))) (S, I, L)) ∧ (¬ c < 0 → ((c ≤ (2 : Int32) → ∀ y15 : Int64, y15 = b.toInt64 → hd_X8_drawn_39 S RET d a c y15 (0 : Int32) (0 : Int32) (0 : Int32) I L) ∧ (¬ c ≤ (2 : Int32) → RET (some (.int (-102 : Int32))) (S, I, L)))))))))))) : CT mr_X8_drawn (0, 0) [.ref d, .int a, .int b, .int c] (S, I, L) RET := by
  refine CT.of (lo := [(0, .ref d), (1, .int a), (2, .int b), (3, .int c)]) (by decide) (fun _ _ => Nat.le_of_ble_eq_true rfl) (fun _ _ => rfl) rfl ?_
  refine V.iload_n dX8_drawn_0 rfl rfl ?_
  refine V.iconst (v := (1)) dX8_drawn_1 (by decide) ?_
  refine V.icmp_lt (tgt := 23) dX8_drawn_2 (by decide) (fun c1 => ?_) (fun c1 => ?_)
  · have H2 := H0.1 c1
    refine V.bipush (v := (-102)) dX8_drawn_23 (by decide) ?_
    exact V.ret (v := some (.int (-102 : Int32))) rfl (Or.inl ⟨_, rfl, dX8_drawn_25, _, rfl, rfl⟩) ⟨Nat.le_refl _, Nat.le_refl _⟩ H2
  · have H3 := H0.2 c1
    refine V.iload_n dX8_drawn_5 rfl rfl ?_
    refine V.iconst (v := (4)) dX8_drawn_6 (by decide) ?_
    refine V.icmp_gt (tgt := 23) dX8_drawn_7 (by decide) (fun c4 => ?_) (fun c4 => ?_)
    · have H5 := H3.1 c4
      refine V.bipush (v := (-102)) dX8_drawn_23 (by decide) ?_
      exact V.ret (v := some (.int (-102 : Int32))) rfl (Or.inl ⟨_, rfl, dX8_drawn_25, _, rfl, rfl⟩) ⟨Nat.le_refl _, Nat.le_refl _⟩ H5
    · have H6 := H3.2 c4
      refine V.iload_n dX8_drawn_10 rfl rfl ?_
      refine V.if_lt (tgt := 23) dX8_drawn_11 (by decide) (fun c7 => ?_) (fun c7 => ?_)
      · have H8 := H6.1 c7
        refine V.bipush (v := (-102)) dX8_drawn_23 (by decide) ?_
        exact V.ret (v := some (.int (-102 : Int32))) rfl (Or.inl ⟨_, rfl, dX8_drawn_25, _, rfl, rfl⟩) ⟨Nat.le_refl _, Nat.le_refl _⟩ H8
      · have H9 := H6.2 c7
        refine V.iload_n dX8_drawn_14 rfl rfl ?_
        refine V.if_lt (tgt := 23) dX8_drawn_15 (by decide) (fun c10 => ?_) (fun c10 => ?_)
        · have H11 := H9.1 c10
          refine V.bipush (v := (-102)) dX8_drawn_23 (by decide) ?_
          exact V.ret (v := some (.int (-102 : Int32))) rfl (Or.inl ⟨_, rfl, dX8_drawn_25, _, rfl, rfl⟩) ⟨Nat.le_refl _, Nat.le_refl _⟩ H11
        · have H12 := H9.2 c10
          refine V.iload_n dX8_drawn_18 rfl rfl ?_
          refine V.iconst (v := (2)) dX8_drawn_19 (by decide) ?_
          refine V.icmp_le (tgt := 26) dX8_drawn_20 (by decide) (fun c13 => ?_) (fun c13 => ?_)
          · have H14 := H12.1 c13
            refine V.iload_n dX8_drawn_26 rfl rfl ?_
            refine V.i2l dX8_drawn_27 ?_
            refine V.topl (fun y15 e16 => ?_)
            have H17 := H14 y15 e16
            refine V.lstore (lo' := [(4, .long y15), (0, .ref d), (1, .int a), (2, .int b), (3, .int c)]) dX8_drawn_28 (by decide) rfl ?_
            refine V.iconst (v := (0)) dX8_drawn_30 (by decide) ?_
            refine V.istore (lo' := [(6, .int (0 : Int32)), (4, .long y15), (0, .ref d), (1, .int a), (2, .int b), (3, .int c)]) dX8_drawn_31 (by decide) rfl ?_
            refine V.iconst (v := (0)) dX8_drawn_33 (by decide) ?_
            refine V.istore (lo' := [(7, .int (0 : Int32)), (6, .int (0 : Int32)), (4, .long y15), (0, .ref d), (1, .int a), (2, .int b), (3, .int c)]) dX8_drawn_34 (by decide) rfl ?_
            refine V.iconst (v := (0)) dX8_drawn_36 (by decide) ?_
            refine V.istore (lo' := [(8, .int (0 : Int32)), (7, .int (0 : Int32)), (6, .int (0 : Int32)), (4, .long y15), (0, .ref d), (1, .int a), (2, .int b), (3, .int c)]) dX8_drawn_37 (by decide) rfl ?_
            exact V.los [4, 5, 7, 3, 2, 1, 0] rfl H17
          · have H18 := H12.2 c13
            refine V.bipush (v := (-102)) dX8_drawn_23 (by decide) ?_
            exact V.ret (v := some (.int (-102 : Int32))) rfl (Or.inl ⟨_, rfl, dX8_drawn_25, _, rfl, rfl⟩) ⟨Nat.le_refl _, Nat.le_refl _⟩ H18
def hd_X8_digest_6 (S : List mjD) (RET : Option Value → mjH → Prop) (a0 : Nat) (x1 : Int64) (x3 : Int32) (I : Nat → Nat → Int32) (L : Nat → Nat → Int64) : Prop := V mr_X8_digest (0, 0) RET 6 [(0, .ref a0), (1, .long x1), (3, .int x3)] [] (S, I, L) (0, 0)
def hd_X8_digest_83 (S : List mjD) (RET : Option Value → mjH → Prop) (a0 : Nat) (x1 : Int64) (x3 : Int32) (I : Nat → Nat → Int32) (L : Nat → Nat → Int64) : Prop := V mr_X8_digest (0, 0) RET 83 [(0, .ref a0), (1, .long x1), (3, .int x3)] [] (S, I, L) (0, 0)
def hd_X8_digest_17 (S : List mjD) (RET : Option Value → mjH → Prop) (a0 : Nat) (x1 : Int64) (x3 : Int32) (x4 : Int32) (I : Nat → Nat → Int32) (L : Nat → Nat → Int64) : Prop := V mr_X8_digest (0, 0) RET 17 [(0, .ref a0), (1, .long x1), (3, .int x3), (4, .int x4)] [] (S, I, L) (0, 0)
set_option maxRecDepth 100000 in
set_option maxHeartbeats 4000000 in
theorem it_X8_digest_6 {S : List mjD} {RET : Option Value → mjH → Prop} {a0 : Nat} (h0 : is_Desk S a0) {x1 : Int64} {x3 : Int32} {I : Nat → Nat → Int32} {L : Nat → Nat → Int64} (H0 : (((I a0 10) ≤ x3 → ∃ r3 I4 L5, CTl mr_X8_digestLine [.long x1, .ref (a0 + 1)] S I L r3 I4 L5 ∧ hd_X8_digest_83 S RET a0 r3 (0 : Int32) I4 L5) ∧ (¬ (I a0 10) ≤ x3 → hd_X8_digest_17 S RET a0 x1 x3 (0 : Int32) I L))) : hd_X8_digest_6 S RET a0 x1 x3 I L := by
  unfold hd_X8_digest_6
  refine V.iload_n dX8_digest_6 rfl rfl ?_
  refine V.aload_n dX8_digest_7 rfl rfl ?_
  refine V.getf (v := .int (I a0 10)) dX8_digest_8 fl_X8_103 h0.1 (by decide) rfl ?_
  refine V.icmp_ge (tgt := 72) dX8_digest_11 (by decide) (fun c1 => ?_) (fun c1 => ?_)
  · have H2 := H0.1 c1
    refine V.lload_n dX8_digest_72 rfl rfl ?_
    refine V.aload_n dX8_digest_73 rfl rfl ?_
    refine V.getf (v := .ref (a0 + 1)) dX8_digest_74 fl_X8_10 h0.1 (by decide) rfl ?_
    obtain ⟨r3, I4, L5, t6, H7⟩ := H2
    refine V.cSl (N := mr_X8_digestLine) (as := [.long x1, .ref (a0 + 1)]) dX8_digest_77 ml_X8_311 ok_X8_digestLine okS_X8_digestLine ⟨Nat.le_of_ble_eq_true rfl, Nat.le_of_ble_eq_true rfl⟩ rfl rfl (Nat.le_of_ble_eq_true rfl) t6 ?_
    refine V.lstore_n (lo' := [(1, .long r3), (0, .ref a0), (3, .int x3)]) dX8_digest_80 rfl (by decide) rfl ?_
    refine V.iconst (v := (0)) dX8_digest_81 (by decide) ?_
    refine V.istore_n (lo' := [(3, .int (0 : Int32)), (1, .long r3), (0, .ref a0)]) dX8_digest_82 rfl (by decide) rfl ?_
    exact V.los [2, 1, 0] rfl H7
  · have H8 := H0.2 c1
    refine V.iconst (v := (0)) dX8_digest_14 (by decide) ?_
    refine V.istore (lo' := [(4, .int (0 : Int32)), (0, .ref a0), (1, .long x1), (3, .int x3)]) dX8_digest_15 (by decide) rfl ?_
    exact V.los [1, 2, 3, 0] rfl H8
set_option maxRecDepth 100000 in
set_option maxHeartbeats 4000000 in
theorem it_X8_digest_83 {S : List mjD} {RET : Option Value → mjH → Prop} {a0 : Nat} (h0 : is_Desk S a0) {x1 : Int64} {x3 : Int32} {I : Nat → Nat → Int32} {L : Nat → Nat → Int64} (H0 : (((8 : Int32) ≤ x3 → RET (some (.long x1)) (S, I, L)) ∧ (¬ (8 : Int32) ≤ x3 → ∃ r12 I13 L14, CTi mr_X8_count [.ref a0, .int x3] S I L r12 I13 L14 ∧ ∀ y17 : Int64, y17 = (((31 : Int64) * x1) + r12.toInt64) → ∀ y20 : Int32, y20 = x3 + 1 → hd_X8_digest_83 S RET a0 y17 y20 I13 L14))) : hd_X8_digest_83 S RET a0 x1 x3 I L := by
  unfold hd_X8_digest_83
  refine V.iload_n dX8_digest_83 rfl rfl ?_
  refine V.bipush (v := (8)) dX8_digest_84 (by decide) ?_
  refine V.icmp_ge (tgt := 108) dX8_digest_86 (by decide) (fun c9 => ?_) (fun c9 => ?_)
  · have H10 := H0.1 c9
    refine V.lload_n dX8_digest_108 rfl rfl ?_
    exact V.ret (v := some (.long x1)) rfl (Or.inr (Or.inl ⟨_, rfl, dX8_digest_109, rfl⟩)) ⟨Nat.le_refl _, Nat.le_refl _⟩ H10
  · have H11 := H0.2 c9
    refine V.ldc2 kc_X8_301 dX8_digest_89 ?_
    refine V.lload_n dX8_digest_92 rfl rfl ?_
    refine V.lmul dX8_digest_93 ?_
    refine V.aload_n dX8_digest_94 rfl rfl ?_
    refine V.iload_n dX8_digest_95 rfl rfl ?_
    obtain ⟨r12, I13, L14, t15, H16⟩ := H11
    refine V.cVi (N := mr_X8_count) (as := [.int x3]) dX8_digest_96 ml_X8_315 ok_X8_count okV_X8_count ⟨Nat.le_of_ble_eq_true rfl, Nat.le_of_ble_eq_true rfl⟩ h0.1 rfl rfl rfl (Nat.le_of_ble_eq_true rfl) t15 ?_
    refine V.i2l dX8_digest_99 ?_
    refine V.ladd dX8_digest_100 ?_
    refine V.topl (fun y17 e18 => ?_)
    have H19 := H16 y17 e18
    refine V.lstore_n (lo' := [(1, .long y17), (0, .ref a0), (3, .int x3)]) dX8_digest_101 rfl (by decide) rfl ?_
    obtain ⟨y20, e21⟩ : ∃ y : Int32, y = x3 + 1 := ⟨_, rfl⟩
    have H22 := H19 y20 e21
    refine V.iinc (v := y20) (lo' := [(3, .int y20), (1, .long y17), (0, .ref a0)]) dX8_digest_102 rfl (by rw [e21]; rfl) (by decide) rfl ?_
    refine V.goto (tgt := 83) dX8_digest_105 (by decide) ?_
    exact V.los [2, 1, 0] rfl H22
set_option maxRecDepth 100000 in
set_option maxHeartbeats 4000000 in
theorem it_X8_digest_17 {S : List mjD} {RET : Option Value → mjH → Prop} {a0 : Nat} (h0 : is_Desk S a0) {x1 : Int64} {x3 : Int32} {x4 : Int32} {I : Nat → Nat → Int32} {L : Nat → Nat → Int64} (H0 : (((8 : Int32) ≤ x4 → ∃ r25 I26 L27, CTq mr_X8_filledSlot [.ref a0, .int x3] S I L r25 I26 L27 ∧ ((r25 = none → ∀ y33 : Int32, y33 = x3 + 1 → hd_X8_digest_6 S RET a0 x1 y33 I26 L27) ∧ (∀ a30, r25 = some a30 → is_Slot S a30 ∧ ∃ r37 I38 L39, CTl mr_X8_digestHeld [.ref a0, .long x1, .int x3, .ref a30] S I26 L27 r37 I38 L39 ∧ ∀ y42 : Int32, y42 = x3 + 1 → hd_X8_digest_6 S RET a0 r37 y42 I38 L39))) ∧ (¬ (8 : Int32) ≤ x4 → ∃ r46 I47 L48, CTi mr_X8_slot [.ref a0, .int x3, .int x4] S I L r46 I47 L48 ∧ ∀ y51 : Int64, y51 = (((31 : Int64) * x1) + r46.toInt64) → ∀ y54 : Int32, y54 = x4 + 1 → hd_X8_digest_17 S RET a0 y51 x3 y54 I47 L48))) : hd_X8_digest_17 S RET a0 x1 x3 x4 I L := by
  unfold hd_X8_digest_17
  refine V.iload dX8_digest_17 rfl ?_
  refine V.bipush (v := (8)) dX8_digest_19 (by decide) ?_
  refine V.icmp_ge (tgt := 45) dX8_digest_21 (by decide) (fun c23 => ?_) (fun c23 => ?_)
  · have H24 := H0.1 c23
    refine V.aload_n dX8_digest_45 rfl rfl ?_
    refine V.iload_n dX8_digest_46 rfl rfl ?_
    obtain ⟨r25, I26, L27, t28, H29⟩ := H24
    refine V.cVq (N := mr_X8_filledSlot) (as := [.int x3]) dX8_digest_47 ml_X8_169 ok_X8_filledSlot okV_X8_filledSlot ⟨Nat.le_of_ble_eq_true rfl, Nat.le_of_ble_eq_true rfl⟩ h0.1 rfl rfl rfl (Nat.le_of_ble_eq_true rfl) t28 ?_
    cases r25 with
    | none =>
      have H31 := H29.1 rfl
      refine V.astoreN (lo' := [(4, .null), (0, .ref a0), (1, .long x1), (3, .int x3)]) dX8_digest_50 (by decide) rfl ?_
      refine V.aloadN dX8_digest_52 rfl ?_
      refine V.ifnullN (tgt := 66) dX8_digest_54 (by decide) ?_
      obtain ⟨y33, e34⟩ : ∃ y : Int32, y = x3 + 1 := ⟨_, rfl⟩
      have H35 := H31 y33 e34
      refine V.iinc (v := y33) (lo' := [(3, .int y33), (4, .null), (0, .ref a0), (1, .long x1)]) dX8_digest_66 rfl (by rw [e34]; rfl) (by decide) rfl ?_
      refine V.goto (tgt := 6) dX8_digest_69 (by decide) ?_
      exact V.los [2, 3, 0] rfl H35
    | some a30 =>
      obtain ⟨f36, H32⟩ := H29.2 a30 rfl
      refine V.astore (lo' := [(4, .ref a30), (0, .ref a0), (1, .long x1), (3, .int x3)]) dX8_digest_50 (by decide) rfl ?_
      refine V.aload dX8_digest_52 rfl ?_
      refine V.ifnull dX8_digest_54 ?_
      refine V.aload_n dX8_digest_57 rfl rfl ?_
      refine V.lload_n dX8_digest_58 rfl rfl ?_
      refine V.iload_n dX8_digest_59 rfl rfl ?_
      refine V.aload dX8_digest_60 rfl ?_
      obtain ⟨r37, I38, L39, t40, H41⟩ := H32
      refine V.cVl (N := mr_X8_digestHeld) (as := [.long x1, .int x3, .ref a30]) dX8_digest_62 ml_X8_307 ok_X8_digestHeld okV_X8_digestHeld ⟨Nat.le_of_ble_eq_true rfl, Nat.le_of_ble_eq_true rfl⟩ h0.1 rfl rfl rfl (Nat.le_of_ble_eq_true rfl) t40 ?_
      refine V.lstore_n (lo' := [(1, .long r37), (4, .ref a30), (0, .ref a0), (3, .int x3)]) dX8_digest_65 rfl (by decide) rfl ?_
      obtain ⟨y42, e43⟩ : ∃ y : Int32, y = x3 + 1 := ⟨_, rfl⟩
      have H44 := H41 y42 e43
      refine V.iinc (v := y42) (lo' := [(3, .int y42), (1, .long r37), (4, .ref a30), (0, .ref a0)]) dX8_digest_66 rfl (by rw [e43]; rfl) (by decide) rfl ?_
      refine V.goto (tgt := 6) dX8_digest_69 (by decide) ?_
      exact V.los [3, 1, 0] rfl H44
  · have H45 := H0.2 c23
    refine V.ldc2 kc_X8_301 dX8_digest_24 ?_
    refine V.lload_n dX8_digest_27 rfl rfl ?_
    refine V.lmul dX8_digest_28 ?_
    refine V.aload_n dX8_digest_29 rfl rfl ?_
    refine V.iload_n dX8_digest_30 rfl rfl ?_
    refine V.iload dX8_digest_31 rfl ?_
    obtain ⟨r46, I47, L48, t49, H50⟩ := H45
    refine V.cVi (N := mr_X8_slot) (as := [.int x3, .int x4]) dX8_digest_33 ml_X8_303 ok_X8_slot okV_X8_slot ⟨Nat.le_of_ble_eq_true rfl, Nat.le_of_ble_eq_true rfl⟩ h0.1 rfl rfl rfl (Nat.le_of_ble_eq_true rfl) t49 ?_
    refine V.i2l dX8_digest_36 ?_
    refine V.ladd dX8_digest_37 ?_
    refine V.topl (fun y51 e52 => ?_)
    have H53 := H50 y51 e52
    refine V.lstore_n (lo' := [(1, .long y51), (0, .ref a0), (3, .int x3), (4, .int x4)]) dX8_digest_38 rfl (by decide) rfl ?_
    obtain ⟨y54, e55⟩ : ∃ y : Int32, y = x4 + 1 := ⟨_, rfl⟩
    have H56 := H53 y54 e55
    refine V.iinc (v := y54) (lo' := [(4, .int y54), (1, .long y51), (0, .ref a0), (3, .int x3)]) dX8_digest_39 rfl (by rw [e55]; rfl) (by decide) rfl ?_
    refine V.goto (tgt := 17) dX8_digest_42 (by decide) ?_
    exact V.los [2, 1, 3, 0] rfl H56
set_option maxRecDepth 100000 in
set_option maxHeartbeats 4000000 in
theorem wp_X8_digest {S : List mjD} {RET : Option Value → mjH → Prop} {d : Nat} (hd : is_Desk S d) {I : Nat → Nat → Int32} {L : Nat → Nat → Int64} (H0 : hd_X8_digest_6 S RET d (1409 : Int64) (0 : Int32) I L) : CT mr_X8_digest (0, 0) [.ref d] (S, I, L) RET := by
  refine CT.of (lo := [(0, .ref d)]) (by decide) (fun _ _ => Nat.le_of_ble_eq_true rfl) (fun _ _ => rfl) rfl ?_
  refine V.ldc2 kc_X8_299 dX8_digest_0 ?_
  refine V.lstore_n (lo' := [(1, .long (1409 : Int64)), (0, .ref d)]) dX8_digest_3 rfl (by decide) rfl ?_
  refine V.iconst (v := (0)) dX8_digest_4 (by decide) ?_
  refine V.istore_n (lo' := [(3, .int (0 : Int32)), (1, .long (1409 : Int64)), (0, .ref d)]) dX8_digest_5 rfl (by decide) rfl ?_
  exact V.los [2, 1, 0] rfl H0
set_option maxRecDepth 100000 in
set_option maxHeartbeats 4000000 in
theorem wp_X8_put {S : List mjD} {RET : Option Value → mjH → Prop} {d : Nat} (hd : is_Desk S d) {a : Int32} {I : Nat → Nat → Int32} {L : Nat → Nat → Int64} (H0 : ∃ r1 I2 L3, CTq mr_X8_anySlot [.ref d, .int a] S I L r1 I2 L3 ∧ ((r1 = none → RET (some (.int (-101 : Int32))) (S, I2, L3)) ∧ (∀ a6, r1 = some a6 → is_Slot S a6 ∧ ∃ r10 I11 L12, CTi mr_X6_read [.ref (d + 5), .ref (d + 1)] S I2 L3 r10 I11 L12 ∧ ((¬ r10 = (I11 (d + 1) 1) → RET (some (.int (-103 : Int32))) (S, I11, L12)) ∧ (r10 = (I11 (d + 1) 1) → ∃ r18 I19 L20, CTi mr_X6_isComplete [.ref (d + 5)] S I11 L12 r18 I19 L20 ∧ ((¬ r18 = 0 → ∃ I26 L27, CTv mr_X5_copyFrom [.ref (d + 8), .ref ((d + 5) + 1)] S I19 L20 I26 L27 ∧ ∃ r30 I31 L32, CTi mr_X8_settle [.ref d, .ref a6] S I26 L27 r30 I31 L32 ∧ ((r30 = (-104 : Int32) → RET (some (.int r30)) (S, I31, L32)) ∧ (¬ r30 = (-104 : Int32) → RET (some (.int r30)) (S, mj_up I31 (d + 1) 1 (0 : Int32), L32)))) ∧ (r18 = 0 → RET (some (.int (-103 : Int32))) (S, I19, L20)))))))) : CT mr_X8_put (0, 0) [.ref d, .int a] (S, I, L) RET := by
  refine CT.of (lo := [(0, .ref d), (1, .int a)]) (by decide) (fun _ _ => Nat.le_of_ble_eq_true rfl) (fun _ _ => rfl) rfl ?_
  refine V.aload_n dX8_put_0 rfl rfl ?_
  refine V.iload_n dX8_put_1 rfl rfl ?_
  obtain ⟨r1, I2, L3, t4, H5⟩ := H0
  refine V.cVq (N := mr_X8_anySlot) (as := [.int a]) dX8_put_2 ml_X8_116 ok_X8_anySlot okV_X8_anySlot ⟨Nat.le_of_ble_eq_true rfl, Nat.le_of_ble_eq_true rfl⟩ hd.1 rfl rfl rfl (Nat.le_of_ble_eq_true rfl) t4 ?_
  cases r1 with
  | none =>
    have H7 := H5.1 rfl
    refine V.astore_nN (lo' := [(2, .null), (0, .ref d), (1, .int a)]) dX8_put_5 rfl (by decide) rfl ?_
    refine V.aload_nN dX8_put_6 rfl rfl ?_
    refine V.ifnonnullN dX8_put_7 ?_
    refine V.bipush (v := (-101)) dX8_put_10 (by decide) ?_
    exact V.ret (v := some (.int (-101 : Int32))) rfl (Or.inl ⟨_, rfl, dX8_put_12, _, rfl, rfl⟩) ⟨Nat.le_refl _, Nat.le_refl _⟩ H7
  | some a6 =>
    obtain ⟨f9, H8⟩ := H5.2 a6 rfl
    refine V.astore_n (lo' := [(2, .ref a6), (0, .ref d), (1, .int a)]) dX8_put_5 rfl (by decide) rfl ?_
    refine V.aload_n dX8_put_6 rfl rfl ?_
    refine V.ifnonnull (tgt := 13) dX8_put_7 (by decide) ?_
    refine V.aload_n dX8_put_13 rfl rfl ?_
    refine V.getf (v := .ref (d + 5)) dX8_put_14 fl_X8_22 hd.1 (by decide) rfl ?_
    refine V.aload_n dX8_put_17 rfl rfl ?_
    refine V.getf (v := .ref (d + 1)) dX8_put_18 fl_X8_10 hd.1 (by decide) rfl ?_
    obtain ⟨r10, I11, L12, t13, H14⟩ := H8
    refine V.cVi (N := mr_X6_read) (as := [.ref (d + 1)]) dX8_put_21 ml_X8_85 ok_X6_read okV_X6_read ⟨Nat.le_of_ble_eq_true rfl, Nat.le_of_ble_eq_true rfl⟩ hd.2.2.2.1.1 rfl rfl rfl (Nat.le_of_ble_eq_true rfl) t13 ?_
    refine V.aload_n dX8_put_24 rfl rfl ?_
    refine V.getf (v := .ref (d + 1)) dX8_put_25 fl_X8_10 hd.1 (by decide) rfl ?_
    refine V.getf (v := .int (I11 (d + 1) 1)) dX8_put_28 fl_X8_81 hd.2.1.1 (by decide) rfl ?_
    refine V.icmp_ne (tgt := 44) dX8_put_31 (by decide) (fun c15 => ?_) (fun c15 => ?_)
    · have H16 := H14.1 c15
      refine V.bipush (v := (-103)) dX8_put_44 (by decide) ?_
      exact V.ret (v := some (.int (-103 : Int32))) rfl (Or.inl ⟨_, rfl, dX8_put_46, _, rfl, rfl⟩) ⟨Nat.le_refl _, Nat.le_refl _⟩ H16
    · have H17 := H14.2 c15
      refine V.aload_n dX8_put_34 rfl rfl ?_
      refine V.getf (v := .ref (d + 5)) dX8_put_35 fl_X8_22 hd.1 (by decide) rfl ?_
      obtain ⟨r18, I19, L20, t21, H22⟩ := H17
      refine V.cVi (N := mr_X6_isComplete) (as := []) dX8_put_38 ml_X8_120 ok_X6_isComplete okV_X6_isComplete ⟨Nat.le_of_ble_eq_true rfl, Nat.le_of_ble_eq_true rfl⟩ hd.2.2.2.1.1 rfl rfl rfl (Nat.le_of_ble_eq_true rfl) t21 ?_
      refine V.if_ne (tgt := 47) dX8_put_41 (by decide) (fun c23 => ?_) (fun c23 => ?_)
      · have H24 := H22.1 c23
        refine V.aload_n dX8_put_47 rfl rfl ?_
        refine V.getf (v := .ref (d + 8)) dX8_put_48 fl_X8_29 hd.1 (by decide) rfl ?_
        refine V.aload_n dX8_put_51 rfl rfl ?_
        refine V.getf (v := .ref (d + 5)) dX8_put_52 fl_X8_22 hd.1 (by decide) rfl ?_
        refine V.getf (v := .ref ((d + 5) + 1)) dX8_put_55 fl_X8_124 hd.2.2.2.1.1 (by decide) rfl ?_
        obtain ⟨I26, L27, t28, H29⟩ := H24
        refine V.cVv (N := mr_X5_copyFrom) (as := [.ref ((d + 5) + 1)]) dX8_put_58 ml_X8_127 ok_X5_copyFrom okV_X5_copyFrom ⟨Nat.le_of_ble_eq_true rfl, Nat.le_of_ble_eq_true rfl⟩ hd.2.2.2.2.1.1 rfl rfl rfl (Nat.le_of_ble_eq_true rfl) t28 ?_
        refine V.aload_n dX8_put_61 rfl rfl ?_
        refine V.aload_n dX8_put_62 rfl rfl ?_
        obtain ⟨r30, I31, L32, t33, H34⟩ := H29
        refine V.cVi (N := mr_X8_settle) (as := [.ref a6]) dX8_put_63 ml_X8_131 ok_X8_settle okV_X8_settle ⟨Nat.le_of_ble_eq_true rfl, Nat.le_of_ble_eq_true rfl⟩ hd.1 rfl rfl rfl (Nat.le_of_ble_eq_true rfl) t33 ?_
        refine V.istore_n (lo' := [(3, .int r30), (2, .ref a6), (0, .ref d), (1, .int a)]) dX8_put_66 rfl (by decide) rfl ?_
        refine V.iload_n dX8_put_67 rfl rfl ?_
        refine V.bipush (v := (-104)) dX8_put_68 (by decide) ?_
        refine V.icmp_eq (tgt := 81) dX8_put_70 (by decide) (fun c35 => ?_) (fun c35 => ?_)
        · have H36 := H34.1 c35
          refine V.iload_n dX8_put_81 rfl rfl ?_
          exact V.ret (v := some (.int r30)) rfl (Or.inl ⟨_, rfl, dX8_put_82, _, rfl, rfl⟩) ⟨Nat.le_refl _, Nat.le_refl _⟩ H36
        · have H37 := H34.2 c35
          refine V.aload_n dX8_put_73 rfl rfl ?_
          refine V.getf (v := .ref (d + 1)) dX8_put_74 fl_X8_10 hd.1 (by decide) rfl ?_
          refine V.iconst (v := (0)) dX8_put_77 (by decide) ?_
          refine V.puti dX8_put_78 fl_X8_81 fp_X8_81 (Or.inl rfl) hd.2.1.1 (by decide) rfl rfl ?_
          refine V.iload_n dX8_put_81 rfl rfl ?_
          exact V.ret (v := some (.int r30)) rfl (Or.inl ⟨_, rfl, dX8_put_82, _, rfl, rfl⟩) ⟨Nat.le_refl _, Nat.le_refl _⟩ H37
      · have H38 := H22.2 c23
        refine V.bipush (v := (-103)) dX8_put_44 (by decide) ?_
        exact V.ret (v := some (.int (-103 : Int32))) rfl (Or.inl ⟨_, rfl, dX8_put_46, _, rfl, rfl⟩) ⟨Nat.le_refl _, Nat.le_refl _⟩ H38
set_option maxRecDepth 100000 in
set_option maxHeartbeats 4000000 in
theorem wp_X8_add {S : List mjD} {RET : Option Value → mjH → Prop} {d : Nat} (hd : is_Desk S d) {a : Int32} {b : Int32} {c : Int32} {I : Nat → Nat → Int32} {L : Nat → Nat → Int64} (H0 : ∃ r1 I2 L3, CTq mr_X8_filledSlot [.ref d, .int a] S I L r1 I2 L3 ∧ ((r1 = none → ∃ r9 I10 L11, CTq mr_X8_filledSlot [.ref d, .int b] S I2 L3 r9 I10 L11 ∧ ((r9 = none → ∃ r17 I18 L19, CTq mr_X8_anySlot [.ref d, .int c] S I10 L11 r17 I18 L19 ∧ ((r17 = none → RET (some (.int (-101 : Int32))) (S, I18, L19)) ∧ (∀ a22, r17 = some a22 → is_Slot S a22 ∧ RET (some (.int (-101 : Int32))) (S, I18, L19)))) ∧ (∀ a14, r9 = some a14 → is_Slot S a14 ∧ ∃ r27 I28 L29, CTq mr_X8_anySlot [.ref d, .int c] S I10 L11 r27 I28 L29 ∧ ((r27 = none → RET (some (.int (-101 : Int32))) (S, I28, L29)) ∧ (∀ a32, r27 = some a32 → is_Slot S a32 ∧ RET (some (.int (-101 : Int32))) (S, I28, L29)))))) ∧ (∀ a6, r1 = some a6 → is_Slot S a6 ∧ ∃ r37 I38 L39, CTq mr_X8_filledSlot [.ref d, .int b] S I2 L3 r37 I38 L39 ∧ ((r37 = none → ∃ r45 I46 L47, CTq mr_X8_anySlot [.ref d, .int c] S I38 L39 r45 I46 L47 ∧ ((r45 = none → RET (some (.int (-101 : Int32))) (S, I46, L47)) ∧ (∀ a50, r45 = some a50 → is_Slot S a50 ∧ RET (some (.int (-101 : Int32))) (S, I46, L47)))) ∧ (∀ a42, r37 = some a42 → is_Slot S a42 ∧ ∃ r55 I56 L57, CTq mr_X8_anySlot [.ref d, .int c] S I38 L39 r55 I56 L57 ∧ ((r55 = none → RET (some (.int (-101 : Int32))) (S, I56, L57)) ∧ (∀ a60, r55 = some a60 → is_Slot S a60 ∧ ∃ I65 L66, CTv mr_X5_sumFrom [.ref (d + 8), .ref (a6 + 1), .ref (a42 + 1)] S I56 L57 I65 L66 ∧ ∃ r69 I70 L71, CTi mr_X5_degree [.ref (d + 8)] S I65 L66 r69 I70 L71 ∧ ((¬ r69 = (-1 : Int32) → ∃ r76 I77 L78, CTi mr_X8_settle [.ref d, .ref a60] S I70 L71 r76 I77 L78 ∧ RET (some (.int r76)) (S, I77, L78)) ∧ (r69 = (-1 : Int32) → RET (some (.int (-103 : Int32))) (S, I70, L71)))))))))) : CT mr_X8_add (0, 0) [.ref d, .int a, .int b, .int c] (S, I, L) RET := by
  refine CT.of (lo := [(0, .ref d), (1, .int a), (2, .int b), (3, .int c)]) (by decide) (fun _ _ => Nat.le_of_ble_eq_true rfl) (fun _ _ => rfl) rfl ?_
  refine V.aload_n dX8_add_0 rfl rfl ?_
  refine V.iload_n dX8_add_1 rfl rfl ?_
  obtain ⟨r1, I2, L3, t4, H5⟩ := H0
  refine V.cVq (N := mr_X8_filledSlot) (as := [.int a]) dX8_add_2 ml_X8_169 ok_X8_filledSlot okV_X8_filledSlot ⟨Nat.le_of_ble_eq_true rfl, Nat.le_of_ble_eq_true rfl⟩ hd.1 rfl rfl rfl (Nat.le_of_ble_eq_true rfl) t4 ?_
  cases r1 with
  | none =>
    have H7 := H5.1 rfl
    refine V.astoreN (lo' := [(4, .null), (0, .ref d), (1, .int a), (2, .int b), (3, .int c)]) dX8_add_5 (by decide) rfl ?_
    refine V.aload_n dX8_add_7 rfl rfl ?_
    refine V.iload_n dX8_add_8 rfl rfl ?_
    obtain ⟨r9, I10, L11, t12, H13⟩ := H7
    refine V.cVq (N := mr_X8_filledSlot) (as := [.int b]) dX8_add_9 ml_X8_169 ok_X8_filledSlot okV_X8_filledSlot ⟨Nat.le_of_ble_eq_true rfl, Nat.le_of_ble_eq_true rfl⟩ hd.1 rfl rfl rfl (Nat.le_of_ble_eq_true rfl) t12 ?_
    cases r9 with
    | none =>
      have H15 := H13.1 rfl
      refine V.astoreN (lo' := [(5, .null), (4, .null), (0, .ref d), (1, .int a), (2, .int b), (3, .int c)]) dX8_add_12 (by decide) rfl ?_
      refine V.aload_n dX8_add_14 rfl rfl ?_
      refine V.iload_n dX8_add_15 rfl rfl ?_
      obtain ⟨r17, I18, L19, t20, H21⟩ := H15
      refine V.cVq (N := mr_X8_anySlot) (as := [.int c]) dX8_add_16 ml_X8_116 ok_X8_anySlot okV_X8_anySlot ⟨Nat.le_of_ble_eq_true rfl, Nat.le_of_ble_eq_true rfl⟩ hd.1 rfl rfl rfl (Nat.le_of_ble_eq_true rfl) t20 ?_
      cases r17 with
      | none =>
        have H23 := H21.1 rfl
        refine V.astoreN (lo' := [(6, .null), (5, .null), (4, .null), (0, .ref d), (1, .int a), (2, .int b), (3, .int c)]) dX8_add_19 (by decide) rfl ?_
        refine V.aloadN dX8_add_21 rfl ?_
        refine V.ifnullN (tgt := 36) dX8_add_23 (by decide) ?_
        refine V.bipush (v := (-101)) dX8_add_36 (by decide) ?_
        exact V.ret (v := some (.int (-101 : Int32))) rfl (Or.inl ⟨_, rfl, dX8_add_38, _, rfl, rfl⟩) ⟨Nat.le_refl _, Nat.le_refl _⟩ H23
      | some a22 =>
        obtain ⟨f25, H24⟩ := H21.2 a22 rfl
        refine V.astore (lo' := [(6, .ref a22), (5, .null), (4, .null), (0, .ref d), (1, .int a), (2, .int b), (3, .int c)]) dX8_add_19 (by decide) rfl ?_
        refine V.aloadN dX8_add_21 rfl ?_
        refine V.ifnullN (tgt := 36) dX8_add_23 (by decide) ?_
        refine V.bipush (v := (-101)) dX8_add_36 (by decide) ?_
        exact V.ret (v := some (.int (-101 : Int32))) rfl (Or.inl ⟨_, rfl, dX8_add_38, _, rfl, rfl⟩) ⟨Nat.le_refl _, Nat.le_refl _⟩ H24
    | some a14 =>
      obtain ⟨f26, H16⟩ := H13.2 a14 rfl
      refine V.astore (lo' := [(5, .ref a14), (4, .null), (0, .ref d), (1, .int a), (2, .int b), (3, .int c)]) dX8_add_12 (by decide) rfl ?_
      refine V.aload_n dX8_add_14 rfl rfl ?_
      refine V.iload_n dX8_add_15 rfl rfl ?_
      obtain ⟨r27, I28, L29, t30, H31⟩ := H16
      refine V.cVq (N := mr_X8_anySlot) (as := [.int c]) dX8_add_16 ml_X8_116 ok_X8_anySlot okV_X8_anySlot ⟨Nat.le_of_ble_eq_true rfl, Nat.le_of_ble_eq_true rfl⟩ hd.1 rfl rfl rfl (Nat.le_of_ble_eq_true rfl) t30 ?_
      cases r27 with
      | none =>
        have H33 := H31.1 rfl
        refine V.astoreN (lo' := [(6, .null), (5, .ref a14), (4, .null), (0, .ref d), (1, .int a), (2, .int b), (3, .int c)]) dX8_add_19 (by decide) rfl ?_
        refine V.aloadN dX8_add_21 rfl ?_
        refine V.ifnullN (tgt := 36) dX8_add_23 (by decide) ?_
        refine V.bipush (v := (-101)) dX8_add_36 (by decide) ?_
        exact V.ret (v := some (.int (-101 : Int32))) rfl (Or.inl ⟨_, rfl, dX8_add_38, _, rfl, rfl⟩) ⟨Nat.le_refl _, Nat.le_refl _⟩ H33
      | some a32 =>
        obtain ⟨f35, H34⟩ := H31.2 a32 rfl
        refine V.astore (lo' := [(6, .ref a32), (5, .ref a14), (4, .null), (0, .ref d), (1, .int a), (2, .int b), (3, .int c)]) dX8_add_19 (by decide) rfl ?_
        refine V.aloadN dX8_add_21 rfl ?_
        refine V.ifnullN (tgt := 36) dX8_add_23 (by decide) ?_
        refine V.bipush (v := (-101)) dX8_add_36 (by decide) ?_
        exact V.ret (v := some (.int (-101 : Int32))) rfl (Or.inl ⟨_, rfl, dX8_add_38, _, rfl, rfl⟩) ⟨Nat.le_refl _, Nat.le_refl _⟩ H34
  | some a6 =>
    obtain ⟨f36, H8⟩ := H5.2 a6 rfl
    refine V.astore (lo' := [(4, .ref a6), (0, .ref d), (1, .int a), (2, .int b), (3, .int c)]) dX8_add_5 (by decide) rfl ?_
    refine V.aload_n dX8_add_7 rfl rfl ?_
    refine V.iload_n dX8_add_8 rfl rfl ?_
    obtain ⟨r37, I38, L39, t40, H41⟩ := H8
    refine V.cVq (N := mr_X8_filledSlot) (as := [.int b]) dX8_add_9 ml_X8_169 ok_X8_filledSlot okV_X8_filledSlot ⟨Nat.le_of_ble_eq_true rfl, Nat.le_of_ble_eq_true rfl⟩ hd.1 rfl rfl rfl (Nat.le_of_ble_eq_true rfl) t40 ?_
    cases r37 with
    | none =>
      have H43 := H41.1 rfl
      refine V.astoreN (lo' := [(5, .null), (4, .ref a6), (0, .ref d), (1, .int a), (2, .int b), (3, .int c)]) dX8_add_12 (by decide) rfl ?_
      refine V.aload_n dX8_add_14 rfl rfl ?_
      refine V.iload_n dX8_add_15 rfl rfl ?_
      obtain ⟨r45, I46, L47, t48, H49⟩ := H43
      refine V.cVq (N := mr_X8_anySlot) (as := [.int c]) dX8_add_16 ml_X8_116 ok_X8_anySlot okV_X8_anySlot ⟨Nat.le_of_ble_eq_true rfl, Nat.le_of_ble_eq_true rfl⟩ hd.1 rfl rfl rfl (Nat.le_of_ble_eq_true rfl) t48 ?_
      cases r45 with
      | none =>
        have H51 := H49.1 rfl
        refine V.astoreN (lo' := [(6, .null), (5, .null), (4, .ref a6), (0, .ref d), (1, .int a), (2, .int b), (3, .int c)]) dX8_add_19 (by decide) rfl ?_
        refine V.aload dX8_add_21 rfl ?_
        refine V.ifnull dX8_add_23 ?_
        refine V.aloadN dX8_add_26 rfl ?_
        refine V.ifnullN (tgt := 36) dX8_add_28 (by decide) ?_
        refine V.bipush (v := (-101)) dX8_add_36 (by decide) ?_
        exact V.ret (v := some (.int (-101 : Int32))) rfl (Or.inl ⟨_, rfl, dX8_add_38, _, rfl, rfl⟩) ⟨Nat.le_refl _, Nat.le_refl _⟩ H51
      | some a50 =>
        obtain ⟨f53, H52⟩ := H49.2 a50 rfl
        refine V.astore (lo' := [(6, .ref a50), (5, .null), (4, .ref a6), (0, .ref d), (1, .int a), (2, .int b), (3, .int c)]) dX8_add_19 (by decide) rfl ?_
        refine V.aload dX8_add_21 rfl ?_
        refine V.ifnull dX8_add_23 ?_
        refine V.aloadN dX8_add_26 rfl ?_
        refine V.ifnullN (tgt := 36) dX8_add_28 (by decide) ?_
        refine V.bipush (v := (-101)) dX8_add_36 (by decide) ?_
        exact V.ret (v := some (.int (-101 : Int32))) rfl (Or.inl ⟨_, rfl, dX8_add_38, _, rfl, rfl⟩) ⟨Nat.le_refl _, Nat.le_refl _⟩ H52
    | some a42 =>
      obtain ⟨f54, H44⟩ := H41.2 a42 rfl
      refine V.astore (lo' := [(5, .ref a42), (4, .ref a6), (0, .ref d), (1, .int a), (2, .int b), (3, .int c)]) dX8_add_12 (by decide) rfl ?_
      refine V.aload_n dX8_add_14 rfl rfl ?_
      refine V.iload_n dX8_add_15 rfl rfl ?_
      obtain ⟨r55, I56, L57, t58, H59⟩ := H44
      refine V.cVq (N := mr_X8_anySlot) (as := [.int c]) dX8_add_16 ml_X8_116 ok_X8_anySlot okV_X8_anySlot ⟨Nat.le_of_ble_eq_true rfl, Nat.le_of_ble_eq_true rfl⟩ hd.1 rfl rfl rfl (Nat.le_of_ble_eq_true rfl) t58 ?_
      cases r55 with
      | none =>
        have H61 := H59.1 rfl
        refine V.astoreN (lo' := [(6, .null), (5, .ref a42), (4, .ref a6), (0, .ref d), (1, .int a), (2, .int b), (3, .int c)]) dX8_add_19 (by decide) rfl ?_
        refine V.aload dX8_add_21 rfl ?_
        refine V.ifnull dX8_add_23 ?_
        refine V.aload dX8_add_26 rfl ?_
        refine V.ifnull dX8_add_28 ?_
        refine V.aloadN dX8_add_31 rfl ?_
        refine V.ifnonnullN dX8_add_33 ?_
        refine V.bipush (v := (-101)) dX8_add_36 (by decide) ?_
        exact V.ret (v := some (.int (-101 : Int32))) rfl (Or.inl ⟨_, rfl, dX8_add_38, _, rfl, rfl⟩) ⟨Nat.le_refl _, Nat.le_refl _⟩ H61
      | some a60 =>
        obtain ⟨f63, H62⟩ := H59.2 a60 rfl
        refine V.astore (lo' := [(6, .ref a60), (5, .ref a42), (4, .ref a6), (0, .ref d), (1, .int a), (2, .int b), (3, .int c)]) dX8_add_19 (by decide) rfl ?_
        refine V.aload dX8_add_21 rfl ?_
        refine V.ifnull dX8_add_23 ?_
        refine V.aload dX8_add_26 rfl ?_
        refine V.ifnull dX8_add_28 ?_
        refine V.aload dX8_add_31 rfl ?_
        refine V.ifnonnull (tgt := 39) dX8_add_33 (by decide) ?_
        refine V.aload_n dX8_add_39 rfl rfl ?_
        refine V.getf (v := .ref (d + 8)) dX8_add_40 fl_X8_29 hd.1 (by decide) rfl ?_
        refine V.aload dX8_add_43 rfl ?_
        refine V.getf (v := .ref (a6 + 1)) dX8_add_45 fl_X8_135 f36.1 (by decide) rfl ?_
        refine V.aload dX8_add_48 rfl ?_
        refine V.getf (v := .ref (a42 + 1)) dX8_add_50 fl_X8_135 f54.1 (by decide) rfl ?_
        obtain ⟨I65, L66, t67, H68⟩ := H62
        refine V.cVv (N := mr_X5_sumFrom) (as := [.ref (a6 + 1), .ref (a42 + 1)]) dX8_add_53 ml_X8_211 ok_X5_sumFrom okV_X5_sumFrom ⟨Nat.le_of_ble_eq_true rfl, Nat.le_of_ble_eq_true rfl⟩ hd.2.2.2.2.1.1 rfl rfl rfl (Nat.le_of_ble_eq_true rfl) t67 ?_
        refine V.aload_n dX8_add_56 rfl rfl ?_
        refine V.getf (v := .ref (d + 8)) dX8_add_57 fl_X8_29 hd.1 (by decide) rfl ?_
        obtain ⟨r69, I70, L71, t72, H73⟩ := H68
        refine V.cVi (N := mr_X5_degree) (as := []) dX8_add_60 ml_X8_138 ok_X5_degree okV_X5_degree ⟨Nat.le_of_ble_eq_true rfl, Nat.le_of_ble_eq_true rfl⟩ hd.2.2.2.2.1.1 rfl rfl rfl (Nat.le_of_ble_eq_true rfl) t72 ?_
        refine V.iconst (v := (-1)) dX8_add_63 (by decide) ?_
        refine V.icmp_ne (tgt := 72) dX8_add_64 (by decide) (fun c74 => ?_) (fun c74 => ?_)
        · have H75 := H73.1 c74
          refine V.aload_n dX8_add_72 rfl rfl ?_
          refine V.aload dX8_add_73 rfl ?_
          obtain ⟨r76, I77, L78, t79, H80⟩ := H75
          refine V.cVi (N := mr_X8_settle) (as := [.ref a60]) dX8_add_75 ml_X8_131 ok_X8_settle okV_X8_settle ⟨Nat.le_of_ble_eq_true rfl, Nat.le_of_ble_eq_true rfl⟩ hd.1 rfl rfl rfl (Nat.le_of_ble_eq_true rfl) t79 ?_
          exact V.ret (v := some (.int r76)) rfl (Or.inl ⟨_, rfl, dX8_add_78, _, rfl, rfl⟩) ⟨Nat.le_refl _, Nat.le_refl _⟩ H80
        · have H81 := H73.2 c74
          refine V.bipush (v := (-103)) dX8_add_67 (by decide) ?_
          refine V.goto (tgt := 78) dX8_add_69 (by decide) ?_
          exact V.ret (v := some (.int (-103 : Int32))) rfl (Or.inl ⟨_, rfl, dX8_add_78, _, rfl, rfl⟩) ⟨Nat.le_refl _, Nat.le_refl _⟩ H81
set_option maxRecDepth 100000 in
set_option maxHeartbeats 4000000 in
theorem wp_X8_times {S : List mjD} {RET : Option Value → mjH → Prop} {d : Nat} (hd : is_Desk S d) {a : Int32} {b : Int32} {c : Int32} {I : Nat → Nat → Int32} {L : Nat → Nat → Int64} (H0 : ∃ r1 I2 L3, CTq mr_X8_filledSlot [.ref d, .int a] S I L r1 I2 L3 ∧ ((r1 = none → ∃ r9 I10 L11, CTq mr_X8_filledSlot [.ref d, .int b] S I2 L3 r9 I10 L11 ∧ ((r9 = none → ∃ r17 I18 L19, CTq mr_X8_anySlot [.ref d, .int c] S I10 L11 r17 I18 L19 ∧ ((r17 = none → RET (some (.int (-101 : Int32))) (S, I18, L19)) ∧ (∀ a22, r17 = some a22 → is_Slot S a22 ∧ RET (some (.int (-101 : Int32))) (S, I18, L19)))) ∧ (∀ a14, r9 = some a14 → is_Slot S a14 ∧ ∃ r27 I28 L29, CTq mr_X8_anySlot [.ref d, .int c] S I10 L11 r27 I28 L29 ∧ ((r27 = none → RET (some (.int (-101 : Int32))) (S, I28, L29)) ∧ (∀ a32, r27 = some a32 → is_Slot S a32 ∧ RET (some (.int (-101 : Int32))) (S, I28, L29)))))) ∧ (∀ a6, r1 = some a6 → is_Slot S a6 ∧ ∃ r37 I38 L39, CTq mr_X8_filledSlot [.ref d, .int b] S I2 L3 r37 I38 L39 ∧ ((r37 = none → ∃ r45 I46 L47, CTq mr_X8_anySlot [.ref d, .int c] S I38 L39 r45 I46 L47 ∧ ((r45 = none → RET (some (.int (-101 : Int32))) (S, I46, L47)) ∧ (∀ a50, r45 = some a50 → is_Slot S a50 ∧ RET (some (.int (-101 : Int32))) (S, I46, L47)))) ∧ (∀ a42, r37 = some a42 → is_Slot S a42 ∧ ∃ r55 I56 L57, CTq mr_X8_anySlot [.ref d, .int c] S I38 L39 r55 I56 L57 ∧ ((r55 = none → RET (some (.int (-101 : Int32))) (S, I56, L57)) ∧ (∀ a60, r55 = some a60 → is_Slot S a60 ∧ ∃ r64 I65 L66, CTi mr_X5_degree [.ref (a6 + 1)] S I56 L57 r64 I65 L66 ∧ ∃ r69 I70 L71, CTi mr_X5_degree [.ref (a42 + 1)] S I65 L66 r69 I70 L71 ∧ (((r64 + r69) ≤ (5 : Int32) → ∃ I77 L78, CTv mr_X5_copyFrom [.ref (d + 8), .ref (a6 + 1)] S I70 L71 I77 L78 ∧ ∃ I82 L83, CTv mr_X5_multiplyBy [.ref (d + 8), .ref (a42 + 1)] S I77 L78 I82 L83 ∧ ∃ r86 I87 L88, CTi mr_X8_settle [.ref d, .ref a60] S I82 L83 r86 I87 L88 ∧ RET (some (.int r86)) (S, I87, L88)) ∧ (¬ (r64 + r69) ≤ (5 : Int32) → RET (some (.int (-104 : Int32))) (S, I70, L71)))))))))) : CT mr_X8_times (0, 0) [.ref d, .int a, .int b, .int c] (S, I, L) RET := by
  refine CT.of (lo := [(0, .ref d), (1, .int a), (2, .int b), (3, .int c)]) (by decide) (fun _ _ => Nat.le_of_ble_eq_true rfl) (fun _ _ => rfl) rfl ?_
  refine V.aload_n dX8_times_0 rfl rfl ?_
  refine V.iload_n dX8_times_1 rfl rfl ?_
  obtain ⟨r1, I2, L3, t4, H5⟩ := H0
  refine V.cVq (N := mr_X8_filledSlot) (as := [.int a]) dX8_times_2 ml_X8_169 ok_X8_filledSlot okV_X8_filledSlot ⟨Nat.le_of_ble_eq_true rfl, Nat.le_of_ble_eq_true rfl⟩ hd.1 rfl rfl rfl (Nat.le_of_ble_eq_true rfl) t4 ?_
  cases r1 with
  | none =>
    have H7 := H5.1 rfl
    refine V.astoreN (lo' := [(4, .null), (0, .ref d), (1, .int a), (2, .int b), (3, .int c)]) dX8_times_5 (by decide) rfl ?_
    refine V.aload_n dX8_times_7 rfl rfl ?_
    refine V.iload_n dX8_times_8 rfl rfl ?_
    obtain ⟨r9, I10, L11, t12, H13⟩ := H7
    refine V.cVq (N := mr_X8_filledSlot) (as := [.int b]) dX8_times_9 ml_X8_169 ok_X8_filledSlot okV_X8_filledSlot ⟨Nat.le_of_ble_eq_true rfl, Nat.le_of_ble_eq_true rfl⟩ hd.1 rfl rfl rfl (Nat.le_of_ble_eq_true rfl) t12 ?_
    cases r9 with
    | none =>
      have H15 := H13.1 rfl
      refine V.astoreN (lo' := [(5, .null), (4, .null), (0, .ref d), (1, .int a), (2, .int b), (3, .int c)]) dX8_times_12 (by decide) rfl ?_
      refine V.aload_n dX8_times_14 rfl rfl ?_
      refine V.iload_n dX8_times_15 rfl rfl ?_
      obtain ⟨r17, I18, L19, t20, H21⟩ := H15
      refine V.cVq (N := mr_X8_anySlot) (as := [.int c]) dX8_times_16 ml_X8_116 ok_X8_anySlot okV_X8_anySlot ⟨Nat.le_of_ble_eq_true rfl, Nat.le_of_ble_eq_true rfl⟩ hd.1 rfl rfl rfl (Nat.le_of_ble_eq_true rfl) t20 ?_
      cases r17 with
      | none =>
        have H23 := H21.1 rfl
        refine V.astoreN (lo' := [(6, .null), (5, .null), (4, .null), (0, .ref d), (1, .int a), (2, .int b), (3, .int c)]) dX8_times_19 (by decide) rfl ?_
        refine V.aloadN dX8_times_21 rfl ?_
        refine V.ifnullN (tgt := 36) dX8_times_23 (by decide) ?_
        refine V.bipush (v := (-101)) dX8_times_36 (by decide) ?_
        exact V.ret (v := some (.int (-101 : Int32))) rfl (Or.inl ⟨_, rfl, dX8_times_38, _, rfl, rfl⟩) ⟨Nat.le_refl _, Nat.le_refl _⟩ H23
      | some a22 =>
        obtain ⟨f25, H24⟩ := H21.2 a22 rfl
        refine V.astore (lo' := [(6, .ref a22), (5, .null), (4, .null), (0, .ref d), (1, .int a), (2, .int b), (3, .int c)]) dX8_times_19 (by decide) rfl ?_
        refine V.aloadN dX8_times_21 rfl ?_
        refine V.ifnullN (tgt := 36) dX8_times_23 (by decide) ?_
        refine V.bipush (v := (-101)) dX8_times_36 (by decide) ?_
        exact V.ret (v := some (.int (-101 : Int32))) rfl (Or.inl ⟨_, rfl, dX8_times_38, _, rfl, rfl⟩) ⟨Nat.le_refl _, Nat.le_refl _⟩ H24
    | some a14 =>
      obtain ⟨f26, H16⟩ := H13.2 a14 rfl
      refine V.astore (lo' := [(5, .ref a14), (4, .null), (0, .ref d), (1, .int a), (2, .int b), (3, .int c)]) dX8_times_12 (by decide) rfl ?_
      refine V.aload_n dX8_times_14 rfl rfl ?_
      refine V.iload_n dX8_times_15 rfl rfl ?_
      obtain ⟨r27, I28, L29, t30, H31⟩ := H16
      refine V.cVq (N := mr_X8_anySlot) (as := [.int c]) dX8_times_16 ml_X8_116 ok_X8_anySlot okV_X8_anySlot ⟨Nat.le_of_ble_eq_true rfl, Nat.le_of_ble_eq_true rfl⟩ hd.1 rfl rfl rfl (Nat.le_of_ble_eq_true rfl) t30 ?_
      cases r27 with
      | none =>
        have H33 := H31.1 rfl
        refine V.astoreN (lo' := [(6, .null), (5, .ref a14), (4, .null), (0, .ref d), (1, .int a), (2, .int b), (3, .int c)]) dX8_times_19 (by decide) rfl ?_
        refine V.aloadN dX8_times_21 rfl ?_
        refine V.ifnullN (tgt := 36) dX8_times_23 (by decide) ?_
        refine V.bipush (v := (-101)) dX8_times_36 (by decide) ?_
        exact V.ret (v := some (.int (-101 : Int32))) rfl (Or.inl ⟨_, rfl, dX8_times_38, _, rfl, rfl⟩) ⟨Nat.le_refl _, Nat.le_refl _⟩ H33
      | some a32 =>
        obtain ⟨f35, H34⟩ := H31.2 a32 rfl
        refine V.astore (lo' := [(6, .ref a32), (5, .ref a14), (4, .null), (0, .ref d), (1, .int a), (2, .int b), (3, .int c)]) dX8_times_19 (by decide) rfl ?_
        refine V.aloadN dX8_times_21 rfl ?_
        refine V.ifnullN (tgt := 36) dX8_times_23 (by decide) ?_
        refine V.bipush (v := (-101)) dX8_times_36 (by decide) ?_
        exact V.ret (v := some (.int (-101 : Int32))) rfl (Or.inl ⟨_, rfl, dX8_times_38, _, rfl, rfl⟩) ⟨Nat.le_refl _, Nat.le_refl _⟩ H34
  | some a6 =>
    obtain ⟨f36, H8⟩ := H5.2 a6 rfl
    refine V.astore (lo' := [(4, .ref a6), (0, .ref d), (1, .int a), (2, .int b), (3, .int c)]) dX8_times_5 (by decide) rfl ?_
    refine V.aload_n dX8_times_7 rfl rfl ?_
    refine V.iload_n dX8_times_8 rfl rfl ?_
    obtain ⟨r37, I38, L39, t40, H41⟩ := H8
    refine V.cVq (N := mr_X8_filledSlot) (as := [.int b]) dX8_times_9 ml_X8_169 ok_X8_filledSlot okV_X8_filledSlot ⟨Nat.le_of_ble_eq_true rfl, Nat.le_of_ble_eq_true rfl⟩ hd.1 rfl rfl rfl (Nat.le_of_ble_eq_true rfl) t40 ?_
    cases r37 with
    | none =>
      have H43 := H41.1 rfl
      refine V.astoreN (lo' := [(5, .null), (4, .ref a6), (0, .ref d), (1, .int a), (2, .int b), (3, .int c)]) dX8_times_12 (by decide) rfl ?_
      refine V.aload_n dX8_times_14 rfl rfl ?_
      refine V.iload_n dX8_times_15 rfl rfl ?_
      obtain ⟨r45, I46, L47, t48, H49⟩ := H43
      refine V.cVq (N := mr_X8_anySlot) (as := [.int c]) dX8_times_16 ml_X8_116 ok_X8_anySlot okV_X8_anySlot ⟨Nat.le_of_ble_eq_true rfl, Nat.le_of_ble_eq_true rfl⟩ hd.1 rfl rfl rfl (Nat.le_of_ble_eq_true rfl) t48 ?_
      cases r45 with
      | none =>
        have H51 := H49.1 rfl
        refine V.astoreN (lo' := [(6, .null), (5, .null), (4, .ref a6), (0, .ref d), (1, .int a), (2, .int b), (3, .int c)]) dX8_times_19 (by decide) rfl ?_
        refine V.aload dX8_times_21 rfl ?_
        refine V.ifnull dX8_times_23 ?_
        refine V.aloadN dX8_times_26 rfl ?_
        refine V.ifnullN (tgt := 36) dX8_times_28 (by decide) ?_
        refine V.bipush (v := (-101)) dX8_times_36 (by decide) ?_
        exact V.ret (v := some (.int (-101 : Int32))) rfl (Or.inl ⟨_, rfl, dX8_times_38, _, rfl, rfl⟩) ⟨Nat.le_refl _, Nat.le_refl _⟩ H51
      | some a50 =>
        obtain ⟨f53, H52⟩ := H49.2 a50 rfl
        refine V.astore (lo' := [(6, .ref a50), (5, .null), (4, .ref a6), (0, .ref d), (1, .int a), (2, .int b), (3, .int c)]) dX8_times_19 (by decide) rfl ?_
        refine V.aload dX8_times_21 rfl ?_
        refine V.ifnull dX8_times_23 ?_
        refine V.aloadN dX8_times_26 rfl ?_
        refine V.ifnullN (tgt := 36) dX8_times_28 (by decide) ?_
        refine V.bipush (v := (-101)) dX8_times_36 (by decide) ?_
        exact V.ret (v := some (.int (-101 : Int32))) rfl (Or.inl ⟨_, rfl, dX8_times_38, _, rfl, rfl⟩) ⟨Nat.le_refl _, Nat.le_refl _⟩ H52
    | some a42 =>
      obtain ⟨f54, H44⟩ := H41.2 a42 rfl
      refine V.astore (lo' := [(5, .ref a42), (4, .ref a6), (0, .ref d), (1, .int a), (2, .int b), (3, .int c)]) dX8_times_12 (by decide) rfl ?_
      refine V.aload_n dX8_times_14 rfl rfl ?_
      refine V.iload_n dX8_times_15 rfl rfl ?_
      obtain ⟨r55, I56, L57, t58, H59⟩ := H44
      refine V.cVq (N := mr_X8_anySlot) (as := [.int c]) dX8_times_16 ml_X8_116 ok_X8_anySlot okV_X8_anySlot ⟨Nat.le_of_ble_eq_true rfl, Nat.le_of_ble_eq_true rfl⟩ hd.1 rfl rfl rfl (Nat.le_of_ble_eq_true rfl) t58 ?_
      cases r55 with
      | none =>
        have H61 := H59.1 rfl
        refine V.astoreN (lo' := [(6, .null), (5, .ref a42), (4, .ref a6), (0, .ref d), (1, .int a), (2, .int b), (3, .int c)]) dX8_times_19 (by decide) rfl ?_
        refine V.aload dX8_times_21 rfl ?_
        refine V.ifnull dX8_times_23 ?_
        refine V.aload dX8_times_26 rfl ?_
        refine V.ifnull dX8_times_28 ?_
        refine V.aloadN dX8_times_31 rfl ?_
        refine V.ifnonnullN dX8_times_33 ?_
        refine V.bipush (v := (-101)) dX8_times_36 (by decide) ?_
        exact V.ret (v := some (.int (-101 : Int32))) rfl (Or.inl ⟨_, rfl, dX8_times_38, _, rfl, rfl⟩) ⟨Nat.le_refl _, Nat.le_refl _⟩ H61
      | some a60 =>
        obtain ⟨f63, H62⟩ := H59.2 a60 rfl
        refine V.astore (lo' := [(6, .ref a60), (5, .ref a42), (4, .ref a6), (0, .ref d), (1, .int a), (2, .int b), (3, .int c)]) dX8_times_19 (by decide) rfl ?_
        refine V.aload dX8_times_21 rfl ?_
        refine V.ifnull dX8_times_23 ?_
        refine V.aload dX8_times_26 rfl ?_
        refine V.ifnull dX8_times_28 ?_
        refine V.aload dX8_times_31 rfl ?_
        refine V.ifnonnull (tgt := 39) dX8_times_33 (by decide) ?_
        refine V.aload dX8_times_39 rfl ?_
        refine V.getf (v := .ref (a6 + 1)) dX8_times_41 fl_X8_135 f36.1 (by decide) rfl ?_
        obtain ⟨r64, I65, L66, t67, H68⟩ := H62
        refine V.cVi (N := mr_X5_degree) (as := []) dX8_times_44 ml_X8_138 ok_X5_degree okV_X5_degree ⟨Nat.le_of_ble_eq_true rfl, Nat.le_of_ble_eq_true rfl⟩ f36.2.1.1 rfl rfl rfl (Nat.le_of_ble_eq_true rfl) t67 ?_
        refine V.aload dX8_times_47 rfl ?_
        refine V.getf (v := .ref (a42 + 1)) dX8_times_49 fl_X8_135 f54.1 (by decide) rfl ?_
        obtain ⟨r69, I70, L71, t72, H73⟩ := H68
        refine V.cVi (N := mr_X5_degree) (as := []) dX8_times_52 ml_X8_138 ok_X5_degree okV_X5_degree ⟨Nat.le_of_ble_eq_true rfl, Nat.le_of_ble_eq_true rfl⟩ f54.2.1.1 rfl rfl rfl (Nat.le_of_ble_eq_true rfl) t72 ?_
        refine V.iadd dX8_times_55 ?_
        refine V.iconst (v := (5)) dX8_times_56 (by decide) ?_
        refine V.icmp_le (tgt := 63) dX8_times_57 (by decide) (fun c74 => ?_) (fun c74 => ?_)
        · have H75 := H73.1 c74
          refine V.aload_n dX8_times_63 rfl rfl ?_
          refine V.getf (v := .ref (d + 8)) dX8_times_64 fl_X8_29 hd.1 (by decide) rfl ?_
          refine V.aload dX8_times_67 rfl ?_
          refine V.getf (v := .ref (a6 + 1)) dX8_times_69 fl_X8_135 f36.1 (by decide) rfl ?_
          obtain ⟨I77, L78, t79, H80⟩ := H75
          refine V.cVv (N := mr_X5_copyFrom) (as := [.ref (a6 + 1)]) dX8_times_72 ml_X8_127 ok_X5_copyFrom okV_X5_copyFrom ⟨Nat.le_of_ble_eq_true rfl, Nat.le_of_ble_eq_true rfl⟩ hd.2.2.2.2.1.1 rfl rfl rfl (Nat.le_of_ble_eq_true rfl) t79 ?_
          refine V.aload_n dX8_times_75 rfl rfl ?_
          refine V.getf (v := .ref (d + 8)) dX8_times_76 fl_X8_29 hd.1 (by decide) rfl ?_
          refine V.aload dX8_times_79 rfl ?_
          refine V.getf (v := .ref (a42 + 1)) dX8_times_81 fl_X8_135 f54.1 (by decide) rfl ?_
          obtain ⟨I82, L83, t84, H85⟩ := H80
          refine V.cVv (N := mr_X5_multiplyBy) (as := [.ref (a42 + 1)]) dX8_times_84 ml_X8_215 ok_X5_multiplyBy okV_X5_multiplyBy ⟨Nat.le_of_ble_eq_true rfl, Nat.le_of_ble_eq_true rfl⟩ hd.2.2.2.2.1.1 rfl rfl rfl (Nat.le_of_ble_eq_true rfl) t84 ?_
          refine V.aload_n dX8_times_87 rfl rfl ?_
          refine V.aload dX8_times_88 rfl ?_
          obtain ⟨r86, I87, L88, t89, H90⟩ := H85
          refine V.cVi (N := mr_X8_settle) (as := [.ref a60]) dX8_times_90 ml_X8_131 ok_X8_settle okV_X8_settle ⟨Nat.le_of_ble_eq_true rfl, Nat.le_of_ble_eq_true rfl⟩ hd.1 rfl rfl rfl (Nat.le_of_ble_eq_true rfl) t89 ?_
          exact V.ret (v := some (.int r86)) rfl (Or.inl ⟨_, rfl, dX8_times_93, _, rfl, rfl⟩) ⟨Nat.le_refl _, Nat.le_refl _⟩ H90
        · have H91 := H73.2 c74
          refine V.bipush (v := (-104)) dX8_times_60 (by decide) ?_
          exact V.ret (v := some (.int (-104 : Int32))) rfl (Or.inl ⟨_, rfl, dX8_times_62, _, rfl, rfl⟩) ⟨Nat.le_refl _, Nat.le_refl _⟩ H91
set_option maxRecDepth 100000 in
set_option maxHeartbeats 4000000 in
theorem wp_X8_common {S : List mjD} {RET : Option Value → mjH → Prop} {d : Nat} (hd : is_Desk S d) {a : Int32} {b : Int32} {c : Int32} {I : Nat → Nat → Int32} {L : Nat → Nat → Int64} (H0 : ∃ r1 I2 L3, CTq mr_X8_filledSlot [.ref d, .int a] S I L r1 I2 L3 ∧ ((r1 = none → ∃ r9 I10 L11, CTq mr_X8_filledSlot [.ref d, .int b] S I2 L3 r9 I10 L11 ∧ ((r9 = none → ∃ r17 I18 L19, CTq mr_X8_anySlot [.ref d, .int c] S I10 L11 r17 I18 L19 ∧ ((r17 = none → RET (some (.int (-101 : Int32))) (S, I18, L19)) ∧ (∀ a22, r17 = some a22 → is_Slot S a22 ∧ RET (some (.int (-101 : Int32))) (S, I18, L19)))) ∧ (∀ a14, r9 = some a14 → is_Slot S a14 ∧ ∃ r27 I28 L29, CTq mr_X8_anySlot [.ref d, .int c] S I10 L11 r27 I28 L29 ∧ ((r27 = none → RET (some (.int (-101 : Int32))) (S, I28, L29)) ∧ (∀ a32, r27 = some a32 → is_Slot S a32 ∧ RET (some (.int (-101 : Int32))) (S, I28, L29)))))) ∧ (∀ a6, r1 = some a6 → is_Slot S a6 ∧ ∃ r37 I38 L39, CTq mr_X8_filledSlot [.ref d, .int b] S I2 L3 r37 I38 L39 ∧ ((r37 = none → ∃ r45 I46 L47, CTq mr_X8_anySlot [.ref d, .int c] S I38 L39 r45 I46 L47 ∧ ((r45 = none → RET (some (.int (-101 : Int32))) (S, I46, L47)) ∧ (∀ a50, r45 = some a50 → is_Slot S a50 ∧ RET (some (.int (-101 : Int32))) (S, I46, L47)))) ∧ (∀ a42, r37 = some a42 → is_Slot S a42 ∧ ∃ r55 I56 L57, CTq mr_X8_anySlot [.ref d, .int c] S I38 L39 r55 I56 L57 ∧ ((r55 = none → RET (some (.int (-101 : Int32))) (S, I56, L57)) ∧ (∀ a60, r55 = some a60 → is_Slot S a60 ∧ ∃ r64 I65 L66, CTl mr_X5_content [.ref (a6 + 1)] S I56 L57 r64 I65 L66 ∧ ∃ r69 I70 L71, CTl mr_X5_content [.ref (a42 + 1)] S I65 L66 r69 I70 L71 ∧ ∃ r74 I75 L76, CTl mr_X5_commonDivisor [.long r64, .long r69] S I70 L71 r74 I75 L76 ∧ ∃ I80 L81, CTv mr_X5_setConstant [.ref (d + 8), .long r74] S I75 L76 I80 L81 ∧ ∃ I85 L86, CTv mr_X1_multiplyShared [.ref (a6 + 3), .ref (a42 + 3), .ref (d + 8)] S I80 L81 I85 L86 ∧ ∃ r89 I90 L91, CTi mr_X8_settle [.ref d, .ref a60] S I85 L86 r89 I90 L91 ∧ RET (some (.int r89)) (S, I90, L91)))))))) : CT mr_X8_common (0, 0) [.ref d, .int a, .int b, .int c] (S, I, L) RET := by
  refine CT.of (lo := [(0, .ref d), (1, .int a), (2, .int b), (3, .int c)]) (by decide) (fun _ _ => Nat.le_of_ble_eq_true rfl) (fun _ _ => rfl) rfl ?_
  refine V.aload_n dX8_common_0 rfl rfl ?_
  refine V.iload_n dX8_common_1 rfl rfl ?_
  obtain ⟨r1, I2, L3, t4, H5⟩ := H0
  refine V.cVq (N := mr_X8_filledSlot) (as := [.int a]) dX8_common_2 ml_X8_169 ok_X8_filledSlot okV_X8_filledSlot ⟨Nat.le_of_ble_eq_true rfl, Nat.le_of_ble_eq_true rfl⟩ hd.1 rfl rfl rfl (Nat.le_of_ble_eq_true rfl) t4 ?_
  cases r1 with
  | none =>
    have H7 := H5.1 rfl
    refine V.astoreN (lo' := [(4, .null), (0, .ref d), (1, .int a), (2, .int b), (3, .int c)]) dX8_common_5 (by decide) rfl ?_
    refine V.aload_n dX8_common_7 rfl rfl ?_
    refine V.iload_n dX8_common_8 rfl rfl ?_
    obtain ⟨r9, I10, L11, t12, H13⟩ := H7
    refine V.cVq (N := mr_X8_filledSlot) (as := [.int b]) dX8_common_9 ml_X8_169 ok_X8_filledSlot okV_X8_filledSlot ⟨Nat.le_of_ble_eq_true rfl, Nat.le_of_ble_eq_true rfl⟩ hd.1 rfl rfl rfl (Nat.le_of_ble_eq_true rfl) t12 ?_
    cases r9 with
    | none =>
      have H15 := H13.1 rfl
      refine V.astoreN (lo' := [(5, .null), (4, .null), (0, .ref d), (1, .int a), (2, .int b), (3, .int c)]) dX8_common_12 (by decide) rfl ?_
      refine V.aload_n dX8_common_14 rfl rfl ?_
      refine V.iload_n dX8_common_15 rfl rfl ?_
      obtain ⟨r17, I18, L19, t20, H21⟩ := H15
      refine V.cVq (N := mr_X8_anySlot) (as := [.int c]) dX8_common_16 ml_X8_116 ok_X8_anySlot okV_X8_anySlot ⟨Nat.le_of_ble_eq_true rfl, Nat.le_of_ble_eq_true rfl⟩ hd.1 rfl rfl rfl (Nat.le_of_ble_eq_true rfl) t20 ?_
      cases r17 with
      | none =>
        have H23 := H21.1 rfl
        refine V.astoreN (lo' := [(6, .null), (5, .null), (4, .null), (0, .ref d), (1, .int a), (2, .int b), (3, .int c)]) dX8_common_19 (by decide) rfl ?_
        refine V.aloadN dX8_common_21 rfl ?_
        refine V.ifnullN (tgt := 36) dX8_common_23 (by decide) ?_
        refine V.bipush (v := (-101)) dX8_common_36 (by decide) ?_
        exact V.ret (v := some (.int (-101 : Int32))) rfl (Or.inl ⟨_, rfl, dX8_common_38, _, rfl, rfl⟩) ⟨Nat.le_refl _, Nat.le_refl _⟩ H23
      | some a22 =>
        obtain ⟨f25, H24⟩ := H21.2 a22 rfl
        refine V.astore (lo' := [(6, .ref a22), (5, .null), (4, .null), (0, .ref d), (1, .int a), (2, .int b), (3, .int c)]) dX8_common_19 (by decide) rfl ?_
        refine V.aloadN dX8_common_21 rfl ?_
        refine V.ifnullN (tgt := 36) dX8_common_23 (by decide) ?_
        refine V.bipush (v := (-101)) dX8_common_36 (by decide) ?_
        exact V.ret (v := some (.int (-101 : Int32))) rfl (Or.inl ⟨_, rfl, dX8_common_38, _, rfl, rfl⟩) ⟨Nat.le_refl _, Nat.le_refl _⟩ H24
    | some a14 =>
      obtain ⟨f26, H16⟩ := H13.2 a14 rfl
      refine V.astore (lo' := [(5, .ref a14), (4, .null), (0, .ref d), (1, .int a), (2, .int b), (3, .int c)]) dX8_common_12 (by decide) rfl ?_
      refine V.aload_n dX8_common_14 rfl rfl ?_
      refine V.iload_n dX8_common_15 rfl rfl ?_
      obtain ⟨r27, I28, L29, t30, H31⟩ := H16
      refine V.cVq (N := mr_X8_anySlot) (as := [.int c]) dX8_common_16 ml_X8_116 ok_X8_anySlot okV_X8_anySlot ⟨Nat.le_of_ble_eq_true rfl, Nat.le_of_ble_eq_true rfl⟩ hd.1 rfl rfl rfl (Nat.le_of_ble_eq_true rfl) t30 ?_
      cases r27 with
      | none =>
        have H33 := H31.1 rfl
        refine V.astoreN (lo' := [(6, .null), (5, .ref a14), (4, .null), (0, .ref d), (1, .int a), (2, .int b), (3, .int c)]) dX8_common_19 (by decide) rfl ?_
        refine V.aloadN dX8_common_21 rfl ?_
        refine V.ifnullN (tgt := 36) dX8_common_23 (by decide) ?_
        refine V.bipush (v := (-101)) dX8_common_36 (by decide) ?_
        exact V.ret (v := some (.int (-101 : Int32))) rfl (Or.inl ⟨_, rfl, dX8_common_38, _, rfl, rfl⟩) ⟨Nat.le_refl _, Nat.le_refl _⟩ H33
      | some a32 =>
        obtain ⟨f35, H34⟩ := H31.2 a32 rfl
        refine V.astore (lo' := [(6, .ref a32), (5, .ref a14), (4, .null), (0, .ref d), (1, .int a), (2, .int b), (3, .int c)]) dX8_common_19 (by decide) rfl ?_
        refine V.aloadN dX8_common_21 rfl ?_
        refine V.ifnullN (tgt := 36) dX8_common_23 (by decide) ?_
        refine V.bipush (v := (-101)) dX8_common_36 (by decide) ?_
        exact V.ret (v := some (.int (-101 : Int32))) rfl (Or.inl ⟨_, rfl, dX8_common_38, _, rfl, rfl⟩) ⟨Nat.le_refl _, Nat.le_refl _⟩ H34
  | some a6 =>
    obtain ⟨f36, H8⟩ := H5.2 a6 rfl
    refine V.astore (lo' := [(4, .ref a6), (0, .ref d), (1, .int a), (2, .int b), (3, .int c)]) dX8_common_5 (by decide) rfl ?_
    refine V.aload_n dX8_common_7 rfl rfl ?_
    refine V.iload_n dX8_common_8 rfl rfl ?_
    obtain ⟨r37, I38, L39, t40, H41⟩ := H8
    refine V.cVq (N := mr_X8_filledSlot) (as := [.int b]) dX8_common_9 ml_X8_169 ok_X8_filledSlot okV_X8_filledSlot ⟨Nat.le_of_ble_eq_true rfl, Nat.le_of_ble_eq_true rfl⟩ hd.1 rfl rfl rfl (Nat.le_of_ble_eq_true rfl) t40 ?_
    cases r37 with
    | none =>
      have H43 := H41.1 rfl
      refine V.astoreN (lo' := [(5, .null), (4, .ref a6), (0, .ref d), (1, .int a), (2, .int b), (3, .int c)]) dX8_common_12 (by decide) rfl ?_
      refine V.aload_n dX8_common_14 rfl rfl ?_
      refine V.iload_n dX8_common_15 rfl rfl ?_
      obtain ⟨r45, I46, L47, t48, H49⟩ := H43
      refine V.cVq (N := mr_X8_anySlot) (as := [.int c]) dX8_common_16 ml_X8_116 ok_X8_anySlot okV_X8_anySlot ⟨Nat.le_of_ble_eq_true rfl, Nat.le_of_ble_eq_true rfl⟩ hd.1 rfl rfl rfl (Nat.le_of_ble_eq_true rfl) t48 ?_
      cases r45 with
      | none =>
        have H51 := H49.1 rfl
        refine V.astoreN (lo' := [(6, .null), (5, .null), (4, .ref a6), (0, .ref d), (1, .int a), (2, .int b), (3, .int c)]) dX8_common_19 (by decide) rfl ?_
        refine V.aload dX8_common_21 rfl ?_
        refine V.ifnull dX8_common_23 ?_
        refine V.aloadN dX8_common_26 rfl ?_
        refine V.ifnullN (tgt := 36) dX8_common_28 (by decide) ?_
        refine V.bipush (v := (-101)) dX8_common_36 (by decide) ?_
        exact V.ret (v := some (.int (-101 : Int32))) rfl (Or.inl ⟨_, rfl, dX8_common_38, _, rfl, rfl⟩) ⟨Nat.le_refl _, Nat.le_refl _⟩ H51
      | some a50 =>
        obtain ⟨f53, H52⟩ := H49.2 a50 rfl
        refine V.astore (lo' := [(6, .ref a50), (5, .null), (4, .ref a6), (0, .ref d), (1, .int a), (2, .int b), (3, .int c)]) dX8_common_19 (by decide) rfl ?_
        refine V.aload dX8_common_21 rfl ?_
        refine V.ifnull dX8_common_23 ?_
        refine V.aloadN dX8_common_26 rfl ?_
        refine V.ifnullN (tgt := 36) dX8_common_28 (by decide) ?_
        refine V.bipush (v := (-101)) dX8_common_36 (by decide) ?_
        exact V.ret (v := some (.int (-101 : Int32))) rfl (Or.inl ⟨_, rfl, dX8_common_38, _, rfl, rfl⟩) ⟨Nat.le_refl _, Nat.le_refl _⟩ H52
    | some a42 =>
      obtain ⟨f54, H44⟩ := H41.2 a42 rfl
      refine V.astore (lo' := [(5, .ref a42), (4, .ref a6), (0, .ref d), (1, .int a), (2, .int b), (3, .int c)]) dX8_common_12 (by decide) rfl ?_
      refine V.aload_n dX8_common_14 rfl rfl ?_
      refine V.iload_n dX8_common_15 rfl rfl ?_
      obtain ⟨r55, I56, L57, t58, H59⟩ := H44
      refine V.cVq (N := mr_X8_anySlot) (as := [.int c]) dX8_common_16 ml_X8_116 ok_X8_anySlot okV_X8_anySlot ⟨Nat.le_of_ble_eq_true rfl, Nat.le_of_ble_eq_true rfl⟩ hd.1 rfl rfl rfl (Nat.le_of_ble_eq_true rfl) t58 ?_
      cases r55 with
      | none =>
        have H61 := H59.1 rfl
        refine V.astoreN (lo' := [(6, .null), (5, .ref a42), (4, .ref a6), (0, .ref d), (1, .int a), (2, .int b), (3, .int c)]) dX8_common_19 (by decide) rfl ?_
        refine V.aload dX8_common_21 rfl ?_
        refine V.ifnull dX8_common_23 ?_
        refine V.aload dX8_common_26 rfl ?_
        refine V.ifnull dX8_common_28 ?_
        refine V.aloadN dX8_common_31 rfl ?_
        refine V.ifnonnullN dX8_common_33 ?_
        refine V.bipush (v := (-101)) dX8_common_36 (by decide) ?_
        exact V.ret (v := some (.int (-101 : Int32))) rfl (Or.inl ⟨_, rfl, dX8_common_38, _, rfl, rfl⟩) ⟨Nat.le_refl _, Nat.le_refl _⟩ H61
      | some a60 =>
        obtain ⟨f63, H62⟩ := H59.2 a60 rfl
        refine V.astore (lo' := [(6, .ref a60), (5, .ref a42), (4, .ref a6), (0, .ref d), (1, .int a), (2, .int b), (3, .int c)]) dX8_common_19 (by decide) rfl ?_
        refine V.aload dX8_common_21 rfl ?_
        refine V.ifnull dX8_common_23 ?_
        refine V.aload dX8_common_26 rfl ?_
        refine V.ifnull dX8_common_28 ?_
        refine V.aload dX8_common_31 rfl ?_
        refine V.ifnonnull (tgt := 39) dX8_common_33 (by decide) ?_
        refine V.aload_n dX8_common_39 rfl rfl ?_
        refine V.getf (v := .ref (d + 8)) dX8_common_40 fl_X8_29 hd.1 (by decide) rfl ?_
        refine V.aload dX8_common_43 rfl ?_
        refine V.getf (v := .ref (a6 + 1)) dX8_common_45 fl_X8_135 f36.1 (by decide) rfl ?_
        obtain ⟨r64, I65, L66, t67, H68⟩ := H62
        refine V.cVl (N := mr_X5_content) (as := []) dX8_common_48 ml_X8_142 ok_X5_content okV_X5_content ⟨Nat.le_of_ble_eq_true rfl, Nat.le_of_ble_eq_true rfl⟩ f36.2.1.1 rfl rfl rfl (Nat.le_of_ble_eq_true rfl) t67 ?_
        refine V.aload dX8_common_51 rfl ?_
        refine V.getf (v := .ref (a42 + 1)) dX8_common_53 fl_X8_135 f54.1 (by decide) rfl ?_
        obtain ⟨r69, I70, L71, t72, H73⟩ := H68
        refine V.cVl (N := mr_X5_content) (as := []) dX8_common_56 ml_X8_142 ok_X5_content okV_X5_content ⟨Nat.le_of_ble_eq_true rfl, Nat.le_of_ble_eq_true rfl⟩ f54.2.1.1 rfl rfl rfl (Nat.le_of_ble_eq_true rfl) t72 ?_
        obtain ⟨r74, I75, L76, t77, H78⟩ := H73
        refine V.cSl (N := mr_X5_commonDivisor) (as := [.long r64, .long r69]) dX8_common_59 ml_X8_218 ok_X5_commonDivisor okS_X5_commonDivisor ⟨Nat.le_of_ble_eq_true rfl, Nat.le_of_ble_eq_true rfl⟩ rfl rfl (Nat.le_of_ble_eq_true rfl) t77 ?_
        obtain ⟨I80, L81, t82, H83⟩ := H78
        refine V.cVv (N := mr_X5_setConstant) (as := [.long r74]) dX8_common_62 ml_X8_222 ok_X5_setConstant okV_X5_setConstant ⟨Nat.le_of_ble_eq_true rfl, Nat.le_of_ble_eq_true rfl⟩ hd.2.2.2.2.1.1 rfl rfl rfl (Nat.le_of_ble_eq_true rfl) t82 ?_
        refine V.aload dX8_common_65 rfl ?_
        refine V.getf (v := .ref (a6 + 3)) dX8_common_67 fl_X8_149 f36.1 (by decide) rfl ?_
        refine V.aload dX8_common_70 rfl ?_
        refine V.getf (v := .ref (a42 + 3)) dX8_common_72 fl_X8_149 f54.1 (by decide) rfl ?_
        refine V.aload_n dX8_common_75 rfl rfl ?_
        refine V.getf (v := .ref (d + 8)) dX8_common_76 fl_X8_29 hd.1 (by decide) rfl ?_
        obtain ⟨I85, L86, t87, H88⟩ := H83
        refine V.cVv (N := mr_X1_multiplyShared) (as := [.ref (a42 + 3), .ref (d + 8)]) dX8_common_79 ml_X8_225 ok_X1_multiplyShared okV_X1_multiplyShared ⟨Nat.le_of_ble_eq_true rfl, Nat.le_of_ble_eq_true rfl⟩ f36.2.2.1 rfl rfl rfl (Nat.le_of_ble_eq_true rfl) t87 ?_
        refine V.aload_n dX8_common_82 rfl rfl ?_
        refine V.aload dX8_common_83 rfl ?_
        obtain ⟨r89, I90, L91, t92, H93⟩ := H88
        refine V.cVi (N := mr_X8_settle) (as := [.ref a60]) dX8_common_85 ml_X8_131 ok_X8_settle okV_X8_settle ⟨Nat.le_of_ble_eq_true rfl, Nat.le_of_ble_eq_true rfl⟩ hd.1 rfl rfl rfl (Nat.le_of_ble_eq_true rfl) t92 ?_
        exact V.ret (v := some (.int r89)) rfl (Or.inl ⟨_, rfl, dX8_common_88, _, rfl, rfl⟩) ⟨Nat.le_refl _, Nat.le_refl _⟩ H93
set_option maxRecDepth 100000 in
set_option maxHeartbeats 4000000 in
theorem wp_X8_slope {S : List mjD} {RET : Option Value → mjH → Prop} {d : Nat} (hd : is_Desk S d) {a : Int32} {b : Int32} {I : Nat → Nat → Int32} {L : Nat → Nat → Int64} (H0 : ∃ r1 I2 L3, CTq mr_X8_filledSlot [.ref d, .int a] S I L r1 I2 L3 ∧ ((r1 = none → ∃ r9 I10 L11, CTq mr_X8_anySlot [.ref d, .int b] S I2 L3 r9 I10 L11 ∧ ((r9 = none → RET (some (.int (-101 : Int32))) (S, I10, L11)) ∧ (∀ a14, r9 = some a14 → is_Slot S a14 ∧ RET (some (.int (-101 : Int32))) (S, I10, L11)))) ∧ (∀ a6, r1 = some a6 → is_Slot S a6 ∧ ∃ r19 I20 L21, CTq mr_X8_anySlot [.ref d, .int b] S I2 L3 r19 I20 L21 ∧ ((r19 = none → RET (some (.int (-101 : Int32))) (S, I20, L21)) ∧ (∀ a24, r19 = some a24 → is_Slot S a24 ∧ ∃ r28 I29 L30, CTi mr_X5_degree [.ref (a6 + 1)] S I20 L21 r28 I29 L30 ∧ (((1 : Int32) ≤ r28 → ∃ I36 L37, CTv mr_X5_derivativeFrom [.ref (d + 8), .ref (a6 + 1)] S I29 L30 I36 L37 ∧ ∃ r40 I41 L42, CTi mr_X8_settle [.ref d, .ref a24] S I36 L37 r40 I41 L42 ∧ RET (some (.int r40)) (S, I41, L42)) ∧ (¬ (1 : Int32) ≤ r28 → RET (some (.int (-103 : Int32))) (S, I29, L30)))))))) : CT mr_X8_slope (0, 0) [.ref d, .int a, .int b] (S, I, L) RET := by
  refine CT.of (lo := [(0, .ref d), (1, .int a), (2, .int b)]) (by decide) (fun _ _ => Nat.le_of_ble_eq_true rfl) (fun _ _ => rfl) rfl ?_
  refine V.aload_n dX8_slope_0 rfl rfl ?_
  refine V.iload_n dX8_slope_1 rfl rfl ?_
  obtain ⟨r1, I2, L3, t4, H5⟩ := H0
  refine V.cVq (N := mr_X8_filledSlot) (as := [.int a]) dX8_slope_2 ml_X8_169 ok_X8_filledSlot okV_X8_filledSlot ⟨Nat.le_of_ble_eq_true rfl, Nat.le_of_ble_eq_true rfl⟩ hd.1 rfl rfl rfl (Nat.le_of_ble_eq_true rfl) t4 ?_
  cases r1 with
  | none =>
    have H7 := H5.1 rfl
    refine V.astore_nN (lo' := [(3, .null), (0, .ref d), (1, .int a), (2, .int b)]) dX8_slope_5 rfl (by decide) rfl ?_
    refine V.aload_n dX8_slope_6 rfl rfl ?_
    refine V.iload_n dX8_slope_7 rfl rfl ?_
    obtain ⟨r9, I10, L11, t12, H13⟩ := H7
    refine V.cVq (N := mr_X8_anySlot) (as := [.int b]) dX8_slope_8 ml_X8_116 ok_X8_anySlot okV_X8_anySlot ⟨Nat.le_of_ble_eq_true rfl, Nat.le_of_ble_eq_true rfl⟩ hd.1 rfl rfl rfl (Nat.le_of_ble_eq_true rfl) t12 ?_
    cases r9 with
    | none =>
      have H15 := H13.1 rfl
      refine V.astoreN (lo' := [(4, .null), (3, .null), (0, .ref d), (1, .int a), (2, .int b)]) dX8_slope_11 (by decide) rfl ?_
      refine V.aload_nN dX8_slope_13 rfl rfl ?_
      refine V.ifnullN (tgt := 22) dX8_slope_14 (by decide) ?_
      refine V.bipush (v := (-101)) dX8_slope_22 (by decide) ?_
      exact V.ret (v := some (.int (-101 : Int32))) rfl (Or.inl ⟨_, rfl, dX8_slope_24, _, rfl, rfl⟩) ⟨Nat.le_refl _, Nat.le_refl _⟩ H15
    | some a14 =>
      obtain ⟨f17, H16⟩ := H13.2 a14 rfl
      refine V.astore (lo' := [(4, .ref a14), (3, .null), (0, .ref d), (1, .int a), (2, .int b)]) dX8_slope_11 (by decide) rfl ?_
      refine V.aload_nN dX8_slope_13 rfl rfl ?_
      refine V.ifnullN (tgt := 22) dX8_slope_14 (by decide) ?_
      refine V.bipush (v := (-101)) dX8_slope_22 (by decide) ?_
      exact V.ret (v := some (.int (-101 : Int32))) rfl (Or.inl ⟨_, rfl, dX8_slope_24, _, rfl, rfl⟩) ⟨Nat.le_refl _, Nat.le_refl _⟩ H16
  | some a6 =>
    obtain ⟨f18, H8⟩ := H5.2 a6 rfl
    refine V.astore_n (lo' := [(3, .ref a6), (0, .ref d), (1, .int a), (2, .int b)]) dX8_slope_5 rfl (by decide) rfl ?_
    refine V.aload_n dX8_slope_6 rfl rfl ?_
    refine V.iload_n dX8_slope_7 rfl rfl ?_
    obtain ⟨r19, I20, L21, t22, H23⟩ := H8
    refine V.cVq (N := mr_X8_anySlot) (as := [.int b]) dX8_slope_8 ml_X8_116 ok_X8_anySlot okV_X8_anySlot ⟨Nat.le_of_ble_eq_true rfl, Nat.le_of_ble_eq_true rfl⟩ hd.1 rfl rfl rfl (Nat.le_of_ble_eq_true rfl) t22 ?_
    cases r19 with
    | none =>
      have H25 := H23.1 rfl
      refine V.astoreN (lo' := [(4, .null), (3, .ref a6), (0, .ref d), (1, .int a), (2, .int b)]) dX8_slope_11 (by decide) rfl ?_
      refine V.aload_n dX8_slope_13 rfl rfl ?_
      refine V.ifnull dX8_slope_14 ?_
      refine V.aloadN dX8_slope_17 rfl ?_
      refine V.ifnonnullN dX8_slope_19 ?_
      refine V.bipush (v := (-101)) dX8_slope_22 (by decide) ?_
      exact V.ret (v := some (.int (-101 : Int32))) rfl (Or.inl ⟨_, rfl, dX8_slope_24, _, rfl, rfl⟩) ⟨Nat.le_refl _, Nat.le_refl _⟩ H25
    | some a24 =>
      obtain ⟨f27, H26⟩ := H23.2 a24 rfl
      refine V.astore (lo' := [(4, .ref a24), (3, .ref a6), (0, .ref d), (1, .int a), (2, .int b)]) dX8_slope_11 (by decide) rfl ?_
      refine V.aload_n dX8_slope_13 rfl rfl ?_
      refine V.ifnull dX8_slope_14 ?_
      refine V.aload dX8_slope_17 rfl ?_
      refine V.ifnonnull (tgt := 25) dX8_slope_19 (by decide) ?_
      refine V.aload_n dX8_slope_25 rfl rfl ?_
      refine V.getf (v := .ref (a6 + 1)) dX8_slope_26 fl_X8_135 f18.1 (by decide) rfl ?_
      obtain ⟨r28, I29, L30, t31, H32⟩ := H26
      refine V.cVi (N := mr_X5_degree) (as := []) dX8_slope_29 ml_X8_138 ok_X5_degree okV_X5_degree ⟨Nat.le_of_ble_eq_true rfl, Nat.le_of_ble_eq_true rfl⟩ f18.2.1.1 rfl rfl rfl (Nat.le_of_ble_eq_true rfl) t31 ?_
      refine V.iconst (v := (1)) dX8_slope_32 (by decide) ?_
      refine V.icmp_ge (tgt := 39) dX8_slope_33 (by decide) (fun c33 => ?_) (fun c33 => ?_)
      · have H34 := H32.1 c33
        refine V.aload_n dX8_slope_39 rfl rfl ?_
        refine V.getf (v := .ref (d + 8)) dX8_slope_40 fl_X8_29 hd.1 (by decide) rfl ?_
        refine V.aload_n dX8_slope_43 rfl rfl ?_
        refine V.getf (v := .ref (a6 + 1)) dX8_slope_44 fl_X8_135 f18.1 (by decide) rfl ?_
        obtain ⟨I36, L37, t38, H39⟩ := H34
        refine V.cVv (N := mr_X5_derivativeFrom) (as := [.ref (a6 + 1)]) dX8_slope_47 ml_X8_229 ok_X5_derivativeFrom okV_X5_derivativeFrom ⟨Nat.le_of_ble_eq_true rfl, Nat.le_of_ble_eq_true rfl⟩ hd.2.2.2.2.1.1 rfl rfl rfl (Nat.le_of_ble_eq_true rfl) t38 ?_
        refine V.aload_n dX8_slope_50 rfl rfl ?_
        refine V.aload dX8_slope_51 rfl ?_
        obtain ⟨r40, I41, L42, t43, H44⟩ := H39
        refine V.cVi (N := mr_X8_settle) (as := [.ref a24]) dX8_slope_53 ml_X8_131 ok_X8_settle okV_X8_settle ⟨Nat.le_of_ble_eq_true rfl, Nat.le_of_ble_eq_true rfl⟩ hd.1 rfl rfl rfl (Nat.le_of_ble_eq_true rfl) t43 ?_
        exact V.ret (v := some (.int r40)) rfl (Or.inl ⟨_, rfl, dX8_slope_56, _, rfl, rfl⟩) ⟨Nat.le_refl _, Nat.le_refl _⟩ H44
      · have H45 := H32.2 c33
        refine V.bipush (v := (-103)) dX8_slope_36 (by decide) ?_
        exact V.ret (v := some (.int (-103 : Int32))) rfl (Or.inl ⟨_, rfl, dX8_slope_38, _, rfl, rfl⟩) ⟨Nat.le_refl _, Nat.le_refl _⟩ H45
set_option maxRecDepth 100000 in
set_option maxHeartbeats 4000000 in
theorem wp_X8_move {S : List mjD} {RET : Option Value → mjH → Prop} {d : Nat} (hd : is_Desk S d) {a : Int32} {b : Int32} {c : Int32} {I : Nat → Nat → Int32} {L : Nat → Nat → Int64} (H0 : ∃ r1 I2 L3, CTq mr_X8_filledSlot [.ref d, .int a] S I L r1 I2 L3 ∧ ((r1 = none → ∃ r9 I10 L11, CTq mr_X8_anySlot [.ref d, .int c] S I2 L3 r9 I10 L11 ∧ ((r9 = none → RET (some (.int (-101 : Int32))) (S, I10, L11)) ∧ (∀ a14, r9 = some a14 → is_Slot S a14 ∧ RET (some (.int (-101 : Int32))) (S, I10, L11)))) ∧ (∀ a6, r1 = some a6 → is_Slot S a6 ∧ ∃ r19 I20 L21, CTq mr_X8_anySlot [.ref d, .int c] S I2 L3 r19 I20 L21 ∧ ((r19 = none → RET (some (.int (-101 : Int32))) (S, I20, L21)) ∧ (∀ a24, r19 = some a24 → is_Slot S a24 ∧ ((b < (-9 : Int32) → RET (some (.int (-102 : Int32))) (S, I20, L21)) ∧ (¬ b < (-9 : Int32) → ((b ≤ (9 : Int32) → ∃ I34 L35, CTv mr_X5_shiftFrom [.ref (d + 8), .ref (a6 + 1), .int b] S I20 L21 I34 L35 ∧ ∃ r38 I39 L40, CTi mr_X8_settle [.ref d, .ref a24] S I34 L35 r38 I39 L40 ∧ RET (some (.int r38)) (S, I39, L40)) ∧ (¬ b ≤ (9 : Int32) → RET (some (.int (-102 : Int32))) (S, I20, L21)))))))))) : CT mr_X8_move (0, 0) [.ref d, .int a, .int b, .int c] (S, I, L) RET := by
  refine CT.of (lo := [(0, .ref d), (1, .int a), (2, .int b), (3, .int c)]) (by decide) (fun _ _ => Nat.le_of_ble_eq_true rfl) (fun _ _ => rfl) rfl ?_
  refine V.aload_n dX8_move_0 rfl rfl ?_
  refine V.iload_n dX8_move_1 rfl rfl ?_
  obtain ⟨r1, I2, L3, t4, H5⟩ := H0
  refine V.cVq (N := mr_X8_filledSlot) (as := [.int a]) dX8_move_2 ml_X8_169 ok_X8_filledSlot okV_X8_filledSlot ⟨Nat.le_of_ble_eq_true rfl, Nat.le_of_ble_eq_true rfl⟩ hd.1 rfl rfl rfl (Nat.le_of_ble_eq_true rfl) t4 ?_
  cases r1 with
  | none =>
    have H7 := H5.1 rfl
    refine V.astoreN (lo' := [(4, .null), (0, .ref d), (1, .int a), (2, .int b), (3, .int c)]) dX8_move_5 (by decide) rfl ?_
    refine V.aload_n dX8_move_7 rfl rfl ?_
    refine V.iload_n dX8_move_8 rfl rfl ?_
    obtain ⟨r9, I10, L11, t12, H13⟩ := H7
    refine V.cVq (N := mr_X8_anySlot) (as := [.int c]) dX8_move_9 ml_X8_116 ok_X8_anySlot okV_X8_anySlot ⟨Nat.le_of_ble_eq_true rfl, Nat.le_of_ble_eq_true rfl⟩ hd.1 rfl rfl rfl (Nat.le_of_ble_eq_true rfl) t12 ?_
    cases r9 with
    | none =>
      have H15 := H13.1 rfl
      refine V.astoreN (lo' := [(5, .null), (4, .null), (0, .ref d), (1, .int a), (2, .int b), (3, .int c)]) dX8_move_12 (by decide) rfl ?_
      refine V.aloadN dX8_move_14 rfl ?_
      refine V.ifnullN (tgt := 24) dX8_move_16 (by decide) ?_
      refine V.bipush (v := (-101)) dX8_move_24 (by decide) ?_
      exact V.ret (v := some (.int (-101 : Int32))) rfl (Or.inl ⟨_, rfl, dX8_move_26, _, rfl, rfl⟩) ⟨Nat.le_refl _, Nat.le_refl _⟩ H15
    | some a14 =>
      obtain ⟨f17, H16⟩ := H13.2 a14 rfl
      refine V.astore (lo' := [(5, .ref a14), (4, .null), (0, .ref d), (1, .int a), (2, .int b), (3, .int c)]) dX8_move_12 (by decide) rfl ?_
      refine V.aloadN dX8_move_14 rfl ?_
      refine V.ifnullN (tgt := 24) dX8_move_16 (by decide) ?_
      refine V.bipush (v := (-101)) dX8_move_24 (by decide) ?_
      exact V.ret (v := some (.int (-101 : Int32))) rfl (Or.inl ⟨_, rfl, dX8_move_26, _, rfl, rfl⟩) ⟨Nat.le_refl _, Nat.le_refl _⟩ H16
  | some a6 =>
    obtain ⟨f18, H8⟩ := H5.2 a6 rfl
    refine V.astore (lo' := [(4, .ref a6), (0, .ref d), (1, .int a), (2, .int b), (3, .int c)]) dX8_move_5 (by decide) rfl ?_
    refine V.aload_n dX8_move_7 rfl rfl ?_
    refine V.iload_n dX8_move_8 rfl rfl ?_
    obtain ⟨r19, I20, L21, t22, H23⟩ := H8
    refine V.cVq (N := mr_X8_anySlot) (as := [.int c]) dX8_move_9 ml_X8_116 ok_X8_anySlot okV_X8_anySlot ⟨Nat.le_of_ble_eq_true rfl, Nat.le_of_ble_eq_true rfl⟩ hd.1 rfl rfl rfl (Nat.le_of_ble_eq_true rfl) t22 ?_
    cases r19 with
    | none =>
      have H25 := H23.1 rfl
      refine V.astoreN (lo' := [(5, .null), (4, .ref a6), (0, .ref d), (1, .int a), (2, .int b), (3, .int c)]) dX8_move_12 (by decide) rfl ?_
      refine V.aload dX8_move_14 rfl ?_
      refine V.ifnull dX8_move_16 ?_
      refine V.aloadN dX8_move_19 rfl ?_
      refine V.ifnonnullN dX8_move_21 ?_
      refine V.bipush (v := (-101)) dX8_move_24 (by decide) ?_
      exact V.ret (v := some (.int (-101 : Int32))) rfl (Or.inl ⟨_, rfl, dX8_move_26, _, rfl, rfl⟩) ⟨Nat.le_refl _, Nat.le_refl _⟩ H25
    | some a24 =>
      obtain ⟨f27, H26⟩ := H23.2 a24 rfl
      refine V.astore (lo' := [(5, .ref a24), (4, .ref a6), (0, .ref d), (1, .int a), (2, .int b), (3, .int c)]) dX8_move_12 (by decide) rfl ?_
      refine V.aload dX8_move_14 rfl ?_
      refine V.ifnull dX8_move_16 ?_
      refine V.aload dX8_move_19 rfl ?_
      refine V.ifnonnull (tgt := 27) dX8_move_21 (by decide) ?_
      refine V.iload_n dX8_move_27 rfl rfl ?_
      refine V.bipush (v := (-9)) dX8_move_28 (by decide) ?_
      refine V.icmp_lt (tgt := 39) dX8_move_30 (by decide) (fun c28 => ?_) (fun c28 => ?_)
      · have H29 := H26.1 c28
        refine V.bipush (v := (-102)) dX8_move_39 (by decide) ?_
        exact V.ret (v := some (.int (-102 : Int32))) rfl (Or.inl ⟨_, rfl, dX8_move_41, _, rfl, rfl⟩) ⟨Nat.le_refl _, Nat.le_refl _⟩ H29
      · have H30 := H26.2 c28
        refine V.iload_n dX8_move_33 rfl rfl ?_
        refine V.bipush (v := (9)) dX8_move_34 (by decide) ?_
        refine V.icmp_le (tgt := 42) dX8_move_36 (by decide) (fun c31 => ?_) (fun c31 => ?_)
        · have H32 := H30.1 c31
          refine V.aload_n dX8_move_42 rfl rfl ?_
          refine V.getf (v := .ref (d + 8)) dX8_move_43 fl_X8_29 hd.1 (by decide) rfl ?_
          refine V.aload dX8_move_46 rfl ?_
          refine V.getf (v := .ref (a6 + 1)) dX8_move_48 fl_X8_135 f18.1 (by decide) rfl ?_
          refine V.iload_n dX8_move_51 rfl rfl ?_
          obtain ⟨I34, L35, t36, H37⟩ := H32
          refine V.cVv (N := mr_X5_shiftFrom) (as := [.ref (a6 + 1), .int b]) dX8_move_52 ml_X8_232 ok_X5_shiftFrom okV_X5_shiftFrom ⟨Nat.le_of_ble_eq_true rfl, Nat.le_of_ble_eq_true rfl⟩ hd.2.2.2.2.1.1 rfl rfl rfl (Nat.le_of_ble_eq_true rfl) t36 ?_
          refine V.aload_n dX8_move_55 rfl rfl ?_
          refine V.aload dX8_move_56 rfl ?_
          obtain ⟨r38, I39, L40, t41, H42⟩ := H37
          refine V.cVi (N := mr_X8_settle) (as := [.ref a24]) dX8_move_58 ml_X8_131 ok_X8_settle okV_X8_settle ⟨Nat.le_of_ble_eq_true rfl, Nat.le_of_ble_eq_true rfl⟩ hd.1 rfl rfl rfl (Nat.le_of_ble_eq_true rfl) t41 ?_
          exact V.ret (v := some (.int r38)) rfl (Or.inl ⟨_, rfl, dX8_move_61, _, rfl, rfl⟩) ⟨Nat.le_refl _, Nat.le_refl _⟩ H42
        · have H43 := H30.2 c31
          refine V.bipush (v := (-102)) dX8_move_39 (by decide) ?_
          exact V.ret (v := some (.int (-102 : Int32))) rfl (Or.inl ⟨_, rfl, dX8_move_41, _, rfl, rfl⟩) ⟨Nat.le_refl _, Nat.le_refl _⟩ H43
