def hd_X0_squareRoot_34 (S : List mjD) (RET : Option Value → mjH → Prop) (x0 : Int64) (x2 : Int64) (x4 : Int64) (I : Nat → Nat → Int32) (L : Nat → Nat → Int64) : Prop := V mr_X0_squareRoot (0, 0) RET 34 [(0, .long x0), (2, .long x2), (4, .long x4)] [] (S, I, L) (0, 0)
set_option maxRecDepth 100000 in
set_option maxHeartbeats 4000000 in
theorem it_X0_squareRoot_34 {S : List mjD} {RET : Option Value → mjH → Prop} {x0 : Int64} {x2 : Int64} {x4 : Int64} {I : Nat → Nat → Int32} {L : Nat → Nat → Int64} (H0 : ((x4 ≤ (0 : Int64) → ((¬ (x2 * x2) = x0 → RET (some (.long (-1 : Int64))) (S, I, L)) ∧ ((x2 * x2) = x0 → RET (some (.long x2)) (S, I, L)))) ∧ (¬ x4 ≤ (0 : Int64) → ∀ y13 : Int64, y13 = (x2 + x4) → ((x0 < (y13 * y13) → ∀ y18 : Int64, y18 = (x4 >>> ((1 : Int32).toInt64 &&& 63)) → hd_X0_squareRoot_34 S RET x0 x2 y18 I L) ∧ (¬ x0 < (y13 * y13) → ∀ y22 : Int64, y22 = (x4 >>> ((1 : Int32).toInt64 &&& 63)) → hd_X0_squareRoot_34 S RET x0 y13 y22 I L))))) : hd_X0_squareRoot_34 S RET x0 x2 x4 I L := by
  unfold hd_X0_squareRoot_34
  refine V.lload dX0_squareRoot_34 rfl ?_
  refine V.lconst (v := 0) dX0_squareRoot_36 (by decide) ?_
  refine V.lc_le (tgt := 69) dX0_squareRoot_37 dX0_squareRoot_38 (by decide) (fun c7 => ?_) (fun c7 => ?_)
  · have H8 := H0.1 c7
    refine V.lload_n dX0_squareRoot_69 rfl rfl ?_
    refine V.lload_n dX0_squareRoot_70 rfl rfl ?_
    refine V.lmul dX0_squareRoot_71 ?_
    refine V.lload_n dX0_squareRoot_72 rfl rfl ?_
    refine V.lc_ne (tgt := 81) dX0_squareRoot_73 dX0_squareRoot_74 (by decide) (fun c9 => ?_) (fun c9 => ?_)
    · have H10 := H8.1 c9
      refine V.ldc2 kc_X0_111 dX0_squareRoot_81 ?_
      exact V.ret (v := some (.long (-1 : Int64))) rfl (Or.inr (Or.inl ⟨_, rfl, dX0_squareRoot_84, rfl⟩)) ⟨Nat.le_refl _, Nat.le_refl _⟩ H10
    · have H11 := H8.2 c9
      refine V.lload_n dX0_squareRoot_77 rfl rfl ?_
      refine V.goto (tgt := 84) dX0_squareRoot_78 (by decide) ?_
      exact V.ret (v := some (.long x2)) rfl (Or.inr (Or.inl ⟨_, rfl, dX0_squareRoot_84, rfl⟩)) ⟨Nat.le_refl _, Nat.le_refl _⟩ H11
  · have H12 := H0.2 c7
    refine V.lload_n dX0_squareRoot_41 rfl rfl ?_
    refine V.lload dX0_squareRoot_42 rfl ?_
    refine V.ladd dX0_squareRoot_44 ?_
    refine V.topl (fun y13 e14 => ?_)
    have H15 := H12 y13 e14
    refine V.lstore (lo' := [(6, .long y13), (0, .long x0), (2, .long x2), (4, .long x4)]) dX0_squareRoot_45 (by decide) rfl ?_
    refine V.lload dX0_squareRoot_47 rfl ?_
    refine V.lload dX0_squareRoot_49 rfl ?_
    refine V.lmul dX0_squareRoot_51 ?_
    refine V.lload_n dX0_squareRoot_52 rfl rfl ?_
    refine V.lc_gt (tgt := 60) dX0_squareRoot_53 dX0_squareRoot_54 (by decide) (fun c16 => ?_) (fun c16 => ?_)
    · have H17 := H15.1 c16
      refine V.lload dX0_squareRoot_60 rfl ?_
      refine V.iconst (v := (1)) dX0_squareRoot_62 (by decide) ?_
      refine V.lshr dX0_squareRoot_63 ?_
      refine V.topl (fun y18 e19 => ?_)
      have H20 := H17 y18 e19
      refine V.lstore (lo' := [(4, .long y18), (6, .long y13), (0, .long x0), (2, .long x2)]) dX0_squareRoot_64 (by decide) rfl ?_
      refine V.goto (tgt := 34) dX0_squareRoot_66 (by decide) ?_
      exact V.los [2, 3, 0] rfl H20
    · have H21 := H15.2 c16
      refine V.lload dX0_squareRoot_57 rfl ?_
      refine V.lstore_n (lo' := [(2, .long y13), (6, .long y13), (0, .long x0), (4, .long x4)]) dX0_squareRoot_59 rfl (by decide) rfl ?_
      refine V.lload dX0_squareRoot_60 rfl ?_
      refine V.iconst (v := (1)) dX0_squareRoot_62 (by decide) ?_
      refine V.lshr dX0_squareRoot_63 ?_
      refine V.topl (fun y22 e23 => ?_)
      have H24 := H21 y22 e23
      refine V.lstore (lo' := [(4, .long y22), (2, .long y13), (6, .long y13), (0, .long x0)]) dX0_squareRoot_64 (by decide) rfl ?_
      refine V.goto (tgt := 34) dX0_squareRoot_66 (by decide) ?_
      exact V.los [3, 1, 0] rfl H24
set_option maxRecDepth 100000 in
set_option maxHeartbeats 4000000 in
theorem wp_X0_squareRoot {S : List mjD} {RET : Option Value → mjH → Prop} {a : Int64} {I : Nat → Nat → Int32} {L : Nat → Nat → Int64} (H0 : ((a < (0 : Int64) → RET (some (.long (-1 : Int64))) (S, I, L)) ∧ (¬ a < (0 : Int64) → ((¬ (((144680414395695635 : Int64).toUInt64 >>> ((a &&& (63 : Int64)).toInt32.toInt64.toUInt64 &&& Int64.toUInt64 63)).toInt64 &&& (1 : Int64)) = (0 : Int64) → hd_X0_squareRoot_34 S RET a (0 : Int64) (1073741824 : Int64) I L) ∧ ((((144680414395695635 : Int64).toUInt64 >>> ((a &&& (63 : Int64)).toInt32.toInt64.toUInt64 &&& Int64.toUInt64 63)).toInt64 &&& (1 : Int64)) = (0 : Int64) → RET (some (.long (-1 : Int64))) (S, I, L)))))) : CT mr_X0_squareRoot (0, 0) [.long a] (S, I, L) RET := by
  refine CT.of (lo := [(0, .long a)]) (by decide) (fun _ _ => Nat.le_of_ble_eq_true rfl) (fun _ _ => rfl) rfl ?_
  refine V.lload_n dX0_squareRoot_0 rfl rfl ?_
  refine V.lconst (v := 0) dX0_squareRoot_1 (by decide) ?_
  refine V.lc_lt (tgt := 23) dX0_squareRoot_2 dX0_squareRoot_3 (by decide) (fun c1 => ?_) (fun c1 => ?_)
  · have H2 := H0.1 c1
    refine V.ldc2 kc_X0_111 dX0_squareRoot_23 ?_
    exact V.ret (v := some (.long (-1 : Int64))) rfl (Or.inr (Or.inl ⟨_, rfl, dX0_squareRoot_26, rfl⟩)) ⟨Nat.le_refl _, Nat.le_refl _⟩ H2
  · have H3 := H0.2 c1
    refine V.ldc2 kc_X0_117 dX0_squareRoot_6 ?_
    refine V.lload_n dX0_squareRoot_9 rfl rfl ?_
    refine V.ldc2 kc_X0_119 dX0_squareRoot_10 ?_
    refine V.land dX0_squareRoot_13 ?_
    refine V.l2i dX0_squareRoot_14 ?_
    refine V.lushr dX0_squareRoot_15 ?_
    refine V.lconst (v := 1) dX0_squareRoot_16 (by decide) ?_
    refine V.land dX0_squareRoot_17 ?_
    refine V.lconst (v := 0) dX0_squareRoot_18 (by decide) ?_
    refine V.lc_ne (tgt := 27) dX0_squareRoot_19 dX0_squareRoot_20 (by decide) (fun c4 => ?_) (fun c4 => ?_)
    · have H5 := H3.1 c4
      refine V.lconst (v := 0) dX0_squareRoot_27 (by decide) ?_
      refine V.lstore_n (lo' := [(2, .long (0 : Int64)), (0, .long a)]) dX0_squareRoot_28 rfl (by decide) rfl ?_
      refine V.ldc2 kc_X0_121 dX0_squareRoot_29 ?_
      refine V.lstore (lo' := [(4, .long (1073741824 : Int64)), (2, .long (0 : Int64)), (0, .long a)]) dX0_squareRoot_32 (by decide) rfl ?_
      exact V.los [2, 1, 0] rfl H5
    · have H6 := H3.2 c4
      refine V.ldc2 kc_X0_111 dX0_squareRoot_23 ?_
      exact V.ret (v := some (.long (-1 : Int64))) rfl (Or.inr (Or.inl ⟨_, rfl, dX0_squareRoot_26, rfl⟩)) ⟨Nat.le_refl _, Nat.le_refl _⟩ H6
set_option maxRecDepth 100000 in
set_option maxHeartbeats 4000000 in
theorem wp_X1_baseAt {S : List mjD} {RET : Option Value → mjH → Prop} {p : Nat} (hp : is_Factors S p) {a : Int32} {I : Nat → Nat → Int32} {L : Nat → Nat → Int64} (H0 : ((a < 0 → RET (some (.null)) (S, I, L)) ∧ (¬ a < 0 → (((I p 2) ≤ a → RET (some (.null)) (S, I, L)) ∧ (¬ (I p 2) ≤ a → (((5 : Int32) ≤ a → RET (some (.null)) (S, I, L)) ∧ (¬ (5 : Int32) ≤ a → (vp_in a 5) ∧ RET (some (.ref ((p + 1) + 2 + 2 * a.toNatClampNeg))) (S, I, L)))))))) : CT mr_X1_baseAt (0, 0) [.ref p, .int a] (S, I, L) RET := by
  refine CT.of (lo := [(0, .ref p), (1, .int a)]) (by decide) (fun _ _ => Nat.le_of_ble_eq_true rfl) (fun _ _ => rfl) rfl ?_
  refine V.iload_n dX1_baseAt_0 rfl rfl ?_
  refine V.if_lt (tgt := 30) dX1_baseAt_1 (by decide) (fun c1 => ?_) (fun c1 => ?_)
  · have H2 := H0.1 c1
    refine V.null dX1_baseAt_30 ?_
    exact V.ret (v := some (.null)) rfl (Or.inr (Or.inr (Or.inl ⟨Or.inl rfl, dX1_baseAt_31, _, rfl⟩))) ⟨Nat.le_refl _, Nat.le_refl _⟩ H2
  · have H3 := H0.2 c1
    refine V.iload_n dX1_baseAt_4 rfl rfl ?_
    refine V.aload_n dX1_baseAt_5 rfl rfl ?_
    refine V.getf (v := .int (I p 2)) dX1_baseAt_6 fl_X1_22 hp.1 (by decide) rfl ?_
    refine V.icmp_ge (tgt := 30) dX1_baseAt_9 (by decide) (fun c4 => ?_) (fun c4 => ?_)
    · have H5 := H3.1 c4
      refine V.null dX1_baseAt_30 ?_
      exact V.ret (v := some (.null)) rfl (Or.inr (Or.inr (Or.inl ⟨Or.inl rfl, dX1_baseAt_31, _, rfl⟩))) ⟨Nat.le_refl _, Nat.le_refl _⟩ H5
    · have H6 := H3.2 c4
      refine V.iload_n dX1_baseAt_12 rfl rfl ?_
      refine V.aload_n dX1_baseAt_13 rfl rfl ?_
      refine V.getf (v := .ref (p + 1)) dX1_baseAt_14 fl_X1_11 hp.1 (by decide) rfl ?_
      refine V.alen (v := 5) dX1_baseAt_17 hp.2.1 (Or.inr (Or.inr (Or.inr (Or.inl rfl)))) (by decide) ?_
      refine V.icmp_ge (tgt := 30) dX1_baseAt_18 (by decide) (fun c7 => ?_) (fun c7 => ?_)
      · have H8 := H6.1 c7
        refine V.null dX1_baseAt_30 ?_
        exact V.ret (v := some (.null)) rfl (Or.inr (Or.inr (Or.inl ⟨Or.inl rfl, dX1_baseAt_31, _, rfl⟩))) ⟨Nat.le_refl _, Nat.le_refl _⟩ H8
      · have H9 := H6.2 c7
        refine V.aload_n dX1_baseAt_21 rfl rfl ?_
        refine V.getf (v := .ref (p + 1)) dX1_baseAt_22 fl_X1_11 hp.1 (by decide) rfl ?_
        refine V.iload_n dX1_baseAt_25 rfl rfl ?_
        obtain ⟨o10, H11⟩ := H9
        refine V.aald (v := .ref ((p + 1) + 2 + 2 * a.toNatClampNeg)) dX1_baseAt_26 hp.2.1 (Or.inl rfl) o10 (mj_gp o10) ?_
        have f12 : is_Poly S ((p + 1) + 2 + 2 * a.toNatClampNeg) := hp.2.2.2 _ (mj_lt o10)
        refine V.goto (tgt := 31) dX1_baseAt_27 (by decide) ?_
        exact V.ret (v := some (.ref ((p + 1) + 2 + 2 * a.toNatClampNeg))) rfl (Or.inr (Or.inr (Or.inl ⟨Or.inr ⟨_, rfl⟩, dX1_baseAt_31, _, rfl⟩))) ⟨Nat.le_refl _, Nat.le_refl _⟩ H11
set_option maxRecDepth 100000 in
set_option maxHeartbeats 4000000 in
theorem wp_X1_multiplicityAt {S : List mjD} {RET : Option Value → mjH → Prop} {p : Nat} (hp : is_Factors S p) {a : Int32} {I : Nat → Nat → Int32} {L : Nat → Nat → Int64} (H0 : ((a < 0 → RET (some (.int (0 : Int32))) (S, I, L)) ∧ (¬ a < 0 → (((I p 2) ≤ a → RET (some (.int (0 : Int32))) (S, I, L)) ∧ (¬ (I p 2) ≤ a → (((5 : Int32) ≤ a → RET (some (.int (0 : Int32))) (S, I, L)) ∧ (¬ (5 : Int32) ≤ a → (vp_in a 5) ∧ RET (some (.int (I (p + 2) a.toNatClampNeg))) (S, I, L)))))))) : CT mr_X1_multiplicityAt (0, 0) [.ref p, .int a] (S, I, L) RET := by
  refine CT.of (lo := [(0, .ref p), (1, .int a)]) (by decide) (fun _ _ => Nat.le_of_ble_eq_true rfl) (fun _ _ => rfl) rfl ?_
  refine V.iload_n dX1_multiplicityAt_0 rfl rfl ?_
  refine V.if_lt (tgt := 30) dX1_multiplicityAt_1 (by decide) (fun c1 => ?_) (fun c1 => ?_)
  · have H2 := H0.1 c1
    refine V.iconst (v := (0)) dX1_multiplicityAt_30 (by decide) ?_
    exact V.ret (v := some (.int (0 : Int32))) rfl (Or.inl ⟨_, rfl, dX1_multiplicityAt_31, _, rfl, rfl⟩) ⟨Nat.le_refl _, Nat.le_refl _⟩ H2
  · have H3 := H0.2 c1
    refine V.iload_n dX1_multiplicityAt_4 rfl rfl ?_
    refine V.aload_n dX1_multiplicityAt_5 rfl rfl ?_
    refine V.getf (v := .int (I p 2)) dX1_multiplicityAt_6 fl_X1_22 hp.1 (by decide) rfl ?_
    refine V.icmp_ge (tgt := 30) dX1_multiplicityAt_9 (by decide) (fun c4 => ?_) (fun c4 => ?_)
    · have H5 := H3.1 c4
      refine V.iconst (v := (0)) dX1_multiplicityAt_30 (by decide) ?_
      exact V.ret (v := some (.int (0 : Int32))) rfl (Or.inl ⟨_, rfl, dX1_multiplicityAt_31, _, rfl, rfl⟩) ⟨Nat.le_refl _, Nat.le_refl _⟩ H5
    · have H6 := H3.2 c4
      refine V.iload_n dX1_multiplicityAt_12 rfl rfl ?_
      refine V.aload_n dX1_multiplicityAt_13 rfl rfl ?_
      refine V.getf (v := .ref (p + 2)) dX1_multiplicityAt_14 fl_X1_17 hp.1 (by decide) rfl ?_
      refine V.alen (v := 5) dX1_multiplicityAt_17 hp.2.2.1 (Or.inl rfl) (by decide) ?_
      refine V.icmp_ge (tgt := 30) dX1_multiplicityAt_18 (by decide) (fun c7 => ?_) (fun c7 => ?_)
      · have H8 := H6.1 c7
        refine V.iconst (v := (0)) dX1_multiplicityAt_30 (by decide) ?_
        exact V.ret (v := some (.int (0 : Int32))) rfl (Or.inl ⟨_, rfl, dX1_multiplicityAt_31, _, rfl, rfl⟩) ⟨Nat.le_refl _, Nat.le_refl _⟩ H8
      · have H9 := H6.2 c7
        refine V.aload_n dX1_multiplicityAt_21 rfl rfl ?_
        refine V.getf (v := .ref (p + 2)) dX1_multiplicityAt_22 fl_X1_17 hp.1 (by decide) rfl ?_
        refine V.iload_n dX1_multiplicityAt_25 rfl rfl ?_
        obtain ⟨o10, H11⟩ := H9
        refine V.iald dX1_multiplicityAt_26 hp.2.2.1 o10 ?_
        refine V.goto (tgt := 31) dX1_multiplicityAt_27 (by decide) ?_
        exact V.ret (v := some (.int (I (p + 2) a.toNatClampNeg))) rfl (Or.inl ⟨_, rfl, dX1_multiplicityAt_31, _, rfl, rfl⟩) ⟨Nat.le_refl _, Nat.le_refl _⟩ H11
set_option maxRecDepth 100000 in
set_option maxHeartbeats 4000000 in
theorem wp_X6_acceptLetter {S : List mjD} {RET : Option Value → mjH → Prop} {p : Nat} (hp : is_Reader S p) {I : Nat → Nat → Int32} {L : Nat → Nat → Int64} (H0 : (((1 : Int32) < (I p 5) → (((I p 1) = 0 → RET (some (.int (1 : Int32))) (S, mj_up (mj_up (mj_up I p 3 (1 : Int32)) p 4 (1 : Int32)) p 1 (3 : Int32), L)) ∧ (¬ (I p 1) = 0 → ((¬ (I p 1) = (1 : Int32) → ((¬ (I p 1) = (2 : Int32) → RET (some (.int (0 : Int32))) (S, I, L)) ∧ ((I p 1) = (2 : Int32) → ((¬ (I p 3) = (1 : Int32) → RET (some (.int (1 : Int32))) (S, mj_up (mj_up I p 4 (1 : Int32)) p 1 (3 : Int32), L)) ∧ ((I p 3) = (1 : Int32) → RET (some (.int (0 : Int32))) (S, I, L)))))) ∧ ((I p 1) = (1 : Int32) → RET (some (.int (1 : Int32))) (S, mj_up (mj_up (mj_up I p 3 (1 : Int32)) p 4 (1 : Int32)) p 1 (3 : Int32), L)))))) ∧ (¬ (1 : Int32) < (I p 5) → RET (some (.int (0 : Int32))) (S, I, L)))) : CT mr_X6_acceptLetter (0, 0) [.ref p] (S, I, L) RET := by
  refine CT.of (lo := [(0, .ref p)]) (by decide) (fun _ _ => Nat.le_of_ble_eq_true rfl) (fun _ _ => rfl) rfl ?_
  refine V.aload_n dX6_acceptLetter_0 rfl rfl ?_
  refine V.getf (v := .int (I p 5)) dX6_acceptLetter_1 fl_X6_29 hp.1 (by decide) rfl ?_
  refine V.iconst (v := (1)) dX6_acceptLetter_4 (by decide) ?_
  refine V.icmp_gt (tgt := 10) dX6_acceptLetter_5 (by decide) (fun c1 => ?_) (fun c1 => ?_)
  · have H2 := H0.1 c1
    refine V.aload_n dX6_acceptLetter_10 rfl rfl ?_
    refine V.getf (v := .int (I p 1)) dX6_acceptLetter_11 fl_X6_22 hp.1 (by decide) rfl ?_
    refine V.if_eq (tgt := 25) dX6_acceptLetter_14 (by decide) (fun c3 => ?_) (fun c3 => ?_)
    · have H4 := H2.1 c3
      refine V.aload_n dX6_acceptLetter_25 rfl rfl ?_
      refine V.iconst (v := (1)) dX6_acceptLetter_26 (by decide) ?_
      refine V.puti dX6_acceptLetter_27 fl_X6_51 fp_X6_51 (Or.inl rfl) hp.1 (by decide) rfl rfl ?_
      refine V.goto (tgt := 51) dX6_acceptLetter_30 (by decide) ?_
      refine V.aload_n dX6_acceptLetter_51 rfl rfl ?_
      refine V.iconst (v := (1)) dX6_acceptLetter_52 (by decide) ?_
      refine V.puti dX6_acceptLetter_53 fl_X6_48 fp_X6_48 (Or.inl rfl) hp.1 (by decide) rfl rfl ?_
      refine V.aload_n dX6_acceptLetter_56 rfl rfl ?_
      refine V.iconst (v := (3)) dX6_acceptLetter_57 (by decide) ?_
      refine V.puti dX6_acceptLetter_58 fl_X6_22 fp_X6_22 (Or.inl rfl) hp.1 (by decide) rfl rfl ?_
      refine V.iconst (v := (1)) dX6_acceptLetter_61 (by decide) ?_
      exact V.ret (v := some (.int (1 : Int32))) rfl (Or.inl ⟨_, rfl, dX6_acceptLetter_62, _, rfl, (by decide)⟩) ⟨Nat.le_refl _, Nat.le_refl _⟩ H4
    · have H5 := H2.2 c3
      refine V.aload_n dX6_acceptLetter_17 rfl rfl ?_
      refine V.getf (v := .int (I p 1)) dX6_acceptLetter_18 fl_X6_22 hp.1 (by decide) rfl ?_
      refine V.iconst (v := (1)) dX6_acceptLetter_21 (by decide) ?_
      refine V.icmp_ne (tgt := 33) dX6_acceptLetter_22 (by decide) (fun c6 => ?_) (fun c6 => ?_)
      · have H7 := H5.1 c6
        refine V.aload_n dX6_acceptLetter_33 rfl rfl ?_
        refine V.getf (v := .int (I p 1)) dX6_acceptLetter_34 fl_X6_22 hp.1 (by decide) rfl ?_
        refine V.iconst (v := (2)) dX6_acceptLetter_37 (by decide) ?_
        refine V.icmp_ne (tgt := 49) dX6_acceptLetter_38 (by decide) (fun c8 => ?_) (fun c8 => ?_)
        · have H9 := H7.1 c8
          refine V.iconst (v := (0)) dX6_acceptLetter_49 (by decide) ?_
          exact V.ret (v := some (.int (0 : Int32))) rfl (Or.inl ⟨_, rfl, dX6_acceptLetter_50, _, rfl, (by decide)⟩) ⟨Nat.le_refl _, Nat.le_refl _⟩ H9
        · have H10 := H7.2 c8
          refine V.aload_n dX6_acceptLetter_41 rfl rfl ?_
          refine V.getf (v := .int (I p 3)) dX6_acceptLetter_42 fl_X6_51 hp.1 (by decide) rfl ?_
          refine V.iconst (v := (1)) dX6_acceptLetter_45 (by decide) ?_
          refine V.icmp_ne (tgt := 51) dX6_acceptLetter_46 (by decide) (fun c11 => ?_) (fun c11 => ?_)
          · have H12 := H10.1 c11
            refine V.aload_n dX6_acceptLetter_51 rfl rfl ?_
            refine V.iconst (v := (1)) dX6_acceptLetter_52 (by decide) ?_
            refine V.puti dX6_acceptLetter_53 fl_X6_48 fp_X6_48 (Or.inl rfl) hp.1 (by decide) rfl rfl ?_
            refine V.aload_n dX6_acceptLetter_56 rfl rfl ?_
            refine V.iconst (v := (3)) dX6_acceptLetter_57 (by decide) ?_
            refine V.puti dX6_acceptLetter_58 fl_X6_22 fp_X6_22 (Or.inl rfl) hp.1 (by decide) rfl rfl ?_
            refine V.iconst (v := (1)) dX6_acceptLetter_61 (by decide) ?_
            exact V.ret (v := some (.int (1 : Int32))) rfl (Or.inl ⟨_, rfl, dX6_acceptLetter_62, _, rfl, (by decide)⟩) ⟨Nat.le_refl _, Nat.le_refl _⟩ H12
          · have H13 := H10.2 c11
            refine V.iconst (v := (0)) dX6_acceptLetter_49 (by decide) ?_
            exact V.ret (v := some (.int (0 : Int32))) rfl (Or.inl ⟨_, rfl, dX6_acceptLetter_50, _, rfl, (by decide)⟩) ⟨Nat.le_refl _, Nat.le_refl _⟩ H13
      · have H14 := H5.2 c6
        refine V.aload_n dX6_acceptLetter_25 rfl rfl ?_
        refine V.iconst (v := (1)) dX6_acceptLetter_26 (by decide) ?_
        refine V.puti dX6_acceptLetter_27 fl_X6_51 fp_X6_51 (Or.inl rfl) hp.1 (by decide) rfl rfl ?_
        refine V.goto (tgt := 51) dX6_acceptLetter_30 (by decide) ?_
        refine V.aload_n dX6_acceptLetter_51 rfl rfl ?_
        refine V.iconst (v := (1)) dX6_acceptLetter_52 (by decide) ?_
        refine V.puti dX6_acceptLetter_53 fl_X6_48 fp_X6_48 (Or.inl rfl) hp.1 (by decide) rfl rfl ?_
        refine V.aload_n dX6_acceptLetter_56 rfl rfl ?_
        refine V.iconst (v := (3)) dX6_acceptLetter_57 (by decide) ?_
        refine V.puti dX6_acceptLetter_58 fl_X6_22 fp_X6_22 (Or.inl rfl) hp.1 (by decide) rfl rfl ?_
        refine V.iconst (v := (1)) dX6_acceptLetter_61 (by decide) ?_
        exact V.ret (v := some (.int (1 : Int32))) rfl (Or.inl ⟨_, rfl, dX6_acceptLetter_62, _, rfl, (by decide)⟩) ⟨Nat.le_refl _, Nat.le_refl _⟩ H14
  · have H15 := H0.2 c1
    refine V.iconst (v := (0)) dX6_acceptLetter_8 (by decide) ?_
    exact V.ret (v := some (.int (0 : Int32))) rfl (Or.inl ⟨_, rfl, dX6_acceptLetter_9, _, rfl, (by decide)⟩) ⟨Nat.le_refl _, Nat.le_refl _⟩ H15
set_option maxRecDepth 100000 in
set_option maxHeartbeats 4000000 in
theorem wp_X6_acceptCaret {S : List mjD} {RET : Option Value → mjH → Prop} {p : Nat} (hp : is_Reader S p) {I : Nat → Nat → Int32} {L : Nat → Nat → Int64} (H0 : ((¬ (I p 1) = (3 : Int32) → RET (some (.int (0 : Int32))) (S, I, L)) ∧ ((I p 1) = (3 : Int32) → (((2 : Int32) < (I p 5) → RET (some (.int (1 : Int32))) (S, mj_up I p 1 (4 : Int32), L)) ∧ (¬ (2 : Int32) < (I p 5) → RET (some (.int (0 : Int32))) (S, I, L)))))) : CT mr_X6_acceptCaret (0, 0) [.ref p] (S, I, L) RET := by
  refine CT.of (lo := [(0, .ref p)]) (by decide) (fun _ _ => Nat.le_of_ble_eq_true rfl) (fun _ _ => rfl) rfl ?_
  refine V.aload_n dX6_acceptCaret_0 rfl rfl ?_
  refine V.getf (v := .int (I p 1)) dX6_acceptCaret_1 fl_X6_22 hp.1 (by decide) rfl ?_
  refine V.iconst (v := (3)) dX6_acceptCaret_4 (by decide) ?_
  refine V.icmp_ne (tgt := 16) dX6_acceptCaret_5 (by decide) (fun c1 => ?_) (fun c1 => ?_)
  · have H2 := H0.1 c1
    refine V.iconst (v := (0)) dX6_acceptCaret_16 (by decide) ?_
    exact V.ret (v := some (.int (0 : Int32))) rfl (Or.inl ⟨_, rfl, dX6_acceptCaret_17, _, rfl, (by decide)⟩) ⟨Nat.le_refl _, Nat.le_refl _⟩ H2
  · have H3 := H0.2 c1
    refine V.aload_n dX6_acceptCaret_8 rfl rfl ?_
    refine V.getf (v := .int (I p 5)) dX6_acceptCaret_9 fl_X6_29 hp.1 (by decide) rfl ?_
    refine V.iconst (v := (2)) dX6_acceptCaret_12 (by decide) ?_
    refine V.icmp_gt (tgt := 18) dX6_acceptCaret_13 (by decide) (fun c4 => ?_) (fun c4 => ?_)
    · have H5 := H3.1 c4
      refine V.aload_n dX6_acceptCaret_18 rfl rfl ?_
      refine V.iconst (v := (4)) dX6_acceptCaret_19 (by decide) ?_
      refine V.puti dX6_acceptCaret_20 fl_X6_22 fp_X6_22 (Or.inl rfl) hp.1 (by decide) rfl rfl ?_
      refine V.iconst (v := (1)) dX6_acceptCaret_23 (by decide) ?_
      exact V.ret (v := some (.int (1 : Int32))) rfl (Or.inl ⟨_, rfl, dX6_acceptCaret_24, _, rfl, (by decide)⟩) ⟨Nat.le_refl _, Nat.le_refl _⟩ H5
    · have H6 := H3.2 c4
      refine V.iconst (v := (0)) dX6_acceptCaret_16 (by decide) ?_
      exact V.ret (v := some (.int (0 : Int32))) rfl (Or.inl ⟨_, rfl, dX6_acceptCaret_17, _, rfl, (by decide)⟩) ⟨Nat.le_refl _, Nat.le_refl _⟩ H6
set_option maxRecDepth 100000 in
set_option maxHeartbeats 4000000 in
theorem wp_X6_acceptDigit {S : List mjD} {RET : Option Value → mjH → Prop} {p : Nat} (hp : is_Reader S p) {a : Int32} {I : Nat → Nat → Int32} {L : Nat → Nat → Int64} (H0 : ((¬ (I p 1) = (4 : Int32) → (((I p 1) = 0 → ((a ≤ 0 → ((¬ (I p 1) = (2 : Int32) → RET (some (.int (0 : Int32))) (S, I, L)) ∧ ((I p 1) = (2 : Int32) → (((999 : Int32) < (((10 : Int32) * (I p 3)) + a) → RET (some (.int (0 : Int32))) (S, I, L)) ∧ (¬ (999 : Int32) < (((10 : Int32) * (I p 3)) + a) → RET (some (.int (1 : Int32))) (S, mj_up I p 3 (((10 : Int32) * (I p 3)) + a), L)))))) ∧ (¬ a ≤ 0 → RET (some (.int (1 : Int32))) (S, mj_up (mj_up (mj_up I p 3 a) p 4 (0 : Int32)) p 1 (2 : Int32), L)))) ∧ (¬ (I p 1) = 0 → ((¬ (I p 1) = (1 : Int32) → ((¬ (I p 1) = (2 : Int32) → RET (some (.int (0 : Int32))) (S, I, L)) ∧ ((I p 1) = (2 : Int32) → (((999 : Int32) < (((10 : Int32) * (I p 3)) + a) → RET (some (.int (0 : Int32))) (S, I, L)) ∧ (¬ (999 : Int32) < (((10 : Int32) * (I p 3)) + a) → RET (some (.int (1 : Int32))) (S, mj_up I p 3 (((10 : Int32) * (I p 3)) + a), L)))))) ∧ ((I p 1) = (1 : Int32) → ((a ≤ 0 → ((¬ (I p 1) = (2 : Int32) → RET (some (.int (0 : Int32))) (S, I, L)) ∧ ((I p 1) = (2 : Int32) → (((999 : Int32) < (((10 : Int32) * (I p 3)) + a) → RET (some (.int (0 : Int32))) (S, I, L)) ∧ (¬ (999 : Int32) < (((10 : Int32) * (I p 3)) + a) → RET (some (.int (1 : Int32))) (S, mj_up I p 3 (((10 : Int32) * (I p 3)) + a), L)))))) ∧ (¬ a ≤ 0 → RET (some (.int (1 : Int32))) (S, mj_up (mj_up (mj_up I p 3 a) p 4 (0 : Int32)) p 1 (2 : Int32), L)))))))) ∧ ((I p 1) = (4 : Int32) → ((a < (2 : Int32) → (((I p 1) = 0 → ((a ≤ 0 → ((¬ (I p 1) = (2 : Int32) → RET (some (.int (0 : Int32))) (S, I, L)) ∧ ((I p 1) = (2 : Int32) → (((999 : Int32) < (((10 : Int32) * (I p 3)) + a) → RET (some (.int (0 : Int32))) (S, I, L)) ∧ (¬ (999 : Int32) < (((10 : Int32) * (I p 3)) + a) → RET (some (.int (1 : Int32))) (S, mj_up I p 3 (((10 : Int32) * (I p 3)) + a), L)))))) ∧ (¬ a ≤ 0 → RET (some (.int (1 : Int32))) (S, mj_up (mj_up (mj_up I p 3 a) p 4 (0 : Int32)) p 1 (2 : Int32), L)))) ∧ (¬ (I p 1) = 0 → ((¬ (I p 1) = (1 : Int32) → ((¬ (I p 1) = (2 : Int32) → RET (some (.int (0 : Int32))) (S, I, L)) ∧ ((I p 1) = (2 : Int32) → (((999 : Int32) < (((10 : Int32) * (I p 3)) + a) → RET (some (.int (0 : Int32))) (S, I, L)) ∧ (¬ (999 : Int32) < (((10 : Int32) * (I p 3)) + a) → RET (some (.int (1 : Int32))) (S, mj_up I p 3 (((10 : Int32) * (I p 3)) + a), L)))))) ∧ ((I p 1) = (1 : Int32) → ((a ≤ 0 → ((¬ (I p 1) = (2 : Int32) → RET (some (.int (0 : Int32))) (S, I, L)) ∧ ((I p 1) = (2 : Int32) → (((999 : Int32) < (((10 : Int32) * (I p 3)) + a) → RET (some (.int (0 : Int32))) (S, I, L)) ∧ (¬ (999 : Int32) < (((10 : Int32) * (I p 3)) + a) → RET (some (.int (1 : Int32))) (S, mj_up I p 3 (((10 : Int32) * (I p 3)) + a), L)))))) ∧ (¬ a ≤ 0 → RET (some (.int (1 : Int32))) (S, mj_up (mj_up (mj_up I p 3 a) p 4 (0 : Int32)) p 1 (2 : Int32), L)))))))) ∧ (¬ a < (2 : Int32) → (((I p 5) ≤ a → (((I p 1) = 0 → ((a ≤ 0 → ((¬ (I p 1) = (2 : Int32) → RET (some (.int (0 : Int32))) (S, I, L)) ∧ ((I p 1) = (2 : Int32) → (((999 : Int32) < (((10 : Int32) * (I p 3)) + a) → RET (some (.int (0 : Int32))) (S, I, L)) ∧ (¬ (999 : Int32) < (((10 : Int32) * (I p 3)) + a) → RET (some (.int (1 : Int32))) (S, mj_up I p 3 (((10 : Int32) * (I p 3)) + a), L)))))) ∧ (¬ a ≤ 0 → RET (some (.int (1 : Int32))) (S, mj_up (mj_up (mj_up I p 3 a) p 4 (0 : Int32)) p 1 (2 : Int32), L)))) ∧ (¬ (I p 1) = 0 → ((¬ (I p 1) = (1 : Int32) → ((¬ (I p 1) = (2 : Int32) → RET (some (.int (0 : Int32))) (S, I, L)) ∧ ((I p 1) = (2 : Int32) → (((999 : Int32) < (((10 : Int32) * (I p 3)) + a) → RET (some (.int (0 : Int32))) (S, I, L)) ∧ (¬ (999 : Int32) < (((10 : Int32) * (I p 3)) + a) → RET (some (.int (1 : Int32))) (S, mj_up I p 3 (((10 : Int32) * (I p 3)) + a), L)))))) ∧ ((I p 1) = (1 : Int32) → ((a ≤ 0 → ((¬ (I p 1) = (2 : Int32) → RET (some (.int (0 : Int32))) (S, I, L)) ∧ ((I p 1) = (2 : Int32) → (((999 : Int32) < (((10 : Int32) * (I p 3)) + a) → RET (some (.int (0 : Int32))) (S, I, L)) ∧ (¬ (999 : Int32) < (((10 : Int32) * (I p 3)) + a) → RET (some (.int (1 : Int32))) (S, mj_up I p 3 (((10 : Int32) * (I p 3)) + a), L)))))) ∧ (¬ a ≤ 0 → RET (some (.int (1 : Int32))) (S, mj_up (mj_up (mj_up I p 3 a) p 4 (0 : Int32)) p 1 (2 : Int32), L)))))))) ∧ (¬ (I p 5) ≤ a → RET (some (.int (1 : Int32))) (S, mj_up (mj_up I p 4 a) p 1 (5 : Int32), L)))))))) : CT mr_X6_acceptDigit (0, 0) [.ref p, .int a] (S, I, L) RET := by
  refine CT.of (lo := [(0, .ref p), (1, .int a)]) (by decide) (fun _ _ => Nat.le_of_ble_eq_true rfl) (fun _ _ => rfl) rfl ?_
  refine V.aload_n dX6_acceptDigit_0 rfl rfl ?_
  refine V.getf (v := .int (I p 1)) dX6_acceptDigit_1 fl_X6_22 hp.1 (by decide) rfl ?_
  refine V.iconst (v := (4)) dX6_acceptDigit_4 (by decide) ?_
  refine V.icmp_ne (tgt := 33) dX6_acceptDigit_5 (by decide) (fun c1 => ?_) (fun c1 => ?_)
  · have H2 := H0.1 c1
    refine V.aload_n dX6_acceptDigit_33 rfl rfl ?_
    refine V.getf (v := .int (I p 1)) dX6_acceptDigit_34 fl_X6_22 hp.1 (by decide) rfl ?_
    refine V.if_eq (tgt := 48) dX6_acceptDigit_37 (by decide) (fun c3 => ?_) (fun c3 => ?_)
    · have H4 := H2.1 c3
      refine V.iload_n dX6_acceptDigit_48 rfl rfl ?_
      refine V.if_le (tgt := 69) dX6_acceptDigit_49 (by decide) (fun c5 => ?_) (fun c5 => ?_)
      · have H6 := H4.1 c5
        refine V.aload_n dX6_acceptDigit_69 rfl rfl ?_
        refine V.getf (v := .int (I p 1)) dX6_acceptDigit_70 fl_X6_22 hp.1 (by decide) rfl ?_
        refine V.iconst (v := (2)) dX6_acceptDigit_73 (by decide) ?_
        refine V.icmp_ne (tgt := 107) dX6_acceptDigit_74 (by decide) (fun c7 => ?_) (fun c7 => ?_)
        · have H8 := H6.1 c7
          refine V.iconst (v := (0)) dX6_acceptDigit_107 (by decide) ?_
          exact V.ret (v := some (.int (0 : Int32))) rfl (Or.inl ⟨_, rfl, dX6_acceptDigit_108, _, rfl, (by decide)⟩) ⟨Nat.le_refl _, Nat.le_refl _⟩ H8
        · have H9 := H6.2 c7
          refine V.bipush (v := (10)) dX6_acceptDigit_77 (by decide) ?_
          refine V.aload_n dX6_acceptDigit_79 rfl rfl ?_
          refine V.getf (v := .int (I p 3)) dX6_acceptDigit_80 fl_X6_51 hp.1 (by decide) rfl ?_
          refine V.imul dX6_acceptDigit_83 ?_
          refine V.iload_n dX6_acceptDigit_84 rfl rfl ?_
          refine V.iadd dX6_acceptDigit_85 ?_
          refine V.sipush (v := (999)) dX6_acceptDigit_86 (by decide) ?_
          refine V.icmp_gt (tgt := 107) dX6_acceptDigit_89 (by decide) (fun c10 => ?_) (fun c10 => ?_)
          · have H11 := H9.1 c10
            refine V.iconst (v := (0)) dX6_acceptDigit_107 (by decide) ?_
            exact V.ret (v := some (.int (0 : Int32))) rfl (Or.inl ⟨_, rfl, dX6_acceptDigit_108, _, rfl, (by decide)⟩) ⟨Nat.le_refl _, Nat.le_refl _⟩ H11
          · have H12 := H9.2 c10
            refine V.aload_n dX6_acceptDigit_92 rfl rfl ?_
            refine V.bipush (v := (10)) dX6_acceptDigit_93 (by decide) ?_
            refine V.aload_n dX6_acceptDigit_95 rfl rfl ?_
            refine V.getf (v := .int (I p 3)) dX6_acceptDigit_96 fl_X6_51 hp.1 (by decide) rfl ?_
            refine V.imul dX6_acceptDigit_99 ?_
            refine V.iload_n dX6_acceptDigit_100 rfl rfl ?_
            refine V.iadd dX6_acceptDigit_101 ?_
            refine V.puti dX6_acceptDigit_102 fl_X6_51 fp_X6_51 (Or.inl rfl) hp.1 (by decide) rfl rfl ?_
            refine V.iconst (v := (1)) dX6_acceptDigit_105 (by decide) ?_
            exact V.ret (v := some (.int (1 : Int32))) rfl (Or.inl ⟨_, rfl, dX6_acceptDigit_106, _, rfl, (by decide)⟩) ⟨Nat.le_refl _, Nat.le_refl _⟩ H12
      · have H13 := H4.2 c5
        refine V.aload_n dX6_acceptDigit_52 rfl rfl ?_
        refine V.iload_n dX6_acceptDigit_53 rfl rfl ?_
        refine V.puti dX6_acceptDigit_54 fl_X6_51 fp_X6_51 (Or.inl rfl) hp.1 (by decide) rfl rfl ?_
        refine V.aload_n dX6_acceptDigit_57 rfl rfl ?_
        refine V.iconst (v := (0)) dX6_acceptDigit_58 (by decide) ?_
        refine V.puti dX6_acceptDigit_59 fl_X6_48 fp_X6_48 (Or.inl rfl) hp.1 (by decide) rfl rfl ?_
        refine V.aload_n dX6_acceptDigit_62 rfl rfl ?_
        refine V.iconst (v := (2)) dX6_acceptDigit_63 (by decide) ?_
        refine V.puti dX6_acceptDigit_64 fl_X6_22 fp_X6_22 (Or.inl rfl) hp.1 (by decide) rfl rfl ?_
        refine V.iconst (v := (1)) dX6_acceptDigit_67 (by decide) ?_
        exact V.ret (v := some (.int (1 : Int32))) rfl (Or.inl ⟨_, rfl, dX6_acceptDigit_68, _, rfl, (by decide)⟩) ⟨Nat.le_refl _, Nat.le_refl _⟩ H13
    · have H14 := H2.2 c3
      refine V.aload_n dX6_acceptDigit_40 rfl rfl ?_
      refine V.getf (v := .int (I p 1)) dX6_acceptDigit_41 fl_X6_22 hp.1 (by decide) rfl ?_
      refine V.iconst (v := (1)) dX6_acceptDigit_44 (by decide) ?_
      refine V.icmp_ne (tgt := 69) dX6_acceptDigit_45 (by decide) (fun c15 => ?_) (fun c15 => ?_)
      · have H16 := H14.1 c15
        refine V.aload_n dX6_acceptDigit_69 rfl rfl ?_
        refine V.getf (v := .int (I p 1)) dX6_acceptDigit_70 fl_X6_22 hp.1 (by decide) rfl ?_
        refine V.iconst (v := (2)) dX6_acceptDigit_73 (by decide) ?_
        refine V.icmp_ne (tgt := 107) dX6_acceptDigit_74 (by decide) (fun c17 => ?_) (fun c17 => ?_)
        · have H18 := H16.1 c17
          refine V.iconst (v := (0)) dX6_acceptDigit_107 (by decide) ?_
          exact V.ret (v := some (.int (0 : Int32))) rfl (Or.inl ⟨_, rfl, dX6_acceptDigit_108, _, rfl, (by decide)⟩) ⟨Nat.le_refl _, Nat.le_refl _⟩ H18
        · have H19 := H16.2 c17
          refine V.bipush (v := (10)) dX6_acceptDigit_77 (by decide) ?_
          refine V.aload_n dX6_acceptDigit_79 rfl rfl ?_
          refine V.getf (v := .int (I p 3)) dX6_acceptDigit_80 fl_X6_51 hp.1 (by decide) rfl ?_
          refine V.imul dX6_acceptDigit_83 ?_
          refine V.iload_n dX6_acceptDigit_84 rfl rfl ?_
          refine V.iadd dX6_acceptDigit_85 ?_
          refine V.sipush (v := (999)) dX6_acceptDigit_86 (by decide) ?_
          refine V.icmp_gt (tgt := 107) dX6_acceptDigit_89 (by decide) (fun c20 => ?_) (fun c20 => ?_)
          · have H21 := H19.1 c20
            refine V.iconst (v := (0)) dX6_acceptDigit_107 (by decide) ?_
            exact V.ret (v := some (.int (0 : Int32))) rfl (Or.inl ⟨_, rfl, dX6_acceptDigit_108, _, rfl, (by decide)⟩) ⟨Nat.le_refl _, Nat.le_refl _⟩ H21
          · have H22 := H19.2 c20
            refine V.aload_n dX6_acceptDigit_92 rfl rfl ?_
            refine V.bipush (v := (10)) dX6_acceptDigit_93 (by decide) ?_
            refine V.aload_n dX6_acceptDigit_95 rfl rfl ?_
            refine V.getf (v := .int (I p 3)) dX6_acceptDigit_96 fl_X6_51 hp.1 (by decide) rfl ?_
            refine V.imul dX6_acceptDigit_99 ?_
            refine V.iload_n dX6_acceptDigit_100 rfl rfl ?_
            refine V.iadd dX6_acceptDigit_101 ?_
            refine V.puti dX6_acceptDigit_102 fl_X6_51 fp_X6_51 (Or.inl rfl) hp.1 (by decide) rfl rfl ?_
            refine V.iconst (v := (1)) dX6_acceptDigit_105 (by decide) ?_
            exact V.ret (v := some (.int (1 : Int32))) rfl (Or.inl ⟨_, rfl, dX6_acceptDigit_106, _, rfl, (by decide)⟩) ⟨Nat.le_refl _, Nat.le_refl _⟩ H22
      · have H23 := H14.2 c15
        refine V.iload_n dX6_acceptDigit_48 rfl rfl ?_
        refine V.if_le (tgt := 69) dX6_acceptDigit_49 (by decide) (fun c24 => ?_) (fun c24 => ?_)
        · have H25 := H23.1 c24
          refine V.aload_n dX6_acceptDigit_69 rfl rfl ?_
          refine V.getf (v := .int (I p 1)) dX6_acceptDigit_70 fl_X6_22 hp.1 (by decide) rfl ?_
          refine V.iconst (v := (2)) dX6_acceptDigit_73 (by decide) ?_
          refine V.icmp_ne (tgt := 107) dX6_acceptDigit_74 (by decide) (fun c26 => ?_) (fun c26 => ?_)
          · have H27 := H25.1 c26
            refine V.iconst (v := (0)) dX6_acceptDigit_107 (by decide) ?_
            exact V.ret (v := some (.int (0 : Int32))) rfl (Or.inl ⟨_, rfl, dX6_acceptDigit_108, _, rfl, (by decide)⟩) ⟨Nat.le_refl _, Nat.le_refl _⟩ H27
          · have H28 := H25.2 c26
            refine V.bipush (v := (10)) dX6_acceptDigit_77 (by decide) ?_
            refine V.aload_n dX6_acceptDigit_79 rfl rfl ?_
            refine V.getf (v := .int (I p 3)) dX6_acceptDigit_80 fl_X6_51 hp.1 (by decide) rfl ?_
            refine V.imul dX6_acceptDigit_83 ?_
            refine V.iload_n dX6_acceptDigit_84 rfl rfl ?_
            refine V.iadd dX6_acceptDigit_85 ?_
            refine V.sipush (v := (999)) dX6_acceptDigit_86 (by decide) ?_
            refine V.icmp_gt (tgt := 107) dX6_acceptDigit_89 (by decide) (fun c29 => ?_) (fun c29 => ?_)
            · have H30 := H28.1 c29
              refine V.iconst (v := (0)) dX6_acceptDigit_107 (by decide) ?_
              exact V.ret (v := some (.int (0 : Int32))) rfl (Or.inl ⟨_, rfl, dX6_acceptDigit_108, _, rfl, (by decide)⟩) ⟨Nat.le_refl _, Nat.le_refl _⟩ H30
            · have H31 := H28.2 c29
              refine V.aload_n dX6_acceptDigit_92 rfl rfl ?_
              refine V.bipush (v := (10)) dX6_acceptDigit_93 (by decide) ?_
              refine V.aload_n dX6_acceptDigit_95 rfl rfl ?_
              refine V.getf (v := .int (I p 3)) dX6_acceptDigit_96 fl_X6_51 hp.1 (by decide) rfl ?_
              refine V.imul dX6_acceptDigit_99 ?_
              refine V.iload_n dX6_acceptDigit_100 rfl rfl ?_
              refine V.iadd dX6_acceptDigit_101 ?_
              refine V.puti dX6_acceptDigit_102 fl_X6_51 fp_X6_51 (Or.inl rfl) hp.1 (by decide) rfl rfl ?_
              refine V.iconst (v := (1)) dX6_acceptDigit_105 (by decide) ?_
              exact V.ret (v := some (.int (1 : Int32))) rfl (Or.inl ⟨_, rfl, dX6_acceptDigit_106, _, rfl, (by decide)⟩) ⟨Nat.le_refl _, Nat.le_refl _⟩ H31
        · have H32 := H23.2 c24
          refine V.aload_n dX6_acceptDigit_52 rfl rfl ?_
          refine V.iload_n dX6_acceptDigit_53 rfl rfl ?_
          refine V.puti dX6_acceptDigit_54 fl_X6_51 fp_X6_51 (Or.inl rfl) hp.1 (by decide) rfl rfl ?_
          refine V.aload_n dX6_acceptDigit_57 rfl rfl ?_
          refine V.iconst (v := (0)) dX6_acceptDigit_58 (by decide) ?_
          refine V.puti dX6_acceptDigit_59 fl_X6_48 fp_X6_48 (Or.inl rfl) hp.1 (by decide) rfl rfl ?_
          refine V.aload_n dX6_acceptDigit_62 rfl rfl ?_
          refine V.iconst (v := (2)) dX6_acceptDigit_63 (by decide) ?_
          refine V.puti dX6_acceptDigit_64 fl_X6_22 fp_X6_22 (Or.inl rfl) hp.1 (by decide) rfl rfl ?_
          refine V.iconst (v := (1)) dX6_acceptDigit_67 (by decide) ?_
          exact V.ret (v := some (.int (1 : Int32))) rfl (Or.inl ⟨_, rfl, dX6_acceptDigit_68, _, rfl, (by decide)⟩) ⟨Nat.le_refl _, Nat.le_refl _⟩ H32
  · have H33 := H0.2 c1
    refine V.iload_n dX6_acceptDigit_8 rfl rfl ?_
    refine V.iconst (v := (2)) dX6_acceptDigit_9 (by decide) ?_
    refine V.icmp_lt (tgt := 33) dX6_acceptDigit_10 (by decide) (fun c34 => ?_) (fun c34 => ?_)
    · have H35 := H33.1 c34
      refine V.aload_n dX6_acceptDigit_33 rfl rfl ?_
      refine V.getf (v := .int (I p 1)) dX6_acceptDigit_34 fl_X6_22 hp.1 (by decide) rfl ?_
      refine V.if_eq (tgt := 48) dX6_acceptDigit_37 (by decide) (fun c36 => ?_) (fun c36 => ?_)
      · have H37 := H35.1 c36
        refine V.iload_n dX6_acceptDigit_48 rfl rfl ?_
        refine V.if_le (tgt := 69) dX6_acceptDigit_49 (by decide) (fun c38 => ?_) (fun c38 => ?_)
        · have H39 := H37.1 c38
          refine V.aload_n dX6_acceptDigit_69 rfl rfl ?_
          refine V.getf (v := .int (I p 1)) dX6_acceptDigit_70 fl_X6_22 hp.1 (by decide) rfl ?_
          refine V.iconst (v := (2)) dX6_acceptDigit_73 (by decide) ?_
          refine V.icmp_ne (tgt := 107) dX6_acceptDigit_74 (by decide) (fun c40 => ?_) (fun c40 => ?_)
          · have H41 := H39.1 c40
            refine V.iconst (v := (0)) dX6_acceptDigit_107 (by decide) ?_
            exact V.ret (v := some (.int (0 : Int32))) rfl (Or.inl ⟨_, rfl, dX6_acceptDigit_108, _, rfl, (by decide)⟩) ⟨Nat.le_refl _, Nat.le_refl _⟩ H41
          · have H42 := H39.2 c40
            refine V.bipush (v := (10)) dX6_acceptDigit_77 (by decide) ?_
            refine V.aload_n dX6_acceptDigit_79 rfl rfl ?_
            refine V.getf (v := .int (I p 3)) dX6_acceptDigit_80 fl_X6_51 hp.1 (by decide) rfl ?_
            refine V.imul dX6_acceptDigit_83 ?_
            refine V.iload_n dX6_acceptDigit_84 rfl rfl ?_
            refine V.iadd dX6_acceptDigit_85 ?_
            refine V.sipush (v := (999)) dX6_acceptDigit_86 (by decide) ?_
            refine V.icmp_gt (tgt := 107) dX6_acceptDigit_89 (by decide) (fun c43 => ?_) (fun c43 => ?_)
            · have H44 := H42.1 c43
              refine V.iconst (v := (0)) dX6_acceptDigit_107 (by decide) ?_
              exact V.ret (v := some (.int (0 : Int32))) rfl (Or.inl ⟨_, rfl, dX6_acceptDigit_108, _, rfl, (by decide)⟩) ⟨Nat.le_refl _, Nat.le_refl _⟩ H44
            · have H45 := H42.2 c43
              refine V.aload_n dX6_acceptDigit_92 rfl rfl ?_
              refine V.bipush (v := (10)) dX6_acceptDigit_93 (by decide) ?_
              refine V.aload_n dX6_acceptDigit_95 rfl rfl ?_
              refine V.getf (v := .int (I p 3)) dX6_acceptDigit_96 fl_X6_51 hp.1 (by decide) rfl ?_
              refine V.imul dX6_acceptDigit_99 ?_
              refine V.iload_n dX6_acceptDigit_100 rfl rfl ?_
              refine V.iadd dX6_acceptDigit_101 ?_
              refine V.puti dX6_acceptDigit_102 fl_X6_51 fp_X6_51 (Or.inl rfl) hp.1 (by decide) rfl rfl ?_
              refine V.iconst (v := (1)) dX6_acceptDigit_105 (by decide) ?_
              exact V.ret (v := some (.int (1 : Int32))) rfl (Or.inl ⟨_, rfl, dX6_acceptDigit_106, _, rfl, (by decide)⟩) ⟨Nat.le_refl _, Nat.le_refl _⟩ H45
        · have H46 := H37.2 c38
          refine V.aload_n dX6_acceptDigit_52 rfl rfl ?_
          refine V.iload_n dX6_acceptDigit_53 rfl rfl ?_
          refine V.puti dX6_acceptDigit_54 fl_X6_51 fp_X6_51 (Or.inl rfl) hp.1 (by decide) rfl rfl ?_
          refine V.aload_n dX6_acceptDigit_57 rfl rfl ?_
          refine V.iconst (v := (0)) dX6_acceptDigit_58 (by decide) ?_
          refine V.puti dX6_acceptDigit_59 fl_X6_48 fp_X6_48 (Or.inl rfl) hp.1 (by decide) rfl rfl ?_
          refine V.aload_n dX6_acceptDigit_62 rfl rfl ?_
          refine V.iconst (v := (2)) dX6_acceptDigit_63 (by decide) ?_
          refine V.puti dX6_acceptDigit_64 fl_X6_22 fp_X6_22 (Or.inl rfl) hp.1 (by decide) rfl rfl ?_
          refine V.iconst (v := (1)) dX6_acceptDigit_67 (by decide) ?_
          exact V.ret (v := some (.int (1 : Int32))) rfl (Or.inl ⟨_, rfl, dX6_acceptDigit_68, _, rfl, (by decide)⟩) ⟨Nat.le_refl _, Nat.le_refl _⟩ H46
      · have H47 := H35.2 c36
        refine V.aload_n dX6_acceptDigit_40 rfl rfl ?_
        refine V.getf (v := .int (I p 1)) dX6_acceptDigit_41 fl_X6_22 hp.1 (by decide) rfl ?_
        refine V.iconst (v := (1)) dX6_acceptDigit_44 (by decide) ?_
        refine V.icmp_ne (tgt := 69) dX6_acceptDigit_45 (by decide) (fun c48 => ?_) (fun c48 => ?_)
        · have H49 := H47.1 c48
          refine V.aload_n dX6_acceptDigit_69 rfl rfl ?_
          refine V.getf (v := .int (I p 1)) dX6_acceptDigit_70 fl_X6_22 hp.1 (by decide) rfl ?_
          refine V.iconst (v := (2)) dX6_acceptDigit_73 (by decide) ?_
          refine V.icmp_ne (tgt := 107) dX6_acceptDigit_74 (by decide) (fun c50 => ?_) (fun c50 => ?_)
          · have H51 := H49.1 c50
            refine V.iconst (v := (0)) dX6_acceptDigit_107 (by decide) ?_
            exact V.ret (v := some (.int (0 : Int32))) rfl (Or.inl ⟨_, rfl, dX6_acceptDigit_108, _, rfl, (by decide)⟩) ⟨Nat.le_refl _, Nat.le_refl _⟩ H51
          · have H52 := H49.2 c50
            refine V.bipush (v := (10)) dX6_acceptDigit_77 (by decide) ?_
            refine V.aload_n dX6_acceptDigit_79 rfl rfl ?_
            refine V.getf (v := .int (I p 3)) dX6_acceptDigit_80 fl_X6_51 hp.1 (by decide) rfl ?_
            refine V.imul dX6_acceptDigit_83 ?_
            refine V.iload_n dX6_acceptDigit_84 rfl rfl ?_
            refine V.iadd dX6_acceptDigit_85 ?_
            refine V.sipush (v := (999)) dX6_acceptDigit_86 (by decide) ?_
            refine V.icmp_gt (tgt := 107) dX6_acceptDigit_89 (by decide) (fun c53 => ?_) (fun c53 => ?_)
            · have H54 := H52.1 c53
              refine V.iconst (v := (0)) dX6_acceptDigit_107 (by decide) ?_
              exact V.ret (v := some (.int (0 : Int32))) rfl (Or.inl ⟨_, rfl, dX6_acceptDigit_108, _, rfl, (by decide)⟩) ⟨Nat.le_refl _, Nat.le_refl _⟩ H54
            · have H55 := H52.2 c53
              refine V.aload_n dX6_acceptDigit_92 rfl rfl ?_
              refine V.bipush (v := (10)) dX6_acceptDigit_93 (by decide) ?_
              refine V.aload_n dX6_acceptDigit_95 rfl rfl ?_
              refine V.getf (v := .int (I p 3)) dX6_acceptDigit_96 fl_X6_51 hp.1 (by decide) rfl ?_
              refine V.imul dX6_acceptDigit_99 ?_
              refine V.iload_n dX6_acceptDigit_100 rfl rfl ?_
              refine V.iadd dX6_acceptDigit_101 ?_
              refine V.puti dX6_acceptDigit_102 fl_X6_51 fp_X6_51 (Or.inl rfl) hp.1 (by decide) rfl rfl ?_
              refine V.iconst (v := (1)) dX6_acceptDigit_105 (by decide) ?_
              exact V.ret (v := some (.int (1 : Int32))) rfl (Or.inl ⟨_, rfl, dX6_acceptDigit_106, _, rfl, (by decide)⟩) ⟨Nat.le_refl _, Nat.le_refl _⟩ H55
        · have H56 := H47.2 c48
          refine V.iload_n dX6_acceptDigit_48 rfl rfl ?_
          refine V.if_le (tgt := 69) dX6_acceptDigit_49 (by decide) (fun c57 => ?_) (fun c57 => ?_)
          · have H58 := H56.1 c57
            refine V.aload_n dX6_acceptDigit_69 rfl rfl ?_
            refine V.getf (v := .int (I p 1)) dX6_acceptDigit_70 fl_X6_22 hp.1 (by decide) rfl ?_
            refine V.iconst (v := (2)) dX6_acceptDigit_73 (by decide) ?_
            refine V.icmp_ne (tgt := 107) dX6_acceptDigit_74 (by decide) (fun c59 => ?_) (fun c59 => ?_)
            · have H60 := H58.1 c59
              refine V.iconst (v := (0)) dX6_acceptDigit_107 (by decide) ?_
              exact V.ret (v := some (.int (0 : Int32))) rfl (Or.inl ⟨_, rfl, dX6_acceptDigit_108, _, rfl, (by decide)⟩) ⟨Nat.le_refl _, Nat.le_refl _⟩ H60
            · have H61 := H58.2 c59
              refine V.bipush (v := (10)) dX6_acceptDigit_77 (by decide) ?_
              refine V.aload_n dX6_acceptDigit_79 rfl rfl ?_
              refine V.getf (v := .int (I p 3)) dX6_acceptDigit_80 fl_X6_51 hp.1 (by decide) rfl ?_
              refine V.imul dX6_acceptDigit_83 ?_
              refine V.iload_n dX6_acceptDigit_84 rfl rfl ?_
              refine V.iadd dX6_acceptDigit_85 ?_
              refine V.sipush (v := (999)) dX6_acceptDigit_86 (by decide) ?_
              refine V.icmp_gt (tgt := 107) dX6_acceptDigit_89 (by decide) (fun c62 => ?_) (fun c62 => ?_)
              · have H63 := H61.1 c62
                refine V.iconst (v := (0)) dX6_acceptDigit_107 (by decide) ?_
                exact V.ret (v := some (.int (0 : Int32))) rfl (Or.inl ⟨_, rfl, dX6_acceptDigit_108, _, rfl, (by decide)⟩) ⟨Nat.le_refl _, Nat.le_refl _⟩ H63
              · have H64 := H61.2 c62
                refine V.aload_n dX6_acceptDigit_92 rfl rfl ?_
                refine V.bipush (v := (10)) dX6_acceptDigit_93 (by decide) ?_
                refine V.aload_n dX6_acceptDigit_95 rfl rfl ?_
                refine V.getf (v := .int (I p 3)) dX6_acceptDigit_96 fl_X6_51 hp.1 (by decide) rfl ?_
                refine V.imul dX6_acceptDigit_99 ?_
                refine V.iload_n dX6_acceptDigit_100 rfl rfl ?_
                refine V.iadd dX6_acceptDigit_101 ?_
                refine V.puti dX6_acceptDigit_102 fl_X6_51 fp_X6_51 (Or.inl rfl) hp.1 (by decide) rfl rfl ?_
                refine V.iconst (v := (1)) dX6_acceptDigit_105 (by decide) ?_
                exact V.ret (v := some (.int (1 : Int32))) rfl (Or.inl ⟨_, rfl, dX6_acceptDigit_106, _, rfl, (by decide)⟩) ⟨Nat.le_refl _, Nat.le_refl _⟩ H64
          · have H65 := H56.2 c57
            refine V.aload_n dX6_acceptDigit_52 rfl rfl ?_
            refine V.iload_n dX6_acceptDigit_53 rfl rfl ?_
            refine V.puti dX6_acceptDigit_54 fl_X6_51 fp_X6_51 (Or.inl rfl) hp.1 (by decide) rfl rfl ?_
            refine V.aload_n dX6_acceptDigit_57 rfl rfl ?_
            refine V.iconst (v := (0)) dX6_acceptDigit_58 (by decide) ?_
            refine V.puti dX6_acceptDigit_59 fl_X6_48 fp_X6_48 (Or.inl rfl) hp.1 (by decide) rfl rfl ?_
            refine V.aload_n dX6_acceptDigit_62 rfl rfl ?_
            refine V.iconst (v := (2)) dX6_acceptDigit_63 (by decide) ?_
            refine V.puti dX6_acceptDigit_64 fl_X6_22 fp_X6_22 (Or.inl rfl) hp.1 (by decide) rfl rfl ?_
            refine V.iconst (v := (1)) dX6_acceptDigit_67 (by decide) ?_
            exact V.ret (v := some (.int (1 : Int32))) rfl (Or.inl ⟨_, rfl, dX6_acceptDigit_68, _, rfl, (by decide)⟩) ⟨Nat.le_refl _, Nat.le_refl _⟩ H65
    · have H66 := H33.2 c34
      refine V.iload_n dX6_acceptDigit_13 rfl rfl ?_
      refine V.aload_n dX6_acceptDigit_14 rfl rfl ?_
      refine V.getf (v := .int (I p 5)) dX6_acceptDigit_15 fl_X6_29 hp.1 (by decide) rfl ?_
      refine V.icmp_ge (tgt := 33) dX6_acceptDigit_18 (by decide) (fun c67 => ?_) (fun c67 => ?_)
      · have H68 := H66.1 c67
        refine V.aload_n dX6_acceptDigit_33 rfl rfl ?_
        refine V.getf (v := .int (I p 1)) dX6_acceptDigit_34 fl_X6_22 hp.1 (by decide) rfl ?_
        refine V.if_eq (tgt := 48) dX6_acceptDigit_37 (by decide) (fun c69 => ?_) (fun c69 => ?_)
        · have H70 := H68.1 c69
          refine V.iload_n dX6_acceptDigit_48 rfl rfl ?_
          refine V.if_le (tgt := 69) dX6_acceptDigit_49 (by decide) (fun c71 => ?_) (fun c71 => ?_)
          · have H72 := H70.1 c71
            refine V.aload_n dX6_acceptDigit_69 rfl rfl ?_
            refine V.getf (v := .int (I p 1)) dX6_acceptDigit_70 fl_X6_22 hp.1 (by decide) rfl ?_
            refine V.iconst (v := (2)) dX6_acceptDigit_73 (by decide) ?_
            refine V.icmp_ne (tgt := 107) dX6_acceptDigit_74 (by decide) (fun c73 => ?_) (fun c73 => ?_)
            · have H74 := H72.1 c73
              refine V.iconst (v := (0)) dX6_acceptDigit_107 (by decide) ?_
              exact V.ret (v := some (.int (0 : Int32))) rfl (Or.inl ⟨_, rfl, dX6_acceptDigit_108, _, rfl, (by decide)⟩) ⟨Nat.le_refl _, Nat.le_refl _⟩ H74
            · have H75 := H72.2 c73
              refine V.bipush (v := (10)) dX6_acceptDigit_77 (by decide) ?_
              refine V.aload_n dX6_acceptDigit_79 rfl rfl ?_
              refine V.getf (v := .int (I p 3)) dX6_acceptDigit_80 fl_X6_51 hp.1 (by decide) rfl ?_
              refine V.imul dX6_acceptDigit_83 ?_
              refine V.iload_n dX6_acceptDigit_84 rfl rfl ?_
              refine V.iadd dX6_acceptDigit_85 ?_
              refine V.sipush (v := (999)) dX6_acceptDigit_86 (by decide) ?_
              refine V.icmp_gt (tgt := 107) dX6_acceptDigit_89 (by decide) (fun c76 => ?_) (fun c76 => ?_)
              · have H77 := H75.1 c76
                refine V.iconst (v := (0)) dX6_acceptDigit_107 (by decide) ?_
                exact V.ret (v := some (.int (0 : Int32))) rfl (Or.inl ⟨_, rfl, dX6_acceptDigit_108, _, rfl, (by decide)⟩) ⟨Nat.le_refl _, Nat.le_refl _⟩ H77
              · have H78 := H75.2 c76
                refine V.aload_n dX6_acceptDigit_92 rfl rfl ?_
                refine V.bipush (v := (10)) dX6_acceptDigit_93 (by decide) ?_
                refine V.aload_n dX6_acceptDigit_95 rfl rfl ?_
                refine V.getf (v := .int (I p 3)) dX6_acceptDigit_96 fl_X6_51 hp.1 (by decide) rfl ?_
                refine V.imul dX6_acceptDigit_99 ?_
                refine V.iload_n dX6_acceptDigit_100 rfl rfl ?_
                refine V.iadd dX6_acceptDigit_101 ?_
                refine V.puti dX6_acceptDigit_102 fl_X6_51 fp_X6_51 (Or.inl rfl) hp.1 (by decide) rfl rfl ?_
                refine V.iconst (v := (1)) dX6_acceptDigit_105 (by decide) ?_
                exact V.ret (v := some (.int (1 : Int32))) rfl (Or.inl ⟨_, rfl, dX6_acceptDigit_106, _, rfl, (by decide)⟩) ⟨Nat.le_refl _, Nat.le_refl _⟩ H78
          · have H79 := H70.2 c71
            refine V.aload_n dX6_acceptDigit_52 rfl rfl ?_
            refine V.iload_n dX6_acceptDigit_53 rfl rfl ?_
            refine V.puti dX6_acceptDigit_54 fl_X6_51 fp_X6_51 (Or.inl rfl) hp.1 (by decide) rfl rfl ?_
            refine V.aload_n dX6_acceptDigit_57 rfl rfl ?_
            refine V.iconst (v := (0)) dX6_acceptDigit_58 (by decide) ?_
            refine V.puti dX6_acceptDigit_59 fl_X6_48 fp_X6_48 (Or.inl rfl) hp.1 (by decide) rfl rfl ?_
            refine V.aload_n dX6_acceptDigit_62 rfl rfl ?_
            refine V.iconst (v := (2)) dX6_acceptDigit_63 (by decide) ?_
            refine V.puti dX6_acceptDigit_64 fl_X6_22 fp_X6_22 (Or.inl rfl) hp.1 (by decide) rfl rfl ?_
            refine V.iconst (v := (1)) dX6_acceptDigit_67 (by decide) ?_
            exact V.ret (v := some (.int (1 : Int32))) rfl (Or.inl ⟨_, rfl, dX6_acceptDigit_68, _, rfl, (by decide)⟩) ⟨Nat.le_refl _, Nat.le_refl _⟩ H79
        · have H80 := H68.2 c69
          refine V.aload_n dX6_acceptDigit_40 rfl rfl ?_
          refine V.getf (v := .int (I p 1)) dX6_acceptDigit_41 fl_X6_22 hp.1 (by decide) rfl ?_
          refine V.iconst (v := (1)) dX6_acceptDigit_44 (by decide) ?_
          refine V.icmp_ne (tgt := 69) dX6_acceptDigit_45 (by decide) (fun c81 => ?_) (fun c81 => ?_)
          · have H82 := H80.1 c81
            refine V.aload_n dX6_acceptDigit_69 rfl rfl ?_
            refine V.getf (v := .int (I p 1)) dX6_acceptDigit_70 fl_X6_22 hp.1 (by decide) rfl ?_
            refine V.iconst (v := (2)) dX6_acceptDigit_73 (by decide) ?_
            refine V.icmp_ne (tgt := 107) dX6_acceptDigit_74 (by decide) (fun c83 => ?_) (fun c83 => ?_)
            · have H84 := H82.1 c83
              refine V.iconst (v := (0)) dX6_acceptDigit_107 (by decide) ?_
              exact V.ret (v := some (.int (0 : Int32))) rfl (Or.inl ⟨_, rfl, dX6_acceptDigit_108, _, rfl, (by decide)⟩) ⟨Nat.le_refl _, Nat.le_refl _⟩ H84
            · have H85 := H82.2 c83
              refine V.bipush (v := (10)) dX6_acceptDigit_77 (by decide) ?_
              refine V.aload_n dX6_acceptDigit_79 rfl rfl ?_
              refine V.getf (v := .int (I p 3)) dX6_acceptDigit_80 fl_X6_51 hp.1 (by decide) rfl ?_
              refine V.imul dX6_acceptDigit_83 ?_
              refine V.iload_n dX6_acceptDigit_84 rfl rfl ?_
              refine V.iadd dX6_acceptDigit_85 ?_
              refine V.sipush (v := (999)) dX6_acceptDigit_86 (by decide) ?_
              refine V.icmp_gt (tgt := 107) dX6_acceptDigit_89 (by decide) (fun c86 => ?_) (fun c86 => ?_)
              · have H87 := H85.1 c86
                refine V.iconst (v := (0)) dX6_acceptDigit_107 (by decide) ?_
                exact V.ret (v := some (.int (0 : Int32))) rfl (Or.inl ⟨_, rfl, dX6_acceptDigit_108, _, rfl, (by decide)⟩) ⟨Nat.le_refl _, Nat.le_refl _⟩ H87
              · have H88 := H85.2 c86
                refine V.aload_n dX6_acceptDigit_92 rfl rfl ?_
                refine V.bipush (v := (10)) dX6_acceptDigit_93 (by decide) ?_
                refine V.aload_n dX6_acceptDigit_95 rfl rfl ?_
                refine V.getf (v := .int (I p 3)) dX6_acceptDigit_96 fl_X6_51 hp.1 (by decide) rfl ?_
                refine V.imul dX6_acceptDigit_99 ?_
                refine V.iload_n dX6_acceptDigit_100 rfl rfl ?_
                refine V.iadd dX6_acceptDigit_101 ?_
                refine V.puti dX6_acceptDigit_102 fl_X6_51 fp_X6_51 (Or.inl rfl) hp.1 (by decide) rfl rfl ?_
                refine V.iconst (v := (1)) dX6_acceptDigit_105 (by decide) ?_
                exact V.ret (v := some (.int (1 : Int32))) rfl (Or.inl ⟨_, rfl, dX6_acceptDigit_106, _, rfl, (by decide)⟩) ⟨Nat.le_refl _, Nat.le_refl _⟩ H88
          · have H89 := H80.2 c81
            refine V.iload_n dX6_acceptDigit_48 rfl rfl ?_
            refine V.if_le (tgt := 69) dX6_acceptDigit_49 (by decide) (fun c90 => ?_) (fun c90 => ?_)
            · have H91 := H89.1 c90
              refine V.aload_n dX6_acceptDigit_69 rfl rfl ?_
              refine V.getf (v := .int (I p 1)) dX6_acceptDigit_70 fl_X6_22 hp.1 (by decide) rfl ?_
              refine V.iconst (v := (2)) dX6_acceptDigit_73 (by decide) ?_
              refine V.icmp_ne (tgt := 107) dX6_acceptDigit_74 (by decide) (fun c92 => ?_) (fun c92 => ?_)
              · have H93 := H91.1 c92
                refine V.iconst (v := (0)) dX6_acceptDigit_107 (by decide) ?_
                exact V.ret (v := some (.int (0 : Int32))) rfl (Or.inl ⟨_, rfl, dX6_acceptDigit_108, _, rfl, (by decide)⟩) ⟨Nat.le_refl _, Nat.le_refl _⟩ H93
              · have H94 := H91.2 c92
                refine V.bipush (v := (10)) dX6_acceptDigit_77 (by decide) ?_
                refine V.aload_n dX6_acceptDigit_79 rfl rfl ?_
                refine V.getf (v := .int (I p 3)) dX6_acceptDigit_80 fl_X6_51 hp.1 (by decide) rfl ?_
                refine V.imul dX6_acceptDigit_83 ?_
                refine V.iload_n dX6_acceptDigit_84 rfl rfl ?_
                refine V.iadd dX6_acceptDigit_85 ?_
                refine V.sipush (v := (999)) dX6_acceptDigit_86 (by decide) ?_
                refine V.icmp_gt (tgt := 107) dX6_acceptDigit_89 (by decide) (fun c95 => ?_) (fun c95 => ?_)
                · have H96 := H94.1 c95
                  refine V.iconst (v := (0)) dX6_acceptDigit_107 (by decide) ?_
                  exact V.ret (v := some (.int (0 : Int32))) rfl (Or.inl ⟨_, rfl, dX6_acceptDigit_108, _, rfl, (by decide)⟩) ⟨Nat.le_refl _, Nat.le_refl _⟩ H96
                · have H97 := H94.2 c95
                  refine V.aload_n dX6_acceptDigit_92 rfl rfl ?_
                  refine V.bipush (v := (10)) dX6_acceptDigit_93 (by decide) ?_
                  refine V.aload_n dX6_acceptDigit_95 rfl rfl ?_
                  refine V.getf (v := .int (I p 3)) dX6_acceptDigit_96 fl_X6_51 hp.1 (by decide) rfl ?_
                  refine V.imul dX6_acceptDigit_99 ?_
                  refine V.iload_n dX6_acceptDigit_100 rfl rfl ?_
                  refine V.iadd dX6_acceptDigit_101 ?_
                  refine V.puti dX6_acceptDigit_102 fl_X6_51 fp_X6_51 (Or.inl rfl) hp.1 (by decide) rfl rfl ?_
                  refine V.iconst (v := (1)) dX6_acceptDigit_105 (by decide) ?_
                  exact V.ret (v := some (.int (1 : Int32))) rfl (Or.inl ⟨_, rfl, dX6_acceptDigit_106, _, rfl, (by decide)⟩) ⟨Nat.le_refl _, Nat.le_refl _⟩ H97
            · have H98 := H89.2 c90
              refine V.aload_n dX6_acceptDigit_52 rfl rfl ?_
              refine V.iload_n dX6_acceptDigit_53 rfl rfl ?_
              refine V.puti dX6_acceptDigit_54 fl_X6_51 fp_X6_51 (Or.inl rfl) hp.1 (by decide) rfl rfl ?_
              refine V.aload_n dX6_acceptDigit_57 rfl rfl ?_
              refine V.iconst (v := (0)) dX6_acceptDigit_58 (by decide) ?_
              refine V.puti dX6_acceptDigit_59 fl_X6_48 fp_X6_48 (Or.inl rfl) hp.1 (by decide) rfl rfl ?_
              refine V.aload_n dX6_acceptDigit_62 rfl rfl ?_
              refine V.iconst (v := (2)) dX6_acceptDigit_63 (by decide) ?_
              refine V.puti dX6_acceptDigit_64 fl_X6_22 fp_X6_22 (Or.inl rfl) hp.1 (by decide) rfl rfl ?_
              refine V.iconst (v := (1)) dX6_acceptDigit_67 (by decide) ?_
              exact V.ret (v := some (.int (1 : Int32))) rfl (Or.inl ⟨_, rfl, dX6_acceptDigit_68, _, rfl, (by decide)⟩) ⟨Nat.le_refl _, Nat.le_refl _⟩ H98
      · have H99 := H66.2 c67
        refine V.aload_n dX6_acceptDigit_21 rfl rfl ?_
        refine V.iload_n dX6_acceptDigit_22 rfl rfl ?_
        refine V.puti dX6_acceptDigit_23 fl_X6_48 fp_X6_48 (Or.inl rfl) hp.1 (by decide) rfl rfl ?_
        refine V.aload_n dX6_acceptDigit_26 rfl rfl ?_
        refine V.iconst (v := (5)) dX6_acceptDigit_27 (by decide) ?_
        refine V.puti dX6_acceptDigit_28 fl_X6_22 fp_X6_22 (Or.inl rfl) hp.1 (by decide) rfl rfl ?_
        refine V.iconst (v := (1)) dX6_acceptDigit_31 (by decide) ?_
        exact V.ret (v := some (.int (1 : Int32))) rfl (Or.inl ⟨_, rfl, dX6_acceptDigit_32, _, rfl, (by decide)⟩) ⟨Nat.le_refl _, Nat.le_refl _⟩ H99
set_option maxRecDepth 100000 in
set_option maxHeartbeats 4000000 in
theorem wp_J6_bitCount_0f7a4 {S : List mjD} {RET : Option Value → mjH → Prop} {a : Int32} {I : Nat → Nat → Int32} {L : Nat → Nat → Int64} (H0 : ∀ y1 : Int32, y1 = (a - ((a.toUInt32 >>> ((1 : Int32).toUInt32 &&& Int32.toUInt32 31)).toInt32 &&& (1431655765 : Int32))) → ∀ y4 : Int32, y4 = ((y1 &&& (858993459 : Int32)) + ((y1.toUInt32 >>> ((2 : Int32).toUInt32 &&& Int32.toUInt32 31)).toInt32 &&& (858993459 : Int32))) → ∀ y7 : Int32, y7 = ((y4 + (y4.toUInt32 >>> ((4 : Int32).toUInt32 &&& Int32.toUInt32 31)).toInt32) &&& (252645135 : Int32)) → ∀ y10 : Int32, y10 = (y7 + (y7.toUInt32 >>> ((8 : Int32).toUInt32 &&& Int32.toUInt32 31)).toInt32) → ∀ y13 : Int32, y13 = (y10 + (y10.toUInt32 >>> ((16 : Int32).toUInt32 &&& Int32.toUInt32 31)).toInt32) → RET (some (.int (y13 &&& (63 : Int32)))) (S, I, L)) : CT mr_J6_bitCount_0f7a4 (0, 0) [.int a] (S, I, L) RET := by
  refine CT.of (lo := [(0, .int a)]) (by decide) (fun _ _ => Nat.le_of_ble_eq_true rfl) (fun _ _ => rfl) rfl ?_
  refine V.iload_n dJ6_bitCount_0f7a4_0 rfl rfl ?_
  refine V.iload_n dJ6_bitCount_0f7a4_1 rfl rfl ?_
  refine V.iconst (v := (1)) dJ6_bitCount_0f7a4_2 (by decide) ?_
  refine V.iushr dJ6_bitCount_0f7a4_3 ?_
  refine V.ldc_w kc_J6_265 dJ6_bitCount_0f7a4_4 ?_
  refine V.iand dJ6_bitCount_0f7a4_7 ?_
  refine V.isub dJ6_bitCount_0f7a4_8 ?_
  refine V.topi (fun y1 e2 => ?_)
  have H3 := H0 y1 e2
  refine V.istore_n (lo' := [(0, .int y1)]) dJ6_bitCount_0f7a4_9 rfl (by decide) rfl ?_
  refine V.iload_n dJ6_bitCount_0f7a4_10 rfl rfl ?_
  refine V.ldc_w kc_J6_266 dJ6_bitCount_0f7a4_11 ?_
  refine V.iand dJ6_bitCount_0f7a4_14 ?_
  refine V.iload_n dJ6_bitCount_0f7a4_15 rfl rfl ?_
  refine V.iconst (v := (2)) dJ6_bitCount_0f7a4_16 (by decide) ?_
  refine V.iushr dJ6_bitCount_0f7a4_17 ?_
  refine V.ldc_w kc_J6_266 dJ6_bitCount_0f7a4_18 ?_
  refine V.iand dJ6_bitCount_0f7a4_21 ?_
  refine V.iadd dJ6_bitCount_0f7a4_22 ?_
  refine V.topi (fun y4 e5 => ?_)
  have H6 := H3 y4 e5
  refine V.istore_n (lo' := [(0, .int y4)]) dJ6_bitCount_0f7a4_23 rfl (by decide) rfl ?_
  refine V.iload_n dJ6_bitCount_0f7a4_24 rfl rfl ?_
  refine V.iload_n dJ6_bitCount_0f7a4_25 rfl rfl ?_
  refine V.iconst (v := (4)) dJ6_bitCount_0f7a4_26 (by decide) ?_
  refine V.iushr dJ6_bitCount_0f7a4_27 ?_
  refine V.iadd dJ6_bitCount_0f7a4_28 ?_
  refine V.ldc_w kc_J6_267 dJ6_bitCount_0f7a4_29 ?_
  refine V.iand dJ6_bitCount_0f7a4_32 ?_
  refine V.topi (fun y7 e8 => ?_)
  have H9 := H6 y7 e8
  refine V.istore_n (lo' := [(0, .int y7)]) dJ6_bitCount_0f7a4_33 rfl (by decide) rfl ?_
  refine V.iload_n dJ6_bitCount_0f7a4_34 rfl rfl ?_
  refine V.iload_n dJ6_bitCount_0f7a4_35 rfl rfl ?_
  refine V.bipush (v := (8)) dJ6_bitCount_0f7a4_36 (by decide) ?_
  refine V.iushr dJ6_bitCount_0f7a4_38 ?_
  refine V.iadd dJ6_bitCount_0f7a4_39 ?_
  refine V.topi (fun y10 e11 => ?_)
  have H12 := H9 y10 e11
  refine V.istore_n (lo' := [(0, .int y10)]) dJ6_bitCount_0f7a4_40 rfl (by decide) rfl ?_
  refine V.iload_n dJ6_bitCount_0f7a4_41 rfl rfl ?_
  refine V.iload_n dJ6_bitCount_0f7a4_42 rfl rfl ?_
  refine V.bipush (v := (16)) dJ6_bitCount_0f7a4_43 (by decide) ?_
  refine V.iushr dJ6_bitCount_0f7a4_45 ?_
  refine V.iadd dJ6_bitCount_0f7a4_46 ?_
  refine V.topi (fun y13 e14 => ?_)
  have H15 := H12 y13 e14
  refine V.istore_n (lo' := [(0, .int y13)]) dJ6_bitCount_0f7a4_47 rfl (by decide) rfl ?_
  refine V.iload_n dJ6_bitCount_0f7a4_48 rfl rfl ?_
  refine V.bipush (v := (63)) dJ6_bitCount_0f7a4_49 (by decide) ?_
  refine V.iand dJ6_bitCount_0f7a4_51 ?_
  exact V.ret (v := some (.int (y13 &&& (63 : Int32)))) rfl (Or.inl ⟨_, rfl, dJ6_bitCount_0f7a4_52, _, rfl, rfl⟩) ⟨Nat.le_refl _, Nat.le_refl _⟩ H15
set_option maxRecDepth 100000 in
set_option maxHeartbeats 4000000 in
theorem wp_J9_abs_067f4 {S : List mjD} {RET : Option Value → mjH → Prop} {a : Int64} {I : Nat → Nat → Int32} {L : Nat → Nat → Int64} (H0 : (((0 : Int64) ≤ a → RET (some (.long a)) (S, I, L)) ∧ (¬ (0 : Int64) ≤ a → RET (some (.long (-a))) (S, I, L)))) : CT mr_J9_abs_067f4 (0, 0) [.long a] (S, I, L) RET := by
  refine CT.ofF (lo := [(0, .long a)]) pf_J9_abs_067f4 (fun _ _ => Nat.le_of_ble_eq_true rfl) (fun _ _ => rfl) rfl ?_
  refine V.lload_n dJ9_abs_067f4_0 rfl rfl ?_
  refine V.lconst (v := 0) dJ9_abs_067f4_1 (by decide) ?_
  refine V.lc_ge (tgt := 11) dJ9_abs_067f4_2 dJ9_abs_067f4_3 (by decide) (fun c1 => ?_) (fun c1 => ?_)
  · have H2 := H0.1 c1
    refine V.lload_n dJ9_abs_067f4_11 rfl rfl ?_
    exact V.ret (v := some (.long a)) rfl (Or.inr (Or.inl ⟨_, rfl, dJ9_abs_067f4_12, rfl⟩)) ⟨Nat.le_refl _, Nat.le_refl _⟩ H2
  · have H3 := H0.2 c1
    refine V.lload_n dJ9_abs_067f4_6 rfl rfl ?_
    refine V.lneg dJ9_abs_067f4_7 ?_
    refine V.goto (tgt := 12) dJ9_abs_067f4_8 (by decide) ?_
    exact V.ret (v := some (.long (-a))) rfl (Or.inr (Or.inl ⟨_, rfl, dJ9_abs_067f4_12, rfl⟩)) ⟨Nat.le_refl _, Nat.le_refl _⟩ H3
set_option maxRecDepth 100000 in
set_option maxHeartbeats 4000000 in
theorem wp_J9_floorMod_f86c9 {S : List mjD} {RET : Option Value → mjH → Prop} {a : Int64} {b : Int64} {I : Nat → Nat → Int32} {L : Nat → Nat → Int64} (H0 : (¬ b = 0) ∧ ∀ y3 : Int64, y3 = (a - a / b * b) → (((0 : Int64) ≤ (a ^^^ b) → RET (some (.long y3)) (S, I, L)) ∧ (¬ (0 : Int64) ≤ (a ^^^ b) → ((y3 = (0 : Int64) → RET (some (.long y3)) (S, I, L)) ∧ (¬ y3 = (0 : Int64) → RET (some (.long (y3 + b))) (S, I, L)))))) : CT mr_J9_floorMod_f86c9 (0, 0) [.long a, .long b] (S, I, L) RET := by
  refine CT.ofF (lo := [(0, .long a), (2, .long b)]) pf_J9_floorMod_f86c9 (fun _ _ => Nat.le_of_ble_eq_true rfl) (fun _ _ => rfl) rfl ?_
  refine V.lload_n dJ9_floorMod_f86c9_0 rfl rfl ?_
  refine V.lload_n dJ9_floorMod_f86c9_1 rfl rfl ?_
  obtain ⟨o1, H2⟩ := H0
  refine V.lrem dJ9_floorMod_f86c9_2 o1 ?_
  refine V.topl (fun y3 e4 => ?_)
  have H5 := H2 y3 e4
  refine V.lstore (lo' := [(4, .long y3), (0, .long a), (2, .long b)]) dJ9_floorMod_f86c9_3 (by decide) rfl ?_
  refine V.lload_n dJ9_floorMod_f86c9_5 rfl rfl ?_
  refine V.lload_n dJ9_floorMod_f86c9_6 rfl rfl ?_
  refine V.lxor dJ9_floorMod_f86c9_7 ?_
  refine V.lconst (v := 0) dJ9_floorMod_f86c9_8 (by decide) ?_
  refine V.lc_ge (tgt := 25) dJ9_floorMod_f86c9_9 dJ9_floorMod_f86c9_10 (by decide) (fun c6 => ?_) (fun c6 => ?_)
  · have H7 := H5.1 c6
    refine V.lload dJ9_floorMod_f86c9_25 rfl ?_
    exact V.ret (v := some (.long y3)) rfl (Or.inr (Or.inl ⟨_, rfl, dJ9_floorMod_f86c9_27, rfl⟩)) ⟨Nat.le_refl _, Nat.le_refl _⟩ H7
  · have H8 := H5.2 c6
    refine V.lload dJ9_floorMod_f86c9_13 rfl ?_
    refine V.lconst (v := 0) dJ9_floorMod_f86c9_15 (by decide) ?_
    refine V.lc_eq (tgt := 25) dJ9_floorMod_f86c9_16 dJ9_floorMod_f86c9_17 (by decide) (fun c9 => ?_) (fun c9 => ?_)
    · have H10 := H8.1 c9
      refine V.lload dJ9_floorMod_f86c9_25 rfl ?_
      exact V.ret (v := some (.long y3)) rfl (Or.inr (Or.inl ⟨_, rfl, dJ9_floorMod_f86c9_27, rfl⟩)) ⟨Nat.le_refl _, Nat.le_refl _⟩ H10
    · have H11 := H8.2 c9
      refine V.lload dJ9_floorMod_f86c9_20 rfl ?_
      refine V.lload_n dJ9_floorMod_f86c9_22 rfl rfl ?_
      refine V.ladd dJ9_floorMod_f86c9_23 ?_
      exact V.ret (v := some (.long (y3 + b))) rfl (Or.inr (Or.inl ⟨_, rfl, dJ9_floorMod_f86c9_24, rfl⟩)) ⟨Nat.le_refl _, Nat.le_refl _⟩ H11
set_option maxRecDepth 100000 in
set_option maxHeartbeats 4000000 in
theorem wp_J9_max_7cf53 {S : List mjD} {RET : Option Value → mjH → Prop} {a : Int32} {b : Int32} {I : Nat → Nat → Int32} {L : Nat → Nat → Int64} (H0 : ((a < b → RET (some (.int b)) (S, I, L)) ∧ (¬ a < b → RET (some (.int a)) (S, I, L)))) : CT mr_J9_max_7cf53 (0, 0) [.int a, .int b] (S, I, L) RET := by
  refine CT.ofF (lo := [(0, .int a), (1, .int b)]) pf_J9_max_7cf53 (fun _ _ => Nat.le_of_ble_eq_true rfl) (fun _ _ => rfl) rfl ?_
  refine V.iload_n dJ9_max_7cf53_0 rfl rfl ?_
  refine V.iload_n dJ9_max_7cf53_1 rfl rfl ?_
  refine V.icmp_lt (tgt := 9) dJ9_max_7cf53_2 (by decide) (fun c1 => ?_) (fun c1 => ?_)
  · have H2 := H0.1 c1
    refine V.iload_n dJ9_max_7cf53_9 rfl rfl ?_
    exact V.ret (v := some (.int b)) rfl (Or.inl ⟨_, rfl, dJ9_max_7cf53_10, _, rfl, rfl⟩) ⟨Nat.le_refl _, Nat.le_refl _⟩ H2
  · have H3 := H0.2 c1
    refine V.iload_n dJ9_max_7cf53_5 rfl rfl ?_
    refine V.goto (tgt := 10) dJ9_max_7cf53_6 (by decide) ?_
    exact V.ret (v := some (.int a)) rfl (Or.inl ⟨_, rfl, dJ9_max_7cf53_10, _, rfl, rfl⟩) ⟨Nat.le_refl _, Nat.le_refl _⟩ H3
set_option maxRecDepth 100000 in
set_option maxHeartbeats 4000000 in
theorem wp_J9_min_7cf53 {S : List mjD} {RET : Option Value → mjH → Prop} {a : Int32} {b : Int32} {I : Nat → Nat → Int32} {L : Nat → Nat → Int64} (H0 : ((b < a → RET (some (.int b)) (S, I, L)) ∧ (¬ b < a → RET (some (.int a)) (S, I, L)))) : CT mr_J9_min_7cf53 (0, 0) [.int a, .int b] (S, I, L) RET := by
  refine CT.ofF (lo := [(0, .int a), (1, .int b)]) pf_J9_min_7cf53 (fun _ _ => Nat.le_of_ble_eq_true rfl) (fun _ _ => rfl) rfl ?_
  refine V.iload_n dJ9_min_7cf53_0 rfl rfl ?_
  refine V.iload_n dJ9_min_7cf53_1 rfl rfl ?_
  refine V.icmp_gt (tgt := 9) dJ9_min_7cf53_2 (by decide) (fun c1 => ?_) (fun c1 => ?_)
  · have H2 := H0.1 c1
    refine V.iload_n dJ9_min_7cf53_9 rfl rfl ?_
    exact V.ret (v := some (.int b)) rfl (Or.inl ⟨_, rfl, dJ9_min_7cf53_10, _, rfl, rfl⟩) ⟨Nat.le_refl _, Nat.le_refl _⟩ H2
  · have H3 := H0.2 c1
    refine V.iload_n dJ9_min_7cf53_5 rfl rfl ?_
    refine V.goto (tgt := 10) dJ9_min_7cf53_6 (by decide) ?_
    exact V.ret (v := some (.int a)) rfl (Or.inl ⟨_, rfl, dJ9_min_7cf53_10, _, rfl, rfl⟩) ⟨Nat.le_refl _, Nat.le_refl _⟩ H3
def hd_X0_isRoot_15 (S : List mjD) (RET : Option Value → mjH → Prop) (a0 : Nat) (x1 : Int64) (x3 : Int64) (x5 : Int64) (x7 : Int64) (x9 : Int32) (I : Nat → Nat → Int32) (L : Nat → Nat → Int64) : Prop := V mr_X0_isRoot (0, 0) RET 15 [(0, .ref a0), (1, .long x1), (3, .long x3), (5, .long x5), (7, .long x7), (9, .int x9)] [] (S, I, L) (0, 0)
set_option maxRecDepth 100000 in
set_option maxHeartbeats 4000000 in
theorem it_X0_isRoot_15 {S : List mjD} {RET : Option Value → mjH → Prop} {a0 : Nat} (h0 : is_Factoring S a0) {x1 : Int64} {x3 : Int64} {x5 : Int64} {x7 : Int64} {x9 : Int32} {I : Nat → Nat → Int32} {L : Nat → Nat → Int64} (H0 : ((x9 < 0 → ((¬ x5 = (0 : Int64) → RET (some (.int (0 : Int32))) (S, I, L)) ∧ (x5 = (0 : Int64) → RET (some (.int (1 : Int32))) (S, I, L)))) ∧ (¬ x9 < 0 → ∃ r12 I13 L14, CTl mr_X5_at [.ref (a0 + 1), .int x9] S I L r12 I13 L14 ∧ ∀ y17 : Int64, y17 = ((r12 * x7) - (x5 * x3)) → ∀ y20 : Int64, y20 = (x7 * x1) → ∀ y23 : Int32, y23 = x9 + (-1) → hd_X0_isRoot_15 S RET a0 x1 x3 y17 y20 y23 I13 L14))) : hd_X0_isRoot_15 S RET a0 x1 x3 x5 x7 x9 I L := by
  unfold hd_X0_isRoot_15
  refine V.iload dX0_isRoot_15 rfl ?_
  refine V.if_lt (tgt := 51) dX0_isRoot_17 (by decide) (fun c6 => ?_) (fun c6 => ?_)
  · have H7 := H0.1 c6
    refine V.lload dX0_isRoot_51 rfl ?_
    refine V.lconst (v := 0) dX0_isRoot_53 (by decide) ?_
    refine V.lc_ne (tgt := 62) dX0_isRoot_54 dX0_isRoot_55 (by decide) (fun c8 => ?_) (fun c8 => ?_)
    · have H9 := H7.1 c8
      refine V.iconst (v := (0)) dX0_isRoot_62 (by decide) ?_
      exact V.ret (v := some (.int (0 : Int32))) rfl (Or.inl ⟨_, rfl, dX0_isRoot_63, _, rfl, (by decide)⟩) ⟨Nat.le_refl _, Nat.le_refl _⟩ H9
    · have H10 := H7.2 c8
      refine V.iconst (v := (1)) dX0_isRoot_58 (by decide) ?_
      refine V.goto (tgt := 63) dX0_isRoot_59 (by decide) ?_
      exact V.ret (v := some (.int (1 : Int32))) rfl (Or.inl ⟨_, rfl, dX0_isRoot_63, _, rfl, (by decide)⟩) ⟨Nat.le_refl _, Nat.le_refl _⟩ H10
  · have H11 := H0.2 c6
    refine V.aload_n dX0_isRoot_20 rfl rfl ?_
    refine V.getf (v := .ref (a0 + 1)) dX0_isRoot_21 fl_X0_12 h0.1 (by decide) rfl ?_
    refine V.iload dX0_isRoot_24 rfl ?_
    obtain ⟨r12, I13, L14, t15, H16⟩ := H11
    refine V.cVl (N := mr_X5_at) (as := [.int x9]) dX0_isRoot_26 ml_X0_89 ok_X5_at okV_X5_at ⟨Nat.le_of_ble_eq_true rfl, Nat.le_of_ble_eq_true rfl⟩ h0.2.1.1 rfl rfl rfl (Nat.le_of_ble_eq_true rfl) t15 ?_
    refine V.lload dX0_isRoot_29 rfl ?_
    refine V.lmul dX0_isRoot_31 ?_
    refine V.lload dX0_isRoot_32 rfl ?_
    refine V.lload_n dX0_isRoot_34 rfl rfl ?_
    refine V.lmul dX0_isRoot_35 ?_
    refine V.lsub dX0_isRoot_36 ?_
    refine V.topl (fun y17 e18 => ?_)
    have H19 := H16 y17 e18
    refine V.lstore (lo' := [(5, .long y17), (0, .ref a0), (1, .long x1), (3, .long x3), (7, .long x7), (9, .int x9)]) dX0_isRoot_37 (by decide) rfl ?_
    refine V.lload dX0_isRoot_39 rfl ?_
    refine V.lload_n dX0_isRoot_41 rfl rfl ?_
    refine V.lmul dX0_isRoot_42 ?_
    refine V.topl (fun y20 e21 => ?_)
    have H22 := H19 y20 e21
    refine V.lstore (lo' := [(7, .long y20), (5, .long y17), (0, .ref a0), (1, .long x1), (3, .long x3), (9, .int x9)]) dX0_isRoot_43 (by decide) rfl ?_
    obtain ⟨y23, e24⟩ : ∃ y : Int32, y = x9 + (-1) := ⟨_, rfl⟩
    have H25 := H22 y23 e24
    refine V.iinc (v := y23) (lo' := [(9, .int y23), (7, .long y20), (5, .long y17), (0, .ref a0), (1, .long x1), (3, .long x3)]) dX0_isRoot_45 rfl (by rw [e24]; rfl) (by decide) rfl ?_
    refine V.goto (tgt := 15) dX0_isRoot_48 (by decide) ?_
    exact V.los [3, 4, 5, 2, 1, 0] rfl H25
set_option maxRecDepth 100000 in
set_option maxHeartbeats 4000000 in
theorem wp_X0_isRoot {S : List mjD} {RET : Option Value → mjH → Prop} {p : Nat} (hp : is_Factoring S p) {a : Int64} {b : Int64} {I : Nat → Nat → Int32} {L : Nat → Nat → Int64} (H0 : ∃ r1 I2 L3, CTi mr_X5_degree [.ref (p + 1)] S I L r1 I2 L3 ∧ hd_X0_isRoot_15 S RET p a b (0 : Int64) (1 : Int64) r1 I2 L3) : CT mr_X0_isRoot (0, 0) [.ref p, .long a, .long b] (S, I, L) RET := by
  refine CT.of (lo := [(0, .ref p), (1, .long a), (3, .long b)]) (by decide) (fun _ _ => Nat.le_of_ble_eq_true rfl) (fun _ _ => rfl) rfl ?_
  refine V.lconst (v := 0) dX0_isRoot_0 (by decide) ?_
  refine V.lstore (lo' := [(5, .long (0 : Int64)), (0, .ref p), (1, .long a), (3, .long b)]) dX0_isRoot_1 (by decide) rfl ?_
  refine V.lconst (v := 1) dX0_isRoot_3 (by decide) ?_
  refine V.lstore (lo' := [(7, .long (1 : Int64)), (5, .long (0 : Int64)), (0, .ref p), (1, .long a), (3, .long b)]) dX0_isRoot_4 (by decide) rfl ?_
  refine V.aload_n dX0_isRoot_6 rfl rfl ?_
  refine V.getf (v := .ref (p + 1)) dX0_isRoot_7 fl_X0_12 hp.1 (by decide) rfl ?_
  obtain ⟨r1, I2, L3, t4, H5⟩ := H0
  refine V.cVi (N := mr_X5_degree) (as := []) dX0_isRoot_10 ml_X0_60 ok_X5_degree okV_X5_degree ⟨Nat.le_of_ble_eq_true rfl, Nat.le_of_ble_eq_true rfl⟩ hp.2.1.1 rfl rfl rfl (Nat.le_of_ble_eq_true rfl) t4 ?_
  refine V.istore (lo' := [(9, .int r1), (7, .long (1 : Int64)), (5, .long (0 : Int64)), (0, .ref p), (1, .long a), (3, .long b)]) dX0_isRoot_13 (by decide) rfl ?_
  exact V.los [3, 4, 5, 2, 1, 0] rfl H5
def hd_X0_divisors_11 (S : List mjD) (RET : Option Value → mjH → Prop) (a2 : Nat) (x3 : Int64) (x5 : Int32) (x6 : Int32) (I : Nat → Nat → Int32) (L : Nat → Nat → Int64) : Prop := V mr_X0_divisors (0, 0) RET 11 [(2, .ref a2), (3, .long x3), (5, .int x5), (6, .int x6)] [] (S, I, L) (0, 0)
set_option maxRecDepth 100000 in
set_option maxHeartbeats 4000000 in
theorem it_X0_divisors_11 {S : List mjD} {RET : Option Value → mjH → Prop} {a2 : Nat} (h2 : S[a2]? = some (10, 32, [])) {x3 : Int64} {x5 : Int32} {x6 : Int32} {I : Nat → Nat → Int32} {L : Nat → Nat → Int64} (H0 : (((999 : Int32) < x6 → RET (some (.int x5)) (S, I, L)) ∧ (¬ (999 : Int32) < x6 → ((x3 < (x6 * x6).toInt64 → RET (some (.int x5)) (S, I, L)) ∧ (¬ x3 < (x6 * x6).toInt64 → (¬ x6.toInt64 = 0) ∧ ((¬ (x3 - x3 / x6.toInt64 * x6.toInt64) = (0 : Int64) → ∀ y16 : Int32, y16 = x6 + 1 → hd_X0_divisors_11 S RET a2 x3 x5 y16 I L) ∧ ((x3 - x3 / x6.toInt64 * x6.toInt64) = (0 : Int64) → (((32 : Int32) ≤ (x5 + (1 : Int32)) → ∀ y22 : Int32, y22 = x6 + 1 → hd_X0_divisors_11 S RET a2 x3 x5 y22 I L) ∧ (¬ (32 : Int32) ≤ (x5 + (1 : Int32)) → (vp_in x5 32) ∧ ∀ y28 : Int32, y28 = x5 + 1 → (((x6 * x6).toInt64 = x3 → ∀ y33 : Int32, y33 = x6 + 1 → hd_X0_divisors_11 S RET a2 x3 y28 y33 (mj_up I a2 x5.toNatClampNeg x6) L) ∧ (¬ (x6 * x6).toInt64 = x3 → (¬ x6.toInt64 = 0) ∧ (vp_in y28 32) ∧ ∀ y41 : Int32, y41 = y28 + 1 → ∀ y44 : Int32, y44 = x6 + 1 → hd_X0_divisors_11 S RET a2 x3 y41 y44 (mj_up (mj_up I a2 x5.toNatClampNeg x6) a2 y28.toNatClampNeg ((x3 / x6.toInt64).toInt32)) L))))))))))) : hd_X0_divisors_11 S RET a2 x3 x5 x6 I L := by
  unfold hd_X0_divisors_11
  refine V.iload dX0_divisors_11 rfl ?_
  refine V.sipush (v := (999)) dX0_divisors_13 (by decide) ?_
  refine V.icmp_gt (tgt := 88) dX0_divisors_16 (by decide) (fun c6 => ?_) (fun c6 => ?_)
  · have H7 := H0.1 c6
    refine V.iload dX0_divisors_88 rfl ?_
    exact V.ret (v := some (.int x5)) rfl (Or.inl ⟨_, rfl, dX0_divisors_90, _, rfl, rfl⟩) ⟨Nat.le_refl _, Nat.le_refl _⟩ H7
  · have H8 := H0.2 c6
    refine V.iload dX0_divisors_19 rfl ?_
    refine V.iload dX0_divisors_21 rfl ?_
    refine V.imul dX0_divisors_23 ?_
    refine V.i2l dX0_divisors_24 ?_
    refine V.lload_n dX0_divisors_25 rfl rfl ?_
    refine V.lc_gt (tgt := 88) dX0_divisors_26 dX0_divisors_27 (by decide) (fun c9 => ?_) (fun c9 => ?_)
    · have H10 := H8.1 c9
      refine V.iload dX0_divisors_88 rfl ?_
      exact V.ret (v := some (.int x5)) rfl (Or.inl ⟨_, rfl, dX0_divisors_90, _, rfl, rfl⟩) ⟨Nat.le_refl _, Nat.le_refl _⟩ H10
    · have H11 := H8.2 c9
      refine V.lload_n dX0_divisors_30 rfl rfl ?_
      refine V.iload dX0_divisors_31 rfl ?_
      refine V.i2l dX0_divisors_33 ?_
      obtain ⟨o12, H13⟩ := H11
      refine V.lrem dX0_divisors_34 o12 ?_
      refine V.lconst (v := 0) dX0_divisors_35 (by decide) ?_
      refine V.lc_ne (tgt := 82) dX0_divisors_36 dX0_divisors_37 (by decide) (fun c14 => ?_) (fun c14 => ?_)
      · have H15 := H13.1 c14
        obtain ⟨y16, e17⟩ : ∃ y : Int32, y = x6 + 1 := ⟨_, rfl⟩
        have H18 := H15 y16 e17
        refine V.iinc (v := y16) (lo' := [(6, .int y16), (2, .ref a2), (3, .long x3), (5, .int x5)]) dX0_divisors_82 rfl (by rw [e17]; rfl) (by decide) rfl ?_
        refine V.goto (tgt := 11) dX0_divisors_85 (by decide) ?_
        exact V.los [1, 2, 3, 0] rfl H18
      · have H19 := H13.2 c14
        refine V.iload dX0_divisors_40 rfl ?_
        refine V.iconst (v := (1)) dX0_divisors_42 (by decide) ?_
        refine V.iadd dX0_divisors_43 ?_
        refine V.aload_n dX0_divisors_44 rfl rfl ?_
        refine V.alen (v := 32) dX0_divisors_45 h2 (Or.inl rfl) (by decide) ?_
        refine V.icmp_ge (tgt := 82) dX0_divisors_46 (by decide) (fun c20 => ?_) (fun c20 => ?_)
        · have H21 := H19.1 c20
          obtain ⟨y22, e23⟩ : ∃ y : Int32, y = x6 + 1 := ⟨_, rfl⟩
          have H24 := H21 y22 e23
          refine V.iinc (v := y22) (lo' := [(6, .int y22), (2, .ref a2), (3, .long x3), (5, .int x5)]) dX0_divisors_82 rfl (by rw [e23]; rfl) (by decide) rfl ?_
          refine V.goto (tgt := 11) dX0_divisors_85 (by decide) ?_
          exact V.los [1, 2, 3, 0] rfl H24
        · have H25 := H19.2 c20
          refine V.aload_n dX0_divisors_49 rfl rfl ?_
          refine V.iload dX0_divisors_50 rfl ?_
          refine V.iload dX0_divisors_52 rfl ?_
          obtain ⟨o26, H27⟩ := H25
          refine V.iast dX0_divisors_54 h2 o26 ?_
          obtain ⟨y28, e29⟩ : ∃ y : Int32, y = x5 + 1 := ⟨_, rfl⟩
          have H30 := H27 y28 e29
          refine V.iinc (v := y28) (lo' := [(5, .int y28), (2, .ref a2), (3, .long x3), (6, .int x6)]) dX0_divisors_55 rfl (by rw [e29]; rfl) (by decide) rfl ?_
          refine V.iload dX0_divisors_58 rfl ?_
          refine V.iload dX0_divisors_60 rfl ?_
          refine V.imul dX0_divisors_62 ?_
          refine V.i2l dX0_divisors_63 ?_
          refine V.lload_n dX0_divisors_64 rfl rfl ?_
          refine V.lc_eq (tgt := 82) dX0_divisors_65 dX0_divisors_66 (by decide) (fun c31 => ?_) (fun c31 => ?_)
          · have H32 := H30.1 c31
            obtain ⟨y33, e34⟩ : ∃ y : Int32, y = x6 + 1 := ⟨_, rfl⟩
            have H35 := H32 y33 e34
            refine V.iinc (v := y33) (lo' := [(6, .int y33), (5, .int y28), (2, .ref a2), (3, .long x3)]) dX0_divisors_82 rfl (by rw [e34]; rfl) (by decide) rfl ?_
            refine V.goto (tgt := 11) dX0_divisors_85 (by decide) ?_
            exact V.los [2, 3, 1, 0] rfl H35
          · have H36 := H30.2 c31
            refine V.aload_n dX0_divisors_69 rfl rfl ?_
            refine V.iload dX0_divisors_70 rfl ?_
            refine V.lload_n dX0_divisors_72 rfl rfl ?_
            refine V.iload dX0_divisors_73 rfl ?_
            refine V.i2l dX0_divisors_75 ?_
            obtain ⟨o37, H38⟩ := H36
            refine V.ldiv dX0_divisors_76 o37 ?_
            refine V.l2i dX0_divisors_77 ?_
            obtain ⟨o39, H40⟩ := H38
            refine V.iast dX0_divisors_78 h2 o39 ?_
            obtain ⟨y41, e42⟩ : ∃ y : Int32, y = y28 + 1 := ⟨_, rfl⟩
            have H43 := H40 y41 e42
            refine V.iinc (v := y41) (lo' := [(5, .int y41), (2, .ref a2), (3, .long x3), (6, .int x6)]) dX0_divisors_79 rfl (by rw [e42]; rfl) (by decide) rfl ?_
            obtain ⟨y44, e45⟩ : ∃ y : Int32, y = x6 + 1 := ⟨_, rfl⟩
            have H46 := H43 y44 e45
            refine V.iinc (v := y44) (lo' := [(6, .int y44), (5, .int y41), (2, .ref a2), (3, .long x3)]) dX0_divisors_82 rfl (by rw [e45]; rfl) (by decide) rfl ?_
            refine V.goto (tgt := 11) dX0_divisors_85 (by decide) ?_
            exact V.los [2, 3, 1, 0] rfl H46
set_option maxRecDepth 100000 in
set_option maxHeartbeats 4000000 in
theorem wp_X0_divisors {S : List mjD} {RET : Option Value → mjH → Prop} {a : Int64} {q : Nat} (hq : S[q]? = some (10, 32, [])) {I : Nat → Nat → Int32} {L : Nat → Nat → Int64} (H0 : ∃ r1 I2 L3, CTl mr_J9_abs_067f4 [.long a] S I L r1 I2 L3 ∧ hd_X0_divisors_11 S RET q r1 (0 : Int32) (1 : Int32) I2 L3) : CT mr_X0_divisors (0, 0) [.long a, .ref q] (S, I, L) RET := by
  refine CT.of (lo := [(0, .long a), (2, .ref q)]) (by decide) (fun _ _ => Nat.le_of_ble_eq_true rfl) (fun _ _ => rfl) rfl ?_
  refine V.lload_n dX0_divisors_0 rfl rfl ?_
  obtain ⟨r1, I2, L3, t4, H5⟩ := H0
  refine V.cSl (N := mr_J9_abs_067f4) (as := [.long a]) dX0_divisors_1 ml_X0_97 ok_J9_abs_067f4 okS_J9_abs_067f4 ⟨Nat.le_of_ble_eq_true rfl, Nat.le_of_ble_eq_true rfl⟩ rfl rfl (Nat.le_of_ble_eq_true rfl) t4 ?_
  refine V.lstore_n (lo' := [(3, .long r1), (0, .long a), (2, .ref q)]) dX0_divisors_4 rfl (by decide) rfl ?_
  refine V.iconst (v := (0)) dX0_divisors_5 (by decide) ?_
  refine V.istore (lo' := [(5, .int (0 : Int32)), (3, .long r1), (0, .long a), (2, .ref q)]) dX0_divisors_6 (by decide) rfl ?_
  refine V.iconst (v := (1)) dX0_divisors_8 (by decide) ?_
  refine V.istore (lo' := [(6, .int (1 : Int32)), (5, .int (0 : Int32)), (3, .long r1), (0, .long a), (2, .ref q)]) dX0_divisors_9 (by decide) rfl ?_
  exact V.los [4, 2, 1, 0] rfl H5
def hd_X1_multiplicitySum_4 (S : List mjD) (RET : Option Value → mjH → Prop) (a0 : Nat) (x1 : Int32) (x2 : Int32) (I : Nat → Nat → Int32) (L : Nat → Nat → Int64) : Prop := V mr_X1_multiplicitySum (0, 0) RET 4 [(0, .ref a0), (1, .int x1), (2, .int x2)] [] (S, I, L) (0, 0)
set_option maxRecDepth 100000 in
set_option maxHeartbeats 4000000 in
theorem it_X1_multiplicitySum_4 {S : List mjD} {RET : Option Value → mjH → Prop} {a0 : Nat} (h0 : is_Factors S a0) {x1 : Int32} {x2 : Int32} {I : Nat → Nat → Int32} {L : Nat → Nat → Int64} (H0 : (((I a0 2) ≤ x2 → RET (some (.int x1)) (S, I, L)) ∧ (¬ (I a0 2) ≤ x2 → ∃ r4 I5 L6, CTi mr_X1_multiplicityAt [.ref a0, .int x2] S I L r4 I5 L6 ∧ ∀ y9 : Int32, y9 = (x1 + r4) → ∀ y12 : Int32, y12 = x2 + 1 → hd_X1_multiplicitySum_4 S RET a0 y9 y12 I5 L6))) : hd_X1_multiplicitySum_4 S RET a0 x1 x2 I L := by
  unfold hd_X1_multiplicitySum_4
  refine V.iload_n dX1_multiplicitySum_4 rfl rfl ?_
  refine V.aload_n dX1_multiplicitySum_5 rfl rfl ?_
  refine V.getf (v := .int (I a0 2)) dX1_multiplicitySum_6 fl_X1_22 h0.1 (by decide) rfl ?_
  refine V.icmp_ge (tgt := 26) dX1_multiplicitySum_9 (by decide) (fun c1 => ?_) (fun c1 => ?_)
  · have H2 := H0.1 c1
    refine V.iload_n dX1_multiplicitySum_26 rfl rfl ?_
    exact V.ret (v := some (.int x1)) rfl (Or.inl ⟨_, rfl, dX1_multiplicitySum_27, _, rfl, rfl⟩) ⟨Nat.le_refl _, Nat.le_refl _⟩ H2
  · have H3 := H0.2 c1
    refine V.iload_n dX1_multiplicitySum_12 rfl rfl ?_
    refine V.aload_n dX1_multiplicitySum_13 rfl rfl ?_
    refine V.iload_n dX1_multiplicitySum_14 rfl rfl ?_
    obtain ⟨r4, I5, L6, t7, H8⟩ := H3
    refine V.cVi (N := mr_X1_multiplicityAt) (as := [.int x2]) dX1_multiplicitySum_15 ml_X1_34 ok_X1_multiplicityAt okV_X1_multiplicityAt ⟨Nat.le_of_ble_eq_true rfl, Nat.le_of_ble_eq_true rfl⟩ h0.1 rfl rfl rfl (Nat.le_of_ble_eq_true rfl) t7 ?_
    refine V.iadd dX1_multiplicitySum_18 ?_
    refine V.topi (fun y9 e10 => ?_)
    have H11 := H8 y9 e10
    refine V.istore_n (lo' := [(1, .int y9), (0, .ref a0), (2, .int x2)]) dX1_multiplicitySum_19 rfl (by decide) rfl ?_
    obtain ⟨y12, e13⟩ : ∃ y : Int32, y = x2 + 1 := ⟨_, rfl⟩
    have H14 := H11 y12 e13
    refine V.iinc (v := y12) (lo' := [(2, .int y12), (1, .int y9), (0, .ref a0)]) dX1_multiplicitySum_20 rfl (by rw [e13]; rfl) (by decide) rfl ?_
    refine V.goto (tgt := 4) dX1_multiplicitySum_23 (by decide) ?_
    exact V.los [2, 1, 0] rfl H14
set_option maxRecDepth 100000 in
set_option maxHeartbeats 4000000 in
theorem wp_X1_multiplicitySum {S : List mjD} {RET : Option Value → mjH → Prop} {p : Nat} (hp : is_Factors S p) {I : Nat → Nat → Int32} {L : Nat → Nat → Int64} (H0 : hd_X1_multiplicitySum_4 S RET p (0 : Int32) (0 : Int32) I L) : CT mr_X1_multiplicitySum (0, 0) [.ref p] (S, I, L) RET := by
  refine CT.of (lo := [(0, .ref p)]) (by decide) (fun _ _ => Nat.le_of_ble_eq_true rfl) (fun _ _ => rfl) rfl ?_
  refine V.iconst (v := (0)) dX1_multiplicitySum_0 (by decide) ?_
  refine V.istore_n (lo' := [(1, .int (0 : Int32)), (0, .ref p)]) dX1_multiplicitySum_1 rfl (by decide) rfl ?_
  refine V.iconst (v := (0)) dX1_multiplicitySum_2 (by decide) ?_
  refine V.istore_n (lo' := [(2, .int (0 : Int32)), (1, .int (0 : Int32)), (0, .ref p)]) dX1_multiplicitySum_3 rfl (by decide) rfl ?_
  exact V.los [2, 1, 0] rfl H0
def hd_X1_copyFrom_10 (S : List mjD) (RET : Option Value → mjH → Prop) (a0 : Nat) (a1 : Nat) (x2 : Int32) (I : Nat → Nat → Int32) (L : Nat → Nat → Int64) : Prop := V mr_X1_copyFrom (0, 0) RET 10 [(0, .ref a0), (1, .ref a1), (2, .int x2)] [] (S, I, L) (0, 0)
set_option maxRecDepth 100000 in
set_option maxHeartbeats 4000000 in
theorem it_X1_copyFrom_10 {S : List mjD} {RET : Option Value → mjH → Prop} {a0 : Nat} (h0 : is_Factors S a0) {a1 : Nat} (h1 : is_Factors S a1) {x2 : Int32} {I : Nat → Nat → Int32} {L : Nat → Nat → Int64} (H0 : (((5 : Int32) ≤ x2 → RET none (S, I, L)) ∧ (¬ (5 : Int32) ≤ x2 → (vp_in x2 5) ∧ (vp_in x2 5) ∧ ∃ I11 L12, CTv mr_X5_copyFrom [.ref ((a0 + 1) + 2 + 2 * x2.toNatClampNeg), .ref ((a1 + 1) + 2 + 2 * x2.toNatClampNeg)] S I L I11 L12 ∧ (vp_in x2 5) ∧ (vp_in x2 5) ∧ ∀ y19 : Int32, y19 = x2 + 1 → hd_X1_copyFrom_10 S RET a0 a1 y19 (mj_up I11 (a0 + 2) x2.toNatClampNeg (I11 (a1 + 2) x2.toNatClampNeg)) L12))) : hd_X1_copyFrom_10 S RET a0 a1 x2 I L := by
  unfold hd_X1_copyFrom_10
  refine V.iload_n dX1_copyFrom_10 rfl rfl ?_
  refine V.iconst (v := (5)) dX1_copyFrom_11 (by decide) ?_
  refine V.icmp_ge (tgt := 48) dX1_copyFrom_12 (by decide) (fun c1 => ?_) (fun c1 => ?_)
  · have H2 := H0.1 c1
    exact V.ret rfl (Or.inr (Or.inr (Or.inr ⟨rfl, dX1_copyFrom_48, rfl⟩))) ⟨Nat.le_refl _, Nat.le_refl _⟩ H2
  · have H3 := H0.2 c1
    refine V.aload_n dX1_copyFrom_15 rfl rfl ?_
    refine V.getf (v := .ref (a0 + 1)) dX1_copyFrom_16 fl_X1_11 h0.1 (by decide) rfl ?_
    refine V.iload_n dX1_copyFrom_19 rfl rfl ?_
    obtain ⟨o4, H5⟩ := H3
    refine V.aald (v := .ref ((a0 + 1) + 2 + 2 * x2.toNatClampNeg)) dX1_copyFrom_20 h0.2.1 (Or.inl rfl) o4 (mj_gp o4) ?_
    have f6 : is_Poly S ((a0 + 1) + 2 + 2 * x2.toNatClampNeg) := h0.2.2.2 _ (mj_lt o4)
    refine V.aload_n dX1_copyFrom_21 rfl rfl ?_
    refine V.getf (v := .ref (a1 + 1)) dX1_copyFrom_22 fl_X1_11 h1.1 (by decide) rfl ?_
    refine V.iload_n dX1_copyFrom_25 rfl rfl ?_
    obtain ⟨o7, H8⟩ := H5
    refine V.aald (v := .ref ((a1 + 1) + 2 + 2 * x2.toNatClampNeg)) dX1_copyFrom_26 h1.2.1 (Or.inl rfl) o7 (mj_gp o7) ?_
    have f9 : is_Poly S ((a1 + 1) + 2 + 2 * x2.toNatClampNeg) := h1.2.2.2 _ (mj_lt o7)
    obtain ⟨I11, L12, t13, H14⟩ := H8
    refine V.cVv (N := mr_X5_copyFrom) (as := [.ref ((a1 + 1) + 2 + 2 * x2.toNatClampNeg)]) dX1_copyFrom_27 ml_X1_26 ok_X5_copyFrom okV_X5_copyFrom ⟨Nat.le_of_ble_eq_true rfl, Nat.le_of_ble_eq_true rfl⟩ f6.1 rfl rfl rfl (Nat.le_of_ble_eq_true rfl) t13 ?_
    refine V.aload_n dX1_copyFrom_30 rfl rfl ?_
    refine V.getf (v := .ref (a0 + 2)) dX1_copyFrom_31 fl_X1_17 h0.1 (by decide) rfl ?_
    refine V.iload_n dX1_copyFrom_34 rfl rfl ?_
    refine V.aload_n dX1_copyFrom_35 rfl rfl ?_
    refine V.getf (v := .ref (a1 + 2)) dX1_copyFrom_36 fl_X1_17 h1.1 (by decide) rfl ?_
    refine V.iload_n dX1_copyFrom_39 rfl rfl ?_
    obtain ⟨o15, H16⟩ := H14
    refine V.iald dX1_copyFrom_40 h1.2.2.1 o15 ?_
    obtain ⟨o17, H18⟩ := H16
    refine V.iast dX1_copyFrom_41 h0.2.2.1 o17 ?_
    obtain ⟨y19, e20⟩ : ∃ y : Int32, y = x2 + 1 := ⟨_, rfl⟩
    have H21 := H18 y19 e20
    refine V.iinc (v := y19) (lo' := [(2, .int y19), (0, .ref a0), (1, .ref a1)]) dX1_copyFrom_42 rfl (by rw [e20]; rfl) (by decide) rfl ?_
    refine V.goto (tgt := 10) dX1_copyFrom_45 (by decide) ?_
    exact V.los [1, 2, 0] rfl H21
set_option maxRecDepth 100000 in
set_option maxHeartbeats 4000000 in
theorem wp_X1_copyFrom {S : List mjD} {RET : Option Value → mjH → Prop} {p : Nat} (hp : is_Factors S p) {q : Nat} (hq : is_Factors S q) {I : Nat → Nat → Int32} {L : Nat → Nat → Int64} (H0 : hd_X1_copyFrom_10 S RET p q (0 : Int32) (mj_up I p 2 (I q 2)) L) : CT mr_X1_copyFrom (0, 0) [.ref p, .ref q] (S, I, L) RET := by
  refine CT.of (lo := [(0, .ref p), (1, .ref q)]) (by decide) (fun _ _ => Nat.le_of_ble_eq_true rfl) (fun _ _ => rfl) rfl ?_
  refine V.aload_n dX1_copyFrom_0 rfl rfl ?_
  refine V.aload_n dX1_copyFrom_1 rfl rfl ?_
  refine V.getf (v := .int (I q 2)) dX1_copyFrom_2 fl_X1_22 hq.1 (by decide) rfl ?_
  refine V.puti dX1_copyFrom_5 fl_X1_22 fp_X1_22 (Or.inl rfl) hp.1 (by decide) rfl rfl ?_
  refine V.iconst (v := (0)) dX1_copyFrom_8 (by decide) ?_
  refine V.istore_n (lo' := [(2, .int (0 : Int32)), (0, .ref p), (1, .ref q)]) dX1_copyFrom_9 rfl (by decide) rfl ?_
  exact V.los [1, 2, 0] rfl H0
def hd_X1_insert_21 (S : List mjD) (RET : Option Value → mjH → Prop) (a0 : Nat) (a1 : Nat) (x2 : Int32) (x3 : Int32) (I : Nat → Nat → Int32) (L : Nat → Nat → Int64) : Prop := V mr_X1_insert (0, 0) RET 21 [(0, .ref a0), (1, .ref a1), (2, .int x2), (3, .int x3)] [] (S, I, L) (0, 0)
set_option maxRecDepth 100000 in
set_option maxHeartbeats 4000000 in
theorem it_X1_insert_21 {S : List mjD} {RET : Option Value → mjH → Prop} {a0 : Nat} (h0 : is_Factors S a0) {a1 : Nat} (h1 : is_Poly S a1) {x2 : Int32} {x3 : Int32} {I : Nat → Nat → Int32} {L : Nat → Nat → Int64} (H0 : ((x3 ≤ 0 → (vp_in x3 5) ∧ ∃ I16 L17, CTv mr_X5_copyFrom [.ref ((a0 + 1) + 2 + 2 * x3.toNatClampNeg), .ref a1] S I L I16 L17 ∧ (vp_in x3 5) ∧ RET none (S, mj_up (mj_up I16 (a0 + 2) x3.toNatClampNeg x2) a0 2 (((mj_up I16 (a0 + 2) x3.toNatClampNeg x2) a0 2) + (1 : Int32)), L17)) ∧ (¬ x3 ≤ 0 → (vp_in (x3 - (1 : Int32)) 5) ∧ ∃ r26 I27 L28, CTi mr_X5_order [.ref a1, .ref ((a0 + 1) + 2 + 2 * (x3 - (1 : Int32)).toNatClampNeg)] S I L r26 I27 L28 ∧ ((0 ≤ r26 → (vp_in x3 5) ∧ ∃ I37 L38, CTv mr_X5_copyFrom [.ref ((a0 + 1) + 2 + 2 * x3.toNatClampNeg), .ref a1] S I27 L28 I37 L38 ∧ (vp_in x3 5) ∧ RET none (S, mj_up (mj_up I37 (a0 + 2) x3.toNatClampNeg x2) a0 2 (((mj_up I37 (a0 + 2) x3.toNatClampNeg x2) a0 2) + (1 : Int32)), L38)) ∧ (¬ 0 ≤ r26 → (vp_in x3 5) ∧ (vp_in (x3 - (1 : Int32)) 5) ∧ ∃ I51 L52, CTv mr_X5_copyFrom [.ref ((a0 + 1) + 2 + 2 * x3.toNatClampNeg), .ref ((a0 + 1) + 2 + 2 * (x3 - (1 : Int32)).toNatClampNeg)] S I27 L28 I51 L52 ∧ (vp_in (x3 - (1 : Int32)) 5) ∧ (vp_in x3 5) ∧ ∀ y59 : Int32, y59 = x3 + (-1) → hd_X1_insert_21 S RET a0 a1 x2 y59 (mj_up I51 (a0 + 2) x3.toNatClampNeg (I51 (a0 + 2) (x3 - (1 : Int32)).toNatClampNeg)) L52))))) : hd_X1_insert_21 S RET a0 a1 x2 x3 I L := by
  unfold hd_X1_insert_21
  refine V.iload_n dX1_insert_21 rfl rfl ?_
  refine V.if_le (tgt := 77) dX1_insert_22 (by decide) (fun c10 => ?_) (fun c10 => ?_)
  · have H11 := H0.1 c10
    refine V.aload_n dX1_insert_77 rfl rfl ?_
    refine V.getf (v := .ref (a0 + 1)) dX1_insert_78 fl_X1_11 h0.1 (by decide) rfl ?_
    refine V.iload_n dX1_insert_81 rfl rfl ?_
    obtain ⟨o12, H13⟩ := H11
    refine V.aald (v := .ref ((a0 + 1) + 2 + 2 * x3.toNatClampNeg)) dX1_insert_82 h0.2.1 (Or.inl rfl) o12 (mj_gp o12) ?_
    have f14 : is_Poly S ((a0 + 1) + 2 + 2 * x3.toNatClampNeg) := h0.2.2.2 _ (mj_lt o12)
    refine V.aload_n dX1_insert_83 rfl rfl ?_
    obtain ⟨I16, L17, t18, H19⟩ := H13
    refine V.cVv (N := mr_X5_copyFrom) (as := [.ref a1]) dX1_insert_84 ml_X1_26 ok_X5_copyFrom okV_X5_copyFrom ⟨Nat.le_of_ble_eq_true rfl, Nat.le_of_ble_eq_true rfl⟩ f14.1 rfl rfl rfl (Nat.le_of_ble_eq_true rfl) t18 ?_
    refine V.aload_n dX1_insert_87 rfl rfl ?_
    refine V.getf (v := .ref (a0 + 2)) dX1_insert_88 fl_X1_17 h0.1 (by decide) rfl ?_
    refine V.iload_n dX1_insert_91 rfl rfl ?_
    refine V.iload_n dX1_insert_92 rfl rfl ?_
    obtain ⟨o20, H21⟩ := H19
    refine V.iast dX1_insert_93 h0.2.2.1 o20 ?_
    refine V.aload_n dX1_insert_94 rfl rfl ?_
    refine V.dup dX1_insert_95 rfl ?_
    refine V.getf (v := .int ((mj_up I16 (a0 + 2) x3.toNatClampNeg x2) a0 2)) dX1_insert_96 fl_X1_22 h0.1 (by decide) rfl ?_
    refine V.iconst (v := (1)) dX1_insert_99 (by decide) ?_
    refine V.iadd dX1_insert_100 ?_
    refine V.puti dX1_insert_101 fl_X1_22 fp_X1_22 (Or.inl rfl) h0.1 (by decide) rfl rfl ?_
    exact V.ret rfl (Or.inr (Or.inr (Or.inr ⟨rfl, dX1_insert_104, rfl⟩))) ⟨Nat.le_refl _, Nat.le_refl _⟩ H21
  · have H22 := H0.2 c10
    refine V.aload_n dX1_insert_25 rfl rfl ?_
    refine V.aload_n dX1_insert_26 rfl rfl ?_
    refine V.getf (v := .ref (a0 + 1)) dX1_insert_27 fl_X1_11 h0.1 (by decide) rfl ?_
    refine V.iload_n dX1_insert_30 rfl rfl ?_
    refine V.iconst (v := (1)) dX1_insert_31 (by decide) ?_
    refine V.isub dX1_insert_32 ?_
    obtain ⟨o23, H24⟩ := H22
    refine V.aald (v := .ref ((a0 + 1) + 2 + 2 * (x3 - (1 : Int32)).toNatClampNeg)) dX1_insert_33 h0.2.1 (Or.inl rfl) o23 (mj_gp o23) ?_
    have f25 : is_Poly S ((a0 + 1) + 2 + 2 * (x3 - (1 : Int32)).toNatClampNeg) := h0.2.2.2 _ (mj_lt o23)
    obtain ⟨r26, I27, L28, t29, H30⟩ := H24
    refine V.cVi (N := mr_X5_order) (as := [.ref ((a0 + 1) + 2 + 2 * (x3 - (1 : Int32)).toNatClampNeg)]) dX1_insert_34 ml_X1_30 ok_X5_order okV_X5_order ⟨Nat.le_of_ble_eq_true rfl, Nat.le_of_ble_eq_true rfl⟩ h1.1 rfl rfl rfl (Nat.le_of_ble_eq_true rfl) t29 ?_
    refine V.if_ge (tgt := 77) dX1_insert_37 (by decide) (fun c31 => ?_) (fun c31 => ?_)
    · have H32 := H30.1 c31
      refine V.aload_n dX1_insert_77 rfl rfl ?_
      refine V.getf (v := .ref (a0 + 1)) dX1_insert_78 fl_X1_11 h0.1 (by decide) rfl ?_
      refine V.iload_n dX1_insert_81 rfl rfl ?_
      obtain ⟨o33, H34⟩ := H32
      refine V.aald (v := .ref ((a0 + 1) + 2 + 2 * x3.toNatClampNeg)) dX1_insert_82 h0.2.1 (Or.inl rfl) o33 (mj_gp o33) ?_
      have f35 : is_Poly S ((a0 + 1) + 2 + 2 * x3.toNatClampNeg) := h0.2.2.2 _ (mj_lt o33)
      refine V.aload_n dX1_insert_83 rfl rfl ?_
      obtain ⟨I37, L38, t39, H40⟩ := H34
      refine V.cVv (N := mr_X5_copyFrom) (as := [.ref a1]) dX1_insert_84 ml_X1_26 ok_X5_copyFrom okV_X5_copyFrom ⟨Nat.le_of_ble_eq_true rfl, Nat.le_of_ble_eq_true rfl⟩ f35.1 rfl rfl rfl (Nat.le_of_ble_eq_true rfl) t39 ?_
      refine V.aload_n dX1_insert_87 rfl rfl ?_
      refine V.getf (v := .ref (a0 + 2)) dX1_insert_88 fl_X1_17 h0.1 (by decide) rfl ?_
      refine V.iload_n dX1_insert_91 rfl rfl ?_
      refine V.iload_n dX1_insert_92 rfl rfl ?_
      obtain ⟨o41, H42⟩ := H40
      refine V.iast dX1_insert_93 h0.2.2.1 o41 ?_
      refine V.aload_n dX1_insert_94 rfl rfl ?_
      refine V.dup dX1_insert_95 rfl ?_
      refine V.getf (v := .int ((mj_up I37 (a0 + 2) x3.toNatClampNeg x2) a0 2)) dX1_insert_96 fl_X1_22 h0.1 (by decide) rfl ?_
      refine V.iconst (v := (1)) dX1_insert_99 (by decide) ?_
      refine V.iadd dX1_insert_100 ?_
      refine V.puti dX1_insert_101 fl_X1_22 fp_X1_22 (Or.inl rfl) h0.1 (by decide) rfl rfl ?_
      exact V.ret rfl (Or.inr (Or.inr (Or.inr ⟨rfl, dX1_insert_104, rfl⟩))) ⟨Nat.le_refl _, Nat.le_refl _⟩ H42
    · have H43 := H30.2 c31
      refine V.aload_n dX1_insert_40 rfl rfl ?_
      refine V.getf (v := .ref (a0 + 1)) dX1_insert_41 fl_X1_11 h0.1 (by decide) rfl ?_
      refine V.iload_n dX1_insert_44 rfl rfl ?_
      obtain ⟨o44, H45⟩ := H43
      refine V.aald (v := .ref ((a0 + 1) + 2 + 2 * x3.toNatClampNeg)) dX1_insert_45 h0.2.1 (Or.inl rfl) o44 (mj_gp o44) ?_
      have f46 : is_Poly S ((a0 + 1) + 2 + 2 * x3.toNatClampNeg) := h0.2.2.2 _ (mj_lt o44)
      refine V.aload_n dX1_insert_46 rfl rfl ?_
      refine V.getf (v := .ref (a0 + 1)) dX1_insert_47 fl_X1_11 h0.1 (by decide) rfl ?_
      refine V.iload_n dX1_insert_50 rfl rfl ?_
      refine V.iconst (v := (1)) dX1_insert_51 (by decide) ?_
      refine V.isub dX1_insert_52 ?_
      obtain ⟨o47, H48⟩ := H45
      refine V.aald (v := .ref ((a0 + 1) + 2 + 2 * (x3 - (1 : Int32)).toNatClampNeg)) dX1_insert_53 h0.2.1 (Or.inl rfl) o47 (mj_gp o47) ?_
      have f49 : is_Poly S ((a0 + 1) + 2 + 2 * (x3 - (1 : Int32)).toNatClampNeg) := h0.2.2.2 _ (mj_lt o47)
      obtain ⟨I51, L52, t53, H54⟩ := H48
      refine V.cVv (N := mr_X5_copyFrom) (as := [.ref ((a0 + 1) + 2 + 2 * (x3 - (1 : Int32)).toNatClampNeg)]) dX1_insert_54 ml_X1_26 ok_X5_copyFrom okV_X5_copyFrom ⟨Nat.le_of_ble_eq_true rfl, Nat.le_of_ble_eq_true rfl⟩ f46.1 rfl rfl rfl (Nat.le_of_ble_eq_true rfl) t53 ?_
      refine V.aload_n dX1_insert_57 rfl rfl ?_
      refine V.getf (v := .ref (a0 + 2)) dX1_insert_58 fl_X1_17 h0.1 (by decide) rfl ?_
      refine V.iload_n dX1_insert_61 rfl rfl ?_
      refine V.aload_n dX1_insert_62 rfl rfl ?_
      refine V.getf (v := .ref (a0 + 2)) dX1_insert_63 fl_X1_17 h0.1 (by decide) rfl ?_
      refine V.iload_n dX1_insert_66 rfl rfl ?_
      refine V.iconst (v := (1)) dX1_insert_67 (by decide) ?_
      refine V.isub dX1_insert_68 ?_
      obtain ⟨o55, H56⟩ := H54
      refine V.iald dX1_insert_69 h0.2.2.1 o55 ?_
      obtain ⟨o57, H58⟩ := H56
      refine V.iast dX1_insert_70 h0.2.2.1 o57 ?_
      obtain ⟨y59, e60⟩ : ∃ y : Int32, y = x3 + (-1) := ⟨_, rfl⟩
      have H61 := H58 y59 e60
      refine V.iinc (v := y59) (lo' := [(3, .int y59), (0, .ref a0), (1, .ref a1), (2, .int x2)]) dX1_insert_71 rfl (by rw [e60]; rfl) (by decide) rfl ?_
      refine V.goto (tgt := 21) dX1_insert_74 (by decide) ?_
      exact V.los [1, 2, 3, 0] rfl H61
set_option maxRecDepth 100000 in
set_option maxHeartbeats 4000000 in
theorem wp_X1_insert {S : List mjD} {RET : Option Value → mjH → Prop} {p : Nat} (hp : is_Factors S p) {q : Nat} (hq : is_Poly S q) {a : Int32} {I : Nat → Nat → Int32} {L : Nat → Nat → Int64} (H0 : (((I p 2) < 0 → RET none (S, I, L)) ∧ (¬ (I p 2) < 0 → (((I p 2) < (5 : Int32) → ∀ y6 : Int32, y6 = (I p 2) → hd_X1_insert_21 S RET p q a y6 I L) ∧ (¬ (I p 2) < (5 : Int32) → RET none (S, I, L)))))) : CT mr_X1_insert (0, 0) [.ref p, .ref q, .int a] (S, I, L) RET := by
  refine CT.of (lo := [(0, .ref p), (1, .ref q), (2, .int a)]) (by decide) (fun _ _ => Nat.le_of_ble_eq_true rfl) (fun _ _ => rfl) rfl ?_
  refine V.aload_n dX1_insert_0 rfl rfl ?_
  refine V.getf (v := .int (I p 2)) dX1_insert_1 fl_X1_22 hp.1 (by decide) rfl ?_
  refine V.if_lt (tgt := 15) dX1_insert_4 (by decide) (fun c1 => ?_) (fun c1 => ?_)
  · have H2 := H0.1 c1
    exact V.ret rfl (Or.inr (Or.inr (Or.inr ⟨rfl, dX1_insert_15, rfl⟩))) ⟨Nat.le_refl _, Nat.le_refl _⟩ H2
  · have H3 := H0.2 c1
    refine V.aload_n dX1_insert_7 rfl rfl ?_
    refine V.getf (v := .int (I p 2)) dX1_insert_8 fl_X1_22 hp.1 (by decide) rfl ?_
    refine V.iconst (v := (5)) dX1_insert_11 (by decide) ?_
    refine V.icmp_lt (tgt := 16) dX1_insert_12 (by decide) (fun c4 => ?_) (fun c4 => ?_)
    · have H5 := H3.1 c4
      refine V.aload_n dX1_insert_16 rfl rfl ?_
      refine V.getf (v := .int (I p 2)) dX1_insert_17 fl_X1_22 hp.1 (by decide) rfl ?_
      refine V.topi (fun y6 e7 => ?_)
      have H8 := H5 y6 e7
      refine V.istore_n (lo' := [(3, .int y6), (0, .ref p), (1, .ref q), (2, .int a)]) dX1_insert_20 rfl (by decide) rfl ?_
      exact V.los [1, 2, 3, 0] rfl H8
    · have H9 := H3.2 c4
      exact V.ret rfl (Or.inr (Or.inr (Or.inr ⟨rfl, dX1_insert_15, rfl⟩))) ⟨Nat.le_refl _, Nat.le_refl _⟩ H9
set_option maxRecDepth 100000 in
set_option maxHeartbeats 4000000 in
theorem wp_X6_endTerm {S : List mjD} {RET : Option Value → mjH → Prop} {p : Nat} (hp : is_Reader S p) {I : Nat → Nat → Int32} {L : Nat → Nat → Int64} (H0 : ∃ I2 L3, CTv mr_X5_set [.ref (p + 1), .int (I p 4), .long (((I p 2) * (I p 3)).toInt64)] S I L I2 L3 ∧ RET none (S, mj_up I2 p 5 (I2 p 4), L3)) : CT mr_X6_endTerm (0, 0) [.ref p] (S, I, L) RET := by
  refine CT.of (lo := [(0, .ref p)]) (by decide) (fun _ _ => Nat.le_of_ble_eq_true rfl) (fun _ _ => rfl) rfl ?_
  refine V.aload_n dX6_endTerm_0 rfl rfl ?_
  refine V.getf (v := .ref (p + 1)) dX6_endTerm_1 fl_X6_12 hp.1 (by decide) rfl ?_
  refine V.aload_n dX6_endTerm_4 rfl rfl ?_
  refine V.getf (v := .int (I p 4)) dX6_endTerm_5 fl_X6_48 hp.1 (by decide) rfl ?_
  refine V.aload_n dX6_endTerm_8 rfl rfl ?_
  refine V.getf (v := .int (I p 2)) dX6_endTerm_9 fl_X6_26 hp.1 (by decide) rfl ?_
  refine V.aload_n dX6_endTerm_12 rfl rfl ?_
  refine V.getf (v := .int (I p 3)) dX6_endTerm_13 fl_X6_51 hp.1 (by decide) rfl ?_
  refine V.imul dX6_endTerm_16 ?_
  refine V.i2l dX6_endTerm_17 ?_
  obtain ⟨I2, L3, t4, H5⟩ := H0
  refine V.cVv (N := mr_X5_set) (as := [.int (I p 4), .long (((I p 2) * (I p 3)).toInt64)]) dX6_endTerm_18 ml_X6_54 ok_X5_set okV_X5_set ⟨Nat.le_of_ble_eq_true rfl, Nat.le_of_ble_eq_true rfl⟩ hp.2.1 rfl rfl rfl (Nat.le_of_ble_eq_true rfl) t4 ?_
  refine V.aload_n dX6_endTerm_21 rfl rfl ?_
  refine V.aload_n dX6_endTerm_22 rfl rfl ?_
  refine V.getf (v := .int (I2 p 4)) dX6_endTerm_23 fl_X6_48 hp.1 (by decide) rfl ?_
  refine V.puti dX6_endTerm_26 fl_X6_29 fp_X6_29 (Or.inl rfl) hp.1 (by decide) rfl rfl ?_
  exact V.ret rfl (Or.inr (Or.inr (Or.inr ⟨rfl, dX6_endTerm_29, rfl⟩))) ⟨Nat.le_refl _, Nat.le_refl _⟩ H5
def hd_X1_multiplicityOf_2 (S : List mjD) (RET : Option Value → mjH → Prop) (a0 : Nat) (a1 : Nat) (x2 : Int32) (I : Nat → Nat → Int32) (L : Nat → Nat → Int64) : Prop := V mr_X1_multiplicityOf (0, 0) RET 2 [(0, .ref a0), (1, .ref a1), (2, .int x2)] [] (S, I, L) (0, 0)
set_option maxRecDepth 100000 in
set_option maxHeartbeats 4000000 in
theorem it_X1_multiplicityOf_2 {S : List mjD} {RET : Option Value → mjH → Prop} {a0 : Nat} (h0 : is_Factors S a0) {a1 : Nat} (h1 : is_Poly S a1) {x2 : Int32} {I : Nat → Nat → Int32} {L : Nat → Nat → Int64} (H0 : (((I a0 2) ≤ x2 → RET (some (.int (0 : Int32))) (S, I, L)) ∧ (¬ (I a0 2) ≤ x2 → (((5 : Int32) ≤ x2 → RET (some (.int (0 : Int32))) (S, I, L)) ∧ (¬ (5 : Int32) ≤ x2 → (vp_in x2 5) ∧ ∃ r10 I11 L12, CTi mr_X5_isSame [.ref ((a0 + 1) + 2 + 2 * x2.toNatClampNeg), .ref a1] S I L r10 I11 L12 ∧ ((r10 = 0 → ∀ y17 : Int32, y17 = x2 + 1 → hd_X1_multiplicityOf_2 S RET a0 a1 y17 I11 L12) ∧ (¬ r10 = 0 → (vp_in x2 5) ∧ RET (some (.int (I11 (a0 + 2) x2.toNatClampNeg))) (S, I11, L12)))))))) : hd_X1_multiplicityOf_2 S RET a0 a1 x2 I L := by
  unfold hd_X1_multiplicityOf_2
  refine V.iload_n dX1_multiplicityOf_2 rfl rfl ?_
  refine V.aload_n dX1_multiplicityOf_3 rfl rfl ?_
  refine V.getf (v := .int (I a0 2)) dX1_multiplicityOf_4 fl_X1_22 h0.1 (by decide) rfl ?_
  refine V.icmp_ge (tgt := 41) dX1_multiplicityOf_7 (by decide) (fun c1 => ?_) (fun c1 => ?_)
  · have H2 := H0.1 c1
    refine V.iconst (v := (0)) dX1_multiplicityOf_41 (by decide) ?_
    exact V.ret (v := some (.int (0 : Int32))) rfl (Or.inl ⟨_, rfl, dX1_multiplicityOf_42, _, rfl, rfl⟩) ⟨Nat.le_refl _, Nat.le_refl _⟩ H2
  · have H3 := H0.2 c1
    refine V.iload_n dX1_multiplicityOf_10 rfl rfl ?_
    refine V.iconst (v := (5)) dX1_multiplicityOf_11 (by decide) ?_
    refine V.icmp_ge (tgt := 41) dX1_multiplicityOf_12 (by decide) (fun c4 => ?_) (fun c4 => ?_)
    · have H5 := H3.1 c4
      refine V.iconst (v := (0)) dX1_multiplicityOf_41 (by decide) ?_
      exact V.ret (v := some (.int (0 : Int32))) rfl (Or.inl ⟨_, rfl, dX1_multiplicityOf_42, _, rfl, rfl⟩) ⟨Nat.le_refl _, Nat.le_refl _⟩ H5
    · have H6 := H3.2 c4
      refine V.aload_n dX1_multiplicityOf_15 rfl rfl ?_
      refine V.getf (v := .ref (a0 + 1)) dX1_multiplicityOf_16 fl_X1_11 h0.1 (by decide) rfl ?_
      refine V.iload_n dX1_multiplicityOf_19 rfl rfl ?_
      obtain ⟨o7, H8⟩ := H6
      refine V.aald (v := .ref ((a0 + 1) + 2 + 2 * x2.toNatClampNeg)) dX1_multiplicityOf_20 h0.2.1 (Or.inl rfl) o7 (mj_gp o7) ?_
      have f9 : is_Poly S ((a0 + 1) + 2 + 2 * x2.toNatClampNeg) := h0.2.2.2 _ (mj_lt o7)
      refine V.aload_n dX1_multiplicityOf_21 rfl rfl ?_
      obtain ⟨r10, I11, L12, t13, H14⟩ := H8
      refine V.cVi (N := mr_X5_isSame) (as := [.ref a1]) dX1_multiplicityOf_22 ml_X1_38 ok_X5_isSame okV_X5_isSame ⟨Nat.le_of_ble_eq_true rfl, Nat.le_of_ble_eq_true rfl⟩ f9.1 rfl rfl rfl (Nat.le_of_ble_eq_true rfl) t13 ?_
      refine V.if_eq (tgt := 35) dX1_multiplicityOf_25 (by decide) (fun c15 => ?_) (fun c15 => ?_)
      · have H16 := H14.1 c15
        obtain ⟨y17, e18⟩ : ∃ y : Int32, y = x2 + 1 := ⟨_, rfl⟩
        have H19 := H16 y17 e18
        refine V.iinc (v := y17) (lo' := [(2, .int y17), (0, .ref a0), (1, .ref a1)]) dX1_multiplicityOf_35 rfl (by rw [e18]; rfl) (by decide) rfl ?_
        refine V.goto (tgt := 2) dX1_multiplicityOf_38 (by decide) ?_
        exact V.los [1, 2, 0] rfl H19
      · have H20 := H14.2 c15
        refine V.aload_n dX1_multiplicityOf_28 rfl rfl ?_
        refine V.getf (v := .ref (a0 + 2)) dX1_multiplicityOf_29 fl_X1_17 h0.1 (by decide) rfl ?_
        refine V.iload_n dX1_multiplicityOf_32 rfl rfl ?_
        obtain ⟨o21, H22⟩ := H20
        refine V.iald dX1_multiplicityOf_33 h0.2.2.1 o21 ?_
        exact V.ret (v := some (.int (I11 (a0 + 2) x2.toNatClampNeg))) rfl (Or.inl ⟨_, rfl, dX1_multiplicityOf_34, _, rfl, rfl⟩) ⟨Nat.le_refl _, Nat.le_refl _⟩ H22
set_option maxRecDepth 100000 in
set_option maxHeartbeats 4000000 in
theorem wp_X1_multiplicityOf {S : List mjD} {RET : Option Value → mjH → Prop} {p : Nat} (hp : is_Factors S p) {q : Nat} (hq : is_Poly S q) {I : Nat → Nat → Int32} {L : Nat → Nat → Int64} (H0 : hd_X1_multiplicityOf_2 S RET p q (0 : Int32) I L) : CT mr_X1_multiplicityOf (0, 0) [.ref p, .ref q] (S, I, L) RET := by
  refine CT.of (lo := [(0, .ref p), (1, .ref q)]) (by decide) (fun _ _ => Nat.le_of_ble_eq_true rfl) (fun _ _ => rfl) rfl ?_
  refine V.iconst (v := (0)) dX1_multiplicityOf_0 (by decide) ?_
  refine V.istore_n (lo' := [(2, .int (0 : Int32)), (0, .ref p), (1, .ref q)]) dX1_multiplicityOf_1 rfl (by decide) rfl ?_
  exact V.los [1, 2, 0] rfl H0
set_option maxRecDepth 100000 in
set_option maxHeartbeats 4000000 in
theorem wp_X6_isComplete {S : List mjD} {RET : Option Value → mjH → Prop} {p : Nat} (hp : is_Reader S p) {I : Nat → Nat → Int32} {L : Nat → Nat → Int64} (H0 : (((I p 1) = (2 : Int32) → ∃ I4 L5, CTv mr_X6_endTerm [.ref p] S I L I4 L5 ∧ RET (some (.int (1 : Int32))) (S, I4, L5)) ∧ (¬ (I p 1) = (2 : Int32) → (((I p 1) = (3 : Int32) → ∃ I12 L13, CTv mr_X6_endTerm [.ref p] S I L I12 L13 ∧ RET (some (.int (1 : Int32))) (S, I12, L13)) ∧ (¬ (I p 1) = (3 : Int32) → (((I p 1) = (5 : Int32) → ∃ I20 L21, CTv mr_X6_endTerm [.ref p] S I L I20 L21 ∧ RET (some (.int (1 : Int32))) (S, I20, L21)) ∧ (¬ (I p 1) = (5 : Int32) → RET (some (.int (0 : Int32))) (S, I, L)))))))) : CT mr_X6_isComplete (0, 0) [.ref p] (S, I, L) RET := by
  refine CT.of (lo := [(0, .ref p)]) (by decide) (fun _ _ => Nat.le_of_ble_eq_true rfl) (fun _ _ => rfl) rfl ?_
  refine V.aload_n dX6_isComplete_0 rfl rfl ?_
  refine V.getf (v := .int (I p 1)) dX6_isComplete_1 fl_X6_22 hp.1 (by decide) rfl ?_
  refine V.iconst (v := (2)) dX6_isComplete_4 (by decide) ?_
  refine V.icmp_eq (tgt := 26) dX6_isComplete_5 (by decide) (fun c1 => ?_) (fun c1 => ?_)
  · have H2 := H0.1 c1
    refine V.aload_n dX6_isComplete_26 rfl rfl ?_
    obtain ⟨I4, L5, t6, H7⟩ := H2
    refine V.cVv (N := mr_X6_endTerm) (as := []) dX6_isComplete_27 ml_X6_45 ok_X6_endTerm okV_X6_endTerm ⟨Nat.le_of_ble_eq_true rfl, Nat.le_of_ble_eq_true rfl⟩ hp.1 rfl rfl rfl (Nat.le_of_ble_eq_true rfl) t6 ?_
    refine V.iconst (v := (1)) dX6_isComplete_30 (by decide) ?_
    exact V.ret (v := some (.int (1 : Int32))) rfl (Or.inl ⟨_, rfl, dX6_isComplete_31, _, rfl, (by decide)⟩) ⟨Nat.le_refl _, Nat.le_refl _⟩ H7
  · have H8 := H0.2 c1
    refine V.aload_n dX6_isComplete_8 rfl rfl ?_
    refine V.getf (v := .int (I p 1)) dX6_isComplete_9 fl_X6_22 hp.1 (by decide) rfl ?_
    refine V.iconst (v := (3)) dX6_isComplete_12 (by decide) ?_
    refine V.icmp_eq (tgt := 26) dX6_isComplete_13 (by decide) (fun c9 => ?_) (fun c9 => ?_)
    · have H10 := H8.1 c9
      refine V.aload_n dX6_isComplete_26 rfl rfl ?_
      obtain ⟨I12, L13, t14, H15⟩ := H10
      refine V.cVv (N := mr_X6_endTerm) (as := []) dX6_isComplete_27 ml_X6_45 ok_X6_endTerm okV_X6_endTerm ⟨Nat.le_of_ble_eq_true rfl, Nat.le_of_ble_eq_true rfl⟩ hp.1 rfl rfl rfl (Nat.le_of_ble_eq_true rfl) t14 ?_
      refine V.iconst (v := (1)) dX6_isComplete_30 (by decide) ?_
      exact V.ret (v := some (.int (1 : Int32))) rfl (Or.inl ⟨_, rfl, dX6_isComplete_31, _, rfl, (by decide)⟩) ⟨Nat.le_refl _, Nat.le_refl _⟩ H15
    · have H16 := H8.2 c9
      refine V.aload_n dX6_isComplete_16 rfl rfl ?_
      refine V.getf (v := .int (I p 1)) dX6_isComplete_17 fl_X6_22 hp.1 (by decide) rfl ?_
      refine V.iconst (v := (5)) dX6_isComplete_20 (by decide) ?_
      refine V.icmp_eq (tgt := 26) dX6_isComplete_21 (by decide) (fun c17 => ?_) (fun c17 => ?_)
      · have H18 := H16.1 c17
        refine V.aload_n dX6_isComplete_26 rfl rfl ?_
        obtain ⟨I20, L21, t22, H23⟩ := H18
        refine V.cVv (N := mr_X6_endTerm) (as := []) dX6_isComplete_27 ml_X6_45 ok_X6_endTerm okV_X6_endTerm ⟨Nat.le_of_ble_eq_true rfl, Nat.le_of_ble_eq_true rfl⟩ hp.1 rfl rfl rfl (Nat.le_of_ble_eq_true rfl) t22 ?_
        refine V.iconst (v := (1)) dX6_isComplete_30 (by decide) ?_
        exact V.ret (v := some (.int (1 : Int32))) rfl (Or.inl ⟨_, rfl, dX6_isComplete_31, _, rfl, (by decide)⟩) ⟨Nat.le_refl _, Nat.le_refl _⟩ H23
      · have H24 := H16.2 c17
        refine V.iconst (v := (0)) dX6_isComplete_24 (by decide) ?_
        exact V.ret (v := some (.int (0 : Int32))) rfl (Or.inl ⟨_, rfl, dX6_isComplete_25, _, rfl, (by decide)⟩) ⟨Nat.le_refl _, Nat.le_refl _⟩ H24
set_option maxRecDepth 100000 in
set_option maxHeartbeats 4000000 in
theorem wp_X6_acceptSign {S : List mjD} {RET : Option Value → mjH → Prop} {p : Nat} (hp : is_Reader S p) {a : Int32} {I : Nat → Nat → Int32} {L : Nat → Nat → Int64} (H0 : (((I p 1) = (3 : Int32) → ∃ I4 L5, CTv mr_X6_endTerm [.ref p] S I L I4 L5 ∧ ((¬ a = (45 : Int32) → RET (some (.int (1 : Int32))) (S, mj_up (mj_up I4 p 2 (1 : Int32)) p 1 (1 : Int32), L5)) ∧ (a = (45 : Int32) → RET (some (.int (1 : Int32))) (S, mj_up (mj_up I4 p 2 (-1 : Int32)) p 1 (1 : Int32), L5)))) ∧ (¬ (I p 1) = (3 : Int32) → ((¬ (I p 1) = (5 : Int32) → ((¬ (I p 1) = 0 → RET (some (.int (0 : Int32))) (S, I, L)) ∧ ((I p 1) = 0 → ((¬ a = (43 : Int32) → ((¬ a = (45 : Int32) → RET (some (.int (1 : Int32))) (S, mj_up (mj_up I p 2 (1 : Int32)) p 1 (1 : Int32), L)) ∧ (a = (45 : Int32) → RET (some (.int (1 : Int32))) (S, mj_up (mj_up I p 2 (-1 : Int32)) p 1 (1 : Int32), L)))) ∧ (a = (43 : Int32) → RET (some (.int (0 : Int32))) (S, I, L)))))) ∧ ((I p 1) = (5 : Int32) → ∃ I25 L26, CTv mr_X6_endTerm [.ref p] S I L I25 L26 ∧ ((¬ a = (45 : Int32) → RET (some (.int (1 : Int32))) (S, mj_up (mj_up I25 p 2 (1 : Int32)) p 1 (1 : Int32), L26)) ∧ (a = (45 : Int32) → RET (some (.int (1 : Int32))) (S, mj_up (mj_up I25 p 2 (-1 : Int32)) p 1 (1 : Int32), L26)))))))) : CT mr_X6_acceptSign (0, 0) [.ref p, .int a] (S, I, L) RET := by
  refine CT.of (lo := [(0, .ref p), (1, .int a)]) (by decide) (fun _ _ => Nat.le_of_ble_eq_true rfl) (fun _ _ => rfl) rfl ?_
  refine V.aload_n dX6_acceptSign_0 rfl rfl ?_
  refine V.getf (v := .int (I p 1)) dX6_acceptSign_1 fl_X6_22 hp.1 (by decide) rfl ?_
  refine V.iconst (v := (3)) dX6_acceptSign_4 (by decide) ?_
  refine V.icmp_eq (tgt := 16) dX6_acceptSign_5 (by decide) (fun c1 => ?_) (fun c1 => ?_)
  · have H2 := H0.1 c1
    refine V.iconst (v := (1)) dX6_acceptSign_16 (by decide) ?_
    refine V.goto (tgt := 21) dX6_acceptSign_17 (by decide) ?_
    refine V.istore_n (lo' := [(2, .int (1 : Int32)), (0, .ref p), (1, .int a)]) dX6_acceptSign_21 rfl (by decide) rfl ?_
    refine V.iload_n dX6_acceptSign_22 rfl rfl ?_
    refine V.if_ne (tgt := 41) dX6_acceptSign_23 (by decide) (fun _ => ?_) (fun c => absurd c (by decide))
    refine V.iload_n dX6_acceptSign_41 rfl rfl ?_
    refine V.if_eq (tgt := 49) dX6_acceptSign_42 (by decide) (fun c => absurd c (by decide)) (fun _ => ?_)
    refine V.aload_n dX6_acceptSign_45 rfl rfl ?_
    obtain ⟨I4, L5, t6, H7⟩ := H2
    refine V.cVv (N := mr_X6_endTerm) (as := []) dX6_acceptSign_46 ml_X6_45 ok_X6_endTerm okV_X6_endTerm ⟨Nat.le_of_ble_eq_true rfl, Nat.le_of_ble_eq_true rfl⟩ hp.1 rfl rfl rfl (Nat.le_of_ble_eq_true rfl) t6 ?_
    refine V.aload_n dX6_acceptSign_49 rfl rfl ?_
    refine V.iload_n dX6_acceptSign_50 rfl rfl ?_
    refine V.bipush (v := (45)) dX6_acceptSign_51 (by decide) ?_
    refine V.icmp_ne (tgt := 60) dX6_acceptSign_53 (by decide) (fun c8 => ?_) (fun c8 => ?_)
    · have H9 := H7.1 c8
      refine V.iconst (v := (1)) dX6_acceptSign_60 (by decide) ?_
      refine V.puti dX6_acceptSign_61 fl_X6_26 fp_X6_26 (Or.inl rfl) hp.1 (by decide) rfl rfl ?_
      refine V.aload_n dX6_acceptSign_64 rfl rfl ?_
      refine V.iconst (v := (1)) dX6_acceptSign_65 (by decide) ?_
      refine V.puti dX6_acceptSign_66 fl_X6_22 fp_X6_22 (Or.inl rfl) hp.1 (by decide) rfl rfl ?_
      refine V.iconst (v := (1)) dX6_acceptSign_69 (by decide) ?_
      exact V.ret (v := some (.int (1 : Int32))) rfl (Or.inl ⟨_, rfl, dX6_acceptSign_70, _, rfl, (by decide)⟩) ⟨Nat.le_refl _, Nat.le_refl _⟩ H9
    · have H10 := H7.2 c8
      refine V.iconst (v := (-1)) dX6_acceptSign_56 (by decide) ?_
      refine V.goto (tgt := 61) dX6_acceptSign_57 (by decide) ?_
      refine V.puti dX6_acceptSign_61 fl_X6_26 fp_X6_26 (Or.inl rfl) hp.1 (by decide) rfl rfl ?_
      refine V.aload_n dX6_acceptSign_64 rfl rfl ?_
      refine V.iconst (v := (1)) dX6_acceptSign_65 (by decide) ?_
      refine V.puti dX6_acceptSign_66 fl_X6_22 fp_X6_22 (Or.inl rfl) hp.1 (by decide) rfl rfl ?_
      refine V.iconst (v := (1)) dX6_acceptSign_69 (by decide) ?_
      exact V.ret (v := some (.int (1 : Int32))) rfl (Or.inl ⟨_, rfl, dX6_acceptSign_70, _, rfl, (by decide)⟩) ⟨Nat.le_refl _, Nat.le_refl _⟩ H10
  · have H11 := H0.2 c1
    refine V.aload_n dX6_acceptSign_8 rfl rfl ?_
    refine V.getf (v := .int (I p 1)) dX6_acceptSign_9 fl_X6_22 hp.1 (by decide) rfl ?_
    refine V.iconst (v := (5)) dX6_acceptSign_12 (by decide) ?_
    refine V.icmp_ne (tgt := 20) dX6_acceptSign_13 (by decide) (fun c12 => ?_) (fun c12 => ?_)
    · have H13 := H11.1 c12
      refine V.iconst (v := (0)) dX6_acceptSign_20 (by decide) ?_
      refine V.istore_n (lo' := [(2, .int (0 : Int32)), (0, .ref p), (1, .int a)]) dX6_acceptSign_21 rfl (by decide) rfl ?_
      refine V.iload_n dX6_acceptSign_22 rfl rfl ?_
      refine V.if_ne (tgt := 41) dX6_acceptSign_23 (by decide) (fun c => absurd c (by decide)) (fun _ => ?_)
      refine V.aload_n dX6_acceptSign_26 rfl rfl ?_
      refine V.getf (v := .int (I p 1)) dX6_acceptSign_27 fl_X6_22 hp.1 (by decide) rfl ?_
      refine V.if_ne (tgt := 39) dX6_acceptSign_30 (by decide) (fun c14 => ?_) (fun c14 => ?_)
      · have H15 := H13.1 c14
        refine V.iconst (v := (0)) dX6_acceptSign_39 (by decide) ?_
        exact V.ret (v := some (.int (0 : Int32))) rfl (Or.inl ⟨_, rfl, dX6_acceptSign_40, _, rfl, (by decide)⟩) ⟨Nat.le_refl _, Nat.le_refl _⟩ H15
      · have H16 := H13.2 c14
        refine V.iload_n dX6_acceptSign_33 rfl rfl ?_
        refine V.bipush (v := (43)) dX6_acceptSign_34 (by decide) ?_
        refine V.icmp_ne (tgt := 41) dX6_acceptSign_36 (by decide) (fun c17 => ?_) (fun c17 => ?_)
        · have H18 := H16.1 c17
          refine V.iload_n dX6_acceptSign_41 rfl rfl ?_
          refine V.if_eq (tgt := 49) dX6_acceptSign_42 (by decide) (fun _ => ?_) (fun c => absurd c (by decide))
          refine V.aload_n dX6_acceptSign_49 rfl rfl ?_
          refine V.iload_n dX6_acceptSign_50 rfl rfl ?_
          refine V.bipush (v := (45)) dX6_acceptSign_51 (by decide) ?_
          refine V.icmp_ne (tgt := 60) dX6_acceptSign_53 (by decide) (fun c19 => ?_) (fun c19 => ?_)
          · have H20 := H18.1 c19
            refine V.iconst (v := (1)) dX6_acceptSign_60 (by decide) ?_
            refine V.puti dX6_acceptSign_61 fl_X6_26 fp_X6_26 (Or.inl rfl) hp.1 (by decide) rfl rfl ?_
            refine V.aload_n dX6_acceptSign_64 rfl rfl ?_
            refine V.iconst (v := (1)) dX6_acceptSign_65 (by decide) ?_
            refine V.puti dX6_acceptSign_66 fl_X6_22 fp_X6_22 (Or.inl rfl) hp.1 (by decide) rfl rfl ?_
            refine V.iconst (v := (1)) dX6_acceptSign_69 (by decide) ?_
            exact V.ret (v := some (.int (1 : Int32))) rfl (Or.inl ⟨_, rfl, dX6_acceptSign_70, _, rfl, (by decide)⟩) ⟨Nat.le_refl _, Nat.le_refl _⟩ H20
          · have H21 := H18.2 c19
            refine V.iconst (v := (-1)) dX6_acceptSign_56 (by decide) ?_
            refine V.goto (tgt := 61) dX6_acceptSign_57 (by decide) ?_
            refine V.puti dX6_acceptSign_61 fl_X6_26 fp_X6_26 (Or.inl rfl) hp.1 (by decide) rfl rfl ?_
            refine V.aload_n dX6_acceptSign_64 rfl rfl ?_
            refine V.iconst (v := (1)) dX6_acceptSign_65 (by decide) ?_
            refine V.puti dX6_acceptSign_66 fl_X6_22 fp_X6_22 (Or.inl rfl) hp.1 (by decide) rfl rfl ?_
            refine V.iconst (v := (1)) dX6_acceptSign_69 (by decide) ?_
            exact V.ret (v := some (.int (1 : Int32))) rfl (Or.inl ⟨_, rfl, dX6_acceptSign_70, _, rfl, (by decide)⟩) ⟨Nat.le_refl _, Nat.le_refl _⟩ H21
        · have H22 := H16.2 c17
          refine V.iconst (v := (0)) dX6_acceptSign_39 (by decide) ?_
          exact V.ret (v := some (.int (0 : Int32))) rfl (Or.inl ⟨_, rfl, dX6_acceptSign_40, _, rfl, (by decide)⟩) ⟨Nat.le_refl _, Nat.le_refl _⟩ H22
    · have H23 := H11.2 c12
      refine V.iconst (v := (1)) dX6_acceptSign_16 (by decide) ?_
      refine V.goto (tgt := 21) dX6_acceptSign_17 (by decide) ?_
      refine V.istore_n (lo' := [(2, .int (1 : Int32)), (0, .ref p), (1, .int a)]) dX6_acceptSign_21 rfl (by decide) rfl ?_
      refine V.iload_n dX6_acceptSign_22 rfl rfl ?_
      refine V.if_ne (tgt := 41) dX6_acceptSign_23 (by decide) (fun _ => ?_) (fun c => absurd c (by decide))
      refine V.iload_n dX6_acceptSign_41 rfl rfl ?_
      refine V.if_eq (tgt := 49) dX6_acceptSign_42 (by decide) (fun c => absurd c (by decide)) (fun _ => ?_)
      refine V.aload_n dX6_acceptSign_45 rfl rfl ?_
      obtain ⟨I25, L26, t27, H28⟩ := H23
      refine V.cVv (N := mr_X6_endTerm) (as := []) dX6_acceptSign_46 ml_X6_45 ok_X6_endTerm okV_X6_endTerm ⟨Nat.le_of_ble_eq_true rfl, Nat.le_of_ble_eq_true rfl⟩ hp.1 rfl rfl rfl (Nat.le_of_ble_eq_true rfl) t27 ?_
      refine V.aload_n dX6_acceptSign_49 rfl rfl ?_
      refine V.iload_n dX6_acceptSign_50 rfl rfl ?_
      refine V.bipush (v := (45)) dX6_acceptSign_51 (by decide) ?_
      refine V.icmp_ne (tgt := 60) dX6_acceptSign_53 (by decide) (fun c29 => ?_) (fun c29 => ?_)
      · have H30 := H28.1 c29
        refine V.iconst (v := (1)) dX6_acceptSign_60 (by decide) ?_
        refine V.puti dX6_acceptSign_61 fl_X6_26 fp_X6_26 (Or.inl rfl) hp.1 (by decide) rfl rfl ?_
        refine V.aload_n dX6_acceptSign_64 rfl rfl ?_
        refine V.iconst (v := (1)) dX6_acceptSign_65 (by decide) ?_
        refine V.puti dX6_acceptSign_66 fl_X6_22 fp_X6_22 (Or.inl rfl) hp.1 (by decide) rfl rfl ?_
        refine V.iconst (v := (1)) dX6_acceptSign_69 (by decide) ?_
        exact V.ret (v := some (.int (1 : Int32))) rfl (Or.inl ⟨_, rfl, dX6_acceptSign_70, _, rfl, (by decide)⟩) ⟨Nat.le_refl _, Nat.le_refl _⟩ H30
      · have H31 := H28.2 c29
        refine V.iconst (v := (-1)) dX6_acceptSign_56 (by decide) ?_
        refine V.goto (tgt := 61) dX6_acceptSign_57 (by decide) ?_
        refine V.puti dX6_acceptSign_61 fl_X6_26 fp_X6_26 (Or.inl rfl) hp.1 (by decide) rfl rfl ?_
        refine V.aload_n dX6_acceptSign_64 rfl rfl ?_
        refine V.iconst (v := (1)) dX6_acceptSign_65 (by decide) ?_
        refine V.puti dX6_acceptSign_66 fl_X6_22 fp_X6_22 (Or.inl rfl) hp.1 (by decide) rfl rfl ?_
        refine V.iconst (v := (1)) dX6_acceptSign_69 (by decide) ?_
        exact V.ret (v := some (.int (1 : Int32))) rfl (Or.inl ⟨_, rfl, dX6_acceptSign_70, _, rfl, (by decide)⟩) ⟨Nat.le_refl _, Nat.le_refl _⟩ H31
set_option maxRecDepth 100000 in
set_option maxHeartbeats 4000000 in
theorem wp_X7_copyFrom {S : List mjD} {RET : Option Value → mjH → Prop} {p : Nat} (hp : is_Slot S p) {q : Nat} (hq : is_Slot S q) {I : Nat → Nat → Int32} {L : Nat → Nat → Int64} (H0 : ∃ I2 L3, CTv mr_X5_copyFrom [.ref (p + 1), .ref (q + 1)] S I L I2 L3 ∧ ∃ I7 L8, CTv mr_X1_copyFrom [.ref (p + 3), .ref (q + 3)] S I2 L3 I7 L8 ∧ (((mj_up I7 p 2 (I7 q 2)) q 3) = 0 ∨ ((mj_up I7 p 2 (I7 q 2)) q 3) = 1) ∧ RET none (S, mj_up (mj_up I7 p 2 (I7 q 2)) p 3 ((mj_up I7 p 2 (I7 q 2)) q 3), L8)) : CT mr_X7_copyFrom (0, 0) [.ref p, .ref q] (S, I, L) RET := by
  refine CT.of (lo := [(0, .ref p), (1, .ref q)]) (by decide) (fun _ _ => Nat.le_of_ble_eq_true rfl) (fun _ _ => rfl) rfl ?_
  refine V.aload_n dX7_copyFrom_0 rfl rfl ?_
  refine V.getf (v := .ref (p + 1)) dX7_copyFrom_1 fl_X7_10 hp.1 (by decide) rfl ?_
  refine V.aload_n dX7_copyFrom_4 rfl rfl ?_
  refine V.getf (v := .ref (q + 1)) dX7_copyFrom_5 fl_X7_10 hq.1 (by decide) rfl ?_
  obtain ⟨I2, L3, t4, H5⟩ := H0
  refine V.cVv (N := mr_X5_copyFrom) (as := [.ref (q + 1)]) dX7_copyFrom_8 ml_X7_23 ok_X5_copyFrom okV_X5_copyFrom ⟨Nat.le_of_ble_eq_true rfl, Nat.le_of_ble_eq_true rfl⟩ hp.2.1.1 rfl rfl rfl (Nat.le_of_ble_eq_true rfl) t4 ?_
  refine V.aload_n dX7_copyFrom_11 rfl rfl ?_
  refine V.getf (v := .ref (p + 3)) dX7_copyFrom_12 fl_X7_19 hp.1 (by decide) rfl ?_
  refine V.aload_n dX7_copyFrom_15 rfl rfl ?_
  refine V.getf (v := .ref (q + 3)) dX7_copyFrom_16 fl_X7_19 hq.1 (by decide) rfl ?_
  obtain ⟨I7, L8, t9, H10⟩ := H5
  refine V.cVv (N := mr_X1_copyFrom) (as := [.ref (q + 3)]) dX7_copyFrom_19 ml_X7_27 ok_X1_copyFrom okV_X1_copyFrom ⟨Nat.le_of_ble_eq_true rfl, Nat.le_of_ble_eq_true rfl⟩ hp.2.2.1 rfl rfl rfl (Nat.le_of_ble_eq_true rfl) t9 ?_
  refine V.aload_n dX7_copyFrom_22 rfl rfl ?_
  refine V.aload_n dX7_copyFrom_23 rfl rfl ?_
  refine V.getf (v := .int (I7 q 2)) dX7_copyFrom_24 fl_X7_30 hq.1 (by decide) rfl ?_
  refine V.puti dX7_copyFrom_27 fl_X7_30 fp_X7_30 (Or.inl rfl) hp.1 (by decide) rfl rfl ?_
  refine V.aload_n dX7_copyFrom_30 rfl rfl ?_
  refine V.aload_n dX7_copyFrom_31 rfl rfl ?_
  refine V.getf (v := .int ((mj_up I7 p 2 (I7 q 2)) q 3)) dX7_copyFrom_32 fl_X7_34 hq.1 (by decide) rfl ?_
  obtain ⟨o11, H12⟩ := H10
  refine V.puti dX7_copyFrom_35 fl_X7_34 fp_X7_34 (Or.inr rfl) hp.1 (by decide) (mj_zn o11) (mj_zf o11) ?_
  exact V.ret rfl (Or.inr (Or.inr (Or.inr ⟨rfl, dX7_copyFrom_38, rfl⟩))) ⟨Nat.le_refl _, Nat.le_refl _⟩ H12
set_option maxRecDepth 100000 in
set_option maxHeartbeats 4000000 in
theorem wp_X0_listDivisors {S : List mjD} {RET : Option Value → mjH → Prop} {p : Nat} (hp : is_Factoring S p) {I : Nat → Nat → Int32} {L : Nat → Nat → Int64} (H0 : ∃ r1 I2 L3, CTi mr_X5_degree [.ref (p + 1)] S I L r1 I2 L3 ∧ ∃ r6 I7 L8, CTl mr_X5_at [.ref (p + 1), .int r1] S I2 L3 r6 I7 L8 ∧ ∃ r11 I12 L13, CTi mr_X0_divisors [.long r6, .ref (p + 7)] S I7 L8 r11 I12 L13 ∧ ∃ r16 I17 L18, CTl mr_X5_at [.ref (p + 1), .int (0 : Int32)] S (mj_up I12 p 5 r11) L13 r16 I17 L18 ∧ ∃ r21 I22 L23, CTi mr_X0_divisors [.long r16, .ref (p + 8)] S I17 L18 r21 I22 L23 ∧ RET none (S, mj_up I22 p 6 r21, L23)) : CT mr_X0_listDivisors (0, 0) [.ref p] (S, I, L) RET := by
  refine CT.of (lo := [(0, .ref p)]) (by decide) (fun _ _ => Nat.le_of_ble_eq_true rfl) (fun _ _ => rfl) rfl ?_
  refine V.aload_n dX0_listDivisors_0 rfl rfl ?_
  refine V.aload_n dX0_listDivisors_1 rfl rfl ?_
  refine V.getf (v := .ref (p + 1)) dX0_listDivisors_2 fl_X0_12 hp.1 (by decide) rfl ?_
  refine V.aload_n dX0_listDivisors_5 rfl rfl ?_
  refine V.getf (v := .ref (p + 1)) dX0_listDivisors_6 fl_X0_12 hp.1 (by decide) rfl ?_
  obtain ⟨r1, I2, L3, t4, H5⟩ := H0
  refine V.cVi (N := mr_X5_degree) (as := []) dX0_listDivisors_9 ml_X0_60 ok_X5_degree okV_X5_degree ⟨Nat.le_of_ble_eq_true rfl, Nat.le_of_ble_eq_true rfl⟩ hp.2.1.1 rfl rfl rfl (Nat.le_of_ble_eq_true rfl) t4 ?_
  obtain ⟨r6, I7, L8, t9, H10⟩ := H5
  refine V.cVl (N := mr_X5_at) (as := [.int r1]) dX0_listDivisors_12 ml_X0_89 ok_X5_at okV_X5_at ⟨Nat.le_of_ble_eq_true rfl, Nat.le_of_ble_eq_true rfl⟩ hp.2.1.1 rfl rfl rfl (Nat.le_of_ble_eq_true rfl) t9 ?_
  refine V.aload_n dX0_listDivisors_15 rfl rfl ?_
  refine V.getf (v := .ref (p + 7)) dX0_listDivisors_16 fl_X0_24 hp.1 (by decide) rfl ?_
  obtain ⟨r11, I12, L13, t14, H15⟩ := H10
  refine V.cSi (N := mr_X0_divisors) (as := [.long r6, .ref (p + 7)]) dX0_listDivisors_19 ml_X0_93 ok_X0_divisors okS_X0_divisors ⟨Nat.le_of_ble_eq_true rfl, Nat.le_of_ble_eq_true rfl⟩ rfl rfl (Nat.le_of_ble_eq_true rfl) t14 ?_
  refine V.puti dX0_listDivisors_22 fl_X0_79 fp_X0_79 (Or.inl rfl) hp.1 (by decide) rfl rfl ?_
  refine V.aload_n dX0_listDivisors_25 rfl rfl ?_
  refine V.aload_n dX0_listDivisors_26 rfl rfl ?_
  refine V.getf (v := .ref (p + 1)) dX0_listDivisors_27 fl_X0_12 hp.1 (by decide) rfl ?_
  refine V.iconst (v := (0)) dX0_listDivisors_30 (by decide) ?_
  obtain ⟨r16, I17, L18, t19, H20⟩ := H15
  refine V.cVl (N := mr_X5_at) (as := [.int (0 : Int32)]) dX0_listDivisors_31 ml_X0_89 ok_X5_at okV_X5_at ⟨Nat.le_of_ble_eq_true rfl, Nat.le_of_ble_eq_true rfl⟩ hp.2.1.1 rfl rfl rfl (Nat.le_of_ble_eq_true rfl) t19 ?_
  refine V.aload_n dX0_listDivisors_34 rfl rfl ?_
  refine V.getf (v := .ref (p + 8)) dX0_listDivisors_35 fl_X0_28 hp.1 (by decide) rfl ?_
  obtain ⟨r21, I22, L23, t24, H25⟩ := H20
  refine V.cSi (N := mr_X0_divisors) (as := [.long r16, .ref (p + 8)]) dX0_listDivisors_38 ml_X0_93 ok_X0_divisors okS_X0_divisors ⟨Nat.le_of_ble_eq_true rfl, Nat.le_of_ble_eq_true rfl⟩ rfl rfl (Nat.le_of_ble_eq_true rfl) t24 ?_
  refine V.puti dX0_listDivisors_41 fl_X0_82 fp_X0_82 (Or.inl rfl) hp.1 (by decide) rfl rfl ?_
  exact V.ret rfl (Or.inr (Or.inr (Or.inr ⟨rfl, dX0_listDivisors_44, rfl⟩))) ⟨Nat.le_refl _, Nat.le_refl _⟩ H25
def hd_X1_multiplyEachOnce_7 (S : List mjD) (RET : Option Value → mjH → Prop) (a0 : Nat) (a1 : Nat) (x2 : Int32) (I : Nat → Nat → Int32) (L : Nat → Nat → Int64) : Prop := V mr_X1_multiplyEachOnce (0, 0) RET 7 [(0, .ref a0), (1, .ref a1), (2, .int x2)] [] (S, I, L) (0, 0)
set_option maxRecDepth 100000 in
set_option maxHeartbeats 4000000 in
theorem it_X1_multiplyEachOnce_7 {S : List mjD} {RET : Option Value → mjH → Prop} {a0 : Nat} (h0 : is_Factors S a0) {a1 : Nat} (h1 : is_Poly S a1) {x2 : Int32} {I : Nat → Nat → Int32} {L : Nat → Nat → Int64} (H0 : (((I a0 2) ≤ x2 → RET none (S, I, L)) ∧ (¬ (I a0 2) ≤ x2 → (((5 : Int32) ≤ x2 → RET none (S, I, L)) ∧ (¬ (5 : Int32) ≤ x2 → (vp_in x2 5) ∧ ∃ I16 L17, CTv mr_X5_multiplyBy [.ref a1, .ref ((a0 + 1) + 2 + 2 * x2.toNatClampNeg)] S I L I16 L17 ∧ ∀ y20 : Int32, y20 = x2 + 1 → hd_X1_multiplyEachOnce_7 S RET a0 a1 y20 I16 L17))))) : hd_X1_multiplyEachOnce_7 S RET a0 a1 x2 I L := by
  unfold hd_X1_multiplyEachOnce_7
  refine V.iload_n dX1_multiplyEachOnce_7 rfl rfl ?_
  refine V.aload_n dX1_multiplyEachOnce_8 rfl rfl ?_
  refine V.getf (v := .int (I a0 2)) dX1_multiplyEachOnce_9 fl_X1_22 h0.1 (by decide) rfl ?_
  refine V.icmp_ge (tgt := 36) dX1_multiplyEachOnce_12 (by decide) (fun c6 => ?_) (fun c6 => ?_)
  · have H7 := H0.1 c6
    exact V.ret rfl (Or.inr (Or.inr (Or.inr ⟨rfl, dX1_multiplyEachOnce_36, rfl⟩))) ⟨Nat.le_refl _, Nat.le_refl _⟩ H7
  · have H8 := H0.2 c6
    refine V.iload_n dX1_multiplyEachOnce_15 rfl rfl ?_
    refine V.iconst (v := (5)) dX1_multiplyEachOnce_16 (by decide) ?_
    refine V.icmp_ge (tgt := 36) dX1_multiplyEachOnce_17 (by decide) (fun c9 => ?_) (fun c9 => ?_)
    · have H10 := H8.1 c9
      exact V.ret rfl (Or.inr (Or.inr (Or.inr ⟨rfl, dX1_multiplyEachOnce_36, rfl⟩))) ⟨Nat.le_refl _, Nat.le_refl _⟩ H10
    · have H11 := H8.2 c9
      refine V.aload_n dX1_multiplyEachOnce_20 rfl rfl ?_
      refine V.aload_n dX1_multiplyEachOnce_21 rfl rfl ?_
      refine V.getf (v := .ref (a0 + 1)) dX1_multiplyEachOnce_22 fl_X1_11 h0.1 (by decide) rfl ?_
      refine V.iload_n dX1_multiplyEachOnce_25 rfl rfl ?_
      obtain ⟨o12, H13⟩ := H11
      refine V.aald (v := .ref ((a0 + 1) + 2 + 2 * x2.toNatClampNeg)) dX1_multiplyEachOnce_26 h0.2.1 (Or.inl rfl) o12 (mj_gp o12) ?_
      have f14 : is_Poly S ((a0 + 1) + 2 + 2 * x2.toNatClampNeg) := h0.2.2.2 _ (mj_lt o12)
      obtain ⟨I16, L17, t18, H19⟩ := H13
      refine V.cVv (N := mr_X5_multiplyBy) (as := [.ref ((a0 + 1) + 2 + 2 * x2.toNatClampNeg)]) dX1_multiplyEachOnce_27 ml_X1_46 ok_X5_multiplyBy okV_X5_multiplyBy ⟨Nat.le_of_ble_eq_true rfl, Nat.le_of_ble_eq_true rfl⟩ h1.1 rfl rfl rfl (Nat.le_of_ble_eq_true rfl) t18 ?_
      obtain ⟨y20, e21⟩ : ∃ y : Int32, y = x2 + 1 := ⟨_, rfl⟩
      have H22 := H19 y20 e21
      refine V.iinc (v := y20) (lo' := [(2, .int y20), (0, .ref a0), (1, .ref a1)]) dX1_multiplyEachOnce_30 rfl (by rw [e21]; rfl) (by decide) rfl ?_
      refine V.goto (tgt := 7) dX1_multiplyEachOnce_33 (by decide) ?_
      exact V.los [1, 2, 0] rfl H22
set_option maxRecDepth 100000 in
set_option maxHeartbeats 4000000 in
theorem wp_X1_multiplyEachOnce {S : List mjD} {RET : Option Value → mjH → Prop} {p : Nat} (hp : is_Factors S p) {q : Nat} (hq : is_Poly S q) {I : Nat → Nat → Int32} {L : Nat → Nat → Int64} (H0 : ∃ I2 L3, CTv mr_X5_setConstant [.ref q, .long (1 : Int64)] S I L I2 L3 ∧ hd_X1_multiplyEachOnce_7 S RET p q (0 : Int32) I2 L3) : CT mr_X1_multiplyEachOnce (0, 0) [.ref p, .ref q] (S, I, L) RET := by
  refine CT.of (lo := [(0, .ref p), (1, .ref q)]) (by decide) (fun _ _ => Nat.le_of_ble_eq_true rfl) (fun _ _ => rfl) rfl ?_
  refine V.aload_n dX1_multiplyEachOnce_0 rfl rfl ?_
  refine V.lconst (v := 1) dX1_multiplyEachOnce_1 (by decide) ?_
  obtain ⟨I2, L3, t4, H5⟩ := H0
  refine V.cVv (N := mr_X5_setConstant) (as := [.long (1 : Int64)]) dX1_multiplyEachOnce_2 ml_X1_42 ok_X5_setConstant okV_X5_setConstant ⟨Nat.le_of_ble_eq_true rfl, Nat.le_of_ble_eq_true rfl⟩ hq.1 rfl rfl rfl (Nat.le_of_ble_eq_true rfl) t4 ?_
  refine V.iconst (v := (0)) dX1_multiplyEachOnce_5 (by decide) ?_
  refine V.istore_n (lo' := [(2, .int (0 : Int32)), (0, .ref p), (1, .ref q)]) dX1_multiplyEachOnce_6 rfl (by decide) rfl ?_
  exact V.los [1, 2, 0] rfl H5
def hd_X0_takeOut_2 (S : List mjD) (RET : Option Value → mjH → Prop) (a0 : Nat) (a1 : Nat) (x2 : Int32) (I : Nat → Nat → Int32) (L : Nat → Nat → Int64) : Prop := V mr_X0_takeOut (0, 0) RET 2 [(0, .ref a0), (1, .ref a1), (2, .int x2)] [] (S, I, L) (0, 0)
set_option maxRecDepth 100000 in
set_option maxHeartbeats 4000000 in
theorem it_X0_takeOut_2 {S : List mjD} {RET : Option Value → mjH → Prop} {a0 : Nat} (h0 : is_Factoring S a0) {a1 : Nat} (h1 : is_Factors S a1) {x2 : Int32} {I : Nat → Nat → Int32} {L : Nat → Nat → Int64} (H0 : (((5 : Int32) ≤ x2 → ((x2 ≤ 0 → RET none (S, I, L)) ∧ (¬ x2 ≤ 0 → ∃ I7 L8, CTv mr_X1_insert [.ref a1, .ref (a0 + 3), .int x2] S I L I7 L8 ∧ RET none (S, I7, L8)))) ∧ (¬ (5 : Int32) ≤ x2 → ∃ r12 I13 L14, CTi mr_X5_degree [.ref (a0 + 1)] S I L r12 I13 L14 ∧ ∃ r17 I18 L19, CTi mr_X5_degree [.ref (a0 + 3)] S I13 L14 r17 I18 L19 ∧ ((r12 < r17 → ((x2 ≤ 0 → RET none (S, I18, L19)) ∧ (¬ x2 ≤ 0 → ∃ I28 L29, CTv mr_X1_insert [.ref a1, .ref (a0 + 3), .int x2] S I18 L19 I28 L29 ∧ RET none (S, I28, L29)))) ∧ (¬ r12 < r17 → ∃ r33 I34 L35, CTi mr_X5_becomeQuotient [.ref (a0 + 5), .ref (a0 + 1), .ref (a0 + 3)] S I18 L19 r33 I34 L35 ∧ ((r33 = 0 → ((x2 ≤ 0 → RET none (S, I34, L35)) ∧ (¬ x2 ≤ 0 → ∃ I44 L45, CTv mr_X1_insert [.ref a1, .ref (a0 + 3), .int x2] S I34 L35 I44 L45 ∧ RET none (S, I44, L45)))) ∧ (¬ r33 = 0 → ∃ I50 L51, CTv mr_X5_copyFrom [.ref (a0 + 1), .ref (a0 + 5)] S I34 L35 I50 L51 ∧ ∀ y54 : Int32, y54 = x2 + 1 → hd_X0_takeOut_2 S RET a0 a1 y54 I50 L51))))))) : hd_X0_takeOut_2 S RET a0 a1 x2 I L := by
  unfold hd_X0_takeOut_2
  refine V.iload_n dX0_takeOut_2 rfl rfl ?_
  refine V.iconst (v := (5)) dX0_takeOut_3 (by decide) ?_
  refine V.icmp_ge (tgt := 59) dX0_takeOut_4 (by decide) (fun c1 => ?_) (fun c1 => ?_)
  · have H2 := H0.1 c1
    refine V.iload_n dX0_takeOut_59 rfl rfl ?_
    refine V.if_le (tgt := 72) dX0_takeOut_60 (by decide) (fun c3 => ?_) (fun c3 => ?_)
    · have H4 := H2.1 c3
      exact V.ret rfl (Or.inr (Or.inr (Or.inr ⟨rfl, dX0_takeOut_72, rfl⟩))) ⟨Nat.le_refl _, Nat.le_refl _⟩ H4
    · have H5 := H2.2 c3
      refine V.aload_n dX0_takeOut_63 rfl rfl ?_
      refine V.aload_n dX0_takeOut_64 rfl rfl ?_
      refine V.getf (v := .ref (a0 + 3)) dX0_takeOut_65 fl_X0_18 h0.1 (by decide) rfl ?_
      refine V.iload_n dX0_takeOut_68 rfl rfl ?_
      obtain ⟨I7, L8, t9, H10⟩ := H5
      refine V.cVv (N := mr_X1_insert) (as := [.ref (a0 + 3), .int x2]) dX0_takeOut_69 ml_X0_68 ok_X1_insert okV_X1_insert ⟨Nat.le_of_ble_eq_true rfl, Nat.le_of_ble_eq_true rfl⟩ h1.1 rfl rfl rfl (Nat.le_of_ble_eq_true rfl) t9 ?_
      exact V.ret rfl (Or.inr (Or.inr (Or.inr ⟨rfl, dX0_takeOut_72, rfl⟩))) ⟨Nat.le_refl _, Nat.le_refl _⟩ H10
  · have H11 := H0.2 c1
    refine V.aload_n dX0_takeOut_7 rfl rfl ?_
    refine V.getf (v := .ref (a0 + 1)) dX0_takeOut_8 fl_X0_12 h0.1 (by decide) rfl ?_
    obtain ⟨r12, I13, L14, t15, H16⟩ := H11
    refine V.cVi (N := mr_X5_degree) (as := []) dX0_takeOut_11 ml_X0_60 ok_X5_degree okV_X5_degree ⟨Nat.le_of_ble_eq_true rfl, Nat.le_of_ble_eq_true rfl⟩ h0.2.1.1 rfl rfl rfl (Nat.le_of_ble_eq_true rfl) t15 ?_
    refine V.aload_n dX0_takeOut_14 rfl rfl ?_
    refine V.getf (v := .ref (a0 + 3)) dX0_takeOut_15 fl_X0_18 h0.1 (by decide) rfl ?_
    obtain ⟨r17, I18, L19, t20, H21⟩ := H16
    refine V.cVi (N := mr_X5_degree) (as := []) dX0_takeOut_18 ml_X0_60 ok_X5_degree okV_X5_degree ⟨Nat.le_of_ble_eq_true rfl, Nat.le_of_ble_eq_true rfl⟩ h0.2.2.1.1 rfl rfl rfl (Nat.le_of_ble_eq_true rfl) t20 ?_
    refine V.icmp_lt (tgt := 59) dX0_takeOut_21 (by decide) (fun c22 => ?_) (fun c22 => ?_)
    · have H23 := H21.1 c22
      refine V.iload_n dX0_takeOut_59 rfl rfl ?_
      refine V.if_le (tgt := 72) dX0_takeOut_60 (by decide) (fun c24 => ?_) (fun c24 => ?_)
      · have H25 := H23.1 c24
        exact V.ret rfl (Or.inr (Or.inr (Or.inr ⟨rfl, dX0_takeOut_72, rfl⟩))) ⟨Nat.le_refl _, Nat.le_refl _⟩ H25
      · have H26 := H23.2 c24
        refine V.aload_n dX0_takeOut_63 rfl rfl ?_
        refine V.aload_n dX0_takeOut_64 rfl rfl ?_
        refine V.getf (v := .ref (a0 + 3)) dX0_takeOut_65 fl_X0_18 h0.1 (by decide) rfl ?_
        refine V.iload_n dX0_takeOut_68 rfl rfl ?_
        obtain ⟨I28, L29, t30, H31⟩ := H26
        refine V.cVv (N := mr_X1_insert) (as := [.ref (a0 + 3), .int x2]) dX0_takeOut_69 ml_X0_68 ok_X1_insert okV_X1_insert ⟨Nat.le_of_ble_eq_true rfl, Nat.le_of_ble_eq_true rfl⟩ h1.1 rfl rfl rfl (Nat.le_of_ble_eq_true rfl) t30 ?_
        exact V.ret rfl (Or.inr (Or.inr (Or.inr ⟨rfl, dX0_takeOut_72, rfl⟩))) ⟨Nat.le_refl _, Nat.le_refl _⟩ H31
    · have H32 := H21.2 c22
      refine V.aload_n dX0_takeOut_24 rfl rfl ?_
      refine V.getf (v := .ref (a0 + 5)) dX0_takeOut_25 fl_X0_21 h0.1 (by decide) rfl ?_
      refine V.aload_n dX0_takeOut_28 rfl rfl ?_
      refine V.getf (v := .ref (a0 + 1)) dX0_takeOut_29 fl_X0_12 h0.1 (by decide) rfl ?_
      refine V.aload_n dX0_takeOut_32 rfl rfl ?_
      refine V.getf (v := .ref (a0 + 3)) dX0_takeOut_33 fl_X0_18 h0.1 (by decide) rfl ?_
      obtain ⟨r33, I34, L35, t36, H37⟩ := H32
      refine V.cVi (N := mr_X5_becomeQuotient) (as := [.ref (a0 + 1), .ref (a0 + 3)]) dX0_takeOut_36 ml_X0_72 ok_X5_becomeQuotient okV_X5_becomeQuotient ⟨Nat.le_of_ble_eq_true rfl, Nat.le_of_ble_eq_true rfl⟩ h0.2.2.2.1.1 rfl rfl rfl (Nat.le_of_ble_eq_true rfl) t36 ?_
      refine V.if_eq (tgt := 59) dX0_takeOut_39 (by decide) (fun c38 => ?_) (fun c38 => ?_)
      · have H39 := H37.1 c38
        refine V.iload_n dX0_takeOut_59 rfl rfl ?_
        refine V.if_le (tgt := 72) dX0_takeOut_60 (by decide) (fun c40 => ?_) (fun c40 => ?_)
        · have H41 := H39.1 c40
          exact V.ret rfl (Or.inr (Or.inr (Or.inr ⟨rfl, dX0_takeOut_72, rfl⟩))) ⟨Nat.le_refl _, Nat.le_refl _⟩ H41
        · have H42 := H39.2 c40
          refine V.aload_n dX0_takeOut_63 rfl rfl ?_
          refine V.aload_n dX0_takeOut_64 rfl rfl ?_
          refine V.getf (v := .ref (a0 + 3)) dX0_takeOut_65 fl_X0_18 h0.1 (by decide) rfl ?_
          refine V.iload_n dX0_takeOut_68 rfl rfl ?_
          obtain ⟨I44, L45, t46, H47⟩ := H42
          refine V.cVv (N := mr_X1_insert) (as := [.ref (a0 + 3), .int x2]) dX0_takeOut_69 ml_X0_68 ok_X1_insert okV_X1_insert ⟨Nat.le_of_ble_eq_true rfl, Nat.le_of_ble_eq_true rfl⟩ h1.1 rfl rfl rfl (Nat.le_of_ble_eq_true rfl) t46 ?_
          exact V.ret rfl (Or.inr (Or.inr (Or.inr ⟨rfl, dX0_takeOut_72, rfl⟩))) ⟨Nat.le_refl _, Nat.le_refl _⟩ H47
      · have H48 := H37.2 c38
        refine V.aload_n dX0_takeOut_42 rfl rfl ?_
        refine V.getf (v := .ref (a0 + 1)) dX0_takeOut_43 fl_X0_12 h0.1 (by decide) rfl ?_
        refine V.aload_n dX0_takeOut_46 rfl rfl ?_
        refine V.getf (v := .ref (a0 + 5)) dX0_takeOut_47 fl_X0_21 h0.1 (by decide) rfl ?_
        obtain ⟨I50, L51, t52, H53⟩ := H48
        refine V.cVv (N := mr_X5_copyFrom) (as := [.ref (a0 + 5)]) dX0_takeOut_50 ml_X0_37 ok_X5_copyFrom okV_X5_copyFrom ⟨Nat.le_of_ble_eq_true rfl, Nat.le_of_ble_eq_true rfl⟩ h0.2.1.1 rfl rfl rfl (Nat.le_of_ble_eq_true rfl) t52 ?_
        obtain ⟨y54, e55⟩ : ∃ y : Int32, y = x2 + 1 := ⟨_, rfl⟩
        have H56 := H53 y54 e55
        refine V.iinc (v := y54) (lo' := [(2, .int y54), (0, .ref a0), (1, .ref a1)]) dX0_takeOut_53 rfl (by rw [e55]; rfl) (by decide) rfl ?_
        refine V.goto (tgt := 2) dX0_takeOut_56 (by decide) ?_
        exact V.los [1, 2, 0] rfl H56
set_option maxRecDepth 100000 in
set_option maxHeartbeats 4000000 in
theorem wp_X0_takeOut {S : List mjD} {RET : Option Value → mjH → Prop} {p : Nat} (hp : is_Factoring S p) {q : Nat} (hq : is_Factors S q) {I : Nat → Nat → Int32} {L : Nat → Nat → Int64} (H0 : hd_X0_takeOut_2 S RET p q (0 : Int32) I L) : CT mr_X0_takeOut (0, 0) [.ref p, .ref q] (S, I, L) RET := by
  refine CT.of (lo := [(0, .ref p), (1, .ref q)]) (by decide) (fun _ _ => Nat.le_of_ble_eq_true rfl) (fun _ _ => rfl) rfl ?_
  refine V.iconst (v := (0)) dX0_takeOut_0 (by decide) ?_
  refine V.istore_n (lo' := [(2, .int (0 : Int32)), (0, .ref p), (1, .ref q)]) dX0_takeOut_1 rfl (by decide) rfl ?_
  exact V.los [1, 2, 0] rfl H0
def hd_X0_findMiddle_175 (S : List mjD) (RET : Option Value → mjH → Prop) (a0 : Nat) (x1 : Int64) (x3 : Int64) (x10 : Int64) (x12 : Int64) (x16 : Int64) (x18 : Int32) (I : Nat → Nat → Int32) (L : Nat → Nat → Int64) : Prop := V mr_X0_findMiddle (0, 0) RET 175 [(0, .ref a0), (1, .long x1), (3, .long x3), (10, .long x10), (12, .long x12), (16, .long x16), (18, .int x18)] [] (S, I, L) (0, 0)
set_option maxRecDepth 100000 in
set_option maxHeartbeats 4000000 in
theorem it_X0_findMiddle_175 {S : List mjD} {RET : Option Value → mjH → Prop} {a0 : Nat} (h0 : is_Factoring S a0) {x1 : Int64} {x3 : Int64} {x10 : Int64} {x12 : Int64} {x16 : Int64} {x18 : Int32} {I : Nat → Nat → Int32} {L : Nat → Nat → Int64} (H0 : (((1 : Int32) < x18 → RET (some (.int (0 : Int32))) (S, I, L)) ∧ (¬ (1 : Int32) < x18 → ((x16 = (-1 : Int64) → RET (some (.int (0 : Int32))) (S, I, L)) ∧ (¬ x16 = (-1 : Int64) → ((x10 = (0 : Int64) → RET (some (.int (0 : Int32))) (S, I, L)) ∧ (¬ x10 = (0 : Int64) → (¬ ((2 : Int64) * x10) = 0) ∧ ∀ y96 : Int64, y96 = (((x18.toInt64 * x16) - x12) / ((2 : Int64) * x10)) → ∃ I100 L101, CTv mr_X5_setQuadratic [.ref (a0 + 3), .long x1, .long y96, .long x3] S I L I100 L101 ∧ ∃ r104 I105 L106, CTl mr_J9_abs_067f4 [.long y96] S I100 L101 r104 I105 L106 ∧ (((4895 : Int64) < r104 → ∀ y111 : Int32, y111 = x18 + 2 → hd_X0_findMiddle_175 S RET a0 x1 x3 x10 x12 x16 y111 I105 L106) ∧ (¬ (4895 : Int64) < r104 → ∃ r115 I116 L117, CTi mr_X5_becomeQuotient [.ref (a0 + 5), .ref (a0 + 1), .ref (a0 + 3)] S I105 L106 r115 I116 L117 ∧ ((r115 = 0 → ∀ y122 : Int32, y122 = x18 + 2 → hd_X0_findMiddle_175 S RET a0 x1 x3 x10 x12 x16 y122 I116 L117) ∧ (¬ r115 = 0 → RET (some (.int (1 : Int32))) (S, I116, L117)))))))))))) : hd_X0_findMiddle_175 S RET a0 x1 x3 x10 x12 x16 x18 I L := by
  unfold hd_X0_findMiddle_175
  refine V.iload dX0_findMiddle_175 rfl ?_
  refine V.iconst (v := (1)) dX0_findMiddle_177 (by decide) ?_
  refine V.icmp_gt (tgt := 264) dX0_findMiddle_178 (by decide) (fun c85 => ?_) (fun c85 => ?_)
  · have H86 := H0.1 c85
    refine V.iconst (v := (0)) dX0_findMiddle_264 (by decide) ?_
    exact V.ret (v := some (.int (0 : Int32))) rfl (Or.inl ⟨_, rfl, dX0_findMiddle_265, _, rfl, (by decide)⟩) ⟨Nat.le_refl _, Nat.le_refl _⟩ H86
  · have H87 := H0.2 c85
    refine V.lload dX0_findMiddle_181 rfl ?_
    refine V.ldc2 kc_X0_111 dX0_findMiddle_183 ?_
    refine V.lc_eq (tgt := 264) dX0_findMiddle_186 dX0_findMiddle_187 (by decide) (fun c88 => ?_) (fun c88 => ?_)
    · have H89 := H87.1 c88
      refine V.iconst (v := (0)) dX0_findMiddle_264 (by decide) ?_
      exact V.ret (v := some (.int (0 : Int32))) rfl (Or.inl ⟨_, rfl, dX0_findMiddle_265, _, rfl, (by decide)⟩) ⟨Nat.le_refl _, Nat.le_refl _⟩ H89
    · have H90 := H87.2 c88
      refine V.lload dX0_findMiddle_190 rfl ?_
      refine V.lconst (v := 0) dX0_findMiddle_192 (by decide) ?_
      refine V.lc_eq (tgt := 264) dX0_findMiddle_193 dX0_findMiddle_194 (by decide) (fun c91 => ?_) (fun c91 => ?_)
      · have H92 := H90.1 c91
        refine V.iconst (v := (0)) dX0_findMiddle_264 (by decide) ?_
        exact V.ret (v := some (.int (0 : Int32))) rfl (Or.inl ⟨_, rfl, dX0_findMiddle_265, _, rfl, (by decide)⟩) ⟨Nat.le_refl _, Nat.le_refl _⟩ H92
      · have H93 := H90.2 c91
        refine V.iload dX0_findMiddle_197 rfl ?_
        refine V.i2l dX0_findMiddle_199 ?_
        refine V.lload dX0_findMiddle_200 rfl ?_
        refine V.lmul dX0_findMiddle_202 ?_
        refine V.lload dX0_findMiddle_203 rfl ?_
        refine V.lsub dX0_findMiddle_205 ?_
        refine V.ldc2 kc_X0_113 dX0_findMiddle_206 ?_
        refine V.lload dX0_findMiddle_209 rfl ?_
        refine V.lmul dX0_findMiddle_211 ?_
        obtain ⟨o94, H95⟩ := H93
        refine V.ldiv dX0_findMiddle_212 o94 ?_
        refine V.topl (fun y96 e97 => ?_)
        have H98 := H95 y96 e97
        refine V.lstore (lo' := [(19, .long y96), (0, .ref a0), (1, .long x1), (3, .long x3), (10, .long x10), (12, .long x12), (16, .long x16), (18, .int x18)]) dX0_findMiddle_213 (by decide) rfl ?_
        refine V.aload_n dX0_findMiddle_215 rfl rfl ?_
        refine V.getf (v := .ref (a0 + 3)) dX0_findMiddle_216 fl_X0_18 h0.1 (by decide) rfl ?_
        refine V.lload_n dX0_findMiddle_219 rfl rfl ?_
        refine V.lload dX0_findMiddle_220 rfl ?_
        refine V.lload_n dX0_findMiddle_222 rfl rfl ?_
        obtain ⟨I100, L101, t102, H103⟩ := H98
        refine V.cVv (N := mr_X5_setQuadratic) (as := [.long x1, .long y96, .long x3]) dX0_findMiddle_223 ml_X0_49 ok_X5_setQuadratic okV_X5_setQuadratic ⟨Nat.le_of_ble_eq_true rfl, Nat.le_of_ble_eq_true rfl⟩ h0.2.2.1.1 rfl rfl rfl (Nat.le_of_ble_eq_true rfl) t102 ?_
        refine V.lload dX0_findMiddle_226 rfl ?_
        obtain ⟨r104, I105, L106, t107, H108⟩ := H103
        refine V.cSl (N := mr_J9_abs_067f4) (as := [.long y96]) dX0_findMiddle_228 ml_X0_97 ok_J9_abs_067f4 okS_J9_abs_067f4 ⟨Nat.le_of_ble_eq_true rfl, Nat.le_of_ble_eq_true rfl⟩ rfl rfl (Nat.le_of_ble_eq_true rfl) t107 ?_
        refine V.ldc2 kc_X0_115 dX0_findMiddle_231 ?_
        refine V.lc_gt (tgt := 258) dX0_findMiddle_234 dX0_findMiddle_235 (by decide) (fun c109 => ?_) (fun c109 => ?_)
        · have H110 := H108.1 c109
          obtain ⟨y111, e112⟩ : ∃ y : Int32, y = x18 + 2 := ⟨_, rfl⟩
          have H113 := H110 y111 e112
          refine V.iinc (v := y111) (lo' := [(18, .int y111), (19, .long y96), (0, .ref a0), (1, .long x1), (3, .long x3), (10, .long x10), (12, .long x12), (16, .long x16)]) dX0_findMiddle_258 rfl (by rw [e112]; rfl) (by decide) rfl ?_
          refine V.goto (tgt := 175) dX0_findMiddle_261 (by decide) ?_
          exact V.los [2, 3, 4, 5, 6, 7, 0] rfl H113
        · have H114 := H108.2 c109
          refine V.aload_n dX0_findMiddle_238 rfl rfl ?_
          refine V.getf (v := .ref (a0 + 5)) dX0_findMiddle_239 fl_X0_21 h0.1 (by decide) rfl ?_
          refine V.aload_n dX0_findMiddle_242 rfl rfl ?_
          refine V.getf (v := .ref (a0 + 1)) dX0_findMiddle_243 fl_X0_12 h0.1 (by decide) rfl ?_
          refine V.aload_n dX0_findMiddle_246 rfl rfl ?_
          refine V.getf (v := .ref (a0 + 3)) dX0_findMiddle_247 fl_X0_18 h0.1 (by decide) rfl ?_
          obtain ⟨r115, I116, L117, t118, H119⟩ := H114
          refine V.cVi (N := mr_X5_becomeQuotient) (as := [.ref (a0 + 1), .ref (a0 + 3)]) dX0_findMiddle_250 ml_X0_72 ok_X5_becomeQuotient okV_X5_becomeQuotient ⟨Nat.le_of_ble_eq_true rfl, Nat.le_of_ble_eq_true rfl⟩ h0.2.2.2.1.1 rfl rfl rfl (Nat.le_of_ble_eq_true rfl) t118 ?_
          refine V.if_eq (tgt := 258) dX0_findMiddle_253 (by decide) (fun c120 => ?_) (fun c120 => ?_)
          · have H121 := H119.1 c120
            obtain ⟨y122, e123⟩ : ∃ y : Int32, y = x18 + 2 := ⟨_, rfl⟩
            have H124 := H121 y122 e123
            refine V.iinc (v := y122) (lo' := [(18, .int y122), (19, .long y96), (0, .ref a0), (1, .long x1), (3, .long x3), (10, .long x10), (12, .long x12), (16, .long x16)]) dX0_findMiddle_258 rfl (by rw [e123]; rfl) (by decide) rfl ?_
            refine V.goto (tgt := 175) dX0_findMiddle_261 (by decide) ?_
            exact V.los [2, 3, 4, 5, 6, 7, 0] rfl H124
          · have H125 := H119.2 c120
            refine V.iconst (v := (1)) dX0_findMiddle_256 (by decide) ?_
            exact V.ret (v := some (.int (1 : Int32))) rfl (Or.inl ⟨_, rfl, dX0_findMiddle_257, _, rfl, (by decide)⟩) ⟨Nat.le_refl _, Nat.le_refl _⟩ H125
set_option maxRecDepth 100000 in
set_option maxHeartbeats 4000000 in
theorem wp_X0_findMiddle {S : List mjD} {RET : Option Value → mjH → Prop} {p : Nat} (hp : is_Factoring S p) {a : Int64} {b : Int64} {I : Nat → Nat → Int32} {L : Nat → Nat → Int64} (H0 : ∃ r1 I2 L3, CTi mr_X5_degree [.ref (p + 1)] S I L r1 I2 L3 ∧ ((a = (0 : Int64) → RET (some (.int (0 : Int32))) (S, I2, L3)) ∧ (¬ a = (0 : Int64) → ((¬ b = (0 : Int64) → ∃ r11 I12 L13, CTl mr_X5_at [.ref (p + 1), .int r1] S I2 L3 r11 I12 L13 ∧ (¬ a = 0) ∧ ∀ y18 : Int64, y18 = (r11 / a) → ∃ r21 I22 L23, CTl mr_X5_at [.ref (p + 1), .int (0 : Int32)] S I12 L13 r21 I22 L23 ∧ (¬ b = 0) ∧ ∀ y28 : Int64, y28 = (r21 / b) → ((¬ r1 = (4 : Int32) → ∀ y33 : Int64, y33 = ((-b) * y18) → ∃ r36 I37 L38, CTl mr_X5_at [.ref (p + 1), .int (4 : Int32)] S I22 L23 r36 I37 L38 ∧ ∀ y41 : Int64, y41 = ((b * r36) - ((a * a) * y28)) → ∃ r44 I45 L46, CTl mr_X5_at [.ref (p + 1), .int (1 : Int32)] S I37 L38 r44 I45 L46 ∧ ∃ r49 I50 L51, CTl mr_X5_at [.ref (p + 1), .int (3 : Int32)] S I45 L46 r49 I50 L51 ∧ ∀ y54 : Int64, y54 = (a * (((a * r44) + ((b * b) * y18)) - (b * r49))) → ∃ r57 I58 L59, CTl mr_X0_squareRoot [.long ((y41 * y41) - (((4 : Int64) * y33) * y54))] S I50 L51 r57 I58 L59 ∧ hd_X0_findMiddle_175 S RET p a b y33 y41 r57 (-1 : Int32) I58 L59) ∧ (r1 = (4 : Int32) → ∀ y63 : Int64, y63 = (-y18) → ∃ r66 I67 L68, CTl mr_X5_at [.ref (p + 1), .int (3 : Int32)] S I22 L23 r66 I67 L68 ∧ ∃ r71 I72 L73, CTl mr_X5_at [.ref (p + 1), .int (2 : Int32)] S I67 L68 r71 I72 L73 ∧ ∀ y76 : Int64, y76 = (a * (((a * y28) + (b * y18)) - r71)) → ∃ r79 I80 L81, CTl mr_X0_squareRoot [.long ((r66 * r66) - (((4 : Int64) * y63) * y76))] S I72 L73 r79 I80 L81 ∧ hd_X0_findMiddle_175 S RET p a b y63 r66 r79 (-1 : Int32) I80 L81))) ∧ (b = (0 : Int64) → RET (some (.int (0 : Int32))) (S, I2, L3)))))) : CT mr_X0_findMiddle (0, 0) [.ref p, .long a, .long b] (S, I, L) RET := by
  refine CT.of (lo := [(0, .ref p), (1, .long a), (3, .long b)]) (by decide) (fun _ _ => Nat.le_of_ble_eq_true rfl) (fun _ _ => rfl) rfl ?_
  refine V.aload_n dX0_findMiddle_0 rfl rfl ?_
  refine V.getf (v := .ref (p + 1)) dX0_findMiddle_1 fl_X0_12 hp.1 (by decide) rfl ?_
  obtain ⟨r1, I2, L3, t4, H5⟩ := H0
  refine V.cVi (N := mr_X5_degree) (as := []) dX0_findMiddle_4 ml_X0_60 ok_X5_degree okV_X5_degree ⟨Nat.le_of_ble_eq_true rfl, Nat.le_of_ble_eq_true rfl⟩ hp.2.1.1 rfl rfl rfl (Nat.le_of_ble_eq_true rfl) t4 ?_
  refine V.istore (lo' := [(5, .int r1), (0, .ref p), (1, .long a), (3, .long b)]) dX0_findMiddle_7 (by decide) rfl ?_
  refine V.lload_n dX0_findMiddle_9 rfl rfl ?_
  refine V.lconst (v := 0) dX0_findMiddle_10 (by decide) ?_
  refine V.lc_eq (tgt := 21) dX0_findMiddle_11 dX0_findMiddle_12 (by decide) (fun c6 => ?_) (fun c6 => ?_)
  · have H7 := H5.1 c6
    refine V.iconst (v := (0)) dX0_findMiddle_21 (by decide) ?_
    exact V.ret (v := some (.int (0 : Int32))) rfl (Or.inl ⟨_, rfl, dX0_findMiddle_22, _, rfl, (by decide)⟩) ⟨Nat.le_refl _, Nat.le_refl _⟩ H7
  · have H8 := H5.2 c6
    refine V.lload_n dX0_findMiddle_15 rfl rfl ?_
    refine V.lconst (v := 0) dX0_findMiddle_16 (by decide) ?_
    refine V.lc_ne (tgt := 23) dX0_findMiddle_17 dX0_findMiddle_18 (by decide) (fun c9 => ?_) (fun c9 => ?_)
    · have H10 := H8.1 c9
      refine V.aload_n dX0_findMiddle_23 rfl rfl ?_
      refine V.getf (v := .ref (p + 1)) dX0_findMiddle_24 fl_X0_12 hp.1 (by decide) rfl ?_
      refine V.iload dX0_findMiddle_27 rfl ?_
      obtain ⟨r11, I12, L13, t14, H15⟩ := H10
      refine V.cVl (N := mr_X5_at) (as := [.int r1]) dX0_findMiddle_29 ml_X0_89 ok_X5_at okV_X5_at ⟨Nat.le_of_ble_eq_true rfl, Nat.le_of_ble_eq_true rfl⟩ hp.2.1.1 rfl rfl rfl (Nat.le_of_ble_eq_true rfl) t14 ?_
      refine V.lload_n dX0_findMiddle_32 rfl rfl ?_
      obtain ⟨o16, H17⟩ := H15
      refine V.ldiv dX0_findMiddle_33 o16 ?_
      refine V.topl (fun y18 e19 => ?_)
      have H20 := H17 y18 e19
      refine V.lstore (lo' := [(6, .long y18), (5, .int r1), (0, .ref p), (1, .long a), (3, .long b)]) dX0_findMiddle_34 (by decide) rfl ?_
      refine V.aload_n dX0_findMiddle_36 rfl rfl ?_
      refine V.getf (v := .ref (p + 1)) dX0_findMiddle_37 fl_X0_12 hp.1 (by decide) rfl ?_
      refine V.iconst (v := (0)) dX0_findMiddle_40 (by decide) ?_
      obtain ⟨r21, I22, L23, t24, H25⟩ := H20
      refine V.cVl (N := mr_X5_at) (as := [.int (0 : Int32)]) dX0_findMiddle_41 ml_X0_89 ok_X5_at okV_X5_at ⟨Nat.le_of_ble_eq_true rfl, Nat.le_of_ble_eq_true rfl⟩ hp.2.1.1 rfl rfl rfl (Nat.le_of_ble_eq_true rfl) t24 ?_
      refine V.lload_n dX0_findMiddle_44 rfl rfl ?_
      obtain ⟨o26, H27⟩ := H25
      refine V.ldiv dX0_findMiddle_45 o26 ?_
      refine V.topl (fun y28 e29 => ?_)
      have H30 := H27 y28 e29
      refine V.lstore (lo' := [(8, .long y28), (6, .long y18), (5, .int r1), (0, .ref p), (1, .long a), (3, .long b)]) dX0_findMiddle_46 (by decide) rfl ?_
      refine V.iload dX0_findMiddle_48 rfl ?_
      refine V.iconst (v := (4)) dX0_findMiddle_50 (by decide) ?_
      refine V.icmp_ne (tgt := 94) dX0_findMiddle_51 (by decide) (fun c31 => ?_) (fun c31 => ?_)
      · have H32 := H30.1 c31
        refine V.lload_n dX0_findMiddle_94 rfl rfl ?_
        refine V.lneg dX0_findMiddle_95 ?_
        refine V.lload dX0_findMiddle_96 rfl ?_
        refine V.lmul dX0_findMiddle_98 ?_
        refine V.topl (fun y33 e34 => ?_)
        have H35 := H32 y33 e34
        refine V.lstore (lo' := [(10, .long y33), (8, .long y28), (6, .long y18), (5, .int r1), (0, .ref p), (1, .long a), (3, .long b)]) dX0_findMiddle_99 (by decide) rfl ?_
        refine V.lload_n dX0_findMiddle_101 rfl rfl ?_
        refine V.aload_n dX0_findMiddle_102 rfl rfl ?_
        refine V.getf (v := .ref (p + 1)) dX0_findMiddle_103 fl_X0_12 hp.1 (by decide) rfl ?_
        refine V.iconst (v := (4)) dX0_findMiddle_106 (by decide) ?_
        obtain ⟨r36, I37, L38, t39, H40⟩ := H35
        refine V.cVl (N := mr_X5_at) (as := [.int (4 : Int32)]) dX0_findMiddle_107 ml_X0_89 ok_X5_at okV_X5_at ⟨Nat.le_of_ble_eq_true rfl, Nat.le_of_ble_eq_true rfl⟩ hp.2.1.1 rfl rfl rfl (Nat.le_of_ble_eq_true rfl) t39 ?_
        refine V.lmul dX0_findMiddle_110 ?_
        refine V.lload_n dX0_findMiddle_111 rfl rfl ?_
        refine V.lload_n dX0_findMiddle_112 rfl rfl ?_
        refine V.lmul dX0_findMiddle_113 ?_
        refine V.lload dX0_findMiddle_114 rfl ?_
        refine V.lmul dX0_findMiddle_116 ?_
        refine V.lsub dX0_findMiddle_117 ?_
        refine V.topl (fun y41 e42 => ?_)
        have H43 := H40 y41 e42
        refine V.lstore (lo' := [(12, .long y41), (10, .long y33), (8, .long y28), (6, .long y18), (5, .int r1), (0, .ref p), (1, .long a), (3, .long b)]) dX0_findMiddle_118 (by decide) rfl ?_
        refine V.lload_n dX0_findMiddle_120 rfl rfl ?_
        refine V.lload_n dX0_findMiddle_121 rfl rfl ?_
        refine V.aload_n dX0_findMiddle_122 rfl rfl ?_
        refine V.getf (v := .ref (p + 1)) dX0_findMiddle_123 fl_X0_12 hp.1 (by decide) rfl ?_
        refine V.iconst (v := (1)) dX0_findMiddle_126 (by decide) ?_
        obtain ⟨r44, I45, L46, t47, H48⟩ := H43
        refine V.cVl (N := mr_X5_at) (as := [.int (1 : Int32)]) dX0_findMiddle_127 ml_X0_89 ok_X5_at okV_X5_at ⟨Nat.le_of_ble_eq_true rfl, Nat.le_of_ble_eq_true rfl⟩ hp.2.1.1 rfl rfl rfl (Nat.le_of_ble_eq_true rfl) t47 ?_
        refine V.lmul dX0_findMiddle_130 ?_
        refine V.lload_n dX0_findMiddle_131 rfl rfl ?_
        refine V.lload_n dX0_findMiddle_132 rfl rfl ?_
        refine V.lmul dX0_findMiddle_133 ?_
        refine V.lload dX0_findMiddle_134 rfl ?_
        refine V.lmul dX0_findMiddle_136 ?_
        refine V.ladd dX0_findMiddle_137 ?_
        refine V.lload_n dX0_findMiddle_138 rfl rfl ?_
        refine V.aload_n dX0_findMiddle_139 rfl rfl ?_
        refine V.getf (v := .ref (p + 1)) dX0_findMiddle_140 fl_X0_12 hp.1 (by decide) rfl ?_
        refine V.iconst (v := (3)) dX0_findMiddle_143 (by decide) ?_
        obtain ⟨r49, I50, L51, t52, H53⟩ := H48
        refine V.cVl (N := mr_X5_at) (as := [.int (3 : Int32)]) dX0_findMiddle_144 ml_X0_89 ok_X5_at okV_X5_at ⟨Nat.le_of_ble_eq_true rfl, Nat.le_of_ble_eq_true rfl⟩ hp.2.1.1 rfl rfl rfl (Nat.le_of_ble_eq_true rfl) t52 ?_
        refine V.lmul dX0_findMiddle_147 ?_
        refine V.lsub dX0_findMiddle_148 ?_
        refine V.lmul dX0_findMiddle_149 ?_
        refine V.topl (fun y54 e55 => ?_)
        have H56 := H53 y54 e55
        refine V.lstore (lo' := [(14, .long y54), (12, .long y41), (10, .long y33), (8, .long y28), (6, .long y18), (5, .int r1), (0, .ref p), (1, .long a), (3, .long b)]) dX0_findMiddle_150 (by decide) rfl ?_
        refine V.lload dX0_findMiddle_152 rfl ?_
        refine V.lload dX0_findMiddle_154 rfl ?_
        refine V.lmul dX0_findMiddle_156 ?_
        refine V.ldc2 kc_X0_106 dX0_findMiddle_157 ?_
        refine V.lload dX0_findMiddle_160 rfl ?_
        refine V.lmul dX0_findMiddle_162 ?_
        refine V.lload dX0_findMiddle_163 rfl ?_
        refine V.lmul dX0_findMiddle_165 ?_
        refine V.lsub dX0_findMiddle_166 ?_
        obtain ⟨r57, I58, L59, t60, H61⟩ := H56
        refine V.cSl (N := mr_X0_squareRoot) (as := [.long ((y41 * y41) - (((4 : Int64) * y33) * y54))]) dX0_findMiddle_167 ml_X0_108 ok_X0_squareRoot okS_X0_squareRoot ⟨Nat.le_of_ble_eq_true rfl, Nat.le_of_ble_eq_true rfl⟩ rfl rfl (Nat.le_of_ble_eq_true rfl) t60 ?_
        refine V.lstore (lo' := [(16, .long r57), (14, .long y54), (12, .long y41), (10, .long y33), (8, .long y28), (6, .long y18), (5, .int r1), (0, .ref p), (1, .long a), (3, .long b)]) dX0_findMiddle_170 (by decide) rfl ?_
        refine V.iconst (v := (-1)) dX0_findMiddle_172 (by decide) ?_
        refine V.istore (lo' := [(18, .int (-1 : Int32)), (16, .long r57), (14, .long y54), (12, .long y41), (10, .long y33), (8, .long y28), (6, .long y18), (5, .int r1), (0, .ref p), (1, .long a), (3, .long b)]) dX0_findMiddle_173 (by decide) rfl ?_
        exact V.los [8, 9, 10, 4, 3, 1, 0] rfl H61
      · have H62 := H30.2 c31
        refine V.lload dX0_findMiddle_54 rfl ?_
        refine V.lneg dX0_findMiddle_56 ?_
        refine V.topl (fun y63 e64 => ?_)
        have H65 := H62 y63 e64
        refine V.lstore (lo' := [(10, .long y63), (8, .long y28), (6, .long y18), (5, .int r1), (0, .ref p), (1, .long a), (3, .long b)]) dX0_findMiddle_57 (by decide) rfl ?_
        refine V.aload_n dX0_findMiddle_59 rfl rfl ?_
        refine V.getf (v := .ref (p + 1)) dX0_findMiddle_60 fl_X0_12 hp.1 (by decide) rfl ?_
        refine V.iconst (v := (3)) dX0_findMiddle_63 (by decide) ?_
        obtain ⟨r66, I67, L68, t69, H70⟩ := H65
        refine V.cVl (N := mr_X5_at) (as := [.int (3 : Int32)]) dX0_findMiddle_64 ml_X0_89 ok_X5_at okV_X5_at ⟨Nat.le_of_ble_eq_true rfl, Nat.le_of_ble_eq_true rfl⟩ hp.2.1.1 rfl rfl rfl (Nat.le_of_ble_eq_true rfl) t69 ?_
        refine V.lstore (lo' := [(12, .long r66), (10, .long y63), (8, .long y28), (6, .long y18), (5, .int r1), (0, .ref p), (1, .long a), (3, .long b)]) dX0_findMiddle_67 (by decide) rfl ?_
        refine V.lload_n dX0_findMiddle_69 rfl rfl ?_
        refine V.lload_n dX0_findMiddle_70 rfl rfl ?_
        refine V.lload dX0_findMiddle_71 rfl ?_
        refine V.lmul dX0_findMiddle_73 ?_
        refine V.lload_n dX0_findMiddle_74 rfl rfl ?_
        refine V.lload dX0_findMiddle_75 rfl ?_
        refine V.lmul dX0_findMiddle_77 ?_
        refine V.ladd dX0_findMiddle_78 ?_
        refine V.aload_n dX0_findMiddle_79 rfl rfl ?_
        refine V.getf (v := .ref (p + 1)) dX0_findMiddle_80 fl_X0_12 hp.1 (by decide) rfl ?_
        refine V.iconst (v := (2)) dX0_findMiddle_83 (by decide) ?_
        obtain ⟨r71, I72, L73, t74, H75⟩ := H70
        refine V.cVl (N := mr_X5_at) (as := [.int (2 : Int32)]) dX0_findMiddle_84 ml_X0_89 ok_X5_at okV_X5_at ⟨Nat.le_of_ble_eq_true rfl, Nat.le_of_ble_eq_true rfl⟩ hp.2.1.1 rfl rfl rfl (Nat.le_of_ble_eq_true rfl) t74 ?_
        refine V.lsub dX0_findMiddle_87 ?_
        refine V.lmul dX0_findMiddle_88 ?_
        refine V.topl (fun y76 e77 => ?_)
        have H78 := H75 y76 e77
        refine V.lstore (lo' := [(14, .long y76), (12, .long r66), (10, .long y63), (8, .long y28), (6, .long y18), (5, .int r1), (0, .ref p), (1, .long a), (3, .long b)]) dX0_findMiddle_89 (by decide) rfl ?_
        refine V.goto (tgt := 152) dX0_findMiddle_91 (by decide) ?_
        refine V.lload dX0_findMiddle_152 rfl ?_
        refine V.lload dX0_findMiddle_154 rfl ?_
        refine V.lmul dX0_findMiddle_156 ?_
        refine V.ldc2 kc_X0_106 dX0_findMiddle_157 ?_
        refine V.lload dX0_findMiddle_160 rfl ?_
        refine V.lmul dX0_findMiddle_162 ?_
        refine V.lload dX0_findMiddle_163 rfl ?_
        refine V.lmul dX0_findMiddle_165 ?_
        refine V.lsub dX0_findMiddle_166 ?_
        obtain ⟨r79, I80, L81, t82, H83⟩ := H78
        refine V.cSl (N := mr_X0_squareRoot) (as := [.long ((r66 * r66) - (((4 : Int64) * y63) * y76))]) dX0_findMiddle_167 ml_X0_108 ok_X0_squareRoot okS_X0_squareRoot ⟨Nat.le_of_ble_eq_true rfl, Nat.le_of_ble_eq_true rfl⟩ rfl rfl (Nat.le_of_ble_eq_true rfl) t82 ?_
        refine V.lstore (lo' := [(16, .long r79), (14, .long y76), (12, .long r66), (10, .long y63), (8, .long y28), (6, .long y18), (5, .int r1), (0, .ref p), (1, .long a), (3, .long b)]) dX0_findMiddle_170 (by decide) rfl ?_
        refine V.iconst (v := (-1)) dX0_findMiddle_172 (by decide) ?_
        refine V.istore (lo' := [(18, .int (-1 : Int32)), (16, .long r79), (14, .long y76), (12, .long r66), (10, .long y63), (8, .long y28), (6, .long y18), (5, .int r1), (0, .ref p), (1, .long a), (3, .long b)]) dX0_findMiddle_173 (by decide) rfl ?_
        exact V.los [8, 9, 10, 4, 3, 1, 0] rfl H83
    · have H84 := H8.2 c9
      refine V.iconst (v := (0)) dX0_findMiddle_21 (by decide) ?_
      exact V.ret (v := some (.int (0 : Int32))) rfl (Or.inl ⟨_, rfl, dX0_findMiddle_22, _, rfl, (by decide)⟩) ⟨Nat.le_refl _, Nat.le_refl _⟩ H84
def hd_X1_multiplyShared_2 (S : List mjD) (RET : Option Value → mjH → Prop) (a0 : Nat) (a1 : Nat) (a2 : Nat) (x3 : Int32) (I : Nat → Nat → Int32) (L : Nat → Nat → Int64) : Prop := V mr_X1_multiplyShared (0, 0) RET 2 [(0, .ref a0), (1, .ref a1), (2, .ref a2), (3, .int x3)] [] (S, I, L) (0, 0)
def hd_X1_multiplyShared_39 (S : List mjD) (RET : Option Value → mjH → Prop) (a0 : Nat) (a1 : Nat) (a2 : Nat) (x3 : Int32) (x4 : Int32) (x5 : Int32) (I : Nat → Nat → Int32) (L : Nat → Nat → Int64) : Prop := V mr_X1_multiplyShared (0, 0) RET 39 [(0, .ref a0), (1, .ref a1), (2, .ref a2), (3, .int x3), (4, .int x4), (5, .int x5)] [] (S, I, L) (0, 0)
set_option maxRecDepth 100000 in
set_option maxHeartbeats 4000000 in
theorem it_X1_multiplyShared_2 {S : List mjD} {RET : Option Value → mjH → Prop} {a0 : Nat} (h0 : is_Factors S a0) {a1 : Nat} (h1 : is_Factors S a1) {a2 : Nat} (h2 : is_Poly S a2) {x3 : Int32} {I : Nat → Nat → Int32} {L : Nat → Nat → Int64} (H0 : (((I a0 2) ≤ x3 → RET none (S, I, L)) ∧ (¬ (I a0 2) ≤ x3 → (((5 : Int32) ≤ x3 → RET none (S, I, L)) ∧ (¬ (5 : Int32) ≤ x3 → (vp_in x3 5) ∧ (vp_in x3 5) ∧ ∃ r12 I13 L14, CTi mr_X1_multiplicityOf [.ref a1, .ref ((a0 + 1) + 2 + 2 * x3.toNatClampNeg)] S I L r12 I13 L14 ∧ ∃ r17 I18 L19, CTi mr_J9_min_7cf53 [.int (I (a0 + 2) x3.toNatClampNeg), .int r12] S I13 L14 r17 I18 L19 ∧ hd_X1_multiplyShared_39 S RET a0 a1 a2 x3 r17 (0 : Int32) I18 L19))))) : hd_X1_multiplyShared_2 S RET a0 a1 a2 x3 I L := by
  unfold hd_X1_multiplyShared_2
  refine V.iload_n dX1_multiplyShared_2 rfl rfl ?_
  refine V.aload_n dX1_multiplyShared_3 rfl rfl ?_
  refine V.getf (v := .int (I a0 2)) dX1_multiplyShared_4 fl_X1_22 h0.1 (by decide) rfl ?_
  refine V.icmp_ge (tgt := 68) dX1_multiplyShared_7 (by decide) (fun c1 => ?_) (fun c1 => ?_)
  · have H2 := H0.1 c1
    exact V.ret rfl (Or.inr (Or.inr (Or.inr ⟨rfl, dX1_multiplyShared_68, rfl⟩))) ⟨Nat.le_refl _, Nat.le_refl _⟩ H2
  · have H3 := H0.2 c1
    refine V.iload_n dX1_multiplyShared_10 rfl rfl ?_
    refine V.iconst (v := (5)) dX1_multiplyShared_11 (by decide) ?_
    refine V.icmp_ge (tgt := 68) dX1_multiplyShared_12 (by decide) (fun c4 => ?_) (fun c4 => ?_)
    · have H5 := H3.1 c4
      exact V.ret rfl (Or.inr (Or.inr (Or.inr ⟨rfl, dX1_multiplyShared_68, rfl⟩))) ⟨Nat.le_refl _, Nat.le_refl _⟩ H5
    · have H6 := H3.2 c4
      refine V.aload_n dX1_multiplyShared_15 rfl rfl ?_
      refine V.getf (v := .ref (a0 + 2)) dX1_multiplyShared_16 fl_X1_17 h0.1 (by decide) rfl ?_
      refine V.iload_n dX1_multiplyShared_19 rfl rfl ?_
      obtain ⟨o7, H8⟩ := H6
      refine V.iald dX1_multiplyShared_20 h0.2.2.1 o7 ?_
      refine V.aload_n dX1_multiplyShared_21 rfl rfl ?_
      refine V.aload_n dX1_multiplyShared_22 rfl rfl ?_
      refine V.getf (v := .ref (a0 + 1)) dX1_multiplyShared_23 fl_X1_11 h0.1 (by decide) rfl ?_
      refine V.iload_n dX1_multiplyShared_26 rfl rfl ?_
      obtain ⟨o9, H10⟩ := H8
      refine V.aald (v := .ref ((a0 + 1) + 2 + 2 * x3.toNatClampNeg)) dX1_multiplyShared_27 h0.2.1 (Or.inl rfl) o9 (mj_gp o9) ?_
      have f11 : is_Poly S ((a0 + 1) + 2 + 2 * x3.toNatClampNeg) := h0.2.2.2 _ (mj_lt o9)
      obtain ⟨r12, I13, L14, t15, H16⟩ := H10
      refine V.cVi (N := mr_X1_multiplicityOf) (as := [.ref ((a0 + 1) + 2 + 2 * x3.toNatClampNeg)]) dX1_multiplyShared_28 ml_X1_49 ok_X1_multiplicityOf okV_X1_multiplicityOf ⟨Nat.le_of_ble_eq_true rfl, Nat.le_of_ble_eq_true rfl⟩ h1.1 rfl rfl rfl (Nat.le_of_ble_eq_true rfl) t15 ?_
      obtain ⟨r17, I18, L19, t20, H21⟩ := H16
      refine V.cSi (N := mr_J9_min_7cf53) (as := [.int (I (a0 + 2) x3.toNatClampNeg), .int r12]) dX1_multiplyShared_31 ml_X1_52 ok_J9_min_7cf53 okS_J9_min_7cf53 ⟨Nat.le_of_ble_eq_true rfl, Nat.le_of_ble_eq_true rfl⟩ rfl rfl (Nat.le_of_ble_eq_true rfl) t20 ?_
      refine V.istore (lo' := [(4, .int r17), (0, .ref a0), (1, .ref a1), (2, .ref a2), (3, .int x3)]) dX1_multiplyShared_34 (by decide) rfl ?_
      refine V.iconst (v := (0)) dX1_multiplyShared_36 (by decide) ?_
      refine V.istore (lo' := [(5, .int (0 : Int32)), (4, .int r17), (0, .ref a0), (1, .ref a1), (2, .ref a2), (3, .int x3)]) dX1_multiplyShared_37 (by decide) rfl ?_
      exact V.los [2, 3, 4, 5, 1, 0] rfl H21
set_option maxRecDepth 100000 in
set_option maxHeartbeats 4000000 in
theorem it_X1_multiplyShared_39 {S : List mjD} {RET : Option Value → mjH → Prop} {a0 : Nat} (h0 : is_Factors S a0) {a1 : Nat} (h1 : is_Factors S a1) {a2 : Nat} (h2 : is_Poly S a2) {x3 : Int32} {x4 : Int32} {x5 : Int32} {I : Nat → Nat → Int32} {L : Nat → Nat → Int64} (H0 : ((x4 ≤ x5 → ∀ y24 : Int32, y24 = x3 + 1 → hd_X1_multiplyShared_2 S RET a0 a1 a2 y24 I L) ∧ (¬ x4 ≤ x5 → (vp_in x3 5) ∧ ∃ I32 L33, CTv mr_X5_multiplyBy [.ref a2, .ref ((a0 + 1) + 2 + 2 * x3.toNatClampNeg)] S I L I32 L33 ∧ ∀ y36 : Int32, y36 = x5 + 1 → hd_X1_multiplyShared_39 S RET a0 a1 a2 x3 x4 y36 I32 L33))) : hd_X1_multiplyShared_39 S RET a0 a1 a2 x3 x4 x5 I L := by
  unfold hd_X1_multiplyShared_39
  refine V.iload dX1_multiplyShared_39 rfl ?_
  refine V.iload dX1_multiplyShared_41 rfl ?_
  refine V.icmp_ge (tgt := 62) dX1_multiplyShared_43 (by decide) (fun c22 => ?_) (fun c22 => ?_)
  · have H23 := H0.1 c22
    obtain ⟨y24, e25⟩ : ∃ y : Int32, y = x3 + 1 := ⟨_, rfl⟩
    have H26 := H23 y24 e25
    refine V.iinc (v := y24) (lo' := [(3, .int y24), (0, .ref a0), (1, .ref a1), (2, .ref a2), (4, .int x4), (5, .int x5)]) dX1_multiplyShared_62 rfl (by rw [e25]; rfl) (by decide) rfl ?_
    refine V.goto (tgt := 2) dX1_multiplyShared_65 (by decide) ?_
    exact V.los [1, 2, 3, 0] rfl H26
  · have H27 := H0.2 c22
    refine V.aload_n dX1_multiplyShared_46 rfl rfl ?_
    refine V.aload_n dX1_multiplyShared_47 rfl rfl ?_
    refine V.getf (v := .ref (a0 + 1)) dX1_multiplyShared_48 fl_X1_11 h0.1 (by decide) rfl ?_
    refine V.iload_n dX1_multiplyShared_51 rfl rfl ?_
    obtain ⟨o28, H29⟩ := H27
    refine V.aald (v := .ref ((a0 + 1) + 2 + 2 * x3.toNatClampNeg)) dX1_multiplyShared_52 h0.2.1 (Or.inl rfl) o28 (mj_gp o28) ?_
    have f30 : is_Poly S ((a0 + 1) + 2 + 2 * x3.toNatClampNeg) := h0.2.2.2 _ (mj_lt o28)
    obtain ⟨I32, L33, t34, H35⟩ := H29
    refine V.cVv (N := mr_X5_multiplyBy) (as := [.ref ((a0 + 1) + 2 + 2 * x3.toNatClampNeg)]) dX1_multiplyShared_53 ml_X1_46 ok_X5_multiplyBy okV_X5_multiplyBy ⟨Nat.le_of_ble_eq_true rfl, Nat.le_of_ble_eq_true rfl⟩ h2.1 rfl rfl rfl (Nat.le_of_ble_eq_true rfl) t34 ?_
    obtain ⟨y36, e37⟩ : ∃ y : Int32, y = x5 + 1 := ⟨_, rfl⟩
    have H38 := H35 y36 e37
    refine V.iinc (v := y36) (lo' := [(5, .int y36), (0, .ref a0), (1, .ref a1), (2, .ref a2), (3, .int x3), (4, .int x4)]) dX1_multiplyShared_56 rfl (by rw [e37]; rfl) (by decide) rfl ?_
    refine V.goto (tgt := 39) dX1_multiplyShared_59 (by decide) ?_
    exact V.los [1, 2, 3, 4, 5, 0] rfl H38
set_option maxRecDepth 100000 in
set_option maxHeartbeats 4000000 in
theorem wp_X1_multiplyShared {S : List mjD} {RET : Option Value → mjH → Prop} {p : Nat} (hp : is_Factors S p) {q : Nat} (hq : is_Factors S q) {r : Nat} (hr : is_Poly S r) {I : Nat → Nat → Int32} {L : Nat → Nat → Int64} (H0 : hd_X1_multiplyShared_2 S RET p q r (0 : Int32) I L) : CT mr_X1_multiplyShared (0, 0) [.ref p, .ref q, .ref r] (S, I, L) RET := by
  refine CT.of (lo := [(0, .ref p), (1, .ref q), (2, .ref r)]) (by decide) (fun _ _ => Nat.le_of_ble_eq_true rfl) (fun _ _ => rfl) rfl ?_
  refine V.iconst (v := (0)) dX1_multiplyShared_0 (by decide) ?_
  refine V.istore_n (lo' := [(3, .int (0 : Int32)), (0, .ref p), (1, .ref q), (2, .ref r)]) dX1_multiplyShared_1 rfl (by decide) rfl ?_
  exact V.los [1, 2, 3, 0] rfl H0
set_option maxRecDepth 100000 in
set_option maxHeartbeats 4000000 in
theorem wp_X6_accept {S : List mjD} {RET : Option Value → mjH → Prop} {p : Nat} (hp : is_Reader S p) {a : Int32} {I : Nat → Nat → Int32} {L : Nat → Nat → Int64} (H0 : ((a = (43 : Int32) → ∃ r3 I4 L5, CTi mr_X6_acceptSign [.ref p, .int a] S I L r3 I4 L5 ∧ (r3 = 0 ∨ r3 = 1) ∧ RET (some (.int r3)) (S, I4, L5)) ∧ (¬ a = (43 : Int32) → ((¬ a = (45 : Int32) → ((¬ a = (120 : Int32) → ((¬ a = (94 : Int32) → ((a < (48 : Int32) → RET (some (.int (0 : Int32))) (S, I, L)) ∧ (¬ a < (48 : Int32) → (((57 : Int32) < a → RET (some (.int (0 : Int32))) (S, I, L)) ∧ (¬ (57 : Int32) < a → ∃ r23 I24 L25, CTi mr_X6_acceptDigit [.ref p, .int (a - (48 : Int32))] S I L r23 I24 L25 ∧ ((r23 = 0 → RET (some (.int (0 : Int32))) (S, I24, L25)) ∧ (¬ r23 = 0 → RET (some (.int (1 : Int32))) (S, I24, L25)))))))) ∧ (a = (94 : Int32) → ∃ r32 I33 L34, CTi mr_X6_acceptCaret [.ref p] S I L r32 I33 L34 ∧ (r32 = 0 ∨ r32 = 1) ∧ RET (some (.int r32)) (S, I33, L34)))) ∧ (a = (120 : Int32) → ∃ r40 I41 L42, CTi mr_X6_acceptLetter [.ref p] S I L r40 I41 L42 ∧ (r40 = 0 ∨ r40 = 1) ∧ RET (some (.int r40)) (S, I41, L42)))) ∧ (a = (45 : Int32) → ∃ r48 I49 L50, CTi mr_X6_acceptSign [.ref p, .int a] S I L r48 I49 L50 ∧ (r48 = 0 ∨ r48 = 1) ∧ RET (some (.int r48)) (S, I49, L50)))))) : CT mr_X6_accept (0, 0) [.ref p, .int a] (S, I, L) RET := by
  refine CT.of (lo := [(0, .ref p), (1, .int a)]) (by decide) (fun _ _ => Nat.le_of_ble_eq_true rfl) (fun _ _ => rfl) rfl ?_
  refine V.iload_n dX6_accept_0 rfl rfl ?_
  refine V.bipush (v := (43)) dX6_accept_1 (by decide) ?_
  refine V.icmp_eq (tgt := 12) dX6_accept_3 (by decide) (fun c1 => ?_) (fun c1 => ?_)
  · have H2 := H0.1 c1
    refine V.aload_n dX6_accept_12 rfl rfl ?_
    refine V.iload_n dX6_accept_13 rfl rfl ?_
    obtain ⟨r3, I4, L5, t6, H7⟩ := H2
    refine V.cVi (N := mr_X6_acceptSign) (as := [.int a]) dX6_accept_14 ml_X6_58 ok_X6_acceptSign okV_X6_acceptSign ⟨Nat.le_of_ble_eq_true rfl, Nat.le_of_ble_eq_true rfl⟩ hp.1 rfl rfl rfl (Nat.le_of_ble_eq_true rfl) t6 ?_
    obtain ⟨o8, H9⟩ := H7
    exact V.ret (v := some (.int r3)) rfl (Or.inl ⟨_, rfl, dX6_accept_17, _, rfl, (mj_zn o8)⟩) ⟨Nat.le_refl _, Nat.le_refl _⟩ H9
  · have H10 := H0.2 c1
    refine V.iload_n dX6_accept_6 rfl rfl ?_
    refine V.bipush (v := (45)) dX6_accept_7 (by decide) ?_
    refine V.icmp_ne (tgt := 18) dX6_accept_9 (by decide) (fun c11 => ?_) (fun c11 => ?_)
    · have H12 := H10.1 c11
      refine V.iload_n dX6_accept_18 rfl rfl ?_
      refine V.bipush (v := (120)) dX6_accept_19 (by decide) ?_
      refine V.icmp_ne (tgt := 29) dX6_accept_21 (by decide) (fun c13 => ?_) (fun c13 => ?_)
      · have H14 := H12.1 c13
        refine V.iload_n dX6_accept_29 rfl rfl ?_
        refine V.bipush (v := (94)) dX6_accept_30 (by decide) ?_
        refine V.icmp_ne (tgt := 40) dX6_accept_32 (by decide) (fun c15 => ?_) (fun c15 => ?_)
        · have H16 := H14.1 c15
          refine V.iload_n dX6_accept_40 rfl rfl ?_
          refine V.bipush (v := (48)) dX6_accept_41 (by decide) ?_
          refine V.icmp_lt (tgt := 67) dX6_accept_43 (by decide) (fun c17 => ?_) (fun c17 => ?_)
          · have H18 := H16.1 c17
            refine V.iconst (v := (0)) dX6_accept_67 (by decide) ?_
            exact V.ret (v := some (.int (0 : Int32))) rfl (Or.inl ⟨_, rfl, dX6_accept_68, _, rfl, (by decide)⟩) ⟨Nat.le_refl _, Nat.le_refl _⟩ H18
          · have H19 := H16.2 c17
            refine V.iload_n dX6_accept_46 rfl rfl ?_
            refine V.bipush (v := (57)) dX6_accept_47 (by decide) ?_
            refine V.icmp_gt (tgt := 67) dX6_accept_49 (by decide) (fun c20 => ?_) (fun c20 => ?_)
            · have H21 := H19.1 c20
              refine V.iconst (v := (0)) dX6_accept_67 (by decide) ?_
              exact V.ret (v := some (.int (0 : Int32))) rfl (Or.inl ⟨_, rfl, dX6_accept_68, _, rfl, (by decide)⟩) ⟨Nat.le_refl _, Nat.le_refl _⟩ H21
            · have H22 := H19.2 c20
              refine V.aload_n dX6_accept_52 rfl rfl ?_
              refine V.iload_n dX6_accept_53 rfl rfl ?_
              refine V.bipush (v := (48)) dX6_accept_54 (by decide) ?_
              refine V.isub dX6_accept_56 ?_
              obtain ⟨r23, I24, L25, t26, H27⟩ := H22
              refine V.cVi (N := mr_X6_acceptDigit) (as := [.int (a - (48 : Int32))]) dX6_accept_57 ml_X6_68 ok_X6_acceptDigit okV_X6_acceptDigit ⟨Nat.le_of_ble_eq_true rfl, Nat.le_of_ble_eq_true rfl⟩ hp.1 rfl rfl rfl (Nat.le_of_ble_eq_true rfl) t26 ?_
              refine V.if_eq (tgt := 67) dX6_accept_60 (by decide) (fun c28 => ?_) (fun c28 => ?_)
              · have H29 := H27.1 c28
                refine V.iconst (v := (0)) dX6_accept_67 (by decide) ?_
                exact V.ret (v := some (.int (0 : Int32))) rfl (Or.inl ⟨_, rfl, dX6_accept_68, _, rfl, (by decide)⟩) ⟨Nat.le_refl _, Nat.le_refl _⟩ H29
              · have H30 := H27.2 c28
                refine V.iconst (v := (1)) dX6_accept_63 (by decide) ?_
                refine V.goto (tgt := 68) dX6_accept_64 (by decide) ?_
                exact V.ret (v := some (.int (1 : Int32))) rfl (Or.inl ⟨_, rfl, dX6_accept_68, _, rfl, (by decide)⟩) ⟨Nat.le_refl _, Nat.le_refl _⟩ H30
        · have H31 := H14.2 c15
          refine V.aload_n dX6_accept_35 rfl rfl ?_
          obtain ⟨r32, I33, L34, t35, H36⟩ := H31
          refine V.cVi (N := mr_X6_acceptCaret) (as := []) dX6_accept_36 ml_X6_65 ok_X6_acceptCaret okV_X6_acceptCaret ⟨Nat.le_of_ble_eq_true rfl, Nat.le_of_ble_eq_true rfl⟩ hp.1 rfl rfl rfl (Nat.le_of_ble_eq_true rfl) t35 ?_
          obtain ⟨o37, H38⟩ := H36
          exact V.ret (v := some (.int r32)) rfl (Or.inl ⟨_, rfl, dX6_accept_39, _, rfl, (mj_zn o37)⟩) ⟨Nat.le_refl _, Nat.le_refl _⟩ H38
      · have H39 := H12.2 c13
        refine V.aload_n dX6_accept_24 rfl rfl ?_
        obtain ⟨r40, I41, L42, t43, H44⟩ := H39
        refine V.cVi (N := mr_X6_acceptLetter) (as := []) dX6_accept_25 ml_X6_61 ok_X6_acceptLetter okV_X6_acceptLetter ⟨Nat.le_of_ble_eq_true rfl, Nat.le_of_ble_eq_true rfl⟩ hp.1 rfl rfl rfl (Nat.le_of_ble_eq_true rfl) t43 ?_
        obtain ⟨o45, H46⟩ := H44
        exact V.ret (v := some (.int r40)) rfl (Or.inl ⟨_, rfl, dX6_accept_28, _, rfl, (mj_zn o45)⟩) ⟨Nat.le_refl _, Nat.le_refl _⟩ H46
    · have H47 := H10.2 c11
      refine V.aload_n dX6_accept_12 rfl rfl ?_
      refine V.iload_n dX6_accept_13 rfl rfl ?_
      obtain ⟨r48, I49, L50, t51, H52⟩ := H47
      refine V.cVi (N := mr_X6_acceptSign) (as := [.int a]) dX6_accept_14 ml_X6_58 ok_X6_acceptSign okV_X6_acceptSign ⟨Nat.le_of_ble_eq_true rfl, Nat.le_of_ble_eq_true rfl⟩ hp.1 rfl rfl rfl (Nat.le_of_ble_eq_true rfl) t51 ?_
      obtain ⟨o53, H54⟩ := H52
      exact V.ret (v := some (.int r48)) rfl (Or.inl ⟨_, rfl, dX6_accept_17, _, rfl, (mj_zn o53)⟩) ⟨Nat.le_refl _, Nat.le_refl _⟩ H54
def hd_X0_takeLinear_6 (S : List mjD) (RET : Option Value → mjH → Prop) (a0 : Nat) (a1 : Nat) (x2 : Int32) (I : Nat → Nat → Int32) (L : Nat → Nat → Int64) : Prop := V mr_X0_takeLinear (0, 0) RET 6 [(0, .ref a0), (1, .ref a1), (2, .int x2)] [] (S, I, L) (0, 0)
def hd_X0_takeLinear_22 (S : List mjD) (RET : Option Value → mjH → Prop) (a0 : Nat) (a1 : Nat) (x2 : Int32) (x3 : Int32) (I : Nat → Nat → Int32) (L : Nat → Nat → Int64) : Prop := V mr_X0_takeLinear (0, 0) RET 22 [(0, .ref a0), (1, .ref a1), (2, .int x2), (3, .int x3)] [] (S, I, L) (0, 0)
def hd_X0_takeLinear_39 (S : List mjD) (RET : Option Value → mjH → Prop) (a0 : Nat) (a1 : Nat) (x2 : Int32) (x3 : Int32) (x4 : Int32) (I : Nat → Nat → Int32) (L : Nat → Nat → Int64) : Prop := V mr_X0_takeLinear (0, 0) RET 39 [(0, .ref a0), (1, .ref a1), (2, .int x2), (3, .int x3), (4, .int x4)] [] (S, I, L) (0, 0)
set_option maxRecDepth 100000 in
set_option maxHeartbeats 4000000 in
theorem it_X0_takeLinear_6 {S : List mjD} {RET : Option Value → mjH → Prop} {a0 : Nat} (h0 : is_Factoring S a0) {a1 : Nat} (h1 : is_Factors S a1) {x2 : Int32} {I : Nat → Nat → Int32} {L : Nat → Nat → Int64} (H0 : (((I a0 5) ≤ x2 → RET none (S, I, L)) ∧ (¬ (I a0 5) ≤ x2 → (((32 : Int32) ≤ x2 → RET none (S, I, L)) ∧ (¬ (32 : Int32) ≤ x2 → hd_X0_takeLinear_22 S RET a0 a1 x2 (0 : Int32) I L))))) : hd_X0_takeLinear_6 S RET a0 a1 x2 I L := by
  unfold hd_X0_takeLinear_6
  refine V.iload_n dX0_takeLinear_6 rfl rfl ?_
  refine V.aload_n dX0_takeLinear_7 rfl rfl ?_
  refine V.getf (v := .int (I a0 5)) dX0_takeLinear_8 fl_X0_79 h0.1 (by decide) rfl ?_
  refine V.icmp_ge (tgt := 117) dX0_takeLinear_11 (by decide) (fun c6 => ?_) (fun c6 => ?_)
  · have H7 := H0.1 c6
    exact V.ret rfl (Or.inr (Or.inr (Or.inr ⟨rfl, dX0_takeLinear_117, rfl⟩))) ⟨Nat.le_refl _, Nat.le_refl _⟩ H7
  · have H8 := H0.2 c6
    refine V.iload_n dX0_takeLinear_14 rfl rfl ?_
    refine V.bipush (v := (32)) dX0_takeLinear_15 (by decide) ?_
    refine V.icmp_ge (tgt := 117) dX0_takeLinear_17 (by decide) (fun c9 => ?_) (fun c9 => ?_)
    · have H10 := H8.1 c9
      exact V.ret rfl (Or.inr (Or.inr (Or.inr ⟨rfl, dX0_takeLinear_117, rfl⟩))) ⟨Nat.le_refl _, Nat.le_refl _⟩ H10
    · have H11 := H8.2 c9
      refine V.iconst (v := (0)) dX0_takeLinear_20 (by decide) ?_
      refine V.istore_n (lo' := [(3, .int (0 : Int32)), (0, .ref a0), (1, .ref a1), (2, .int x2)]) dX0_takeLinear_21 rfl (by decide) rfl ?_
      exact V.los [1, 2, 3, 0] rfl H11
set_option maxRecDepth 100000 in
set_option maxHeartbeats 4000000 in
theorem it_X0_takeLinear_22 {S : List mjD} {RET : Option Value → mjH → Prop} {a0 : Nat} (h0 : is_Factoring S a0) {a1 : Nat} (h1 : is_Factors S a1) {x2 : Int32} {x3 : Int32} {I : Nat → Nat → Int32} {L : Nat → Nat → Int64} (H0 : (((I a0 6) ≤ x3 → ∀ y14 : Int32, y14 = x2 + 1 → hd_X0_takeLinear_6 S RET a0 a1 y14 I L) ∧ (¬ (I a0 6) ≤ x3 → (((32 : Int32) ≤ x3 → ∀ y20 : Int32, y20 = x2 + 1 → hd_X0_takeLinear_6 S RET a0 a1 y20 I L) ∧ (¬ (32 : Int32) ≤ x3 → hd_X0_takeLinear_39 S RET a0 a1 x2 x3 (-1 : Int32) I L))))) : hd_X0_takeLinear_22 S RET a0 a1 x2 x3 I L := by
  unfold hd_X0_takeLinear_22
  refine V.iload_n dX0_takeLinear_22 rfl rfl ?_
  refine V.aload_n dX0_takeLinear_23 rfl rfl ?_
  refine V.getf (v := .int (I a0 6)) dX0_takeLinear_24 fl_X0_82 h0.1 (by decide) rfl ?_
  refine V.icmp_ge (tgt := 111) dX0_takeLinear_27 (by decide) (fun c12 => ?_) (fun c12 => ?_)
  · have H13 := H0.1 c12
    obtain ⟨y14, e15⟩ : ∃ y : Int32, y = x2 + 1 := ⟨_, rfl⟩
    have H16 := H13 y14 e15
    refine V.iinc (v := y14) (lo' := [(2, .int y14), (0, .ref a0), (1, .ref a1), (3, .int x3)]) dX0_takeLinear_111 rfl (by rw [e15]; rfl) (by decide) rfl ?_
    refine V.goto (tgt := 6) dX0_takeLinear_114 (by decide) ?_
    exact V.los [1, 2, 0] rfl H16
  · have H17 := H0.2 c12
    refine V.iload_n dX0_takeLinear_30 rfl rfl ?_
    refine V.bipush (v := (32)) dX0_takeLinear_31 (by decide) ?_
    refine V.icmp_ge (tgt := 111) dX0_takeLinear_33 (by decide) (fun c18 => ?_) (fun c18 => ?_)
    · have H19 := H17.1 c18
      obtain ⟨y20, e21⟩ : ∃ y : Int32, y = x2 + 1 := ⟨_, rfl⟩
      have H22 := H19 y20 e21
      refine V.iinc (v := y20) (lo' := [(2, .int y20), (0, .ref a0), (1, .ref a1), (3, .int x3)]) dX0_takeLinear_111 rfl (by rw [e21]; rfl) (by decide) rfl ?_
      refine V.goto (tgt := 6) dX0_takeLinear_114 (by decide) ?_
      exact V.los [1, 2, 0] rfl H22
    · have H23 := H17.2 c18
      refine V.iconst (v := (-1)) dX0_takeLinear_36 (by decide) ?_
      refine V.istore (lo' := [(4, .int (-1 : Int32)), (0, .ref a0), (1, .ref a1), (2, .int x2), (3, .int x3)]) dX0_takeLinear_37 (by decide) rfl ?_
      exact V.los [1, 2, 3, 4, 0] rfl H23
set_option maxRecDepth 100000 in
set_option maxHeartbeats 4000000 in
theorem it_X0_takeLinear_39 {S : List mjD} {RET : Option Value → mjH → Prop} {a0 : Nat} (h0 : is_Factoring S a0) {a1 : Nat} (h1 : is_Factors S a1) {x2 : Int32} {x3 : Int32} {x4 : Int32} {I : Nat → Nat → Int32} {L : Nat → Nat → Int64} (H0 : (((1 : Int32) < x4 → ∀ y26 : Int32, y26 = x3 + 1 → hd_X0_takeLinear_22 S RET a0 a1 x2 y26 I L) ∧ (¬ (1 : Int32) < x4 → (vp_in x2 32) ∧ (vp_in x3 32) ∧ ∃ r34 I35 L36, CTi mr_X0_isRoot [.ref a0, .long ((I (a0 + 7) x2.toNatClampNeg).toInt64), .long ((x4 * (I (a0 + 8) x3.toNatClampNeg)).toInt64)] S I L r34 I35 L36 ∧ ((r34 = 0 → ∀ y41 : Int32, y41 = x4 + 2 → hd_X0_takeLinear_39 S RET a0 a1 x2 x3 y41 I35 L36) ∧ (¬ r34 = 0 → (vp_in x2 32) ∧ (vp_in x3 32) ∧ ∃ I50 L51, CTv mr_X5_setQuadratic [.ref (a0 + 3), .long (0 : Int64), .long ((I35 (a0 + 7) x2.toNatClampNeg).toInt64), .long ((x4 * (I35 (a0 + 8) x3.toNatClampNeg)).toInt64)] S I35 L36 I50 L51 ∧ ∃ I55 L56, CTv mr_X0_takeOut [.ref a0, .ref a1] S I50 L51 I55 L56 ∧ ∀ y59 : Int32, y59 = x4 + 2 → hd_X0_takeLinear_39 S RET a0 a1 x2 x3 y59 I55 L56))))) : hd_X0_takeLinear_39 S RET a0 a1 x2 x3 x4 I L := by
  unfold hd_X0_takeLinear_39
  refine V.iload dX0_takeLinear_39 rfl ?_
  refine V.iconst (v := (1)) dX0_takeLinear_41 (by decide) ?_
  refine V.icmp_gt (tgt := 105) dX0_takeLinear_42 (by decide) (fun c24 => ?_) (fun c24 => ?_)
  · have H25 := H0.1 c24
    obtain ⟨y26, e27⟩ : ∃ y : Int32, y = x3 + 1 := ⟨_, rfl⟩
    have H28 := H25 y26 e27
    refine V.iinc (v := y26) (lo' := [(3, .int y26), (0, .ref a0), (1, .ref a1), (2, .int x2), (4, .int x4)]) dX0_takeLinear_105 rfl (by rw [e27]; rfl) (by decide) rfl ?_
    refine V.goto (tgt := 22) dX0_takeLinear_108 (by decide) ?_
    exact V.los [1, 2, 3, 0] rfl H28
  · have H29 := H0.2 c24
    refine V.aload_n dX0_takeLinear_45 rfl rfl ?_
    refine V.aload_n dX0_takeLinear_46 rfl rfl ?_
    refine V.getf (v := .ref (a0 + 7)) dX0_takeLinear_47 fl_X0_24 h0.1 (by decide) rfl ?_
    refine V.iload_n dX0_takeLinear_50 rfl rfl ?_
    obtain ⟨o30, H31⟩ := H29
    refine V.iald dX0_takeLinear_51 h0.2.2.2.2.1 o30 ?_
    refine V.i2l dX0_takeLinear_52 ?_
    refine V.iload dX0_takeLinear_53 rfl ?_
    refine V.aload_n dX0_takeLinear_55 rfl rfl ?_
    refine V.getf (v := .ref (a0 + 8)) dX0_takeLinear_56 fl_X0_28 h0.1 (by decide) rfl ?_
    refine V.iload_n dX0_takeLinear_59 rfl rfl ?_
    obtain ⟨o32, H33⟩ := H31
    refine V.iald dX0_takeLinear_60 h0.2.2.2.2.2 o32 ?_
    refine V.imul dX0_takeLinear_61 ?_
    refine V.i2l dX0_takeLinear_62 ?_
    obtain ⟨r34, I35, L36, t37, H38⟩ := H33
    refine V.cVi (N := mr_X0_isRoot) (as := [.long ((I (a0 + 7) x2.toNatClampNeg).toInt64), .long ((x4 * (I (a0 + 8) x3.toNatClampNeg)).toInt64)]) dX0_takeLinear_63 ml_X0_85 ok_X0_isRoot okV_X0_isRoot ⟨Nat.le_of_ble_eq_true rfl, Nat.le_of_ble_eq_true rfl⟩ h0.1 rfl rfl rfl (Nat.le_of_ble_eq_true rfl) t37 ?_
    refine V.if_eq (tgt := 99) dX0_takeLinear_66 (by decide) (fun c39 => ?_) (fun c39 => ?_)
    · have H40 := H38.1 c39
      obtain ⟨y41, e42⟩ : ∃ y : Int32, y = x4 + 2 := ⟨_, rfl⟩
      have H43 := H40 y41 e42
      refine V.iinc (v := y41) (lo' := [(4, .int y41), (0, .ref a0), (1, .ref a1), (2, .int x2), (3, .int x3)]) dX0_takeLinear_99 rfl (by rw [e42]; rfl) (by decide) rfl ?_
      refine V.goto (tgt := 39) dX0_takeLinear_102 (by decide) ?_
      exact V.los [1, 2, 3, 4, 0] rfl H43
    · have H44 := H38.2 c39
      refine V.aload_n dX0_takeLinear_69 rfl rfl ?_
      refine V.getf (v := .ref (a0 + 3)) dX0_takeLinear_70 fl_X0_18 h0.1 (by decide) rfl ?_
      refine V.lconst (v := 0) dX0_takeLinear_73 (by decide) ?_
      refine V.aload_n dX0_takeLinear_74 rfl rfl ?_
      refine V.getf (v := .ref (a0 + 7)) dX0_takeLinear_75 fl_X0_24 h0.1 (by decide) rfl ?_
      refine V.iload_n dX0_takeLinear_78 rfl rfl ?_
      obtain ⟨o45, H46⟩ := H44
      refine V.iald dX0_takeLinear_79 h0.2.2.2.2.1 o45 ?_
      refine V.i2l dX0_takeLinear_80 ?_
      refine V.iload dX0_takeLinear_81 rfl ?_
      refine V.aload_n dX0_takeLinear_83 rfl rfl ?_
      refine V.getf (v := .ref (a0 + 8)) dX0_takeLinear_84 fl_X0_28 h0.1 (by decide) rfl ?_
      refine V.iload_n dX0_takeLinear_87 rfl rfl ?_
      obtain ⟨o47, H48⟩ := H46
      refine V.iald dX0_takeLinear_88 h0.2.2.2.2.2 o47 ?_
      refine V.imul dX0_takeLinear_89 ?_
      refine V.i2l dX0_takeLinear_90 ?_
      obtain ⟨I50, L51, t52, H53⟩ := H48
      refine V.cVv (N := mr_X5_setQuadratic) (as := [.long (0 : Int64), .long ((I35 (a0 + 7) x2.toNatClampNeg).toInt64), .long ((x4 * (I35 (a0 + 8) x3.toNatClampNeg)).toInt64)]) dX0_takeLinear_91 ml_X0_49 ok_X5_setQuadratic okV_X5_setQuadratic ⟨Nat.le_of_ble_eq_true rfl, Nat.le_of_ble_eq_true rfl⟩ h0.2.2.1.1 rfl rfl rfl (Nat.le_of_ble_eq_true rfl) t52 ?_
      refine V.aload_n dX0_takeLinear_94 rfl rfl ?_
      refine V.aload_n dX0_takeLinear_95 rfl rfl ?_
      obtain ⟨I55, L56, t57, H58⟩ := H53
      refine V.cVv (N := mr_X0_takeOut) (as := [.ref a1]) dX0_takeLinear_96 ml_X0_53 ok_X0_takeOut okV_X0_takeOut ⟨Nat.le_of_ble_eq_true rfl, Nat.le_of_ble_eq_true rfl⟩ h0.1 rfl rfl rfl (Nat.le_of_ble_eq_true rfl) t57 ?_
      obtain ⟨y59, e60⟩ : ∃ y : Int32, y = x4 + 2 := ⟨_, rfl⟩
      have H61 := H58 y59 e60
      refine V.iinc (v := y59) (lo' := [(4, .int y59), (0, .ref a0), (1, .ref a1), (2, .int x2), (3, .int x3)]) dX0_takeLinear_99 rfl (by rw [e60]; rfl) (by decide) rfl ?_
      refine V.goto (tgt := 39) dX0_takeLinear_102 (by decide) ?_
      exact V.los [1, 2, 3, 4, 0] rfl H61
set_option maxRecDepth 100000 in
set_option maxHeartbeats 4000000 in
theorem wp_X0_takeLinear {S : List mjD} {RET : Option Value → mjH → Prop} {p : Nat} (hp : is_Factoring S p) {q : Nat} (hq : is_Factors S q) {I : Nat → Nat → Int32} {L : Nat → Nat → Int64} (H0 : ∃ I2 L3, CTv mr_X0_listDivisors [.ref p] S I L I2 L3 ∧ hd_X0_takeLinear_6 S RET p q (0 : Int32) I2 L3) : CT mr_X0_takeLinear (0, 0) [.ref p, .ref q] (S, I, L) RET := by
  refine CT.of (lo := [(0, .ref p), (1, .ref q)]) (by decide) (fun _ _ => Nat.le_of_ble_eq_true rfl) (fun _ _ => rfl) rfl ?_
  refine V.aload_n dX0_takeLinear_0 rfl rfl ?_
  obtain ⟨I2, L3, t4, H5⟩ := H0
  refine V.cVv (N := mr_X0_listDivisors) (as := []) dX0_takeLinear_1 ml_X0_76 ok_X0_listDivisors okV_X0_listDivisors ⟨Nat.le_of_ble_eq_true rfl, Nat.le_of_ble_eq_true rfl⟩ hp.1 rfl rfl rfl (Nat.le_of_ble_eq_true rfl) t4 ?_
  refine V.iconst (v := (0)) dX0_takeLinear_4 (by decide) ?_
  refine V.istore_n (lo' := [(2, .int (0 : Int32)), (0, .ref p), (1, .ref q)]) dX0_takeLinear_5 rfl (by decide) rfl ?_
  exact V.los [1, 2, 0] rfl H5
def hd_X0_findQuadratic_6 (S : List mjD) (RET : Option Value → mjH → Prop) (a0 : Nat) (x1 : Int32) (I : Nat → Nat → Int32) (L : Nat → Nat → Int64) : Prop := V mr_X0_findQuadratic (0, 0) RET 6 [(0, .ref a0), (1, .int x1)] [] (S, I, L) (0, 0)
def hd_X0_findQuadratic_22 (S : List mjD) (RET : Option Value → mjH → Prop) (a0 : Nat) (x1 : Int32) (x2 : Int32) (I : Nat → Nat → Int32) (L : Nat → Nat → Int64) : Prop := V mr_X0_findQuadratic (0, 0) RET 22 [(0, .ref a0), (1, .int x1), (2, .int x2)] [] (S, I, L) (0, 0)
set_option maxRecDepth 100000 in
set_option maxHeartbeats 4000000 in
theorem it_X0_findQuadratic_6 {S : List mjD} {RET : Option Value → mjH → Prop} {a0 : Nat} (h0 : is_Factoring S a0) {x1 : Int32} {I : Nat → Nat → Int32} {L : Nat → Nat → Int64} (H0 : (((I a0 5) ≤ x1 → RET (some (.int (0 : Int32))) (S, I, L)) ∧ (¬ (I a0 5) ≤ x1 → (((32 : Int32) ≤ x1 → RET (some (.int (0 : Int32))) (S, I, L)) ∧ (¬ (32 : Int32) ≤ x1 → hd_X0_findQuadratic_22 S RET a0 x1 (0 : Int32) I L))))) : hd_X0_findQuadratic_6 S RET a0 x1 I L := by
  unfold hd_X0_findQuadratic_6
  refine V.iload_n dX0_findQuadratic_6 rfl rfl ?_
  refine V.aload_n dX0_findQuadratic_7 rfl rfl ?_
  refine V.getf (v := .int (I a0 5)) dX0_findQuadratic_8 fl_X0_79 h0.1 (by decide) rfl ?_
  refine V.icmp_ge (tgt := 93) dX0_findQuadratic_11 (by decide) (fun c6 => ?_) (fun c6 => ?_)
  · have H7 := H0.1 c6
    refine V.iconst (v := (0)) dX0_findQuadratic_93 (by decide) ?_
    exact V.ret (v := some (.int (0 : Int32))) rfl (Or.inl ⟨_, rfl, dX0_findQuadratic_94, _, rfl, (by decide)⟩) ⟨Nat.le_refl _, Nat.le_refl _⟩ H7
  · have H8 := H0.2 c6
    refine V.iload_n dX0_findQuadratic_14 rfl rfl ?_
    refine V.bipush (v := (32)) dX0_findQuadratic_15 (by decide) ?_
    refine V.icmp_ge (tgt := 93) dX0_findQuadratic_17 (by decide) (fun c9 => ?_) (fun c9 => ?_)
    · have H10 := H8.1 c9
      refine V.iconst (v := (0)) dX0_findQuadratic_93 (by decide) ?_
      exact V.ret (v := some (.int (0 : Int32))) rfl (Or.inl ⟨_, rfl, dX0_findQuadratic_94, _, rfl, (by decide)⟩) ⟨Nat.le_refl _, Nat.le_refl _⟩ H10
    · have H11 := H8.2 c9
      refine V.iconst (v := (0)) dX0_findQuadratic_20 (by decide) ?_
      refine V.istore_n (lo' := [(2, .int (0 : Int32)), (0, .ref a0), (1, .int x1)]) dX0_findQuadratic_21 rfl (by decide) rfl ?_
      exact V.los [1, 2, 0] rfl H11
set_option maxRecDepth 100000 in
set_option maxHeartbeats 4000000 in
theorem it_X0_findQuadratic_22 {S : List mjD} {RET : Option Value → mjH → Prop} {a0 : Nat} (h0 : is_Factoring S a0) {x1 : Int32} {x2 : Int32} {I : Nat → Nat → Int32} {L : Nat → Nat → Int64} (H0 : (((I a0 6) ≤ x2 → ∀ y14 : Int32, y14 = x1 + 1 → hd_X0_findQuadratic_6 S RET a0 y14 I L) ∧ (¬ (I a0 6) ≤ x2 → (((32 : Int32) ≤ x2 → ∀ y20 : Int32, y20 = x1 + 1 → hd_X0_findQuadratic_6 S RET a0 y20 I L) ∧ (¬ (32 : Int32) ≤ x2 → (vp_in x1 32) ∧ (vp_in x2 32) ∧ ∃ r28 I29 L30, CTi mr_X0_findMiddle [.ref a0, .long ((I (a0 + 7) x1.toNatClampNeg).toInt64), .long ((I (a0 + 8) x2.toNatClampNeg).toInt64)] S I L r28 I29 L30 ∧ ((¬ r28 = 0 → RET (some (.int (1 : Int32))) (S, I29, L30)) ∧ (r28 = 0 → (vp_in x1 32) ∧ (vp_in x2 32) ∧ ∃ r40 I41 L42, CTi mr_X0_findMiddle [.ref a0, .long ((I29 (a0 + 7) x1.toNatClampNeg).toInt64), .long ((-(I29 (a0 + 8) x2.toNatClampNeg)).toInt64)] S I29 L30 r40 I41 L42 ∧ ((r40 = 0 → ∀ y47 : Int32, y47 = x2 + 1 → hd_X0_findQuadratic_22 S RET a0 x1 y47 I41 L42) ∧ (¬ r40 = 0 → RET (some (.int (1 : Int32))) (S, I41, L42)))))))))) : hd_X0_findQuadratic_22 S RET a0 x1 x2 I L := by
  unfold hd_X0_findQuadratic_22
  refine V.iload_n dX0_findQuadratic_22 rfl rfl ?_
  refine V.aload_n dX0_findQuadratic_23 rfl rfl ?_
  refine V.getf (v := .int (I a0 6)) dX0_findQuadratic_24 fl_X0_82 h0.1 (by decide) rfl ?_
  refine V.icmp_ge (tgt := 87) dX0_findQuadratic_27 (by decide) (fun c12 => ?_) (fun c12 => ?_)
  · have H13 := H0.1 c12
    obtain ⟨y14, e15⟩ : ∃ y : Int32, y = x1 + 1 := ⟨_, rfl⟩
    have H16 := H13 y14 e15
    refine V.iinc (v := y14) (lo' := [(1, .int y14), (0, .ref a0), (2, .int x2)]) dX0_findQuadratic_87 rfl (by rw [e15]; rfl) (by decide) rfl ?_
    refine V.goto (tgt := 6) dX0_findQuadratic_90 (by decide) ?_
    exact V.los [1, 0] rfl H16
  · have H17 := H0.2 c12
    refine V.iload_n dX0_findQuadratic_30 rfl rfl ?_
    refine V.bipush (v := (32)) dX0_findQuadratic_31 (by decide) ?_
    refine V.icmp_ge (tgt := 87) dX0_findQuadratic_33 (by decide) (fun c18 => ?_) (fun c18 => ?_)
    · have H19 := H17.1 c18
      obtain ⟨y20, e21⟩ : ∃ y : Int32, y = x1 + 1 := ⟨_, rfl⟩
      have H22 := H19 y20 e21
      refine V.iinc (v := y20) (lo' := [(1, .int y20), (0, .ref a0), (2, .int x2)]) dX0_findQuadratic_87 rfl (by rw [e21]; rfl) (by decide) rfl ?_
      refine V.goto (tgt := 6) dX0_findQuadratic_90 (by decide) ?_
      exact V.los [1, 0] rfl H22
    · have H23 := H17.2 c18
      refine V.aload_n dX0_findQuadratic_36 rfl rfl ?_
      refine V.aload_n dX0_findQuadratic_37 rfl rfl ?_
      refine V.getf (v := .ref (a0 + 7)) dX0_findQuadratic_38 fl_X0_24 h0.1 (by decide) rfl ?_
      refine V.iload_n dX0_findQuadratic_41 rfl rfl ?_
      obtain ⟨o24, H25⟩ := H23
      refine V.iald dX0_findQuadratic_42 h0.2.2.2.2.1 o24 ?_
      refine V.i2l dX0_findQuadratic_43 ?_
      refine V.aload_n dX0_findQuadratic_44 rfl rfl ?_
      refine V.getf (v := .ref (a0 + 8)) dX0_findQuadratic_45 fl_X0_28 h0.1 (by decide) rfl ?_
      refine V.iload_n dX0_findQuadratic_48 rfl rfl ?_
      obtain ⟨o26, H27⟩ := H25
      refine V.iald dX0_findQuadratic_49 h0.2.2.2.2.2 o26 ?_
      refine V.i2l dX0_findQuadratic_50 ?_
      obtain ⟨r28, I29, L30, t31, H32⟩ := H27
      refine V.cVi (N := mr_X0_findMiddle) (as := [.long ((I (a0 + 7) x1.toNatClampNeg).toInt64), .long ((I (a0 + 8) x2.toNatClampNeg).toInt64)]) dX0_findQuadratic_51 ml_X0_103 ok_X0_findMiddle okV_X0_findMiddle ⟨Nat.le_of_ble_eq_true rfl, Nat.le_of_ble_eq_true rfl⟩ h0.1 rfl rfl rfl (Nat.le_of_ble_eq_true rfl) t31 ?_
      refine V.if_ne (tgt := 79) dX0_findQuadratic_54 (by decide) (fun c33 => ?_) (fun c33 => ?_)
      · have H34 := H32.1 c33
        refine V.iconst (v := (1)) dX0_findQuadratic_79 (by decide) ?_
        exact V.ret (v := some (.int (1 : Int32))) rfl (Or.inl ⟨_, rfl, dX0_findQuadratic_80, _, rfl, (by decide)⟩) ⟨Nat.le_refl _, Nat.le_refl _⟩ H34
      · have H35 := H32.2 c33
        refine V.aload_n dX0_findQuadratic_57 rfl rfl ?_
        refine V.aload_n dX0_findQuadratic_58 rfl rfl ?_
        refine V.getf (v := .ref (a0 + 7)) dX0_findQuadratic_59 fl_X0_24 h0.1 (by decide) rfl ?_
        refine V.iload_n dX0_findQuadratic_62 rfl rfl ?_
        obtain ⟨o36, H37⟩ := H35
        refine V.iald dX0_findQuadratic_63 h0.2.2.2.2.1 o36 ?_
        refine V.i2l dX0_findQuadratic_64 ?_
        refine V.aload_n dX0_findQuadratic_65 rfl rfl ?_
        refine V.getf (v := .ref (a0 + 8)) dX0_findQuadratic_66 fl_X0_28 h0.1 (by decide) rfl ?_
        refine V.iload_n dX0_findQuadratic_69 rfl rfl ?_
        obtain ⟨o38, H39⟩ := H37
        refine V.iald dX0_findQuadratic_70 h0.2.2.2.2.2 o38 ?_
        refine V.ineg dX0_findQuadratic_71 ?_
        refine V.i2l dX0_findQuadratic_72 ?_
        obtain ⟨r40, I41, L42, t43, H44⟩ := H39
        refine V.cVi (N := mr_X0_findMiddle) (as := [.long ((I29 (a0 + 7) x1.toNatClampNeg).toInt64), .long ((-(I29 (a0 + 8) x2.toNatClampNeg)).toInt64)]) dX0_findQuadratic_73 ml_X0_103 ok_X0_findMiddle okV_X0_findMiddle ⟨Nat.le_of_ble_eq_true rfl, Nat.le_of_ble_eq_true rfl⟩ h0.1 rfl rfl rfl (Nat.le_of_ble_eq_true rfl) t43 ?_
        refine V.if_eq (tgt := 81) dX0_findQuadratic_76 (by decide) (fun c45 => ?_) (fun c45 => ?_)
        · have H46 := H44.1 c45
          obtain ⟨y47, e48⟩ : ∃ y : Int32, y = x2 + 1 := ⟨_, rfl⟩
          have H49 := H46 y47 e48
          refine V.iinc (v := y47) (lo' := [(2, .int y47), (0, .ref a0), (1, .int x1)]) dX0_findQuadratic_81 rfl (by rw [e48]; rfl) (by decide) rfl ?_
          refine V.goto (tgt := 22) dX0_findQuadratic_84 (by decide) ?_
          exact V.los [1, 2, 0] rfl H49
        · have H50 := H44.2 c45
          refine V.iconst (v := (1)) dX0_findQuadratic_79 (by decide) ?_
          exact V.ret (v := some (.int (1 : Int32))) rfl (Or.inl ⟨_, rfl, dX0_findQuadratic_80, _, rfl, (by decide)⟩) ⟨Nat.le_refl _, Nat.le_refl _⟩ H50
set_option maxRecDepth 100000 in
set_option maxHeartbeats 4000000 in
theorem wp_X0_findQuadratic {S : List mjD} {RET : Option Value → mjH → Prop} {p : Nat} (hp : is_Factoring S p) {I : Nat → Nat → Int32} {L : Nat → Nat → Int64} (H0 : ∃ I2 L3, CTv mr_X0_listDivisors [.ref p] S I L I2 L3 ∧ hd_X0_findQuadratic_6 S RET p (0 : Int32) I2 L3) : CT mr_X0_findQuadratic (0, 0) [.ref p] (S, I, L) RET := by
  refine CT.of (lo := [(0, .ref p)]) (by decide) (fun _ _ => Nat.le_of_ble_eq_true rfl) (fun _ _ => rfl) rfl ?_
  refine V.aload_n dX0_findQuadratic_0 rfl rfl ?_
  obtain ⟨I2, L3, t4, H5⟩ := H0
  refine V.cVv (N := mr_X0_listDivisors) (as := []) dX0_findQuadratic_1 ml_X0_76 ok_X0_listDivisors okV_X0_listDivisors ⟨Nat.le_of_ble_eq_true rfl, Nat.le_of_ble_eq_true rfl⟩ hp.1 rfl rfl rfl (Nat.le_of_ble_eq_true rfl) t4 ?_
  refine V.iconst (v := (0)) dX0_findQuadratic_4 (by decide) ?_
  refine V.istore_n (lo' := [(1, .int (0 : Int32)), (0, .ref p)]) dX0_findQuadratic_5 rfl (by decide) rfl ?_
  exact V.los [1, 0] rfl H5
def hd_X6_read_26 (S : List mjD) (RET : Option Value → mjH → Prop) (a0 : Nat) (a1 : Nat) (x2 : Int32) (I : Nat → Nat → Int32) (L : Nat → Nat → Int64) : Prop := V mr_X6_read (0, 0) RET 26 [(0, .ref a0), (1, .ref a1), (2, .int x2)] [] (S, I, L) (0, 0)
set_option maxRecDepth 100000 in
set_option maxHeartbeats 4000000 in
theorem it_X6_read_26 {S : List mjD} {RET : Option Value → mjH → Prop} {a0 : Nat} (h0 : is_Reader S a0) {a1 : Nat} (h1 : is_Line S a1) {x2 : Int32} {I : Nat → Nat → Int32} {L : Nat → Nat → Int64} (H0 : (((I a1 1) ≤ x2 → RET (some (.int (I a1 1))) (S, I, L)) ∧ (¬ (I a1 1) ≤ x2 → ∃ r9 I10 L11, CTi mr_X2_codeAt [.ref a1, .int x2] S I L r9 I10 L11 ∧ ∃ r14 I15 L16, CTi mr_X6_accept [.ref a0, .int r9] S I10 L11 r14 I15 L16 ∧ ((¬ r14 = 0 → ∀ y21 : Int32, y21 = x2 + 1 → hd_X6_read_26 S RET a0 a1 y21 I15 L16) ∧ (r14 = 0 → RET (some (.int x2)) (S, I15, L16)))))) : hd_X6_read_26 S RET a0 a1 x2 I L := by
  unfold hd_X6_read_26
  refine V.iload_n dX6_read_26 rfl rfl ?_
  refine V.aload_n dX6_read_27 rfl rfl ?_
  refine V.getf (v := .int (I a1 1)) dX6_read_28 fl_X6_32 h1.1 (by decide) rfl ?_
  refine V.icmp_ge (tgt := 54) dX6_read_31 (by decide) (fun c6 => ?_) (fun c6 => ?_)
  · have H7 := H0.1 c6
    refine V.aload_n dX6_read_54 rfl rfl ?_
    refine V.getf (v := .int (I a1 1)) dX6_read_55 fl_X6_32 h1.1 (by decide) rfl ?_
    exact V.ret (v := some (.int (I a1 1))) rfl (Or.inl ⟨_, rfl, dX6_read_58, _, rfl, rfl⟩) ⟨Nat.le_refl _, Nat.le_refl _⟩ H7
  · have H8 := H0.2 c6
    refine V.aload_n dX6_read_34 rfl rfl ?_
    refine V.aload_n dX6_read_35 rfl rfl ?_
    refine V.iload_n dX6_read_36 rfl rfl ?_
    obtain ⟨r9, I10, L11, t12, H13⟩ := H8
    refine V.cVi (N := mr_X2_codeAt) (as := [.int x2]) dX6_read_37 ml_X6_37 ok_X2_codeAt okV_X2_codeAt ⟨Nat.le_of_ble_eq_true rfl, Nat.le_of_ble_eq_true rfl⟩ h1.1 rfl rfl rfl (Nat.le_of_ble_eq_true rfl) t12 ?_
    obtain ⟨r14, I15, L16, t17, H18⟩ := H13
    refine V.cVi (N := mr_X6_accept) (as := [.int r9]) dX6_read_40 ml_X6_41 ok_X6_accept okV_X6_accept ⟨Nat.le_of_ble_eq_true rfl, Nat.le_of_ble_eq_true rfl⟩ h0.1 rfl rfl rfl (Nat.le_of_ble_eq_true rfl) t17 ?_
    refine V.if_ne (tgt := 48) dX6_read_43 (by decide) (fun c19 => ?_) (fun c19 => ?_)
    · have H20 := H18.1 c19
      obtain ⟨y21, e22⟩ : ∃ y : Int32, y = x2 + 1 := ⟨_, rfl⟩
      have H23 := H20 y21 e22
      refine V.iinc (v := y21) (lo' := [(2, .int y21), (0, .ref a0), (1, .ref a1)]) dX6_read_48 rfl (by rw [e22]; rfl) (by decide) rfl ?_
      refine V.goto (tgt := 26) dX6_read_51 (by decide) ?_
      exact V.los [1, 2, 0] rfl H23
    · have H24 := H18.2 c19
      refine V.iload_n dX6_read_46 rfl rfl ?_
      exact V.ret (v := some (.int x2)) rfl (Or.inl ⟨_, rfl, dX6_read_47, _, rfl, rfl⟩) ⟨Nat.le_refl _, Nat.le_refl _⟩ H24
set_option maxRecDepth 100000 in
set_option maxHeartbeats 4000000 in
theorem wp_X6_read {S : List mjD} {RET : Option Value → mjH → Prop} {p : Nat} (hp : is_Reader S p) {q : Nat} (hq : is_Line S q) {I : Nat → Nat → Int32} {L : Nat → Nat → Int64} (H0 : ∃ I2 L3, CTv mr_X5_setConstant [.ref (p + 1), .long (0 : Int64)] S I L I2 L3 ∧ hd_X6_read_26 S RET p q (0 : Int32) (mj_up (mj_up (mj_up I2 p 1 (0 : Int32)) p 2 (1 : Int32)) p 5 (6 : Int32)) L3) : CT mr_X6_read (0, 0) [.ref p, .ref q] (S, I, L) RET := by
  refine CT.of (lo := [(0, .ref p), (1, .ref q)]) (by decide) (fun _ _ => Nat.le_of_ble_eq_true rfl) (fun _ _ => rfl) rfl ?_
  refine V.aload_n dX6_read_0 rfl rfl ?_
  refine V.getf (v := .ref (p + 1)) dX6_read_1 fl_X6_12 hp.1 (by decide) rfl ?_
  refine V.lconst (v := 0) dX6_read_4 (by decide) ?_
  obtain ⟨I2, L3, t4, H5⟩ := H0
  refine V.cVv (N := mr_X5_setConstant) (as := [.long (0 : Int64)]) dX6_read_5 ml_X6_18 ok_X5_setConstant okV_X5_setConstant ⟨Nat.le_of_ble_eq_true rfl, Nat.le_of_ble_eq_true rfl⟩ hp.2.1 rfl rfl rfl (Nat.le_of_ble_eq_true rfl) t4 ?_
  refine V.aload_n dX6_read_8 rfl rfl ?_
  refine V.iconst (v := (0)) dX6_read_9 (by decide) ?_
  refine V.puti dX6_read_10 fl_X6_22 fp_X6_22 (Or.inl rfl) hp.1 (by decide) rfl rfl ?_
  refine V.aload_n dX6_read_13 rfl rfl ?_
  refine V.iconst (v := (1)) dX6_read_14 (by decide) ?_
  refine V.puti dX6_read_15 fl_X6_26 fp_X6_26 (Or.inl rfl) hp.1 (by decide) rfl rfl ?_
  refine V.aload_n dX6_read_18 rfl rfl ?_
  refine V.bipush (v := (6)) dX6_read_19 (by decide) ?_
  refine V.puti dX6_read_21 fl_X6_29 fp_X6_29 (Or.inl rfl) hp.1 (by decide) rfl rfl ?_
  refine V.iconst (v := (0)) dX6_read_24 (by decide) ?_
  refine V.istore_n (lo' := [(2, .int (0 : Int32)), (0, .ref p), (1, .ref q)]) dX6_read_25 rfl (by decide) rfl ?_
  exact V.los [1, 2, 0] rfl H5
set_option maxRecDepth 100000 in
set_option maxHeartbeats 4000000 in
theorem wp_X0_run {S : List mjD} {RET : Option Value → mjH → Prop} {p : Nat} (hp : is_Factoring S p) {q : Nat} (hq : is_Poly S q) {r : Nat} (hr : is_Factors S r) {I : Nat → Nat → Int32} {L : Nat → Nat → Int64} (H0 : ∃ I2 L3, CTv mr_X5_copyFrom [.ref (p + 1), .ref q] S (mj_up I r 2 (0 : Int32)) L I2 L3 ∧ ∃ r6 I7 L8, CTl mr_X5_content [.ref q] S I2 L3 r6 I7 L8 ∧ ∃ I12 L13, CTv mr_X5_divideBy [.ref (p + 1), .long r6] S I7 L8 I12 L13 ∧ ∃ I17 L18, CTv mr_X5_setQuadratic [.ref (p + 3), .long (0 : Int64), .long (1 : Int64), .long (0 : Int64)] S I12 L13 I17 L18 ∧ ∃ I22 L23, CTv mr_X0_takeOut [.ref p, .ref r] S I17 L18 I22 L23 ∧ ∃ I27 L28, CTv mr_X0_takeLinear [.ref p, .ref r] S I22 L23 I27 L28 ∧ ∃ r31 I32 L33, CTi mr_X5_degree [.ref (p + 1)] S I27 L28 r31 I32 L33 ∧ ((r31 < (4 : Int32) → ∃ r38 I39 L40, CTi mr_X5_degree [.ref (p + 1)] S I32 L33 r38 I39 L40 ∧ ((r38 < (1 : Int32) → RET none (S, I39, L40)) ∧ (¬ r38 < (1 : Int32) → ∃ I47 L48, CTv mr_X1_insert [.ref r, .ref (p + 1), .int (1 : Int32)] S I39 L40 I47 L48 ∧ RET none (S, I47, L48)))) ∧ (¬ r31 < (4 : Int32) → ∃ r52 I53 L54, CTi mr_X0_findQuadratic [.ref p] S I32 L33 r52 I53 L54 ∧ ((r52 = 0 → ∃ r59 I60 L61, CTi mr_X5_degree [.ref (p + 1)] S I53 L54 r59 I60 L61 ∧ ((r59 < (1 : Int32) → RET none (S, I60, L61)) ∧ (¬ r59 < (1 : Int32) → ∃ I68 L69, CTv mr_X1_insert [.ref r, .ref (p + 1), .int (1 : Int32)] S I60 L61 I68 L69 ∧ RET none (S, I68, L69)))) ∧ (¬ r52 = 0 → ∃ I74 L75, CTv mr_X0_takeOut [.ref p, .ref r] S I53 L54 I74 L75 ∧ ∃ r78 I79 L80, CTi mr_X5_degree [.ref (p + 1)] S I74 L75 r78 I79 L80 ∧ ((r78 < (1 : Int32) → RET none (S, I79, L80)) ∧ (¬ r78 < (1 : Int32) → ∃ I87 L88, CTv mr_X1_insert [.ref r, .ref (p + 1), .int (1 : Int32)] S I79 L80 I87 L88 ∧ RET none (S, I87, L88)))))))) : CT mr_X0_run (0, 0) [.ref p, .ref q, .ref r] (S, I, L) RET := by
  refine CT.of (lo := [(0, .ref p), (1, .ref q), (2, .ref r)]) (by decide) (fun _ _ => Nat.le_of_ble_eq_true rfl) (fun _ _ => rfl) rfl ?_
  refine V.aload_n dX0_run_0 rfl rfl ?_
  refine V.iconst (v := (0)) dX0_run_1 (by decide) ?_
  refine V.puti dX0_run_2 fl_X0_31 fp_X0_31 (Or.inl rfl) hr.1 (by decide) rfl rfl ?_
  refine V.aload_n dX0_run_5 rfl rfl ?_
  refine V.getf (v := .ref (p + 1)) dX0_run_6 fl_X0_12 hp.1 (by decide) rfl ?_
  refine V.aload_n dX0_run_9 rfl rfl ?_
  obtain ⟨I2, L3, t4, H5⟩ := H0
  refine V.cVv (N := mr_X5_copyFrom) (as := [.ref q]) dX0_run_10 ml_X0_37 ok_X5_copyFrom okV_X5_copyFrom ⟨Nat.le_of_ble_eq_true rfl, Nat.le_of_ble_eq_true rfl⟩ hp.2.1.1 rfl rfl rfl (Nat.le_of_ble_eq_true rfl) t4 ?_
  refine V.aload_n dX0_run_13 rfl rfl ?_
  refine V.getf (v := .ref (p + 1)) dX0_run_14 fl_X0_12 hp.1 (by decide) rfl ?_
  refine V.aload_n dX0_run_17 rfl rfl ?_
  obtain ⟨r6, I7, L8, t9, H10⟩ := H5
  refine V.cVl (N := mr_X5_content) (as := []) dX0_run_18 ml_X0_41 ok_X5_content okV_X5_content ⟨Nat.le_of_ble_eq_true rfl, Nat.le_of_ble_eq_true rfl⟩ hq.1 rfl rfl rfl (Nat.le_of_ble_eq_true rfl) t9 ?_
  obtain ⟨I12, L13, t14, H15⟩ := H10
  refine V.cVv (N := mr_X5_divideBy) (as := [.long r6]) dX0_run_21 ml_X0_45 ok_X5_divideBy okV_X5_divideBy ⟨Nat.le_of_ble_eq_true rfl, Nat.le_of_ble_eq_true rfl⟩ hp.2.1.1 rfl rfl rfl (Nat.le_of_ble_eq_true rfl) t14 ?_
  refine V.aload_n dX0_run_24 rfl rfl ?_
  refine V.getf (v := .ref (p + 3)) dX0_run_25 fl_X0_18 hp.1 (by decide) rfl ?_
  refine V.lconst (v := 0) dX0_run_28 (by decide) ?_
  refine V.lconst (v := 1) dX0_run_29 (by decide) ?_
  refine V.lconst (v := 0) dX0_run_30 (by decide) ?_
  obtain ⟨I17, L18, t19, H20⟩ := H15
  refine V.cVv (N := mr_X5_setQuadratic) (as := [.long (0 : Int64), .long (1 : Int64), .long (0 : Int64)]) dX0_run_31 ml_X0_49 ok_X5_setQuadratic okV_X5_setQuadratic ⟨Nat.le_of_ble_eq_true rfl, Nat.le_of_ble_eq_true rfl⟩ hp.2.2.1.1 rfl rfl rfl (Nat.le_of_ble_eq_true rfl) t19 ?_
  refine V.aload_n dX0_run_34 rfl rfl ?_
  refine V.aload_n dX0_run_35 rfl rfl ?_
  obtain ⟨I22, L23, t24, H25⟩ := H20
  refine V.cVv (N := mr_X0_takeOut) (as := [.ref r]) dX0_run_36 ml_X0_53 ok_X0_takeOut okV_X0_takeOut ⟨Nat.le_of_ble_eq_true rfl, Nat.le_of_ble_eq_true rfl⟩ hp.1 rfl rfl rfl (Nat.le_of_ble_eq_true rfl) t24 ?_
  refine V.aload_n dX0_run_39 rfl rfl ?_
  refine V.aload_n dX0_run_40 rfl rfl ?_
  obtain ⟨I27, L28, t29, H30⟩ := H25
  refine V.cVv (N := mr_X0_takeLinear) (as := [.ref r]) dX0_run_41 ml_X0_57 ok_X0_takeLinear okV_X0_takeLinear ⟨Nat.le_of_ble_eq_true rfl, Nat.le_of_ble_eq_true rfl⟩ hp.1 rfl rfl rfl (Nat.le_of_ble_eq_true rfl) t29 ?_
  refine V.aload_n dX0_run_44 rfl rfl ?_
  refine V.getf (v := .ref (p + 1)) dX0_run_45 fl_X0_12 hp.1 (by decide) rfl ?_
  obtain ⟨r31, I32, L33, t34, H35⟩ := H30
  refine V.cVi (N := mr_X5_degree) (as := []) dX0_run_48 ml_X0_60 ok_X5_degree okV_X5_degree ⟨Nat.le_of_ble_eq_true rfl, Nat.le_of_ble_eq_true rfl⟩ hp.2.1.1 rfl rfl rfl (Nat.le_of_ble_eq_true rfl) t34 ?_
  refine V.iconst (v := (4)) dX0_run_51 (by decide) ?_
  refine V.icmp_lt (tgt := 67) dX0_run_52 (by decide) (fun c36 => ?_) (fun c36 => ?_)
  · have H37 := H35.1 c36
    refine V.aload_n dX0_run_67 rfl rfl ?_
    refine V.getf (v := .ref (p + 1)) dX0_run_68 fl_X0_12 hp.1 (by decide) rfl ?_
    obtain ⟨r38, I39, L40, t41, H42⟩ := H37
    refine V.cVi (N := mr_X5_degree) (as := []) dX0_run_71 ml_X0_60 ok_X5_degree okV_X5_degree ⟨Nat.le_of_ble_eq_true rfl, Nat.le_of_ble_eq_true rfl⟩ hp.2.1.1 rfl rfl rfl (Nat.le_of_ble_eq_true rfl) t41 ?_
    refine V.iconst (v := (1)) dX0_run_74 (by decide) ?_
    refine V.icmp_lt (tgt := 87) dX0_run_75 (by decide) (fun c43 => ?_) (fun c43 => ?_)
    · have H44 := H42.1 c43
      exact V.ret rfl (Or.inr (Or.inr (Or.inr ⟨rfl, dX0_run_87, rfl⟩))) ⟨Nat.le_refl _, Nat.le_refl _⟩ H44
    · have H45 := H42.2 c43
      refine V.aload_n dX0_run_78 rfl rfl ?_
      refine V.aload_n dX0_run_79 rfl rfl ?_
      refine V.getf (v := .ref (p + 1)) dX0_run_80 fl_X0_12 hp.1 (by decide) rfl ?_
      refine V.iconst (v := (1)) dX0_run_83 (by decide) ?_
      obtain ⟨I47, L48, t49, H50⟩ := H45
      refine V.cVv (N := mr_X1_insert) (as := [.ref (p + 1), .int (1 : Int32)]) dX0_run_84 ml_X0_68 ok_X1_insert okV_X1_insert ⟨Nat.le_of_ble_eq_true rfl, Nat.le_of_ble_eq_true rfl⟩ hr.1 rfl rfl rfl (Nat.le_of_ble_eq_true rfl) t49 ?_
      exact V.ret rfl (Or.inr (Or.inr (Or.inr ⟨rfl, dX0_run_87, rfl⟩))) ⟨Nat.le_refl _, Nat.le_refl _⟩ H50
  · have H51 := H35.2 c36
    refine V.aload_n dX0_run_55 rfl rfl ?_
    obtain ⟨r52, I53, L54, t55, H56⟩ := H51
    refine V.cVi (N := mr_X0_findQuadratic) (as := []) dX0_run_56 ml_X0_64 ok_X0_findQuadratic okV_X0_findQuadratic ⟨Nat.le_of_ble_eq_true rfl, Nat.le_of_ble_eq_true rfl⟩ hp.1 rfl rfl rfl (Nat.le_of_ble_eq_true rfl) t55 ?_
    refine V.if_eq (tgt := 67) dX0_run_59 (by decide) (fun c57 => ?_) (fun c57 => ?_)
    · have H58 := H56.1 c57
      refine V.aload_n dX0_run_67 rfl rfl ?_
      refine V.getf (v := .ref (p + 1)) dX0_run_68 fl_X0_12 hp.1 (by decide) rfl ?_
      obtain ⟨r59, I60, L61, t62, H63⟩ := H58
      refine V.cVi (N := mr_X5_degree) (as := []) dX0_run_71 ml_X0_60 ok_X5_degree okV_X5_degree ⟨Nat.le_of_ble_eq_true rfl, Nat.le_of_ble_eq_true rfl⟩ hp.2.1.1 rfl rfl rfl (Nat.le_of_ble_eq_true rfl) t62 ?_
      refine V.iconst (v := (1)) dX0_run_74 (by decide) ?_
      refine V.icmp_lt (tgt := 87) dX0_run_75 (by decide) (fun c64 => ?_) (fun c64 => ?_)
      · have H65 := H63.1 c64
        exact V.ret rfl (Or.inr (Or.inr (Or.inr ⟨rfl, dX0_run_87, rfl⟩))) ⟨Nat.le_refl _, Nat.le_refl _⟩ H65
      · have H66 := H63.2 c64
        refine V.aload_n dX0_run_78 rfl rfl ?_
        refine V.aload_n dX0_run_79 rfl rfl ?_
        refine V.getf (v := .ref (p + 1)) dX0_run_80 fl_X0_12 hp.1 (by decide) rfl ?_
        refine V.iconst (v := (1)) dX0_run_83 (by decide) ?_
        obtain ⟨I68, L69, t70, H71⟩ := H66
        refine V.cVv (N := mr_X1_insert) (as := [.ref (p + 1), .int (1 : Int32)]) dX0_run_84 ml_X0_68 ok_X1_insert okV_X1_insert ⟨Nat.le_of_ble_eq_true rfl, Nat.le_of_ble_eq_true rfl⟩ hr.1 rfl rfl rfl (Nat.le_of_ble_eq_true rfl) t70 ?_
        exact V.ret rfl (Or.inr (Or.inr (Or.inr ⟨rfl, dX0_run_87, rfl⟩))) ⟨Nat.le_refl _, Nat.le_refl _⟩ H71
    · have H72 := H56.2 c57
      refine V.aload_n dX0_run_62 rfl rfl ?_
      refine V.aload_n dX0_run_63 rfl rfl ?_
      obtain ⟨I74, L75, t76, H77⟩ := H72
      refine V.cVv (N := mr_X0_takeOut) (as := [.ref r]) dX0_run_64 ml_X0_53 ok_X0_takeOut okV_X0_takeOut ⟨Nat.le_of_ble_eq_true rfl, Nat.le_of_ble_eq_true rfl⟩ hp.1 rfl rfl rfl (Nat.le_of_ble_eq_true rfl) t76 ?_
      refine V.aload_n dX0_run_67 rfl rfl ?_
      refine V.getf (v := .ref (p + 1)) dX0_run_68 fl_X0_12 hp.1 (by decide) rfl ?_
      obtain ⟨r78, I79, L80, t81, H82⟩ := H77
      refine V.cVi (N := mr_X5_degree) (as := []) dX0_run_71 ml_X0_60 ok_X5_degree okV_X5_degree ⟨Nat.le_of_ble_eq_true rfl, Nat.le_of_ble_eq_true rfl⟩ hp.2.1.1 rfl rfl rfl (Nat.le_of_ble_eq_true rfl) t81 ?_
      refine V.iconst (v := (1)) dX0_run_74 (by decide) ?_
      refine V.icmp_lt (tgt := 87) dX0_run_75 (by decide) (fun c83 => ?_) (fun c83 => ?_)
      · have H84 := H82.1 c83
        exact V.ret rfl (Or.inr (Or.inr (Or.inr ⟨rfl, dX0_run_87, rfl⟩))) ⟨Nat.le_refl _, Nat.le_refl _⟩ H84
      · have H85 := H82.2 c83
        refine V.aload_n dX0_run_78 rfl rfl ?_
        refine V.aload_n dX0_run_79 rfl rfl ?_
        refine V.getf (v := .ref (p + 1)) dX0_run_80 fl_X0_12 hp.1 (by decide) rfl ?_
        refine V.iconst (v := (1)) dX0_run_83 (by decide) ?_
        obtain ⟨I87, L88, t89, H90⟩ := H85
        refine V.cVv (N := mr_X1_insert) (as := [.ref (p + 1), .int (1 : Int32)]) dX0_run_84 ml_X0_68 ok_X1_insert okV_X1_insert ⟨Nat.le_of_ble_eq_true rfl, Nat.le_of_ble_eq_true rfl⟩ hr.1 rfl rfl rfl (Nat.le_of_ble_eq_true rfl) t89 ?_
        exact V.ret rfl (Or.inr (Or.inr (Or.inr ⟨rfl, dX0_run_87, rfl⟩))) ⟨Nat.le_refl _, Nat.le_refl _⟩ H90
